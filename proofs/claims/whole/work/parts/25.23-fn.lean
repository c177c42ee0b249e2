theorem kw96 : Jvm.Cond.fieldLink "PlantKeeper$Names" (56 : Nat) "PlantKeeper$Names" "size" "I" ∈ zk_BW := zk_inT 96 (by decide +kernel) rfl
theorem kw124 : Jvm.Cond.fieldLink "PlantKeeper$Tokens" (37 : Nat) "PlantKeeper$Tokens" "size" "I" ∈ zk_BW := zk_inT 124 (by decide +kernel) rfl
theorem kw127 : Jvm.Cond.fieldLink "PlantKeeper$Tokens" (26 : Nat) "PlantKeeper$Tokens" "text" "[B" ∈ zk_BW := zk_inT 127 (by decide +kernel) rfl
theorem kw128 : Jvm.Cond.fieldLink "PlantKeeper$Tokens" (30 : Nat) "PlantKeeper$Tokens" "length" "I" ∈ zk_BW := zk_inT 128 (by decide +kernel) rfl
theorem kw129 : Jvm.Cond.fieldLink "PlantKeeper$Tokens" (34 : Nat) "PlantKeeper$Tokens" "at" "I" ∈ zk_BW := zk_inT 129 (by decide +kernel) rfl
theorem kw234 : Jvm.Cond.fieldLink "PlantKeeper$Machine" (78 : Nat) "PlantKeeper$Plan" "kind" "[I" ∈ zk_BW := zk_inT 234 (by decide +kernel) rfl
theorem kw291 : Jvm.Cond.fieldLink "PlantKeeper$Machine" (75 : Nat) "PlantKeeper$Plan" "blocks" "I" ∈ zk_BW := zk_inT 291 (by decide +kernel) rfl
theorem kw686 : Jvm.Cond.instanceMethod ({ cls := "PlantKeeper$Machine", name := "forget", desc := "()V" } : Jvm.MethodName) ∈ zk_BW := zk_inT 686 (by decide +kernel) rfl
theorem kw687 : Jvm.Cond.selects "PlantKeeper$Machine" ({ cls := "PlantKeeper$Machine", name := "forget", desc := "()V" } : Jvm.MethodName) ({ cls := "PlantKeeper$Machine", name := "forget", desc := "()V" } : Jvm.MethodName) ∈ zk_BW := zk_inT 687 (by decide +kernel) rfl
theorem kw688 : Jvm.Cond.code ({ cls := "PlantKeeper$Machine", name := "forget", desc := "()V" } : Jvm.MethodName) prog_6_method_2_code (1 : Nat) (Option.none : Option FieldType) ∈ zk_BW := zk_inT 688 (by decide +kernel) rfl
theorem kw690 : Jvm.Cond.instanceMethod ({ cls := "PlantKeeper$Names", name := "forget", desc := "()V" } : Jvm.MethodName) ∈ zk_BW := zk_inT 690 (by decide +kernel) rfl
theorem kw691 : Jvm.Cond.selects "PlantKeeper$Names" ({ cls := "PlantKeeper$Names", name := "forget", desc := "()V" } : Jvm.MethodName) ({ cls := "PlantKeeper$Names", name := "forget", desc := "()V" } : Jvm.MethodName) ∈ zk_BW := zk_inT 691 (by decide +kernel) rfl
theorem kw692 : Jvm.Cond.code ({ cls := "PlantKeeper$Names", name := "forget", desc := "()V" } : Jvm.MethodName) prog_7_method_3_code (3 : Nat) (Option.none : Option FieldType) ∈ zk_BW := zk_inT 692 (by decide +kernel) rfl
theorem kw693 : Jvm.Cond.methodLink "PlantKeeper$Names" (50 : Nat) ({ cls := "java/util/Arrays", name := "fill", desc := "([II)V" } : Jvm.MethodName) ∈ zk_BW := zk_inT 693 (by decide +kernel) rfl
theorem kw696 : Jvm.Cond.methodLink "PlantKeeper$Names" (60 : Nat) ({ cls := "PlantKeeper$Names", name := "numberOf", desc := "([BII)I" } : Jvm.MethodName) ∈ zk_BW := zk_inT 696 (by decide +kernel) rfl
theorem kw697 : Jvm.Cond.instanceMethod ({ cls := "PlantKeeper$Names", name := "numberOf", desc := "([BII)I" } : Jvm.MethodName) ∈ zk_BW := zk_inT 697 (by decide +kernel) rfl
theorem kw698 : Jvm.Cond.selects "PlantKeeper$Names" ({ cls := "PlantKeeper$Names", name := "numberOf", desc := "([BII)I" } : Jvm.MethodName) ({ cls := "PlantKeeper$Names", name := "numberOf", desc := "([BII)I" } : Jvm.MethodName) ∈ zk_BW := zk_inT 698 (by decide +kernel) rfl
theorem kw699 : Jvm.Cond.code ({ cls := "PlantKeeper$Names", name := "numberOf", desc := "([BII)I" } : Jvm.MethodName) prog_7_method_9_code (7 : Nat) (Option.some FieldType.int) ∈ zk_BW := zk_inT 699 (by decide +kernel) rfl
theorem kw700 : Jvm.Cond.methodLink "PlantKeeper$Names" (75 : Nat) ({ cls := "PlantKeeper$Names", name := "find", desc := "([BII)I" } : Jvm.MethodName) ∈ zk_BW := zk_inT 700 (by decide +kernel) rfl
theorem kw720 : Jvm.Cond.instanceMethod ({ cls := "PlantKeeper$Tokens", name := "skipBlanks", desc := "()Z" } : Jvm.MethodName) ∈ zk_BW := zk_inT 720 (by decide +kernel) rfl
theorem kw721 : Jvm.Cond.code ({ cls := "PlantKeeper$Tokens", name := "skipBlanks", desc := "()Z" } : Jvm.MethodName) prog_11_method_7_code (4 : Nat) (Option.some FieldType.boolean) ∈ zk_BW := zk_inT 721 (by decide +kernel) rfl
theorem kw722 : Jvm.Cond.methodLink "PlantKeeper$Tokens" (51 : Nat) ({ cls := "PlantKeeper$Tokens", name := "peek", desc := "(I)I" } : Jvm.MethodName) ∈ zk_BW := zk_inT 722 (by decide +kernel) rfl
theorem kw724 : Jvm.Cond.instanceMethod ({ cls := "PlantKeeper$Tokens", name := "peek", desc := "(I)I" } : Jvm.MethodName) ∈ zk_BW := zk_inT 724 (by decide +kernel) rfl
theorem kw725 : Jvm.Cond.code ({ cls := "PlantKeeper$Tokens", name := "peek", desc := "(I)I" } : Jvm.MethodName) prog_11_method_3_code (2 : Nat) (Option.some FieldType.int) ∈ zk_BW := zk_inT 725 (by decide +kernel) rfl
theorem kw726 : Jvm.Cond.methodLink "PlantKeeper$Tokens" (55 : Nat) ({ cls := "PlantKeeper$Tokens", name := "remarkEnd", desc := "(I)I" } : Jvm.MethodName) ∈ zk_BW := zk_inT 726 (by decide +kernel) rfl
theorem kw728 : Jvm.Cond.instanceMethod ({ cls := "PlantKeeper$Tokens", name := "remarkEnd", desc := "(I)I" } : Jvm.MethodName) ∈ zk_BW := zk_inT 728 (by decide +kernel) rfl
theorem kw729 : Jvm.Cond.code ({ cls := "PlantKeeper$Tokens", name := "remarkEnd", desc := "(I)I" } : Jvm.MethodName) prog_11_method_8_code (3 : Nat) (Option.some FieldType.int) ∈ zk_BW := zk_inT 729 (by decide +kernel) rfl
theorem kw730 : Jvm.Cond.methodLink "PlantKeeper$Tokens" (58 : Nat) ({ cls := "PlantKeeper$Tokens", name := "refuse", desc := "(I)Z" } : Jvm.MethodName) ∈ zk_BW := zk_inT 730 (by decide +kernel) rfl
theorem kw732 : Jvm.Cond.instanceMethod ({ cls := "PlantKeeper$Tokens", name := "refuse", desc := "(I)Z" } : Jvm.MethodName) ∈ zk_BW := zk_inT 732 (by decide +kernel) rfl
theorem kw733 : Jvm.Cond.code ({ cls := "PlantKeeper$Tokens", name := "refuse", desc := "(I)Z" } : Jvm.MethodName) prog_11_method_6_code (2 : Nat) (Option.some FieldType.boolean) ∈ zk_BW := zk_inT 733 (by decide +kernel) rfl
theorem kw734 : Jvm.Cond.methodLink "PlantKeeper$Tokens" (47 : Nat) ({ cls := "PlantKeeper$Tokens", name := "add", desc := "(II)V" } : Jvm.MethodName) ∈ zk_BW := zk_inT 734 (by decide +kernel) rfl
theorem kw736 : Jvm.Cond.instanceMethod ({ cls := "PlantKeeper$Tokens", name := "add", desc := "(II)V" } : Jvm.MethodName) ∈ zk_BW := zk_inT 736 (by decide +kernel) rfl
theorem kw737 : Jvm.Cond.code ({ cls := "PlantKeeper$Tokens", name := "add", desc := "(II)V" } : Jvm.MethodName) prog_11_method_4_code (3 : Nat) (Option.none : Option FieldType) ∈ zk_BW := zk_inT 737 (by decide +kernel) rfl
theorem kw748 : Jvm.Cond.instanceMethod ({ cls := "PlantKeeper$Tokens", name := "digitsEnd", desc := "(II)I" } : Jvm.MethodName) ∈ zk_BW := zk_inT 748 (by decide +kernel) rfl
theorem kw749 : Jvm.Cond.code ({ cls := "PlantKeeper$Tokens", name := "digitsEnd", desc := "(II)I" } : Jvm.MethodName) prog_11_method_12_code (4 : Nat) (Option.some FieldType.int) ∈ zk_BW := zk_inT 749 (by decide +kernel) rfl
theorem kw750 : Jvm.Cond.methodLink "PlantKeeper$Tokens" (96 : Nat) ({ cls := "PlantKeeper$Tokens", name := "digit", desc := "(I)I" } : Jvm.MethodName) ∈ zk_BW := zk_inT 750 (by decide +kernel) rfl
theorem kw751 : Jvm.Cond.static ({ cls := "PlantKeeper$Tokens", name := "digit", desc := "(I)I" } : Jvm.MethodName) ∈ zk_BW := zk_inT 751 (by decide +kernel) rfl
theorem kw752 : Jvm.Cond.code ({ cls := "PlantKeeper$Tokens", name := "digit", desc := "(I)I" } : Jvm.MethodName) prog_11_method_11_code (2 : Nat) (Option.some FieldType.int) ∈ zk_BW := zk_inT 752 (by decide +kernel) rfl
theorem kw753 : Jvm.Cond.methodLink "PlantKeeper$Tokens" (93 : Nat) ({ cls := "PlantKeeper$Names", name := "great", desc := "(I)I" } : Jvm.MethodName) ∈ zk_BW := zk_inT 753 (by decide +kernel) rfl
theorem kw756 : Jvm.Cond.instanceMethod ({ cls := "PlantKeeper$Tokens", name := "meaning", desc := "(III)J" } : Jvm.MethodName) ∈ zk_BW := zk_inT 756 (by decide +kernel) rfl
theorem kw757 : Jvm.Cond.code ({ cls := "PlantKeeper$Tokens", name := "meaning", desc := "(III)J" } : Jvm.MethodName) prog_11_method_13_code (7 : Nat) (Option.some FieldType.long) ∈ zk_BW := zk_inT 757 (by decide +kernel) rfl
theorem kw758 : Jvm.Cond.constantLong "PlantKeeper$Tokens" (99 : Nat) (8589934592 : Int64) ∈ zk_BW := zk_inT 758 (by decide +kernel) rfl
theorem kw759 : Jvm.Cond.methodLink "PlantKeeper$Tokens" (101 : Nat) ({ cls := "java/lang/Math", name := "min", desc := "(JJ)J" } : Jvm.MethodName) ∈ zk_BW := zk_inT 759 (by decide +kernel) rfl
theorem kw764 : Jvm.Cond.instanceMethod ({ cls := "PlantKeeper$Tokens", name := "finishNumber", desc := "(IJ)Z" } : Jvm.MethodName) ∈ zk_BW := zk_inT 764 (by decide +kernel) rfl
theorem kw765 : Jvm.Cond.code ({ cls := "PlantKeeper$Tokens", name := "finishNumber", desc := "(IJ)Z" } : Jvm.MethodName) prog_11_method_16_code (4 : Nat) (Option.some FieldType.boolean) ∈ zk_BW := zk_inT 765 (by decide +kernel) rfl
theorem kw766 : Jvm.Cond.methodLink "PlantKeeper$Tokens" (82 : Nat) ({ cls := "PlantKeeper$Names", name := "isPart", desc := "(I)Z" } : Jvm.MethodName) ∈ zk_BW := zk_inT 766 (by decide +kernel) rfl
theorem kw772 : Jvm.Cond.constantLong "PlantKeeper$Tokens" (125 : Nat) (2147483647 : Int64) ∈ zk_BW := zk_inT 772 (by decide +kernel) rfl
theorem kw773 : Jvm.Cond.methodLink "PlantKeeper$Tokens" (89 : Nat) ({ cls := "PlantKeeper$Tokens", name := "finish", desc := "(III)Z" } : Jvm.MethodName) ∈ zk_BW := zk_inT 773 (by decide +kernel) rfl
theorem kw775 : Jvm.Cond.instanceMethod ({ cls := "PlantKeeper$Tokens", name := "finish", desc := "(III)Z" } : Jvm.MethodName) ∈ zk_BW := zk_inT 775 (by decide +kernel) rfl
theorem kw776 : Jvm.Cond.code ({ cls := "PlantKeeper$Tokens", name := "finish", desc := "(III)Z" } : Jvm.MethodName) prog_11_method_5_code (4 : Nat) (Option.some FieldType.boolean) ∈ zk_BW := zk_inT 776 (by decide +kernel) rfl
theorem kw782 : Jvm.Cond.instanceMethod ({ cls := "PlantKeeper$Tokens", name := "readName", desc := "()Z" } : Jvm.MethodName) ∈ zk_BW := zk_inT 782 (by decide +kernel) rfl
theorem kw783 : Jvm.Cond.code ({ cls := "PlantKeeper$Tokens", name := "readName", desc := "()Z" } : Jvm.MethodName) prog_11_method_10_code (4 : Nat) (Option.some FieldType.boolean) ∈ zk_BW := zk_inT 783 (by decide +kernel) rfl
theorem kw784 : Jvm.Cond.methodLink "PlantKeeper$Tokens" (85 : Nat) ({ cls := "PlantKeeper$Names", name := "numberOf", desc := "([BII)I" } : Jvm.MethodName) ∈ zk_BW := zk_inT 784 (by decide +kernel) rfl
theorem kw1445 : Jvm.Cond.instanceMethod ({ cls := "PlantKeeper$Machine", name := "beginAnew", desc := "()V" } : Jvm.MethodName) ∈ zk_BW := zk_inT 1445 (by decide +kernel) rfl
theorem kw1446 : Jvm.Cond.selects "PlantKeeper$Machine" ({ cls := "PlantKeeper$Machine", name := "beginAnew", desc := "()V" } : Jvm.MethodName) ({ cls := "PlantKeeper$Machine", name := "beginAnew", desc := "()V" } : Jvm.MethodName) ∈ zk_BW := zk_inT 1446 (by decide +kernel) rfl
theorem kw1447 : Jvm.Cond.code ({ cls := "PlantKeeper$Machine", name := "beginAnew", desc := "()V" } : Jvm.MethodName) prog_6_method_4_code (2 : Nat) (Option.none : Option FieldType) ∈ zk_BW := zk_inT 1447 (by decide +kernel) rfl
theorem kw1448 : Jvm.Cond.methodLink "PlantKeeper$Machine" (67 : Nat) ({ cls := "java/util/Arrays", name := "fill", desc := "([II)V" } : Jvm.MethodName) ∈ zk_BW := zk_inT 1448 (by decide +kernel) rfl
theorem kw1470 : Jvm.Cond.instanceMethod ({ cls := "PlantKeeper", name := "restart", desc := "()I" } : Jvm.MethodName) ∈ zk_BW := zk_inT 1470 (by decide +kernel) rfl
theorem kw1471 : Jvm.Cond.selects "PlantKeeper" ({ cls := "PlantKeeper", name := "restart", desc := "()I" } : Jvm.MethodName) ({ cls := "PlantKeeper", name := "restart", desc := "()I" } : Jvm.MethodName) ∈ zk_BW := zk_inT 1471 (by decide +kernel) rfl
theorem kw1472 : Jvm.Cond.code ({ cls := "PlantKeeper", name := "restart", desc := "()I" } : Jvm.MethodName) prog_1_method_8_code (1 : Nat) (Option.some FieldType.int) ∈ zk_BW := zk_inT 1472 (by decide +kernel) rfl
theorem kw1473 : Jvm.Cond.methodLink "PlantKeeper" (173 : Nat) ({ cls := "PlantKeeper$Machine", name := "beginAnew", desc := "()V" } : Jvm.MethodName) ∈ zk_BW := zk_inT 1473 (by decide +kernel) rfl
abbrev kc_Mc_beginAnew : ByteArray := prog_6_method_4_code
def km_Mc_beginAnew : zk_MT := (⟨"PlantKeeper$Machine", "beginAnew", "()V"⟩, kc_Mc_beginAnew, 2, none, 0)
theorem ku_Mc_beginAnew : zk_My km_Mc_beginAnew := ⟨kw1447, kw15, by decide, by decide, by decide, by decide +kernel⟩
theorem kv_Mc_beginAnew : zk_Mv km_Mc_beginAnew := ⟨kw1445, kw1446⟩
abbrev kc_Mc_forget : ByteArray := prog_6_method_2_code
def km_Mc_forget : zk_MT := (⟨"PlantKeeper$Machine", "forget", "()V"⟩, kc_Mc_forget, 1, none, 0)
theorem ku_Mc_forget : zk_My km_Mc_forget := ⟨kw688, kw15, by decide, by decide, by decide, by decide +kernel⟩
theorem kv_Mc_forget : zk_Mv km_Mc_forget := ⟨kw686, kw687⟩
abbrev kc_Nm_forget : ByteArray := prog_7_method_3_code
def km_Nm_forget : zk_MT := (⟨"PlantKeeper$Names", "forget", "()V"⟩, kc_Nm_forget, 3, none, 0)
theorem ku_Nm_forget : zk_My km_Nm_forget := ⟨kw692, kw2, by decide, by decide, by decide, by decide +kernel⟩
theorem kv_Nm_forget : zk_Mv km_Nm_forget := ⟨kw690, kw691⟩
abbrev kc_Nm_numberOf : ByteArray := prog_7_method_9_code
def km_Nm_numberOf : zk_MT := (⟨"PlantKeeper$Names", "numberOf", "([BII)I"⟩, kc_Nm_numberOf, 7, some .int, 3)
theorem ku_Nm_numberOf : zk_My km_Nm_numberOf := ⟨kw699, kw2, by decide, by decide, by decide, by decide +kernel⟩
theorem kv_Nm_numberOf : zk_Mv km_Nm_numberOf := ⟨kw697, kw698⟩
abbrev kc_Pk_restart : ByteArray := prog_1_method_8_code
def km_Pk_restart : zk_MT := (⟨"PlantKeeper", "restart", "()I"⟩, kc_Pk_restart, 1, some .int, 0)
theorem ku_Pk_restart : zk_My km_Pk_restart := ⟨kw1472, kw1, by decide, by decide, by decide, by decide +kernel⟩
theorem kv_Pk_restart : zk_Mv km_Pk_restart := ⟨kw1470, kw1471⟩
abbrev kc_Tk_add : ByteArray := prog_11_method_4_code
def km_Tk_add : zk_MT := (⟨"PlantKeeper$Tokens", "add", "(II)V"⟩, kc_Tk_add, 3, none, 2)
theorem ku_Tk_add : zk_My km_Tk_add := ⟨kw737, kw7, by decide, by decide, by decide, by decide +kernel⟩
theorem kv_Tk_add : zk_Mv km_Tk_add := ⟨kw736, zk_inS 6 (q := (⟨"PlantKeeper$Tokens", "add", "(II)V"⟩, 8)) (by decide +kernel)⟩
abbrev kc_Tk_digit : ByteArray := prog_11_method_11_code
def km_Tk_digit : zk_MT := (⟨"PlantKeeper$Tokens", "digit", "(I)I"⟩, kc_Tk_digit, 2, some .int, 1)
theorem ku_Tk_digit : zk_My km_Tk_digit := ⟨kw752, kw7, by decide, by decide, by decide, by decide +kernel⟩
theorem ks_Tk_digit : Cond.static km_Tk_digit.1 ∈ zk_BW := kw751
abbrev kc_Tk_digitsEnd : ByteArray := prog_11_method_12_code
def km_Tk_digitsEnd : zk_MT := (⟨"PlantKeeper$Tokens", "digitsEnd", "(II)I"⟩, kc_Tk_digitsEnd, 4, some .int, 2)
theorem ku_Tk_digitsEnd : zk_My km_Tk_digitsEnd := ⟨kw749, kw7, by decide, by decide, by decide, by decide +kernel⟩
theorem kv_Tk_digitsEnd : zk_Mv km_Tk_digitsEnd := ⟨kw748, zk_inS 9 (q := (⟨"PlantKeeper$Tokens", "digitsEnd", "(II)I"⟩, 8)) (by decide +kernel)⟩
abbrev kc_Tk_finish : ByteArray := prog_11_method_5_code
def km_Tk_finish : zk_MT := (⟨"PlantKeeper$Tokens", "finish", "(III)Z"⟩, kc_Tk_finish, 4, some .boolean, 3)
theorem ku_Tk_finish : zk_My km_Tk_finish := ⟨kw776, kw7, by decide, by decide, by decide, by decide +kernel⟩
theorem kv_Tk_finish : zk_Mv km_Tk_finish := ⟨kw775, zk_inS 12 (q := (⟨"PlantKeeper$Tokens", "finish", "(III)Z"⟩, 8)) (by decide +kernel)⟩
abbrev kc_Tk_finishNumber : ByteArray := prog_11_method_16_code
def km_Tk_finishNumber : zk_MT := (⟨"PlantKeeper$Tokens", "finishNumber", "(IJ)Z"⟩, kc_Tk_finishNumber, 4, some .boolean, 2)
theorem ku_Tk_finishNumber : zk_My km_Tk_finishNumber := ⟨kw765, kw7, by decide, by decide, by decide, by decide +kernel⟩
theorem kv_Tk_finishNumber : zk_Mv km_Tk_finishNumber := ⟨kw764, zk_inS 11 (q := (⟨"PlantKeeper$Tokens", "finishNumber", "(IJ)Z"⟩, 8)) (by decide +kernel)⟩
abbrev kc_Tk_meaning : ByteArray := prog_11_method_13_code
def km_Tk_meaning : zk_MT := (⟨"PlantKeeper$Tokens", "meaning", "(III)J"⟩, kc_Tk_meaning, 7, some .long, 3)
theorem ku_Tk_meaning : zk_My km_Tk_meaning := ⟨kw757, kw7, by decide, by decide, by decide, by decide +kernel⟩
theorem kv_Tk_meaning : zk_Mv km_Tk_meaning := ⟨kw756, zk_inS 10 (q := (⟨"PlantKeeper$Tokens", "meaning", "(III)J"⟩, 8)) (by decide +kernel)⟩
abbrev kc_Tk_peek : ByteArray := prog_11_method_3_code
def km_Tk_peek : zk_MT := (⟨"PlantKeeper$Tokens", "peek", "(I)I"⟩, kc_Tk_peek, 2, some .int, 1)
theorem ku_Tk_peek : zk_My km_Tk_peek := ⟨kw725, kw7, by decide, by decide, by decide, by decide +kernel⟩
theorem kv_Tk_peek : zk_Mv km_Tk_peek := ⟨kw724, zk_inS 3 (q := (⟨"PlantKeeper$Tokens", "peek", "(I)I"⟩, 8)) (by decide +kernel)⟩
abbrev kc_Tk_readName : ByteArray := prog_11_method_10_code
def km_Tk_readName : zk_MT := (⟨"PlantKeeper$Tokens", "readName", "()Z"⟩, kc_Tk_readName, 4, some .boolean, 0)
theorem ku_Tk_readName : zk_My km_Tk_readName := ⟨kw783, kw7, by decide, by decide, by decide, by decide +kernel⟩
theorem kv_Tk_readName : zk_Mv km_Tk_readName := ⟨kw782, zk_inS 13 (q := (⟨"PlantKeeper$Tokens", "readName", "()Z"⟩, 8)) (by decide +kernel)⟩
abbrev kc_Tk_refuse : ByteArray := prog_11_method_6_code
def km_Tk_refuse : zk_MT := (⟨"PlantKeeper$Tokens", "refuse", "(I)Z"⟩, kc_Tk_refuse, 2, some .boolean, 1)
theorem ku_Tk_refuse : zk_My km_Tk_refuse := ⟨kw733, kw7, by decide, by decide, by decide, by decide +kernel⟩
theorem kv_Tk_refuse : zk_Mv km_Tk_refuse := ⟨kw732, zk_inS 5 (q := (⟨"PlantKeeper$Tokens", "refuse", "(I)Z"⟩, 8)) (by decide +kernel)⟩
abbrev kc_Tk_remarkEnd : ByteArray := prog_11_method_8_code
def km_Tk_remarkEnd : zk_MT := (⟨"PlantKeeper$Tokens", "remarkEnd", "(I)I"⟩, kc_Tk_remarkEnd, 3, some .int, 1)
theorem ku_Tk_remarkEnd : zk_My km_Tk_remarkEnd := ⟨kw729, kw7, by decide, by decide, by decide, by decide +kernel⟩
theorem kv_Tk_remarkEnd : zk_Mv km_Tk_remarkEnd := ⟨kw728, zk_inS 4 (q := (⟨"PlantKeeper$Tokens", "remarkEnd", "(I)I"⟩, 8)) (by decide +kernel)⟩
abbrev kc_Tk_skipBlanks : ByteArray := prog_11_method_7_code
def km_Tk_skipBlanks : zk_MT := (⟨"PlantKeeper$Tokens", "skipBlanks", "()Z"⟩, kc_Tk_skipBlanks, 4, some .boolean, 0)
theorem ku_Tk_skipBlanks : zk_My km_Tk_skipBlanks := ⟨kw721, kw7, by decide, by decide, by decide, by decide +kernel⟩
theorem kv_Tk_skipBlanks : zk_Mv km_Tk_skipBlanks := ⟨kw720, zk_inS 2 (q := (⟨"PlantKeeper$Tokens", "skipBlanks", "()Z"⟩, 8)) (by decide +kernel)⟩
theorem kd_Mc_beginAnew_0 : decode kc_Mc_beginAnew 0 = .ok (.aload_n 0, 1) := by decide +kernel
theorem kd_Mc_beginAnew_1 : decode kc_Mc_beginAnew 1 = .ok (.iconst 0, 1) := by decide +kernel
theorem kd_Mc_beginAnew_2 : decode kc_Mc_beginAnew 2 = .ok (.putfield 45, 3) := by decide +kernel
theorem kd_Mc_beginAnew_5 : decode kc_Mc_beginAnew 5 = .ok (.aload_n 0, 1) := by decide +kernel
theorem kd_Mc_beginAnew_6 : decode kc_Mc_beginAnew 6 = .ok (.getfield 29, 3) := by decide +kernel
theorem kd_Mc_beginAnew_9 : decode kc_Mc_beginAnew 9 = .ok (.iconst 0, 1) := by decide +kernel
theorem kd_Mc_beginAnew_10 : decode kc_Mc_beginAnew 10 = .ok (.invokestatic 67, 3) := by decide +kernel
theorem kd_Mc_beginAnew_13 : decode kc_Mc_beginAnew 13 = .ok (.aload_n 0, 1) := by decide +kernel
theorem kd_Mc_beginAnew_14 : decode kc_Mc_beginAnew 14 = .ok (.getfield 38, 3) := by decide +kernel
theorem kd_Mc_beginAnew_17 : decode kc_Mc_beginAnew 17 = .ok (.iconst (-1), 1) := by decide +kernel
theorem kd_Mc_beginAnew_18 : decode kc_Mc_beginAnew 18 = .ok (.invokestatic 67, 3) := by decide +kernel
theorem kd_Mc_beginAnew_21 : decode kc_Mc_beginAnew 21 = .ok (.bipush 9, 2) := by decide +kernel
theorem kd_Mc_beginAnew_23 : decode kc_Mc_beginAnew 23 = .ok (.istore_n 1, 1) := by decide +kernel
theorem kd_Mc_beginAnew_24 : decode kc_Mc_beginAnew 24 = .ok (.iload_n 1, 1) := by decide +kernel
theorem kd_Mc_beginAnew_25 : decode kc_Mc_beginAnew 25 = .ok (.aload_n 0, 1) := by decide +kernel
theorem kd_Mc_beginAnew_26 : decode kc_Mc_beginAnew 26 = .ok (.getfield 15, 3) := by decide +kernel
theorem kd_Mc_beginAnew_29 : decode kc_Mc_beginAnew 29 = .ok (.getfield 75, 3) := by decide +kernel
theorem kd_Mc_beginAnew_32 : decode kc_Mc_beginAnew 32 = .ok (.if_icmp .ge 37, 3) := by decide +kernel
theorem kd_Mc_beginAnew_35 : decode kc_Mc_beginAnew 35 = .ok (.aload_n 0, 1) := by decide +kernel
theorem kd_Mc_beginAnew_36 : decode kc_Mc_beginAnew 36 = .ok (.getfield 15, 3) := by decide +kernel
theorem kd_Mc_beginAnew_39 : decode kc_Mc_beginAnew 39 = .ok (.getfield 78, 3) := by decide +kernel
theorem kd_Mc_beginAnew_42 : decode kc_Mc_beginAnew 42 = .ok (.iload_n 1, 1) := by decide +kernel
theorem kd_Mc_beginAnew_43 : decode kc_Mc_beginAnew 43 = .ok (.iaload, 1) := by decide +kernel
theorem kd_Mc_beginAnew_44 : decode kc_Mc_beginAnew 44 = .ok (.iconst 2, 1) := by decide +kernel
theorem kd_Mc_beginAnew_45 : decode kc_Mc_beginAnew 45 = .ok (.if_icmp .eq 18, 3) := by decide +kernel
theorem kd_Mc_beginAnew_48 : decode kc_Mc_beginAnew 48 = .ok (.aload_n 0, 1) := by decide +kernel
theorem kd_Mc_beginAnew_49 : decode kc_Mc_beginAnew 49 = .ok (.iload_n 1, 1) := by decide +kernel
theorem kd_Mc_beginAnew_50 : decode kc_Mc_beginAnew 50 = .ok (.aload_n 0, 1) := by decide +kernel
theorem kd_Mc_beginAnew_51 : decode kc_Mc_beginAnew 51 = .ok (.getfield 15, 3) := by decide +kernel
theorem kd_Mc_beginAnew_54 : decode kc_Mc_beginAnew 54 = .ok (.getfield 83, 3) := by decide +kernel
theorem kd_Mc_beginAnew_57 : decode kc_Mc_beginAnew 57 = .ok (.iload_n 1, 1) := by decide +kernel
theorem kd_Mc_beginAnew_58 : decode kc_Mc_beginAnew 58 = .ok (.iaload, 1) := by decide +kernel
theorem kd_Mc_beginAnew_59 : decode kc_Mc_beginAnew 59 = .ok (.iconst 0, 1) := by decide +kernel
theorem kd_Mc_beginAnew_60 : decode kc_Mc_beginAnew 60 = .ok (.invokevirtual 86, 3) := by decide +kernel
theorem kd_Mc_beginAnew_63 : decode kc_Mc_beginAnew 63 = .ok (.iinc 1 1, 3) := by decide +kernel
theorem kd_Mc_beginAnew_66 : decode kc_Mc_beginAnew 66 = .ok (.goto (-42), 3) := by decide +kernel
theorem kd_Mc_beginAnew_69 : decode kc_Mc_beginAnew 69 = .ok (.aload_n 0, 1) := by decide +kernel
theorem kd_Mc_beginAnew_70 : decode kc_Mc_beginAnew 70 = .ok (.aload_n 0, 1) := by decide +kernel
theorem kd_Mc_beginAnew_71 : decode kc_Mc_beginAnew 71 = .ok (.getfield 26, 3) := by decide +kernel
theorem kd_Mc_beginAnew_74 : decode kc_Mc_beginAnew 74 = .ok (.invokevirtual 90, 3) := by decide +kernel
theorem kd_Mc_beginAnew_77 : decode kc_Mc_beginAnew 77 = .ok (.return_, 1) := by decide +kernel
theorem kd_Mc_forget_0 : decode kc_Mc_forget 0 = .ok (.aload_n 0, 1) := by decide +kernel
theorem kd_Mc_forget_1 : decode kc_Mc_forget 1 = .ok (.iconst 0, 1) := by decide +kernel
theorem kd_Mc_forget_2 : decode kc_Mc_forget 2 = .ok (.putfield 41, 3) := by decide +kernel
theorem kd_Mc_forget_5 : decode kc_Mc_forget 5 = .ok (.aload_n 0, 1) := by decide +kernel
theorem kd_Mc_forget_6 : decode kc_Mc_forget 6 = .ok (.iconst 0, 1) := by decide +kernel
theorem kd_Mc_forget_7 : decode kc_Mc_forget 7 = .ok (.putfield 45, 3) := by decide +kernel
theorem kd_Mc_forget_10 : decode kc_Mc_forget 10 = .ok (.aload_n 0, 1) := by decide +kernel
theorem kd_Mc_forget_11 : decode kc_Mc_forget 11 = .ok (.iconst 0, 1) := by decide +kernel
theorem kd_Mc_forget_12 : decode kc_Mc_forget 12 = .ok (.putfield 48, 3) := by decide +kernel
theorem kd_Mc_forget_15 : decode kc_Mc_forget 15 = .ok (.aload_n 0, 1) := by decide +kernel
theorem kd_Mc_forget_16 : decode kc_Mc_forget 16 = .ok (.iconst 0, 1) := by decide +kernel
theorem kd_Mc_forget_17 : decode kc_Mc_forget 17 = .ok (.putfield 52, 3) := by decide +kernel
theorem kd_Mc_forget_20 : decode kc_Mc_forget 20 = .ok (.aload_n 0, 1) := by decide +kernel
theorem kd_Mc_forget_21 : decode kc_Mc_forget 21 = .ok (.iconst 0, 1) := by decide +kernel
theorem kd_Mc_forget_22 : decode kc_Mc_forget 22 = .ok (.putfield 55, 3) := by decide +kernel
theorem kd_Mc_forget_25 : decode kc_Mc_forget 25 = .ok (.aload_n 0, 1) := by decide +kernel
theorem kd_Mc_forget_26 : decode kc_Mc_forget 26 = .ok (.iconst 0, 1) := by decide +kernel
theorem kd_Mc_forget_27 : decode kc_Mc_forget 27 = .ok (.putfield 58, 3) := by decide +kernel
theorem kd_Mc_forget_30 : decode kc_Mc_forget 30 = .ok (.aload_n 0, 1) := by decide +kernel
theorem kd_Mc_forget_31 : decode kc_Mc_forget 31 = .ok (.iconst 0, 1) := by decide +kernel
theorem kd_Mc_forget_32 : decode kc_Mc_forget 32 = .ok (.putfield 61, 3) := by decide +kernel
theorem kd_Mc_forget_35 : decode kc_Mc_forget 35 = .ok (.return_, 1) := by decide +kernel
theorem kd_Nm_forget_0 : decode kc_Nm_forget 0 = .ok (.aload_n 0, 1) := by decide +kernel
theorem kd_Nm_forget_1 : decode kc_Nm_forget 1 = .ok (.getfield 43, 3) := by decide +kernel
theorem kd_Nm_forget_4 : decode kc_Nm_forget 4 = .ok (.iconst (-1), 1) := by decide +kernel
theorem kd_Nm_forget_5 : decode kc_Nm_forget 5 = .ok (.invokestatic 50, 3) := by decide +kernel
theorem kd_Nm_forget_8 : decode kc_Nm_forget 8 = .ok (.aload_n 0, 1) := by decide +kernel
theorem kd_Nm_forget_9 : decode kc_Nm_forget 9 = .ok (.iconst 0, 1) := by decide +kernel
theorem kd_Nm_forget_10 : decode kc_Nm_forget 10 = .ok (.putfield 56, 3) := by decide +kernel
theorem kd_Nm_forget_13 : decode kc_Nm_forget 13 = .ok (.iconst 0, 1) := by decide +kernel
theorem kd_Nm_forget_14 : decode kc_Nm_forget 14 = .ok (.istore_n 1, 1) := by decide +kernel
theorem kd_Nm_forget_15 : decode kc_Nm_forget 15 = .ok (.iconst 0, 1) := by decide +kernel
theorem kd_Nm_forget_16 : decode kc_Nm_forget 16 = .ok (.istore_n 2, 1) := by decide +kernel
theorem kd_Nm_forget_17 : decode kc_Nm_forget 17 = .ok (.iload_n 2, 1) := by decide +kernel
theorem kd_Nm_forget_18 : decode kc_Nm_forget 18 = .ok (.aload_n 0, 1) := by decide +kernel
theorem kd_Nm_forget_19 : decode kc_Nm_forget 19 = .ok (.getfield 25, 3) := by decide +kernel
theorem kd_Nm_forget_22 : decode kc_Nm_forget 22 = .ok (.arraylength, 1) := by decide +kernel
theorem kd_Nm_forget_23 : decode kc_Nm_forget 23 = .ok (.if_icmp .ge 37, 3) := by decide +kernel
theorem kd_Nm_forget_26 : decode kc_Nm_forget 26 = .ok (.aload_n 0, 1) := by decide +kernel
theorem kd_Nm_forget_27 : decode kc_Nm_forget 27 = .ok (.getfield 25, 3) := by decide +kernel
theorem kd_Nm_forget_30 : decode kc_Nm_forget 30 = .ok (.iload_n 2, 1) := by decide +kernel
theorem kd_Nm_forget_31 : decode kc_Nm_forget 31 = .ok (.baload, 1) := by decide +kernel
theorem kd_Nm_forget_32 : decode kc_Nm_forget 32 = .ok (.bipush 32, 2) := by decide +kernel
theorem kd_Nm_forget_34 : decode kc_Nm_forget 34 = .ok (.if_icmp .ne 20, 3) := by decide +kernel
theorem kd_Nm_forget_37 : decode kc_Nm_forget 37 = .ok (.aload_n 0, 1) := by decide +kernel
theorem kd_Nm_forget_38 : decode kc_Nm_forget 38 = .ok (.aload_n 0, 1) := by decide +kernel
theorem kd_Nm_forget_39 : decode kc_Nm_forget 39 = .ok (.getfield 25, 3) := by decide +kernel
theorem kd_Nm_forget_42 : decode kc_Nm_forget 42 = .ok (.iload_n 1, 1) := by decide +kernel
theorem kd_Nm_forget_43 : decode kc_Nm_forget 43 = .ok (.iload_n 2, 1) := by decide +kernel
theorem kd_Nm_forget_44 : decode kc_Nm_forget 44 = .ok (.iload_n 1, 1) := by decide +kernel
theorem kd_Nm_forget_45 : decode kc_Nm_forget 45 = .ok (.isub, 1) := by decide +kernel
theorem kd_Nm_forget_46 : decode kc_Nm_forget 46 = .ok (.invokevirtual 60, 3) := by decide +kernel
theorem kd_Nm_forget_49 : decode kc_Nm_forget 49 = .ok (.pop, 1) := by decide +kernel
theorem kd_Nm_forget_50 : decode kc_Nm_forget 50 = .ok (.iload_n 2, 1) := by decide +kernel
theorem kd_Nm_forget_51 : decode kc_Nm_forget 51 = .ok (.iconst 1, 1) := by decide +kernel
theorem kd_Nm_forget_52 : decode kc_Nm_forget 52 = .ok (.iadd, 1) := by decide +kernel
theorem kd_Nm_forget_53 : decode kc_Nm_forget 53 = .ok (.istore_n 1, 1) := by decide +kernel
theorem kd_Nm_forget_54 : decode kc_Nm_forget 54 = .ok (.iinc 2 1, 3) := by decide +kernel
theorem kd_Nm_forget_57 : decode kc_Nm_forget 57 = .ok (.goto (-40), 3) := by decide +kernel
theorem kd_Nm_forget_60 : decode kc_Nm_forget 60 = .ok (.return_, 1) := by decide +kernel
theorem kd_Nm_numberOf_0 : decode kc_Nm_numberOf 0 = .ok (.aload_n 0, 1) := by decide +kernel
theorem kd_Nm_numberOf_1 : decode kc_Nm_numberOf 1 = .ok (.aload_n 1, 1) := by decide +kernel
theorem kd_Nm_numberOf_2 : decode kc_Nm_numberOf 2 = .ok (.iload_n 2, 1) := by decide +kernel
theorem kd_Nm_numberOf_3 : decode kc_Nm_numberOf 3 = .ok (.iload_n 3, 1) := by decide +kernel
theorem kd_Nm_numberOf_4 : decode kc_Nm_numberOf 4 = .ok (.invokevirtual 75, 3) := by decide +kernel
theorem kd_Nm_numberOf_7 : decode kc_Nm_numberOf 7 = .ok (.istore 4, 2) := by decide +kernel
theorem kd_Nm_numberOf_9 : decode kc_Nm_numberOf 9 = .ok (.iload_n 3, 1) := by decide +kernel
theorem kd_Nm_numberOf_10 : decode kc_Nm_numberOf 10 = .ok (.iconst 1, 1) := by decide +kernel
theorem kd_Nm_numberOf_11 : decode kc_Nm_numberOf 11 = .ok (.if_icmp .lt 25, 3) := by decide +kernel
theorem kd_Nm_numberOf_14 : decode kc_Nm_numberOf 14 = .ok (.iload_n 3, 1) := by decide +kernel
theorem kd_Nm_numberOf_15 : decode kc_Nm_numberOf 15 = .ok (.bipush 32, 2) := by decide +kernel
theorem kd_Nm_numberOf_17 : decode kc_Nm_numberOf 17 = .ok (.if_icmp .gt 19, 3) := by decide +kernel
theorem kd_Nm_numberOf_20 : decode kc_Nm_numberOf 20 = .ok (.iload_n 2, 1) := by decide +kernel
theorem kd_Nm_numberOf_21 : decode kc_Nm_numberOf 21 = .ok (.ifCond .lt 15, 3) := by decide +kernel
theorem kd_Nm_numberOf_24 : decode kc_Nm_numberOf 24 = .ok (.iload_n 2, 1) := by decide +kernel
theorem kd_Nm_numberOf_25 : decode kc_Nm_numberOf 25 = .ok (.iload_n 3, 1) := by decide +kernel
theorem kd_Nm_numberOf_26 : decode kc_Nm_numberOf 26 = .ok (.iadd, 1) := by decide +kernel
theorem kd_Nm_numberOf_27 : decode kc_Nm_numberOf 27 = .ok (.aload_n 1, 1) := by decide +kernel
theorem kd_Nm_numberOf_28 : decode kc_Nm_numberOf 28 = .ok (.arraylength, 1) := by decide +kernel
theorem kd_Nm_numberOf_29 : decode kc_Nm_numberOf 29 = .ok (.if_icmp .gt 7, 3) := by decide +kernel
theorem kd_Nm_numberOf_32 : decode kc_Nm_numberOf 32 = .ok (.iconst 1, 1) := by decide +kernel
theorem kd_Nm_numberOf_33 : decode kc_Nm_numberOf 33 = .ok (.goto 4, 3) := by decide +kernel
theorem kd_Nm_numberOf_36 : decode kc_Nm_numberOf 36 = .ok (.iconst 0, 1) := by decide +kernel
theorem kd_Nm_numberOf_37 : decode kc_Nm_numberOf 37 = .ok (.istore 5, 2) := by decide +kernel
theorem kd_Nm_numberOf_39 : decode kc_Nm_numberOf 39 = .ok (.iload 4, 2) := by decide +kernel
theorem kd_Nm_numberOf_41 : decode kc_Nm_numberOf 41 = .ok (.iconst (-1), 1) := by decide +kernel
theorem kd_Nm_numberOf_42 : decode kc_Nm_numberOf 42 = .ok (.if_icmp .ne 37, 3) := by decide +kernel
theorem kd_Nm_numberOf_45 : decode kc_Nm_numberOf 45 = .ok (.iload 5, 2) := by decide +kernel
theorem kd_Nm_numberOf_47 : decode kc_Nm_numberOf 47 = .ok (.ifCond .eq 32, 3) := by decide +kernel
theorem kd_Nm_numberOf_50 : decode kc_Nm_numberOf 50 = .ok (.aload_n 0, 1) := by decide +kernel
theorem kd_Nm_numberOf_51 : decode kc_Nm_numberOf 51 = .ok (.getfield 56, 3) := by decide +kernel
theorem kd_Nm_numberOf_54 : decode kc_Nm_numberOf 54 = .ok (.sipush 6000, 3) := by decide +kernel
theorem kd_Nm_numberOf_57 : decode kc_Nm_numberOf 57 = .ok (.if_icmp .ge 22, 3) := by decide +kernel
theorem kd_Nm_numberOf_60 : decode kc_Nm_numberOf 60 = .ok (.aload_n 0, 1) := by decide +kernel
theorem kd_Nm_numberOf_61 : decode kc_Nm_numberOf 61 = .ok (.getfield 36, 3) := by decide +kernel
theorem kd_Nm_numberOf_64 : decode kc_Nm_numberOf 64 = .ok (.aload_n 0, 1) := by decide +kernel
theorem kd_Nm_numberOf_65 : decode kc_Nm_numberOf 65 = .ok (.getfield 56, 3) := by decide +kernel
theorem kd_Nm_numberOf_68 : decode kc_Nm_numberOf 68 = .ok (.iaload, 1) := by decide +kernel
theorem kd_Nm_numberOf_69 : decode kc_Nm_numberOf 69 = .ok (.iload_n 3, 1) := by decide +kernel
theorem kd_Nm_numberOf_70 : decode kc_Nm_numberOf 70 = .ok (.iadd, 1) := by decide +kernel
theorem kd_Nm_numberOf_71 : decode kc_Nm_numberOf 71 = .ok (.aload_n 0, 1) := by decide +kernel
theorem kd_Nm_numberOf_72 : decode kc_Nm_numberOf 72 = .ok (.getfield 33, 3) := by decide +kernel
theorem kd_Nm_numberOf_75 : decode kc_Nm_numberOf 75 = .ok (.arraylength, 1) := by decide +kernel
theorem kd_Nm_numberOf_76 : decode kc_Nm_numberOf 76 = .ok (.if_icmp .le 6, 3) := by decide +kernel
theorem kd_Nm_numberOf_79 : decode kc_Nm_numberOf 79 = .ok (.iload 4, 2) := by decide +kernel
theorem kd_Nm_numberOf_81 : decode kc_Nm_numberOf 81 = .ok (.ireturn, 1) := by decide +kernel
theorem kd_Nm_numberOf_82 : decode kc_Nm_numberOf 82 = .ok (.aload_n 0, 1) := by decide +kernel
theorem kd_Nm_numberOf_83 : decode kc_Nm_numberOf 83 = .ok (.getfield 56, 3) := by decide +kernel
theorem kd_Nm_numberOf_86 : decode kc_Nm_numberOf 86 = .ok (.istore 4, 2) := by decide +kernel
theorem kd_Nm_numberOf_88 : decode kc_Nm_numberOf 88 = .ok (.iconst 0, 1) := by decide +kernel
theorem kd_Nm_numberOf_89 : decode kc_Nm_numberOf 89 = .ok (.istore 6, 2) := by decide +kernel
theorem kd_Nm_numberOf_91 : decode kc_Nm_numberOf 91 = .ok (.iload 6, 2) := by decide +kernel
theorem kd_Nm_numberOf_93 : decode kc_Nm_numberOf 93 = .ok (.iload_n 3, 1) := by decide +kernel
theorem kd_Nm_numberOf_94 : decode kc_Nm_numberOf 94 = .ok (.if_icmp .ge 34, 3) := by decide +kernel
theorem kd_Nm_numberOf_97 : decode kc_Nm_numberOf 97 = .ok (.aload_n 0, 1) := by decide +kernel
theorem kd_Nm_numberOf_98 : decode kc_Nm_numberOf 98 = .ok (.getfield 33, 3) := by decide +kernel
theorem kd_Nm_numberOf_101 : decode kc_Nm_numberOf 101 = .ok (.aload_n 0, 1) := by decide +kernel
theorem kd_Nm_numberOf_102 : decode kc_Nm_numberOf 102 = .ok (.getfield 36, 3) := by decide +kernel
theorem kd_Nm_numberOf_105 : decode kc_Nm_numberOf 105 = .ok (.iload 4, 2) := by decide +kernel
theorem kd_Nm_numberOf_107 : decode kc_Nm_numberOf 107 = .ok (.iaload, 1) := by decide +kernel
theorem kd_Nm_numberOf_108 : decode kc_Nm_numberOf 108 = .ok (.iload 6, 2) := by decide +kernel
theorem kd_Nm_numberOf_110 : decode kc_Nm_numberOf 110 = .ok (.iadd, 1) := by decide +kernel
theorem kd_Nm_numberOf_111 : decode kc_Nm_numberOf 111 = .ok (.aload_n 1, 1) := by decide +kernel
theorem kd_Nm_numberOf_112 : decode kc_Nm_numberOf 112 = .ok (.iload_n 2, 1) := by decide +kernel
theorem kd_Nm_numberOf_113 : decode kc_Nm_numberOf 113 = .ok (.iload 6, 2) := by decide +kernel
theorem kd_Nm_numberOf_115 : decode kc_Nm_numberOf 115 = .ok (.iadd, 1) := by decide +kernel
theorem kd_Nm_numberOf_116 : decode kc_Nm_numberOf 116 = .ok (.baload, 1) := by decide +kernel
theorem kd_Nm_numberOf_117 : decode kc_Nm_numberOf 117 = .ok (.invokestatic 78, 3) := by decide +kernel
theorem kd_Nm_numberOf_120 : decode kc_Nm_numberOf 120 = .ok (.i2b, 1) := by decide +kernel
theorem kd_Nm_numberOf_121 : decode kc_Nm_numberOf 121 = .ok (.bastore, 1) := by decide +kernel
theorem kd_Nm_numberOf_122 : decode kc_Nm_numberOf 122 = .ok (.iinc 6 1, 3) := by decide +kernel
theorem kd_Nm_numberOf_125 : decode kc_Nm_numberOf 125 = .ok (.goto (-34), 3) := by decide +kernel
theorem kd_Nm_numberOf_128 : decode kc_Nm_numberOf 128 = .ok (.aload_n 1, 1) := by decide +kernel
theorem kd_Nm_numberOf_129 : decode kc_Nm_numberOf 129 = .ok (.iload_n 2, 1) := by decide +kernel
theorem kd_Nm_numberOf_130 : decode kc_Nm_numberOf 130 = .ok (.iload_n 3, 1) := by decide +kernel
theorem kd_Nm_numberOf_131 : decode kc_Nm_numberOf 131 = .ok (.invokestatic 68, 3) := by decide +kernel
theorem kd_Nm_numberOf_134 : decode kc_Nm_numberOf 134 = .ok (.istore 6, 2) := by decide +kernel
theorem kd_Nm_numberOf_136 : decode kc_Nm_numberOf 136 = .ok (.aload_n 0, 1) := by decide +kernel
theorem kd_Nm_numberOf_137 : decode kc_Nm_numberOf 137 = .ok (.getfield 40, 3) := by decide +kernel
theorem kd_Nm_numberOf_140 : decode kc_Nm_numberOf 140 = .ok (.iload 4, 2) := by decide +kernel
theorem kd_Nm_numberOf_142 : decode kc_Nm_numberOf 142 = .ok (.aload_n 0, 1) := by decide +kernel
theorem kd_Nm_numberOf_143 : decode kc_Nm_numberOf 143 = .ok (.getfield 43, 3) := by decide +kernel
theorem kd_Nm_numberOf_146 : decode kc_Nm_numberOf 146 = .ok (.iload 6, 2) := by decide +kernel
theorem kd_Nm_numberOf_148 : decode kc_Nm_numberOf 148 = .ok (.iaload, 1) := by decide +kernel
theorem kd_Nm_numberOf_149 : decode kc_Nm_numberOf 149 = .ok (.iastore, 1) := by decide +kernel
theorem kd_Nm_numberOf_150 : decode kc_Nm_numberOf 150 = .ok (.aload_n 0, 1) := by decide +kernel
theorem kd_Nm_numberOf_151 : decode kc_Nm_numberOf 151 = .ok (.getfield 43, 3) := by decide +kernel
theorem kd_Nm_numberOf_154 : decode kc_Nm_numberOf 154 = .ok (.iload 6, 2) := by decide +kernel
theorem kd_Nm_numberOf_156 : decode kc_Nm_numberOf 156 = .ok (.iload 4, 2) := by decide +kernel
theorem kd_Nm_numberOf_158 : decode kc_Nm_numberOf 158 = .ok (.iastore, 1) := by decide +kernel
theorem kd_Nm_numberOf_159 : decode kc_Nm_numberOf 159 = .ok (.aload_n 0, 1) := by decide +kernel
theorem kd_Nm_numberOf_160 : decode kc_Nm_numberOf 160 = .ok (.dup, 1) := by decide +kernel
theorem kd_Nm_numberOf_161 : decode kc_Nm_numberOf 161 = .ok (.getfield 56, 3) := by decide +kernel
theorem kd_Nm_numberOf_164 : decode kc_Nm_numberOf 164 = .ok (.iconst 1, 1) := by decide +kernel
theorem kd_Nm_numberOf_165 : decode kc_Nm_numberOf 165 = .ok (.iadd, 1) := by decide +kernel
theorem kd_Nm_numberOf_166 : decode kc_Nm_numberOf 166 = .ok (.putfield 56, 3) := by decide +kernel
theorem kd_Nm_numberOf_169 : decode kc_Nm_numberOf 169 = .ok (.aload_n 0, 1) := by decide +kernel
theorem kd_Nm_numberOf_170 : decode kc_Nm_numberOf 170 = .ok (.getfield 36, 3) := by decide +kernel
theorem kd_Nm_numberOf_173 : decode kc_Nm_numberOf 173 = .ok (.aload_n 0, 1) := by decide +kernel
theorem kd_Nm_numberOf_174 : decode kc_Nm_numberOf 174 = .ok (.getfield 56, 3) := by decide +kernel
theorem kd_Nm_numberOf_177 : decode kc_Nm_numberOf 177 = .ok (.aload_n 0, 1) := by decide +kernel
theorem kd_Nm_numberOf_178 : decode kc_Nm_numberOf 178 = .ok (.getfield 36, 3) := by decide +kernel
theorem kd_Nm_numberOf_181 : decode kc_Nm_numberOf 181 = .ok (.iload 4, 2) := by decide +kernel
theorem kd_Nm_numberOf_183 : decode kc_Nm_numberOf 183 = .ok (.iaload, 1) := by decide +kernel
theorem kd_Nm_numberOf_184 : decode kc_Nm_numberOf 184 = .ok (.iload_n 3, 1) := by decide +kernel
theorem kd_Nm_numberOf_185 : decode kc_Nm_numberOf 185 = .ok (.iadd, 1) := by decide +kernel
theorem kd_Nm_numberOf_186 : decode kc_Nm_numberOf 186 = .ok (.iastore, 1) := by decide +kernel
theorem kd_Nm_numberOf_187 : decode kc_Nm_numberOf 187 = .ok (.iload 4, 2) := by decide +kernel
theorem kd_Nm_numberOf_189 : decode kc_Nm_numberOf 189 = .ok (.ireturn, 1) := by decide +kernel
theorem kd_Pk_restart_0 : decode kc_Pk_restart 0 = .ok (.aload_n 0, 1) := by decide +kernel
theorem kd_Pk_restart_1 : decode kc_Pk_restart 1 = .ok (.getfield 95, 3) := by decide +kernel
theorem kd_Pk_restart_4 : decode kc_Pk_restart 4 = .ok (.getfield 169, 3) := by decide +kernel
theorem kd_Pk_restart_7 : decode kc_Pk_restart 7 = .ok (.ifCond .ne 6, 3) := by decide +kernel
theorem kd_Pk_restart_10 : decode kc_Pk_restart 10 = .ok (.bipush (-5), 2) := by decide +kernel
theorem kd_Pk_restart_12 : decode kc_Pk_restart 12 = .ok (.ireturn, 1) := by decide +kernel
theorem kd_Pk_restart_13 : decode kc_Pk_restart 13 = .ok (.aload_n 0, 1) := by decide +kernel
theorem kd_Pk_restart_14 : decode kc_Pk_restart 14 = .ok (.getfield 95, 3) := by decide +kernel
theorem kd_Pk_restart_17 : decode kc_Pk_restart 17 = .ok (.invokevirtual 173, 3) := by decide +kernel
theorem kd_Pk_restart_20 : decode kc_Pk_restart 20 = .ok (.iconst 0, 1) := by decide +kernel
theorem kd_Pk_restart_21 : decode kc_Pk_restart 21 = .ok (.ireturn, 1) := by decide +kernel
theorem kd_Tk_add_0 : decode kc_Tk_add 0 = .ok (.aload_n 0, 1) := by decide +kernel
theorem kd_Tk_add_1 : decode kc_Tk_add 1 = .ok (.getfield 37, 3) := by decide +kernel
theorem kd_Tk_add_4 : decode kc_Tk_add 4 = .ok (.aload_n 0, 1) := by decide +kernel
theorem kd_Tk_add_5 : decode kc_Tk_add 5 = .ok (.getfield 15, 3) := by decide +kernel
theorem kd_Tk_add_8 : decode kc_Tk_add 8 = .ok (.arraylength, 1) := by decide +kernel
theorem kd_Tk_add_9 : decode kc_Tk_add 9 = .ok (.if_icmp .ge 48, 3) := by decide +kernel
theorem kd_Tk_add_12 : decode kc_Tk_add 12 = .ok (.aload_n 0, 1) := by decide +kernel
theorem kd_Tk_add_13 : decode kc_Tk_add 13 = .ok (.getfield 15, 3) := by decide +kernel
theorem kd_Tk_add_16 : decode kc_Tk_add 16 = .ok (.aload_n 0, 1) := by decide +kernel
theorem kd_Tk_add_17 : decode kc_Tk_add 17 = .ok (.getfield 37, 3) := by decide +kernel
theorem kd_Tk_add_20 : decode kc_Tk_add 20 = .ok (.iload_n 1, 1) := by decide +kernel
theorem kd_Tk_add_21 : decode kc_Tk_add 21 = .ok (.i2c, 1) := by decide +kernel
theorem kd_Tk_add_22 : decode kc_Tk_add 22 = .ok (.castore, 1) := by decide +kernel
theorem kd_Tk_add_23 : decode kc_Tk_add 23 = .ok (.aload_n 0, 1) := by decide +kernel
theorem kd_Tk_add_24 : decode kc_Tk_add 24 = .ok (.getfield 19, 3) := by decide +kernel
theorem kd_Tk_add_27 : decode kc_Tk_add 27 = .ok (.aload_n 0, 1) := by decide +kernel
theorem kd_Tk_add_28 : decode kc_Tk_add 28 = .ok (.getfield 37, 3) := by decide +kernel
theorem kd_Tk_add_31 : decode kc_Tk_add 31 = .ok (.aload_n 0, 1) := by decide +kernel
theorem kd_Tk_add_32 : decode kc_Tk_add 32 = .ok (.getfield 34, 3) := by decide +kernel
theorem kd_Tk_add_35 : decode kc_Tk_add 35 = .ok (.i2c, 1) := by decide +kernel
theorem kd_Tk_add_36 : decode kc_Tk_add 36 = .ok (.castore, 1) := by decide +kernel
theorem kd_Tk_add_37 : decode kc_Tk_add 37 = .ok (.aload_n 0, 1) := by decide +kernel
theorem kd_Tk_add_38 : decode kc_Tk_add 38 = .ok (.getfield 22, 3) := by decide +kernel
theorem kd_Tk_add_41 : decode kc_Tk_add 41 = .ok (.aload_n 0, 1) := by decide +kernel
theorem kd_Tk_add_42 : decode kc_Tk_add 42 = .ok (.getfield 37, 3) := by decide +kernel
theorem kd_Tk_add_45 : decode kc_Tk_add 45 = .ok (.iload_n 2, 1) := by decide +kernel
theorem kd_Tk_add_46 : decode kc_Tk_add 46 = .ok (.iastore, 1) := by decide +kernel
theorem kd_Tk_add_47 : decode kc_Tk_add 47 = .ok (.aload_n 0, 1) := by decide +kernel
theorem kd_Tk_add_48 : decode kc_Tk_add 48 = .ok (.dup, 1) := by decide +kernel
theorem kd_Tk_add_49 : decode kc_Tk_add 49 = .ok (.getfield 37, 3) := by decide +kernel
theorem kd_Tk_add_52 : decode kc_Tk_add 52 = .ok (.iconst 1, 1) := by decide +kernel
theorem kd_Tk_add_53 : decode kc_Tk_add 53 = .ok (.iadd, 1) := by decide +kernel
theorem kd_Tk_add_54 : decode kc_Tk_add 54 = .ok (.putfield 37, 3) := by decide +kernel
theorem kd_Tk_add_57 : decode kc_Tk_add 57 = .ok (.return_, 1) := by decide +kernel
theorem kd_Tk_digit_0 : decode kc_Tk_digit 0 = .ok (.iload_n 0, 1) := by decide +kernel
theorem kd_Tk_digit_1 : decode kc_Tk_digit 1 = .ok (.bipush 48, 2) := by decide +kernel
theorem kd_Tk_digit_3 : decode kc_Tk_digit 3 = .ok (.if_icmp .lt 14, 3) := by decide +kernel
theorem kd_Tk_digit_6 : decode kc_Tk_digit 6 = .ok (.iload_n 0, 1) := by decide +kernel
theorem kd_Tk_digit_7 : decode kc_Tk_digit 7 = .ok (.bipush 57, 2) := by decide +kernel
theorem kd_Tk_digit_9 : decode kc_Tk_digit 9 = .ok (.if_icmp .gt 8, 3) := by decide +kernel
theorem kd_Tk_digit_12 : decode kc_Tk_digit 12 = .ok (.iload_n 0, 1) := by decide +kernel
theorem kd_Tk_digit_13 : decode kc_Tk_digit 13 = .ok (.bipush 48, 2) := by decide +kernel
theorem kd_Tk_digit_15 : decode kc_Tk_digit 15 = .ok (.isub, 1) := by decide +kernel
theorem kd_Tk_digit_16 : decode kc_Tk_digit 16 = .ok (.ireturn, 1) := by decide +kernel
theorem kd_Tk_digit_17 : decode kc_Tk_digit 17 = .ok (.iload_n 0, 1) := by decide +kernel
theorem kd_Tk_digit_18 : decode kc_Tk_digit 18 = .ok (.invokestatic 93, 3) := by decide +kernel
theorem kd_Tk_digit_21 : decode kc_Tk_digit 21 = .ok (.bipush 65, 2) := by decide +kernel
theorem kd_Tk_digit_23 : decode kc_Tk_digit 23 = .ok (.isub, 1) := by decide +kernel
theorem kd_Tk_digit_24 : decode kc_Tk_digit 24 = .ok (.istore_n 1, 1) := by decide +kernel
theorem kd_Tk_digit_25 : decode kc_Tk_digit 25 = .ok (.iload_n 1, 1) := by decide +kernel
theorem kd_Tk_digit_26 : decode kc_Tk_digit 26 = .ok (.ifCond .lt 16, 3) := by decide +kernel
theorem kd_Tk_digit_29 : decode kc_Tk_digit 29 = .ok (.iload_n 1, 1) := by decide +kernel
theorem kd_Tk_digit_30 : decode kc_Tk_digit 30 = .ok (.bipush 6, 2) := by decide +kernel
theorem kd_Tk_digit_32 : decode kc_Tk_digit 32 = .ok (.if_icmp .ge 10, 3) := by decide +kernel
theorem kd_Tk_digit_35 : decode kc_Tk_digit 35 = .ok (.bipush 10, 2) := by decide +kernel
theorem kd_Tk_digit_37 : decode kc_Tk_digit 37 = .ok (.iload_n 1, 1) := by decide +kernel
theorem kd_Tk_digit_38 : decode kc_Tk_digit 38 = .ok (.iadd, 1) := by decide +kernel
theorem kd_Tk_digit_39 : decode kc_Tk_digit 39 = .ok (.goto 5, 3) := by decide +kernel
theorem kd_Tk_digit_42 : decode kc_Tk_digit 42 = .ok (.bipush 99, 2) := by decide +kernel
theorem kd_Tk_digit_44 : decode kc_Tk_digit 44 = .ok (.ireturn, 1) := by decide +kernel
theorem kd_Tk_digitsEnd_0 : decode kc_Tk_digitsEnd 0 = .ok (.iload_n 1, 1) := by decide +kernel
theorem kd_Tk_digitsEnd_1 : decode kc_Tk_digitsEnd 1 = .ok (.istore_n 3, 1) := by decide +kernel
theorem kd_Tk_digitsEnd_2 : decode kc_Tk_digitsEnd 2 = .ok (.iload_n 3, 1) := by decide +kernel
theorem kd_Tk_digitsEnd_3 : decode kc_Tk_digitsEnd 3 = .ok (.aload_n 0, 1) := by decide +kernel
theorem kd_Tk_digitsEnd_4 : decode kc_Tk_digitsEnd 4 = .ok (.getfield 30, 3) := by decide +kernel
theorem kd_Tk_digitsEnd_7 : decode kc_Tk_digitsEnd 7 = .ok (.if_icmp .ge 22, 3) := by decide +kernel
theorem kd_Tk_digitsEnd_10 : decode kc_Tk_digitsEnd 10 = .ok (.aload_n 0, 1) := by decide +kernel
theorem kd_Tk_digitsEnd_11 : decode kc_Tk_digitsEnd 11 = .ok (.getfield 26, 3) := by decide +kernel
theorem kd_Tk_digitsEnd_14 : decode kc_Tk_digitsEnd 14 = .ok (.iload_n 3, 1) := by decide +kernel
theorem kd_Tk_digitsEnd_15 : decode kc_Tk_digitsEnd 15 = .ok (.baload, 1) := by decide +kernel
theorem kd_Tk_digitsEnd_16 : decode kc_Tk_digitsEnd 16 = .ok (.invokestatic 96, 3) := by decide +kernel
theorem kd_Tk_digitsEnd_19 : decode kc_Tk_digitsEnd 19 = .ok (.iload_n 2, 1) := by decide +kernel
theorem kd_Tk_digitsEnd_20 : decode kc_Tk_digitsEnd 20 = .ok (.if_icmp .ge 9, 3) := by decide +kernel
theorem kd_Tk_digitsEnd_23 : decode kc_Tk_digitsEnd 23 = .ok (.iinc 3 1, 3) := by decide +kernel
theorem kd_Tk_digitsEnd_26 : decode kc_Tk_digitsEnd 26 = .ok (.goto (-24), 3) := by decide +kernel
theorem kd_Tk_digitsEnd_29 : decode kc_Tk_digitsEnd 29 = .ok (.iload_n 3, 1) := by decide +kernel
theorem kd_Tk_digitsEnd_30 : decode kc_Tk_digitsEnd 30 = .ok (.ireturn, 1) := by decide +kernel
theorem kd_Tk_finish_0 : decode kc_Tk_finish 0 = .ok (.aload_n 0, 1) := by decide +kernel
theorem kd_Tk_finish_1 : decode kc_Tk_finish 1 = .ok (.iload_n 1, 1) := by decide +kernel
theorem kd_Tk_finish_2 : decode kc_Tk_finish 2 = .ok (.iload_n 3, 1) := by decide +kernel
theorem kd_Tk_finish_3 : decode kc_Tk_finish 3 = .ok (.invokevirtual 47, 3) := by decide +kernel
theorem kd_Tk_finish_6 : decode kc_Tk_finish 6 = .ok (.aload_n 0, 1) := by decide +kernel
theorem kd_Tk_finish_7 : decode kc_Tk_finish 7 = .ok (.iload_n 2, 1) := by decide +kernel
theorem kd_Tk_finish_8 : decode kc_Tk_finish 8 = .ok (.putfield 34, 3) := by decide +kernel
theorem kd_Tk_finish_11 : decode kc_Tk_finish 11 = .ok (.iconst 1, 1) := by decide +kernel
theorem kd_Tk_finish_12 : decode kc_Tk_finish 12 = .ok (.ireturn, 1) := by decide +kernel
theorem kd_Tk_finishNumber_0 : decode kc_Tk_finishNumber 0 = .ok (.aload_n 0, 1) := by decide +kernel
theorem kd_Tk_finishNumber_1 : decode kc_Tk_finishNumber 1 = .ok (.iload_n 1, 1) := by decide +kernel
theorem kd_Tk_finishNumber_2 : decode kc_Tk_finishNumber 2 = .ok (.invokevirtual 51, 3) := by decide +kernel
theorem kd_Tk_finishNumber_5 : decode kc_Tk_finishNumber 5 = .ok (.invokestatic 82, 3) := by decide +kernel
theorem kd_Tk_finishNumber_8 : decode kc_Tk_finishNumber 8 = .ok (.ifCond .ne 11, 3) := by decide +kernel
theorem kd_Tk_finishNumber_11 : decode kc_Tk_finishNumber 11 = .ok (.lload_n 2, 1) := by decide +kernel
theorem kd_Tk_finishNumber_12 : decode kc_Tk_finishNumber 12 = .ok (.ldc2_w 125, 3) := by decide +kernel
theorem kd_Tk_finishNumber_15 : decode kc_Tk_finishNumber 15 = .ok (.lcmp, 1) := by decide +kernel
theorem kd_Tk_finishNumber_16 : decode kc_Tk_finishNumber 16 = .ok (.ifCond .le 9, 3) := by decide +kernel
theorem kd_Tk_finishNumber_19 : decode kc_Tk_finishNumber 19 = .ok (.aload_n 0, 1) := by decide +kernel
theorem kd_Tk_finishNumber_20 : decode kc_Tk_finishNumber 20 = .ok (.iconst 4, 1) := by decide +kernel
theorem kd_Tk_finishNumber_21 : decode kc_Tk_finishNumber 21 = .ok (.invokevirtual 58, 3) := by decide +kernel
theorem kd_Tk_finishNumber_24 : decode kc_Tk_finishNumber 24 = .ok (.ireturn, 1) := by decide +kernel
theorem kd_Tk_finishNumber_25 : decode kc_Tk_finishNumber 25 = .ok (.aload_n 0, 1) := by decide +kernel
theorem kd_Tk_finishNumber_26 : decode kc_Tk_finishNumber 26 = .ok (.bipush 9, 2) := by decide +kernel
theorem kd_Tk_finishNumber_28 : decode kc_Tk_finishNumber 28 = .ok (.iload_n 1, 1) := by decide +kernel
theorem kd_Tk_finishNumber_29 : decode kc_Tk_finishNumber 29 = .ok (.lload_n 2, 1) := by decide +kernel
theorem kd_Tk_finishNumber_30 : decode kc_Tk_finishNumber 30 = .ok (.l2i, 1) := by decide +kernel
theorem kd_Tk_finishNumber_31 : decode kc_Tk_finishNumber 31 = .ok (.invokevirtual 89, 3) := by decide +kernel
theorem kd_Tk_finishNumber_34 : decode kc_Tk_finishNumber 34 = .ok (.ireturn, 1) := by decide +kernel
theorem kd_Tk_meaning_0 : decode kc_Tk_meaning 0 = .ok (.lconst 0, 1) := by decide +kernel
theorem kd_Tk_meaning_1 : decode kc_Tk_meaning 1 = .ok (.lstore 4, 2) := by decide +kernel
theorem kd_Tk_meaning_3 : decode kc_Tk_meaning 3 = .ok (.iload_n 1, 1) := by decide +kernel
theorem kd_Tk_meaning_4 : decode kc_Tk_meaning 4 = .ok (.istore 6, 2) := by decide +kernel
theorem kd_Tk_meaning_6 : decode kc_Tk_meaning 6 = .ok (.iload 6, 2) := by decide +kernel
theorem kd_Tk_meaning_8 : decode kc_Tk_meaning 8 = .ok (.iload_n 2, 1) := by decide +kernel
theorem kd_Tk_meaning_9 : decode kc_Tk_meaning 9 = .ok (.if_icmp .ge 43, 3) := by decide +kernel
theorem kd_Tk_meaning_12 : decode kc_Tk_meaning 12 = .ok (.iload 6, 2) := by decide +kernel
theorem kd_Tk_meaning_14 : decode kc_Tk_meaning 14 = .ok (.aload_n 0, 1) := by decide +kernel
theorem kd_Tk_meaning_15 : decode kc_Tk_meaning 15 = .ok (.getfield 30, 3) := by decide +kernel
theorem kd_Tk_meaning_18 : decode kc_Tk_meaning 18 = .ok (.if_icmp .ge 34, 3) := by decide +kernel
theorem kd_Tk_meaning_21 : decode kc_Tk_meaning 21 = .ok (.lload 4, 2) := by decide +kernel
theorem kd_Tk_meaning_23 : decode kc_Tk_meaning 23 = .ok (.iload_n 3, 1) := by decide +kernel
theorem kd_Tk_meaning_24 : decode kc_Tk_meaning 24 = .ok (.i2l, 1) := by decide +kernel
theorem kd_Tk_meaning_25 : decode kc_Tk_meaning 25 = .ok (.lmul, 1) := by decide +kernel
theorem kd_Tk_meaning_26 : decode kc_Tk_meaning 26 = .ok (.aload_n 0, 1) := by decide +kernel
theorem kd_Tk_meaning_27 : decode kc_Tk_meaning 27 = .ok (.getfield 26, 3) := by decide +kernel
theorem kd_Tk_meaning_30 : decode kc_Tk_meaning 30 = .ok (.iload 6, 2) := by decide +kernel
theorem kd_Tk_meaning_32 : decode kc_Tk_meaning 32 = .ok (.baload, 1) := by decide +kernel
theorem kd_Tk_meaning_33 : decode kc_Tk_meaning 33 = .ok (.invokestatic 96, 3) := by decide +kernel
theorem kd_Tk_meaning_36 : decode kc_Tk_meaning 36 = .ok (.i2l, 1) := by decide +kernel
theorem kd_Tk_meaning_37 : decode kc_Tk_meaning 37 = .ok (.ladd, 1) := by decide +kernel
theorem kd_Tk_meaning_38 : decode kc_Tk_meaning 38 = .ok (.ldc2_w 99, 3) := by decide +kernel
theorem kd_Tk_meaning_41 : decode kc_Tk_meaning 41 = .ok (.invokestatic 101, 3) := by decide +kernel
theorem kd_Tk_meaning_44 : decode kc_Tk_meaning 44 = .ok (.lstore 4, 2) := by decide +kernel
theorem kd_Tk_meaning_46 : decode kc_Tk_meaning 46 = .ok (.iinc 6 1, 3) := by decide +kernel
theorem kd_Tk_meaning_49 : decode kc_Tk_meaning 49 = .ok (.goto (-43), 3) := by decide +kernel
theorem kd_Tk_meaning_52 : decode kc_Tk_meaning 52 = .ok (.lload 4, 2) := by decide +kernel
theorem kd_Tk_meaning_54 : decode kc_Tk_meaning 54 = .ok (.lreturn, 1) := by decide +kernel
theorem kd_Tk_peek_0 : decode kc_Tk_peek 0 = .ok (.iload_n 1, 1) := by decide +kernel
theorem kd_Tk_peek_1 : decode kc_Tk_peek 1 = .ok (.ifCond .lt 24, 3) := by decide +kernel
theorem kd_Tk_peek_4 : decode kc_Tk_peek 4 = .ok (.iload_n 1, 1) := by decide +kernel
theorem kd_Tk_peek_5 : decode kc_Tk_peek 5 = .ok (.aload_n 0, 1) := by decide +kernel
theorem kd_Tk_peek_6 : decode kc_Tk_peek 6 = .ok (.getfield 30, 3) := by decide +kernel
theorem kd_Tk_peek_9 : decode kc_Tk_peek 9 = .ok (.if_icmp .ge 16, 3) := by decide +kernel
theorem kd_Tk_peek_12 : decode kc_Tk_peek 12 = .ok (.aload_n 0, 1) := by decide +kernel
theorem kd_Tk_peek_13 : decode kc_Tk_peek 13 = .ok (.getfield 26, 3) := by decide +kernel
theorem kd_Tk_peek_16 : decode kc_Tk_peek 16 = .ok (.iload_n 1, 1) := by decide +kernel
theorem kd_Tk_peek_17 : decode kc_Tk_peek 17 = .ok (.baload, 1) := by decide +kernel
theorem kd_Tk_peek_18 : decode kc_Tk_peek 18 = .ok (.sipush 255, 3) := by decide +kernel
theorem kd_Tk_peek_21 : decode kc_Tk_peek 21 = .ok (.iand, 1) := by decide +kernel
theorem kd_Tk_peek_22 : decode kc_Tk_peek 22 = .ok (.goto 4, 3) := by decide +kernel
theorem kd_Tk_peek_25 : decode kc_Tk_peek 25 = .ok (.iconst (-1), 1) := by decide +kernel
theorem kd_Tk_peek_26 : decode kc_Tk_peek 26 = .ok (.ireturn, 1) := by decide +kernel
theorem kd_Tk_readName_0 : decode kc_Tk_readName 0 = .ok (.aload_n 0, 1) := by decide +kernel
theorem kd_Tk_readName_1 : decode kc_Tk_readName 1 = .ok (.getfield 34, 3) := by decide +kernel
theorem kd_Tk_readName_4 : decode kc_Tk_readName 4 = .ok (.istore_n 1, 1) := by decide +kernel
theorem kd_Tk_readName_5 : decode kc_Tk_readName 5 = .ok (.iload_n 1, 1) := by decide +kernel
theorem kd_Tk_readName_6 : decode kc_Tk_readName 6 = .ok (.aload_n 0, 1) := by decide +kernel
theorem kd_Tk_readName_7 : decode kc_Tk_readName 7 = .ok (.getfield 30, 3) := by decide +kernel
theorem kd_Tk_readName_10 : decode kc_Tk_readName 10 = .ok (.if_icmp .ge 21, 3) := by decide +kernel
theorem kd_Tk_readName_13 : decode kc_Tk_readName 13 = .ok (.aload_n 0, 1) := by decide +kernel
theorem kd_Tk_readName_14 : decode kc_Tk_readName 14 = .ok (.getfield 26, 3) := by decide +kernel
theorem kd_Tk_readName_17 : decode kc_Tk_readName 17 = .ok (.iload_n 1, 1) := by decide +kernel
theorem kd_Tk_readName_18 : decode kc_Tk_readName 18 = .ok (.baload, 1) := by decide +kernel
theorem kd_Tk_readName_19 : decode kc_Tk_readName 19 = .ok (.invokestatic 82, 3) := by decide +kernel
theorem kd_Tk_readName_22 : decode kc_Tk_readName 22 = .ok (.ifCond .eq 9, 3) := by decide +kernel
theorem kd_Tk_readName_25 : decode kc_Tk_readName 25 = .ok (.iinc 1 1, 3) := by decide +kernel
theorem kd_Tk_readName_28 : decode kc_Tk_readName 28 = .ok (.goto (-23), 3) := by decide +kernel
theorem kd_Tk_readName_31 : decode kc_Tk_readName 31 = .ok (.aload_n 0, 1) := by decide +kernel
theorem kd_Tk_readName_32 : decode kc_Tk_readName 32 = .ok (.getfield 11, 3) := by decide +kernel
theorem kd_Tk_readName_35 : decode kc_Tk_readName 35 = .ok (.aload_n 0, 1) := by decide +kernel
theorem kd_Tk_readName_36 : decode kc_Tk_readName 36 = .ok (.getfield 26, 3) := by decide +kernel
theorem kd_Tk_readName_39 : decode kc_Tk_readName 39 = .ok (.aload_n 0, 1) := by decide +kernel
theorem kd_Tk_readName_40 : decode kc_Tk_readName 40 = .ok (.getfield 34, 3) := by decide +kernel
theorem kd_Tk_readName_43 : decode kc_Tk_readName 43 = .ok (.iload_n 1, 1) := by decide +kernel
theorem kd_Tk_readName_44 : decode kc_Tk_readName 44 = .ok (.aload_n 0, 1) := by decide +kernel
theorem kd_Tk_readName_45 : decode kc_Tk_readName 45 = .ok (.getfield 34, 3) := by decide +kernel
theorem kd_Tk_readName_48 : decode kc_Tk_readName 48 = .ok (.isub, 1) := by decide +kernel
theorem kd_Tk_readName_49 : decode kc_Tk_readName 49 = .ok (.invokevirtual 85, 3) := by decide +kernel
theorem kd_Tk_readName_52 : decode kc_Tk_readName 52 = .ok (.istore_n 2, 1) := by decide +kernel
theorem kd_Tk_readName_53 : decode kc_Tk_readName 53 = .ok (.iload_n 2, 1) := by decide +kernel
theorem kd_Tk_readName_54 : decode kc_Tk_readName 54 = .ok (.iconst (-1), 1) := by decide +kernel
theorem kd_Tk_readName_55 : decode kc_Tk_readName 55 = .ok (.if_icmp .ne 9, 3) := by decide +kernel
theorem kd_Tk_readName_58 : decode kc_Tk_readName 58 = .ok (.aload_n 0, 1) := by decide +kernel
theorem kd_Tk_readName_59 : decode kc_Tk_readName 59 = .ok (.iconst 3, 1) := by decide +kernel
theorem kd_Tk_readName_60 : decode kc_Tk_readName 60 = .ok (.invokevirtual 58, 3) := by decide +kernel
theorem kd_Tk_readName_63 : decode kc_Tk_readName 63 = .ok (.ireturn, 1) := by decide +kernel
theorem kd_Tk_readName_64 : decode kc_Tk_readName 64 = .ok (.iload_n 2, 1) := by decide +kernel
theorem kd_Tk_readName_65 : decode kc_Tk_readName 65 = .ok (.bipush 41, 2) := by decide +kernel
theorem kd_Tk_readName_67 : decode kc_Tk_readName 67 = .ok (.if_icmp .ge 7, 3) := by decide +kernel
theorem kd_Tk_readName_70 : decode kc_Tk_readName 70 = .ok (.iconst 1, 1) := by decide +kernel
theorem kd_Tk_readName_71 : decode kc_Tk_readName 71 = .ok (.goto 4, 3) := by decide +kernel
theorem kd_Tk_readName_74 : decode kc_Tk_readName 74 = .ok (.iconst 0, 1) := by decide +kernel
theorem kd_Tk_readName_75 : decode kc_Tk_readName 75 = .ok (.istore_n 3, 1) := by decide +kernel
theorem kd_Tk_readName_76 : decode kc_Tk_readName 76 = .ok (.aload_n 0, 1) := by decide +kernel
theorem kd_Tk_readName_77 : decode kc_Tk_readName 77 = .ok (.iload_n 3, 1) := by decide +kernel
theorem kd_Tk_readName_78 : decode kc_Tk_readName 78 = .ok (.ifCond .eq 11, 3) := by decide +kernel
theorem kd_Tk_readName_81 : decode kc_Tk_readName 81 = .ok (.sipush 128, 3) := by decide +kernel
theorem kd_Tk_readName_84 : decode kc_Tk_readName 84 = .ok (.iload_n 2, 1) := by decide +kernel
theorem kd_Tk_readName_85 : decode kc_Tk_readName 85 = .ok (.iadd, 1) := by decide +kernel
theorem kd_Tk_readName_86 : decode kc_Tk_readName 86 = .ok (.goto 5, 3) := by decide +kernel
theorem kd_Tk_readName_89 : decode kc_Tk_readName 89 = .ok (.bipush 8, 2) := by decide +kernel
theorem kd_Tk_readName_91 : decode kc_Tk_readName 91 = .ok (.iload_n 1, 1) := by decide +kernel
theorem kd_Tk_readName_92 : decode kc_Tk_readName 92 = .ok (.iload_n 2, 1) := by decide +kernel
theorem kd_Tk_readName_93 : decode kc_Tk_readName 93 = .ok (.invokevirtual 89, 3) := by decide +kernel
theorem kd_Tk_readName_96 : decode kc_Tk_readName 96 = .ok (.ireturn, 1) := by decide +kernel
theorem kd_Tk_refuse_0 : decode kc_Tk_refuse 0 = .ok (.aload_n 0, 1) := by decide +kernel
theorem kd_Tk_refuse_1 : decode kc_Tk_refuse 1 = .ok (.bipush 7, 2) := by decide +kernel
theorem kd_Tk_refuse_3 : decode kc_Tk_refuse 3 = .ok (.iload_n 1, 1) := by decide +kernel
theorem kd_Tk_refuse_4 : decode kc_Tk_refuse 4 = .ok (.invokevirtual 47, 3) := by decide +kernel
theorem kd_Tk_refuse_7 : decode kc_Tk_refuse 7 = .ok (.iconst 0, 1) := by decide +kernel
theorem kd_Tk_refuse_8 : decode kc_Tk_refuse 8 = .ok (.ireturn, 1) := by decide +kernel
theorem kd_Tk_remarkEnd_0 : decode kc_Tk_remarkEnd 0 = .ok (.iload_n 1, 1) := by decide +kernel
theorem kd_Tk_remarkEnd_1 : decode kc_Tk_remarkEnd 1 = .ok (.istore_n 2, 1) := by decide +kernel
theorem kd_Tk_remarkEnd_2 : decode kc_Tk_remarkEnd 2 = .ok (.iload_n 2, 1) := by decide +kernel
theorem kd_Tk_remarkEnd_3 : decode kc_Tk_remarkEnd 3 = .ok (.iconst 1, 1) := by decide +kernel
theorem kd_Tk_remarkEnd_4 : decode kc_Tk_remarkEnd 4 = .ok (.iadd, 1) := by decide +kernel
theorem kd_Tk_remarkEnd_5 : decode kc_Tk_remarkEnd 5 = .ok (.aload_n 0, 1) := by decide +kernel
theorem kd_Tk_remarkEnd_6 : decode kc_Tk_remarkEnd 6 = .ok (.getfield 30, 3) := by decide +kernel
theorem kd_Tk_remarkEnd_9 : decode kc_Tk_remarkEnd 9 = .ok (.if_icmp .ge 37, 3) := by decide +kernel
theorem kd_Tk_remarkEnd_12 : decode kc_Tk_remarkEnd 12 = .ok (.aload_n 0, 1) := by decide +kernel
theorem kd_Tk_remarkEnd_13 : decode kc_Tk_remarkEnd 13 = .ok (.getfield 26, 3) := by decide +kernel
theorem kd_Tk_remarkEnd_16 : decode kc_Tk_remarkEnd 16 = .ok (.iload_n 2, 1) := by decide +kernel
theorem kd_Tk_remarkEnd_17 : decode kc_Tk_remarkEnd 17 = .ok (.baload, 1) := by decide +kernel
theorem kd_Tk_remarkEnd_18 : decode kc_Tk_remarkEnd 18 = .ok (.bipush 42, 2) := by decide +kernel
theorem kd_Tk_remarkEnd_20 : decode kc_Tk_remarkEnd 20 = .ok (.if_icmp .ne 20, 3) := by decide +kernel
theorem kd_Tk_remarkEnd_23 : decode kc_Tk_remarkEnd 23 = .ok (.aload_n 0, 1) := by decide +kernel
theorem kd_Tk_remarkEnd_24 : decode kc_Tk_remarkEnd 24 = .ok (.getfield 26, 3) := by decide +kernel
theorem kd_Tk_remarkEnd_27 : decode kc_Tk_remarkEnd 27 = .ok (.iload_n 2, 1) := by decide +kernel
theorem kd_Tk_remarkEnd_28 : decode kc_Tk_remarkEnd 28 = .ok (.iconst 1, 1) := by decide +kernel
theorem kd_Tk_remarkEnd_29 : decode kc_Tk_remarkEnd 29 = .ok (.iadd, 1) := by decide +kernel
theorem kd_Tk_remarkEnd_30 : decode kc_Tk_remarkEnd 30 = .ok (.baload, 1) := by decide +kernel
theorem kd_Tk_remarkEnd_31 : decode kc_Tk_remarkEnd 31 = .ok (.bipush 41, 2) := by decide +kernel
theorem kd_Tk_remarkEnd_33 : decode kc_Tk_remarkEnd 33 = .ok (.if_icmp .ne 7, 3) := by decide +kernel
theorem kd_Tk_remarkEnd_36 : decode kc_Tk_remarkEnd 36 = .ok (.iload_n 2, 1) := by decide +kernel
theorem kd_Tk_remarkEnd_37 : decode kc_Tk_remarkEnd 37 = .ok (.iconst 2, 1) := by decide +kernel
theorem kd_Tk_remarkEnd_38 : decode kc_Tk_remarkEnd 38 = .ok (.iadd, 1) := by decide +kernel
theorem kd_Tk_remarkEnd_39 : decode kc_Tk_remarkEnd 39 = .ok (.ireturn, 1) := by decide +kernel
theorem kd_Tk_remarkEnd_40 : decode kc_Tk_remarkEnd 40 = .ok (.iinc 2 1, 3) := by decide +kernel
theorem kd_Tk_remarkEnd_43 : decode kc_Tk_remarkEnd 43 = .ok (.goto (-41), 3) := by decide +kernel
theorem kd_Tk_remarkEnd_46 : decode kc_Tk_remarkEnd 46 = .ok (.iconst (-1), 1) := by decide +kernel
theorem kd_Tk_remarkEnd_47 : decode kc_Tk_remarkEnd 47 = .ok (.ireturn, 1) := by decide +kernel
theorem kd_Tk_skipBlanks_0 : decode kc_Tk_skipBlanks 0 = .ok (.iconst 0, 1) := by decide +kernel
theorem kd_Tk_skipBlanks_1 : decode kc_Tk_skipBlanks 1 = .ok (.istore_n 1, 1) := by decide +kernel
theorem kd_Tk_skipBlanks_2 : decode kc_Tk_skipBlanks 2 = .ok (.iload_n 1, 1) := by decide +kernel
theorem kd_Tk_skipBlanks_3 : decode kc_Tk_skipBlanks 3 = .ok (.sipush 16384, 3) := by decide +kernel
theorem kd_Tk_skipBlanks_6 : decode kc_Tk_skipBlanks 6 = .ok (.if_icmp .gt 108, 3) := by decide +kernel
theorem kd_Tk_skipBlanks_9 : decode kc_Tk_skipBlanks 9 = .ok (.aload_n 0, 1) := by decide +kernel
theorem kd_Tk_skipBlanks_10 : decode kc_Tk_skipBlanks 10 = .ok (.aload_n 0, 1) := by decide +kernel
theorem kd_Tk_skipBlanks_11 : decode kc_Tk_skipBlanks 11 = .ok (.getfield 34, 3) := by decide +kernel
theorem kd_Tk_skipBlanks_14 : decode kc_Tk_skipBlanks 14 = .ok (.invokevirtual 51, 3) := by decide +kernel
theorem kd_Tk_skipBlanks_17 : decode kc_Tk_skipBlanks 17 = .ok (.istore_n 2, 1) := by decide +kernel
theorem kd_Tk_skipBlanks_18 : decode kc_Tk_skipBlanks 18 = .ok (.iload_n 2, 1) := by decide +kernel
theorem kd_Tk_skipBlanks_19 : decode kc_Tk_skipBlanks 19 = .ok (.bipush 9, 2) := by decide +kernel
theorem kd_Tk_skipBlanks_21 : decode kc_Tk_skipBlanks 21 = .ok (.if_icmp .eq 21, 3) := by decide +kernel
theorem kd_Tk_skipBlanks_24 : decode kc_Tk_skipBlanks 24 = .ok (.iload_n 2, 1) := by decide +kernel
theorem kd_Tk_skipBlanks_25 : decode kc_Tk_skipBlanks 25 = .ok (.bipush 10, 2) := by decide +kernel
theorem kd_Tk_skipBlanks_27 : decode kc_Tk_skipBlanks 27 = .ok (.if_icmp .eq 15, 3) := by decide +kernel
theorem kd_Tk_skipBlanks_30 : decode kc_Tk_skipBlanks 30 = .ok (.iload_n 2, 1) := by decide +kernel
theorem kd_Tk_skipBlanks_31 : decode kc_Tk_skipBlanks 31 = .ok (.bipush 13, 2) := by decide +kernel
theorem kd_Tk_skipBlanks_33 : decode kc_Tk_skipBlanks 33 = .ok (.if_icmp .eq 9, 3) := by decide +kernel
theorem kd_Tk_skipBlanks_36 : decode kc_Tk_skipBlanks 36 = .ok (.iload_n 2, 1) := by decide +kernel
theorem kd_Tk_skipBlanks_37 : decode kc_Tk_skipBlanks 37 = .ok (.bipush 32, 2) := by decide +kernel
theorem kd_Tk_skipBlanks_39 : decode kc_Tk_skipBlanks 39 = .ok (.if_icmp .ne 16, 3) := by decide +kernel
theorem kd_Tk_skipBlanks_42 : decode kc_Tk_skipBlanks 42 = .ok (.aload_n 0, 1) := by decide +kernel
theorem kd_Tk_skipBlanks_43 : decode kc_Tk_skipBlanks 43 = .ok (.dup, 1) := by decide +kernel
theorem kd_Tk_skipBlanks_44 : decode kc_Tk_skipBlanks 44 = .ok (.getfield 34, 3) := by decide +kernel
theorem kd_Tk_skipBlanks_47 : decode kc_Tk_skipBlanks 47 = .ok (.iconst 1, 1) := by decide +kernel
theorem kd_Tk_skipBlanks_48 : decode kc_Tk_skipBlanks 48 = .ok (.iadd, 1) := by decide +kernel
theorem kd_Tk_skipBlanks_49 : decode kc_Tk_skipBlanks 49 = .ok (.putfield 34, 3) := by decide +kernel
theorem kd_Tk_skipBlanks_52 : decode kc_Tk_skipBlanks 52 = .ok (.goto 56, 3) := by decide +kernel
theorem kd_Tk_skipBlanks_55 : decode kc_Tk_skipBlanks 55 = .ok (.iload_n 2, 1) := by decide +kernel
theorem kd_Tk_skipBlanks_56 : decode kc_Tk_skipBlanks 56 = .ok (.bipush 40, 2) := by decide +kernel
theorem kd_Tk_skipBlanks_58 : decode kc_Tk_skipBlanks 58 = .ok (.if_icmp .ne 48, 3) := by decide +kernel
theorem kd_Tk_skipBlanks_61 : decode kc_Tk_skipBlanks 61 = .ok (.aload_n 0, 1) := by decide +kernel
theorem kd_Tk_skipBlanks_62 : decode kc_Tk_skipBlanks 62 = .ok (.aload_n 0, 1) := by decide +kernel
theorem kd_Tk_skipBlanks_63 : decode kc_Tk_skipBlanks 63 = .ok (.getfield 34, 3) := by decide +kernel
theorem kd_Tk_skipBlanks_66 : decode kc_Tk_skipBlanks 66 = .ok (.iconst 1, 1) := by decide +kernel
theorem kd_Tk_skipBlanks_67 : decode kc_Tk_skipBlanks 67 = .ok (.iadd, 1) := by decide +kernel
theorem kd_Tk_skipBlanks_68 : decode kc_Tk_skipBlanks 68 = .ok (.invokevirtual 51, 3) := by decide +kernel
theorem kd_Tk_skipBlanks_71 : decode kc_Tk_skipBlanks 71 = .ok (.bipush 42, 2) := by decide +kernel
theorem kd_Tk_skipBlanks_73 : decode kc_Tk_skipBlanks 73 = .ok (.if_icmp .ne 33, 3) := by decide +kernel
theorem kd_Tk_skipBlanks_76 : decode kc_Tk_skipBlanks 76 = .ok (.aload_n 0, 1) := by decide +kernel
theorem kd_Tk_skipBlanks_77 : decode kc_Tk_skipBlanks 77 = .ok (.aload_n 0, 1) := by decide +kernel
theorem kd_Tk_skipBlanks_78 : decode kc_Tk_skipBlanks 78 = .ok (.getfield 34, 3) := by decide +kernel
theorem kd_Tk_skipBlanks_81 : decode kc_Tk_skipBlanks 81 = .ok (.iconst 2, 1) := by decide +kernel
theorem kd_Tk_skipBlanks_82 : decode kc_Tk_skipBlanks 82 = .ok (.iadd, 1) := by decide +kernel
theorem kd_Tk_skipBlanks_83 : decode kc_Tk_skipBlanks 83 = .ok (.invokevirtual 55, 3) := by decide +kernel
theorem kd_Tk_skipBlanks_86 : decode kc_Tk_skipBlanks 86 = .ok (.istore_n 3, 1) := by decide +kernel
theorem kd_Tk_skipBlanks_87 : decode kc_Tk_skipBlanks 87 = .ok (.iload_n 3, 1) := by decide +kernel
theorem kd_Tk_skipBlanks_88 : decode kc_Tk_skipBlanks 88 = .ok (.iconst (-1), 1) := by decide +kernel
theorem kd_Tk_skipBlanks_89 : decode kc_Tk_skipBlanks 89 = .ok (.if_icmp .ne 9, 3) := by decide +kernel
theorem kd_Tk_skipBlanks_92 : decode kc_Tk_skipBlanks 92 = .ok (.aload_n 0, 1) := by decide +kernel
theorem kd_Tk_skipBlanks_93 : decode kc_Tk_skipBlanks 93 = .ok (.iconst 2, 1) := by decide +kernel
theorem kd_Tk_skipBlanks_94 : decode kc_Tk_skipBlanks 94 = .ok (.invokevirtual 58, 3) := by decide +kernel
theorem kd_Tk_skipBlanks_97 : decode kc_Tk_skipBlanks 97 = .ok (.ireturn, 1) := by decide +kernel
theorem kd_Tk_skipBlanks_98 : decode kc_Tk_skipBlanks 98 = .ok (.aload_n 0, 1) := by decide +kernel
theorem kd_Tk_skipBlanks_99 : decode kc_Tk_skipBlanks 99 = .ok (.iload_n 3, 1) := by decide +kernel
theorem kd_Tk_skipBlanks_100 : decode kc_Tk_skipBlanks 100 = .ok (.putfield 34, 3) := by decide +kernel
theorem kd_Tk_skipBlanks_103 : decode kc_Tk_skipBlanks 103 = .ok (.goto 5, 3) := by decide +kernel
theorem kd_Tk_skipBlanks_106 : decode kc_Tk_skipBlanks 106 = .ok (.iconst 1, 1) := by decide +kernel
theorem kd_Tk_skipBlanks_107 : decode kc_Tk_skipBlanks 107 = .ok (.ireturn, 1) := by decide +kernel
theorem kd_Tk_skipBlanks_108 : decode kc_Tk_skipBlanks 108 = .ok (.iinc 1 1, 3) := by decide +kernel
theorem kd_Tk_skipBlanks_111 : decode kc_Tk_skipBlanks 111 = .ok (.goto (-109), 3) := by decide +kernel
theorem kd_Tk_skipBlanks_114 : decode kc_Tk_skipBlanks 114 = .ok (.iconst 1, 1) := by decide +kernel
theorem kd_Tk_skipBlanks_115 : decode kc_Tk_skipBlanks 115 = .ok (.ireturn, 1) := by decide +kernel
set_option maxHeartbeats 4000000 in
set_option maxRecDepth 100000 in
theorem zb_Mc_beginAnew_63 {X : zkj_T} {S : zs_T} {P : ze_T} {l : Launch} {D : va_G} {sz0 : Nat} {rh : zs_H} (C : zk_C X km_Mc_beginAnew (zs_G S l D sz0) { frames := 402, cells := 0, slots := 0, locals := 10887 } (ze_E P)) (hR : zkj_R X (zd_PV S rh) (none)) {k24 : zs_H → Int32 → (Option zs_H)} (hk24 : ∀ (h : zs_H) (x1 : Int32), k24 h x1 = some rh → zk_Ab X (zs_W S h) 0 0 24 [(0, .ref (S.1 58)), (1, .int x1)] []) (h : zs_H) (x1 : Int32) (e : f_Mc_beginAnew_63 k24 h x1 = some rh) : zk_Ab X (zs_W S h) 0 0 63 [(0, .ref (S.1 58)), (1, .int x1)] [] := by
  unfold f_Mc_beginAnew_63 at e
  refine zk_iinc (v := (x1 + 1)) (lv' := [(1, _), (0, _)]) C kd_Mc_beginAnew_63 1 rfl rfl (by decide) rfl rfl ?_
  refine zk_goto (tgt := 24) C kd_Mc_beginAnew_66 (by decide) ?_
  refine zk_lvs (lv' := [(0, .ref (S.1 58)), (1, .int (x1 + 1))]) [1, 0] rfl ?_
  exact hk24 h (x1 + 1) e
set_option maxHeartbeats 4000000 in
set_option maxRecDepth 100000 in
theorem zb_Mc_beginAnew_24 {X : zkj_T} {S : zs_T} {P : ze_T} {l : Launch} {D : va_G} {sz0 : Nat} {rh : zs_H} (C : zk_C X km_Mc_beginAnew (zs_G S l D sz0) { frames := 402, cells := 0, slots := 0, locals := 10887 } (ze_E P)) (hR : zkj_R X (zd_PV S rh) (none)) {k24 : zs_H → Int32 → (Option zs_H)} (hk24 : ∀ (h : zs_H) (x1 : Int32), k24 h x1 = some rh → zk_Ab X (zs_W S h) 0 0 24 [(0, .ref (S.1 58)), (1, .int x1)] []) (h : zs_H) (x1 : Int32) (e : f_Mc_beginAnew_24 k24 h x1 = some rh) : zk_Ab X (zs_W S h) 0 0 24 [(0, .ref (S.1 58)), (1, .int x1)] [] := by
  unfold f_Mc_beginAnew_24 at e
  refine zk_iload_n C kd_Mc_beginAnew_24 rfl 1 rfl rfl ?_
  refine zk_aload_n C kd_Mc_beginAnew_25 rfl 0 rfl rfl ?_
  refine zs_get (v := .ref (S.1 20)) C 58 11 rfl rfl rfl rfl ki_Mc (by decide) kw538 kd_Mc_beginAnew_26 rfl ?_
  refine zs_get (v := .int (h.1 20 17)) C 20 17 rfl rfl rfl rfl ki_Pl (by decide) kw291 kd_Mc_beginAnew_29 rfl ?_
  refine zk_icmp_ge (tgt := 69) C kd_Mc_beginAnew_32 (by decide) rfl (fun b1 => ?_) (fun b1 => ?_)
  · replace e := zd_pos b1 e
    refine zk_aload_n C kd_Mc_beginAnew_69 rfl 0 rfl rfl ?_
    refine zk_aload_n C kd_Mc_beginAnew_70 rfl 0 rfl rfl ?_
    refine zs_get (v := .ref (S.1 61)) C 58 2 rfl rfl rfl rfl ki_Mc (by decide) kw520 kd_Mc_beginAnew_71 rfl ?_
    obtain ⟨h3, c2, e⟩ := zd_b e
    refine zs_callV (k := 58) (rn := { frames := 0, cells := 0, slots := 0, locals := 0 }) (As := [.ref (S.1 61)]) (rest := []) C (zc_Mc_publish_c61 h c2) ku_Mc_publish kw1464 kv_Mc_publish rfl ⟨by decide, by decide⟩ ⟨by decide, by decide⟩ rfl rfl rfl (Nat.le_of_ble_eq_true rfl) kd_Mc_beginAnew_74 rfl (c1 := 0) (s1 := 0) rfl rfl (fun v w hp => ?_)
    obtain ⟨rfl, rfl⟩ := hp
    refine zk_stk (r' := []) rfl ?_
    exact zk_vret C hR kd_Mc_beginAnew_77 rfl rfl (zd_rV e)
  · replace e := zd_neg b1 e
    refine zk_aload_n C kd_Mc_beginAnew_35 rfl 0 rfl rfl ?_
    refine zs_get (v := .ref (S.1 20)) C 58 11 rfl rfl rfl rfl ki_Mc (by decide) kw538 kd_Mc_beginAnew_36 rfl ?_
    refine zs_get (v := .ref (S.1 21)) C 20 0 rfl rfl rfl rfl ki_Pl (by decide) kw234 kd_Mc_beginAnew_39 rfl ?_
    refine zk_iload_n C kd_Mc_beginAnew_42 rfl 1 rfl rfl ?_
    obtain ⟨q4, e⟩ := zd_g e
    refine zs_iald C 21 rfl (zd_vp q4) kd_Mc_beginAnew_43 rfl ?_
    refine zk_iconst (v := 2) C kd_Mc_beginAnew_44 (by decide) rfl ?_
    refine zk_icmp_eq (tgt := 63) C kd_Mc_beginAnew_45 (by decide) rfl (fun b5 => ?_) (fun b5 => ?_)
    · replace e := zd_pos b5 e
      refine zk_lvs (lv' := [(0, .ref (S.1 58)), (1, .int x1)]) [0, 1] rfl ?_
      exact zb_Mc_beginAnew_63 C hR hk24 h x1 e
    · replace e := zd_neg b5 e
      refine zk_aload_n C kd_Mc_beginAnew_48 rfl 0 rfl rfl ?_
      refine zk_iload_n C kd_Mc_beginAnew_49 rfl 1 rfl rfl ?_
      refine zk_aload_n C kd_Mc_beginAnew_50 rfl 0 rfl rfl ?_
      refine zs_get (v := .ref (S.1 20)) C 58 11 rfl rfl rfl rfl ki_Mc (by decide) kw538 kd_Mc_beginAnew_51 rfl ?_
      refine zs_get (v := .ref (S.1 27)) C 20 6 rfl rfl rfl rfl ki_Pl (by decide) kw254 kd_Mc_beginAnew_54 rfl ?_
      refine zk_iload_n C kd_Mc_beginAnew_57 rfl 1 rfl rfl ?_
      refine zs_iald C 27 rfl (zd_vp q4) kd_Mc_beginAnew_58 rfl ?_
      refine zk_iconst (v := 0) C kd_Mc_beginAnew_59 (by decide) rfl ?_
      obtain ⟨h7, c6, e⟩ := zd_b e
      refine zs_callV (k := 58) (rn := { frames := 1 + 400, cells := 0, slots := 0, locals := 60 + 27 * 400 }) (As := [.int x1, .int (h.2.1 27 x1.toNatClampNeg), .int 0]) (rest := []) C (zc_Mc_setConstants h x1 (h.2.1 27 x1.toNatClampNeg) 0 c6) ku_Mc_setConstants kw1449 kv_Mc_setConstants rfl ⟨by decide, by decide⟩ ⟨by decide, by decide⟩ rfl rfl rfl (Nat.le_of_ble_eq_true rfl) kd_Mc_beginAnew_60 rfl (c1 := 0) (s1 := 0) rfl rfl (fun v w hp => ?_)
      obtain ⟨rfl, rfl⟩ := hp
      refine zk_stk (r' := []) rfl ?_
      refine zk_lvs (lv' := [(0, .ref (S.1 58)), (1, .int x1)]) [0, 1] rfl ?_
      exact zb_Mc_beginAnew_63 C hR hk24 h7 x1 e
theorem zl_Mc_beginAnew_24 {X : zkj_T} {S : zs_T} {P : ze_T} {l : Launch} {D : va_G} {sz0 : Nat} {rh : zs_H} (C : zk_C X km_Mc_beginAnew (zs_G S l D sz0) { frames := 402, cells := 0, slots := 0, locals := 10887 } (ze_E P)) (hR : zkj_R X (zd_PV S rh) (none)) (n : Nat) : ∀ (h : zs_H) (x1 : Int32), f_Mc_beginAnew_L24 n h x1 = some rh → zk_Ab X (zs_W S h) 0 0 24 [(0, .ref (S.1 58)), (1, .int x1)] [] := by
  induction n with
  | zero => intro h x1 e; exact zd_no e
  | succ n ih => intro h x1 e; exact zb_Mc_beginAnew_24 (k24 := f_Mc_beginAnew_L24  n) C hR ih h x1 e
set_option maxHeartbeats 4000000 in
set_option maxRecDepth 100000 in
theorem zc_Mc_beginAnew {l : Launch} {D : va_G} {sz0 : Nat} {S : zs_T} {P : ze_T} (h : zs_H) {rh : zs_H} (e : f_Mc_beginAnew h = some rh) : zk_Sp (zs_G S l D sz0) (ze_E P) km_Mc_beginAnew { frames := 402, cells := 0, slots := 0, locals := 10887 } [.ref (S.1 58)] (zs_W S h) (zd_PV S rh) := by
  refine zk_met ku_Mc_beginAnew (Nat.le_of_ble_eq_true rfl) (ze_Em P) ?_
  intro X C hR
  refine zk_lvs (lv' := [(0, .ref (S.1 58))]) [0] rfl ?_
  unfold f_Mc_beginAnew at e
  refine zk_aload_n C kd_Mc_beginAnew_0 rfl 0 rfl rfl ?_
  refine zk_iconst (v := 0) C kd_Mc_beginAnew_1 (by decide) rfl ?_
  refine zs_put (ty := .boolean) C 58 4 0 rfl rfl rfl rfl ki_Mc ky_Mc ko_Mc kn_Mc (by decide) kw525 rfl rfl rfl rfl (by decide) kd_Mc_beginAnew_2 rfl ?_
  refine zk_aload_n C kd_Mc_beginAnew_5 rfl 0 rfl rfl ?_
  refine zs_get (v := .ref (S.1 62)) C 58 12 rfl rfl rfl rfl ki_Mc (by decide) kw539 kd_Mc_beginAnew_6 rfl ?_
  refine zk_iconst (v := 0) C kd_Mc_beginAnew_9 (by decide) rfl ?_
  obtain ⟨h2, c1, e⟩ := zd_b e
  refine zk_callS (rn := { frames := 0, cells := 0, slots := 0, locals := 0 }) (As := [.ref (S.1 62), .int 0]) (rest := []) C (zc_Ar_fill_c62 (zs_uF h 58 4 0) 0 c1) ku_Ar_fill kw1448 ks_Ar_fill rfl ⟨by decide, by decide⟩ ⟨by decide, by decide⟩ rfl (Nat.le_of_ble_eq_true rfl) kd_Mc_beginAnew_10 rfl (c1 := 0) (s1 := 0) rfl rfl (fun v w hp => ?_)
  obtain ⟨rfl, rfl⟩ := hp
  refine zk_stk (r' := []) rfl ?_
  refine zk_aload_n C kd_Mc_beginAnew_13 rfl 0 rfl rfl ?_
  refine zs_get (v := .ref (S.1 65)) C 58 16 rfl rfl rfl rfl ki_Mc (by decide) kw543 kd_Mc_beginAnew_14 rfl ?_
  refine zk_iconst (v := (-1)) C kd_Mc_beginAnew_17 (by decide) rfl ?_
  obtain ⟨h4, c3, e⟩ := zd_b e
  refine zk_callS (rn := { frames := 0, cells := 0, slots := 0, locals := 0 }) (As := [.ref (S.1 65), .int (-1)]) (rest := []) C (zc_Ar_fill_c65 h2 (-1) c3) ku_Ar_fill kw1448 ks_Ar_fill rfl ⟨by decide, by decide⟩ ⟨by decide, by decide⟩ rfl (Nat.le_of_ble_eq_true rfl) kd_Mc_beginAnew_18 rfl (c1 := 0) (s1 := 0) rfl rfl (fun v w hp => ?_)
  obtain ⟨rfl, rfl⟩ := hp
  refine zk_stk (r' := []) rfl ?_
  refine zk_bipush (v := 9) C kd_Mc_beginAnew_21 (by decide) rfl ?_
  refine zk_istore_n (lv' := [(1, _), (0, _)]) C kd_Mc_beginAnew_23 rfl (by decide) rfl rfl ?_
  refine zk_lvs (lv' := [(0, .ref (S.1 58)), (1, .int 9)]) [1, 0] rfl ?_
  exact zl_Mc_beginAnew_24 C hR zF h4 9 e
set_option maxHeartbeats 4000000 in
set_option maxRecDepth 100000 in
theorem zc_Pk_restart {l : Launch} {D : va_G} {sz0 : Nat} {S : zs_T} {P : ze_T} (h : zs_H) {rv : Int32} {rh : zs_H} (e : f_Pk_restart h = some (rv, rh)) : zk_Sp (zs_G S l D sz0) (ze_E P) km_Pk_restart { frames := 403, cells := 0, slots := 0, locals := 10908 } [.ref (S.1 0)] (zs_W S h) (zd_PI S rv rh) := by
  refine zk_met ku_Pk_restart (Nat.le_of_ble_eq_true rfl) (ze_Em P) ?_
  intro X C hR
  refine zk_lvs (lv' := [(0, .ref (S.1 0))]) [0] rfl ?_
  unfold f_Pk_restart at e
  refine zk_aload_n C kd_Pk_restart_0 rfl 0 rfl rfl ?_
  refine zs_get (v := .ref (S.1 58)) C 0 14 rfl rfl rfl rfl ki_Pk (by decide) kw633 kd_Pk_restart_1 rfl ?_
  refine zs_get (v := .int (h.1 58 3)) C 58 3 rfl rfl rfl rfl ki_Mc (by decide) kw524 kd_Pk_restart_4 rfl ?_
  refine zk_if_ne (tgt := 13) C kd_Pk_restart_7 (by decide) rfl (fun b1 => ?_) (fun b1 => ?_)
  · replace e := zd_neg b1 e
    refine zk_aload_n C kd_Pk_restart_13 rfl 0 rfl rfl ?_
    refine zs_get (v := .ref (S.1 58)) C 0 14 rfl rfl rfl rfl ki_Pk (by decide) kw633 kd_Pk_restart_14 rfl ?_
    obtain ⟨h3, c2, e⟩ := zd_b e
    refine zs_callV (k := 58) (rn := { frames := 402, cells := 0, slots := 0, locals := 10887 }) (As := []) (rest := []) C (zc_Mc_beginAnew h c2) ku_Mc_beginAnew kw1473 kv_Mc_beginAnew rfl ⟨by decide, by decide⟩ ⟨by decide, by decide⟩ rfl rfl rfl (Nat.le_of_ble_eq_true rfl) kd_Pk_restart_17 rfl (c1 := 0) (s1 := 0) rfl rfl (fun v w hp => ?_)
    obtain ⟨rfl, rfl⟩ := hp
    refine zk_stk (r' := []) rfl ?_
    refine zk_iconst (v := 0) C kd_Pk_restart_20 (by decide) rfl ?_
    exact zk_iret C hR kd_Pk_restart_21 rfl rfl (zd_rIS e)
  · replace e := zd_pos b1 e
    refine zk_bipush (v := (-5)) C kd_Pk_restart_10 (by decide) rfl ?_
    exact zk_iret C hR kd_Pk_restart_12 rfl rfl (zd_rIS e)
set_option maxHeartbeats 4000000 in
set_option maxRecDepth 100000 in
theorem zc_Mc_forget {l : Launch} {D : va_G} {sz0 : Nat} {S : zs_T} {P : ze_T} (h : zs_H) {rh : zs_H} (e : f_Mc_forget h = some rh) : zk_Sp (zs_G S l D sz0) (ze_E P) km_Mc_forget { frames := 0, cells := 0, slots := 0, locals := 0 } [.ref (S.1 58)] (zs_W S h) (zd_PV S rh) := by
  refine zk_met ku_Mc_forget (Nat.le_of_ble_eq_true rfl) (ze_Em P) ?_
  intro X C hR
  refine zk_lvs (lv' := [(0, .ref (S.1 58))]) [0] rfl ?_
  unfold f_Mc_forget at e
  refine zk_aload_n C kd_Mc_forget_0 rfl 0 rfl rfl ?_
  refine zk_iconst (v := 0) C kd_Mc_forget_1 (by decide) rfl ?_
  refine zs_put (ty := .boolean) C 58 3 0 rfl rfl rfl rfl ki_Mc ky_Mc ko_Mc kn_Mc (by decide) kw522 rfl rfl rfl rfl (by decide) kd_Mc_forget_2 rfl ?_
  refine zk_aload_n C kd_Mc_forget_5 rfl 0 rfl rfl ?_
  refine zk_iconst (v := 0) C kd_Mc_forget_6 (by decide) rfl ?_
  refine zs_put (ty := .boolean) C 58 4 0 rfl rfl rfl rfl ki_Mc ky_Mc ko_Mc kn_Mc (by decide) kw525 rfl rfl rfl rfl (by decide) kd_Mc_forget_7 rfl ?_
  refine zk_aload_n C kd_Mc_forget_10 rfl 0 rfl rfl ?_
  refine zk_iconst (v := 0) C kd_Mc_forget_11 (by decide) rfl ?_
  refine zs_put (ty := .int) C 58 5 0 rfl rfl rfl rfl ki_Mc ky_Mc ko_Mc kn_Mc (by decide) kw527 rfl rfl rfl rfl (by decide) kd_Mc_forget_12 rfl ?_
  refine zk_aload_n C kd_Mc_forget_15 rfl 0 rfl rfl ?_
  refine zk_iconst (v := 0) C kd_Mc_forget_16 (by decide) rfl ?_
  refine zs_put (ty := .int) C 58 6 0 rfl rfl rfl rfl ki_Mc ky_Mc ko_Mc kn_Mc (by decide) kw529 rfl rfl rfl rfl (by decide) kd_Mc_forget_17 rfl ?_
  refine zk_aload_n C kd_Mc_forget_20 rfl 0 rfl rfl ?_
  refine zk_iconst (v := 0) C kd_Mc_forget_21 (by decide) rfl ?_
  refine zs_put (ty := .int) C 58 7 0 rfl rfl rfl rfl ki_Mc ky_Mc ko_Mc kn_Mc (by decide) kw531 rfl rfl rfl rfl (by decide) kd_Mc_forget_22 rfl ?_
  refine zk_aload_n C kd_Mc_forget_25 rfl 0 rfl rfl ?_
  refine zk_iconst (v := 0) C kd_Mc_forget_26 (by decide) rfl ?_
  refine zs_put (ty := .int) C 58 8 0 rfl rfl rfl rfl ki_Mc ky_Mc ko_Mc kn_Mc (by decide) kw533 rfl rfl rfl rfl (by decide) kd_Mc_forget_27 rfl ?_
  refine zk_aload_n C kd_Mc_forget_30 rfl 0 rfl rfl ?_
  refine zk_iconst (v := 0) C kd_Mc_forget_31 (by decide) rfl ?_
  refine zs_put (ty := .int) C 58 9 0 rfl rfl rfl rfl ki_Mc ky_Mc ko_Mc kn_Mc (by decide) kw535 rfl rfl rfl rfl (by decide) kd_Mc_forget_32 rfl ?_
  exact zk_vret C hR kd_Mc_forget_35 rfl rfl (zd_rV e)
set_option maxHeartbeats 4000000 in
set_option maxRecDepth 100000 in
theorem zb_Nm_headOf_c3_5 {X : zkj_T} {S : zs_T} {P : ze_T} {l : Launch} {D : va_G} {sz0 : Nat} {rv : Int32} {h : zs_H} (C : zk_C X km_Nm_headOf (zs_G S l D sz0) { frames := 1, cells := 0, slots := 0, locals := 20 } (ze_E P)) (hR : zkj_R X (zd_PI S rv h) (some .int)) {k5 : Int32 → Int32 → Int32 → Int32 → (Option Int32)} (hk5 : ∀ (x1 : Int32) (x2 : Int32) (x3 : Int32) (x4 : Int32), k5 x1 x2 x3 x4 = some rv → zk_Ab X (zs_W S h) 0 0 5 [(0, .ref (S.1 3)), (1, .int x1), (2, .int x2), (3, .int x3), (4, .int x4)] []) (x1 : Int32) (x2 : Int32) (x3 : Int32) (x4 : Int32) (e : f_Nm_headOf_c3_5 h k5 x1 x2 x3 x4 = some rv) : zk_Ab X (zs_W S h) 0 0 5 [(0, .ref (S.1 3)), (1, .int x1), (2, .int x2), (3, .int x3), (4, .int x4)] [] := by
  unfold f_Nm_headOf_c3_5 at e
  refine zk_iload C kd_Nm_headOf_5 4 rfl rfl ?_
  refine zk_iload_n C kd_Nm_headOf_7 rfl 2 rfl rfl ?_
  refine zk_icmp_ge (tgt := 32) C kd_Nm_headOf_8 (by decide) rfl (fun b1 => ?_) (fun b1 => ?_)
  · replace e := zd_pos b1 e
    refine zk_iload_n C kd_Nm_headOf_32 rfl 3 rfl rfl ?_
    refine zk_iload_n C kd_Nm_headOf_33 rfl 3 rfl rfl ?_
    refine zk_bipush (v := 11) C kd_Nm_headOf_34 (by decide) rfl ?_
    refine zk_iushr C kd_Nm_headOf_36 rfl ?_
    refine zk_ixor C kd_Nm_headOf_37 rfl ?_
    refine zk_sipush (v := 1023) C kd_Nm_headOf_38 (by decide) rfl ?_
    refine zk_iand C kd_Nm_headOf_41 rfl ?_
    exact zk_iret C hR kd_Nm_headOf_42 rfl rfl (zd_rIO e)
  · replace e := zd_neg b1 e
    refine zk_iload_n C kd_Nm_headOf_11 rfl 3 rfl rfl ?_
    refine zk_bipush (v := 31) C kd_Nm_headOf_12 (by decide) rfl ?_
    refine zk_imul C kd_Nm_headOf_14 rfl ?_
    refine zk_aload_n C kd_Nm_headOf_15 rfl 0 rfl rfl ?_
    refine zk_iload_n C kd_Nm_headOf_16 rfl 1 rfl rfl ?_
    refine zk_iload C kd_Nm_headOf_17 4 rfl rfl ?_
    refine zk_iadd C kd_Nm_headOf_19 rfl ?_
    obtain ⟨q2, e⟩ := zd_g e
    refine zs_bald C 3 rfl (zd_vp q2) kd_Nm_headOf_20 rfl ?_
    refine zk_callS (rn := { frames := 0, cells := 0, slots := 0, locals := 0 }) (As := [.int (h.2.1 3 (x1 + x4).toNatClampNeg)]) (rest := [.int (x3 * 31)]) C (zc_Nm_great h (h.2.1 3 (x1 + x4).toNatClampNeg)) ku_Nm_great kw707 ks_Nm_great rfl ⟨by decide, by decide⟩ ⟨by decide, by decide⟩ rfl (Nat.le_of_ble_eq_true rfl) kd_Nm_headOf_21 rfl (c1 := 0) (s1 := 0) rfl rfl (fun v w hp => ?_)
    obtain ⟨rfl, rfl⟩ := hp
    refine zk_stk (r' := [.int (f_Nm_great (h.2.1 3 (x1 + x4).toNatClampNeg)), .int (x3 * 31)]) rfl ?_
    refine zk_iadd C kd_Nm_headOf_24 rfl ?_
    refine zk_istore_n (lv' := [(3, _), (0, _), (1, _), (2, _), (4, _)]) C kd_Nm_headOf_25 rfl (by decide) rfl rfl ?_
    refine zk_iinc (v := (x4 + 1)) (lv' := [(4, _), (3, _), (0, _), (1, _), (2, _)]) C kd_Nm_headOf_26 4 rfl rfl (by decide) rfl rfl ?_
    refine zk_goto (tgt := 5) C kd_Nm_headOf_29 (by decide) ?_
    refine zk_lvs (lv' := [(0, .ref (S.1 3)), (1, .int x1), (2, .int x2), (3, .int ((x3 * 31) + (f_Nm_great (h.2.1 3 (x1 + x4).toNatClampNeg)))), (4, .int (x4 + 1))]) [2, 3, 4, 1, 0] rfl ?_
    exact hk5 x1 x2 ((x3 * 31) + (f_Nm_great (h.2.1 3 (x1 + x4).toNatClampNeg))) (x4 + 1) e
theorem zl_Nm_headOf_c3_5 {X : zkj_T} {S : zs_T} {P : ze_T} {l : Launch} {D : va_G} {sz0 : Nat} {rv : Int32} {h : zs_H} (C : zk_C X km_Nm_headOf (zs_G S l D sz0) { frames := 1, cells := 0, slots := 0, locals := 20 } (ze_E P)) (hR : zkj_R X (zd_PI S rv h) (some .int)) (n : Nat) : ∀ (x1 : Int32) (x2 : Int32) (x3 : Int32) (x4 : Int32), f_Nm_headOf_c3_L5 h n x1 x2 x3 x4 = some rv → zk_Ab X (zs_W S h) 0 0 5 [(0, .ref (S.1 3)), (1, .int x1), (2, .int x2), (3, .int x3), (4, .int x4)] [] := by
  induction n with
  | zero => intro x1 x2 x3 x4 e; exact zd_no e
  | succ n ih => intro x1 x2 x3 x4 e; exact zb_Nm_headOf_c3_5 (k5 := f_Nm_headOf_c3_L5 h n) C hR ih x1 x2 x3 x4 e
set_option maxHeartbeats 4000000 in
set_option maxRecDepth 100000 in
theorem zc_Nm_headOf_c3 {l : Launch} {D : va_G} {sz0 : Nat} {S : zs_T} {P : ze_T} (h : zs_H) (x1 : Int32) (x2 : Int32) {rv : Int32} (e : f_Nm_headOf_c3 h x1 x2 = some rv) : zk_Sp (zs_G S l D sz0) (ze_E P) km_Nm_headOf { frames := 1, cells := 0, slots := 0, locals := 20 } [.ref (S.1 3), .int x1, .int x2] (zs_W S h) (zd_PI S rv h) := by
  refine zk_met ku_Nm_headOf (Nat.le_of_ble_eq_true rfl) (ze_Em P) ?_
  intro X C hR
  refine zk_lvs (lv' := [(0, .ref (S.1 3)), (1, .int x1), (2, .int x2)]) [0, 1, 2] rfl ?_
  unfold f_Nm_headOf_c3 at e
  refine zk_iload_n C kd_Nm_headOf_0 rfl 2 rfl rfl ?_
  refine zk_istore_n (lv' := [(3, _), (0, _), (1, _), (2, _)]) C kd_Nm_headOf_1 rfl (by decide) rfl rfl ?_
  refine zk_iconst (v := 0) C kd_Nm_headOf_2 (by decide) rfl ?_
  refine zk_istore (lv' := [(4, _), (3, _), (0, _), (1, _), (2, _)]) C kd_Nm_headOf_3 (by decide) rfl rfl ?_
  refine zk_lvs (lv' := [(0, .ref (S.1 3)), (1, .int x1), (2, .int x2), (3, .int x2), (4, .int 0)]) [2, 3, 4, 1, 0] rfl ?_
  exact zl_Nm_headOf_c3_5 C hR zF x1 x2 x2 0 e
set_option maxHeartbeats 4000000 in
set_option maxRecDepth 100000 in
theorem zb_Nm_isSame_c3_25 {X : zkj_T} {S : zs_T} {P : ze_T} {l : Launch} {D : va_G} {sz0 : Nat} {rv : Int32} {h : zs_H} (C : zk_C X km_Nm_isSame (zs_G S l D sz0) { frames := 1, cells := 0, slots := 0, locals := 20 } (ze_E P)) (hR : zkj_R X (zd_PZ S rv h) (some .boolean)) {k25 : Int32 → Int32 → Int32 → Int32 → (Option Int32)} (hk25 : ∀ (x1 : Int32) (x3 : Int32) (x4 : Int32) (x5 : Int32), k25 x1 x3 x4 x5 = some rv → zk_Ab X (zs_W S h) 0 0 25 [(0, .ref (S.1 2)), (1, .int x1), (2, .ref (S.1 3)), (3, .int x3), (4, .int x4), (5, .int x5)] []) (x1 : Int32) (x3 : Int32) (x4 : Int32) (x5 : Int32) (e : f_Nm_isSame_c3_25 h k25 x1 x3 x4 x5 = some rv) : zk_Ab X (zs_W S h) 0 0 25 [(0, .ref (S.1 2)), (1, .int x1), (2, .ref (S.1 3)), (3, .int x3), (4, .int x4), (5, .int x5)] [] := by
  unfold f_Nm_isSame_c3_25 at e
  refine zk_iload C kd_Nm_isSame_25 5 rfl rfl ?_
  refine zk_iload C kd_Nm_isSame_27 4 rfl rfl ?_
  refine zk_icmp_ge (tgt := 66) C kd_Nm_isSame_29 (by decide) rfl (fun b1 => ?_) (fun b1 => ?_)
  · replace e := zd_pos b1 e
    refine zk_iconst (v := 1) C kd_Nm_isSame_66 (by decide) rfl ?_
    exact zk_zret C hR (zd_nb (Or.inr rfl)) kd_Nm_isSame_67 rfl rfl (zd_rZO (Or.inr rfl) e)
  · replace e := zd_neg b1 e
    refine zk_aload_n C kd_Nm_isSame_32 rfl 0 rfl rfl ?_
    refine zs_get (v := .ref (S.1 4)) C 2 1 rfl rfl rfl rfl ki_Nm (by decide) kw92 kd_Nm_isSame_33 rfl ?_
    refine zk_aload_n C kd_Nm_isSame_36 rfl 0 rfl rfl ?_
    refine zs_get (v := .ref (S.1 5)) C 2 2 rfl rfl rfl rfl ki_Nm (by decide) kw93 kd_Nm_isSame_37 rfl ?_
    refine zk_iload_n C kd_Nm_isSame_40 rfl 1 rfl rfl ?_
    obtain ⟨q2, e⟩ := zd_g e
    refine zs_iald C 5 rfl (zd_vp q2) kd_Nm_isSame_41 rfl ?_
    refine zk_iload C kd_Nm_isSame_42 5 rfl rfl ?_
    refine zk_iadd C kd_Nm_isSame_44 rfl ?_
    obtain ⟨q3, e⟩ := zd_g e
    refine zs_bald C 4 rfl (zd_vp q3) kd_Nm_isSame_45 rfl ?_
    refine zk_aload_n C kd_Nm_isSame_46 rfl 2 rfl rfl ?_
    refine zk_iload_n C kd_Nm_isSame_47 rfl 3 rfl rfl ?_
    refine zk_iload C kd_Nm_isSame_48 5 rfl rfl ?_
    refine zk_iadd C kd_Nm_isSame_50 rfl ?_
    obtain ⟨q4, e⟩ := zd_g e
    refine zs_bald C 3 rfl (zd_vp q4) kd_Nm_isSame_51 rfl ?_
    refine zk_callS (rn := { frames := 0, cells := 0, slots := 0, locals := 0 }) (As := [.int (h.2.1 3 (x3 + x5).toNatClampNeg)]) (rest := [.int (h.2.1 4 ((h.2.1 5 x1.toNatClampNeg) + x5).toNatClampNeg)]) C (zc_Nm_great h (h.2.1 3 (x3 + x5).toNatClampNeg)) ku_Nm_great kw707 ks_Nm_great rfl ⟨by decide, by decide⟩ ⟨by decide, by decide⟩ rfl (Nat.le_of_ble_eq_true rfl) kd_Nm_isSame_52 rfl (c1 := 0) (s1 := 0) rfl rfl (fun v w hp => ?_)
    obtain ⟨rfl, rfl⟩ := hp
    refine zk_stk (r' := [.int (f_Nm_great (h.2.1 3 (x3 + x5).toNatClampNeg)), .int (h.2.1 4 ((h.2.1 5 x1.toNatClampNeg) + x5).toNatClampNeg)]) rfl ?_
    refine zk_icmp_eq (tgt := 60) C kd_Nm_isSame_55 (by decide) rfl (fun b5 => ?_) (fun b5 => ?_)
    · replace e := zd_pos b5 e
      refine zk_iinc (v := (x5 + 1)) (lv' := [(5, _), (0, _), (1, _), (2, _), (3, _), (4, _)]) C kd_Nm_isSame_60 5 rfl rfl (by decide) rfl rfl ?_
      refine zk_goto (tgt := 25) C kd_Nm_isSame_63 (by decide) ?_
      refine zk_lvs (lv' := [(0, .ref (S.1 2)), (1, .int x1), (2, .ref (S.1 3)), (3, .int x3), (4, .int x4), (5, .int (x5 + 1))]) [1, 2, 3, 4, 5, 0] rfl ?_
      exact hk25 x1 x3 x4 (x5 + 1) e
    · replace e := zd_neg b5 e
      refine zk_iconst (v := 0) C kd_Nm_isSame_58 (by decide) rfl ?_
      exact zk_zret C hR (zd_nb (Or.inl rfl)) kd_Nm_isSame_59 rfl rfl (zd_rZO (Or.inl rfl) e)
theorem zl_Nm_isSame_c3_25 {X : zkj_T} {S : zs_T} {P : ze_T} {l : Launch} {D : va_G} {sz0 : Nat} {rv : Int32} {h : zs_H} (C : zk_C X km_Nm_isSame (zs_G S l D sz0) { frames := 1, cells := 0, slots := 0, locals := 20 } (ze_E P)) (hR : zkj_R X (zd_PZ S rv h) (some .boolean)) (n : Nat) : ∀ (x1 : Int32) (x3 : Int32) (x4 : Int32) (x5 : Int32), f_Nm_isSame_c3_L25 h n x1 x3 x4 x5 = some rv → zk_Ab X (zs_W S h) 0 0 25 [(0, .ref (S.1 2)), (1, .int x1), (2, .ref (S.1 3)), (3, .int x3), (4, .int x4), (5, .int x5)] [] := by
  induction n with
  | zero => intro x1 x3 x4 x5 e; exact zd_no e
  | succ n ih => intro x1 x3 x4 x5 e; exact zb_Nm_isSame_c3_25 (k25 := f_Nm_isSame_c3_L25 h n) C hR ih x1 x3 x4 x5 e
set_option maxHeartbeats 4000000 in
set_option maxRecDepth 100000 in
theorem zc_Nm_isSame_c3 {l : Launch} {D : va_G} {sz0 : Nat} {S : zs_T} {P : ze_T} (h : zs_H) (x1 : Int32) (x3 : Int32) (x4 : Int32) {rv : Int32} (e : f_Nm_isSame_c3 h x1 x3 x4 = some rv) : zk_Sp (zs_G S l D sz0) (ze_E P) km_Nm_isSame { frames := 1, cells := 0, slots := 0, locals := 20 } [.ref (S.1 2), .int x1, .ref (S.1 3), .int x3, .int x4] (zs_W S h) (zd_PZ S rv h) := by
  refine zk_met ku_Nm_isSame (Nat.le_of_ble_eq_true rfl) (ze_Em P) ?_
  intro X C hR
  refine zk_lvs (lv' := [(0, .ref (S.1 2)), (1, .int x1), (2, .ref (S.1 3)), (3, .int x3), (4, .int x4)]) [0, 1, 2, 3, 4] rfl ?_
  unfold f_Nm_isSame_c3 at e
  refine zk_aload_n C kd_Nm_isSame_0 rfl 0 rfl rfl ?_
  refine zs_get (v := .ref (S.1 5)) C 2 2 rfl rfl rfl rfl ki_Nm (by decide) kw93 kd_Nm_isSame_1 rfl ?_
  refine zk_iload_n C kd_Nm_isSame_4 rfl 1 rfl rfl ?_
  refine zk_iconst (v := 1) C kd_Nm_isSame_5 (by decide) rfl ?_
  refine zk_iadd C kd_Nm_isSame_6 rfl ?_
  obtain ⟨q1, e⟩ := zd_g e
  refine zs_iald C 5 rfl (zd_vp q1) kd_Nm_isSame_7 rfl ?_
  refine zk_aload_n C kd_Nm_isSame_8 rfl 0 rfl rfl ?_
  refine zs_get (v := .ref (S.1 5)) C 2 2 rfl rfl rfl rfl ki_Nm (by decide) kw93 kd_Nm_isSame_9 rfl ?_
  refine zk_iload_n C kd_Nm_isSame_12 rfl 1 rfl rfl ?_
  obtain ⟨q2, e⟩ := zd_g e
  refine zs_iald C 5 rfl (zd_vp q2) kd_Nm_isSame_13 rfl ?_
  refine zk_isub C kd_Nm_isSame_14 rfl ?_
  refine zk_iload C kd_Nm_isSame_15 4 rfl rfl ?_
  refine zk_icmp_eq (tgt := 22) C kd_Nm_isSame_17 (by decide) rfl (fun b3 => ?_) (fun b3 => ?_)
  · replace e := zd_pos b3 e
    refine zk_iconst (v := 0) C kd_Nm_isSame_22 (by decide) rfl ?_
    refine zk_istore (lv' := [(5, _), (0, _), (1, _), (2, _), (3, _), (4, _)]) C kd_Nm_isSame_23 (by decide) rfl rfl ?_
    refine zk_lvs (lv' := [(0, .ref (S.1 2)), (1, .int x1), (2, .ref (S.1 3)), (3, .int x3), (4, .int x4), (5, .int 0)]) [1, 2, 3, 4, 5, 0] rfl ?_
    exact zl_Nm_isSame_c3_25 C hR zF x1 x3 x4 0 e
  · replace e := zd_neg b3 e
    refine zk_iconst (v := 0) C kd_Nm_isSame_20 (by decide) rfl ?_
    exact zk_zret C hR (zd_nb (Or.inl rfl)) kd_Nm_isSame_21 rfl rfl (zd_rZO (Or.inl rfl) e)
set_option maxHeartbeats 4000000 in
set_option maxRecDepth 100000 in
theorem zb_Nm_find_c3_41 {X : zkj_T} {S : zs_T} {P : ze_T} {l : Launch} {D : va_G} {sz0 : Nat} {rv : Int32} {h : zs_H} (C : zk_C X km_Nm_find (zs_G S l D sz0) { frames := 2, cells := 0, slots := 0, locals := 45 } (ze_E P)) (hR : zkj_R X (zd_PI S rv h) (some .int)) {k41 : Int32 → Int32 → Int32 → Int32 → (Option Int32)} (hk41 : ∀ (x2 : Int32) (x3 : Int32) (x4 : Int32) (x5 : Int32), k41 x2 x3 x4 x5 = some rv → zk_Ab X (zs_W S h) 0 0 41 [(0, .ref (S.1 2)), (1, .ref (S.1 3)), (2, .int x2), (3, .int x3), (4, .int x4), (5, .int x5)] []) (x2 : Int32) (x3 : Int32) (x4 : Int32) (x5 : Int32) (e : f_Nm_find_c3_41 h k41 x2 x3 x4 x5 = some rv) : zk_Ab X (zs_W S h) 0 0 41 [(0, .ref (S.1 2)), (1, .ref (S.1 3)), (2, .int x2), (3, .int x3), (4, .int x4), (5, .int x5)] [] := by
  unfold f_Nm_find_c3_41 at e
  refine zk_iload C kd_Nm_find_41 5 rfl rfl ?_
  refine zk_sipush (v := 6000) C kd_Nm_find_43 (by decide) rfl ?_
  refine zk_icmp_ge (tgt := 85) C kd_Nm_find_46 (by decide) rfl (fun b1 => ?_) (fun b1 => ?_)
  · replace e := zd_pos b1 e
    refine zk_iconst (v := (-1)) C kd_Nm_find_85 (by decide) rfl ?_
    exact zk_iret C hR kd_Nm_find_86 rfl rfl (zd_rIO e)
  · replace e := zd_neg b1 e
    refine zk_iload C kd_Nm_find_49 4 rfl rfl ?_
    refine zk_iconst (v := (-1)) C kd_Nm_find_51 (by decide) rfl ?_
    refine zk_icmp_eq (tgt := 85) C kd_Nm_find_52 (by decide) rfl (fun b2 => ?_) (fun b2 => ?_)
    · replace e := zd_pos b2 e
      refine zk_iconst (v := (-1)) C kd_Nm_find_85 (by decide) rfl ?_
      exact zk_iret C hR kd_Nm_find_86 rfl rfl (zd_rIO e)
    · replace e := zd_neg b2 e
      refine zk_aload_n C kd_Nm_find_55 rfl 0 rfl rfl ?_
      refine zk_iload C kd_Nm_find_56 4 rfl rfl ?_
      refine zk_aload_n C kd_Nm_find_58 rfl 1 rfl rfl ?_
      refine zk_iload_n C kd_Nm_find_59 rfl 2 rfl rfl ?_
      refine zk_iload_n C kd_Nm_find_60 rfl 3 rfl rfl ?_
      obtain ⟨v4, c3, e⟩ := zd_b e
      refine zs_callV (k := 2) (rn := { frames := 1, cells := 0, slots := 0, locals := 20 }) (As := [.int x4, .ref (S.1 3), .int x2, .int x3]) (rest := []) C (zc_Nm_isSame_c3 h x4 x2 x3 c3) ku_Nm_isSame kw710 kv_Nm_isSame rfl ⟨by decide, by decide⟩ ⟨by decide, by decide⟩ rfl rfl rfl (Nat.le_of_ble_eq_true rfl) kd_Nm_find_61 rfl (c1 := 0) (s1 := 0) rfl rfl (fun v w hp => ?_)
      obtain ⟨rfl, rfl, z5⟩ := hp
      refine zk_stk (r' := [.int v4]) rfl ?_
      refine zk_if_eq (tgt := 70) C kd_Nm_find_64 (by decide) rfl (fun b6 => ?_) (fun b6 => ?_)
      · replace e := zd_pos b6 e
        refine zk_aload_n C kd_Nm_find_70 rfl 0 rfl rfl ?_
        refine zs_get (v := .ref (S.1 6)) C 2 3 rfl rfl rfl rfl ki_Nm (by decide) kw94 kd_Nm_find_71 rfl ?_
        refine zk_iload C kd_Nm_find_74 4 rfl rfl ?_
        obtain ⟨q7, e⟩ := zd_g e
        refine zs_iald C 6 rfl (zd_vp q7) kd_Nm_find_76 rfl ?_
        refine zk_istore (lv' := [(4, _), (0, _), (1, _), (2, _), (3, _), (5, _)]) C kd_Nm_find_77 (by decide) rfl rfl ?_
        refine zk_iinc (v := (x5 + 1)) (lv' := [(5, _), (4, _), (0, _), (1, _), (2, _), (3, _)]) C kd_Nm_find_79 5 rfl rfl (by decide) rfl rfl ?_
        refine zk_goto (tgt := 41) C kd_Nm_find_82 (by decide) ?_
        refine zk_lvs (lv' := [(0, .ref (S.1 2)), (1, .ref (S.1 3)), (2, .int x2), (3, .int x3), (4, .int (h.2.1 6 x4.toNatClampNeg)), (5, .int (x5 + 1))]) [2, 3, 4, 5, 1, 0] rfl ?_
        exact hk41 x2 x3 (h.2.1 6 x4.toNatClampNeg) (x5 + 1) e
      · replace e := zd_neg b6 e
        refine zk_iload C kd_Nm_find_67 4 rfl rfl ?_
        exact zk_iret C hR kd_Nm_find_69 rfl rfl (zd_rIO e)
theorem zl_Nm_find_c3_41 {X : zkj_T} {S : zs_T} {P : ze_T} {l : Launch} {D : va_G} {sz0 : Nat} {rv : Int32} {h : zs_H} (C : zk_C X km_Nm_find (zs_G S l D sz0) { frames := 2, cells := 0, slots := 0, locals := 45 } (ze_E P)) (hR : zkj_R X (zd_PI S rv h) (some .int)) (n : Nat) : ∀ (x2 : Int32) (x3 : Int32) (x4 : Int32) (x5 : Int32), f_Nm_find_c3_L41 h n x2 x3 x4 x5 = some rv → zk_Ab X (zs_W S h) 0 0 41 [(0, .ref (S.1 2)), (1, .ref (S.1 3)), (2, .int x2), (3, .int x3), (4, .int x4), (5, .int x5)] [] := by
  induction n with
  | zero => intro x2 x3 x4 x5 e; exact zd_no e
  | succ n ih => intro x2 x3 x4 x5 e; exact zb_Nm_find_c3_41 (k41 := f_Nm_find_c3_L41 h n) C hR ih x2 x3 x4 x5 e
set_option maxHeartbeats 4000000 in
set_option maxRecDepth 100000 in
theorem zc_Nm_find_c3 {l : Launch} {D : va_G} {sz0 : Nat} {S : zs_T} {P : ze_T} (h : zs_H) (x2 : Int32) (x3 : Int32) {rv : Int32} (e : f_Nm_find_c3 h x2 x3 = some rv) : zk_Sp (zs_G S l D sz0) (ze_E P) km_Nm_find { frames := 2, cells := 0, slots := 0, locals := 45 } [.ref (S.1 2), .ref (S.1 3), .int x2, .int x3] (zs_W S h) (zd_PI S rv h) := by
  refine zk_met ku_Nm_find (Nat.le_of_ble_eq_true rfl) (ze_Em P) ?_
  intro X C hR
  refine zk_lvs (lv' := [(0, .ref (S.1 2)), (1, .ref (S.1 3)), (2, .int x2), (3, .int x3)]) [0, 1, 2, 3] rfl ?_
  unfold f_Nm_find_c3 at e
  refine zk_iload_n C kd_Nm_find_0 rfl 3 rfl rfl ?_
  refine zk_iconst (v := 1) C kd_Nm_find_1 (by decide) rfl ?_
  refine zk_icmp_lt (tgt := 23) C kd_Nm_find_2 (by decide) rfl (fun b1 => ?_) (fun b1 => ?_)
  · replace e := zd_pos b1 e
    refine zk_iconst (v := (-1)) C kd_Nm_find_23 (by decide) rfl ?_
    exact zk_iret C hR kd_Nm_find_24 rfl rfl (zd_rIO e)
  · replace e := zd_neg b1 e
    refine zk_iload_n C kd_Nm_find_5 rfl 3 rfl rfl ?_
    refine zk_bipush (v := 32) C kd_Nm_find_6 (by decide) rfl ?_
    refine zk_icmp_gt (tgt := 23) C kd_Nm_find_8 (by decide) rfl (fun b2 => ?_) (fun b2 => ?_)
    · replace e := zd_pos b2 e
      refine zk_iconst (v := (-1)) C kd_Nm_find_23 (by decide) rfl ?_
      exact zk_iret C hR kd_Nm_find_24 rfl rfl (zd_rIO e)
    · replace e := zd_neg b2 e
      refine zk_iload_n C kd_Nm_find_11 rfl 2 rfl rfl ?_
      refine zk_if_lt (tgt := 23) C kd_Nm_find_12 (by decide) rfl (fun b3 => ?_) (fun b3 => ?_)
      · replace e := zd_pos b3 e
        refine zk_iconst (v := (-1)) C kd_Nm_find_23 (by decide) rfl ?_
        exact zk_iret C hR kd_Nm_find_24 rfl rfl (zd_rIO e)
      · replace e := zd_neg b3 e
        refine zk_iload_n C kd_Nm_find_15 rfl 2 rfl rfl ?_
        refine zk_iload_n C kd_Nm_find_16 rfl 3 rfl rfl ?_
        refine zk_iadd C kd_Nm_find_17 rfl ?_
        refine zk_aload_n C kd_Nm_find_18 rfl 1 rfl rfl ?_
        refine zs_alen (v := 405) C 3 rfl (by decide) rfl kd_Nm_find_19 rfl ?_
        refine zk_icmp_le (tgt := 25) C kd_Nm_find_20 (by decide) rfl (fun b4 => ?_) (fun b4 => ?_)
        · replace e := zd_pos b4 e
          refine zk_aload_n C kd_Nm_find_25 rfl 0 rfl rfl ?_
          refine zs_get (v := .ref (S.1 7)) C 2 4 rfl rfl rfl rfl ki_Nm (by decide) kw95 kd_Nm_find_26 rfl ?_
          refine zk_aload_n C kd_Nm_find_29 rfl 1 rfl rfl ?_
          refine zk_iload_n C kd_Nm_find_30 rfl 2 rfl rfl ?_
          refine zk_iload_n C kd_Nm_find_31 rfl 3 rfl rfl ?_
          obtain ⟨v6, c5, e⟩ := zd_b e
          refine zk_callS (rn := { frames := 1, cells := 0, slots := 0, locals := 20 }) (As := [.ref (S.1 3), .int x2, .int x3]) (rest := [.ref (S.1 7)]) C (zc_Nm_headOf_c3 h x2 x3 c5) ku_Nm_headOf kw704 ks_Nm_headOf rfl ⟨by decide, by decide⟩ ⟨by decide, by decide⟩ rfl (Nat.le_of_ble_eq_true rfl) kd_Nm_find_32 rfl (c1 := 0) (s1 := 0) rfl rfl (fun v w hp => ?_)
          obtain ⟨rfl, rfl⟩ := hp
          refine zk_stk (r' := [.int v6, .ref (S.1 7)]) rfl ?_
          obtain ⟨q7, e⟩ := zd_g e
          refine zs_iald C 7 rfl (zd_vp q7) kd_Nm_find_35 rfl ?_
          refine zk_istore (lv' := [(4, _), (0, _), (1, _), (2, _), (3, _)]) C kd_Nm_find_36 (by decide) rfl rfl ?_
          refine zk_iconst (v := 0) C kd_Nm_find_38 (by decide) rfl ?_
          refine zk_istore (lv' := [(5, _), (4, _), (0, _), (1, _), (2, _), (3, _)]) C kd_Nm_find_39 (by decide) rfl rfl ?_
          refine zk_lvs (lv' := [(0, .ref (S.1 2)), (1, .ref (S.1 3)), (2, .int x2), (3, .int x3), (4, .int (h.2.1 7 v6.toNatClampNeg)), (5, .int 0)]) [2, 3, 4, 5, 1, 0] rfl ?_
          exact zl_Nm_find_c3_41 C hR zF x2 x3 (h.2.1 7 v6.toNatClampNeg) 0 e
        · replace e := zd_neg b4 e
          refine zk_iconst (v := (-1)) C kd_Nm_find_23 (by decide) rfl ?_
          exact zk_iret C hR kd_Nm_find_24 rfl rfl (zd_rIO e)
set_option maxHeartbeats 4000000 in
set_option maxRecDepth 100000 in
theorem zb_Nm_numberOf_c3_91 {X : zkj_T} {S : zs_T} {P : ze_T} {l : Launch} {D : va_G} {sz0 : Nat} {rv : Int32} {rh : zs_H} (C : zk_C X km_Nm_numberOf (zs_G S l D sz0) { frames := 3, cells := 0, slots := 0, locals := 70 } (ze_E P)) (hR : zkj_R X (zd_PI S rv rh) (some .int)) {k91 : zs_H → Int32 → Int32 → Int32 → Int32 → (Option (Int32 × zs_H))} (hk91 : ∀ (h : zs_H) (x2 : Int32) (x3 : Int32) (x4 : Int32) (x6 : Int32), k91 h x2 x3 x4 x6 = some (rv, rh) → zk_Ab X (zs_W S h) 0 0 91 [(0, .ref (S.1 2)), (1, .ref (S.1 3)), (2, .int x2), (3, .int x3), (4, .int x4), (6, .int x6)] []) (h : zs_H) (x2 : Int32) (x3 : Int32) (x4 : Int32) (x6 : Int32) (e : f_Nm_numberOf_c3_91 k91 h x2 x3 x4 x6 = some (rv, rh)) : zk_Ab X (zs_W S h) 0 0 91 [(0, .ref (S.1 2)), (1, .ref (S.1 3)), (2, .int x2), (3, .int x3), (4, .int x4), (6, .int x6)] [] := by
  unfold f_Nm_numberOf_c3_91 at e
  refine zk_iload C kd_Nm_numberOf_91 5 rfl rfl ?_
  refine zk_iload_n C kd_Nm_numberOf_93 rfl 3 rfl rfl ?_
  refine zk_icmp_ge (tgt := 128) C kd_Nm_numberOf_94 (by decide) rfl (fun b1 => ?_) (fun b1 => ?_)
  · replace e := zd_pos b1 e
    refine zk_aload_n C kd_Nm_numberOf_128 rfl 1 rfl rfl ?_
    refine zk_iload_n C kd_Nm_numberOf_129 rfl 2 rfl rfl ?_
    refine zk_iload_n C kd_Nm_numberOf_130 rfl 3 rfl rfl ?_
    obtain ⟨v3, c2, e⟩ := zd_b e
    refine zk_callS (rn := { frames := 1, cells := 0, slots := 0, locals := 20 }) (As := [.ref (S.1 3), .int x2, .int x3]) (rest := []) C (zc_Nm_headOf_c3 h x2 x3 c2) ku_Nm_headOf kw704 ks_Nm_headOf rfl ⟨by decide, by decide⟩ ⟨by decide, by decide⟩ rfl (Nat.le_of_ble_eq_true rfl) kd_Nm_numberOf_131 rfl (c1 := 0) (s1 := 0) rfl rfl (fun v w hp => ?_)
    obtain ⟨rfl, rfl⟩ := hp
    refine zk_stk (r' := [.int v3]) rfl ?_
    refine zk_istore (lv' := [(6, _), (0, _), (1, _), (2, _), (3, _), (4, _)]) C kd_Nm_numberOf_134 (by decide) rfl rfl ?_
    refine zk_aload_n C kd_Nm_numberOf_136 rfl 1 rfl rfl ?_
    refine zs_get (v := .ref (S.1 6)) C 2 3 rfl rfl rfl rfl ki_Nm (by decide) kw94 kd_Nm_numberOf_137 rfl ?_
    refine zk_iload C kd_Nm_numberOf_140 5 rfl rfl ?_
    refine zk_aload_n C kd_Nm_numberOf_142 rfl 1 rfl rfl ?_
    refine zs_get (v := .ref (S.1 7)) C 2 4 rfl rfl rfl rfl ki_Nm (by decide) kw95 kd_Nm_numberOf_143 rfl ?_
    refine zk_iload C kd_Nm_numberOf_146 0 rfl rfl ?_
    obtain ⟨q4, e⟩ := zd_g e
    refine zs_iald C 7 rfl (zd_vp q4) kd_Nm_numberOf_148 rfl ?_
    obtain ⟨q5, e⟩ := zd_g e
    refine zs_iast C 6 rfl (zd_vp q5) kd_Nm_numberOf_149 rfl ?_
    refine zk_aload_n C kd_Nm_numberOf_150 rfl 1 rfl rfl ?_
    refine zs_get (v := .ref (S.1 7)) C 2 4 rfl rfl rfl rfl ki_Nm (by decide) kw95 kd_Nm_numberOf_151 rfl ?_
    refine zk_iload C kd_Nm_numberOf_154 0 rfl rfl ?_
    refine zk_iload C kd_Nm_numberOf_156 5 rfl rfl ?_
    refine zs_iast C 7 rfl (zd_vp q4) kd_Nm_numberOf_158 rfl ?_
    refine zk_aload_n C kd_Nm_numberOf_159 rfl 1 rfl rfl ?_
    refine zk_dup C kd_Nm_numberOf_160 rfl rfl ?_
    refine zs_get (v := .int (h.1 2 5)) C 2 5 rfl rfl rfl rfl ki_Nm (by decide) kw96 kd_Nm_numberOf_161 rfl ?_
    refine zk_iconst (v := 1) C kd_Nm_numberOf_164 (by decide) rfl ?_
    refine zk_iadd C kd_Nm_numberOf_165 rfl ?_
    refine zs_put (ty := .int) C 2 5 ((h.1 2 5) + 1) rfl rfl rfl rfl ki_Nm ky_Nm ko_Nm kn_Nm (by decide) kw96 rfl rfl rfl rfl (by decide) kd_Nm_numberOf_166 rfl ?_
    refine zk_aload_n C kd_Nm_numberOf_169 rfl 1 rfl rfl ?_
    refine zs_get (v := .ref (S.1 5)) C 2 2 rfl rfl rfl rfl ki_Nm (by decide) kw93 kd_Nm_numberOf_170 rfl ?_
    refine zk_aload_n C kd_Nm_numberOf_173 rfl 1 rfl rfl ?_
    refine zs_get (v := .int ((h.1 2 5) + 1)) C 2 5 rfl rfl rfl rfl ki_Nm (by decide) kw96 kd_Nm_numberOf_174 rfl ?_
    refine zk_aload_n C kd_Nm_numberOf_177 rfl 1 rfl rfl ?_
    refine zs_get (v := .ref (S.1 5)) C 2 2 rfl rfl rfl rfl ki_Nm (by decide) kw93 kd_Nm_numberOf_178 rfl ?_
    refine zk_iload C kd_Nm_numberOf_181 5 rfl rfl ?_
    obtain ⟨q6, e⟩ := zd_g e
    refine zs_iald C 5 rfl (zd_vp q6) kd_Nm_numberOf_183 rfl ?_
    refine zk_stk (r' := [.int (h.2.1 5 x4.toNatClampNeg), .int ((h.1 2 5) + 1), .ref (S.1 5)]) rfl ?_
    refine zk_iload_n C kd_Nm_numberOf_184 rfl 4 rfl rfl ?_
    refine zk_iadd C kd_Nm_numberOf_185 rfl ?_
    obtain ⟨q7, e⟩ := zd_g e
    refine zs_iast C 5 rfl (zd_vp q7) kd_Nm_numberOf_186 rfl ?_
    refine zk_iload C kd_Nm_numberOf_187 5 rfl rfl ?_
    exact zk_iret C hR kd_Nm_numberOf_189 rfl rfl (zd_rIS e)
  · replace e := zd_neg b1 e
    refine zk_aload_n C kd_Nm_numberOf_97 rfl 0 rfl rfl ?_
    refine zs_get (v := .ref (S.1 4)) C 2 1 rfl rfl rfl rfl ki_Nm (by decide) kw92 kd_Nm_numberOf_98 rfl ?_
    refine zk_aload_n C kd_Nm_numberOf_101 rfl 0 rfl rfl ?_
    refine zs_get (v := .ref (S.1 5)) C 2 2 rfl rfl rfl rfl ki_Nm (by decide) kw93 kd_Nm_numberOf_102 rfl ?_
    refine zk_iload C kd_Nm_numberOf_105 4 rfl rfl ?_
    obtain ⟨q8, e⟩ := zd_g e
    refine zs_iald C 5 rfl (zd_vp q8) kd_Nm_numberOf_107 rfl ?_
    refine zk_iload C kd_Nm_numberOf_108 5 rfl rfl ?_
    refine zk_iadd C kd_Nm_numberOf_110 rfl ?_
    refine zk_aload_n C kd_Nm_numberOf_111 rfl 1 rfl rfl ?_
    refine zk_iload_n C kd_Nm_numberOf_112 rfl 2 rfl rfl ?_
    refine zk_iload C kd_Nm_numberOf_113 5 rfl rfl ?_
    refine zk_iadd C kd_Nm_numberOf_115 rfl ?_
    obtain ⟨q9, e⟩ := zd_g e
    refine zs_bald C 3 rfl (zd_vp q9) kd_Nm_numberOf_116 rfl ?_
    refine zk_callS (rn := { frames := 0, cells := 0, slots := 0, locals := 0 }) (As := [.int (h.2.1 3 (x2 + x6).toNatClampNeg)]) (rest := [.int ((h.2.1 5 x4.toNatClampNeg) + x6), .ref (S.1 4)]) C (zc_Nm_great h (h.2.1 3 (x2 + x6).toNatClampNeg)) ku_Nm_great kw707 ks_Nm_great rfl ⟨by decide, by decide⟩ ⟨by decide, by decide⟩ rfl (Nat.le_of_ble_eq_true rfl) kd_Nm_numberOf_117 rfl (c1 := 0) (s1 := 0) rfl rfl (fun v w hp => ?_)
    obtain ⟨rfl, rfl⟩ := hp
    refine zk_stk (r' := [.int (f_Nm_great (h.2.1 3 (x2 + x6).toNatClampNeg)), .int ((h.2.1 5 x4.toNatClampNeg) + x6), .ref (S.1 4)]) rfl ?_
    refine zk_i2b C kd_Nm_numberOf_120 rfl ?_
    obtain ⟨q10, e⟩ := zd_g e
    refine zs_bast C 4 rfl (zd_vp q10) kd_Nm_numberOf_121 rfl ?_
    refine zk_iinc (v := (x6 + 1)) (lv' := [(6, _), (0, _), (1, _), (2, _), (3, _), (4, _)]) C kd_Nm_numberOf_122 5 rfl rfl (by decide) rfl rfl ?_
    refine zk_goto (tgt := 91) C kd_Nm_numberOf_125 (by decide) ?_
    refine zk_lvs (lv' := [(0, .ref (S.1 2)), (1, .ref (S.1 3)), (2, .int x2), (3, .int x3), (4, .int x4), (6, .int (x6 + 1))]) [1, 2, 3, 4, 5, 0] rfl ?_
    exact hk91 (zs_uM h 4 ((h.2.1 5 x4.toNatClampNeg) + x6).toNatClampNeg (vp_nar .byte ((f_Nm_great (h.2.1 3 (x2 + x6).toNatClampNeg)).toInt8.toInt32))) x2 x3 x4 (x6 + 1) e
theorem zl_Nm_numberOf_c3_91 {X : zkj_T} {S : zs_T} {P : ze_T} {l : Launch} {D : va_G} {sz0 : Nat} {rv : Int32} {rh : zs_H} (C : zk_C X km_Nm_numberOf (zs_G S l D sz0) { frames := 3, cells := 0, slots := 0, locals := 70 } (ze_E P)) (hR : zkj_R X (zd_PI S rv rh) (some .int)) (n : Nat) : ∀ (h : zs_H) (x2 : Int32) (x3 : Int32) (x4 : Int32) (x6 : Int32), f_Nm_numberOf_c3_L91 n h x2 x3 x4 x6 = some (rv, rh) → zk_Ab X (zs_W S h) 0 0 91 [(0, .ref (S.1 2)), (1, .ref (S.1 3)), (2, .int x2), (3, .int x3), (4, .int x4), (6, .int x6)] [] := by
  induction n with
  | zero => intro h x2 x3 x4 x6 e; exact zd_no e
  | succ n ih => intro h x2 x3 x4 x6 e; exact zb_Nm_numberOf_c3_91 (k91 := f_Nm_numberOf_c3_L91  n) C hR ih h x2 x3 x4 x6 e
set_option maxHeartbeats 4000000 in
set_option maxRecDepth 100000 in
theorem zb_Nm_numberOf_c3_37 {X : zkj_T} {S : zs_T} {P : ze_T} {l : Launch} {D : va_G} {sz0 : Nat} {rv : Int32} {rh : zs_H} (C : zk_C X km_Nm_numberOf (zs_G S l D sz0) { frames := 3, cells := 0, slots := 0, locals := 70 } (ze_E P)) (hR : zkj_R X (zd_PI S rv rh) (some .int)) (h : zs_H) (x2 : Int32) (x3 : Int32) (x4 : Int32) (y0 : Int32) (e : f_Nm_numberOf_c3_37 h x2 x3 x4 y0 = some (rv, rh)) : zk_Ab X (zs_W S h) 0 0 37 [(0, .ref (S.1 2)), (1, .ref (S.1 3)), (2, .int x2), (3, .int x3), (4, .int x4)] [.int y0] := by
  unfold f_Nm_numberOf_c3_37 at e
  refine zk_istore (lv' := [(5, _), (0, _), (1, _), (2, _), (3, _), (4, _)]) C kd_Nm_numberOf_37 (by decide) rfl rfl ?_
  refine zk_iload C kd_Nm_numberOf_39 5 rfl rfl ?_
  refine zk_iconst (v := (-1)) C kd_Nm_numberOf_41 (by decide) rfl ?_
  refine zk_icmp_ne (tgt := 79) C kd_Nm_numberOf_42 (by decide) rfl (fun b1 => ?_) (fun b1 => ?_)
  · replace e := zd_neg b1 e
    refine zk_iload C kd_Nm_numberOf_79 5 rfl rfl ?_
    exact zk_iret C hR kd_Nm_numberOf_81 rfl rfl (zd_rIS e)
  · replace e := zd_pos b1 e
    refine zk_iload C kd_Nm_numberOf_45 0 rfl rfl ?_
    refine zk_if_eq (tgt := 79) C kd_Nm_numberOf_47 (by decide) rfl (fun b2 => ?_) (fun b2 => ?_)
    · replace e := zd_pos b2 e
      refine zk_iload C kd_Nm_numberOf_79 5 rfl rfl ?_
      exact zk_iret C hR kd_Nm_numberOf_81 rfl rfl (zd_rIS e)
    · replace e := zd_neg b2 e
      refine zk_aload_n C kd_Nm_numberOf_50 rfl 1 rfl rfl ?_
      refine zs_get (v := .int (h.1 2 5)) C 2 5 rfl rfl rfl rfl ki_Nm (by decide) kw96 kd_Nm_numberOf_51 rfl ?_
      refine zk_sipush (v := 6000) C kd_Nm_numberOf_54 (by decide) rfl ?_
      refine zk_icmp_ge (tgt := 79) C kd_Nm_numberOf_57 (by decide) rfl (fun b3 => ?_) (fun b3 => ?_)
      · replace e := zd_pos b3 e
        refine zk_iload C kd_Nm_numberOf_79 5 rfl rfl ?_
        exact zk_iret C hR kd_Nm_numberOf_81 rfl rfl (zd_rIS e)
      · replace e := zd_neg b3 e
        refine zk_aload_n C kd_Nm_numberOf_60 rfl 1 rfl rfl ?_
        refine zs_get (v := .ref (S.1 5)) C 2 2 rfl rfl rfl rfl ki_Nm (by decide) kw93 kd_Nm_numberOf_61 rfl ?_
        refine zk_aload_n C kd_Nm_numberOf_64 rfl 1 rfl rfl ?_
        refine zs_get (v := .int (h.1 2 5)) C 2 5 rfl rfl rfl rfl ki_Nm (by decide) kw96 kd_Nm_numberOf_65 rfl ?_
        obtain ⟨q4, e⟩ := zd_g e
        refine zs_iald C 5 rfl (zd_vp q4) kd_Nm_numberOf_68 rfl ?_
        refine zk_iload_n C kd_Nm_numberOf_69 rfl 4 rfl rfl ?_
        refine zk_iadd C kd_Nm_numberOf_70 rfl ?_
        refine zk_aload_n C kd_Nm_numberOf_71 rfl 1 rfl rfl ?_
        refine zs_get (v := .ref (S.1 4)) C 2 1 rfl rfl rfl rfl ki_Nm (by decide) kw92 kd_Nm_numberOf_72 rfl ?_
        refine zs_alen (v := 16789) C 4 rfl (by decide) rfl kd_Nm_numberOf_75 rfl ?_
        refine zk_icmp_le (tgt := 82) C kd_Nm_numberOf_76 (by decide) rfl (fun b5 => ?_) (fun b5 => ?_)
        · replace e := zd_pos b5 e
          refine zk_aload_n C kd_Nm_numberOf_82 rfl 1 rfl rfl ?_
          refine zs_get (v := .int (h.1 2 5)) C 2 5 rfl rfl rfl rfl ki_Nm (by decide) kw96 kd_Nm_numberOf_83 rfl ?_
          refine zk_istore (lv' := [(4, _), (5, _), (0, _), (1, _), (2, _), (3, _)]) C kd_Nm_numberOf_86 (by decide) rfl rfl ?_
          refine zk_iconst (v := 0) C kd_Nm_numberOf_88 (by decide) rfl ?_
          refine zk_istore (lv' := [(6, _), (4, _), (5, _), (0, _), (1, _), (2, _), (3, _)]) C kd_Nm_numberOf_89 (by decide) rfl rfl ?_
          refine zk_lvs (lv' := [(0, .ref (S.1 2)), (1, .ref (S.1 3)), (2, .int x2), (3, .int x3), (4, .int (h.1 2 5)), (6, .int 0)]) [3, 4, 5, 6, 1, 0] rfl ?_
          exact zl_Nm_numberOf_c3_91 C hR zF h x2 x3 (h.1 2 5) 0 e
        · replace e := zd_neg b5 e
          refine zk_iload C kd_Nm_numberOf_79 5 rfl rfl ?_
          exact zk_iret C hR kd_Nm_numberOf_81 rfl rfl (zd_rIS e)
set_option maxHeartbeats 4000000 in
set_option maxRecDepth 100000 in
theorem zb_Nm_numberOf_c3_36 {X : zkj_T} {S : zs_T} {P : ze_T} {l : Launch} {D : va_G} {sz0 : Nat} {rv : Int32} {rh : zs_H} (C : zk_C X km_Nm_numberOf (zs_G S l D sz0) { frames := 3, cells := 0, slots := 0, locals := 70 } (ze_E P)) (hR : zkj_R X (zd_PI S rv rh) (some .int)) (h : zs_H) (x2 : Int32) (x3 : Int32) (x4 : Int32) (e : f_Nm_numberOf_c3_36 h x2 x3 x4 = some (rv, rh)) : zk_Ab X (zs_W S h) 0 0 36 [(0, .ref (S.1 2)), (1, .ref (S.1 3)), (2, .int x2), (3, .int x3), (4, .int x4)] [] := by
  unfold f_Nm_numberOf_c3_36 at e
  refine zk_iconst (v := 0) C kd_Nm_numberOf_36 (by decide) rfl ?_
  refine zk_lvs (lv' := [(0, .ref (S.1 2)), (1, .ref (S.1 3)), (2, .int x2), (3, .int x3), (4, .int x4)]) [0, 1, 2, 3, 4] rfl ?_
  exact zb_Nm_numberOf_c3_37 C hR h x2 x3 x4 0 e
set_option maxHeartbeats 4000000 in
set_option maxRecDepth 100000 in
theorem zc_Nm_numberOf_c3 {l : Launch} {D : va_G} {sz0 : Nat} {S : zs_T} {P : ze_T} (h : zs_H) (x2 : Int32) (x3 : Int32) {rv : Int32} {rh : zs_H} (e : f_Nm_numberOf_c3 h x2 x3 = some (rv, rh)) : zk_Sp (zs_G S l D sz0) (ze_E P) km_Nm_numberOf { frames := 3, cells := 0, slots := 0, locals := 70 } [.ref (S.1 2), .ref (S.1 3), .int x2, .int x3] (zs_W S h) (zd_PI S rv rh) := by
  refine zk_met ku_Nm_numberOf (Nat.le_of_ble_eq_true rfl) (ze_Em P) ?_
  intro X C hR
  refine zk_lvs (lv' := [(0, .ref (S.1 2)), (1, .ref (S.1 3)), (2, .int x2), (3, .int x3)]) [0, 1, 2, 3] rfl ?_
  unfold f_Nm_numberOf_c3 at e
  refine zk_aload_n C kd_Nm_numberOf_0 rfl 0 rfl rfl ?_
  refine zk_aload_n C kd_Nm_numberOf_1 rfl 1 rfl rfl ?_
  refine zk_iload_n C kd_Nm_numberOf_2 rfl 2 rfl rfl ?_
  refine zk_iload_n C kd_Nm_numberOf_3 rfl 3 rfl rfl ?_
  obtain ⟨v2, c1, e⟩ := zd_b e
  refine zs_callV (k := 2) (rn := { frames := 2, cells := 0, slots := 0, locals := 45 }) (As := [.ref (S.1 3), .int x2, .int x3]) (rest := []) C (zc_Nm_find_c3 h x2 x3 c1) ku_Nm_find kw700 kv_Nm_find rfl ⟨by decide, by decide⟩ ⟨by decide, by decide⟩ rfl rfl rfl (Nat.le_of_ble_eq_true rfl) kd_Nm_numberOf_4 rfl (c1 := 0) (s1 := 0) rfl rfl (fun v w hp => ?_)
  obtain ⟨rfl, rfl⟩ := hp
  refine zk_stk (r' := [.int v2]) rfl ?_
  refine zk_istore (lv' := [(4, _), (0, _), (1, _), (2, _), (3, _)]) C kd_Nm_numberOf_7 (by decide) rfl rfl ?_
  refine zk_iload_n C kd_Nm_numberOf_9 rfl 4 rfl rfl ?_
  refine zk_iconst (v := 1) C kd_Nm_numberOf_10 (by decide) rfl ?_
  refine zk_icmp_lt (tgt := 36) C kd_Nm_numberOf_11 (by decide) rfl (fun b3 => ?_) (fun b3 => ?_)
  · replace e := zd_pos b3 e
    refine zk_lvs (lv' := [(0, .ref (S.1 2)), (1, .ref (S.1 3)), (2, .int x2), (3, .int x3), (4, .int v2)]) [1, 2, 3, 4, 0] rfl ?_
    exact zb_Nm_numberOf_c3_36 C hR h x2 x3 v2 e
  · replace e := zd_neg b3 e
    refine zk_iload_n C kd_Nm_numberOf_14 rfl 4 rfl rfl ?_
    refine zk_bipush (v := 32) C kd_Nm_numberOf_15 (by decide) rfl ?_
    refine zk_icmp_gt (tgt := 36) C kd_Nm_numberOf_17 (by decide) rfl (fun b4 => ?_) (fun b4 => ?_)
    · replace e := zd_pos b4 e
      refine zk_lvs (lv' := [(0, .ref (S.1 2)), (1, .ref (S.1 3)), (2, .int x2), (3, .int x3), (4, .int v2)]) [1, 2, 3, 4, 0] rfl ?_
      exact zb_Nm_numberOf_c3_36 C hR h x2 x3 v2 e
    · replace e := zd_neg b4 e
      refine zk_iload_n C kd_Nm_numberOf_20 rfl 3 rfl rfl ?_
      refine zk_if_lt (tgt := 36) C kd_Nm_numberOf_21 (by decide) rfl (fun b5 => ?_) (fun b5 => ?_)
      · replace e := zd_pos b5 e
        refine zk_lvs (lv' := [(0, .ref (S.1 2)), (1, .ref (S.1 3)), (2, .int x2), (3, .int x3), (4, .int v2)]) [1, 2, 3, 4, 0] rfl ?_
        exact zb_Nm_numberOf_c3_36 C hR h x2 x3 v2 e
      · replace e := zd_neg b5 e
        refine zk_iload_n C kd_Nm_numberOf_24 rfl 3 rfl rfl ?_
        refine zk_iload_n C kd_Nm_numberOf_25 rfl 4 rfl rfl ?_
        refine zk_iadd C kd_Nm_numberOf_26 rfl ?_
        refine zk_aload_n C kd_Nm_numberOf_27 rfl 2 rfl rfl ?_
        refine zs_alen (v := 405) C 3 rfl (by decide) rfl kd_Nm_numberOf_28 rfl ?_
        refine zk_icmp_gt (tgt := 36) C kd_Nm_numberOf_29 (by decide) rfl (fun b6 => ?_) (fun b6 => ?_)
        · replace e := zd_pos b6 e
          refine zk_lvs (lv' := [(0, .ref (S.1 2)), (1, .ref (S.1 3)), (2, .int x2), (3, .int x3), (4, .int v2)]) [1, 2, 3, 4, 0] rfl ?_
          exact zb_Nm_numberOf_c3_36 C hR h x2 x3 v2 e
        · replace e := zd_neg b6 e
          refine zk_iconst (v := 1) C kd_Nm_numberOf_32 (by decide) rfl ?_
          refine zk_goto (tgt := 37) C kd_Nm_numberOf_33 (by decide) ?_
          refine zk_lvs (lv' := [(0, .ref (S.1 2)), (1, .ref (S.1 3)), (2, .int x2), (3, .int x3), (4, .int v2)]) [1, 2, 3, 4, 0] rfl ?_
          exact zb_Nm_numberOf_c3_37 C hR h x2 x3 v2 1 e
set_option maxHeartbeats 4000000 in
set_option maxRecDepth 100000 in
theorem zb_Nm_forget_54 {X : zkj_T} {S : zs_T} {P : ze_T} {l : Launch} {D : va_G} {sz0 : Nat} {rh : zs_H} (C : zk_C X km_Nm_forget (zs_G S l D sz0) { frames := 4, cells := 0, slots := 0, locals := 96 } (ze_E P)) (hR : zkj_R X (zd_PV S rh) (none)) {k17 : zs_H → Int32 → Int32 → (Option zs_H)} (hk17 : ∀ (h : zs_H) (x1 : Int32) (x2 : Int32), k17 h x1 x2 = some rh → zk_Ab X (zs_W S h) 0 0 17 [(0, .ref (S.1 2)), (1, .int x1), (2, .int x2)] []) (h : zs_H) (x1 : Int32) (x2 : Int32) (e : f_Nm_forget_54 k17 h x1 x2 = some rh) : zk_Ab X (zs_W S h) 0 0 54 [(0, .ref (S.1 2)), (1, .int x1), (2, .int x2)] [] := by
  unfold f_Nm_forget_54 at e
  refine zk_iinc (v := (x2 + 1)) (lv' := [(2, _), (0, _), (1, _)]) C kd_Nm_forget_54 2 rfl rfl (by decide) rfl rfl ?_
  refine zk_goto (tgt := 17) C kd_Nm_forget_57 (by decide) ?_
  refine zk_lvs (lv' := [(0, .ref (S.1 2)), (1, .int x1), (2, .int (x2 + 1))]) [1, 2, 0] rfl ?_
  exact hk17 h x1 (x2 + 1) e
set_option maxHeartbeats 4000000 in
set_option maxRecDepth 100000 in
theorem zb_Nm_forget_17 {X : zkj_T} {S : zs_T} {P : ze_T} {l : Launch} {D : va_G} {sz0 : Nat} {rh : zs_H} (C : zk_C X km_Nm_forget (zs_G S l D sz0) { frames := 4, cells := 0, slots := 0, locals := 96 } (ze_E P)) (hR : zkj_R X (zd_PV S rh) (none)) {k17 : zs_H → Int32 → Int32 → (Option zs_H)} (hk17 : ∀ (h : zs_H) (x1 : Int32) (x2 : Int32), k17 h x1 x2 = some rh → zk_Ab X (zs_W S h) 0 0 17 [(0, .ref (S.1 2)), (1, .int x1), (2, .int x2)] []) (h : zs_H) (x1 : Int32) (x2 : Int32) (e : f_Nm_forget_17 k17 h x1 x2 = some rh) : zk_Ab X (zs_W S h) 0 0 17 [(0, .ref (S.1 2)), (1, .int x1), (2, .int x2)] [] := by
  unfold f_Nm_forget_17 at e
  refine zk_iload_n C kd_Nm_forget_17 rfl 2 rfl rfl ?_
  refine zk_aload_n C kd_Nm_forget_18 rfl 0 rfl rfl ?_
  refine zs_get (v := .ref (S.1 3)) C 2 0 rfl rfl rfl rfl ki_Nm (by decide) kw91 kd_Nm_forget_19 rfl ?_
  refine zs_alen (v := 405) C 3 rfl (by decide) rfl kd_Nm_forget_22 rfl ?_
  refine zk_icmp_ge (tgt := 60) C kd_Nm_forget_23 (by decide) rfl (fun b1 => ?_) (fun b1 => ?_)
  · replace e := zd_pos b1 e
    exact zk_vret C hR kd_Nm_forget_60 rfl rfl (zd_rV e)
  · replace e := zd_neg b1 e
    refine zk_aload_n C kd_Nm_forget_26 rfl 0 rfl rfl ?_
    refine zs_get (v := .ref (S.1 3)) C 2 0 rfl rfl rfl rfl ki_Nm (by decide) kw91 kd_Nm_forget_27 rfl ?_
    refine zk_iload_n C kd_Nm_forget_30 rfl 2 rfl rfl ?_
    obtain ⟨q2, e⟩ := zd_g e
    refine zs_bald C 3 rfl (zd_vp q2) kd_Nm_forget_31 rfl ?_
    refine zk_bipush (v := 32) C kd_Nm_forget_32 (by decide) rfl ?_
    refine zk_icmp_ne (tgt := 54) C kd_Nm_forget_34 (by decide) rfl (fun b3 => ?_) (fun b3 => ?_)
    · replace e := zd_neg b3 e
      refine zk_lvs (lv' := [(0, .ref (S.1 2)), (1, .int x1), (2, .int x2)]) [0, 1, 2] rfl ?_
      exact zb_Nm_forget_54 C hR hk17 h x1 x2 e
    · replace e := zd_pos b3 e
      refine zk_aload_n C kd_Nm_forget_37 rfl 0 rfl rfl ?_
      refine zk_aload_n C kd_Nm_forget_38 rfl 0 rfl rfl ?_
      refine zs_get (v := .ref (S.1 3)) C 2 0 rfl rfl rfl rfl ki_Nm (by decide) kw91 kd_Nm_forget_39 rfl ?_
      refine zk_iload_n C kd_Nm_forget_42 rfl 1 rfl rfl ?_
      refine zk_iload_n C kd_Nm_forget_43 rfl 2 rfl rfl ?_
      refine zk_iload_n C kd_Nm_forget_44 rfl 1 rfl rfl ?_
      refine zk_isub C kd_Nm_forget_45 rfl ?_
      obtain ⟨v5, h6, c4, e⟩ := zd_Be e
      refine zs_callV (k := 2) (rn := { frames := 3, cells := 0, slots := 0, locals := 70 }) (As := [.ref (S.1 3), .int x1, .int (x2 - x1)]) (rest := []) C (zc_Nm_numberOf_c3 h x1 (x2 - x1) c4) ku_Nm_numberOf kw696 kv_Nm_numberOf rfl ⟨by decide, by decide⟩ ⟨by decide, by decide⟩ rfl rfl rfl (Nat.le_of_ble_eq_true rfl) kd_Nm_forget_46 rfl (c1 := 0) (s1 := 0) rfl rfl (fun v w hp => ?_)
      obtain ⟨rfl, rfl⟩ := hp
      refine zk_stk (r' := [.int v5]) rfl ?_
      refine zk_pop C kd_Nm_forget_49 rfl rfl ?_
      refine zk_iload_n C kd_Nm_forget_50 rfl 2 rfl rfl ?_
      refine zk_iconst (v := 1) C kd_Nm_forget_51 (by decide) rfl ?_
      refine zk_iadd C kd_Nm_forget_52 rfl ?_
      refine zk_istore_n (lv' := [(1, _), (0, _), (2, _)]) C kd_Nm_forget_53 rfl (by decide) rfl rfl ?_
      refine zk_lvs (lv' := [(0, .ref (S.1 2)), (1, .int (x2 + 1)), (2, .int x2)]) [1, 0, 2] rfl ?_
      exact zb_Nm_forget_54 C hR hk17 h6 (x2 + 1) x2 e
theorem zl_Nm_forget_17 {X : zkj_T} {S : zs_T} {P : ze_T} {l : Launch} {D : va_G} {sz0 : Nat} {rh : zs_H} (C : zk_C X km_Nm_forget (zs_G S l D sz0) { frames := 4, cells := 0, slots := 0, locals := 96 } (ze_E P)) (hR : zkj_R X (zd_PV S rh) (none)) (n : Nat) : ∀ (h : zs_H) (x1 : Int32) (x2 : Int32), f_Nm_forget_L17 n h x1 x2 = some rh → zk_Ab X (zs_W S h) 0 0 17 [(0, .ref (S.1 2)), (1, .int x1), (2, .int x2)] [] := by
  induction n with
  | zero => intro h x1 x2 e; exact zd_no e
  | succ n ih => intro h x1 x2 e; exact zb_Nm_forget_17 (k17 := f_Nm_forget_L17  n) C hR ih h x1 x2 e
set_option maxHeartbeats 4000000 in
set_option maxRecDepth 100000 in
theorem zc_Nm_forget {l : Launch} {D : va_G} {sz0 : Nat} {S : zs_T} {P : ze_T} (h : zs_H) {rh : zs_H} (e : f_Nm_forget h = some rh) : zk_Sp (zs_G S l D sz0) (ze_E P) km_Nm_forget { frames := 4, cells := 0, slots := 0, locals := 96 } [.ref (S.1 2)] (zs_W S h) (zd_PV S rh) := by
  refine zk_met ku_Nm_forget (Nat.le_of_ble_eq_true rfl) (ze_Em P) ?_
  intro X C hR
  refine zk_lvs (lv' := [(0, .ref (S.1 2))]) [0] rfl ?_
  unfold f_Nm_forget at e
  refine zk_aload_n C kd_Nm_forget_0 rfl 0 rfl rfl ?_
  refine zs_get (v := .ref (S.1 7)) C 2 4 rfl rfl rfl rfl ki_Nm (by decide) kw95 kd_Nm_forget_1 rfl ?_
  refine zk_iconst (v := (-1)) C kd_Nm_forget_4 (by decide) rfl ?_
  obtain ⟨h2, c1, e⟩ := zd_b e
  refine zk_callS (rn := { frames := 0, cells := 0, slots := 0, locals := 0 }) (As := [.ref (S.1 7), .int (-1)]) (rest := []) C (zc_Ar_fill_c7 h (-1) c1) ku_Ar_fill kw693 ks_Ar_fill rfl ⟨by decide, by decide⟩ ⟨by decide, by decide⟩ rfl (Nat.le_of_ble_eq_true rfl) kd_Nm_forget_5 rfl (c1 := 0) (s1 := 0) rfl rfl (fun v w hp => ?_)
  obtain ⟨rfl, rfl⟩ := hp
  refine zk_stk (r' := []) rfl ?_
  refine zk_aload_n C kd_Nm_forget_8 rfl 0 rfl rfl ?_
  refine zk_iconst (v := 0) C kd_Nm_forget_9 (by decide) rfl ?_
  refine zs_put (ty := .int) C 2 5 0 rfl rfl rfl rfl ki_Nm ky_Nm ko_Nm kn_Nm (by decide) kw96 rfl rfl rfl rfl (by decide) kd_Nm_forget_10 rfl ?_
  refine zk_iconst (v := 0) C kd_Nm_forget_13 (by decide) rfl ?_
  refine zk_istore_n (lv' := [(1, _), (0, _)]) C kd_Nm_forget_14 rfl (by decide) rfl rfl ?_
  refine zk_iconst (v := 0) C kd_Nm_forget_15 (by decide) rfl ?_
  refine zk_istore_n (lv' := [(2, _), (1, _), (0, _)]) C kd_Nm_forget_16 rfl (by decide) rfl rfl ?_
  refine zk_lvs (lv' := [(0, .ref (S.1 2)), (1, .int 0), (2, .int 0)]) [2, 1, 0] rfl ?_
  exact zl_Nm_forget_17 C hR zF (zs_uF h2 2 5 0) 0 0 e
set_option maxHeartbeats 4000000 in
set_option maxRecDepth 100000 in
theorem zc_Tk_peek {l : Launch} {D : va_G} {sz0 : Nat} {S : zs_T} {P : ze_T} (h : zs_H) (x1 : Int32) {rv : Int32} (e : f_Tk_peek h x1 = some rv) : zk_Sp (zs_G S l D sz0) (ze_E P) km_Tk_peek { frames := 0, cells := 0, slots := 0, locals := 0 } [.ref (S.1 8), .int x1] (zs_W S h) (zd_PI S rv h) := by
  refine zk_met ku_Tk_peek (Nat.le_of_ble_eq_true rfl) (ze_Em P) ?_
  intro X C hR
  refine zk_lvs (lv' := [(0, .ref (S.1 8)), (1, .int x1)]) [0, 1] rfl ?_
  unfold f_Tk_peek at e
  refine zk_iload_n C kd_Tk_peek_0 rfl 1 rfl rfl ?_
  refine zk_if_lt (tgt := 25) C kd_Tk_peek_1 (by decide) rfl (fun b1 => ?_) (fun b1 => ?_)
  · replace e := zd_pos b1 e
    refine zk_iconst (v := (-1)) C kd_Tk_peek_25 (by decide) rfl ?_
    exact zk_iret C hR kd_Tk_peek_26 rfl rfl (zd_rIO e)
  · replace e := zd_neg b1 e
    refine zk_iload_n C kd_Tk_peek_4 rfl 1 rfl rfl ?_
    refine zk_aload_n C kd_Tk_peek_5 rfl 0 rfl rfl ?_
    refine zs_get (v := .int (h.1 8 6)) C 8 6 rfl rfl rfl rfl ki_Tk (by decide) kw128 kd_Tk_peek_6 rfl ?_
    refine zk_icmp_ge (tgt := 25) C kd_Tk_peek_9 (by decide) rfl (fun b2 => ?_) (fun b2 => ?_)
    · replace e := zd_pos b2 e
      refine zk_iconst (v := (-1)) C kd_Tk_peek_25 (by decide) rfl ?_
      exact zk_iret C hR kd_Tk_peek_26 rfl rfl (zd_rIO e)
    · replace e := zd_neg b2 e
      refine zk_aload_n C kd_Tk_peek_12 rfl 0 rfl rfl ?_
      obtain ⟨q3, e⟩ := zd_gn e
      refine zs_get (v := .ref (S.1 1)) C 8 5 rfl rfl (zd_ref q3) rfl ki_Tk (by decide) kw127 kd_Tk_peek_13 rfl ?_
      refine zk_iload_n C kd_Tk_peek_16 rfl 1 rfl rfl ?_
      obtain ⟨q4, e⟩ := zd_g e
      refine zs_bald C 1 rfl (zd_vp q4) kd_Tk_peek_17 rfl ?_
      refine zk_sipush (v := 255) C kd_Tk_peek_18 (by decide) rfl ?_
      refine zk_iand C kd_Tk_peek_21 rfl ?_
      refine zk_goto (tgt := 26) C kd_Tk_peek_22 (by decide) ?_
      exact zk_iret C hR kd_Tk_peek_26 rfl rfl (zd_rIO e)
set_option maxHeartbeats 4000000 in
set_option maxRecDepth 100000 in
theorem zb_Tk_remarkEnd_40 {X : zkj_T} {S : zs_T} {P : ze_T} {l : Launch} {D : va_G} {sz0 : Nat} {rv : Int32} {h : zs_H} (C : zk_C X km_Tk_remarkEnd (zs_G S l D sz0) { frames := 0, cells := 0, slots := 0, locals := 0 } (ze_E P)) (hR : zkj_R X (zd_PI S rv h) (some .int)) {k2 : Int32 → (Option Int32)} (hk2 : ∀ (x2 : Int32), k2 x2 = some rv → zk_Ab X (zs_W S h) 0 0 2 [(0, .ref (S.1 8)), (2, .int x2)] []) (x2 : Int32) (e : f_Tk_remarkEnd_40 h k2 x2 = some rv) : zk_Ab X (zs_W S h) 0 0 40 [(0, .ref (S.1 8)), (2, .int x2)] [] := by
  unfold f_Tk_remarkEnd_40 at e
  refine zk_iinc (v := (x2 + 1)) (lv' := [(2, _), (0, _)]) C kd_Tk_remarkEnd_40 1 rfl rfl (by decide) rfl rfl ?_
  refine zk_goto (tgt := 2) C kd_Tk_remarkEnd_43 (by decide) ?_
  refine zk_lvs (lv' := [(0, .ref (S.1 8)), (2, .int (x2 + 1))]) [1, 0] rfl ?_
  exact hk2 (x2 + 1) e
set_option maxHeartbeats 4000000 in
set_option maxRecDepth 100000 in
theorem zb_Tk_remarkEnd_2 {X : zkj_T} {S : zs_T} {P : ze_T} {l : Launch} {D : va_G} {sz0 : Nat} {rv : Int32} {h : zs_H} (C : zk_C X km_Tk_remarkEnd (zs_G S l D sz0) { frames := 0, cells := 0, slots := 0, locals := 0 } (ze_E P)) (hR : zkj_R X (zd_PI S rv h) (some .int)) {k2 : Int32 → (Option Int32)} (hk2 : ∀ (x2 : Int32), k2 x2 = some rv → zk_Ab X (zs_W S h) 0 0 2 [(0, .ref (S.1 8)), (2, .int x2)] []) (x2 : Int32) (e : f_Tk_remarkEnd_2 h k2 x2 = some rv) : zk_Ab X (zs_W S h) 0 0 2 [(0, .ref (S.1 8)), (2, .int x2)] [] := by
  unfold f_Tk_remarkEnd_2 at e
  refine zk_iload_n C kd_Tk_remarkEnd_2 rfl 1 rfl rfl ?_
  refine zk_iconst (v := 1) C kd_Tk_remarkEnd_3 (by decide) rfl ?_
  refine zk_iadd C kd_Tk_remarkEnd_4 rfl ?_
  refine zk_aload_n C kd_Tk_remarkEnd_5 rfl 0 rfl rfl ?_
  refine zs_get (v := .int (h.1 8 6)) C 8 6 rfl rfl rfl rfl ki_Tk (by decide) kw128 kd_Tk_remarkEnd_6 rfl ?_
  refine zk_icmp_ge (tgt := 46) C kd_Tk_remarkEnd_9 (by decide) rfl (fun b1 => ?_) (fun b1 => ?_)
  · replace e := zd_pos b1 e
    refine zk_iconst (v := (-1)) C kd_Tk_remarkEnd_46 (by decide) rfl ?_
    exact zk_iret C hR kd_Tk_remarkEnd_47 rfl rfl (zd_rIO e)
  · replace e := zd_neg b1 e
    refine zk_aload_n C kd_Tk_remarkEnd_12 rfl 0 rfl rfl ?_
    obtain ⟨q2, e⟩ := zd_gn e
    refine zs_get (v := .ref (S.1 1)) C 8 5 rfl rfl (zd_ref q2) rfl ki_Tk (by decide) kw127 kd_Tk_remarkEnd_13 rfl ?_
    refine zk_iload_n C kd_Tk_remarkEnd_16 rfl 1 rfl rfl ?_
    obtain ⟨q3, e⟩ := zd_g e
    refine zs_bald C 1 rfl (zd_vp q3) kd_Tk_remarkEnd_17 rfl ?_
    refine zk_bipush (v := 42) C kd_Tk_remarkEnd_18 (by decide) rfl ?_
    refine zk_icmp_ne (tgt := 40) C kd_Tk_remarkEnd_20 (by decide) rfl (fun b4 => ?_) (fun b4 => ?_)
    · replace e := zd_neg b4 e
      refine zk_lvs (lv' := [(0, .ref (S.1 8)), (2, .int x2)]) [0, 1] rfl ?_
      exact zb_Tk_remarkEnd_40 C hR hk2 x2 e
    · replace e := zd_pos b4 e
      refine zk_aload_n C kd_Tk_remarkEnd_23 rfl 0 rfl rfl ?_
      refine zs_get (v := .ref (S.1 1)) C 8 5 rfl rfl (zd_ref q2) rfl ki_Tk (by decide) kw127 kd_Tk_remarkEnd_24 rfl ?_
      refine zk_iload_n C kd_Tk_remarkEnd_27 rfl 1 rfl rfl ?_
      refine zk_iconst (v := 1) C kd_Tk_remarkEnd_28 (by decide) rfl ?_
      refine zk_iadd C kd_Tk_remarkEnd_29 rfl ?_
      obtain ⟨q5, e⟩ := zd_g e
      refine zs_bald C 1 rfl (zd_vp q5) kd_Tk_remarkEnd_30 rfl ?_
      refine zk_bipush (v := 41) C kd_Tk_remarkEnd_31 (by decide) rfl ?_
      refine zk_icmp_ne (tgt := 40) C kd_Tk_remarkEnd_33 (by decide) rfl (fun b6 => ?_) (fun b6 => ?_)
      · replace e := zd_neg b6 e
        refine zk_lvs (lv' := [(0, .ref (S.1 8)), (2, .int x2)]) [0, 1] rfl ?_
        exact zb_Tk_remarkEnd_40 C hR hk2 x2 e
      · replace e := zd_pos b6 e
        refine zk_iload_n C kd_Tk_remarkEnd_36 rfl 1 rfl rfl ?_
        refine zk_iconst (v := 2) C kd_Tk_remarkEnd_37 (by decide) rfl ?_
        refine zk_iadd C kd_Tk_remarkEnd_38 rfl ?_
        exact zk_iret C hR kd_Tk_remarkEnd_39 rfl rfl (zd_rIO e)
theorem zl_Tk_remarkEnd_2 {X : zkj_T} {S : zs_T} {P : ze_T} {l : Launch} {D : va_G} {sz0 : Nat} {rv : Int32} {h : zs_H} (C : zk_C X km_Tk_remarkEnd (zs_G S l D sz0) { frames := 0, cells := 0, slots := 0, locals := 0 } (ze_E P)) (hR : zkj_R X (zd_PI S rv h) (some .int)) (n : Nat) : ∀ (x2 : Int32), f_Tk_remarkEnd_L2 h n x2 = some rv → zk_Ab X (zs_W S h) 0 0 2 [(0, .ref (S.1 8)), (2, .int x2)] [] := by
  induction n with
  | zero => intro x2 e; exact zd_no e
  | succ n ih => intro x2 e; exact zb_Tk_remarkEnd_2 (k2 := f_Tk_remarkEnd_L2 h n) C hR ih x2 e
set_option maxHeartbeats 4000000 in
set_option maxRecDepth 100000 in
theorem zc_Tk_remarkEnd {l : Launch} {D : va_G} {sz0 : Nat} {S : zs_T} {P : ze_T} (h : zs_H) (x1 : Int32) {rv : Int32} (e : f_Tk_remarkEnd h x1 = some rv) : zk_Sp (zs_G S l D sz0) (ze_E P) km_Tk_remarkEnd { frames := 0, cells := 0, slots := 0, locals := 0 } [.ref (S.1 8), .int x1] (zs_W S h) (zd_PI S rv h) := by
  refine zk_met ku_Tk_remarkEnd (Nat.le_of_ble_eq_true rfl) (ze_Em P) ?_
  intro X C hR
  refine zk_lvs (lv' := [(0, .ref (S.1 8)), (1, .int x1)]) [0, 1] rfl ?_
  unfold f_Tk_remarkEnd at e
  refine zk_iload_n C kd_Tk_remarkEnd_0 rfl 1 rfl rfl ?_
  refine zk_istore_n (lv' := [(2, _), (0, _), (1, _)]) C kd_Tk_remarkEnd_1 rfl (by decide) rfl rfl ?_
  refine zk_lvs (lv' := [(0, .ref (S.1 8)), (2, .int x1)]) [1, 0] rfl ?_
  exact zl_Tk_remarkEnd_2 C hR zF x1 e
set_option maxHeartbeats 4000000 in
set_option maxRecDepth 100000 in
theorem zc_Tk_add {l : Launch} {D : va_G} {sz0 : Nat} {S : zs_T} {P : ze_T} (h : zs_H) (x1 : Int32) (x2 : Int32) {rh : zs_H} (e : f_Tk_add h x1 x2 = some rh) : zk_Sp (zs_G S l D sz0) (ze_E P) km_Tk_add { frames := 0, cells := 0, slots := 0, locals := 0 } [.ref (S.1 8), .int x1, .int x2] (zs_W S h) (zd_PV S rh) := by
  refine zk_met ku_Tk_add (Nat.le_of_ble_eq_true rfl) (ze_Em P) ?_
  intro X C hR
  refine zk_lvs (lv' := [(0, .ref (S.1 8)), (1, .int x1), (2, .int x2)]) [0, 1, 2] rfl ?_
  unfold f_Tk_add at e
  refine zk_aload_n C kd_Tk_add_0 rfl 0 rfl rfl ?_
  refine zs_get (v := .int (h.1 8 3)) C 8 3 rfl rfl rfl rfl ki_Tk (by decide) kw124 kd_Tk_add_1 rfl ?_
  refine zk_aload_n C kd_Tk_add_4 rfl 0 rfl rfl ?_
  refine zs_get (v := .ref (S.1 9)) C 8 0 rfl rfl rfl rfl ki_Tk (by decide) kw118 kd_Tk_add_5 rfl ?_
  refine zs_alen (v := 16385) C 9 rfl (by decide) rfl kd_Tk_add_8 rfl ?_
  refine zk_icmp_ge (tgt := 57) C kd_Tk_add_9 (by decide) rfl (fun b1 => ?_) (fun b1 => ?_)
  · replace e := zd_pos b1 e
    exact zk_vret C hR kd_Tk_add_57 rfl rfl (zd_rV e)
  · replace e := zd_neg b1 e
    refine zk_aload_n C kd_Tk_add_12 rfl 0 rfl rfl ?_
    refine zs_get (v := .ref (S.1 9)) C 8 0 rfl rfl rfl rfl ki_Tk (by decide) kw118 kd_Tk_add_13 rfl ?_
    refine zk_aload_n C kd_Tk_add_16 rfl 0 rfl rfl ?_
    refine zs_get (v := .int (h.1 8 3)) C 8 3 rfl rfl rfl rfl ki_Tk (by decide) kw124 kd_Tk_add_17 rfl ?_
    refine zk_iload_n C kd_Tk_add_20 rfl 1 rfl rfl ?_
    refine zk_i2c C kd_Tk_add_21 rfl ?_
    obtain ⟨q2, e⟩ := zd_g e
    refine zs_cast C 9 rfl (zd_vp q2) kd_Tk_add_22 rfl ?_
    refine zk_aload_n C kd_Tk_add_23 rfl 0 rfl rfl ?_
    refine zs_get (v := .ref (S.1 10)) C 8 1 rfl rfl rfl rfl ki_Tk (by decide) kw120 kd_Tk_add_24 rfl ?_
    refine zk_aload_n C kd_Tk_add_27 rfl 0 rfl rfl ?_
    refine zs_get (v := .int (h.1 8 3)) C 8 3 rfl rfl rfl rfl ki_Tk (by decide) kw124 kd_Tk_add_28 rfl ?_
    refine zk_aload_n C kd_Tk_add_31 rfl 0 rfl rfl ?_
    refine zs_get (v := .int (h.1 8 7)) C 8 7 rfl rfl rfl rfl ki_Tk (by decide) kw129 kd_Tk_add_32 rfl ?_
    refine zk_i2c C kd_Tk_add_35 rfl ?_
    refine zs_cast C 10 rfl (zd_vp q2) kd_Tk_add_36 rfl ?_
    refine zk_aload_n C kd_Tk_add_37 rfl 0 rfl rfl ?_
    refine zs_get (v := .ref (S.1 11)) C 8 2 rfl rfl rfl rfl ki_Tk (by decide) kw122 kd_Tk_add_38 rfl ?_
    refine zk_aload_n C kd_Tk_add_41 rfl 0 rfl rfl ?_
    refine zs_get (v := .int (h.1 8 3)) C 8 3 rfl rfl rfl rfl ki_Tk (by decide) kw124 kd_Tk_add_42 rfl ?_
    refine zk_iload_n C kd_Tk_add_45 rfl 2 rfl rfl ?_
    refine zs_iast C 11 rfl (zd_vp q2) kd_Tk_add_46 rfl ?_
    refine zk_aload_n C kd_Tk_add_47 rfl 0 rfl rfl ?_
    refine zk_dup C kd_Tk_add_48 rfl rfl ?_
    refine zs_get (v := .int (h.1 8 3)) C 8 3 rfl rfl rfl rfl ki_Tk (by decide) kw124 kd_Tk_add_49 rfl ?_
    refine zk_iconst (v := 1) C kd_Tk_add_52 (by decide) rfl ?_
    refine zk_iadd C kd_Tk_add_53 rfl ?_
    refine zs_put (ty := .int) C 8 3 ((h.1 8 3) + 1) rfl rfl rfl rfl ki_Tk ky_Tk ko_Tk kn_Tk (by decide) kw124 rfl rfl rfl rfl (by decide) kd_Tk_add_54 rfl ?_
    exact zk_vret C hR kd_Tk_add_57 rfl rfl (zd_rV e)
set_option maxHeartbeats 4000000 in
set_option maxRecDepth 100000 in
theorem zc_Tk_refuse {l : Launch} {D : va_G} {sz0 : Nat} {S : zs_T} {P : ze_T} (h : zs_H) (x1 : Int32) {rv : Int32} {rh : zs_H} (e : f_Tk_refuse h x1 = some (rv, rh)) : zk_Sp (zs_G S l D sz0) (ze_E P) km_Tk_refuse { frames := 1, cells := 0, slots := 0, locals := 22 } [.ref (S.1 8), .int x1] (zs_W S h) (zd_PZ S rv rh) := by
  refine zk_met ku_Tk_refuse (Nat.le_of_ble_eq_true rfl) (ze_Em P) ?_
  intro X C hR
  refine zk_lvs (lv' := [(0, .ref (S.1 8)), (1, .int x1)]) [0, 1] rfl ?_
  unfold f_Tk_refuse at e
  refine zk_aload_n C kd_Tk_refuse_0 rfl 0 rfl rfl ?_
  refine zk_bipush (v := 7) C kd_Tk_refuse_1 (by decide) rfl ?_
  refine zk_iload_n C kd_Tk_refuse_3 rfl 1 rfl rfl ?_
  obtain ⟨h2, c1, e⟩ := zd_b e
  refine zs_callV (k := 8) (rn := { frames := 0, cells := 0, slots := 0, locals := 0 }) (As := [.int 7, .int x1]) (rest := []) C (zc_Tk_add h 7 x1 c1) ku_Tk_add kw734 kv_Tk_add rfl ⟨by decide, by decide⟩ ⟨by decide, by decide⟩ rfl rfl rfl (Nat.le_of_ble_eq_true rfl) kd_Tk_refuse_4 rfl (c1 := 0) (s1 := 0) rfl rfl (fun v w hp => ?_)
  obtain ⟨rfl, rfl⟩ := hp
  refine zk_stk (r' := []) rfl ?_
  refine zk_iconst (v := 0) C kd_Tk_refuse_7 (by decide) rfl ?_
  exact zk_zret C hR (zd_nb (Or.inl rfl)) kd_Tk_refuse_8 rfl rfl (zd_rZS (Or.inl rfl) e)
set_option maxHeartbeats 4000000 in
set_option maxRecDepth 100000 in
theorem zb_Tk_skipBlanks_108 {X : zkj_T} {S : zs_T} {P : ze_T} {l : Launch} {D : va_G} {sz0 : Nat} {rv : Int32} {rh : zs_H} (C : zk_C X km_Tk_skipBlanks (zs_G S l D sz0) { frames := 2, cells := 0, slots := 0, locals := 43 } (ze_E P)) (hR : zkj_R X (zd_PZ S rv rh) (some .boolean)) {k2 : zs_H → Int32 → (Option (Int32 × zs_H))} (hk2 : ∀ (h : zs_H) (x1 : Int32), k2 h x1 = some (rv, rh) → zk_Ab X (zs_W S h) 0 0 2 [(0, .ref (S.1 8)), (1, .int x1)] []) (h : zs_H) (x1 : Int32) (e : f_Tk_skipBlanks_108 k2 h x1 = some (rv, rh)) : zk_Ab X (zs_W S h) 0 0 108 [(0, .ref (S.1 8)), (1, .int x1)] [] := by
  unfold f_Tk_skipBlanks_108 at e
  refine zk_iinc (v := (x1 + 1)) (lv' := [(1, _), (0, _)]) C kd_Tk_skipBlanks_108 1 rfl rfl (by decide) rfl rfl ?_
  refine zk_goto (tgt := 2) C kd_Tk_skipBlanks_111 (by decide) ?_
  refine zk_lvs (lv' := [(0, .ref (S.1 8)), (1, .int (x1 + 1))]) [1, 0] rfl ?_
  exact hk2 h (x1 + 1) e
set_option maxHeartbeats 4000000 in
set_option maxRecDepth 100000 in
theorem zb_Tk_skipBlanks_42 {X : zkj_T} {S : zs_T} {P : ze_T} {l : Launch} {D : va_G} {sz0 : Nat} {rv : Int32} {rh : zs_H} (C : zk_C X km_Tk_skipBlanks (zs_G S l D sz0) { frames := 2, cells := 0, slots := 0, locals := 43 } (ze_E P)) (hR : zkj_R X (zd_PZ S rv rh) (some .boolean)) {k2 : zs_H → Int32 → (Option (Int32 × zs_H))} (hk2 : ∀ (h : zs_H) (x1 : Int32), k2 h x1 = some (rv, rh) → zk_Ab X (zs_W S h) 0 0 2 [(0, .ref (S.1 8)), (1, .int x1)] []) (h : zs_H) (x1 : Int32) (e : f_Tk_skipBlanks_42 k2 h x1 = some (rv, rh)) : zk_Ab X (zs_W S h) 0 0 42 [(0, .ref (S.1 8)), (1, .int x1)] [] := by
  unfold f_Tk_skipBlanks_42 at e
  refine zk_aload_n C kd_Tk_skipBlanks_42 rfl 0 rfl rfl ?_
  refine zk_dup C kd_Tk_skipBlanks_43 rfl rfl ?_
  refine zs_get (v := .int (h.1 8 7)) C 8 7 rfl rfl rfl rfl ki_Tk (by decide) kw129 kd_Tk_skipBlanks_44 rfl ?_
  refine zk_iconst (v := 1) C kd_Tk_skipBlanks_47 (by decide) rfl ?_
  refine zk_iadd C kd_Tk_skipBlanks_48 rfl ?_
  refine zs_put (ty := .int) C 8 7 ((h.1 8 7) + 1) rfl rfl rfl rfl ki_Tk ky_Tk ko_Tk kn_Tk (by decide) kw129 rfl rfl rfl rfl (by decide) kd_Tk_skipBlanks_49 rfl ?_
  refine zk_goto (tgt := 108) C kd_Tk_skipBlanks_52 (by decide) ?_
  refine zk_lvs (lv' := [(0, .ref (S.1 8)), (1, .int x1)]) [0, 1] rfl ?_
  exact zb_Tk_skipBlanks_108 C hR hk2 (zs_uF h 8 7 ((h.1 8 7) + 1)) x1 e
set_option maxHeartbeats 4000000 in
set_option maxRecDepth 100000 in
theorem zb_Tk_skipBlanks_2 {X : zkj_T} {S : zs_T} {P : ze_T} {l : Launch} {D : va_G} {sz0 : Nat} {rv : Int32} {rh : zs_H} (C : zk_C X km_Tk_skipBlanks (zs_G S l D sz0) { frames := 2, cells := 0, slots := 0, locals := 43 } (ze_E P)) (hR : zkj_R X (zd_PZ S rv rh) (some .boolean)) {k2 : zs_H → Int32 → (Option (Int32 × zs_H))} (hk2 : ∀ (h : zs_H) (x1 : Int32), k2 h x1 = some (rv, rh) → zk_Ab X (zs_W S h) 0 0 2 [(0, .ref (S.1 8)), (1, .int x1)] []) (h : zs_H) (x1 : Int32) (e : f_Tk_skipBlanks_2 k2 h x1 = some (rv, rh)) : zk_Ab X (zs_W S h) 0 0 2 [(0, .ref (S.1 8)), (1, .int x1)] [] := by
  unfold f_Tk_skipBlanks_2 at e
  refine zk_iload_n C kd_Tk_skipBlanks_2 rfl 1 rfl rfl ?_
  refine zk_sipush (v := 16384) C kd_Tk_skipBlanks_3 (by decide) rfl ?_
  refine zk_icmp_gt (tgt := 114) C kd_Tk_skipBlanks_6 (by decide) rfl (fun b1 => ?_) (fun b1 => ?_)
  · replace e := zd_pos b1 e
    refine zk_iconst (v := 1) C kd_Tk_skipBlanks_114 (by decide) rfl ?_
    exact zk_zret C hR (zd_nb (Or.inr rfl)) kd_Tk_skipBlanks_115 rfl rfl (zd_rZS (Or.inr rfl) e)
  · replace e := zd_neg b1 e
    refine zk_aload_n C kd_Tk_skipBlanks_9 rfl 0 rfl rfl ?_
    refine zk_aload_n C kd_Tk_skipBlanks_10 rfl 0 rfl rfl ?_
    refine zs_get (v := .int (h.1 8 7)) C 8 7 rfl rfl rfl rfl ki_Tk (by decide) kw129 kd_Tk_skipBlanks_11 rfl ?_
    obtain ⟨v3, c2, e⟩ := zd_b e
    refine zs_callV (k := 8) (rn := { frames := 0, cells := 0, slots := 0, locals := 0 }) (As := [.int (h.1 8 7)]) (rest := []) C (zc_Tk_peek h (h.1 8 7) c2) ku_Tk_peek kw722 kv_Tk_peek rfl ⟨by decide, by decide⟩ ⟨by decide, by decide⟩ rfl rfl rfl (Nat.le_of_ble_eq_true rfl) kd_Tk_skipBlanks_14 rfl (c1 := 0) (s1 := 0) rfl rfl (fun v w hp => ?_)
    obtain ⟨rfl, rfl⟩ := hp
    refine zk_stk (r' := [.int v3]) rfl ?_
    refine zk_istore_n (lv' := [(2, _), (0, _), (1, _)]) C kd_Tk_skipBlanks_17 rfl (by decide) rfl rfl ?_
    refine zk_iload_n C kd_Tk_skipBlanks_18 rfl 0 rfl rfl ?_
    refine zk_bipush (v := 9) C kd_Tk_skipBlanks_19 (by decide) rfl ?_
    refine zk_icmp_eq (tgt := 42) C kd_Tk_skipBlanks_21 (by decide) rfl (fun b4 => ?_) (fun b4 => ?_)
    · replace e := zd_pos b4 e
      refine zk_lvs (lv' := [(0, .ref (S.1 8)), (1, .int x1)]) [1, 2] rfl ?_
      exact zb_Tk_skipBlanks_42 C hR hk2 h x1 e
    · replace e := zd_neg b4 e
      refine zk_iload_n C kd_Tk_skipBlanks_24 rfl 0 rfl rfl ?_
      refine zk_bipush (v := 10) C kd_Tk_skipBlanks_25 (by decide) rfl ?_
      refine zk_icmp_eq (tgt := 42) C kd_Tk_skipBlanks_27 (by decide) rfl (fun b5 => ?_) (fun b5 => ?_)
      · replace e := zd_pos b5 e
        refine zk_lvs (lv' := [(0, .ref (S.1 8)), (1, .int x1)]) [1, 2] rfl ?_
        exact zb_Tk_skipBlanks_42 C hR hk2 h x1 e
      · replace e := zd_neg b5 e
        refine zk_iload_n C kd_Tk_skipBlanks_30 rfl 0 rfl rfl ?_
        refine zk_bipush (v := 13) C kd_Tk_skipBlanks_31 (by decide) rfl ?_
        refine zk_icmp_eq (tgt := 42) C kd_Tk_skipBlanks_33 (by decide) rfl (fun b6 => ?_) (fun b6 => ?_)
        · replace e := zd_pos b6 e
          refine zk_lvs (lv' := [(0, .ref (S.1 8)), (1, .int x1)]) [1, 2] rfl ?_
          exact zb_Tk_skipBlanks_42 C hR hk2 h x1 e
        · replace e := zd_neg b6 e
          refine zk_iload_n C kd_Tk_skipBlanks_36 rfl 0 rfl rfl ?_
          refine zk_bipush (v := 32) C kd_Tk_skipBlanks_37 (by decide) rfl ?_
          refine zk_icmp_ne (tgt := 55) C kd_Tk_skipBlanks_39 (by decide) rfl (fun b7 => ?_) (fun b7 => ?_)
          · replace e := zd_neg b7 e
            refine zk_iload_n C kd_Tk_skipBlanks_55 rfl 0 rfl rfl ?_
            refine zk_bipush (v := 40) C kd_Tk_skipBlanks_56 (by decide) rfl ?_
            refine zk_icmp_ne (tgt := 106) C kd_Tk_skipBlanks_58 (by decide) rfl (fun b8 => ?_) (fun b8 => ?_)
            · replace e := zd_neg b8 e
              refine zk_iconst (v := 1) C kd_Tk_skipBlanks_106 (by decide) rfl ?_
              exact zk_zret C hR (zd_nb (Or.inr rfl)) kd_Tk_skipBlanks_107 rfl rfl (zd_rZS (Or.inr rfl) e)
            · replace e := zd_pos b8 e
              refine zk_aload_n C kd_Tk_skipBlanks_61 rfl 1 rfl rfl ?_
              refine zk_aload_n C kd_Tk_skipBlanks_62 rfl 1 rfl rfl ?_
              refine zs_get (v := .int (h.1 8 7)) C 8 7 rfl rfl rfl rfl ki_Tk (by decide) kw129 kd_Tk_skipBlanks_63 rfl ?_
              refine zk_iconst (v := 1) C kd_Tk_skipBlanks_66 (by decide) rfl ?_
              refine zk_iadd C kd_Tk_skipBlanks_67 rfl ?_
              obtain ⟨v10, c9, e⟩ := zd_b e
              refine zs_callV (k := 8) (rn := { frames := 0, cells := 0, slots := 0, locals := 0 }) (As := [.int ((h.1 8 7) + 1)]) (rest := []) C (zc_Tk_peek h ((h.1 8 7) + 1) c9) ku_Tk_peek kw722 kv_Tk_peek rfl ⟨by decide, by decide⟩ ⟨by decide, by decide⟩ rfl rfl rfl (Nat.le_of_ble_eq_true rfl) kd_Tk_skipBlanks_68 rfl (c1 := 0) (s1 := 0) rfl rfl (fun v w hp => ?_)
              obtain ⟨rfl, rfl⟩ := hp
              refine zk_stk (r' := [.int v10]) rfl ?_
              refine zk_bipush (v := 42) C kd_Tk_skipBlanks_71 (by decide) rfl ?_
              refine zk_icmp_ne (tgt := 106) C kd_Tk_skipBlanks_73 (by decide) rfl (fun b11 => ?_) (fun b11 => ?_)
              · replace e := zd_neg b11 e
                refine zk_iconst (v := 1) C kd_Tk_skipBlanks_106 (by decide) rfl ?_
                exact zk_zret C hR (zd_nb (Or.inr rfl)) kd_Tk_skipBlanks_107 rfl rfl (zd_rZS (Or.inr rfl) e)
              · replace e := zd_pos b11 e
                refine zk_aload_n C kd_Tk_skipBlanks_76 rfl 1 rfl rfl ?_
                refine zk_aload_n C kd_Tk_skipBlanks_77 rfl 1 rfl rfl ?_
                refine zs_get (v := .int (h.1 8 7)) C 8 7 rfl rfl rfl rfl ki_Tk (by decide) kw129 kd_Tk_skipBlanks_78 rfl ?_
                refine zk_iconst (v := 2) C kd_Tk_skipBlanks_81 (by decide) rfl ?_
                refine zk_iadd C kd_Tk_skipBlanks_82 rfl ?_
                obtain ⟨v13, c12, e⟩ := zd_b e
                refine zs_callV (k := 8) (rn := { frames := 0, cells := 0, slots := 0, locals := 0 }) (As := [.int ((h.1 8 7) + 2)]) (rest := []) C (zc_Tk_remarkEnd h ((h.1 8 7) + 2) c12) ku_Tk_remarkEnd kw726 kv_Tk_remarkEnd rfl ⟨by decide, by decide⟩ ⟨by decide, by decide⟩ rfl rfl rfl (Nat.le_of_ble_eq_true rfl) kd_Tk_skipBlanks_83 rfl (c1 := 0) (s1 := 0) rfl rfl (fun v w hp => ?_)
                obtain ⟨rfl, rfl⟩ := hp
                refine zk_stk (r' := [.int v13]) rfl ?_
                refine zk_istore_n (lv' := [(3, _), (2, _), (0, _), (1, _)]) C kd_Tk_skipBlanks_86 rfl (by decide) rfl rfl ?_
                refine zk_iload_n C kd_Tk_skipBlanks_87 rfl 0 rfl rfl ?_
                refine zk_iconst (v := (-1)) C kd_Tk_skipBlanks_88 (by decide) rfl ?_
                refine zk_icmp_ne (tgt := 98) C kd_Tk_skipBlanks_89 (by decide) rfl (fun b14 => ?_) (fun b14 => ?_)
                · replace e := zd_neg b14 e
                  refine zk_aload_n C kd_Tk_skipBlanks_98 rfl 2 rfl rfl ?_
                  refine zk_iload_n C kd_Tk_skipBlanks_99 rfl 0 rfl rfl ?_
                  refine zs_put (ty := .int) C 8 7 v13 rfl rfl rfl rfl ki_Tk ky_Tk ko_Tk kn_Tk (by decide) kw129 rfl rfl rfl rfl (by decide) kd_Tk_skipBlanks_100 rfl ?_
                  refine zk_goto (tgt := 108) C kd_Tk_skipBlanks_103 (by decide) ?_
                  refine zk_lvs (lv' := [(0, .ref (S.1 8)), (1, .int x1)]) [2, 3] rfl ?_
                  exact zb_Tk_skipBlanks_108 C hR hk2 (zs_uF h 8 7 v13) x1 e
                · replace e := zd_pos b14 e
                  refine zk_aload_n C kd_Tk_skipBlanks_92 rfl 2 rfl rfl ?_
                  refine zk_iconst (v := 2) C kd_Tk_skipBlanks_93 (by decide) rfl ?_
                  obtain ⟨v16, h17, c15, e⟩ := zd_Be e
                  refine zs_callV (k := 8) (rn := { frames := 1, cells := 0, slots := 0, locals := 22 }) (As := [.int 2]) (rest := []) C (zc_Tk_refuse h 2 c15) ku_Tk_refuse kw730 kv_Tk_refuse rfl ⟨by decide, by decide⟩ ⟨by decide, by decide⟩ rfl rfl rfl (Nat.le_of_ble_eq_true rfl) kd_Tk_skipBlanks_94 rfl (c1 := 0) (s1 := 0) rfl rfl (fun v w hp => ?_)
                  obtain ⟨rfl, rfl, z18⟩ := hp
                  refine zk_stk (r' := [.int v16]) rfl ?_
                  exact zk_zret C hR (zd_nb z18) kd_Tk_skipBlanks_97 rfl rfl (zd_rZS z18 e)
          · replace e := zd_pos b7 e
            refine zk_lvs (lv' := [(0, .ref (S.1 8)), (1, .int x1)]) [1, 2] rfl ?_
            exact zb_Tk_skipBlanks_42 C hR hk2 h x1 e
theorem zl_Tk_skipBlanks_2 {X : zkj_T} {S : zs_T} {P : ze_T} {l : Launch} {D : va_G} {sz0 : Nat} {rv : Int32} {rh : zs_H} (C : zk_C X km_Tk_skipBlanks (zs_G S l D sz0) { frames := 2, cells := 0, slots := 0, locals := 43 } (ze_E P)) (hR : zkj_R X (zd_PZ S rv rh) (some .boolean)) (n : Nat) : ∀ (h : zs_H) (x1 : Int32), f_Tk_skipBlanks_L2 n h x1 = some (rv, rh) → zk_Ab X (zs_W S h) 0 0 2 [(0, .ref (S.1 8)), (1, .int x1)] [] := by
  induction n with
  | zero => intro h x1 e; exact zd_no e
  | succ n ih => intro h x1 e; exact zb_Tk_skipBlanks_2 (k2 := f_Tk_skipBlanks_L2  n) C hR ih h x1 e
set_option maxHeartbeats 4000000 in
set_option maxRecDepth 100000 in
theorem zc_Tk_skipBlanks {l : Launch} {D : va_G} {sz0 : Nat} {S : zs_T} {P : ze_T} (h : zs_H) {rv : Int32} {rh : zs_H} (e : f_Tk_skipBlanks h = some (rv, rh)) : zk_Sp (zs_G S l D sz0) (ze_E P) km_Tk_skipBlanks { frames := 2, cells := 0, slots := 0, locals := 43 } [.ref (S.1 8)] (zs_W S h) (zd_PZ S rv rh) := by
  refine zk_met ku_Tk_skipBlanks (Nat.le_of_ble_eq_true rfl) (ze_Em P) ?_
  intro X C hR
  refine zk_lvs (lv' := [(0, .ref (S.1 8))]) [0] rfl ?_
  unfold f_Tk_skipBlanks at e
  refine zk_iconst (v := 0) C kd_Tk_skipBlanks_0 (by decide) rfl ?_
  refine zk_istore_n (lv' := [(1, _), (0, _)]) C kd_Tk_skipBlanks_1 rfl (by decide) rfl rfl ?_
  refine zk_lvs (lv' := [(0, .ref (S.1 8)), (1, .int 0)]) [1, 0] rfl ?_
  exact zl_Tk_skipBlanks_2 C hR zF h 0 e
set_option maxHeartbeats 4000000 in
set_option maxRecDepth 100000 in
theorem zb_Nm_numberOf_c1_91 {X : zkj_T} {S : zs_T} {P : ze_T} {l : Launch} {D : va_G} {sz0 : Nat} {rv : Int32} {rh : zs_H} (C : zk_C X km_Nm_numberOf (zs_G S l D sz0) { frames := 3, cells := 0, slots := 0, locals := 70 } (ze_E P)) (hR : zkj_R X (zd_PI S rv rh) (some .int)) {k91 : zs_H → Int32 → Int32 → Int32 → Int32 → (Option (Int32 × zs_H))} (hk91 : ∀ (h : zs_H) (x2 : Int32) (x3 : Int32) (x4 : Int32) (x6 : Int32), k91 h x2 x3 x4 x6 = some (rv, rh) → zk_Ab X (zs_W S h) 0 0 91 [(0, .ref (S.1 2)), (1, .ref (S.1 1)), (2, .int x2), (3, .int x3), (4, .int x4), (6, .int x6)] []) (h : zs_H) (x2 : Int32) (x3 : Int32) (x4 : Int32) (x6 : Int32) (e : f_Nm_numberOf_c1_91 k91 h x2 x3 x4 x6 = some (rv, rh)) : zk_Ab X (zs_W S h) 0 0 91 [(0, .ref (S.1 2)), (1, .ref (S.1 1)), (2, .int x2), (3, .int x3), (4, .int x4), (6, .int x6)] [] := by
  unfold f_Nm_numberOf_c1_91 at e
  refine zk_iload C kd_Nm_numberOf_91 5 rfl rfl ?_
  refine zk_iload_n C kd_Nm_numberOf_93 rfl 3 rfl rfl ?_
  refine zk_icmp_ge (tgt := 128) C kd_Nm_numberOf_94 (by decide) rfl (fun b1 => ?_) (fun b1 => ?_)
  · replace e := zd_pos b1 e
    refine zk_aload_n C kd_Nm_numberOf_128 rfl 1 rfl rfl ?_
    refine zk_iload_n C kd_Nm_numberOf_129 rfl 2 rfl rfl ?_
    refine zk_iload_n C kd_Nm_numberOf_130 rfl 3 rfl rfl ?_
    obtain ⟨v3, c2, e⟩ := zd_b e
    refine zk_callS (rn := { frames := 1, cells := 0, slots := 0, locals := 20 }) (As := [.ref (S.1 1), .int x2, .int x3]) (rest := []) C (zc_Nm_headOf_c1 h x2 x3 c2) ku_Nm_headOf kw704 ks_Nm_headOf rfl ⟨by decide, by decide⟩ ⟨by decide, by decide⟩ rfl (Nat.le_of_ble_eq_true rfl) kd_Nm_numberOf_131 rfl (c1 := 0) (s1 := 0) rfl rfl (fun v w hp => ?_)
    obtain ⟨rfl, rfl⟩ := hp
    refine zk_stk (r' := [.int v3]) rfl ?_
    refine zk_istore (lv' := [(6, _), (0, _), (1, _), (2, _), (3, _), (4, _)]) C kd_Nm_numberOf_134 (by decide) rfl rfl ?_
    refine zk_aload_n C kd_Nm_numberOf_136 rfl 1 rfl rfl ?_
    refine zs_get (v := .ref (S.1 6)) C 2 3 rfl rfl rfl rfl ki_Nm (by decide) kw94 kd_Nm_numberOf_137 rfl ?_
    refine zk_iload C kd_Nm_numberOf_140 5 rfl rfl ?_
    refine zk_aload_n C kd_Nm_numberOf_142 rfl 1 rfl rfl ?_
    refine zs_get (v := .ref (S.1 7)) C 2 4 rfl rfl rfl rfl ki_Nm (by decide) kw95 kd_Nm_numberOf_143 rfl ?_
    refine zk_iload C kd_Nm_numberOf_146 0 rfl rfl ?_
    obtain ⟨q4, e⟩ := zd_g e
    refine zs_iald C 7 rfl (zd_vp q4) kd_Nm_numberOf_148 rfl ?_
    obtain ⟨q5, e⟩ := zd_g e
    refine zs_iast C 6 rfl (zd_vp q5) kd_Nm_numberOf_149 rfl ?_
    refine zk_aload_n C kd_Nm_numberOf_150 rfl 1 rfl rfl ?_
    refine zs_get (v := .ref (S.1 7)) C 2 4 rfl rfl rfl rfl ki_Nm (by decide) kw95 kd_Nm_numberOf_151 rfl ?_
    refine zk_iload C kd_Nm_numberOf_154 0 rfl rfl ?_
    refine zk_iload C kd_Nm_numberOf_156 5 rfl rfl ?_
    refine zs_iast C 7 rfl (zd_vp q4) kd_Nm_numberOf_158 rfl ?_
    refine zk_aload_n C kd_Nm_numberOf_159 rfl 1 rfl rfl ?_
    refine zk_dup C kd_Nm_numberOf_160 rfl rfl ?_
    refine zs_get (v := .int (h.1 2 5)) C 2 5 rfl rfl rfl rfl ki_Nm (by decide) kw96 kd_Nm_numberOf_161 rfl ?_
    refine zk_iconst (v := 1) C kd_Nm_numberOf_164 (by decide) rfl ?_
    refine zk_iadd C kd_Nm_numberOf_165 rfl ?_
    refine zs_put (ty := .int) C 2 5 ((h.1 2 5) + 1) rfl rfl rfl rfl ki_Nm ky_Nm ko_Nm kn_Nm (by decide) kw96 rfl rfl rfl rfl (by decide) kd_Nm_numberOf_166 rfl ?_
    refine zk_aload_n C kd_Nm_numberOf_169 rfl 1 rfl rfl ?_
    refine zs_get (v := .ref (S.1 5)) C 2 2 rfl rfl rfl rfl ki_Nm (by decide) kw93 kd_Nm_numberOf_170 rfl ?_
    refine zk_aload_n C kd_Nm_numberOf_173 rfl 1 rfl rfl ?_
    refine zs_get (v := .int ((h.1 2 5) + 1)) C 2 5 rfl rfl rfl rfl ki_Nm (by decide) kw96 kd_Nm_numberOf_174 rfl ?_
    refine zk_aload_n C kd_Nm_numberOf_177 rfl 1 rfl rfl ?_
    refine zs_get (v := .ref (S.1 5)) C 2 2 rfl rfl rfl rfl ki_Nm (by decide) kw93 kd_Nm_numberOf_178 rfl ?_
    refine zk_iload C kd_Nm_numberOf_181 5 rfl rfl ?_
    obtain ⟨q6, e⟩ := zd_g e
    refine zs_iald C 5 rfl (zd_vp q6) kd_Nm_numberOf_183 rfl ?_
    refine zk_stk (r' := [.int (h.2.1 5 x4.toNatClampNeg), .int ((h.1 2 5) + 1), .ref (S.1 5)]) rfl ?_
    refine zk_iload_n C kd_Nm_numberOf_184 rfl 4 rfl rfl ?_
    refine zk_iadd C kd_Nm_numberOf_185 rfl ?_
    obtain ⟨q7, e⟩ := zd_g e
    refine zs_iast C 5 rfl (zd_vp q7) kd_Nm_numberOf_186 rfl ?_
    refine zk_iload C kd_Nm_numberOf_187 5 rfl rfl ?_
    exact zk_iret C hR kd_Nm_numberOf_189 rfl rfl (zd_rIS e)
  · replace e := zd_neg b1 e
    refine zk_aload_n C kd_Nm_numberOf_97 rfl 0 rfl rfl ?_
    refine zs_get (v := .ref (S.1 4)) C 2 1 rfl rfl rfl rfl ki_Nm (by decide) kw92 kd_Nm_numberOf_98 rfl ?_
    refine zk_aload_n C kd_Nm_numberOf_101 rfl 0 rfl rfl ?_
    refine zs_get (v := .ref (S.1 5)) C 2 2 rfl rfl rfl rfl ki_Nm (by decide) kw93 kd_Nm_numberOf_102 rfl ?_
    refine zk_iload C kd_Nm_numberOf_105 4 rfl rfl ?_
    obtain ⟨q8, e⟩ := zd_g e
    refine zs_iald C 5 rfl (zd_vp q8) kd_Nm_numberOf_107 rfl ?_
    refine zk_iload C kd_Nm_numberOf_108 5 rfl rfl ?_
    refine zk_iadd C kd_Nm_numberOf_110 rfl ?_
    refine zk_aload_n C kd_Nm_numberOf_111 rfl 1 rfl rfl ?_
    refine zk_iload_n C kd_Nm_numberOf_112 rfl 2 rfl rfl ?_
    refine zk_iload C kd_Nm_numberOf_113 5 rfl rfl ?_
    refine zk_iadd C kd_Nm_numberOf_115 rfl ?_
    obtain ⟨q9, e⟩ := zd_g e
    refine zs_bald C 1 rfl (zd_vp q9) kd_Nm_numberOf_116 rfl ?_
    refine zk_callS (rn := { frames := 0, cells := 0, slots := 0, locals := 0 }) (As := [.int (h.2.1 1 (x2 + x6).toNatClampNeg)]) (rest := [.int ((h.2.1 5 x4.toNatClampNeg) + x6), .ref (S.1 4)]) C (zc_Nm_great h (h.2.1 1 (x2 + x6).toNatClampNeg)) ku_Nm_great kw707 ks_Nm_great rfl ⟨by decide, by decide⟩ ⟨by decide, by decide⟩ rfl (Nat.le_of_ble_eq_true rfl) kd_Nm_numberOf_117 rfl (c1 := 0) (s1 := 0) rfl rfl (fun v w hp => ?_)
    obtain ⟨rfl, rfl⟩ := hp
    refine zk_stk (r' := [.int (f_Nm_great (h.2.1 1 (x2 + x6).toNatClampNeg)), .int ((h.2.1 5 x4.toNatClampNeg) + x6), .ref (S.1 4)]) rfl ?_
    refine zk_i2b C kd_Nm_numberOf_120 rfl ?_
    obtain ⟨q10, e⟩ := zd_g e
    refine zs_bast C 4 rfl (zd_vp q10) kd_Nm_numberOf_121 rfl ?_
    refine zk_iinc (v := (x6 + 1)) (lv' := [(6, _), (0, _), (1, _), (2, _), (3, _), (4, _)]) C kd_Nm_numberOf_122 5 rfl rfl (by decide) rfl rfl ?_
    refine zk_goto (tgt := 91) C kd_Nm_numberOf_125 (by decide) ?_
    refine zk_lvs (lv' := [(0, .ref (S.1 2)), (1, .ref (S.1 1)), (2, .int x2), (3, .int x3), (4, .int x4), (6, .int (x6 + 1))]) [1, 2, 3, 4, 5, 0] rfl ?_
    exact hk91 (zs_uM h 4 ((h.2.1 5 x4.toNatClampNeg) + x6).toNatClampNeg (vp_nar .byte ((f_Nm_great (h.2.1 1 (x2 + x6).toNatClampNeg)).toInt8.toInt32))) x2 x3 x4 (x6 + 1) e
theorem zl_Nm_numberOf_c1_91 {X : zkj_T} {S : zs_T} {P : ze_T} {l : Launch} {D : va_G} {sz0 : Nat} {rv : Int32} {rh : zs_H} (C : zk_C X km_Nm_numberOf (zs_G S l D sz0) { frames := 3, cells := 0, slots := 0, locals := 70 } (ze_E P)) (hR : zkj_R X (zd_PI S rv rh) (some .int)) (n : Nat) : ∀ (h : zs_H) (x2 : Int32) (x3 : Int32) (x4 : Int32) (x6 : Int32), f_Nm_numberOf_c1_L91 n h x2 x3 x4 x6 = some (rv, rh) → zk_Ab X (zs_W S h) 0 0 91 [(0, .ref (S.1 2)), (1, .ref (S.1 1)), (2, .int x2), (3, .int x3), (4, .int x4), (6, .int x6)] [] := by
  induction n with
  | zero => intro h x2 x3 x4 x6 e; exact zd_no e
  | succ n ih => intro h x2 x3 x4 x6 e; exact zb_Nm_numberOf_c1_91 (k91 := f_Nm_numberOf_c1_L91  n) C hR ih h x2 x3 x4 x6 e
set_option maxHeartbeats 4000000 in
set_option maxRecDepth 100000 in
theorem zb_Nm_numberOf_c1_37 {X : zkj_T} {S : zs_T} {P : ze_T} {l : Launch} {D : va_G} {sz0 : Nat} {rv : Int32} {rh : zs_H} (C : zk_C X km_Nm_numberOf (zs_G S l D sz0) { frames := 3, cells := 0, slots := 0, locals := 70 } (ze_E P)) (hR : zkj_R X (zd_PI S rv rh) (some .int)) (h : zs_H) (x2 : Int32) (x3 : Int32) (x4 : Int32) (y0 : Int32) (e : f_Nm_numberOf_c1_37 h x2 x3 x4 y0 = some (rv, rh)) : zk_Ab X (zs_W S h) 0 0 37 [(0, .ref (S.1 2)), (1, .ref (S.1 1)), (2, .int x2), (3, .int x3), (4, .int x4)] [.int y0] := by
  unfold f_Nm_numberOf_c1_37 at e
  refine zk_istore (lv' := [(5, _), (0, _), (1, _), (2, _), (3, _), (4, _)]) C kd_Nm_numberOf_37 (by decide) rfl rfl ?_
  refine zk_iload C kd_Nm_numberOf_39 5 rfl rfl ?_
  refine zk_iconst (v := (-1)) C kd_Nm_numberOf_41 (by decide) rfl ?_
  refine zk_icmp_ne (tgt := 79) C kd_Nm_numberOf_42 (by decide) rfl (fun b1 => ?_) (fun b1 => ?_)
  · replace e := zd_neg b1 e
    refine zk_iload C kd_Nm_numberOf_79 5 rfl rfl ?_
    exact zk_iret C hR kd_Nm_numberOf_81 rfl rfl (zd_rIS e)
  · replace e := zd_pos b1 e
    refine zk_iload C kd_Nm_numberOf_45 0 rfl rfl ?_
    refine zk_if_eq (tgt := 79) C kd_Nm_numberOf_47 (by decide) rfl (fun b2 => ?_) (fun b2 => ?_)
    · replace e := zd_pos b2 e
      refine zk_iload C kd_Nm_numberOf_79 5 rfl rfl ?_
      exact zk_iret C hR kd_Nm_numberOf_81 rfl rfl (zd_rIS e)
    · replace e := zd_neg b2 e
      refine zk_aload_n C kd_Nm_numberOf_50 rfl 1 rfl rfl ?_
      refine zs_get (v := .int (h.1 2 5)) C 2 5 rfl rfl rfl rfl ki_Nm (by decide) kw96 kd_Nm_numberOf_51 rfl ?_
      refine zk_sipush (v := 6000) C kd_Nm_numberOf_54 (by decide) rfl ?_
      refine zk_icmp_ge (tgt := 79) C kd_Nm_numberOf_57 (by decide) rfl (fun b3 => ?_) (fun b3 => ?_)
      · replace e := zd_pos b3 e
        refine zk_iload C kd_Nm_numberOf_79 5 rfl rfl ?_
        exact zk_iret C hR kd_Nm_numberOf_81 rfl rfl (zd_rIS e)
      · replace e := zd_neg b3 e
        refine zk_aload_n C kd_Nm_numberOf_60 rfl 1 rfl rfl ?_
        refine zs_get (v := .ref (S.1 5)) C 2 2 rfl rfl rfl rfl ki_Nm (by decide) kw93 kd_Nm_numberOf_61 rfl ?_
        refine zk_aload_n C kd_Nm_numberOf_64 rfl 1 rfl rfl ?_
        refine zs_get (v := .int (h.1 2 5)) C 2 5 rfl rfl rfl rfl ki_Nm (by decide) kw96 kd_Nm_numberOf_65 rfl ?_
        obtain ⟨q4, e⟩ := zd_g e
        refine zs_iald C 5 rfl (zd_vp q4) kd_Nm_numberOf_68 rfl ?_
        refine zk_iload_n C kd_Nm_numberOf_69 rfl 4 rfl rfl ?_
        refine zk_iadd C kd_Nm_numberOf_70 rfl ?_
        refine zk_aload_n C kd_Nm_numberOf_71 rfl 1 rfl rfl ?_
        refine zs_get (v := .ref (S.1 4)) C 2 1 rfl rfl rfl rfl ki_Nm (by decide) kw92 kd_Nm_numberOf_72 rfl ?_
        refine zs_alen (v := 16789) C 4 rfl (by decide) rfl kd_Nm_numberOf_75 rfl ?_
        refine zk_icmp_le (tgt := 82) C kd_Nm_numberOf_76 (by decide) rfl (fun b5 => ?_) (fun b5 => ?_)
        · replace e := zd_pos b5 e
          refine zk_aload_n C kd_Nm_numberOf_82 rfl 1 rfl rfl ?_
          refine zs_get (v := .int (h.1 2 5)) C 2 5 rfl rfl rfl rfl ki_Nm (by decide) kw96 kd_Nm_numberOf_83 rfl ?_
          refine zk_istore (lv' := [(4, _), (5, _), (0, _), (1, _), (2, _), (3, _)]) C kd_Nm_numberOf_86 (by decide) rfl rfl ?_
          refine zk_iconst (v := 0) C kd_Nm_numberOf_88 (by decide) rfl ?_
          refine zk_istore (lv' := [(6, _), (4, _), (5, _), (0, _), (1, _), (2, _), (3, _)]) C kd_Nm_numberOf_89 (by decide) rfl rfl ?_
          refine zk_lvs (lv' := [(0, .ref (S.1 2)), (1, .ref (S.1 1)), (2, .int x2), (3, .int x3), (4, .int (h.1 2 5)), (6, .int 0)]) [3, 4, 5, 6, 1, 0] rfl ?_
          exact zl_Nm_numberOf_c1_91 C hR zF h x2 x3 (h.1 2 5) 0 e
        · replace e := zd_neg b5 e
          refine zk_iload C kd_Nm_numberOf_79 5 rfl rfl ?_
          exact zk_iret C hR kd_Nm_numberOf_81 rfl rfl (zd_rIS e)
set_option maxHeartbeats 4000000 in
set_option maxRecDepth 100000 in
theorem zb_Nm_numberOf_c1_36 {X : zkj_T} {S : zs_T} {P : ze_T} {l : Launch} {D : va_G} {sz0 : Nat} {rv : Int32} {rh : zs_H} (C : zk_C X km_Nm_numberOf (zs_G S l D sz0) { frames := 3, cells := 0, slots := 0, locals := 70 } (ze_E P)) (hR : zkj_R X (zd_PI S rv rh) (some .int)) (h : zs_H) (x2 : Int32) (x3 : Int32) (x4 : Int32) (e : f_Nm_numberOf_c1_36 h x2 x3 x4 = some (rv, rh)) : zk_Ab X (zs_W S h) 0 0 36 [(0, .ref (S.1 2)), (1, .ref (S.1 1)), (2, .int x2), (3, .int x3), (4, .int x4)] [] := by
  unfold f_Nm_numberOf_c1_36 at e
  refine zk_iconst (v := 0) C kd_Nm_numberOf_36 (by decide) rfl ?_
  refine zk_lvs (lv' := [(0, .ref (S.1 2)), (1, .ref (S.1 1)), (2, .int x2), (3, .int x3), (4, .int x4)]) [0, 1, 2, 3, 4] rfl ?_
  exact zb_Nm_numberOf_c1_37 C hR h x2 x3 x4 0 e
set_option maxHeartbeats 4000000 in
set_option maxRecDepth 100000 in
theorem zc_Nm_numberOf_c1 {l : Launch} {D : va_G} {sz0 : Nat} {S : zs_T} {P : ze_T} (h : zs_H) (x2 : Int32) (x3 : Int32) {rv : Int32} {rh : zs_H} (e : f_Nm_numberOf_c1 h x2 x3 = some (rv, rh)) : zk_Sp (zs_G S l D sz0) (ze_E P) km_Nm_numberOf { frames := 3, cells := 0, slots := 0, locals := 70 } [.ref (S.1 2), .ref (S.1 1), .int x2, .int x3] (zs_W S h) (zd_PI S rv rh) := by
  refine zk_met ku_Nm_numberOf (Nat.le_of_ble_eq_true rfl) (ze_Em P) ?_
  intro X C hR
  refine zk_lvs (lv' := [(0, .ref (S.1 2)), (1, .ref (S.1 1)), (2, .int x2), (3, .int x3)]) [0, 1, 2, 3] rfl ?_
  unfold f_Nm_numberOf_c1 at e
  refine zk_aload_n C kd_Nm_numberOf_0 rfl 0 rfl rfl ?_
  refine zk_aload_n C kd_Nm_numberOf_1 rfl 1 rfl rfl ?_
  refine zk_iload_n C kd_Nm_numberOf_2 rfl 2 rfl rfl ?_
  refine zk_iload_n C kd_Nm_numberOf_3 rfl 3 rfl rfl ?_
  obtain ⟨v2, c1, e⟩ := zd_b e
  refine zs_callV (k := 2) (rn := { frames := 2, cells := 0, slots := 0, locals := 45 }) (As := [.ref (S.1 1), .int x2, .int x3]) (rest := []) C (zc_Nm_find_c1 h x2 x3 c1) ku_Nm_find kw700 kv_Nm_find rfl ⟨by decide, by decide⟩ ⟨by decide, by decide⟩ rfl rfl rfl (Nat.le_of_ble_eq_true rfl) kd_Nm_numberOf_4 rfl (c1 := 0) (s1 := 0) rfl rfl (fun v w hp => ?_)
  obtain ⟨rfl, rfl⟩ := hp
  refine zk_stk (r' := [.int v2]) rfl ?_
  refine zk_istore (lv' := [(4, _), (0, _), (1, _), (2, _), (3, _)]) C kd_Nm_numberOf_7 (by decide) rfl rfl ?_
  refine zk_iload_n C kd_Nm_numberOf_9 rfl 4 rfl rfl ?_
  refine zk_iconst (v := 1) C kd_Nm_numberOf_10 (by decide) rfl ?_
  refine zk_icmp_lt (tgt := 36) C kd_Nm_numberOf_11 (by decide) rfl (fun b3 => ?_) (fun b3 => ?_)
  · replace e := zd_pos b3 e
    refine zk_lvs (lv' := [(0, .ref (S.1 2)), (1, .ref (S.1 1)), (2, .int x2), (3, .int x3), (4, .int v2)]) [1, 2, 3, 4, 0] rfl ?_
    exact zb_Nm_numberOf_c1_36 C hR h x2 x3 v2 e
  · replace e := zd_neg b3 e
    refine zk_iload_n C kd_Nm_numberOf_14 rfl 4 rfl rfl ?_
    refine zk_bipush (v := 32) C kd_Nm_numberOf_15 (by decide) rfl ?_
    refine zk_icmp_gt (tgt := 36) C kd_Nm_numberOf_17 (by decide) rfl (fun b4 => ?_) (fun b4 => ?_)
    · replace e := zd_pos b4 e
      refine zk_lvs (lv' := [(0, .ref (S.1 2)), (1, .ref (S.1 1)), (2, .int x2), (3, .int x3), (4, .int v2)]) [1, 2, 3, 4, 0] rfl ?_
      exact zb_Nm_numberOf_c1_36 C hR h x2 x3 v2 e
    · replace e := zd_neg b4 e
      refine zk_iload_n C kd_Nm_numberOf_20 rfl 3 rfl rfl ?_
      refine zk_if_lt (tgt := 36) C kd_Nm_numberOf_21 (by decide) rfl (fun b5 => ?_) (fun b5 => ?_)
      · replace e := zd_pos b5 e
        refine zk_lvs (lv' := [(0, .ref (S.1 2)), (1, .ref (S.1 1)), (2, .int x2), (3, .int x3), (4, .int v2)]) [1, 2, 3, 4, 0] rfl ?_
        exact zb_Nm_numberOf_c1_36 C hR h x2 x3 v2 e
      · replace e := zd_neg b5 e
        refine zk_iload_n C kd_Nm_numberOf_24 rfl 3 rfl rfl ?_
        refine zk_iload_n C kd_Nm_numberOf_25 rfl 4 rfl rfl ?_
        refine zk_iadd C kd_Nm_numberOf_26 rfl ?_
        refine zk_aload_n C kd_Nm_numberOf_27 rfl 2 rfl rfl ?_
        refine zs_alen (v := 16384) C 1 rfl (by decide) rfl kd_Nm_numberOf_28 rfl ?_
        refine zk_icmp_gt (tgt := 36) C kd_Nm_numberOf_29 (by decide) rfl (fun b6 => ?_) (fun b6 => ?_)
        · replace e := zd_pos b6 e
          refine zk_lvs (lv' := [(0, .ref (S.1 2)), (1, .ref (S.1 1)), (2, .int x2), (3, .int x3), (4, .int v2)]) [1, 2, 3, 4, 0] rfl ?_
          exact zb_Nm_numberOf_c1_36 C hR h x2 x3 v2 e
        · replace e := zd_neg b6 e
          refine zk_iconst (v := 1) C kd_Nm_numberOf_32 (by decide) rfl ?_
          refine zk_goto (tgt := 37) C kd_Nm_numberOf_33 (by decide) ?_
          refine zk_lvs (lv' := [(0, .ref (S.1 2)), (1, .ref (S.1 1)), (2, .int x2), (3, .int x3), (4, .int v2)]) [1, 2, 3, 4, 0] rfl ?_
          exact zb_Nm_numberOf_c1_37 C hR h x2 x3 v2 1 e
set_option maxHeartbeats 4000000 in
set_option maxRecDepth 100000 in
theorem zc_Tk_finish {l : Launch} {D : va_G} {sz0 : Nat} {S : zs_T} {P : ze_T} (h : zs_H) (x1 : Int32) (x2 : Int32) (x3 : Int32) {rv : Int32} {rh : zs_H} (e : f_Tk_finish h x1 x2 x3 = some (rv, rh)) : zk_Sp (zs_G S l D sz0) (ze_E P) km_Tk_finish { frames := 1, cells := 0, slots := 0, locals := 22 } [.ref (S.1 8), .int x1, .int x2, .int x3] (zs_W S h) (zd_PZ S rv rh) := by
  refine zk_met ku_Tk_finish (Nat.le_of_ble_eq_true rfl) (ze_Em P) ?_
  intro X C hR
  refine zk_lvs (lv' := [(0, .ref (S.1 8)), (1, .int x1), (2, .int x2), (3, .int x3)]) [0, 1, 2, 3] rfl ?_
  unfold f_Tk_finish at e
  refine zk_aload_n C kd_Tk_finish_0 rfl 0 rfl rfl ?_
  refine zk_iload_n C kd_Tk_finish_1 rfl 1 rfl rfl ?_
  refine zk_iload_n C kd_Tk_finish_2 rfl 3 rfl rfl ?_
  obtain ⟨h2, c1, e⟩ := zd_b e
  refine zs_callV (k := 8) (rn := { frames := 0, cells := 0, slots := 0, locals := 0 }) (As := [.int x1, .int x3]) (rest := []) C (zc_Tk_add h x1 x3 c1) ku_Tk_add kw734 kv_Tk_add rfl ⟨by decide, by decide⟩ ⟨by decide, by decide⟩ rfl rfl rfl (Nat.le_of_ble_eq_true rfl) kd_Tk_finish_3 rfl (c1 := 0) (s1 := 0) rfl rfl (fun v w hp => ?_)
  obtain ⟨rfl, rfl⟩ := hp
  refine zk_stk (r' := []) rfl ?_
  refine zk_aload_n C kd_Tk_finish_6 rfl 0 rfl rfl ?_
  refine zk_iload_n C kd_Tk_finish_7 rfl 2 rfl rfl ?_
  refine zs_put (ty := .int) C 8 7 x2 rfl rfl rfl rfl ki_Tk ky_Tk ko_Tk kn_Tk (by decide) kw129 rfl rfl rfl rfl (by decide) kd_Tk_finish_8 rfl ?_
  refine zk_iconst (v := 1) C kd_Tk_finish_11 (by decide) rfl ?_
  exact zk_zret C hR (zd_nb (Or.inr rfl)) kd_Tk_finish_12 rfl rfl (zd_rZS (Or.inr rfl) e)
set_option maxHeartbeats 4000000 in
set_option maxRecDepth 100000 in
theorem zb_Tk_readName_91 {X : zkj_T} {S : zs_T} {P : ze_T} {l : Launch} {D : va_G} {sz0 : Nat} {rv : Int32} {rh : zs_H} (C : zk_C X km_Tk_readName (zs_G S l D sz0) { frames := 4, cells := 0, slots := 0, locals := 96 } (ze_E P)) (hR : zkj_R X (zd_PZ S rv rh) (some .boolean)) (h : zs_H) (x1 : Int32) (x2 : Int32) (y0 : Int32) (e : f_Tk_readName_91 h x1 x2 y0 = some (rv, rh)) : zk_Ab X (zs_W S h) 0 0 91 [(1, .int x1), (2, .int x2)] [.int y0, .ref (S.1 8)] := by
  unfold f_Tk_readName_91 at e
  refine zk_iload_n C kd_Tk_readName_91 rfl 0 rfl rfl ?_
  refine zk_iload_n C kd_Tk_readName_92 rfl 1 rfl rfl ?_
  obtain ⟨v2, h3, c1, e⟩ := zd_Be e
  refine zs_callV (k := 8) (rn := { frames := 1, cells := 0, slots := 0, locals := 22 }) (As := [.int y0, .int x1, .int x2]) (rest := []) C (zc_Tk_finish h y0 x1 x2 c1) ku_Tk_finish kw773 kv_Tk_finish rfl ⟨by decide, by decide⟩ ⟨by decide, by decide⟩ rfl rfl rfl (Nat.le_of_ble_eq_true rfl) kd_Tk_readName_93 rfl (c1 := 0) (s1 := 0) rfl rfl (fun v w hp => ?_)
  obtain ⟨rfl, rfl, z4⟩ := hp
  refine zk_stk (r' := [.int v2]) rfl ?_
  exact zk_zret C hR (zd_nb z4) kd_Tk_readName_96 rfl rfl (zd_rZS z4 e)
set_option maxHeartbeats 4000000 in
set_option maxRecDepth 100000 in
theorem zb_Tk_readName_75 {X : zkj_T} {S : zs_T} {P : ze_T} {l : Launch} {D : va_G} {sz0 : Nat} {rv : Int32} {rh : zs_H} (C : zk_C X km_Tk_readName (zs_G S l D sz0) { frames := 4, cells := 0, slots := 0, locals := 96 } (ze_E P)) (hR : zkj_R X (zd_PZ S rv rh) (some .boolean)) (h : zs_H) (x1 : Int32) (x2 : Int32) (y0 : Int32) (e : f_Tk_readName_75 h x1 x2 y0 = some (rv, rh)) : zk_Ab X (zs_W S h) 0 0 75 [(0, .ref (S.1 8)), (1, .int x1), (2, .int x2)] [.int y0] := by
  unfold f_Tk_readName_75 at e
  refine zk_istore_n (lv' := [(3, _), (0, _), (1, _), (2, _)]) C kd_Tk_readName_75 rfl (by decide) rfl rfl ?_
  refine zk_aload_n C kd_Tk_readName_76 rfl 1 rfl rfl ?_
  refine zk_iload_n C kd_Tk_readName_77 rfl 0 rfl rfl ?_
  refine zk_if_eq (tgt := 89) C kd_Tk_readName_78 (by decide) rfl (fun b1 => ?_) (fun b1 => ?_)
  · replace e := zd_pos b1 e
    refine zk_bipush (v := 8) C kd_Tk_readName_89 (by decide) rfl ?_
    refine zk_lvs (lv' := [(1, .int x1), (2, .int x2)]) [2, 3] rfl ?_
    exact zb_Tk_readName_91 C hR h x1 x2 8 e
  · replace e := zd_neg b1 e
    refine zk_sipush (v := 128) C kd_Tk_readName_81 (by decide) rfl ?_
    refine zk_iload_n C kd_Tk_readName_84 rfl 3 rfl rfl ?_
    refine zk_iadd C kd_Tk_readName_85 rfl ?_
    refine zk_goto (tgt := 91) C kd_Tk_readName_86 (by decide) ?_
    refine zk_lvs (lv' := [(1, .int x1), (2, .int x2)]) [2, 3] rfl ?_
    exact zb_Tk_readName_91 C hR h x1 x2 (128 + x2) e
set_option maxHeartbeats 4000000 in
set_option maxRecDepth 100000 in
theorem zb_Tk_readName_31 {X : zkj_T} {S : zs_T} {P : ze_T} {l : Launch} {D : va_G} {sz0 : Nat} {rv : Int32} {rh : zs_H} (C : zk_C X km_Tk_readName (zs_G S l D sz0) { frames := 4, cells := 0, slots := 0, locals := 96 } (ze_E P)) (hR : zkj_R X (zd_PZ S rv rh) (some .boolean)) (h : zs_H) (x1 : Int32) (e : f_Tk_readName_31 h x1 = some (rv, rh)) : zk_Ab X (zs_W S h) 0 0 31 [(0, .ref (S.1 8)), (1, .int x1)] [] := by
  unfold f_Tk_readName_31 at e
  refine zk_aload_n C kd_Tk_readName_31 rfl 0 rfl rfl ?_
  refine zs_get (v := .ref (S.1 2)) C 8 4 rfl rfl rfl rfl ki_Tk (by decide) kw126 kd_Tk_readName_32 rfl ?_
  refine zk_aload_n C kd_Tk_readName_35 rfl 0 rfl rfl ?_
  obtain ⟨q1, e⟩ := zd_gn e
  refine zs_get (v := .ref (S.1 1)) C 8 5 rfl rfl (zd_ref q1) rfl ki_Tk (by decide) kw127 kd_Tk_readName_36 rfl ?_
  refine zk_aload_n C kd_Tk_readName_39 rfl 0 rfl rfl ?_
  refine zs_get (v := .int (h.1 8 7)) C 8 7 rfl rfl rfl rfl ki_Tk (by decide) kw129 kd_Tk_readName_40 rfl ?_
  refine zk_iload_n C kd_Tk_readName_43 rfl 1 rfl rfl ?_
  refine zk_aload_n C kd_Tk_readName_44 rfl 0 rfl rfl ?_
  refine zs_get (v := .int (h.1 8 7)) C 8 7 rfl rfl rfl rfl ki_Tk (by decide) kw129 kd_Tk_readName_45 rfl ?_
  refine zk_isub C kd_Tk_readName_48 rfl ?_
  obtain ⟨v3, h4, c2, e⟩ := zd_Be e
  refine zs_callV (k := 2) (rn := { frames := 3, cells := 0, slots := 0, locals := 70 }) (As := [.ref (S.1 1), .int (h.1 8 7), .int (x1 - (h.1 8 7))]) (rest := []) C (zc_Nm_numberOf_c1 h (h.1 8 7) (x1 - (h.1 8 7)) c2) ku_Nm_numberOf kw784 kv_Nm_numberOf rfl ⟨by decide, by decide⟩ ⟨by decide, by decide⟩ rfl rfl rfl (Nat.le_of_ble_eq_true rfl) kd_Tk_readName_49 rfl (c1 := 0) (s1 := 0) rfl rfl (fun v w hp => ?_)
  obtain ⟨rfl, rfl⟩ := hp
  refine zk_stk (r' := [.int v3]) rfl ?_
  refine zk_istore_n (lv' := [(2, _), (0, _), (1, _)]) C kd_Tk_readName_52 rfl (by decide) rfl rfl ?_
  refine zk_iload_n C kd_Tk_readName_53 rfl 0 rfl rfl ?_
  refine zk_iconst (v := (-1)) C kd_Tk_readName_54 (by decide) rfl ?_
  refine zk_icmp_ne (tgt := 64) C kd_Tk_readName_55 (by decide) rfl (fun b5 => ?_) (fun b5 => ?_)
  · replace e := zd_neg b5 e
    refine zk_iload_n C kd_Tk_readName_64 rfl 0 rfl rfl ?_
    refine zk_bipush (v := 41) C kd_Tk_readName_65 (by decide) rfl ?_
    refine zk_icmp_ge (tgt := 74) C kd_Tk_readName_67 (by decide) rfl (fun b6 => ?_) (fun b6 => ?_)
    · replace e := zd_pos b6 e
      refine zk_iconst (v := 0) C kd_Tk_readName_74 (by decide) rfl ?_
      refine zk_lvs (lv' := [(0, .ref (S.1 8)), (1, .int x1), (2, .int v3)]) [1, 2, 0] rfl ?_
      exact zb_Tk_readName_75 C hR h4 x1 v3 0 e
    · replace e := zd_neg b6 e
      refine zk_iconst (v := 1) C kd_Tk_readName_70 (by decide) rfl ?_
      refine zk_goto (tgt := 75) C kd_Tk_readName_71 (by decide) ?_
      refine zk_lvs (lv' := [(0, .ref (S.1 8)), (1, .int x1), (2, .int v3)]) [1, 2, 0] rfl ?_
      exact zb_Tk_readName_75 C hR h4 x1 v3 1 e
  · replace e := zd_pos b5 e
    refine zk_aload_n C kd_Tk_readName_58 rfl 1 rfl rfl ?_
    refine zk_iconst (v := 3) C kd_Tk_readName_59 (by decide) rfl ?_
    obtain ⟨v8, h9, c7, e⟩ := zd_Be e
    refine zs_callV (k := 8) (rn := { frames := 1, cells := 0, slots := 0, locals := 22 }) (As := [.int 3]) (rest := []) C (zc_Tk_refuse h4 3 c7) ku_Tk_refuse kw730 kv_Tk_refuse rfl ⟨by decide, by decide⟩ ⟨by decide, by decide⟩ rfl rfl rfl (Nat.le_of_ble_eq_true rfl) kd_Tk_readName_60 rfl (c1 := 0) (s1 := 0) rfl rfl (fun v w hp => ?_)
    obtain ⟨rfl, rfl, z10⟩ := hp
    refine zk_stk (r' := [.int v8]) rfl ?_
    exact zk_zret C hR (zd_nb z10) kd_Tk_readName_63 rfl rfl (zd_rZS z10 e)
set_option maxHeartbeats 4000000 in
set_option maxRecDepth 100000 in
theorem zb_Tk_readName_5 {X : zkj_T} {S : zs_T} {P : ze_T} {l : Launch} {D : va_G} {sz0 : Nat} {rv : Int32} {rh : zs_H} (C : zk_C X km_Tk_readName (zs_G S l D sz0) { frames := 4, cells := 0, slots := 0, locals := 96 } (ze_E P)) (hR : zkj_R X (zd_PZ S rv rh) (some .boolean)) {k5 : zs_H → Int32 → (Option (Int32 × zs_H))} (hk5 : ∀ (h : zs_H) (x1 : Int32), k5 h x1 = some (rv, rh) → zk_Ab X (zs_W S h) 0 0 5 [(0, .ref (S.1 8)), (1, .int x1)] []) (h : zs_H) (x1 : Int32) (e : f_Tk_readName_5 k5 h x1 = some (rv, rh)) : zk_Ab X (zs_W S h) 0 0 5 [(0, .ref (S.1 8)), (1, .int x1)] [] := by
  unfold f_Tk_readName_5 at e
  refine zk_iload_n C kd_Tk_readName_5 rfl 1 rfl rfl ?_
  refine zk_aload_n C kd_Tk_readName_6 rfl 0 rfl rfl ?_
  refine zs_get (v := .int (h.1 8 6)) C 8 6 rfl rfl rfl rfl ki_Tk (by decide) kw128 kd_Tk_readName_7 rfl ?_
  refine zk_icmp_ge (tgt := 31) C kd_Tk_readName_10 (by decide) rfl (fun b1 => ?_) (fun b1 => ?_)
  · replace e := zd_pos b1 e
    refine zk_lvs (lv' := [(0, .ref (S.1 8)), (1, .int x1)]) [0, 1] rfl ?_
    exact zb_Tk_readName_31 C hR h x1 e
  · replace e := zd_neg b1 e
    refine zk_aload_n C kd_Tk_readName_13 rfl 0 rfl rfl ?_
    obtain ⟨q2, e⟩ := zd_gn e
    refine zs_get (v := .ref (S.1 1)) C 8 5 rfl rfl (zd_ref q2) rfl ki_Tk (by decide) kw127 kd_Tk_readName_14 rfl ?_
    refine zk_iload_n C kd_Tk_readName_17 rfl 1 rfl rfl ?_
    obtain ⟨q3, e⟩ := zd_g e
    refine zs_bald C 1 rfl (zd_vp q3) kd_Tk_readName_18 rfl ?_
    refine zk_callS (rn := { frames := 1, cells := 0, slots := 0, locals := 20 }) (As := [.int (h.2.1 1 x1.toNatClampNeg)]) (rest := []) C (zc_Nm_isPart h (h.2.1 1 x1.toNatClampNeg)) ku_Nm_isPart kw766 ks_Nm_isPart rfl ⟨by decide, by decide⟩ ⟨by decide, by decide⟩ rfl (Nat.le_of_ble_eq_true rfl) kd_Tk_readName_19 rfl (c1 := 0) (s1 := 0) rfl rfl (fun v w hp => ?_)
    obtain ⟨rfl, rfl, z4⟩ := hp
    refine zk_stk (r' := [.int (f_Nm_isPart (h.2.1 1 x1.toNatClampNeg))]) rfl ?_
    refine zk_if_eq (tgt := 31) C kd_Tk_readName_22 (by decide) rfl (fun b5 => ?_) (fun b5 => ?_)
    · replace e := zd_pos b5 e
      refine zk_lvs (lv' := [(0, .ref (S.1 8)), (1, .int x1)]) [0, 1] rfl ?_
      exact zb_Tk_readName_31 C hR h x1 e
    · replace e := zd_neg b5 e
      refine zk_iinc (v := (x1 + 1)) (lv' := [(1, _), (0, _)]) C kd_Tk_readName_25 1 rfl rfl (by decide) rfl rfl ?_
      refine zk_goto (tgt := 5) C kd_Tk_readName_28 (by decide) ?_
      refine zk_lvs (lv' := [(0, .ref (S.1 8)), (1, .int (x1 + 1))]) [1, 0] rfl ?_
      exact hk5 h (x1 + 1) e
theorem zl_Tk_readName_5 {X : zkj_T} {S : zs_T} {P : ze_T} {l : Launch} {D : va_G} {sz0 : Nat} {rv : Int32} {rh : zs_H} (C : zk_C X km_Tk_readName (zs_G S l D sz0) { frames := 4, cells := 0, slots := 0, locals := 96 } (ze_E P)) (hR : zkj_R X (zd_PZ S rv rh) (some .boolean)) (n : Nat) : ∀ (h : zs_H) (x1 : Int32), f_Tk_readName_L5 n h x1 = some (rv, rh) → zk_Ab X (zs_W S h) 0 0 5 [(0, .ref (S.1 8)), (1, .int x1)] [] := by
  induction n with
  | zero => intro h x1 e; exact zd_no e
  | succ n ih => intro h x1 e; exact zb_Tk_readName_5 (k5 := f_Tk_readName_L5  n) C hR ih h x1 e
set_option maxHeartbeats 4000000 in
set_option maxRecDepth 100000 in
theorem zc_Tk_readName {l : Launch} {D : va_G} {sz0 : Nat} {S : zs_T} {P : ze_T} (h : zs_H) {rv : Int32} {rh : zs_H} (e : f_Tk_readName h = some (rv, rh)) : zk_Sp (zs_G S l D sz0) (ze_E P) km_Tk_readName { frames := 4, cells := 0, slots := 0, locals := 96 } [.ref (S.1 8)] (zs_W S h) (zd_PZ S rv rh) := by
  refine zk_met ku_Tk_readName (Nat.le_of_ble_eq_true rfl) (ze_Em P) ?_
  intro X C hR
  refine zk_lvs (lv' := [(0, .ref (S.1 8))]) [0] rfl ?_
  unfold f_Tk_readName at e
  refine zk_aload_n C kd_Tk_readName_0 rfl 0 rfl rfl ?_
  refine zs_get (v := .int (h.1 8 7)) C 8 7 rfl rfl rfl rfl ki_Tk (by decide) kw129 kd_Tk_readName_1 rfl ?_
  refine zk_istore_n (lv' := [(1, _), (0, _)]) C kd_Tk_readName_4 rfl (by decide) rfl rfl ?_
  refine zk_lvs (lv' := [(0, .ref (S.1 8)), (1, .int (h.1 8 7))]) [1, 0] rfl ?_
  exact zl_Tk_readName_5 C hR zF h (h.1 8 7) e
set_option maxHeartbeats 4000000 in
set_option maxRecDepth 100000 in
theorem zb_Tk_digit_17 {X : zkj_T} {S : zs_T} {P : ze_T} {l : Launch} {D : va_G} {sz0 : Nat} {rv : Int32} {h : zs_H} (C : zk_C X km_Tk_digit (zs_G S l D sz0) { frames := 1, cells := 0, slots := 0, locals := 20 } (ze_E P)) (hR : zkj_R X (zd_PI S rv h) (some .int)) (x0 : Int32) (e : f_Tk_digit_17 x0 = rv) : zk_Ab X (zs_W S h) 0 0 17 [(0, .int x0)] [] := by
  unfold f_Tk_digit_17 at e
  refine zk_iload_n C kd_Tk_digit_17 rfl 0 rfl rfl ?_
  refine zk_callS (rn := { frames := 0, cells := 0, slots := 0, locals := 0 }) (As := [.int x0]) (rest := []) C (zc_Nm_great h x0) ku_Nm_great kw753 ks_Nm_great rfl ⟨by decide, by decide⟩ ⟨by decide, by decide⟩ rfl (Nat.le_of_ble_eq_true rfl) kd_Tk_digit_18 rfl (c1 := 0) (s1 := 0) rfl rfl (fun v w hp => ?_)
  obtain ⟨rfl, rfl⟩ := hp
  refine zk_stk (r' := [.int (f_Nm_great x0)]) rfl ?_
  refine zk_bipush (v := 65) C kd_Tk_digit_21 (by decide) rfl ?_
  refine zk_isub C kd_Tk_digit_23 rfl ?_
  refine zk_istore_n (lv' := [(1, _), (0, _)]) C kd_Tk_digit_24 rfl (by decide) rfl rfl ?_
  refine zk_iload_n C kd_Tk_digit_25 rfl 0 rfl rfl ?_
  refine zk_if_lt (tgt := 42) C kd_Tk_digit_26 (by decide) rfl (fun b1 => ?_) (fun b1 => ?_)
  · replace e := zd_pos b1 e
    refine zk_bipush (v := 99) C kd_Tk_digit_42 (by decide) rfl ?_
    exact zk_iret C hR kd_Tk_digit_44 rfl rfl (zd_rIT e)
  · replace e := zd_neg b1 e
    refine zk_iload_n C kd_Tk_digit_29 rfl 0 rfl rfl ?_
    refine zk_bipush (v := 6) C kd_Tk_digit_30 (by decide) rfl ?_
    refine zk_icmp_ge (tgt := 42) C kd_Tk_digit_32 (by decide) rfl (fun b2 => ?_) (fun b2 => ?_)
    · replace e := zd_pos b2 e
      refine zk_bipush (v := 99) C kd_Tk_digit_42 (by decide) rfl ?_
      exact zk_iret C hR kd_Tk_digit_44 rfl rfl (zd_rIT e)
    · replace e := zd_neg b2 e
      refine zk_bipush (v := 10) C kd_Tk_digit_35 (by decide) rfl ?_
      refine zk_iload_n C kd_Tk_digit_37 rfl 0 rfl rfl ?_
      refine zk_iadd C kd_Tk_digit_38 rfl ?_
      refine zk_goto (tgt := 44) C kd_Tk_digit_39 (by decide) ?_
      exact zk_iret C hR kd_Tk_digit_44 rfl rfl (zd_rIT e)
set_option maxHeartbeats 4000000 in
set_option maxRecDepth 100000 in
theorem zc_Tk_digit {l : Launch} {D : va_G} {sz0 : Nat} {S : zs_T} {P : ze_T} (h : zs_H) (x0 : Int32) : zk_Sp (zs_G S l D sz0) (ze_E P) km_Tk_digit { frames := 1, cells := 0, slots := 0, locals := 20 } [.int x0] (zs_W S h) (zd_PI S (f_Tk_digit x0) h) := by
  obtain ⟨rv, e⟩ : ∃ rv, f_Tk_digit x0 = rv := ⟨_, rfl⟩
  rw [e]
  refine zk_met ku_Tk_digit (Nat.le_of_ble_eq_true rfl) (ze_Em P) ?_
  intro X C hR
  refine zk_lvs (lv' := [(0, .int x0)]) [0] rfl ?_
  unfold f_Tk_digit at e
  refine zk_iload_n C kd_Tk_digit_0 rfl 0 rfl rfl ?_
  refine zk_bipush (v := 48) C kd_Tk_digit_1 (by decide) rfl ?_
  refine zk_icmp_lt (tgt := 17) C kd_Tk_digit_3 (by decide) rfl (fun b1 => ?_) (fun b1 => ?_)
  · replace e := zd_pos b1 e
    refine zk_lvs (lv' := [(0, .int x0)]) [0] rfl ?_
    exact zb_Tk_digit_17 C hR x0 e
  · replace e := zd_neg b1 e
    refine zk_iload_n C kd_Tk_digit_6 rfl 0 rfl rfl ?_
    refine zk_bipush (v := 57) C kd_Tk_digit_7 (by decide) rfl ?_
    refine zk_icmp_gt (tgt := 17) C kd_Tk_digit_9 (by decide) rfl (fun b2 => ?_) (fun b2 => ?_)
    · replace e := zd_pos b2 e
      refine zk_lvs (lv' := [(0, .int x0)]) [0] rfl ?_
      exact zb_Tk_digit_17 C hR x0 e
    · replace e := zd_neg b2 e
      refine zk_iload_n C kd_Tk_digit_12 rfl 0 rfl rfl ?_
      refine zk_bipush (v := 48) C kd_Tk_digit_13 (by decide) rfl ?_
      refine zk_isub C kd_Tk_digit_15 rfl ?_
      exact zk_iret C hR kd_Tk_digit_16 rfl rfl (zd_rIT e)
set_option maxHeartbeats 4000000 in
set_option maxRecDepth 100000 in
theorem zb_Tk_digitsEnd_2 {X : zkj_T} {S : zs_T} {P : ze_T} {l : Launch} {D : va_G} {sz0 : Nat} {rv : Int32} {h : zs_H} (C : zk_C X km_Tk_digitsEnd (zs_G S l D sz0) { frames := 2, cells := 0, slots := 0, locals := 41 } (ze_E P)) (hR : zkj_R X (zd_PI S rv h) (some .int)) {k2 : Int32 → Int32 → (Option Int32)} (hk2 : ∀ (x2 : Int32) (x3 : Int32), k2 x2 x3 = some rv → zk_Ab X (zs_W S h) 0 0 2 [(0, .ref (S.1 8)), (2, .int x2), (3, .int x3)] []) (x2 : Int32) (x3 : Int32) (e : f_Tk_digitsEnd_2 h k2 x2 x3 = some rv) : zk_Ab X (zs_W S h) 0 0 2 [(0, .ref (S.1 8)), (2, .int x2), (3, .int x3)] [] := by
  unfold f_Tk_digitsEnd_2 at e
  refine zk_iload_n C kd_Tk_digitsEnd_2 rfl 2 rfl rfl ?_
  refine zk_aload_n C kd_Tk_digitsEnd_3 rfl 0 rfl rfl ?_
  refine zs_get (v := .int (h.1 8 6)) C 8 6 rfl rfl rfl rfl ki_Tk (by decide) kw128 kd_Tk_digitsEnd_4 rfl ?_
  refine zk_icmp_ge (tgt := 29) C kd_Tk_digitsEnd_7 (by decide) rfl (fun b1 => ?_) (fun b1 => ?_)
  · replace e := zd_pos b1 e
    refine zk_iload_n C kd_Tk_digitsEnd_29 rfl 2 rfl rfl ?_
    exact zk_iret C hR kd_Tk_digitsEnd_30 rfl rfl (zd_rIO e)
  · replace e := zd_neg b1 e
    refine zk_aload_n C kd_Tk_digitsEnd_10 rfl 0 rfl rfl ?_
    obtain ⟨q2, e⟩ := zd_gn e
    refine zs_get (v := .ref (S.1 1)) C 8 5 rfl rfl (zd_ref q2) rfl ki_Tk (by decide) kw127 kd_Tk_digitsEnd_11 rfl ?_
    refine zk_iload_n C kd_Tk_digitsEnd_14 rfl 2 rfl rfl ?_
    obtain ⟨q3, e⟩ := zd_g e
    refine zs_bald C 1 rfl (zd_vp q3) kd_Tk_digitsEnd_15 rfl ?_
    refine zk_callS (rn := { frames := 1, cells := 0, slots := 0, locals := 20 }) (As := [.int (h.2.1 1 x3.toNatClampNeg)]) (rest := []) C (zc_Tk_digit h (h.2.1 1 x3.toNatClampNeg)) ku_Tk_digit kw750 ks_Tk_digit rfl ⟨by decide, by decide⟩ ⟨by decide, by decide⟩ rfl (Nat.le_of_ble_eq_true rfl) kd_Tk_digitsEnd_16 rfl (c1 := 0) (s1 := 0) rfl rfl (fun v w hp => ?_)
    obtain ⟨rfl, rfl⟩ := hp
    refine zk_stk (r' := [.int (f_Tk_digit (h.2.1 1 x3.toNatClampNeg))]) rfl ?_
    refine zk_iload_n C kd_Tk_digitsEnd_19 rfl 1 rfl rfl ?_
    refine zk_icmp_ge (tgt := 29) C kd_Tk_digitsEnd_20 (by decide) rfl (fun b4 => ?_) (fun b4 => ?_)
    · replace e := zd_pos b4 e
      refine zk_iload_n C kd_Tk_digitsEnd_29 rfl 2 rfl rfl ?_
      exact zk_iret C hR kd_Tk_digitsEnd_30 rfl rfl (zd_rIO e)
    · replace e := zd_neg b4 e
      refine zk_iinc (v := (x3 + 1)) (lv' := [(3, _), (0, _), (2, _)]) C kd_Tk_digitsEnd_23 2 rfl rfl (by decide) rfl rfl ?_
      refine zk_goto (tgt := 2) C kd_Tk_digitsEnd_26 (by decide) ?_
      refine zk_lvs (lv' := [(0, .ref (S.1 8)), (2, .int x2), (3, .int (x3 + 1))]) [1, 2, 0] rfl ?_
      exact hk2 x2 (x3 + 1) e
theorem zl_Tk_digitsEnd_2 {X : zkj_T} {S : zs_T} {P : ze_T} {l : Launch} {D : va_G} {sz0 : Nat} {rv : Int32} {h : zs_H} (C : zk_C X km_Tk_digitsEnd (zs_G S l D sz0) { frames := 2, cells := 0, slots := 0, locals := 41 } (ze_E P)) (hR : zkj_R X (zd_PI S rv h) (some .int)) (n : Nat) : ∀ (x2 : Int32) (x3 : Int32), f_Tk_digitsEnd_L2 h n x2 x3 = some rv → zk_Ab X (zs_W S h) 0 0 2 [(0, .ref (S.1 8)), (2, .int x2), (3, .int x3)] [] := by
  induction n with
  | zero => intro x2 x3 e; exact zd_no e
  | succ n ih => intro x2 x3 e; exact zb_Tk_digitsEnd_2 (k2 := f_Tk_digitsEnd_L2 h n) C hR ih x2 x3 e
set_option maxHeartbeats 4000000 in
set_option maxRecDepth 100000 in
theorem zc_Tk_digitsEnd {l : Launch} {D : va_G} {sz0 : Nat} {S : zs_T} {P : ze_T} (h : zs_H) (x1 : Int32) (x2 : Int32) {rv : Int32} (e : f_Tk_digitsEnd h x1 x2 = some rv) : zk_Sp (zs_G S l D sz0) (ze_E P) km_Tk_digitsEnd { frames := 2, cells := 0, slots := 0, locals := 41 } [.ref (S.1 8), .int x1, .int x2] (zs_W S h) (zd_PI S rv h) := by
  refine zk_met ku_Tk_digitsEnd (Nat.le_of_ble_eq_true rfl) (ze_Em P) ?_
  intro X C hR
  refine zk_lvs (lv' := [(0, .ref (S.1 8)), (1, .int x1), (2, .int x2)]) [0, 1, 2] rfl ?_
  unfold f_Tk_digitsEnd at e
  refine zk_iload_n C kd_Tk_digitsEnd_0 rfl 1 rfl rfl ?_
  refine zk_istore_n (lv' := [(3, _), (0, _), (1, _), (2, _)]) C kd_Tk_digitsEnd_1 rfl (by decide) rfl rfl ?_
  refine zk_lvs (lv' := [(0, .ref (S.1 8)), (2, .int x2), (3, .int x1)]) [1, 3, 0] rfl ?_
  exact zl_Tk_digitsEnd_2 C hR zF x2 x1 e
set_option maxHeartbeats 4000000 in
set_option maxRecDepth 100000 in
theorem zb_Tk_meaning_6 {X : zkj_T} {S : zs_T} {P : ze_T} {l : Launch} {D : va_G} {sz0 : Nat} {rv : Int64} {h : zs_H} (C : zk_C X km_Tk_meaning (zs_G S l D sz0) { frames := 2, cells := 0, slots := 0, locals := 41 } (ze_E P)) (hR : zkj_R X (zd_PJ S rv h) (some .long)) {k6 : Int32 → Int32 → Int64 → Int32 → (Option Int64)} (hk6 : ∀ (x2 : Int32) (x3 : Int32) (x4 : Int64) (x6 : Int32), k6 x2 x3 x4 x6 = some rv → zk_Ab X (zs_W S h) 0 0 6 [(0, .ref (S.1 8)), (2, .int x2), (3, .int x3), (4, .long x4), (6, .int x6)] []) (x2 : Int32) (x3 : Int32) (x4 : Int64) (x6 : Int32) (e : f_Tk_meaning_6 h k6 x2 x3 x4 x6 = some rv) : zk_Ab X (zs_W S h) 0 0 6 [(0, .ref (S.1 8)), (2, .int x2), (3, .int x3), (4, .long x4), (6, .int x6)] [] := by
  unfold f_Tk_meaning_6 at e
  refine zk_iload C kd_Tk_meaning_6 4 rfl rfl ?_
  refine zk_iload_n C kd_Tk_meaning_8 rfl 1 rfl rfl ?_
  refine zk_icmp_ge (tgt := 52) C kd_Tk_meaning_9 (by decide) rfl (fun b1 => ?_) (fun b1 => ?_)
  · replace e := zd_pos b1 e
    refine zk_lload C kd_Tk_meaning_52 3 rfl rfl ?_
    exact zk_lret C hR kd_Tk_meaning_54 rfl rfl (zd_rJO e)
  · replace e := zd_neg b1 e
    refine zk_iload C kd_Tk_meaning_12 4 rfl rfl ?_
    refine zk_aload_n C kd_Tk_meaning_14 rfl 0 rfl rfl ?_
    refine zs_get (v := .int (h.1 8 6)) C 8 6 rfl rfl rfl rfl ki_Tk (by decide) kw128 kd_Tk_meaning_15 rfl ?_
    refine zk_icmp_ge (tgt := 52) C kd_Tk_meaning_18 (by decide) rfl (fun b2 => ?_) (fun b2 => ?_)
    · replace e := zd_pos b2 e
      refine zk_lload C kd_Tk_meaning_52 3 rfl rfl ?_
      exact zk_lret C hR kd_Tk_meaning_54 rfl rfl (zd_rJO e)
    · replace e := zd_neg b2 e
      refine zk_lload C kd_Tk_meaning_21 3 rfl rfl ?_
      refine zk_iload_n C kd_Tk_meaning_23 rfl 2 rfl rfl ?_
      refine zk_i2l C kd_Tk_meaning_24 rfl ?_
      refine zk_lmul C kd_Tk_meaning_25 rfl ?_
      refine zk_aload_n C kd_Tk_meaning_26 rfl 0 rfl rfl ?_
      obtain ⟨q3, e⟩ := zd_gn e
      refine zs_get (v := .ref (S.1 1)) C 8 5 rfl rfl (zd_ref q3) rfl ki_Tk (by decide) kw127 kd_Tk_meaning_27 rfl ?_
      refine zk_iload C kd_Tk_meaning_30 4 rfl rfl ?_
      obtain ⟨q4, e⟩ := zd_g e
      refine zs_bald C 1 rfl (zd_vp q4) kd_Tk_meaning_32 rfl ?_
      refine zk_callS (rn := { frames := 1, cells := 0, slots := 0, locals := 20 }) (As := [.int (h.2.1 1 x6.toNatClampNeg)]) (rest := [.long (x4 * (x3.toInt64))]) C (zc_Tk_digit h (h.2.1 1 x6.toNatClampNeg)) ku_Tk_digit kw750 ks_Tk_digit rfl ⟨by decide, by decide⟩ ⟨by decide, by decide⟩ rfl (Nat.le_of_ble_eq_true rfl) kd_Tk_meaning_33 rfl (c1 := 0) (s1 := 0) rfl rfl (fun v w hp => ?_)
      obtain ⟨rfl, rfl⟩ := hp
      refine zk_stk (r' := [.int (f_Tk_digit (h.2.1 1 x6.toNatClampNeg)), .long (x4 * (x3.toInt64))]) rfl ?_
      refine zk_i2l C kd_Tk_meaning_36 rfl ?_
      refine zk_ladd C kd_Tk_meaning_37 rfl ?_
      refine zk_ldc2 (v := 8589934592) C kw758 kd_Tk_meaning_38 rfl ?_
      refine zk_mminl C kw759 kw760 kw19 (by decide) (Nat.le_of_ble_eq_true rfl) (Nat.le_refl _) (Nat.le_refl _) kd_Tk_meaning_41 rfl ?_
      refine zk_lstore (lv' := [(4, _), (0, _), (2, _), (3, _), (6, _)]) C kd_Tk_meaning_44 (by decide) rfl rfl ?_
      refine zk_iinc (v := (x6 + 1)) (lv' := [(6, _), (4, _), (0, _), (2, _), (3, _)]) C kd_Tk_meaning_46 4 rfl rfl (by decide) rfl rfl ?_
      refine zk_goto (tgt := 6) C kd_Tk_meaning_49 (by decide) ?_
      refine zk_lvs (lv' := [(0, .ref (S.1 8)), (2, .int x2), (3, .int x3), (4, .long (zd_minl ((x4 * (x3.toInt64)) + ((f_Tk_digit (h.2.1 1 x6.toNatClampNeg)).toInt64)) (8589934592 : Int64))), (6, .int (x6 + 1))]) [2, 3, 4, 1, 0] rfl ?_
      exact hk6 x2 x3 (zd_minl ((x4 * (x3.toInt64)) + ((f_Tk_digit (h.2.1 1 x6.toNatClampNeg)).toInt64)) (8589934592 : Int64)) (x6 + 1) e
theorem zl_Tk_meaning_6 {X : zkj_T} {S : zs_T} {P : ze_T} {l : Launch} {D : va_G} {sz0 : Nat} {rv : Int64} {h : zs_H} (C : zk_C X km_Tk_meaning (zs_G S l D sz0) { frames := 2, cells := 0, slots := 0, locals := 41 } (ze_E P)) (hR : zkj_R X (zd_PJ S rv h) (some .long)) (n : Nat) : ∀ (x2 : Int32) (x3 : Int32) (x4 : Int64) (x6 : Int32), f_Tk_meaning_L6 h n x2 x3 x4 x6 = some rv → zk_Ab X (zs_W S h) 0 0 6 [(0, .ref (S.1 8)), (2, .int x2), (3, .int x3), (4, .long x4), (6, .int x6)] [] := by
  induction n with
  | zero => intro x2 x3 x4 x6 e; exact zd_no e
  | succ n ih => intro x2 x3 x4 x6 e; exact zb_Tk_meaning_6 (k6 := f_Tk_meaning_L6 h n) C hR ih x2 x3 x4 x6 e
set_option maxHeartbeats 4000000 in
set_option maxRecDepth 100000 in
theorem zc_Tk_meaning {l : Launch} {D : va_G} {sz0 : Nat} {S : zs_T} {P : ze_T} (h : zs_H) (x1 : Int32) (x2 : Int32) (x3 : Int32) {rv : Int64} (e : f_Tk_meaning h x1 x2 x3 = some rv) : zk_Sp (zs_G S l D sz0) (ze_E P) km_Tk_meaning { frames := 2, cells := 0, slots := 0, locals := 41 } [.ref (S.1 8), .int x1, .int x2, .int x3] (zs_W S h) (zd_PJ S rv h) := by
  refine zk_met ku_Tk_meaning (Nat.le_of_ble_eq_true rfl) (ze_Em P) ?_
  intro X C hR
  refine zk_lvs (lv' := [(0, .ref (S.1 8)), (1, .int x1), (2, .int x2), (3, .int x3)]) [0, 1, 2, 3] rfl ?_
  unfold f_Tk_meaning at e
  refine zk_lconst (v := 0) C kd_Tk_meaning_0 (by decide) rfl ?_
  refine zk_lstore (lv' := [(4, _), (0, _), (1, _), (2, _), (3, _)]) C kd_Tk_meaning_1 (by decide) rfl rfl ?_
  refine zk_iload_n C kd_Tk_meaning_3 rfl 2 rfl rfl ?_
  refine zk_istore (lv' := [(6, _), (4, _), (0, _), (1, _), (2, _), (3, _)]) C kd_Tk_meaning_4 (by decide) rfl rfl ?_
  refine zk_lvs (lv' := [(0, .ref (S.1 8)), (2, .int x2), (3, .int x3), (4, .long 0), (6, .int x1)]) [2, 4, 5, 1, 0] rfl ?_
  exact zl_Tk_meaning_6 C hR zF x2 x3 (0 : Int64) x1 e
set_option maxHeartbeats 4000000 in
set_option maxRecDepth 100000 in
theorem zb_Tk_finishNumber_19 {X : zkj_T} {S : zs_T} {P : ze_T} {l : Launch} {D : va_G} {sz0 : Nat} {rv : Int32} {rh : zs_H} (C : zk_C X km_Tk_finishNumber (zs_G S l D sz0) { frames := 2, cells := 0, slots := 0, locals := 45 } (ze_E P)) (hR : zkj_R X (zd_PZ S rv rh) (some .boolean)) (h : zs_H) (e : f_Tk_finishNumber_19 h = some (rv, rh)) : zk_Ab X (zs_W S h) 0 0 19 [(0, .ref (S.1 8))] [] := by
  unfold f_Tk_finishNumber_19 at e
  refine zk_aload_n C kd_Tk_finishNumber_19 rfl 0 rfl rfl ?_
  refine zk_iconst (v := 4) C kd_Tk_finishNumber_20 (by decide) rfl ?_
  obtain ⟨v2, h3, c1, e⟩ := zd_Be e
  refine zs_callV (k := 8) (rn := { frames := 1, cells := 0, slots := 0, locals := 22 }) (As := [.int 4]) (rest := []) C (zc_Tk_refuse h 4 c1) ku_Tk_refuse kw730 kv_Tk_refuse rfl ⟨by decide, by decide⟩ ⟨by decide, by decide⟩ rfl rfl rfl (Nat.le_of_ble_eq_true rfl) kd_Tk_finishNumber_21 rfl (c1 := 0) (s1 := 0) rfl rfl (fun v w hp => ?_)
  obtain ⟨rfl, rfl, z4⟩ := hp
  refine zk_stk (r' := [.int v2]) rfl ?_
  exact zk_zret C hR (zd_nb z4) kd_Tk_finishNumber_24 rfl rfl (zd_rZS z4 e)
set_option maxHeartbeats 4000000 in
set_option maxRecDepth 100000 in
theorem zc_Tk_finishNumber {l : Launch} {D : va_G} {sz0 : Nat} {S : zs_T} {P : ze_T} (h : zs_H) (x1 : Int32) (x2 : Int64) {rv : Int32} {rh : zs_H} (e : f_Tk_finishNumber h x1 x2 = some (rv, rh)) : zk_Sp (zs_G S l D sz0) (ze_E P) km_Tk_finishNumber { frames := 2, cells := 0, slots := 0, locals := 45 } [.ref (S.1 8), .int x1, .long x2] (zs_W S h) (zd_PZ S rv rh) := by
  refine zk_met ku_Tk_finishNumber (Nat.le_of_ble_eq_true rfl) (ze_Em P) ?_
  intro X C hR
  refine zk_lvs (lv' := [(0, .ref (S.1 8)), (1, .int x1), (2, .long x2)]) [0, 1, 2] rfl ?_
  unfold f_Tk_finishNumber at e
  refine zk_aload_n C kd_Tk_finishNumber_0 rfl 0 rfl rfl ?_
  refine zk_iload_n C kd_Tk_finishNumber_1 rfl 1 rfl rfl ?_
  obtain ⟨v2, c1, e⟩ := zd_b e
  refine zs_callV (k := 8) (rn := { frames := 0, cells := 0, slots := 0, locals := 0 }) (As := [.int x1]) (rest := []) C (zc_Tk_peek h x1 c1) ku_Tk_peek kw722 kv_Tk_peek rfl ⟨by decide, by decide⟩ ⟨by decide, by decide⟩ rfl rfl rfl (Nat.le_of_ble_eq_true rfl) kd_Tk_finishNumber_2 rfl (c1 := 0) (s1 := 0) rfl rfl (fun v w hp => ?_)
  obtain ⟨rfl, rfl⟩ := hp
  refine zk_stk (r' := [.int v2]) rfl ?_
  refine zk_callS (rn := { frames := 1, cells := 0, slots := 0, locals := 20 }) (As := [.int v2]) (rest := []) C (zc_Nm_isPart h v2) ku_Nm_isPart kw766 ks_Nm_isPart rfl ⟨by decide, by decide⟩ ⟨by decide, by decide⟩ rfl (Nat.le_of_ble_eq_true rfl) kd_Tk_finishNumber_5 rfl (c1 := 0) (s1 := 0) rfl rfl (fun v w hp => ?_)
  obtain ⟨rfl, rfl, z3⟩ := hp
  refine zk_stk (r' := [.int (f_Nm_isPart v2)]) rfl ?_
  refine zk_if_ne (tgt := 19) C kd_Tk_finishNumber_8 (by decide) rfl (fun b4 => ?_) (fun b4 => ?_)
  · replace e := zd_neg b4 e
    refine zk_lvs (lv' := [(0, .ref (S.1 8))]) [0] rfl ?_
    exact zb_Tk_finishNumber_19 C hR h e
  · replace e := zd_pos b4 e
    refine zk_lload_n C kd_Tk_finishNumber_11 rfl 2 rfl rfl ?_
    refine zk_ldc2 (v := 2147483647) C kw772 kd_Tk_finishNumber_12 rfl ?_
    refine zk_lcmp C kd_Tk_finishNumber_15 rfl ?_
    refine zk_if_le (tgt := 25) C kd_Tk_finishNumber_16 (by decide) rfl (fun b5 => ?_) (fun b5 => ?_)
    · replace e := zd_pos (zd_cle.mp b5) e
      refine zk_aload_n C kd_Tk_finishNumber_25 rfl 0 rfl rfl ?_
      refine zk_bipush (v := 9) C kd_Tk_finishNumber_26 (by decide) rfl ?_
      refine zk_iload_n C kd_Tk_finishNumber_28 rfl 1 rfl rfl ?_
      refine zk_lload_n C kd_Tk_finishNumber_29 rfl 2 rfl rfl ?_
      refine zk_l2i C kd_Tk_finishNumber_30 rfl ?_
      obtain ⟨v7, h8, c6, e⟩ := zd_Be e
      refine zs_callV (k := 8) (rn := { frames := 1, cells := 0, slots := 0, locals := 22 }) (As := [.int 9, .int x1, .int (x2.toInt32)]) (rest := []) C (zc_Tk_finish h 9 x1 (x2.toInt32) c6) ku_Tk_finish kw773 kv_Tk_finish rfl ⟨by decide, by decide⟩ ⟨by decide, by decide⟩ rfl rfl rfl (Nat.le_of_ble_eq_true rfl) kd_Tk_finishNumber_31 rfl (c1 := 0) (s1 := 0) rfl rfl (fun v w hp => ?_)
      obtain ⟨rfl, rfl, z9⟩ := hp
      refine zk_stk (r' := [.int v7]) rfl ?_
      exact zk_zret C hR (zd_nb z9) kd_Tk_finishNumber_34 rfl rfl (zd_rZS z9 e)
    · replace e := zd_neg (fun z => b5 (zd_cle.mpr z)) e
      refine zk_lvs (lv' := [(0, .ref (S.1 8))]) [0] rfl ?_
      exact zb_Tk_finishNumber_19 C hR h e
