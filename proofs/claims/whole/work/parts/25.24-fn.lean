theorem kw119 : Jvm.Cond.fieldLink "PlantKeeper$Parser" (26 : Nat) "PlantKeeper$Tokens" "kind" "[C" ∈ zk_BW := zk_inT 119 (by decide +kernel) rfl
theorem kw121 : Jvm.Cond.fieldLink "PlantKeeper$Parser" (35 : Nat) "PlantKeeper$Tokens" "place" "[C" ∈ zk_BW := zk_inT 121 (by decide +kernel) rfl
theorem kw123 : Jvm.Cond.fieldLink "PlantKeeper$Parser" (61 : Nat) "PlantKeeper$Tokens" "value" "[I" ∈ zk_BW := zk_inT 123 (by decide +kernel) rfl
theorem kw125 : Jvm.Cond.fieldLink "PlantKeeper$Parser" (60 : Nat) "PlantKeeper$Tokens" "size" "I" ∈ zk_BW := zk_inT 125 (by decide +kernel) rfl
theorem kw166 : Jvm.Cond.fieldLink "PlantKeeper$Parser" (72 : Nat) "PlantKeeper$Tree" "value" "[I" ∈ zk_BW := zk_inT 166 (by decide +kernel) rfl
theorem kw175 : Jvm.Cond.fieldLink "PlantKeeper$Tree" (33 : Nat) "PlantKeeper$Tree" "size" "I" ∈ zk_BW := zk_inT 175 (by decide +kernel) rfl
theorem kw200 : Jvm.Cond.fieldLink "PlantKeeper$Parser" (65 : Nat) "PlantKeeper$Parser" "faultPlace" "I" ∈ zk_BW := zk_inT 200 (by decide +kernel) rfl
theorem kw204 : Jvm.Cond.fieldLink "PlantKeeper$Parser" (19 : Nat) "PlantKeeper$Parser" "fault" "I" ∈ zk_BW := zk_inT 204 (by decide +kernel) rfl
theorem kw205 : Jvm.Cond.fieldLink "PlantKeeper$Parser" (23 : Nat) "PlantKeeper$Parser" "at" "I" ∈ zk_BW := zk_inT 205 (by decide +kernel) rfl
theorem kw206 : Jvm.Cond.fieldLink "PlantKeeper$Parser" (32 : Nat) "PlantKeeper$Parser" "token" "I" ∈ zk_BW := zk_inT 206 (by decide +kernel) rfl
theorem kw207 : Jvm.Cond.fieldLink "PlantKeeper$Parser" (38 : Nat) "PlantKeeper$Parser" "here" "I" ∈ zk_BW := zk_inT 207 (by decide +kernel) rfl
theorem kw715 : Jvm.Cond.instanceMethod ({ cls := "PlantKeeper$Tokens", name := "read", desc := "([BI)V" } : Jvm.MethodName) ∈ zk_BW := zk_inT 715 (by decide +kernel) rfl
theorem kw716 : Jvm.Cond.selects "PlantKeeper$Tokens" ({ cls := "PlantKeeper$Tokens", name := "read", desc := "([BI)V" } : Jvm.MethodName) ({ cls := "PlantKeeper$Tokens", name := "read", desc := "([BI)V" } : Jvm.MethodName) ∈ zk_BW := zk_inT 716 (by decide +kernel) rfl
theorem kw717 : Jvm.Cond.code ({ cls := "PlantKeeper$Tokens", name := "read", desc := "([BI)V" } : Jvm.MethodName) prog_11_method_2_code (5 : Nat) (Option.none : Option FieldType) ∈ zk_BW := zk_inT 717 (by decide +kernel) rfl
theorem kw718 : Jvm.Cond.methodLink "PlantKeeper$Tokens" (40 : Nat) ({ cls := "PlantKeeper$Tokens", name := "skipBlanks", desc := "()Z" } : Jvm.MethodName) ∈ zk_BW := zk_inT 718 (by decide +kernel) rfl
theorem kw738 : Jvm.Cond.methodLink "PlantKeeper$Tokens" (44 : Nat) ({ cls := "PlantKeeper$Tokens", name := "readToken", desc := "()Z" } : Jvm.MethodName) ∈ zk_BW := zk_inT 738 (by decide +kernel) rfl
theorem kw740 : Jvm.Cond.instanceMethod ({ cls := "PlantKeeper$Tokens", name := "readToken", desc := "()Z" } : Jvm.MethodName) ∈ zk_BW := zk_inT 740 (by decide +kernel) rfl
theorem kw741 : Jvm.Cond.code ({ cls := "PlantKeeper$Tokens", name := "readToken", desc := "()Z" } : Jvm.MethodName) prog_11_method_9_code (2 : Nat) (Option.some FieldType.boolean) ∈ zk_BW := zk_inT 741 (by decide +kernel) rfl
theorem kw742 : Jvm.Cond.methodLink "PlantKeeper$Tokens" (62 : Nat) ({ cls := "PlantKeeper$Tokens", name := "readTime", desc := "()Z" } : Jvm.MethodName) ∈ zk_BW := zk_inT 742 (by decide +kernel) rfl
theorem kw744 : Jvm.Cond.instanceMethod ({ cls := "PlantKeeper$Tokens", name := "readTime", desc := "()Z" } : Jvm.MethodName) ∈ zk_BW := zk_inT 744 (by decide +kernel) rfl
theorem kw745 : Jvm.Cond.code ({ cls := "PlantKeeper$Tokens", name := "readTime", desc := "()Z" } : Jvm.MethodName) prog_11_method_15_code (6 : Nat) (Option.some FieldType.boolean) ∈ zk_BW := zk_inT 745 (by decide +kernel) rfl
theorem kw746 : Jvm.Cond.methodLink "PlantKeeper$Tokens" (107 : Nat) ({ cls := "PlantKeeper$Tokens", name := "digitsEnd", desc := "(II)I" } : Jvm.MethodName) ∈ zk_BW := zk_inT 746 (by decide +kernel) rfl
theorem kw754 : Jvm.Cond.methodLink "PlantKeeper$Tokens" (111 : Nat) ({ cls := "PlantKeeper$Tokens", name := "meaning", desc := "(III)J" } : Jvm.MethodName) ∈ zk_BW := zk_inT 754 (by decide +kernel) rfl
theorem kw762 : Jvm.Cond.methodLink "PlantKeeper$Tokens" (115 : Nat) ({ cls := "PlantKeeper$Tokens", name := "finishNumber", desc := "(IJ)Z" } : Jvm.MethodName) ∈ zk_BW := zk_inT 762 (by decide +kernel) rfl
theorem kw777 : Jvm.Cond.constant "PlantKeeper$Tokens" (123 : Nat) (60000 : Int32) ∈ zk_BW := zk_inT 777 (by decide +kernel) rfl
theorem kw778 : Jvm.Cond.constant "PlantKeeper$Tokens" (124 : Nat) (3600000 : Int32) ∈ zk_BW := zk_inT 778 (by decide +kernel) rfl
theorem kw779 : Jvm.Cond.methodLink "PlantKeeper$Tokens" (65 : Nat) ({ cls := "PlantKeeper$Names", name := "isLetter", desc := "(I)Z" } : Jvm.MethodName) ∈ zk_BW := zk_inT 779 (by decide +kernel) rfl
theorem kw780 : Jvm.Cond.methodLink "PlantKeeper$Tokens" (70 : Nat) ({ cls := "PlantKeeper$Tokens", name := "readName", desc := "()Z" } : Jvm.MethodName) ∈ zk_BW := zk_inT 780 (by decide +kernel) rfl
theorem kw785 : Jvm.Cond.methodLink "PlantKeeper$Tokens" (73 : Nat) ({ cls := "PlantKeeper$Tokens", name := "readNumber", desc := "()Z" } : Jvm.MethodName) ∈ zk_BW := zk_inT 785 (by decide +kernel) rfl
theorem kw787 : Jvm.Cond.instanceMethod ({ cls := "PlantKeeper$Tokens", name := "readNumber", desc := "()Z" } : Jvm.MethodName) ∈ zk_BW := zk_inT 787 (by decide +kernel) rfl
theorem kw788 : Jvm.Cond.code ({ cls := "PlantKeeper$Tokens", name := "readNumber", desc := "()Z" } : Jvm.MethodName) prog_11_method_14_code (6 : Nat) (Option.some FieldType.boolean) ∈ zk_BW := zk_inT 788 (by decide +kernel) rfl
theorem kw789 : Jvm.Cond.constantLong "PlantKeeper$Tokens" (119 : Nat) (16 : Int64) ∈ zk_BW := zk_inT 789 (by decide +kernel) rfl
theorem kw790 : Jvm.Cond.constantLong "PlantKeeper$Tokens" (121 : Nat) (2 : Int64) ∈ zk_BW := zk_inT 790 (by decide +kernel) rfl
theorem kw791 : Jvm.Cond.methodLink "PlantKeeper$Tokens" (76 : Nat) ({ cls := "PlantKeeper$Tokens", name := "readPlace", desc := "()Z" } : Jvm.MethodName) ∈ zk_BW := zk_inT 791 (by decide +kernel) rfl
theorem kw793 : Jvm.Cond.instanceMethod ({ cls := "PlantKeeper$Tokens", name := "readPlace", desc := "()Z" } : Jvm.MethodName) ∈ zk_BW := zk_inT 793 (by decide +kernel) rfl
theorem kw794 : Jvm.Cond.code ({ cls := "PlantKeeper$Tokens", name := "readPlace", desc := "()Z" } : Jvm.MethodName) prog_11_method_17_code (6 : Nat) (Option.some FieldType.boolean) ∈ zk_BW := zk_inT 794 (by decide +kernel) rfl
theorem kw796 : Jvm.Cond.methodLink "PlantKeeper$Tokens" (129 : Nat) ({ cls := "java/lang/Math", name := "max", desc := "(II)I" } : Jvm.MethodName) ∈ zk_BW := zk_inT 796 (by decide +kernel) rfl
theorem kw799 : Jvm.Cond.methodLink "PlantKeeper$Tokens" (132 : Nat) ({ cls := "java/lang/String", name := "indexOf", desc := "(I)I" } : Jvm.MethodName) ∈ zk_BW := zk_inT 799 (by decide +kernel) rfl
theorem kw857 : Jvm.Cond.methodLink "PlantKeeper$Tokens" (79 : Nat) ({ cls := "PlantKeeper$Tokens", name := "readSign", desc := "(I)Z" } : Jvm.MethodName) ∈ zk_BW := zk_inT 857 (by decide +kernel) rfl
theorem kw859 : Jvm.Cond.instanceMethod ({ cls := "PlantKeeper$Tokens", name := "readSign", desc := "(I)Z" } : Jvm.MethodName) ∈ zk_BW := zk_inT 859 (by decide +kernel) rfl
theorem kw860 : Jvm.Cond.code ({ cls := "PlantKeeper$Tokens", name := "readSign", desc := "(I)Z" } : Jvm.MethodName) prog_11_method_18_code (3 : Nat) (Option.some FieldType.boolean) ∈ zk_BW := zk_inT 860 (by decide +kernel) rfl
theorem kw866 : Jvm.Cond.methodLink "PlantKeeper$Parser" (49 : Nat) ({ cls := "PlantKeeper$Tree", name := "add", desc := "(III)I" } : Jvm.MethodName) ∈ zk_BW := zk_inT 866 (by decide +kernel) rfl
theorem kw867 : Jvm.Cond.instanceMethod ({ cls := "PlantKeeper$Tree", name := "add", desc := "(III)I" } : Jvm.MethodName) ∈ zk_BW := zk_inT 867 (by decide +kernel) rfl
theorem kw868 : Jvm.Cond.selects "PlantKeeper$Tree" ({ cls := "PlantKeeper$Tree", name := "add", desc := "(III)I" } : Jvm.MethodName) ({ cls := "PlantKeeper$Tree", name := "add", desc := "(III)I" } : Jvm.MethodName) ∈ zk_BW := zk_inT 868 (by decide +kernel) rfl
theorem kw869 : Jvm.Cond.code ({ cls := "PlantKeeper$Tree", name := "add", desc := "(III)I" } : Jvm.MethodName) prog_12_method_2_code (5 : Nat) (Option.some FieldType.int) ∈ zk_BW := zk_inT 869 (by decide +kernel) rfl
theorem kw870 : Jvm.Cond.constant "PlantKeeper$Tree" (37 : Nat) (32783 : Int32) ∈ zk_BW := zk_inT 870 (by decide +kernel) rfl
theorem kw871 : Jvm.Cond.methodLink "PlantKeeper$Tree" (38 : Nat) ({ cls := "java/lang/Math", name := "min", desc := "(II)I" } : Jvm.MethodName) ∈ zk_BW := zk_inT 871 (by decide +kernel) rfl
theorem kw876 : Jvm.Cond.methodLink "PlantKeeper$Parser" (68 : Nat) ({ cls := "PlantKeeper$Parser", name := "take", desc := "(I)V" } : Jvm.MethodName) ∈ zk_BW := zk_inT 876 (by decide +kernel) rfl
theorem kw878 : Jvm.Cond.instanceMethod ({ cls := "PlantKeeper$Parser", name := "take", desc := "(I)V" } : Jvm.MethodName) ∈ zk_BW := zk_inT 878 (by decide +kernel) rfl
theorem kw879 : Jvm.Cond.code ({ cls := "PlantKeeper$Parser", name := "take", desc := "(I)V" } : Jvm.MethodName) prog_8_method_3_code (2 : Nat) (Option.none : Option FieldType) ∈ zk_BW := zk_inT 879 (by decide +kernel) rfl
theorem kw880 : Jvm.Cond.methodLink "PlantKeeper$Parser" (73 : Nat) ({ cls := "PlantKeeper$Parser", name := "simpleType", desc := "()I" } : Jvm.MethodName) ∈ zk_BW := zk_inT 880 (by decide +kernel) rfl
theorem kw882 : Jvm.Cond.instanceMethod ({ cls := "PlantKeeper$Parser", name := "simpleType", desc := "()I" } : Jvm.MethodName) ∈ zk_BW := zk_inT 882 (by decide +kernel) rfl
theorem kw883 : Jvm.Cond.code ({ cls := "PlantKeeper$Parser", name := "simpleType", desc := "()I" } : Jvm.MethodName) prog_8_method_9_code (3 : Nat) (Option.some FieldType.int) ∈ zk_BW := zk_inT 883 (by decide +kernel) rfl
theorem kw884 : Jvm.Cond.methodLink "PlantKeeper$Parser" (57 : Nat) ({ cls := "PlantKeeper$Tree", name := "hang", desc := "(III)I" } : Jvm.MethodName) ∈ zk_BW := zk_inT 884 (by decide +kernel) rfl
theorem kw885 : Jvm.Cond.instanceMethod ({ cls := "PlantKeeper$Tree", name := "hang", desc := "(III)I" } : Jvm.MethodName) ∈ zk_BW := zk_inT 885 (by decide +kernel) rfl
theorem kw886 : Jvm.Cond.selects "PlantKeeper$Tree" ({ cls := "PlantKeeper$Tree", name := "hang", desc := "(III)I" } : Jvm.MethodName) ({ cls := "PlantKeeper$Tree", name := "hang", desc := "(III)I" } : Jvm.MethodName) ∈ zk_BW := zk_inT 886 (by decide +kernel) rfl
theorem kw887 : Jvm.Cond.code ({ cls := "PlantKeeper$Tree", name := "hang", desc := "(III)I" } : Jvm.MethodName) prog_12_method_3_code (4 : Nat) (Option.some FieldType.int) ∈ zk_BW := zk_inT 887 (by decide +kernel) rfl
theorem kw890 : Jvm.Cond.instanceMethod ({ cls := "PlantKeeper$Parser", name := "isSection", desc := "()Z" } : Jvm.MethodName) ∈ zk_BW := zk_inT 890 (by decide +kernel) rfl
theorem kw891 : Jvm.Cond.code ({ cls := "PlantKeeper$Parser", name := "isSection", desc := "()Z" } : Jvm.MethodName) prog_8_method_6_code (1 : Nat) (Option.some FieldType.boolean) ∈ zk_BW := zk_inT 891 (by decide +kernel) rfl
theorem kw902 : Jvm.Cond.instanceMethod ({ cls := "PlantKeeper$Parser", name := "type", desc := "()I" } : Jvm.MethodName) ∈ zk_BW := zk_inT 902 (by decide +kernel) rfl
theorem kw903 : Jvm.Cond.code ({ cls := "PlantKeeper$Parser", name := "type", desc := "()I" } : Jvm.MethodName) prog_8_method_10_code (3 : Nat) (Option.some FieldType.int) ∈ zk_BW := zk_inT 903 (by decide +kernel) rfl
theorem kw904 : Jvm.Cond.methodLink "PlantKeeper$Parser" (95 : Nat) ({ cls := "PlantKeeper$Parser", name := "constant", desc := "()I" } : Jvm.MethodName) ∈ zk_BW := zk_inT 904 (by decide +kernel) rfl
theorem kw906 : Jvm.Cond.instanceMethod ({ cls := "PlantKeeper$Parser", name := "constant", desc := "()I" } : Jvm.MethodName) ∈ zk_BW := zk_inT 906 (by decide +kernel) rfl
theorem kw907 : Jvm.Cond.code ({ cls := "PlantKeeper$Parser", name := "constant", desc := "()I" } : Jvm.MethodName) prog_8_method_11_code (3 : Nat) (Option.some FieldType.int) ∈ zk_BW := zk_inT 907 (by decide +kernel) rfl
abbrev kc_Ps_constant : ByteArray := prog_8_method_11_code
def km_Ps_constant : zk_MT := (⟨"PlantKeeper$Parser", "constant", "()I"⟩, kc_Ps_constant, 3, some .int, 0)
theorem ku_Ps_constant : zk_My km_Ps_constant := ⟨kw907, kw9, by decide, by decide, by decide, by decide +kernel⟩
theorem kv_Ps_constant : zk_Mv km_Ps_constant := ⟨kw906, zk_inS 24 (q := (⟨"PlantKeeper$Parser", "constant", "()I"⟩, 8)) (by decide +kernel)⟩
abbrev kc_Ps_isSection : ByteArray := prog_8_method_6_code
def km_Ps_isSection : zk_MT := (⟨"PlantKeeper$Parser", "isSection", "()Z"⟩, kc_Ps_isSection, 1, some .boolean, 0)
theorem ku_Ps_isSection : zk_My km_Ps_isSection := ⟨kw891, kw9, by decide, by decide, by decide, by decide +kernel⟩
theorem kv_Ps_isSection : zk_Mv km_Ps_isSection := ⟨kw890, zk_inS 20 (q := (⟨"PlantKeeper$Parser", "isSection", "()Z"⟩, 8)) (by decide +kernel)⟩
abbrev kc_Ps_simpleType : ByteArray := prog_8_method_9_code
def km_Ps_simpleType : zk_MT := (⟨"PlantKeeper$Parser", "simpleType", "()I"⟩, kc_Ps_simpleType, 3, some .int, 0)
theorem ku_Ps_simpleType : zk_My km_Ps_simpleType := ⟨kw883, kw9, by decide, by decide, by decide, by decide +kernel⟩
theorem kv_Ps_simpleType : zk_Mv km_Ps_simpleType := ⟨kw882, zk_inS 19 (q := (⟨"PlantKeeper$Parser", "simpleType", "()I"⟩, 8)) (by decide +kernel)⟩
abbrev kc_Ps_take : ByteArray := prog_8_method_3_code
def km_Ps_take : zk_MT := (⟨"PlantKeeper$Parser", "take", "(I)V"⟩, kc_Ps_take, 2, none, 1)
theorem ku_Ps_take : zk_My km_Ps_take := ⟨kw879, kw9, by decide, by decide, by decide, by decide +kernel⟩
theorem kv_Ps_take : zk_Mv km_Ps_take := ⟨kw878, zk_inS 18 (q := (⟨"PlantKeeper$Parser", "take", "(I)V"⟩, 8)) (by decide +kernel)⟩
abbrev kc_Ps_type : ByteArray := prog_8_method_10_code
def km_Ps_type : zk_MT := (⟨"PlantKeeper$Parser", "type", "()I"⟩, kc_Ps_type, 3, some .int, 0)
theorem ku_Ps_type : zk_My km_Ps_type := ⟨kw903, kw9, by decide, by decide, by decide, by decide +kernel⟩
theorem kv_Ps_type : zk_Mv km_Ps_type := ⟨kw902, zk_inS 23 (q := (⟨"PlantKeeper$Parser", "type", "()I"⟩, 8)) (by decide +kernel)⟩
abbrev kc_Tk_read : ByteArray := prog_11_method_2_code
def km_Tk_read : zk_MT := (⟨"PlantKeeper$Tokens", "read", "([BI)V"⟩, kc_Tk_read, 5, none, 2)
theorem ku_Tk_read : zk_My km_Tk_read := ⟨kw717, kw7, by decide, by decide, by decide, by decide +kernel⟩
theorem kv_Tk_read : zk_Mv km_Tk_read := ⟨kw715, kw716⟩
abbrev kc_Tk_readNumber : ByteArray := prog_11_method_14_code
def km_Tk_readNumber : zk_MT := (⟨"PlantKeeper$Tokens", "readNumber", "()Z"⟩, kc_Tk_readNumber, 6, some .boolean, 0)
theorem ku_Tk_readNumber : zk_My km_Tk_readNumber := ⟨kw788, kw7, by decide, by decide, by decide, by decide +kernel⟩
theorem kv_Tk_readNumber : zk_Mv km_Tk_readNumber := ⟨kw787, zk_inS 14 (q := (⟨"PlantKeeper$Tokens", "readNumber", "()Z"⟩, 8)) (by decide +kernel)⟩
abbrev kc_Tk_readPlace : ByteArray := prog_11_method_17_code
def km_Tk_readPlace : zk_MT := (⟨"PlantKeeper$Tokens", "readPlace", "()Z"⟩, kc_Tk_readPlace, 6, some .boolean, 0)
theorem ku_Tk_readPlace : zk_My km_Tk_readPlace := ⟨kw794, kw7, by decide, by decide, by decide, by decide +kernel⟩
theorem kv_Tk_readPlace : zk_Mv km_Tk_readPlace := ⟨kw793, zk_inS 15 (q := (⟨"PlantKeeper$Tokens", "readPlace", "()Z"⟩, 8)) (by decide +kernel)⟩
abbrev kc_Tk_readSign : ByteArray := prog_11_method_18_code
def km_Tk_readSign : zk_MT := (⟨"PlantKeeper$Tokens", "readSign", "(I)Z"⟩, kc_Tk_readSign, 3, some .boolean, 1)
theorem ku_Tk_readSign : zk_My km_Tk_readSign := ⟨kw860, kw7, by decide, by decide, by decide, by decide +kernel⟩
theorem kv_Tk_readSign : zk_Mv km_Tk_readSign := ⟨kw859, zk_inS 16 (q := (⟨"PlantKeeper$Tokens", "readSign", "(I)Z"⟩, 8)) (by decide +kernel)⟩
abbrev kc_Tk_readTime : ByteArray := prog_11_method_15_code
def km_Tk_readTime : zk_MT := (⟨"PlantKeeper$Tokens", "readTime", "()Z"⟩, kc_Tk_readTime, 6, some .boolean, 0)
theorem ku_Tk_readTime : zk_My km_Tk_readTime := ⟨kw745, kw7, by decide, by decide, by decide, by decide +kernel⟩
theorem kv_Tk_readTime : zk_Mv km_Tk_readTime := ⟨kw744, zk_inS 8 (q := (⟨"PlantKeeper$Tokens", "readTime", "()Z"⟩, 8)) (by decide +kernel)⟩
abbrev kc_Tk_readToken : ByteArray := prog_11_method_9_code
def km_Tk_readToken : zk_MT := (⟨"PlantKeeper$Tokens", "readToken", "()Z"⟩, kc_Tk_readToken, 2, some .boolean, 0)
theorem ku_Tk_readToken : zk_My km_Tk_readToken := ⟨kw741, kw7, by decide, by decide, by decide, by decide +kernel⟩
theorem kv_Tk_readToken : zk_Mv km_Tk_readToken := ⟨kw740, zk_inS 7 (q := (⟨"PlantKeeper$Tokens", "readToken", "()Z"⟩, 8)) (by decide +kernel)⟩
abbrev kc_Tr_add : ByteArray := prog_12_method_2_code
def km_Tr_add : zk_MT := (⟨"PlantKeeper$Tree", "add", "(III)I"⟩, kc_Tr_add, 5, some .int, 3)
theorem ku_Tr_add : zk_My km_Tr_add := ⟨kw869, kw8, by decide, by decide, by decide, by decide +kernel⟩
theorem kv_Tr_add : zk_Mv km_Tr_add := ⟨kw867, kw868⟩
abbrev kc_Tr_hang : ByteArray := prog_12_method_3_code
def km_Tr_hang : zk_MT := (⟨"PlantKeeper$Tree", "hang", "(III)I"⟩, kc_Tr_hang, 4, some .int, 3)
theorem ku_Tr_hang : zk_My km_Tr_hang := ⟨kw887, kw8, by decide, by decide, by decide, by decide +kernel⟩
theorem kv_Tr_hang : zk_Mv km_Tr_hang := ⟨kw885, kw886⟩
theorem kd_Ps_constant_0 : decode kc_Ps_constant 0 = .ok (.aload_n 0, 1) := by decide +kernel
theorem kd_Ps_constant_1 : decode kc_Ps_constant 1 = .ok (.getfield 32, 3) := by decide +kernel
theorem kd_Ps_constant_4 : decode kc_Ps_constant 4 = .ok (.sipush 163, 3) := by decide +kernel
theorem kd_Ps_constant_7 : decode kc_Ps_constant 7 = .ok (.if_icmp .eq 13, 3) := by decide +kernel
theorem kd_Ps_constant_10 : decode kc_Ps_constant 10 = .ok (.aload_n 0, 1) := by decide +kernel
theorem kd_Ps_constant_11 : decode kc_Ps_constant 11 = .ok (.getfield 32, 3) := by decide +kernel
theorem kd_Ps_constant_14 : decode kc_Ps_constant 14 = .ok (.sipush 164, 3) := by decide +kernel
theorem kd_Ps_constant_17 : decode kc_Ps_constant 17 = .ok (.if_icmp .ne 42, 3) := by decide +kernel
theorem kd_Ps_constant_20 : decode kc_Ps_constant 20 = .ok (.aload_n 0, 1) := by decide +kernel
theorem kd_Ps_constant_21 : decode kc_Ps_constant 21 = .ok (.getfield 15, 3) := by decide +kernel
theorem kd_Ps_constant_24 : decode kc_Ps_constant 24 = .ok (.bipush 31, 2) := by decide +kernel
theorem kd_Ps_constant_26 : decode kc_Ps_constant 26 = .ok (.aload_n 0, 1) := by decide +kernel
theorem kd_Ps_constant_27 : decode kc_Ps_constant 27 = .ok (.getfield 38, 3) := by decide +kernel
theorem kd_Ps_constant_30 : decode kc_Ps_constant 30 = .ok (.aload_n 0, 1) := by decide +kernel
theorem kd_Ps_constant_31 : decode kc_Ps_constant 31 = .ok (.getfield 32, 3) := by decide +kernel
theorem kd_Ps_constant_34 : decode kc_Ps_constant 34 = .ok (.sipush 163, 3) := by decide +kernel
theorem kd_Ps_constant_37 : decode kc_Ps_constant 37 = .ok (.if_icmp .ne 7, 3) := by decide +kernel
theorem kd_Ps_constant_40 : decode kc_Ps_constant 40 = .ok (.iconst 1, 1) := by decide +kernel
theorem kd_Ps_constant_41 : decode kc_Ps_constant 41 = .ok (.goto 4, 3) := by decide +kernel
theorem kd_Ps_constant_44 : decode kc_Ps_constant 44 = .ok (.iconst 0, 1) := by decide +kernel
theorem kd_Ps_constant_45 : decode kc_Ps_constant 45 = .ok (.invokevirtual 49, 3) := by decide +kernel
theorem kd_Ps_constant_48 : decode kc_Ps_constant 48 = .ok (.istore_n 1, 1) := by decide +kernel
theorem kd_Ps_constant_49 : decode kc_Ps_constant 49 = .ok (.aload_n 0, 1) := by decide +kernel
theorem kd_Ps_constant_50 : decode kc_Ps_constant 50 = .ok (.aload_n 0, 1) := by decide +kernel
theorem kd_Ps_constant_51 : decode kc_Ps_constant 51 = .ok (.getfield 32, 3) := by decide +kernel
theorem kd_Ps_constant_54 : decode kc_Ps_constant 54 = .ok (.invokevirtual 68, 3) := by decide +kernel
theorem kd_Ps_constant_57 : decode kc_Ps_constant 57 = .ok (.iload_n 1, 1) := by decide +kernel
theorem kd_Ps_constant_58 : decode kc_Ps_constant 58 = .ok (.ireturn, 1) := by decide +kernel
theorem kd_Ps_constant_59 : decode kc_Ps_constant 59 = .ok (.aload_n 0, 1) := by decide +kernel
theorem kd_Ps_constant_60 : decode kc_Ps_constant 60 = .ok (.getfield 15, 3) := by decide +kernel
theorem kd_Ps_constant_63 : decode kc_Ps_constant 63 = .ok (.bipush 30, 2) := by decide +kernel
theorem kd_Ps_constant_65 : decode kc_Ps_constant 65 = .ok (.aload_n 0, 1) := by decide +kernel
theorem kd_Ps_constant_66 : decode kc_Ps_constant 66 = .ok (.getfield 38, 3) := by decide +kernel
theorem kd_Ps_constant_69 : decode kc_Ps_constant 69 = .ok (.iconst 0, 1) := by decide +kernel
theorem kd_Ps_constant_70 : decode kc_Ps_constant 70 = .ok (.invokevirtual 49, 3) := by decide +kernel
theorem kd_Ps_constant_73 : decode kc_Ps_constant 73 = .ok (.istore_n 1, 1) := by decide +kernel
theorem kd_Ps_constant_74 : decode kc_Ps_constant 74 = .ok (.aload_n 0, 1) := by decide +kernel
theorem kd_Ps_constant_75 : decode kc_Ps_constant 75 = .ok (.getfield 32, 3) := by decide +kernel
theorem kd_Ps_constant_78 : decode kc_Ps_constant 78 = .ok (.bipush 45, 2) := by decide +kernel
theorem kd_Ps_constant_80 : decode kc_Ps_constant 80 = .ok (.if_icmp .ne 7, 3) := by decide +kernel
theorem kd_Ps_constant_83 : decode kc_Ps_constant 83 = .ok (.iconst 1, 1) := by decide +kernel
theorem kd_Ps_constant_84 : decode kc_Ps_constant 84 = .ok (.goto 4, 3) := by decide +kernel
theorem kd_Ps_constant_87 : decode kc_Ps_constant 87 = .ok (.iconst 0, 1) := by decide +kernel
theorem kd_Ps_constant_88 : decode kc_Ps_constant 88 = .ok (.istore_n 2, 1) := by decide +kernel
theorem kd_Ps_constant_89 : decode kc_Ps_constant 89 = .ok (.iload_n 2, 1) := by decide +kernel
theorem kd_Ps_constant_90 : decode kc_Ps_constant 90 = .ok (.ifCond .eq 9, 3) := by decide +kernel
theorem kd_Ps_constant_93 : decode kc_Ps_constant 93 = .ok (.aload_n 0, 1) := by decide +kernel
theorem kd_Ps_constant_94 : decode kc_Ps_constant 94 = .ok (.bipush 45, 2) := by decide +kernel
theorem kd_Ps_constant_96 : decode kc_Ps_constant 96 = .ok (.invokevirtual 68, 3) := by decide +kernel
theorem kd_Ps_constant_99 : decode kc_Ps_constant 99 = .ok (.aload_n 0, 1) := by decide +kernel
theorem kd_Ps_constant_100 : decode kc_Ps_constant 100 = .ok (.getfield 15, 3) := by decide +kernel
theorem kd_Ps_constant_103 : decode kc_Ps_constant 103 = .ok (.getfield 72, 3) := by decide +kernel
theorem kd_Ps_constant_106 : decode kc_Ps_constant 106 = .ok (.iload_n 1, 1) := by decide +kernel
theorem kd_Ps_constant_107 : decode kc_Ps_constant 107 = .ok (.iload_n 2, 1) := by decide +kernel
theorem kd_Ps_constant_108 : decode kc_Ps_constant 108 = .ok (.ifCond .eq 19, 3) := by decide +kernel
theorem kd_Ps_constant_111 : decode kc_Ps_constant 111 = .ok (.aload_n 0, 1) := by decide +kernel
theorem kd_Ps_constant_112 : decode kc_Ps_constant 112 = .ok (.getfield 9, 3) := by decide +kernel
theorem kd_Ps_constant_115 : decode kc_Ps_constant 115 = .ok (.getfield 61, 3) := by decide +kernel
theorem kd_Ps_constant_118 : decode kc_Ps_constant 118 = .ok (.aload_n 0, 1) := by decide +kernel
theorem kd_Ps_constant_119 : decode kc_Ps_constant 119 = .ok (.getfield 23, 3) := by decide +kernel
theorem kd_Ps_constant_122 : decode kc_Ps_constant 122 = .ok (.iaload, 1) := by decide +kernel
theorem kd_Ps_constant_123 : decode kc_Ps_constant 123 = .ok (.ineg, 1) := by decide +kernel
theorem kd_Ps_constant_124 : decode kc_Ps_constant 124 = .ok (.goto 15, 3) := by decide +kernel
theorem kd_Ps_constant_127 : decode kc_Ps_constant 127 = .ok (.aload_n 0, 1) := by decide +kernel
theorem kd_Ps_constant_128 : decode kc_Ps_constant 128 = .ok (.getfield 9, 3) := by decide +kernel
theorem kd_Ps_constant_131 : decode kc_Ps_constant 131 = .ok (.getfield 61, 3) := by decide +kernel
theorem kd_Ps_constant_134 : decode kc_Ps_constant 134 = .ok (.aload_n 0, 1) := by decide +kernel
theorem kd_Ps_constant_135 : decode kc_Ps_constant 135 = .ok (.getfield 23, 3) := by decide +kernel
theorem kd_Ps_constant_138 : decode kc_Ps_constant 138 = .ok (.iaload, 1) := by decide +kernel
theorem kd_Ps_constant_139 : decode kc_Ps_constant 139 = .ok (.iastore, 1) := by decide +kernel
theorem kd_Ps_constant_140 : decode kc_Ps_constant 140 = .ok (.aload_n 0, 1) := by decide +kernel
theorem kd_Ps_constant_141 : decode kc_Ps_constant 141 = .ok (.bipush 9, 2) := by decide +kernel
theorem kd_Ps_constant_143 : decode kc_Ps_constant 143 = .ok (.invokevirtual 68, 3) := by decide +kernel
theorem kd_Ps_constant_146 : decode kc_Ps_constant 146 = .ok (.iload_n 1, 1) := by decide +kernel
theorem kd_Ps_constant_147 : decode kc_Ps_constant 147 = .ok (.ireturn, 1) := by decide +kernel
theorem kd_Ps_isSection_0 : decode kc_Ps_isSection 0 = .ok (.aload_n 0, 1) := by decide +kernel
theorem kd_Ps_isSection_1 : decode kc_Ps_isSection 1 = .ok (.getfield 32, 3) := by decide +kernel
theorem kd_Ps_isSection_4 : decode kc_Ps_isSection 4 = .ok (.sipush 134, 3) := by decide +kernel
theorem kd_Ps_isSection_7 : decode kc_Ps_isSection 7 = .ok (.if_icmp .lt 17, 3) := by decide +kernel
theorem kd_Ps_isSection_10 : decode kc_Ps_isSection 10 = .ok (.aload_n 0, 1) := by decide +kernel
theorem kd_Ps_isSection_11 : decode kc_Ps_isSection 11 = .ok (.getfield 32, 3) := by decide +kernel
theorem kd_Ps_isSection_14 : decode kc_Ps_isSection 14 = .ok (.sipush 136, 3) := by decide +kernel
theorem kd_Ps_isSection_17 : decode kc_Ps_isSection 17 = .ok (.if_icmp .gt 7, 3) := by decide +kernel
theorem kd_Ps_isSection_20 : decode kc_Ps_isSection 20 = .ok (.iconst 1, 1) := by decide +kernel
theorem kd_Ps_isSection_21 : decode kc_Ps_isSection 21 = .ok (.goto 4, 3) := by decide +kernel
theorem kd_Ps_isSection_24 : decode kc_Ps_isSection 24 = .ok (.iconst 0, 1) := by decide +kernel
theorem kd_Ps_isSection_25 : decode kc_Ps_isSection 25 = .ok (.ireturn, 1) := by decide +kernel
theorem kd_Ps_simpleType_0 : decode kc_Ps_simpleType 0 = .ok (.aload_n 0, 1) := by decide +kernel
theorem kd_Ps_simpleType_1 : decode kc_Ps_simpleType 1 = .ok (.getfield 15, 3) := by decide +kernel
theorem kd_Ps_simpleType_4 : decode kc_Ps_simpleType 4 = .ok (.bipush 8, 2) := by decide +kernel
theorem kd_Ps_simpleType_6 : decode kc_Ps_simpleType 6 = .ok (.aload_n 0, 1) := by decide +kernel
theorem kd_Ps_simpleType_7 : decode kc_Ps_simpleType 7 = .ok (.getfield 38, 3) := by decide +kernel
theorem kd_Ps_simpleType_10 : decode kc_Ps_simpleType 10 = .ok (.aload_n 0, 1) := by decide +kernel
theorem kd_Ps_simpleType_11 : decode kc_Ps_simpleType 11 = .ok (.getfield 32, 3) := by decide +kernel
theorem kd_Ps_simpleType_14 : decode kc_Ps_simpleType 14 = .ok (.sipush 139, 3) := by decide +kernel
theorem kd_Ps_simpleType_17 : decode kc_Ps_simpleType 17 = .ok (.isub, 1) := by decide +kernel
theorem kd_Ps_simpleType_18 : decode kc_Ps_simpleType 18 = .ok (.invokevirtual 49, 3) := by decide +kernel
theorem kd_Ps_simpleType_21 : decode kc_Ps_simpleType 21 = .ok (.istore_n 1, 1) := by decide +kernel
theorem kd_Ps_simpleType_22 : decode kc_Ps_simpleType 22 = .ok (.aload_n 0, 1) := by decide +kernel
theorem kd_Ps_simpleType_23 : decode kc_Ps_simpleType 23 = .ok (.getfield 32, 3) := by decide +kernel
theorem kd_Ps_simpleType_26 : decode kc_Ps_simpleType 26 = .ok (.sipush 139, 3) := by decide +kernel
theorem kd_Ps_simpleType_29 : decode kc_Ps_simpleType 29 = .ok (.if_icmp .lt 17, 3) := by decide +kernel
theorem kd_Ps_simpleType_32 : decode kc_Ps_simpleType 32 = .ok (.aload_n 0, 1) := by decide +kernel
theorem kd_Ps_simpleType_33 : decode kc_Ps_simpleType 33 = .ok (.getfield 32, 3) := by decide +kernel
theorem kd_Ps_simpleType_36 : decode kc_Ps_simpleType 36 = .ok (.sipush 141, 3) := by decide +kernel
theorem kd_Ps_simpleType_39 : decode kc_Ps_simpleType 39 = .ok (.if_icmp .gt 7, 3) := by decide +kernel
theorem kd_Ps_simpleType_42 : decode kc_Ps_simpleType 42 = .ok (.iconst 1, 1) := by decide +kernel
theorem kd_Ps_simpleType_43 : decode kc_Ps_simpleType 43 = .ok (.goto 4, 3) := by decide +kernel
theorem kd_Ps_simpleType_46 : decode kc_Ps_simpleType 46 = .ok (.iconst 0, 1) := by decide +kernel
theorem kd_Ps_simpleType_47 : decode kc_Ps_simpleType 47 = .ok (.istore_n 2, 1) := by decide +kernel
theorem kd_Ps_simpleType_48 : decode kc_Ps_simpleType 48 = .ok (.aload_n 0, 1) := by decide +kernel
theorem kd_Ps_simpleType_49 : decode kc_Ps_simpleType 49 = .ok (.iload_n 2, 1) := by decide +kernel
theorem kd_Ps_simpleType_50 : decode kc_Ps_simpleType 50 = .ok (.ifCond .eq 10, 3) := by decide +kernel
theorem kd_Ps_simpleType_53 : decode kc_Ps_simpleType 53 = .ok (.aload_n 0, 1) := by decide +kernel
theorem kd_Ps_simpleType_54 : decode kc_Ps_simpleType 54 = .ok (.getfield 32, 3) := by decide +kernel
theorem kd_Ps_simpleType_57 : decode kc_Ps_simpleType 57 = .ok (.goto 4, 3) := by decide +kernel
theorem kd_Ps_simpleType_60 : decode kc_Ps_simpleType 60 = .ok (.iconst (-1), 1) := by decide +kernel
theorem kd_Ps_simpleType_61 : decode kc_Ps_simpleType 61 = .ok (.invokevirtual 68, 3) := by decide +kernel
theorem kd_Ps_simpleType_64 : decode kc_Ps_simpleType 64 = .ok (.iload_n 1, 1) := by decide +kernel
theorem kd_Ps_simpleType_65 : decode kc_Ps_simpleType 65 = .ok (.ireturn, 1) := by decide +kernel
theorem kd_Ps_take_0 : decode kc_Ps_take 0 = .ok (.aload_n 0, 1) := by decide +kernel
theorem kd_Ps_take_1 : decode kc_Ps_take 1 = .ok (.getfield 19, 3) := by decide +kernel
theorem kd_Ps_take_4 : decode kc_Ps_take 4 = .ok (.ifCond .ne 70, 3) := by decide +kernel
theorem kd_Ps_take_7 : decode kc_Ps_take 7 = .ok (.aload_n 0, 1) := by decide +kernel
theorem kd_Ps_take_8 : decode kc_Ps_take 8 = .ok (.getfield 32, 3) := by decide +kernel
theorem kd_Ps_take_11 : decode kc_Ps_take 11 = .ok (.iload_n 1, 1) := by decide +kernel
theorem kd_Ps_take_12 : decode kc_Ps_take 12 = .ok (.if_icmp .ne 62, 3) := by decide +kernel
theorem kd_Ps_take_15 : decode kc_Ps_take 15 = .ok (.aload_n 0, 1) := by decide +kernel
theorem kd_Ps_take_16 : decode kc_Ps_take 16 = .ok (.getfield 23, 3) := by decide +kernel
theorem kd_Ps_take_19 : decode kc_Ps_take 19 = .ok (.iconst 1, 1) := by decide +kernel
theorem kd_Ps_take_20 : decode kc_Ps_take 20 = .ok (.iadd, 1) := by decide +kernel
theorem kd_Ps_take_21 : decode kc_Ps_take 21 = .ok (.aload_n 0, 1) := by decide +kernel
theorem kd_Ps_take_22 : decode kc_Ps_take 22 = .ok (.getfield 9, 3) := by decide +kernel
theorem kd_Ps_take_25 : decode kc_Ps_take 25 = .ok (.getfield 60, 3) := by decide +kernel
theorem kd_Ps_take_28 : decode kc_Ps_take 28 = .ok (.if_icmp .ge 46, 3) := by decide +kernel
theorem kd_Ps_take_31 : decode kc_Ps_take 31 = .ok (.aload_n 0, 1) := by decide +kernel
theorem kd_Ps_take_32 : decode kc_Ps_take 32 = .ok (.dup, 1) := by decide +kernel
theorem kd_Ps_take_33 : decode kc_Ps_take 33 = .ok (.getfield 23, 3) := by decide +kernel
theorem kd_Ps_take_36 : decode kc_Ps_take 36 = .ok (.iconst 1, 1) := by decide +kernel
theorem kd_Ps_take_37 : decode kc_Ps_take 37 = .ok (.iadd, 1) := by decide +kernel
theorem kd_Ps_take_38 : decode kc_Ps_take 38 = .ok (.putfield 23, 3) := by decide +kernel
theorem kd_Ps_take_41 : decode kc_Ps_take 41 = .ok (.aload_n 0, 1) := by decide +kernel
theorem kd_Ps_take_42 : decode kc_Ps_take 42 = .ok (.aload_n 0, 1) := by decide +kernel
theorem kd_Ps_take_43 : decode kc_Ps_take 43 = .ok (.getfield 9, 3) := by decide +kernel
theorem kd_Ps_take_46 : decode kc_Ps_take 46 = .ok (.getfield 26, 3) := by decide +kernel
theorem kd_Ps_take_49 : decode kc_Ps_take 49 = .ok (.aload_n 0, 1) := by decide +kernel
theorem kd_Ps_take_50 : decode kc_Ps_take 50 = .ok (.getfield 23, 3) := by decide +kernel
theorem kd_Ps_take_53 : decode kc_Ps_take 53 = .ok (.caload, 1) := by decide +kernel
theorem kd_Ps_take_54 : decode kc_Ps_take 54 = .ok (.putfield 32, 3) := by decide +kernel
theorem kd_Ps_take_57 : decode kc_Ps_take 57 = .ok (.aload_n 0, 1) := by decide +kernel
theorem kd_Ps_take_58 : decode kc_Ps_take 58 = .ok (.aload_n 0, 1) := by decide +kernel
theorem kd_Ps_take_59 : decode kc_Ps_take 59 = .ok (.getfield 9, 3) := by decide +kernel
theorem kd_Ps_take_62 : decode kc_Ps_take 62 = .ok (.getfield 35, 3) := by decide +kernel
theorem kd_Ps_take_65 : decode kc_Ps_take 65 = .ok (.aload_n 0, 1) := by decide +kernel
theorem kd_Ps_take_66 : decode kc_Ps_take 66 = .ok (.getfield 23, 3) := by decide +kernel
theorem kd_Ps_take_69 : decode kc_Ps_take 69 = .ok (.caload, 1) := by decide +kernel
theorem kd_Ps_take_70 : decode kc_Ps_take 70 = .ok (.putfield 38, 3) := by decide +kernel
theorem kd_Ps_take_73 : decode kc_Ps_take 73 = .ok (.return_, 1) := by decide +kernel
theorem kd_Ps_take_74 : decode kc_Ps_take 74 = .ok (.aload_n 0, 1) := by decide +kernel
theorem kd_Ps_take_75 : decode kc_Ps_take 75 = .ok (.getfield 19, 3) := by decide +kernel
theorem kd_Ps_take_78 : decode kc_Ps_take 78 = .ok (.ifCond .ne 41, 3) := by decide +kernel
theorem kd_Ps_take_81 : decode kc_Ps_take 81 = .ok (.aload_n 0, 1) := by decide +kernel
theorem kd_Ps_take_82 : decode kc_Ps_take 82 = .ok (.aload_n 0, 1) := by decide +kernel
theorem kd_Ps_take_83 : decode kc_Ps_take 83 = .ok (.getfield 32, 3) := by decide +kernel
theorem kd_Ps_take_86 : decode kc_Ps_take 86 = .ok (.bipush 7, 2) := by decide +kernel
theorem kd_Ps_take_88 : decode kc_Ps_take 88 = .ok (.if_icmp .ne 18, 3) := by decide +kernel
theorem kd_Ps_take_91 : decode kc_Ps_take 91 = .ok (.aload_n 0, 1) := by decide +kernel
theorem kd_Ps_take_92 : decode kc_Ps_take 92 = .ok (.getfield 9, 3) := by decide +kernel
theorem kd_Ps_take_95 : decode kc_Ps_take 95 = .ok (.getfield 61, 3) := by decide +kernel
theorem kd_Ps_take_98 : decode kc_Ps_take 98 = .ok (.aload_n 0, 1) := by decide +kernel
theorem kd_Ps_take_99 : decode kc_Ps_take 99 = .ok (.getfield 23, 3) := by decide +kernel
theorem kd_Ps_take_102 : decode kc_Ps_take 102 = .ok (.iaload, 1) := by decide +kernel
theorem kd_Ps_take_103 : decode kc_Ps_take 103 = .ok (.goto 5, 3) := by decide +kernel
theorem kd_Ps_take_106 : decode kc_Ps_take 106 = .ok (.bipush 6, 2) := by decide +kernel
theorem kd_Ps_take_108 : decode kc_Ps_take 108 = .ok (.putfield 19, 3) := by decide +kernel
theorem kd_Ps_take_111 : decode kc_Ps_take 111 = .ok (.aload_n 0, 1) := by decide +kernel
theorem kd_Ps_take_112 : decode kc_Ps_take 112 = .ok (.aload_n 0, 1) := by decide +kernel
theorem kd_Ps_take_113 : decode kc_Ps_take 113 = .ok (.getfield 38, 3) := by decide +kernel
theorem kd_Ps_take_116 : decode kc_Ps_take 116 = .ok (.putfield 65, 3) := by decide +kernel
theorem kd_Ps_take_119 : decode kc_Ps_take 119 = .ok (.aload_n 0, 1) := by decide +kernel
theorem kd_Ps_take_120 : decode kc_Ps_take 120 = .ok (.iconst 0, 1) := by decide +kernel
theorem kd_Ps_take_121 : decode kc_Ps_take 121 = .ok (.putfield 32, 3) := by decide +kernel
theorem kd_Ps_take_124 : decode kc_Ps_take 124 = .ok (.return_, 1) := by decide +kernel
theorem kd_Ps_type_0 : decode kc_Ps_type 0 = .ok (.aload_n 0, 1) := by decide +kernel
theorem kd_Ps_type_1 : decode kc_Ps_type 1 = .ok (.getfield 32, 3) := by decide +kernel
theorem kd_Ps_type_4 : decode kc_Ps_type 4 = .ok (.bipush 8, 2) := by decide +kernel
theorem kd_Ps_type_6 : decode kc_Ps_type 6 = .ok (.if_icmp .ne 37, 3) := by decide +kernel
theorem kd_Ps_type_9 : decode kc_Ps_type 9 = .ok (.aload_n 0, 1) := by decide +kernel
theorem kd_Ps_type_10 : decode kc_Ps_type 10 = .ok (.getfield 15, 3) := by decide +kernel
theorem kd_Ps_type_13 : decode kc_Ps_type 13 = .ok (.bipush 10, 2) := by decide +kernel
theorem kd_Ps_type_15 : decode kc_Ps_type 15 = .ok (.aload_n 0, 1) := by decide +kernel
theorem kd_Ps_type_16 : decode kc_Ps_type 16 = .ok (.getfield 38, 3) := by decide +kernel
theorem kd_Ps_type_19 : decode kc_Ps_type 19 = .ok (.aload_n 0, 1) := by decide +kernel
theorem kd_Ps_type_20 : decode kc_Ps_type 20 = .ok (.getfield 9, 3) := by decide +kernel
theorem kd_Ps_type_23 : decode kc_Ps_type 23 = .ok (.getfield 61, 3) := by decide +kernel
theorem kd_Ps_type_26 : decode kc_Ps_type 26 = .ok (.aload_n 0, 1) := by decide +kernel
theorem kd_Ps_type_27 : decode kc_Ps_type 27 = .ok (.getfield 23, 3) := by decide +kernel
theorem kd_Ps_type_30 : decode kc_Ps_type 30 = .ok (.iaload, 1) := by decide +kernel
theorem kd_Ps_type_31 : decode kc_Ps_type 31 = .ok (.invokevirtual 49, 3) := by decide +kernel
theorem kd_Ps_type_34 : decode kc_Ps_type 34 = .ok (.istore_n 1, 1) := by decide +kernel
theorem kd_Ps_type_35 : decode kc_Ps_type 35 = .ok (.aload_n 0, 1) := by decide +kernel
theorem kd_Ps_type_36 : decode kc_Ps_type 36 = .ok (.bipush 8, 2) := by decide +kernel
theorem kd_Ps_type_38 : decode kc_Ps_type 38 = .ok (.invokevirtual 68, 3) := by decide +kernel
theorem kd_Ps_type_41 : decode kc_Ps_type 41 = .ok (.iload_n 1, 1) := by decide +kernel
theorem kd_Ps_type_42 : decode kc_Ps_type 42 = .ok (.ireturn, 1) := by decide +kernel
theorem kd_Ps_type_43 : decode kc_Ps_type 43 = .ok (.aload_n 0, 1) := by decide +kernel
theorem kd_Ps_type_44 : decode kc_Ps_type 44 = .ok (.getfield 32, 3) := by decide +kernel
theorem kd_Ps_type_47 : decode kc_Ps_type 47 = .ok (.sipush 142, 3) := by decide +kernel
theorem kd_Ps_type_50 : decode kc_Ps_type 50 = .ok (.if_icmp .eq 8, 3) := by decide +kernel
theorem kd_Ps_type_53 : decode kc_Ps_type 53 = .ok (.aload_n 0, 1) := by decide +kernel
theorem kd_Ps_type_54 : decode kc_Ps_type 54 = .ok (.invokevirtual 73, 3) := by decide +kernel
theorem kd_Ps_type_57 : decode kc_Ps_type 57 = .ok (.ireturn, 1) := by decide +kernel
theorem kd_Ps_type_58 : decode kc_Ps_type 58 = .ok (.aload_n 0, 1) := by decide +kernel
theorem kd_Ps_type_59 : decode kc_Ps_type 59 = .ok (.getfield 15, 3) := by decide +kernel
theorem kd_Ps_type_62 : decode kc_Ps_type 62 = .ok (.bipush 9, 2) := by decide +kernel
theorem kd_Ps_type_64 : decode kc_Ps_type 64 = .ok (.aload_n 0, 1) := by decide +kernel
theorem kd_Ps_type_65 : decode kc_Ps_type 65 = .ok (.getfield 38, 3) := by decide +kernel
theorem kd_Ps_type_68 : decode kc_Ps_type 68 = .ok (.iconst 0, 1) := by decide +kernel
theorem kd_Ps_type_69 : decode kc_Ps_type 69 = .ok (.invokevirtual 49, 3) := by decide +kernel
theorem kd_Ps_type_72 : decode kc_Ps_type 72 = .ok (.istore_n 1, 1) := by decide +kernel
theorem kd_Ps_type_73 : decode kc_Ps_type 73 = .ok (.aload_n 0, 1) := by decide +kernel
theorem kd_Ps_type_74 : decode kc_Ps_type 74 = .ok (.sipush 142, 3) := by decide +kernel
theorem kd_Ps_type_77 : decode kc_Ps_type 77 = .ok (.invokevirtual 68, 3) := by decide +kernel
theorem kd_Ps_type_80 : decode kc_Ps_type 80 = .ok (.aload_n 0, 1) := by decide +kernel
theorem kd_Ps_type_81 : decode kc_Ps_type 81 = .ok (.bipush 91, 2) := by decide +kernel
theorem kd_Ps_type_83 : decode kc_Ps_type 83 = .ok (.invokevirtual 68, 3) := by decide +kernel
theorem kd_Ps_type_86 : decode kc_Ps_type 86 = .ok (.aload_n 0, 1) := by decide +kernel
theorem kd_Ps_type_87 : decode kc_Ps_type 87 = .ok (.getfield 15, 3) := by decide +kernel
theorem kd_Ps_type_90 : decode kc_Ps_type 90 = .ok (.iload_n 1, 1) := by decide +kernel
theorem kd_Ps_type_91 : decode kc_Ps_type 91 = .ok (.iconst (-1), 1) := by decide +kernel
theorem kd_Ps_type_92 : decode kc_Ps_type 92 = .ok (.aload_n 0, 1) := by decide +kernel
theorem kd_Ps_type_93 : decode kc_Ps_type 93 = .ok (.invokevirtual 95, 3) := by decide +kernel
theorem kd_Ps_type_96 : decode kc_Ps_type 96 = .ok (.invokevirtual 57, 3) := by decide +kernel
theorem kd_Ps_type_99 : decode kc_Ps_type 99 = .ok (.istore_n 2, 1) := by decide +kernel
theorem kd_Ps_type_100 : decode kc_Ps_type 100 = .ok (.aload_n 0, 1) := by decide +kernel
theorem kd_Ps_type_101 : decode kc_Ps_type 101 = .ok (.iconst 2, 1) := by decide +kernel
theorem kd_Ps_type_102 : decode kc_Ps_type 102 = .ok (.invokevirtual 68, 3) := by decide +kernel
theorem kd_Ps_type_105 : decode kc_Ps_type 105 = .ok (.aload_n 0, 1) := by decide +kernel
theorem kd_Ps_type_106 : decode kc_Ps_type 106 = .ok (.getfield 15, 3) := by decide +kernel
theorem kd_Ps_type_109 : decode kc_Ps_type 109 = .ok (.iload_n 1, 1) := by decide +kernel
theorem kd_Ps_type_110 : decode kc_Ps_type 110 = .ok (.iload_n 2, 1) := by decide +kernel
theorem kd_Ps_type_111 : decode kc_Ps_type 111 = .ok (.aload_n 0, 1) := by decide +kernel
theorem kd_Ps_type_112 : decode kc_Ps_type 112 = .ok (.invokevirtual 95, 3) := by decide +kernel
theorem kd_Ps_type_115 : decode kc_Ps_type 115 = .ok (.invokevirtual 57, 3) := by decide +kernel
theorem kd_Ps_type_118 : decode kc_Ps_type 118 = .ok (.istore_n 2, 1) := by decide +kernel
theorem kd_Ps_type_119 : decode kc_Ps_type 119 = .ok (.aload_n 0, 1) := by decide +kernel
theorem kd_Ps_type_120 : decode kc_Ps_type 120 = .ok (.bipush 93, 2) := by decide +kernel
theorem kd_Ps_type_122 : decode kc_Ps_type 122 = .ok (.invokevirtual 68, 3) := by decide +kernel
theorem kd_Ps_type_125 : decode kc_Ps_type 125 = .ok (.aload_n 0, 1) := by decide +kernel
theorem kd_Ps_type_126 : decode kc_Ps_type 126 = .ok (.sipush 143, 3) := by decide +kernel
theorem kd_Ps_type_129 : decode kc_Ps_type 129 = .ok (.invokevirtual 68, 3) := by decide +kernel
theorem kd_Ps_type_132 : decode kc_Ps_type 132 = .ok (.aload_n 0, 1) := by decide +kernel
theorem kd_Ps_type_133 : decode kc_Ps_type 133 = .ok (.getfield 15, 3) := by decide +kernel
theorem kd_Ps_type_136 : decode kc_Ps_type 136 = .ok (.iload_n 1, 1) := by decide +kernel
theorem kd_Ps_type_137 : decode kc_Ps_type 137 = .ok (.iload_n 2, 1) := by decide +kernel
theorem kd_Ps_type_138 : decode kc_Ps_type 138 = .ok (.aload_n 0, 1) := by decide +kernel
theorem kd_Ps_type_139 : decode kc_Ps_type 139 = .ok (.invokevirtual 73, 3) := by decide +kernel
theorem kd_Ps_type_142 : decode kc_Ps_type 142 = .ok (.invokevirtual 57, 3) := by decide +kernel
theorem kd_Ps_type_145 : decode kc_Ps_type 145 = .ok (.pop, 1) := by decide +kernel
theorem kd_Ps_type_146 : decode kc_Ps_type 146 = .ok (.iload_n 1, 1) := by decide +kernel
theorem kd_Ps_type_147 : decode kc_Ps_type 147 = .ok (.ireturn, 1) := by decide +kernel
theorem kd_Tk_read_0 : decode kc_Tk_read 0 = .ok (.aload_n 0, 1) := by decide +kernel
theorem kd_Tk_read_1 : decode kc_Tk_read 1 = .ok (.aload_n 1, 1) := by decide +kernel
theorem kd_Tk_read_2 : decode kc_Tk_read 2 = .ok (.putfield 26, 3) := by decide +kernel
theorem kd_Tk_read_5 : decode kc_Tk_read 5 = .ok (.aload_n 0, 1) := by decide +kernel
theorem kd_Tk_read_6 : decode kc_Tk_read 6 = .ok (.iload_n 2, 1) := by decide +kernel
theorem kd_Tk_read_7 : decode kc_Tk_read 7 = .ok (.putfield 30, 3) := by decide +kernel
theorem kd_Tk_read_10 : decode kc_Tk_read 10 = .ok (.aload_n 0, 1) := by decide +kernel
theorem kd_Tk_read_11 : decode kc_Tk_read 11 = .ok (.iconst 0, 1) := by decide +kernel
theorem kd_Tk_read_12 : decode kc_Tk_read 12 = .ok (.putfield 34, 3) := by decide +kernel
theorem kd_Tk_read_15 : decode kc_Tk_read 15 = .ok (.aload_n 0, 1) := by decide +kernel
theorem kd_Tk_read_16 : decode kc_Tk_read 16 = .ok (.iconst 0, 1) := by decide +kernel
theorem kd_Tk_read_17 : decode kc_Tk_read 17 = .ok (.putfield 37, 3) := by decide +kernel
theorem kd_Tk_read_20 : decode kc_Tk_read 20 = .ok (.iconst 1, 1) := by decide +kernel
theorem kd_Tk_read_21 : decode kc_Tk_read 21 = .ok (.istore_n 3, 1) := by decide +kernel
theorem kd_Tk_read_22 : decode kc_Tk_read 22 = .ok (.iconst 0, 1) := by decide +kernel
theorem kd_Tk_read_23 : decode kc_Tk_read 23 = .ok (.istore 4, 2) := by decide +kernel
theorem kd_Tk_read_25 : decode kc_Tk_read 25 = .ok (.iload 4, 2) := by decide +kernel
theorem kd_Tk_read_27 : decode kc_Tk_read 27 = .ok (.sipush 16384, 3) := by decide +kernel
theorem kd_Tk_read_30 : decode kc_Tk_read 30 = .ok (.if_icmp .gt 33, 3) := by decide +kernel
theorem kd_Tk_read_33 : decode kc_Tk_read 33 = .ok (.iload_n 3, 1) := by decide +kernel
theorem kd_Tk_read_34 : decode kc_Tk_read 34 = .ok (.ifCond .eq 29, 3) := by decide +kernel
theorem kd_Tk_read_37 : decode kc_Tk_read 37 = .ok (.aload_n 0, 1) := by decide +kernel
theorem kd_Tk_read_38 : decode kc_Tk_read 38 = .ok (.invokevirtual 40, 3) := by decide +kernel
theorem kd_Tk_read_41 : decode kc_Tk_read 41 = .ok (.ifCond .eq 14, 3) := by decide +kernel
theorem kd_Tk_read_44 : decode kc_Tk_read 44 = .ok (.aload_n 0, 1) := by decide +kernel
theorem kd_Tk_read_45 : decode kc_Tk_read 45 = .ok (.invokevirtual 44, 3) := by decide +kernel
theorem kd_Tk_read_48 : decode kc_Tk_read 48 = .ok (.ifCond .eq 7, 3) := by decide +kernel
theorem kd_Tk_read_51 : decode kc_Tk_read 51 = .ok (.iconst 1, 1) := by decide +kernel
theorem kd_Tk_read_52 : decode kc_Tk_read 52 = .ok (.goto 4, 3) := by decide +kernel
theorem kd_Tk_read_55 : decode kc_Tk_read 55 = .ok (.iconst 0, 1) := by decide +kernel
theorem kd_Tk_read_56 : decode kc_Tk_read 56 = .ok (.istore_n 3, 1) := by decide +kernel
theorem kd_Tk_read_57 : decode kc_Tk_read 57 = .ok (.iinc 4 1, 3) := by decide +kernel
theorem kd_Tk_read_60 : decode kc_Tk_read 60 = .ok (.goto (-35), 3) := by decide +kernel
theorem kd_Tk_read_63 : decode kc_Tk_read 63 = .ok (.return_, 1) := by decide +kernel
theorem kd_Tk_readNumber_0 : decode kc_Tk_readNumber 0 = .ok (.aload_n 0, 1) := by decide +kernel
theorem kd_Tk_readNumber_1 : decode kc_Tk_readNumber 1 = .ok (.aload_n 0, 1) := by decide +kernel
theorem kd_Tk_readNumber_2 : decode kc_Tk_readNumber 2 = .ok (.getfield 34, 3) := by decide +kernel
theorem kd_Tk_readNumber_5 : decode kc_Tk_readNumber 5 = .ok (.bipush 10, 2) := by decide +kernel
theorem kd_Tk_readNumber_7 : decode kc_Tk_readNumber 7 = .ok (.invokevirtual 107, 3) := by decide +kernel
theorem kd_Tk_readNumber_10 : decode kc_Tk_readNumber 10 = .ok (.istore_n 1, 1) := by decide +kernel
theorem kd_Tk_readNumber_11 : decode kc_Tk_readNumber 11 = .ok (.aload_n 0, 1) := by decide +kernel
theorem kd_Tk_readNumber_12 : decode kc_Tk_readNumber 12 = .ok (.aload_n 0, 1) := by decide +kernel
theorem kd_Tk_readNumber_13 : decode kc_Tk_readNumber 13 = .ok (.getfield 34, 3) := by decide +kernel
theorem kd_Tk_readNumber_16 : decode kc_Tk_readNumber 16 = .ok (.iload_n 1, 1) := by decide +kernel
theorem kd_Tk_readNumber_17 : decode kc_Tk_readNumber 17 = .ok (.bipush 10, 2) := by decide +kernel
theorem kd_Tk_readNumber_19 : decode kc_Tk_readNumber 19 = .ok (.invokevirtual 111, 3) := by decide +kernel
theorem kd_Tk_readNumber_22 : decode kc_Tk_readNumber 22 = .ok (.lstore_n 2, 1) := by decide +kernel
theorem kd_Tk_readNumber_23 : decode kc_Tk_readNumber 23 = .ok (.aload_n 0, 1) := by decide +kernel
theorem kd_Tk_readNumber_24 : decode kc_Tk_readNumber 24 = .ok (.iload_n 1, 1) := by decide +kernel
theorem kd_Tk_readNumber_25 : decode kc_Tk_readNumber 25 = .ok (.invokevirtual 51, 3) := by decide +kernel
theorem kd_Tk_readNumber_28 : decode kc_Tk_readNumber 28 = .ok (.bipush 35, 2) := by decide +kernel
theorem kd_Tk_readNumber_30 : decode kc_Tk_readNumber 30 = .ok (.if_icmp .eq 10, 3) := by decide +kernel
theorem kd_Tk_readNumber_33 : decode kc_Tk_readNumber 33 = .ok (.aload_n 0, 1) := by decide +kernel
theorem kd_Tk_readNumber_34 : decode kc_Tk_readNumber 34 = .ok (.iload_n 1, 1) := by decide +kernel
theorem kd_Tk_readNumber_35 : decode kc_Tk_readNumber 35 = .ok (.lload_n 2, 1) := by decide +kernel
theorem kd_Tk_readNumber_36 : decode kc_Tk_readNumber 36 = .ok (.invokevirtual 115, 3) := by decide +kernel
theorem kd_Tk_readNumber_39 : decode kc_Tk_readNumber 39 = .ok (.ireturn, 1) := by decide +kernel
theorem kd_Tk_readNumber_40 : decode kc_Tk_readNumber 40 = .ok (.lload_n 2, 1) := by decide +kernel
theorem kd_Tk_readNumber_41 : decode kc_Tk_readNumber 41 = .ok (.ldc2_w 119, 3) := by decide +kernel
theorem kd_Tk_readNumber_44 : decode kc_Tk_readNumber 44 = .ok (.lcmp, 1) := by decide +kernel
theorem kd_Tk_readNumber_45 : decode kc_Tk_readNumber 45 = .ok (.ifCond .eq 17, 3) := by decide +kernel
theorem kd_Tk_readNumber_48 : decode kc_Tk_readNumber 48 = .ok (.lload_n 2, 1) := by decide +kernel
theorem kd_Tk_readNumber_49 : decode kc_Tk_readNumber 49 = .ok (.ldc2_w 121, 3) := by decide +kernel
theorem kd_Tk_readNumber_52 : decode kc_Tk_readNumber 52 = .ok (.lcmp, 1) := by decide +kernel
theorem kd_Tk_readNumber_53 : decode kc_Tk_readNumber 53 = .ok (.ifCond .eq 9, 3) := by decide +kernel
theorem kd_Tk_readNumber_56 : decode kc_Tk_readNumber 56 = .ok (.aload_n 0, 1) := by decide +kernel
theorem kd_Tk_readNumber_57 : decode kc_Tk_readNumber 57 = .ok (.iconst 4, 1) := by decide +kernel
theorem kd_Tk_readNumber_58 : decode kc_Tk_readNumber 58 = .ok (.invokevirtual 58, 3) := by decide +kernel
theorem kd_Tk_readNumber_61 : decode kc_Tk_readNumber 61 = .ok (.ireturn, 1) := by decide +kernel
theorem kd_Tk_readNumber_62 : decode kc_Tk_readNumber 62 = .ok (.lload_n 2, 1) := by decide +kernel
theorem kd_Tk_readNumber_63 : decode kc_Tk_readNumber 63 = .ok (.l2i, 1) := by decide +kernel
theorem kd_Tk_readNumber_64 : decode kc_Tk_readNumber 64 = .ok (.istore 4, 2) := by decide +kernel
theorem kd_Tk_readNumber_66 : decode kc_Tk_readNumber 66 = .ok (.iload_n 1, 1) := by decide +kernel
theorem kd_Tk_readNumber_67 : decode kc_Tk_readNumber 67 = .ok (.iconst 1, 1) := by decide +kernel
theorem kd_Tk_readNumber_68 : decode kc_Tk_readNumber 68 = .ok (.iadd, 1) := by decide +kernel
theorem kd_Tk_readNumber_69 : decode kc_Tk_readNumber 69 = .ok (.istore 5, 2) := by decide +kernel
theorem kd_Tk_readNumber_71 : decode kc_Tk_readNumber 71 = .ok (.aload_n 0, 1) := by decide +kernel
theorem kd_Tk_readNumber_72 : decode kc_Tk_readNumber 72 = .ok (.iload 5, 2) := by decide +kernel
theorem kd_Tk_readNumber_74 : decode kc_Tk_readNumber 74 = .ok (.iload 4, 2) := by decide +kernel
theorem kd_Tk_readNumber_76 : decode kc_Tk_readNumber 76 = .ok (.invokevirtual 107, 3) := by decide +kernel
theorem kd_Tk_readNumber_79 : decode kc_Tk_readNumber 79 = .ok (.istore_n 1, 1) := by decide +kernel
theorem kd_Tk_readNumber_80 : decode kc_Tk_readNumber 80 = .ok (.iload_n 1, 1) := by decide +kernel
theorem kd_Tk_readNumber_81 : decode kc_Tk_readNumber 81 = .ok (.iload 5, 2) := by decide +kernel
theorem kd_Tk_readNumber_83 : decode kc_Tk_readNumber 83 = .ok (.if_icmp .ne 11, 3) := by decide +kernel
theorem kd_Tk_readNumber_86 : decode kc_Tk_readNumber 86 = .ok (.aload_n 0, 1) := by decide +kernel
theorem kd_Tk_readNumber_87 : decode kc_Tk_readNumber 87 = .ok (.iconst 4, 1) := by decide +kernel
theorem kd_Tk_readNumber_88 : decode kc_Tk_readNumber 88 = .ok (.invokevirtual 58, 3) := by decide +kernel
theorem kd_Tk_readNumber_91 : decode kc_Tk_readNumber 91 = .ok (.goto 17, 3) := by decide +kernel
theorem kd_Tk_readNumber_94 : decode kc_Tk_readNumber 94 = .ok (.aload_n 0, 1) := by decide +kernel
theorem kd_Tk_readNumber_95 : decode kc_Tk_readNumber 95 = .ok (.iload_n 1, 1) := by decide +kernel
theorem kd_Tk_readNumber_96 : decode kc_Tk_readNumber 96 = .ok (.aload_n 0, 1) := by decide +kernel
theorem kd_Tk_readNumber_97 : decode kc_Tk_readNumber 97 = .ok (.iload 5, 2) := by decide +kernel
theorem kd_Tk_readNumber_99 : decode kc_Tk_readNumber 99 = .ok (.iload_n 1, 1) := by decide +kernel
theorem kd_Tk_readNumber_100 : decode kc_Tk_readNumber 100 = .ok (.iload 4, 2) := by decide +kernel
theorem kd_Tk_readNumber_102 : decode kc_Tk_readNumber 102 = .ok (.invokevirtual 111, 3) := by decide +kernel
theorem kd_Tk_readNumber_105 : decode kc_Tk_readNumber 105 = .ok (.invokevirtual 115, 3) := by decide +kernel
theorem kd_Tk_readNumber_108 : decode kc_Tk_readNumber 108 = .ok (.ireturn, 1) := by decide +kernel
theorem kd_Tk_readPlace_0 : decode kc_Tk_readPlace 0 = .ok (.ldc 127, 2) := by decide +kernel
theorem kd_Tk_readPlace_2 : decode kc_Tk_readPlace 2 = .ok (.iconst 0, 1) := by decide +kernel
theorem kd_Tk_readPlace_3 : decode kc_Tk_readPlace 3 = .ok (.aload_n 0, 1) := by decide +kernel
theorem kd_Tk_readPlace_4 : decode kc_Tk_readPlace 4 = .ok (.aload_n 0, 1) := by decide +kernel
theorem kd_Tk_readPlace_5 : decode kc_Tk_readPlace 5 = .ok (.getfield 34, 3) := by decide +kernel
theorem kd_Tk_readPlace_8 : decode kc_Tk_readPlace 8 = .ok (.iconst 1, 1) := by decide +kernel
theorem kd_Tk_readPlace_9 : decode kc_Tk_readPlace 9 = .ok (.iadd, 1) := by decide +kernel
theorem kd_Tk_readPlace_10 : decode kc_Tk_readPlace 10 = .ok (.invokevirtual 51, 3) := by decide +kernel
theorem kd_Tk_readPlace_13 : decode kc_Tk_readPlace 13 = .ok (.invokestatic 129, 3) := by decide +kernel
theorem kd_Tk_readPlace_16 : decode kc_Tk_readPlace 16 = .ok (.invokestatic 93, 3) := by decide +kernel
theorem kd_Tk_readPlace_19 : decode kc_Tk_readPlace 19 = .ok (.i2c, 1) := by decide +kernel
theorem kd_Tk_readPlace_20 : decode kc_Tk_readPlace 20 = .ok (.invokevirtual 132, 3) := by decide +kernel
theorem kd_Tk_readPlace_23 : decode kc_Tk_readPlace 23 = .ok (.istore_n 1, 1) := by decide +kernel
theorem kd_Tk_readPlace_24 : decode kc_Tk_readPlace 24 = .ok (.ldc 137, 2) := by decide +kernel
theorem kd_Tk_readPlace_26 : decode kc_Tk_readPlace 26 = .ok (.iconst 0, 1) := by decide +kernel
theorem kd_Tk_readPlace_27 : decode kc_Tk_readPlace 27 = .ok (.aload_n 0, 1) := by decide +kernel
theorem kd_Tk_readPlace_28 : decode kc_Tk_readPlace 28 = .ok (.aload_n 0, 1) := by decide +kernel
theorem kd_Tk_readPlace_29 : decode kc_Tk_readPlace 29 = .ok (.getfield 34, 3) := by decide +kernel
theorem kd_Tk_readPlace_32 : decode kc_Tk_readPlace 32 = .ok (.iconst 2, 1) := by decide +kernel
theorem kd_Tk_readPlace_33 : decode kc_Tk_readPlace 33 = .ok (.iadd, 1) := by decide +kernel
theorem kd_Tk_readPlace_34 : decode kc_Tk_readPlace 34 = .ok (.invokevirtual 51, 3) := by decide +kernel
theorem kd_Tk_readPlace_37 : decode kc_Tk_readPlace 37 = .ok (.invokestatic 129, 3) := by decide +kernel
theorem kd_Tk_readPlace_40 : decode kc_Tk_readPlace 40 = .ok (.invokestatic 93, 3) := by decide +kernel
theorem kd_Tk_readPlace_43 : decode kc_Tk_readPlace 43 = .ok (.i2c, 1) := by decide +kernel
theorem kd_Tk_readPlace_44 : decode kc_Tk_readPlace 44 = .ok (.invokevirtual 132, 3) := by decide +kernel
theorem kd_Tk_readPlace_47 : decode kc_Tk_readPlace 47 = .ok (.istore_n 2, 1) := by decide +kernel
theorem kd_Tk_readPlace_48 : decode kc_Tk_readPlace 48 = .ok (.aload_n 0, 1) := by decide +kernel
theorem kd_Tk_readPlace_49 : decode kc_Tk_readPlace 49 = .ok (.aload_n 0, 1) := by decide +kernel
theorem kd_Tk_readPlace_50 : decode kc_Tk_readPlace 50 = .ok (.getfield 34, 3) := by decide +kernel
theorem kd_Tk_readPlace_53 : decode kc_Tk_readPlace 53 = .ok (.iconst 3, 1) := by decide +kernel
theorem kd_Tk_readPlace_54 : decode kc_Tk_readPlace 54 = .ok (.iadd, 1) := by decide +kernel
theorem kd_Tk_readPlace_55 : decode kc_Tk_readPlace 55 = .ok (.bipush 10, 2) := by decide +kernel
theorem kd_Tk_readPlace_57 : decode kc_Tk_readPlace 57 = .ok (.invokevirtual 107, 3) := by decide +kernel
theorem kd_Tk_readPlace_60 : decode kc_Tk_readPlace 60 = .ok (.istore_n 3, 1) := by decide +kernel
theorem kd_Tk_readPlace_61 : decode kc_Tk_readPlace 61 = .ok (.iload_n 1, 1) := by decide +kernel
theorem kd_Tk_readPlace_62 : decode kc_Tk_readPlace 62 = .ok (.ifCond .lt 28, 3) := by decide +kernel
theorem kd_Tk_readPlace_65 : decode kc_Tk_readPlace 65 = .ok (.iload_n 2, 1) := by decide +kernel
theorem kd_Tk_readPlace_66 : decode kc_Tk_readPlace 66 = .ok (.ifCond .lt 24, 3) := by decide +kernel
theorem kd_Tk_readPlace_69 : decode kc_Tk_readPlace 69 = .ok (.iload_n 3, 1) := by decide +kernel
theorem kd_Tk_readPlace_70 : decode kc_Tk_readPlace 70 = .ok (.aload_n 0, 1) := by decide +kernel
theorem kd_Tk_readPlace_71 : decode kc_Tk_readPlace 71 = .ok (.getfield 34, 3) := by decide +kernel
theorem kd_Tk_readPlace_74 : decode kc_Tk_readPlace 74 = .ok (.iconst 3, 1) := by decide +kernel
theorem kd_Tk_readPlace_75 : decode kc_Tk_readPlace 75 = .ok (.iadd, 1) := by decide +kernel
theorem kd_Tk_readPlace_76 : decode kc_Tk_readPlace 76 = .ok (.if_icmp .eq 14, 3) := by decide +kernel
theorem kd_Tk_readPlace_79 : decode kc_Tk_readPlace 79 = .ok (.aload_n 0, 1) := by decide +kernel
theorem kd_Tk_readPlace_80 : decode kc_Tk_readPlace 80 = .ok (.iload_n 3, 1) := by decide +kernel
theorem kd_Tk_readPlace_81 : decode kc_Tk_readPlace 81 = .ok (.invokevirtual 51, 3) := by decide +kernel
theorem kd_Tk_readPlace_84 : decode kc_Tk_readPlace 84 = .ok (.invokestatic 82, 3) := by decide +kernel
theorem kd_Tk_readPlace_87 : decode kc_Tk_readPlace 87 = .ok (.ifCond .eq 9, 3) := by decide +kernel
theorem kd_Tk_readPlace_90 : decode kc_Tk_readPlace 90 = .ok (.aload_n 0, 1) := by decide +kernel
theorem kd_Tk_readPlace_91 : decode kc_Tk_readPlace 91 = .ok (.iconst 5, 1) := by decide +kernel
theorem kd_Tk_readPlace_92 : decode kc_Tk_readPlace 92 = .ok (.invokevirtual 58, 3) := by decide +kernel
theorem kd_Tk_readPlace_95 : decode kc_Tk_readPlace 95 = .ok (.ireturn, 1) := by decide +kernel
theorem kd_Tk_readPlace_96 : decode kc_Tk_readPlace 96 = .ok (.aload_n 0, 1) := by decide +kernel
theorem kd_Tk_readPlace_97 : decode kc_Tk_readPlace 97 = .ok (.aload_n 0, 1) := by decide +kernel
theorem kd_Tk_readPlace_98 : decode kc_Tk_readPlace 98 = .ok (.getfield 34, 3) := by decide +kernel
theorem kd_Tk_readPlace_101 : decode kc_Tk_readPlace 101 = .ok (.iconst 3, 1) := by decide +kernel
theorem kd_Tk_readPlace_102 : decode kc_Tk_readPlace 102 = .ok (.iadd, 1) := by decide +kernel
theorem kd_Tk_readPlace_103 : decode kc_Tk_readPlace 103 = .ok (.iload_n 3, 1) := by decide +kernel
theorem kd_Tk_readPlace_104 : decode kc_Tk_readPlace 104 = .ok (.bipush 10, 2) := by decide +kernel
theorem kd_Tk_readPlace_106 : decode kc_Tk_readPlace 106 = .ok (.invokevirtual 111, 3) := by decide +kernel
theorem kd_Tk_readPlace_109 : decode kc_Tk_readPlace 109 = .ok (.lstore 4, 2) := by decide +kernel
theorem kd_Tk_readPlace_111 : decode kc_Tk_readPlace 111 = .ok (.lload 4, 2) := by decide +kernel
theorem kd_Tk_readPlace_113 : decode kc_Tk_readPlace 113 = .ok (.iload_n 2, 1) := by decide +kernel
theorem kd_Tk_readPlace_114 : decode kc_Tk_readPlace 114 = .ok (.ifCond .ne 9, 3) := by decide +kernel
theorem kd_Tk_readPlace_117 : decode kc_Tk_readPlace 117 = .ok (.sipush 255, 3) := by decide +kernel
theorem kd_Tk_readPlace_120 : decode kc_Tk_readPlace 120 = .ok (.goto 5, 3) := by decide +kernel
theorem kd_Tk_readPlace_123 : decode kc_Tk_readPlace 123 = .ok (.bipush 63, 2) := by decide +kernel
theorem kd_Tk_readPlace_125 : decode kc_Tk_readPlace 125 = .ok (.i2l, 1) := by decide +kernel
theorem kd_Tk_readPlace_126 : decode kc_Tk_readPlace 126 = .ok (.lcmp, 1) := by decide +kernel
theorem kd_Tk_readPlace_127 : decode kc_Tk_readPlace 127 = .ok (.ifCond .le 9, 3) := by decide +kernel
theorem kd_Tk_readPlace_130 : decode kc_Tk_readPlace 130 = .ok (.aload_n 0, 1) := by decide +kernel
theorem kd_Tk_readPlace_131 : decode kc_Tk_readPlace 131 = .ok (.iconst 5, 1) := by decide +kernel
theorem kd_Tk_readPlace_132 : decode kc_Tk_readPlace 132 = .ok (.invokevirtual 58, 3) := by decide +kernel
theorem kd_Tk_readPlace_135 : decode kc_Tk_readPlace 135 = .ok (.ireturn, 1) := by decide +kernel
theorem kd_Tk_readPlace_136 : decode kc_Tk_readPlace 136 = .ok (.aload_n 0, 1) := by decide +kernel
theorem kd_Tk_readPlace_137 : decode kc_Tk_readPlace 137 = .ok (.bipush 10, 2) := by decide +kernel
theorem kd_Tk_readPlace_139 : decode kc_Tk_readPlace 139 = .ok (.iload_n 3, 1) := by decide +kernel
theorem kd_Tk_readPlace_140 : decode kc_Tk_readPlace 140 = .ok (.sipush 256, 3) := by decide +kernel
theorem kd_Tk_readPlace_143 : decode kc_Tk_readPlace 143 = .ok (.iload_n 1, 1) := by decide +kernel
theorem kd_Tk_readPlace_144 : decode kc_Tk_readPlace 144 = .ok (.iconst 3, 1) := by decide +kernel
theorem kd_Tk_readPlace_145 : decode kc_Tk_readPlace 145 = .ok (.iload_n 2, 1) := by decide +kernel
theorem kd_Tk_readPlace_146 : decode kc_Tk_readPlace 146 = .ok (.imul, 1) := by decide +kernel
theorem kd_Tk_readPlace_147 : decode kc_Tk_readPlace 147 = .ok (.iadd, 1) := by decide +kernel
theorem kd_Tk_readPlace_148 : decode kc_Tk_readPlace 148 = .ok (.imul, 1) := by decide +kernel
theorem kd_Tk_readPlace_149 : decode kc_Tk_readPlace 149 = .ok (.lload 4, 2) := by decide +kernel
theorem kd_Tk_readPlace_151 : decode kc_Tk_readPlace 151 = .ok (.l2i, 1) := by decide +kernel
theorem kd_Tk_readPlace_152 : decode kc_Tk_readPlace 152 = .ok (.iadd, 1) := by decide +kernel
theorem kd_Tk_readPlace_153 : decode kc_Tk_readPlace 153 = .ok (.invokevirtual 89, 3) := by decide +kernel
theorem kd_Tk_readPlace_156 : decode kc_Tk_readPlace 156 = .ok (.ireturn, 1) := by decide +kernel
theorem kd_Tk_readSign_0 : decode kc_Tk_readSign 0 = .ok (.aload_n 0, 1) := by decide +kernel
theorem kd_Tk_readSign_1 : decode kc_Tk_readSign 1 = .ok (.aload_n 0, 1) := by decide +kernel
theorem kd_Tk_readSign_2 : decode kc_Tk_readSign 2 = .ok (.getfield 34, 3) := by decide +kernel
theorem kd_Tk_readSign_5 : decode kc_Tk_readSign 5 = .ok (.iconst 1, 1) := by decide +kernel
theorem kd_Tk_readSign_6 : decode kc_Tk_readSign 6 = .ok (.iadd, 1) := by decide +kernel
theorem kd_Tk_readSign_7 : decode kc_Tk_readSign 7 = .ok (.invokevirtual 51, 3) := by decide +kernel
theorem kd_Tk_readSign_10 : decode kc_Tk_readSign 10 = .ok (.istore_n 2, 1) := by decide +kernel
theorem kd_Tk_readSign_11 : decode kc_Tk_readSign 11 = .ok (.iload_n 1, 1) := by decide +kernel
theorem kd_Tk_readSign_12 : decode kc_Tk_readSign 12 = .ok (.bipush 58, 2) := by decide +kernel
theorem kd_Tk_readSign_14 : decode kc_Tk_readSign 14 = .ok (.if_icmp .ne 22, 3) := by decide +kernel
theorem kd_Tk_readSign_17 : decode kc_Tk_readSign 17 = .ok (.iload_n 2, 1) := by decide +kernel
theorem kd_Tk_readSign_18 : decode kc_Tk_readSign 18 = .ok (.bipush 61, 2) := by decide +kernel
theorem kd_Tk_readSign_20 : decode kc_Tk_readSign 20 = .ok (.if_icmp .ne 16, 3) := by decide +kernel
theorem kd_Tk_readSign_23 : decode kc_Tk_readSign 23 = .ok (.aload_n 0, 1) := by decide +kernel
theorem kd_Tk_readSign_24 : decode kc_Tk_readSign 24 = .ok (.iconst 1, 1) := by decide +kernel
theorem kd_Tk_readSign_25 : decode kc_Tk_readSign 25 = .ok (.aload_n 0, 1) := by decide +kernel
theorem kd_Tk_readSign_26 : decode kc_Tk_readSign 26 = .ok (.getfield 34, 3) := by decide +kernel
theorem kd_Tk_readSign_29 : decode kc_Tk_readSign 29 = .ok (.iconst 2, 1) := by decide +kernel
theorem kd_Tk_readSign_30 : decode kc_Tk_readSign 30 = .ok (.iadd, 1) := by decide +kernel
theorem kd_Tk_readSign_31 : decode kc_Tk_readSign 31 = .ok (.iconst 0, 1) := by decide +kernel
theorem kd_Tk_readSign_32 : decode kc_Tk_readSign 32 = .ok (.invokevirtual 89, 3) := by decide +kernel
theorem kd_Tk_readSign_35 : decode kc_Tk_readSign 35 = .ok (.ireturn, 1) := by decide +kernel
theorem kd_Tk_readSign_36 : decode kc_Tk_readSign 36 = .ok (.iload_n 1, 1) := by decide +kernel
theorem kd_Tk_readSign_37 : decode kc_Tk_readSign 37 = .ok (.bipush 46, 2) := by decide +kernel
theorem kd_Tk_readSign_39 : decode kc_Tk_readSign 39 = .ok (.if_icmp .ne 22, 3) := by decide +kernel
theorem kd_Tk_readSign_42 : decode kc_Tk_readSign 42 = .ok (.iload_n 2, 1) := by decide +kernel
theorem kd_Tk_readSign_43 : decode kc_Tk_readSign 43 = .ok (.bipush 46, 2) := by decide +kernel
theorem kd_Tk_readSign_45 : decode kc_Tk_readSign 45 = .ok (.if_icmp .ne 16, 3) := by decide +kernel
theorem kd_Tk_readSign_48 : decode kc_Tk_readSign 48 = .ok (.aload_n 0, 1) := by decide +kernel
theorem kd_Tk_readSign_49 : decode kc_Tk_readSign 49 = .ok (.iconst 2, 1) := by decide +kernel
theorem kd_Tk_readSign_50 : decode kc_Tk_readSign 50 = .ok (.aload_n 0, 1) := by decide +kernel
theorem kd_Tk_readSign_51 : decode kc_Tk_readSign 51 = .ok (.getfield 34, 3) := by decide +kernel
theorem kd_Tk_readSign_54 : decode kc_Tk_readSign 54 = .ok (.iconst 2, 1) := by decide +kernel
theorem kd_Tk_readSign_55 : decode kc_Tk_readSign 55 = .ok (.iadd, 1) := by decide +kernel
theorem kd_Tk_readSign_56 : decode kc_Tk_readSign 56 = .ok (.iconst 0, 1) := by decide +kernel
theorem kd_Tk_readSign_57 : decode kc_Tk_readSign 57 = .ok (.invokevirtual 89, 3) := by decide +kernel
theorem kd_Tk_readSign_60 : decode kc_Tk_readSign 60 = .ok (.ireturn, 1) := by decide +kernel
theorem kd_Tk_readSign_61 : decode kc_Tk_readSign 61 = .ok (.iload_n 1, 1) := by decide +kernel
theorem kd_Tk_readSign_62 : decode kc_Tk_readSign 62 = .ok (.bipush 60, 2) := by decide +kernel
theorem kd_Tk_readSign_64 : decode kc_Tk_readSign 64 = .ok (.if_icmp .ne 22, 3) := by decide +kernel
theorem kd_Tk_readSign_67 : decode kc_Tk_readSign 67 = .ok (.iload_n 2, 1) := by decide +kernel
theorem kd_Tk_readSign_68 : decode kc_Tk_readSign 68 = .ok (.bipush 61, 2) := by decide +kernel
theorem kd_Tk_readSign_70 : decode kc_Tk_readSign 70 = .ok (.if_icmp .ne 16, 3) := by decide +kernel
theorem kd_Tk_readSign_73 : decode kc_Tk_readSign 73 = .ok (.aload_n 0, 1) := by decide +kernel
theorem kd_Tk_readSign_74 : decode kc_Tk_readSign 74 = .ok (.iconst 3, 1) := by decide +kernel
theorem kd_Tk_readSign_75 : decode kc_Tk_readSign 75 = .ok (.aload_n 0, 1) := by decide +kernel
theorem kd_Tk_readSign_76 : decode kc_Tk_readSign 76 = .ok (.getfield 34, 3) := by decide +kernel
theorem kd_Tk_readSign_79 : decode kc_Tk_readSign 79 = .ok (.iconst 2, 1) := by decide +kernel
theorem kd_Tk_readSign_80 : decode kc_Tk_readSign 80 = .ok (.iadd, 1) := by decide +kernel
theorem kd_Tk_readSign_81 : decode kc_Tk_readSign 81 = .ok (.iconst 0, 1) := by decide +kernel
theorem kd_Tk_readSign_82 : decode kc_Tk_readSign 82 = .ok (.invokevirtual 89, 3) := by decide +kernel
theorem kd_Tk_readSign_85 : decode kc_Tk_readSign 85 = .ok (.ireturn, 1) := by decide +kernel
theorem kd_Tk_readSign_86 : decode kc_Tk_readSign 86 = .ok (.iload_n 1, 1) := by decide +kernel
theorem kd_Tk_readSign_87 : decode kc_Tk_readSign 87 = .ok (.bipush 62, 2) := by decide +kernel
theorem kd_Tk_readSign_89 : decode kc_Tk_readSign 89 = .ok (.if_icmp .ne 22, 3) := by decide +kernel
theorem kd_Tk_readSign_92 : decode kc_Tk_readSign 92 = .ok (.iload_n 2, 1) := by decide +kernel
theorem kd_Tk_readSign_93 : decode kc_Tk_readSign 93 = .ok (.bipush 61, 2) := by decide +kernel
theorem kd_Tk_readSign_95 : decode kc_Tk_readSign 95 = .ok (.if_icmp .ne 16, 3) := by decide +kernel
theorem kd_Tk_readSign_98 : decode kc_Tk_readSign 98 = .ok (.aload_n 0, 1) := by decide +kernel
theorem kd_Tk_readSign_99 : decode kc_Tk_readSign 99 = .ok (.iconst 4, 1) := by decide +kernel
theorem kd_Tk_readSign_100 : decode kc_Tk_readSign 100 = .ok (.aload_n 0, 1) := by decide +kernel
theorem kd_Tk_readSign_101 : decode kc_Tk_readSign 101 = .ok (.getfield 34, 3) := by decide +kernel
theorem kd_Tk_readSign_104 : decode kc_Tk_readSign 104 = .ok (.iconst 2, 1) := by decide +kernel
theorem kd_Tk_readSign_105 : decode kc_Tk_readSign 105 = .ok (.iadd, 1) := by decide +kernel
theorem kd_Tk_readSign_106 : decode kc_Tk_readSign 106 = .ok (.iconst 0, 1) := by decide +kernel
theorem kd_Tk_readSign_107 : decode kc_Tk_readSign 107 = .ok (.invokevirtual 89, 3) := by decide +kernel
theorem kd_Tk_readSign_110 : decode kc_Tk_readSign 110 = .ok (.ireturn, 1) := by decide +kernel
theorem kd_Tk_readSign_111 : decode kc_Tk_readSign 111 = .ok (.iload_n 1, 1) := by decide +kernel
theorem kd_Tk_readSign_112 : decode kc_Tk_readSign 112 = .ok (.bipush 60, 2) := by decide +kernel
theorem kd_Tk_readSign_114 : decode kc_Tk_readSign 114 = .ok (.if_icmp .ne 22, 3) := by decide +kernel
theorem kd_Tk_readSign_117 : decode kc_Tk_readSign 117 = .ok (.iload_n 2, 1) := by decide +kernel
theorem kd_Tk_readSign_118 : decode kc_Tk_readSign 118 = .ok (.bipush 62, 2) := by decide +kernel
theorem kd_Tk_readSign_120 : decode kc_Tk_readSign 120 = .ok (.if_icmp .ne 16, 3) := by decide +kernel
theorem kd_Tk_readSign_123 : decode kc_Tk_readSign 123 = .ok (.aload_n 0, 1) := by decide +kernel
theorem kd_Tk_readSign_124 : decode kc_Tk_readSign 124 = .ok (.iconst 5, 1) := by decide +kernel
theorem kd_Tk_readSign_125 : decode kc_Tk_readSign 125 = .ok (.aload_n 0, 1) := by decide +kernel
theorem kd_Tk_readSign_126 : decode kc_Tk_readSign 126 = .ok (.getfield 34, 3) := by decide +kernel
theorem kd_Tk_readSign_129 : decode kc_Tk_readSign 129 = .ok (.iconst 2, 1) := by decide +kernel
theorem kd_Tk_readSign_130 : decode kc_Tk_readSign 130 = .ok (.iadd, 1) := by decide +kernel
theorem kd_Tk_readSign_131 : decode kc_Tk_readSign 131 = .ok (.iconst 0, 1) := by decide +kernel
theorem kd_Tk_readSign_132 : decode kc_Tk_readSign 132 = .ok (.invokevirtual 89, 3) := by decide +kernel
theorem kd_Tk_readSign_135 : decode kc_Tk_readSign 135 = .ok (.ireturn, 1) := by decide +kernel
theorem kd_Tk_readSign_136 : decode kc_Tk_readSign 136 = .ok (.ldc 139, 2) := by decide +kernel
theorem kd_Tk_readSign_138 : decode kc_Tk_readSign 138 = .ok (.iload_n 1, 1) := by decide +kernel
theorem kd_Tk_readSign_139 : decode kc_Tk_readSign 139 = .ok (.i2c, 1) := by decide +kernel
theorem kd_Tk_readSign_140 : decode kc_Tk_readSign 140 = .ok (.invokevirtual 132, 3) := by decide +kernel
theorem kd_Tk_readSign_143 : decode kc_Tk_readSign 143 = .ok (.ifCond .ge 11, 3) := by decide +kernel
theorem kd_Tk_readSign_146 : decode kc_Tk_readSign 146 = .ok (.aload_n 0, 1) := by decide +kernel
theorem kd_Tk_readSign_147 : decode kc_Tk_readSign 147 = .ok (.iconst 1, 1) := by decide +kernel
theorem kd_Tk_readSign_148 : decode kc_Tk_readSign 148 = .ok (.invokevirtual 58, 3) := by decide +kernel
theorem kd_Tk_readSign_151 : decode kc_Tk_readSign 151 = .ok (.goto 15, 3) := by decide +kernel
theorem kd_Tk_readSign_154 : decode kc_Tk_readSign 154 = .ok (.aload_n 0, 1) := by decide +kernel
theorem kd_Tk_readSign_155 : decode kc_Tk_readSign 155 = .ok (.iload_n 1, 1) := by decide +kernel
theorem kd_Tk_readSign_156 : decode kc_Tk_readSign 156 = .ok (.aload_n 0, 1) := by decide +kernel
theorem kd_Tk_readSign_157 : decode kc_Tk_readSign 157 = .ok (.getfield 34, 3) := by decide +kernel
theorem kd_Tk_readSign_160 : decode kc_Tk_readSign 160 = .ok (.iconst 1, 1) := by decide +kernel
theorem kd_Tk_readSign_161 : decode kc_Tk_readSign 161 = .ok (.iadd, 1) := by decide +kernel
theorem kd_Tk_readSign_162 : decode kc_Tk_readSign 162 = .ok (.iconst 0, 1) := by decide +kernel
theorem kd_Tk_readSign_163 : decode kc_Tk_readSign 163 = .ok (.invokevirtual 89, 3) := by decide +kernel
theorem kd_Tk_readSign_166 : decode kc_Tk_readSign 166 = .ok (.ireturn, 1) := by decide +kernel
theorem kd_Tk_readTime_0 : decode kc_Tk_readTime 0 = .ok (.aload_n 0, 1) := by decide +kernel
theorem kd_Tk_readTime_1 : decode kc_Tk_readTime 1 = .ok (.getfield 34, 3) := by decide +kernel
theorem kd_Tk_readTime_4 : decode kc_Tk_readTime 4 = .ok (.iconst 2, 1) := by decide +kernel
theorem kd_Tk_readTime_5 : decode kc_Tk_readTime 5 = .ok (.iadd, 1) := by decide +kernel
theorem kd_Tk_readTime_6 : decode kc_Tk_readTime 6 = .ok (.istore_n 1, 1) := by decide +kernel
theorem kd_Tk_readTime_7 : decode kc_Tk_readTime 7 = .ok (.aload_n 0, 1) := by decide +kernel
theorem kd_Tk_readTime_8 : decode kc_Tk_readTime 8 = .ok (.iload_n 1, 1) := by decide +kernel
theorem kd_Tk_readTime_9 : decode kc_Tk_readTime 9 = .ok (.bipush 10, 2) := by decide +kernel
theorem kd_Tk_readTime_11 : decode kc_Tk_readTime 11 = .ok (.invokevirtual 107, 3) := by decide +kernel
theorem kd_Tk_readTime_14 : decode kc_Tk_readTime 14 = .ok (.istore_n 2, 1) := by decide +kernel
theorem kd_Tk_readTime_15 : decode kc_Tk_readTime 15 = .ok (.aload_n 0, 1) := by decide +kernel
theorem kd_Tk_readTime_16 : decode kc_Tk_readTime 16 = .ok (.iload_n 2, 1) := by decide +kernel
theorem kd_Tk_readTime_17 : decode kc_Tk_readTime 17 = .ok (.invokevirtual 51, 3) := by decide +kernel
theorem kd_Tk_readTime_20 : decode kc_Tk_readTime 20 = .ok (.invokestatic 93, 3) := by decide +kernel
theorem kd_Tk_readTime_23 : decode kc_Tk_readTime 23 = .ok (.istore_n 3, 1) := by decide +kernel
theorem kd_Tk_readTime_24 : decode kc_Tk_readTime 24 = .ok (.iload_n 2, 1) := by decide +kernel
theorem kd_Tk_readTime_25 : decode kc_Tk_readTime 25 = .ok (.iload_n 1, 1) := by decide +kernel
theorem kd_Tk_readTime_26 : decode kc_Tk_readTime 26 = .ok (.if_icmp .eq 21, 3) := by decide +kernel
theorem kd_Tk_readTime_29 : decode kc_Tk_readTime 29 = .ok (.iload_n 3, 1) := by decide +kernel
theorem kd_Tk_readTime_30 : decode kc_Tk_readTime 30 = .ok (.bipush 77, 2) := by decide +kernel
theorem kd_Tk_readTime_32 : decode kc_Tk_readTime 32 = .ok (.if_icmp .eq 21, 3) := by decide +kernel
theorem kd_Tk_readTime_35 : decode kc_Tk_readTime 35 = .ok (.iload_n 3, 1) := by decide +kernel
theorem kd_Tk_readTime_36 : decode kc_Tk_readTime 36 = .ok (.bipush 83, 2) := by decide +kernel
theorem kd_Tk_readTime_38 : decode kc_Tk_readTime 38 = .ok (.if_icmp .eq 15, 3) := by decide +kernel
theorem kd_Tk_readTime_41 : decode kc_Tk_readTime 41 = .ok (.iload_n 3, 1) := by decide +kernel
theorem kd_Tk_readTime_42 : decode kc_Tk_readTime 42 = .ok (.bipush 72, 2) := by decide +kernel
theorem kd_Tk_readTime_44 : decode kc_Tk_readTime 44 = .ok (.if_icmp .eq 9, 3) := by decide +kernel
theorem kd_Tk_readTime_47 : decode kc_Tk_readTime 47 = .ok (.aload_n 0, 1) := by decide +kernel
theorem kd_Tk_readTime_48 : decode kc_Tk_readTime 48 = .ok (.iconst 4, 1) := by decide +kernel
theorem kd_Tk_readTime_49 : decode kc_Tk_readTime 49 = .ok (.invokevirtual 58, 3) := by decide +kernel
theorem kd_Tk_readTime_52 : decode kc_Tk_readTime 52 = .ok (.ireturn, 1) := by decide +kernel
theorem kd_Tk_readTime_53 : decode kc_Tk_readTime 53 = .ok (.aload_n 0, 1) := by decide +kernel
theorem kd_Tk_readTime_54 : decode kc_Tk_readTime 54 = .ok (.iload_n 1, 1) := by decide +kernel
theorem kd_Tk_readTime_55 : decode kc_Tk_readTime 55 = .ok (.iload_n 2, 1) := by decide +kernel
theorem kd_Tk_readTime_56 : decode kc_Tk_readTime 56 = .ok (.bipush 10, 2) := by decide +kernel
theorem kd_Tk_readTime_58 : decode kc_Tk_readTime 58 = .ok (.invokevirtual 111, 3) := by decide +kernel
theorem kd_Tk_readTime_61 : decode kc_Tk_readTime 61 = .ok (.lstore 4, 2) := by decide +kernel
theorem kd_Tk_readTime_63 : decode kc_Tk_readTime 63 = .ok (.iload_n 3, 1) := by decide +kernel
theorem kd_Tk_readTime_64 : decode kc_Tk_readTime 64 = .ok (.bipush 77, 2) := by decide +kernel
theorem kd_Tk_readTime_66 : decode kc_Tk_readTime 66 = .ok (.if_icmp .ne 28, 3) := by decide +kernel
theorem kd_Tk_readTime_69 : decode kc_Tk_readTime 69 = .ok (.aload_n 0, 1) := by decide +kernel
theorem kd_Tk_readTime_70 : decode kc_Tk_readTime 70 = .ok (.iload_n 2, 1) := by decide +kernel
theorem kd_Tk_readTime_71 : decode kc_Tk_readTime 71 = .ok (.iconst 1, 1) := by decide +kernel
theorem kd_Tk_readTime_72 : decode kc_Tk_readTime 72 = .ok (.iadd, 1) := by decide +kernel
theorem kd_Tk_readTime_73 : decode kc_Tk_readTime 73 = .ok (.invokevirtual 51, 3) := by decide +kernel
theorem kd_Tk_readTime_76 : decode kc_Tk_readTime 76 = .ok (.invokestatic 93, 3) := by decide +kernel
theorem kd_Tk_readTime_79 : decode kc_Tk_readTime 79 = .ok (.bipush 83, 2) := by decide +kernel
theorem kd_Tk_readTime_81 : decode kc_Tk_readTime 81 = .ok (.if_icmp .ne 13, 3) := by decide +kernel
theorem kd_Tk_readTime_84 : decode kc_Tk_readTime 84 = .ok (.aload_n 0, 1) := by decide +kernel
theorem kd_Tk_readTime_85 : decode kc_Tk_readTime 85 = .ok (.iload_n 2, 1) := by decide +kernel
theorem kd_Tk_readTime_86 : decode kc_Tk_readTime 86 = .ok (.iconst 2, 1) := by decide +kernel
theorem kd_Tk_readTime_87 : decode kc_Tk_readTime 87 = .ok (.iadd, 1) := by decide +kernel
theorem kd_Tk_readTime_88 : decode kc_Tk_readTime 88 = .ok (.lload 4, 2) := by decide +kernel
theorem kd_Tk_readTime_90 : decode kc_Tk_readTime 90 = .ok (.invokevirtual 115, 3) := by decide +kernel
theorem kd_Tk_readTime_93 : decode kc_Tk_readTime 93 = .ok (.ireturn, 1) := by decide +kernel
theorem kd_Tk_readTime_94 : decode kc_Tk_readTime 94 = .ok (.aload_n 0, 1) := by decide +kernel
theorem kd_Tk_readTime_95 : decode kc_Tk_readTime 95 = .ok (.iload_n 2, 1) := by decide +kernel
theorem kd_Tk_readTime_96 : decode kc_Tk_readTime 96 = .ok (.iconst 1, 1) := by decide +kernel
theorem kd_Tk_readTime_97 : decode kc_Tk_readTime 97 = .ok (.iadd, 1) := by decide +kernel
theorem kd_Tk_readTime_98 : decode kc_Tk_readTime 98 = .ok (.lload 4, 2) := by decide +kernel
theorem kd_Tk_readTime_100 : decode kc_Tk_readTime 100 = .ok (.iload_n 3, 1) := by decide +kernel
theorem kd_Tk_readTime_101 : decode kc_Tk_readTime 101 = .ok (.bipush 83, 2) := by decide +kernel
theorem kd_Tk_readTime_103 : decode kc_Tk_readTime 103 = .ok (.if_icmp .ne 9, 3) := by decide +kernel
theorem kd_Tk_readTime_106 : decode kc_Tk_readTime 106 = .ok (.sipush 1000, 3) := by decide +kernel
theorem kd_Tk_readTime_109 : decode kc_Tk_readTime 109 = .ok (.goto 16, 3) := by decide +kernel
theorem kd_Tk_readTime_112 : decode kc_Tk_readTime 112 = .ok (.iload_n 3, 1) := by decide +kernel
theorem kd_Tk_readTime_113 : decode kc_Tk_readTime 113 = .ok (.bipush 77, 2) := by decide +kernel
theorem kd_Tk_readTime_115 : decode kc_Tk_readTime 115 = .ok (.if_icmp .ne 8, 3) := by decide +kernel
theorem kd_Tk_readTime_118 : decode kc_Tk_readTime 118 = .ok (.ldc 123, 2) := by decide +kernel
theorem kd_Tk_readTime_120 : decode kc_Tk_readTime 120 = .ok (.goto 5, 3) := by decide +kernel
theorem kd_Tk_readTime_123 : decode kc_Tk_readTime 123 = .ok (.ldc 124, 2) := by decide +kernel
theorem kd_Tk_readTime_125 : decode kc_Tk_readTime 125 = .ok (.i2l, 1) := by decide +kernel
theorem kd_Tk_readTime_126 : decode kc_Tk_readTime 126 = .ok (.lmul, 1) := by decide +kernel
theorem kd_Tk_readTime_127 : decode kc_Tk_readTime 127 = .ok (.invokevirtual 115, 3) := by decide +kernel
theorem kd_Tk_readTime_130 : decode kc_Tk_readTime 130 = .ok (.ireturn, 1) := by decide +kernel
theorem kd_Tk_readToken_0 : decode kc_Tk_readToken 0 = .ok (.aload_n 0, 1) := by decide +kernel
theorem kd_Tk_readToken_1 : decode kc_Tk_readToken 1 = .ok (.aload_n 0, 1) := by decide +kernel
theorem kd_Tk_readToken_2 : decode kc_Tk_readToken 2 = .ok (.getfield 34, 3) := by decide +kernel
theorem kd_Tk_readToken_5 : decode kc_Tk_readToken 5 = .ok (.invokevirtual 51, 3) := by decide +kernel
theorem kd_Tk_readToken_8 : decode kc_Tk_readToken 8 = .ok (.istore_n 1, 1) := by decide +kernel
theorem kd_Tk_readToken_9 : decode kc_Tk_readToken 9 = .ok (.iload_n 1, 1) := by decide +kernel
theorem kd_Tk_readToken_10 : decode kc_Tk_readToken 10 = .ok (.iconst (-1), 1) := by decide +kernel
theorem kd_Tk_readToken_11 : decode kc_Tk_readToken 11 = .ok (.if_icmp .ne 12, 3) := by decide +kernel
theorem kd_Tk_readToken_14 : decode kc_Tk_readToken 14 = .ok (.aload_n 0, 1) := by decide +kernel
theorem kd_Tk_readToken_15 : decode kc_Tk_readToken 15 = .ok (.bipush 6, 2) := by decide +kernel
theorem kd_Tk_readToken_17 : decode kc_Tk_readToken 17 = .ok (.iconst 0, 1) := by decide +kernel
theorem kd_Tk_readToken_18 : decode kc_Tk_readToken 18 = .ok (.invokevirtual 47, 3) := by decide +kernel
theorem kd_Tk_readToken_21 : decode kc_Tk_readToken 21 = .ok (.iconst 0, 1) := by decide +kernel
theorem kd_Tk_readToken_22 : decode kc_Tk_readToken 22 = .ok (.ireturn, 1) := by decide +kernel
theorem kd_Tk_readToken_23 : decode kc_Tk_readToken 23 = .ok (.iload_n 1, 1) := by decide +kernel
theorem kd_Tk_readToken_24 : decode kc_Tk_readToken 24 = .ok (.bipush 84, 2) := by decide +kernel
theorem kd_Tk_readToken_26 : decode kc_Tk_readToken 26 = .ok (.if_icmp .eq 9, 3) := by decide +kernel
theorem kd_Tk_readToken_29 : decode kc_Tk_readToken 29 = .ok (.iload_n 1, 1) := by decide +kernel
theorem kd_Tk_readToken_30 : decode kc_Tk_readToken 30 = .ok (.bipush 116, 2) := by decide +kernel
theorem kd_Tk_readToken_32 : decode kc_Tk_readToken 32 = .ok (.if_icmp .ne 23, 3) := by decide +kernel
theorem kd_Tk_readToken_35 : decode kc_Tk_readToken 35 = .ok (.aload_n 0, 1) := by decide +kernel
theorem kd_Tk_readToken_36 : decode kc_Tk_readToken 36 = .ok (.aload_n 0, 1) := by decide +kernel
theorem kd_Tk_readToken_37 : decode kc_Tk_readToken 37 = .ok (.getfield 34, 3) := by decide +kernel
theorem kd_Tk_readToken_40 : decode kc_Tk_readToken 40 = .ok (.iconst 1, 1) := by decide +kernel
theorem kd_Tk_readToken_41 : decode kc_Tk_readToken 41 = .ok (.iadd, 1) := by decide +kernel
theorem kd_Tk_readToken_42 : decode kc_Tk_readToken 42 = .ok (.invokevirtual 51, 3) := by decide +kernel
theorem kd_Tk_readToken_45 : decode kc_Tk_readToken 45 = .ok (.bipush 35, 2) := by decide +kernel
theorem kd_Tk_readToken_47 : decode kc_Tk_readToken 47 = .ok (.if_icmp .ne 8, 3) := by decide +kernel
theorem kd_Tk_readToken_50 : decode kc_Tk_readToken 50 = .ok (.aload_n 0, 1) := by decide +kernel
theorem kd_Tk_readToken_51 : decode kc_Tk_readToken 51 = .ok (.invokevirtual 62, 3) := by decide +kernel
theorem kd_Tk_readToken_54 : decode kc_Tk_readToken 54 = .ok (.ireturn, 1) := by decide +kernel
theorem kd_Tk_readToken_55 : decode kc_Tk_readToken 55 = .ok (.iload_n 1, 1) := by decide +kernel
theorem kd_Tk_readToken_56 : decode kc_Tk_readToken 56 = .ok (.invokestatic 65, 3) := by decide +kernel
theorem kd_Tk_readToken_59 : decode kc_Tk_readToken 59 = .ok (.ifCond .eq 8, 3) := by decide +kernel
theorem kd_Tk_readToken_62 : decode kc_Tk_readToken 62 = .ok (.aload_n 0, 1) := by decide +kernel
theorem kd_Tk_readToken_63 : decode kc_Tk_readToken 63 = .ok (.invokevirtual 70, 3) := by decide +kernel
theorem kd_Tk_readToken_66 : decode kc_Tk_readToken 66 = .ok (.ireturn, 1) := by decide +kernel
theorem kd_Tk_readToken_67 : decode kc_Tk_readToken 67 = .ok (.iload_n 1, 1) := by decide +kernel
theorem kd_Tk_readToken_68 : decode kc_Tk_readToken 68 = .ok (.bipush 48, 2) := by decide +kernel
theorem kd_Tk_readToken_70 : decode kc_Tk_readToken 70 = .ok (.if_icmp .lt 14, 3) := by decide +kernel
theorem kd_Tk_readToken_73 : decode kc_Tk_readToken 73 = .ok (.iload_n 1, 1) := by decide +kernel
theorem kd_Tk_readToken_74 : decode kc_Tk_readToken 74 = .ok (.bipush 57, 2) := by decide +kernel
theorem kd_Tk_readToken_76 : decode kc_Tk_readToken 76 = .ok (.if_icmp .gt 8, 3) := by decide +kernel
theorem kd_Tk_readToken_79 : decode kc_Tk_readToken 79 = .ok (.aload_n 0, 1) := by decide +kernel
theorem kd_Tk_readToken_80 : decode kc_Tk_readToken 80 = .ok (.invokevirtual 73, 3) := by decide +kernel
theorem kd_Tk_readToken_83 : decode kc_Tk_readToken 83 = .ok (.ireturn, 1) := by decide +kernel
theorem kd_Tk_readToken_84 : decode kc_Tk_readToken 84 = .ok (.iload_n 1, 1) := by decide +kernel
theorem kd_Tk_readToken_85 : decode kc_Tk_readToken 85 = .ok (.bipush 37, 2) := by decide +kernel
theorem kd_Tk_readToken_87 : decode kc_Tk_readToken 87 = .ok (.if_icmp .ne 10, 3) := by decide +kernel
theorem kd_Tk_readToken_90 : decode kc_Tk_readToken 90 = .ok (.aload_n 0, 1) := by decide +kernel
theorem kd_Tk_readToken_91 : decode kc_Tk_readToken 91 = .ok (.invokevirtual 76, 3) := by decide +kernel
theorem kd_Tk_readToken_94 : decode kc_Tk_readToken 94 = .ok (.goto 8, 3) := by decide +kernel
theorem kd_Tk_readToken_97 : decode kc_Tk_readToken 97 = .ok (.aload_n 0, 1) := by decide +kernel
theorem kd_Tk_readToken_98 : decode kc_Tk_readToken 98 = .ok (.iload_n 1, 1) := by decide +kernel
theorem kd_Tk_readToken_99 : decode kc_Tk_readToken 99 = .ok (.invokevirtual 79, 3) := by decide +kernel
theorem kd_Tk_readToken_102 : decode kc_Tk_readToken 102 = .ok (.ireturn, 1) := by decide +kernel
theorem kd_Tr_add_0 : decode kc_Tr_add 0 = .ok (.aload_n 0, 1) := by decide +kernel
theorem kd_Tr_add_1 : decode kc_Tr_add 1 = .ok (.getfield 33, 3) := by decide +kernel
theorem kd_Tr_add_4 : decode kc_Tr_add 4 = .ok (.ldc 37, 2) := by decide +kernel
theorem kd_Tr_add_6 : decode kc_Tr_add 6 = .ok (.invokestatic 38, 3) := by decide +kernel
theorem kd_Tr_add_9 : decode kc_Tr_add 9 = .ok (.istore 4, 2) := by decide +kernel
theorem kd_Tr_add_11 : decode kc_Tr_add 11 = .ok (.aload_n 0, 1) := by decide +kernel
theorem kd_Tr_add_12 : decode kc_Tr_add 12 = .ok (.getfield 12, 3) := by decide +kernel
theorem kd_Tr_add_15 : decode kc_Tr_add 15 = .ok (.iload 4, 2) := by decide +kernel
theorem kd_Tr_add_17 : decode kc_Tr_add 17 = .ok (.iload_n 1, 1) := by decide +kernel
theorem kd_Tr_add_18 : decode kc_Tr_add 18 = .ok (.i2b, 1) := by decide +kernel
theorem kd_Tr_add_19 : decode kc_Tr_add 19 = .ok (.bastore, 1) := by decide +kernel
theorem kd_Tr_add_20 : decode kc_Tr_add 20 = .ok (.aload_n 0, 1) := by decide +kernel
theorem kd_Tr_add_21 : decode kc_Tr_add 21 = .ok (.getfield 16, 3) := by decide +kernel
theorem kd_Tr_add_24 : decode kc_Tr_add 24 = .ok (.iload 4, 2) := by decide +kernel
theorem kd_Tr_add_26 : decode kc_Tr_add 26 = .ok (.iconst 0, 1) := by decide +kernel
theorem kd_Tr_add_27 : decode kc_Tr_add 27 = .ok (.bastore, 1) := by decide +kernel
theorem kd_Tr_add_28 : decode kc_Tr_add 28 = .ok (.aload_n 0, 1) := by decide +kernel
theorem kd_Tr_add_29 : decode kc_Tr_add 29 = .ok (.getfield 19, 3) := by decide +kernel
theorem kd_Tr_add_32 : decode kc_Tr_add 32 = .ok (.iload 4, 2) := by decide +kernel
theorem kd_Tr_add_34 : decode kc_Tr_add 34 = .ok (.iload_n 2, 1) := by decide +kernel
theorem kd_Tr_add_35 : decode kc_Tr_add 35 = .ok (.i2c, 1) := by decide +kernel
theorem kd_Tr_add_36 : decode kc_Tr_add 36 = .ok (.castore, 1) := by decide +kernel
theorem kd_Tr_add_37 : decode kc_Tr_add 37 = .ok (.aload_n 0, 1) := by decide +kernel
theorem kd_Tr_add_38 : decode kc_Tr_add 38 = .ok (.getfield 23, 3) := by decide +kernel
theorem kd_Tr_add_41 : decode kc_Tr_add 41 = .ok (.iload 4, 2) := by decide +kernel
theorem kd_Tr_add_43 : decode kc_Tr_add 43 = .ok (.iload_n 3, 1) := by decide +kernel
theorem kd_Tr_add_44 : decode kc_Tr_add 44 = .ok (.iastore, 1) := by decide +kernel
theorem kd_Tr_add_45 : decode kc_Tr_add 45 = .ok (.aload_n 0, 1) := by decide +kernel
theorem kd_Tr_add_46 : decode kc_Tr_add 46 = .ok (.getfield 27, 3) := by decide +kernel
theorem kd_Tr_add_49 : decode kc_Tr_add 49 = .ok (.iload 4, 2) := by decide +kernel
theorem kd_Tr_add_51 : decode kc_Tr_add 51 = .ok (.iconst (-1), 1) := by decide +kernel
theorem kd_Tr_add_52 : decode kc_Tr_add 52 = .ok (.iastore, 1) := by decide +kernel
theorem kd_Tr_add_53 : decode kc_Tr_add 53 = .ok (.aload_n 0, 1) := by decide +kernel
theorem kd_Tr_add_54 : decode kc_Tr_add 54 = .ok (.getfield 30, 3) := by decide +kernel
theorem kd_Tr_add_57 : decode kc_Tr_add 57 = .ok (.iload 4, 2) := by decide +kernel
theorem kd_Tr_add_59 : decode kc_Tr_add 59 = .ok (.iconst (-1), 1) := by decide +kernel
theorem kd_Tr_add_60 : decode kc_Tr_add 60 = .ok (.iastore, 1) := by decide +kernel
theorem kd_Tr_add_61 : decode kc_Tr_add 61 = .ok (.aload_n 0, 1) := by decide +kernel
theorem kd_Tr_add_62 : decode kc_Tr_add 62 = .ok (.iload 4, 2) := by decide +kernel
theorem kd_Tr_add_64 : decode kc_Tr_add 64 = .ok (.iconst 1, 1) := by decide +kernel
theorem kd_Tr_add_65 : decode kc_Tr_add 65 = .ok (.iadd, 1) := by decide +kernel
theorem kd_Tr_add_66 : decode kc_Tr_add 66 = .ok (.putfield 33, 3) := by decide +kernel
theorem kd_Tr_add_69 : decode kc_Tr_add 69 = .ok (.iload 4, 2) := by decide +kernel
theorem kd_Tr_add_71 : decode kc_Tr_add 71 = .ok (.ireturn, 1) := by decide +kernel
theorem kd_Tr_hang_0 : decode kc_Tr_hang 0 = .ok (.iload_n 2, 1) := by decide +kernel
theorem kd_Tr_hang_1 : decode kc_Tr_hang 1 = .ok (.iconst (-1), 1) := by decide +kernel
theorem kd_Tr_hang_2 : decode kc_Tr_hang 2 = .ok (.if_icmp .ne 13, 3) := by decide +kernel
theorem kd_Tr_hang_5 : decode kc_Tr_hang 5 = .ok (.aload_n 0, 1) := by decide +kernel
theorem kd_Tr_hang_6 : decode kc_Tr_hang 6 = .ok (.getfield 27, 3) := by decide +kernel
theorem kd_Tr_hang_9 : decode kc_Tr_hang 9 = .ok (.iload_n 1, 1) := by decide +kernel
theorem kd_Tr_hang_10 : decode kc_Tr_hang 10 = .ok (.iload_n 3, 1) := by decide +kernel
theorem kd_Tr_hang_11 : decode kc_Tr_hang 11 = .ok (.iastore, 1) := by decide +kernel
theorem kd_Tr_hang_12 : decode kc_Tr_hang 12 = .ok (.goto 10, 3) := by decide +kernel
theorem kd_Tr_hang_15 : decode kc_Tr_hang 15 = .ok (.aload_n 0, 1) := by decide +kernel
theorem kd_Tr_hang_16 : decode kc_Tr_hang 16 = .ok (.getfield 30, 3) := by decide +kernel
theorem kd_Tr_hang_19 : decode kc_Tr_hang 19 = .ok (.iload_n 2, 1) := by decide +kernel
theorem kd_Tr_hang_20 : decode kc_Tr_hang 20 = .ok (.iload_n 3, 1) := by decide +kernel
theorem kd_Tr_hang_21 : decode kc_Tr_hang 21 = .ok (.iastore, 1) := by decide +kernel
theorem kd_Tr_hang_22 : decode kc_Tr_hang 22 = .ok (.iload_n 3, 1) := by decide +kernel
theorem kd_Tr_hang_23 : decode kc_Tr_hang 23 = .ok (.ireturn, 1) := by decide +kernel
set_option maxHeartbeats 4000000 in
set_option maxRecDepth 100000 in
theorem zb_Tk_readNumber_62 {X : zkj_T} {S : zs_T} {P : ze_T} {l : Launch} {D : va_G} {sz0 : Nat} {rv : Int32} {rh : zs_H} (C : zk_C X km_Tk_readNumber (zs_G S l D sz0) { frames := 3, cells := 0, slots := 0, locals := 68 } (ze_E P)) (hR : zkj_R X (zd_PZ S rv rh) (some .boolean)) (h : zs_H) (x1 : Int32) (x2 : Int64) (e : f_Tk_readNumber_62 h x1 x2 = some (rv, rh)) : zk_Ab X (zs_W S h) 0 0 62 [(0, .ref (S.1 8)), (1, .int x1), (2, .long x2)] [] := by
  unfold f_Tk_readNumber_62 at e
  refine zk_lload_n C kd_Tk_readNumber_62 rfl 2 rfl rfl ?_
  refine zk_l2i C kd_Tk_readNumber_63 rfl ?_
  refine zk_istore (lv' := [(4, _), (0, _), (1, _), (2, _)]) C kd_Tk_readNumber_64 (by decide) rfl rfl ?_
  refine zk_iload_n C kd_Tk_readNumber_66 rfl 2 rfl rfl ?_
  refine zk_iconst (v := 1) C kd_Tk_readNumber_67 (by decide) rfl ?_
  refine zk_iadd C kd_Tk_readNumber_68 rfl ?_
  refine zk_istore (lv' := [(5, _), (4, _), (0, _), (1, _), (2, _)]) C kd_Tk_readNumber_69 (by decide) rfl rfl ?_
  refine zk_aload_n C kd_Tk_readNumber_71 rfl 2 rfl rfl ?_
  refine zk_iload C kd_Tk_readNumber_72 0 rfl rfl ?_
  refine zk_iload C kd_Tk_readNumber_74 1 rfl rfl ?_
  obtain ⟨v2, c1, e⟩ := zd_b e
  refine zs_callV (k := 8) (rn := { frames := 2, cells := 0, slots := 0, locals := 41 }) (As := [.int (x1 + 1), .int (x2.toInt32)]) (rest := []) C (zc_Tk_digitsEnd h (x1 + 1) (x2.toInt32) c1) ku_Tk_digitsEnd kw746 kv_Tk_digitsEnd rfl ⟨by decide, by decide⟩ ⟨by decide, by decide⟩ rfl rfl rfl (Nat.le_of_ble_eq_true rfl) kd_Tk_readNumber_76 rfl (c1 := 0) (s1 := 0) rfl rfl (fun v w hp => ?_)
  obtain ⟨rfl, rfl⟩ := hp
  refine zk_stk (r' := [.int v2]) rfl ?_
  refine zk_istore_n (lv' := [(1, _), (5, _), (4, _), (0, _), (2, _)]) C kd_Tk_readNumber_79 rfl (by decide) rfl rfl ?_
  refine zk_iload_n C kd_Tk_readNumber_80 rfl 0 rfl rfl ?_
  refine zk_iload C kd_Tk_readNumber_81 1 rfl rfl ?_
  refine zk_icmp_ne (tgt := 94) C kd_Tk_readNumber_83 (by decide) rfl (fun b3 => ?_) (fun b3 => ?_)
  · replace e := zd_neg b3 e
    refine zk_aload_n C kd_Tk_readNumber_94 rfl 3 rfl rfl ?_
    refine zk_iload_n C kd_Tk_readNumber_95 rfl 0 rfl rfl ?_
    refine zk_aload_n C kd_Tk_readNumber_96 rfl 3 rfl rfl ?_
    refine zk_iload C kd_Tk_readNumber_97 1 rfl rfl ?_
    refine zk_iload_n C kd_Tk_readNumber_99 rfl 0 rfl rfl ?_
    refine zk_iload C kd_Tk_readNumber_100 2 rfl rfl ?_
    obtain ⟨v5, c4, e⟩ := zd_b e
    refine zs_callV (k := 8) (rn := { frames := 2, cells := 0, slots := 0, locals := 41 }) (As := [.int (x1 + 1), .int v2, .int (x2.toInt32)]) (rest := [.int v2, .ref (S.1 8)]) C (zc_Tk_meaning h (x1 + 1) v2 (x2.toInt32) c4) ku_Tk_meaning kw754 kv_Tk_meaning rfl ⟨by decide, by decide⟩ ⟨by decide, by decide⟩ rfl rfl rfl (Nat.le_of_ble_eq_true rfl) kd_Tk_readNumber_102 rfl (c1 := 0) (s1 := 0) rfl rfl (fun v w hp => ?_)
    obtain ⟨rfl, rfl⟩ := hp
    refine zk_stk (r' := [.long v5, .int v2, .ref (S.1 8)]) rfl ?_
    obtain ⟨v7, h8, c6, e⟩ := zd_Be e
    refine zs_callV (k := 8) (rn := { frames := 2, cells := 0, slots := 0, locals := 45 }) (As := [.int v2, .long v5]) (rest := []) C (zc_Tk_finishNumber h v2 v5 c6) ku_Tk_finishNumber kw762 kv_Tk_finishNumber rfl ⟨by decide, by decide⟩ ⟨by decide, by decide⟩ rfl rfl rfl (Nat.le_of_ble_eq_true rfl) kd_Tk_readNumber_105 rfl (c1 := 0) (s1 := 0) rfl rfl (fun v w hp => ?_)
    obtain ⟨rfl, rfl, z9⟩ := hp
    refine zk_stk (r' := [.int v7]) rfl ?_
    exact zk_zret C hR (zd_nb z9) kd_Tk_readNumber_108 rfl rfl (zd_rZS z9 e)
  · replace e := zd_pos b3 e
    refine zk_aload_n C kd_Tk_readNumber_86 rfl 3 rfl rfl ?_
    refine zk_iconst (v := 4) C kd_Tk_readNumber_87 (by decide) rfl ?_
    obtain ⟨v11, h12, c10, e⟩ := zd_Be e
    refine zs_callV (k := 8) (rn := { frames := 1, cells := 0, slots := 0, locals := 22 }) (As := [.int 4]) (rest := []) C (zc_Tk_refuse h 4 c10) ku_Tk_refuse kw730 kv_Tk_refuse rfl ⟨by decide, by decide⟩ ⟨by decide, by decide⟩ rfl rfl rfl (Nat.le_of_ble_eq_true rfl) kd_Tk_readNumber_88 rfl (c1 := 0) (s1 := 0) rfl rfl (fun v w hp => ?_)
    obtain ⟨rfl, rfl, z13⟩ := hp
    refine zk_stk (r' := [.int v11]) rfl ?_
    refine zk_goto (tgt := 108) C kd_Tk_readNumber_91 (by decide) ?_
    exact zk_zret C hR (zd_nb z13) kd_Tk_readNumber_108 rfl rfl (zd_rZS z13 e)
set_option maxHeartbeats 4000000 in
set_option maxRecDepth 100000 in
theorem zc_Tk_readNumber {l : Launch} {D : va_G} {sz0 : Nat} {S : zs_T} {P : ze_T} (h : zs_H) {rv : Int32} {rh : zs_H} (e : f_Tk_readNumber h = some (rv, rh)) : zk_Sp (zs_G S l D sz0) (ze_E P) km_Tk_readNumber { frames := 3, cells := 0, slots := 0, locals := 68 } [.ref (S.1 8)] (zs_W S h) (zd_PZ S rv rh) := by
  refine zk_met ku_Tk_readNumber (Nat.le_of_ble_eq_true rfl) (ze_Em P) ?_
  intro X C hR
  refine zk_lvs (lv' := [(0, .ref (S.1 8))]) [0] rfl ?_
  unfold f_Tk_readNumber at e
  refine zk_aload_n C kd_Tk_readNumber_0 rfl 0 rfl rfl ?_
  refine zk_aload_n C kd_Tk_readNumber_1 rfl 0 rfl rfl ?_
  refine zs_get (v := .int (h.1 8 7)) C 8 7 rfl rfl rfl rfl ki_Tk (by decide) kw129 kd_Tk_readNumber_2 rfl ?_
  refine zk_bipush (v := 10) C kd_Tk_readNumber_5 (by decide) rfl ?_
  obtain ⟨v2, c1, e⟩ := zd_b e
  refine zs_callV (k := 8) (rn := { frames := 2, cells := 0, slots := 0, locals := 41 }) (As := [.int (h.1 8 7), .int 10]) (rest := []) C (zc_Tk_digitsEnd h (h.1 8 7) 10 c1) ku_Tk_digitsEnd kw746 kv_Tk_digitsEnd rfl ⟨by decide, by decide⟩ ⟨by decide, by decide⟩ rfl rfl rfl (Nat.le_of_ble_eq_true rfl) kd_Tk_readNumber_7 rfl (c1 := 0) (s1 := 0) rfl rfl (fun v w hp => ?_)
  obtain ⟨rfl, rfl⟩ := hp
  refine zk_stk (r' := [.int v2]) rfl ?_
  refine zk_istore_n (lv' := [(1, _), (0, _)]) C kd_Tk_readNumber_10 rfl (by decide) rfl rfl ?_
  refine zk_aload_n C kd_Tk_readNumber_11 rfl 1 rfl rfl ?_
  refine zk_aload_n C kd_Tk_readNumber_12 rfl 1 rfl rfl ?_
  refine zs_get (v := .int (h.1 8 7)) C 8 7 rfl rfl rfl rfl ki_Tk (by decide) kw129 kd_Tk_readNumber_13 rfl ?_
  refine zk_iload_n C kd_Tk_readNumber_16 rfl 0 rfl rfl ?_
  refine zk_bipush (v := 10) C kd_Tk_readNumber_17 (by decide) rfl ?_
  obtain ⟨v4, c3, e⟩ := zd_b e
  refine zs_callV (k := 8) (rn := { frames := 2, cells := 0, slots := 0, locals := 41 }) (As := [.int (h.1 8 7), .int v2, .int 10]) (rest := []) C (zc_Tk_meaning h (h.1 8 7) v2 10 c3) ku_Tk_meaning kw754 kv_Tk_meaning rfl ⟨by decide, by decide⟩ ⟨by decide, by decide⟩ rfl rfl rfl (Nat.le_of_ble_eq_true rfl) kd_Tk_readNumber_19 rfl (c1 := 0) (s1 := 0) rfl rfl (fun v w hp => ?_)
  obtain ⟨rfl, rfl⟩ := hp
  refine zk_stk (r' := [.long v4]) rfl ?_
  refine zk_lstore_n (lv' := [(2, _), (1, _), (0, _)]) C kd_Tk_readNumber_22 rfl (by decide) rfl rfl ?_
  refine zk_aload_n C kd_Tk_readNumber_23 rfl 2 rfl rfl ?_
  refine zk_iload_n C kd_Tk_readNumber_24 rfl 1 rfl rfl ?_
  obtain ⟨v6, c5, e⟩ := zd_b e
  refine zs_callV (k := 8) (rn := { frames := 0, cells := 0, slots := 0, locals := 0 }) (As := [.int v2]) (rest := []) C (zc_Tk_peek h v2 c5) ku_Tk_peek kw722 kv_Tk_peek rfl ⟨by decide, by decide⟩ ⟨by decide, by decide⟩ rfl rfl rfl (Nat.le_of_ble_eq_true rfl) kd_Tk_readNumber_25 rfl (c1 := 0) (s1 := 0) rfl rfl (fun v w hp => ?_)
  obtain ⟨rfl, rfl⟩ := hp
  refine zk_stk (r' := [.int v6]) rfl ?_
  refine zk_bipush (v := 35) C kd_Tk_readNumber_28 (by decide) rfl ?_
  refine zk_icmp_eq (tgt := 40) C kd_Tk_readNumber_30 (by decide) rfl (fun b7 => ?_) (fun b7 => ?_)
  · replace e := zd_pos b7 e
    refine zk_lload_n C kd_Tk_readNumber_40 rfl 0 rfl rfl ?_
    refine zk_ldc2 (v := 16) C kw789 kd_Tk_readNumber_41 rfl ?_
    refine zk_lcmp C kd_Tk_readNumber_44 rfl ?_
    refine zk_if_eq (tgt := 62) C kd_Tk_readNumber_45 (by decide) rfl (fun b8 => ?_) (fun b8 => ?_)
    · replace e := zd_pos (zd_ceq.mp b8) e
      refine zk_lvs (lv' := [(0, .ref (S.1 8)), (1, .int v2), (2, .long v4)]) [2, 1, 0] rfl ?_
      exact zb_Tk_readNumber_62 C hR h v2 v4 e
    · replace e := zd_neg (fun z => b8 (zd_ceq.mpr z)) e
      refine zk_lload_n C kd_Tk_readNumber_48 rfl 0 rfl rfl ?_
      refine zk_ldc2 (v := 2) C kw790 kd_Tk_readNumber_49 rfl ?_
      refine zk_lcmp C kd_Tk_readNumber_52 rfl ?_
      refine zk_if_eq (tgt := 62) C kd_Tk_readNumber_53 (by decide) rfl (fun b9 => ?_) (fun b9 => ?_)
      · replace e := zd_pos (zd_ceq.mp b9) e
        refine zk_lvs (lv' := [(0, .ref (S.1 8)), (1, .int v2), (2, .long v4)]) [2, 1, 0] rfl ?_
        exact zb_Tk_readNumber_62 C hR h v2 v4 e
      · replace e := zd_neg (fun z => b9 (zd_ceq.mpr z)) e
        refine zk_aload_n C kd_Tk_readNumber_56 rfl 2 rfl rfl ?_
        refine zk_iconst (v := 4) C kd_Tk_readNumber_57 (by decide) rfl ?_
        obtain ⟨v11, h12, c10, e⟩ := zd_Be e
        refine zs_callV (k := 8) (rn := { frames := 1, cells := 0, slots := 0, locals := 22 }) (As := [.int 4]) (rest := []) C (zc_Tk_refuse h 4 c10) ku_Tk_refuse kw730 kv_Tk_refuse rfl ⟨by decide, by decide⟩ ⟨by decide, by decide⟩ rfl rfl rfl (Nat.le_of_ble_eq_true rfl) kd_Tk_readNumber_58 rfl (c1 := 0) (s1 := 0) rfl rfl (fun v w hp => ?_)
        obtain ⟨rfl, rfl, z13⟩ := hp
        refine zk_stk (r' := [.int v11]) rfl ?_
        exact zk_zret C hR (zd_nb z13) kd_Tk_readNumber_61 rfl rfl (zd_rZS z13 e)
  · replace e := zd_neg b7 e
    refine zk_aload_n C kd_Tk_readNumber_33 rfl 2 rfl rfl ?_
    refine zk_iload_n C kd_Tk_readNumber_34 rfl 1 rfl rfl ?_
    refine zk_lload_n C kd_Tk_readNumber_35 rfl 0 rfl rfl ?_
    obtain ⟨v15, h16, c14, e⟩ := zd_Be e
    refine zs_callV (k := 8) (rn := { frames := 2, cells := 0, slots := 0, locals := 45 }) (As := [.int v2, .long v4]) (rest := []) C (zc_Tk_finishNumber h v2 v4 c14) ku_Tk_finishNumber kw762 kv_Tk_finishNumber rfl ⟨by decide, by decide⟩ ⟨by decide, by decide⟩ rfl rfl rfl (Nat.le_of_ble_eq_true rfl) kd_Tk_readNumber_36 rfl (c1 := 0) (s1 := 0) rfl rfl (fun v w hp => ?_)
    obtain ⟨rfl, rfl, z17⟩ := hp
    refine zk_stk (r' := [.int v15]) rfl ?_
    exact zk_zret C hR (zd_nb z17) kd_Tk_readNumber_39 rfl rfl (zd_rZS z17 e)
set_option maxHeartbeats 4000000 in
set_option maxRecDepth 100000 in
theorem zb_Tk_readPlace_90 {X : zkj_T} {S : zs_T} {P : ze_T} {l : Launch} {D : va_G} {sz0 : Nat} {rv : Int32} {rh : zs_H} (C : zk_C X km_Tk_readPlace (zs_G S l D sz0) { frames := 4, cells := 0, slots := 0, locals := 91 } (ze_E P)) (hR : zkj_R X (zd_PZ S rv rh) (some .boolean)) (h : zs_H) (e : f_Tk_readPlace_90 h = some (rv, rh)) : zk_Ab X (zs_W S h) 0 0 90 [(0, .ref (S.1 8))] [] := by
  unfold f_Tk_readPlace_90 at e
  refine zk_aload_n C kd_Tk_readPlace_90 rfl 0 rfl rfl ?_
  refine zk_iconst (v := 5) C kd_Tk_readPlace_91 (by decide) rfl ?_
  obtain ⟨v2, h3, c1, e⟩ := zd_Be e
  refine zs_callV (k := 8) (rn := { frames := 1, cells := 0, slots := 0, locals := 22 }) (As := [.int 5]) (rest := []) C (zc_Tk_refuse h 5 c1) ku_Tk_refuse kw730 kv_Tk_refuse rfl ⟨by decide, by decide⟩ ⟨by decide, by decide⟩ rfl rfl rfl (Nat.le_of_ble_eq_true rfl) kd_Tk_readPlace_92 rfl (c1 := 0) (s1 := 0) rfl rfl (fun v w hp => ?_)
  obtain ⟨rfl, rfl, z4⟩ := hp
  refine zk_stk (r' := [.int v2]) rfl ?_
  exact zk_zret C hR (zd_nb z4) kd_Tk_readPlace_95 rfl rfl (zd_rZS z4 e)
set_option maxHeartbeats 4000000 in
set_option maxRecDepth 100000 in
theorem zb_Tk_readPlace_125 {X : zkj_T} {S : zs_T} {P : ze_T} {l : Launch} {D : va_G} {sz0 : Nat} {rv : Int32} {rh : zs_H} (C : zk_C X km_Tk_readPlace (zs_G S l D sz0) { frames := 4, cells := 0, slots := 0, locals := 91 } (ze_E P)) (hR : zkj_R X (zd_PZ S rv rh) (some .boolean)) (h : zs_H) (x1 : Int32) (x2 : Int32) (x3 : Int32) (x4 : Int64) (y0 : Int32) (y1 : Int64) (e : f_Tk_readPlace_125 h x1 x2 x3 x4 y0 y1 = some (rv, rh)) : zk_Ab X (zs_W S h) 0 0 125 [(0, .ref (S.1 8)), (1, .int x1), (2, .int x2), (3, .int x3), (4, .long x4)] [.int y0, .long y1] := by
  unfold f_Tk_readPlace_125 at e
  refine zk_i2l C kd_Tk_readPlace_125 rfl ?_
  refine zk_lcmp C kd_Tk_readPlace_126 rfl ?_
  refine zk_if_le (tgt := 136) C kd_Tk_readPlace_127 (by decide) rfl (fun b1 => ?_) (fun b1 => ?_)
  · replace e := zd_pos (zd_cle.mp b1) e
    refine zk_aload_n C kd_Tk_readPlace_136 rfl 0 rfl rfl ?_
    refine zk_bipush (v := 10) C kd_Tk_readPlace_137 (by decide) rfl ?_
    refine zk_iload_n C kd_Tk_readPlace_139 rfl 3 rfl rfl ?_
    refine zk_sipush (v := 256) C kd_Tk_readPlace_140 (by decide) rfl ?_
    refine zk_iload_n C kd_Tk_readPlace_143 rfl 1 rfl rfl ?_
    refine zk_iconst (v := 3) C kd_Tk_readPlace_144 (by decide) rfl ?_
    refine zk_iload_n C kd_Tk_readPlace_145 rfl 2 rfl rfl ?_
    refine zk_imul C kd_Tk_readPlace_146 rfl ?_
    refine zk_iadd C kd_Tk_readPlace_147 rfl ?_
    refine zk_imul C kd_Tk_readPlace_148 rfl ?_
    refine zk_lload C kd_Tk_readPlace_149 4 rfl rfl ?_
    refine zk_l2i C kd_Tk_readPlace_151 rfl ?_
    refine zk_iadd C kd_Tk_readPlace_152 rfl ?_
    obtain ⟨v3, h4, c2, e⟩ := zd_Be e
    refine zs_callV (k := 8) (rn := { frames := 1, cells := 0, slots := 0, locals := 22 }) (As := [.int 10, .int x3, .int ((256 * (x1 + (3 * x2))) + (x4.toInt32))]) (rest := []) C (zc_Tk_finish h 10 x3 ((256 * (x1 + (3 * x2))) + (x4.toInt32)) c2) ku_Tk_finish kw773 kv_Tk_finish rfl ⟨by decide, by decide⟩ ⟨by decide, by decide⟩ rfl rfl rfl (Nat.le_of_ble_eq_true rfl) kd_Tk_readPlace_153 rfl (c1 := 0) (s1 := 0) rfl rfl (fun v w hp => ?_)
    obtain ⟨rfl, rfl, z5⟩ := hp
    refine zk_stk (r' := [.int v3]) rfl ?_
    exact zk_zret C hR (zd_nb z5) kd_Tk_readPlace_156 rfl rfl (zd_rZS z5 e)
  · replace e := zd_neg (fun z => b1 (zd_cle.mpr z)) e
    refine zk_aload_n C kd_Tk_readPlace_130 rfl 0 rfl rfl ?_
    refine zk_iconst (v := 5) C kd_Tk_readPlace_131 (by decide) rfl ?_
    obtain ⟨v7, h8, c6, e⟩ := zd_Be e
    refine zs_callV (k := 8) (rn := { frames := 1, cells := 0, slots := 0, locals := 22 }) (As := [.int 5]) (rest := []) C (zc_Tk_refuse h 5 c6) ku_Tk_refuse kw730 kv_Tk_refuse rfl ⟨by decide, by decide⟩ ⟨by decide, by decide⟩ rfl rfl rfl (Nat.le_of_ble_eq_true rfl) kd_Tk_readPlace_132 rfl (c1 := 0) (s1 := 0) rfl rfl (fun v w hp => ?_)
    obtain ⟨rfl, rfl, z9⟩ := hp
    refine zk_stk (r' := [.int v7]) rfl ?_
    exact zk_zret C hR (zd_nb z9) kd_Tk_readPlace_135 rfl rfl (zd_rZS z9 e)
set_option maxHeartbeats 4000000 in
set_option maxRecDepth 100000 in
theorem zc_Tk_readPlace {l : Launch} {D : va_G} {sz0 : Nat} {S : zs_T} {P : ze_T} (h : zs_H) {rv : Int32} {rh : zs_H} (e : f_Tk_readPlace h = some (rv, rh)) : zk_Sp (zs_G S l D sz0) (ze_E P) km_Tk_readPlace { frames := 4, cells := 0, slots := 0, locals := 91 } [.ref (S.1 8)] (zs_W S h) (zd_PZ S rv rh) := by
  refine zk_met ku_Tk_readPlace (Nat.le_of_ble_eq_true rfl) (ze_Em P) ?_
  intro X C hR
  refine zk_lvs (lv' := [(0, .ref (S.1 8))]) [0] rfl ?_
  unfold f_Tk_readPlace at e
  refine ze_ldcS (i := 4) C (zd_str 4 rfl) kd_Tk_readPlace_0 rfl ?_
  refine zk_iconst (v := 0) C kd_Tk_readPlace_2 (by decide) rfl ?_
  refine zk_aload_n C kd_Tk_readPlace_3 rfl 0 rfl rfl ?_
  refine zk_aload_n C kd_Tk_readPlace_4 rfl 0 rfl rfl ?_
  refine zs_get (v := .int (h.1 8 7)) C 8 7 rfl rfl rfl rfl ki_Tk (by decide) kw129 kd_Tk_readPlace_5 rfl ?_
  refine zk_iconst (v := 1) C kd_Tk_readPlace_8 (by decide) rfl ?_
  refine zk_iadd C kd_Tk_readPlace_9 rfl ?_
  obtain ⟨v2, c1, e⟩ := zd_b e
  refine zs_callV (k := 8) (rn := { frames := 0, cells := 0, slots := 0, locals := 0 }) (As := [.int ((h.1 8 7) + 1)]) (rest := [.int 0, .ref (P.1 4)]) C (zc_Tk_peek h ((h.1 8 7) + 1) c1) ku_Tk_peek kw722 kv_Tk_peek rfl ⟨by decide, by decide⟩ ⟨by decide, by decide⟩ rfl rfl rfl (Nat.le_of_ble_eq_true rfl) kd_Tk_readPlace_10 rfl (c1 := 0) (s1 := 0) rfl rfl (fun v w hp => ?_)
  obtain ⟨rfl, rfl⟩ := hp
  refine zk_stk (r' := [.int v2, .int 0, .ref (P.1 4)]) rfl ?_
  refine zk_mmax C kw796 kw797 kw19 (by decide) (Nat.le_of_ble_eq_true rfl) (Nat.le_refl _) (Nat.le_refl _) kd_Tk_readPlace_13 rfl ?_
  refine zk_callS (rn := { frames := 0, cells := 0, slots := 0, locals := 0 }) (As := [.int (zd_max 0 v2)]) (rest := [.ref (P.1 4)]) C (zc_Nm_great h (zd_max 0 v2)) ku_Nm_great kw753 ks_Nm_great rfl ⟨by decide, by decide⟩ ⟨by decide, by decide⟩ rfl (Nat.le_of_ble_eq_true rfl) kd_Tk_readPlace_16 rfl (c1 := 0) (s1 := 0) rfl rfl (fun v w hp => ?_)
  obtain ⟨rfl, rfl⟩ := hp
  refine zk_stk (r' := [.int (f_Nm_great (zd_max 0 v2)), .ref (P.1 4)]) rfl ?_
  refine zk_i2c C kd_Tk_readPlace_19 rfl ?_
  obtain ⟨v4, c3, e⟩ := zd_b e
  refine ze_callStr (i := 4) (rn := { frames := 3, cells := 0, slots := 0, locals := 70 }) (As := [.int (((f_Nm_great (zd_max 0 v2)).toUInt32 % 65536).toInt32)]) (rest := []) C (zc_St_indexOf_s4 h (((f_Nm_great (zd_max 0 v2)).toUInt32 % 65536).toInt32) c3) ku_St_indexOf kw799 kv_St_indexOf (by decide) rfl rfl ⟨by decide, by decide⟩ ⟨by decide, by decide⟩ rfl (Nat.le_of_ble_eq_true rfl) kd_Tk_readPlace_20 rfl (c1 := 0) (s1 := 0) rfl rfl (fun v w hp => ?_)
  obtain ⟨rfl, rfl⟩ := hp
  refine zk_stk (r' := [.int v4]) rfl ?_
  refine zk_istore_n (lv' := [(1, _), (0, _)]) C kd_Tk_readPlace_23 rfl (by decide) rfl rfl ?_
  refine ze_ldcS (i := 5) C (zd_str 5 rfl) kd_Tk_readPlace_24 rfl ?_
  refine zk_iconst (v := 0) C kd_Tk_readPlace_26 (by decide) rfl ?_
  refine zk_aload_n C kd_Tk_readPlace_27 rfl 1 rfl rfl ?_
  refine zk_aload_n C kd_Tk_readPlace_28 rfl 1 rfl rfl ?_
  refine zs_get (v := .int (h.1 8 7)) C 8 7 rfl rfl rfl rfl ki_Tk (by decide) kw129 kd_Tk_readPlace_29 rfl ?_
  refine zk_iconst (v := 2) C kd_Tk_readPlace_32 (by decide) rfl ?_
  refine zk_iadd C kd_Tk_readPlace_33 rfl ?_
  obtain ⟨v6, c5, e⟩ := zd_b e
  refine zs_callV (k := 8) (rn := { frames := 0, cells := 0, slots := 0, locals := 0 }) (As := [.int ((h.1 8 7) + 2)]) (rest := [.int 0, .ref (P.1 5)]) C (zc_Tk_peek h ((h.1 8 7) + 2) c5) ku_Tk_peek kw722 kv_Tk_peek rfl ⟨by decide, by decide⟩ ⟨by decide, by decide⟩ rfl rfl rfl (Nat.le_of_ble_eq_true rfl) kd_Tk_readPlace_34 rfl (c1 := 0) (s1 := 0) rfl rfl (fun v w hp => ?_)
  obtain ⟨rfl, rfl⟩ := hp
  refine zk_stk (r' := [.int v6, .int 0, .ref (P.1 5)]) rfl ?_
  refine zk_mmax C kw796 kw797 kw19 (by decide) (Nat.le_of_ble_eq_true rfl) (Nat.le_refl _) (Nat.le_refl _) kd_Tk_readPlace_37 rfl ?_
  refine zk_callS (rn := { frames := 0, cells := 0, slots := 0, locals := 0 }) (As := [.int (zd_max 0 v6)]) (rest := [.ref (P.1 5)]) C (zc_Nm_great h (zd_max 0 v6)) ku_Nm_great kw753 ks_Nm_great rfl ⟨by decide, by decide⟩ ⟨by decide, by decide⟩ rfl (Nat.le_of_ble_eq_true rfl) kd_Tk_readPlace_40 rfl (c1 := 0) (s1 := 0) rfl rfl (fun v w hp => ?_)
  obtain ⟨rfl, rfl⟩ := hp
  refine zk_stk (r' := [.int (f_Nm_great (zd_max 0 v6)), .ref (P.1 5)]) rfl ?_
  refine zk_i2c C kd_Tk_readPlace_43 rfl ?_
  obtain ⟨v8, c7, e⟩ := zd_b e
  refine ze_callStr (i := 5) (rn := { frames := 3, cells := 0, slots := 0, locals := 70 }) (As := [.int (((f_Nm_great (zd_max 0 v6)).toUInt32 % 65536).toInt32)]) (rest := []) C (zc_St_indexOf_s5 h (((f_Nm_great (zd_max 0 v6)).toUInt32 % 65536).toInt32) c7) ku_St_indexOf kw799 kv_St_indexOf (by decide) rfl rfl ⟨by decide, by decide⟩ ⟨by decide, by decide⟩ rfl (Nat.le_of_ble_eq_true rfl) kd_Tk_readPlace_44 rfl (c1 := 0) (s1 := 0) rfl rfl (fun v w hp => ?_)
  obtain ⟨rfl, rfl⟩ := hp
  refine zk_stk (r' := [.int v8]) rfl ?_
  refine zk_istore_n (lv' := [(2, _), (1, _), (0, _)]) C kd_Tk_readPlace_47 rfl (by decide) rfl rfl ?_
  refine zk_aload_n C kd_Tk_readPlace_48 rfl 2 rfl rfl ?_
  refine zk_aload_n C kd_Tk_readPlace_49 rfl 2 rfl rfl ?_
  refine zs_get (v := .int (h.1 8 7)) C 8 7 rfl rfl rfl rfl ki_Tk (by decide) kw129 kd_Tk_readPlace_50 rfl ?_
  refine zk_iconst (v := 3) C kd_Tk_readPlace_53 (by decide) rfl ?_
  refine zk_iadd C kd_Tk_readPlace_54 rfl ?_
  refine zk_bipush (v := 10) C kd_Tk_readPlace_55 (by decide) rfl ?_
  obtain ⟨v10, c9, e⟩ := zd_b e
  refine zs_callV (k := 8) (rn := { frames := 2, cells := 0, slots := 0, locals := 41 }) (As := [.int ((h.1 8 7) + 3), .int 10]) (rest := []) C (zc_Tk_digitsEnd h ((h.1 8 7) + 3) 10 c9) ku_Tk_digitsEnd kw746 kv_Tk_digitsEnd rfl ⟨by decide, by decide⟩ ⟨by decide, by decide⟩ rfl rfl rfl (Nat.le_of_ble_eq_true rfl) kd_Tk_readPlace_57 rfl (c1 := 0) (s1 := 0) rfl rfl (fun v w hp => ?_)
  obtain ⟨rfl, rfl⟩ := hp
  refine zk_stk (r' := [.int v10]) rfl ?_
  refine zk_istore_n (lv' := [(3, _), (2, _), (1, _), (0, _)]) C kd_Tk_readPlace_60 rfl (by decide) rfl rfl ?_
  refine zk_iload_n C kd_Tk_readPlace_61 rfl 2 rfl rfl ?_
  refine zk_if_lt (tgt := 90) C kd_Tk_readPlace_62 (by decide) rfl (fun b11 => ?_) (fun b11 => ?_)
  · replace e := zd_pos b11 e
    refine zk_lvs (lv' := [(0, .ref (S.1 8))]) [3] rfl ?_
    exact zb_Tk_readPlace_90 C hR h e
  · replace e := zd_neg b11 e
    refine zk_iload_n C kd_Tk_readPlace_65 rfl 1 rfl rfl ?_
    refine zk_if_lt (tgt := 90) C kd_Tk_readPlace_66 (by decide) rfl (fun b12 => ?_) (fun b12 => ?_)
    · replace e := zd_pos b12 e
      refine zk_lvs (lv' := [(0, .ref (S.1 8))]) [3] rfl ?_
      exact zb_Tk_readPlace_90 C hR h e
    · replace e := zd_neg b12 e
      refine zk_iload_n C kd_Tk_readPlace_69 rfl 0 rfl rfl ?_
      refine zk_aload_n C kd_Tk_readPlace_70 rfl 3 rfl rfl ?_
      refine zs_get (v := .int (h.1 8 7)) C 8 7 rfl rfl rfl rfl ki_Tk (by decide) kw129 kd_Tk_readPlace_71 rfl ?_
      refine zk_iconst (v := 3) C kd_Tk_readPlace_74 (by decide) rfl ?_
      refine zk_iadd C kd_Tk_readPlace_75 rfl ?_
      refine zk_icmp_eq (tgt := 90) C kd_Tk_readPlace_76 (by decide) rfl (fun b13 => ?_) (fun b13 => ?_)
      · replace e := zd_pos b13 e
        refine zk_lvs (lv' := [(0, .ref (S.1 8))]) [3] rfl ?_
        exact zb_Tk_readPlace_90 C hR h e
      · replace e := zd_neg b13 e
        refine zk_aload_n C kd_Tk_readPlace_79 rfl 3 rfl rfl ?_
        refine zk_iload_n C kd_Tk_readPlace_80 rfl 0 rfl rfl ?_
        obtain ⟨v15, c14, e⟩ := zd_b e
        refine zs_callV (k := 8) (rn := { frames := 0, cells := 0, slots := 0, locals := 0 }) (As := [.int v10]) (rest := []) C (zc_Tk_peek h v10 c14) ku_Tk_peek kw722 kv_Tk_peek rfl ⟨by decide, by decide⟩ ⟨by decide, by decide⟩ rfl rfl rfl (Nat.le_of_ble_eq_true rfl) kd_Tk_readPlace_81 rfl (c1 := 0) (s1 := 0) rfl rfl (fun v w hp => ?_)
        obtain ⟨rfl, rfl⟩ := hp
        refine zk_stk (r' := [.int v15]) rfl ?_
        refine zk_callS (rn := { frames := 1, cells := 0, slots := 0, locals := 20 }) (As := [.int v15]) (rest := []) C (zc_Nm_isPart h v15) ku_Nm_isPart kw766 ks_Nm_isPart rfl ⟨by decide, by decide⟩ ⟨by decide, by decide⟩ rfl (Nat.le_of_ble_eq_true rfl) kd_Tk_readPlace_84 rfl (c1 := 0) (s1 := 0) rfl rfl (fun v w hp => ?_)
        obtain ⟨rfl, rfl, z16⟩ := hp
        refine zk_stk (r' := [.int (f_Nm_isPart v15)]) rfl ?_
        refine zk_if_eq (tgt := 96) C kd_Tk_readPlace_87 (by decide) rfl (fun b17 => ?_) (fun b17 => ?_)
        · replace e := zd_pos b17 e
          refine zk_aload_n C kd_Tk_readPlace_96 rfl 3 rfl rfl ?_
          refine zk_aload_n C kd_Tk_readPlace_97 rfl 3 rfl rfl ?_
          refine zs_get (v := .int (h.1 8 7)) C 8 7 rfl rfl rfl rfl ki_Tk (by decide) kw129 kd_Tk_readPlace_98 rfl ?_
          refine zk_iconst (v := 3) C kd_Tk_readPlace_101 (by decide) rfl ?_
          refine zk_iadd C kd_Tk_readPlace_102 rfl ?_
          refine zk_iload_n C kd_Tk_readPlace_103 rfl 0 rfl rfl ?_
          refine zk_bipush (v := 10) C kd_Tk_readPlace_104 (by decide) rfl ?_
          obtain ⟨v19, c18, e⟩ := zd_b e
          refine zs_callV (k := 8) (rn := { frames := 2, cells := 0, slots := 0, locals := 41 }) (As := [.int ((h.1 8 7) + 3), .int v10, .int 10]) (rest := []) C (zc_Tk_meaning h ((h.1 8 7) + 3) v10 10 c18) ku_Tk_meaning kw754 kv_Tk_meaning rfl ⟨by decide, by decide⟩ ⟨by decide, by decide⟩ rfl rfl rfl (Nat.le_of_ble_eq_true rfl) kd_Tk_readPlace_106 rfl (c1 := 0) (s1 := 0) rfl rfl (fun v w hp => ?_)
          obtain ⟨rfl, rfl⟩ := hp
          refine zk_stk (r' := [.long v19]) rfl ?_
          refine zk_lstore (lv' := [(4, _), (3, _), (2, _), (1, _), (0, _)]) C kd_Tk_readPlace_109 (by decide) rfl rfl ?_
          refine zk_lload C kd_Tk_readPlace_111 0 rfl rfl ?_
          refine zk_iload_n C kd_Tk_readPlace_113 rfl 2 rfl rfl ?_
          refine zk_if_ne (tgt := 123) C kd_Tk_readPlace_114 (by decide) rfl (fun b20 => ?_) (fun b20 => ?_)
          · replace e := zd_neg b20 e
            refine zk_bipush (v := 63) C kd_Tk_readPlace_123 (by decide) rfl ?_
            refine zk_lvs (lv' := [(0, .ref (S.1 8)), (1, .int v4), (2, .int v8), (3, .int v10), (4, .long v19)]) [4, 3, 2, 1, 0] rfl ?_
            exact zb_Tk_readPlace_125 C hR h v4 v8 v10 v19 63 v19 e
          · replace e := zd_pos b20 e
            refine zk_sipush (v := 255) C kd_Tk_readPlace_117 (by decide) rfl ?_
            refine zk_goto (tgt := 125) C kd_Tk_readPlace_120 (by decide) ?_
            refine zk_lvs (lv' := [(0, .ref (S.1 8)), (1, .int v4), (2, .int v8), (3, .int v10), (4, .long v19)]) [4, 3, 2, 1, 0] rfl ?_
            exact zb_Tk_readPlace_125 C hR h v4 v8 v10 v19 255 v19 e
        · replace e := zd_neg b17 e
          refine zk_lvs (lv' := [(0, .ref (S.1 8))]) [3] rfl ?_
          exact zb_Tk_readPlace_90 C hR h e
set_option maxHeartbeats 4000000 in
set_option maxRecDepth 100000 in
theorem zb_Tk_readSign_136 {X : zkj_T} {S : zs_T} {P : ze_T} {l : Launch} {D : va_G} {sz0 : Nat} {rv : Int32} {rh : zs_H} (C : zk_C X km_Tk_readSign (zs_G S l D sz0) { frames := 4, cells := 0, slots := 0, locals := 91 } (ze_E P)) (hR : zkj_R X (zd_PZ S rv rh) (some .boolean)) (h : zs_H) (x1 : Int32) (e : f_Tk_readSign_136 h x1 = some (rv, rh)) : zk_Ab X (zs_W S h) 0 0 136 [(0, .ref (S.1 8)), (1, .int x1)] [] := by
  unfold f_Tk_readSign_136 at e
  refine ze_ldcS (i := 6) C (zd_str 6 rfl) kd_Tk_readSign_136 rfl ?_
  refine zk_iload_n C kd_Tk_readSign_138 rfl 1 rfl rfl ?_
  refine zk_i2c C kd_Tk_readSign_139 rfl ?_
  obtain ⟨v2, c1, e⟩ := zd_b e
  refine ze_callStr (i := 6) (rn := { frames := 3, cells := 0, slots := 0, locals := 70 }) (As := [.int ((x1.toUInt32 % 65536).toInt32)]) (rest := []) C (zc_St_indexOf_s6 h ((x1.toUInt32 % 65536).toInt32) c1) ku_St_indexOf kw799 kv_St_indexOf (by decide) rfl rfl ⟨by decide, by decide⟩ ⟨by decide, by decide⟩ rfl (Nat.le_of_ble_eq_true rfl) kd_Tk_readSign_140 rfl (c1 := 0) (s1 := 0) rfl rfl (fun v w hp => ?_)
  obtain ⟨rfl, rfl⟩ := hp
  refine zk_stk (r' := [.int v2]) rfl ?_
  refine zk_if_ge (tgt := 154) C kd_Tk_readSign_143 (by decide) rfl (fun b3 => ?_) (fun b3 => ?_)
  · replace e := zd_pos b3 e
    refine zk_aload_n C kd_Tk_readSign_154 rfl 0 rfl rfl ?_
    refine zk_iload_n C kd_Tk_readSign_155 rfl 1 rfl rfl ?_
    refine zk_aload_n C kd_Tk_readSign_156 rfl 0 rfl rfl ?_
    refine zs_get (v := .int (h.1 8 7)) C 8 7 rfl rfl rfl rfl ki_Tk (by decide) kw129 kd_Tk_readSign_157 rfl ?_
    refine zk_iconst (v := 1) C kd_Tk_readSign_160 (by decide) rfl ?_
    refine zk_iadd C kd_Tk_readSign_161 rfl ?_
    refine zk_iconst (v := 0) C kd_Tk_readSign_162 (by decide) rfl ?_
    obtain ⟨v5, h6, c4, e⟩ := zd_Be e
    refine zs_callV (k := 8) (rn := { frames := 1, cells := 0, slots := 0, locals := 22 }) (As := [.int x1, .int ((h.1 8 7) + 1), .int 0]) (rest := []) C (zc_Tk_finish h x1 ((h.1 8 7) + 1) 0 c4) ku_Tk_finish kw773 kv_Tk_finish rfl ⟨by decide, by decide⟩ ⟨by decide, by decide⟩ rfl rfl rfl (Nat.le_of_ble_eq_true rfl) kd_Tk_readSign_163 rfl (c1 := 0) (s1 := 0) rfl rfl (fun v w hp => ?_)
    obtain ⟨rfl, rfl, z7⟩ := hp
    refine zk_stk (r' := [.int v5]) rfl ?_
    exact zk_zret C hR (zd_nb z7) kd_Tk_readSign_166 rfl rfl (zd_rZS z7 e)
  · replace e := zd_neg b3 e
    refine zk_aload_n C kd_Tk_readSign_146 rfl 0 rfl rfl ?_
    refine zk_iconst (v := 1) C kd_Tk_readSign_147 (by decide) rfl ?_
    obtain ⟨v9, h10, c8, e⟩ := zd_Be e
    refine zs_callV (k := 8) (rn := { frames := 1, cells := 0, slots := 0, locals := 22 }) (As := [.int 1]) (rest := []) C (zc_Tk_refuse h 1 c8) ku_Tk_refuse kw730 kv_Tk_refuse rfl ⟨by decide, by decide⟩ ⟨by decide, by decide⟩ rfl rfl rfl (Nat.le_of_ble_eq_true rfl) kd_Tk_readSign_148 rfl (c1 := 0) (s1 := 0) rfl rfl (fun v w hp => ?_)
    obtain ⟨rfl, rfl, z11⟩ := hp
    refine zk_stk (r' := [.int v9]) rfl ?_
    refine zk_goto (tgt := 166) C kd_Tk_readSign_151 (by decide) ?_
    exact zk_zret C hR (zd_nb z11) kd_Tk_readSign_166 rfl rfl (zd_rZS z11 e)
set_option maxHeartbeats 4000000 in
set_option maxRecDepth 100000 in
theorem zb_Tk_readSign_111 {X : zkj_T} {S : zs_T} {P : ze_T} {l : Launch} {D : va_G} {sz0 : Nat} {rv : Int32} {rh : zs_H} (C : zk_C X km_Tk_readSign (zs_G S l D sz0) { frames := 4, cells := 0, slots := 0, locals := 91 } (ze_E P)) (hR : zkj_R X (zd_PZ S rv rh) (some .boolean)) (h : zs_H) (x1 : Int32) (x2 : Int32) (e : f_Tk_readSign_111 h x1 x2 = some (rv, rh)) : zk_Ab X (zs_W S h) 0 0 111 [(0, .ref (S.1 8)), (1, .int x1), (2, .int x2)] [] := by
  unfold f_Tk_readSign_111 at e
  refine zk_iload_n C kd_Tk_readSign_111 rfl 1 rfl rfl ?_
  refine zk_bipush (v := 60) C kd_Tk_readSign_112 (by decide) rfl ?_
  refine zk_icmp_ne (tgt := 136) C kd_Tk_readSign_114 (by decide) rfl (fun b1 => ?_) (fun b1 => ?_)
  · replace e := zd_neg b1 e
    refine zk_lvs (lv' := [(0, .ref (S.1 8)), (1, .int x1)]) [0, 1] rfl ?_
    exact zb_Tk_readSign_136 C hR h x1 e
  · replace e := zd_pos b1 e
    refine zk_iload_n C kd_Tk_readSign_117 rfl 2 rfl rfl ?_
    refine zk_bipush (v := 62) C kd_Tk_readSign_118 (by decide) rfl ?_
    refine zk_icmp_ne (tgt := 136) C kd_Tk_readSign_120 (by decide) rfl (fun b2 => ?_) (fun b2 => ?_)
    · replace e := zd_neg b2 e
      refine zk_lvs (lv' := [(0, .ref (S.1 8)), (1, .int x1)]) [0, 1] rfl ?_
      exact zb_Tk_readSign_136 C hR h x1 e
    · replace e := zd_pos b2 e
      refine zk_aload_n C kd_Tk_readSign_123 rfl 0 rfl rfl ?_
      refine zk_iconst (v := 5) C kd_Tk_readSign_124 (by decide) rfl ?_
      refine zk_aload_n C kd_Tk_readSign_125 rfl 0 rfl rfl ?_
      refine zs_get (v := .int (h.1 8 7)) C 8 7 rfl rfl rfl rfl ki_Tk (by decide) kw129 kd_Tk_readSign_126 rfl ?_
      refine zk_iconst (v := 2) C kd_Tk_readSign_129 (by decide) rfl ?_
      refine zk_iadd C kd_Tk_readSign_130 rfl ?_
      refine zk_iconst (v := 0) C kd_Tk_readSign_131 (by decide) rfl ?_
      obtain ⟨v4, h5, c3, e⟩ := zd_Be e
      refine zs_callV (k := 8) (rn := { frames := 1, cells := 0, slots := 0, locals := 22 }) (As := [.int 5, .int ((h.1 8 7) + 2), .int 0]) (rest := []) C (zc_Tk_finish h 5 ((h.1 8 7) + 2) 0 c3) ku_Tk_finish kw773 kv_Tk_finish rfl ⟨by decide, by decide⟩ ⟨by decide, by decide⟩ rfl rfl rfl (Nat.le_of_ble_eq_true rfl) kd_Tk_readSign_132 rfl (c1 := 0) (s1 := 0) rfl rfl (fun v w hp => ?_)
      obtain ⟨rfl, rfl, z6⟩ := hp
      refine zk_stk (r' := [.int v4]) rfl ?_
      exact zk_zret C hR (zd_nb z6) kd_Tk_readSign_135 rfl rfl (zd_rZS z6 e)
set_option maxHeartbeats 4000000 in
set_option maxRecDepth 100000 in
theorem zb_Tk_readSign_86 {X : zkj_T} {S : zs_T} {P : ze_T} {l : Launch} {D : va_G} {sz0 : Nat} {rv : Int32} {rh : zs_H} (C : zk_C X km_Tk_readSign (zs_G S l D sz0) { frames := 4, cells := 0, slots := 0, locals := 91 } (ze_E P)) (hR : zkj_R X (zd_PZ S rv rh) (some .boolean)) (h : zs_H) (x1 : Int32) (x2 : Int32) (e : f_Tk_readSign_86 h x1 x2 = some (rv, rh)) : zk_Ab X (zs_W S h) 0 0 86 [(0, .ref (S.1 8)), (1, .int x1), (2, .int x2)] [] := by
  unfold f_Tk_readSign_86 at e
  refine zk_iload_n C kd_Tk_readSign_86 rfl 1 rfl rfl ?_
  refine zk_bipush (v := 62) C kd_Tk_readSign_87 (by decide) rfl ?_
  refine zk_icmp_ne (tgt := 111) C kd_Tk_readSign_89 (by decide) rfl (fun b1 => ?_) (fun b1 => ?_)
  · replace e := zd_neg b1 e
    refine zk_lvs (lv' := [(0, .ref (S.1 8)), (1, .int x1), (2, .int x2)]) [0, 1, 2] rfl ?_
    exact zb_Tk_readSign_111 C hR h x1 x2 e
  · replace e := zd_pos b1 e
    refine zk_iload_n C kd_Tk_readSign_92 rfl 2 rfl rfl ?_
    refine zk_bipush (v := 61) C kd_Tk_readSign_93 (by decide) rfl ?_
    refine zk_icmp_ne (tgt := 111) C kd_Tk_readSign_95 (by decide) rfl (fun b2 => ?_) (fun b2 => ?_)
    · replace e := zd_neg b2 e
      refine zk_lvs (lv' := [(0, .ref (S.1 8)), (1, .int x1), (2, .int x2)]) [0, 1, 2] rfl ?_
      exact zb_Tk_readSign_111 C hR h x1 x2 e
    · replace e := zd_pos b2 e
      refine zk_aload_n C kd_Tk_readSign_98 rfl 0 rfl rfl ?_
      refine zk_iconst (v := 4) C kd_Tk_readSign_99 (by decide) rfl ?_
      refine zk_aload_n C kd_Tk_readSign_100 rfl 0 rfl rfl ?_
      refine zs_get (v := .int (h.1 8 7)) C 8 7 rfl rfl rfl rfl ki_Tk (by decide) kw129 kd_Tk_readSign_101 rfl ?_
      refine zk_iconst (v := 2) C kd_Tk_readSign_104 (by decide) rfl ?_
      refine zk_iadd C kd_Tk_readSign_105 rfl ?_
      refine zk_iconst (v := 0) C kd_Tk_readSign_106 (by decide) rfl ?_
      obtain ⟨v4, h5, c3, e⟩ := zd_Be e
      refine zs_callV (k := 8) (rn := { frames := 1, cells := 0, slots := 0, locals := 22 }) (As := [.int 4, .int ((h.1 8 7) + 2), .int 0]) (rest := []) C (zc_Tk_finish h 4 ((h.1 8 7) + 2) 0 c3) ku_Tk_finish kw773 kv_Tk_finish rfl ⟨by decide, by decide⟩ ⟨by decide, by decide⟩ rfl rfl rfl (Nat.le_of_ble_eq_true rfl) kd_Tk_readSign_107 rfl (c1 := 0) (s1 := 0) rfl rfl (fun v w hp => ?_)
      obtain ⟨rfl, rfl, z6⟩ := hp
      refine zk_stk (r' := [.int v4]) rfl ?_
      exact zk_zret C hR (zd_nb z6) kd_Tk_readSign_110 rfl rfl (zd_rZS z6 e)
set_option maxHeartbeats 4000000 in
set_option maxRecDepth 100000 in
theorem zb_Tk_readSign_61 {X : zkj_T} {S : zs_T} {P : ze_T} {l : Launch} {D : va_G} {sz0 : Nat} {rv : Int32} {rh : zs_H} (C : zk_C X km_Tk_readSign (zs_G S l D sz0) { frames := 4, cells := 0, slots := 0, locals := 91 } (ze_E P)) (hR : zkj_R X (zd_PZ S rv rh) (some .boolean)) (h : zs_H) (x1 : Int32) (x2 : Int32) (e : f_Tk_readSign_61 h x1 x2 = some (rv, rh)) : zk_Ab X (zs_W S h) 0 0 61 [(0, .ref (S.1 8)), (1, .int x1), (2, .int x2)] [] := by
  unfold f_Tk_readSign_61 at e
  refine zk_iload_n C kd_Tk_readSign_61 rfl 1 rfl rfl ?_
  refine zk_bipush (v := 60) C kd_Tk_readSign_62 (by decide) rfl ?_
  refine zk_icmp_ne (tgt := 86) C kd_Tk_readSign_64 (by decide) rfl (fun b1 => ?_) (fun b1 => ?_)
  · replace e := zd_neg b1 e
    refine zk_lvs (lv' := [(0, .ref (S.1 8)), (1, .int x1), (2, .int x2)]) [0, 1, 2] rfl ?_
    exact zb_Tk_readSign_86 C hR h x1 x2 e
  · replace e := zd_pos b1 e
    refine zk_iload_n C kd_Tk_readSign_67 rfl 2 rfl rfl ?_
    refine zk_bipush (v := 61) C kd_Tk_readSign_68 (by decide) rfl ?_
    refine zk_icmp_ne (tgt := 86) C kd_Tk_readSign_70 (by decide) rfl (fun b2 => ?_) (fun b2 => ?_)
    · replace e := zd_neg b2 e
      refine zk_lvs (lv' := [(0, .ref (S.1 8)), (1, .int x1), (2, .int x2)]) [0, 1, 2] rfl ?_
      exact zb_Tk_readSign_86 C hR h x1 x2 e
    · replace e := zd_pos b2 e
      refine zk_aload_n C kd_Tk_readSign_73 rfl 0 rfl rfl ?_
      refine zk_iconst (v := 3) C kd_Tk_readSign_74 (by decide) rfl ?_
      refine zk_aload_n C kd_Tk_readSign_75 rfl 0 rfl rfl ?_
      refine zs_get (v := .int (h.1 8 7)) C 8 7 rfl rfl rfl rfl ki_Tk (by decide) kw129 kd_Tk_readSign_76 rfl ?_
      refine zk_iconst (v := 2) C kd_Tk_readSign_79 (by decide) rfl ?_
      refine zk_iadd C kd_Tk_readSign_80 rfl ?_
      refine zk_iconst (v := 0) C kd_Tk_readSign_81 (by decide) rfl ?_
      obtain ⟨v4, h5, c3, e⟩ := zd_Be e
      refine zs_callV (k := 8) (rn := { frames := 1, cells := 0, slots := 0, locals := 22 }) (As := [.int 3, .int ((h.1 8 7) + 2), .int 0]) (rest := []) C (zc_Tk_finish h 3 ((h.1 8 7) + 2) 0 c3) ku_Tk_finish kw773 kv_Tk_finish rfl ⟨by decide, by decide⟩ ⟨by decide, by decide⟩ rfl rfl rfl (Nat.le_of_ble_eq_true rfl) kd_Tk_readSign_82 rfl (c1 := 0) (s1 := 0) rfl rfl (fun v w hp => ?_)
      obtain ⟨rfl, rfl, z6⟩ := hp
      refine zk_stk (r' := [.int v4]) rfl ?_
      exact zk_zret C hR (zd_nb z6) kd_Tk_readSign_85 rfl rfl (zd_rZS z6 e)
set_option maxHeartbeats 4000000 in
set_option maxRecDepth 100000 in
theorem zb_Tk_readSign_36 {X : zkj_T} {S : zs_T} {P : ze_T} {l : Launch} {D : va_G} {sz0 : Nat} {rv : Int32} {rh : zs_H} (C : zk_C X km_Tk_readSign (zs_G S l D sz0) { frames := 4, cells := 0, slots := 0, locals := 91 } (ze_E P)) (hR : zkj_R X (zd_PZ S rv rh) (some .boolean)) (h : zs_H) (x1 : Int32) (x2 : Int32) (e : f_Tk_readSign_36 h x1 x2 = some (rv, rh)) : zk_Ab X (zs_W S h) 0 0 36 [(0, .ref (S.1 8)), (1, .int x1), (2, .int x2)] [] := by
  unfold f_Tk_readSign_36 at e
  refine zk_iload_n C kd_Tk_readSign_36 rfl 1 rfl rfl ?_
  refine zk_bipush (v := 46) C kd_Tk_readSign_37 (by decide) rfl ?_
  refine zk_icmp_ne (tgt := 61) C kd_Tk_readSign_39 (by decide) rfl (fun b1 => ?_) (fun b1 => ?_)
  · replace e := zd_neg b1 e
    refine zk_lvs (lv' := [(0, .ref (S.1 8)), (1, .int x1), (2, .int x2)]) [0, 1, 2] rfl ?_
    exact zb_Tk_readSign_61 C hR h x1 x2 e
  · replace e := zd_pos b1 e
    refine zk_iload_n C kd_Tk_readSign_42 rfl 2 rfl rfl ?_
    refine zk_bipush (v := 46) C kd_Tk_readSign_43 (by decide) rfl ?_
    refine zk_icmp_ne (tgt := 61) C kd_Tk_readSign_45 (by decide) rfl (fun b2 => ?_) (fun b2 => ?_)
    · replace e := zd_neg b2 e
      refine zk_lvs (lv' := [(0, .ref (S.1 8)), (1, .int x1), (2, .int x2)]) [0, 1, 2] rfl ?_
      exact zb_Tk_readSign_61 C hR h x1 x2 e
    · replace e := zd_pos b2 e
      refine zk_aload_n C kd_Tk_readSign_48 rfl 0 rfl rfl ?_
      refine zk_iconst (v := 2) C kd_Tk_readSign_49 (by decide) rfl ?_
      refine zk_aload_n C kd_Tk_readSign_50 rfl 0 rfl rfl ?_
      refine zs_get (v := .int (h.1 8 7)) C 8 7 rfl rfl rfl rfl ki_Tk (by decide) kw129 kd_Tk_readSign_51 rfl ?_
      refine zk_iconst (v := 2) C kd_Tk_readSign_54 (by decide) rfl ?_
      refine zk_iadd C kd_Tk_readSign_55 rfl ?_
      refine zk_iconst (v := 0) C kd_Tk_readSign_56 (by decide) rfl ?_
      obtain ⟨v4, h5, c3, e⟩ := zd_Be e
      refine zs_callV (k := 8) (rn := { frames := 1, cells := 0, slots := 0, locals := 22 }) (As := [.int 2, .int ((h.1 8 7) + 2), .int 0]) (rest := []) C (zc_Tk_finish h 2 ((h.1 8 7) + 2) 0 c3) ku_Tk_finish kw773 kv_Tk_finish rfl ⟨by decide, by decide⟩ ⟨by decide, by decide⟩ rfl rfl rfl (Nat.le_of_ble_eq_true rfl) kd_Tk_readSign_57 rfl (c1 := 0) (s1 := 0) rfl rfl (fun v w hp => ?_)
      obtain ⟨rfl, rfl, z6⟩ := hp
      refine zk_stk (r' := [.int v4]) rfl ?_
      exact zk_zret C hR (zd_nb z6) kd_Tk_readSign_60 rfl rfl (zd_rZS z6 e)
set_option maxHeartbeats 4000000 in
set_option maxRecDepth 100000 in
theorem zc_Tk_readSign {l : Launch} {D : va_G} {sz0 : Nat} {S : zs_T} {P : ze_T} (h : zs_H) (x1 : Int32) {rv : Int32} {rh : zs_H} (e : f_Tk_readSign h x1 = some (rv, rh)) : zk_Sp (zs_G S l D sz0) (ze_E P) km_Tk_readSign { frames := 4, cells := 0, slots := 0, locals := 91 } [.ref (S.1 8), .int x1] (zs_W S h) (zd_PZ S rv rh) := by
  refine zk_met ku_Tk_readSign (Nat.le_of_ble_eq_true rfl) (ze_Em P) ?_
  intro X C hR
  refine zk_lvs (lv' := [(0, .ref (S.1 8)), (1, .int x1)]) [0, 1] rfl ?_
  unfold f_Tk_readSign at e
  refine zk_aload_n C kd_Tk_readSign_0 rfl 0 rfl rfl ?_
  refine zk_aload_n C kd_Tk_readSign_1 rfl 0 rfl rfl ?_
  refine zs_get (v := .int (h.1 8 7)) C 8 7 rfl rfl rfl rfl ki_Tk (by decide) kw129 kd_Tk_readSign_2 rfl ?_
  refine zk_iconst (v := 1) C kd_Tk_readSign_5 (by decide) rfl ?_
  refine zk_iadd C kd_Tk_readSign_6 rfl ?_
  obtain ⟨v2, c1, e⟩ := zd_b e
  refine zs_callV (k := 8) (rn := { frames := 0, cells := 0, slots := 0, locals := 0 }) (As := [.int ((h.1 8 7) + 1)]) (rest := []) C (zc_Tk_peek h ((h.1 8 7) + 1) c1) ku_Tk_peek kw722 kv_Tk_peek rfl ⟨by decide, by decide⟩ ⟨by decide, by decide⟩ rfl rfl rfl (Nat.le_of_ble_eq_true rfl) kd_Tk_readSign_7 rfl (c1 := 0) (s1 := 0) rfl rfl (fun v w hp => ?_)
  obtain ⟨rfl, rfl⟩ := hp
  refine zk_stk (r' := [.int v2]) rfl ?_
  refine zk_istore_n (lv' := [(2, _), (0, _), (1, _)]) C kd_Tk_readSign_10 rfl (by decide) rfl rfl ?_
  refine zk_iload_n C kd_Tk_readSign_11 rfl 2 rfl rfl ?_
  refine zk_bipush (v := 58) C kd_Tk_readSign_12 (by decide) rfl ?_
  refine zk_icmp_ne (tgt := 36) C kd_Tk_readSign_14 (by decide) rfl (fun b3 => ?_) (fun b3 => ?_)
  · replace e := zd_neg b3 e
    refine zk_lvs (lv' := [(0, .ref (S.1 8)), (1, .int x1), (2, .int v2)]) [1, 2, 0] rfl ?_
    exact zb_Tk_readSign_36 C hR h x1 v2 e
  · replace e := zd_pos b3 e
    refine zk_iload_n C kd_Tk_readSign_17 rfl 0 rfl rfl ?_
    refine zk_bipush (v := 61) C kd_Tk_readSign_18 (by decide) rfl ?_
    refine zk_icmp_ne (tgt := 36) C kd_Tk_readSign_20 (by decide) rfl (fun b4 => ?_) (fun b4 => ?_)
    · replace e := zd_neg b4 e
      refine zk_lvs (lv' := [(0, .ref (S.1 8)), (1, .int x1), (2, .int v2)]) [1, 2, 0] rfl ?_
      exact zb_Tk_readSign_36 C hR h x1 v2 e
    · replace e := zd_pos b4 e
      refine zk_aload_n C kd_Tk_readSign_23 rfl 1 rfl rfl ?_
      refine zk_iconst (v := 1) C kd_Tk_readSign_24 (by decide) rfl ?_
      refine zk_aload_n C kd_Tk_readSign_25 rfl 1 rfl rfl ?_
      refine zs_get (v := .int (h.1 8 7)) C 8 7 rfl rfl rfl rfl ki_Tk (by decide) kw129 kd_Tk_readSign_26 rfl ?_
      refine zk_iconst (v := 2) C kd_Tk_readSign_29 (by decide) rfl ?_
      refine zk_iadd C kd_Tk_readSign_30 rfl ?_
      refine zk_iconst (v := 0) C kd_Tk_readSign_31 (by decide) rfl ?_
      obtain ⟨v6, h7, c5, e⟩ := zd_Be e
      refine zs_callV (k := 8) (rn := { frames := 1, cells := 0, slots := 0, locals := 22 }) (As := [.int 1, .int ((h.1 8 7) + 2), .int 0]) (rest := []) C (zc_Tk_finish h 1 ((h.1 8 7) + 2) 0 c5) ku_Tk_finish kw773 kv_Tk_finish rfl ⟨by decide, by decide⟩ ⟨by decide, by decide⟩ rfl rfl rfl (Nat.le_of_ble_eq_true rfl) kd_Tk_readSign_32 rfl (c1 := 0) (s1 := 0) rfl rfl (fun v w hp => ?_)
      obtain ⟨rfl, rfl, z8⟩ := hp
      refine zk_stk (r' := [.int v6]) rfl ?_
      exact zk_zret C hR (zd_nb z8) kd_Tk_readSign_35 rfl rfl (zd_rZS z8 e)
set_option maxHeartbeats 4000000 in
set_option maxRecDepth 100000 in
theorem zb_Tk_readTime_47 {X : zkj_T} {S : zs_T} {P : ze_T} {l : Launch} {D : va_G} {sz0 : Nat} {rv : Int32} {rh : zs_H} (C : zk_C X km_Tk_readTime (zs_G S l D sz0) { frames := 3, cells := 0, slots := 0, locals := 68 } (ze_E P)) (hR : zkj_R X (zd_PZ S rv rh) (some .boolean)) (h : zs_H) (e : f_Tk_readTime_47 h = some (rv, rh)) : zk_Ab X (zs_W S h) 0 0 47 [(0, .ref (S.1 8))] [] := by
  unfold f_Tk_readTime_47 at e
  refine zk_aload_n C kd_Tk_readTime_47 rfl 0 rfl rfl ?_
  refine zk_iconst (v := 4) C kd_Tk_readTime_48 (by decide) rfl ?_
  obtain ⟨v2, h3, c1, e⟩ := zd_Be e
  refine zs_callV (k := 8) (rn := { frames := 1, cells := 0, slots := 0, locals := 22 }) (As := [.int 4]) (rest := []) C (zc_Tk_refuse h 4 c1) ku_Tk_refuse kw730 kv_Tk_refuse rfl ⟨by decide, by decide⟩ ⟨by decide, by decide⟩ rfl rfl rfl (Nat.le_of_ble_eq_true rfl) kd_Tk_readTime_49 rfl (c1 := 0) (s1 := 0) rfl rfl (fun v w hp => ?_)
  obtain ⟨rfl, rfl, z4⟩ := hp
  refine zk_stk (r' := [.int v2]) rfl ?_
  exact zk_zret C hR (zd_nb z4) kd_Tk_readTime_52 rfl rfl (zd_rZS z4 e)
set_option maxHeartbeats 4000000 in
set_option maxRecDepth 100000 in
theorem zb_Tk_readTime_125 {X : zkj_T} {S : zs_T} {P : ze_T} {l : Launch} {D : va_G} {sz0 : Nat} {rv : Int32} {rh : zs_H} (C : zk_C X km_Tk_readTime (zs_G S l D sz0) { frames := 3, cells := 0, slots := 0, locals := 68 } (ze_E P)) (hR : zkj_R X (zd_PZ S rv rh) (some .boolean)) (h : zs_H) (y0 : Int32) (y1 : Int64) (y2 : Int32) (e : f_Tk_readTime_125 h y0 y1 y2 = some (rv, rh)) : zk_Ab X (zs_W S h) 0 0 125 [] [.int y0, .long y1, .int y2, .ref (S.1 8)] := by
  unfold f_Tk_readTime_125 at e
  refine zk_i2l C kd_Tk_readTime_125 rfl ?_
  refine zk_lmul C kd_Tk_readTime_126 rfl ?_
  obtain ⟨v2, h3, c1, e⟩ := zd_Be e
  refine zs_callV (k := 8) (rn := { frames := 2, cells := 0, slots := 0, locals := 45 }) (As := [.int y2, .long (y1 * (y0.toInt64))]) (rest := []) C (zc_Tk_finishNumber h y2 (y1 * (y0.toInt64)) c1) ku_Tk_finishNumber kw762 kv_Tk_finishNumber rfl ⟨by decide, by decide⟩ ⟨by decide, by decide⟩ rfl rfl rfl (Nat.le_of_ble_eq_true rfl) kd_Tk_readTime_127 rfl (c1 := 0) (s1 := 0) rfl rfl (fun v w hp => ?_)
  obtain ⟨rfl, rfl, z4⟩ := hp
  refine zk_stk (r' := [.int v2]) rfl ?_
  exact zk_zret C hR (zd_nb z4) kd_Tk_readTime_130 rfl rfl (zd_rZS z4 e)
set_option maxHeartbeats 4000000 in
set_option maxRecDepth 100000 in
theorem zb_Tk_readTime_94 {X : zkj_T} {S : zs_T} {P : ze_T} {l : Launch} {D : va_G} {sz0 : Nat} {rv : Int32} {rh : zs_H} (C : zk_C X km_Tk_readTime (zs_G S l D sz0) { frames := 3, cells := 0, slots := 0, locals := 68 } (ze_E P)) (hR : zkj_R X (zd_PZ S rv rh) (some .boolean)) (h : zs_H) (x2 : Int32) (x3 : Int32) (x4 : Int64) (e : f_Tk_readTime_94 h x2 x3 x4 = some (rv, rh)) : zk_Ab X (zs_W S h) 0 0 94 [(0, .ref (S.1 8)), (2, .int x2), (3, .int x3), (4, .long x4)] [] := by
  unfold f_Tk_readTime_94 at e
  refine zk_aload_n C kd_Tk_readTime_94 rfl 0 rfl rfl ?_
  refine zk_iload_n C kd_Tk_readTime_95 rfl 1 rfl rfl ?_
  refine zk_iconst (v := 1) C kd_Tk_readTime_96 (by decide) rfl ?_
  refine zk_iadd C kd_Tk_readTime_97 rfl ?_
  refine zk_lload C kd_Tk_readTime_98 3 rfl rfl ?_
  refine zk_iload_n C kd_Tk_readTime_100 rfl 2 rfl rfl ?_
  refine zk_bipush (v := 83) C kd_Tk_readTime_101 (by decide) rfl ?_
  refine zk_icmp_ne (tgt := 112) C kd_Tk_readTime_103 (by decide) rfl (fun b1 => ?_) (fun b1 => ?_)
  · replace e := zd_neg b1 e
    refine zk_iload_n C kd_Tk_readTime_112 rfl 2 rfl rfl ?_
    refine zk_bipush (v := 77) C kd_Tk_readTime_113 (by decide) rfl ?_
    refine zk_icmp_ne (tgt := 123) C kd_Tk_readTime_115 (by decide) rfl (fun b2 => ?_) (fun b2 => ?_)
    · replace e := zd_neg b2 e
      refine zk_ldc (v := 3600000) C kw778 kd_Tk_readTime_123 rfl ?_
      refine zk_lvs (lv' := []) [] rfl ?_
      exact zb_Tk_readTime_125 C hR h 3600000 x4 (x2 + 1) e
    · replace e := zd_pos b2 e
      refine zk_ldc (v := 60000) C kw777 kd_Tk_readTime_118 rfl ?_
      refine zk_goto (tgt := 125) C kd_Tk_readTime_120 (by decide) ?_
      refine zk_lvs (lv' := []) [] rfl ?_
      exact zb_Tk_readTime_125 C hR h 60000 x4 (x2 + 1) e
  · replace e := zd_pos b1 e
    refine zk_sipush (v := 1000) C kd_Tk_readTime_106 (by decide) rfl ?_
    refine zk_goto (tgt := 125) C kd_Tk_readTime_109 (by decide) ?_
    refine zk_lvs (lv' := []) [] rfl ?_
    exact zb_Tk_readTime_125 C hR h 1000 x4 (x2 + 1) e
set_option maxHeartbeats 4000000 in
set_option maxRecDepth 100000 in
theorem zb_Tk_readTime_53 {X : zkj_T} {S : zs_T} {P : ze_T} {l : Launch} {D : va_G} {sz0 : Nat} {rv : Int32} {rh : zs_H} (C : zk_C X km_Tk_readTime (zs_G S l D sz0) { frames := 3, cells := 0, slots := 0, locals := 68 } (ze_E P)) (hR : zkj_R X (zd_PZ S rv rh) (some .boolean)) (h : zs_H) (x1 : Int32) (x2 : Int32) (x3 : Int32) (e : f_Tk_readTime_53 h x1 x2 x3 = some (rv, rh)) : zk_Ab X (zs_W S h) 0 0 53 [(0, .ref (S.1 8)), (1, .int x1), (2, .int x2), (3, .int x3)] [] := by
  unfold f_Tk_readTime_53 at e
  refine zk_aload_n C kd_Tk_readTime_53 rfl 0 rfl rfl ?_
  refine zk_iload_n C kd_Tk_readTime_54 rfl 1 rfl rfl ?_
  refine zk_iload_n C kd_Tk_readTime_55 rfl 2 rfl rfl ?_
  refine zk_bipush (v := 10) C kd_Tk_readTime_56 (by decide) rfl ?_
  obtain ⟨v2, c1, e⟩ := zd_b e
  refine zs_callV (k := 8) (rn := { frames := 2, cells := 0, slots := 0, locals := 41 }) (As := [.int x1, .int x2, .int 10]) (rest := []) C (zc_Tk_meaning h x1 x2 10 c1) ku_Tk_meaning kw754 kv_Tk_meaning rfl ⟨by decide, by decide⟩ ⟨by decide, by decide⟩ rfl rfl rfl (Nat.le_of_ble_eq_true rfl) kd_Tk_readTime_58 rfl (c1 := 0) (s1 := 0) rfl rfl (fun v w hp => ?_)
  obtain ⟨rfl, rfl⟩ := hp
  refine zk_stk (r' := [.long v2]) rfl ?_
  refine zk_lstore (lv' := [(4, _), (0, _), (1, _), (2, _), (3, _)]) C kd_Tk_readTime_61 (by decide) rfl rfl ?_
  refine zk_iload_n C kd_Tk_readTime_63 rfl 4 rfl rfl ?_
  refine zk_bipush (v := 77) C kd_Tk_readTime_64 (by decide) rfl ?_
  refine zk_icmp_ne (tgt := 94) C kd_Tk_readTime_66 (by decide) rfl (fun b3 => ?_) (fun b3 => ?_)
  · replace e := zd_neg b3 e
    refine zk_lvs (lv' := [(0, .ref (S.1 8)), (2, .int x2), (3, .int x3), (4, .long v2)]) [1, 3, 4, 0] rfl ?_
    exact zb_Tk_readTime_94 C hR h x2 x3 v2 e
  · replace e := zd_pos b3 e
    refine zk_aload_n C kd_Tk_readTime_69 rfl 1 rfl rfl ?_
    refine zk_iload_n C kd_Tk_readTime_70 rfl 3 rfl rfl ?_
    refine zk_iconst (v := 1) C kd_Tk_readTime_71 (by decide) rfl ?_
    refine zk_iadd C kd_Tk_readTime_72 rfl ?_
    obtain ⟨v5, c4, e⟩ := zd_b e
    refine zs_callV (k := 8) (rn := { frames := 0, cells := 0, slots := 0, locals := 0 }) (As := [.int (x2 + 1)]) (rest := []) C (zc_Tk_peek h (x2 + 1) c4) ku_Tk_peek kw722 kv_Tk_peek rfl ⟨by decide, by decide⟩ ⟨by decide, by decide⟩ rfl rfl rfl (Nat.le_of_ble_eq_true rfl) kd_Tk_readTime_73 rfl (c1 := 0) (s1 := 0) rfl rfl (fun v w hp => ?_)
    obtain ⟨rfl, rfl⟩ := hp
    refine zk_stk (r' := [.int v5]) rfl ?_
    refine zk_callS (rn := { frames := 0, cells := 0, slots := 0, locals := 0 }) (As := [.int v5]) (rest := []) C (zc_Nm_great h v5) ku_Nm_great kw753 ks_Nm_great rfl ⟨by decide, by decide⟩ ⟨by decide, by decide⟩ rfl (Nat.le_of_ble_eq_true rfl) kd_Tk_readTime_76 rfl (c1 := 0) (s1 := 0) rfl rfl (fun v w hp => ?_)
    obtain ⟨rfl, rfl⟩ := hp
    refine zk_stk (r' := [.int (f_Nm_great v5)]) rfl ?_
    refine zk_bipush (v := 83) C kd_Tk_readTime_79 (by decide) rfl ?_
    refine zk_icmp_ne (tgt := 94) C kd_Tk_readTime_81 (by decide) rfl (fun b6 => ?_) (fun b6 => ?_)
    · replace e := zd_neg b6 e
      refine zk_lvs (lv' := [(0, .ref (S.1 8)), (2, .int x2), (3, .int x3), (4, .long v2)]) [1, 3, 4, 0] rfl ?_
      exact zb_Tk_readTime_94 C hR h x2 x3 v2 e
    · replace e := zd_pos b6 e
      refine zk_aload_n C kd_Tk_readTime_84 rfl 1 rfl rfl ?_
      refine zk_iload_n C kd_Tk_readTime_85 rfl 3 rfl rfl ?_
      refine zk_iconst (v := 2) C kd_Tk_readTime_86 (by decide) rfl ?_
      refine zk_iadd C kd_Tk_readTime_87 rfl ?_
      refine zk_lload C kd_Tk_readTime_88 0 rfl rfl ?_
      obtain ⟨v8, h9, c7, e⟩ := zd_Be e
      refine zs_callV (k := 8) (rn := { frames := 2, cells := 0, slots := 0, locals := 45 }) (As := [.int (x2 + 2), .long v2]) (rest := []) C (zc_Tk_finishNumber h (x2 + 2) v2 c7) ku_Tk_finishNumber kw762 kv_Tk_finishNumber rfl ⟨by decide, by decide⟩ ⟨by decide, by decide⟩ rfl rfl rfl (Nat.le_of_ble_eq_true rfl) kd_Tk_readTime_90 rfl (c1 := 0) (s1 := 0) rfl rfl (fun v w hp => ?_)
      obtain ⟨rfl, rfl, z10⟩ := hp
      refine zk_stk (r' := [.int v8]) rfl ?_
      exact zk_zret C hR (zd_nb z10) kd_Tk_readTime_93 rfl rfl (zd_rZS z10 e)
set_option maxHeartbeats 4000000 in
set_option maxRecDepth 100000 in
theorem zc_Tk_readTime {l : Launch} {D : va_G} {sz0 : Nat} {S : zs_T} {P : ze_T} (h : zs_H) {rv : Int32} {rh : zs_H} (e : f_Tk_readTime h = some (rv, rh)) : zk_Sp (zs_G S l D sz0) (ze_E P) km_Tk_readTime { frames := 3, cells := 0, slots := 0, locals := 68 } [.ref (S.1 8)] (zs_W S h) (zd_PZ S rv rh) := by
  refine zk_met ku_Tk_readTime (Nat.le_of_ble_eq_true rfl) (ze_Em P) ?_
  intro X C hR
  refine zk_lvs (lv' := [(0, .ref (S.1 8))]) [0] rfl ?_
  unfold f_Tk_readTime at e
  refine zk_aload_n C kd_Tk_readTime_0 rfl 0 rfl rfl ?_
  refine zs_get (v := .int (h.1 8 7)) C 8 7 rfl rfl rfl rfl ki_Tk (by decide) kw129 kd_Tk_readTime_1 rfl ?_
  refine zk_iconst (v := 2) C kd_Tk_readTime_4 (by decide) rfl ?_
  refine zk_iadd C kd_Tk_readTime_5 rfl ?_
  refine zk_istore_n (lv' := [(1, _), (0, _)]) C kd_Tk_readTime_6 rfl (by decide) rfl rfl ?_
  refine zk_aload_n C kd_Tk_readTime_7 rfl 1 rfl rfl ?_
  refine zk_iload_n C kd_Tk_readTime_8 rfl 0 rfl rfl ?_
  refine zk_bipush (v := 10) C kd_Tk_readTime_9 (by decide) rfl ?_
  obtain ⟨v2, c1, e⟩ := zd_b e
  refine zs_callV (k := 8) (rn := { frames := 2, cells := 0, slots := 0, locals := 41 }) (As := [.int ((h.1 8 7) + 2), .int 10]) (rest := []) C (zc_Tk_digitsEnd h ((h.1 8 7) + 2) 10 c1) ku_Tk_digitsEnd kw746 kv_Tk_digitsEnd rfl ⟨by decide, by decide⟩ ⟨by decide, by decide⟩ rfl rfl rfl (Nat.le_of_ble_eq_true rfl) kd_Tk_readTime_11 rfl (c1 := 0) (s1 := 0) rfl rfl (fun v w hp => ?_)
  obtain ⟨rfl, rfl⟩ := hp
  refine zk_stk (r' := [.int v2]) rfl ?_
  refine zk_istore_n (lv' := [(2, _), (1, _), (0, _)]) C kd_Tk_readTime_14 rfl (by decide) rfl rfl ?_
  refine zk_aload_n C kd_Tk_readTime_15 rfl 2 rfl rfl ?_
  refine zk_iload_n C kd_Tk_readTime_16 rfl 0 rfl rfl ?_
  obtain ⟨v4, c3, e⟩ := zd_b e
  refine zs_callV (k := 8) (rn := { frames := 0, cells := 0, slots := 0, locals := 0 }) (As := [.int v2]) (rest := []) C (zc_Tk_peek h v2 c3) ku_Tk_peek kw722 kv_Tk_peek rfl ⟨by decide, by decide⟩ ⟨by decide, by decide⟩ rfl rfl rfl (Nat.le_of_ble_eq_true rfl) kd_Tk_readTime_17 rfl (c1 := 0) (s1 := 0) rfl rfl (fun v w hp => ?_)
  obtain ⟨rfl, rfl⟩ := hp
  refine zk_stk (r' := [.int v4]) rfl ?_
  refine zk_callS (rn := { frames := 0, cells := 0, slots := 0, locals := 0 }) (As := [.int v4]) (rest := []) C (zc_Nm_great h v4) ku_Nm_great kw753 ks_Nm_great rfl ⟨by decide, by decide⟩ ⟨by decide, by decide⟩ rfl (Nat.le_of_ble_eq_true rfl) kd_Tk_readTime_20 rfl (c1 := 0) (s1 := 0) rfl rfl (fun v w hp => ?_)
  obtain ⟨rfl, rfl⟩ := hp
  refine zk_stk (r' := [.int (f_Nm_great v4)]) rfl ?_
  refine zk_istore_n (lv' := [(3, _), (2, _), (1, _), (0, _)]) C kd_Tk_readTime_23 rfl (by decide) rfl rfl ?_
  refine zk_iload_n C kd_Tk_readTime_24 rfl 1 rfl rfl ?_
  refine zk_iload_n C kd_Tk_readTime_25 rfl 2 rfl rfl ?_
  refine zk_icmp_eq (tgt := 47) C kd_Tk_readTime_26 (by decide) rfl (fun b5 => ?_) (fun b5 => ?_)
  · replace e := zd_pos b5 e
    refine zk_lvs (lv' := [(0, .ref (S.1 8))]) [3] rfl ?_
    exact zb_Tk_readTime_47 C hR h e
  · replace e := zd_neg b5 e
    refine zk_iload_n C kd_Tk_readTime_29 rfl 0 rfl rfl ?_
    refine zk_bipush (v := 77) C kd_Tk_readTime_30 (by decide) rfl ?_
    refine zk_icmp_eq (tgt := 53) C kd_Tk_readTime_32 (by decide) rfl (fun b6 => ?_) (fun b6 => ?_)
    · replace e := zd_pos b6 e
      refine zk_lvs (lv' := [(0, .ref (S.1 8)), (1, .int ((h.1 8 7) + 2)), (2, .int v2), (3, .int (f_Nm_great v4))]) [3, 2, 1, 0] rfl ?_
      exact zb_Tk_readTime_53 C hR h ((h.1 8 7) + 2) v2 (f_Nm_great v4) e
    · replace e := zd_neg b6 e
      refine zk_iload_n C kd_Tk_readTime_35 rfl 0 rfl rfl ?_
      refine zk_bipush (v := 83) C kd_Tk_readTime_36 (by decide) rfl ?_
      refine zk_icmp_eq (tgt := 53) C kd_Tk_readTime_38 (by decide) rfl (fun b7 => ?_) (fun b7 => ?_)
      · replace e := zd_pos b7 e
        refine zk_lvs (lv' := [(0, .ref (S.1 8)), (1, .int ((h.1 8 7) + 2)), (2, .int v2), (3, .int (f_Nm_great v4))]) [3, 2, 1, 0] rfl ?_
        exact zb_Tk_readTime_53 C hR h ((h.1 8 7) + 2) v2 (f_Nm_great v4) e
      · replace e := zd_neg b7 e
        refine zk_iload_n C kd_Tk_readTime_41 rfl 0 rfl rfl ?_
        refine zk_bipush (v := 72) C kd_Tk_readTime_42 (by decide) rfl ?_
        refine zk_icmp_eq (tgt := 53) C kd_Tk_readTime_44 (by decide) rfl (fun b8 => ?_) (fun b8 => ?_)
        · replace e := zd_pos b8 e
          refine zk_lvs (lv' := [(0, .ref (S.1 8)), (1, .int ((h.1 8 7) + 2)), (2, .int v2), (3, .int (f_Nm_great v4))]) [3, 2, 1, 0] rfl ?_
          exact zb_Tk_readTime_53 C hR h ((h.1 8 7) + 2) v2 (f_Nm_great v4) e
        · replace e := zd_neg b8 e
          refine zk_lvs (lv' := [(0, .ref (S.1 8))]) [3] rfl ?_
          exact zb_Tk_readTime_47 C hR h e
set_option maxHeartbeats 4000000 in
set_option maxRecDepth 100000 in
theorem zb_Tk_readToken_84 {X : zkj_T} {S : zs_T} {P : ze_T} {l : Launch} {D : va_G} {sz0 : Nat} {rv : Int32} {rh : zs_H} (C : zk_C X km_Tk_readToken (zs_G S l D sz0) { frames := 5, cells := 0, slots := 0, locals := 119 } (ze_E P)) (hR : zkj_R X (zd_PZ S rv rh) (some .boolean)) (h : zs_H) (x1 : Int32) (e : f_Tk_readToken_84 h x1 = some (rv, rh)) : zk_Ab X (zs_W S h) 0 0 84 [(0, .ref (S.1 8)), (1, .int x1)] [] := by
  unfold f_Tk_readToken_84 at e
  refine zk_iload_n C kd_Tk_readToken_84 rfl 1 rfl rfl ?_
  refine zk_bipush (v := 37) C kd_Tk_readToken_85 (by decide) rfl ?_
  refine zk_icmp_ne (tgt := 97) C kd_Tk_readToken_87 (by decide) rfl (fun b1 => ?_) (fun b1 => ?_)
  · replace e := zd_neg b1 e
    refine zk_aload_n C kd_Tk_readToken_97 rfl 0 rfl rfl ?_
    refine zk_iload_n C kd_Tk_readToken_98 rfl 1 rfl rfl ?_
    obtain ⟨v3, h4, c2, e⟩ := zd_Be e
    refine zs_callV (k := 8) (rn := { frames := 4, cells := 0, slots := 0, locals := 91 }) (As := [.int x1]) (rest := []) C (zc_Tk_readSign h x1 c2) ku_Tk_readSign kw857 kv_Tk_readSign rfl ⟨by decide, by decide⟩ ⟨by decide, by decide⟩ rfl rfl rfl (Nat.le_of_ble_eq_true rfl) kd_Tk_readToken_99 rfl (c1 := 0) (s1 := 0) rfl rfl (fun v w hp => ?_)
    obtain ⟨rfl, rfl, z5⟩ := hp
    refine zk_stk (r' := [.int v3]) rfl ?_
    exact zk_zret C hR (zd_nb z5) kd_Tk_readToken_102 rfl rfl (zd_rZS z5 e)
  · replace e := zd_pos b1 e
    refine zk_aload_n C kd_Tk_readToken_90 rfl 0 rfl rfl ?_
    obtain ⟨v7, h8, c6, e⟩ := zd_Be e
    refine zs_callV (k := 8) (rn := { frames := 4, cells := 0, slots := 0, locals := 91 }) (As := []) (rest := []) C (zc_Tk_readPlace h c6) ku_Tk_readPlace kw791 kv_Tk_readPlace rfl ⟨by decide, by decide⟩ ⟨by decide, by decide⟩ rfl rfl rfl (Nat.le_of_ble_eq_true rfl) kd_Tk_readToken_91 rfl (c1 := 0) (s1 := 0) rfl rfl (fun v w hp => ?_)
    obtain ⟨rfl, rfl, z9⟩ := hp
    refine zk_stk (r' := [.int v7]) rfl ?_
    refine zk_goto (tgt := 102) C kd_Tk_readToken_94 (by decide) ?_
    exact zk_zret C hR (zd_nb z9) kd_Tk_readToken_102 rfl rfl (zd_rZS z9 e)
set_option maxHeartbeats 4000000 in
set_option maxRecDepth 100000 in
theorem zb_Tk_readToken_55 {X : zkj_T} {S : zs_T} {P : ze_T} {l : Launch} {D : va_G} {sz0 : Nat} {rv : Int32} {rh : zs_H} (C : zk_C X km_Tk_readToken (zs_G S l D sz0) { frames := 5, cells := 0, slots := 0, locals := 119 } (ze_E P)) (hR : zkj_R X (zd_PZ S rv rh) (some .boolean)) (h : zs_H) (x1 : Int32) (e : f_Tk_readToken_55 h x1 = some (rv, rh)) : zk_Ab X (zs_W S h) 0 0 55 [(0, .ref (S.1 8)), (1, .int x1)] [] := by
  unfold f_Tk_readToken_55 at e
  refine zk_iload_n C kd_Tk_readToken_55 rfl 1 rfl rfl ?_
  refine zk_callS (rn := { frames := 0, cells := 0, slots := 0, locals := 0 }) (As := [.int x1]) (rest := []) C (zc_Nm_isLetter h x1) ku_Nm_isLetter kw779 ks_Nm_isLetter rfl ⟨by decide, by decide⟩ ⟨by decide, by decide⟩ rfl (Nat.le_of_ble_eq_true rfl) kd_Tk_readToken_56 rfl (c1 := 0) (s1 := 0) rfl rfl (fun v w hp => ?_)
  obtain ⟨rfl, rfl, z1⟩ := hp
  refine zk_stk (r' := [.int (f_Nm_isLetter x1)]) rfl ?_
  refine zk_if_eq (tgt := 67) C kd_Tk_readToken_59 (by decide) rfl (fun b2 => ?_) (fun b2 => ?_)
  · replace e := zd_pos b2 e
    refine zk_iload_n C kd_Tk_readToken_67 rfl 1 rfl rfl ?_
    refine zk_bipush (v := 48) C kd_Tk_readToken_68 (by decide) rfl ?_
    refine zk_icmp_lt (tgt := 84) C kd_Tk_readToken_70 (by decide) rfl (fun b3 => ?_) (fun b3 => ?_)
    · replace e := zd_pos b3 e
      refine zk_lvs (lv' := [(0, .ref (S.1 8)), (1, .int x1)]) [0, 1] rfl ?_
      exact zb_Tk_readToken_84 C hR h x1 e
    · replace e := zd_neg b3 e
      refine zk_iload_n C kd_Tk_readToken_73 rfl 1 rfl rfl ?_
      refine zk_bipush (v := 57) C kd_Tk_readToken_74 (by decide) rfl ?_
      refine zk_icmp_gt (tgt := 84) C kd_Tk_readToken_76 (by decide) rfl (fun b4 => ?_) (fun b4 => ?_)
      · replace e := zd_pos b4 e
        refine zk_lvs (lv' := [(0, .ref (S.1 8)), (1, .int x1)]) [0, 1] rfl ?_
        exact zb_Tk_readToken_84 C hR h x1 e
      · replace e := zd_neg b4 e
        refine zk_aload_n C kd_Tk_readToken_79 rfl 0 rfl rfl ?_
        obtain ⟨v6, h7, c5, e⟩ := zd_Be e
        refine zs_callV (k := 8) (rn := { frames := 3, cells := 0, slots := 0, locals := 68 }) (As := []) (rest := []) C (zc_Tk_readNumber h c5) ku_Tk_readNumber kw785 kv_Tk_readNumber rfl ⟨by decide, by decide⟩ ⟨by decide, by decide⟩ rfl rfl rfl (Nat.le_of_ble_eq_true rfl) kd_Tk_readToken_80 rfl (c1 := 0) (s1 := 0) rfl rfl (fun v w hp => ?_)
        obtain ⟨rfl, rfl, z8⟩ := hp
        refine zk_stk (r' := [.int v6]) rfl ?_
        exact zk_zret C hR (zd_nb z8) kd_Tk_readToken_83 rfl rfl (zd_rZS z8 e)
  · replace e := zd_neg b2 e
    refine zk_aload_n C kd_Tk_readToken_62 rfl 0 rfl rfl ?_
    obtain ⟨v10, h11, c9, e⟩ := zd_Be e
    refine zs_callV (k := 8) (rn := { frames := 4, cells := 0, slots := 0, locals := 96 }) (As := []) (rest := []) C (zc_Tk_readName h c9) ku_Tk_readName kw780 kv_Tk_readName rfl ⟨by decide, by decide⟩ ⟨by decide, by decide⟩ rfl rfl rfl (Nat.le_of_ble_eq_true rfl) kd_Tk_readToken_63 rfl (c1 := 0) (s1 := 0) rfl rfl (fun v w hp => ?_)
    obtain ⟨rfl, rfl, z12⟩ := hp
    refine zk_stk (r' := [.int v10]) rfl ?_
    exact zk_zret C hR (zd_nb z12) kd_Tk_readToken_66 rfl rfl (zd_rZS z12 e)
set_option maxHeartbeats 4000000 in
set_option maxRecDepth 100000 in
theorem zb_Tk_readToken_35 {X : zkj_T} {S : zs_T} {P : ze_T} {l : Launch} {D : va_G} {sz0 : Nat} {rv : Int32} {rh : zs_H} (C : zk_C X km_Tk_readToken (zs_G S l D sz0) { frames := 5, cells := 0, slots := 0, locals := 119 } (ze_E P)) (hR : zkj_R X (zd_PZ S rv rh) (some .boolean)) (h : zs_H) (x1 : Int32) (e : f_Tk_readToken_35 h x1 = some (rv, rh)) : zk_Ab X (zs_W S h) 0 0 35 [(0, .ref (S.1 8)), (1, .int x1)] [] := by
  unfold f_Tk_readToken_35 at e
  refine zk_aload_n C kd_Tk_readToken_35 rfl 0 rfl rfl ?_
  refine zk_aload_n C kd_Tk_readToken_36 rfl 0 rfl rfl ?_
  refine zs_get (v := .int (h.1 8 7)) C 8 7 rfl rfl rfl rfl ki_Tk (by decide) kw129 kd_Tk_readToken_37 rfl ?_
  refine zk_iconst (v := 1) C kd_Tk_readToken_40 (by decide) rfl ?_
  refine zk_iadd C kd_Tk_readToken_41 rfl ?_
  obtain ⟨v2, c1, e⟩ := zd_b e
  refine zs_callV (k := 8) (rn := { frames := 0, cells := 0, slots := 0, locals := 0 }) (As := [.int ((h.1 8 7) + 1)]) (rest := []) C (zc_Tk_peek h ((h.1 8 7) + 1) c1) ku_Tk_peek kw722 kv_Tk_peek rfl ⟨by decide, by decide⟩ ⟨by decide, by decide⟩ rfl rfl rfl (Nat.le_of_ble_eq_true rfl) kd_Tk_readToken_42 rfl (c1 := 0) (s1 := 0) rfl rfl (fun v w hp => ?_)
  obtain ⟨rfl, rfl⟩ := hp
  refine zk_stk (r' := [.int v2]) rfl ?_
  refine zk_bipush (v := 35) C kd_Tk_readToken_45 (by decide) rfl ?_
  refine zk_icmp_ne (tgt := 55) C kd_Tk_readToken_47 (by decide) rfl (fun b3 => ?_) (fun b3 => ?_)
  · replace e := zd_neg b3 e
    refine zk_lvs (lv' := [(0, .ref (S.1 8)), (1, .int x1)]) [0, 1] rfl ?_
    exact zb_Tk_readToken_55 C hR h x1 e
  · replace e := zd_pos b3 e
    refine zk_aload_n C kd_Tk_readToken_50 rfl 0 rfl rfl ?_
    obtain ⟨v5, h6, c4, e⟩ := zd_Be e
    refine zs_callV (k := 8) (rn := { frames := 3, cells := 0, slots := 0, locals := 68 }) (As := []) (rest := []) C (zc_Tk_readTime h c4) ku_Tk_readTime kw742 kv_Tk_readTime rfl ⟨by decide, by decide⟩ ⟨by decide, by decide⟩ rfl rfl rfl (Nat.le_of_ble_eq_true rfl) kd_Tk_readToken_51 rfl (c1 := 0) (s1 := 0) rfl rfl (fun v w hp => ?_)
    obtain ⟨rfl, rfl, z7⟩ := hp
    refine zk_stk (r' := [.int v5]) rfl ?_
    exact zk_zret C hR (zd_nb z7) kd_Tk_readToken_54 rfl rfl (zd_rZS z7 e)
set_option maxHeartbeats 4000000 in
set_option maxRecDepth 100000 in
theorem zc_Tk_readToken {l : Launch} {D : va_G} {sz0 : Nat} {S : zs_T} {P : ze_T} (h : zs_H) {rv : Int32} {rh : zs_H} (e : f_Tk_readToken h = some (rv, rh)) : zk_Sp (zs_G S l D sz0) (ze_E P) km_Tk_readToken { frames := 5, cells := 0, slots := 0, locals := 119 } [.ref (S.1 8)] (zs_W S h) (zd_PZ S rv rh) := by
  refine zk_met ku_Tk_readToken (Nat.le_of_ble_eq_true rfl) (ze_Em P) ?_
  intro X C hR
  refine zk_lvs (lv' := [(0, .ref (S.1 8))]) [0] rfl ?_
  unfold f_Tk_readToken at e
  refine zk_aload_n C kd_Tk_readToken_0 rfl 0 rfl rfl ?_
  refine zk_aload_n C kd_Tk_readToken_1 rfl 0 rfl rfl ?_
  refine zs_get (v := .int (h.1 8 7)) C 8 7 rfl rfl rfl rfl ki_Tk (by decide) kw129 kd_Tk_readToken_2 rfl ?_
  obtain ⟨v2, c1, e⟩ := zd_b e
  refine zs_callV (k := 8) (rn := { frames := 0, cells := 0, slots := 0, locals := 0 }) (As := [.int (h.1 8 7)]) (rest := []) C (zc_Tk_peek h (h.1 8 7) c1) ku_Tk_peek kw722 kv_Tk_peek rfl ⟨by decide, by decide⟩ ⟨by decide, by decide⟩ rfl rfl rfl (Nat.le_of_ble_eq_true rfl) kd_Tk_readToken_5 rfl (c1 := 0) (s1 := 0) rfl rfl (fun v w hp => ?_)
  obtain ⟨rfl, rfl⟩ := hp
  refine zk_stk (r' := [.int v2]) rfl ?_
  refine zk_istore_n (lv' := [(1, _), (0, _)]) C kd_Tk_readToken_8 rfl (by decide) rfl rfl ?_
  refine zk_iload_n C kd_Tk_readToken_9 rfl 0 rfl rfl ?_
  refine zk_iconst (v := (-1)) C kd_Tk_readToken_10 (by decide) rfl ?_
  refine zk_icmp_ne (tgt := 23) C kd_Tk_readToken_11 (by decide) rfl (fun b3 => ?_) (fun b3 => ?_)
  · replace e := zd_neg b3 e
    refine zk_iload_n C kd_Tk_readToken_23 rfl 0 rfl rfl ?_
    refine zk_bipush (v := 84) C kd_Tk_readToken_24 (by decide) rfl ?_
    refine zk_icmp_eq (tgt := 35) C kd_Tk_readToken_26 (by decide) rfl (fun b4 => ?_) (fun b4 => ?_)
    · replace e := zd_pos b4 e
      refine zk_lvs (lv' := [(0, .ref (S.1 8)), (1, .int v2)]) [1, 0] rfl ?_
      exact zb_Tk_readToken_35 C hR h v2 e
    · replace e := zd_neg b4 e
      refine zk_iload_n C kd_Tk_readToken_29 rfl 0 rfl rfl ?_
      refine zk_bipush (v := 116) C kd_Tk_readToken_30 (by decide) rfl ?_
      refine zk_icmp_ne (tgt := 55) C kd_Tk_readToken_32 (by decide) rfl (fun b5 => ?_) (fun b5 => ?_)
      · replace e := zd_neg b5 e
        refine zk_lvs (lv' := [(0, .ref (S.1 8)), (1, .int v2)]) [1, 0] rfl ?_
        exact zb_Tk_readToken_55 C hR h v2 e
      · replace e := zd_pos b5 e
        refine zk_lvs (lv' := [(0, .ref (S.1 8)), (1, .int v2)]) [1, 0] rfl ?_
        exact zb_Tk_readToken_35 C hR h v2 e
  · replace e := zd_pos b3 e
    refine zk_aload_n C kd_Tk_readToken_14 rfl 1 rfl rfl ?_
    refine zk_bipush (v := 6) C kd_Tk_readToken_15 (by decide) rfl ?_
    refine zk_iconst (v := 0) C kd_Tk_readToken_17 (by decide) rfl ?_
    obtain ⟨h7, c6, e⟩ := zd_b e
    refine zs_callV (k := 8) (rn := { frames := 0, cells := 0, slots := 0, locals := 0 }) (As := [.int 6, .int 0]) (rest := []) C (zc_Tk_add h 6 0 c6) ku_Tk_add kw734 kv_Tk_add rfl ⟨by decide, by decide⟩ ⟨by decide, by decide⟩ rfl rfl rfl (Nat.le_of_ble_eq_true rfl) kd_Tk_readToken_18 rfl (c1 := 0) (s1 := 0) rfl rfl (fun v w hp => ?_)
    obtain ⟨rfl, rfl⟩ := hp
    refine zk_stk (r' := []) rfl ?_
    refine zk_iconst (v := 0) C kd_Tk_readToken_21 (by decide) rfl ?_
    exact zk_zret C hR (zd_nb (Or.inl rfl)) kd_Tk_readToken_22 rfl rfl (zd_rZS (Or.inl rfl) e)
set_option maxHeartbeats 4000000 in
set_option maxRecDepth 100000 in
theorem zb_Tk_read_c1_56 {X : zkj_T} {S : zs_T} {P : ze_T} {l : Launch} {D : va_G} {sz0 : Nat} {rh : zs_H} (C : zk_C X km_Tk_read (zs_G S l D sz0) { frames := 6, cells := 0, slots := 0, locals := 140 } (ze_E P)) (hR : zkj_R X (zd_PV S rh) (none)) {k25 : zs_H → Int32 → Int32 → (Option zs_H)} (hk25 : ∀ (h : zs_H) (x3 : Int32) (x4 : Int32), k25 h x3 x4 = some rh → zk_Ab X (zs_W S h) 0 0 25 [(0, .ref (S.1 8)), (3, .int x3), (4, .int x4)] []) (h : zs_H) (x4 : Int32) (y0 : Int32) (e : f_Tk_read_c1_56 k25 h x4 y0 = some rh) : zk_Ab X (zs_W S h) 0 0 56 [(0, .ref (S.1 8)), (4, .int x4)] [.int y0] := by
  unfold f_Tk_read_c1_56 at e
  refine zk_istore_n (lv' := [(3, _), (0, _), (4, _)]) C kd_Tk_read_56 rfl (by decide) rfl rfl ?_
  refine zk_iinc (v := (x4 + 1)) (lv' := [(4, _), (3, _), (0, _)]) C kd_Tk_read_57 2 rfl rfl (by decide) rfl rfl ?_
  refine zk_goto (tgt := 25) C kd_Tk_read_60 (by decide) ?_
  refine zk_lvs (lv' := [(0, .ref (S.1 8)), (3, .int y0), (4, .int (x4 + 1))]) [2, 1, 0] rfl ?_
  exact hk25 h y0 (x4 + 1) e
set_option maxHeartbeats 4000000 in
set_option maxRecDepth 100000 in
theorem zb_Tk_read_c1_55 {X : zkj_T} {S : zs_T} {P : ze_T} {l : Launch} {D : va_G} {sz0 : Nat} {rh : zs_H} (C : zk_C X km_Tk_read (zs_G S l D sz0) { frames := 6, cells := 0, slots := 0, locals := 140 } (ze_E P)) (hR : zkj_R X (zd_PV S rh) (none)) {k25 : zs_H → Int32 → Int32 → (Option zs_H)} (hk25 : ∀ (h : zs_H) (x3 : Int32) (x4 : Int32), k25 h x3 x4 = some rh → zk_Ab X (zs_W S h) 0 0 25 [(0, .ref (S.1 8)), (3, .int x3), (4, .int x4)] []) (h : zs_H) (x4 : Int32) (e : f_Tk_read_c1_55 k25 h x4 = some rh) : zk_Ab X (zs_W S h) 0 0 55 [(0, .ref (S.1 8)), (4, .int x4)] [] := by
  unfold f_Tk_read_c1_55 at e
  refine zk_iconst (v := 0) C kd_Tk_read_55 (by decide) rfl ?_
  refine zk_lvs (lv' := [(0, .ref (S.1 8)), (4, .int x4)]) [0, 1] rfl ?_
  exact zb_Tk_read_c1_56 C hR hk25 h x4 0 e
set_option maxHeartbeats 4000000 in
set_option maxRecDepth 100000 in
theorem zb_Tk_read_c1_25 {X : zkj_T} {S : zs_T} {P : ze_T} {l : Launch} {D : va_G} {sz0 : Nat} {rh : zs_H} (C : zk_C X km_Tk_read (zs_G S l D sz0) { frames := 6, cells := 0, slots := 0, locals := 140 } (ze_E P)) (hR : zkj_R X (zd_PV S rh) (none)) {k25 : zs_H → Int32 → Int32 → (Option zs_H)} (hk25 : ∀ (h : zs_H) (x3 : Int32) (x4 : Int32), k25 h x3 x4 = some rh → zk_Ab X (zs_W S h) 0 0 25 [(0, .ref (S.1 8)), (3, .int x3), (4, .int x4)] []) (h : zs_H) (x3 : Int32) (x4 : Int32) (e : f_Tk_read_c1_25 k25 h x3 x4 = some rh) : zk_Ab X (zs_W S h) 0 0 25 [(0, .ref (S.1 8)), (3, .int x3), (4, .int x4)] [] := by
  unfold f_Tk_read_c1_25 at e
  refine zk_iload C kd_Tk_read_25 2 rfl rfl ?_
  refine zk_sipush (v := 16384) C kd_Tk_read_27 (by decide) rfl ?_
  refine zk_icmp_gt (tgt := 63) C kd_Tk_read_30 (by decide) rfl (fun b1 => ?_) (fun b1 => ?_)
  · replace e := zd_pos b1 e
    exact zk_vret C hR kd_Tk_read_63 rfl rfl (zd_rV e)
  · replace e := zd_neg b1 e
    refine zk_iload_n C kd_Tk_read_33 rfl 1 rfl rfl ?_
    refine zk_if_eq (tgt := 63) C kd_Tk_read_34 (by decide) rfl (fun b2 => ?_) (fun b2 => ?_)
    · replace e := zd_pos b2 e
      exact zk_vret C hR kd_Tk_read_63 rfl rfl (zd_rV e)
    · replace e := zd_neg b2 e
      refine zk_aload_n C kd_Tk_read_37 rfl 0 rfl rfl ?_
      obtain ⟨v4, h5, c3, e⟩ := zd_Be e
      refine zs_callV (k := 8) (rn := { frames := 2, cells := 0, slots := 0, locals := 43 }) (As := []) (rest := []) C (zc_Tk_skipBlanks h c3) ku_Tk_skipBlanks kw718 kv_Tk_skipBlanks rfl ⟨by decide, by decide⟩ ⟨by decide, by decide⟩ rfl rfl rfl (Nat.le_of_ble_eq_true rfl) kd_Tk_read_38 rfl (c1 := 0) (s1 := 0) rfl rfl (fun v w hp => ?_)
      obtain ⟨rfl, rfl, z6⟩ := hp
      refine zk_stk (r' := [.int v4]) rfl ?_
      refine zk_if_eq (tgt := 55) C kd_Tk_read_41 (by decide) rfl (fun b7 => ?_) (fun b7 => ?_)
      · replace e := zd_pos b7 e
        refine zk_lvs (lv' := [(0, .ref (S.1 8)), (4, .int x4)]) [0, 2] rfl ?_
        exact zb_Tk_read_c1_55 C hR hk25 h5 x4 e
      · replace e := zd_neg b7 e
        refine zk_aload_n C kd_Tk_read_44 rfl 0 rfl rfl ?_
        obtain ⟨v9, h10, c8, e⟩ := zd_Be e
        refine zs_callV (k := 8) (rn := { frames := 5, cells := 0, slots := 0, locals := 119 }) (As := []) (rest := []) C (zc_Tk_readToken h5 c8) ku_Tk_readToken kw738 kv_Tk_readToken rfl ⟨by decide, by decide⟩ ⟨by decide, by decide⟩ rfl rfl rfl (Nat.le_of_ble_eq_true rfl) kd_Tk_read_45 rfl (c1 := 0) (s1 := 0) rfl rfl (fun v w hp => ?_)
        obtain ⟨rfl, rfl, z11⟩ := hp
        refine zk_stk (r' := [.int v9]) rfl ?_
        refine zk_if_eq (tgt := 55) C kd_Tk_read_48 (by decide) rfl (fun b12 => ?_) (fun b12 => ?_)
        · replace e := zd_pos b12 e
          refine zk_lvs (lv' := [(0, .ref (S.1 8)), (4, .int x4)]) [0, 2] rfl ?_
          exact zb_Tk_read_c1_55 C hR hk25 h10 x4 e
        · replace e := zd_neg b12 e
          refine zk_iconst (v := 1) C kd_Tk_read_51 (by decide) rfl ?_
          refine zk_goto (tgt := 56) C kd_Tk_read_52 (by decide) ?_
          refine zk_lvs (lv' := [(0, .ref (S.1 8)), (4, .int x4)]) [0, 2] rfl ?_
          exact zb_Tk_read_c1_56 C hR hk25 h10 x4 1 e
theorem zl_Tk_read_c1_25 {X : zkj_T} {S : zs_T} {P : ze_T} {l : Launch} {D : va_G} {sz0 : Nat} {rh : zs_H} (C : zk_C X km_Tk_read (zs_G S l D sz0) { frames := 6, cells := 0, slots := 0, locals := 140 } (ze_E P)) (hR : zkj_R X (zd_PV S rh) (none)) (n : Nat) : ∀ (h : zs_H) (x3 : Int32) (x4 : Int32), f_Tk_read_c1_L25 n h x3 x4 = some rh → zk_Ab X (zs_W S h) 0 0 25 [(0, .ref (S.1 8)), (3, .int x3), (4, .int x4)] [] := by
  induction n with
  | zero => intro h x3 x4 e; exact zd_no e
  | succ n ih => intro h x3 x4 e; exact zb_Tk_read_c1_25 (k25 := f_Tk_read_c1_L25  n) C hR ih h x3 x4 e
set_option maxHeartbeats 4000000 in
set_option maxRecDepth 100000 in
theorem zc_Tk_read_c1 {l : Launch} {D : va_G} {sz0 : Nat} {S : zs_T} {P : ze_T} (h : zs_H) (x2 : Int32) {rh : zs_H} (e : f_Tk_read_c1 h x2 = some rh) : zk_Sp (zs_G S l D sz0) (ze_E P) km_Tk_read { frames := 6, cells := 0, slots := 0, locals := 140 } [.ref (S.1 8), .ref (S.1 1), .int x2] (zs_W S h) (zd_PV S rh) := by
  refine zk_met ku_Tk_read (Nat.le_of_ble_eq_true rfl) (ze_Em P) ?_
  intro X C hR
  refine zk_lvs (lv' := [(0, .ref (S.1 8)), (1, .ref (S.1 1)), (2, .int x2)]) [0, 1, 2] rfl ?_
  unfold f_Tk_read_c1 at e
  refine zk_aload_n C kd_Tk_read_0 rfl 0 rfl rfl ?_
  refine zk_aload_n C kd_Tk_read_1 rfl 1 rfl rfl ?_
  refine zs_put (ty := .array .byte) C 8 5 1 rfl rfl rfl rfl ki_Tk ky_Tk ko_Tk kn_Tk (by decide) kw127 rfl rfl rfl rfl (by decide) kd_Tk_read_2 rfl ?_
  refine zk_aload_n C kd_Tk_read_5 rfl 0 rfl rfl ?_
  refine zk_iload_n C kd_Tk_read_6 rfl 2 rfl rfl ?_
  refine zs_put (ty := .int) C 8 6 x2 rfl rfl rfl rfl ki_Tk ky_Tk ko_Tk kn_Tk (by decide) kw128 rfl rfl rfl rfl (by decide) kd_Tk_read_7 rfl ?_
  refine zk_aload_n C kd_Tk_read_10 rfl 0 rfl rfl ?_
  refine zk_iconst (v := 0) C kd_Tk_read_11 (by decide) rfl ?_
  refine zs_put (ty := .int) C 8 7 0 rfl rfl rfl rfl ki_Tk ky_Tk ko_Tk kn_Tk (by decide) kw129 rfl rfl rfl rfl (by decide) kd_Tk_read_12 rfl ?_
  refine zk_aload_n C kd_Tk_read_15 rfl 0 rfl rfl ?_
  refine zk_iconst (v := 0) C kd_Tk_read_16 (by decide) rfl ?_
  refine zs_put (ty := .int) C 8 3 0 rfl rfl rfl rfl ki_Tk ky_Tk ko_Tk kn_Tk (by decide) kw124 rfl rfl rfl rfl (by decide) kd_Tk_read_17 rfl ?_
  refine zk_iconst (v := 1) C kd_Tk_read_20 (by decide) rfl ?_
  refine zk_istore_n (lv' := [(3, _), (0, _), (1, _), (2, _)]) C kd_Tk_read_21 rfl (by decide) rfl rfl ?_
  refine zk_iconst (v := 0) C kd_Tk_read_22 (by decide) rfl ?_
  refine zk_istore (lv' := [(4, _), (3, _), (0, _), (1, _), (2, _)]) C kd_Tk_read_23 (by decide) rfl rfl ?_
  refine zk_lvs (lv' := [(0, .ref (S.1 8)), (3, .int 1), (4, .int 0)]) [2, 1, 0] rfl ?_
  exact zl_Tk_read_c1_25 C hR zF (zs_uF (zs_uF (zs_uF (zs_uF h 8 5 1) 8 6 x2) 8 7 0) 8 3 0) 1 0 e
set_option maxHeartbeats 4000000 in
set_option maxRecDepth 100000 in
theorem zc_Tr_add {l : Launch} {D : va_G} {sz0 : Nat} {S : zs_T} {P : ze_T} (h : zs_H) (x1 : Int32) (x2 : Int32) (x3 : Int32) {rv : Int32} {rh : zs_H} (e : f_Tr_add h x1 x2 x3 = some (rv, rh)) : zk_Sp (zs_G S l D sz0) (ze_E P) km_Tr_add { frames := 1, cells := 0, slots := 0, locals := 23 } [.ref (S.1 12), .int x1, .int x2, .int x3] (zs_W S h) (zd_PI S rv rh) := by
  refine zk_met ku_Tr_add (Nat.le_of_ble_eq_true rfl) (ze_Em P) ?_
  intro X C hR
  refine zk_lvs (lv' := [(0, .ref (S.1 12)), (1, .int x1), (2, .int x2), (3, .int x3)]) [0, 1, 2, 3] rfl ?_
  unfold f_Tr_add at e
  refine zk_aload_n C kd_Tr_add_0 rfl 0 rfl rfl ?_
  refine zs_get (v := .int (h.1 12 6)) C 12 6 rfl rfl rfl rfl ki_Tr (by decide) kw175 kd_Tr_add_1 rfl ?_
  refine zk_ldc (v := 32783) C kw870 kd_Tr_add_4 rfl ?_
  refine zk_mmin C kw871 kw816 kw19 (by decide) (Nat.le_of_ble_eq_true rfl) (Nat.le_refl _) (Nat.le_refl _) kd_Tr_add_6 rfl ?_
  refine zk_istore (lv' := [(4, _), (0, _), (1, _), (2, _), (3, _)]) C kd_Tr_add_9 (by decide) rfl rfl ?_
  refine zk_aload_n C kd_Tr_add_11 rfl 1 rfl rfl ?_
  refine zs_get (v := .ref (S.1 13)) C 12 0 rfl rfl rfl rfl ki_Tr (by decide) kw155 kd_Tr_add_12 rfl ?_
  refine zk_iload C kd_Tr_add_15 0 rfl rfl ?_
  refine zk_iload_n C kd_Tr_add_17 rfl 2 rfl rfl ?_
  refine zk_i2b C kd_Tr_add_18 rfl ?_
  obtain ⟨q1, e⟩ := zd_g e
  refine zs_bast C 13 rfl (zd_vp q1) kd_Tr_add_19 rfl ?_
  refine zk_aload_n C kd_Tr_add_20 rfl 1 rfl rfl ?_
  refine zs_get (v := .ref (S.1 14)) C 12 1 rfl rfl rfl rfl ki_Tr (by decide) kw159 kd_Tr_add_21 rfl ?_
  refine zk_iload C kd_Tr_add_24 0 rfl rfl ?_
  refine zk_iconst (v := 0) C kd_Tr_add_26 (by decide) rfl ?_
  refine zs_bast C 14 rfl (zd_vp q1) kd_Tr_add_27 rfl ?_
  refine zk_aload_n C kd_Tr_add_28 rfl 1 rfl rfl ?_
  refine zs_get (v := .ref (S.1 15)) C 12 2 rfl rfl rfl rfl ki_Tr (by decide) kw162 kd_Tr_add_29 rfl ?_
  refine zk_iload C kd_Tr_add_32 0 rfl rfl ?_
  refine zk_iload_n C kd_Tr_add_34 rfl 3 rfl rfl ?_
  refine zk_i2c C kd_Tr_add_35 rfl ?_
  refine zs_cast C 15 rfl (zd_vp q1) kd_Tr_add_36 rfl ?_
  refine zk_aload_n C kd_Tr_add_37 rfl 1 rfl rfl ?_
  refine zs_get (v := .ref (S.1 16)) C 12 3 rfl rfl rfl rfl ki_Tr (by decide) kw165 kd_Tr_add_38 rfl ?_
  refine zk_iload C kd_Tr_add_41 0 rfl rfl ?_
  refine zk_iload_n C kd_Tr_add_43 rfl 4 rfl rfl ?_
  refine zs_iast C 16 rfl (zd_vp q1) kd_Tr_add_44 rfl ?_
  refine zk_aload_n C kd_Tr_add_45 rfl 1 rfl rfl ?_
  refine zs_get (v := .ref (S.1 17)) C 12 4 rfl rfl rfl rfl ki_Tr (by decide) kw169 kd_Tr_add_46 rfl ?_
  refine zk_iload C kd_Tr_add_49 0 rfl rfl ?_
  refine zk_iconst (v := (-1)) C kd_Tr_add_51 (by decide) rfl ?_
  refine zs_iast C 17 rfl (zd_vp q1) kd_Tr_add_52 rfl ?_
  refine zk_aload_n C kd_Tr_add_53 rfl 1 rfl rfl ?_
  refine zs_get (v := .ref (S.1 18)) C 12 5 rfl rfl rfl rfl ki_Tr (by decide) kw172 kd_Tr_add_54 rfl ?_
  refine zk_iload C kd_Tr_add_57 0 rfl rfl ?_
  refine zk_iconst (v := (-1)) C kd_Tr_add_59 (by decide) rfl ?_
  refine zs_iast C 18 rfl (zd_vp q1) kd_Tr_add_60 rfl ?_
  refine zk_aload_n C kd_Tr_add_61 rfl 1 rfl rfl ?_
  refine zk_iload C kd_Tr_add_62 0 rfl rfl ?_
  refine zk_iconst (v := 1) C kd_Tr_add_64 (by decide) rfl ?_
  refine zk_iadd C kd_Tr_add_65 rfl ?_
  refine zs_put (ty := .int) C 12 6 ((zd_min (h.1 12 6) 32783) + 1) rfl rfl rfl rfl ki_Tr ky_Tr ko_Tr kn_Tr (by decide) kw175 rfl rfl rfl rfl (by decide) kd_Tr_add_66 rfl ?_
  refine zk_iload C kd_Tr_add_69 0 rfl rfl ?_
  exact zk_iret C hR kd_Tr_add_71 rfl rfl (zd_rIS e)
set_option maxHeartbeats 4000000 in
set_option maxRecDepth 100000 in
theorem zb_Ps_take_119 {X : zkj_T} {S : zs_T} {P : ze_T} {l : Launch} {D : va_G} {sz0 : Nat} {rh : zs_H} (C : zk_C X km_Ps_take (zs_G S l D sz0) { frames := 0, cells := 0, slots := 0, locals := 0 } (ze_E P)) (hR : zkj_R X (zd_PV S rh) (none)) (h : zs_H) (e : f_Ps_take_119 h = some rh) : zk_Ab X (zs_W S h) 0 0 119 [(0, .ref (S.1 19))] [] := by
  unfold f_Ps_take_119 at e
  refine zk_aload_n C kd_Ps_take_119 rfl 0 rfl rfl ?_
  refine zk_iconst (v := 0) C kd_Ps_take_120 (by decide) rfl ?_
  refine zs_put (ty := .int) C 19 5 0 rfl rfl rfl rfl ki_Ps ky_Ps ko_Ps kn_Ps (by decide) kw206 rfl rfl rfl rfl (by decide) kd_Ps_take_121 rfl ?_
  exact zk_vret C hR kd_Ps_take_124 rfl rfl (zd_rV e)
set_option maxHeartbeats 4000000 in
set_option maxRecDepth 100000 in
theorem zb_Ps_take_108 {X : zkj_T} {S : zs_T} {P : ze_T} {l : Launch} {D : va_G} {sz0 : Nat} {rh : zs_H} (C : zk_C X km_Ps_take (zs_G S l D sz0) { frames := 0, cells := 0, slots := 0, locals := 0 } (ze_E P)) (hR : zkj_R X (zd_PV S rh) (none)) (h : zs_H) (y0 : Int32) (e : f_Ps_take_108 h y0 = some rh) : zk_Ab X (zs_W S h) 0 0 108 [(0, .ref (S.1 19))] [.int y0, .ref (S.1 19)] := by
  unfold f_Ps_take_108 at e
  refine zs_put (ty := .int) C 19 3 y0 rfl rfl rfl rfl ki_Ps ky_Ps ko_Ps kn_Ps (by decide) kw204 rfl rfl rfl rfl (by decide) kd_Ps_take_108 rfl ?_
  refine zk_aload_n C kd_Ps_take_111 rfl 0 rfl rfl ?_
  refine zk_aload_n C kd_Ps_take_112 rfl 0 rfl rfl ?_
  refine zs_get (v := .int (h.1 19 6)) C 19 6 rfl rfl rfl rfl ki_Ps (by decide) kw207 kd_Ps_take_113 rfl ?_
  refine zs_put (ty := .int) C 19 0 (h.1 19 6) rfl rfl rfl rfl ki_Ps ky_Ps ko_Ps kn_Ps (by decide) kw200 rfl rfl rfl rfl (by decide) kd_Ps_take_116 rfl ?_
  refine zk_lvs (lv' := [(0, .ref (S.1 19))]) [0] rfl ?_
  exact zb_Ps_take_119 C hR (zs_uF (zs_uF h 19 3 y0) 19 0 (h.1 19 6)) e
set_option maxHeartbeats 4000000 in
set_option maxRecDepth 100000 in
theorem zb_Ps_take_74 {X : zkj_T} {S : zs_T} {P : ze_T} {l : Launch} {D : va_G} {sz0 : Nat} {rh : zs_H} (C : zk_C X km_Ps_take (zs_G S l D sz0) { frames := 0, cells := 0, slots := 0, locals := 0 } (ze_E P)) (hR : zkj_R X (zd_PV S rh) (none)) (h : zs_H) (e : f_Ps_take_74 h = some rh) : zk_Ab X (zs_W S h) 0 0 74 [(0, .ref (S.1 19))] [] := by
  unfold f_Ps_take_74 at e
  refine zk_aload_n C kd_Ps_take_74 rfl 0 rfl rfl ?_
  refine zs_get (v := .int (h.1 19 3)) C 19 3 rfl rfl rfl rfl ki_Ps (by decide) kw204 kd_Ps_take_75 rfl ?_
  refine zk_if_ne (tgt := 119) C kd_Ps_take_78 (by decide) rfl (fun b1 => ?_) (fun b1 => ?_)
  · replace e := zd_neg b1 e
    refine zk_lvs (lv' := [(0, .ref (S.1 19))]) [0] rfl ?_
    exact zb_Ps_take_119 C hR h e
  · replace e := zd_pos b1 e
    refine zk_aload_n C kd_Ps_take_81 rfl 0 rfl rfl ?_
    refine zk_aload_n C kd_Ps_take_82 rfl 0 rfl rfl ?_
    refine zs_get (v := .int (h.1 19 5)) C 19 5 rfl rfl rfl rfl ki_Ps (by decide) kw206 kd_Ps_take_83 rfl ?_
    refine zk_bipush (v := 7) C kd_Ps_take_86 (by decide) rfl ?_
    refine zk_icmp_ne (tgt := 106) C kd_Ps_take_88 (by decide) rfl (fun b2 => ?_) (fun b2 => ?_)
    · replace e := zd_neg b2 e
      refine zk_bipush (v := 6) C kd_Ps_take_106 (by decide) rfl ?_
      refine zk_lvs (lv' := [(0, .ref (S.1 19))]) [0] rfl ?_
      exact zb_Ps_take_108 C hR h 6 e
    · replace e := zd_pos b2 e
      refine zk_aload_n C kd_Ps_take_91 rfl 0 rfl rfl ?_
      refine zs_get (v := .ref (S.1 8)) C 19 1 rfl rfl rfl rfl ki_Ps (by decide) kw202 kd_Ps_take_92 rfl ?_
      refine zs_get (v := .ref (S.1 11)) C 8 2 rfl rfl rfl rfl ki_Tk (by decide) kw123 kd_Ps_take_95 rfl ?_
      refine zk_aload_n C kd_Ps_take_98 rfl 0 rfl rfl ?_
      refine zs_get (v := .int (h.1 19 4)) C 19 4 rfl rfl rfl rfl ki_Ps (by decide) kw205 kd_Ps_take_99 rfl ?_
      obtain ⟨q3, e⟩ := zd_g e
      refine zs_iald C 11 rfl (zd_vp q3) kd_Ps_take_102 rfl ?_
      refine zk_goto (tgt := 108) C kd_Ps_take_103 (by decide) ?_
      refine zk_lvs (lv' := [(0, .ref (S.1 19))]) [0] rfl ?_
      exact zb_Ps_take_108 C hR h (h.2.1 11 (h.1 19 4).toNatClampNeg) e
set_option maxHeartbeats 4000000 in
set_option maxRecDepth 100000 in
theorem zc_Ps_take {l : Launch} {D : va_G} {sz0 : Nat} {S : zs_T} {P : ze_T} (h : zs_H) (x1 : Int32) {rh : zs_H} (e : f_Ps_take h x1 = some rh) : zk_Sp (zs_G S l D sz0) (ze_E P) km_Ps_take { frames := 0, cells := 0, slots := 0, locals := 0 } [.ref (S.1 19), .int x1] (zs_W S h) (zd_PV S rh) := by
  refine zk_met ku_Ps_take (Nat.le_of_ble_eq_true rfl) (ze_Em P) ?_
  intro X C hR
  refine zk_lvs (lv' := [(0, .ref (S.1 19)), (1, .int x1)]) [0, 1] rfl ?_
  unfold f_Ps_take at e
  refine zk_aload_n C kd_Ps_take_0 rfl 0 rfl rfl ?_
  refine zs_get (v := .int (h.1 19 3)) C 19 3 rfl rfl rfl rfl ki_Ps (by decide) kw204 kd_Ps_take_1 rfl ?_
  refine zk_if_ne (tgt := 74) C kd_Ps_take_4 (by decide) rfl (fun b1 => ?_) (fun b1 => ?_)
  · replace e := zd_neg b1 e
    refine zk_lvs (lv' := [(0, .ref (S.1 19))]) [0] rfl ?_
    exact zb_Ps_take_74 C hR h e
  · replace e := zd_pos b1 e
    refine zk_aload_n C kd_Ps_take_7 rfl 0 rfl rfl ?_
    refine zs_get (v := .int (h.1 19 5)) C 19 5 rfl rfl rfl rfl ki_Ps (by decide) kw206 kd_Ps_take_8 rfl ?_
    refine zk_iload_n C kd_Ps_take_11 rfl 1 rfl rfl ?_
    refine zk_icmp_ne (tgt := 74) C kd_Ps_take_12 (by decide) rfl (fun b2 => ?_) (fun b2 => ?_)
    · replace e := zd_neg b2 e
      refine zk_lvs (lv' := [(0, .ref (S.1 19))]) [0] rfl ?_
      exact zb_Ps_take_74 C hR h e
    · replace e := zd_pos b2 e
      refine zk_aload_n C kd_Ps_take_15 rfl 0 rfl rfl ?_
      refine zs_get (v := .int (h.1 19 4)) C 19 4 rfl rfl rfl rfl ki_Ps (by decide) kw205 kd_Ps_take_16 rfl ?_
      refine zk_iconst (v := 1) C kd_Ps_take_19 (by decide) rfl ?_
      refine zk_iadd C kd_Ps_take_20 rfl ?_
      refine zk_aload_n C kd_Ps_take_21 rfl 0 rfl rfl ?_
      refine zs_get (v := .ref (S.1 8)) C 19 1 rfl rfl rfl rfl ki_Ps (by decide) kw202 kd_Ps_take_22 rfl ?_
      refine zs_get (v := .int (h.1 8 3)) C 8 3 rfl rfl rfl rfl ki_Tk (by decide) kw125 kd_Ps_take_25 rfl ?_
      refine zk_icmp_ge (tgt := 74) C kd_Ps_take_28 (by decide) rfl (fun b3 => ?_) (fun b3 => ?_)
      · replace e := zd_pos b3 e
        refine zk_lvs (lv' := [(0, .ref (S.1 19))]) [0] rfl ?_
        exact zb_Ps_take_74 C hR h e
      · replace e := zd_neg b3 e
        refine zk_aload_n C kd_Ps_take_31 rfl 0 rfl rfl ?_
        refine zk_dup C kd_Ps_take_32 rfl rfl ?_
        refine zs_get (v := .int (h.1 19 4)) C 19 4 rfl rfl rfl rfl ki_Ps (by decide) kw205 kd_Ps_take_33 rfl ?_
        refine zk_iconst (v := 1) C kd_Ps_take_36 (by decide) rfl ?_
        refine zk_iadd C kd_Ps_take_37 rfl ?_
        refine zs_put (ty := .int) C 19 4 ((h.1 19 4) + 1) rfl rfl rfl rfl ki_Ps ky_Ps ko_Ps kn_Ps (by decide) kw205 rfl rfl rfl rfl (by decide) kd_Ps_take_38 rfl ?_
        refine zk_aload_n C kd_Ps_take_41 rfl 0 rfl rfl ?_
        refine zk_aload_n C kd_Ps_take_42 rfl 0 rfl rfl ?_
        refine zs_get (v := .ref (S.1 8)) C 19 1 rfl rfl rfl rfl ki_Ps (by decide) kw202 kd_Ps_take_43 rfl ?_
        refine zs_get (v := .ref (S.1 9)) C 8 0 rfl rfl rfl rfl ki_Tk (by decide) kw119 kd_Ps_take_46 rfl ?_
        refine zk_aload_n C kd_Ps_take_49 rfl 0 rfl rfl ?_
        refine zs_get (v := .int ((h.1 19 4) + 1)) C 19 4 rfl rfl rfl rfl ki_Ps (by decide) kw205 kd_Ps_take_50 rfl ?_
        obtain ⟨q4, e⟩ := zd_g e
        refine zs_cald C 9 rfl (zd_vp q4) kd_Ps_take_53 rfl ?_
        refine zk_stk (r' := [.int (h.2.1 9 ((h.1 19 4) + 1).toNatClampNeg), .ref (S.1 19)]) rfl ?_
        refine zs_put (ty := .int) C 19 5 (h.2.1 9 ((h.1 19 4) + 1).toNatClampNeg) rfl rfl rfl rfl ki_Ps ky_Ps ko_Ps kn_Ps (by decide) kw206 rfl rfl rfl rfl (by decide) kd_Ps_take_54 rfl ?_
        refine zk_aload_n C kd_Ps_take_57 rfl 0 rfl rfl ?_
        refine zk_aload_n C kd_Ps_take_58 rfl 0 rfl rfl ?_
        refine zs_get (v := .ref (S.1 8)) C 19 1 rfl rfl rfl rfl ki_Ps (by decide) kw202 kd_Ps_take_59 rfl ?_
        refine zs_get (v := .ref (S.1 10)) C 8 1 rfl rfl rfl rfl ki_Tk (by decide) kw121 kd_Ps_take_62 rfl ?_
        refine zk_aload_n C kd_Ps_take_65 rfl 0 rfl rfl ?_
        refine zs_get (v := .int ((h.1 19 4) + 1)) C 19 4 rfl rfl rfl rfl ki_Ps (by decide) kw205 kd_Ps_take_66 rfl ?_
        refine zs_cald C 10 rfl (zd_vp q4) kd_Ps_take_69 rfl ?_
        refine zk_stk (r' := [.int (h.2.1 10 ((h.1 19 4) + 1).toNatClampNeg), .ref (S.1 19)]) rfl ?_
        refine zs_put (ty := .int) C 19 6 (h.2.1 10 ((h.1 19 4) + 1).toNatClampNeg) rfl rfl rfl rfl ki_Ps ky_Ps ko_Ps kn_Ps (by decide) kw207 rfl rfl rfl rfl (by decide) kd_Ps_take_70 rfl ?_
        exact zk_vret C hR kd_Ps_take_73 rfl rfl (zd_rV e)
set_option maxHeartbeats 4000000 in
set_option maxRecDepth 100000 in
theorem zb_Ps_simpleType_61 {X : zkj_T} {S : zs_T} {P : ze_T} {l : Launch} {D : va_G} {sz0 : Nat} {rv : Int32} {rh : zs_H} (C : zk_C X km_Ps_simpleType (zs_G S l D sz0) { frames := 2, cells := 0, slots := 0, locals := 47 } (ze_E P)) (hR : zkj_R X (zd_PI S rv rh) (some .int)) (h : zs_H) (x1 : Int32) (y0 : Int32) (e : f_Ps_simpleType_61 h x1 y0 = some (rv, rh)) : zk_Ab X (zs_W S h) 0 0 61 [(1, .int x1)] [.int y0, .ref (S.1 19)] := by
  unfold f_Ps_simpleType_61 at e
  obtain ⟨h2, c1, e⟩ := zd_b e
  refine zs_callV (k := 19) (rn := { frames := 0, cells := 0, slots := 0, locals := 0 }) (As := [.int y0]) (rest := []) C (zc_Ps_take h y0 c1) ku_Ps_take kw876 kv_Ps_take rfl ⟨by decide, by decide⟩ ⟨by decide, by decide⟩ rfl rfl rfl (Nat.le_of_ble_eq_true rfl) kd_Ps_simpleType_61 rfl (c1 := 0) (s1 := 0) rfl rfl (fun v w hp => ?_)
  obtain ⟨rfl, rfl⟩ := hp
  refine zk_stk (r' := []) rfl ?_
  refine zk_iload_n C kd_Ps_simpleType_64 rfl 0 rfl rfl ?_
  exact zk_iret C hR kd_Ps_simpleType_65 rfl rfl (zd_rIS e)
set_option maxHeartbeats 4000000 in
set_option maxRecDepth 100000 in
theorem zb_Ps_simpleType_47 {X : zkj_T} {S : zs_T} {P : ze_T} {l : Launch} {D : va_G} {sz0 : Nat} {rv : Int32} {rh : zs_H} (C : zk_C X km_Ps_simpleType (zs_G S l D sz0) { frames := 2, cells := 0, slots := 0, locals := 47 } (ze_E P)) (hR : zkj_R X (zd_PI S rv rh) (some .int)) (h : zs_H) (x1 : Int32) (y0 : Int32) (e : f_Ps_simpleType_47 h x1 y0 = some (rv, rh)) : zk_Ab X (zs_W S h) 0 0 47 [(0, .ref (S.1 19)), (1, .int x1)] [.int y0] := by
  unfold f_Ps_simpleType_47 at e
  refine zk_istore_n (lv' := [(2, _), (0, _), (1, _)]) C kd_Ps_simpleType_47 rfl (by decide) rfl rfl ?_
  refine zk_aload_n C kd_Ps_simpleType_48 rfl 1 rfl rfl ?_
  refine zk_iload_n C kd_Ps_simpleType_49 rfl 0 rfl rfl ?_
  refine zk_if_eq (tgt := 60) C kd_Ps_simpleType_50 (by decide) rfl (fun b1 => ?_) (fun b1 => ?_)
  · replace e := zd_pos b1 e
    refine zk_iconst (v := (-1)) C kd_Ps_simpleType_60 (by decide) rfl ?_
    refine zk_lvs (lv' := [(1, .int x1)]) [2] rfl ?_
    exact zb_Ps_simpleType_61 C hR h x1 (-1) e
  · replace e := zd_neg b1 e
    refine zk_aload_n C kd_Ps_simpleType_53 rfl 1 rfl rfl ?_
    refine zs_get (v := .int (h.1 19 5)) C 19 5 rfl rfl rfl rfl ki_Ps (by decide) kw206 kd_Ps_simpleType_54 rfl ?_
    refine zk_goto (tgt := 61) C kd_Ps_simpleType_57 (by decide) ?_
    refine zk_lvs (lv' := [(1, .int x1)]) [2] rfl ?_
    exact zb_Ps_simpleType_61 C hR h x1 (h.1 19 5) e
set_option maxHeartbeats 4000000 in
set_option maxRecDepth 100000 in
theorem zb_Ps_simpleType_46 {X : zkj_T} {S : zs_T} {P : ze_T} {l : Launch} {D : va_G} {sz0 : Nat} {rv : Int32} {rh : zs_H} (C : zk_C X km_Ps_simpleType (zs_G S l D sz0) { frames := 2, cells := 0, slots := 0, locals := 47 } (ze_E P)) (hR : zkj_R X (zd_PI S rv rh) (some .int)) (h : zs_H) (x1 : Int32) (e : f_Ps_simpleType_46 h x1 = some (rv, rh)) : zk_Ab X (zs_W S h) 0 0 46 [(0, .ref (S.1 19)), (1, .int x1)] [] := by
  unfold f_Ps_simpleType_46 at e
  refine zk_iconst (v := 0) C kd_Ps_simpleType_46 (by decide) rfl ?_
  refine zk_lvs (lv' := [(0, .ref (S.1 19)), (1, .int x1)]) [0, 1] rfl ?_
  exact zb_Ps_simpleType_47 C hR h x1 0 e
set_option maxHeartbeats 4000000 in
set_option maxRecDepth 100000 in
theorem zc_Ps_simpleType {l : Launch} {D : va_G} {sz0 : Nat} {S : zs_T} {P : ze_T} (h : zs_H) {rv : Int32} {rh : zs_H} (e : f_Ps_simpleType h = some (rv, rh)) : zk_Sp (zs_G S l D sz0) (ze_E P) km_Ps_simpleType { frames := 2, cells := 0, slots := 0, locals := 47 } [.ref (S.1 19)] (zs_W S h) (zd_PI S rv rh) := by
  refine zk_met ku_Ps_simpleType (Nat.le_of_ble_eq_true rfl) (ze_Em P) ?_
  intro X C hR
  refine zk_lvs (lv' := [(0, .ref (S.1 19))]) [0] rfl ?_
  unfold f_Ps_simpleType at e
  refine zk_aload_n C kd_Ps_simpleType_0 rfl 0 rfl rfl ?_
  refine zs_get (v := .ref (S.1 12)) C 19 2 rfl rfl rfl rfl ki_Ps (by decide) kw203 kd_Ps_simpleType_1 rfl ?_
  refine zk_bipush (v := 8) C kd_Ps_simpleType_4 (by decide) rfl ?_
  refine zk_aload_n C kd_Ps_simpleType_6 rfl 0 rfl rfl ?_
  refine zs_get (v := .int (h.1 19 6)) C 19 6 rfl rfl rfl rfl ki_Ps (by decide) kw207 kd_Ps_simpleType_7 rfl ?_
  refine zk_aload_n C kd_Ps_simpleType_10 rfl 0 rfl rfl ?_
  refine zs_get (v := .int (h.1 19 5)) C 19 5 rfl rfl rfl rfl ki_Ps (by decide) kw206 kd_Ps_simpleType_11 rfl ?_
  refine zk_sipush (v := 139) C kd_Ps_simpleType_14 (by decide) rfl ?_
  refine zk_isub C kd_Ps_simpleType_17 rfl ?_
  obtain ⟨v2, h3, c1, e⟩ := zd_Be e
  refine zs_callV (k := 12) (rn := { frames := 1, cells := 0, slots := 0, locals := 23 }) (As := [.int 8, .int (h.1 19 6), .int ((h.1 19 5) - 139)]) (rest := []) C (zc_Tr_add h 8 (h.1 19 6) ((h.1 19 5) - 139) c1) ku_Tr_add kw866 kv_Tr_add rfl ⟨by decide, by decide⟩ ⟨by decide, by decide⟩ rfl rfl rfl (Nat.le_of_ble_eq_true rfl) kd_Ps_simpleType_18 rfl (c1 := 0) (s1 := 0) rfl rfl (fun v w hp => ?_)
  obtain ⟨rfl, rfl⟩ := hp
  refine zk_stk (r' := [.int v2]) rfl ?_
  refine zk_istore_n (lv' := [(1, _), (0, _)]) C kd_Ps_simpleType_21 rfl (by decide) rfl rfl ?_
  refine zk_aload_n C kd_Ps_simpleType_22 rfl 1 rfl rfl ?_
  refine zs_get (v := .int (h3.1 19 5)) C 19 5 rfl rfl rfl rfl ki_Ps (by decide) kw206 kd_Ps_simpleType_23 rfl ?_
  refine zk_sipush (v := 139) C kd_Ps_simpleType_26 (by decide) rfl ?_
  refine zk_icmp_lt (tgt := 46) C kd_Ps_simpleType_29 (by decide) rfl (fun b4 => ?_) (fun b4 => ?_)
  · replace e := zd_pos b4 e
    refine zk_lvs (lv' := [(0, .ref (S.1 19)), (1, .int v2)]) [1, 0] rfl ?_
    exact zb_Ps_simpleType_46 C hR h3 v2 e
  · replace e := zd_neg b4 e
    refine zk_aload_n C kd_Ps_simpleType_32 rfl 1 rfl rfl ?_
    refine zs_get (v := .int (h3.1 19 5)) C 19 5 rfl rfl rfl rfl ki_Ps (by decide) kw206 kd_Ps_simpleType_33 rfl ?_
    refine zk_sipush (v := 141) C kd_Ps_simpleType_36 (by decide) rfl ?_
    refine zk_icmp_gt (tgt := 46) C kd_Ps_simpleType_39 (by decide) rfl (fun b5 => ?_) (fun b5 => ?_)
    · replace e := zd_pos b5 e
      refine zk_lvs (lv' := [(0, .ref (S.1 19)), (1, .int v2)]) [1, 0] rfl ?_
      exact zb_Ps_simpleType_46 C hR h3 v2 e
    · replace e := zd_neg b5 e
      refine zk_iconst (v := 1) C kd_Ps_simpleType_42 (by decide) rfl ?_
      refine zk_goto (tgt := 47) C kd_Ps_simpleType_43 (by decide) ?_
      refine zk_lvs (lv' := [(0, .ref (S.1 19)), (1, .int v2)]) [1, 0] rfl ?_
      exact zb_Ps_simpleType_47 C hR h3 v2 1 e
set_option maxHeartbeats 4000000 in
set_option maxRecDepth 100000 in
theorem zc_Tr_hang {l : Launch} {D : va_G} {sz0 : Nat} {S : zs_T} {P : ze_T} (h : zs_H) (x1 : Int32) (x2 : Int32) (x3 : Int32) {rv : Int32} {rh : zs_H} (e : f_Tr_hang h x1 x2 x3 = some (rv, rh)) : zk_Sp (zs_G S l D sz0) (ze_E P) km_Tr_hang { frames := 0, cells := 0, slots := 0, locals := 0 } [.ref (S.1 12), .int x1, .int x2, .int x3] (zs_W S h) (zd_PI S rv rh) := by
  refine zk_met ku_Tr_hang (Nat.le_of_ble_eq_true rfl) (ze_Em P) ?_
  intro X C hR
  refine zk_lvs (lv' := [(0, .ref (S.1 12)), (1, .int x1), (2, .int x2), (3, .int x3)]) [0, 1, 2, 3] rfl ?_
  unfold f_Tr_hang at e
  refine zk_iload_n C kd_Tr_hang_0 rfl 2 rfl rfl ?_
  refine zk_iconst (v := (-1)) C kd_Tr_hang_1 (by decide) rfl ?_
  refine zk_icmp_ne (tgt := 15) C kd_Tr_hang_2 (by decide) rfl (fun b1 => ?_) (fun b1 => ?_)
  · replace e := zd_neg b1 e
    refine zk_aload_n C kd_Tr_hang_15 rfl 0 rfl rfl ?_
    refine zs_get (v := .ref (S.1 18)) C 12 5 rfl rfl rfl rfl ki_Tr (by decide) kw172 kd_Tr_hang_16 rfl ?_
    refine zk_iload_n C kd_Tr_hang_19 rfl 2 rfl rfl ?_
    refine zk_iload_n C kd_Tr_hang_20 rfl 3 rfl rfl ?_
    obtain ⟨q2, e⟩ := zd_g e
    refine zs_iast C 18 rfl (zd_vp q2) kd_Tr_hang_21 rfl ?_
    refine zk_iload_n C kd_Tr_hang_22 rfl 3 rfl rfl ?_
    exact zk_iret C hR kd_Tr_hang_23 rfl rfl (zd_rIS e)
  · replace e := zd_pos b1 e
    refine zk_aload_n C kd_Tr_hang_5 rfl 0 rfl rfl ?_
    refine zs_get (v := .ref (S.1 17)) C 12 4 rfl rfl rfl rfl ki_Tr (by decide) kw169 kd_Tr_hang_6 rfl ?_
    refine zk_iload_n C kd_Tr_hang_9 rfl 1 rfl rfl ?_
    refine zk_iload_n C kd_Tr_hang_10 rfl 3 rfl rfl ?_
    obtain ⟨q3, e⟩ := zd_g e
    refine zs_iast C 17 rfl (zd_vp q3) kd_Tr_hang_11 rfl ?_
    refine zk_goto (tgt := 22) C kd_Tr_hang_12 (by decide) ?_
    refine zk_iload_n C kd_Tr_hang_22 rfl 3 rfl rfl ?_
    exact zk_iret C hR kd_Tr_hang_23 rfl rfl (zd_rIS e)
set_option maxHeartbeats 4000000 in
set_option maxRecDepth 100000 in
theorem zc_Ps_isSection {l : Launch} {D : va_G} {sz0 : Nat} {S : zs_T} {P : ze_T} (h : zs_H) : zk_Sp (zs_G S l D sz0) (ze_E P) km_Ps_isSection { frames := 0, cells := 0, slots := 0, locals := 0 } [.ref (S.1 19)] (zs_W S h) (zd_PZ S (f_Ps_isSection h) h) := by
  obtain ⟨rv, e⟩ : ∃ rv, f_Ps_isSection h = rv := ⟨_, rfl⟩
  rw [e]
  refine zk_met ku_Ps_isSection (Nat.le_of_ble_eq_true rfl) (ze_Em P) ?_
  intro X C hR
  refine zk_lvs (lv' := [(0, .ref (S.1 19))]) [0] rfl ?_
  unfold f_Ps_isSection at e
  refine zk_aload_n C kd_Ps_isSection_0 rfl 0 rfl rfl ?_
  refine zs_get (v := .int (h.1 19 5)) C 19 5 rfl rfl rfl rfl ki_Ps (by decide) kw206 kd_Ps_isSection_1 rfl ?_
  refine zk_sipush (v := 134) C kd_Ps_isSection_4 (by decide) rfl ?_
  refine zk_icmp_lt (tgt := 24) C kd_Ps_isSection_7 (by decide) rfl (fun b1 => ?_) (fun b1 => ?_)
  · replace e := zd_pos b1 e
    refine zk_iconst (v := 0) C kd_Ps_isSection_24 (by decide) rfl ?_
    exact zk_zret C hR (zd_nb (Or.inl rfl)) kd_Ps_isSection_25 rfl rfl (zd_rZT (Or.inl rfl) e)
  · replace e := zd_neg b1 e
    refine zk_aload_n C kd_Ps_isSection_10 rfl 0 rfl rfl ?_
    refine zs_get (v := .int (h.1 19 5)) C 19 5 rfl rfl rfl rfl ki_Ps (by decide) kw206 kd_Ps_isSection_11 rfl ?_
    refine zk_sipush (v := 136) C kd_Ps_isSection_14 (by decide) rfl ?_
    refine zk_icmp_gt (tgt := 24) C kd_Ps_isSection_17 (by decide) rfl (fun b2 => ?_) (fun b2 => ?_)
    · replace e := zd_pos b2 e
      refine zk_iconst (v := 0) C kd_Ps_isSection_24 (by decide) rfl ?_
      exact zk_zret C hR (zd_nb (Or.inl rfl)) kd_Ps_isSection_25 rfl rfl (zd_rZT (Or.inl rfl) e)
    · replace e := zd_neg b2 e
      refine zk_iconst (v := 1) C kd_Ps_isSection_20 (by decide) rfl ?_
      refine zk_goto (tgt := 25) C kd_Ps_isSection_21 (by decide) ?_
      exact zk_zret C hR (zd_nb (Or.inr rfl)) kd_Ps_isSection_25 rfl rfl (zd_rZT (Or.inr rfl) e)
set_option maxHeartbeats 4000000 in
set_option maxRecDepth 100000 in
theorem zb_Ps_constant_45 {X : zkj_T} {S : zs_T} {P : ze_T} {l : Launch} {D : va_G} {sz0 : Nat} {rv : Int32} {rh : zs_H} (C : zk_C X km_Ps_constant (zs_G S l D sz0) { frames := 2, cells := 0, slots := 0, locals := 47 } (ze_E P)) (hR : zkj_R X (zd_PI S rv rh) (some .int)) (h : zs_H) (y0 : Int32) (y1 : Int32) (y2 : Int32) (e : f_Ps_constant_45 h y0 y1 y2 = some (rv, rh)) : zk_Ab X (zs_W S h) 0 0 45 [(0, .ref (S.1 19))] [.int y0, .int y1, .int y2, .ref (S.1 12)] := by
  unfold f_Ps_constant_45 at e
  obtain ⟨v2, h3, c1, e⟩ := zd_Be e
  refine zs_callV (k := 12) (rn := { frames := 1, cells := 0, slots := 0, locals := 23 }) (As := [.int y2, .int y1, .int y0]) (rest := []) C (zc_Tr_add h y2 y1 y0 c1) ku_Tr_add kw866 kv_Tr_add rfl ⟨by decide, by decide⟩ ⟨by decide, by decide⟩ rfl rfl rfl (Nat.le_of_ble_eq_true rfl) kd_Ps_constant_45 rfl (c1 := 0) (s1 := 0) rfl rfl (fun v w hp => ?_)
  obtain ⟨rfl, rfl⟩ := hp
  refine zk_stk (r' := [.int v2]) rfl ?_
  refine zk_istore_n (lv' := [(1, _), (0, _)]) C kd_Ps_constant_48 rfl (by decide) rfl rfl ?_
  refine zk_aload_n C kd_Ps_constant_49 rfl 1 rfl rfl ?_
  refine zk_aload_n C kd_Ps_constant_50 rfl 1 rfl rfl ?_
  refine zs_get (v := .int (h3.1 19 5)) C 19 5 rfl rfl rfl rfl ki_Ps (by decide) kw206 kd_Ps_constant_51 rfl ?_
  obtain ⟨h5, c4, e⟩ := zd_b e
  refine zs_callV (k := 19) (rn := { frames := 0, cells := 0, slots := 0, locals := 0 }) (As := [.int (h3.1 19 5)]) (rest := []) C (zc_Ps_take h3 (h3.1 19 5) c4) ku_Ps_take kw876 kv_Ps_take rfl ⟨by decide, by decide⟩ ⟨by decide, by decide⟩ rfl rfl rfl (Nat.le_of_ble_eq_true rfl) kd_Ps_constant_54 rfl (c1 := 0) (s1 := 0) rfl rfl (fun v w hp => ?_)
  obtain ⟨rfl, rfl⟩ := hp
  refine zk_stk (r' := []) rfl ?_
  refine zk_iload_n C kd_Ps_constant_57 rfl 0 rfl rfl ?_
  exact zk_iret C hR kd_Ps_constant_58 rfl rfl (zd_rIS e)
set_option maxHeartbeats 4000000 in
set_option maxRecDepth 100000 in
theorem zb_Ps_constant_20 {X : zkj_T} {S : zs_T} {P : ze_T} {l : Launch} {D : va_G} {sz0 : Nat} {rv : Int32} {rh : zs_H} (C : zk_C X km_Ps_constant (zs_G S l D sz0) { frames := 2, cells := 0, slots := 0, locals := 47 } (ze_E P)) (hR : zkj_R X (zd_PI S rv rh) (some .int)) (h : zs_H) (e : f_Ps_constant_20 h = some (rv, rh)) : zk_Ab X (zs_W S h) 0 0 20 [(0, .ref (S.1 19))] [] := by
  unfold f_Ps_constant_20 at e
  refine zk_aload_n C kd_Ps_constant_20 rfl 0 rfl rfl ?_
  refine zs_get (v := .ref (S.1 12)) C 19 2 rfl rfl rfl rfl ki_Ps (by decide) kw203 kd_Ps_constant_21 rfl ?_
  refine zk_bipush (v := 31) C kd_Ps_constant_24 (by decide) rfl ?_
  refine zk_aload_n C kd_Ps_constant_26 rfl 0 rfl rfl ?_
  refine zs_get (v := .int (h.1 19 6)) C 19 6 rfl rfl rfl rfl ki_Ps (by decide) kw207 kd_Ps_constant_27 rfl ?_
  refine zk_aload_n C kd_Ps_constant_30 rfl 0 rfl rfl ?_
  refine zs_get (v := .int (h.1 19 5)) C 19 5 rfl rfl rfl rfl ki_Ps (by decide) kw206 kd_Ps_constant_31 rfl ?_
  refine zk_sipush (v := 163) C kd_Ps_constant_34 (by decide) rfl ?_
  refine zk_icmp_ne (tgt := 44) C kd_Ps_constant_37 (by decide) rfl (fun b1 => ?_) (fun b1 => ?_)
  · replace e := zd_neg b1 e
    refine zk_iconst (v := 0) C kd_Ps_constant_44 (by decide) rfl ?_
    refine zk_lvs (lv' := [(0, .ref (S.1 19))]) [0] rfl ?_
    exact zb_Ps_constant_45 C hR h 0 (h.1 19 6) 31 e
  · replace e := zd_pos b1 e
    refine zk_iconst (v := 1) C kd_Ps_constant_40 (by decide) rfl ?_
    refine zk_goto (tgt := 45) C kd_Ps_constant_41 (by decide) ?_
    refine zk_lvs (lv' := [(0, .ref (S.1 19))]) [0] rfl ?_
    exact zb_Ps_constant_45 C hR h 1 (h.1 19 6) 31 e
set_option maxHeartbeats 4000000 in
set_option maxRecDepth 100000 in
theorem zb_Ps_constant_139 {X : zkj_T} {S : zs_T} {P : ze_T} {l : Launch} {D : va_G} {sz0 : Nat} {rv : Int32} {rh : zs_H} (C : zk_C X km_Ps_constant (zs_G S l D sz0) { frames := 2, cells := 0, slots := 0, locals := 47 } (ze_E P)) (hR : zkj_R X (zd_PI S rv rh) (some .int)) (h : zs_H) (x1 : Int32) (y0 : Int32) (y1 : Int32) (e : f_Ps_constant_139 h x1 y0 y1 = some (rv, rh)) : zk_Ab X (zs_W S h) 0 0 139 [(0, .ref (S.1 19)), (1, .int x1)] [.int y0, .int y1, .ref (S.1 16)] := by
  unfold f_Ps_constant_139 at e
  obtain ⟨q1, e⟩ := zd_g e
  refine zs_iast C 16 rfl (zd_vp q1) kd_Ps_constant_139 rfl ?_
  refine zk_aload_n C kd_Ps_constant_140 rfl 0 rfl rfl ?_
  refine zk_bipush (v := 9) C kd_Ps_constant_141 (by decide) rfl ?_
  obtain ⟨h3, c2, e⟩ := zd_b e
  refine zs_callV (k := 19) (rn := { frames := 0, cells := 0, slots := 0, locals := 0 }) (As := [.int 9]) (rest := []) C (zc_Ps_take (zs_uM h 16 y1.toNatClampNeg y0) 9 c2) ku_Ps_take kw876 kv_Ps_take rfl ⟨by decide, by decide⟩ ⟨by decide, by decide⟩ rfl rfl rfl (Nat.le_of_ble_eq_true rfl) kd_Ps_constant_143 rfl (c1 := 0) (s1 := 0) rfl rfl (fun v w hp => ?_)
  obtain ⟨rfl, rfl⟩ := hp
  refine zk_stk (r' := []) rfl ?_
  refine zk_iload_n C kd_Ps_constant_146 rfl 1 rfl rfl ?_
  exact zk_iret C hR kd_Ps_constant_147 rfl rfl (zd_rIS e)
set_option maxHeartbeats 4000000 in
set_option maxRecDepth 100000 in
theorem zb_Ps_constant_99 {X : zkj_T} {S : zs_T} {P : ze_T} {l : Launch} {D : va_G} {sz0 : Nat} {rv : Int32} {rh : zs_H} (C : zk_C X km_Ps_constant (zs_G S l D sz0) { frames := 2, cells := 0, slots := 0, locals := 47 } (ze_E P)) (hR : zkj_R X (zd_PI S rv rh) (some .int)) (h : zs_H) (x1 : Int32) (x2 : Int32) (e : f_Ps_constant_99 h x1 x2 = some (rv, rh)) : zk_Ab X (zs_W S h) 0 0 99 [(0, .ref (S.1 19)), (1, .int x1), (2, .int x2)] [] := by
  unfold f_Ps_constant_99 at e
  refine zk_aload_n C kd_Ps_constant_99 rfl 0 rfl rfl ?_
  refine zs_get (v := .ref (S.1 12)) C 19 2 rfl rfl rfl rfl ki_Ps (by decide) kw203 kd_Ps_constant_100 rfl ?_
  refine zs_get (v := .ref (S.1 16)) C 12 3 rfl rfl rfl rfl ki_Tr (by decide) kw166 kd_Ps_constant_103 rfl ?_
  refine zk_iload_n C kd_Ps_constant_106 rfl 1 rfl rfl ?_
  refine zk_iload_n C kd_Ps_constant_107 rfl 2 rfl rfl ?_
  refine zk_if_eq (tgt := 127) C kd_Ps_constant_108 (by decide) rfl (fun b1 => ?_) (fun b1 => ?_)
  · replace e := zd_pos b1 e
    refine zk_aload_n C kd_Ps_constant_127 rfl 0 rfl rfl ?_
    refine zs_get (v := .ref (S.1 8)) C 19 1 rfl rfl rfl rfl ki_Ps (by decide) kw202 kd_Ps_constant_128 rfl ?_
    refine zs_get (v := .ref (S.1 11)) C 8 2 rfl rfl rfl rfl ki_Tk (by decide) kw123 kd_Ps_constant_131 rfl ?_
    refine zk_aload_n C kd_Ps_constant_134 rfl 0 rfl rfl ?_
    refine zs_get (v := .int (h.1 19 4)) C 19 4 rfl rfl rfl rfl ki_Ps (by decide) kw205 kd_Ps_constant_135 rfl ?_
    obtain ⟨q2, e⟩ := zd_g e
    refine zs_iald C 11 rfl (zd_vp q2) kd_Ps_constant_138 rfl ?_
    refine zk_lvs (lv' := [(0, .ref (S.1 19)), (1, .int x1)]) [0, 1] rfl ?_
    exact zb_Ps_constant_139 C hR h x1 (h.2.1 11 (h.1 19 4).toNatClampNeg) x1 e
  · replace e := zd_neg b1 e
    refine zk_aload_n C kd_Ps_constant_111 rfl 0 rfl rfl ?_
    refine zs_get (v := .ref (S.1 8)) C 19 1 rfl rfl rfl rfl ki_Ps (by decide) kw202 kd_Ps_constant_112 rfl ?_
    refine zs_get (v := .ref (S.1 11)) C 8 2 rfl rfl rfl rfl ki_Tk (by decide) kw123 kd_Ps_constant_115 rfl ?_
    refine zk_aload_n C kd_Ps_constant_118 rfl 0 rfl rfl ?_
    refine zs_get (v := .int (h.1 19 4)) C 19 4 rfl rfl rfl rfl ki_Ps (by decide) kw205 kd_Ps_constant_119 rfl ?_
    obtain ⟨q3, e⟩ := zd_g e
    refine zs_iald C 11 rfl (zd_vp q3) kd_Ps_constant_122 rfl ?_
    refine zk_ineg C kd_Ps_constant_123 rfl ?_
    refine zk_goto (tgt := 139) C kd_Ps_constant_124 (by decide) ?_
    refine zk_lvs (lv' := [(0, .ref (S.1 19)), (1, .int x1)]) [0, 1] rfl ?_
    exact zb_Ps_constant_139 C hR h x1 (-(h.2.1 11 (h.1 19 4).toNatClampNeg)) x1 e
set_option maxHeartbeats 4000000 in
set_option maxRecDepth 100000 in
theorem zb_Ps_constant_88 {X : zkj_T} {S : zs_T} {P : ze_T} {l : Launch} {D : va_G} {sz0 : Nat} {rv : Int32} {rh : zs_H} (C : zk_C X km_Ps_constant (zs_G S l D sz0) { frames := 2, cells := 0, slots := 0, locals := 47 } (ze_E P)) (hR : zkj_R X (zd_PI S rv rh) (some .int)) (h : zs_H) (x1 : Int32) (y0 : Int32) (e : f_Ps_constant_88 h x1 y0 = some (rv, rh)) : zk_Ab X (zs_W S h) 0 0 88 [(0, .ref (S.1 19)), (1, .int x1)] [.int y0] := by
  unfold f_Ps_constant_88 at e
  refine zk_istore_n (lv' := [(2, _), (0, _), (1, _)]) C kd_Ps_constant_88 rfl (by decide) rfl rfl ?_
  refine zk_iload_n C kd_Ps_constant_89 rfl 0 rfl rfl ?_
  refine zk_if_eq (tgt := 99) C kd_Ps_constant_90 (by decide) rfl (fun b1 => ?_) (fun b1 => ?_)
  · replace e := zd_pos b1 e
    refine zk_lvs (lv' := [(0, .ref (S.1 19)), (1, .int x1), (2, .int y0)]) [1, 2, 0] rfl ?_
    exact zb_Ps_constant_99 C hR h x1 y0 e
  · replace e := zd_neg b1 e
    refine zk_aload_n C kd_Ps_constant_93 rfl 1 rfl rfl ?_
    refine zk_bipush (v := 45) C kd_Ps_constant_94 (by decide) rfl ?_
    obtain ⟨h3, c2, e⟩ := zd_b e
    refine zs_callV (k := 19) (rn := { frames := 0, cells := 0, slots := 0, locals := 0 }) (As := [.int 45]) (rest := []) C (zc_Ps_take h 45 c2) ku_Ps_take kw876 kv_Ps_take rfl ⟨by decide, by decide⟩ ⟨by decide, by decide⟩ rfl rfl rfl (Nat.le_of_ble_eq_true rfl) kd_Ps_constant_96 rfl (c1 := 0) (s1 := 0) rfl rfl (fun v w hp => ?_)
    obtain ⟨rfl, rfl⟩ := hp
    refine zk_stk (r' := []) rfl ?_
    refine zk_lvs (lv' := [(0, .ref (S.1 19)), (1, .int x1), (2, .int y0)]) [1, 2, 0] rfl ?_
    exact zb_Ps_constant_99 C hR h3 x1 y0 e
set_option maxHeartbeats 4000000 in
set_option maxRecDepth 100000 in
theorem zc_Ps_constant {l : Launch} {D : va_G} {sz0 : Nat} {S : zs_T} {P : ze_T} (h : zs_H) {rv : Int32} {rh : zs_H} (e : f_Ps_constant h = some (rv, rh)) : zk_Sp (zs_G S l D sz0) (ze_E P) km_Ps_constant { frames := 2, cells := 0, slots := 0, locals := 47 } [.ref (S.1 19)] (zs_W S h) (zd_PI S rv rh) := by
  refine zk_met ku_Ps_constant (Nat.le_of_ble_eq_true rfl) (ze_Em P) ?_
  intro X C hR
  refine zk_lvs (lv' := [(0, .ref (S.1 19))]) [0] rfl ?_
  unfold f_Ps_constant at e
  refine zk_aload_n C kd_Ps_constant_0 rfl 0 rfl rfl ?_
  refine zs_get (v := .int (h.1 19 5)) C 19 5 rfl rfl rfl rfl ki_Ps (by decide) kw206 kd_Ps_constant_1 rfl ?_
  refine zk_sipush (v := 163) C kd_Ps_constant_4 (by decide) rfl ?_
  refine zk_icmp_eq (tgt := 20) C kd_Ps_constant_7 (by decide) rfl (fun b1 => ?_) (fun b1 => ?_)
  · replace e := zd_pos b1 e
    refine zk_lvs (lv' := [(0, .ref (S.1 19))]) [0] rfl ?_
    exact zb_Ps_constant_20 C hR h e
  · replace e := zd_neg b1 e
    refine zk_aload_n C kd_Ps_constant_10 rfl 0 rfl rfl ?_
    refine zs_get (v := .int (h.1 19 5)) C 19 5 rfl rfl rfl rfl ki_Ps (by decide) kw206 kd_Ps_constant_11 rfl ?_
    refine zk_sipush (v := 164) C kd_Ps_constant_14 (by decide) rfl ?_
    refine zk_icmp_ne (tgt := 59) C kd_Ps_constant_17 (by decide) rfl (fun b2 => ?_) (fun b2 => ?_)
    · replace e := zd_neg b2 e
      refine zk_aload_n C kd_Ps_constant_59 rfl 0 rfl rfl ?_
      refine zs_get (v := .ref (S.1 12)) C 19 2 rfl rfl rfl rfl ki_Ps (by decide) kw203 kd_Ps_constant_60 rfl ?_
      refine zk_bipush (v := 30) C kd_Ps_constant_63 (by decide) rfl ?_
      refine zk_aload_n C kd_Ps_constant_65 rfl 0 rfl rfl ?_
      refine zs_get (v := .int (h.1 19 6)) C 19 6 rfl rfl rfl rfl ki_Ps (by decide) kw207 kd_Ps_constant_66 rfl ?_
      refine zk_iconst (v := 0) C kd_Ps_constant_69 (by decide) rfl ?_
      obtain ⟨v4, h5, c3, e⟩ := zd_Be e
      refine zs_callV (k := 12) (rn := { frames := 1, cells := 0, slots := 0, locals := 23 }) (As := [.int 30, .int (h.1 19 6), .int 0]) (rest := []) C (zc_Tr_add h 30 (h.1 19 6) 0 c3) ku_Tr_add kw866 kv_Tr_add rfl ⟨by decide, by decide⟩ ⟨by decide, by decide⟩ rfl rfl rfl (Nat.le_of_ble_eq_true rfl) kd_Ps_constant_70 rfl (c1 := 0) (s1 := 0) rfl rfl (fun v w hp => ?_)
      obtain ⟨rfl, rfl⟩ := hp
      refine zk_stk (r' := [.int v4]) rfl ?_
      refine zk_istore_n (lv' := [(1, _), (0, _)]) C kd_Ps_constant_73 rfl (by decide) rfl rfl ?_
      refine zk_aload_n C kd_Ps_constant_74 rfl 1 rfl rfl ?_
      refine zs_get (v := .int (h5.1 19 5)) C 19 5 rfl rfl rfl rfl ki_Ps (by decide) kw206 kd_Ps_constant_75 rfl ?_
      refine zk_bipush (v := 45) C kd_Ps_constant_78 (by decide) rfl ?_
      refine zk_icmp_ne (tgt := 87) C kd_Ps_constant_80 (by decide) rfl (fun b6 => ?_) (fun b6 => ?_)
      · replace e := zd_neg b6 e
        refine zk_iconst (v := 0) C kd_Ps_constant_87 (by decide) rfl ?_
        refine zk_lvs (lv' := [(0, .ref (S.1 19)), (1, .int v4)]) [1, 0] rfl ?_
        exact zb_Ps_constant_88 C hR h5 v4 0 e
      · replace e := zd_pos b6 e
        refine zk_iconst (v := 1) C kd_Ps_constant_83 (by decide) rfl ?_
        refine zk_goto (tgt := 88) C kd_Ps_constant_84 (by decide) ?_
        refine zk_lvs (lv' := [(0, .ref (S.1 19)), (1, .int v4)]) [1, 0] rfl ?_
        exact zb_Ps_constant_88 C hR h5 v4 1 e
    · replace e := zd_pos b2 e
      refine zk_lvs (lv' := [(0, .ref (S.1 19))]) [0] rfl ?_
      exact zb_Ps_constant_20 C hR h e
set_option maxHeartbeats 4000000 in
set_option maxRecDepth 100000 in
theorem zc_Ps_type {l : Launch} {D : va_G} {sz0 : Nat} {S : zs_T} {P : ze_T} (h : zs_H) {rv : Int32} {rh : zs_H} (e : f_Ps_type h = some (rv, rh)) : zk_Sp (zs_G S l D sz0) (ze_E P) km_Ps_type { frames := 3, cells := 0, slots := 0, locals := 69 } [.ref (S.1 19)] (zs_W S h) (zd_PI S rv rh) := by
  refine zk_met ku_Ps_type (Nat.le_of_ble_eq_true rfl) (ze_Em P) ?_
  intro X C hR
  refine zk_lvs (lv' := [(0, .ref (S.1 19))]) [0] rfl ?_
  unfold f_Ps_type at e
  refine zk_aload_n C kd_Ps_type_0 rfl 0 rfl rfl ?_
  refine zs_get (v := .int (h.1 19 5)) C 19 5 rfl rfl rfl rfl ki_Ps (by decide) kw206 kd_Ps_type_1 rfl ?_
  refine zk_bipush (v := 8) C kd_Ps_type_4 (by decide) rfl ?_
  refine zk_icmp_ne (tgt := 43) C kd_Ps_type_6 (by decide) rfl (fun b1 => ?_) (fun b1 => ?_)
  · replace e := zd_neg b1 e
    refine zk_aload_n C kd_Ps_type_43 rfl 0 rfl rfl ?_
    refine zs_get (v := .int (h.1 19 5)) C 19 5 rfl rfl rfl rfl ki_Ps (by decide) kw206 kd_Ps_type_44 rfl ?_
    refine zk_sipush (v := 142) C kd_Ps_type_47 (by decide) rfl ?_
    refine zk_icmp_eq (tgt := 58) C kd_Ps_type_50 (by decide) rfl (fun b2 => ?_) (fun b2 => ?_)
    · replace e := zd_pos b2 e
      refine zk_aload_n C kd_Ps_type_58 rfl 0 rfl rfl ?_
      refine zs_get (v := .ref (S.1 12)) C 19 2 rfl rfl rfl rfl ki_Ps (by decide) kw203 kd_Ps_type_59 rfl ?_
      refine zk_bipush (v := 9) C kd_Ps_type_62 (by decide) rfl ?_
      refine zk_aload_n C kd_Ps_type_64 rfl 0 rfl rfl ?_
      refine zs_get (v := .int (h.1 19 6)) C 19 6 rfl rfl rfl rfl ki_Ps (by decide) kw207 kd_Ps_type_65 rfl ?_
      refine zk_iconst (v := 0) C kd_Ps_type_68 (by decide) rfl ?_
      obtain ⟨v4, h5, c3, e⟩ := zd_Be e
      refine zs_callV (k := 12) (rn := { frames := 1, cells := 0, slots := 0, locals := 23 }) (As := [.int 9, .int (h.1 19 6), .int 0]) (rest := []) C (zc_Tr_add h 9 (h.1 19 6) 0 c3) ku_Tr_add kw866 kv_Tr_add rfl ⟨by decide, by decide⟩ ⟨by decide, by decide⟩ rfl rfl rfl (Nat.le_of_ble_eq_true rfl) kd_Ps_type_69 rfl (c1 := 0) (s1 := 0) rfl rfl (fun v w hp => ?_)
      obtain ⟨rfl, rfl⟩ := hp
      refine zk_stk (r' := [.int v4]) rfl ?_
      refine zk_istore_n (lv' := [(1, _), (0, _)]) C kd_Ps_type_72 rfl (by decide) rfl rfl ?_
      refine zk_aload_n C kd_Ps_type_73 rfl 1 rfl rfl ?_
      refine zk_sipush (v := 142) C kd_Ps_type_74 (by decide) rfl ?_
      obtain ⟨h7, c6, e⟩ := zd_b e
      refine zs_callV (k := 19) (rn := { frames := 0, cells := 0, slots := 0, locals := 0 }) (As := [.int 142]) (rest := []) C (zc_Ps_take h5 142 c6) ku_Ps_take kw876 kv_Ps_take rfl ⟨by decide, by decide⟩ ⟨by decide, by decide⟩ rfl rfl rfl (Nat.le_of_ble_eq_true rfl) kd_Ps_type_77 rfl (c1 := 0) (s1 := 0) rfl rfl (fun v w hp => ?_)
      obtain ⟨rfl, rfl⟩ := hp
      refine zk_stk (r' := []) rfl ?_
      refine zk_aload_n C kd_Ps_type_80 rfl 1 rfl rfl ?_
      refine zk_bipush (v := 91) C kd_Ps_type_81 (by decide) rfl ?_
      obtain ⟨h9, c8, e⟩ := zd_b e
      refine zs_callV (k := 19) (rn := { frames := 0, cells := 0, slots := 0, locals := 0 }) (As := [.int 91]) (rest := []) C (zc_Ps_take h7 91 c8) ku_Ps_take kw876 kv_Ps_take rfl ⟨by decide, by decide⟩ ⟨by decide, by decide⟩ rfl rfl rfl (Nat.le_of_ble_eq_true rfl) kd_Ps_type_83 rfl (c1 := 0) (s1 := 0) rfl rfl (fun v w hp => ?_)
      obtain ⟨rfl, rfl⟩ := hp
      refine zk_stk (r' := []) rfl ?_
      refine zk_aload_n C kd_Ps_type_86 rfl 1 rfl rfl ?_
      refine zs_get (v := .ref (S.1 12)) C 19 2 rfl rfl rfl rfl ki_Ps (by decide) kw203 kd_Ps_type_87 rfl ?_
      refine zk_iload_n C kd_Ps_type_90 rfl 0 rfl rfl ?_
      refine zk_iconst (v := (-1)) C kd_Ps_type_91 (by decide) rfl ?_
      refine zk_aload_n C kd_Ps_type_92 rfl 1 rfl rfl ?_
      obtain ⟨v11, h12, c10, e⟩ := zd_Be e
      refine zs_callV (k := 19) (rn := { frames := 2, cells := 0, slots := 0, locals := 47 }) (As := []) (rest := [.int (-1), .int v4, .ref (S.1 12)]) C (zc_Ps_constant h9 c10) ku_Ps_constant kw904 kv_Ps_constant rfl ⟨by decide, by decide⟩ ⟨by decide, by decide⟩ rfl rfl rfl (Nat.le_of_ble_eq_true rfl) kd_Ps_type_93 rfl (c1 := 0) (s1 := 0) rfl rfl (fun v w hp => ?_)
      obtain ⟨rfl, rfl⟩ := hp
      refine zk_stk (r' := [.int v11, .int (-1), .int v4, .ref (S.1 12)]) rfl ?_
      obtain ⟨v14, h15, c13, e⟩ := zd_Be e
      refine zs_callV (k := 12) (rn := { frames := 0, cells := 0, slots := 0, locals := 0 }) (As := [.int v4, .int (-1), .int v11]) (rest := []) C (zc_Tr_hang h12 v4 (-1) v11 c13) ku_Tr_hang kw884 kv_Tr_hang rfl ⟨by decide, by decide⟩ ⟨by decide, by decide⟩ rfl rfl rfl (Nat.le_of_ble_eq_true rfl) kd_Ps_type_96 rfl (c1 := 0) (s1 := 0) rfl rfl (fun v w hp => ?_)
      obtain ⟨rfl, rfl⟩ := hp
      refine zk_stk (r' := [.int v14]) rfl ?_
      refine zk_istore_n (lv' := [(2, _), (1, _), (0, _)]) C kd_Ps_type_99 rfl (by decide) rfl rfl ?_
      refine zk_aload_n C kd_Ps_type_100 rfl 2 rfl rfl ?_
      refine zk_iconst (v := 2) C kd_Ps_type_101 (by decide) rfl ?_
      obtain ⟨h17, c16, e⟩ := zd_b e
      refine zs_callV (k := 19) (rn := { frames := 0, cells := 0, slots := 0, locals := 0 }) (As := [.int 2]) (rest := []) C (zc_Ps_take h15 2 c16) ku_Ps_take kw876 kv_Ps_take rfl ⟨by decide, by decide⟩ ⟨by decide, by decide⟩ rfl rfl rfl (Nat.le_of_ble_eq_true rfl) kd_Ps_type_102 rfl (c1 := 0) (s1 := 0) rfl rfl (fun v w hp => ?_)
      obtain ⟨rfl, rfl⟩ := hp
      refine zk_stk (r' := []) rfl ?_
      refine zk_aload_n C kd_Ps_type_105 rfl 2 rfl rfl ?_
      refine zs_get (v := .ref (S.1 12)) C 19 2 rfl rfl rfl rfl ki_Ps (by decide) kw203 kd_Ps_type_106 rfl ?_
      refine zk_iload_n C kd_Ps_type_109 rfl 1 rfl rfl ?_
      refine zk_iload_n C kd_Ps_type_110 rfl 0 rfl rfl ?_
      refine zk_aload_n C kd_Ps_type_111 rfl 2 rfl rfl ?_
      obtain ⟨v19, h20, c18, e⟩ := zd_Be e
      refine zs_callV (k := 19) (rn := { frames := 2, cells := 0, slots := 0, locals := 47 }) (As := []) (rest := [.int v14, .int v4, .ref (S.1 12)]) C (zc_Ps_constant h17 c18) ku_Ps_constant kw904 kv_Ps_constant rfl ⟨by decide, by decide⟩ ⟨by decide, by decide⟩ rfl rfl rfl (Nat.le_of_ble_eq_true rfl) kd_Ps_type_112 rfl (c1 := 0) (s1 := 0) rfl rfl (fun v w hp => ?_)
      obtain ⟨rfl, rfl⟩ := hp
      refine zk_stk (r' := [.int v19, .int v14, .int v4, .ref (S.1 12)]) rfl ?_
      obtain ⟨v22, h23, c21, e⟩ := zd_Be e
      refine zs_callV (k := 12) (rn := { frames := 0, cells := 0, slots := 0, locals := 0 }) (As := [.int v4, .int v14, .int v19]) (rest := []) C (zc_Tr_hang h20 v4 v14 v19 c21) ku_Tr_hang kw884 kv_Tr_hang rfl ⟨by decide, by decide⟩ ⟨by decide, by decide⟩ rfl rfl rfl (Nat.le_of_ble_eq_true rfl) kd_Ps_type_115 rfl (c1 := 0) (s1 := 0) rfl rfl (fun v w hp => ?_)
      obtain ⟨rfl, rfl⟩ := hp
      refine zk_stk (r' := [.int v22]) rfl ?_
      refine zk_istore_n (lv' := [(2, _), (1, _), (0, _)]) C kd_Ps_type_118 rfl (by decide) rfl rfl ?_
      refine zk_aload_n C kd_Ps_type_119 rfl 2 rfl rfl ?_
      refine zk_bipush (v := 93) C kd_Ps_type_120 (by decide) rfl ?_
      obtain ⟨h25, c24, e⟩ := zd_b e
      refine zs_callV (k := 19) (rn := { frames := 0, cells := 0, slots := 0, locals := 0 }) (As := [.int 93]) (rest := []) C (zc_Ps_take h23 93 c24) ku_Ps_take kw876 kv_Ps_take rfl ⟨by decide, by decide⟩ ⟨by decide, by decide⟩ rfl rfl rfl (Nat.le_of_ble_eq_true rfl) kd_Ps_type_122 rfl (c1 := 0) (s1 := 0) rfl rfl (fun v w hp => ?_)
      obtain ⟨rfl, rfl⟩ := hp
      refine zk_stk (r' := []) rfl ?_
      refine zk_aload_n C kd_Ps_type_125 rfl 2 rfl rfl ?_
      refine zk_sipush (v := 143) C kd_Ps_type_126 (by decide) rfl ?_
      obtain ⟨h27, c26, e⟩ := zd_b e
      refine zs_callV (k := 19) (rn := { frames := 0, cells := 0, slots := 0, locals := 0 }) (As := [.int 143]) (rest := []) C (zc_Ps_take h25 143 c26) ku_Ps_take kw876 kv_Ps_take rfl ⟨by decide, by decide⟩ ⟨by decide, by decide⟩ rfl rfl rfl (Nat.le_of_ble_eq_true rfl) kd_Ps_type_129 rfl (c1 := 0) (s1 := 0) rfl rfl (fun v w hp => ?_)
      obtain ⟨rfl, rfl⟩ := hp
      refine zk_stk (r' := []) rfl ?_
      refine zk_aload_n C kd_Ps_type_132 rfl 2 rfl rfl ?_
      refine zs_get (v := .ref (S.1 12)) C 19 2 rfl rfl rfl rfl ki_Ps (by decide) kw203 kd_Ps_type_133 rfl ?_
      refine zk_iload_n C kd_Ps_type_136 rfl 1 rfl rfl ?_
      refine zk_iload_n C kd_Ps_type_137 rfl 0 rfl rfl ?_
      refine zk_aload_n C kd_Ps_type_138 rfl 2 rfl rfl ?_
      obtain ⟨v29, h30, c28, e⟩ := zd_Be e
      refine zs_callV (k := 19) (rn := { frames := 2, cells := 0, slots := 0, locals := 47 }) (As := []) (rest := [.int v22, .int v4, .ref (S.1 12)]) C (zc_Ps_simpleType h27 c28) ku_Ps_simpleType kw880 kv_Ps_simpleType rfl ⟨by decide, by decide⟩ ⟨by decide, by decide⟩ rfl rfl rfl (Nat.le_of_ble_eq_true rfl) kd_Ps_type_139 rfl (c1 := 0) (s1 := 0) rfl rfl (fun v w hp => ?_)
      obtain ⟨rfl, rfl⟩ := hp
      refine zk_stk (r' := [.int v29, .int v22, .int v4, .ref (S.1 12)]) rfl ?_
      obtain ⟨v32, h33, c31, e⟩ := zd_Be e
      refine zs_callV (k := 12) (rn := { frames := 0, cells := 0, slots := 0, locals := 0 }) (As := [.int v4, .int v22, .int v29]) (rest := []) C (zc_Tr_hang h30 v4 v22 v29 c31) ku_Tr_hang kw884 kv_Tr_hang rfl ⟨by decide, by decide⟩ ⟨by decide, by decide⟩ rfl rfl rfl (Nat.le_of_ble_eq_true rfl) kd_Ps_type_142 rfl (c1 := 0) (s1 := 0) rfl rfl (fun v w hp => ?_)
      obtain ⟨rfl, rfl⟩ := hp
      refine zk_stk (r' := [.int v32]) rfl ?_
      refine zk_pop C kd_Ps_type_145 rfl rfl ?_
      refine zk_iload_n C kd_Ps_type_146 rfl 1 rfl rfl ?_
      exact zk_iret C hR kd_Ps_type_147 rfl rfl (zd_rIS e)
    · replace e := zd_neg b2 e
      refine zk_aload_n C kd_Ps_type_53 rfl 0 rfl rfl ?_
      obtain ⟨v35, h36, c34, e⟩ := zd_Be e
      refine zs_callV (k := 19) (rn := { frames := 2, cells := 0, slots := 0, locals := 47 }) (As := []) (rest := []) C (zc_Ps_simpleType h c34) ku_Ps_simpleType kw880 kv_Ps_simpleType rfl ⟨by decide, by decide⟩ ⟨by decide, by decide⟩ rfl rfl rfl (Nat.le_of_ble_eq_true rfl) kd_Ps_type_54 rfl (c1 := 0) (s1 := 0) rfl rfl (fun v w hp => ?_)
      obtain ⟨rfl, rfl⟩ := hp
      refine zk_stk (r' := [.int v35]) rfl ?_
      exact zk_iret C hR kd_Ps_type_57 rfl rfl (zd_rIS e)
  · replace e := zd_pos b1 e
    refine zk_aload_n C kd_Ps_type_9 rfl 0 rfl rfl ?_
    refine zs_get (v := .ref (S.1 12)) C 19 2 rfl rfl rfl rfl ki_Ps (by decide) kw203 kd_Ps_type_10 rfl ?_
    refine zk_bipush (v := 10) C kd_Ps_type_13 (by decide) rfl ?_
    refine zk_aload_n C kd_Ps_type_15 rfl 0 rfl rfl ?_
    refine zs_get (v := .int (h.1 19 6)) C 19 6 rfl rfl rfl rfl ki_Ps (by decide) kw207 kd_Ps_type_16 rfl ?_
    refine zk_aload_n C kd_Ps_type_19 rfl 0 rfl rfl ?_
    refine zs_get (v := .ref (S.1 8)) C 19 1 rfl rfl rfl rfl ki_Ps (by decide) kw202 kd_Ps_type_20 rfl ?_
    refine zs_get (v := .ref (S.1 11)) C 8 2 rfl rfl rfl rfl ki_Tk (by decide) kw123 kd_Ps_type_23 rfl ?_
    refine zk_aload_n C kd_Ps_type_26 rfl 0 rfl rfl ?_
    refine zs_get (v := .int (h.1 19 4)) C 19 4 rfl rfl rfl rfl ki_Ps (by decide) kw205 kd_Ps_type_27 rfl ?_
    obtain ⟨q37, e⟩ := zd_g e
    refine zs_iald C 11 rfl (zd_vp q37) kd_Ps_type_30 rfl ?_
    obtain ⟨v39, h40, c38, e⟩ := zd_Be e
    refine zs_callV (k := 12) (rn := { frames := 1, cells := 0, slots := 0, locals := 23 }) (As := [.int 10, .int (h.1 19 6), .int (h.2.1 11 (h.1 19 4).toNatClampNeg)]) (rest := []) C (zc_Tr_add h 10 (h.1 19 6) (h.2.1 11 (h.1 19 4).toNatClampNeg) c38) ku_Tr_add kw866 kv_Tr_add rfl ⟨by decide, by decide⟩ ⟨by decide, by decide⟩ rfl rfl rfl (Nat.le_of_ble_eq_true rfl) kd_Ps_type_31 rfl (c1 := 0) (s1 := 0) rfl rfl (fun v w hp => ?_)
    obtain ⟨rfl, rfl⟩ := hp
    refine zk_stk (r' := [.int v39]) rfl ?_
    refine zk_istore_n (lv' := [(1, _), (0, _)]) C kd_Ps_type_34 rfl (by decide) rfl rfl ?_
    refine zk_aload_n C kd_Ps_type_35 rfl 1 rfl rfl ?_
    refine zk_bipush (v := 8) C kd_Ps_type_36 (by decide) rfl ?_
    obtain ⟨h42, c41, e⟩ := zd_b e
    refine zs_callV (k := 19) (rn := { frames := 0, cells := 0, slots := 0, locals := 0 }) (As := [.int 8]) (rest := []) C (zc_Ps_take h40 8 c41) ku_Ps_take kw876 kv_Ps_take rfl ⟨by decide, by decide⟩ ⟨by decide, by decide⟩ rfl rfl rfl (Nat.le_of_ble_eq_true rfl) kd_Ps_type_38 rfl (c1 := 0) (s1 := 0) rfl rfl (fun v w hp => ?_)
    obtain ⟨rfl, rfl⟩ := hp
    refine zk_stk (r' := []) rfl ?_
    refine zk_iload_n C kd_Ps_type_41 rfl 0 rfl rfl ?_
    exact zk_iret C hR kd_Ps_type_42 rfl rfl (zd_rIS e)
