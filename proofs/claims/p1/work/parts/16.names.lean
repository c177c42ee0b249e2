theorem kw96 : Jvm.Cond.fieldLink "PlantKeeper$Names" (56 : Nat) "PlantKeeper$Names" "size" "I" ∈ zk_BW := zk_inT 96 (by decide +kernel) rfl
theorem kw690 : Jvm.Cond.instanceMethod ({ cls := "PlantKeeper$Names", name := "forget", desc := "()V" } : Jvm.MethodName) ∈ zk_BW := zk_inT 690 (by decide +kernel) rfl
theorem kw691 : Jvm.Cond.selects "PlantKeeper$Names" ({ cls := "PlantKeeper$Names", name := "forget", desc := "()V" } : Jvm.MethodName) ({ cls := "PlantKeeper$Names", name := "forget", desc := "()V" } : Jvm.MethodName) ∈ zk_BW := zk_inT 691 (by decide +kernel) rfl
theorem kw692 : Jvm.Cond.code ({ cls := "PlantKeeper$Names", name := "forget", desc := "()V" } : Jvm.MethodName) prog_7_method_3_code (3 : Nat) (Option.none : Option FieldType) ∈ zk_BW := zk_inT 692 (by decide +kernel) rfl
theorem kw693 : Jvm.Cond.methodLink "PlantKeeper$Names" (50 : Nat) ({ cls := "java/util/Arrays", name := "fill", desc := "([II)V" } : Jvm.MethodName) ∈ zk_BW := zk_inT 693 (by decide +kernel) rfl
theorem kw696 : Jvm.Cond.methodLink "PlantKeeper$Names" (60 : Nat) ({ cls := "PlantKeeper$Names", name := "numberOf", desc := "([BII)I" } : Jvm.MethodName) ∈ zk_BW := zk_inT 696 (by decide +kernel) rfl
theorem kw697 : Jvm.Cond.instanceMethod ({ cls := "PlantKeeper$Names", name := "numberOf", desc := "([BII)I" } : Jvm.MethodName) ∈ zk_BW := zk_inT 697 (by decide +kernel) rfl
theorem kw698 : Jvm.Cond.selects "PlantKeeper$Names" ({ cls := "PlantKeeper$Names", name := "numberOf", desc := "([BII)I" } : Jvm.MethodName) ({ cls := "PlantKeeper$Names", name := "numberOf", desc := "([BII)I" } : Jvm.MethodName) ∈ zk_BW := zk_inT 698 (by decide +kernel) rfl
theorem kw699 : Jvm.Cond.code ({ cls := "PlantKeeper$Names", name := "numberOf", desc := "([BII)I" } : Jvm.MethodName) prog_7_method_9_code (7 : Nat) (Option.some FieldType.int) ∈ zk_BW := zk_inT 699 (by decide +kernel) rfl
theorem kw700 : Jvm.Cond.methodLink "PlantKeeper$Names" (75 : Nat) ({ cls := "PlantKeeper$Names", name := "find", desc := "([BII)I" } : Jvm.MethodName) ∈ zk_BW := zk_inT 700 (by decide +kernel) rfl
theorem kw701 : Jvm.Cond.instanceMethod ({ cls := "PlantKeeper$Names", name := "find", desc := "([BII)I" } : Jvm.MethodName) ∈ zk_BW := zk_inT 701 (by decide +kernel) rfl
theorem kw702 : Jvm.Cond.selects "PlantKeeper$Names" ({ cls := "PlantKeeper$Names", name := "find", desc := "([BII)I" } : Jvm.MethodName) ({ cls := "PlantKeeper$Names", name := "find", desc := "([BII)I" } : Jvm.MethodName) ∈ zk_BW := zk_inT 702 (by decide +kernel) rfl
theorem kw703 : Jvm.Cond.code ({ cls := "PlantKeeper$Names", name := "find", desc := "([BII)I" } : Jvm.MethodName) prog_7_method_8_code (6 : Nat) (Option.some FieldType.int) ∈ zk_BW := zk_inT 703 (by decide +kernel) rfl
theorem kw704 : Jvm.Cond.methodLink "PlantKeeper$Names" (68 : Nat) ({ cls := "PlantKeeper$Names", name := "headOf", desc := "([BII)I" } : Jvm.MethodName) ∈ zk_BW := zk_inT 704 (by decide +kernel) rfl
theorem kw705 : Jvm.Cond.static ({ cls := "PlantKeeper$Names", name := "headOf", desc := "([BII)I" } : Jvm.MethodName) ∈ zk_BW := zk_inT 705 (by decide +kernel) rfl
theorem kw706 : Jvm.Cond.code ({ cls := "PlantKeeper$Names", name := "headOf", desc := "([BII)I" } : Jvm.MethodName) prog_7_method_10_code (5 : Nat) (Option.some FieldType.int) ∈ zk_BW := zk_inT 706 (by decide +kernel) rfl
theorem kw707 : Jvm.Cond.methodLink "PlantKeeper$Names" (78 : Nat) ({ cls := "PlantKeeper$Names", name := "great", desc := "(I)I" } : Jvm.MethodName) ∈ zk_BW := zk_inT 707 (by decide +kernel) rfl
theorem kw708 : Jvm.Cond.static ({ cls := "PlantKeeper$Names", name := "great", desc := "(I)I" } : Jvm.MethodName) ∈ zk_BW := zk_inT 708 (by decide +kernel) rfl
theorem kw709 : Jvm.Cond.code ({ cls := "PlantKeeper$Names", name := "great", desc := "(I)I" } : Jvm.MethodName) prog_7_method_7_code (1 : Nat) (Option.some FieldType.int) ∈ zk_BW := zk_inT 709 (by decide +kernel) rfl
theorem kw710 : Jvm.Cond.methodLink "PlantKeeper$Names" (71 : Nat) ({ cls := "PlantKeeper$Names", name := "isSame", desc := "(I[BII)Z" } : Jvm.MethodName) ∈ zk_BW := zk_inT 710 (by decide +kernel) rfl
theorem kw712 : Jvm.Cond.instanceMethod ({ cls := "PlantKeeper$Names", name := "isSame", desc := "(I[BII)Z" } : Jvm.MethodName) ∈ zk_BW := zk_inT 712 (by decide +kernel) rfl
theorem kw713 : Jvm.Cond.code ({ cls := "PlantKeeper$Names", name := "isSame", desc := "(I[BII)Z" } : Jvm.MethodName) prog_7_method_11_code (6 : Nat) (Option.some FieldType.boolean) ∈ zk_BW := zk_inT 713 (by decide +kernel) rfl
abbrev kc_Nm_great : ByteArray := prog_7_method_7_code
def km_Nm_great : zk_MT := (⟨"PlantKeeper$Names", "great", "(I)I"⟩, kc_Nm_great, 1, some .int, 1)
theorem ku_Nm_great : zk_My km_Nm_great := ⟨kw709, kw2, by decide, by decide, by decide, by decide +kernel⟩
theorem ks_Nm_great : Cond.static km_Nm_great.1 ∈ zk_BW := kw708
abbrev kc_Nm_headOf : ByteArray := prog_7_method_10_code
def km_Nm_headOf : zk_MT := (⟨"PlantKeeper$Names", "headOf", "([BII)I"⟩, kc_Nm_headOf, 5, some .int, 3)
theorem ku_Nm_headOf : zk_My km_Nm_headOf := ⟨kw706, kw2, by decide, by decide, by decide, by decide +kernel⟩
theorem ks_Nm_headOf : Cond.static km_Nm_headOf.1 ∈ zk_BW := kw705
abbrev kc_Nm_isSame : ByteArray := prog_7_method_11_code
def km_Nm_isSame : zk_MT := (⟨"PlantKeeper$Names", "isSame", "(I[BII)Z"⟩, kc_Nm_isSame, 6, some .boolean, 4)
theorem ku_Nm_isSame : zk_My km_Nm_isSame := ⟨kw713, kw2, by decide, by decide, by decide, by decide +kernel⟩
theorem kv_Nm_isSame : zk_Mv km_Nm_isSame := ⟨kw712, zk_inS 1 (q := (⟨"PlantKeeper$Names", "isSame", "(I[BII)Z"⟩, 6)) (by decide +kernel)⟩
abbrev kc_Nm_find : ByteArray := prog_7_method_8_code
def km_Nm_find : zk_MT := (⟨"PlantKeeper$Names", "find", "([BII)I"⟩, kc_Nm_find, 6, some .int, 3)
theorem ku_Nm_find : zk_My km_Nm_find := ⟨kw703, kw2, by decide, by decide, by decide, by decide +kernel⟩
theorem kv_Nm_find : zk_Mv km_Nm_find := ⟨kw701, kw702⟩
abbrev kc_Nm_numberOf : ByteArray := prog_7_method_9_code
def km_Nm_numberOf : zk_MT := (⟨"PlantKeeper$Names", "numberOf", "([BII)I"⟩, kc_Nm_numberOf, 7, some .int, 3)
theorem ku_Nm_numberOf : zk_My km_Nm_numberOf := ⟨kw699, kw2, by decide, by decide, by decide, by decide +kernel⟩
theorem kv_Nm_numberOf : zk_Mv km_Nm_numberOf := ⟨kw697, kw698⟩
abbrev kc_Nm_forget : ByteArray := prog_7_method_3_code
def km_Nm_forget : zk_MT := (⟨"PlantKeeper$Names", "forget", "()V"⟩, kc_Nm_forget, 3, none, 0)
theorem ku_Nm_forget : zk_My km_Nm_forget := ⟨kw692, kw2, by decide, by decide, by decide, by decide +kernel⟩
theorem kv_Nm_forget : zk_Mv km_Nm_forget := ⟨kw690, kw691⟩
theorem kd_Nm_great_0 : decode kc_Nm_great 0 = .ok (.iload_n 0, 1) := by decide +kernel
theorem kd_Nm_great_1 : decode kc_Nm_great 1 = .ok (.bipush 97, 2) := by decide +kernel
theorem kd_Nm_great_3 : decode kc_Nm_great 3 = .ok (.if_icmp .lt 16, 3) := by decide +kernel
theorem kd_Nm_great_6 : decode kc_Nm_great 6 = .ok (.iload_n 0, 1) := by decide +kernel
theorem kd_Nm_great_7 : decode kc_Nm_great 7 = .ok (.bipush 122, 2) := by decide +kernel
theorem kd_Nm_great_9 : decode kc_Nm_great 9 = .ok (.if_icmp .gt 10, 3) := by decide +kernel
theorem kd_Nm_great_12 : decode kc_Nm_great 12 = .ok (.iload_n 0, 1) := by decide +kernel
theorem kd_Nm_great_13 : decode kc_Nm_great 13 = .ok (.bipush 32, 2) := by decide +kernel
theorem kd_Nm_great_15 : decode kc_Nm_great 15 = .ok (.isub, 1) := by decide +kernel
theorem kd_Nm_great_16 : decode kc_Nm_great 16 = .ok (.goto 4, 3) := by decide +kernel
theorem kd_Nm_great_19 : decode kc_Nm_great 19 = .ok (.iload_n 0, 1) := by decide +kernel
theorem kd_Nm_great_20 : decode kc_Nm_great 20 = .ok (.ireturn, 1) := by decide +kernel
theorem kd_Nm_headOf_0 : decode kc_Nm_headOf 0 = .ok (.iload_n 2, 1) := by decide +kernel
theorem kd_Nm_headOf_1 : decode kc_Nm_headOf 1 = .ok (.istore_n 3, 1) := by decide +kernel
theorem kd_Nm_headOf_2 : decode kc_Nm_headOf 2 = .ok (.iconst 0, 1) := by decide +kernel
theorem kd_Nm_headOf_3 : decode kc_Nm_headOf 3 = .ok (.istore 4, 2) := by decide +kernel
theorem kd_Nm_headOf_5 : decode kc_Nm_headOf 5 = .ok (.iload 4, 2) := by decide +kernel
theorem kd_Nm_headOf_7 : decode kc_Nm_headOf 7 = .ok (.iload_n 2, 1) := by decide +kernel
theorem kd_Nm_headOf_8 : decode kc_Nm_headOf 8 = .ok (.if_icmp .ge 24, 3) := by decide +kernel
theorem kd_Nm_headOf_11 : decode kc_Nm_headOf 11 = .ok (.iload_n 3, 1) := by decide +kernel
theorem kd_Nm_headOf_12 : decode kc_Nm_headOf 12 = .ok (.bipush 31, 2) := by decide +kernel
theorem kd_Nm_headOf_14 : decode kc_Nm_headOf 14 = .ok (.imul, 1) := by decide +kernel
theorem kd_Nm_headOf_15 : decode kc_Nm_headOf 15 = .ok (.aload_n 0, 1) := by decide +kernel
theorem kd_Nm_headOf_16 : decode kc_Nm_headOf 16 = .ok (.iload_n 1, 1) := by decide +kernel
theorem kd_Nm_headOf_17 : decode kc_Nm_headOf 17 = .ok (.iload 4, 2) := by decide +kernel
theorem kd_Nm_headOf_19 : decode kc_Nm_headOf 19 = .ok (.iadd, 1) := by decide +kernel
theorem kd_Nm_headOf_20 : decode kc_Nm_headOf 20 = .ok (.baload, 1) := by decide +kernel
theorem kd_Nm_headOf_21 : decode kc_Nm_headOf 21 = .ok (.invokestatic 78, 3) := by decide +kernel
theorem kd_Nm_headOf_24 : decode kc_Nm_headOf 24 = .ok (.iadd, 1) := by decide +kernel
theorem kd_Nm_headOf_25 : decode kc_Nm_headOf 25 = .ok (.istore_n 3, 1) := by decide +kernel
theorem kd_Nm_headOf_26 : decode kc_Nm_headOf 26 = .ok (.iinc 4 1, 3) := by decide +kernel
theorem kd_Nm_headOf_29 : decode kc_Nm_headOf 29 = .ok (.goto (-24), 3) := by decide +kernel
theorem kd_Nm_headOf_32 : decode kc_Nm_headOf 32 = .ok (.iload_n 3, 1) := by decide +kernel
theorem kd_Nm_headOf_33 : decode kc_Nm_headOf 33 = .ok (.iload_n 3, 1) := by decide +kernel
theorem kd_Nm_headOf_34 : decode kc_Nm_headOf 34 = .ok (.bipush 11, 2) := by decide +kernel
theorem kd_Nm_headOf_36 : decode kc_Nm_headOf 36 = .ok (.iushr, 1) := by decide +kernel
theorem kd_Nm_headOf_37 : decode kc_Nm_headOf 37 = .ok (.ixor, 1) := by decide +kernel
theorem kd_Nm_headOf_38 : decode kc_Nm_headOf 38 = .ok (.sipush 1023, 3) := by decide +kernel
theorem kd_Nm_headOf_41 : decode kc_Nm_headOf 41 = .ok (.iand, 1) := by decide +kernel
theorem kd_Nm_headOf_42 : decode kc_Nm_headOf 42 = .ok (.ireturn, 1) := by decide +kernel
theorem kd_Nm_isSame_0 : decode kc_Nm_isSame 0 = .ok (.aload_n 0, 1) := by decide +kernel
theorem kd_Nm_isSame_1 : decode kc_Nm_isSame 1 = .ok (.getfield 36, 3) := by decide +kernel
theorem kd_Nm_isSame_4 : decode kc_Nm_isSame 4 = .ok (.iload_n 1, 1) := by decide +kernel
theorem kd_Nm_isSame_5 : decode kc_Nm_isSame 5 = .ok (.iconst 1, 1) := by decide +kernel
theorem kd_Nm_isSame_6 : decode kc_Nm_isSame 6 = .ok (.iadd, 1) := by decide +kernel
theorem kd_Nm_isSame_7 : decode kc_Nm_isSame 7 = .ok (.iaload, 1) := by decide +kernel
theorem kd_Nm_isSame_8 : decode kc_Nm_isSame 8 = .ok (.aload_n 0, 1) := by decide +kernel
theorem kd_Nm_isSame_9 : decode kc_Nm_isSame 9 = .ok (.getfield 36, 3) := by decide +kernel
theorem kd_Nm_isSame_12 : decode kc_Nm_isSame 12 = .ok (.iload_n 1, 1) := by decide +kernel
theorem kd_Nm_isSame_13 : decode kc_Nm_isSame 13 = .ok (.iaload, 1) := by decide +kernel
theorem kd_Nm_isSame_14 : decode kc_Nm_isSame 14 = .ok (.isub, 1) := by decide +kernel
theorem kd_Nm_isSame_15 : decode kc_Nm_isSame 15 = .ok (.iload 4, 2) := by decide +kernel
theorem kd_Nm_isSame_17 : decode kc_Nm_isSame 17 = .ok (.if_icmp .eq 5, 3) := by decide +kernel
theorem kd_Nm_isSame_20 : decode kc_Nm_isSame 20 = .ok (.iconst 0, 1) := by decide +kernel
theorem kd_Nm_isSame_21 : decode kc_Nm_isSame 21 = .ok (.ireturn, 1) := by decide +kernel
theorem kd_Nm_isSame_22 : decode kc_Nm_isSame 22 = .ok (.iconst 0, 1) := by decide +kernel
theorem kd_Nm_isSame_23 : decode kc_Nm_isSame 23 = .ok (.istore 5, 2) := by decide +kernel
theorem kd_Nm_isSame_25 : decode kc_Nm_isSame 25 = .ok (.iload 5, 2) := by decide +kernel
theorem kd_Nm_isSame_27 : decode kc_Nm_isSame 27 = .ok (.iload 4, 2) := by decide +kernel
theorem kd_Nm_isSame_29 : decode kc_Nm_isSame 29 = .ok (.if_icmp .ge 37, 3) := by decide +kernel
theorem kd_Nm_isSame_32 : decode kc_Nm_isSame 32 = .ok (.aload_n 0, 1) := by decide +kernel
theorem kd_Nm_isSame_33 : decode kc_Nm_isSame 33 = .ok (.getfield 33, 3) := by decide +kernel
theorem kd_Nm_isSame_36 : decode kc_Nm_isSame 36 = .ok (.aload_n 0, 1) := by decide +kernel
theorem kd_Nm_isSame_37 : decode kc_Nm_isSame 37 = .ok (.getfield 36, 3) := by decide +kernel
theorem kd_Nm_isSame_40 : decode kc_Nm_isSame 40 = .ok (.iload_n 1, 1) := by decide +kernel
theorem kd_Nm_isSame_41 : decode kc_Nm_isSame 41 = .ok (.iaload, 1) := by decide +kernel
theorem kd_Nm_isSame_42 : decode kc_Nm_isSame 42 = .ok (.iload 5, 2) := by decide +kernel
theorem kd_Nm_isSame_44 : decode kc_Nm_isSame 44 = .ok (.iadd, 1) := by decide +kernel
theorem kd_Nm_isSame_45 : decode kc_Nm_isSame 45 = .ok (.baload, 1) := by decide +kernel
theorem kd_Nm_isSame_46 : decode kc_Nm_isSame 46 = .ok (.aload_n 2, 1) := by decide +kernel
theorem kd_Nm_isSame_47 : decode kc_Nm_isSame 47 = .ok (.iload_n 3, 1) := by decide +kernel
theorem kd_Nm_isSame_48 : decode kc_Nm_isSame 48 = .ok (.iload 5, 2) := by decide +kernel
theorem kd_Nm_isSame_50 : decode kc_Nm_isSame 50 = .ok (.iadd, 1) := by decide +kernel
theorem kd_Nm_isSame_51 : decode kc_Nm_isSame 51 = .ok (.baload, 1) := by decide +kernel
theorem kd_Nm_isSame_52 : decode kc_Nm_isSame 52 = .ok (.invokestatic 78, 3) := by decide +kernel
theorem kd_Nm_isSame_55 : decode kc_Nm_isSame 55 = .ok (.if_icmp .eq 5, 3) := by decide +kernel
theorem kd_Nm_isSame_58 : decode kc_Nm_isSame 58 = .ok (.iconst 0, 1) := by decide +kernel
theorem kd_Nm_isSame_59 : decode kc_Nm_isSame 59 = .ok (.ireturn, 1) := by decide +kernel
theorem kd_Nm_isSame_60 : decode kc_Nm_isSame 60 = .ok (.iinc 5 1, 3) := by decide +kernel
theorem kd_Nm_isSame_63 : decode kc_Nm_isSame 63 = .ok (.goto (-38), 3) := by decide +kernel
theorem kd_Nm_isSame_66 : decode kc_Nm_isSame 66 = .ok (.iconst 1, 1) := by decide +kernel
theorem kd_Nm_isSame_67 : decode kc_Nm_isSame 67 = .ok (.ireturn, 1) := by decide +kernel
theorem kd_Nm_find_0 : decode kc_Nm_find 0 = .ok (.iload_n 3, 1) := by decide +kernel
theorem kd_Nm_find_1 : decode kc_Nm_find 1 = .ok (.iconst 1, 1) := by decide +kernel
theorem kd_Nm_find_2 : decode kc_Nm_find 2 = .ok (.if_icmp .lt 21, 3) := by decide +kernel
theorem kd_Nm_find_5 : decode kc_Nm_find 5 = .ok (.iload_n 3, 1) := by decide +kernel
theorem kd_Nm_find_6 : decode kc_Nm_find 6 = .ok (.bipush 32, 2) := by decide +kernel
theorem kd_Nm_find_8 : decode kc_Nm_find 8 = .ok (.if_icmp .gt 15, 3) := by decide +kernel
theorem kd_Nm_find_11 : decode kc_Nm_find 11 = .ok (.iload_n 2, 1) := by decide +kernel
theorem kd_Nm_find_12 : decode kc_Nm_find 12 = .ok (.ifCond .lt 11, 3) := by decide +kernel
theorem kd_Nm_find_15 : decode kc_Nm_find 15 = .ok (.iload_n 2, 1) := by decide +kernel
theorem kd_Nm_find_16 : decode kc_Nm_find 16 = .ok (.iload_n 3, 1) := by decide +kernel
theorem kd_Nm_find_17 : decode kc_Nm_find 17 = .ok (.iadd, 1) := by decide +kernel
theorem kd_Nm_find_18 : decode kc_Nm_find 18 = .ok (.aload_n 1, 1) := by decide +kernel
theorem kd_Nm_find_19 : decode kc_Nm_find 19 = .ok (.arraylength, 1) := by decide +kernel
theorem kd_Nm_find_20 : decode kc_Nm_find 20 = .ok (.if_icmp .le 5, 3) := by decide +kernel
theorem kd_Nm_find_23 : decode kc_Nm_find 23 = .ok (.iconst (-1), 1) := by decide +kernel
theorem kd_Nm_find_24 : decode kc_Nm_find 24 = .ok (.ireturn, 1) := by decide +kernel
theorem kd_Nm_find_25 : decode kc_Nm_find 25 = .ok (.aload_n 0, 1) := by decide +kernel
theorem kd_Nm_find_26 : decode kc_Nm_find 26 = .ok (.getfield 43, 3) := by decide +kernel
theorem kd_Nm_find_29 : decode kc_Nm_find 29 = .ok (.aload_n 1, 1) := by decide +kernel
theorem kd_Nm_find_30 : decode kc_Nm_find 30 = .ok (.iload_n 2, 1) := by decide +kernel
theorem kd_Nm_find_31 : decode kc_Nm_find 31 = .ok (.iload_n 3, 1) := by decide +kernel
theorem kd_Nm_find_32 : decode kc_Nm_find 32 = .ok (.invokestatic 68, 3) := by decide +kernel
theorem kd_Nm_find_35 : decode kc_Nm_find 35 = .ok (.iaload, 1) := by decide +kernel
theorem kd_Nm_find_36 : decode kc_Nm_find 36 = .ok (.istore 4, 2) := by decide +kernel
theorem kd_Nm_find_38 : decode kc_Nm_find 38 = .ok (.iconst 0, 1) := by decide +kernel
theorem kd_Nm_find_39 : decode kc_Nm_find 39 = .ok (.istore 5, 2) := by decide +kernel
theorem kd_Nm_find_41 : decode kc_Nm_find 41 = .ok (.iload 5, 2) := by decide +kernel
theorem kd_Nm_find_43 : decode kc_Nm_find 43 = .ok (.sipush 6000, 3) := by decide +kernel
theorem kd_Nm_find_46 : decode kc_Nm_find 46 = .ok (.if_icmp .ge 39, 3) := by decide +kernel
theorem kd_Nm_find_49 : decode kc_Nm_find 49 = .ok (.iload 4, 2) := by decide +kernel
theorem kd_Nm_find_51 : decode kc_Nm_find 51 = .ok (.iconst (-1), 1) := by decide +kernel
theorem kd_Nm_find_52 : decode kc_Nm_find 52 = .ok (.if_icmp .eq 33, 3) := by decide +kernel
theorem kd_Nm_find_55 : decode kc_Nm_find 55 = .ok (.aload_n 0, 1) := by decide +kernel
theorem kd_Nm_find_56 : decode kc_Nm_find 56 = .ok (.iload 4, 2) := by decide +kernel
theorem kd_Nm_find_58 : decode kc_Nm_find 58 = .ok (.aload_n 1, 1) := by decide +kernel
theorem kd_Nm_find_59 : decode kc_Nm_find 59 = .ok (.iload_n 2, 1) := by decide +kernel
theorem kd_Nm_find_60 : decode kc_Nm_find 60 = .ok (.iload_n 3, 1) := by decide +kernel
theorem kd_Nm_find_61 : decode kc_Nm_find 61 = .ok (.invokevirtual 71, 3) := by decide +kernel
theorem kd_Nm_find_64 : decode kc_Nm_find 64 = .ok (.ifCond .eq 6, 3) := by decide +kernel
theorem kd_Nm_find_67 : decode kc_Nm_find 67 = .ok (.iload 4, 2) := by decide +kernel
theorem kd_Nm_find_69 : decode kc_Nm_find 69 = .ok (.ireturn, 1) := by decide +kernel
theorem kd_Nm_find_70 : decode kc_Nm_find 70 = .ok (.aload_n 0, 1) := by decide +kernel
theorem kd_Nm_find_71 : decode kc_Nm_find 71 = .ok (.getfield 40, 3) := by decide +kernel
theorem kd_Nm_find_74 : decode kc_Nm_find 74 = .ok (.iload 4, 2) := by decide +kernel
theorem kd_Nm_find_76 : decode kc_Nm_find 76 = .ok (.iaload, 1) := by decide +kernel
theorem kd_Nm_find_77 : decode kc_Nm_find 77 = .ok (.istore 4, 2) := by decide +kernel
theorem kd_Nm_find_79 : decode kc_Nm_find 79 = .ok (.iinc 5 1, 3) := by decide +kernel
theorem kd_Nm_find_82 : decode kc_Nm_find 82 = .ok (.goto (-41), 3) := by decide +kernel
theorem kd_Nm_find_85 : decode kc_Nm_find 85 = .ok (.iconst (-1), 1) := by decide +kernel
theorem kd_Nm_find_86 : decode kc_Nm_find 86 = .ok (.ireturn, 1) := by decide +kernel
theorem kd_Nm_numberOf_0 : decode kc_Nm_numberOf 0 = .ok (.aload_n 0, 1) := by decide +kernel
theorem kd_Nm_numberOf_1 : decode kc_Nm_numberOf 1 = .ok (.aload_n 1, 1) := by decide +kernel
theorem kd_Nm_numberOf_2 : decode kc_Nm_numberOf 2 = .ok (.iload_n 2, 1) := by decide +kernel
theorem kd_Nm_numberOf_3 : decode kc_Nm_numberOf 3 = .ok (.iload_n 3, 1) := by decide +kernel
theorem kd_Nm_numberOf_4 : decode kc_Nm_numberOf 4 = .ok (.invokevirtual 75, 3) := by decide +kernel
theorem kd_Nm_numberOf_7 : decode kc_Nm_numberOf 7 = .ok (.istore 4, 2) := by decide +kernel
theorem kd_Nm_numberOf_9 : decode kc_Nm_numberOf 9 = .ok (.iload_n 3, 1) := by decide +kernel
theorem kd_Nm_numberOf_10 : decode kc_Nm_numberOf 10 = .ok (.iconst 1, 1) := by decide +kernel
theorem kd_Nm_numberOf_11 : decode kc_Nm_numberOf 11 = .ok (.if_icmp .lt 25, 3) := by decide +kernel
theorem kd_Nm_numberOf_14 : decode kc_Nm_numberOf 14 = .ok (.iload_n 3, 1) := by decide +kernel
theorem kd_Nm_numberOf_15 : decode kc_Nm_numberOf 15 = .ok (.bipush 32, 2) := by decide +kernel
theorem kd_Nm_numberOf_17 : decode kc_Nm_numberOf 17 = .ok (.if_icmp .gt 19, 3) := by decide +kernel
theorem kd_Nm_numberOf_20 : decode kc_Nm_numberOf 20 = .ok (.iload_n 2, 1) := by decide +kernel
theorem kd_Nm_numberOf_21 : decode kc_Nm_numberOf 21 = .ok (.ifCond .lt 15, 3) := by decide +kernel
theorem kd_Nm_numberOf_24 : decode kc_Nm_numberOf 24 = .ok (.iload_n 2, 1) := by decide +kernel
theorem kd_Nm_numberOf_25 : decode kc_Nm_numberOf 25 = .ok (.iload_n 3, 1) := by decide +kernel
theorem kd_Nm_numberOf_26 : decode kc_Nm_numberOf 26 = .ok (.iadd, 1) := by decide +kernel
theorem kd_Nm_numberOf_27 : decode kc_Nm_numberOf 27 = .ok (.aload_n 1, 1) := by decide +kernel
theorem kd_Nm_numberOf_28 : decode kc_Nm_numberOf 28 = .ok (.arraylength, 1) := by decide +kernel
theorem kd_Nm_numberOf_29 : decode kc_Nm_numberOf 29 = .ok (.if_icmp .gt 7, 3) := by decide +kernel
theorem kd_Nm_numberOf_32 : decode kc_Nm_numberOf 32 = .ok (.iconst 1, 1) := by decide +kernel
theorem kd_Nm_numberOf_33 : decode kc_Nm_numberOf 33 = .ok (.goto 4, 3) := by decide +kernel
theorem kd_Nm_numberOf_36 : decode kc_Nm_numberOf 36 = .ok (.iconst 0, 1) := by decide +kernel
theorem kd_Nm_numberOf_37 : decode kc_Nm_numberOf 37 = .ok (.istore 5, 2) := by decide +kernel
theorem kd_Nm_numberOf_39 : decode kc_Nm_numberOf 39 = .ok (.iload 4, 2) := by decide +kernel
theorem kd_Nm_numberOf_41 : decode kc_Nm_numberOf 41 = .ok (.iconst (-1), 1) := by decide +kernel
theorem kd_Nm_numberOf_42 : decode kc_Nm_numberOf 42 = .ok (.if_icmp .ne 37, 3) := by decide +kernel
theorem kd_Nm_numberOf_45 : decode kc_Nm_numberOf 45 = .ok (.iload 5, 2) := by decide +kernel
theorem kd_Nm_numberOf_47 : decode kc_Nm_numberOf 47 = .ok (.ifCond .eq 32, 3) := by decide +kernel
theorem kd_Nm_numberOf_50 : decode kc_Nm_numberOf 50 = .ok (.aload_n 0, 1) := by decide +kernel
theorem kd_Nm_numberOf_51 : decode kc_Nm_numberOf 51 = .ok (.getfield 56, 3) := by decide +kernel
theorem kd_Nm_numberOf_54 : decode kc_Nm_numberOf 54 = .ok (.sipush 6000, 3) := by decide +kernel
theorem kd_Nm_numberOf_57 : decode kc_Nm_numberOf 57 = .ok (.if_icmp .ge 22, 3) := by decide +kernel
theorem kd_Nm_numberOf_60 : decode kc_Nm_numberOf 60 = .ok (.aload_n 0, 1) := by decide +kernel
theorem kd_Nm_numberOf_61 : decode kc_Nm_numberOf 61 = .ok (.getfield 36, 3) := by decide +kernel
theorem kd_Nm_numberOf_64 : decode kc_Nm_numberOf 64 = .ok (.aload_n 0, 1) := by decide +kernel
theorem kd_Nm_numberOf_65 : decode kc_Nm_numberOf 65 = .ok (.getfield 56, 3) := by decide +kernel
theorem kd_Nm_numberOf_68 : decode kc_Nm_numberOf 68 = .ok (.iaload, 1) := by decide +kernel
theorem kd_Nm_numberOf_69 : decode kc_Nm_numberOf 69 = .ok (.iload_n 3, 1) := by decide +kernel
theorem kd_Nm_numberOf_70 : decode kc_Nm_numberOf 70 = .ok (.iadd, 1) := by decide +kernel
theorem kd_Nm_numberOf_71 : decode kc_Nm_numberOf 71 = .ok (.aload_n 0, 1) := by decide +kernel
theorem kd_Nm_numberOf_72 : decode kc_Nm_numberOf 72 = .ok (.getfield 33, 3) := by decide +kernel
theorem kd_Nm_numberOf_75 : decode kc_Nm_numberOf 75 = .ok (.arraylength, 1) := by decide +kernel
theorem kd_Nm_numberOf_76 : decode kc_Nm_numberOf 76 = .ok (.if_icmp .le 6, 3) := by decide +kernel
theorem kd_Nm_numberOf_79 : decode kc_Nm_numberOf 79 = .ok (.iload 4, 2) := by decide +kernel
theorem kd_Nm_numberOf_81 : decode kc_Nm_numberOf 81 = .ok (.ireturn, 1) := by decide +kernel
theorem kd_Nm_numberOf_82 : decode kc_Nm_numberOf 82 = .ok (.aload_n 0, 1) := by decide +kernel
theorem kd_Nm_numberOf_83 : decode kc_Nm_numberOf 83 = .ok (.getfield 56, 3) := by decide +kernel
theorem kd_Nm_numberOf_86 : decode kc_Nm_numberOf 86 = .ok (.istore 4, 2) := by decide +kernel
theorem kd_Nm_numberOf_88 : decode kc_Nm_numberOf 88 = .ok (.iconst 0, 1) := by decide +kernel
theorem kd_Nm_numberOf_89 : decode kc_Nm_numberOf 89 = .ok (.istore 6, 2) := by decide +kernel
theorem kd_Nm_numberOf_91 : decode kc_Nm_numberOf 91 = .ok (.iload 6, 2) := by decide +kernel
theorem kd_Nm_numberOf_93 : decode kc_Nm_numberOf 93 = .ok (.iload_n 3, 1) := by decide +kernel
theorem kd_Nm_numberOf_94 : decode kc_Nm_numberOf 94 = .ok (.if_icmp .ge 34, 3) := by decide +kernel
theorem kd_Nm_numberOf_97 : decode kc_Nm_numberOf 97 = .ok (.aload_n 0, 1) := by decide +kernel
theorem kd_Nm_numberOf_98 : decode kc_Nm_numberOf 98 = .ok (.getfield 33, 3) := by decide +kernel
theorem kd_Nm_numberOf_101 : decode kc_Nm_numberOf 101 = .ok (.aload_n 0, 1) := by decide +kernel
theorem kd_Nm_numberOf_102 : decode kc_Nm_numberOf 102 = .ok (.getfield 36, 3) := by decide +kernel
theorem kd_Nm_numberOf_105 : decode kc_Nm_numberOf 105 = .ok (.iload 4, 2) := by decide +kernel
theorem kd_Nm_numberOf_107 : decode kc_Nm_numberOf 107 = .ok (.iaload, 1) := by decide +kernel
theorem kd_Nm_numberOf_108 : decode kc_Nm_numberOf 108 = .ok (.iload 6, 2) := by decide +kernel
theorem kd_Nm_numberOf_110 : decode kc_Nm_numberOf 110 = .ok (.iadd, 1) := by decide +kernel
theorem kd_Nm_numberOf_111 : decode kc_Nm_numberOf 111 = .ok (.aload_n 1, 1) := by decide +kernel
theorem kd_Nm_numberOf_112 : decode kc_Nm_numberOf 112 = .ok (.iload_n 2, 1) := by decide +kernel
theorem kd_Nm_numberOf_113 : decode kc_Nm_numberOf 113 = .ok (.iload 6, 2) := by decide +kernel
theorem kd_Nm_numberOf_115 : decode kc_Nm_numberOf 115 = .ok (.iadd, 1) := by decide +kernel
theorem kd_Nm_numberOf_116 : decode kc_Nm_numberOf 116 = .ok (.baload, 1) := by decide +kernel
theorem kd_Nm_numberOf_117 : decode kc_Nm_numberOf 117 = .ok (.invokestatic 78, 3) := by decide +kernel
theorem kd_Nm_numberOf_120 : decode kc_Nm_numberOf 120 = .ok (.i2b, 1) := by decide +kernel
theorem kd_Nm_numberOf_121 : decode kc_Nm_numberOf 121 = .ok (.bastore, 1) := by decide +kernel
theorem kd_Nm_numberOf_122 : decode kc_Nm_numberOf 122 = .ok (.iinc 6 1, 3) := by decide +kernel
theorem kd_Nm_numberOf_125 : decode kc_Nm_numberOf 125 = .ok (.goto (-34), 3) := by decide +kernel
theorem kd_Nm_numberOf_128 : decode kc_Nm_numberOf 128 = .ok (.aload_n 1, 1) := by decide +kernel
theorem kd_Nm_numberOf_129 : decode kc_Nm_numberOf 129 = .ok (.iload_n 2, 1) := by decide +kernel
theorem kd_Nm_numberOf_130 : decode kc_Nm_numberOf 130 = .ok (.iload_n 3, 1) := by decide +kernel
theorem kd_Nm_numberOf_131 : decode kc_Nm_numberOf 131 = .ok (.invokestatic 68, 3) := by decide +kernel
theorem kd_Nm_numberOf_134 : decode kc_Nm_numberOf 134 = .ok (.istore 6, 2) := by decide +kernel
theorem kd_Nm_numberOf_136 : decode kc_Nm_numberOf 136 = .ok (.aload_n 0, 1) := by decide +kernel
theorem kd_Nm_numberOf_137 : decode kc_Nm_numberOf 137 = .ok (.getfield 40, 3) := by decide +kernel
theorem kd_Nm_numberOf_140 : decode kc_Nm_numberOf 140 = .ok (.iload 4, 2) := by decide +kernel
theorem kd_Nm_numberOf_142 : decode kc_Nm_numberOf 142 = .ok (.aload_n 0, 1) := by decide +kernel
theorem kd_Nm_numberOf_143 : decode kc_Nm_numberOf 143 = .ok (.getfield 43, 3) := by decide +kernel
theorem kd_Nm_numberOf_146 : decode kc_Nm_numberOf 146 = .ok (.iload 6, 2) := by decide +kernel
theorem kd_Nm_numberOf_148 : decode kc_Nm_numberOf 148 = .ok (.iaload, 1) := by decide +kernel
theorem kd_Nm_numberOf_149 : decode kc_Nm_numberOf 149 = .ok (.iastore, 1) := by decide +kernel
theorem kd_Nm_numberOf_150 : decode kc_Nm_numberOf 150 = .ok (.aload_n 0, 1) := by decide +kernel
theorem kd_Nm_numberOf_151 : decode kc_Nm_numberOf 151 = .ok (.getfield 43, 3) := by decide +kernel
theorem kd_Nm_numberOf_154 : decode kc_Nm_numberOf 154 = .ok (.iload 6, 2) := by decide +kernel
theorem kd_Nm_numberOf_156 : decode kc_Nm_numberOf 156 = .ok (.iload 4, 2) := by decide +kernel
theorem kd_Nm_numberOf_158 : decode kc_Nm_numberOf 158 = .ok (.iastore, 1) := by decide +kernel
theorem kd_Nm_numberOf_159 : decode kc_Nm_numberOf 159 = .ok (.aload_n 0, 1) := by decide +kernel
theorem kd_Nm_numberOf_160 : decode kc_Nm_numberOf 160 = .ok (.dup, 1) := by decide +kernel
theorem kd_Nm_numberOf_161 : decode kc_Nm_numberOf 161 = .ok (.getfield 56, 3) := by decide +kernel
theorem kd_Nm_numberOf_164 : decode kc_Nm_numberOf 164 = .ok (.iconst 1, 1) := by decide +kernel
theorem kd_Nm_numberOf_165 : decode kc_Nm_numberOf 165 = .ok (.iadd, 1) := by decide +kernel
theorem kd_Nm_numberOf_166 : decode kc_Nm_numberOf 166 = .ok (.putfield 56, 3) := by decide +kernel
theorem kd_Nm_numberOf_169 : decode kc_Nm_numberOf 169 = .ok (.aload_n 0, 1) := by decide +kernel
theorem kd_Nm_numberOf_170 : decode kc_Nm_numberOf 170 = .ok (.getfield 36, 3) := by decide +kernel
theorem kd_Nm_numberOf_173 : decode kc_Nm_numberOf 173 = .ok (.aload_n 0, 1) := by decide +kernel
theorem kd_Nm_numberOf_174 : decode kc_Nm_numberOf 174 = .ok (.getfield 56, 3) := by decide +kernel
theorem kd_Nm_numberOf_177 : decode kc_Nm_numberOf 177 = .ok (.aload_n 0, 1) := by decide +kernel
theorem kd_Nm_numberOf_178 : decode kc_Nm_numberOf 178 = .ok (.getfield 36, 3) := by decide +kernel
theorem kd_Nm_numberOf_181 : decode kc_Nm_numberOf 181 = .ok (.iload 4, 2) := by decide +kernel
theorem kd_Nm_numberOf_183 : decode kc_Nm_numberOf 183 = .ok (.iaload, 1) := by decide +kernel
theorem kd_Nm_numberOf_184 : decode kc_Nm_numberOf 184 = .ok (.iload_n 3, 1) := by decide +kernel
theorem kd_Nm_numberOf_185 : decode kc_Nm_numberOf 185 = .ok (.iadd, 1) := by decide +kernel
theorem kd_Nm_numberOf_186 : decode kc_Nm_numberOf 186 = .ok (.iastore, 1) := by decide +kernel
theorem kd_Nm_numberOf_187 : decode kc_Nm_numberOf 187 = .ok (.iload 4, 2) := by decide +kernel
theorem kd_Nm_numberOf_189 : decode kc_Nm_numberOf 189 = .ok (.ireturn, 1) := by decide +kernel
theorem kd_Nm_forget_0 : decode kc_Nm_forget 0 = .ok (.aload_n 0, 1) := by decide +kernel
theorem kd_Nm_forget_1 : decode kc_Nm_forget 1 = .ok (.getfield 43, 3) := by decide +kernel
theorem kd_Nm_forget_4 : decode kc_Nm_forget 4 = .ok (.iconst (-1), 1) := by decide +kernel
theorem kd_Nm_forget_5 : decode kc_Nm_forget 5 = .ok (.invokestatic 50, 3) := by decide +kernel
theorem kd_Nm_forget_8 : decode kc_Nm_forget 8 = .ok (.aload_n 0, 1) := by decide +kernel
theorem kd_Nm_forget_9 : decode kc_Nm_forget 9 = .ok (.iconst 0, 1) := by decide +kernel
theorem kd_Nm_forget_10 : decode kc_Nm_forget 10 = .ok (.putfield 56, 3) := by decide +kernel
theorem kd_Nm_forget_13 : decode kc_Nm_forget 13 = .ok (.iconst 0, 1) := by decide +kernel
theorem kd_Nm_forget_14 : decode kc_Nm_forget 14 = .ok (.istore_n 1, 1) := by decide +kernel
theorem kd_Nm_forget_15 : decode kc_Nm_forget 15 = .ok (.iconst 0, 1) := by decide +kernel
theorem kd_Nm_forget_16 : decode kc_Nm_forget 16 = .ok (.istore_n 2, 1) := by decide +kernel
theorem kd_Nm_forget_17 : decode kc_Nm_forget 17 = .ok (.iload_n 2, 1) := by decide +kernel
theorem kd_Nm_forget_18 : decode kc_Nm_forget 18 = .ok (.aload_n 0, 1) := by decide +kernel
theorem kd_Nm_forget_19 : decode kc_Nm_forget 19 = .ok (.getfield 25, 3) := by decide +kernel
theorem kd_Nm_forget_22 : decode kc_Nm_forget 22 = .ok (.arraylength, 1) := by decide +kernel
theorem kd_Nm_forget_23 : decode kc_Nm_forget 23 = .ok (.if_icmp .ge 37, 3) := by decide +kernel
theorem kd_Nm_forget_26 : decode kc_Nm_forget 26 = .ok (.aload_n 0, 1) := by decide +kernel
theorem kd_Nm_forget_27 : decode kc_Nm_forget 27 = .ok (.getfield 25, 3) := by decide +kernel
theorem kd_Nm_forget_30 : decode kc_Nm_forget 30 = .ok (.iload_n 2, 1) := by decide +kernel
theorem kd_Nm_forget_31 : decode kc_Nm_forget 31 = .ok (.baload, 1) := by decide +kernel
theorem kd_Nm_forget_32 : decode kc_Nm_forget 32 = .ok (.bipush 32, 2) := by decide +kernel
theorem kd_Nm_forget_34 : decode kc_Nm_forget 34 = .ok (.if_icmp .ne 20, 3) := by decide +kernel
theorem kd_Nm_forget_37 : decode kc_Nm_forget 37 = .ok (.aload_n 0, 1) := by decide +kernel
theorem kd_Nm_forget_38 : decode kc_Nm_forget 38 = .ok (.aload_n 0, 1) := by decide +kernel
theorem kd_Nm_forget_39 : decode kc_Nm_forget 39 = .ok (.getfield 25, 3) := by decide +kernel
theorem kd_Nm_forget_42 : decode kc_Nm_forget 42 = .ok (.iload_n 1, 1) := by decide +kernel
theorem kd_Nm_forget_43 : decode kc_Nm_forget 43 = .ok (.iload_n 2, 1) := by decide +kernel
theorem kd_Nm_forget_44 : decode kc_Nm_forget 44 = .ok (.iload_n 1, 1) := by decide +kernel
theorem kd_Nm_forget_45 : decode kc_Nm_forget 45 = .ok (.isub, 1) := by decide +kernel
theorem kd_Nm_forget_46 : decode kc_Nm_forget 46 = .ok (.invokevirtual 60, 3) := by decide +kernel
theorem kd_Nm_forget_49 : decode kc_Nm_forget 49 = .ok (.pop, 1) := by decide +kernel
theorem kd_Nm_forget_50 : decode kc_Nm_forget 50 = .ok (.iload_n 2, 1) := by decide +kernel
theorem kd_Nm_forget_51 : decode kc_Nm_forget 51 = .ok (.iconst 1, 1) := by decide +kernel
theorem kd_Nm_forget_52 : decode kc_Nm_forget 52 = .ok (.iadd, 1) := by decide +kernel
theorem kd_Nm_forget_53 : decode kc_Nm_forget 53 = .ok (.istore_n 1, 1) := by decide +kernel
theorem kd_Nm_forget_54 : decode kc_Nm_forget 54 = .ok (.iinc 2 1, 3) := by decide +kernel
theorem kd_Nm_forget_57 : decode kc_Nm_forget 57 = .ok (.goto (-40), 3) := by decide +kernel
theorem kd_Nm_forget_60 : decode kc_Nm_forget 60 = .ok (.return_, 1) := by decide +kernel
set_option maxHeartbeats 4000000 in
set_option maxRecDepth 100000 in
/-- PlantKeeper$Names.great -/
theorem zn_great0 {l : Launch} {D : va_G} {sz0 : Nat} {S : zs_T} {P : ze_T} (h : zs_H) (x1 : Int32) : zk_Sp (zs_G S l D sz0) (ze_E P) km_Nm_great { frames := 0, cells := 0, slots := 0, locals := 0 } [.int x1] (zs_W S h) (fun v w => (x1 < 97 ∧ v = some (.int x1) ∧ w = zs_W S h) ∨ (¬ x1 < 97 ∧ 122 < x1 ∧ v = some (.int x1) ∧ w = zs_W S h) ∨ (¬ x1 < 97 ∧ ¬ 122 < x1 ∧ v = some (.int (x1 - 32)) ∧ w = zs_W S h)) := by
  refine zk_met ku_Nm_great (Nat.le_of_ble_eq_true rfl) (ze_Em P) ?_
  intro X C hR
  refine zk_lvs (lv' := [(0, .int x1)]) [0] rfl ?_
  refine zk_iload_n C kd_Nm_great_0 rfl 0 rfl rfl ?_
  refine zk_bipush (v := 97) C kd_Nm_great_1 (by decide) rfl ?_
  refine zk_icmp_lt (tgt := 19) C kd_Nm_great_3 (by decide) rfl (fun h_1 => ?_) (fun h_1 => ?_)
  · refine zk_iload_n C kd_Nm_great_19 rfl 0 rfl rfl ?_
    exact zk_iret C hR kd_Nm_great_20 rfl rfl (Or.inl ⟨h_1, rfl, rfl⟩)
  · refine zk_iload_n C kd_Nm_great_6 rfl 0 rfl rfl ?_
    refine zk_bipush (v := 122) C kd_Nm_great_7 (by decide) rfl ?_
    refine zk_icmp_gt (tgt := 19) C kd_Nm_great_9 (by decide) rfl (fun h_2 => ?_) (fun h_2 => ?_)
    · refine zk_iload_n C kd_Nm_great_19 rfl 0 rfl rfl ?_
      exact zk_iret C hR kd_Nm_great_20 rfl rfl (Or.inr (Or.inl ⟨h_1, h_2, rfl, rfl⟩))
    · refine zk_iload_n C kd_Nm_great_12 rfl 0 rfl rfl ?_
      refine zk_bipush (v := 32) C kd_Nm_great_13 (by decide) rfl ?_
      refine zk_isub C kd_Nm_great_15 rfl ?_
      refine zk_goto (tgt := 20) C kd_Nm_great_16 (by decide) ?_
      exact zk_iret C hR kd_Nm_great_20 rfl rfl (Or.inr (Or.inr ⟨h_1, h_2, rfl, rfl⟩))
/-- a letter as a great one -/
def zn_gr (c : Int32) : Int32 := if 97 ≤ c ∧ c ≤ 122 then c - 32 else c
theorem zn_great {l : Launch} {D : va_G} {sz0 : Nat} {S : zs_T} {P : ze_T} (h : zs_H) (x1 : Int32) : zk_Sp (zs_G S l D sz0) (ze_E P) km_Nm_great { frames := 0, cells := 0, slots := 0, locals := 0 } [.int x1] (zs_W S h) (fun v w => v = some (.int (zn_gr x1)) ∧ w = zs_W S h) := by
  refine (zn_great0 h x1).mono (fun v w hp => ?_)
  rcases hp with ⟨g1, rfl, rfl⟩ | ⟨g1, g2, rfl, rfl⟩ | ⟨g1, g2, rfl, rfl⟩
  · exact ⟨by rw [zn_gr, if_neg (fun q => absurd q.1 (Int32.not_le.mpr g1))], rfl⟩
  · exact ⟨by rw [zn_gr, if_neg (fun q => absurd q.2 (Int32.not_le.mpr g2))], rfl⟩
  · exact ⟨by rw [zn_gr, if_pos ⟨Int32.not_lt.mp g1, Int32.not_lt.mp g2⟩], rfl⟩
def zn_sm (t : Nat → Int32) (f : Nat) (a : Int32) : Nat → Int32
  | 0 => a
  | i + 1 => zn_sm t f a i * 31 + zn_gr (t (f + i))
/-- the head of a name's chain -/
def zn_hd (t : Nat → Int32) (f n : Nat) : Int32 := (zn_sm t f (nI n) n ^^^ ((zn_sm t f (nI n) n).toUInt32 >>> ((11 : Int32).toUInt32 &&& Int32.toUInt32 31)).toInt32) &&& 1023
theorem zn_hd_in (t : Nat → Int32) (f n : Nat) : ∃ j : Nat, j < 1024 ∧ zn_hd t f n = nI j := pk_andE _ (m := 1023) 10 (by decide)
set_option maxHeartbeats 4000000 in
set_option maxRecDepth 100000 in
theorem zn_headOf {l : Launch} {D : va_G} {sz0 : Nat} {S : zs_T} {P : ze_T} (h : zs_H) (kt N : Nat) (hk : zs_sh[kt]? = some (.inl (1, N))) (hN : N < 2 ^ 30) (f n : Nat) (hfn : f + n ≤ N) : zk_Sp (zs_G S l D sz0) (ze_E P) km_Nm_headOf { frames := 1, cells := 0, slots := 0, locals := 20 } [.ref (S.1 kt), .int (nI f), .int (nI n)] (zs_W S h) (fun v w => v = some (.int (zn_hd (h.2.1 kt) f n)) ∧ w = zs_W S h) := by
  refine zk_met ku_Nm_headOf (Nat.le_of_ble_eq_true rfl) (ze_Em P) ?_
  intro X C hR
  refine zk_lvs (lv' := [(0, .ref (S.1 kt)), (1, .int (nI f)), (2, .int (nI n))]) [0, 1, 2] rfl ?_
  have loop : ∀ (m i : Nat), i + m = n → zk_Ab X (zs_W S h) 0 0 5 [(0, .ref (S.1 kt)), (1, .int (nI f)), (2, .int (nI n)), (3, .int (zn_sm (h.2.1 kt) f (nI n) i)), (4, .int (nI i))] [] := by
    intro m
    induction m with
    | zero =>
      intro i hi
      refine zk_iload C kd_Nm_headOf_5 4 rfl rfl ?_
      refine zk_iload_n C kd_Nm_headOf_7 rfl 2 rfl rfl ?_
      refine zk_icmp_ge (tgt := 32) C kd_Nm_headOf_8 (by decide) rfl (fun h_2 => ?_) (fun h_2 => absurd (nI_le (by omega) (by omega)) h_2)
      refine zk_iload_n C kd_Nm_headOf_32 rfl 3 rfl rfl ?_
      refine zk_iload_n C kd_Nm_headOf_33 rfl 3 rfl rfl ?_
      refine zk_bipush (v := 11) C kd_Nm_headOf_34 (by decide) rfl ?_
      refine zk_iushr C kd_Nm_headOf_36 rfl ?_
      refine zk_ixor C kd_Nm_headOf_37 rfl ?_
      refine zk_sipush (v := 1023) C kd_Nm_headOf_38 (by decide) rfl ?_
      refine zk_iand C kd_Nm_headOf_41 rfl ?_
      exact zk_iret C hR kd_Nm_headOf_42 rfl rfl ⟨by rw [zn_hd, show i = n by omega], rfl⟩
    | succ m ih0 =>
      intro i hi
      have ih := ih0
      refine zk_iload C kd_Nm_headOf_5 4 rfl rfl ?_
      refine zk_iload_n C kd_Nm_headOf_7 rfl 2 rfl rfl ?_
      refine zk_icmp_ge (tgt := 32) C kd_Nm_headOf_8 (by decide) rfl (fun h_1 => absurd h_1 (nI_ge (by omega) (by omega))) (fun h_1 => ?_)
      refine zk_iload_n C kd_Nm_headOf_11 rfl 3 rfl rfl ?_
      refine zk_bipush (v := 31) C kd_Nm_headOf_12 (by decide) rfl ?_
      refine zk_imul C kd_Nm_headOf_14 rfl ?_
      refine zk_aload_n C kd_Nm_headOf_15 rfl 0 rfl rfl ?_
      refine zk_iload_n C kd_Nm_headOf_16 rfl 1 rfl rfl ?_
      refine zk_iload C kd_Nm_headOf_17 4 rfl rfl ?_
      refine zk_iadd C kd_Nm_headOf_19 rfl ?_
      refine zk_stk (r' := [.int (nI (f + i)), .ref (S.1 kt), .int ((zn_sm (h.2.1 kt) f (nI n) i) * 31)]) (by rw [nI_add]) ?_
      refine zs_bald C kt hk (vp_in_nI (by omega) (by omega)) kd_Nm_headOf_20 rfl ?_
      refine zk_stk (r' := [.int (h.2.1 kt (f + i)), .int ((zn_sm (h.2.1 kt) f (nI n) i) * 31)]) (by rw [nI_clamp (by omega)]) ?_
      refine zk_callS (rn := { frames := 0, cells := 0, slots := 0, locals := 0 }) (As := [.int (h.2.1 kt (f + i))]) (rest := [.int ((zn_sm (h.2.1 kt) f (nI n) i) * 31)]) C (zn_great h (h.2.1 kt (f + i))) ku_Nm_great kw707 ks_Nm_great rfl ⟨by decide, by decide⟩ ⟨by decide, by decide⟩ rfl (Nat.le_of_ble_eq_true rfl) kd_Nm_headOf_21 rfl (c1 := 0) (s1 := 0) rfl rfl (fun v w hp => ?_)
      obtain ⟨rfl, ew⟩ := hp
      rw [ew]
      refine zk_stk (r' := [.int (zn_gr (h.2.1 kt (f + i))), .int ((zn_sm (h.2.1 kt) f (nI n) i) * 31)]) rfl ?_
      refine zk_iadd C kd_Nm_headOf_24 rfl ?_
      refine zk_istore_n (lv' := [(3, _), (0, _), (1, _), (2, _), (4, _)]) C kd_Nm_headOf_25 rfl (by decide) rfl rfl ?_
      refine zk_iinc (lv' := [(4, _), (3, _), (0, _), (1, _), (2, _)]) C kd_Nm_headOf_26 4 rfl rfl (by decide) rfl rfl ?_
      refine zk_goto (tgt := 5) C kd_Nm_headOf_29 (by decide) ?_
      refine zk_lvs (lv' := [(0, .ref (S.1 kt)), (1, .int (nI f)), (2, .int (nI n)), (3, .int (zn_sm (h.2.1 kt) f (nI n) (i + 1))), (4, .int (nI (i + 1)))]) [2, 3, 4, 1, 0] (by rw [nI_succ]; rfl) ?_
      exact ih (i + 1) (by omega)
  refine zk_iload_n C kd_Nm_headOf_0 rfl 2 rfl rfl ?_
  refine zk_istore_n (lv' := [(3, _), (0, _), (1, _), (2, _)]) C kd_Nm_headOf_1 rfl (by decide) rfl rfl ?_
  refine zk_iconst (v := 0) C kd_Nm_headOf_2 (by decide) rfl ?_
  refine zk_istore (lv' := [(4, _), (3, _), (0, _), (1, _), (2, _)]) C kd_Nm_headOf_3 (by decide) rfl rfl ?_
  refine zk_lvs (lv' := [(0, .ref (S.1 kt)), (1, .int (nI f)), (2, .int (nI n)), (3, .int (zn_sm (h.2.1 kt) f (nI n) 0)), (4, .int (nI 0))]) [2, 3, 4, 1, 0] rfl ?_
  exact loop n 0 (by omega)
theorem zn_hdv (t : Nat → Int32) (f n : Nat) : vp_in (zn_hd t f n) 1024 := by
  obtain ⟨j, hj, e⟩ := zn_hd_in t f n
  rw [e]; exact vp_in_nI hj (by decide)
/-- the names: c of them, with their letters' places s -/
def zn_J (h : zs_H) (c : Nat) (s : Nat → Nat) : Prop := c ≤ 6000 ∧ h.1 2 5 = nI c ∧ (∀ j, j < 1024 → h.2.1 7 j = -1 ∨ ∃ k, k < c ∧ h.2.1 7 j = nI k) ∧ (∀ k, k < c → h.2.1 6 k = -1 ∨ ∃ j, j < c ∧ h.2.1 6 k = nI j) ∧ (∀ k, k ≤ c → h.2.1 5 k = nI (s k) ∧ s k ≤ 16789) ∧ (∀ k, k < c → s k ≤ s (k + 1))
/-- but for the array K all is as it was -/
def zn_L (K : Nat) (h hh : zs_H) : Prop := hh.1 = h.1 ∧ (∀ a, a ≠ K → hh.2.1 a = h.2.1 a) ∧ hh.2.2 = h.2.2
theorem zn_L.rf {K : Nat} {h : zs_H} : zn_L K h h := ⟨rfl, fun _ _ => rfl, rfl⟩
theorem zn_L.put {K i : Nat} {h hh : zs_H} {v : Int32} (H : zn_L K h hh) : zn_L K h (zs_uM hh K i v) := by
  refine ⟨H.1, fun a ha => ?_, H.2.2⟩
  rw [← H.2.1 a ha]
  funext b
  show (if a = K ∧ b = i then v else hh.2.1 a b) = hh.2.1 a b
  rw [if_neg (fun q => ha q.1)]
theorem zs_rM {h : zs_H} {k i : Nat} {v : Int32} : (zs_uM h k i v).2.1 k i = v := if_pos ⟨rfl, rfl⟩
theorem zs_rK {h : zs_H} {k i a b : Nat} {v : Int32} (q : a ≠ k) : (zs_uM h k i v).2.1 a b = h.2.1 a b := if_neg (fun z => q z.1)
theorem zs_rI {h : zs_H} {k i b : Nat} {v : Int32} (q : b ≠ i) : (zs_uM h k i v).2.1 k b = h.2.1 k b := if_neg (fun z => q z.2)
theorem zs_rN {h : zs_H} {k i a b : Nat} {v : Int32} (q : ¬ (a = k ∧ b = i)) : (zs_uM h k i v).2.1 a b = h.2.1 a b := if_neg q
set_option maxHeartbeats 4000000 in
set_option maxRecDepth 100000 in
theorem zn_isSame {l : Launch} {D : va_G} {sz0 : Nat} {S : zs_T} {P : ze_T} (h : zs_H) (kt N : Nat) (hk : zs_sh[kt]? = some (.inl (1, N))) (hN : N < 2 ^ 30) (f n : Nat) (hfn : f + n ≤ N) (a : Nat) (s : Nat → Nat) (ha : a < 6000) (hs0 : h.2.1 5 a = nI (s a)) (hs1 : h.2.1 5 (a + 1) = nI (s (a + 1))) (hb : s (a + 1) ≤ 16789) (hmo : s a ≤ s (a + 1)) : zk_Sp (zs_G S l D sz0) (ze_E P) km_Nm_isSame { frames := 1, cells := 0, slots := 0, locals := 20 } [.ref (S.1 2), .int (nI a), .ref (S.1 kt), .int (nI f), .int (nI n)] (zs_W S h) (fun v w => ∃ r : Int32, v = some (.int r) ∧ (r = 0 ∨ r = 1) ∧ w = zs_W S h) := by
  refine zk_met ku_Nm_isSame (Nat.le_of_ble_eq_true rfl) (ze_Em P) ?_
  intro X C hR
  refine zk_lvs (lv' := [(0, .ref (S.1 2)), (1, .int (nI a)), (2, .ref (S.1 kt)), (3, .int (nI f)), (4, .int (nI n))]) [0, 1, 2, 3, 4] rfl ?_
  have loop : ∀ (m i : Nat), i + m = n → s (a + 1) - s a = n → zk_Ab X (zs_W S h) 0 0 25 [(0, .ref (S.1 2)), (1, .int (nI a)), (2, .ref (S.1 kt)), (3, .int (nI f)), (4, .int (nI n)), (5, .int (nI i))] [] := by
    intro m
    induction m with
    | zero =>
      intro i hi en
      refine zk_iload C kd_Nm_isSame_25 5 rfl rfl ?_
      refine zk_iload C kd_Nm_isSame_27 4 rfl rfl ?_
      refine zk_icmp_ge (tgt := 66) C kd_Nm_isSame_29 (by decide) rfl (fun h_6 => ?_) (fun h_6 => absurd (nI_le (by omega) (by omega)) h_6)
      refine zk_iconst (v := 1) C kd_Nm_isSame_66 (by decide) rfl ?_
      exact zk_zret C hR rfl kd_Nm_isSame_67 rfl rfl ⟨_, rfl, Or.inr rfl, rfl⟩
    | succ m ih =>
      intro i hi en
      refine zk_iload C kd_Nm_isSame_25 5 rfl rfl ?_
      refine zk_iload C kd_Nm_isSame_27 4 rfl rfl ?_
      refine zk_icmp_ge (tgt := 66) C kd_Nm_isSame_29 (by decide) rfl (fun h_4 => absurd h_4 (nI_ge (by omega) (by omega))) (fun h_4 => ?_)
      refine zk_aload_n C kd_Nm_isSame_32 rfl 0 rfl rfl ?_
      refine zs_get (v := .ref (S.1 4)) C 2 1 rfl rfl rfl rfl ki_Nm (by decide) kw92 kd_Nm_isSame_33 rfl ?_
      refine zk_aload_n C kd_Nm_isSame_36 rfl 0 rfl rfl ?_
      refine zs_get (v := .ref (S.1 5)) C 2 2 rfl rfl rfl rfl ki_Nm (by decide) kw93 kd_Nm_isSame_37 rfl ?_
      refine zk_iload_n C kd_Nm_isSame_40 rfl 1 rfl rfl ?_
      refine zs_iald C 5 rfl (vp_in_nI (by omega) (by decide)) kd_Nm_isSame_41 rfl ?_
      refine zk_stk (r' := [.int (nI (s a)), .ref (S.1 4)]) (by rw [nI_clamp (by omega), hs0]) ?_
      refine zk_iload C kd_Nm_isSame_42 5 rfl rfl ?_
      refine zk_iadd C kd_Nm_isSame_44 rfl ?_
      refine zk_stk (r' := [.int (nI (s a + i)), .ref (S.1 4)]) (by rw [nI_add]) ?_
      refine zs_bald C 4 rfl (vp_in_nI (by omega) (by decide)) kd_Nm_isSame_45 rfl ?_
      refine zk_aload_n C kd_Nm_isSame_46 rfl 2 rfl rfl ?_
      refine zk_iload_n C kd_Nm_isSame_47 rfl 3 rfl rfl ?_
      refine zk_iload C kd_Nm_isSame_48 5 rfl rfl ?_
      refine zk_iadd C kd_Nm_isSame_50 rfl ?_
      refine zk_stk (r' := [.int (nI (f + i)), .ref (S.1 kt), .int (h.2.1 4 ((nI (s a + i))).toNatClampNeg)]) (by rw [nI_add]) ?_
      refine zs_bald C kt hk (vp_in_nI (by omega) (by omega)) kd_Nm_isSame_51 rfl ?_
      refine zk_stk (r' := [.int (h.2.1 kt (f + i)), .int (h.2.1 4 ((nI (s a + i))).toNatClampNeg)]) (by rw [nI_clamp (by omega)]) ?_
      refine zk_callS (rn := { frames := 0, cells := 0, slots := 0, locals := 0 }) (As := [.int (h.2.1 kt (f + i))]) (rest := [.int (h.2.1 4 ((nI (s a + i))).toNatClampNeg)]) C (zn_great h (h.2.1 kt (f + i))) ku_Nm_great kw707 ks_Nm_great rfl ⟨by decide, by decide⟩ ⟨by decide, by decide⟩ rfl (Nat.le_of_ble_eq_true rfl) kd_Nm_isSame_52 rfl (c1 := 0) (s1 := 0) rfl rfl (fun v w hp => ?_)
      obtain ⟨rfl, ew⟩ := hp
      rw [ew]
      refine zk_stk (r' := [.int (zn_gr (h.2.1 kt (f + i))), .int (h.2.1 4 ((nI (s a + i))).toNatClampNeg)]) rfl ?_
      refine zk_icmp_eq (tgt := 60) C kd_Nm_isSame_55 (by decide) rfl (fun h_5 => ?_) (fun h_5 => ?_)
      · refine zk_iinc (lv' := [(5, _), (0, _), (1, _), (2, _), (3, _), (4, _)]) C kd_Nm_isSame_60 5 rfl rfl (by decide) rfl rfl ?_
        refine zk_goto (tgt := 25) C kd_Nm_isSame_63 (by decide) ?_
        refine zk_lvs (lv' := [(0, .ref (S.1 2)), (1, .int (nI a)), (2, .ref (S.1 kt)), (3, .int (nI f)), (4, .int (nI n)), (5, .int (nI (i + 1)))]) [1, 2, 3, 4, 5, 0] (by rw [nI_succ]; rfl) ?_
        exact ih (i + 1) (by omega) en
      · refine zk_iconst (v := 0) C kd_Nm_isSame_58 (by decide) rfl ?_
        exact zk_zret C hR rfl kd_Nm_isSame_59 rfl rfl ⟨_, rfl, Or.inl rfl, rfl⟩
  refine zk_aload_n C kd_Nm_isSame_0 rfl 0 rfl rfl ?_
  refine zs_get (v := .ref (S.1 5)) C 2 2 rfl rfl rfl rfl ki_Nm (by decide) kw93 kd_Nm_isSame_1 rfl ?_
  refine zk_iload_n C kd_Nm_isSame_4 rfl 1 rfl rfl ?_
  refine zk_iconst (v := 1) C kd_Nm_isSame_5 (by decide) rfl ?_
  refine zk_iadd C kd_Nm_isSame_6 rfl ?_
  refine zk_stk (r' := [.int (nI (a + 1)), .ref (S.1 5)]) (by rw [nI_1]) ?_
  refine zs_iald C 5 rfl (vp_in_nI (by omega) (by decide)) kd_Nm_isSame_7 rfl ?_
  refine zk_stk (r' := [.int (nI (s (a + 1)))]) (by rw [nI_clamp (by omega), hs1]) ?_
  refine zk_aload_n C kd_Nm_isSame_8 rfl 0 rfl rfl ?_
  refine zs_get (v := .ref (S.1 5)) C 2 2 rfl rfl rfl rfl ki_Nm (by decide) kw93 kd_Nm_isSame_9 rfl ?_
  refine zk_iload_n C kd_Nm_isSame_12 rfl 1 rfl rfl ?_
  refine zs_iald C 5 rfl (vp_in_nI (by omega) (by decide)) kd_Nm_isSame_13 rfl ?_
  refine zk_stk (r' := [.int (nI (s a)), .int (nI (s (a + 1)))]) (by rw [nI_clamp (by omega), hs0]) ?_
  refine zk_isub C kd_Nm_isSame_14 rfl ?_
  refine zk_stk (r' := [.int (nI (s (a + 1) - s a))]) (by rw [pk_sub hmo]) ?_
  refine zk_iload C kd_Nm_isSame_15 4 rfl rfl ?_
  refine zk_icmp_eq (tgt := 22) C kd_Nm_isSame_17 (by decide) rfl (fun h_3 => ?_) (fun h_3 => ?_)
  · have en : s (a + 1) - s a = n := (nI_eq (by omega) (by omega)).mp h_3
    refine zk_iconst (v := 0) C kd_Nm_isSame_22 (by decide) rfl ?_
    refine zk_istore (lv' := [(5, _), (0, _), (1, _), (2, _), (3, _), (4, _)]) C kd_Nm_isSame_23 (by decide) rfl rfl ?_
    refine zk_lvs (lv' := [(0, .ref (S.1 2)), (1, .int (nI a)), (2, .ref (S.1 kt)), (3, .int (nI f)), (4, .int (nI n)), (5, .int (nI 0))]) [1, 2, 3, 4, 5, 0] rfl ?_
    exact loop n 0 (by omega) (by omega)
  · refine zk_iconst (v := 0) C kd_Nm_isSame_20 (by decide) rfl ?_
    exact zk_zret C hR rfl kd_Nm_isSame_21 rfl rfl ⟨_, rfl, Or.inl rfl, rfl⟩
set_option maxHeartbeats 4000000 in
set_option maxRecDepth 100000 in
theorem zn_find {l : Launch} {D : va_G} {sz0 : Nat} {S : zs_T} {P : ze_T} (h : zs_H) (kt N : Nat) (hk : zs_sh[kt]? = some (.inl (1, N))) (hN : N < 2 ^ 30) (f n : Nat) (hf : f ≤ N) (hn : n ≤ N) (c : Nat) (s : Nat → Nat) (hJ : zn_J h c s) : zk_Sp (zs_G S l D sz0) (ze_E P) km_Nm_find { frames := 2, cells := 0, slots := 0, locals := 45 } [.ref (S.1 2), .ref (S.1 kt), .int (nI f), .int (nI n)] (zs_W S h) (fun v w => ∃ r : Int32, v = some (.int r) ∧ (r = -1 ∨ ∃ k, k < c ∧ r = nI k) ∧ w = zs_W S h) := by
  refine zk_met ku_Nm_find (Nat.le_of_ble_eq_true rfl) (ze_Em P) ?_
  intro X C hR
  refine zk_lvs (lv' := [(0, .ref (S.1 2)), (1, .ref (S.1 kt)), (2, .int (nI f)), (3, .int (nI n))]) [0, 1, 2, 3] rfl ?_
  have loop : f + n ≤ N → ∀ (m t : Nat) (nm : Int32), t + m = 6000 → (nm = -1 ∨ ∃ k, k < c ∧ nm = nI k) → zk_Ab X (zs_W S h) 0 0 41 [(0, .ref (S.1 2)), (1, .ref (S.1 kt)), (2, .int (nI f)), (3, .int (nI n)), (4, .int nm), (5, .int (nI t))] [] := by
    intro hfn m
    induction m with
    | zero =>
      intro t nm ht hnm
      refine zk_iload C kd_Nm_find_41 5 rfl rfl ?_
      refine zk_sipush (v := 6000) C kd_Nm_find_43 (by decide) rfl ?_
      refine zk_icmp_ge (tgt := 85) C kd_Nm_find_46 (by decide) rfl (fun h_13 => ?_) (fun h_13 => absurd (nI_le (a := 6000) (by omega) (by omega)) h_13)
      refine zk_iconst (v := (-1)) C kd_Nm_find_85 (by decide) rfl ?_
      exact zk_iret C hR kd_Nm_find_86 rfl rfl ⟨_, rfl, Or.inl rfl, rfl⟩
    | succ m ih =>
      intro t nm ht hnm
      refine zk_iload C kd_Nm_find_41 5 rfl rfl ?_
      refine zk_sipush (v := 6000) C kd_Nm_find_43 (by decide) rfl ?_
      refine zk_icmp_ge (tgt := 85) C kd_Nm_find_46 (by decide) rfl (fun h_11 => absurd h_11 (nI_ge (a := t) (b := 6000) (by omega) (by decide))) (fun h_11 => ?_)
      refine zk_iload C kd_Nm_find_49 4 rfl rfl ?_
      refine zk_iconst (v := (-1)) C kd_Nm_find_51 (by decide) rfl ?_
      refine zk_icmp_eq (tgt := 85) C kd_Nm_find_52 (by decide) rfl (fun h_12 => ?_) (fun h_12 => ?_)
      · refine zk_iconst (v := (-1)) C kd_Nm_find_85 (by decide) rfl ?_
        exact zk_iret C hR kd_Nm_find_86 rfl rfl ⟨_, rfl, Or.inl rfl, rfl⟩
      · obtain ⟨k, hkc, rfl⟩ := hnm.resolve_left h_12
        refine zk_aload_n C kd_Nm_find_55 rfl 0 rfl rfl ?_
        refine zk_iload C kd_Nm_find_56 4 rfl rfl ?_
        refine zk_aload_n C kd_Nm_find_58 rfl 1 rfl rfl ?_
        refine zk_iload_n C kd_Nm_find_59 rfl 2 rfl rfl ?_
        refine zk_iload_n C kd_Nm_find_60 rfl 3 rfl rfl ?_
        refine zs_callV (k := 2) (rn := { frames := 1, cells := 0, slots := 0, locals := 20 }) (As := [.int (nI k), .ref (S.1 kt), .int (nI f), .int (nI n)]) (rest := []) C (zn_isSame h kt N hk hN f n hfn k s (by have := hJ.1; omega) (hJ.2.2.2.2.1 k (by omega)).1 (hJ.2.2.2.2.1 (k + 1) (by omega)).1 (hJ.2.2.2.2.1 (k + 1) (by omega)).2 (hJ.2.2.2.2.2 k hkc)) ku_Nm_isSame kw710 kv_Nm_isSame rfl ⟨by decide, by decide⟩ ⟨by decide, by decide⟩ rfl rfl rfl (Nat.le_of_ble_eq_true rfl) kd_Nm_find_61 rfl (c1 := 0) (s1 := 0) rfl rfl (fun v w hp => ?_)
        obtain ⟨r, rfl, hr01, ew⟩ := hp
        rw [ew]
        refine zk_stk (r' := [.int r]) rfl ?_
        refine zk_if_eq (tgt := 70) C kd_Nm_find_64 (by decide) rfl (fun h_14 => ?_) (fun h_14 => ?_)
        · refine zk_aload_n C kd_Nm_find_70 rfl 0 rfl rfl ?_
          refine zs_get (v := .ref (S.1 6)) C 2 3 rfl rfl rfl rfl ki_Nm (by decide) kw94 kd_Nm_find_71 rfl ?_
          refine zk_iload C kd_Nm_find_74 4 rfl rfl ?_
          refine zs_iald C 6 rfl (vp_in_nI (by have := hJ.1; omega) (by decide)) kd_Nm_find_76 rfl ?_
          refine zk_stk (r' := [.int (h.2.1 6 k)]) (by rw [nI_clamp (by have := hJ.1; omega)]) ?_
          refine zk_istore (lv' := [(4, _), (0, _), (1, _), (2, _), (3, _), (5, _)]) C kd_Nm_find_77 (by decide) rfl rfl ?_
          refine zk_iinc (lv' := [(5, _), (4, _), (0, _), (1, _), (2, _), (3, _)]) C kd_Nm_find_79 5 rfl rfl (by decide) rfl rfl ?_
          refine zk_goto (tgt := 41) C kd_Nm_find_82 (by decide) ?_
          refine zk_lvs (lv' := [(0, .ref (S.1 2)), (1, .ref (S.1 kt)), (2, .int (nI f)), (3, .int (nI n)), (4, .int (h.2.1 6 k)), (5, .int (nI (t + 1)))]) [2, 3, 4, 5, 1, 0] (by rw [nI_succ]; rfl) ?_
          exact ih (t + 1) _ (by omega) (hJ.2.2.2.1 k hkc)
        · refine zk_iload C kd_Nm_find_67 4 rfl rfl ?_
          exact zk_iret C hR kd_Nm_find_69 rfl rfl ⟨_, rfl, Or.inr ⟨k, hkc, rfl⟩, rfl⟩
  refine zk_iload_n C kd_Nm_find_0 rfl 3 rfl rfl ?_
  refine zk_iconst (v := 1) C kd_Nm_find_1 (by decide) rfl ?_
  refine zk_icmp_lt (tgt := 23) C kd_Nm_find_2 (by decide) rfl (fun h_7 => ?_) (fun h_7 => ?_)
  · refine zk_iconst (v := (-1)) C kd_Nm_find_23 (by decide) rfl ?_
    exact zk_iret C hR kd_Nm_find_24 rfl rfl ⟨_, rfl, Or.inl rfl, rfl⟩
  · refine zk_iload_n C kd_Nm_find_5 rfl 3 rfl rfl ?_
    refine zk_bipush (v := 32) C kd_Nm_find_6 (by decide) rfl ?_
    refine zk_icmp_gt (tgt := 23) C kd_Nm_find_8 (by decide) rfl (fun h_8 => ?_) (fun h_8 => ?_)
    · refine zk_iconst (v := (-1)) C kd_Nm_find_23 (by decide) rfl ?_
      exact zk_iret C hR kd_Nm_find_24 rfl rfl ⟨_, rfl, Or.inl rfl, rfl⟩
    · refine zk_iload_n C kd_Nm_find_11 rfl 2 rfl rfl ?_
      refine zk_if_lt (tgt := 23) C kd_Nm_find_12 (by decide) rfl (fun h_9 => absurd h_9 (nI_pos (by omega))) (fun h_9 => ?_)
      refine zk_iload_n C kd_Nm_find_15 rfl 2 rfl rfl ?_
      refine zk_iload_n C kd_Nm_find_16 rfl 3 rfl rfl ?_
      refine zk_iadd C kd_Nm_find_17 rfl ?_
      refine zk_stk (r' := [.int (nI (f + n))]) (by rw [nI_add]) ?_
      refine zk_aload_n C kd_Nm_find_18 rfl 1 rfl rfl ?_
      refine zs_alen (v := (nI N)) C kt hk (by decide) rfl kd_Nm_find_19 rfl ?_
      refine zk_icmp_le (tgt := 25) C kd_Nm_find_20 (by decide) rfl (fun h_10 => ?_) (fun h_10 => ?_)
      · have hfn : f + n ≤ N := (nI_leI (by omega) (by omega)).mp h_10
        refine zk_aload_n C kd_Nm_find_25 rfl 0 rfl rfl ?_
        refine zs_get (v := .ref (S.1 7)) C 2 4 rfl rfl rfl rfl ki_Nm (by decide) kw95 kd_Nm_find_26 rfl ?_
        refine zk_aload_n C kd_Nm_find_29 rfl 1 rfl rfl ?_
        refine zk_iload_n C kd_Nm_find_30 rfl 2 rfl rfl ?_
        refine zk_iload_n C kd_Nm_find_31 rfl 3 rfl rfl ?_
        refine zk_callS (rn := { frames := 1, cells := 0, slots := 0, locals := 20 }) (As := [.ref (S.1 kt), .int (nI f), .int (nI n)]) (rest := [.ref (S.1 7)]) C (zn_headOf h kt N hk hN f n hfn) ku_Nm_headOf kw704 ks_Nm_headOf rfl ⟨by decide, by decide⟩ ⟨by decide, by decide⟩ rfl (Nat.le_of_ble_eq_true rfl) kd_Nm_find_32 rfl (c1 := 0) (s1 := 0) rfl rfl (fun v w hp => ?_)
        obtain ⟨rfl, ew⟩ := hp
        rw [ew]
        refine zk_stk (r' := [.int (zn_hd (h.2.1 kt) f n), .ref (S.1 7)]) rfl ?_
        refine zs_iald C 7 rfl (zn_hdv _ _ _) kd_Nm_find_35 rfl ?_
        refine zk_stk (r' := [.int (h.2.1 7 (zn_hd (h.2.1 kt) f n).toNatClampNeg)]) rfl ?_
        refine zk_istore (lv' := [(4, _), (0, _), (1, _), (2, _), (3, _)]) C kd_Nm_find_36 (by decide) rfl rfl ?_
        refine zk_iconst (v := 0) C kd_Nm_find_38 (by decide) rfl ?_
        refine zk_istore (lv' := [(5, _), (4, _), (0, _), (1, _), (2, _), (3, _)]) C kd_Nm_find_39 (by decide) rfl rfl ?_
        refine zk_lvs (lv' := [(0, .ref (S.1 2)), (1, .ref (S.1 kt)), (2, .int (nI f)), (3, .int (nI n)), (4, .int (h.2.1 7 (zn_hd (h.2.1 kt) f n).toNatClampNeg)), (5, .int (nI 0))]) [2, 3, 4, 5, 1, 0] rfl ?_
        obtain ⟨jh, hjh, eh⟩ := zn_hd_in (h.2.1 kt) f n
        exact loop hfn 6000 0 _ (by omega) (by rw [eh, nI_clamp (by omega)]; exact hJ.2.2.1 jh hjh)
      · refine zk_iconst (v := (-1)) C kd_Nm_find_23 (by decide) rfl ?_
        exact zk_iret C hR kd_Nm_find_24 rfl rfl ⟨_, rfl, Or.inl rfl, rfl⟩
set_option maxHeartbeats 4000000 in
set_option maxRecDepth 100000 in
theorem zn_fill {l : Launch} {D : va_G} {sz0 : Nat} {S : zs_T} {P : ze_T} (h : zs_H) (kt N : Nat) (hk : zs_sh[kt]? = some (.inl (0, N))) (hN : N < 2 ^ 30) (y : Int32) : zk_Sp (zs_G S l D sz0) (ze_E P) km_Ar_fill { frames := 0, cells := 0, slots := 0, locals := 0 } [.ref (S.1 kt), .int y] (zs_W S h) (fun v w => ∃ hh : zs_H, v = none ∧ w = zs_W S hh ∧ zn_L kt h hh ∧ ∀ j, j < N → hh.2.1 kt j = y) := by
  refine zk_met ku_Ar_fill (Nat.le_of_ble_eq_true rfl) (ze_Em P) ?_
  intro X C hR
  refine zk_lvs (lv' := [(0, .ref (S.1 kt)), (1, .int y)]) [0, 1] rfl ?_
  have loop : ∀ (m i : Nat) (hh : zs_H), i + m = N → zn_L kt h hh → (∀ j, j < i → hh.2.1 kt j = y) → zk_Ab X (zs_W S hh) 0 0 5 [(0, .ref (S.1 kt)), (1, .int y), (2, .int (nI i)), (3, .int (nI N))] [] := by
    intro m
    induction m with
    | zero =>
      intro i hh hi hL hf
      refine zk_iload_n C kd_Ar_fill_5 rfl 2 rfl rfl ?_
      refine zk_iload_n C kd_Ar_fill_6 rfl 3 rfl rfl ?_
      refine zk_icmp_ge (tgt := 20) C kd_Ar_fill_7 (by decide) rfl (fun q => ?_) (fun q => absurd (nI_le (by omega) (by omega)) q)
      exact zk_vret C hR kd_Ar_fill_20 rfl rfl ⟨hh, rfl, rfl, hL, fun j hj => hf j (by omega)⟩
    | succ m ih =>
      intro i hh hi hL hf
      refine zk_iload_n C kd_Ar_fill_5 rfl 2 rfl rfl ?_
      refine zk_iload_n C kd_Ar_fill_6 rfl 3 rfl rfl ?_
      refine zk_icmp_ge (tgt := 20) C kd_Ar_fill_7 (by decide) rfl (fun q => absurd q (nI_ge (by omega) (by omega))) (fun q => ?_)
      refine zk_aload_n C kd_Ar_fill_10 rfl 0 rfl rfl ?_
      refine zk_iload_n C kd_Ar_fill_11 rfl 2 rfl rfl ?_
      refine zk_iload_n C kd_Ar_fill_12 rfl 1 rfl rfl ?_
      refine zs_iast C kt hk (vp_in_nI (by omega) (by omega)) kd_Ar_fill_13 rfl ?_
      refine zk_iinc (lv' := [(2, _), (0, _), (1, _), (3, _)]) C kd_Ar_fill_14 2 rfl rfl (by decide) rfl rfl ?_
      refine zk_goto (tgt := 5) C kd_Ar_fill_17 (by decide) ?_
      refine zk_lvs (lv' := [(0, .ref (S.1 kt)), (1, .int y), (2, .int (nI (i + 1))), (3, .int (nI N))]) [1, 2, 0, 3] (by rw [nI_succ]; rfl) ?_
      refine ih (i + 1) _ (by omega) hL.put (fun j hj => ?_)
      rw [nI_clamp (by omega)]
      by_cases e : j = i
      · subst e; exact zs_rM
      · rw [zs_rN (fun q => e q.2)]; exact hf j (by omega)
  refine zk_iconst (v := 0) C kd_Ar_fill_0 (by decide) rfl ?_
  refine zk_istore_n (lv' := [(2, _), (0, _), (1, _)]) C kd_Ar_fill_1 rfl (by decide) rfl rfl ?_
  refine zk_aload_n C kd_Ar_fill_2 rfl 1 rfl rfl ?_
  refine zs_alen (v := nI N) C kt hk (by decide) rfl kd_Ar_fill_3 rfl ?_
  refine zk_istore_n (lv' := [(3, _), (2, _), (0, _), (1, _)]) C kd_Ar_fill_4 rfl (by decide) rfl rfl ?_
  refine zk_lvs (lv' := [(0, .ref (S.1 kt)), (1, .int y), (2, .int (nI 0)), (3, .int (nI N))]) [2, 3, 1, 0] rfl ?_
  exact loop N 0 h (by omega) zn_L.rf (fun j hj => absurd hj (Nat.not_lt_zero j))
/-- outside the cells A all is as it was -/
def zp_ag (A : Nat → Prop) (h hh : zs_H) : Prop := ∀ k, ¬ A k → hh.1 k = h.1 k ∧ hh.2.1 k = h.2.1 k ∧ hh.2.2 k = h.2.2 k
theorem zp_ag.rf {A : Nat → Prop} {h : zs_H} : zp_ag A h h := fun _ _ => ⟨rfl, rfl, rfl⟩
theorem zp_ag.tr {A : Nat → Prop} {h h1 h2 : zs_H} (a : zp_ag A h h1) (b : zp_ag A h1 h2) : zp_ag A h h2 := fun k hk => ⟨(b k hk).1.trans (a k hk).1, (b k hk).2.1.trans (a k hk).2.1, (b k hk).2.2.trans (a k hk).2.2⟩
theorem zp_ag.uF {A : Nat → Prop} {h hh : zs_H} {k j : Nat} {x : Int32} (a : zp_ag A h hh) (hk : A k) : zp_ag A h (zs_uF hh k j x) := fun q hq => ⟨by
  rw [← (a q hq).1]; funext b
  show (if q = k ∧ b = j then x else hh.1 q b) = hh.1 q b
  rw [if_neg (fun z : q = k ∧ b = j => hq (by rw [z.1]; exact hk))], (a q hq).2.1, (a q hq).2.2⟩
theorem zp_ag.uM {A : Nat → Prop} {h hh : zs_H} {k j : Nat} {x : Int32} (a : zp_ag A h hh) (hk : A k) : zp_ag A h (zs_uM hh k j x) := fun q hq => ⟨(a q hq).1, by
  rw [← (a q hq).2.1]; funext b
  show (if q = k ∧ b = j then x else hh.2.1 q b) = hh.2.1 q b
  rw [if_neg (fun z : q = k ∧ b = j => hq (by rw [z.1]; exact hk))], (a q hq).2.2⟩
theorem zn_L.ag {A : Nat → Prop} {K : Nat} {h hh : zs_H} (H : zn_L K h hh) (hK : A K) : zp_ag A h hh := fun q hq => ⟨by rw [H.1], H.2.1 q (fun e => hq (e ▸ hK)), by rw [H.2.2]⟩
/-- the cells of the names -/
def zn_A (k : Nat) : Prop := k = 2 ∨ k = 4 ∨ k = 5 ∨ k = 6 ∨ k = 7
/-- one name more -/
theorem zn_J.add {h hh : zs_H} {c n j : Nat} {s : Nat → Nat} {v6 : Int32} (hJ : zn_J h c s) (hL : zn_L 4 h hh) (hc : c < 6000) (hn : s c + n ≤ 16789) (hj : j < 1024) (h6 : v6 = -1 ∨ ∃ k, k < c ∧ v6 = nI k) : zn_J (zs_uM (zs_uF (zs_uM (zs_uM hh 6 c v6) 7 j (nI c)) 2 5 (nI (c + 1))) 5 (c + 1) (nI (s c + n))) (c + 1) (fun k => if k = c + 1 then s c + n else s k) := by
  obtain ⟨-, -, j3, j4, j5, j6⟩ := hJ
  refine ⟨hc, rfl, fun i hi => ?_, fun k hk => ?_, fun k hk => ?_, fun k hk => ?_⟩
  · rw [zs_rK (k := 5) (a := 7) (by decide)]
    show (zs_uM (zs_uM hh 6 c v6) 7 j (nI c)).2.1 7 i = -1 ∨ ∃ k, k < c + 1 ∧ (zs_uM (zs_uM hh 6 c v6) 7 j (nI c)).2.1 7 i = nI k
    by_cases e : i = j
    · subst e; exact Or.inr ⟨c, by omega, zs_rM⟩
    · rw [zs_rI e, zs_rK (k := 6) (a := 7) (by decide), hL.2.1 7 (by decide)]
      rcases j3 i hi with z | ⟨k, hk, z⟩
      · exact Or.inl z
      · exact Or.inr ⟨k, by omega, z⟩
  · rw [zs_rK (k := 5) (a := 6) (by decide)]
    show (zs_uM (zs_uM hh 6 c v6) 7 j (nI c)).2.1 6 k = -1 ∨ ∃ i, i < c + 1 ∧ (zs_uM (zs_uM hh 6 c v6) 7 j (nI c)).2.1 6 k = nI i
    rw [zs_rK (k := 7) (a := 6) (by decide)]
    by_cases e : k = c
    · subst e; rw [zs_rM]
      rcases h6 with z | ⟨i, hi, z⟩
      · exact Or.inl z
      · exact Or.inr ⟨i, by omega, z⟩
    · rw [zs_rI e, hL.2.1 6 (by decide)]
      rcases j4 k (by omega) with z | ⟨i, hi, z⟩
      · exact Or.inl z
      · exact Or.inr ⟨i, by omega, z⟩
  · dsimp only
    by_cases e : k = c + 1
    · subst e
      rw [if_pos rfl]; exact ⟨zs_rM, hn⟩
    · rw [if_neg e, zs_rI e]
      show (zs_uM (zs_uM hh 6 c v6) 7 j (nI c)).2.1 5 k = nI (s k) ∧ s k ≤ 16789
      rw [zs_rK (k := 7) (a := 5) (by decide), zs_rK (k := 6) (a := 5) (by decide), hL.2.1 5 (by decide)]
      exact j5 k (by omega)
  · dsimp only
    by_cases e : k = c
    · subst e; rw [if_neg (by omega), if_pos rfl]; omega
    · rw [if_neg (by omega), if_neg (by omega)]; exact j6 k (by omega)
set_option maxHeartbeats 4000000 in
set_option maxRecDepth 100000 in
theorem zn_numberOf {l : Launch} {D : va_G} {sz0 : Nat} {S : zs_T} {P : ze_T} (h : zs_H) (kt N : Nat) (hk : zs_sh[kt]? = some (.inl (1, N))) (hN : N < 2 ^ 30) (f n : Nat) (hf : f ≤ N) (hn : n ≤ N) (c : Nat) (s : Nat → Nat) (hJ : zn_J h c s) : zk_Sp (zs_G S l D sz0) (ze_E P) km_Nm_numberOf { frames := 3, cells := 0, slots := 0, locals := 70 } [.ref (S.1 2), .ref (S.1 kt), .int (nI f), .int (nI n)] (zs_W S h) (fun v w => ∃ (r : Int32) (h2 : zs_H) (c2 : Nat) (s2 : Nat → Nat), v = some (.int r) ∧ w = zs_W S h2 ∧ zn_J h2 c2 s2 ∧ s2 0 = s 0 ∧ zp_ag zn_A h h2) := by
  refine zk_met ku_Nm_numberOf (Nat.le_of_ble_eq_true rfl) (ze_Em P) ?_
  intro X C hR
  have hc60 := hJ.1
  have hsc := (hJ.2.2.2.2.1 c (Nat.le_refl c)).2
  refine zk_lvs (lv' := [(0, .ref (S.1 2)), (1, .ref (S.1 kt)), (2, .int (nI f)), (3, .int (nI n))]) [0, 1, 2, 3] rfl ?_
  have loop : c < 6000 → s c + n ≤ 16789 → f + n ≤ N → ∀ (m i : Nat) (hh : zs_H), i + m = n → zn_L 4 h hh → zk_Ab X (zs_W S hh) 0 0 91 [(0, .ref (S.1 2)), (1, .ref (S.1 kt)), (2, .int (nI f)), (3, .int (nI n)), (4, .int (nI c)), (6, .int (nI i))] [] := by
    intro hc6 hsn hfn m
    induction m with
    | zero =>
      intro i hh hi hL
      refine zk_iload C kd_Nm_numberOf_91 5 rfl rfl ?_
      refine zk_iload_n C kd_Nm_numberOf_93 rfl 3 rfl rfl ?_
      refine zk_icmp_ge (tgt := 128) C kd_Nm_numberOf_94 (by decide) rfl (fun h_30 => ?_) (fun h_30 => absurd (nI_le (by omega) (by omega)) h_30)
      refine zk_aload_n C kd_Nm_numberOf_128 rfl 1 rfl rfl ?_
      refine zk_iload_n C kd_Nm_numberOf_129 rfl 2 rfl rfl ?_
      refine zk_iload_n C kd_Nm_numberOf_130 rfl 3 rfl rfl ?_
      refine zk_callS (rn := { frames := 1, cells := 0, slots := 0, locals := 20 }) (As := [.ref (S.1 kt), .int (nI f), .int (nI n)]) (rest := []) C (zn_headOf hh kt N hk hN f n hfn) ku_Nm_headOf kw704 ks_Nm_headOf rfl ⟨by decide, by decide⟩ ⟨by decide, by decide⟩ rfl (Nat.le_of_ble_eq_true rfl) kd_Nm_numberOf_131 rfl (c1 := 0) (s1 := 0) rfl rfl (fun v w hp => ?_)
      obtain ⟨rfl, ew⟩ := hp
      rw [ew]
      obtain ⟨j, hj, ej⟩ := zn_hd_in (hh.2.1 kt) f n
      rw [ej]
      refine zk_stk (r' := [.int (nI j)]) rfl ?_
      refine zk_istore (lv' := [(6, _), (0, _), (1, _), (2, _), (3, _), (4, _)]) C kd_Nm_numberOf_134 (by decide) rfl rfl ?_
      refine zk_aload_n C kd_Nm_numberOf_136 rfl 1 rfl rfl ?_
      refine zs_get (v := .ref (S.1 6)) C 2 3 rfl rfl rfl rfl ki_Nm (by decide) kw94 kd_Nm_numberOf_137 rfl ?_
      refine zk_iload C kd_Nm_numberOf_140 5 rfl rfl ?_
      refine zk_aload_n C kd_Nm_numberOf_142 rfl 1 rfl rfl ?_
      refine zs_get (v := .ref (S.1 7)) C 2 4 rfl rfl rfl rfl ki_Nm (by decide) kw95 kd_Nm_numberOf_143 rfl ?_
      refine zk_iload C kd_Nm_numberOf_146 0 rfl rfl ?_
      refine zs_iald C 7 rfl (vp_in_nI hj (by decide)) kd_Nm_numberOf_148 rfl ?_
      refine zk_stk (r' := [.int (hh.2.1 7 j), .int (nI c), .ref (S.1 6)]) (by rw [nI_clamp (by omega)]) ?_
      refine zs_iast C 6 rfl (vp_in_nI (by omega) (by decide)) kd_Nm_numberOf_149 rfl ?_
      refine zk_aload_n C kd_Nm_numberOf_150 rfl 1 rfl rfl ?_
      refine zs_get (v := .ref (S.1 7)) C 2 4 rfl rfl rfl rfl ki_Nm (by decide) kw95 kd_Nm_numberOf_151 rfl ?_
      refine zk_iload C kd_Nm_numberOf_154 0 rfl rfl ?_
      refine zk_iload C kd_Nm_numberOf_156 5 rfl rfl ?_
      refine zs_iast C 7 rfl (vp_in_nI hj (by decide)) kd_Nm_numberOf_158 rfl ?_
      refine zk_aload_n C kd_Nm_numberOf_159 rfl 1 rfl rfl ?_
      refine zk_dup C kd_Nm_numberOf_160 rfl rfl ?_
      refine zs_get (v := .int (nI c)) C 2 5 rfl rfl (congrArg Value.int ((congrFun (congrFun hL.1 2) 5).trans hJ.2.1)) rfl ki_Nm (by decide) kw96 kd_Nm_numberOf_161 rfl ?_
      refine zk_iconst (v := 1) C kd_Nm_numberOf_164 (by decide) rfl ?_
      refine zk_iadd C kd_Nm_numberOf_165 rfl ?_
      refine zk_stk (r' := [.int (nI (c + 1)), .ref (S.1 2)]) (by rw [nI_1]) ?_
      refine zs_put (ty := .int) C 2 5 ((nI (c + 1))) rfl rfl rfl rfl ki_Nm ky_Nm ko_Nm kn_Nm (by decide) kw96 rfl rfl rfl rfl (by decide) kd_Nm_numberOf_166 rfl ?_
      refine zk_aload_n C kd_Nm_numberOf_169 rfl 1 rfl rfl ?_
      refine zs_get (v := .ref (S.1 5)) C 2 2 rfl rfl rfl rfl ki_Nm (by decide) kw93 kd_Nm_numberOf_170 rfl ?_
      refine zk_aload_n C kd_Nm_numberOf_173 rfl 1 rfl rfl ?_
      refine zs_get (v := .int (nI (c + 1))) C 2 5 rfl rfl rfl rfl ki_Nm (by decide) kw96 kd_Nm_numberOf_174 rfl ?_
      refine zk_aload_n C kd_Nm_numberOf_177 rfl 1 rfl rfl ?_
      refine zs_get (v := .ref (S.1 5)) C 2 2 rfl rfl rfl rfl ki_Nm (by decide) kw93 kd_Nm_numberOf_178 rfl ?_
      refine zk_iload C kd_Nm_numberOf_181 5 rfl rfl ?_
      refine zs_iald C 5 rfl (vp_in_nI (by omega) (by decide)) kd_Nm_numberOf_183 rfl ?_
      refine zk_stk (r' := [.int (nI (s c)), .int (nI (c + 1)), .ref (S.1 5)]) (by show [Value.int (hh.2.1 5 (nI c).toNatClampNeg), _, _] = _; rw [nI_clamp (by omega), hL.2.1 5 (by decide), (hJ.2.2.2.2.1 c (Nat.le_refl c)).1]) ?_
      refine zk_iload_n C kd_Nm_numberOf_184 rfl 4 rfl rfl ?_
      refine zk_iadd C kd_Nm_numberOf_185 rfl ?_
      refine zk_stk (r' := [.int (nI (s c + n)), .int (nI (c + 1)), .ref (S.1 5)]) (by rw [nI_add]) ?_
      refine zs_iast C 5 rfl (vp_in_nI (by omega) (by decide)) kd_Nm_numberOf_186 rfl ?_
      rw [nI_clamp (n := c) (by omega), nI_clamp (n := j) (by omega), nI_clamp (n := c + 1) (by omega)]
      refine zk_iload C kd_Nm_numberOf_187 5 rfl rfl ?_
      exact zk_iret C hR kd_Nm_numberOf_189 rfl rfl ⟨_, _, c + 1, _, rfl, rfl, zn_J.add hJ hL hc6 hsn hj (hL.2.1 7 (by decide) ▸ hJ.2.2.1 j hj), if_neg (by omega), ((((hL.ag (Or.inr (Or.inl rfl))).uM (Or.inr (Or.inr (Or.inr (Or.inl rfl))))).uM (Or.inr (Or.inr (Or.inr (Or.inr rfl))))).uF (Or.inl rfl)).uM (Or.inr (Or.inr (Or.inl rfl)))⟩
    | succ m ih =>
      intro i hh hi hL
      refine zk_iload C kd_Nm_numberOf_91 5 rfl rfl ?_
      refine zk_iload_n C kd_Nm_numberOf_93 rfl 3 rfl rfl ?_
      refine zk_icmp_ge (tgt := 128) C kd_Nm_numberOf_94 (by decide) rfl (fun h_29 => absurd h_29 (nI_ge (by omega) (by omega))) (fun h_29 => ?_)
      refine zk_aload_n C kd_Nm_numberOf_97 rfl 0 rfl rfl ?_
      refine zs_get (v := .ref (S.1 4)) C 2 1 rfl rfl rfl rfl ki_Nm (by decide) kw92 kd_Nm_numberOf_98 rfl ?_
      refine zk_aload_n C kd_Nm_numberOf_101 rfl 0 rfl rfl ?_
      refine zs_get (v := .ref (S.1 5)) C 2 2 rfl rfl rfl rfl ki_Nm (by decide) kw93 kd_Nm_numberOf_102 rfl ?_
      refine zk_iload C kd_Nm_numberOf_105 4 rfl rfl ?_
      refine zs_iald C 5 rfl (vp_in_nI (by omega) (by decide)) kd_Nm_numberOf_107 rfl ?_
      refine zk_stk (r' := [.int (nI (s c)), .ref (S.1 4)]) (by rw [nI_clamp (by omega), hL.2.1 5 (by decide), (hJ.2.2.2.2.1 c (Nat.le_refl c)).1]) ?_
      refine zk_iload C kd_Nm_numberOf_108 5 rfl rfl ?_
      refine zk_iadd C kd_Nm_numberOf_110 rfl ?_
      refine zk_stk (r' := [.int (nI (s c + i)), .ref (S.1 4)]) (by rw [nI_add]) ?_
      refine zk_aload_n C kd_Nm_numberOf_111 rfl 1 rfl rfl ?_
      refine zk_iload_n C kd_Nm_numberOf_112 rfl 2 rfl rfl ?_
      refine zk_iload C kd_Nm_numberOf_113 5 rfl rfl ?_
      refine zk_iadd C kd_Nm_numberOf_115 rfl ?_
      refine zk_stk (r' := [.int (nI (f + i)), .ref (S.1 kt), .int (nI (s c + i)), .ref (S.1 4)]) (by rw [nI_add]) ?_
      refine zs_bald C kt hk (vp_in_nI (by omega) (by omega)) kd_Nm_numberOf_116 rfl ?_
      refine zk_callS (rn := { frames := 0, cells := 0, slots := 0, locals := 0 }) (As := [.int (hh.2.1 kt ((nI (f + i))).toNatClampNeg)]) (rest := [.int (nI (s c + i)), .ref (S.1 4)]) C (zn_great hh (hh.2.1 kt ((nI (f + i))).toNatClampNeg)) ku_Nm_great kw707 ks_Nm_great rfl ⟨by decide, by decide⟩ ⟨by decide, by decide⟩ rfl (Nat.le_of_ble_eq_true rfl) kd_Nm_numberOf_117 rfl (c1 := 0) (s1 := 0) rfl rfl (fun v w hp => ?_)
      obtain ⟨rfl, ew⟩ := hp
      rw [ew]
      refine zk_stk (r' := [.int (zn_gr (hh.2.1 kt ((nI (f + i))).toNatClampNeg)), .int (nI (s c + i)), .ref (S.1 4)]) rfl ?_
      refine zk_i2b C kd_Nm_numberOf_120 rfl ?_
      refine zs_bast C 4 rfl (vp_in_nI (by omega) (by decide)) kd_Nm_numberOf_121 rfl ?_
      refine zk_iinc (lv' := [(6, _), (0, _), (1, _), (2, _), (3, _), (4, _)]) C kd_Nm_numberOf_122 5 rfl rfl (by decide) rfl rfl ?_
      refine zk_goto (tgt := 91) C kd_Nm_numberOf_125 (by decide) ?_
      refine zk_lvs (lv' := [(0, .ref (S.1 2)), (1, .ref (S.1 kt)), (2, .int (nI f)), (3, .int (nI n)), (4, .int (nI c)), (6, .int (nI (i + 1)))]) [1, 2, 3, 4, 5, 0] (by rw [nI_succ]; rfl) ?_
      exact ih (i + 1) _ (by omega) hL.put
  refine zk_aload_n C kd_Nm_numberOf_0 rfl 0 rfl rfl ?_
  refine zk_aload_n C kd_Nm_numberOf_1 rfl 1 rfl rfl ?_
  refine zk_iload_n C kd_Nm_numberOf_2 rfl 2 rfl rfl ?_
  refine zk_iload_n C kd_Nm_numberOf_3 rfl 3 rfl rfl ?_
  refine zs_callV (k := 2) (rn := { frames := 2, cells := 0, slots := 0, locals := 45 }) (As := [.ref (S.1 kt), .int (nI f), .int (nI n)]) (rest := []) C (zn_find h kt N hk hN f n hf hn c s hJ) ku_Nm_find kw700 kv_Nm_find rfl ⟨by decide, by decide⟩ ⟨by decide, by decide⟩ rfl rfl rfl (Nat.le_of_ble_eq_true rfl) kd_Nm_numberOf_4 rfl (c1 := 0) (s1 := 0) rfl rfl (fun v w hp => ?_)
  obtain ⟨r, rfl, hr, ew⟩ := hp
  rw [ew]
  refine zk_stk (r' := [.int r]) rfl ?_
  refine zk_istore (lv' := [(4, _), (0, _), (1, _), (2, _), (3, _)]) C kd_Nm_numberOf_7 (by decide) rfl rfl ?_
  refine zk_iload_n C kd_Nm_numberOf_9 rfl 4 rfl rfl ?_
  refine zk_iconst (v := 1) C kd_Nm_numberOf_10 (by decide) rfl ?_
  refine zk_icmp_lt (tgt := 36) C kd_Nm_numberOf_11 (by decide) rfl (fun h_15 => ?_) (fun h_15 => ?_)
  · refine zk_iconst (v := 0) C kd_Nm_numberOf_36 (by decide) rfl ?_
    refine zk_istore (lv' := [(5, _), (4, _), (0, _), (1, _), (2, _), (3, _)]) C kd_Nm_numberOf_37 (by decide) rfl rfl ?_
    refine zk_iload C kd_Nm_numberOf_39 1 rfl rfl ?_
    refine zk_iconst (v := (-1)) C kd_Nm_numberOf_41 (by decide) rfl ?_
    refine zk_icmp_ne (tgt := 79) C kd_Nm_numberOf_42 (by decide) rfl (fun h_16 => ?_) (fun h_16 => ?_)
    · refine zk_iload C kd_Nm_numberOf_79 1 rfl rfl ?_
      exact zk_iret C hR kd_Nm_numberOf_81 rfl rfl ⟨_, h, c, s, rfl, rfl, hJ, rfl, zp_ag.rf⟩
    · refine zk_iload C kd_Nm_numberOf_45 0 rfl rfl ?_
      refine zk_if_eq (tgt := 79) C kd_Nm_numberOf_47 (by decide) rfl (fun h_17 => ?_) (fun h_17 => absurd (by decide) h_17)
      refine zk_iload C kd_Nm_numberOf_79 1 rfl rfl ?_
      exact zk_iret C hR kd_Nm_numberOf_81 rfl rfl ⟨_, h, c, s, rfl, rfl, hJ, rfl, zp_ag.rf⟩
  · refine zk_iload_n C kd_Nm_numberOf_14 rfl 4 rfl rfl ?_
    refine zk_bipush (v := 32) C kd_Nm_numberOf_15 (by decide) rfl ?_
    refine zk_icmp_gt (tgt := 36) C kd_Nm_numberOf_17 (by decide) rfl (fun h_18 => ?_) (fun h_18 => ?_)
    · refine zk_iconst (v := 0) C kd_Nm_numberOf_36 (by decide) rfl ?_
      refine zk_istore (lv' := [(5, _), (4, _), (0, _), (1, _), (2, _), (3, _)]) C kd_Nm_numberOf_37 (by decide) rfl rfl ?_
      refine zk_iload C kd_Nm_numberOf_39 1 rfl rfl ?_
      refine zk_iconst (v := (-1)) C kd_Nm_numberOf_41 (by decide) rfl ?_
      refine zk_icmp_ne (tgt := 79) C kd_Nm_numberOf_42 (by decide) rfl (fun h_19 => ?_) (fun h_19 => ?_)
      · refine zk_iload C kd_Nm_numberOf_79 1 rfl rfl ?_
        exact zk_iret C hR kd_Nm_numberOf_81 rfl rfl ⟨_, h, c, s, rfl, rfl, hJ, rfl, zp_ag.rf⟩
      · refine zk_iload C kd_Nm_numberOf_45 0 rfl rfl ?_
        refine zk_if_eq (tgt := 79) C kd_Nm_numberOf_47 (by decide) rfl (fun h_20 => ?_) (fun h_20 => absurd (by decide) h_20)
        refine zk_iload C kd_Nm_numberOf_79 1 rfl rfl ?_
        exact zk_iret C hR kd_Nm_numberOf_81 rfl rfl ⟨_, h, c, s, rfl, rfl, hJ, rfl, zp_ag.rf⟩
    · refine zk_iload_n C kd_Nm_numberOf_20 rfl 3 rfl rfl ?_
      refine zk_if_lt (tgt := 36) C kd_Nm_numberOf_21 (by decide) rfl (fun h_21 => absurd h_21 (nI_pos (by omega))) (fun h_21 => ?_)
      refine zk_iload_n C kd_Nm_numberOf_24 rfl 3 rfl rfl ?_
      refine zk_iload_n C kd_Nm_numberOf_25 rfl 4 rfl rfl ?_
      refine zk_iadd C kd_Nm_numberOf_26 rfl ?_
      refine zk_stk (r' := [.int (nI (f + n))]) (by rw [nI_add]) ?_
      refine zk_aload_n C kd_Nm_numberOf_27 rfl 2 rfl rfl ?_
      refine zs_alen (v := (nI N)) C kt hk (by decide) rfl kd_Nm_numberOf_28 rfl ?_
      refine zk_icmp_gt (tgt := 36) C kd_Nm_numberOf_29 (by decide) rfl (fun h_22 => ?_) (fun h_22 => ?_)
      · refine zk_iconst (v := 0) C kd_Nm_numberOf_36 (by decide) rfl ?_
        refine zk_istore (lv' := [(5, _), (4, _), (0, _), (1, _), (2, _), (3, _)]) C kd_Nm_numberOf_37 (by decide) rfl rfl ?_
        refine zk_iload C kd_Nm_numberOf_39 1 rfl rfl ?_
        refine zk_iconst (v := (-1)) C kd_Nm_numberOf_41 (by decide) rfl ?_
        refine zk_icmp_ne (tgt := 79) C kd_Nm_numberOf_42 (by decide) rfl (fun h_23 => ?_) (fun h_23 => ?_)
        · refine zk_iload C kd_Nm_numberOf_79 1 rfl rfl ?_
          exact zk_iret C hR kd_Nm_numberOf_81 rfl rfl ⟨_, h, c, s, rfl, rfl, hJ, rfl, zp_ag.rf⟩
        · refine zk_iload C kd_Nm_numberOf_45 0 rfl rfl ?_
          refine zk_if_eq (tgt := 79) C kd_Nm_numberOf_47 (by decide) rfl (fun h_24 => ?_) (fun h_24 => absurd (by decide) h_24)
          refine zk_iload C kd_Nm_numberOf_79 1 rfl rfl ?_
          exact zk_iret C hR kd_Nm_numberOf_81 rfl rfl ⟨_, h, c, s, rfl, rfl, hJ, rfl, zp_ag.rf⟩
      · refine zk_iconst (v := 1) C kd_Nm_numberOf_32 (by decide) rfl ?_
        refine zk_goto (tgt := 37) C kd_Nm_numberOf_33 (by decide) ?_
        refine zk_istore (lv' := [(5, _), (4, _), (0, _), (1, _), (2, _), (3, _)]) C kd_Nm_numberOf_37 (by decide) rfl rfl ?_
        refine zk_iload C kd_Nm_numberOf_39 1 rfl rfl ?_
        refine zk_iconst (v := (-1)) C kd_Nm_numberOf_41 (by decide) rfl ?_
        refine zk_icmp_ne (tgt := 79) C kd_Nm_numberOf_42 (by decide) rfl (fun h_25 => ?_) (fun h_25 => ?_)
        · refine zk_iload C kd_Nm_numberOf_79 1 rfl rfl ?_
          exact zk_iret C hR kd_Nm_numberOf_81 rfl rfl ⟨_, h, c, s, rfl, rfl, hJ, rfl, zp_ag.rf⟩
        · refine zk_iload C kd_Nm_numberOf_45 0 rfl rfl ?_
          refine zk_if_eq (tgt := 79) C kd_Nm_numberOf_47 (by decide) rfl (fun h_26 => absurd h_26 (by decide)) (fun h_26 => ?_)
          refine zk_aload_n C kd_Nm_numberOf_50 rfl 2 rfl rfl ?_
          refine zs_get (v := .int (nI c)) C 2 5 rfl rfl (congrArg Value.int hJ.2.1) rfl ki_Nm (by decide) kw96 kd_Nm_numberOf_51 rfl ?_
          refine zk_sipush (v := 6000) C kd_Nm_numberOf_54 (by decide) rfl ?_
          refine zk_icmp_ge (tgt := 79) C kd_Nm_numberOf_57 (by decide) rfl (fun h_27 => ?_) (fun h_27 => ?_)
          · refine zk_iload C kd_Nm_numberOf_79 1 rfl rfl ?_
            exact zk_iret C hR kd_Nm_numberOf_81 rfl rfl ⟨_, h, c, s, rfl, rfl, hJ, rfl, zp_ag.rf⟩
          · have hc6 : c < 6000 := Nat.lt_of_not_le (fun q => h_27 (nI_le (a := 6000) q (by omega)))
            refine zk_aload_n C kd_Nm_numberOf_60 rfl 2 rfl rfl ?_
            refine zs_get (v := .ref (S.1 5)) C 2 2 rfl rfl rfl rfl ki_Nm (by decide) kw93 kd_Nm_numberOf_61 rfl ?_
            refine zk_aload_n C kd_Nm_numberOf_64 rfl 2 rfl rfl ?_
            refine zs_get (v := .int (nI c)) C 2 5 rfl rfl (congrArg Value.int hJ.2.1) rfl ki_Nm (by decide) kw96 kd_Nm_numberOf_65 rfl ?_
            refine zs_iald C 5 rfl (vp_in_nI (by omega) (by decide)) kd_Nm_numberOf_68 rfl ?_
            refine zk_stk (r' := [.int (nI (s c))]) (by rw [nI_clamp (by omega), (hJ.2.2.2.2.1 c (Nat.le_refl c)).1]) ?_
            refine zk_iload_n C kd_Nm_numberOf_69 rfl 5 rfl rfl ?_
            refine zk_iadd C kd_Nm_numberOf_70 rfl ?_
            refine zk_stk (r' := [.int (nI (s c + n))]) (by rw [nI_add]) ?_
            refine zk_aload_n C kd_Nm_numberOf_71 rfl 2 rfl rfl ?_
            refine zs_get (v := .ref (S.1 4)) C 2 1 rfl rfl rfl rfl ki_Nm (by decide) kw92 kd_Nm_numberOf_72 rfl ?_
            refine zs_alen (v := 16789) C 4 rfl (by decide) rfl kd_Nm_numberOf_75 rfl ?_
            refine zk_icmp_le (tgt := 82) C kd_Nm_numberOf_76 (by decide) rfl (fun h_28 => ?_) (fun h_28 => ?_)
            · have hsn : s c + n ≤ 16789 := (nI_leI (b := 16789) (by omega) (by decide)).mp h_28
              have hfn : f + n ≤ N := Nat.le_of_not_lt (fun q => h_22 (nI_lt q (by omega)))
              refine zk_aload_n C kd_Nm_numberOf_82 rfl 2 rfl rfl ?_
              refine zs_get (v := .int (nI c)) C 2 5 rfl rfl (congrArg Value.int hJ.2.1) rfl ki_Nm (by decide) kw96 kd_Nm_numberOf_83 rfl ?_
              refine zk_istore (lv' := [(4, _), (5, _), (0, _), (1, _), (2, _), (3, _)]) C kd_Nm_numberOf_86 (by decide) rfl rfl ?_
              refine zk_iconst (v := 0) C kd_Nm_numberOf_88 (by decide) rfl ?_
              refine zk_istore (lv' := [(6, _), (4, _), (5, _), (0, _), (1, _), (2, _), (3, _)]) C kd_Nm_numberOf_89 (by decide) rfl rfl ?_
              refine zk_lvs (lv' := [(0, .ref (S.1 2)), (1, .ref (S.1 kt)), (2, .int (nI f)), (3, .int (nI n)), (4, .int (nI c)), (6, .int (nI 0))]) [3, 4, 5, 6, 1, 0] rfl ?_
              exact loop hc6 hsn hfn n 0 h (by omega) zn_L.rf
            · refine zk_iload C kd_Nm_numberOf_79 1 rfl rfl ?_
              exact zk_iret C hR kd_Nm_numberOf_81 rfl rfl ⟨_, h, c, s, rfl, rfl, hJ, rfl, zp_ag.rf⟩
set_option maxHeartbeats 4000000 in
set_option maxRecDepth 100000 in
theorem zn_forget {l : Launch} {D : va_G} {sz0 : Nat} {S : zs_T} {P : ze_T} (h : zs_H) (s0 : Nat) (e0 : h.2.1 5 0 = nI s0) (hs0 : s0 ≤ 16789) : zk_Sp (zs_G S l D sz0) (ze_E P) km_Nm_forget { frames := 4, cells := 0, slots := 0, locals := 96 } [.ref (S.1 2)] (zs_W S h) (fun v w => ∃ (h2 : zs_H) (c2 : Nat) (s2 : Nat → Nat), v = none ∧ w = zs_W S h2 ∧ zn_J h2 c2 s2 ∧ s2 0 = s0 ∧ zp_ag zn_A h h2) := by
  refine zk_met ku_Nm_forget (Nat.le_of_ble_eq_true rfl) (ze_Em P) ?_
  intro X C hR
  refine zk_lvs (lv' := [(0, .ref (S.1 2))]) [0] rfl ?_
  have loop : ∀ (m i f : Nat) (hh : zs_H) (c : Nat) (s : Nat → Nat), i + m = 405 → f ≤ i → zn_J hh c s → s 0 = s0 → zp_ag zn_A h hh → zk_Ab X (zs_W S hh) 0 0 17 [(0, .ref (S.1 2)), (1, .int (nI f)), (2, .int (nI i))] [] := by
    intro m
    induction m with
    | zero =>
      intro i f hh c s hi hfi hJ hs ha
      refine zk_iload_n C kd_Nm_forget_17 rfl 2 rfl rfl ?_
      refine zk_aload_n C kd_Nm_forget_18 rfl 0 rfl rfl ?_
      refine zs_get (v := .ref (S.1 3)) C 2 0 rfl rfl rfl rfl ki_Nm (by decide) kw91 kd_Nm_forget_19 rfl ?_
      refine zs_alen (v := 405) C 3 rfl (by decide) rfl kd_Nm_forget_22 rfl ?_
      refine zk_icmp_ge (tgt := 60) C kd_Nm_forget_23 (by decide) rfl (fun h_33 => ?_) (fun h_33 => absurd (nI_le (a := 405) (by omega) (by omega)) h_33)
      exact zk_vret C hR kd_Nm_forget_60 rfl rfl ⟨hh, c, s, rfl, rfl, hJ, hs, ha⟩
    | succ m ih =>
      intro i f hh c s hi hfi hJ hs ha
      refine zk_iload_n C kd_Nm_forget_17 rfl 2 rfl rfl ?_
      refine zk_aload_n C kd_Nm_forget_18 rfl 0 rfl rfl ?_
      refine zs_get (v := .ref (S.1 3)) C 2 0 rfl rfl rfl rfl ki_Nm (by decide) kw91 kd_Nm_forget_19 rfl ?_
      refine zs_alen (v := 405) C 3 rfl (by decide) rfl kd_Nm_forget_22 rfl ?_
      refine zk_icmp_ge (tgt := 60) C kd_Nm_forget_23 (by decide) rfl (fun h_31 => absurd h_31 (nI_ge (a := i) (b := 405) (by omega) (by decide))) (fun h_31 => ?_)
      refine zk_aload_n C kd_Nm_forget_26 rfl 0 rfl rfl ?_
      refine zs_get (v := .ref (S.1 3)) C 2 0 rfl rfl rfl rfl ki_Nm (by decide) kw91 kd_Nm_forget_27 rfl ?_
      refine zk_iload_n C kd_Nm_forget_30 rfl 2 rfl rfl ?_
      refine zs_bald C 3 rfl (vp_in_nI (by omega) (by decide)) kd_Nm_forget_31 rfl ?_
      refine zk_bipush (v := 32) C kd_Nm_forget_32 (by decide) rfl ?_
      refine zk_icmp_ne (tgt := 54) C kd_Nm_forget_34 (by decide) rfl (fun h_32 => ?_) (fun h_32 => ?_)
      · refine zk_iinc (lv' := [(2, _), (0, _), (1, _)]) C kd_Nm_forget_54 2 rfl rfl (by decide) rfl rfl ?_
        refine zk_goto (tgt := 17) C kd_Nm_forget_57 (by decide) ?_
        refine zk_lvs (lv' := [(0, .ref (S.1 2)), (1, .int (nI f)), (2, .int (nI (i + 1)))]) [1, 2, 0] (by rw [nI_succ]; rfl) ?_
        exact ih (i + 1) f hh c s (by omega) (by omega) hJ hs ha
      · refine zk_aload_n C kd_Nm_forget_37 rfl 0 rfl rfl ?_
        refine zk_aload_n C kd_Nm_forget_38 rfl 0 rfl rfl ?_
        refine zs_get (v := .ref (S.1 3)) C 2 0 rfl rfl rfl rfl ki_Nm (by decide) kw91 kd_Nm_forget_39 rfl ?_
        refine zk_iload_n C kd_Nm_forget_42 rfl 1 rfl rfl ?_
        refine zk_iload_n C kd_Nm_forget_43 rfl 2 rfl rfl ?_
        refine zk_iload_n C kd_Nm_forget_44 rfl 1 rfl rfl ?_
        refine zk_isub C kd_Nm_forget_45 rfl ?_
        refine zk_stk (r' := [.int (nI (i - f)), .int (nI f), .ref (S.1 3), .ref (S.1 2)]) (by rw [pk_sub (by omega)]) ?_
        refine zs_callV (k := 2) (rn := { frames := 3, cells := 0, slots := 0, locals := 70 }) (As := [.ref (S.1 3), .int (nI f), .int (nI (i - f))]) (rest := []) C (zn_numberOf hh 3 405 rfl (by decide) f (i - f) (by omega) (by omega) c s hJ) ku_Nm_numberOf kw696 kv_Nm_numberOf rfl ⟨by decide, by decide⟩ ⟨by decide, by decide⟩ rfl rfl rfl (Nat.le_of_ble_eq_true rfl) kd_Nm_forget_46 rfl (c1 := 0) (s1 := 0) rfl rfl (fun v w hp => ?_)
        obtain ⟨r, h2, c2, s2, rfl, rfl, hJ2, hs2, ha2⟩ := hp
        refine zk_stk (r' := [.int r]) rfl ?_
        refine zk_pop C kd_Nm_forget_49 rfl rfl ?_
        refine zk_iload_n C kd_Nm_forget_50 rfl 2 rfl rfl ?_
        refine zk_iconst (v := 1) C kd_Nm_forget_51 (by decide) rfl ?_
        refine zk_iadd C kd_Nm_forget_52 rfl ?_
        refine zk_stk (r' := [.int (nI (i + 1))]) (by rw [nI_1]) ?_
        refine zk_istore_n (lv' := [(1, _), (0, _), (2, _)]) C kd_Nm_forget_53 rfl (by decide) rfl rfl ?_
        refine zk_iinc (lv' := [(2, _), (1, _), (0, _)]) C kd_Nm_forget_54 2 rfl rfl (by decide) rfl rfl ?_
        refine zk_goto (tgt := 17) C kd_Nm_forget_57 (by decide) ?_
        refine zk_lvs (lv' := [(0, .ref (S.1 2)), (1, .int (nI (i + 1))), (2, .int (nI (i + 1)))]) [2, 1, 0] (by rw [nI_succ]; rfl) ?_
        exact ih (i + 1) (i + 1) h2 c2 s2 (by omega) (by omega) hJ2 (hs2.trans hs) (ha.tr ha2)
  refine zk_aload_n C kd_Nm_forget_0 rfl 0 rfl rfl ?_
  refine zs_get (v := .ref (S.1 7)) C 2 4 rfl rfl rfl rfl ki_Nm (by decide) kw95 kd_Nm_forget_1 rfl ?_
  refine zk_iconst (v := (-1)) C kd_Nm_forget_4 (by decide) rfl ?_
  refine zk_callS (rn := { frames := 0, cells := 0, slots := 0, locals := 0 }) (As := [.ref (S.1 7), .int (-1)]) (rest := []) C (zn_fill h 7 1024 rfl (by decide) (-1)) ku_Ar_fill kw693 ks_Ar_fill rfl ⟨by decide, by decide⟩ ⟨by decide, by decide⟩ rfl (Nat.le_of_ble_eq_true rfl) kd_Nm_forget_5 rfl (c1 := 0) (s1 := 0) rfl rfl (fun v w hp => ?_)
  obtain ⟨hh, rfl, rfl, hL, hall⟩ := hp
  refine zk_stk (r' := []) rfl ?_
  refine zk_aload_n C kd_Nm_forget_8 rfl 0 rfl rfl ?_
  refine zk_iconst (v := 0) C kd_Nm_forget_9 (by decide) rfl ?_
  refine zs_put (ty := .int) C 2 5 0 rfl rfl rfl rfl ki_Nm ky_Nm ko_Nm kn_Nm (by decide) kw96 rfl rfl rfl rfl (by decide) kd_Nm_forget_10 rfl ?_
  refine zk_iconst (v := 0) C kd_Nm_forget_13 (by decide) rfl ?_
  refine zk_istore_n (lv' := [(1, _), (0, _)]) C kd_Nm_forget_14 rfl (by decide) rfl rfl ?_
  refine zk_iconst (v := 0) C kd_Nm_forget_15 (by decide) rfl ?_
  refine zk_istore_n (lv' := [(2, _), (1, _), (0, _)]) C kd_Nm_forget_16 rfl (by decide) rfl rfl ?_
  refine zk_lvs (lv' := [(0, .ref (S.1 2)), (1, .int (nI 0)), (2, .int (nI 0))]) [2, 1, 0] rfl ?_
  exact loop 405 0 0 _ 0 (fun _ => s0) (by omega) (by omega) ⟨by decide, rfl, fun j hj => Or.inl (hall j hj), fun k hk => absurd hk (Nat.not_lt_zero k), fun k hk => by rw [show k = 0 by omega]; exact ⟨(congrFun (hL.2.1 5 (by decide)) 0).trans e0, hs0⟩, fun k hk => absurd hk (Nat.not_lt_zero k)⟩ rfl ((hL.ag (A := zn_A) (Or.inr (Or.inr (Or.inr (Or.inr rfl))))).uF (Or.inl rfl))
