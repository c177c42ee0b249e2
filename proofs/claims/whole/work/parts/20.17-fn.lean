theorem kw760 : Jvm.Cond.static ({ cls := "java/lang/Math", name := "min", desc := "(JJ)J" } : Jvm.MethodName) ∈ zk_BW := zk_inT 760 (by decide +kernel) rfl
theorem kw1428 : Jvm.Cond.static ({ cls := "java/lang/Math", name := "max", desc := "(JJ)J" } : Jvm.MethodName) ∈ zk_BW := zk_inT 1428 (by decide +kernel) rfl
theorem kw2518 : Jvm.Cond.instanceMethod ({ cls := "PlantKeeperModel", name := "generate", desc := "()Z" } : Jvm.MethodName) ∈ zk_BW := zk_inT 2518 (by decide +kernel) rfl
theorem kw2519 : Jvm.Cond.code ({ cls := "PlantKeeperModel", name := "generate", desc := "()Z" } : Jvm.MethodName) prog_14_method_112_code (3 : Nat) (Option.some FieldType.boolean) ∈ zk_BW := zk_inT 2519 (by decide +kernel) rfl
theorem kw2520 : Jvm.Cond.methodLink "PlantKeeperModel" (661 : Nat) ({ cls := "PlantKeeperModel", name := "beginFunction", desc := "(I)V" } : Jvm.MethodName) ∈ zk_BW := zk_inT 2520 (by decide +kernel) rfl
theorem kw2620 : Jvm.Cond.methodLink "PlantKeeperModel" (667 : Nat) ({ cls := "PlantKeeperModel", name := "ladderCode", desc := "(I)V" } : Jvm.MethodName) ∈ zk_BW := zk_inT 2620 (by decide +kernel) rfl
theorem kw2622 : Jvm.Cond.instanceMethod ({ cls := "PlantKeeperModel", name := "ladderCode", desc := "(I)V" } : Jvm.MethodName) ∈ zk_BW := zk_inT 2622 (by decide +kernel) rfl
theorem kw2623 : Jvm.Cond.code ({ cls := "PlantKeeperModel", name := "ladderCode", desc := "(I)V" } : Jvm.MethodName) prog_14_method_132_code (3 : Nat) (Option.none : Option FieldType) ∈ zk_BW := zk_inT 2623 (by decide +kernel) rfl
theorem kw2624 : Jvm.Cond.methodLink "PlantKeeperModel" (741 : Nat) ({ cls := "PlantKeeperModel", name := "rungCode", desc := "(I)V" } : Jvm.MethodName) ∈ zk_BW := zk_inT 2624 (by decide +kernel) rfl
theorem kw2626 : Jvm.Cond.instanceMethod ({ cls := "PlantKeeperModel", name := "rungCode", desc := "(I)V" } : Jvm.MethodName) ∈ zk_BW := zk_inT 2626 (by decide +kernel) rfl
theorem kw2627 : Jvm.Cond.code ({ cls := "PlantKeeperModel", name := "rungCode", desc := "(I)V" } : Jvm.MethodName) prog_14_method_138_code (7 : Nat) (Option.none : Option FieldType) ∈ zk_BW := zk_inT 2627 (by decide +kernel) rfl
theorem kw2632 : Jvm.Cond.methodLink "PlantKeeperModel" (753 : Nat) ({ cls := "PlantKeeperModel", name := "cellOf", desc := "(II)I" } : Jvm.MethodName) ∈ zk_BW := zk_inT 2632 (by decide +kernel) rfl
theorem kw2644 : Jvm.Cond.methodLink "PlantKeeperModel" (756 : Nat) ({ cls := "PlantKeeperModel", name := "groupCode", desc := "(IIII)V" } : Jvm.MethodName) ∈ zk_BW := zk_inT 2644 (by decide +kernel) rfl
theorem kw2646 : Jvm.Cond.instanceMethod ({ cls := "PlantKeeperModel", name := "groupCode", desc := "(IIII)V" } : Jvm.MethodName) ∈ zk_BW := zk_inT 2646 (by decide +kernel) rfl
theorem kw2647 : Jvm.Cond.code ({ cls := "PlantKeeperModel", name := "groupCode", desc := "(IIII)V" } : Jvm.MethodName) prog_14_method_139_code (9 : Nat) (Option.none : Option FieldType) ∈ zk_BW := zk_inT 2647 (by decide +kernel) rfl
theorem kw2648 : Jvm.Cond.methodLink "PlantKeeperModel" (759 : Nat) ({ cls := "PlantKeeperModel", name := "powerCell", desc := "(III)I" } : Jvm.MethodName) ∈ zk_BW := zk_inT 2648 (by decide +kernel) rfl
theorem kw2652 : Jvm.Cond.methodLink "PlantKeeperModel" (765 : Nat) ({ cls := "PlantKeeperModel", name := "contactCode", desc := "(I)V" } : Jvm.MethodName) ∈ zk_BW := zk_inT 2652 (by decide +kernel) rfl
theorem kw2656 : Jvm.Cond.methodLink "PlantKeeperModel" (762 : Nat) ({ cls := "PlantKeeperModel", name := "coilCode", desc := "(II)V" } : Jvm.MethodName) ∈ zk_BW := zk_inT 2656 (by decide +kernel) rfl
theorem kw2658 : Jvm.Cond.instanceMethod ({ cls := "PlantKeeperModel", name := "coilCode", desc := "(II)V" } : Jvm.MethodName) ∈ zk_BW := zk_inT 2658 (by decide +kernel) rfl
theorem kw2659 : Jvm.Cond.code ({ cls := "PlantKeeperModel", name := "coilCode", desc := "(II)V" } : Jvm.MethodName) prog_14_method_141_code (6 : Nat) (Option.none : Option FieldType) ∈ zk_BW := zk_inT 2659 (by decide +kernel) rfl
theorem kw2662 : Jvm.Cond.instanceMethod ({ cls := "PlantKeeperModel", name := "refuse", desc := "(II)V" } : Jvm.MethodName) ∈ zk_BW := zk_inT 2662 (by decide +kernel) rfl
theorem kw2663 : Jvm.Cond.code ({ cls := "PlantKeeperModel", name := "refuse", desc := "(II)V" } : Jvm.MethodName) prog_14_method_166_code (3 : Nat) (Option.none : Option FieldType) ∈ zk_BW := zk_inT 2663 (by decide +kernel) rfl
theorem kw2666 : Jvm.Cond.instanceMethod ({ cls := "PlantKeeperModel", name := "isDeep", desc := "(I)Z" } : Jvm.MethodName) ∈ zk_BW := zk_inT 2666 (by decide +kernel) rfl
theorem kw2667 : Jvm.Cond.code ({ cls := "PlantKeeperModel", name := "isDeep", desc := "(I)Z" } : Jvm.MethodName) prog_14_method_144_code (7 : Nat) (Option.some FieldType.boolean) ∈ zk_BW := zk_inT 2667 (by decide +kernel) rfl
theorem kw2674 : Jvm.Cond.fieldLink "PlantKeeperModel" (774 : Nat) "PlantKeeperModel" "LEFT" "[I" ∈ zk_BW := zk_inT 2674 (by decide +kernel) rfl
theorem kw2676 : Jvm.Cond.methodLink "PlantKeeperModel" (777 : Nat) ({ cls := "PlantKeeperModel", name := "target", desc := "(II)I" } : Jvm.MethodName) ∈ zk_BW := zk_inT 2676 (by decide +kernel) rfl
theorem kw2678 : Jvm.Cond.instanceMethod ({ cls := "PlantKeeperModel", name := "target", desc := "(II)I" } : Jvm.MethodName) ∈ zk_BW := zk_inT 2678 (by decide +kernel) rfl
theorem kw2679 : Jvm.Cond.code ({ cls := "PlantKeeperModel", name := "target", desc := "(II)I" } : Jvm.MethodName) prog_14_method_143_code (4 : Nat) (Option.some FieldType.int) ∈ zk_BW := zk_inT 2679 (by decide +kernel) rfl
theorem kw2690 : Jvm.Cond.instanceMethod ({ cls := "PlantKeeperModel", name := "greatestFrom", desc := "(IIII)J" } : Jvm.MethodName) ∈ zk_BW := zk_inT 2690 (by decide +kernel) rfl
theorem kw2691 : Jvm.Cond.code ({ cls := "PlantKeeperModel", name := "greatestFrom", desc := "(IIII)J" } : Jvm.MethodName) prog_14_method_148_code (15 : Nat) (Option.some FieldType.long) ∈ zk_BW := zk_inT 2691 (by decide +kernel) rfl
theorem kw2692 : Jvm.Cond.methodLink "PlantKeeperModel" (795 : Nat) ({ cls := "PlantKeeperModel", name := "more", desc := "(JJ)J" } : Jvm.MethodName) ∈ zk_BW := zk_inT 2692 (by decide +kernel) rfl
theorem kw2693 : Jvm.Cond.static ({ cls := "PlantKeeperModel", name := "more", desc := "(JJ)J" } : Jvm.MethodName) ∈ zk_BW := zk_inT 2693 (by decide +kernel) rfl
theorem kw2694 : Jvm.Cond.code ({ cls := "PlantKeeperModel", name := "more", desc := "(JJ)J" } : Jvm.MethodName) prog_14_method_146_code (4 : Nat) (Option.some FieldType.long) ∈ zk_BW := zk_inT 2694 (by decide +kernel) rfl
theorem kw2695 : Jvm.Cond.constantLong "PlantKeeperModel" (784 : Nat) (1000000000000 : Int64) ∈ zk_BW := zk_inT 2695 (by decide +kernel) rfl
theorem kw2696 : Jvm.Cond.methodLink "PlantKeeperModel" (786 : Nat) ({ cls := "java/lang/Math", name := "min", desc := "(JJ)J" } : Jvm.MethodName) ∈ zk_BW := zk_inT 2696 (by decide +kernel) rfl
theorem kw2697 : Jvm.Cond.methodLink "PlantKeeperModel" (798 : Nat) ({ cls := "java/lang/Math", name := "max", desc := "(JJ)J" } : Jvm.MethodName) ∈ zk_BW := zk_inT 2697 (by decide +kernel) rfl
abbrev kc_Mo_coilCode : ByteArray := prog_14_method_141_code
def km_Mo_coilCode : zk_MT := (⟨"PlantKeeperModel", "coilCode", "(II)V"⟩, kc_Mo_coilCode, 6, none, 2)
theorem ku_Mo_coilCode : zk_My km_Mo_coilCode := ⟨kw2659, kw17, by decide, by decide, by decide, by decide +kernel⟩
theorem kv_Mo_coilCode : zk_Mv km_Mo_coilCode := ⟨kw2658, zk_inS 278 (q := (⟨"PlantKeeperModel", "coilCode", "(II)V"⟩, 96)) (by decide +kernel)⟩
abbrev kc_Mo_generate : ByteArray := prog_14_method_112_code
def km_Mo_generate : zk_MT := (⟨"PlantKeeperModel", "generate", "()Z"⟩, kc_Mo_generate, 3, some .boolean, 0)
theorem ku_Mo_generate : zk_My km_Mo_generate := ⟨kw2519, kw17, by decide, by decide, by decide, by decide +kernel⟩
theorem kv_Mo_generate : zk_Mv km_Mo_generate := ⟨kw2518, zk_inS 246 (q := (⟨"PlantKeeperModel", "generate", "()Z"⟩, 96)) (by decide +kernel)⟩
abbrev kc_Mo_greatestFrom : ByteArray := prog_14_method_148_code
def km_Mo_greatestFrom : zk_MT := (⟨"PlantKeeperModel", "greatestFrom", "(IIII)J"⟩, kc_Mo_greatestFrom, 15, some .long, 4)
theorem ku_Mo_greatestFrom : zk_My km_Mo_greatestFrom := ⟨kw2691, kw17, by decide, by decide, by decide, by decide +kernel⟩
theorem kv_Mo_greatestFrom : zk_Mv km_Mo_greatestFrom := ⟨kw2690, zk_inS 285 (q := (⟨"PlantKeeperModel", "greatestFrom", "(IIII)J"⟩, 96)) (by decide +kernel)⟩
abbrev kc_Mo_groupCode : ByteArray := prog_14_method_139_code
def km_Mo_groupCode : zk_MT := (⟨"PlantKeeperModel", "groupCode", "(IIII)V"⟩, kc_Mo_groupCode, 9, none, 4)
theorem ku_Mo_groupCode : zk_My km_Mo_groupCode := ⟨kw2647, kw17, by decide, by decide, by decide, by decide +kernel⟩
theorem kv_Mo_groupCode : zk_Mv km_Mo_groupCode := ⟨kw2646, zk_inS 275 (q := (⟨"PlantKeeperModel", "groupCode", "(IIII)V"⟩, 96)) (by decide +kernel)⟩
abbrev kc_Mo_isDeep : ByteArray := prog_14_method_144_code
def km_Mo_isDeep : zk_MT := (⟨"PlantKeeperModel", "isDeep", "(I)Z"⟩, kc_Mo_isDeep, 7, some .boolean, 1)
theorem ku_Mo_isDeep : zk_My km_Mo_isDeep := ⟨kw2667, kw17, by decide, by decide, by decide, by decide +kernel⟩
theorem kv_Mo_isDeep : zk_Mv km_Mo_isDeep := ⟨kw2666, zk_inS 280 (q := (⟨"PlantKeeperModel", "isDeep", "(I)Z"⟩, 96)) (by decide +kernel)⟩
abbrev kc_Mo_ladderCode : ByteArray := prog_14_method_132_code
def km_Mo_ladderCode : zk_MT := (⟨"PlantKeeperModel", "ladderCode", "(I)V"⟩, kc_Mo_ladderCode, 3, none, 1)
theorem ku_Mo_ladderCode : zk_My km_Mo_ladderCode := ⟨kw2623, kw17, by decide, by decide, by decide, by decide +kernel⟩
theorem kv_Mo_ladderCode : zk_Mv km_Mo_ladderCode := ⟨kw2622, zk_inS 269 (q := (⟨"PlantKeeperModel", "ladderCode", "(I)V"⟩, 96)) (by decide +kernel)⟩
abbrev kc_Mo_more : ByteArray := prog_14_method_146_code
def km_Mo_more : zk_MT := (⟨"PlantKeeperModel", "more", "(JJ)J"⟩, kc_Mo_more, 4, some .long, 2)
theorem ku_Mo_more : zk_My km_Mo_more := ⟨kw2694, kw17, by decide, by decide, by decide, by decide +kernel⟩
theorem ks_Mo_more : Cond.static km_Mo_more.1 ∈ zk_BW := kw2693
abbrev kc_Mo_refuse : ByteArray := prog_14_method_166_code
def km_Mo_refuse : zk_MT := (⟨"PlantKeeperModel", "refuse", "(II)V"⟩, kc_Mo_refuse, 3, none, 2)
theorem ku_Mo_refuse : zk_My km_Mo_refuse := ⟨kw2663, kw17, by decide, by decide, by decide, by decide +kernel⟩
theorem kv_Mo_refuse : zk_Mv km_Mo_refuse := ⟨kw2662, zk_inS 279 (q := (⟨"PlantKeeperModel", "refuse", "(II)V"⟩, 96)) (by decide +kernel)⟩
abbrev kc_Mo_rungCode : ByteArray := prog_14_method_138_code
def km_Mo_rungCode : zk_MT := (⟨"PlantKeeperModel", "rungCode", "(I)V"⟩, kc_Mo_rungCode, 7, none, 1)
theorem ku_Mo_rungCode : zk_My km_Mo_rungCode := ⟨kw2627, kw17, by decide, by decide, by decide, by decide +kernel⟩
theorem kv_Mo_rungCode : zk_Mv km_Mo_rungCode := ⟨kw2626, zk_inS 270 (q := (⟨"PlantKeeperModel", "rungCode", "(I)V"⟩, 96)) (by decide +kernel)⟩
abbrev kc_Mo_target : ByteArray := prog_14_method_143_code
def km_Mo_target : zk_MT := (⟨"PlantKeeperModel", "target", "(II)I"⟩, kc_Mo_target, 4, some .int, 2)
theorem ku_Mo_target : zk_My km_Mo_target := ⟨kw2679, kw17, by decide, by decide, by decide, by decide +kernel⟩
theorem kv_Mo_target : zk_Mv km_Mo_target := ⟨kw2678, zk_inS 282 (q := (⟨"PlantKeeperModel", "target", "(II)I"⟩, 96)) (by decide +kernel)⟩
theorem kd_Mo_coilCode_0 : decode kc_Mo_coilCode 0 = .ok (.aload_n 0, 1) := by decide +kernel
theorem kd_Mo_coilCode_1 : decode kc_Mo_coilCode 1 = .ok (.getfield 109, 3) := by decide +kernel
theorem kd_Mo_coilCode_4 : decode kc_Mo_coilCode 4 = .ok (.aload_n 0, 1) := by decide +kernel
theorem kd_Mo_coilCode_5 : decode kc_Mo_coilCode 5 = .ok (.getfield 34, 3) := by decide +kernel
theorem kd_Mo_coilCode_8 : decode kc_Mo_coilCode 8 = .ok (.iload_n 1, 1) := by decide +kernel
theorem kd_Mo_coilCode_9 : decode kc_Mo_coilCode 9 = .ok (.iaload, 1) := by decide +kernel
theorem kd_Mo_coilCode_10 : decode kc_Mo_coilCode 10 = .ok (.iaload, 1) := by decide +kernel
theorem kd_Mo_coilCode_11 : decode kc_Mo_coilCode 11 = .ok (.istore_n 3, 1) := by decide +kernel
theorem kd_Mo_coilCode_12 : decode kc_Mo_coilCode 12 = .ok (.aload_n 0, 1) := by decide +kernel
theorem kd_Mo_coilCode_13 : decode kc_Mo_coilCode 13 = .ok (.getfield 28, 3) := by decide +kernel
theorem kd_Mo_coilCode_16 : decode kc_Mo_coilCode 16 = .ok (.iload_n 1, 1) := by decide +kernel
theorem kd_Mo_coilCode_17 : decode kc_Mo_coilCode 17 = .ok (.iaload, 1) := by decide +kernel
theorem kd_Mo_coilCode_18 : decode kc_Mo_coilCode 18 = .ok (.istore 4, 2) := by decide +kernel
theorem kd_Mo_coilCode_20 : decode kc_Mo_coilCode 20 = .ok (.iconst 0, 1) := by decide +kernel
theorem kd_Mo_coilCode_21 : decode kc_Mo_coilCode 21 = .ok (.istore 5, 2) := by decide +kernel
theorem kd_Mo_coilCode_23 : decode kc_Mo_coilCode 23 = .ok (.iload 4, 2) := by decide +kernel
theorem kd_Mo_coilCode_25 : decode kc_Mo_coilCode 25 = .ok (.iconst 1, 1) := by decide +kernel
theorem kd_Mo_coilCode_26 : decode kc_Mo_coilCode 26 = .ok (.if_icmp .le 13, 3) := by decide +kernel
theorem kd_Mo_coilCode_29 : decode kc_Mo_coilCode 29 = .ok (.aload_n 0, 1) := by decide +kernel
theorem kd_Mo_coilCode_30 : decode kc_Mo_coilCode 30 = .ok (.iconst 1, 1) := by decide +kernel
theorem kd_Mo_coilCode_31 : decode kc_Mo_coilCode 31 = .ok (.iload_n 3, 1) := by decide +kernel
theorem kd_Mo_coilCode_32 : decode kc_Mo_coilCode 32 = .ok (.iconst 0, 1) := by decide +kernel
theorem kd_Mo_coilCode_33 : decode kc_Mo_coilCode 33 = .ok (.iconst 0, 1) := by decide +kernel
theorem kd_Mo_coilCode_34 : decode kc_Mo_coilCode 34 = .ok (.invokevirtual 670, 3) := by decide +kernel
theorem kd_Mo_coilCode_37 : decode kc_Mo_coilCode 37 = .ok (.istore 5, 2) := by decide +kernel
theorem kd_Mo_coilCode_39 : decode kc_Mo_coilCode 39 = .ok (.iload_n 2, 1) := by decide +kernel
theorem kd_Mo_coilCode_40 : decode kc_Mo_coilCode 40 = .ok (.ifCond .ge 14, 3) := by decide +kernel
theorem kd_Mo_coilCode_43 : decode kc_Mo_coilCode 43 = .ok (.aload_n 0, 1) := by decide +kernel
theorem kd_Mo_coilCode_44 : decode kc_Mo_coilCode 44 = .ok (.iconst 0, 1) := by decide +kernel
theorem kd_Mo_coilCode_45 : decode kc_Mo_coilCode 45 = .ok (.iconst 1, 1) := by decide +kernel
theorem kd_Mo_coilCode_46 : decode kc_Mo_coilCode 46 = .ok (.iconst 0, 1) := by decide +kernel
theorem kd_Mo_coilCode_47 : decode kc_Mo_coilCode 47 = .ok (.iconst 0, 1) := by decide +kernel
theorem kd_Mo_coilCode_48 : decode kc_Mo_coilCode 48 = .ok (.invokevirtual 670, 3) := by decide +kernel
theorem kd_Mo_coilCode_51 : decode kc_Mo_coilCode 51 = .ok (.goto 11, 3) := by decide +kernel
theorem kd_Mo_coilCode_54 : decode kc_Mo_coilCode 54 = .ok (.aload_n 0, 1) := by decide +kernel
theorem kd_Mo_coilCode_55 : decode kc_Mo_coilCode 55 = .ok (.iconst 1, 1) := by decide +kernel
theorem kd_Mo_coilCode_56 : decode kc_Mo_coilCode 56 = .ok (.iload_n 2, 1) := by decide +kernel
theorem kd_Mo_coilCode_57 : decode kc_Mo_coilCode 57 = .ok (.iconst 0, 1) := by decide +kernel
theorem kd_Mo_coilCode_58 : decode kc_Mo_coilCode 58 = .ok (.iconst 0, 1) := by decide +kernel
theorem kd_Mo_coilCode_59 : decode kc_Mo_coilCode 59 = .ok (.invokevirtual 670, 3) := by decide +kernel
theorem kd_Mo_coilCode_62 : decode kc_Mo_coilCode 62 = .ok (.istore 5, 2) := by decide +kernel
theorem kd_Mo_coilCode_64 : decode kc_Mo_coilCode 64 = .ok (.iload 4, 2) := by decide +kernel
theorem kd_Mo_coilCode_66 : decode kc_Mo_coilCode 66 = .ok (.iconst 1, 1) := by decide +kernel
theorem kd_Mo_coilCode_67 : decode kc_Mo_coilCode 67 = .ok (.if_icmp .eq 9, 3) := by decide +kernel
theorem kd_Mo_coilCode_70 : decode kc_Mo_coilCode 70 = .ok (.iload 4, 2) := by decide +kernel
theorem kd_Mo_coilCode_72 : decode kc_Mo_coilCode 72 = .ok (.iconst 3, 1) := by decide +kernel
theorem kd_Mo_coilCode_73 : decode kc_Mo_coilCode 73 = .ok (.if_icmp .ne 14, 3) := by decide +kernel
theorem kd_Mo_coilCode_76 : decode kc_Mo_coilCode 76 = .ok (.aload_n 0, 1) := by decide +kernel
theorem kd_Mo_coilCode_77 : decode kc_Mo_coilCode 77 = .ok (.bipush 8, 2) := by decide +kernel
theorem kd_Mo_coilCode_79 : decode kc_Mo_coilCode 79 = .ok (.iconst 2, 1) := by decide +kernel
theorem kd_Mo_coilCode_80 : decode kc_Mo_coilCode 80 = .ok (.iconst 0, 1) := by decide +kernel
theorem kd_Mo_coilCode_81 : decode kc_Mo_coilCode 81 = .ok (.iconst 0, 1) := by decide +kernel
theorem kd_Mo_coilCode_82 : decode kc_Mo_coilCode 82 = .ok (.invokevirtual 670, 3) := by decide +kernel
theorem kd_Mo_coilCode_85 : decode kc_Mo_coilCode 85 = .ok (.istore 5, 2) := by decide +kernel
theorem kd_Mo_coilCode_87 : decode kc_Mo_coilCode 87 = .ok (.iload 4, 2) := by decide +kernel
theorem kd_Mo_coilCode_89 : decode kc_Mo_coilCode 89 = .ok (.iconst 1, 1) := by decide +kernel
theorem kd_Mo_coilCode_90 : decode kc_Mo_coilCode 90 = .ok (.if_icmp .le 26, 3) := by decide +kernel
theorem kd_Mo_coilCode_93 : decode kc_Mo_coilCode 93 = .ok (.aload_n 0, 1) := by decide +kernel
theorem kd_Mo_coilCode_94 : decode kc_Mo_coilCode 94 = .ok (.bipush 7, 2) := by decide +kernel
theorem kd_Mo_coilCode_96 : decode kc_Mo_coilCode 96 = .ok (.iload 4, 2) := by decide +kernel
theorem kd_Mo_coilCode_98 : decode kc_Mo_coilCode 98 = .ok (.iconst 2, 1) := by decide +kernel
theorem kd_Mo_coilCode_99 : decode kc_Mo_coilCode 99 = .ok (.if_icmp .ne 8, 3) := by decide +kernel
theorem kd_Mo_coilCode_102 : decode kc_Mo_coilCode 102 = .ok (.bipush 11, 2) := by decide +kernel
theorem kd_Mo_coilCode_104 : decode kc_Mo_coilCode 104 = .ok (.goto 5, 3) := by decide +kernel
theorem kd_Mo_coilCode_107 : decode kc_Mo_coilCode 107 = .ok (.bipush 10, 2) := by decide +kernel
theorem kd_Mo_coilCode_109 : decode kc_Mo_coilCode 109 = .ok (.iconst 0, 1) := by decide +kernel
theorem kd_Mo_coilCode_110 : decode kc_Mo_coilCode 110 = .ok (.iconst 0, 1) := by decide +kernel
theorem kd_Mo_coilCode_111 : decode kc_Mo_coilCode 111 = .ok (.invokevirtual 670, 3) := by decide +kernel
theorem kd_Mo_coilCode_114 : decode kc_Mo_coilCode 114 = .ok (.istore 5, 2) := by decide +kernel
theorem kd_Mo_coilCode_116 : decode kc_Mo_coilCode 116 = .ok (.aload_n 0, 1) := by decide +kernel
theorem kd_Mo_coilCode_117 : decode kc_Mo_coilCode 117 = .ok (.iconst 2, 1) := by decide +kernel
theorem kd_Mo_coilCode_118 : decode kc_Mo_coilCode 118 = .ok (.iload_n 3, 1) := by decide +kernel
theorem kd_Mo_coilCode_119 : decode kc_Mo_coilCode 119 = .ok (.iconst 0, 1) := by decide +kernel
theorem kd_Mo_coilCode_120 : decode kc_Mo_coilCode 120 = .ok (.iconst 0, 1) := by decide +kernel
theorem kd_Mo_coilCode_121 : decode kc_Mo_coilCode 121 = .ok (.invokevirtual 670, 3) := by decide +kernel
theorem kd_Mo_coilCode_124 : decode kc_Mo_coilCode 124 = .ok (.istore 5, 2) := by decide +kernel
theorem kd_Mo_coilCode_126 : decode kc_Mo_coilCode 126 = .ok (.return_, 1) := by decide +kernel
theorem kd_Mo_generate_0 : decode kc_Mo_generate 0 = .ok (.aload_n 0, 1) := by decide +kernel
theorem kd_Mo_generate_1 : decode kc_Mo_generate 1 = .ok (.iconst 0, 1) := by decide +kernel
theorem kd_Mo_generate_2 : decode kc_Mo_generate 2 = .ok (.putfield 652, 3) := by decide +kernel
theorem kd_Mo_generate_5 : decode kc_Mo_generate 5 = .ok (.aload_n 0, 1) := by decide +kernel
theorem kd_Mo_generate_6 : decode kc_Mo_generate 6 = .ok (.getfield 462, 3) := by decide +kernel
theorem kd_Mo_generate_9 : decode kc_Mo_generate 9 = .ok (.bipush 16, 2) := by decide +kernel
theorem kd_Mo_generate_11 : decode kc_Mo_generate 11 = .ok (.if_icmp .le 5, 3) := by decide +kernel
theorem kd_Mo_generate_14 : decode kc_Mo_generate 14 = .ok (.iconst 0, 1) := by decide +kernel
theorem kd_Mo_generate_15 : decode kc_Mo_generate 15 = .ok (.ireturn, 1) := by decide +kernel
theorem kd_Mo_generate_16 : decode kc_Mo_generate 16 = .ok (.iconst 0, 1) := by decide +kernel
theorem kd_Mo_generate_17 : decode kc_Mo_generate 17 = .ok (.istore_n 1, 1) := by decide +kernel
theorem kd_Mo_generate_18 : decode kc_Mo_generate 18 = .ok (.iload_n 1, 1) := by decide +kernel
theorem kd_Mo_generate_19 : decode kc_Mo_generate 19 = .ok (.aload_n 0, 1) := by decide +kernel
theorem kd_Mo_generate_20 : decode kc_Mo_generate 20 = .ok (.getfield 462, 3) := by decide +kernel
theorem kd_Mo_generate_23 : decode kc_Mo_generate 23 = .ok (.if_icmp .ge 85, 3) := by decide +kernel
theorem kd_Mo_generate_26 : decode kc_Mo_generate 26 = .ok (.aload_n 0, 1) := by decide +kernel
theorem kd_Mo_generate_27 : decode kc_Mo_generate 27 = .ok (.iload_n 1, 1) := by decide +kernel
theorem kd_Mo_generate_28 : decode kc_Mo_generate 28 = .ok (.putfield 658, 3) := by decide +kernel
theorem kd_Mo_generate_31 : decode kc_Mo_generate 31 = .ok (.aload_n 0, 1) := by decide +kernel
theorem kd_Mo_generate_32 : decode kc_Mo_generate 32 = .ok (.iload_n 1, 1) := by decide +kernel
theorem kd_Mo_generate_33 : decode kc_Mo_generate 33 = .ok (.putfield 550, 3) := by decide +kernel
theorem kd_Mo_generate_36 : decode kc_Mo_generate 36 = .ok (.aload_n 0, 1) := by decide +kernel
theorem kd_Mo_generate_37 : decode kc_Mo_generate 37 = .ok (.getfield 115, 3) := by decide +kernel
theorem kd_Mo_generate_40 : decode kc_Mo_generate 40 = .ok (.iload_n 1, 1) := by decide +kernel
theorem kd_Mo_generate_41 : decode kc_Mo_generate 41 = .ok (.aload_n 0, 1) := by decide +kernel
theorem kd_Mo_generate_42 : decode kc_Mo_generate 42 = .ok (.getfield 652, 3) := by decide +kernel
theorem kd_Mo_generate_45 : decode kc_Mo_generate 45 = .ok (.iastore, 1) := by decide +kernel
theorem kd_Mo_generate_46 : decode kc_Mo_generate 46 = .ok (.aload_n 0, 1) := by decide +kernel
theorem kd_Mo_generate_47 : decode kc_Mo_generate 47 = .ok (.iconst 0, 1) := by decide +kernel
theorem kd_Mo_generate_48 : decode kc_Mo_generate 48 = .ok (.putfield 655, 3) := by decide +kernel
theorem kd_Mo_generate_51 : decode kc_Mo_generate 51 = .ok (.aload_n 0, 1) := by decide +kernel
theorem kd_Mo_generate_52 : decode kc_Mo_generate 52 = .ok (.getfield 64, 3) := by decide +kernel
theorem kd_Mo_generate_55 : decode kc_Mo_generate 55 = .ok (.iload_n 1, 1) := by decide +kernel
theorem kd_Mo_generate_56 : decode kc_Mo_generate 56 = .ok (.iaload, 1) := by decide +kernel
theorem kd_Mo_generate_57 : decode kc_Mo_generate 57 = .ok (.iconst 1, 1) := by decide +kernel
theorem kd_Mo_generate_58 : decode kc_Mo_generate 58 = .ok (.if_icmp .ne 8, 3) := by decide +kernel
theorem kd_Mo_generate_61 : decode kc_Mo_generate 61 = .ok (.aload_n 0, 1) := by decide +kernel
theorem kd_Mo_generate_62 : decode kc_Mo_generate 62 = .ok (.iload_n 1, 1) := by decide +kernel
theorem kd_Mo_generate_63 : decode kc_Mo_generate 63 = .ok (.invokevirtual 661, 3) := by decide +kernel
theorem kd_Mo_generate_66 : decode kc_Mo_generate 66 = .ok (.aload_n 0, 1) := by decide +kernel
theorem kd_Mo_generate_67 : decode kc_Mo_generate 67 = .ok (.getfield 37, 3) := by decide +kernel
theorem kd_Mo_generate_70 : decode kc_Mo_generate 70 = .ok (.aload_n 0, 1) := by decide +kernel
theorem kd_Mo_generate_71 : decode kc_Mo_generate 71 = .ok (.getfield 58, 3) := by decide +kernel
theorem kd_Mo_generate_74 : decode kc_Mo_generate 74 = .ok (.iload_n 1, 1) := by decide +kernel
theorem kd_Mo_generate_75 : decode kc_Mo_generate 75 = .ok (.iaload, 1) := by decide +kernel
theorem kd_Mo_generate_76 : decode kc_Mo_generate 76 = .ok (.iaload, 1) := by decide +kernel
theorem kd_Mo_generate_77 : decode kc_Mo_generate 77 = .ok (.istore_n 2, 1) := by decide +kernel
theorem kd_Mo_generate_78 : decode kc_Mo_generate 78 = .ok (.aload_n 0, 1) := by decide +kernel
theorem kd_Mo_generate_79 : decode kc_Mo_generate 79 = .ok (.getfield 22, 3) := by decide +kernel
theorem kd_Mo_generate_82 : decode kc_Mo_generate 82 = .ok (.iload_n 2, 1) := by decide +kernel
theorem kd_Mo_generate_83 : decode kc_Mo_generate 83 = .ok (.iaload, 1) := by decide +kernel
theorem kd_Mo_generate_84 : decode kc_Mo_generate 84 = .ok (.bipush 11, 2) := by decide +kernel
theorem kd_Mo_generate_86 : decode kc_Mo_generate 86 = .ok (.if_icmp .ne 11, 3) := by decide +kernel
theorem kd_Mo_generate_89 : decode kc_Mo_generate 89 = .ok (.aload_n 0, 1) := by decide +kernel
theorem kd_Mo_generate_90 : decode kc_Mo_generate 90 = .ok (.iload_n 2, 1) := by decide +kernel
theorem kd_Mo_generate_91 : decode kc_Mo_generate 91 = .ok (.invokevirtual 664, 3) := by decide +kernel
theorem kd_Mo_generate_94 : decode kc_Mo_generate 94 = .ok (.goto 8, 3) := by decide +kernel
theorem kd_Mo_generate_97 : decode kc_Mo_generate 97 = .ok (.aload_n 0, 1) := by decide +kernel
theorem kd_Mo_generate_98 : decode kc_Mo_generate 98 = .ok (.iload_n 2, 1) := by decide +kernel
theorem kd_Mo_generate_99 : decode kc_Mo_generate 99 = .ok (.invokevirtual 667, 3) := by decide +kernel
theorem kd_Mo_generate_102 : decode kc_Mo_generate 102 = .ok (.iinc 1 1, 3) := by decide +kernel
theorem kd_Mo_generate_105 : decode kc_Mo_generate 105 = .ok (.goto (-87), 3) := by decide +kernel
theorem kd_Mo_generate_108 : decode kc_Mo_generate 108 = .ok (.aload_n 0, 1) := by decide +kernel
theorem kd_Mo_generate_109 : decode kc_Mo_generate 109 = .ok (.getfield 115, 3) := by decide +kernel
theorem kd_Mo_generate_112 : decode kc_Mo_generate 112 = .ok (.aload_n 0, 1) := by decide +kernel
theorem kd_Mo_generate_113 : decode kc_Mo_generate 113 = .ok (.getfield 462, 3) := by decide +kernel
theorem kd_Mo_generate_116 : decode kc_Mo_generate 116 = .ok (.aload_n 0, 1) := by decide +kernel
theorem kd_Mo_generate_117 : decode kc_Mo_generate 117 = .ok (.getfield 652, 3) := by decide +kernel
theorem kd_Mo_generate_120 : decode kc_Mo_generate 120 = .ok (.iastore, 1) := by decide +kernel
theorem kd_Mo_generate_121 : decode kc_Mo_generate 121 = .ok (.aload_n 0, 1) := by decide +kernel
theorem kd_Mo_generate_122 : decode kc_Mo_generate 122 = .ok (.getfield 652, 3) := by decide +kernel
theorem kd_Mo_generate_125 : decode kc_Mo_generate 125 = .ok (.sipush 4000, 3) := by decide +kernel
theorem kd_Mo_generate_128 : decode kc_Mo_generate 128 = .ok (.if_icmp .gt 7, 3) := by decide +kernel
theorem kd_Mo_generate_131 : decode kc_Mo_generate 131 = .ok (.iconst 1, 1) := by decide +kernel
theorem kd_Mo_generate_132 : decode kc_Mo_generate 132 = .ok (.goto 4, 3) := by decide +kernel
theorem kd_Mo_generate_135 : decode kc_Mo_generate 135 = .ok (.iconst 0, 1) := by decide +kernel
theorem kd_Mo_generate_136 : decode kc_Mo_generate 136 = .ok (.ireturn, 1) := by decide +kernel
theorem kd_Mo_greatestFrom_0 : decode kc_Mo_greatestFrom 0 = .ok (.aload_n 0, 1) := by decide +kernel
theorem kd_Mo_greatestFrom_1 : decode kc_Mo_greatestFrom 1 = .ok (.getfield 124, 3) := by decide +kernel
theorem kd_Mo_greatestFrom_4 : decode kc_Mo_greatestFrom 4 = .ok (.aload_n 0, 1) := by decide +kernel
theorem kd_Mo_greatestFrom_5 : decode kc_Mo_greatestFrom 5 = .ok (.getfield 115, 3) := by decide +kernel
theorem kd_Mo_greatestFrom_8 : decode kc_Mo_greatestFrom 8 = .ok (.iload_n 1, 1) := by decide +kernel
theorem kd_Mo_greatestFrom_9 : decode kc_Mo_greatestFrom 9 = .ok (.iaload, 1) := by decide +kernel
theorem kd_Mo_greatestFrom_10 : decode kc_Mo_greatestFrom 10 = .ok (.iload_n 2, 1) := by decide +kernel
theorem kd_Mo_greatestFrom_11 : decode kc_Mo_greatestFrom 11 = .ok (.iadd, 1) := by decide +kernel
theorem kd_Mo_greatestFrom_12 : decode kc_Mo_greatestFrom 12 = .ok (.iconst 1, 1) := by decide +kernel
theorem kd_Mo_greatestFrom_13 : decode kc_Mo_greatestFrom 13 = .ok (.isub, 1) := by decide +kernel
theorem kd_Mo_greatestFrom_14 : decode kc_Mo_greatestFrom 14 = .ok (.iaload, 1) := by decide +kernel
theorem kd_Mo_greatestFrom_15 : decode kc_Mo_greatestFrom 15 = .ok (.i2l, 1) := by decide +kernel
theorem kd_Mo_greatestFrom_16 : decode kc_Mo_greatestFrom 16 = .ok (.lstore 5, 2) := by decide +kernel
theorem kd_Mo_greatestFrom_18 : decode kc_Mo_greatestFrom 18 = .ok (.lconst 1, 1) := by decide +kernel
theorem kd_Mo_greatestFrom_19 : decode kc_Mo_greatestFrom 19 = .ok (.aload_n 0, 1) := by decide +kernel
theorem kd_Mo_greatestFrom_20 : decode kc_Mo_greatestFrom 20 = .ok (.getfield 147, 3) := by decide +kernel
theorem kd_Mo_greatestFrom_23 : decode kc_Mo_greatestFrom 23 = .ok (.bipush 62, 2) := by decide +kernel
theorem kd_Mo_greatestFrom_25 : decode kc_Mo_greatestFrom 25 = .ok (.aload_n 0, 1) := by decide +kernel
theorem kd_Mo_greatestFrom_26 : decode kc_Mo_greatestFrom 26 = .ok (.getfield 124, 3) := by decide +kernel
theorem kd_Mo_greatestFrom_29 : decode kc_Mo_greatestFrom 29 = .ok (.aload_n 0, 1) := by decide +kernel
theorem kd_Mo_greatestFrom_30 : decode kc_Mo_greatestFrom 30 = .ok (.getfield 115, 3) := by decide +kernel
theorem kd_Mo_greatestFrom_33 : decode kc_Mo_greatestFrom 33 = .ok (.iload_n 1, 1) := by decide +kernel
theorem kd_Mo_greatestFrom_34 : decode kc_Mo_greatestFrom 34 = .ok (.iaload, 1) := by decide +kernel
theorem kd_Mo_greatestFrom_35 : decode kc_Mo_greatestFrom 35 = .ok (.iload_n 2, 1) := by decide +kernel
theorem kd_Mo_greatestFrom_36 : decode kc_Mo_greatestFrom 36 = .ok (.iadd, 1) := by decide +kernel
theorem kd_Mo_greatestFrom_37 : decode kc_Mo_greatestFrom 37 = .ok (.iaload, 1) := by decide +kernel
theorem kd_Mo_greatestFrom_38 : decode kc_Mo_greatestFrom 38 = .ok (.imul, 1) := by decide +kernel
theorem kd_Mo_greatestFrom_39 : decode kc_Mo_greatestFrom 39 = .ok (.iload_n 3, 1) := by decide +kernel
theorem kd_Mo_greatestFrom_40 : decode kc_Mo_greatestFrom 40 = .ok (.iadd, 1) := by decide +kernel
theorem kd_Mo_greatestFrom_41 : decode kc_Mo_greatestFrom 41 = .ok (.laload, 1) := by decide +kernel
theorem kd_Mo_greatestFrom_42 : decode kc_Mo_greatestFrom 42 = .ok (.invokestatic 795, 3) := by decide +kernel
theorem kd_Mo_greatestFrom_45 : decode kc_Mo_greatestFrom 45 = .ok (.lstore 7, 2) := by decide +kernel
theorem kd_Mo_greatestFrom_47 : decode kc_Mo_greatestFrom 47 = .ok (.lload 5, 2) := by decide +kernel
theorem kd_Mo_greatestFrom_49 : decode kc_Mo_greatestFrom 49 = .ok (.lconst 0, 1) := by decide +kernel
theorem kd_Mo_greatestFrom_50 : decode kc_Mo_greatestFrom 50 = .ok (.lcmp, 1) := by decide +kernel
theorem kd_Mo_greatestFrom_51 : decode kc_Mo_greatestFrom 51 = .ok (.ifCond .ne 6, 3) := by decide +kernel
theorem kd_Mo_greatestFrom_54 : decode kc_Mo_greatestFrom 54 = .ok (.lload 7, 2) := by decide +kernel
theorem kd_Mo_greatestFrom_56 : decode kc_Mo_greatestFrom 56 = .ok (.lreturn, 1) := by decide +kernel
theorem kd_Mo_greatestFrom_57 : decode kc_Mo_greatestFrom 57 = .ok (.lconst 1, 1) := by decide +kernel
theorem kd_Mo_greatestFrom_58 : decode kc_Mo_greatestFrom 58 = .ok (.aload_n 0, 1) := by decide +kernel
theorem kd_Mo_greatestFrom_59 : decode kc_Mo_greatestFrom 59 = .ok (.getfield 147, 3) := by decide +kernel
theorem kd_Mo_greatestFrom_62 : decode kc_Mo_greatestFrom 62 = .ok (.bipush 62, 2) := by decide +kernel
theorem kd_Mo_greatestFrom_64 : decode kc_Mo_greatestFrom 64 = .ok (.iload_n 2, 1) := by decide +kernel
theorem kd_Mo_greatestFrom_65 : decode kc_Mo_greatestFrom 65 = .ok (.iconst 1, 1) := by decide +kernel
theorem kd_Mo_greatestFrom_66 : decode kc_Mo_greatestFrom 66 = .ok (.iadd, 1) := by decide +kernel
theorem kd_Mo_greatestFrom_67 : decode kc_Mo_greatestFrom 67 = .ok (.imul, 1) := by decide +kernel
theorem kd_Mo_greatestFrom_68 : decode kc_Mo_greatestFrom 68 = .ok (.iload_n 3, 1) := by decide +kernel
theorem kd_Mo_greatestFrom_69 : decode kc_Mo_greatestFrom 69 = .ok (.iadd, 1) := by decide +kernel
theorem kd_Mo_greatestFrom_70 : decode kc_Mo_greatestFrom 70 = .ok (.laload, 1) := by decide +kernel
theorem kd_Mo_greatestFrom_71 : decode kc_Mo_greatestFrom 71 = .ok (.invokestatic 795, 3) := by decide +kernel
theorem kd_Mo_greatestFrom_74 : decode kc_Mo_greatestFrom 74 = .ok (.lstore 9, 2) := by decide +kernel
theorem kd_Mo_greatestFrom_76 : decode kc_Mo_greatestFrom 76 = .ok (.lconst 1, 1) := by decide +kernel
theorem kd_Mo_greatestFrom_77 : decode kc_Mo_greatestFrom 77 = .ok (.aload_n 0, 1) := by decide +kernel
theorem kd_Mo_greatestFrom_78 : decode kc_Mo_greatestFrom 78 = .ok (.getfield 147, 3) := by decide +kernel
theorem kd_Mo_greatestFrom_81 : decode kc_Mo_greatestFrom 81 = .ok (.bipush 62, 2) := by decide +kernel
theorem kd_Mo_greatestFrom_83 : decode kc_Mo_greatestFrom 83 = .ok (.iload_n 2, 1) := by decide +kernel
theorem kd_Mo_greatestFrom_84 : decode kc_Mo_greatestFrom 84 = .ok (.iconst 1, 1) := by decide +kernel
theorem kd_Mo_greatestFrom_85 : decode kc_Mo_greatestFrom 85 = .ok (.iadd, 1) := by decide +kernel
theorem kd_Mo_greatestFrom_86 : decode kc_Mo_greatestFrom 86 = .ok (.imul, 1) := by decide +kernel
theorem kd_Mo_greatestFrom_87 : decode kc_Mo_greatestFrom 87 = .ok (.iload 4, 2) := by decide +kernel
theorem kd_Mo_greatestFrom_89 : decode kc_Mo_greatestFrom 89 = .ok (.iadd, 1) := by decide +kernel
theorem kd_Mo_greatestFrom_90 : decode kc_Mo_greatestFrom 90 = .ok (.iconst 1, 1) := by decide +kernel
theorem kd_Mo_greatestFrom_91 : decode kc_Mo_greatestFrom 91 = .ok (.iadd, 1) := by decide +kernel
theorem kd_Mo_greatestFrom_92 : decode kc_Mo_greatestFrom 92 = .ok (.laload, 1) := by decide +kernel
theorem kd_Mo_greatestFrom_93 : decode kc_Mo_greatestFrom 93 = .ok (.invokestatic 795, 3) := by decide +kernel
theorem kd_Mo_greatestFrom_96 : decode kc_Mo_greatestFrom 96 = .ok (.lstore 11, 2) := by decide +kernel
theorem kd_Mo_greatestFrom_98 : decode kc_Mo_greatestFrom 98 = .ok (.lload 11, 2) := by decide +kernel
theorem kd_Mo_greatestFrom_100 : decode kc_Mo_greatestFrom 100 = .ok (.lconst 0, 1) := by decide +kernel
theorem kd_Mo_greatestFrom_101 : decode kc_Mo_greatestFrom 101 = .ok (.lcmp, 1) := by decide +kernel
theorem kd_Mo_greatestFrom_102 : decode kc_Mo_greatestFrom 102 = .ok (.ifCond .ge 6, 3) := by decide +kernel
theorem kd_Mo_greatestFrom_105 : decode kc_Mo_greatestFrom 105 = .ok (.lload 9, 2) := by decide +kernel
theorem kd_Mo_greatestFrom_107 : decode kc_Mo_greatestFrom 107 = .ok (.lreturn, 1) := by decide +kernel
theorem kd_Mo_greatestFrom_108 : decode kc_Mo_greatestFrom 108 = .ok (.lload 9, 2) := by decide +kernel
theorem kd_Mo_greatestFrom_110 : decode kc_Mo_greatestFrom 110 = .ok (.lconst 0, 1) := by decide +kernel
theorem kd_Mo_greatestFrom_111 : decode kc_Mo_greatestFrom 111 = .ok (.lcmp, 1) := by decide +kernel
theorem kd_Mo_greatestFrom_112 : decode kc_Mo_greatestFrom 112 = .ok (.ifCond .ge 9, 3) := by decide +kernel
theorem kd_Mo_greatestFrom_115 : decode kc_Mo_greatestFrom 115 = .ok (.ldc2_w 262, 3) := by decide +kernel
theorem kd_Mo_greatestFrom_118 : decode kc_Mo_greatestFrom 118 = .ok (.goto 19, 3) := by decide +kernel
theorem kd_Mo_greatestFrom_121 : decode kc_Mo_greatestFrom 121 = .ok (.ldc2_w 784, 3) := by decide +kernel
theorem kd_Mo_greatestFrom_124 : decode kc_Mo_greatestFrom 124 = .ok (.lload 5, 2) := by decide +kernel
theorem kd_Mo_greatestFrom_126 : decode kc_Mo_greatestFrom 126 = .ok (.lconst 1, 1) := by decide +kernel
theorem kd_Mo_greatestFrom_127 : decode kc_Mo_greatestFrom 127 = .ok (.lsub, 1) := by decide +kernel
theorem kd_Mo_greatestFrom_128 : decode kc_Mo_greatestFrom 128 = .ok (.lload 11, 2) := by decide +kernel
theorem kd_Mo_greatestFrom_130 : decode kc_Mo_greatestFrom 130 = .ok (.lmul, 1) := by decide +kernel
theorem kd_Mo_greatestFrom_131 : decode kc_Mo_greatestFrom 131 = .ok (.lload 9, 2) := by decide +kernel
theorem kd_Mo_greatestFrom_133 : decode kc_Mo_greatestFrom 133 = .ok (.ladd, 1) := by decide +kernel
theorem kd_Mo_greatestFrom_134 : decode kc_Mo_greatestFrom 134 = .ok (.invokestatic 786, 3) := by decide +kernel
theorem kd_Mo_greatestFrom_137 : decode kc_Mo_greatestFrom 137 = .ok (.lstore 13, 2) := by decide +kernel
theorem kd_Mo_greatestFrom_139 : decode kc_Mo_greatestFrom 139 = .ok (.lload 13, 2) := by decide +kernel
theorem kd_Mo_greatestFrom_141 : decode kc_Mo_greatestFrom 141 = .ok (.lload 7, 2) := by decide +kernel
theorem kd_Mo_greatestFrom_143 : decode kc_Mo_greatestFrom 143 = .ok (.lconst 0, 1) := by decide +kernel
theorem kd_Mo_greatestFrom_144 : decode kc_Mo_greatestFrom 144 = .ok (.lcmp, 1) := by decide +kernel
theorem kd_Mo_greatestFrom_145 : decode kc_Mo_greatestFrom 145 = .ok (.ifCond .ge 9, 3) := by decide +kernel
theorem kd_Mo_greatestFrom_148 : decode kc_Mo_greatestFrom 148 = .ok (.ldc2_w 262, 3) := by decide +kernel
theorem kd_Mo_greatestFrom_151 : decode kc_Mo_greatestFrom 151 = .ok (.goto 17, 3) := by decide +kernel
theorem kd_Mo_greatestFrom_154 : decode kc_Mo_greatestFrom 154 = .ok (.ldc2_w 784, 3) := by decide +kernel
theorem kd_Mo_greatestFrom_157 : decode kc_Mo_greatestFrom 157 = .ok (.lload 5, 2) := by decide +kernel
theorem kd_Mo_greatestFrom_159 : decode kc_Mo_greatestFrom 159 = .ok (.lload 11, 2) := by decide +kernel
theorem kd_Mo_greatestFrom_161 : decode kc_Mo_greatestFrom 161 = .ok (.lmul, 1) := by decide +kernel
theorem kd_Mo_greatestFrom_162 : decode kc_Mo_greatestFrom 162 = .ok (.lload 7, 2) := by decide +kernel
theorem kd_Mo_greatestFrom_164 : decode kc_Mo_greatestFrom 164 = .ok (.ladd, 1) := by decide +kernel
theorem kd_Mo_greatestFrom_165 : decode kc_Mo_greatestFrom 165 = .ok (.invokestatic 786, 3) := by decide +kernel
theorem kd_Mo_greatestFrom_168 : decode kc_Mo_greatestFrom 168 = .ok (.invokestatic 798, 3) := by decide +kernel
theorem kd_Mo_greatestFrom_171 : decode kc_Mo_greatestFrom 171 = .ok (.lreturn, 1) := by decide +kernel
theorem kd_Mo_groupCode_0 : decode kc_Mo_groupCode 0 = .ok (.iconst 0, 1) := by decide +kernel
theorem kd_Mo_groupCode_1 : decode kc_Mo_groupCode 1 = .ok (.istore 5, 2) := by decide +kernel
theorem kd_Mo_groupCode_3 : decode kc_Mo_groupCode 3 = .ok (.iconst 0, 1) := by decide +kernel
theorem kd_Mo_groupCode_4 : decode kc_Mo_groupCode 4 = .ok (.istore 6, 2) := by decide +kernel
theorem kd_Mo_groupCode_6 : decode kc_Mo_groupCode 6 = .ok (.iload_n 3, 1) := by decide +kernel
theorem kd_Mo_groupCode_7 : decode kc_Mo_groupCode 7 = .ok (.istore 7, 2) := by decide +kernel
theorem kd_Mo_groupCode_9 : decode kc_Mo_groupCode 9 = .ok (.iload 7, 2) := by decide +kernel
theorem kd_Mo_groupCode_11 : decode kc_Mo_groupCode 11 = .ok (.iload_n 2, 1) := by decide +kernel
theorem kd_Mo_groupCode_12 : decode kc_Mo_groupCode 12 = .ok (.if_icmp .ge 126, 3) := by decide +kernel
theorem kd_Mo_groupCode_15 : decode kc_Mo_groupCode 15 = .ok (.aload_n 0, 1) := by decide +kernel
theorem kd_Mo_groupCode_16 : decode kc_Mo_groupCode 16 = .ok (.iload_n 1, 1) := by decide +kernel
theorem kd_Mo_groupCode_17 : decode kc_Mo_groupCode 17 = .ok (.iload 7, 2) := by decide +kernel
theorem kd_Mo_groupCode_19 : decode kc_Mo_groupCode 19 = .ok (.iload 4, 2) := by decide +kernel
theorem kd_Mo_groupCode_21 : decode kc_Mo_groupCode 21 = .ok (.invokevirtual 750, 3) := by decide +kernel
theorem kd_Mo_groupCode_24 : decode kc_Mo_groupCode 24 = .ok (.iload_n 3, 1) := by decide +kernel
theorem kd_Mo_groupCode_25 : decode kc_Mo_groupCode 25 = .ok (.if_icmp .ne 113, 3) := by decide +kernel
theorem kd_Mo_groupCode_28 : decode kc_Mo_groupCode 28 = .ok (.aload_n 0, 1) := by decide +kernel
theorem kd_Mo_groupCode_29 : decode kc_Mo_groupCode 29 = .ok (.aload_n 0, 1) := by decide +kernel
theorem kd_Mo_groupCode_30 : decode kc_Mo_groupCode 30 = .ok (.iload_n 1, 1) := by decide +kernel
theorem kd_Mo_groupCode_31 : decode kc_Mo_groupCode 31 = .ok (.iload 7, 2) := by decide +kernel
theorem kd_Mo_groupCode_33 : decode kc_Mo_groupCode 33 = .ok (.invokevirtual 744, 3) := by decide +kernel
theorem kd_Mo_groupCode_36 : decode kc_Mo_groupCode 36 = .ok (.iload 4, 2) := by decide +kernel
theorem kd_Mo_groupCode_38 : decode kc_Mo_groupCode 38 = .ok (.iconst 1, 1) := by decide +kernel
theorem kd_Mo_groupCode_39 : decode kc_Mo_groupCode 39 = .ok (.isub, 1) := by decide +kernel
theorem kd_Mo_groupCode_40 : decode kc_Mo_groupCode 40 = .ok (.invokevirtual 753, 3) := by decide +kernel
theorem kd_Mo_groupCode_43 : decode kc_Mo_groupCode 43 = .ok (.istore 8, 2) := by decide +kernel
theorem kd_Mo_groupCode_45 : decode kc_Mo_groupCode 45 = .ok (.aload_n 0, 1) := by decide +kernel
theorem kd_Mo_groupCode_46 : decode kc_Mo_groupCode 46 = .ok (.getfield 22, 3) := by decide +kernel
theorem kd_Mo_groupCode_49 : decode kc_Mo_groupCode 49 = .ok (.iload 8, 2) := by decide +kernel
theorem kd_Mo_groupCode_51 : decode kc_Mo_groupCode 51 = .ok (.iaload, 1) := by decide +kernel
theorem kd_Mo_groupCode_52 : decode kc_Mo_groupCode 52 = .ok (.bipush 27, 2) := by decide +kernel
theorem kd_Mo_groupCode_54 : decode kc_Mo_groupCode 54 = .ok (.if_icmp .eq 78, 3) := by decide +kernel
theorem kd_Mo_groupCode_57 : decode kc_Mo_groupCode 57 = .ok (.iload 4, 2) := by decide +kernel
theorem kd_Mo_groupCode_59 : decode kc_Mo_groupCode 59 = .ok (.iconst 1, 1) := by decide +kernel
theorem kd_Mo_groupCode_60 : decode kc_Mo_groupCode 60 = .ok (.if_icmp .ne 14, 3) := by decide +kernel
theorem kd_Mo_groupCode_63 : decode kc_Mo_groupCode 63 = .ok (.aload_n 0, 1) := by decide +kernel
theorem kd_Mo_groupCode_64 : decode kc_Mo_groupCode 64 = .ok (.iconst 0, 1) := by decide +kernel
theorem kd_Mo_groupCode_65 : decode kc_Mo_groupCode 65 = .ok (.iconst 1, 1) := by decide +kernel
theorem kd_Mo_groupCode_66 : decode kc_Mo_groupCode 66 = .ok (.iconst 0, 1) := by decide +kernel
theorem kd_Mo_groupCode_67 : decode kc_Mo_groupCode 67 = .ok (.iconst 0, 1) := by decide +kernel
theorem kd_Mo_groupCode_68 : decode kc_Mo_groupCode 68 = .ok (.invokevirtual 670, 3) := by decide +kernel
theorem kd_Mo_groupCode_71 : decode kc_Mo_groupCode 71 = .ok (.goto 21, 3) := by decide +kernel
theorem kd_Mo_groupCode_74 : decode kc_Mo_groupCode 74 = .ok (.aload_n 0, 1) := by decide +kernel
theorem kd_Mo_groupCode_75 : decode kc_Mo_groupCode 75 = .ok (.iconst 1, 1) := by decide +kernel
theorem kd_Mo_groupCode_76 : decode kc_Mo_groupCode 76 = .ok (.aload_n 0, 1) := by decide +kernel
theorem kd_Mo_groupCode_77 : decode kc_Mo_groupCode 77 = .ok (.iload_n 1, 1) := by decide +kernel
theorem kd_Mo_groupCode_78 : decode kc_Mo_groupCode 78 = .ok (.iload 7, 2) := by decide +kernel
theorem kd_Mo_groupCode_80 : decode kc_Mo_groupCode 80 = .ok (.iload 4, 2) := by decide +kernel
theorem kd_Mo_groupCode_82 : decode kc_Mo_groupCode 82 = .ok (.iconst 1, 1) := by decide +kernel
theorem kd_Mo_groupCode_83 : decode kc_Mo_groupCode 83 = .ok (.isub, 1) := by decide +kernel
theorem kd_Mo_groupCode_84 : decode kc_Mo_groupCode 84 = .ok (.invokevirtual 759, 3) := by decide +kernel
theorem kd_Mo_groupCode_87 : decode kc_Mo_groupCode 87 = .ok (.iconst 0, 1) := by decide +kernel
theorem kd_Mo_groupCode_88 : decode kc_Mo_groupCode 88 = .ok (.iconst 0, 1) := by decide +kernel
theorem kd_Mo_groupCode_89 : decode kc_Mo_groupCode 89 = .ok (.invokevirtual 670, 3) := by decide +kernel
theorem kd_Mo_groupCode_92 : decode kc_Mo_groupCode 92 = .ok (.istore 6, 2) := by decide +kernel
theorem kd_Mo_groupCode_94 : decode kc_Mo_groupCode 94 = .ok (.aload_n 0, 1) := by decide +kernel
theorem kd_Mo_groupCode_95 : decode kc_Mo_groupCode 95 = .ok (.getfield 22, 3) := by decide +kernel
theorem kd_Mo_groupCode_98 : decode kc_Mo_groupCode 98 = .ok (.iload 8, 2) := by decide +kernel
theorem kd_Mo_groupCode_100 : decode kc_Mo_groupCode 100 = .ok (.iaload, 1) := by decide +kernel
theorem kd_Mo_groupCode_101 : decode kc_Mo_groupCode 101 = .ok (.bipush 25, 2) := by decide +kernel
theorem kd_Mo_groupCode_103 : decode kc_Mo_groupCode 103 = .ok (.if_icmp .ne 9, 3) := by decide +kernel
theorem kd_Mo_groupCode_106 : decode kc_Mo_groupCode 106 = .ok (.aload_n 0, 1) := by decide +kernel
theorem kd_Mo_groupCode_107 : decode kc_Mo_groupCode 107 = .ok (.iload 8, 2) := by decide +kernel
theorem kd_Mo_groupCode_109 : decode kc_Mo_groupCode 109 = .ok (.invokevirtual 765, 3) := by decide +kernel
theorem kd_Mo_groupCode_112 : decode kc_Mo_groupCode 112 = .ok (.iload 5, 2) := by decide +kernel
theorem kd_Mo_groupCode_114 : decode kc_Mo_groupCode 114 = .ok (.ifCond .le 15, 3) := by decide +kernel
theorem kd_Mo_groupCode_117 : decode kc_Mo_groupCode 117 = .ok (.aload_n 0, 1) := by decide +kernel
theorem kd_Mo_groupCode_118 : decode kc_Mo_groupCode 118 = .ok (.bipush 7, 2) := by decide +kernel
theorem kd_Mo_groupCode_120 : decode kc_Mo_groupCode 120 = .ok (.bipush 11, 2) := by decide +kernel
theorem kd_Mo_groupCode_122 : decode kc_Mo_groupCode 122 = .ok (.iconst 0, 1) := by decide +kernel
theorem kd_Mo_groupCode_123 : decode kc_Mo_groupCode 123 = .ok (.iconst 0, 1) := by decide +kernel
theorem kd_Mo_groupCode_124 : decode kc_Mo_groupCode 124 = .ok (.invokevirtual 670, 3) := by decide +kernel
theorem kd_Mo_groupCode_127 : decode kc_Mo_groupCode 127 = .ok (.istore 6, 2) := by decide +kernel
theorem kd_Mo_groupCode_129 : decode kc_Mo_groupCode 129 = .ok (.iinc 5 1, 3) := by decide +kernel
theorem kd_Mo_groupCode_132 : decode kc_Mo_groupCode 132 = .ok (.iinc 7 1, 3) := by decide +kernel
theorem kd_Mo_groupCode_135 : decode kc_Mo_groupCode 135 = .ok (.goto (-126), 3) := by decide +kernel
theorem kd_Mo_groupCode_138 : decode kc_Mo_groupCode 138 = .ok (.iload 5, 2) := by decide +kernel
theorem kd_Mo_groupCode_140 : decode kc_Mo_groupCode 140 = .ok (.ifCond .ne 13, 3) := by decide +kernel
theorem kd_Mo_groupCode_143 : decode kc_Mo_groupCode 143 = .ok (.aload_n 0, 1) := by decide +kernel
theorem kd_Mo_groupCode_144 : decode kc_Mo_groupCode 144 = .ok (.iconst 0, 1) := by decide +kernel
theorem kd_Mo_groupCode_145 : decode kc_Mo_groupCode 145 = .ok (.iconst 0, 1) := by decide +kernel
theorem kd_Mo_groupCode_146 : decode kc_Mo_groupCode 146 = .ok (.iconst 0, 1) := by decide +kernel
theorem kd_Mo_groupCode_147 : decode kc_Mo_groupCode 147 = .ok (.iconst 0, 1) := by decide +kernel
theorem kd_Mo_groupCode_148 : decode kc_Mo_groupCode 148 = .ok (.invokevirtual 670, 3) := by decide +kernel
theorem kd_Mo_groupCode_151 : decode kc_Mo_groupCode 151 = .ok (.istore 6, 2) := by decide +kernel
theorem kd_Mo_groupCode_153 : decode kc_Mo_groupCode 153 = .ok (.aload_n 0, 1) := by decide +kernel
theorem kd_Mo_groupCode_154 : decode kc_Mo_groupCode 154 = .ok (.iconst 2, 1) := by decide +kernel
theorem kd_Mo_groupCode_155 : decode kc_Mo_groupCode 155 = .ok (.aload_n 0, 1) := by decide +kernel
theorem kd_Mo_groupCode_156 : decode kc_Mo_groupCode 156 = .ok (.iload_n 1, 1) := by decide +kernel
theorem kd_Mo_groupCode_157 : decode kc_Mo_groupCode 157 = .ok (.iload_n 3, 1) := by decide +kernel
theorem kd_Mo_groupCode_158 : decode kc_Mo_groupCode 158 = .ok (.iload 4, 2) := by decide +kernel
theorem kd_Mo_groupCode_160 : decode kc_Mo_groupCode 160 = .ok (.invokevirtual 759, 3) := by decide +kernel
theorem kd_Mo_groupCode_163 : decode kc_Mo_groupCode 163 = .ok (.iconst 0, 1) := by decide +kernel
theorem kd_Mo_groupCode_164 : decode kc_Mo_groupCode 164 = .ok (.iconst 0, 1) := by decide +kernel
theorem kd_Mo_groupCode_165 : decode kc_Mo_groupCode 165 = .ok (.invokevirtual 670, 3) := by decide +kernel
theorem kd_Mo_groupCode_168 : decode kc_Mo_groupCode 168 = .ok (.istore 6, 2) := by decide +kernel
theorem kd_Mo_groupCode_170 : decode kc_Mo_groupCode 170 = .ok (.return_, 1) := by decide +kernel
theorem kd_Mo_isDeep_0 : decode kc_Mo_isDeep 0 = .ok (.aload_n 0, 1) := by decide +kernel
theorem kd_Mo_isDeep_1 : decode kc_Mo_isDeep 1 = .ok (.iload_n 1, 1) := by decide +kernel
theorem kd_Mo_isDeep_2 : decode kc_Mo_isDeep 2 = .ok (.invokevirtual 768, 3) := by decide +kernel
theorem kd_Mo_isDeep_5 : decode kc_Mo_isDeep 5 = .ok (.istore_n 2, 1) := by decide +kernel
theorem kd_Mo_isDeep_6 : decode kc_Mo_isDeep 6 = .ok (.iconst 0, 1) := by decide +kernel
theorem kd_Mo_isDeep_7 : decode kc_Mo_isDeep 7 = .ok (.istore_n 3, 1) := by decide +kernel
theorem kd_Mo_isDeep_8 : decode kc_Mo_isDeep 8 = .ok (.iload_n 3, 1) := by decide +kernel
theorem kd_Mo_isDeep_9 : decode kc_Mo_isDeep 9 = .ok (.iload_n 2, 1) := by decide +kernel
theorem kd_Mo_isDeep_10 : decode kc_Mo_isDeep 10 = .ok (.if_icmp .gt 16, 3) := by decide +kernel
theorem kd_Mo_isDeep_13 : decode kc_Mo_isDeep 13 = .ok (.aload_n 0, 1) := by decide +kernel
theorem kd_Mo_isDeep_14 : decode kc_Mo_isDeep 14 = .ok (.getfield 143, 3) := by decide +kernel
theorem kd_Mo_isDeep_17 : decode kc_Mo_isDeep 17 = .ok (.iload_n 3, 1) := by decide +kernel
theorem kd_Mo_isDeep_18 : decode kc_Mo_isDeep 18 = .ok (.iconst (-1), 1) := by decide +kernel
theorem kd_Mo_isDeep_19 : decode kc_Mo_isDeep 19 = .ok (.iastore, 1) := by decide +kernel
theorem kd_Mo_isDeep_20 : decode kc_Mo_isDeep 20 = .ok (.iinc 3 1, 3) := by decide +kernel
theorem kd_Mo_isDeep_23 : decode kc_Mo_isDeep 23 = .ok (.goto (-15), 3) := by decide +kernel
theorem kd_Mo_isDeep_26 : decode kc_Mo_isDeep 26 = .ok (.aload_n 0, 1) := by decide +kernel
theorem kd_Mo_isDeep_27 : decode kc_Mo_isDeep 27 = .ok (.getfield 143, 3) := by decide +kernel
theorem kd_Mo_isDeep_30 : decode kc_Mo_isDeep 30 = .ok (.iconst 0, 1) := by decide +kernel
theorem kd_Mo_isDeep_31 : decode kc_Mo_isDeep 31 = .ok (.iconst 0, 1) := by decide +kernel
theorem kd_Mo_isDeep_32 : decode kc_Mo_isDeep 32 = .ok (.iastore, 1) := by decide +kernel
theorem kd_Mo_isDeep_33 : decode kc_Mo_isDeep 33 = .ok (.iconst 0, 1) := by decide +kernel
theorem kd_Mo_isDeep_34 : decode kc_Mo_isDeep 34 = .ok (.istore_n 3, 1) := by decide +kernel
theorem kd_Mo_isDeep_35 : decode kc_Mo_isDeep 35 = .ok (.iload_n 3, 1) := by decide +kernel
theorem kd_Mo_isDeep_36 : decode kc_Mo_isDeep 36 = .ok (.iload_n 2, 1) := by decide +kernel
theorem kd_Mo_isDeep_37 : decode kc_Mo_isDeep 37 = .ok (.if_icmp .ge 118, 3) := by decide +kernel
theorem kd_Mo_isDeep_40 : decode kc_Mo_isDeep 40 = .ok (.aload_n 0, 1) := by decide +kernel
theorem kd_Mo_isDeep_41 : decode kc_Mo_isDeep 41 = .ok (.getfield 118, 3) := by decide +kernel
theorem kd_Mo_isDeep_44 : decode kc_Mo_isDeep 44 = .ok (.aload_n 0, 1) := by decide +kernel
theorem kd_Mo_isDeep_45 : decode kc_Mo_isDeep 45 = .ok (.getfield 115, 3) := by decide +kernel
theorem kd_Mo_isDeep_48 : decode kc_Mo_isDeep 48 = .ok (.iload_n 1, 1) := by decide +kernel
theorem kd_Mo_isDeep_49 : decode kc_Mo_isDeep 49 = .ok (.iaload, 1) := by decide +kernel
theorem kd_Mo_isDeep_50 : decode kc_Mo_isDeep 50 = .ok (.iload_n 3, 1) := by decide +kernel
theorem kd_Mo_isDeep_51 : decode kc_Mo_isDeep 51 = .ok (.iadd, 1) := by decide +kernel
theorem kd_Mo_isDeep_52 : decode kc_Mo_isDeep 52 = .ok (.iaload, 1) := by decide +kernel
theorem kd_Mo_isDeep_53 : decode kc_Mo_isDeep 53 = .ok (.istore 4, 2) := by decide +kernel
theorem kd_Mo_isDeep_55 : decode kc_Mo_isDeep 55 = .ok (.aload_n 0, 1) := by decide +kernel
theorem kd_Mo_isDeep_56 : decode kc_Mo_isDeep 56 = .ok (.getfield 143, 3) := by decide +kernel
theorem kd_Mo_isDeep_59 : decode kc_Mo_isDeep 59 = .ok (.iload_n 3, 1) := by decide +kernel
theorem kd_Mo_isDeep_60 : decode kc_Mo_isDeep 60 = .ok (.iaload, 1) := by decide +kernel
theorem kd_Mo_isDeep_61 : decode kc_Mo_isDeep 61 = .ok (.ifCond .lt 88, 3) := by decide +kernel
theorem kd_Mo_isDeep_64 : decode kc_Mo_isDeep 64 = .ok (.aload_n 0, 1) := by decide +kernel
theorem kd_Mo_isDeep_65 : decode kc_Mo_isDeep 65 = .ok (.getfield 143, 3) := by decide +kernel
theorem kd_Mo_isDeep_68 : decode kc_Mo_isDeep 68 = .ok (.iload_n 3, 1) := by decide +kernel
theorem kd_Mo_isDeep_69 : decode kc_Mo_isDeep 69 = .ok (.iaload, 1) := by decide +kernel
theorem kd_Mo_isDeep_70 : decode kc_Mo_isDeep 70 = .ok (.getstatic 771, 3) := by decide +kernel
theorem kd_Mo_isDeep_73 : decode kc_Mo_isDeep 73 = .ok (.iload 4, 2) := by decide +kernel
theorem kd_Mo_isDeep_75 : decode kc_Mo_isDeep 75 = .ok (.iaload, 1) := by decide +kernel
theorem kd_Mo_isDeep_76 : decode kc_Mo_isDeep 76 = .ok (.isub, 1) := by decide +kernel
theorem kd_Mo_isDeep_77 : decode kc_Mo_isDeep 77 = .ok (.getstatic 774, 3) := by decide +kernel
theorem kd_Mo_isDeep_80 : decode kc_Mo_isDeep 80 = .ok (.iload 4, 2) := by decide +kernel
theorem kd_Mo_isDeep_82 : decode kc_Mo_isDeep 82 = .ok (.iaload, 1) := by decide +kernel
theorem kd_Mo_isDeep_83 : decode kc_Mo_isDeep 83 = .ok (.iadd, 1) := by decide +kernel
theorem kd_Mo_isDeep_84 : decode kc_Mo_isDeep 84 = .ok (.istore 5, 2) := by decide +kernel
theorem kd_Mo_isDeep_86 : decode kc_Mo_isDeep 86 = .ok (.iload 5, 2) := by decide +kernel
theorem kd_Mo_isDeep_88 : decode kc_Mo_isDeep 88 = .ok (.bipush 64, 2) := by decide +kernel
theorem kd_Mo_isDeep_90 : decode kc_Mo_isDeep 90 = .ok (.if_icmp .le 5, 3) := by decide +kernel
theorem kd_Mo_isDeep_93 : decode kc_Mo_isDeep 93 = .ok (.iconst 1, 1) := by decide +kernel
theorem kd_Mo_isDeep_94 : decode kc_Mo_isDeep 94 = .ok (.ireturn, 1) := by decide +kernel
theorem kd_Mo_isDeep_95 : decode kc_Mo_isDeep 95 = .ok (.iload 4, 2) := by decide +kernel
theorem kd_Mo_isDeep_97 : decode kc_Mo_isDeep 97 = .ok (.bipush 10, 2) := by decide +kernel
theorem kd_Mo_isDeep_99 : decode kc_Mo_isDeep 99 = .ok (.if_icmp .eq 27, 3) := by decide +kernel
theorem kd_Mo_isDeep_102 : decode kc_Mo_isDeep 102 = .ok (.iload 4, 2) := by decide +kernel
theorem kd_Mo_isDeep_104 : decode kc_Mo_isDeep 104 = .ok (.bipush 14, 2) := by decide +kernel
theorem kd_Mo_isDeep_106 : decode kc_Mo_isDeep 106 = .ok (.if_icmp .eq 20, 3) := by decide +kernel
theorem kd_Mo_isDeep_109 : decode kc_Mo_isDeep 109 = .ok (.iload 4, 2) := by decide +kernel
theorem kd_Mo_isDeep_111 : decode kc_Mo_isDeep 111 = .ok (.bipush 18, 2) := by decide +kernel
theorem kd_Mo_isDeep_113 : decode kc_Mo_isDeep 113 = .ok (.if_icmp .eq 13, 3) := by decide +kernel
theorem kd_Mo_isDeep_116 : decode kc_Mo_isDeep 116 = .ok (.aload_n 0, 1) := by decide +kernel
theorem kd_Mo_isDeep_117 : decode kc_Mo_isDeep 117 = .ok (.getfield 143, 3) := by decide +kernel
theorem kd_Mo_isDeep_120 : decode kc_Mo_isDeep 120 = .ok (.iload_n 3, 1) := by decide +kernel
theorem kd_Mo_isDeep_121 : decode kc_Mo_isDeep 121 = .ok (.iconst 1, 1) := by decide +kernel
theorem kd_Mo_isDeep_122 : decode kc_Mo_isDeep 122 = .ok (.iadd, 1) := by decide +kernel
theorem kd_Mo_isDeep_123 : decode kc_Mo_isDeep 123 = .ok (.iload 5, 2) := by decide +kernel
theorem kd_Mo_isDeep_125 : decode kc_Mo_isDeep 125 = .ok (.iastore, 1) := by decide +kernel
theorem kd_Mo_isDeep_126 : decode kc_Mo_isDeep 126 = .ok (.aload_n 0, 1) := by decide +kernel
theorem kd_Mo_isDeep_127 : decode kc_Mo_isDeep 127 = .ok (.iload_n 1, 1) := by decide +kernel
theorem kd_Mo_isDeep_128 : decode kc_Mo_isDeep 128 = .ok (.iload_n 3, 1) := by decide +kernel
theorem kd_Mo_isDeep_129 : decode kc_Mo_isDeep 129 = .ok (.invokevirtual 777, 3) := by decide +kernel
theorem kd_Mo_isDeep_132 : decode kc_Mo_isDeep 132 = .ok (.istore 6, 2) := by decide +kernel
theorem kd_Mo_isDeep_134 : decode kc_Mo_isDeep 134 = .ok (.iload 6, 2) := by decide +kernel
theorem kd_Mo_isDeep_136 : decode kc_Mo_isDeep 136 = .ok (.iload_n 3, 1) := by decide +kernel
theorem kd_Mo_isDeep_137 : decode kc_Mo_isDeep 137 = .ok (.if_icmp .le 12, 3) := by decide +kernel
theorem kd_Mo_isDeep_140 : decode kc_Mo_isDeep 140 = .ok (.aload_n 0, 1) := by decide +kernel
theorem kd_Mo_isDeep_141 : decode kc_Mo_isDeep 141 = .ok (.getfield 143, 3) := by decide +kernel
theorem kd_Mo_isDeep_144 : decode kc_Mo_isDeep 144 = .ok (.iload 6, 2) := by decide +kernel
theorem kd_Mo_isDeep_146 : decode kc_Mo_isDeep 146 = .ok (.iload 5, 2) := by decide +kernel
theorem kd_Mo_isDeep_148 : decode kc_Mo_isDeep 148 = .ok (.iastore, 1) := by decide +kernel
theorem kd_Mo_isDeep_149 : decode kc_Mo_isDeep 149 = .ok (.iinc 3 1, 3) := by decide +kernel
theorem kd_Mo_isDeep_152 : decode kc_Mo_isDeep 152 = .ok (.goto (-117), 3) := by decide +kernel
theorem kd_Mo_isDeep_155 : decode kc_Mo_isDeep 155 = .ok (.iconst 0, 1) := by decide +kernel
theorem kd_Mo_isDeep_156 : decode kc_Mo_isDeep 156 = .ok (.ireturn, 1) := by decide +kernel
theorem kd_Mo_ladderCode_0 : decode kc_Mo_ladderCode 0 = .ok (.aload_n 0, 1) := by decide +kernel
theorem kd_Mo_ladderCode_1 : decode kc_Mo_ladderCode 1 = .ok (.getfield 34, 3) := by decide +kernel
theorem kd_Mo_ladderCode_4 : decode kc_Mo_ladderCode 4 = .ok (.iload_n 1, 1) := by decide +kernel
theorem kd_Mo_ladderCode_5 : decode kc_Mo_ladderCode 5 = .ok (.iaload, 1) := by decide +kernel
theorem kd_Mo_ladderCode_6 : decode kc_Mo_ladderCode 6 = .ok (.istore_n 2, 1) := by decide +kernel
theorem kd_Mo_ladderCode_7 : decode kc_Mo_ladderCode 7 = .ok (.iload_n 2, 1) := by decide +kernel
theorem kd_Mo_ladderCode_8 : decode kc_Mo_ladderCode 8 = .ok (.ifCond .lt 18, 3) := by decide +kernel
theorem kd_Mo_ladderCode_11 : decode kc_Mo_ladderCode 11 = .ok (.aload_n 0, 1) := by decide +kernel
theorem kd_Mo_ladderCode_12 : decode kc_Mo_ladderCode 12 = .ok (.iload_n 2, 1) := by decide +kernel
theorem kd_Mo_ladderCode_13 : decode kc_Mo_ladderCode 13 = .ok (.invokevirtual 741, 3) := by decide +kernel
theorem kd_Mo_ladderCode_16 : decode kc_Mo_ladderCode 16 = .ok (.aload_n 0, 1) := by decide +kernel
theorem kd_Mo_ladderCode_17 : decode kc_Mo_ladderCode 17 = .ok (.getfield 40, 3) := by decide +kernel
theorem kd_Mo_ladderCode_20 : decode kc_Mo_ladderCode 20 = .ok (.iload_n 2, 1) := by decide +kernel
theorem kd_Mo_ladderCode_21 : decode kc_Mo_ladderCode 21 = .ok (.iaload, 1) := by decide +kernel
theorem kd_Mo_ladderCode_22 : decode kc_Mo_ladderCode 22 = .ok (.istore_n 2, 1) := by decide +kernel
theorem kd_Mo_ladderCode_23 : decode kc_Mo_ladderCode 23 = .ok (.goto (-16), 3) := by decide +kernel
theorem kd_Mo_ladderCode_26 : decode kc_Mo_ladderCode 26 = .ok (.return_, 1) := by decide +kernel
theorem kd_Mo_more_0 : decode kc_Mo_more 0 = .ok (.lload_n 2, 1) := by decide +kernel
theorem kd_Mo_more_1 : decode kc_Mo_more 1 = .ok (.lconst 0, 1) := by decide +kernel
theorem kd_Mo_more_2 : decode kc_Mo_more 2 = .ok (.lcmp, 1) := by decide +kernel
theorem kd_Mo_more_3 : decode kc_Mo_more 3 = .ok (.ifCond .ge 9, 3) := by decide +kernel
theorem kd_Mo_more_6 : decode kc_Mo_more 6 = .ok (.ldc2_w 262, 3) := by decide +kernel
theorem kd_Mo_more_9 : decode kc_Mo_more 9 = .ok (.goto 12, 3) := by decide +kernel
theorem kd_Mo_more_12 : decode kc_Mo_more 12 = .ok (.ldc2_w 784, 3) := by decide +kernel
theorem kd_Mo_more_15 : decode kc_Mo_more 15 = .ok (.lload_n 0, 1) := by decide +kernel
theorem kd_Mo_more_16 : decode kc_Mo_more 16 = .ok (.lload_n 2, 1) := by decide +kernel
theorem kd_Mo_more_17 : decode kc_Mo_more 17 = .ok (.ladd, 1) := by decide +kernel
theorem kd_Mo_more_18 : decode kc_Mo_more 18 = .ok (.invokestatic 786, 3) := by decide +kernel
theorem kd_Mo_more_21 : decode kc_Mo_more 21 = .ok (.lreturn, 1) := by decide +kernel
theorem kd_Mo_refuse_0 : decode kc_Mo_refuse 0 = .ok (.aload_n 0, 1) := by decide +kernel
theorem kd_Mo_refuse_1 : decode kc_Mo_refuse 1 = .ok (.iload_n 1, 1) := by decide +kernel
theorem kd_Mo_refuse_2 : decode kc_Mo_refuse 2 = .ok (.putfield 856, 3) := by decide +kernel
theorem kd_Mo_refuse_5 : decode kc_Mo_refuse 5 = .ok (.aload_n 0, 1) := by decide +kernel
theorem kd_Mo_refuse_6 : decode kc_Mo_refuse 6 = .ok (.iload_n 2, 1) := by decide +kernel
theorem kd_Mo_refuse_7 : decode kc_Mo_refuse 7 = .ok (.putfield 159, 3) := by decide +kernel
theorem kd_Mo_refuse_10 : decode kc_Mo_refuse 10 = .ok (.return_, 1) := by decide +kernel
theorem kd_Mo_rungCode_0 : decode kc_Mo_rungCode 0 = .ok (.aload_n 0, 1) := by decide +kernel
theorem kd_Mo_rungCode_1 : decode kc_Mo_rungCode 1 = .ok (.aload_n 0, 1) := by decide +kernel
theorem kd_Mo_rungCode_2 : decode kc_Mo_rungCode 2 = .ok (.getfield 34, 3) := by decide +kernel
theorem kd_Mo_rungCode_5 : decode kc_Mo_rungCode 5 = .ok (.iload_n 1, 1) := by decide +kernel
theorem kd_Mo_rungCode_6 : decode kc_Mo_rungCode 6 = .ok (.iaload, 1) := by decide +kernel
theorem kd_Mo_rungCode_7 : decode kc_Mo_rungCode 7 = .ok (.invokevirtual 627, 3) := by decide +kernel
theorem kd_Mo_rungCode_10 : decode kc_Mo_rungCode 10 = .ok (.istore_n 2, 1) := by decide +kernel
theorem kd_Mo_rungCode_11 : decode kc_Mo_rungCode 11 = .ok (.iconst 0, 1) := by decide +kernel
theorem kd_Mo_rungCode_12 : decode kc_Mo_rungCode 12 = .ok (.istore_n 3, 1) := by decide +kernel
theorem kd_Mo_rungCode_13 : decode kc_Mo_rungCode 13 = .ok (.aload_n 0, 1) := by decide +kernel
theorem kd_Mo_rungCode_14 : decode kc_Mo_rungCode 14 = .ok (.iload_n 1, 1) := by decide +kernel
theorem kd_Mo_rungCode_15 : decode kc_Mo_rungCode 15 = .ok (.iload_n 3, 1) := by decide +kernel
theorem kd_Mo_rungCode_16 : decode kc_Mo_rungCode 16 = .ok (.invokevirtual 744, 3) := by decide +kernel
theorem kd_Mo_rungCode_19 : decode kc_Mo_rungCode 19 = .ok (.ifCond .lt 9, 3) := by decide +kernel
theorem kd_Mo_rungCode_22 : decode kc_Mo_rungCode 22 = .ok (.iinc 3 1, 3) := by decide +kernel
theorem kd_Mo_rungCode_25 : decode kc_Mo_rungCode 25 = .ok (.goto (-12), 3) := by decide +kernel
theorem kd_Mo_rungCode_28 : decode kc_Mo_rungCode 28 = .ok (.iconst 1, 1) := by decide +kernel
theorem kd_Mo_rungCode_29 : decode kc_Mo_rungCode 29 = .ok (.istore 4, 2) := by decide +kernel
theorem kd_Mo_rungCode_31 : decode kc_Mo_rungCode 31 = .ok (.iload 4, 2) := by decide +kernel
theorem kd_Mo_rungCode_33 : decode kc_Mo_rungCode 33 = .ok (.iload_n 2, 1) := by decide +kernel
theorem kd_Mo_rungCode_34 : decode kc_Mo_rungCode 34 = .ok (.if_icmp .gt 91, 3) := by decide +kernel
theorem kd_Mo_rungCode_37 : decode kc_Mo_rungCode 37 = .ok (.iconst 0, 1) := by decide +kernel
theorem kd_Mo_rungCode_38 : decode kc_Mo_rungCode 38 = .ok (.istore 5, 2) := by decide +kernel
theorem kd_Mo_rungCode_40 : decode kc_Mo_rungCode 40 = .ok (.iload 5, 2) := by decide +kernel
theorem kd_Mo_rungCode_42 : decode kc_Mo_rungCode 42 = .ok (.iload_n 3, 1) := by decide +kernel
theorem kd_Mo_rungCode_43 : decode kc_Mo_rungCode 43 = .ok (.if_icmp .ge 76, 3) := by decide +kernel
theorem kd_Mo_rungCode_46 : decode kc_Mo_rungCode 46 = .ok (.iload 4, 2) := by decide +kernel
theorem kd_Mo_rungCode_48 : decode kc_Mo_rungCode 48 = .ok (.iload_n 2, 1) := by decide +kernel
theorem kd_Mo_rungCode_49 : decode kc_Mo_rungCode 49 = .ok (.if_icmp .ne 32, 3) := by decide +kernel
theorem kd_Mo_rungCode_52 : decode kc_Mo_rungCode 52 = .ok (.aload_n 0, 1) := by decide +kernel
theorem kd_Mo_rungCode_53 : decode kc_Mo_rungCode 53 = .ok (.getfield 22, 3) := by decide +kernel
theorem kd_Mo_rungCode_56 : decode kc_Mo_rungCode 56 = .ok (.aload_n 0, 1) := by decide +kernel
theorem kd_Mo_rungCode_57 : decode kc_Mo_rungCode 57 = .ok (.aload_n 0, 1) := by decide +kernel
theorem kd_Mo_rungCode_58 : decode kc_Mo_rungCode 58 = .ok (.iload_n 1, 1) := by decide +kernel
theorem kd_Mo_rungCode_59 : decode kc_Mo_rungCode 59 = .ok (.iload 5, 2) := by decide +kernel
theorem kd_Mo_rungCode_61 : decode kc_Mo_rungCode 61 = .ok (.invokevirtual 744, 3) := by decide +kernel
theorem kd_Mo_rungCode_64 : decode kc_Mo_rungCode 64 = .ok (.iload 4, 2) := by decide +kernel
theorem kd_Mo_rungCode_66 : decode kc_Mo_rungCode 66 = .ok (.iconst 1, 1) := by decide +kernel
theorem kd_Mo_rungCode_67 : decode kc_Mo_rungCode 67 = .ok (.isub, 1) := by decide +kernel
theorem kd_Mo_rungCode_68 : decode kc_Mo_rungCode 68 = .ok (.invokevirtual 753, 3) := by decide +kernel
theorem kd_Mo_rungCode_71 : decode kc_Mo_rungCode 71 = .ok (.iaload, 1) := by decide +kernel
theorem kd_Mo_rungCode_72 : decode kc_Mo_rungCode 72 = .ok (.bipush 28, 2) := by decide +kernel
theorem kd_Mo_rungCode_74 : decode kc_Mo_rungCode 74 = .ok (.if_icmp .ne 7, 3) := by decide +kernel
theorem kd_Mo_rungCode_77 : decode kc_Mo_rungCode 77 = .ok (.iconst 1, 1) := by decide +kernel
theorem kd_Mo_rungCode_78 : decode kc_Mo_rungCode 78 = .ok (.goto 4, 3) := by decide +kernel
theorem kd_Mo_rungCode_81 : decode kc_Mo_rungCode 81 = .ok (.iconst 0, 1) := by decide +kernel
theorem kd_Mo_rungCode_82 : decode kc_Mo_rungCode 82 = .ok (.istore 6, 2) := by decide +kernel
theorem kd_Mo_rungCode_84 : decode kc_Mo_rungCode 84 = .ok (.aload_n 0, 1) := by decide +kernel
theorem kd_Mo_rungCode_85 : decode kc_Mo_rungCode 85 = .ok (.iload_n 1, 1) := by decide +kernel
theorem kd_Mo_rungCode_86 : decode kc_Mo_rungCode 86 = .ok (.iload 5, 2) := by decide +kernel
theorem kd_Mo_rungCode_88 : decode kc_Mo_rungCode 88 = .ok (.iload 4, 2) := by decide +kernel
theorem kd_Mo_rungCode_90 : decode kc_Mo_rungCode 90 = .ok (.invokevirtual 750, 3) := by decide +kernel
theorem kd_Mo_rungCode_93 : decode kc_Mo_rungCode 93 = .ok (.iload 5, 2) := by decide +kernel
theorem kd_Mo_rungCode_95 : decode kc_Mo_rungCode 95 = .ok (.if_icmp .ne 18, 3) := by decide +kernel
theorem kd_Mo_rungCode_98 : decode kc_Mo_rungCode 98 = .ok (.iload 6, 2) := by decide +kernel
theorem kd_Mo_rungCode_100 : decode kc_Mo_rungCode 100 = .ok (.ifCond .ne 13, 3) := by decide +kernel
theorem kd_Mo_rungCode_103 : decode kc_Mo_rungCode 103 = .ok (.aload_n 0, 1) := by decide +kernel
theorem kd_Mo_rungCode_104 : decode kc_Mo_rungCode 104 = .ok (.iload_n 1, 1) := by decide +kernel
theorem kd_Mo_rungCode_105 : decode kc_Mo_rungCode 105 = .ok (.iload_n 3, 1) := by decide +kernel
theorem kd_Mo_rungCode_106 : decode kc_Mo_rungCode 106 = .ok (.iload 5, 2) := by decide +kernel
theorem kd_Mo_rungCode_108 : decode kc_Mo_rungCode 108 = .ok (.iload 4, 2) := by decide +kernel
theorem kd_Mo_rungCode_110 : decode kc_Mo_rungCode 110 = .ok (.invokevirtual 756, 3) := by decide +kernel
theorem kd_Mo_rungCode_113 : decode kc_Mo_rungCode 113 = .ok (.iinc 5 1, 3) := by decide +kernel
theorem kd_Mo_rungCode_116 : decode kc_Mo_rungCode 116 = .ok (.goto (-76), 3) := by decide +kernel
theorem kd_Mo_rungCode_119 : decode kc_Mo_rungCode 119 = .ok (.iinc 4 1, 3) := by decide +kernel
theorem kd_Mo_rungCode_122 : decode kc_Mo_rungCode 122 = .ok (.goto (-91), 3) := by decide +kernel
theorem kd_Mo_rungCode_125 : decode kc_Mo_rungCode 125 = .ok (.iconst 0, 1) := by decide +kernel
theorem kd_Mo_rungCode_126 : decode kc_Mo_rungCode 126 = .ok (.istore 4, 2) := by decide +kernel
theorem kd_Mo_rungCode_128 : decode kc_Mo_rungCode 128 = .ok (.iload 4, 2) := by decide +kernel
theorem kd_Mo_rungCode_130 : decode kc_Mo_rungCode 130 = .ok (.iload_n 3, 1) := by decide +kernel
theorem kd_Mo_rungCode_131 : decode kc_Mo_rungCode 131 = .ok (.if_icmp .ge 62, 3) := by decide +kernel
theorem kd_Mo_rungCode_134 : decode kc_Mo_rungCode 134 = .ok (.aload_n 0, 1) := by decide +kernel
theorem kd_Mo_rungCode_135 : decode kc_Mo_rungCode 135 = .ok (.aload_n 0, 1) := by decide +kernel
theorem kd_Mo_rungCode_136 : decode kc_Mo_rungCode 136 = .ok (.iload_n 1, 1) := by decide +kernel
theorem kd_Mo_rungCode_137 : decode kc_Mo_rungCode 137 = .ok (.iload 4, 2) := by decide +kernel
theorem kd_Mo_rungCode_139 : decode kc_Mo_rungCode 139 = .ok (.invokevirtual 744, 3) := by decide +kernel
theorem kd_Mo_rungCode_142 : decode kc_Mo_rungCode 142 = .ok (.iload_n 2, 1) := by decide +kernel
theorem kd_Mo_rungCode_143 : decode kc_Mo_rungCode 143 = .ok (.iconst 1, 1) := by decide +kernel
theorem kd_Mo_rungCode_144 : decode kc_Mo_rungCode 144 = .ok (.isub, 1) := by decide +kernel
theorem kd_Mo_rungCode_145 : decode kc_Mo_rungCode 145 = .ok (.invokevirtual 753, 3) := by decide +kernel
theorem kd_Mo_rungCode_148 : decode kc_Mo_rungCode 148 = .ok (.istore 5, 2) := by decide +kernel
theorem kd_Mo_rungCode_150 : decode kc_Mo_rungCode 150 = .ok (.aload_n 0, 1) := by decide +kernel
theorem kd_Mo_rungCode_151 : decode kc_Mo_rungCode 151 = .ok (.getfield 22, 3) := by decide +kernel
theorem kd_Mo_rungCode_154 : decode kc_Mo_rungCode 154 = .ok (.iload 5, 2) := by decide +kernel
theorem kd_Mo_rungCode_156 : decode kc_Mo_rungCode 156 = .ok (.iaload, 1) := by decide +kernel
theorem kd_Mo_rungCode_157 : decode kc_Mo_rungCode 157 = .ok (.bipush 28, 2) := by decide +kernel
theorem kd_Mo_rungCode_159 : decode kc_Mo_rungCode 159 = .ok (.if_icmp .ne 28, 3) := by decide +kernel
theorem kd_Mo_rungCode_162 : decode kc_Mo_rungCode 162 = .ok (.aload_n 0, 1) := by decide +kernel
theorem kd_Mo_rungCode_163 : decode kc_Mo_rungCode 163 = .ok (.iload 5, 2) := by decide +kernel
theorem kd_Mo_rungCode_165 : decode kc_Mo_rungCode 165 = .ok (.iload_n 2, 1) := by decide +kernel
theorem kd_Mo_rungCode_166 : decode kc_Mo_rungCode 166 = .ok (.iconst 1, 1) := by decide +kernel
theorem kd_Mo_rungCode_167 : decode kc_Mo_rungCode 167 = .ok (.if_icmp .le 16, 3) := by decide +kernel
theorem kd_Mo_rungCode_170 : decode kc_Mo_rungCode 170 = .ok (.aload_n 0, 1) := by decide +kernel
theorem kd_Mo_rungCode_171 : decode kc_Mo_rungCode 171 = .ok (.iload_n 1, 1) := by decide +kernel
theorem kd_Mo_rungCode_172 : decode kc_Mo_rungCode 172 = .ok (.iload 4, 2) := by decide +kernel
theorem kd_Mo_rungCode_174 : decode kc_Mo_rungCode 174 = .ok (.iload_n 2, 1) := by decide +kernel
theorem kd_Mo_rungCode_175 : decode kc_Mo_rungCode 175 = .ok (.iconst 1, 1) := by decide +kernel
theorem kd_Mo_rungCode_176 : decode kc_Mo_rungCode 176 = .ok (.isub, 1) := by decide +kernel
theorem kd_Mo_rungCode_177 : decode kc_Mo_rungCode 177 = .ok (.invokevirtual 759, 3) := by decide +kernel
theorem kd_Mo_rungCode_180 : decode kc_Mo_rungCode 180 = .ok (.goto 4, 3) := by decide +kernel
theorem kd_Mo_rungCode_183 : decode kc_Mo_rungCode 183 = .ok (.iconst (-1), 1) := by decide +kernel
theorem kd_Mo_rungCode_184 : decode kc_Mo_rungCode 184 = .ok (.invokevirtual 762, 3) := by decide +kernel
theorem kd_Mo_rungCode_187 : decode kc_Mo_rungCode 187 = .ok (.iinc 4 1, 3) := by decide +kernel
theorem kd_Mo_rungCode_190 : decode kc_Mo_rungCode 190 = .ok (.goto (-62), 3) := by decide +kernel
theorem kd_Mo_rungCode_193 : decode kc_Mo_rungCode 193 = .ok (.return_, 1) := by decide +kernel
theorem kd_Mo_target_0 : decode kc_Mo_target 0 = .ok (.aload_n 0, 1) := by decide +kernel
theorem kd_Mo_target_1 : decode kc_Mo_target 1 = .ok (.getfield 115, 3) := by decide +kernel
theorem kd_Mo_target_4 : decode kc_Mo_target 4 = .ok (.iload_n 1, 1) := by decide +kernel
theorem kd_Mo_target_5 : decode kc_Mo_target 5 = .ok (.iaload, 1) := by decide +kernel
theorem kd_Mo_target_6 : decode kc_Mo_target 6 = .ok (.iload_n 2, 1) := by decide +kernel
theorem kd_Mo_target_7 : decode kc_Mo_target 7 = .ok (.iadd, 1) := by decide +kernel
theorem kd_Mo_target_8 : decode kc_Mo_target 8 = .ok (.istore_n 3, 1) := by decide +kernel
theorem kd_Mo_target_9 : decode kc_Mo_target 9 = .ok (.aload_n 0, 1) := by decide +kernel
theorem kd_Mo_target_10 : decode kc_Mo_target 10 = .ok (.getfield 118, 3) := by decide +kernel
theorem kd_Mo_target_13 : decode kc_Mo_target 13 = .ok (.iload_n 3, 1) := by decide +kernel
theorem kd_Mo_target_14 : decode kc_Mo_target 14 = .ok (.iaload, 1) := by decide +kernel
theorem kd_Mo_target_15 : decode kc_Mo_target 15 = .ok (.tableswitch 69 10 18 #[49, 49, 69, 56, 49, 69, 69, 69, 63], 49) := by decide +kernel
theorem kd_Mo_target_64 : decode kc_Mo_target 64 = .ok (.aload_n 0, 1) := by decide +kernel
theorem kd_Mo_target_65 : decode kc_Mo_target 65 = .ok (.getfield 121, 3) := by decide +kernel
theorem kd_Mo_target_68 : decode kc_Mo_target 68 = .ok (.iload_n 3, 1) := by decide +kernel
theorem kd_Mo_target_69 : decode kc_Mo_target 69 = .ok (.iaload, 1) := by decide +kernel
theorem kd_Mo_target_70 : decode kc_Mo_target 70 = .ok (.ireturn, 1) := by decide +kernel
theorem kd_Mo_target_71 : decode kc_Mo_target 71 = .ok (.aload_n 0, 1) := by decide +kernel
theorem kd_Mo_target_72 : decode kc_Mo_target 72 = .ok (.getfield 124, 3) := by decide +kernel
theorem kd_Mo_target_75 : decode kc_Mo_target 75 = .ok (.iload_n 3, 1) := by decide +kernel
theorem kd_Mo_target_76 : decode kc_Mo_target 76 = .ok (.iaload, 1) := by decide +kernel
theorem kd_Mo_target_77 : decode kc_Mo_target 77 = .ok (.ireturn, 1) := by decide +kernel
theorem kd_Mo_target_78 : decode kc_Mo_target 78 = .ok (.aload_n 0, 1) := by decide +kernel
theorem kd_Mo_target_79 : decode kc_Mo_target 79 = .ok (.iload_n 1, 1) := by decide +kernel
theorem kd_Mo_target_80 : decode kc_Mo_target 80 = .ok (.invokevirtual 768, 3) := by decide +kernel
theorem kd_Mo_target_83 : decode kc_Mo_target 83 = .ok (.ireturn, 1) := by decide +kernel
theorem kd_Mo_target_84 : decode kc_Mo_target 84 = .ok (.iconst (-1), 1) := by decide +kernel
theorem kd_Mo_target_85 : decode kc_Mo_target 85 = .ok (.ireturn, 1) := by decide +kernel
set_option maxHeartbeats 4000000 in
set_option maxRecDepth 100000 in
theorem zb_Mo_groupCode_132 {X : zkj_T} {S : zs_T} {P : ze_T} {l : Launch} {D : va_G} {sz0 : Nat} {rh : zs_H} (C : zk_C X km_Mo_groupCode (zs_G S l D sz0) { frames := 3, cells := 0, slots := 0, locals := 71 } (ze_E P)) (hR : zkj_R X (zd_PV S rh) (none)) {k9 : zs_H → Int32 → Int32 → Int32 → Int32 → Int32 → Int32 → (Option zs_H)} (hk9 : ∀ (h : zs_H) (x1 : Int32) (x2 : Int32) (x3 : Int32) (x4 : Int32) (x5 : Int32) (x7 : Int32), k9 h x1 x2 x3 x4 x5 x7 = some rh → zk_Ab X (zs_W S h) 0 0 9 [(0, .ref (S.1 68)), (1, .int x1), (2, .int x2), (3, .int x3), (4, .int x4), (5, .int x5), (7, .int x7)] []) (h : zs_H) (x1 : Int32) (x2 : Int32) (x3 : Int32) (x4 : Int32) (x5 : Int32) (x7 : Int32) (e : f_Mo_groupCode_132 k9 h x1 x2 x3 x4 x5 x7 = some rh) : zk_Ab X (zs_W S h) 0 0 132 [(0, .ref (S.1 68)), (1, .int x1), (2, .int x2), (3, .int x3), (4, .int x4), (5, .int x5), (7, .int x7)] [] := by
  unfold f_Mo_groupCode_132 at e
  refine zk_iinc (v := (x7 + 1)) (lv' := [(7, _), (0, _), (1, _), (2, _), (3, _), (4, _), (5, _)]) C kd_Mo_groupCode_132 6 rfl rfl (by decide) rfl rfl ?_
  refine zk_goto (tgt := 9) C kd_Mo_groupCode_135 (by decide) ?_
  refine zk_lvs (lv' := [(0, .ref (S.1 68)), (1, .int x1), (2, .int x2), (3, .int x3), (4, .int x4), (5, .int x5), (7, .int (x7 + 1))]) [1, 2, 3, 4, 5, 6, 0] rfl ?_
  exact hk9 h x1 x2 x3 x4 x5 (x7 + 1) e
set_option maxHeartbeats 4000000 in
set_option maxRecDepth 100000 in
theorem zb_Mo_groupCode_129 {X : zkj_T} {S : zs_T} {P : ze_T} {l : Launch} {D : va_G} {sz0 : Nat} {rh : zs_H} (C : zk_C X km_Mo_groupCode (zs_G S l D sz0) { frames := 3, cells := 0, slots := 0, locals := 71 } (ze_E P)) (hR : zkj_R X (zd_PV S rh) (none)) {k9 : zs_H → Int32 → Int32 → Int32 → Int32 → Int32 → Int32 → (Option zs_H)} (hk9 : ∀ (h : zs_H) (x1 : Int32) (x2 : Int32) (x3 : Int32) (x4 : Int32) (x5 : Int32) (x7 : Int32), k9 h x1 x2 x3 x4 x5 x7 = some rh → zk_Ab X (zs_W S h) 0 0 9 [(0, .ref (S.1 68)), (1, .int x1), (2, .int x2), (3, .int x3), (4, .int x4), (5, .int x5), (7, .int x7)] []) (h : zs_H) (x1 : Int32) (x2 : Int32) (x3 : Int32) (x4 : Int32) (x5 : Int32) (x7 : Int32) (e : f_Mo_groupCode_129 k9 h x1 x2 x3 x4 x5 x7 = some rh) : zk_Ab X (zs_W S h) 0 0 129 [(0, .ref (S.1 68)), (1, .int x1), (2, .int x2), (3, .int x3), (4, .int x4), (5, .int x5), (7, .int x7)] [] := by
  unfold f_Mo_groupCode_129 at e
  refine zk_iinc (v := (x5 + 1)) (lv' := [(5, _), (0, _), (1, _), (2, _), (3, _), (4, _), (7, _)]) C kd_Mo_groupCode_129 5 rfl rfl (by decide) rfl rfl ?_
  refine zk_lvs (lv' := [(0, .ref (S.1 68)), (1, .int x1), (2, .int x2), (3, .int x3), (4, .int x4), (5, .int (x5 + 1)), (7, .int x7)]) [1, 2, 3, 4, 5, 0, 6] rfl ?_
  exact zb_Mo_groupCode_132 C hR hk9 h x1 x2 x3 x4 (x5 + 1) x7 e
set_option maxHeartbeats 4000000 in
set_option maxRecDepth 100000 in
theorem zb_Mo_groupCode_112 {X : zkj_T} {S : zs_T} {P : ze_T} {l : Launch} {D : va_G} {sz0 : Nat} {rh : zs_H} (C : zk_C X km_Mo_groupCode (zs_G S l D sz0) { frames := 3, cells := 0, slots := 0, locals := 71 } (ze_E P)) (hR : zkj_R X (zd_PV S rh) (none)) {k9 : zs_H → Int32 → Int32 → Int32 → Int32 → Int32 → Int32 → (Option zs_H)} (hk9 : ∀ (h : zs_H) (x1 : Int32) (x2 : Int32) (x3 : Int32) (x4 : Int32) (x5 : Int32) (x7 : Int32), k9 h x1 x2 x3 x4 x5 x7 = some rh → zk_Ab X (zs_W S h) 0 0 9 [(0, .ref (S.1 68)), (1, .int x1), (2, .int x2), (3, .int x3), (4, .int x4), (5, .int x5), (7, .int x7)] []) (h : zs_H) (x1 : Int32) (x2 : Int32) (x3 : Int32) (x4 : Int32) (x5 : Int32) (x7 : Int32) (e : f_Mo_groupCode_112 k9 h x1 x2 x3 x4 x5 x7 = some rh) : zk_Ab X (zs_W S h) 0 0 112 [(0, .ref (S.1 68)), (1, .int x1), (2, .int x2), (3, .int x3), (4, .int x4), (5, .int x5), (7, .int x7)] [] := by
  unfold f_Mo_groupCode_112 at e
  refine zk_iload C kd_Mo_groupCode_112 5 rfl rfl ?_
  refine zk_if_le (tgt := 129) C kd_Mo_groupCode_114 (by decide) rfl (fun b1 => ?_) (fun b1 => ?_)
  · replace e := zd_pos b1 e
    refine zk_lvs (lv' := [(0, .ref (S.1 68)), (1, .int x1), (2, .int x2), (3, .int x3), (4, .int x4), (5, .int x5), (7, .int x7)]) [0, 1, 2, 3, 4, 5, 6] rfl ?_
    exact zb_Mo_groupCode_129 C hR hk9 h x1 x2 x3 x4 x5 x7 e
  · replace e := zd_neg b1 e
    refine zk_aload_n C kd_Mo_groupCode_117 rfl 0 rfl rfl ?_
    refine zk_bipush (v := 7) C kd_Mo_groupCode_118 (by decide) rfl ?_
    refine zk_bipush (v := 11) C kd_Mo_groupCode_120 (by decide) rfl ?_
    refine zk_iconst (v := 0) C kd_Mo_groupCode_122 (by decide) rfl ?_
    refine zk_iconst (v := 0) C kd_Mo_groupCode_123 (by decide) rfl ?_
    obtain ⟨v3, h4, c2, e⟩ := zd_Be e
    refine zs_callV (k := 68) (rn := { frames := 0, cells := 0, slots := 0, locals := 0 }) (As := [.int 7, .int 11, .int 0, .int 0]) (rest := []) C (zc_Mo_emit h 7 11 0 0 c2) ku_Mo_emit kw2524 kv_Mo_emit rfl ⟨by decide, by decide⟩ ⟨by decide, by decide⟩ rfl rfl rfl (Nat.le_of_ble_eq_true rfl) kd_Mo_groupCode_124 rfl (c1 := 0) (s1 := 0) rfl rfl (fun v w hp => ?_)
    obtain ⟨rfl, rfl⟩ := hp
    refine zk_stk (r' := [.int v3]) rfl ?_
    refine zk_istore (lv' := [(6, _), (0, _), (1, _), (2, _), (3, _), (4, _), (5, _), (7, _)]) C kd_Mo_groupCode_127 (by decide) rfl rfl ?_
    refine zk_lvs (lv' := [(0, .ref (S.1 68)), (1, .int x1), (2, .int x2), (3, .int x3), (4, .int x4), (5, .int x5), (7, .int x7)]) [1, 2, 3, 4, 5, 6, 7] rfl ?_
    exact zb_Mo_groupCode_129 C hR hk9 h4 x1 x2 x3 x4 x5 x7 e
set_option maxHeartbeats 4000000 in
set_option maxRecDepth 100000 in
theorem zb_Mo_groupCode_92 {X : zkj_T} {S : zs_T} {P : ze_T} {l : Launch} {D : va_G} {sz0 : Nat} {rh : zs_H} (C : zk_C X km_Mo_groupCode (zs_G S l D sz0) { frames := 3, cells := 0, slots := 0, locals := 71 } (ze_E P)) (hR : zkj_R X (zd_PV S rh) (none)) {k9 : zs_H → Int32 → Int32 → Int32 → Int32 → Int32 → Int32 → (Option zs_H)} (hk9 : ∀ (h : zs_H) (x1 : Int32) (x2 : Int32) (x3 : Int32) (x4 : Int32) (x5 : Int32) (x7 : Int32), k9 h x1 x2 x3 x4 x5 x7 = some rh → zk_Ab X (zs_W S h) 0 0 9 [(0, .ref (S.1 68)), (1, .int x1), (2, .int x2), (3, .int x3), (4, .int x4), (5, .int x5), (7, .int x7)] []) (h : zs_H) (x1 : Int32) (x2 : Int32) (x3 : Int32) (x4 : Int32) (x5 : Int32) (x7 : Int32) (x8 : Int32) (y0 : Int32) (e : f_Mo_groupCode_92 k9 h x1 x2 x3 x4 x5 x7 x8 y0 = some rh) : zk_Ab X (zs_W S h) 0 0 92 [(0, .ref (S.1 68)), (1, .int x1), (2, .int x2), (3, .int x3), (4, .int x4), (5, .int x5), (7, .int x7), (8, .int x8)] [.int y0] := by
  unfold f_Mo_groupCode_92 at e
  refine zk_istore (lv' := [(6, _), (0, _), (1, _), (2, _), (3, _), (4, _), (5, _), (7, _), (8, _)]) C kd_Mo_groupCode_92 (by decide) rfl rfl ?_
  refine zk_aload_n C kd_Mo_groupCode_94 rfl 1 rfl rfl ?_
  refine zs_get (v := .ref (S.1 72)) C 68 15 rfl rfl rfl rfl ki_Mo (by decide) kw1698 kd_Mo_groupCode_95 rfl ?_
  refine zk_iload C kd_Mo_groupCode_98 8 rfl rfl ?_
  obtain ⟨q1, e⟩ := zd_g e
  refine zs_iald C 72 rfl (zd_vp q1) kd_Mo_groupCode_100 rfl ?_
  refine zk_bipush (v := 25) C kd_Mo_groupCode_101 (by decide) rfl ?_
  refine zk_icmp_ne (tgt := 112) C kd_Mo_groupCode_103 (by decide) rfl (fun b2 => ?_) (fun b2 => ?_)
  · replace e := zd_neg b2 e
    refine zk_lvs (lv' := [(0, .ref (S.1 68)), (1, .int x1), (2, .int x2), (3, .int x3), (4, .int x4), (5, .int x5), (7, .int x7)]) [1, 2, 3, 4, 5, 6, 7] rfl ?_
    exact zb_Mo_groupCode_112 C hR hk9 h x1 x2 x3 x4 x5 x7 e
  · replace e := zd_pos b2 e
    refine zk_aload_n C kd_Mo_groupCode_106 rfl 1 rfl rfl ?_
    refine zk_iload C kd_Mo_groupCode_107 8 rfl rfl ?_
    obtain ⟨h4, c3, e⟩ := zd_b e
    refine zs_callV (k := 68) (rn := { frames := 1, cells := 0, slots := 0, locals := 24 }) (As := [.int x8]) (rest := []) C (zc_Mo_contactCode h x8 c3) ku_Mo_contactCode kw2652 kv_Mo_contactCode rfl ⟨by decide, by decide⟩ ⟨by decide, by decide⟩ rfl rfl rfl (Nat.le_of_ble_eq_true rfl) kd_Mo_groupCode_109 rfl (c1 := 0) (s1 := 0) rfl rfl (fun v w hp => ?_)
    obtain ⟨rfl, rfl⟩ := hp
    refine zk_stk (r' := []) rfl ?_
    refine zk_lvs (lv' := [(0, .ref (S.1 68)), (1, .int x1), (2, .int x2), (3, .int x3), (4, .int x4), (5, .int x5), (7, .int x7)]) [1, 2, 3, 4, 5, 6, 7] rfl ?_
    exact zb_Mo_groupCode_112 C hR hk9 h4 x1 x2 x3 x4 x5 x7 e
set_option maxHeartbeats 4000000 in
set_option maxRecDepth 100000 in
theorem zb_Mo_groupCode_153 {X : zkj_T} {S : zs_T} {P : ze_T} {l : Launch} {D : va_G} {sz0 : Nat} {rh : zs_H} (C : zk_C X km_Mo_groupCode (zs_G S l D sz0) { frames := 3, cells := 0, slots := 0, locals := 71 } (ze_E P)) (hR : zkj_R X (zd_PV S rh) (none)) (h : zs_H) (x1 : Int32) (x3 : Int32) (x4 : Int32) (e : f_Mo_groupCode_153 h x1 x3 x4 = some rh) : zk_Ab X (zs_W S h) 0 0 153 [(0, .ref (S.1 68)), (1, .int x1), (3, .int x3), (4, .int x4)] [] := by
  unfold f_Mo_groupCode_153 at e
  refine zk_aload_n C kd_Mo_groupCode_153 rfl 0 rfl rfl ?_
  refine zk_iconst (v := 2) C kd_Mo_groupCode_154 (by decide) rfl ?_
  refine zk_aload_n C kd_Mo_groupCode_155 rfl 0 rfl rfl ?_
  refine zk_iload_n C kd_Mo_groupCode_156 rfl 1 rfl rfl ?_
  refine zk_iload_n C kd_Mo_groupCode_157 rfl 2 rfl rfl ?_
  refine zk_iload C kd_Mo_groupCode_158 3 rfl rfl ?_
  obtain ⟨v2, c1, e⟩ := zd_b e
  refine zs_callV (k := 68) (rn := { frames := 2, cells := 0, slots := 0, locals := 48 }) (As := [.int x1, .int x3, .int x4]) (rest := [.int 2, .ref (S.1 68)]) C (zc_Mo_powerCell h x1 x3 x4 c1) ku_Mo_powerCell kw2648 kv_Mo_powerCell rfl ⟨by decide, by decide⟩ ⟨by decide, by decide⟩ rfl rfl rfl (Nat.le_of_ble_eq_true rfl) kd_Mo_groupCode_160 rfl (c1 := 0) (s1 := 0) rfl rfl (fun v w hp => ?_)
  obtain ⟨rfl, rfl⟩ := hp
  refine zk_stk (r' := [.int v2, .int 2, .ref (S.1 68)]) rfl ?_
  refine zk_iconst (v := 0) C kd_Mo_groupCode_163 (by decide) rfl ?_
  refine zk_iconst (v := 0) C kd_Mo_groupCode_164 (by decide) rfl ?_
  obtain ⟨v4, h5, c3, e⟩ := zd_Be e
  refine zs_callV (k := 68) (rn := { frames := 0, cells := 0, slots := 0, locals := 0 }) (As := [.int 2, .int v2, .int 0, .int 0]) (rest := []) C (zc_Mo_emit h 2 v2 0 0 c3) ku_Mo_emit kw2524 kv_Mo_emit rfl ⟨by decide, by decide⟩ ⟨by decide, by decide⟩ rfl rfl rfl (Nat.le_of_ble_eq_true rfl) kd_Mo_groupCode_165 rfl (c1 := 0) (s1 := 0) rfl rfl (fun v w hp => ?_)
  obtain ⟨rfl, rfl⟩ := hp
  refine zk_stk (r' := [.int v4]) rfl ?_
  refine zk_istore (lv' := [(6, _), (0, _), (1, _), (3, _), (4, _)]) C kd_Mo_groupCode_168 (by decide) rfl rfl ?_
  exact zk_vret C hR kd_Mo_groupCode_170 rfl rfl (zd_rV e)
set_option maxHeartbeats 4000000 in
set_option maxRecDepth 100000 in
theorem zb_Mo_groupCode_138 {X : zkj_T} {S : zs_T} {P : ze_T} {l : Launch} {D : va_G} {sz0 : Nat} {rh : zs_H} (C : zk_C X km_Mo_groupCode (zs_G S l D sz0) { frames := 3, cells := 0, slots := 0, locals := 71 } (ze_E P)) (hR : zkj_R X (zd_PV S rh) (none)) (h : zs_H) (x1 : Int32) (x3 : Int32) (x4 : Int32) (x5 : Int32) (e : f_Mo_groupCode_138 h x1 x3 x4 x5 = some rh) : zk_Ab X (zs_W S h) 0 0 138 [(0, .ref (S.1 68)), (1, .int x1), (3, .int x3), (4, .int x4), (5, .int x5)] [] := by
  unfold f_Mo_groupCode_138 at e
  refine zk_iload C kd_Mo_groupCode_138 4 rfl rfl ?_
  refine zk_if_ne (tgt := 153) C kd_Mo_groupCode_140 (by decide) rfl (fun b1 => ?_) (fun b1 => ?_)
  · replace e := zd_neg b1 e
    refine zk_lvs (lv' := [(0, .ref (S.1 68)), (1, .int x1), (3, .int x3), (4, .int x4)]) [0, 1, 2, 3] rfl ?_
    exact zb_Mo_groupCode_153 C hR h x1 x3 x4 e
  · replace e := zd_pos b1 e
    refine zk_aload_n C kd_Mo_groupCode_143 rfl 0 rfl rfl ?_
    refine zk_iconst (v := 0) C kd_Mo_groupCode_144 (by decide) rfl ?_
    refine zk_iconst (v := 0) C kd_Mo_groupCode_145 (by decide) rfl ?_
    refine zk_iconst (v := 0) C kd_Mo_groupCode_146 (by decide) rfl ?_
    refine zk_iconst (v := 0) C kd_Mo_groupCode_147 (by decide) rfl ?_
    obtain ⟨v3, h4, c2, e⟩ := zd_Be e
    refine zs_callV (k := 68) (rn := { frames := 0, cells := 0, slots := 0, locals := 0 }) (As := [.int 0, .int 0, .int 0, .int 0]) (rest := []) C (zc_Mo_emit h 0 0 0 0 c2) ku_Mo_emit kw2524 kv_Mo_emit rfl ⟨by decide, by decide⟩ ⟨by decide, by decide⟩ rfl rfl rfl (Nat.le_of_ble_eq_true rfl) kd_Mo_groupCode_148 rfl (c1 := 0) (s1 := 0) rfl rfl (fun v w hp => ?_)
    obtain ⟨rfl, rfl⟩ := hp
    refine zk_stk (r' := [.int v3]) rfl ?_
    refine zk_istore (lv' := [(6, _), (0, _), (1, _), (3, _), (4, _), (5, _)]) C kd_Mo_groupCode_151 (by decide) rfl rfl ?_
    refine zk_lvs (lv' := [(0, .ref (S.1 68)), (1, .int x1), (3, .int x3), (4, .int x4)]) [1, 2, 3, 4] rfl ?_
    exact zb_Mo_groupCode_153 C hR h4 x1 x3 x4 e
set_option maxHeartbeats 4000000 in
set_option maxRecDepth 100000 in
theorem zb_Mo_groupCode_9 {X : zkj_T} {S : zs_T} {P : ze_T} {l : Launch} {D : va_G} {sz0 : Nat} {rh : zs_H} (C : zk_C X km_Mo_groupCode (zs_G S l D sz0) { frames := 3, cells := 0, slots := 0, locals := 71 } (ze_E P)) (hR : zkj_R X (zd_PV S rh) (none)) {k9 : zs_H → Int32 → Int32 → Int32 → Int32 → Int32 → Int32 → (Option zs_H)} (hk9 : ∀ (h : zs_H) (x1 : Int32) (x2 : Int32) (x3 : Int32) (x4 : Int32) (x5 : Int32) (x7 : Int32), k9 h x1 x2 x3 x4 x5 x7 = some rh → zk_Ab X (zs_W S h) 0 0 9 [(0, .ref (S.1 68)), (1, .int x1), (2, .int x2), (3, .int x3), (4, .int x4), (5, .int x5), (7, .int x7)] []) (h : zs_H) (x1 : Int32) (x2 : Int32) (x3 : Int32) (x4 : Int32) (x5 : Int32) (x7 : Int32) (e : f_Mo_groupCode_9 k9 h x1 x2 x3 x4 x5 x7 = some rh) : zk_Ab X (zs_W S h) 0 0 9 [(0, .ref (S.1 68)), (1, .int x1), (2, .int x2), (3, .int x3), (4, .int x4), (5, .int x5), (7, .int x7)] [] := by
  unfold f_Mo_groupCode_9 at e
  refine zk_iload C kd_Mo_groupCode_9 6 rfl rfl ?_
  refine zk_iload_n C kd_Mo_groupCode_11 rfl 2 rfl rfl ?_
  refine zk_icmp_ge (tgt := 138) C kd_Mo_groupCode_12 (by decide) rfl (fun b1 => ?_) (fun b1 => ?_)
  · replace e := zd_pos b1 e
    refine zk_lvs (lv' := [(0, .ref (S.1 68)), (1, .int x1), (3, .int x3), (4, .int x4), (5, .int x5)]) [0, 1, 3, 4, 5] rfl ?_
    exact zb_Mo_groupCode_138 C hR h x1 x3 x4 x5 e
  · replace e := zd_neg b1 e
    refine zk_aload_n C kd_Mo_groupCode_15 rfl 0 rfl rfl ?_
    refine zk_iload_n C kd_Mo_groupCode_16 rfl 1 rfl rfl ?_
    refine zk_iload C kd_Mo_groupCode_17 6 rfl rfl ?_
    refine zk_iload C kd_Mo_groupCode_19 4 rfl rfl ?_
    obtain ⟨v3, c2, e⟩ := zd_b e
    refine zs_callV (k := 68) (rn := { frames := 1, cells := 0, slots := 0, locals := 24 }) (As := [.int x1, .int x7, .int x4]) (rest := []) C (zc_Mo_leastRow h x1 x7 x4 c2) ku_Mo_leastRow kw2636 kv_Mo_leastRow rfl ⟨by decide, by decide⟩ ⟨by decide, by decide⟩ rfl rfl rfl (Nat.le_of_ble_eq_true rfl) kd_Mo_groupCode_21 rfl (c1 := 0) (s1 := 0) rfl rfl (fun v w hp => ?_)
    obtain ⟨rfl, rfl⟩ := hp
    refine zk_stk (r' := [.int v3]) rfl ?_
    refine zk_iload_n C kd_Mo_groupCode_24 rfl 3 rfl rfl ?_
    refine zk_icmp_ne (tgt := 138) C kd_Mo_groupCode_25 (by decide) rfl (fun b4 => ?_) (fun b4 => ?_)
    · replace e := zd_neg b4 e
      refine zk_lvs (lv' := [(0, .ref (S.1 68)), (1, .int x1), (3, .int x3), (4, .int x4), (5, .int x5)]) [0, 1, 3, 4, 5] rfl ?_
      exact zb_Mo_groupCode_138 C hR h x1 x3 x4 x5 e
    · replace e := zd_pos b4 e
      refine zk_aload_n C kd_Mo_groupCode_28 rfl 0 rfl rfl ?_
      refine zk_aload_n C kd_Mo_groupCode_29 rfl 0 rfl rfl ?_
      refine zk_iload_n C kd_Mo_groupCode_30 rfl 1 rfl rfl ?_
      refine zk_iload C kd_Mo_groupCode_31 6 rfl rfl ?_
      obtain ⟨v6, c5, e⟩ := zd_b e
      refine zs_callV (k := 68) (rn := { frames := 0, cells := 0, slots := 0, locals := 0 }) (As := [.int x1, .int x7]) (rest := [.ref (S.1 68)]) C (zc_Mo_rowOf h x1 x7 c5) ku_Mo_rowOf kw2628 kv_Mo_rowOf rfl ⟨by decide, by decide⟩ ⟨by decide, by decide⟩ rfl rfl rfl (Nat.le_of_ble_eq_true rfl) kd_Mo_groupCode_33 rfl (c1 := 0) (s1 := 0) rfl rfl (fun v w hp => ?_)
      obtain ⟨rfl, rfl⟩ := hp
      refine zk_stk (r' := [.int v6, .ref (S.1 68)]) rfl ?_
      refine zk_iload C kd_Mo_groupCode_36 4 rfl rfl ?_
      refine zk_iconst (v := 1) C kd_Mo_groupCode_38 (by decide) rfl ?_
      refine zk_isub C kd_Mo_groupCode_39 rfl ?_
      obtain ⟨v8, c7, e⟩ := zd_b e
      refine zs_callV (k := 68) (rn := { frames := 0, cells := 0, slots := 0, locals := 0 }) (As := [.int v6, .int (x4 - 1)]) (rest := []) C (zc_Mo_cellOf h v6 (x4 - 1) c7) ku_Mo_cellOf kw2632 kv_Mo_cellOf rfl ⟨by decide, by decide⟩ ⟨by decide, by decide⟩ rfl rfl rfl (Nat.le_of_ble_eq_true rfl) kd_Mo_groupCode_40 rfl (c1 := 0) (s1 := 0) rfl rfl (fun v w hp => ?_)
      obtain ⟨rfl, rfl⟩ := hp
      refine zk_stk (r' := [.int v8]) rfl ?_
      refine zk_istore (lv' := [(8, _), (0, _), (1, _), (2, _), (3, _), (4, _), (5, _), (7, _)]) C kd_Mo_groupCode_43 (by decide) rfl rfl ?_
      refine zk_aload_n C kd_Mo_groupCode_45 rfl 1 rfl rfl ?_
      refine zs_get (v := .ref (S.1 72)) C 68 15 rfl rfl rfl rfl ki_Mo (by decide) kw1698 kd_Mo_groupCode_46 rfl ?_
      refine zk_iload C kd_Mo_groupCode_49 0 rfl rfl ?_
      obtain ⟨q9, e⟩ := zd_g e
      refine zs_iald C 72 rfl (zd_vp q9) kd_Mo_groupCode_51 rfl ?_
      refine zk_bipush (v := 27) C kd_Mo_groupCode_52 (by decide) rfl ?_
      refine zk_icmp_eq (tgt := 132) C kd_Mo_groupCode_54 (by decide) rfl (fun b10 => ?_) (fun b10 => ?_)
      · replace e := zd_pos b10 e
        refine zk_lvs (lv' := [(0, .ref (S.1 68)), (1, .int x1), (2, .int x2), (3, .int x3), (4, .int x4), (5, .int x5), (7, .int x7)]) [1, 2, 3, 4, 5, 6, 7] rfl ?_
        exact zb_Mo_groupCode_132 C hR hk9 h x1 x2 x3 x4 x5 x7 e
      · replace e := zd_neg b10 e
        refine zk_iload C kd_Mo_groupCode_57 5 rfl rfl ?_
        refine zk_iconst (v := 1) C kd_Mo_groupCode_59 (by decide) rfl ?_
        refine zk_icmp_ne (tgt := 74) C kd_Mo_groupCode_60 (by decide) rfl (fun b11 => ?_) (fun b11 => ?_)
        · replace e := zd_neg b11 e
          refine zk_aload_n C kd_Mo_groupCode_74 rfl 1 rfl rfl ?_
          refine zk_iconst (v := 1) C kd_Mo_groupCode_75 (by decide) rfl ?_
          refine zk_aload_n C kd_Mo_groupCode_76 rfl 1 rfl rfl ?_
          refine zk_iload_n C kd_Mo_groupCode_77 rfl 2 rfl rfl ?_
          refine zk_iload C kd_Mo_groupCode_78 7 rfl rfl ?_
          refine zk_iload C kd_Mo_groupCode_80 5 rfl rfl ?_
          refine zk_iconst (v := 1) C kd_Mo_groupCode_82 (by decide) rfl ?_
          refine zk_isub C kd_Mo_groupCode_83 rfl ?_
          obtain ⟨v13, c12, e⟩ := zd_b e
          refine zs_callV (k := 68) (rn := { frames := 2, cells := 0, slots := 0, locals := 48 }) (As := [.int x1, .int x7, .int (x4 - 1)]) (rest := [.int 1, .ref (S.1 68)]) C (zc_Mo_powerCell h x1 x7 (x4 - 1) c12) ku_Mo_powerCell kw2648 kv_Mo_powerCell rfl ⟨by decide, by decide⟩ ⟨by decide, by decide⟩ rfl rfl rfl (Nat.le_of_ble_eq_true rfl) kd_Mo_groupCode_84 rfl (c1 := 0) (s1 := 0) rfl rfl (fun v w hp => ?_)
          obtain ⟨rfl, rfl⟩ := hp
          refine zk_stk (r' := [.int v13, .int 1, .ref (S.1 68)]) rfl ?_
          refine zk_iconst (v := 0) C kd_Mo_groupCode_87 (by decide) rfl ?_
          refine zk_iconst (v := 0) C kd_Mo_groupCode_88 (by decide) rfl ?_
          obtain ⟨v15, h16, c14, e⟩ := zd_Be e
          refine zs_callV (k := 68) (rn := { frames := 0, cells := 0, slots := 0, locals := 0 }) (As := [.int 1, .int v13, .int 0, .int 0]) (rest := []) C (zc_Mo_emit h 1 v13 0 0 c14) ku_Mo_emit kw2524 kv_Mo_emit rfl ⟨by decide, by decide⟩ ⟨by decide, by decide⟩ rfl rfl rfl (Nat.le_of_ble_eq_true rfl) kd_Mo_groupCode_89 rfl (c1 := 0) (s1 := 0) rfl rfl (fun v w hp => ?_)
          obtain ⟨rfl, rfl⟩ := hp
          refine zk_stk (r' := [.int v15]) rfl ?_
          refine zk_lvs (lv' := [(0, .ref (S.1 68)), (1, .int x1), (2, .int x2), (3, .int x3), (4, .int x4), (5, .int x5), (7, .int x7), (8, .int v8)]) [1, 2, 3, 4, 5, 6, 7, 0] rfl ?_
          exact zb_Mo_groupCode_92 C hR hk9 h16 x1 x2 x3 x4 x5 x7 v8 v15 e
        · replace e := zd_pos b11 e
          refine zk_aload_n C kd_Mo_groupCode_63 rfl 1 rfl rfl ?_
          refine zk_iconst (v := 0) C kd_Mo_groupCode_64 (by decide) rfl ?_
          refine zk_iconst (v := 1) C kd_Mo_groupCode_65 (by decide) rfl ?_
          refine zk_iconst (v := 0) C kd_Mo_groupCode_66 (by decide) rfl ?_
          refine zk_iconst (v := 0) C kd_Mo_groupCode_67 (by decide) rfl ?_
          obtain ⟨v18, h19, c17, e⟩ := zd_Be e
          refine zs_callV (k := 68) (rn := { frames := 0, cells := 0, slots := 0, locals := 0 }) (As := [.int 0, .int 1, .int 0, .int 0]) (rest := []) C (zc_Mo_emit h 0 1 0 0 c17) ku_Mo_emit kw2524 kv_Mo_emit rfl ⟨by decide, by decide⟩ ⟨by decide, by decide⟩ rfl rfl rfl (Nat.le_of_ble_eq_true rfl) kd_Mo_groupCode_68 rfl (c1 := 0) (s1 := 0) rfl rfl (fun v w hp => ?_)
          obtain ⟨rfl, rfl⟩ := hp
          refine zk_stk (r' := [.int v18]) rfl ?_
          refine zk_goto (tgt := 92) C kd_Mo_groupCode_71 (by decide) ?_
          refine zk_lvs (lv' := [(0, .ref (S.1 68)), (1, .int x1), (2, .int x2), (3, .int x3), (4, .int x4), (5, .int x5), (7, .int x7), (8, .int v8)]) [1, 2, 3, 4, 5, 6, 7, 0] rfl ?_
          exact zb_Mo_groupCode_92 C hR hk9 h19 x1 x2 x3 x4 x5 x7 v8 v18 e
theorem zl_Mo_groupCode_9 {X : zkj_T} {S : zs_T} {P : ze_T} {l : Launch} {D : va_G} {sz0 : Nat} {rh : zs_H} (C : zk_C X km_Mo_groupCode (zs_G S l D sz0) { frames := 3, cells := 0, slots := 0, locals := 71 } (ze_E P)) (hR : zkj_R X (zd_PV S rh) (none)) (n : Nat) : ∀ (h : zs_H) (x1 : Int32) (x2 : Int32) (x3 : Int32) (x4 : Int32) (x5 : Int32) (x7 : Int32), f_Mo_groupCode_L9 n h x1 x2 x3 x4 x5 x7 = some rh → zk_Ab X (zs_W S h) 0 0 9 [(0, .ref (S.1 68)), (1, .int x1), (2, .int x2), (3, .int x3), (4, .int x4), (5, .int x5), (7, .int x7)] [] := by
  induction n with
  | zero => intro h x1 x2 x3 x4 x5 x7 e; exact zd_no e
  | succ n ih => intro h x1 x2 x3 x4 x5 x7 e; exact zb_Mo_groupCode_9 (k9 := f_Mo_groupCode_L9  n) C hR ih h x1 x2 x3 x4 x5 x7 e
set_option maxHeartbeats 4000000 in
set_option maxRecDepth 100000 in
theorem zc_Mo_groupCode {l : Launch} {D : va_G} {sz0 : Nat} {S : zs_T} {P : ze_T} (h : zs_H) (x1 : Int32) (x2 : Int32) (x3 : Int32) (x4 : Int32) {rh : zs_H} (e : f_Mo_groupCode h x1 x2 x3 x4 = some rh) : zk_Sp (zs_G S l D sz0) (ze_E P) km_Mo_groupCode { frames := 3, cells := 0, slots := 0, locals := 71 } [.ref (S.1 68), .int x1, .int x2, .int x3, .int x4] (zs_W S h) (zd_PV S rh) := by
  refine zk_met ku_Mo_groupCode (Nat.le_of_ble_eq_true rfl) (ze_Em P) ?_
  intro X C hR
  refine zk_lvs (lv' := [(0, .ref (S.1 68)), (1, .int x1), (2, .int x2), (3, .int x3), (4, .int x4)]) [0, 1, 2, 3, 4] rfl ?_
  unfold f_Mo_groupCode at e
  refine zk_iconst (v := 0) C kd_Mo_groupCode_0 (by decide) rfl ?_
  refine zk_istore (lv' := [(5, _), (0, _), (1, _), (2, _), (3, _), (4, _)]) C kd_Mo_groupCode_1 (by decide) rfl rfl ?_
  refine zk_iconst (v := 0) C kd_Mo_groupCode_3 (by decide) rfl ?_
  refine zk_istore (lv' := [(6, _), (5, _), (0, _), (1, _), (2, _), (3, _), (4, _)]) C kd_Mo_groupCode_4 (by decide) rfl rfl ?_
  refine zk_iload_n C kd_Mo_groupCode_6 rfl 5 rfl rfl ?_
  refine zk_istore (lv' := [(7, _), (6, _), (5, _), (0, _), (1, _), (2, _), (3, _), (4, _)]) C kd_Mo_groupCode_7 (by decide) rfl rfl ?_
  refine zk_lvs (lv' := [(0, .ref (S.1 68)), (1, .int x1), (2, .int x2), (3, .int x3), (4, .int x4), (5, .int 0), (7, .int x3)]) [3, 4, 5, 6, 7, 2, 0] rfl ?_
  exact zl_Mo_groupCode_9 C hR zF h x1 x2 x3 x4 0 x3 e
set_option maxHeartbeats 4000000 in
set_option maxRecDepth 100000 in
theorem zb_Mo_coilCode_116 {X : zkj_T} {S : zs_T} {P : ze_T} {l : Launch} {D : va_G} {sz0 : Nat} {rh : zs_H} (C : zk_C X km_Mo_coilCode (zs_G S l D sz0) { frames := 1, cells := 0, slots := 0, locals := 24 } (ze_E P)) (hR : zkj_R X (zd_PV S rh) (none)) (h : zs_H) (x3 : Int32) (e : f_Mo_coilCode_116 h x3 = some rh) : zk_Ab X (zs_W S h) 0 0 116 [(0, .ref (S.1 68)), (3, .int x3)] [] := by
  unfold f_Mo_coilCode_116 at e
  refine zk_aload_n C kd_Mo_coilCode_116 rfl 0 rfl rfl ?_
  refine zk_iconst (v := 2) C kd_Mo_coilCode_117 (by decide) rfl ?_
  refine zk_iload_n C kd_Mo_coilCode_118 rfl 1 rfl rfl ?_
  refine zk_iconst (v := 0) C kd_Mo_coilCode_119 (by decide) rfl ?_
  refine zk_iconst (v := 0) C kd_Mo_coilCode_120 (by decide) rfl ?_
  obtain ⟨v2, h3, c1, e⟩ := zd_Be e
  refine zs_callV (k := 68) (rn := { frames := 0, cells := 0, slots := 0, locals := 0 }) (As := [.int 2, .int x3, .int 0, .int 0]) (rest := []) C (zc_Mo_emit h 2 x3 0 0 c1) ku_Mo_emit kw2524 kv_Mo_emit rfl ⟨by decide, by decide⟩ ⟨by decide, by decide⟩ rfl rfl rfl (Nat.le_of_ble_eq_true rfl) kd_Mo_coilCode_121 rfl (c1 := 0) (s1 := 0) rfl rfl (fun v w hp => ?_)
  obtain ⟨rfl, rfl⟩ := hp
  refine zk_stk (r' := [.int v2]) rfl ?_
  refine zk_istore (lv' := [(5, _), (0, _), (3, _)]) C kd_Mo_coilCode_124 (by decide) rfl rfl ?_
  exact zk_vret C hR kd_Mo_coilCode_126 rfl rfl (zd_rV e)
set_option maxHeartbeats 4000000 in
set_option maxRecDepth 100000 in
theorem zb_Mo_coilCode_109 {X : zkj_T} {S : zs_T} {P : ze_T} {l : Launch} {D : va_G} {sz0 : Nat} {rh : zs_H} (C : zk_C X km_Mo_coilCode (zs_G S l D sz0) { frames := 1, cells := 0, slots := 0, locals := 24 } (ze_E P)) (hR : zkj_R X (zd_PV S rh) (none)) (h : zs_H) (x3 : Int32) (y0 : Int32) (y1 : Int32) (e : f_Mo_coilCode_109 h x3 y0 y1 = some rh) : zk_Ab X (zs_W S h) 0 0 109 [(0, .ref (S.1 68)), (3, .int x3)] [.int y0, .int y1, .ref (S.1 68)] := by
  unfold f_Mo_coilCode_109 at e
  refine zk_iconst (v := 0) C kd_Mo_coilCode_109 (by decide) rfl ?_
  refine zk_iconst (v := 0) C kd_Mo_coilCode_110 (by decide) rfl ?_
  obtain ⟨v2, h3, c1, e⟩ := zd_Be e
  refine zs_callV (k := 68) (rn := { frames := 0, cells := 0, slots := 0, locals := 0 }) (As := [.int y1, .int y0, .int 0, .int 0]) (rest := []) C (zc_Mo_emit h y1 y0 0 0 c1) ku_Mo_emit kw2524 kv_Mo_emit rfl ⟨by decide, by decide⟩ ⟨by decide, by decide⟩ rfl rfl rfl (Nat.le_of_ble_eq_true rfl) kd_Mo_coilCode_111 rfl (c1 := 0) (s1 := 0) rfl rfl (fun v w hp => ?_)
  obtain ⟨rfl, rfl⟩ := hp
  refine zk_stk (r' := [.int v2]) rfl ?_
  refine zk_istore (lv' := [(5, _), (0, _), (3, _)]) C kd_Mo_coilCode_114 (by decide) rfl rfl ?_
  refine zk_lvs (lv' := [(0, .ref (S.1 68)), (3, .int x3)]) [1, 2] rfl ?_
  exact zb_Mo_coilCode_116 C hR h3 x3 e
set_option maxHeartbeats 4000000 in
set_option maxRecDepth 100000 in
theorem zb_Mo_coilCode_87 {X : zkj_T} {S : zs_T} {P : ze_T} {l : Launch} {D : va_G} {sz0 : Nat} {rh : zs_H} (C : zk_C X km_Mo_coilCode (zs_G S l D sz0) { frames := 1, cells := 0, slots := 0, locals := 24 } (ze_E P)) (hR : zkj_R X (zd_PV S rh) (none)) (h : zs_H) (x3 : Int32) (x4 : Int32) (e : f_Mo_coilCode_87 h x3 x4 = some rh) : zk_Ab X (zs_W S h) 0 0 87 [(0, .ref (S.1 68)), (3, .int x3), (4, .int x4)] [] := by
  unfold f_Mo_coilCode_87 at e
  refine zk_iload C kd_Mo_coilCode_87 2 rfl rfl ?_
  refine zk_iconst (v := 1) C kd_Mo_coilCode_89 (by decide) rfl ?_
  refine zk_icmp_le (tgt := 116) C kd_Mo_coilCode_90 (by decide) rfl (fun b1 => ?_) (fun b1 => ?_)
  · replace e := zd_pos b1 e
    refine zk_lvs (lv' := [(0, .ref (S.1 68)), (3, .int x3)]) [0, 1] rfl ?_
    exact zb_Mo_coilCode_116 C hR h x3 e
  · replace e := zd_neg b1 e
    refine zk_aload_n C kd_Mo_coilCode_93 rfl 0 rfl rfl ?_
    refine zk_bipush (v := 7) C kd_Mo_coilCode_94 (by decide) rfl ?_
    refine zk_iload C kd_Mo_coilCode_96 2 rfl rfl ?_
    refine zk_iconst (v := 2) C kd_Mo_coilCode_98 (by decide) rfl ?_
    refine zk_icmp_ne (tgt := 107) C kd_Mo_coilCode_99 (by decide) rfl (fun b2 => ?_) (fun b2 => ?_)
    · replace e := zd_neg b2 e
      refine zk_bipush (v := 10) C kd_Mo_coilCode_107 (by decide) rfl ?_
      refine zk_lvs (lv' := [(0, .ref (S.1 68)), (3, .int x3)]) [0, 1] rfl ?_
      exact zb_Mo_coilCode_109 C hR h x3 10 7 e
    · replace e := zd_pos b2 e
      refine zk_bipush (v := 11) C kd_Mo_coilCode_102 (by decide) rfl ?_
      refine zk_goto (tgt := 109) C kd_Mo_coilCode_104 (by decide) ?_
      refine zk_lvs (lv' := [(0, .ref (S.1 68)), (3, .int x3)]) [0, 1] rfl ?_
      exact zb_Mo_coilCode_109 C hR h x3 11 7 e
set_option maxHeartbeats 4000000 in
set_option maxRecDepth 100000 in
theorem zb_Mo_coilCode_76 {X : zkj_T} {S : zs_T} {P : ze_T} {l : Launch} {D : va_G} {sz0 : Nat} {rh : zs_H} (C : zk_C X km_Mo_coilCode (zs_G S l D sz0) { frames := 1, cells := 0, slots := 0, locals := 24 } (ze_E P)) (hR : zkj_R X (zd_PV S rh) (none)) (h : zs_H) (x3 : Int32) (x4 : Int32) (e : f_Mo_coilCode_76 h x3 x4 = some rh) : zk_Ab X (zs_W S h) 0 0 76 [(0, .ref (S.1 68)), (3, .int x3), (4, .int x4)] [] := by
  unfold f_Mo_coilCode_76 at e
  refine zk_aload_n C kd_Mo_coilCode_76 rfl 0 rfl rfl ?_
  refine zk_bipush (v := 8) C kd_Mo_coilCode_77 (by decide) rfl ?_
  refine zk_iconst (v := 2) C kd_Mo_coilCode_79 (by decide) rfl ?_
  refine zk_iconst (v := 0) C kd_Mo_coilCode_80 (by decide) rfl ?_
  refine zk_iconst (v := 0) C kd_Mo_coilCode_81 (by decide) rfl ?_
  obtain ⟨v2, h3, c1, e⟩ := zd_Be e
  refine zs_callV (k := 68) (rn := { frames := 0, cells := 0, slots := 0, locals := 0 }) (As := [.int 8, .int 2, .int 0, .int 0]) (rest := []) C (zc_Mo_emit h 8 2 0 0 c1) ku_Mo_emit kw2524 kv_Mo_emit rfl ⟨by decide, by decide⟩ ⟨by decide, by decide⟩ rfl rfl rfl (Nat.le_of_ble_eq_true rfl) kd_Mo_coilCode_82 rfl (c1 := 0) (s1 := 0) rfl rfl (fun v w hp => ?_)
  obtain ⟨rfl, rfl⟩ := hp
  refine zk_stk (r' := [.int v2]) rfl ?_
  refine zk_istore (lv' := [(5, _), (0, _), (3, _), (4, _)]) C kd_Mo_coilCode_85 (by decide) rfl rfl ?_
  refine zk_lvs (lv' := [(0, .ref (S.1 68)), (3, .int x3), (4, .int x4)]) [1, 2, 3] rfl ?_
  exact zb_Mo_coilCode_87 C hR h3 x3 x4 e
set_option maxHeartbeats 4000000 in
set_option maxRecDepth 100000 in
theorem zb_Mo_coilCode_62 {X : zkj_T} {S : zs_T} {P : ze_T} {l : Launch} {D : va_G} {sz0 : Nat} {rh : zs_H} (C : zk_C X km_Mo_coilCode (zs_G S l D sz0) { frames := 1, cells := 0, slots := 0, locals := 24 } (ze_E P)) (hR : zkj_R X (zd_PV S rh) (none)) (h : zs_H) (x3 : Int32) (x4 : Int32) (y0 : Int32) (e : f_Mo_coilCode_62 h x3 x4 y0 = some rh) : zk_Ab X (zs_W S h) 0 0 62 [(0, .ref (S.1 68)), (3, .int x3), (4, .int x4)] [.int y0] := by
  unfold f_Mo_coilCode_62 at e
  refine zk_istore (lv' := [(5, _), (0, _), (3, _), (4, _)]) C kd_Mo_coilCode_62 (by decide) rfl rfl ?_
  refine zk_iload C kd_Mo_coilCode_64 3 rfl rfl ?_
  refine zk_iconst (v := 1) C kd_Mo_coilCode_66 (by decide) rfl ?_
  refine zk_icmp_eq (tgt := 76) C kd_Mo_coilCode_67 (by decide) rfl (fun b1 => ?_) (fun b1 => ?_)
  · replace e := zd_pos b1 e
    refine zk_lvs (lv' := [(0, .ref (S.1 68)), (3, .int x3), (4, .int x4)]) [1, 2, 3] rfl ?_
    exact zb_Mo_coilCode_76 C hR h x3 x4 e
  · replace e := zd_neg b1 e
    refine zk_iload C kd_Mo_coilCode_70 3 rfl rfl ?_
    refine zk_iconst (v := 3) C kd_Mo_coilCode_72 (by decide) rfl ?_
    refine zk_icmp_ne (tgt := 87) C kd_Mo_coilCode_73 (by decide) rfl (fun b2 => ?_) (fun b2 => ?_)
    · replace e := zd_neg b2 e
      refine zk_lvs (lv' := [(0, .ref (S.1 68)), (3, .int x3), (4, .int x4)]) [1, 2, 3] rfl ?_
      exact zb_Mo_coilCode_87 C hR h x3 x4 e
    · replace e := zd_pos b2 e
      refine zk_lvs (lv' := [(0, .ref (S.1 68)), (3, .int x3), (4, .int x4)]) [1, 2, 3] rfl ?_
      exact zb_Mo_coilCode_76 C hR h x3 x4 e
set_option maxHeartbeats 4000000 in
set_option maxRecDepth 100000 in
theorem zb_Mo_coilCode_39 {X : zkj_T} {S : zs_T} {P : ze_T} {l : Launch} {D : va_G} {sz0 : Nat} {rh : zs_H} (C : zk_C X km_Mo_coilCode (zs_G S l D sz0) { frames := 1, cells := 0, slots := 0, locals := 24 } (ze_E P)) (hR : zkj_R X (zd_PV S rh) (none)) (h : zs_H) (x2 : Int32) (x3 : Int32) (x4 : Int32) (e : f_Mo_coilCode_39 h x2 x3 x4 = some rh) : zk_Ab X (zs_W S h) 0 0 39 [(0, .ref (S.1 68)), (2, .int x2), (3, .int x3), (4, .int x4)] [] := by
  unfold f_Mo_coilCode_39 at e
  refine zk_iload_n C kd_Mo_coilCode_39 rfl 1 rfl rfl ?_
  refine zk_if_ge (tgt := 54) C kd_Mo_coilCode_40 (by decide) rfl (fun b1 => ?_) (fun b1 => ?_)
  · replace e := zd_pos b1 e
    refine zk_aload_n C kd_Mo_coilCode_54 rfl 0 rfl rfl ?_
    refine zk_iconst (v := 1) C kd_Mo_coilCode_55 (by decide) rfl ?_
    refine zk_iload_n C kd_Mo_coilCode_56 rfl 1 rfl rfl ?_
    refine zk_iconst (v := 0) C kd_Mo_coilCode_57 (by decide) rfl ?_
    refine zk_iconst (v := 0) C kd_Mo_coilCode_58 (by decide) rfl ?_
    obtain ⟨v3, h4, c2, e⟩ := zd_Be e
    refine zs_callV (k := 68) (rn := { frames := 0, cells := 0, slots := 0, locals := 0 }) (As := [.int 1, .int x2, .int 0, .int 0]) (rest := []) C (zc_Mo_emit h 1 x2 0 0 c2) ku_Mo_emit kw2524 kv_Mo_emit rfl ⟨by decide, by decide⟩ ⟨by decide, by decide⟩ rfl rfl rfl (Nat.le_of_ble_eq_true rfl) kd_Mo_coilCode_59 rfl (c1 := 0) (s1 := 0) rfl rfl (fun v w hp => ?_)
    obtain ⟨rfl, rfl⟩ := hp
    refine zk_stk (r' := [.int v3]) rfl ?_
    refine zk_lvs (lv' := [(0, .ref (S.1 68)), (3, .int x3), (4, .int x4)]) [0, 2, 3] rfl ?_
    exact zb_Mo_coilCode_62 C hR h4 x3 x4 v3 e
  · replace e := zd_neg b1 e
    refine zk_aload_n C kd_Mo_coilCode_43 rfl 0 rfl rfl ?_
    refine zk_iconst (v := 0) C kd_Mo_coilCode_44 (by decide) rfl ?_
    refine zk_iconst (v := 1) C kd_Mo_coilCode_45 (by decide) rfl ?_
    refine zk_iconst (v := 0) C kd_Mo_coilCode_46 (by decide) rfl ?_
    refine zk_iconst (v := 0) C kd_Mo_coilCode_47 (by decide) rfl ?_
    obtain ⟨v6, h7, c5, e⟩ := zd_Be e
    refine zs_callV (k := 68) (rn := { frames := 0, cells := 0, slots := 0, locals := 0 }) (As := [.int 0, .int 1, .int 0, .int 0]) (rest := []) C (zc_Mo_emit h 0 1 0 0 c5) ku_Mo_emit kw2524 kv_Mo_emit rfl ⟨by decide, by decide⟩ ⟨by decide, by decide⟩ rfl rfl rfl (Nat.le_of_ble_eq_true rfl) kd_Mo_coilCode_48 rfl (c1 := 0) (s1 := 0) rfl rfl (fun v w hp => ?_)
    obtain ⟨rfl, rfl⟩ := hp
    refine zk_stk (r' := [.int v6]) rfl ?_
    refine zk_goto (tgt := 62) C kd_Mo_coilCode_51 (by decide) ?_
    refine zk_lvs (lv' := [(0, .ref (S.1 68)), (3, .int x3), (4, .int x4)]) [0, 2, 3] rfl ?_
    exact zb_Mo_coilCode_62 C hR h7 x3 x4 v6 e
set_option maxHeartbeats 4000000 in
set_option maxRecDepth 100000 in
theorem zc_Mo_coilCode {l : Launch} {D : va_G} {sz0 : Nat} {S : zs_T} {P : ze_T} (h : zs_H) (x1 : Int32) (x2 : Int32) {rh : zs_H} (e : f_Mo_coilCode h x1 x2 = some rh) : zk_Sp (zs_G S l D sz0) (ze_E P) km_Mo_coilCode { frames := 1, cells := 0, slots := 0, locals := 24 } [.ref (S.1 68), .int x1, .int x2] (zs_W S h) (zd_PV S rh) := by
  refine zk_met ku_Mo_coilCode (Nat.le_of_ble_eq_true rfl) (ze_Em P) ?_
  intro X C hR
  refine zk_lvs (lv' := [(0, .ref (S.1 68)), (1, .int x1), (2, .int x2)]) [0, 1, 2] rfl ?_
  unfold f_Mo_coilCode at e
  refine zk_aload_n C kd_Mo_coilCode_0 rfl 0 rfl rfl ?_
  refine zs_get (v := .ref (S.1 101)) C 68 52 rfl rfl rfl rfl ki_Mo (by decide) kw1735 kd_Mo_coilCode_1 rfl ?_
  refine zk_aload_n C kd_Mo_coilCode_4 rfl 0 rfl rfl ?_
  refine zs_get (v := .ref (S.1 76)) C 68 19 rfl rfl rfl rfl ki_Mo (by decide) kw1702 kd_Mo_coilCode_5 rfl ?_
  refine zk_iload_n C kd_Mo_coilCode_8 rfl 1 rfl rfl ?_
  obtain ⟨q1, e⟩ := zd_g e
  refine zs_iald C 76 rfl (zd_vp q1) kd_Mo_coilCode_9 rfl ?_
  obtain ⟨q2, e⟩ := zd_g e
  refine zs_iald C 101 rfl (zd_vp q2) kd_Mo_coilCode_10 rfl ?_
  refine zk_istore_n (lv' := [(3, _), (0, _), (1, _), (2, _)]) C kd_Mo_coilCode_11 rfl (by decide) rfl rfl ?_
  refine zk_aload_n C kd_Mo_coilCode_12 rfl 1 rfl rfl ?_
  refine zs_get (v := .ref (S.1 74)) C 68 17 rfl rfl rfl rfl ki_Mo (by decide) kw1700 kd_Mo_coilCode_13 rfl ?_
  refine zk_iload_n C kd_Mo_coilCode_16 rfl 2 rfl rfl ?_
  refine zs_iald C 74 rfl (zd_vp q1) kd_Mo_coilCode_17 rfl ?_
  refine zk_istore (lv' := [(4, _), (3, _), (0, _), (1, _), (2, _)]) C kd_Mo_coilCode_18 (by decide) rfl rfl ?_
  refine zk_iconst (v := 0) C kd_Mo_coilCode_20 (by decide) rfl ?_
  refine zk_istore (lv' := [(5, _), (4, _), (3, _), (0, _), (1, _), (2, _)]) C kd_Mo_coilCode_21 (by decide) rfl rfl ?_
  refine zk_iload C kd_Mo_coilCode_23 1 rfl rfl ?_
  refine zk_iconst (v := 1) C kd_Mo_coilCode_25 (by decide) rfl ?_
  refine zk_icmp_le (tgt := 39) C kd_Mo_coilCode_26 (by decide) rfl (fun b3 => ?_) (fun b3 => ?_)
  · replace e := zd_pos b3 e
    refine zk_lvs (lv' := [(0, .ref (S.1 68)), (2, .int x2), (3, .int (h.2.1 101 (h.2.1 76 x1.toNatClampNeg).toNatClampNeg)), (4, .int (h.2.1 74 x1.toNatClampNeg))]) [3, 5, 2, 1] rfl ?_
    exact zb_Mo_coilCode_39 C hR h x2 (h.2.1 101 (h.2.1 76 x1.toNatClampNeg).toNatClampNeg) (h.2.1 74 x1.toNatClampNeg) e
  · replace e := zd_neg b3 e
    refine zk_aload_n C kd_Mo_coilCode_29 rfl 3 rfl rfl ?_
    refine zk_iconst (v := 1) C kd_Mo_coilCode_30 (by decide) rfl ?_
    refine zk_iload_n C kd_Mo_coilCode_31 rfl 2 rfl rfl ?_
    refine zk_iconst (v := 0) C kd_Mo_coilCode_32 (by decide) rfl ?_
    refine zk_iconst (v := 0) C kd_Mo_coilCode_33 (by decide) rfl ?_
    obtain ⟨v5, h6, c4, e⟩ := zd_Be e
    refine zs_callV (k := 68) (rn := { frames := 0, cells := 0, slots := 0, locals := 0 }) (As := [.int 1, .int (h.2.1 101 (h.2.1 76 x1.toNatClampNeg).toNatClampNeg), .int 0, .int 0]) (rest := []) C (zc_Mo_emit h 1 (h.2.1 101 (h.2.1 76 x1.toNatClampNeg).toNatClampNeg) 0 0 c4) ku_Mo_emit kw2524 kv_Mo_emit rfl ⟨by decide, by decide⟩ ⟨by decide, by decide⟩ rfl rfl rfl (Nat.le_of_ble_eq_true rfl) kd_Mo_coilCode_34 rfl (c1 := 0) (s1 := 0) rfl rfl (fun v w hp => ?_)
    obtain ⟨rfl, rfl⟩ := hp
    refine zk_stk (r' := [.int v5]) rfl ?_
    refine zk_istore (lv' := [(5, _), (4, _), (3, _), (0, _), (1, _), (2, _)]) C kd_Mo_coilCode_37 (by decide) rfl rfl ?_
    refine zk_lvs (lv' := [(0, .ref (S.1 68)), (2, .int x2), (3, .int (h.2.1 101 (h.2.1 76 x1.toNatClampNeg).toNatClampNeg)), (4, .int (h.2.1 74 x1.toNatClampNeg))]) [3, 5, 2, 1] rfl ?_
    exact zb_Mo_coilCode_39 C hR h6 x2 (h.2.1 101 (h.2.1 76 x1.toNatClampNeg).toNatClampNeg) (h.2.1 74 x1.toNatClampNeg) e
set_option maxHeartbeats 4000000 in
set_option maxRecDepth 100000 in
theorem zb_Mo_rungCode_113 {X : zkj_T} {S : zs_T} {P : ze_T} {l : Launch} {D : va_G} {sz0 : Nat} {rh : zs_H} (C : zk_C X km_Mo_rungCode (zs_G S l D sz0) { frames := 4, cells := 0, slots := 0, locals := 99 } (ze_E P)) (hR : zkj_R X (zd_PV S rh) (none)) {k31 : zs_H → Int32 → Int32 → Int32 → Int32 → (Option zs_H)} (hk31 : ∀ (h : zs_H) (x1 : Int32) (x2 : Int32) (x3 : Int32) (x4 : Int32), k31 h x1 x2 x3 x4 = some rh → zk_Ab X (zs_W S h) 0 0 31 [(0, .ref (S.1 68)), (1, .int x1), (2, .int x2), (3, .int x3), (4, .int x4)] []) {k40 : zs_H → Int32 → Int32 → Int32 → Int32 → Int32 → (Option zs_H)} (hk40 : ∀ (h : zs_H) (x1 : Int32) (x2 : Int32) (x3 : Int32) (x4 : Int32) (x5 : Int32), k40 h x1 x2 x3 x4 x5 = some rh → zk_Ab X (zs_W S h) 0 0 40 [(0, .ref (S.1 68)), (1, .int x1), (2, .int x2), (3, .int x3), (4, .int x4), (5, .int x5)] []) (h : zs_H) (x1 : Int32) (x2 : Int32) (x3 : Int32) (x4 : Int32) (x5 : Int32) (e : f_Mo_rungCode_113 k31 k40 h x1 x2 x3 x4 x5 = some rh) : zk_Ab X (zs_W S h) 0 0 113 [(0, .ref (S.1 68)), (1, .int x1), (2, .int x2), (3, .int x3), (4, .int x4), (5, .int x5)] [] := by
  unfold f_Mo_rungCode_113 at e
  refine zk_iinc (v := (x5 + 1)) (lv' := [(5, _), (0, _), (1, _), (2, _), (3, _), (4, _)]) C kd_Mo_rungCode_113 5 rfl rfl (by decide) rfl rfl ?_
  refine zk_goto (tgt := 40) C kd_Mo_rungCode_116 (by decide) ?_
  refine zk_lvs (lv' := [(0, .ref (S.1 68)), (1, .int x1), (2, .int x2), (3, .int x3), (4, .int x4), (5, .int (x5 + 1))]) [1, 2, 3, 4, 5, 0] rfl ?_
  exact hk40 h x1 x2 x3 x4 (x5 + 1) e
set_option maxHeartbeats 4000000 in
set_option maxRecDepth 100000 in
theorem zb_Mo_rungCode_82 {X : zkj_T} {S : zs_T} {P : ze_T} {l : Launch} {D : va_G} {sz0 : Nat} {rh : zs_H} (C : zk_C X km_Mo_rungCode (zs_G S l D sz0) { frames := 4, cells := 0, slots := 0, locals := 99 } (ze_E P)) (hR : zkj_R X (zd_PV S rh) (none)) {k31 : zs_H → Int32 → Int32 → Int32 → Int32 → (Option zs_H)} (hk31 : ∀ (h : zs_H) (x1 : Int32) (x2 : Int32) (x3 : Int32) (x4 : Int32), k31 h x1 x2 x3 x4 = some rh → zk_Ab X (zs_W S h) 0 0 31 [(0, .ref (S.1 68)), (1, .int x1), (2, .int x2), (3, .int x3), (4, .int x4)] []) {k40 : zs_H → Int32 → Int32 → Int32 → Int32 → Int32 → (Option zs_H)} (hk40 : ∀ (h : zs_H) (x1 : Int32) (x2 : Int32) (x3 : Int32) (x4 : Int32) (x5 : Int32), k40 h x1 x2 x3 x4 x5 = some rh → zk_Ab X (zs_W S h) 0 0 40 [(0, .ref (S.1 68)), (1, .int x1), (2, .int x2), (3, .int x3), (4, .int x4), (5, .int x5)] []) (h : zs_H) (x1 : Int32) (x2 : Int32) (x3 : Int32) (x4 : Int32) (x5 : Int32) (y0 : Int32) (e : f_Mo_rungCode_82 k31 k40 h x1 x2 x3 x4 x5 y0 = some rh) : zk_Ab X (zs_W S h) 0 0 82 [(0, .ref (S.1 68)), (1, .int x1), (2, .int x2), (3, .int x3), (4, .int x4), (5, .int x5)] [.int y0] := by
  unfold f_Mo_rungCode_82 at e
  refine zk_istore (lv' := [(6, _), (0, _), (1, _), (2, _), (3, _), (4, _), (5, _)]) C kd_Mo_rungCode_82 (by decide) rfl rfl ?_
  refine zk_aload_n C kd_Mo_rungCode_84 rfl 1 rfl rfl ?_
  refine zk_iload_n C kd_Mo_rungCode_85 rfl 2 rfl rfl ?_
  refine zk_iload C kd_Mo_rungCode_86 6 rfl rfl ?_
  refine zk_iload C kd_Mo_rungCode_88 5 rfl rfl ?_
  obtain ⟨v2, c1, e⟩ := zd_b e
  refine zs_callV (k := 68) (rn := { frames := 1, cells := 0, slots := 0, locals := 24 }) (As := [.int x1, .int x5, .int x4]) (rest := []) C (zc_Mo_leastRow h x1 x5 x4 c1) ku_Mo_leastRow kw2636 kv_Mo_leastRow rfl ⟨by decide, by decide⟩ ⟨by decide, by decide⟩ rfl rfl rfl (Nat.le_of_ble_eq_true rfl) kd_Mo_rungCode_90 rfl (c1 := 0) (s1 := 0) rfl rfl (fun v w hp => ?_)
  obtain ⟨rfl, rfl⟩ := hp
  refine zk_stk (r' := [.int v2]) rfl ?_
  refine zk_iload C kd_Mo_rungCode_93 6 rfl rfl ?_
  refine zk_icmp_ne (tgt := 113) C kd_Mo_rungCode_95 (by decide) rfl (fun b3 => ?_) (fun b3 => ?_)
  · replace e := zd_neg b3 e
    refine zk_lvs (lv' := [(0, .ref (S.1 68)), (1, .int x1), (2, .int x2), (3, .int x3), (4, .int x4), (5, .int x5)]) [1, 2, 3, 4, 5, 6] rfl ?_
    exact zb_Mo_rungCode_113 C hR hk31 hk40 h x1 x2 x3 x4 x5 e
  · replace e := zd_pos b3 e
    refine zk_iload C kd_Mo_rungCode_98 0 rfl rfl ?_
    refine zk_if_ne (tgt := 113) C kd_Mo_rungCode_100 (by decide) rfl (fun b4 => ?_) (fun b4 => ?_)
    · replace e := zd_neg b4 e
      refine zk_lvs (lv' := [(0, .ref (S.1 68)), (1, .int x1), (2, .int x2), (3, .int x3), (4, .int x4), (5, .int x5)]) [1, 2, 3, 4, 5, 6] rfl ?_
      exact zb_Mo_rungCode_113 C hR hk31 hk40 h x1 x2 x3 x4 x5 e
    · replace e := zd_pos b4 e
      refine zk_aload_n C kd_Mo_rungCode_103 rfl 1 rfl rfl ?_
      refine zk_iload_n C kd_Mo_rungCode_104 rfl 2 rfl rfl ?_
      refine zk_iload_n C kd_Mo_rungCode_105 rfl 4 rfl rfl ?_
      refine zk_iload C kd_Mo_rungCode_106 6 rfl rfl ?_
      refine zk_iload C kd_Mo_rungCode_108 5 rfl rfl ?_
      obtain ⟨h6, c5, e⟩ := zd_b e
      refine zs_callV (k := 68) (rn := { frames := 3, cells := 0, slots := 0, locals := 71 }) (As := [.int x1, .int x3, .int x5, .int x4]) (rest := []) C (zc_Mo_groupCode h x1 x3 x5 x4 c5) ku_Mo_groupCode kw2644 kv_Mo_groupCode rfl ⟨by decide, by decide⟩ ⟨by decide, by decide⟩ rfl rfl rfl (Nat.le_of_ble_eq_true rfl) kd_Mo_rungCode_110 rfl (c1 := 0) (s1 := 0) rfl rfl (fun v w hp => ?_)
      obtain ⟨rfl, rfl⟩ := hp
      refine zk_stk (r' := []) rfl ?_
      refine zk_lvs (lv' := [(0, .ref (S.1 68)), (1, .int x1), (2, .int x2), (3, .int x3), (4, .int x4), (5, .int x5)]) [1, 2, 3, 4, 5, 6] rfl ?_
      exact zb_Mo_rungCode_113 C hR hk31 hk40 h6 x1 x2 x3 x4 x5 e
set_option maxHeartbeats 4000000 in
set_option maxRecDepth 100000 in
theorem zb_Mo_rungCode_81 {X : zkj_T} {S : zs_T} {P : ze_T} {l : Launch} {D : va_G} {sz0 : Nat} {rh : zs_H} (C : zk_C X km_Mo_rungCode (zs_G S l D sz0) { frames := 4, cells := 0, slots := 0, locals := 99 } (ze_E P)) (hR : zkj_R X (zd_PV S rh) (none)) {k31 : zs_H → Int32 → Int32 → Int32 → Int32 → (Option zs_H)} (hk31 : ∀ (h : zs_H) (x1 : Int32) (x2 : Int32) (x3 : Int32) (x4 : Int32), k31 h x1 x2 x3 x4 = some rh → zk_Ab X (zs_W S h) 0 0 31 [(0, .ref (S.1 68)), (1, .int x1), (2, .int x2), (3, .int x3), (4, .int x4)] []) {k40 : zs_H → Int32 → Int32 → Int32 → Int32 → Int32 → (Option zs_H)} (hk40 : ∀ (h : zs_H) (x1 : Int32) (x2 : Int32) (x3 : Int32) (x4 : Int32) (x5 : Int32), k40 h x1 x2 x3 x4 x5 = some rh → zk_Ab X (zs_W S h) 0 0 40 [(0, .ref (S.1 68)), (1, .int x1), (2, .int x2), (3, .int x3), (4, .int x4), (5, .int x5)] []) (h : zs_H) (x1 : Int32) (x2 : Int32) (x3 : Int32) (x4 : Int32) (x5 : Int32) (e : f_Mo_rungCode_81 k31 k40 h x1 x2 x3 x4 x5 = some rh) : zk_Ab X (zs_W S h) 0 0 81 [(0, .ref (S.1 68)), (1, .int x1), (2, .int x2), (3, .int x3), (4, .int x4), (5, .int x5)] [] := by
  unfold f_Mo_rungCode_81 at e
  refine zk_iconst (v := 0) C kd_Mo_rungCode_81 (by decide) rfl ?_
  refine zk_lvs (lv' := [(0, .ref (S.1 68)), (1, .int x1), (2, .int x2), (3, .int x3), (4, .int x4), (5, .int x5)]) [0, 1, 2, 3, 4, 5] rfl ?_
  exact zb_Mo_rungCode_82 C hR hk31 hk40 h x1 x2 x3 x4 x5 0 e
set_option maxHeartbeats 4000000 in
set_option maxRecDepth 100000 in
theorem zb_Mo_rungCode_40 {X : zkj_T} {S : zs_T} {P : ze_T} {l : Launch} {D : va_G} {sz0 : Nat} {rh : zs_H} (C : zk_C X km_Mo_rungCode (zs_G S l D sz0) { frames := 4, cells := 0, slots := 0, locals := 99 } (ze_E P)) (hR : zkj_R X (zd_PV S rh) (none)) {k31 : zs_H → Int32 → Int32 → Int32 → Int32 → (Option zs_H)} (hk31 : ∀ (h : zs_H) (x1 : Int32) (x2 : Int32) (x3 : Int32) (x4 : Int32), k31 h x1 x2 x3 x4 = some rh → zk_Ab X (zs_W S h) 0 0 31 [(0, .ref (S.1 68)), (1, .int x1), (2, .int x2), (3, .int x3), (4, .int x4)] []) {k40 : zs_H → Int32 → Int32 → Int32 → Int32 → Int32 → (Option zs_H)} (hk40 : ∀ (h : zs_H) (x1 : Int32) (x2 : Int32) (x3 : Int32) (x4 : Int32) (x5 : Int32), k40 h x1 x2 x3 x4 x5 = some rh → zk_Ab X (zs_W S h) 0 0 40 [(0, .ref (S.1 68)), (1, .int x1), (2, .int x2), (3, .int x3), (4, .int x4), (5, .int x5)] []) (h : zs_H) (x1 : Int32) (x2 : Int32) (x3 : Int32) (x4 : Int32) (x5 : Int32) (e : f_Mo_rungCode_40 k31 k40 h x1 x2 x3 x4 x5 = some rh) : zk_Ab X (zs_W S h) 0 0 40 [(0, .ref (S.1 68)), (1, .int x1), (2, .int x2), (3, .int x3), (4, .int x4), (5, .int x5)] [] := by
  unfold f_Mo_rungCode_40 at e
  refine zk_iload C kd_Mo_rungCode_40 5 rfl rfl ?_
  refine zk_iload_n C kd_Mo_rungCode_42 rfl 3 rfl rfl ?_
  refine zk_icmp_ge (tgt := 119) C kd_Mo_rungCode_43 (by decide) rfl (fun b1 => ?_) (fun b1 => ?_)
  · replace e := zd_pos b1 e
    refine zk_iinc (v := (x4 + 1)) (lv' := [(4, _), (0, _), (1, _), (2, _), (3, _), (5, _)]) C kd_Mo_rungCode_119 4 rfl rfl (by decide) rfl rfl ?_
    refine zk_goto (tgt := 31) C kd_Mo_rungCode_122 (by decide) ?_
    refine zk_lvs (lv' := [(0, .ref (S.1 68)), (1, .int x1), (2, .int x2), (3, .int x3), (4, .int (x4 + 1))]) [1, 2, 3, 4, 0] rfl ?_
    exact hk31 h x1 x2 x3 (x4 + 1) e
  · replace e := zd_neg b1 e
    refine zk_iload C kd_Mo_rungCode_46 4 rfl rfl ?_
    refine zk_iload_n C kd_Mo_rungCode_48 rfl 2 rfl rfl ?_
    refine zk_icmp_ne (tgt := 81) C kd_Mo_rungCode_49 (by decide) rfl (fun b2 => ?_) (fun b2 => ?_)
    · replace e := zd_neg b2 e
      refine zk_lvs (lv' := [(0, .ref (S.1 68)), (1, .int x1), (2, .int x2), (3, .int x3), (4, .int x4), (5, .int x5)]) [0, 1, 2, 3, 4, 5] rfl ?_
      exact zb_Mo_rungCode_81 C hR hk31 hk40 h x1 x2 x3 x4 x5 e
    · replace e := zd_pos b2 e
      refine zk_aload_n C kd_Mo_rungCode_52 rfl 0 rfl rfl ?_
      refine zs_get (v := .ref (S.1 72)) C 68 15 rfl rfl rfl rfl ki_Mo (by decide) kw1698 kd_Mo_rungCode_53 rfl ?_
      refine zk_aload_n C kd_Mo_rungCode_56 rfl 0 rfl rfl ?_
      refine zk_aload_n C kd_Mo_rungCode_57 rfl 0 rfl rfl ?_
      refine zk_iload_n C kd_Mo_rungCode_58 rfl 1 rfl rfl ?_
      refine zk_iload C kd_Mo_rungCode_59 5 rfl rfl ?_
      obtain ⟨v4, c3, e⟩ := zd_b e
      refine zs_callV (k := 68) (rn := { frames := 0, cells := 0, slots := 0, locals := 0 }) (As := [.int x1, .int x5]) (rest := [.ref (S.1 68), .ref (S.1 72)]) C (zc_Mo_rowOf h x1 x5 c3) ku_Mo_rowOf kw2628 kv_Mo_rowOf rfl ⟨by decide, by decide⟩ ⟨by decide, by decide⟩ rfl rfl rfl (Nat.le_of_ble_eq_true rfl) kd_Mo_rungCode_61 rfl (c1 := 0) (s1 := 0) rfl rfl (fun v w hp => ?_)
      obtain ⟨rfl, rfl⟩ := hp
      refine zk_stk (r' := [.int v4, .ref (S.1 68), .ref (S.1 72)]) rfl ?_
      refine zk_iload C kd_Mo_rungCode_64 4 rfl rfl ?_
      refine zk_iconst (v := 1) C kd_Mo_rungCode_66 (by decide) rfl ?_
      refine zk_isub C kd_Mo_rungCode_67 rfl ?_
      obtain ⟨v6, c5, e⟩ := zd_b e
      refine zs_callV (k := 68) (rn := { frames := 0, cells := 0, slots := 0, locals := 0 }) (As := [.int v4, .int (x4 - 1)]) (rest := [.ref (S.1 72)]) C (zc_Mo_cellOf h v4 (x4 - 1) c5) ku_Mo_cellOf kw2632 kv_Mo_cellOf rfl ⟨by decide, by decide⟩ ⟨by decide, by decide⟩ rfl rfl rfl (Nat.le_of_ble_eq_true rfl) kd_Mo_rungCode_68 rfl (c1 := 0) (s1 := 0) rfl rfl (fun v w hp => ?_)
      obtain ⟨rfl, rfl⟩ := hp
      refine zk_stk (r' := [.int v6, .ref (S.1 72)]) rfl ?_
      obtain ⟨q7, e⟩ := zd_g e
      refine zs_iald C 72 rfl (zd_vp q7) kd_Mo_rungCode_71 rfl ?_
      refine zk_bipush (v := 28) C kd_Mo_rungCode_72 (by decide) rfl ?_
      refine zk_icmp_ne (tgt := 81) C kd_Mo_rungCode_74 (by decide) rfl (fun b8 => ?_) (fun b8 => ?_)
      · replace e := zd_neg b8 e
        refine zk_lvs (lv' := [(0, .ref (S.1 68)), (1, .int x1), (2, .int x2), (3, .int x3), (4, .int x4), (5, .int x5)]) [0, 1, 2, 3, 4, 5] rfl ?_
        exact zb_Mo_rungCode_81 C hR hk31 hk40 h x1 x2 x3 x4 x5 e
      · replace e := zd_pos b8 e
        refine zk_iconst (v := 1) C kd_Mo_rungCode_77 (by decide) rfl ?_
        refine zk_goto (tgt := 82) C kd_Mo_rungCode_78 (by decide) ?_
        refine zk_lvs (lv' := [(0, .ref (S.1 68)), (1, .int x1), (2, .int x2), (3, .int x3), (4, .int x4), (5, .int x5)]) [0, 1, 2, 3, 4, 5] rfl ?_
        exact zb_Mo_rungCode_82 C hR hk31 hk40 h x1 x2 x3 x4 x5 1 e
theorem zl_Mo_rungCode_40 {X : zkj_T} {S : zs_T} {P : ze_T} {l : Launch} {D : va_G} {sz0 : Nat} {rh : zs_H} (C : zk_C X km_Mo_rungCode (zs_G S l D sz0) { frames := 4, cells := 0, slots := 0, locals := 99 } (ze_E P)) (hR : zkj_R X (zd_PV S rh) (none)) {k31 : zs_H → Int32 → Int32 → Int32 → Int32 → (Option zs_H)} (hk31 : ∀ (h : zs_H) (x1 : Int32) (x2 : Int32) (x3 : Int32) (x4 : Int32), k31 h x1 x2 x3 x4 = some rh → zk_Ab X (zs_W S h) 0 0 31 [(0, .ref (S.1 68)), (1, .int x1), (2, .int x2), (3, .int x3), (4, .int x4)] []) (n : Nat) : ∀ (h : zs_H) (x1 : Int32) (x2 : Int32) (x3 : Int32) (x4 : Int32) (x5 : Int32), f_Mo_rungCode_L40 k31 n h x1 x2 x3 x4 x5 = some rh → zk_Ab X (zs_W S h) 0 0 40 [(0, .ref (S.1 68)), (1, .int x1), (2, .int x2), (3, .int x3), (4, .int x4), (5, .int x5)] [] := by
  induction n with
  | zero => intro h x1 x2 x3 x4 x5 e; exact zd_no e
  | succ n ih => intro h x1 x2 x3 x4 x5 e; exact zb_Mo_rungCode_40 (k40 := f_Mo_rungCode_L40 k31 n) C hR hk31 ih h x1 x2 x3 x4 x5 e
set_option maxHeartbeats 4000000 in
set_option maxRecDepth 100000 in
theorem zb_Mo_rungCode_187 {X : zkj_T} {S : zs_T} {P : ze_T} {l : Launch} {D : va_G} {sz0 : Nat} {rh : zs_H} (C : zk_C X km_Mo_rungCode (zs_G S l D sz0) { frames := 4, cells := 0, slots := 0, locals := 99 } (ze_E P)) (hR : zkj_R X (zd_PV S rh) (none)) {k128 : zs_H → Int32 → Int32 → Int32 → Int32 → (Option zs_H)} (hk128 : ∀ (h : zs_H) (x1 : Int32) (x2 : Int32) (x3 : Int32) (x4 : Int32), k128 h x1 x2 x3 x4 = some rh → zk_Ab X (zs_W S h) 0 0 128 [(0, .ref (S.1 68)), (1, .int x1), (2, .int x2), (3, .int x3), (4, .int x4)] []) (h : zs_H) (x1 : Int32) (x2 : Int32) (x3 : Int32) (x4 : Int32) (e : f_Mo_rungCode_187 k128 h x1 x2 x3 x4 = some rh) : zk_Ab X (zs_W S h) 0 0 187 [(0, .ref (S.1 68)), (1, .int x1), (2, .int x2), (3, .int x3), (4, .int x4)] [] := by
  unfold f_Mo_rungCode_187 at e
  refine zk_iinc (v := (x4 + 1)) (lv' := [(4, _), (0, _), (1, _), (2, _), (3, _)]) C kd_Mo_rungCode_187 4 rfl rfl (by decide) rfl rfl ?_
  refine zk_goto (tgt := 128) C kd_Mo_rungCode_190 (by decide) ?_
  refine zk_lvs (lv' := [(0, .ref (S.1 68)), (1, .int x1), (2, .int x2), (3, .int x3), (4, .int (x4 + 1))]) [1, 2, 3, 4, 0] rfl ?_
  exact hk128 h x1 x2 x3 (x4 + 1) e
set_option maxHeartbeats 4000000 in
set_option maxRecDepth 100000 in
theorem zb_Mo_rungCode_184 {X : zkj_T} {S : zs_T} {P : ze_T} {l : Launch} {D : va_G} {sz0 : Nat} {rh : zs_H} (C : zk_C X km_Mo_rungCode (zs_G S l D sz0) { frames := 4, cells := 0, slots := 0, locals := 99 } (ze_E P)) (hR : zkj_R X (zd_PV S rh) (none)) {k128 : zs_H → Int32 → Int32 → Int32 → Int32 → (Option zs_H)} (hk128 : ∀ (h : zs_H) (x1 : Int32) (x2 : Int32) (x3 : Int32) (x4 : Int32), k128 h x1 x2 x3 x4 = some rh → zk_Ab X (zs_W S h) 0 0 128 [(0, .ref (S.1 68)), (1, .int x1), (2, .int x2), (3, .int x3), (4, .int x4)] []) (h : zs_H) (x1 : Int32) (x2 : Int32) (x3 : Int32) (x4 : Int32) (y0 : Int32) (y1 : Int32) (e : f_Mo_rungCode_184 k128 h x1 x2 x3 x4 y0 y1 = some rh) : zk_Ab X (zs_W S h) 0 0 184 [(0, .ref (S.1 68)), (1, .int x1), (2, .int x2), (3, .int x3), (4, .int x4)] [.int y0, .int y1, .ref (S.1 68)] := by
  unfold f_Mo_rungCode_184 at e
  obtain ⟨h2, c1, e⟩ := zd_b e
  refine zs_callV (k := 68) (rn := { frames := 1, cells := 0, slots := 0, locals := 24 }) (As := [.int y1, .int y0]) (rest := []) C (zc_Mo_coilCode h y1 y0 c1) ku_Mo_coilCode kw2656 kv_Mo_coilCode rfl ⟨by decide, by decide⟩ ⟨by decide, by decide⟩ rfl rfl rfl (Nat.le_of_ble_eq_true rfl) kd_Mo_rungCode_184 rfl (c1 := 0) (s1 := 0) rfl rfl (fun v w hp => ?_)
  obtain ⟨rfl, rfl⟩ := hp
  refine zk_stk (r' := []) rfl ?_
  refine zk_lvs (lv' := [(0, .ref (S.1 68)), (1, .int x1), (2, .int x2), (3, .int x3), (4, .int x4)]) [0, 1, 2, 3, 4] rfl ?_
  exact zb_Mo_rungCode_187 C hR hk128 h2 x1 x2 x3 x4 e
set_option maxHeartbeats 4000000 in
set_option maxRecDepth 100000 in
theorem zb_Mo_rungCode_128 {X : zkj_T} {S : zs_T} {P : ze_T} {l : Launch} {D : va_G} {sz0 : Nat} {rh : zs_H} (C : zk_C X km_Mo_rungCode (zs_G S l D sz0) { frames := 4, cells := 0, slots := 0, locals := 99 } (ze_E P)) (hR : zkj_R X (zd_PV S rh) (none)) {k128 : zs_H → Int32 → Int32 → Int32 → Int32 → (Option zs_H)} (hk128 : ∀ (h : zs_H) (x1 : Int32) (x2 : Int32) (x3 : Int32) (x4 : Int32), k128 h x1 x2 x3 x4 = some rh → zk_Ab X (zs_W S h) 0 0 128 [(0, .ref (S.1 68)), (1, .int x1), (2, .int x2), (3, .int x3), (4, .int x4)] []) (h : zs_H) (x1 : Int32) (x2 : Int32) (x3 : Int32) (x4 : Int32) (e : f_Mo_rungCode_128 k128 h x1 x2 x3 x4 = some rh) : zk_Ab X (zs_W S h) 0 0 128 [(0, .ref (S.1 68)), (1, .int x1), (2, .int x2), (3, .int x3), (4, .int x4)] [] := by
  unfold f_Mo_rungCode_128 at e
  refine zk_iload C kd_Mo_rungCode_128 4 rfl rfl ?_
  refine zk_iload_n C kd_Mo_rungCode_130 rfl 3 rfl rfl ?_
  refine zk_icmp_ge (tgt := 193) C kd_Mo_rungCode_131 (by decide) rfl (fun b1 => ?_) (fun b1 => ?_)
  · replace e := zd_pos b1 e
    exact zk_vret C hR kd_Mo_rungCode_193 rfl rfl (zd_rV e)
  · replace e := zd_neg b1 e
    refine zk_aload_n C kd_Mo_rungCode_134 rfl 0 rfl rfl ?_
    refine zk_aload_n C kd_Mo_rungCode_135 rfl 0 rfl rfl ?_
    refine zk_iload_n C kd_Mo_rungCode_136 rfl 1 rfl rfl ?_
    refine zk_iload C kd_Mo_rungCode_137 4 rfl rfl ?_
    obtain ⟨v3, c2, e⟩ := zd_b e
    refine zs_callV (k := 68) (rn := { frames := 0, cells := 0, slots := 0, locals := 0 }) (As := [.int x1, .int x4]) (rest := [.ref (S.1 68)]) C (zc_Mo_rowOf h x1 x4 c2) ku_Mo_rowOf kw2628 kv_Mo_rowOf rfl ⟨by decide, by decide⟩ ⟨by decide, by decide⟩ rfl rfl rfl (Nat.le_of_ble_eq_true rfl) kd_Mo_rungCode_139 rfl (c1 := 0) (s1 := 0) rfl rfl (fun v w hp => ?_)
    obtain ⟨rfl, rfl⟩ := hp
    refine zk_stk (r' := [.int v3, .ref (S.1 68)]) rfl ?_
    refine zk_iload_n C kd_Mo_rungCode_142 rfl 2 rfl rfl ?_
    refine zk_iconst (v := 1) C kd_Mo_rungCode_143 (by decide) rfl ?_
    refine zk_isub C kd_Mo_rungCode_144 rfl ?_
    obtain ⟨v5, c4, e⟩ := zd_b e
    refine zs_callV (k := 68) (rn := { frames := 0, cells := 0, slots := 0, locals := 0 }) (As := [.int v3, .int (x2 - 1)]) (rest := []) C (zc_Mo_cellOf h v3 (x2 - 1) c4) ku_Mo_cellOf kw2632 kv_Mo_cellOf rfl ⟨by decide, by decide⟩ ⟨by decide, by decide⟩ rfl rfl rfl (Nat.le_of_ble_eq_true rfl) kd_Mo_rungCode_145 rfl (c1 := 0) (s1 := 0) rfl rfl (fun v w hp => ?_)
    obtain ⟨rfl, rfl⟩ := hp
    refine zk_stk (r' := [.int v5]) rfl ?_
    refine zk_istore (lv' := [(5, _), (0, _), (1, _), (2, _), (3, _), (4, _)]) C kd_Mo_rungCode_148 (by decide) rfl rfl ?_
    refine zk_aload_n C kd_Mo_rungCode_150 rfl 1 rfl rfl ?_
    refine zs_get (v := .ref (S.1 72)) C 68 15 rfl rfl rfl rfl ki_Mo (by decide) kw1698 kd_Mo_rungCode_151 rfl ?_
    refine zk_iload C kd_Mo_rungCode_154 0 rfl rfl ?_
    obtain ⟨q6, e⟩ := zd_g e
    refine zs_iald C 72 rfl (zd_vp q6) kd_Mo_rungCode_156 rfl ?_
    refine zk_bipush (v := 28) C kd_Mo_rungCode_157 (by decide) rfl ?_
    refine zk_icmp_ne (tgt := 187) C kd_Mo_rungCode_159 (by decide) rfl (fun b7 => ?_) (fun b7 => ?_)
    · replace e := zd_neg b7 e
      refine zk_lvs (lv' := [(0, .ref (S.1 68)), (1, .int x1), (2, .int x2), (3, .int x3), (4, .int x4)]) [1, 2, 3, 4, 5] rfl ?_
      exact zb_Mo_rungCode_187 C hR hk128 h x1 x2 x3 x4 e
    · replace e := zd_pos b7 e
      refine zk_aload_n C kd_Mo_rungCode_162 rfl 1 rfl rfl ?_
      refine zk_iload C kd_Mo_rungCode_163 0 rfl rfl ?_
      refine zk_iload_n C kd_Mo_rungCode_165 rfl 3 rfl rfl ?_
      refine zk_iconst (v := 1) C kd_Mo_rungCode_166 (by decide) rfl ?_
      refine zk_icmp_le (tgt := 183) C kd_Mo_rungCode_167 (by decide) rfl (fun b8 => ?_) (fun b8 => ?_)
      · replace e := zd_pos b8 e
        refine zk_iconst (v := (-1)) C kd_Mo_rungCode_183 (by decide) rfl ?_
        refine zk_lvs (lv' := [(0, .ref (S.1 68)), (1, .int x1), (2, .int x2), (3, .int x3), (4, .int x4)]) [1, 2, 3, 4, 5] rfl ?_
        exact zb_Mo_rungCode_184 C hR hk128 h x1 x2 x3 x4 (-1) v5 e
      · replace e := zd_neg b8 e
        refine zk_aload_n C kd_Mo_rungCode_170 rfl 1 rfl rfl ?_
        refine zk_iload_n C kd_Mo_rungCode_171 rfl 2 rfl rfl ?_
        refine zk_iload C kd_Mo_rungCode_172 5 rfl rfl ?_
        refine zk_iload_n C kd_Mo_rungCode_174 rfl 3 rfl rfl ?_
        refine zk_iconst (v := 1) C kd_Mo_rungCode_175 (by decide) rfl ?_
        refine zk_isub C kd_Mo_rungCode_176 rfl ?_
        obtain ⟨v10, c9, e⟩ := zd_b e
        refine zs_callV (k := 68) (rn := { frames := 2, cells := 0, slots := 0, locals := 48 }) (As := [.int x1, .int x4, .int (x2 - 1)]) (rest := [.int v5, .ref (S.1 68)]) C (zc_Mo_powerCell h x1 x4 (x2 - 1) c9) ku_Mo_powerCell kw2648 kv_Mo_powerCell rfl ⟨by decide, by decide⟩ ⟨by decide, by decide⟩ rfl rfl rfl (Nat.le_of_ble_eq_true rfl) kd_Mo_rungCode_177 rfl (c1 := 0) (s1 := 0) rfl rfl (fun v w hp => ?_)
        obtain ⟨rfl, rfl⟩ := hp
        refine zk_stk (r' := [.int v10, .int v5, .ref (S.1 68)]) rfl ?_
        refine zk_goto (tgt := 184) C kd_Mo_rungCode_180 (by decide) ?_
        refine zk_lvs (lv' := [(0, .ref (S.1 68)), (1, .int x1), (2, .int x2), (3, .int x3), (4, .int x4)]) [1, 2, 3, 4, 5] rfl ?_
        exact zb_Mo_rungCode_184 C hR hk128 h x1 x2 x3 x4 v10 v5 e
theorem zl_Mo_rungCode_128 {X : zkj_T} {S : zs_T} {P : ze_T} {l : Launch} {D : va_G} {sz0 : Nat} {rh : zs_H} (C : zk_C X km_Mo_rungCode (zs_G S l D sz0) { frames := 4, cells := 0, slots := 0, locals := 99 } (ze_E P)) (hR : zkj_R X (zd_PV S rh) (none)) (n : Nat) : ∀ (h : zs_H) (x1 : Int32) (x2 : Int32) (x3 : Int32) (x4 : Int32), f_Mo_rungCode_L128 n h x1 x2 x3 x4 = some rh → zk_Ab X (zs_W S h) 0 0 128 [(0, .ref (S.1 68)), (1, .int x1), (2, .int x2), (3, .int x3), (4, .int x4)] [] := by
  induction n with
  | zero => intro h x1 x2 x3 x4 e; exact zd_no e
  | succ n ih => intro h x1 x2 x3 x4 e; exact zb_Mo_rungCode_128 (k128 := f_Mo_rungCode_L128  n) C hR ih h x1 x2 x3 x4 e
set_option maxHeartbeats 4000000 in
set_option maxRecDepth 100000 in
theorem zb_Mo_rungCode_31 {X : zkj_T} {S : zs_T} {P : ze_T} {l : Launch} {D : va_G} {sz0 : Nat} {rh : zs_H} (C : zk_C X km_Mo_rungCode (zs_G S l D sz0) { frames := 4, cells := 0, slots := 0, locals := 99 } (ze_E P)) (hR : zkj_R X (zd_PV S rh) (none)) {k31 : zs_H → Int32 → Int32 → Int32 → Int32 → (Option zs_H)} (hk31 : ∀ (h : zs_H) (x1 : Int32) (x2 : Int32) (x3 : Int32) (x4 : Int32), k31 h x1 x2 x3 x4 = some rh → zk_Ab X (zs_W S h) 0 0 31 [(0, .ref (S.1 68)), (1, .int x1), (2, .int x2), (3, .int x3), (4, .int x4)] []) (h : zs_H) (x1 : Int32) (x2 : Int32) (x3 : Int32) (x4 : Int32) (e : f_Mo_rungCode_31 k31 h x1 x2 x3 x4 = some rh) : zk_Ab X (zs_W S h) 0 0 31 [(0, .ref (S.1 68)), (1, .int x1), (2, .int x2), (3, .int x3), (4, .int x4)] [] := by
  unfold f_Mo_rungCode_31 at e
  refine zk_iload C kd_Mo_rungCode_31 4 rfl rfl ?_
  refine zk_iload_n C kd_Mo_rungCode_33 rfl 2 rfl rfl ?_
  refine zk_icmp_gt (tgt := 125) C kd_Mo_rungCode_34 (by decide) rfl (fun b1 => ?_) (fun b1 => ?_)
  · replace e := zd_pos b1 e
    refine zk_iconst (v := 0) C kd_Mo_rungCode_125 (by decide) rfl ?_
    refine zk_istore (lv' := [(4, _), (0, _), (1, _), (2, _), (3, _)]) C kd_Mo_rungCode_126 (by decide) rfl rfl ?_
    refine zk_lvs (lv' := [(0, .ref (S.1 68)), (1, .int x1), (2, .int x2), (3, .int x3), (4, .int 0)]) [1, 2, 3, 4, 0] rfl ?_
    exact zl_Mo_rungCode_128 C hR zF h x1 x2 x3 0 e
  · replace e := zd_neg b1 e
    refine zk_iconst (v := 0) C kd_Mo_rungCode_37 (by decide) rfl ?_
    refine zk_istore (lv' := [(5, _), (0, _), (1, _), (2, _), (3, _), (4, _)]) C kd_Mo_rungCode_38 (by decide) rfl rfl ?_
    refine zk_lvs (lv' := [(0, .ref (S.1 68)), (1, .int x1), (2, .int x2), (3, .int x3), (4, .int x4), (5, .int 0)]) [1, 2, 3, 4, 5, 0] rfl ?_
    exact zl_Mo_rungCode_40 C hR hk31 zF h x1 x2 x3 x4 0 e
theorem zl_Mo_rungCode_31 {X : zkj_T} {S : zs_T} {P : ze_T} {l : Launch} {D : va_G} {sz0 : Nat} {rh : zs_H} (C : zk_C X km_Mo_rungCode (zs_G S l D sz0) { frames := 4, cells := 0, slots := 0, locals := 99 } (ze_E P)) (hR : zkj_R X (zd_PV S rh) (none)) (n : Nat) : ∀ (h : zs_H) (x1 : Int32) (x2 : Int32) (x3 : Int32) (x4 : Int32), f_Mo_rungCode_L31 n h x1 x2 x3 x4 = some rh → zk_Ab X (zs_W S h) 0 0 31 [(0, .ref (S.1 68)), (1, .int x1), (2, .int x2), (3, .int x3), (4, .int x4)] [] := by
  induction n with
  | zero => intro h x1 x2 x3 x4 e; exact zd_no e
  | succ n ih => intro h x1 x2 x3 x4 e; exact zb_Mo_rungCode_31 (k31 := f_Mo_rungCode_L31  n) C hR ih h x1 x2 x3 x4 e
set_option maxHeartbeats 4000000 in
set_option maxRecDepth 100000 in
theorem zb_Mo_rungCode_13 {X : zkj_T} {S : zs_T} {P : ze_T} {l : Launch} {D : va_G} {sz0 : Nat} {rh : zs_H} (C : zk_C X km_Mo_rungCode (zs_G S l D sz0) { frames := 4, cells := 0, slots := 0, locals := 99 } (ze_E P)) (hR : zkj_R X (zd_PV S rh) (none)) {k13 : zs_H → Int32 → Int32 → Int32 → (Option zs_H)} (hk13 : ∀ (h : zs_H) (x1 : Int32) (x2 : Int32) (x3 : Int32), k13 h x1 x2 x3 = some rh → zk_Ab X (zs_W S h) 0 0 13 [(0, .ref (S.1 68)), (1, .int x1), (2, .int x2), (3, .int x3)] []) (h : zs_H) (x1 : Int32) (x2 : Int32) (x3 : Int32) (e : f_Mo_rungCode_13 k13 h x1 x2 x3 = some rh) : zk_Ab X (zs_W S h) 0 0 13 [(0, .ref (S.1 68)), (1, .int x1), (2, .int x2), (3, .int x3)] [] := by
  unfold f_Mo_rungCode_13 at e
  refine zk_aload_n C kd_Mo_rungCode_13 rfl 0 rfl rfl ?_
  refine zk_iload_n C kd_Mo_rungCode_14 rfl 1 rfl rfl ?_
  refine zk_iload_n C kd_Mo_rungCode_15 rfl 3 rfl rfl ?_
  obtain ⟨v2, c1, e⟩ := zd_b e
  refine zs_callV (k := 68) (rn := { frames := 0, cells := 0, slots := 0, locals := 0 }) (As := [.int x1, .int x3]) (rest := []) C (zc_Mo_rowOf h x1 x3 c1) ku_Mo_rowOf kw2628 kv_Mo_rowOf rfl ⟨by decide, by decide⟩ ⟨by decide, by decide⟩ rfl rfl rfl (Nat.le_of_ble_eq_true rfl) kd_Mo_rungCode_16 rfl (c1 := 0) (s1 := 0) rfl rfl (fun v w hp => ?_)
  obtain ⟨rfl, rfl⟩ := hp
  refine zk_stk (r' := [.int v2]) rfl ?_
  refine zk_if_lt (tgt := 28) C kd_Mo_rungCode_19 (by decide) rfl (fun b3 => ?_) (fun b3 => ?_)
  · replace e := zd_pos b3 e
    refine zk_iconst (v := 1) C kd_Mo_rungCode_28 (by decide) rfl ?_
    refine zk_istore (lv' := [(4, _), (0, _), (1, _), (2, _), (3, _)]) C kd_Mo_rungCode_29 (by decide) rfl rfl ?_
    refine zk_lvs (lv' := [(0, .ref (S.1 68)), (1, .int x1), (2, .int x2), (3, .int x3), (4, .int 1)]) [1, 2, 3, 4, 0] rfl ?_
    exact zl_Mo_rungCode_31 C hR zF h x1 x2 x3 1 e
  · replace e := zd_neg b3 e
    refine zk_iinc (v := (x3 + 1)) (lv' := [(3, _), (0, _), (1, _), (2, _)]) C kd_Mo_rungCode_22 3 rfl rfl (by decide) rfl rfl ?_
    refine zk_goto (tgt := 13) C kd_Mo_rungCode_25 (by decide) ?_
    refine zk_lvs (lv' := [(0, .ref (S.1 68)), (1, .int x1), (2, .int x2), (3, .int (x3 + 1))]) [1, 2, 3, 0] rfl ?_
    exact hk13 h x1 x2 (x3 + 1) e
theorem zl_Mo_rungCode_13 {X : zkj_T} {S : zs_T} {P : ze_T} {l : Launch} {D : va_G} {sz0 : Nat} {rh : zs_H} (C : zk_C X km_Mo_rungCode (zs_G S l D sz0) { frames := 4, cells := 0, slots := 0, locals := 99 } (ze_E P)) (hR : zkj_R X (zd_PV S rh) (none)) (n : Nat) : ∀ (h : zs_H) (x1 : Int32) (x2 : Int32) (x3 : Int32), f_Mo_rungCode_L13 n h x1 x2 x3 = some rh → zk_Ab X (zs_W S h) 0 0 13 [(0, .ref (S.1 68)), (1, .int x1), (2, .int x2), (3, .int x3)] [] := by
  induction n with
  | zero => intro h x1 x2 x3 e; exact zd_no e
  | succ n ih => intro h x1 x2 x3 e; exact zb_Mo_rungCode_13 (k13 := f_Mo_rungCode_L13  n) C hR ih h x1 x2 x3 e
set_option maxHeartbeats 4000000 in
set_option maxRecDepth 100000 in
theorem zc_Mo_rungCode {l : Launch} {D : va_G} {sz0 : Nat} {S : zs_T} {P : ze_T} (h : zs_H) (x1 : Int32) {rh : zs_H} (e : f_Mo_rungCode h x1 = some rh) : zk_Sp (zs_G S l D sz0) (ze_E P) km_Mo_rungCode { frames := 4, cells := 0, slots := 0, locals := 99 } [.ref (S.1 68), .int x1] (zs_W S h) (zd_PV S rh) := by
  refine zk_met ku_Mo_rungCode (Nat.le_of_ble_eq_true rfl) (ze_Em P) ?_
  intro X C hR
  refine zk_lvs (lv' := [(0, .ref (S.1 68)), (1, .int x1)]) [0, 1] rfl ?_
  unfold f_Mo_rungCode at e
  refine zk_aload_n C kd_Mo_rungCode_0 rfl 0 rfl rfl ?_
  refine zk_aload_n C kd_Mo_rungCode_1 rfl 0 rfl rfl ?_
  refine zs_get (v := .ref (S.1 76)) C 68 19 rfl rfl rfl rfl ki_Mo (by decide) kw1702 kd_Mo_rungCode_2 rfl ?_
  refine zk_iload_n C kd_Mo_rungCode_5 rfl 1 rfl rfl ?_
  obtain ⟨q1, e⟩ := zd_g e
  refine zs_iald C 76 rfl (zd_vp q1) kd_Mo_rungCode_6 rfl ?_
  obtain ⟨v3, c2, e⟩ := zd_b e
  refine zs_callV (k := 68) (rn := { frames := 0, cells := 0, slots := 0, locals := 0 }) (As := [.int (h.2.1 76 x1.toNatClampNeg)]) (rest := []) C (zc_Mo_cellsIn h (h.2.1 76 x1.toNatClampNeg) c2) ku_Mo_cellsIn kw2481 kv_Mo_cellsIn rfl ⟨by decide, by decide⟩ ⟨by decide, by decide⟩ rfl rfl rfl (Nat.le_of_ble_eq_true rfl) kd_Mo_rungCode_7 rfl (c1 := 0) (s1 := 0) rfl rfl (fun v w hp => ?_)
  obtain ⟨rfl, rfl⟩ := hp
  refine zk_stk (r' := [.int v3]) rfl ?_
  refine zk_istore_n (lv' := [(2, _), (0, _), (1, _)]) C kd_Mo_rungCode_10 rfl (by decide) rfl rfl ?_
  refine zk_iconst (v := 0) C kd_Mo_rungCode_11 (by decide) rfl ?_
  refine zk_istore_n (lv' := [(3, _), (2, _), (0, _), (1, _)]) C kd_Mo_rungCode_12 rfl (by decide) rfl rfl ?_
  refine zk_lvs (lv' := [(0, .ref (S.1 68)), (1, .int x1), (2, .int v3), (3, .int 0)]) [2, 3, 1, 0] rfl ?_
  exact zl_Mo_rungCode_13 C hR zF h x1 v3 0 e
set_option maxHeartbeats 4000000 in
set_option maxRecDepth 100000 in
theorem zb_Mo_ladderCode_7 {X : zkj_T} {S : zs_T} {P : ze_T} {l : Launch} {D : va_G} {sz0 : Nat} {rh : zs_H} (C : zk_C X km_Mo_ladderCode (zs_G S l D sz0) { frames := 5, cells := 0, slots := 0, locals := 125 } (ze_E P)) (hR : zkj_R X (zd_PV S rh) (none)) {k7 : zs_H → Int32 → (Option zs_H)} (hk7 : ∀ (h : zs_H) (x2 : Int32), k7 h x2 = some rh → zk_Ab X (zs_W S h) 0 0 7 [(0, .ref (S.1 68)), (2, .int x2)] []) (h : zs_H) (x2 : Int32) (e : f_Mo_ladderCode_7 k7 h x2 = some rh) : zk_Ab X (zs_W S h) 0 0 7 [(0, .ref (S.1 68)), (2, .int x2)] [] := by
  unfold f_Mo_ladderCode_7 at e
  refine zk_iload_n C kd_Mo_ladderCode_7 rfl 1 rfl rfl ?_
  refine zk_if_lt (tgt := 26) C kd_Mo_ladderCode_8 (by decide) rfl (fun b1 => ?_) (fun b1 => ?_)
  · replace e := zd_pos b1 e
    exact zk_vret C hR kd_Mo_ladderCode_26 rfl rfl (zd_rV e)
  · replace e := zd_neg b1 e
    refine zk_aload_n C kd_Mo_ladderCode_11 rfl 0 rfl rfl ?_
    refine zk_iload_n C kd_Mo_ladderCode_12 rfl 1 rfl rfl ?_
    obtain ⟨h3, c2, e⟩ := zd_b e
    refine zs_callV (k := 68) (rn := { frames := 4, cells := 0, slots := 0, locals := 99 }) (As := [.int x2]) (rest := []) C (zc_Mo_rungCode h x2 c2) ku_Mo_rungCode kw2624 kv_Mo_rungCode rfl ⟨by decide, by decide⟩ ⟨by decide, by decide⟩ rfl rfl rfl (Nat.le_of_ble_eq_true rfl) kd_Mo_ladderCode_13 rfl (c1 := 0) (s1 := 0) rfl rfl (fun v w hp => ?_)
    obtain ⟨rfl, rfl⟩ := hp
    refine zk_stk (r' := []) rfl ?_
    refine zk_aload_n C kd_Mo_ladderCode_16 rfl 0 rfl rfl ?_
    refine zs_get (v := .ref (S.1 78)) C 68 21 rfl rfl rfl rfl ki_Mo (by decide) kw1704 kd_Mo_ladderCode_17 rfl ?_
    refine zk_iload_n C kd_Mo_ladderCode_20 rfl 1 rfl rfl ?_
    obtain ⟨q4, e⟩ := zd_g e
    refine zs_iald C 78 rfl (zd_vp q4) kd_Mo_ladderCode_21 rfl ?_
    refine zk_istore_n (lv' := [(2, _), (0, _)]) C kd_Mo_ladderCode_22 rfl (by decide) rfl rfl ?_
    refine zk_goto (tgt := 7) C kd_Mo_ladderCode_23 (by decide) ?_
    refine zk_lvs (lv' := [(0, .ref (S.1 68)), (2, .int (h3.2.1 78 x2.toNatClampNeg))]) [1, 0] rfl ?_
    exact hk7 h3 (h3.2.1 78 x2.toNatClampNeg) e
theorem zl_Mo_ladderCode_7 {X : zkj_T} {S : zs_T} {P : ze_T} {l : Launch} {D : va_G} {sz0 : Nat} {rh : zs_H} (C : zk_C X km_Mo_ladderCode (zs_G S l D sz0) { frames := 5, cells := 0, slots := 0, locals := 125 } (ze_E P)) (hR : zkj_R X (zd_PV S rh) (none)) (n : Nat) : ∀ (h : zs_H) (x2 : Int32), f_Mo_ladderCode_L7 n h x2 = some rh → zk_Ab X (zs_W S h) 0 0 7 [(0, .ref (S.1 68)), (2, .int x2)] [] := by
  induction n with
  | zero => intro h x2 e; exact zd_no e
  | succ n ih => intro h x2 e; exact zb_Mo_ladderCode_7 (k7 := f_Mo_ladderCode_L7  n) C hR ih h x2 e
set_option maxHeartbeats 4000000 in
set_option maxRecDepth 100000 in
theorem zc_Mo_ladderCode {l : Launch} {D : va_G} {sz0 : Nat} {S : zs_T} {P : ze_T} (h : zs_H) (x1 : Int32) {rh : zs_H} (e : f_Mo_ladderCode h x1 = some rh) : zk_Sp (zs_G S l D sz0) (ze_E P) km_Mo_ladderCode { frames := 5, cells := 0, slots := 0, locals := 125 } [.ref (S.1 68), .int x1] (zs_W S h) (zd_PV S rh) := by
  refine zk_met ku_Mo_ladderCode (Nat.le_of_ble_eq_true rfl) (ze_Em P) ?_
  intro X C hR
  refine zk_lvs (lv' := [(0, .ref (S.1 68)), (1, .int x1)]) [0, 1] rfl ?_
  unfold f_Mo_ladderCode at e
  refine zk_aload_n C kd_Mo_ladderCode_0 rfl 0 rfl rfl ?_
  refine zs_get (v := .ref (S.1 76)) C 68 19 rfl rfl rfl rfl ki_Mo (by decide) kw1702 kd_Mo_ladderCode_1 rfl ?_
  refine zk_iload_n C kd_Mo_ladderCode_4 rfl 1 rfl rfl ?_
  obtain ⟨q1, e⟩ := zd_g e
  refine zs_iald C 76 rfl (zd_vp q1) kd_Mo_ladderCode_5 rfl ?_
  refine zk_istore_n (lv' := [(2, _), (0, _), (1, _)]) C kd_Mo_ladderCode_6 rfl (by decide) rfl rfl ?_
  refine zk_lvs (lv' := [(0, .ref (S.1 68)), (2, .int (h.2.1 76 x1.toNatClampNeg))]) [1, 0] rfl ?_
  exact zl_Mo_ladderCode_7 C hR zF h (h.2.1 76 x1.toNatClampNeg) e
set_option maxHeartbeats 4000000 in
set_option maxRecDepth 100000 in
theorem zb_Mo_generate_102 {X : zkj_T} {S : zs_T} {P : ze_T} {l : Launch} {D : va_G} {sz0 : Nat} {rv : Int32} {rh : zs_H} (C : zk_C X km_Mo_generate (zs_G S l D sz0) { frames := 1808, cells := 0, slots := 0, locals := 46183 } (ze_E P)) (hR : zkj_R X (zd_PZ S rv rh) (some .boolean)) {k18 : zs_H → Int32 → (Option (Int32 × zs_H))} (hk18 : ∀ (h : zs_H) (x1 : Int32), k18 h x1 = some (rv, rh) → zk_Ab X (zs_W S h) 0 0 18 [(0, .ref (S.1 68)), (1, .int x1)] []) (h : zs_H) (x1 : Int32) (e : f_Mo_generate_102 k18 h x1 = some (rv, rh)) : zk_Ab X (zs_W S h) 0 0 102 [(0, .ref (S.1 68)), (1, .int x1)] [] := by
  unfold f_Mo_generate_102 at e
  refine zk_iinc (v := (x1 + 1)) (lv' := [(1, _), (0, _)]) C kd_Mo_generate_102 1 rfl rfl (by decide) rfl rfl ?_
  refine zk_goto (tgt := 18) C kd_Mo_generate_105 (by decide) ?_
  refine zk_lvs (lv' := [(0, .ref (S.1 68)), (1, .int (x1 + 1))]) [1, 0] rfl ?_
  exact hk18 h (x1 + 1) e
set_option maxHeartbeats 4000000 in
set_option maxRecDepth 100000 in
theorem zb_Mo_generate_66 {X : zkj_T} {S : zs_T} {P : ze_T} {l : Launch} {D : va_G} {sz0 : Nat} {rv : Int32} {rh : zs_H} (C : zk_C X km_Mo_generate (zs_G S l D sz0) { frames := 1808, cells := 0, slots := 0, locals := 46183 } (ze_E P)) (hR : zkj_R X (zd_PZ S rv rh) (some .boolean)) {k18 : zs_H → Int32 → (Option (Int32 × zs_H))} (hk18 : ∀ (h : zs_H) (x1 : Int32), k18 h x1 = some (rv, rh) → zk_Ab X (zs_W S h) 0 0 18 [(0, .ref (S.1 68)), (1, .int x1)] []) (h : zs_H) (x1 : Int32) (e : f_Mo_generate_66 k18 h x1 = some (rv, rh)) : zk_Ab X (zs_W S h) 0 0 66 [(0, .ref (S.1 68)), (1, .int x1)] [] := by
  unfold f_Mo_generate_66 at e
  refine zk_aload_n C kd_Mo_generate_66 rfl 0 rfl rfl ?_
  refine zs_get (v := .ref (S.1 77)) C 68 20 rfl rfl rfl rfl ki_Mo (by decide) kw1703 kd_Mo_generate_67 rfl ?_
  refine zk_aload_n C kd_Mo_generate_70 rfl 0 rfl rfl ?_
  refine zs_get (v := .ref (S.1 84)) C 68 34 rfl rfl rfl rfl ki_Mo (by decide) kw1717 kd_Mo_generate_71 rfl ?_
  refine zk_iload_n C kd_Mo_generate_74 rfl 1 rfl rfl ?_
  obtain ⟨q1, e⟩ := zd_g e
  refine zs_iald C 84 rfl (zd_vp q1) kd_Mo_generate_75 rfl ?_
  obtain ⟨q2, e⟩ := zd_g e
  refine zs_iald C 77 rfl (zd_vp q2) kd_Mo_generate_76 rfl ?_
  refine zk_istore_n (lv' := [(2, _), (0, _), (1, _)]) C kd_Mo_generate_77 rfl (by decide) rfl rfl ?_
  refine zk_aload_n C kd_Mo_generate_78 rfl 1 rfl rfl ?_
  refine zs_get (v := .ref (S.1 72)) C 68 15 rfl rfl rfl rfl ki_Mo (by decide) kw1698 kd_Mo_generate_79 rfl ?_
  refine zk_iload_n C kd_Mo_generate_82 rfl 0 rfl rfl ?_
  obtain ⟨q3, e⟩ := zd_g e
  refine zs_iald C 72 rfl (zd_vp q3) kd_Mo_generate_83 rfl ?_
  refine zk_bipush (v := 11) C kd_Mo_generate_84 (by decide) rfl ?_
  refine zk_icmp_ne (tgt := 97) C kd_Mo_generate_86 (by decide) rfl (fun b4 => ?_) (fun b4 => ?_)
  · replace e := zd_neg b4 e
    refine zk_aload_n C kd_Mo_generate_97 rfl 1 rfl rfl ?_
    refine zk_iload_n C kd_Mo_generate_98 rfl 0 rfl rfl ?_
    obtain ⟨h6, c5, e⟩ := zd_b e
    refine zs_callV (k := 68) (rn := { frames := 5, cells := 0, slots := 0, locals := 125 }) (As := [.int (h.2.1 77 (h.2.1 84 x1.toNatClampNeg).toNatClampNeg)]) (rest := []) C (zc_Mo_ladderCode h (h.2.1 77 (h.2.1 84 x1.toNatClampNeg).toNatClampNeg) c5) ku_Mo_ladderCode kw2620 kv_Mo_ladderCode rfl ⟨by decide, by decide⟩ ⟨by decide, by decide⟩ rfl rfl rfl (Nat.le_of_ble_eq_true rfl) kd_Mo_generate_99 rfl (c1 := 0) (s1 := 0) rfl rfl (fun v w hp => ?_)
    obtain ⟨rfl, rfl⟩ := hp
    refine zk_stk (r' := []) rfl ?_
    refine zk_lvs (lv' := [(0, .ref (S.1 68)), (1, .int x1)]) [1, 2] rfl ?_
    exact zb_Mo_generate_102 C hR hk18 h6 x1 e
  · replace e := zd_pos b4 e
    refine zk_aload_n C kd_Mo_generate_89 rfl 1 rfl rfl ?_
    refine zk_iload_n C kd_Mo_generate_90 rfl 0 rfl rfl ?_
    obtain ⟨h8, c7, e⟩ := zd_b e
    refine zs_callV (k := 68) (rn := { frames := 1407 + 400, cells := 0, slots := 0, locals := 34961 + 28 * 400 }) (As := [.int (h.2.1 77 (h.2.1 84 x1.toNatClampNeg).toNatClampNeg)]) (rest := []) C (zc_Mo_bodyCode h (h.2.1 77 (h.2.1 84 x1.toNatClampNeg).toNatClampNeg) c7) ku_Mo_bodyCode kw2532 kv_Mo_bodyCode rfl ⟨by decide, by decide⟩ ⟨by decide, by decide⟩ rfl rfl rfl (Nat.le_of_ble_eq_true rfl) kd_Mo_generate_91 rfl (c1 := 0) (s1 := 0) rfl rfl (fun v w hp => ?_)
    obtain ⟨rfl, rfl⟩ := hp
    refine zk_stk (r' := []) rfl ?_
    refine zk_goto (tgt := 102) C kd_Mo_generate_94 (by decide) ?_
    refine zk_lvs (lv' := [(0, .ref (S.1 68)), (1, .int x1)]) [1, 2] rfl ?_
    exact zb_Mo_generate_102 C hR hk18 h8 x1 e
set_option maxHeartbeats 4000000 in
set_option maxRecDepth 100000 in
theorem zb_Mo_generate_18 {X : zkj_T} {S : zs_T} {P : ze_T} {l : Launch} {D : va_G} {sz0 : Nat} {rv : Int32} {rh : zs_H} (C : zk_C X km_Mo_generate (zs_G S l D sz0) { frames := 1808, cells := 0, slots := 0, locals := 46183 } (ze_E P)) (hR : zkj_R X (zd_PZ S rv rh) (some .boolean)) {k18 : zs_H → Int32 → (Option (Int32 × zs_H))} (hk18 : ∀ (h : zs_H) (x1 : Int32), k18 h x1 = some (rv, rh) → zk_Ab X (zs_W S h) 0 0 18 [(0, .ref (S.1 68)), (1, .int x1)] []) (h : zs_H) (x1 : Int32) (e : f_Mo_generate_18 k18 h x1 = some (rv, rh)) : zk_Ab X (zs_W S h) 0 0 18 [(0, .ref (S.1 68)), (1, .int x1)] [] := by
  unfold f_Mo_generate_18 at e
  refine zk_iload_n C kd_Mo_generate_18 rfl 1 rfl rfl ?_
  refine zk_aload_n C kd_Mo_generate_19 rfl 0 rfl rfl ?_
  refine zs_get (v := .int (h.1 68 33)) C 68 33 rfl rfl rfl rfl ki_Mo (by decide) kw1716 kd_Mo_generate_20 rfl ?_
  refine zk_icmp_ge (tgt := 108) C kd_Mo_generate_23 (by decide) rfl (fun b1 => ?_) (fun b1 => ?_)
  · replace e := zd_pos b1 e
    refine zk_aload_n C kd_Mo_generate_108 rfl 0 rfl rfl ?_
    refine zs_get (v := .ref (S.1 103)) C 68 57 rfl rfl rfl rfl ki_Mo (by decide) kw1740 kd_Mo_generate_109 rfl ?_
    refine zk_aload_n C kd_Mo_generate_112 rfl 0 rfl rfl ?_
    refine zs_get (v := .int (h.1 68 33)) C 68 33 rfl rfl rfl rfl ki_Mo (by decide) kw1716 kd_Mo_generate_113 rfl ?_
    refine zk_aload_n C kd_Mo_generate_116 rfl 0 rfl rfl ?_
    refine zs_get (v := .int (h.1 68 56)) C 68 56 rfl rfl rfl rfl ki_Mo (by decide) kw1739 kd_Mo_generate_117 rfl ?_
    obtain ⟨q2, e⟩ := zd_g e
    refine zs_iast C 103 rfl (zd_vp q2) kd_Mo_generate_120 rfl ?_
    refine zk_aload_n C kd_Mo_generate_121 rfl 0 rfl rfl ?_
    refine zs_get (v := .int (h.1 68 56)) C 68 56 rfl rfl rfl rfl ki_Mo (by decide) kw1739 kd_Mo_generate_122 rfl ?_
    refine zk_sipush (v := 4000) C kd_Mo_generate_125 (by decide) rfl ?_
    refine zk_icmp_gt (tgt := 135) C kd_Mo_generate_128 (by decide) rfl (fun b3 => ?_) (fun b3 => ?_)
    · replace e := zd_pos b3 e
      refine zk_iconst (v := 0) C kd_Mo_generate_135 (by decide) rfl ?_
      exact zk_zret C hR (zd_nb (Or.inl rfl)) kd_Mo_generate_136 rfl rfl (zd_rZS (Or.inl rfl) e)
    · replace e := zd_neg b3 e
      refine zk_iconst (v := 1) C kd_Mo_generate_131 (by decide) rfl ?_
      refine zk_goto (tgt := 136) C kd_Mo_generate_132 (by decide) ?_
      exact zk_zret C hR (zd_nb (Or.inr rfl)) kd_Mo_generate_136 rfl rfl (zd_rZS (Or.inr rfl) e)
  · replace e := zd_neg b1 e
    refine zk_aload_n C kd_Mo_generate_26 rfl 0 rfl rfl ?_
    refine zk_iload_n C kd_Mo_generate_27 rfl 1 rfl rfl ?_
    refine zs_put (ty := .int) C 68 58 x1 rfl rfl rfl rfl ki_Mo ky_Mo ko_Mo kn_Mo (by decide) kw1741 rfl rfl rfl rfl (by decide) kd_Mo_generate_28 rfl ?_
    refine zk_aload_n C kd_Mo_generate_31 rfl 0 rfl rfl ?_
    refine zk_iload_n C kd_Mo_generate_32 rfl 1 rfl rfl ?_
    refine zs_put (ty := .int) C 68 54 x1 rfl rfl rfl rfl ki_Mo ky_Mo ko_Mo kn_Mo (by decide) kw1737 rfl rfl rfl rfl (by decide) kd_Mo_generate_33 rfl ?_
    refine zk_aload_n C kd_Mo_generate_36 rfl 0 rfl rfl ?_
    refine zs_get (v := .ref (S.1 103)) C 68 57 rfl rfl rfl rfl ki_Mo (by decide) kw1740 kd_Mo_generate_37 rfl ?_
    refine zk_iload_n C kd_Mo_generate_40 rfl 1 rfl rfl ?_
    refine zk_aload_n C kd_Mo_generate_41 rfl 0 rfl rfl ?_
    refine zs_get (v := .int (h.1 68 56)) C 68 56 rfl rfl rfl rfl ki_Mo (by decide) kw1739 kd_Mo_generate_42 rfl ?_
    obtain ⟨q4, e⟩ := zd_g e
    refine zs_iast C 103 rfl (zd_vp q4) kd_Mo_generate_45 rfl ?_
    refine zk_aload_n C kd_Mo_generate_46 rfl 0 rfl rfl ?_
    refine zk_iconst (v := 0) C kd_Mo_generate_47 (by decide) rfl ?_
    refine zs_put (ty := .int) C 68 64 0 rfl rfl rfl rfl ki_Mo ky_Mo ko_Mo kn_Mo (by decide) kw1747 rfl rfl rfl rfl (by decide) kd_Mo_generate_48 rfl ?_
    refine zk_aload_n C kd_Mo_generate_51 rfl 0 rfl rfl ?_
    refine zs_get (v := .ref (S.1 86)) C 68 36 rfl rfl rfl rfl ki_Mo (by decide) kw1719 kd_Mo_generate_52 rfl ?_
    refine zk_iload_n C kd_Mo_generate_55 rfl 1 rfl rfl ?_
    obtain ⟨q5, e⟩ := zd_g e
    refine zs_iald C 86 rfl (zd_vp q5) kd_Mo_generate_56 rfl ?_
    refine zk_stk (r' := [.int (h.2.1 86 x1.toNatClampNeg)]) rfl ?_
    refine zk_iconst (v := 1) C kd_Mo_generate_57 (by decide) rfl ?_
    refine zk_icmp_ne (tgt := 66) C kd_Mo_generate_58 (by decide) rfl (fun b6 => ?_) (fun b6 => ?_)
    · replace e := zd_neg b6 e
      refine zk_lvs (lv' := [(0, .ref (S.1 68)), (1, .int x1)]) [0, 1] rfl ?_
      exact zb_Mo_generate_66 C hR hk18 (zs_uF (zs_uM (zs_uF (zs_uF h 68 58 x1) 68 54 x1) 103 x1.toNatClampNeg (h.1 68 56)) 68 64 0) x1 e
    · replace e := zd_pos b6 e
      refine zk_aload_n C kd_Mo_generate_61 rfl 0 rfl rfl ?_
      refine zk_iload_n C kd_Mo_generate_62 rfl 1 rfl rfl ?_
      obtain ⟨h8, c7, e⟩ := zd_b e
      refine zs_callV (k := 68) (rn := { frames := 1, cells := 0, slots := 0, locals := 24 }) (As := [.int x1]) (rest := []) C (zc_Mo_beginFunction (zs_uF (zs_uM (zs_uF (zs_uF h 68 58 x1) 68 54 x1) 103 x1.toNatClampNeg (h.1 68 56)) 68 64 0) x1 c7) ku_Mo_beginFunction kw2520 kv_Mo_beginFunction rfl ⟨by decide, by decide⟩ ⟨by decide, by decide⟩ rfl rfl rfl (Nat.le_of_ble_eq_true rfl) kd_Mo_generate_63 rfl (c1 := 0) (s1 := 0) rfl rfl (fun v w hp => ?_)
      obtain ⟨rfl, rfl⟩ := hp
      refine zk_stk (r' := []) rfl ?_
      refine zk_lvs (lv' := [(0, .ref (S.1 68)), (1, .int x1)]) [0, 1] rfl ?_
      exact zb_Mo_generate_66 C hR hk18 h8 x1 e
theorem zl_Mo_generate_18 {X : zkj_T} {S : zs_T} {P : ze_T} {l : Launch} {D : va_G} {sz0 : Nat} {rv : Int32} {rh : zs_H} (C : zk_C X km_Mo_generate (zs_G S l D sz0) { frames := 1808, cells := 0, slots := 0, locals := 46183 } (ze_E P)) (hR : zkj_R X (zd_PZ S rv rh) (some .boolean)) (n : Nat) : ∀ (h : zs_H) (x1 : Int32), f_Mo_generate_L18 n h x1 = some (rv, rh) → zk_Ab X (zs_W S h) 0 0 18 [(0, .ref (S.1 68)), (1, .int x1)] [] := by
  induction n with
  | zero => intro h x1 e; exact zd_no e
  | succ n ih => intro h x1 e; exact zb_Mo_generate_18 (k18 := f_Mo_generate_L18  n) C hR ih h x1 e
set_option maxHeartbeats 4000000 in
set_option maxRecDepth 100000 in
theorem zc_Mo_generate {l : Launch} {D : va_G} {sz0 : Nat} {S : zs_T} {P : ze_T} (h : zs_H) {rv : Int32} {rh : zs_H} (e : f_Mo_generate h = some (rv, rh)) : zk_Sp (zs_G S l D sz0) (ze_E P) km_Mo_generate { frames := 1808, cells := 0, slots := 0, locals := 46183 } [.ref (S.1 68)] (zs_W S h) (zd_PZ S rv rh) := by
  refine zk_met ku_Mo_generate (Nat.le_of_ble_eq_true rfl) (ze_Em P) ?_
  intro X C hR
  refine zk_lvs (lv' := [(0, .ref (S.1 68))]) [0] rfl ?_
  unfold f_Mo_generate at e
  refine zk_aload_n C kd_Mo_generate_0 rfl 0 rfl rfl ?_
  refine zk_iconst (v := 0) C kd_Mo_generate_1 (by decide) rfl ?_
  refine zs_put (ty := .int) C 68 56 0 rfl rfl rfl rfl ki_Mo ky_Mo ko_Mo kn_Mo (by decide) kw1739 rfl rfl rfl rfl (by decide) kd_Mo_generate_2 rfl ?_
  refine zk_aload_n C kd_Mo_generate_5 rfl 0 rfl rfl ?_
  refine zs_get (v := .int (h.1 68 33)) C 68 33 rfl rfl rfl rfl ki_Mo (by decide) kw1716 kd_Mo_generate_6 rfl ?_
  refine zk_bipush (v := 16) C kd_Mo_generate_9 (by decide) rfl ?_
  refine zk_icmp_le (tgt := 16) C kd_Mo_generate_11 (by decide) rfl (fun b1 => ?_) (fun b1 => ?_)
  · replace e := zd_pos b1 e
    refine zk_iconst (v := 0) C kd_Mo_generate_16 (by decide) rfl ?_
    refine zk_istore_n (lv' := [(1, _), (0, _)]) C kd_Mo_generate_17 rfl (by decide) rfl rfl ?_
    refine zk_lvs (lv' := [(0, .ref (S.1 68)), (1, .int 0)]) [1, 0] rfl ?_
    exact zl_Mo_generate_18 C hR zF (zs_uF h 68 56 0) 0 e
  · replace e := zd_neg b1 e
    refine zk_iconst (v := 0) C kd_Mo_generate_14 (by decide) rfl ?_
    exact zk_zret C hR (zd_nb (Or.inl rfl)) kd_Mo_generate_15 rfl rfl (zd_rZS (Or.inl rfl) e)
set_option maxHeartbeats 4000000 in
set_option maxRecDepth 100000 in
theorem zc_Mo_refuse {l : Launch} {D : va_G} {sz0 : Nat} {S : zs_T} {P : ze_T} (h : zs_H) (x1 : Int32) (x2 : Int32) {rh : zs_H} (e : f_Mo_refuse h x1 x2 = some rh) : zk_Sp (zs_G S l D sz0) (ze_E P) km_Mo_refuse { frames := 0, cells := 0, slots := 0, locals := 0 } [.ref (S.1 68), .int x1, .int x2] (zs_W S h) (zd_PV S rh) := by
  refine zk_met ku_Mo_refuse (Nat.le_of_ble_eq_true rfl) (ze_Em P) ?_
  intro X C hR
  refine zk_lvs (lv' := [(0, .ref (S.1 68)), (1, .int x1), (2, .int x2)]) [0, 1, 2] rfl ?_
  unfold f_Mo_refuse at e
  refine zk_aload_n C kd_Mo_refuse_0 rfl 0 rfl rfl ?_
  refine zk_iload_n C kd_Mo_refuse_1 rfl 1 rfl rfl ?_
  refine zs_put (ty := .int) C 68 80 x1 rfl rfl rfl rfl ki_Mo ky_Mo ko_Mo kn_Mo (by decide) kw1763 rfl rfl rfl rfl (by decide) kd_Mo_refuse_2 rfl ?_
  refine zk_aload_n C kd_Mo_refuse_5 rfl 0 rfl rfl ?_
  refine zk_iload_n C kd_Mo_refuse_6 rfl 2 rfl rfl ?_
  refine zs_put (ty := .int) C 68 81 x2 rfl rfl rfl rfl ki_Mo ky_Mo ko_Mo kn_Mo (by decide) kw1764 rfl rfl rfl rfl (by decide) kd_Mo_refuse_7 rfl ?_
  exact zk_vret C hR kd_Mo_refuse_10 rfl rfl (zd_rV e)
set_option maxHeartbeats 4000000 in
set_option maxRecDepth 100000 in
theorem zc_Mo_target {l : Launch} {D : va_G} {sz0 : Nat} {S : zs_T} {P : ze_T} (h : zs_H) (x1 : Int32) (x2 : Int32) {rv : Int32} (e : f_Mo_target h x1 x2 = some rv) : zk_Sp (zs_G S l D sz0) (ze_E P) km_Mo_target { frames := 1, cells := 0, slots := 0, locals := 21 } [.ref (S.1 68), .int x1, .int x2] (zs_W S h) (zd_PI S rv h) := by
  refine zk_met ku_Mo_target (Nat.le_of_ble_eq_true rfl) (ze_Em P) ?_
  intro X C hR
  refine zk_lvs (lv' := [(0, .ref (S.1 68)), (1, .int x1), (2, .int x2)]) [0, 1, 2] rfl ?_
  unfold f_Mo_target at e
  refine zk_aload_n C kd_Mo_target_0 rfl 0 rfl rfl ?_
  refine zs_get (v := .ref (S.1 103)) C 68 57 rfl rfl rfl rfl ki_Mo (by decide) kw1740 kd_Mo_target_1 rfl ?_
  refine zk_iload_n C kd_Mo_target_4 rfl 1 rfl rfl ?_
  obtain ⟨q1, e⟩ := zd_g e
  refine zs_iald C 103 rfl (zd_vp q1) kd_Mo_target_5 rfl ?_
  refine zk_iload_n C kd_Mo_target_6 rfl 2 rfl rfl ?_
  refine zk_iadd C kd_Mo_target_7 rfl ?_
  refine zk_istore_n (lv' := [(3, _), (0, _), (1, _), (2, _)]) C kd_Mo_target_8 rfl (by decide) rfl rfl ?_
  refine zk_aload_n C kd_Mo_target_9 rfl 1 rfl rfl ?_
  refine zs_get (v := .ref (S.1 104)) C 68 59 rfl rfl rfl rfl ki_Mo (by decide) kw1742 kd_Mo_target_10 rfl ?_
  refine zk_iload_n C kd_Mo_target_13 rfl 0 rfl rfl ?_
  obtain ⟨q2, e⟩ := zd_g e
  refine zs_iald C 104 rfl (zd_vp q2) kd_Mo_target_14 rfl ?_
  by_cases b3 : (h.2.1 104 ((h.2.1 103 x1.toNatClampNeg) + x2).toNatClampNeg) = 10
  · replace e := zd_pos b3 e
    refine zk_tableIn (tgt := 64) C kd_Mo_target_15 (by rw [b3]; decide) (by rw [b3]; decide) (by rw [b3]; rfl) (by decide) ?_
    refine zk_aload_n C kd_Mo_target_64 rfl 1 rfl rfl ?_
    refine zs_get (v := .ref (S.1 105)) C 68 60 rfl rfl rfl rfl ki_Mo (by decide) kw1743 kd_Mo_target_65 rfl ?_
    refine zk_iload_n C kd_Mo_target_68 rfl 0 rfl rfl ?_
    refine zs_iald C 105 rfl (zd_vp q2) kd_Mo_target_69 rfl ?_
    exact zk_iret C hR kd_Mo_target_70 rfl rfl (zd_rIO e)
  replace e := zd_neg b3 e
  by_cases b4 : (h.2.1 104 ((h.2.1 103 x1.toNatClampNeg) + x2).toNatClampNeg) = 11
  · replace e := zd_pos b4 e
    refine zk_tableIn (tgt := 64) C kd_Mo_target_15 (by rw [b4]; decide) (by rw [b4]; decide) (by rw [b4]; rfl) (by decide) ?_
    refine zk_aload_n C kd_Mo_target_64 rfl 1 rfl rfl ?_
    refine zs_get (v := .ref (S.1 105)) C 68 60 rfl rfl rfl rfl ki_Mo (by decide) kw1743 kd_Mo_target_65 rfl ?_
    refine zk_iload_n C kd_Mo_target_68 rfl 0 rfl rfl ?_
    refine zs_iald C 105 rfl (zd_vp q2) kd_Mo_target_69 rfl ?_
    exact zk_iret C hR kd_Mo_target_70 rfl rfl (zd_rIO e)
  replace e := zd_neg b4 e
  by_cases b5 : (h.2.1 104 ((h.2.1 103 x1.toNatClampNeg) + x2).toNatClampNeg) = 13
  · replace e := zd_pos b5 e
    refine zk_tableIn (tgt := 71) C kd_Mo_target_15 (by rw [b5]; decide) (by rw [b5]; decide) (by rw [b5]; rfl) (by decide) ?_
    refine zk_aload_n C kd_Mo_target_71 rfl 1 rfl rfl ?_
    refine zs_get (v := .ref (S.1 106)) C 68 61 rfl rfl rfl rfl ki_Mo (by decide) kw1744 kd_Mo_target_72 rfl ?_
    refine zk_iload_n C kd_Mo_target_75 rfl 0 rfl rfl ?_
    refine zs_iald C 106 rfl (zd_vp q2) kd_Mo_target_76 rfl ?_
    exact zk_iret C hR kd_Mo_target_77 rfl rfl (zd_rIO e)
  replace e := zd_neg b5 e
  by_cases b6 : (h.2.1 104 ((h.2.1 103 x1.toNatClampNeg) + x2).toNatClampNeg) = 14
  · replace e := zd_pos b6 e
    refine zk_tableIn (tgt := 64) C kd_Mo_target_15 (by rw [b6]; decide) (by rw [b6]; decide) (by rw [b6]; rfl) (by decide) ?_
    refine zk_aload_n C kd_Mo_target_64 rfl 1 rfl rfl ?_
    refine zs_get (v := .ref (S.1 105)) C 68 60 rfl rfl rfl rfl ki_Mo (by decide) kw1743 kd_Mo_target_65 rfl ?_
    refine zk_iload_n C kd_Mo_target_68 rfl 0 rfl rfl ?_
    refine zs_iald C 105 rfl (zd_vp q2) kd_Mo_target_69 rfl ?_
    exact zk_iret C hR kd_Mo_target_70 rfl rfl (zd_rIO e)
  replace e := zd_neg b6 e
  by_cases b7 : (h.2.1 104 ((h.2.1 103 x1.toNatClampNeg) + x2).toNatClampNeg) = 18
  · replace e := zd_pos b7 e
    refine zk_tableIn (tgt := 78) C kd_Mo_target_15 (by rw [b7]; decide) (by rw [b7]; decide) (by rw [b7]; rfl) (by decide) ?_
    refine zk_aload_n C kd_Mo_target_78 rfl 1 rfl rfl ?_
    refine zk_iload_n C kd_Mo_target_79 rfl 2 rfl rfl ?_
    obtain ⟨v9, c8, e⟩ := zd_b e
    refine zs_callV (k := 68) (rn := { frames := 0, cells := 0, slots := 0, locals := 0 }) (As := [.int x1]) (rest := []) C (zc_Mo_sizeOf h x1 c8) ku_Mo_sizeOf kw2668 kv_Mo_sizeOf rfl ⟨by decide, by decide⟩ ⟨by decide, by decide⟩ rfl rfl rfl (Nat.le_of_ble_eq_true rfl) kd_Mo_target_80 rfl (c1 := 0) (s1 := 0) rfl rfl (fun v w hp => ?_)
    obtain ⟨rfl, rfl⟩ := hp
    refine zk_stk (r' := [.int v9]) rfl ?_
    exact zk_iret C hR kd_Mo_target_83 rfl rfl (zd_rIO e)
  replace e := zd_neg b7 e
  refine zd_tableD (tgt := 84) C kd_Mo_target_15 (by decide) [10, 11, 13, 14, 18] (by decide +kernel) (by have n0 := lv_neT b3 (a := 10) (by decide); have n1 := lv_neT b4 (a := 11) (by decide); have n2 := lv_neT b5 (a := 13) (by decide); have n3 := lv_neT b6 (a := 14) (by decide); have n4 := lv_neT b7 (a := 18) (by decide); simp only [List.mem_cons, List.not_mem_nil, or_false, not_or]; exact ⟨n0, n1, n2, n3, n4⟩) ?_
  refine zk_iconst (v := (-1)) C kd_Mo_target_84 (by decide) rfl ?_
  exact zk_iret C hR kd_Mo_target_85 rfl rfl (zd_rIO e)
set_option maxHeartbeats 4000000 in
set_option maxRecDepth 100000 in
theorem zb_Mo_isDeep_149 {X : zkj_T} {S : zs_T} {P : ze_T} {l : Launch} {D : va_G} {sz0 : Nat} {rv : Int32} {rh : zs_H} (C : zk_C X km_Mo_isDeep (zs_G S l D sz0) { frames := 2, cells := 0, slots := 0, locals := 44 } (ze_E P)) (hR : zkj_R X (zd_PZ S rv rh) (some .boolean)) {k35 : zs_H → Int32 → Int32 → Int32 → (Option (Int32 × zs_H))} (hk35 : ∀ (h : zs_H) (x1 : Int32) (x2 : Int32) (x3 : Int32), k35 h x1 x2 x3 = some (rv, rh) → zk_Ab X (zs_W S h) 0 0 35 [(0, .ref (S.1 68)), (1, .int x1), (2, .int x2), (3, .int x3)] []) (h : zs_H) (x1 : Int32) (x2 : Int32) (x3 : Int32) (e : f_Mo_isDeep_149 k35 h x1 x2 x3 = some (rv, rh)) : zk_Ab X (zs_W S h) 0 0 149 [(0, .ref (S.1 68)), (1, .int x1), (2, .int x2), (3, .int x3)] [] := by
  unfold f_Mo_isDeep_149 at e
  refine zk_iinc (v := (x3 + 1)) (lv' := [(3, _), (0, _), (1, _), (2, _)]) C kd_Mo_isDeep_149 3 rfl rfl (by decide) rfl rfl ?_
  refine zk_goto (tgt := 35) C kd_Mo_isDeep_152 (by decide) ?_
  refine zk_lvs (lv' := [(0, .ref (S.1 68)), (1, .int x1), (2, .int x2), (3, .int (x3 + 1))]) [1, 2, 3, 0] rfl ?_
  exact hk35 h x1 x2 (x3 + 1) e
set_option maxHeartbeats 4000000 in
set_option maxRecDepth 100000 in
theorem zb_Mo_isDeep_126 {X : zkj_T} {S : zs_T} {P : ze_T} {l : Launch} {D : va_G} {sz0 : Nat} {rv : Int32} {rh : zs_H} (C : zk_C X km_Mo_isDeep (zs_G S l D sz0) { frames := 2, cells := 0, slots := 0, locals := 44 } (ze_E P)) (hR : zkj_R X (zd_PZ S rv rh) (some .boolean)) {k35 : zs_H → Int32 → Int32 → Int32 → (Option (Int32 × zs_H))} (hk35 : ∀ (h : zs_H) (x1 : Int32) (x2 : Int32) (x3 : Int32), k35 h x1 x2 x3 = some (rv, rh) → zk_Ab X (zs_W S h) 0 0 35 [(0, .ref (S.1 68)), (1, .int x1), (2, .int x2), (3, .int x3)] []) (h : zs_H) (x1 : Int32) (x2 : Int32) (x3 : Int32) (x5 : Int32) (e : f_Mo_isDeep_126 k35 h x1 x2 x3 x5 = some (rv, rh)) : zk_Ab X (zs_W S h) 0 0 126 [(0, .ref (S.1 68)), (1, .int x1), (2, .int x2), (3, .int x3), (5, .int x5)] [] := by
  unfold f_Mo_isDeep_126 at e
  refine zk_aload_n C kd_Mo_isDeep_126 rfl 0 rfl rfl ?_
  refine zk_iload_n C kd_Mo_isDeep_127 rfl 1 rfl rfl ?_
  refine zk_iload_n C kd_Mo_isDeep_128 rfl 3 rfl rfl ?_
  obtain ⟨v2, c1, e⟩ := zd_b e
  refine zs_callV (k := 68) (rn := { frames := 1, cells := 0, slots := 0, locals := 21 }) (As := [.int x1, .int x3]) (rest := []) C (zc_Mo_target h x1 x3 c1) ku_Mo_target kw2676 kv_Mo_target rfl ⟨by decide, by decide⟩ ⟨by decide, by decide⟩ rfl rfl rfl (Nat.le_of_ble_eq_true rfl) kd_Mo_isDeep_129 rfl (c1 := 0) (s1 := 0) rfl rfl (fun v w hp => ?_)
  obtain ⟨rfl, rfl⟩ := hp
  refine zk_stk (r' := [.int v2]) rfl ?_
  refine zk_istore (lv' := [(6, _), (0, _), (1, _), (2, _), (3, _), (5, _)]) C kd_Mo_isDeep_132 (by decide) rfl rfl ?_
  refine zk_iload C kd_Mo_isDeep_134 0 rfl rfl ?_
  refine zk_iload_n C kd_Mo_isDeep_136 rfl 4 rfl rfl ?_
  refine zk_icmp_le (tgt := 149) C kd_Mo_isDeep_137 (by decide) rfl (fun b3 => ?_) (fun b3 => ?_)
  · replace e := zd_pos b3 e
    refine zk_lvs (lv' := [(0, .ref (S.1 68)), (1, .int x1), (2, .int x2), (3, .int x3)]) [1, 2, 3, 4] rfl ?_
    exact zb_Mo_isDeep_149 C hR hk35 h x1 x2 x3 e
  · replace e := zd_neg b3 e
    refine zk_aload_n C kd_Mo_isDeep_140 rfl 1 rfl rfl ?_
    refine zs_get (v := .ref (S.1 112)) C 68 70 rfl rfl rfl rfl ki_Mo (by decide) kw1753 kd_Mo_isDeep_141 rfl ?_
    refine zk_iload C kd_Mo_isDeep_144 0 rfl rfl ?_
    refine zk_iload C kd_Mo_isDeep_146 5 rfl rfl ?_
    obtain ⟨q4, e⟩ := zd_g e
    refine zs_iast C 112 rfl (zd_vp q4) kd_Mo_isDeep_148 rfl ?_
    refine zk_lvs (lv' := [(0, .ref (S.1 68)), (1, .int x1), (2, .int x2), (3, .int x3)]) [1, 2, 3, 4] rfl ?_
    exact zb_Mo_isDeep_149 C hR hk35 (zs_uM h 112 v2.toNatClampNeg x5) x1 x2 x3 e
set_option maxHeartbeats 4000000 in
set_option maxRecDepth 100000 in
theorem zb_Mo_isDeep_35 {X : zkj_T} {S : zs_T} {P : ze_T} {l : Launch} {D : va_G} {sz0 : Nat} {rv : Int32} {rh : zs_H} (C : zk_C X km_Mo_isDeep (zs_G S l D sz0) { frames := 2, cells := 0, slots := 0, locals := 44 } (ze_E P)) (hR : zkj_R X (zd_PZ S rv rh) (some .boolean)) {k35 : zs_H → Int32 → Int32 → Int32 → (Option (Int32 × zs_H))} (hk35 : ∀ (h : zs_H) (x1 : Int32) (x2 : Int32) (x3 : Int32), k35 h x1 x2 x3 = some (rv, rh) → zk_Ab X (zs_W S h) 0 0 35 [(0, .ref (S.1 68)), (1, .int x1), (2, .int x2), (3, .int x3)] []) (h : zs_H) (x1 : Int32) (x2 : Int32) (x3 : Int32) (e : f_Mo_isDeep_35 k35 h x1 x2 x3 = some (rv, rh)) : zk_Ab X (zs_W S h) 0 0 35 [(0, .ref (S.1 68)), (1, .int x1), (2, .int x2), (3, .int x3)] [] := by
  unfold f_Mo_isDeep_35 at e
  refine zk_iload_n C kd_Mo_isDeep_35 rfl 3 rfl rfl ?_
  refine zk_iload_n C kd_Mo_isDeep_36 rfl 2 rfl rfl ?_
  refine zk_icmp_ge (tgt := 155) C kd_Mo_isDeep_37 (by decide) rfl (fun b1 => ?_) (fun b1 => ?_)
  · replace e := zd_pos b1 e
    refine zk_iconst (v := 0) C kd_Mo_isDeep_155 (by decide) rfl ?_
    exact zk_zret C hR (zd_nb (Or.inl rfl)) kd_Mo_isDeep_156 rfl rfl (zd_rZS (Or.inl rfl) e)
  · replace e := zd_neg b1 e
    refine zk_aload_n C kd_Mo_isDeep_40 rfl 0 rfl rfl ?_
    refine zs_get (v := .ref (S.1 104)) C 68 59 rfl rfl rfl rfl ki_Mo (by decide) kw1742 kd_Mo_isDeep_41 rfl ?_
    refine zk_aload_n C kd_Mo_isDeep_44 rfl 0 rfl rfl ?_
    refine zs_get (v := .ref (S.1 103)) C 68 57 rfl rfl rfl rfl ki_Mo (by decide) kw1740 kd_Mo_isDeep_45 rfl ?_
    refine zk_iload_n C kd_Mo_isDeep_48 rfl 1 rfl rfl ?_
    obtain ⟨q2, e⟩ := zd_g e
    refine zs_iald C 103 rfl (zd_vp q2) kd_Mo_isDeep_49 rfl ?_
    refine zk_iload_n C kd_Mo_isDeep_50 rfl 3 rfl rfl ?_
    refine zk_iadd C kd_Mo_isDeep_51 rfl ?_
    obtain ⟨q3, e⟩ := zd_g e
    refine zs_iald C 104 rfl (zd_vp q3) kd_Mo_isDeep_52 rfl ?_
    refine zk_istore (lv' := [(4, _), (0, _), (1, _), (2, _), (3, _)]) C kd_Mo_isDeep_53 (by decide) rfl rfl ?_
    refine zk_aload_n C kd_Mo_isDeep_55 rfl 1 rfl rfl ?_
    refine zs_get (v := .ref (S.1 112)) C 68 70 rfl rfl rfl rfl ki_Mo (by decide) kw1753 kd_Mo_isDeep_56 rfl ?_
    refine zk_iload_n C kd_Mo_isDeep_59 rfl 4 rfl rfl ?_
    obtain ⟨q4, e⟩ := zd_g e
    refine zs_iald C 112 rfl (zd_vp q4) kd_Mo_isDeep_60 rfl ?_
    refine zk_if_lt (tgt := 149) C kd_Mo_isDeep_61 (by decide) rfl (fun b5 => ?_) (fun b5 => ?_)
    · replace e := zd_pos b5 e
      refine zk_lvs (lv' := [(0, .ref (S.1 68)), (1, .int x1), (2, .int x2), (3, .int x3)]) [1, 2, 3, 4] rfl ?_
      exact zb_Mo_isDeep_149 C hR hk35 h x1 x2 x3 e
    · replace e := zd_neg b5 e
      refine zk_aload_n C kd_Mo_isDeep_64 rfl 1 rfl rfl ?_
      refine zs_get (v := .ref (S.1 112)) C 68 70 rfl rfl rfl rfl ki_Mo (by decide) kw1753 kd_Mo_isDeep_65 rfl ?_
      refine zk_iload_n C kd_Mo_isDeep_68 rfl 4 rfl rfl ?_
      refine zs_iald C 112 rfl (zd_vp q4) kd_Mo_isDeep_69 rfl ?_
      refine ze_gets (j := 6) C rfl kw2672 kd_Mo_isDeep_70 rfl ?_
      refine zk_iload C kd_Mo_isDeep_73 0 rfl rfl ?_
      obtain ⟨q6, e⟩ := zd_g e
      refine ze_ti C rfl (zd_vp q6) kd_Mo_isDeep_75 rfl ?_
      refine zk_stk (r' := [.int (zt_6.getD (h.2.1 104 ((h.2.1 103 x1.toNatClampNeg) + x3).toNatClampNeg).toNatClampNeg 0), .int (h.2.1 112 x3.toNatClampNeg)]) rfl ?_
      refine zk_isub C kd_Mo_isDeep_76 rfl ?_
      refine ze_gets (j := 7) C rfl kw2674 kd_Mo_isDeep_77 rfl ?_
      refine zk_iload C kd_Mo_isDeep_80 0 rfl rfl ?_
      refine ze_ti C rfl (zd_vp q6) kd_Mo_isDeep_82 rfl ?_
      refine zk_stk (r' := [.int (zt_7.getD (h.2.1 104 ((h.2.1 103 x1.toNatClampNeg) + x3).toNatClampNeg).toNatClampNeg 0), .int ((h.2.1 112 x3.toNatClampNeg) - (zt_6.getD (h.2.1 104 ((h.2.1 103 x1.toNatClampNeg) + x3).toNatClampNeg).toNatClampNeg 0))]) rfl ?_
      refine zk_iadd C kd_Mo_isDeep_83 rfl ?_
      refine zk_istore (lv' := [(5, _), (4, _), (0, _), (1, _), (2, _), (3, _)]) C kd_Mo_isDeep_84 (by decide) rfl rfl ?_
      refine zk_iload C kd_Mo_isDeep_86 0 rfl rfl ?_
      refine zk_bipush (v := 64) C kd_Mo_isDeep_88 (by decide) rfl ?_
      refine zk_icmp_le (tgt := 95) C kd_Mo_isDeep_90 (by decide) rfl (fun b7 => ?_) (fun b7 => ?_)
      · replace e := zd_pos b7 e
        refine zk_iload C kd_Mo_isDeep_95 1 rfl rfl ?_
        refine zk_bipush (v := 10) C kd_Mo_isDeep_97 (by decide) rfl ?_
        refine zk_icmp_eq (tgt := 126) C kd_Mo_isDeep_99 (by decide) rfl (fun b8 => ?_) (fun b8 => ?_)
        · replace e := zd_pos b8 e
          refine zk_lvs (lv' := [(0, .ref (S.1 68)), (1, .int x1), (2, .int x2), (3, .int x3), (5, .int (((h.2.1 112 x3.toNatClampNeg) - (zt_6.getD (h.2.1 104 ((h.2.1 103 x1.toNatClampNeg) + x3).toNatClampNeg).toNatClampNeg 0)) + (zt_7.getD (h.2.1 104 ((h.2.1 103 x1.toNatClampNeg) + x3).toNatClampNeg).toNatClampNeg 0)))]) [2, 3, 4, 5, 0] rfl ?_
          exact zb_Mo_isDeep_126 C hR hk35 h x1 x2 x3 (((h.2.1 112 x3.toNatClampNeg) - (zt_6.getD (h.2.1 104 ((h.2.1 103 x1.toNatClampNeg) + x3).toNatClampNeg).toNatClampNeg 0)) + (zt_7.getD (h.2.1 104 ((h.2.1 103 x1.toNatClampNeg) + x3).toNatClampNeg).toNatClampNeg 0)) e
        · replace e := zd_neg b8 e
          refine zk_iload C kd_Mo_isDeep_102 1 rfl rfl ?_
          refine zk_bipush (v := 14) C kd_Mo_isDeep_104 (by decide) rfl ?_
          refine zk_icmp_eq (tgt := 126) C kd_Mo_isDeep_106 (by decide) rfl (fun b9 => ?_) (fun b9 => ?_)
          · replace e := zd_pos b9 e
            refine zk_lvs (lv' := [(0, .ref (S.1 68)), (1, .int x1), (2, .int x2), (3, .int x3), (5, .int (((h.2.1 112 x3.toNatClampNeg) - (zt_6.getD (h.2.1 104 ((h.2.1 103 x1.toNatClampNeg) + x3).toNatClampNeg).toNatClampNeg 0)) + (zt_7.getD (h.2.1 104 ((h.2.1 103 x1.toNatClampNeg) + x3).toNatClampNeg).toNatClampNeg 0)))]) [2, 3, 4, 5, 0] rfl ?_
            exact zb_Mo_isDeep_126 C hR hk35 h x1 x2 x3 (((h.2.1 112 x3.toNatClampNeg) - (zt_6.getD (h.2.1 104 ((h.2.1 103 x1.toNatClampNeg) + x3).toNatClampNeg).toNatClampNeg 0)) + (zt_7.getD (h.2.1 104 ((h.2.1 103 x1.toNatClampNeg) + x3).toNatClampNeg).toNatClampNeg 0)) e
          · replace e := zd_neg b9 e
            refine zk_iload C kd_Mo_isDeep_109 1 rfl rfl ?_
            refine zk_bipush (v := 18) C kd_Mo_isDeep_111 (by decide) rfl ?_
            refine zk_icmp_eq (tgt := 126) C kd_Mo_isDeep_113 (by decide) rfl (fun b10 => ?_) (fun b10 => ?_)
            · replace e := zd_pos b10 e
              refine zk_lvs (lv' := [(0, .ref (S.1 68)), (1, .int x1), (2, .int x2), (3, .int x3), (5, .int (((h.2.1 112 x3.toNatClampNeg) - (zt_6.getD (h.2.1 104 ((h.2.1 103 x1.toNatClampNeg) + x3).toNatClampNeg).toNatClampNeg 0)) + (zt_7.getD (h.2.1 104 ((h.2.1 103 x1.toNatClampNeg) + x3).toNatClampNeg).toNatClampNeg 0)))]) [2, 3, 4, 5, 0] rfl ?_
              exact zb_Mo_isDeep_126 C hR hk35 h x1 x2 x3 (((h.2.1 112 x3.toNatClampNeg) - (zt_6.getD (h.2.1 104 ((h.2.1 103 x1.toNatClampNeg) + x3).toNatClampNeg).toNatClampNeg 0)) + (zt_7.getD (h.2.1 104 ((h.2.1 103 x1.toNatClampNeg) + x3).toNatClampNeg).toNatClampNeg 0)) e
            · replace e := zd_neg b10 e
              refine zk_aload_n C kd_Mo_isDeep_116 rfl 2 rfl rfl ?_
              refine zs_get (v := .ref (S.1 112)) C 68 70 rfl rfl rfl rfl ki_Mo (by decide) kw1753 kd_Mo_isDeep_117 rfl ?_
              refine zk_iload_n C kd_Mo_isDeep_120 rfl 5 rfl rfl ?_
              refine zk_iconst (v := 1) C kd_Mo_isDeep_121 (by decide) rfl ?_
              refine zk_iadd C kd_Mo_isDeep_122 rfl ?_
              refine zk_iload C kd_Mo_isDeep_123 0 rfl rfl ?_
              obtain ⟨q11, e⟩ := zd_g e
              refine zs_iast C 112 rfl (zd_vp q11) kd_Mo_isDeep_125 rfl ?_
              refine zk_lvs (lv' := [(0, .ref (S.1 68)), (1, .int x1), (2, .int x2), (3, .int x3), (5, .int (((h.2.1 112 x3.toNatClampNeg) - (zt_6.getD (h.2.1 104 ((h.2.1 103 x1.toNatClampNeg) + x3).toNatClampNeg).toNatClampNeg 0)) + (zt_7.getD (h.2.1 104 ((h.2.1 103 x1.toNatClampNeg) + x3).toNatClampNeg).toNatClampNeg 0)))]) [2, 3, 4, 5, 0] rfl ?_
              exact zb_Mo_isDeep_126 C hR hk35 (zs_uM h 112 (x3 + 1).toNatClampNeg (((h.2.1 112 x3.toNatClampNeg) - (zt_6.getD (h.2.1 104 ((h.2.1 103 x1.toNatClampNeg) + x3).toNatClampNeg).toNatClampNeg 0)) + (zt_7.getD (h.2.1 104 ((h.2.1 103 x1.toNatClampNeg) + x3).toNatClampNeg).toNatClampNeg 0))) x1 x2 x3 (((h.2.1 112 x3.toNatClampNeg) - (zt_6.getD (h.2.1 104 ((h.2.1 103 x1.toNatClampNeg) + x3).toNatClampNeg).toNatClampNeg 0)) + (zt_7.getD (h.2.1 104 ((h.2.1 103 x1.toNatClampNeg) + x3).toNatClampNeg).toNatClampNeg 0)) e
      · replace e := zd_neg b7 e
        refine zk_iconst (v := 1) C kd_Mo_isDeep_93 (by decide) rfl ?_
        exact zk_zret C hR (zd_nb (Or.inr rfl)) kd_Mo_isDeep_94 rfl rfl (zd_rZS (Or.inr rfl) e)
theorem zl_Mo_isDeep_35 {X : zkj_T} {S : zs_T} {P : ze_T} {l : Launch} {D : va_G} {sz0 : Nat} {rv : Int32} {rh : zs_H} (C : zk_C X km_Mo_isDeep (zs_G S l D sz0) { frames := 2, cells := 0, slots := 0, locals := 44 } (ze_E P)) (hR : zkj_R X (zd_PZ S rv rh) (some .boolean)) (n : Nat) : ∀ (h : zs_H) (x1 : Int32) (x2 : Int32) (x3 : Int32), f_Mo_isDeep_L35 n h x1 x2 x3 = some (rv, rh) → zk_Ab X (zs_W S h) 0 0 35 [(0, .ref (S.1 68)), (1, .int x1), (2, .int x2), (3, .int x3)] [] := by
  induction n with
  | zero => intro h x1 x2 x3 e; exact zd_no e
  | succ n ih => intro h x1 x2 x3 e; exact zb_Mo_isDeep_35 (k35 := f_Mo_isDeep_L35  n) C hR ih h x1 x2 x3 e
set_option maxHeartbeats 4000000 in
set_option maxRecDepth 100000 in
theorem zb_Mo_isDeep_8 {X : zkj_T} {S : zs_T} {P : ze_T} {l : Launch} {D : va_G} {sz0 : Nat} {rv : Int32} {rh : zs_H} (C : zk_C X km_Mo_isDeep (zs_G S l D sz0) { frames := 2, cells := 0, slots := 0, locals := 44 } (ze_E P)) (hR : zkj_R X (zd_PZ S rv rh) (some .boolean)) {k8 : zs_H → Int32 → Int32 → Int32 → (Option (Int32 × zs_H))} (hk8 : ∀ (h : zs_H) (x1 : Int32) (x2 : Int32) (x3 : Int32), k8 h x1 x2 x3 = some (rv, rh) → zk_Ab X (zs_W S h) 0 0 8 [(0, .ref (S.1 68)), (1, .int x1), (2, .int x2), (3, .int x3)] []) (h : zs_H) (x1 : Int32) (x2 : Int32) (x3 : Int32) (e : f_Mo_isDeep_8 k8 h x1 x2 x3 = some (rv, rh)) : zk_Ab X (zs_W S h) 0 0 8 [(0, .ref (S.1 68)), (1, .int x1), (2, .int x2), (3, .int x3)] [] := by
  unfold f_Mo_isDeep_8 at e
  refine zk_iload_n C kd_Mo_isDeep_8 rfl 3 rfl rfl ?_
  refine zk_iload_n C kd_Mo_isDeep_9 rfl 2 rfl rfl ?_
  refine zk_icmp_gt (tgt := 26) C kd_Mo_isDeep_10 (by decide) rfl (fun b1 => ?_) (fun b1 => ?_)
  · replace e := zd_pos b1 e
    refine zk_aload_n C kd_Mo_isDeep_26 rfl 0 rfl rfl ?_
    refine zs_get (v := .ref (S.1 112)) C 68 70 rfl rfl rfl rfl ki_Mo (by decide) kw1753 kd_Mo_isDeep_27 rfl ?_
    refine zk_iconst (v := 0) C kd_Mo_isDeep_30 (by decide) rfl ?_
    refine zk_iconst (v := 0) C kd_Mo_isDeep_31 (by decide) rfl ?_
    refine zs_iast C 112 rfl (zp_dec rfl) kd_Mo_isDeep_32 rfl ?_
    refine zk_iconst (v := 0) C kd_Mo_isDeep_33 (by decide) rfl ?_
    refine zk_istore_n (lv' := [(3, _), (0, _), (1, _), (2, _)]) C kd_Mo_isDeep_34 rfl (by decide) rfl rfl ?_
    refine zk_lvs (lv' := [(0, .ref (S.1 68)), (1, .int x1), (2, .int x2), (3, .int 0)]) [1, 2, 3, 0] rfl ?_
    exact zl_Mo_isDeep_35 C hR zF (zs_uM h 112 0 0) x1 x2 0 e
  · replace e := zd_neg b1 e
    refine zk_aload_n C kd_Mo_isDeep_13 rfl 0 rfl rfl ?_
    refine zs_get (v := .ref (S.1 112)) C 68 70 rfl rfl rfl rfl ki_Mo (by decide) kw1753 kd_Mo_isDeep_14 rfl ?_
    refine zk_iload_n C kd_Mo_isDeep_17 rfl 3 rfl rfl ?_
    refine zk_iconst (v := (-1)) C kd_Mo_isDeep_18 (by decide) rfl ?_
    obtain ⟨q2, e⟩ := zd_g e
    refine zs_iast C 112 rfl (zd_vp q2) kd_Mo_isDeep_19 rfl ?_
    refine zk_iinc (v := (x3 + 1)) (lv' := [(3, _), (0, _), (1, _), (2, _)]) C kd_Mo_isDeep_20 3 rfl rfl (by decide) rfl rfl ?_
    refine zk_goto (tgt := 8) C kd_Mo_isDeep_23 (by decide) ?_
    refine zk_lvs (lv' := [(0, .ref (S.1 68)), (1, .int x1), (2, .int x2), (3, .int (x3 + 1))]) [1, 2, 3, 0] rfl ?_
    exact hk8 (zs_uM h 112 x3.toNatClampNeg (-1)) x1 x2 (x3 + 1) e
theorem zl_Mo_isDeep_8 {X : zkj_T} {S : zs_T} {P : ze_T} {l : Launch} {D : va_G} {sz0 : Nat} {rv : Int32} {rh : zs_H} (C : zk_C X km_Mo_isDeep (zs_G S l D sz0) { frames := 2, cells := 0, slots := 0, locals := 44 } (ze_E P)) (hR : zkj_R X (zd_PZ S rv rh) (some .boolean)) (n : Nat) : ∀ (h : zs_H) (x1 : Int32) (x2 : Int32) (x3 : Int32), f_Mo_isDeep_L8 n h x1 x2 x3 = some (rv, rh) → zk_Ab X (zs_W S h) 0 0 8 [(0, .ref (S.1 68)), (1, .int x1), (2, .int x2), (3, .int x3)] [] := by
  induction n with
  | zero => intro h x1 x2 x3 e; exact zd_no e
  | succ n ih => intro h x1 x2 x3 e; exact zb_Mo_isDeep_8 (k8 := f_Mo_isDeep_L8  n) C hR ih h x1 x2 x3 e
set_option maxHeartbeats 4000000 in
set_option maxRecDepth 100000 in
theorem zc_Mo_isDeep {l : Launch} {D : va_G} {sz0 : Nat} {S : zs_T} {P : ze_T} (h : zs_H) (x1 : Int32) {rv : Int32} {rh : zs_H} (e : f_Mo_isDeep h x1 = some (rv, rh)) : zk_Sp (zs_G S l D sz0) (ze_E P) km_Mo_isDeep { frames := 2, cells := 0, slots := 0, locals := 44 } [.ref (S.1 68), .int x1] (zs_W S h) (zd_PZ S rv rh) := by
  refine zk_met ku_Mo_isDeep (Nat.le_of_ble_eq_true rfl) (ze_Em P) ?_
  intro X C hR
  refine zk_lvs (lv' := [(0, .ref (S.1 68)), (1, .int x1)]) [0, 1] rfl ?_
  unfold f_Mo_isDeep at e
  refine zk_aload_n C kd_Mo_isDeep_0 rfl 0 rfl rfl ?_
  refine zk_iload_n C kd_Mo_isDeep_1 rfl 1 rfl rfl ?_
  obtain ⟨v2, c1, e⟩ := zd_b e
  refine zs_callV (k := 68) (rn := { frames := 0, cells := 0, slots := 0, locals := 0 }) (As := [.int x1]) (rest := []) C (zc_Mo_sizeOf h x1 c1) ku_Mo_sizeOf kw2668 kv_Mo_sizeOf rfl ⟨by decide, by decide⟩ ⟨by decide, by decide⟩ rfl rfl rfl (Nat.le_of_ble_eq_true rfl) kd_Mo_isDeep_2 rfl (c1 := 0) (s1 := 0) rfl rfl (fun v w hp => ?_)
  obtain ⟨rfl, rfl⟩ := hp
  refine zk_stk (r' := [.int v2]) rfl ?_
  refine zk_istore_n (lv' := [(2, _), (0, _), (1, _)]) C kd_Mo_isDeep_5 rfl (by decide) rfl rfl ?_
  refine zk_iconst (v := 0) C kd_Mo_isDeep_6 (by decide) rfl ?_
  refine zk_istore_n (lv' := [(3, _), (2, _), (0, _), (1, _)]) C kd_Mo_isDeep_7 rfl (by decide) rfl rfl ?_
  refine zk_lvs (lv' := [(0, .ref (S.1 68)), (1, .int x1), (2, .int v2), (3, .int 0)]) [2, 3, 1, 0] rfl ?_
  exact zl_Mo_isDeep_8 C hR zF h x1 v2 0 e
set_option maxHeartbeats 4000000 in
set_option maxRecDepth 100000 in
theorem zc_Mo_more {l : Launch} {D : va_G} {sz0 : Nat} {S : zs_T} {P : ze_T} (h : zs_H) (x0 : Int64) (x2 : Int64) : zk_Sp (zs_G S l D sz0) (ze_E P) km_Mo_more { frames := 1, cells := 0, slots := 0, locals := 23 } [.long x0, .long x2] (zs_W S h) (zd_PJ S (f_Mo_more x0 x2) h) := by
  obtain ⟨rv, e⟩ : ∃ rv, f_Mo_more x0 x2 = rv := ⟨_, rfl⟩
  rw [e]
  refine zk_met ku_Mo_more (Nat.le_of_ble_eq_true rfl) (ze_Em P) ?_
  intro X C hR
  refine zk_lvs (lv' := [(0, .long x0), (2, .long x2)]) [0, 1] rfl ?_
  unfold f_Mo_more at e
  refine zk_lload_n C kd_Mo_more_0 rfl 1 rfl rfl ?_
  refine zk_lconst (v := 0) C kd_Mo_more_1 (by decide) rfl ?_
  refine zk_lcmp C kd_Mo_more_2 rfl ?_
  refine zk_if_ge (tgt := 12) C kd_Mo_more_3 (by decide) rfl (fun b1 => ?_) (fun b1 => ?_)
  · replace e := zd_pos (zd_cge.mp b1) e
    refine zk_ldc2 (v := 1000000000000) C kw2695 kd_Mo_more_12 rfl ?_
    refine zk_lload_n C kd_Mo_more_15 rfl 0 rfl rfl ?_
    refine zk_lload_n C kd_Mo_more_16 rfl 1 rfl rfl ?_
    refine zk_ladd C kd_Mo_more_17 rfl ?_
    refine zk_mminl C kw2696 kw760 kw19 (by decide) (Nat.le_of_ble_eq_true rfl) (Nat.le_refl _) (Nat.le_refl _) kd_Mo_more_18 rfl ?_
    exact zk_lret C hR kd_Mo_more_21 rfl rfl (zd_rJT e)
  · replace e := zd_neg (fun z => b1 (zd_cge.mpr z)) e
    refine zk_ldc2 (v := (-1)) C kw2029 kd_Mo_more_6 rfl ?_
    refine zk_goto (tgt := 21) C kd_Mo_more_9 (by decide) ?_
    exact zk_lret C hR kd_Mo_more_21 rfl rfl (zd_rJT e)
set_option maxHeartbeats 4000000 in
set_option maxRecDepth 100000 in
theorem zb_Mo_greatestFrom_168 {X : zkj_T} {S : zs_T} {P : ze_T} {l : Launch} {D : va_G} {sz0 : Nat} {rv : Int64} {h : zs_H} (C : zk_C X km_Mo_greatestFrom (zs_G S l D sz0) { frames := 2, cells := 0, slots := 0, locals := 46 } (ze_E P)) (hR : zkj_R X (zd_PJ S rv h) (some .long)) (y0 : Int64) (y1 : Int64) (e : f_Mo_greatestFrom_168 h y0 y1 = some rv) : zk_Ab X (zs_W S h) 0 0 168 [] [.long y0, .long y1] := by
  unfold f_Mo_greatestFrom_168 at e
  refine zk_mmaxl C kw2697 kw1428 kw19 (by decide) (Nat.le_of_ble_eq_true rfl) (Nat.le_refl _) (Nat.le_refl _) kd_Mo_greatestFrom_168 rfl ?_
  exact zk_lret C hR kd_Mo_greatestFrom_171 rfl rfl (zd_rJO e)
set_option maxHeartbeats 4000000 in
set_option maxRecDepth 100000 in
theorem zb_Mo_greatestFrom_137 {X : zkj_T} {S : zs_T} {P : ze_T} {l : Launch} {D : va_G} {sz0 : Nat} {rv : Int64} {h : zs_H} (C : zk_C X km_Mo_greatestFrom (zs_G S l D sz0) { frames := 2, cells := 0, slots := 0, locals := 46 } (ze_E P)) (hR : zkj_R X (zd_PJ S rv h) (some .long)) (x5 : Int64) (x7 : Int64) (x11 : Int64) (y0 : Int64) (e : f_Mo_greatestFrom_137 h x5 x7 x11 y0 = some rv) : zk_Ab X (zs_W S h) 0 0 137 [(5, .long x5), (7, .long x7), (11, .long x11)] [.long y0] := by
  unfold f_Mo_greatestFrom_137 at e
  refine zk_lstore (lv' := [(13, _), (5, _), (7, _), (11, _)]) C kd_Mo_greatestFrom_137 (by decide) rfl rfl ?_
  refine zk_lload C kd_Mo_greatestFrom_139 0 rfl rfl ?_
  refine zk_lload C kd_Mo_greatestFrom_141 2 rfl rfl ?_
  refine zk_lconst (v := 0) C kd_Mo_greatestFrom_143 (by decide) rfl ?_
  refine zk_lcmp C kd_Mo_greatestFrom_144 rfl ?_
  refine zk_if_ge (tgt := 154) C kd_Mo_greatestFrom_145 (by decide) rfl (fun b1 => ?_) (fun b1 => ?_)
  · replace e := zd_pos (zd_cge.mp b1) e
    refine zk_ldc2 (v := 1000000000000) C kw2695 kd_Mo_greatestFrom_154 rfl ?_
    refine zk_lload C kd_Mo_greatestFrom_157 1 rfl rfl ?_
    refine zk_lload C kd_Mo_greatestFrom_159 3 rfl rfl ?_
    refine zk_lmul C kd_Mo_greatestFrom_161 rfl ?_
    refine zk_lload C kd_Mo_greatestFrom_162 2 rfl rfl ?_
    refine zk_ladd C kd_Mo_greatestFrom_164 rfl ?_
    refine zk_mminl C kw2696 kw760 kw19 (by decide) (Nat.le_of_ble_eq_true rfl) (Nat.le_refl _) (Nat.le_refl _) kd_Mo_greatestFrom_165 rfl ?_
    refine zk_lvs (lv' := []) [] rfl ?_
    exact zb_Mo_greatestFrom_168 C hR (zd_minl (1000000000000 : Int64) ((x5 * x11) + x7)) y0 e
  · replace e := zd_neg (fun z => b1 (zd_cge.mpr z)) e
    refine zk_ldc2 (v := (-1)) C kw2029 kd_Mo_greatestFrom_148 rfl ?_
    refine zk_goto (tgt := 168) C kd_Mo_greatestFrom_151 (by decide) ?_
    refine zk_lvs (lv' := []) [] rfl ?_
    exact zb_Mo_greatestFrom_168 C hR (-1 : Int64) y0 e
set_option maxHeartbeats 4000000 in
set_option maxRecDepth 100000 in
theorem zc_Mo_greatestFrom {l : Launch} {D : va_G} {sz0 : Nat} {S : zs_T} {P : ze_T} (h : zs_H) (x1 : Int32) (x2 : Int32) (x3 : Int32) (x4 : Int32) {rv : Int64} (e : f_Mo_greatestFrom h x1 x2 x3 x4 = some rv) : zk_Sp (zs_G S l D sz0) (ze_E P) km_Mo_greatestFrom { frames := 2, cells := 0, slots := 0, locals := 46 } [.ref (S.1 68), .int x1, .int x2, .int x3, .int x4] (zs_W S h) (zd_PJ S rv h) := by
  refine zk_met ku_Mo_greatestFrom (Nat.le_of_ble_eq_true rfl) (ze_Em P) ?_
  intro X C hR
  refine zk_lvs (lv' := [(0, .ref (S.1 68)), (1, .int x1), (2, .int x2), (3, .int x3), (4, .int x4)]) [0, 1, 2, 3, 4] rfl ?_
  unfold f_Mo_greatestFrom at e
  refine zk_aload_n C kd_Mo_greatestFrom_0 rfl 0 rfl rfl ?_
  refine zs_get (v := .ref (S.1 106)) C 68 61 rfl rfl rfl rfl ki_Mo (by decide) kw1744 kd_Mo_greatestFrom_1 rfl ?_
  refine zk_aload_n C kd_Mo_greatestFrom_4 rfl 0 rfl rfl ?_
  refine zs_get (v := .ref (S.1 103)) C 68 57 rfl rfl rfl rfl ki_Mo (by decide) kw1740 kd_Mo_greatestFrom_5 rfl ?_
  refine zk_iload_n C kd_Mo_greatestFrom_8 rfl 1 rfl rfl ?_
  obtain ⟨q1, e⟩ := zd_g e
  refine zs_iald C 103 rfl (zd_vp q1) kd_Mo_greatestFrom_9 rfl ?_
  refine zk_iload_n C kd_Mo_greatestFrom_10 rfl 2 rfl rfl ?_
  refine zk_iadd C kd_Mo_greatestFrom_11 rfl ?_
  refine zk_iconst (v := 1) C kd_Mo_greatestFrom_12 (by decide) rfl ?_
  refine zk_isub C kd_Mo_greatestFrom_13 rfl ?_
  obtain ⟨q2, e⟩ := zd_g e
  refine zs_iald C 106 rfl (zd_vp q2) kd_Mo_greatestFrom_14 rfl ?_
  refine zk_i2l C kd_Mo_greatestFrom_15 rfl ?_
  refine zk_lstore (lv' := [(5, _), (0, _), (1, _), (2, _), (3, _), (4, _)]) C kd_Mo_greatestFrom_16 (by decide) rfl rfl ?_
  refine zk_lconst (v := 1) C kd_Mo_greatestFrom_18 (by decide) rfl ?_
  refine zk_aload_n C kd_Mo_greatestFrom_19 rfl 1 rfl rfl ?_
  refine zs_get (v := .ref (S.1 113)) C 68 71 rfl rfl rfl rfl ki_Mo (by decide) kw1754 kd_Mo_greatestFrom_20 rfl ?_
  refine zk_bipush (v := 62) C kd_Mo_greatestFrom_23 (by decide) rfl ?_
  refine zk_aload_n C kd_Mo_greatestFrom_25 rfl 1 rfl rfl ?_
  refine zs_get (v := .ref (S.1 106)) C 68 61 rfl rfl rfl rfl ki_Mo (by decide) kw1744 kd_Mo_greatestFrom_26 rfl ?_
  refine zk_aload_n C kd_Mo_greatestFrom_29 rfl 1 rfl rfl ?_
  refine zs_get (v := .ref (S.1 103)) C 68 57 rfl rfl rfl rfl ki_Mo (by decide) kw1740 kd_Mo_greatestFrom_30 rfl ?_
  refine zk_iload_n C kd_Mo_greatestFrom_33 rfl 2 rfl rfl ?_
  refine zs_iald C 103 rfl (zd_vp q1) kd_Mo_greatestFrom_34 rfl ?_
  refine zk_iload_n C kd_Mo_greatestFrom_35 rfl 3 rfl rfl ?_
  refine zk_iadd C kd_Mo_greatestFrom_36 rfl ?_
  obtain ⟨q3, e⟩ := zd_g e
  refine zs_iald C 106 rfl (zd_vp q3) kd_Mo_greatestFrom_37 rfl ?_
  refine zk_imul C kd_Mo_greatestFrom_38 rfl ?_
  refine zk_iload_n C kd_Mo_greatestFrom_39 rfl 4 rfl rfl ?_
  refine zk_iadd C kd_Mo_greatestFrom_40 rfl ?_
  obtain ⟨q4, e⟩ := zd_g e
  refine zs_lald C 113 rfl (zd_vp q4) kd_Mo_greatestFrom_41 rfl ?_
  refine zk_callS (rn := { frames := 1, cells := 0, slots := 0, locals := 23 }) (As := [.long 1, .long (h.2.2 113 ((62 * (h.2.1 106 ((h.2.1 103 x1.toNatClampNeg) + x2).toNatClampNeg)) + x3).toNatClampNeg)]) (rest := []) C (zc_Mo_more h (1 : Int64) (h.2.2 113 ((62 * (h.2.1 106 ((h.2.1 103 x1.toNatClampNeg) + x2).toNatClampNeg)) + x3).toNatClampNeg)) ku_Mo_more kw2692 ks_Mo_more rfl ⟨by decide, by decide⟩ ⟨by decide, by decide⟩ rfl (Nat.le_of_ble_eq_true rfl) kd_Mo_greatestFrom_42 rfl (c1 := 0) (s1 := 0) rfl rfl (fun v w hp => ?_)
  obtain ⟨rfl, rfl⟩ := hp
  refine zk_stk (r' := [.long (f_Mo_more (1 : Int64) (h.2.2 113 ((62 * (h.2.1 106 ((h.2.1 103 x1.toNatClampNeg) + x2).toNatClampNeg)) + x3).toNatClampNeg))]) rfl ?_
  refine zk_lstore (lv' := [(7, _), (5, _), (0, _), (1, _), (2, _), (3, _), (4, _)]) C kd_Mo_greatestFrom_45 (by decide) rfl rfl ?_
  refine zk_lload C kd_Mo_greatestFrom_47 1 rfl rfl ?_
  refine zk_lconst (v := 0) C kd_Mo_greatestFrom_49 (by decide) rfl ?_
  refine zk_lcmp C kd_Mo_greatestFrom_50 rfl ?_
  refine zk_if_ne (tgt := 57) C kd_Mo_greatestFrom_51 (by decide) rfl (fun b5 => ?_) (fun b5 => ?_)
  · replace e := zd_neg (fun w => b5 (zd_ceq.mpr w)) e
    refine zk_lconst (v := 1) C kd_Mo_greatestFrom_57 (by decide) rfl ?_
    refine zk_aload_n C kd_Mo_greatestFrom_58 rfl 2 rfl rfl ?_
    refine zs_get (v := .ref (S.1 113)) C 68 71 rfl rfl rfl rfl ki_Mo (by decide) kw1754 kd_Mo_greatestFrom_59 rfl ?_
    refine zk_bipush (v := 62) C kd_Mo_greatestFrom_62 (by decide) rfl ?_
    refine zk_iload_n C kd_Mo_greatestFrom_64 rfl 4 rfl rfl ?_
    refine zk_iconst (v := 1) C kd_Mo_greatestFrom_65 (by decide) rfl ?_
    refine zk_iadd C kd_Mo_greatestFrom_66 rfl ?_
    refine zk_imul C kd_Mo_greatestFrom_67 rfl ?_
    refine zk_iload_n C kd_Mo_greatestFrom_68 rfl 5 rfl rfl ?_
    refine zk_iadd C kd_Mo_greatestFrom_69 rfl ?_
    obtain ⟨q6, e⟩ := zd_g e
    refine zs_lald C 113 rfl (zd_vp q6) kd_Mo_greatestFrom_70 rfl ?_
    refine zk_callS (rn := { frames := 1, cells := 0, slots := 0, locals := 23 }) (As := [.long 1, .long (h.2.2 113 ((62 * (x2 + 1)) + x3).toNatClampNeg)]) (rest := []) C (zc_Mo_more h (1 : Int64) (h.2.2 113 ((62 * (x2 + 1)) + x3).toNatClampNeg)) ku_Mo_more kw2692 ks_Mo_more rfl ⟨by decide, by decide⟩ ⟨by decide, by decide⟩ rfl (Nat.le_of_ble_eq_true rfl) kd_Mo_greatestFrom_71 rfl (c1 := 0) (s1 := 0) rfl rfl (fun v w hp => ?_)
    obtain ⟨rfl, rfl⟩ := hp
    refine zk_stk (r' := [.long (f_Mo_more (1 : Int64) (h.2.2 113 ((62 * (x2 + 1)) + x3).toNatClampNeg))]) rfl ?_
    refine zk_lstore (lv' := [(9, _), (7, _), (5, _), (0, _), (1, _), (2, _), (3, _), (4, _)]) C kd_Mo_greatestFrom_74 (by decide) rfl rfl ?_
    refine zk_lconst (v := 1) C kd_Mo_greatestFrom_76 (by decide) rfl ?_
    refine zk_aload_n C kd_Mo_greatestFrom_77 rfl 3 rfl rfl ?_
    refine zs_get (v := .ref (S.1 113)) C 68 71 rfl rfl rfl rfl ki_Mo (by decide) kw1754 kd_Mo_greatestFrom_78 rfl ?_
    refine zk_bipush (v := 62) C kd_Mo_greatestFrom_81 (by decide) rfl ?_
    refine zk_iload_n C kd_Mo_greatestFrom_83 rfl 5 rfl rfl ?_
    refine zk_iconst (v := 1) C kd_Mo_greatestFrom_84 (by decide) rfl ?_
    refine zk_iadd C kd_Mo_greatestFrom_85 rfl ?_
    refine zk_imul C kd_Mo_greatestFrom_86 rfl ?_
    refine zk_iload C kd_Mo_greatestFrom_87 7 rfl rfl ?_
    refine zk_iadd C kd_Mo_greatestFrom_89 rfl ?_
    refine zk_iconst (v := 1) C kd_Mo_greatestFrom_90 (by decide) rfl ?_
    refine zk_iadd C kd_Mo_greatestFrom_91 rfl ?_
    obtain ⟨q7, e⟩ := zd_g e
    refine zs_lald C 113 rfl (zd_vp q7) kd_Mo_greatestFrom_92 rfl ?_
    refine zk_callS (rn := { frames := 1, cells := 0, slots := 0, locals := 23 }) (As := [.long 1, .long (h.2.2 113 (((62 * (x2 + 1)) + x4) + 1).toNatClampNeg)]) (rest := []) C (zc_Mo_more h (1 : Int64) (h.2.2 113 (((62 * (x2 + 1)) + x4) + 1).toNatClampNeg)) ku_Mo_more kw2692 ks_Mo_more rfl ⟨by decide, by decide⟩ ⟨by decide, by decide⟩ rfl (Nat.le_of_ble_eq_true rfl) kd_Mo_greatestFrom_93 rfl (c1 := 0) (s1 := 0) rfl rfl (fun v w hp => ?_)
    obtain ⟨rfl, rfl⟩ := hp
    refine zk_stk (r' := [.long (f_Mo_more (1 : Int64) (h.2.2 113 (((62 * (x2 + 1)) + x4) + 1).toNatClampNeg))]) rfl ?_
    refine zk_lstore (lv' := [(11, _), (9, _), (7, _), (5, _), (0, _), (1, _), (2, _), (3, _), (4, _)]) C kd_Mo_greatestFrom_96 (by decide) rfl rfl ?_
    refine zk_lload C kd_Mo_greatestFrom_98 0 rfl rfl ?_
    refine zk_lconst (v := 0) C kd_Mo_greatestFrom_100 (by decide) rfl ?_
    refine zk_lcmp C kd_Mo_greatestFrom_101 rfl ?_
    refine zk_if_ge (tgt := 108) C kd_Mo_greatestFrom_102 (by decide) rfl (fun b8 => ?_) (fun b8 => ?_)
    · replace e := zd_pos (zd_cge.mp b8) e
      refine zk_lload C kd_Mo_greatestFrom_108 1 rfl rfl ?_
      refine zk_lconst (v := 0) C kd_Mo_greatestFrom_110 (by decide) rfl ?_
      refine zk_lcmp C kd_Mo_greatestFrom_111 rfl ?_
      refine zk_if_ge (tgt := 121) C kd_Mo_greatestFrom_112 (by decide) rfl (fun b9 => ?_) (fun b9 => ?_)
      · replace e := zd_pos (zd_cge.mp b9) e
        refine zk_ldc2 (v := 1000000000000) C kw2695 kd_Mo_greatestFrom_121 rfl ?_
        refine zk_lload C kd_Mo_greatestFrom_124 3 rfl rfl ?_
        refine zk_lconst (v := 1) C kd_Mo_greatestFrom_126 (by decide) rfl ?_
        refine zk_lsub C kd_Mo_greatestFrom_127 rfl ?_
        refine zk_lload C kd_Mo_greatestFrom_128 0 rfl rfl ?_
        refine zk_lmul C kd_Mo_greatestFrom_130 rfl ?_
        refine zk_lload C kd_Mo_greatestFrom_131 1 rfl rfl ?_
        refine zk_ladd C kd_Mo_greatestFrom_133 rfl ?_
        refine zk_mminl C kw2696 kw760 kw19 (by decide) (Nat.le_of_ble_eq_true rfl) (Nat.le_refl _) (Nat.le_refl _) kd_Mo_greatestFrom_134 rfl ?_
        refine zk_lvs (lv' := [(5, .long ((h.2.1 106 (((h.2.1 103 x1.toNatClampNeg) + x2) - 1).toNatClampNeg).toInt64)), (7, .long (f_Mo_more (1 : Int64) (h.2.2 113 ((62 * (h.2.1 106 ((h.2.1 103 x1.toNatClampNeg) + x2).toNatClampNeg)) + x3).toNatClampNeg))), (11, .long (f_Mo_more (1 : Int64) (h.2.2 113 (((62 * (x2 + 1)) + x4) + 1).toNatClampNeg)))]) [3, 2, 0] rfl ?_
        exact zb_Mo_greatestFrom_137 C hR ((h.2.1 106 (((h.2.1 103 x1.toNatClampNeg) + x2) - 1).toNatClampNeg).toInt64) (f_Mo_more (1 : Int64) (h.2.2 113 ((62 * (h.2.1 106 ((h.2.1 103 x1.toNatClampNeg) + x2).toNatClampNeg)) + x3).toNatClampNeg)) (f_Mo_more (1 : Int64) (h.2.2 113 (((62 * (x2 + 1)) + x4) + 1).toNatClampNeg)) (zd_minl (1000000000000 : Int64) (((((h.2.1 106 (((h.2.1 103 x1.toNatClampNeg) + x2) - 1).toNatClampNeg).toInt64) - (1 : Int64)) * (f_Mo_more (1 : Int64) (h.2.2 113 (((62 * (x2 + 1)) + x4) + 1).toNatClampNeg))) + (f_Mo_more (1 : Int64) (h.2.2 113 ((62 * (x2 + 1)) + x3).toNatClampNeg)))) e
      · replace e := zd_neg (fun z => b9 (zd_cge.mpr z)) e
        refine zk_ldc2 (v := (-1)) C kw2029 kd_Mo_greatestFrom_115 rfl ?_
        refine zk_goto (tgt := 137) C kd_Mo_greatestFrom_118 (by decide) ?_
        refine zk_lvs (lv' := [(5, .long ((h.2.1 106 (((h.2.1 103 x1.toNatClampNeg) + x2) - 1).toNatClampNeg).toInt64)), (7, .long (f_Mo_more (1 : Int64) (h.2.2 113 ((62 * (h.2.1 106 ((h.2.1 103 x1.toNatClampNeg) + x2).toNatClampNeg)) + x3).toNatClampNeg))), (11, .long (f_Mo_more (1 : Int64) (h.2.2 113 (((62 * (x2 + 1)) + x4) + 1).toNatClampNeg)))]) [3, 2, 0] rfl ?_
        exact zb_Mo_greatestFrom_137 C hR ((h.2.1 106 (((h.2.1 103 x1.toNatClampNeg) + x2) - 1).toNatClampNeg).toInt64) (f_Mo_more (1 : Int64) (h.2.2 113 ((62 * (h.2.1 106 ((h.2.1 103 x1.toNatClampNeg) + x2).toNatClampNeg)) + x3).toNatClampNeg)) (f_Mo_more (1 : Int64) (h.2.2 113 (((62 * (x2 + 1)) + x4) + 1).toNatClampNeg)) (-1 : Int64) e
    · replace e := zd_neg (fun z => b8 (zd_cge.mpr z)) e
      refine zk_lload C kd_Mo_greatestFrom_105 1 rfl rfl ?_
      exact zk_lret C hR kd_Mo_greatestFrom_107 rfl rfl (zd_rJO e)
  · replace e := zd_pos (zd_ceq.mp b5) e
    refine zk_lload C kd_Mo_greatestFrom_54 0 rfl rfl ?_
    exact zk_lret C hR kd_Mo_greatestFrom_56 rfl rfl (zd_rJO e)
