theorem kw2542 : Jvm.Cond.instanceMethod ({ cls := "PlantKeeperModel", name := "assignmentCode", desc := "(I)V" } : Jvm.MethodName) ∈ zk_BW := zk_inT 2542 (by decide +kernel) rfl
theorem kw2543 : Jvm.Cond.code ({ cls := "PlantKeeperModel", name := "assignmentCode", desc := "(I)V" } : Jvm.MethodName) prog_14_method_118_code (5 : Nat) (Option.none : Option FieldType) ∈ zk_BW := zk_inT 2543 (by decide +kernel) rfl
theorem kw2544 : Jvm.Cond.methodLink "PlantKeeperModel" (682 : Nat) ({ cls := "PlantKeeperModel", name := "expressionCode", desc := "(I)V" } : Jvm.MethodName) ∈ zk_BW := zk_inT 2544 (by decide +kernel) rfl
theorem kw2546 : Jvm.Cond.instanceMethod ({ cls := "PlantKeeperModel", name := "expressionCode", desc := "(I)V" } : Jvm.MethodName) ∈ zk_BW := zk_inT 2546 (by decide +kernel) rfl
theorem kw2547 : Jvm.Cond.code ({ cls := "PlantKeeperModel", name := "expressionCode", desc := "(I)V" } : Jvm.MethodName) prog_14_method_129_code (4 : Nat) (Option.none : Option FieldType) ∈ zk_BW := zk_inT 2547 (by decide +kernel) rfl
theorem kw2584 : Jvm.Cond.methodLink "PlantKeeperModel" (735 : Nat) ({ cls := "PlantKeeperModel", name := "operandCode", desc := "(I)V" } : Jvm.MethodName) ∈ zk_BW := zk_inT 2584 (by decide +kernel) rfl
theorem kw2586 : Jvm.Cond.instanceMethod ({ cls := "PlantKeeperModel", name := "operandCode", desc := "(I)V" } : Jvm.MethodName) ∈ zk_BW := zk_inT 2586 (by decide +kernel) rfl
theorem kw2587 : Jvm.Cond.code ({ cls := "PlantKeeperModel", name := "operandCode", desc := "(I)V" } : Jvm.MethodName) prog_14_method_130_code (4 : Nat) (Option.none : Option FieldType) ∈ zk_BW := zk_inT 2587 (by decide +kernel) rfl
theorem kw2588 : Jvm.Cond.methodLink "PlantKeeperModel" (738 : Nat) ({ cls := "PlantKeeperModel", name := "callCode", desc := "(I)V" } : Jvm.MethodName) ∈ zk_BW := zk_inT 2588 (by decide +kernel) rfl
theorem kw2590 : Jvm.Cond.instanceMethod ({ cls := "PlantKeeperModel", name := "callCode", desc := "(I)V" } : Jvm.MethodName) ∈ zk_BW := zk_inT 2590 (by decide +kernel) rfl
theorem kw2591 : Jvm.Cond.code ({ cls := "PlantKeeperModel", name := "callCode", desc := "(I)V" } : Jvm.MethodName) prog_14_method_131_code (7 : Nat) (Option.none : Option FieldType) ∈ zk_BW := zk_inT 2591 (by decide +kernel) rfl
theorem kw2594 : Jvm.Cond.instanceMethod ({ cls := "PlantKeeperModel", name := "isOwn", desc := "(I)Z" } : Jvm.MethodName) ∈ zk_BW := zk_inT 2594 (by decide +kernel) rfl
theorem kw2595 : Jvm.Cond.code ({ cls := "PlantKeeperModel", name := "isOwn", desc := "(I)Z" } : Jvm.MethodName) prog_14_method_117_code (2 : Nat) (Option.some FieldType.boolean) ∈ zk_BW := zk_inT 2595 (by decide +kernel) rfl
theorem kw2602 : Jvm.Cond.instanceMethod ({ cls := "PlantKeeperModel", name := "rangesCode", desc := "(II)V" } : Jvm.MethodName) ∈ zk_BW := zk_inT 2602 (by decide +kernel) rfl
theorem kw2603 : Jvm.Cond.code ({ cls := "PlantKeeperModel", name := "rangesCode", desc := "(II)V" } : Jvm.MethodName) prog_14_method_120_code (6 : Nat) (Option.none : Option FieldType) ∈ zk_BW := zk_inT 2603 (by decide +kernel) rfl
abbrev kc_Mo_assignmentCode : ByteArray := prog_14_method_118_code
def km_Mo_assignmentCode : zk_MT := (⟨"PlantKeeperModel", "assignmentCode", "(I)V"⟩, kc_Mo_assignmentCode, 5, none, 1)
theorem ku_Mo_assignmentCode : zk_My km_Mo_assignmentCode := ⟨kw2543, kw17, by decide, by decide, by decide, by decide +kernel⟩
theorem kv_Mo_assignmentCode : zk_Mv km_Mo_assignmentCode := ⟨kw2542, zk_inS 252 (q := (⟨"PlantKeeperModel", "assignmentCode", "(I)V"⟩, 96)) (by decide +kernel)⟩
abbrev kc_Mo_callCode : ByteArray := prog_14_method_131_code
def km_Mo_callCode : zk_MT := (⟨"PlantKeeperModel", "callCode", "(I)V"⟩, kc_Mo_callCode, 7, none, 1)
theorem ku_Mo_callCode : zk_My km_Mo_callCode := ⟨kw2591, kw17, by decide, by decide, by decide, by decide +kernel⟩
theorem kv_Mo_callCode : zk_Mv km_Mo_callCode := ⟨kw2590, zk_inS 261 (q := (⟨"PlantKeeperModel", "callCode", "(I)V"⟩, 96)) (by decide +kernel)⟩
abbrev kc_Mo_expressionCode : ByteArray := prog_14_method_129_code
def km_Mo_expressionCode : zk_MT := (⟨"PlantKeeperModel", "expressionCode", "(I)V"⟩, kc_Mo_expressionCode, 4, none, 1)
theorem ku_Mo_expressionCode : zk_My km_Mo_expressionCode := ⟨kw2547, kw17, by decide, by decide, by decide, by decide +kernel⟩
theorem kv_Mo_expressionCode : zk_Mv km_Mo_expressionCode := ⟨kw2546, zk_inS 253 (q := (⟨"PlantKeeperModel", "expressionCode", "(I)V"⟩, 96)) (by decide +kernel)⟩
abbrev kc_Mo_isOwn : ByteArray := prog_14_method_117_code
def km_Mo_isOwn : zk_MT := (⟨"PlantKeeperModel", "isOwn", "(I)Z"⟩, kc_Mo_isOwn, 2, some .boolean, 1)
theorem ku_Mo_isOwn : zk_My km_Mo_isOwn := ⟨kw2595, kw17, by decide, by decide, by decide, by decide +kernel⟩
theorem kv_Mo_isOwn : zk_Mv km_Mo_isOwn := ⟨kw2594, zk_inS 262 (q := (⟨"PlantKeeperModel", "isOwn", "(I)Z"⟩, 96)) (by decide +kernel)⟩
abbrev kc_Mo_operandCode : ByteArray := prog_14_method_130_code
def km_Mo_operandCode : zk_MT := (⟨"PlantKeeperModel", "operandCode", "(I)V"⟩, kc_Mo_operandCode, 4, none, 1)
theorem ku_Mo_operandCode : zk_My km_Mo_operandCode := ⟨kw2587, kw17, by decide, by decide, by decide, by decide +kernel⟩
theorem kv_Mo_operandCode : zk_Mv km_Mo_operandCode := ⟨kw2586, zk_inS 260 (q := (⟨"PlantKeeperModel", "operandCode", "(I)V"⟩, 96)) (by decide +kernel)⟩
abbrev kc_Mo_rangesCode : ByteArray := prog_14_method_120_code
def km_Mo_rangesCode : zk_MT := (⟨"PlantKeeperModel", "rangesCode", "(II)V"⟩, kc_Mo_rangesCode, 6, none, 2)
theorem ku_Mo_rangesCode : zk_My km_Mo_rangesCode := ⟨kw2603, kw17, by decide, by decide, by decide, by decide +kernel⟩
theorem kv_Mo_rangesCode : zk_Mv km_Mo_rangesCode := ⟨kw2602, zk_inS 264 (q := (⟨"PlantKeeperModel", "rangesCode", "(II)V"⟩, 96)) (by decide +kernel)⟩
theorem kd_Mo_assignmentCode_0 : decode kc_Mo_assignmentCode 0 = .ok (.aload_n 0, 1) := by decide +kernel
theorem kd_Mo_assignmentCode_1 : decode kc_Mo_assignmentCode 1 = .ok (.getfield 34, 3) := by decide +kernel
theorem kd_Mo_assignmentCode_4 : decode kc_Mo_assignmentCode 4 = .ok (.iload_n 1, 1) := by decide +kernel
theorem kd_Mo_assignmentCode_5 : decode kc_Mo_assignmentCode 5 = .ok (.iaload, 1) := by decide +kernel
theorem kd_Mo_assignmentCode_6 : decode kc_Mo_assignmentCode 6 = .ok (.istore_n 2, 1) := by decide +kernel
theorem kd_Mo_assignmentCode_7 : decode kc_Mo_assignmentCode 7 = .ok (.iconst 0, 1) := by decide +kernel
theorem kd_Mo_assignmentCode_8 : decode kc_Mo_assignmentCode 8 = .ok (.istore_n 3, 1) := by decide +kernel
theorem kd_Mo_assignmentCode_9 : decode kc_Mo_assignmentCode 9 = .ok (.aload_n 0, 1) := by decide +kernel
theorem kd_Mo_assignmentCode_10 : decode kc_Mo_assignmentCode 10 = .ok (.getfield 22, 3) := by decide +kernel
theorem kd_Mo_assignmentCode_13 : decode kc_Mo_assignmentCode 13 = .ok (.iload_n 2, 1) := by decide +kernel
theorem kd_Mo_assignmentCode_14 : decode kc_Mo_assignmentCode 14 = .ok (.iaload, 1) := by decide +kernel
theorem kd_Mo_assignmentCode_15 : decode kc_Mo_assignmentCode 15 = .ok (.bipush 6, 2) := by decide +kernel
theorem kd_Mo_assignmentCode_17 : decode kc_Mo_assignmentCode 17 = .ok (.if_icmp .ne 30, 3) := by decide +kernel
theorem kd_Mo_assignmentCode_20 : decode kc_Mo_assignmentCode 20 = .ok (.aload_n 0, 1) := by decide +kernel
theorem kd_Mo_assignmentCode_21 : decode kc_Mo_assignmentCode 21 = .ok (.aload_n 0, 1) := by decide +kernel
theorem kd_Mo_assignmentCode_22 : decode kc_Mo_assignmentCode 22 = .ok (.getfield 37, 3) := by decide +kernel
theorem kd_Mo_assignmentCode_25 : decode kc_Mo_assignmentCode 25 = .ok (.iload_n 1, 1) := by decide +kernel
theorem kd_Mo_assignmentCode_26 : decode kc_Mo_assignmentCode 26 = .ok (.iaload, 1) := by decide +kernel
theorem kd_Mo_assignmentCode_27 : decode kc_Mo_assignmentCode 27 = .ok (.invokevirtual 682, 3) := by decide +kernel
theorem kd_Mo_assignmentCode_30 : decode kc_Mo_assignmentCode 30 = .ok (.aload_n 0, 1) := by decide +kernel
theorem kd_Mo_assignmentCode_31 : decode kc_Mo_assignmentCode 31 = .ok (.iconst 2, 1) := by decide +kernel
theorem kd_Mo_assignmentCode_32 : decode kc_Mo_assignmentCode 32 = .ok (.aload_n 0, 1) := by decide +kernel
theorem kd_Mo_assignmentCode_33 : decode kc_Mo_assignmentCode 33 = .ok (.getfield 109, 3) := by decide +kernel
theorem kd_Mo_assignmentCode_36 : decode kc_Mo_assignmentCode 36 = .ok (.iload_n 2, 1) := by decide +kernel
theorem kd_Mo_assignmentCode_37 : decode kc_Mo_assignmentCode 37 = .ok (.iaload, 1) := by decide +kernel
theorem kd_Mo_assignmentCode_38 : decode kc_Mo_assignmentCode 38 = .ok (.iconst 0, 1) := by decide +kernel
theorem kd_Mo_assignmentCode_39 : decode kc_Mo_assignmentCode 39 = .ok (.iconst 0, 1) := by decide +kernel
theorem kd_Mo_assignmentCode_40 : decode kc_Mo_assignmentCode 40 = .ok (.invokevirtual 670, 3) := by decide +kernel
theorem kd_Mo_assignmentCode_43 : decode kc_Mo_assignmentCode 43 = .ok (.istore_n 3, 1) := by decide +kernel
theorem kd_Mo_assignmentCode_44 : decode kc_Mo_assignmentCode 44 = .ok (.goto 65, 3) := by decide +kernel
theorem kd_Mo_assignmentCode_47 : decode kc_Mo_assignmentCode 47 = .ok (.aload_n 0, 1) := by decide +kernel
theorem kd_Mo_assignmentCode_48 : decode kc_Mo_assignmentCode 48 = .ok (.aload_n 0, 1) := by decide +kernel
theorem kd_Mo_assignmentCode_49 : decode kc_Mo_assignmentCode 49 = .ok (.getfield 550, 3) := by decide +kernel
theorem kd_Mo_assignmentCode_52 : decode kc_Mo_assignmentCode 52 = .ok (.aload_n 0, 1) := by decide +kernel
theorem kd_Mo_assignmentCode_53 : decode kc_Mo_assignmentCode 53 = .ok (.getfield 28, 3) := by decide +kernel
theorem kd_Mo_assignmentCode_56 : decode kc_Mo_assignmentCode 56 = .ok (.iload_n 2, 1) := by decide +kernel
theorem kd_Mo_assignmentCode_57 : decode kc_Mo_assignmentCode 57 = .ok (.iaload, 1) := by decide +kernel
theorem kd_Mo_assignmentCode_58 : decode kc_Mo_assignmentCode 58 = .ok (.invokevirtual 507, 3) := by decide +kernel
theorem kd_Mo_assignmentCode_61 : decode kc_Mo_assignmentCode 61 = .ok (.istore 4, 2) := by decide +kernel
theorem kd_Mo_assignmentCode_63 : decode kc_Mo_assignmentCode 63 = .ok (.aload_n 0, 1) := by decide +kernel
theorem kd_Mo_assignmentCode_64 : decode kc_Mo_assignmentCode 64 = .ok (.aload_n 0, 1) := by decide +kernel
theorem kd_Mo_assignmentCode_65 : decode kc_Mo_assignmentCode 65 = .ok (.getfield 34, 3) := by decide +kernel
theorem kd_Mo_assignmentCode_68 : decode kc_Mo_assignmentCode 68 = .ok (.iload_n 2, 1) := by decide +kernel
theorem kd_Mo_assignmentCode_69 : decode kc_Mo_assignmentCode 69 = .ok (.iaload, 1) := by decide +kernel
theorem kd_Mo_assignmentCode_70 : decode kc_Mo_assignmentCode 70 = .ok (.invokevirtual 682, 3) := by decide +kernel
theorem kd_Mo_assignmentCode_73 : decode kc_Mo_assignmentCode 73 = .ok (.aload_n 0, 1) := by decide +kernel
theorem kd_Mo_assignmentCode_74 : decode kc_Mo_assignmentCode 74 = .ok (.aload_n 0, 1) := by decide +kernel
theorem kd_Mo_assignmentCode_75 : decode kc_Mo_assignmentCode 75 = .ok (.getfield 37, 3) := by decide +kernel
theorem kd_Mo_assignmentCode_78 : decode kc_Mo_assignmentCode 78 = .ok (.iload_n 1, 1) := by decide +kernel
theorem kd_Mo_assignmentCode_79 : decode kc_Mo_assignmentCode 79 = .ok (.iaload, 1) := by decide +kernel
theorem kd_Mo_assignmentCode_80 : decode kc_Mo_assignmentCode 80 = .ok (.invokevirtual 682, 3) := by decide +kernel
theorem kd_Mo_assignmentCode_83 : decode kc_Mo_assignmentCode 83 = .ok (.aload_n 0, 1) := by decide +kernel
theorem kd_Mo_assignmentCode_84 : decode kc_Mo_assignmentCode 84 = .ok (.iconst 4, 1) := by decide +kernel
theorem kd_Mo_assignmentCode_85 : decode kc_Mo_assignmentCode 85 = .ok (.aload_n 0, 1) := by decide +kernel
theorem kd_Mo_assignmentCode_86 : decode kc_Mo_assignmentCode 86 = .ok (.getfield 109, 3) := by decide +kernel
theorem kd_Mo_assignmentCode_89 : decode kc_Mo_assignmentCode 89 = .ok (.iload_n 2, 1) := by decide +kernel
theorem kd_Mo_assignmentCode_90 : decode kc_Mo_assignmentCode 90 = .ok (.iaload, 1) := by decide +kernel
theorem kd_Mo_assignmentCode_91 : decode kc_Mo_assignmentCode 91 = .ok (.aload_n 0, 1) := by decide +kernel
theorem kd_Mo_assignmentCode_92 : decode kc_Mo_assignmentCode 92 = .ok (.getfield 97, 3) := by decide +kernel
theorem kd_Mo_assignmentCode_95 : decode kc_Mo_assignmentCode 95 = .ok (.iload 4, 2) := by decide +kernel
theorem kd_Mo_assignmentCode_97 : decode kc_Mo_assignmentCode 97 = .ok (.iaload, 1) := by decide +kernel
theorem kd_Mo_assignmentCode_98 : decode kc_Mo_assignmentCode 98 = .ok (.aload_n 0, 1) := by decide +kernel
theorem kd_Mo_assignmentCode_99 : decode kc_Mo_assignmentCode 99 = .ok (.getfield 100, 3) := by decide +kernel
theorem kd_Mo_assignmentCode_102 : decode kc_Mo_assignmentCode 102 = .ok (.iload 4, 2) := by decide +kernel
theorem kd_Mo_assignmentCode_104 : decode kc_Mo_assignmentCode 104 = .ok (.iaload, 1) := by decide +kernel
theorem kd_Mo_assignmentCode_105 : decode kc_Mo_assignmentCode 105 = .ok (.invokevirtual 670, 3) := by decide +kernel
theorem kd_Mo_assignmentCode_108 : decode kc_Mo_assignmentCode 108 = .ok (.istore_n 3, 1) := by decide +kernel
theorem kd_Mo_assignmentCode_109 : decode kc_Mo_assignmentCode 109 = .ok (.return_, 1) := by decide +kernel
theorem kd_Mo_callCode_0 : decode kc_Mo_callCode 0 = .ok (.iconst 0, 1) := by decide +kernel
theorem kd_Mo_callCode_1 : decode kc_Mo_callCode 1 = .ok (.istore_n 2, 1) := by decide +kernel
theorem kd_Mo_callCode_2 : decode kc_Mo_callCode 2 = .ok (.aload_n 0, 1) := by decide +kernel
theorem kd_Mo_callCode_3 : decode kc_Mo_callCode 3 = .ok (.ldc_w 460, 3) := by decide +kernel
theorem kd_Mo_callCode_6 : decode kc_Mo_callCode 6 = .ok (.aload_n 0, 1) := by decide +kernel
theorem kd_Mo_callCode_7 : decode kc_Mo_callCode 7 = .ok (.getfield 28, 3) := by decide +kernel
theorem kd_Mo_callCode_10 : decode kc_Mo_callCode 10 = .ok (.iload_n 1, 1) := by decide +kernel
theorem kd_Mo_callCode_11 : decode kc_Mo_callCode 11 = .ok (.iaload, 1) := by decide +kernel
theorem kd_Mo_callCode_12 : decode kc_Mo_callCode 12 = .ok (.invokevirtual 456, 3) := by decide +kernel
theorem kd_Mo_callCode_15 : decode kc_Mo_callCode 15 = .ok (.istore_n 3, 1) := by decide +kernel
theorem kd_Mo_callCode_16 : decode kc_Mo_callCode 16 = .ok (.aload_n 0, 1) := by decide +kernel
theorem kd_Mo_callCode_17 : decode kc_Mo_callCode 17 = .ok (.getfield 34, 3) := by decide +kernel
theorem kd_Mo_callCode_20 : decode kc_Mo_callCode 20 = .ok (.iload_n 1, 1) := by decide +kernel
theorem kd_Mo_callCode_21 : decode kc_Mo_callCode 21 = .ok (.iaload, 1) := by decide +kernel
theorem kd_Mo_callCode_22 : decode kc_Mo_callCode 22 = .ok (.ifCond .ge 7, 3) := by decide +kernel
theorem kd_Mo_callCode_25 : decode kc_Mo_callCode 25 = .ok (.iconst (-1), 1) := by decide +kernel
theorem kd_Mo_callCode_26 : decode kc_Mo_callCode 26 = .ok (.goto 14, 3) := by decide +kernel
theorem kd_Mo_callCode_29 : decode kc_Mo_callCode 29 = .ok (.aload_n 0, 1) := by decide +kernel
theorem kd_Mo_callCode_30 : decode kc_Mo_callCode 30 = .ok (.getfield 106, 3) := by decide +kernel
theorem kd_Mo_callCode_33 : decode kc_Mo_callCode 33 = .ok (.aload_n 0, 1) := by decide +kernel
theorem kd_Mo_callCode_34 : decode kc_Mo_callCode 34 = .ok (.getfield 34, 3) := by decide +kernel
theorem kd_Mo_callCode_37 : decode kc_Mo_callCode 37 = .ok (.iload_n 1, 1) := by decide +kernel
theorem kd_Mo_callCode_38 : decode kc_Mo_callCode 38 = .ok (.iaload, 1) := by decide +kernel
theorem kd_Mo_callCode_39 : decode kc_Mo_callCode 39 = .ok (.iaload, 1) := by decide +kernel
theorem kd_Mo_callCode_40 : decode kc_Mo_callCode 40 = .ok (.istore 4, 2) := by decide +kernel
theorem kd_Mo_callCode_42 : decode kc_Mo_callCode 42 = .ok (.iconst 0, 1) := by decide +kernel
theorem kd_Mo_callCode_43 : decode kc_Mo_callCode 43 = .ok (.istore 5, 2) := by decide +kernel
theorem kd_Mo_callCode_45 : decode kc_Mo_callCode 45 = .ok (.aload_n 0, 1) := by decide +kernel
theorem kd_Mo_callCode_46 : decode kc_Mo_callCode 46 = .ok (.getfield 34, 3) := by decide +kernel
theorem kd_Mo_callCode_49 : decode kc_Mo_callCode 49 = .ok (.iload_n 1, 1) := by decide +kernel
theorem kd_Mo_callCode_50 : decode kc_Mo_callCode 50 = .ok (.iaload, 1) := by decide +kernel
theorem kd_Mo_callCode_51 : decode kc_Mo_callCode 51 = .ok (.istore 6, 2) := by decide +kernel
theorem kd_Mo_callCode_53 : decode kc_Mo_callCode 53 = .ok (.iload 6, 2) := by decide +kernel
theorem kd_Mo_callCode_55 : decode kc_Mo_callCode 55 = .ok (.ifCond .lt 46, 3) := by decide +kernel
theorem kd_Mo_callCode_58 : decode kc_Mo_callCode 58 = .ok (.aload_n 0, 1) := by decide +kernel
theorem kd_Mo_callCode_59 : decode kc_Mo_callCode 59 = .ok (.iload 6, 2) := by decide +kernel
theorem kd_Mo_callCode_61 : decode kc_Mo_callCode 61 = .ok (.invokevirtual 682, 3) := by decide +kernel
theorem kd_Mo_callCode_64 : decode kc_Mo_callCode 64 = .ok (.iinc 5 1, 3) := by decide +kernel
theorem kd_Mo_callCode_67 : decode kc_Mo_callCode 67 = .ok (.iload_n 3, 1) := by decide +kernel
theorem kd_Mo_callCode_68 : decode kc_Mo_callCode 68 = .ok (.iconst 3, 1) := by decide +kernel
theorem kd_Mo_callCode_69 : decode kc_Mo_callCode 69 = .ok (.if_icmp .ne 20, 3) := by decide +kernel
theorem kd_Mo_callCode_72 : decode kc_Mo_callCode 72 = .ok (.iload 5, 2) := by decide +kernel
theorem kd_Mo_callCode_74 : decode kc_Mo_callCode 74 = .ok (.iconst 2, 1) := by decide +kernel
theorem kd_Mo_callCode_75 : decode kc_Mo_callCode 75 = .ok (.if_icmp .ne 14, 3) := by decide +kernel
theorem kd_Mo_callCode_78 : decode kc_Mo_callCode 78 = .ok (.aload_n 0, 1) := by decide +kernel
theorem kd_Mo_callCode_79 : decode kc_Mo_callCode 79 = .ok (.bipush 7, 2) := by decide +kernel
theorem kd_Mo_callCode_81 : decode kc_Mo_callCode 81 = .ok (.bipush 24, 2) := by decide +kernel
theorem kd_Mo_callCode_83 : decode kc_Mo_callCode 83 = .ok (.iconst 0, 1) := by decide +kernel
theorem kd_Mo_callCode_84 : decode kc_Mo_callCode 84 = .ok (.iconst 0, 1) := by decide +kernel
theorem kd_Mo_callCode_85 : decode kc_Mo_callCode 85 = .ok (.invokevirtual 670, 3) := by decide +kernel
theorem kd_Mo_callCode_88 : decode kc_Mo_callCode 88 = .ok (.istore_n 2, 1) := by decide +kernel
theorem kd_Mo_callCode_89 : decode kc_Mo_callCode 89 = .ok (.aload_n 0, 1) := by decide +kernel
theorem kd_Mo_callCode_90 : decode kc_Mo_callCode 90 = .ok (.getfield 40, 3) := by decide +kernel
theorem kd_Mo_callCode_93 : decode kc_Mo_callCode 93 = .ok (.iload 6, 2) := by decide +kernel
theorem kd_Mo_callCode_95 : decode kc_Mo_callCode 95 = .ok (.iaload, 1) := by decide +kernel
theorem kd_Mo_callCode_96 : decode kc_Mo_callCode 96 = .ok (.istore 6, 2) := by decide +kernel
theorem kd_Mo_callCode_98 : decode kc_Mo_callCode 98 = .ok (.goto (-45), 3) := by decide +kernel
theorem kd_Mo_callCode_101 : decode kc_Mo_callCode 101 = .ok (.iload_n 3, 1) := by decide +kernel
theorem kd_Mo_callCode_102 : decode kc_Mo_callCode 102 = .ok (.tableswitch 178 0 9 #[54, 77, 91, 77, 105, 118, 118, 147, 161, 164], 54) := by decide +kernel
theorem kd_Mo_callCode_156 : decode kc_Mo_callCode 156 = .ok (.aload_n 0, 1) := by decide +kernel
theorem kd_Mo_callCode_157 : decode kc_Mo_callCode 157 = .ok (.bipush 8, 2) := by decide +kernel
theorem kd_Mo_callCode_159 : decode kc_Mo_callCode 159 = .ok (.iload 4, 2) := by decide +kernel
theorem kd_Mo_callCode_161 : decode kc_Mo_callCode 161 = .ok (.iconst 1, 1) := by decide +kernel
theorem kd_Mo_callCode_162 : decode kc_Mo_callCode 162 = .ok (.if_icmp .ne 7, 3) := by decide +kernel
theorem kd_Mo_callCode_165 : decode kc_Mo_callCode 165 = .ok (.iconst 4, 1) := by decide +kernel
theorem kd_Mo_callCode_166 : decode kc_Mo_callCode 166 = .ok (.goto 4, 3) := by decide +kernel
theorem kd_Mo_callCode_169 : decode kc_Mo_callCode 169 = .ok (.iconst 5, 1) := by decide +kernel
theorem kd_Mo_callCode_170 : decode kc_Mo_callCode 170 = .ok (.iconst 0, 1) := by decide +kernel
theorem kd_Mo_callCode_171 : decode kc_Mo_callCode 171 = .ok (.iconst 0, 1) := by decide +kernel
theorem kd_Mo_callCode_172 : decode kc_Mo_callCode 172 = .ok (.invokevirtual 670, 3) := by decide +kernel
theorem kd_Mo_callCode_175 : decode kc_Mo_callCode 175 = .ok (.istore_n 2, 1) := by decide +kernel
theorem kd_Mo_callCode_176 : decode kc_Mo_callCode 176 = .ok (.goto 181, 3) := by decide +kernel
theorem kd_Mo_callCode_179 : decode kc_Mo_callCode 179 = .ok (.aload_n 0, 1) := by decide +kernel
theorem kd_Mo_callCode_180 : decode kc_Mo_callCode 180 = .ok (.bipush 7, 2) := by decide +kernel
theorem kd_Mo_callCode_182 : decode kc_Mo_callCode 182 = .ok (.bipush 23, 2) := by decide +kernel
theorem kd_Mo_callCode_184 : decode kc_Mo_callCode 184 = .ok (.iconst 0, 1) := by decide +kernel
theorem kd_Mo_callCode_185 : decode kc_Mo_callCode 185 = .ok (.iconst 0, 1) := by decide +kernel
theorem kd_Mo_callCode_186 : decode kc_Mo_callCode 186 = .ok (.invokevirtual 670, 3) := by decide +kernel
theorem kd_Mo_callCode_189 : decode kc_Mo_callCode 189 = .ok (.istore_n 2, 1) := by decide +kernel
theorem kd_Mo_callCode_190 : decode kc_Mo_callCode 190 = .ok (.goto 167, 3) := by decide +kernel
theorem kd_Mo_callCode_193 : decode kc_Mo_callCode 193 = .ok (.aload_n 0, 1) := by decide +kernel
theorem kd_Mo_callCode_194 : decode kc_Mo_callCode 194 = .ok (.bipush 7, 2) := by decide +kernel
theorem kd_Mo_callCode_196 : decode kc_Mo_callCode 196 = .ok (.bipush 24, 2) := by decide +kernel
theorem kd_Mo_callCode_198 : decode kc_Mo_callCode 198 = .ok (.iconst 0, 1) := by decide +kernel
theorem kd_Mo_callCode_199 : decode kc_Mo_callCode 199 = .ok (.iconst 0, 1) := by decide +kernel
theorem kd_Mo_callCode_200 : decode kc_Mo_callCode 200 = .ok (.invokevirtual 670, 3) := by decide +kernel
theorem kd_Mo_callCode_203 : decode kc_Mo_callCode 203 = .ok (.istore_n 2, 1) := by decide +kernel
theorem kd_Mo_callCode_204 : decode kc_Mo_callCode 204 = .ok (.goto 153, 3) := by decide +kernel
theorem kd_Mo_callCode_207 : decode kc_Mo_callCode 207 = .ok (.aload_n 0, 1) := by decide +kernel
theorem kd_Mo_callCode_208 : decode kc_Mo_callCode 208 = .ok (.bipush 9, 2) := by decide +kernel
theorem kd_Mo_callCode_210 : decode kc_Mo_callCode 210 = .ok (.iconst 0, 1) := by decide +kernel
theorem kd_Mo_callCode_211 : decode kc_Mo_callCode 211 = .ok (.iconst 0, 1) := by decide +kernel
theorem kd_Mo_callCode_212 : decode kc_Mo_callCode 212 = .ok (.iconst 0, 1) := by decide +kernel
theorem kd_Mo_callCode_213 : decode kc_Mo_callCode 213 = .ok (.invokevirtual 670, 3) := by decide +kernel
theorem kd_Mo_callCode_216 : decode kc_Mo_callCode 216 = .ok (.istore_n 2, 1) := by decide +kernel
theorem kd_Mo_callCode_217 : decode kc_Mo_callCode 217 = .ok (.goto 140, 3) := by decide +kernel
theorem kd_Mo_callCode_220 : decode kc_Mo_callCode 220 = .ok (.aload_n 0, 1) := by decide +kernel
theorem kd_Mo_callCode_221 : decode kc_Mo_callCode 221 = .ok (.bipush 7, 2) := by decide +kernel
theorem kd_Mo_callCode_223 : decode kc_Mo_callCode 223 = .ok (.iload 4, 2) := by decide +kernel
theorem kd_Mo_callCode_225 : decode kc_Mo_callCode 225 = .ok (.iconst 1, 1) := by decide +kernel
theorem kd_Mo_callCode_226 : decode kc_Mo_callCode 226 = .ok (.if_icmp .ne 8, 3) := by decide +kernel
theorem kd_Mo_callCode_229 : decode kc_Mo_callCode 229 = .ok (.bipush 19, 2) := by decide +kernel
theorem kd_Mo_callCode_231 : decode kc_Mo_callCode 231 = .ok (.goto 5, 3) := by decide +kernel
theorem kd_Mo_callCode_234 : decode kc_Mo_callCode 234 = .ok (.bipush 21, 2) := by decide +kernel
theorem kd_Mo_callCode_236 : decode kc_Mo_callCode 236 = .ok (.iload_n 3, 1) := by decide +kernel
theorem kd_Mo_callCode_237 : decode kc_Mo_callCode 237 = .ok (.iadd, 1) := by decide +kernel
theorem kd_Mo_callCode_238 : decode kc_Mo_callCode 238 = .ok (.iconst 5, 1) := by decide +kernel
theorem kd_Mo_callCode_239 : decode kc_Mo_callCode 239 = .ok (.isub, 1) := by decide +kernel
theorem kd_Mo_callCode_240 : decode kc_Mo_callCode 240 = .ok (.iconst 0, 1) := by decide +kernel
theorem kd_Mo_callCode_241 : decode kc_Mo_callCode 241 = .ok (.iconst 0, 1) := by decide +kernel
theorem kd_Mo_callCode_242 : decode kc_Mo_callCode 242 = .ok (.invokevirtual 670, 3) := by decide +kernel
theorem kd_Mo_callCode_245 : decode kc_Mo_callCode 245 = .ok (.istore_n 2, 1) := by decide +kernel
theorem kd_Mo_callCode_246 : decode kc_Mo_callCode 246 = .ok (.goto 111, 3) := by decide +kernel
theorem kd_Mo_callCode_249 : decode kc_Mo_callCode 249 = .ok (.aload_n 0, 1) := by decide +kernel
theorem kd_Mo_callCode_250 : decode kc_Mo_callCode 250 = .ok (.bipush 8, 2) := by decide +kernel
theorem kd_Mo_callCode_252 : decode kc_Mo_callCode 252 = .ok (.bipush 6, 2) := by decide +kernel
theorem kd_Mo_callCode_254 : decode kc_Mo_callCode 254 = .ok (.iconst 0, 1) := by decide +kernel
theorem kd_Mo_callCode_255 : decode kc_Mo_callCode 255 = .ok (.iconst 0, 1) := by decide +kernel
theorem kd_Mo_callCode_256 : decode kc_Mo_callCode 256 = .ok (.invokevirtual 670, 3) := by decide +kernel
theorem kd_Mo_callCode_259 : decode kc_Mo_callCode 259 = .ok (.istore_n 2, 1) := by decide +kernel
theorem kd_Mo_callCode_260 : decode kc_Mo_callCode 260 = .ok (.goto 97, 3) := by decide +kernel
theorem kd_Mo_callCode_263 : decode kc_Mo_callCode 263 = .ok (.goto 94, 3) := by decide +kernel
theorem kd_Mo_callCode_266 : decode kc_Mo_callCode 266 = .ok (.aload_n 0, 1) := by decide +kernel
theorem kd_Mo_callCode_267 : decode kc_Mo_callCode 267 = .ok (.bipush 8, 2) := by decide +kernel
theorem kd_Mo_callCode_269 : decode kc_Mo_callCode 269 = .ok (.bipush 7, 2) := by decide +kernel
theorem kd_Mo_callCode_271 : decode kc_Mo_callCode 271 = .ok (.iconst 0, 1) := by decide +kernel
theorem kd_Mo_callCode_272 : decode kc_Mo_callCode 272 = .ok (.iconst 0, 1) := by decide +kernel
theorem kd_Mo_callCode_273 : decode kc_Mo_callCode 273 = .ok (.invokevirtual 670, 3) := by decide +kernel
theorem kd_Mo_callCode_276 : decode kc_Mo_callCode 276 = .ok (.istore_n 2, 1) := by decide +kernel
theorem kd_Mo_callCode_277 : decode kc_Mo_callCode 277 = .ok (.goto 80, 3) := by decide +kernel
theorem kd_Mo_callCode_280 : decode kc_Mo_callCode 280 = .ok (.iload 5, 2) := by decide +kernel
theorem kd_Mo_callCode_282 : decode kc_Mo_callCode 282 = .ok (.iconst 1, 1) := by decide +kernel
theorem kd_Mo_callCode_283 : decode kc_Mo_callCode 283 = .ok (.isub, 1) := by decide +kernel
theorem kd_Mo_callCode_284 : decode kc_Mo_callCode 284 = .ok (.istore 6, 2) := by decide +kernel
theorem kd_Mo_callCode_286 : decode kc_Mo_callCode 286 = .ok (.iload 6, 2) := by decide +kernel
theorem kd_Mo_callCode_288 : decode kc_Mo_callCode 288 = .ok (.ifCond .lt 40, 3) := by decide +kernel
theorem kd_Mo_callCode_291 : decode kc_Mo_callCode 291 = .ok (.aload_n 0, 1) := by decide +kernel
theorem kd_Mo_callCode_292 : decode kc_Mo_callCode 292 = .ok (.bipush 6, 2) := by decide +kernel
theorem kd_Mo_callCode_294 : decode kc_Mo_callCode 294 = .ok (.aload_n 0, 1) := by decide +kernel
theorem kd_Mo_callCode_295 : decode kc_Mo_callCode 295 = .ok (.getfield 112, 3) := by decide +kernel
theorem kd_Mo_callCode_298 : decode kc_Mo_callCode 298 = .ok (.iload_n 1, 1) := by decide +kernel
theorem kd_Mo_callCode_299 : decode kc_Mo_callCode 299 = .ok (.iaload, 1) := by decide +kernel
theorem kd_Mo_callCode_300 : decode kc_Mo_callCode 300 = .ok (.aload_n 0, 1) := by decide +kernel
theorem kd_Mo_callCode_301 : decode kc_Mo_callCode 301 = .ok (.getfield 88, 3) := by decide +kernel
theorem kd_Mo_callCode_304 : decode kc_Mo_callCode 304 = .ok (.aload_n 0, 1) := by decide +kernel
theorem kd_Mo_callCode_305 : decode kc_Mo_callCode 305 = .ok (.aload_n 0, 1) := by decide +kernel
theorem kd_Mo_callCode_306 : decode kc_Mo_callCode 306 = .ok (.getfield 112, 3) := by decide +kernel
theorem kd_Mo_callCode_309 : decode kc_Mo_callCode 309 = .ok (.iload_n 1, 1) := by decide +kernel
theorem kd_Mo_callCode_310 : decode kc_Mo_callCode 310 = .ok (.iaload, 1) := by decide +kernel
theorem kd_Mo_callCode_311 : decode kc_Mo_callCode 311 = .ok (.iload 6, 2) := by decide +kernel
theorem kd_Mo_callCode_313 : decode kc_Mo_callCode 313 = .ok (.invokevirtual 649, 3) := by decide +kernel
theorem kd_Mo_callCode_316 : decode kc_Mo_callCode 316 = .ok (.iaload, 1) := by decide +kernel
theorem kd_Mo_callCode_317 : decode kc_Mo_callCode 317 = .ok (.iconst 0, 1) := by decide +kernel
theorem kd_Mo_callCode_318 : decode kc_Mo_callCode 318 = .ok (.invokevirtual 670, 3) := by decide +kernel
theorem kd_Mo_callCode_321 : decode kc_Mo_callCode 321 = .ok (.istore_n 2, 1) := by decide +kernel
theorem kd_Mo_callCode_322 : decode kc_Mo_callCode 322 = .ok (.iinc 6 (-1), 3) := by decide +kernel
theorem kd_Mo_callCode_325 : decode kc_Mo_callCode 325 = .ok (.goto (-39), 3) := by decide +kernel
theorem kd_Mo_callCode_328 : decode kc_Mo_callCode 328 = .ok (.aload_n 0, 1) := by decide +kernel
theorem kd_Mo_callCode_329 : decode kc_Mo_callCode 329 = .ok (.bipush 16, 2) := by decide +kernel
theorem kd_Mo_callCode_331 : decode kc_Mo_callCode 331 = .ok (.aload_n 0, 1) := by decide +kernel
theorem kd_Mo_callCode_332 : decode kc_Mo_callCode 332 = .ok (.getfield 112, 3) := by decide +kernel
theorem kd_Mo_callCode_335 : decode kc_Mo_callCode 335 = .ok (.iload_n 1, 1) := by decide +kernel
theorem kd_Mo_callCode_336 : decode kc_Mo_callCode 336 = .ok (.iaload, 1) := by decide +kernel
theorem kd_Mo_callCode_337 : decode kc_Mo_callCode 337 = .ok (.iconst 0, 1) := by decide +kernel
theorem kd_Mo_callCode_338 : decode kc_Mo_callCode 338 = .ok (.iconst 0, 1) := by decide +kernel
theorem kd_Mo_callCode_339 : decode kc_Mo_callCode 339 = .ok (.invokevirtual 670, 3) := by decide +kernel
theorem kd_Mo_callCode_342 : decode kc_Mo_callCode 342 = .ok (.istore_n 2, 1) := by decide +kernel
theorem kd_Mo_callCode_343 : decode kc_Mo_callCode 343 = .ok (.aload_n 0, 1) := by decide +kernel
theorem kd_Mo_callCode_344 : decode kc_Mo_callCode 344 = .ok (.iconst 5, 1) := by decide +kernel
theorem kd_Mo_callCode_345 : decode kc_Mo_callCode 345 = .ok (.aload_n 0, 1) := by decide +kernel
theorem kd_Mo_callCode_346 : decode kc_Mo_callCode 346 = .ok (.getfield 112, 3) := by decide +kernel
theorem kd_Mo_callCode_349 : decode kc_Mo_callCode 349 = .ok (.iload_n 1, 1) := by decide +kernel
theorem kd_Mo_callCode_350 : decode kc_Mo_callCode 350 = .ok (.iaload, 1) := by decide +kernel
theorem kd_Mo_callCode_351 : decode kc_Mo_callCode 351 = .ok (.iconst 0, 1) := by decide +kernel
theorem kd_Mo_callCode_352 : decode kc_Mo_callCode 352 = .ok (.iconst 0, 1) := by decide +kernel
theorem kd_Mo_callCode_353 : decode kc_Mo_callCode 353 = .ok (.invokevirtual 670, 3) := by decide +kernel
theorem kd_Mo_callCode_356 : decode kc_Mo_callCode 356 = .ok (.istore_n 2, 1) := by decide +kernel
theorem kd_Mo_callCode_357 : decode kc_Mo_callCode 357 = .ok (.return_, 1) := by decide +kernel
theorem kd_Mo_expressionCode_0 : decode kc_Mo_expressionCode 0 = .ok (.iload_n 1, 1) := by decide +kernel
theorem kd_Mo_expressionCode_1 : decode kc_Mo_expressionCode 1 = .ok (.istore_n 2, 1) := by decide +kernel
theorem kd_Mo_expressionCode_2 : decode kc_Mo_expressionCode 2 = .ok (.aload_n 0, 1) := by decide +kernel
theorem kd_Mo_expressionCode_3 : decode kc_Mo_expressionCode 3 = .ok (.getfield 22, 3) := by decide +kernel
theorem kd_Mo_expressionCode_6 : decode kc_Mo_expressionCode 6 = .ok (.iload_n 2, 1) := by decide +kernel
theorem kd_Mo_expressionCode_7 : decode kc_Mo_expressionCode 7 = .ok (.iaload, 1) := by decide +kernel
theorem kd_Mo_expressionCode_8 : decode kc_Mo_expressionCode 8 = .ok (.bipush 35, 2) := by decide +kernel
theorem kd_Mo_expressionCode_10 : decode kc_Mo_expressionCode 10 = .ok (.if_icmp .ne 21, 3) := by decide +kernel
theorem kd_Mo_expressionCode_13 : decode kc_Mo_expressionCode 13 = .ok (.aload_n 0, 1) := by decide +kernel
theorem kd_Mo_expressionCode_14 : decode kc_Mo_expressionCode 14 = .ok (.iload_n 2, 1) := by decide +kernel
theorem kd_Mo_expressionCode_15 : decode kc_Mo_expressionCode 15 = .ok (.invokevirtual 711, 3) := by decide +kernel
theorem kd_Mo_expressionCode_18 : decode kc_Mo_expressionCode 18 = .ok (.ifCond .ne 13, 3) := by decide +kernel
theorem kd_Mo_expressionCode_21 : decode kc_Mo_expressionCode 21 = .ok (.aload_n 0, 1) := by decide +kernel
theorem kd_Mo_expressionCode_22 : decode kc_Mo_expressionCode 22 = .ok (.getfield 34, 3) := by decide +kernel
theorem kd_Mo_expressionCode_25 : decode kc_Mo_expressionCode 25 = .ok (.iload_n 2, 1) := by decide +kernel
theorem kd_Mo_expressionCode_26 : decode kc_Mo_expressionCode 26 = .ok (.iaload, 1) := by decide +kernel
theorem kd_Mo_expressionCode_27 : decode kc_Mo_expressionCode 27 = .ok (.istore_n 2, 1) := by decide +kernel
theorem kd_Mo_expressionCode_28 : decode kc_Mo_expressionCode 28 = .ok (.goto (-26), 3) := by decide +kernel
theorem kd_Mo_expressionCode_31 : decode kc_Mo_expressionCode 31 = .ok (.aload_n 0, 1) := by decide +kernel
theorem kd_Mo_expressionCode_32 : decode kc_Mo_expressionCode 32 = .ok (.iload_n 2, 1) := by decide +kernel
theorem kd_Mo_expressionCode_33 : decode kc_Mo_expressionCode 33 = .ok (.invokevirtual 735, 3) := by decide +kernel
theorem kd_Mo_expressionCode_36 : decode kc_Mo_expressionCode 36 = .ok (.iload_n 2, 1) := by decide +kernel
theorem kd_Mo_expressionCode_37 : decode kc_Mo_expressionCode 37 = .ok (.iload_n 1, 1) := by decide +kernel
theorem kd_Mo_expressionCode_38 : decode kc_Mo_expressionCode 38 = .ok (.if_icmp .eq 37, 3) := by decide +kernel
theorem kd_Mo_expressionCode_41 : decode kc_Mo_expressionCode 41 = .ok (.aload_n 0, 1) := by decide +kernel
theorem kd_Mo_expressionCode_42 : decode kc_Mo_expressionCode 42 = .ok (.getfield 31, 3) := by decide +kernel
theorem kd_Mo_expressionCode_45 : decode kc_Mo_expressionCode 45 = .ok (.iload_n 2, 1) := by decide +kernel
theorem kd_Mo_expressionCode_46 : decode kc_Mo_expressionCode 46 = .ok (.iaload, 1) := by decide +kernel
theorem kd_Mo_expressionCode_47 : decode kc_Mo_expressionCode 47 = .ok (.istore_n 2, 1) := by decide +kernel
theorem kd_Mo_expressionCode_48 : decode kc_Mo_expressionCode 48 = .ok (.aload_n 0, 1) := by decide +kernel
theorem kd_Mo_expressionCode_49 : decode kc_Mo_expressionCode 49 = .ok (.aload_n 0, 1) := by decide +kernel
theorem kd_Mo_expressionCode_50 : decode kc_Mo_expressionCode 50 = .ok (.getfield 37, 3) := by decide +kernel
theorem kd_Mo_expressionCode_53 : decode kc_Mo_expressionCode 53 = .ok (.iload_n 2, 1) := by decide +kernel
theorem kd_Mo_expressionCode_54 : decode kc_Mo_expressionCode 54 = .ok (.iaload, 1) := by decide +kernel
theorem kd_Mo_expressionCode_55 : decode kc_Mo_expressionCode 55 = .ok (.invokevirtual 682, 3) := by decide +kernel
theorem kd_Mo_expressionCode_58 : decode kc_Mo_expressionCode 58 = .ok (.aload_n 0, 1) := by decide +kernel
theorem kd_Mo_expressionCode_59 : decode kc_Mo_expressionCode 59 = .ok (.bipush 7, 2) := by decide +kernel
theorem kd_Mo_expressionCode_61 : decode kc_Mo_expressionCode 61 = .ok (.aload_n 0, 1) := by decide +kernel
theorem kd_Mo_expressionCode_62 : decode kc_Mo_expressionCode 62 = .ok (.iload_n 2, 1) := by decide +kernel
theorem kd_Mo_expressionCode_63 : decode kc_Mo_expressionCode 63 = .ok (.invokevirtual 720, 3) := by decide +kernel
theorem kd_Mo_expressionCode_66 : decode kc_Mo_expressionCode 66 = .ok (.iconst 0, 1) := by decide +kernel
theorem kd_Mo_expressionCode_67 : decode kc_Mo_expressionCode 67 = .ok (.iconst 0, 1) := by decide +kernel
theorem kd_Mo_expressionCode_68 : decode kc_Mo_expressionCode 68 = .ok (.invokevirtual 670, 3) := by decide +kernel
theorem kd_Mo_expressionCode_71 : decode kc_Mo_expressionCode 71 = .ok (.istore_n 3, 1) := by decide +kernel
theorem kd_Mo_expressionCode_72 : decode kc_Mo_expressionCode 72 = .ok (.goto (-36), 3) := by decide +kernel
theorem kd_Mo_expressionCode_75 : decode kc_Mo_expressionCode 75 = .ok (.return_, 1) := by decide +kernel
theorem kd_Mo_isOwn_0 : decode kc_Mo_isOwn 0 = .ok (.aload_n 0, 1) := by decide +kernel
theorem kd_Mo_isOwn_1 : decode kc_Mo_isOwn 1 = .ok (.getfield 85, 3) := by decide +kernel
theorem kd_Mo_isOwn_4 : decode kc_Mo_isOwn 4 = .ok (.aload_n 0, 1) := by decide +kernel
theorem kd_Mo_isOwn_5 : decode kc_Mo_isOwn 5 = .ok (.aload_n 0, 1) := by decide +kernel
theorem kd_Mo_isOwn_6 : decode kc_Mo_isOwn 6 = .ok (.getfield 550, 3) := by decide +kernel
theorem kd_Mo_isOwn_9 : decode kc_Mo_isOwn 9 = .ok (.aload_n 0, 1) := by decide +kernel
theorem kd_Mo_isOwn_10 : decode kc_Mo_isOwn 10 = .ok (.getfield 28, 3) := by decide +kernel
theorem kd_Mo_isOwn_13 : decode kc_Mo_isOwn 13 = .ok (.iload_n 1, 1) := by decide +kernel
theorem kd_Mo_isOwn_14 : decode kc_Mo_isOwn 14 = .ok (.iaload, 1) := by decide +kernel
theorem kd_Mo_isOwn_15 : decode kc_Mo_isOwn 15 = .ok (.invokevirtual 507, 3) := by decide +kernel
theorem kd_Mo_isOwn_18 : decode kc_Mo_isOwn 18 = .ok (.iaload, 1) := by decide +kernel
theorem kd_Mo_isOwn_19 : decode kc_Mo_isOwn 19 = .ok (.ldc_w 498, 3) := by decide +kernel
theorem kd_Mo_isOwn_22 : decode kc_Mo_isOwn 22 = .ok (.if_icmp .lt 7, 3) := by decide +kernel
theorem kd_Mo_isOwn_25 : decode kc_Mo_isOwn 25 = .ok (.iconst 1, 1) := by decide +kernel
theorem kd_Mo_isOwn_26 : decode kc_Mo_isOwn 26 = .ok (.goto 4, 3) := by decide +kernel
theorem kd_Mo_isOwn_29 : decode kc_Mo_isOwn 29 = .ok (.iconst 0, 1) := by decide +kernel
theorem kd_Mo_isOwn_30 : decode kc_Mo_isOwn 30 = .ok (.ireturn, 1) := by decide +kernel
theorem kd_Mo_operandCode_0 : decode kc_Mo_operandCode 0 = .ok (.iconst 0, 1) := by decide +kernel
theorem kd_Mo_operandCode_1 : decode kc_Mo_operandCode 1 = .ok (.istore_n 2, 1) := by decide +kernel
theorem kd_Mo_operandCode_2 : decode kc_Mo_operandCode 2 = .ok (.aload_n 0, 1) := by decide +kernel
theorem kd_Mo_operandCode_3 : decode kc_Mo_operandCode 3 = .ok (.iload_n 1, 1) := by decide +kernel
theorem kd_Mo_operandCode_4 : decode kc_Mo_operandCode 4 = .ok (.invokevirtual 711, 3) := by decide +kernel
theorem kd_Mo_operandCode_7 : decode kc_Mo_operandCode 7 = .ok (.ifCond .eq 17, 3) := by decide +kernel
theorem kd_Mo_operandCode_10 : decode kc_Mo_operandCode 10 = .ok (.aload_n 0, 1) := by decide +kernel
theorem kd_Mo_operandCode_11 : decode kc_Mo_operandCode 11 = .ok (.iconst 0, 1) := by decide +kernel
theorem kd_Mo_operandCode_12 : decode kc_Mo_operandCode 12 = .ok (.aload_n 0, 1) := by decide +kernel
theorem kd_Mo_operandCode_13 : decode kc_Mo_operandCode 13 = .ok (.iload_n 1, 1) := by decide +kernel
theorem kd_Mo_operandCode_14 : decode kc_Mo_operandCode 14 = .ok (.invokevirtual 714, 3) := by decide +kernel
theorem kd_Mo_operandCode_17 : decode kc_Mo_operandCode 17 = .ok (.iconst 0, 1) := by decide +kernel
theorem kd_Mo_operandCode_18 : decode kc_Mo_operandCode 18 = .ok (.iconst 0, 1) := by decide +kernel
theorem kd_Mo_operandCode_19 : decode kc_Mo_operandCode 19 = .ok (.invokevirtual 670, 3) := by decide +kernel
theorem kd_Mo_operandCode_22 : decode kc_Mo_operandCode 22 = .ok (.istore_n 2, 1) := by decide +kernel
theorem kd_Mo_operandCode_23 : decode kc_Mo_operandCode 23 = .ok (.return_, 1) := by decide +kernel
theorem kd_Mo_operandCode_24 : decode kc_Mo_operandCode 24 = .ok (.aload_n 0, 1) := by decide +kernel
theorem kd_Mo_operandCode_25 : decode kc_Mo_operandCode 25 = .ok (.getfield 22, 3) := by decide +kernel
theorem kd_Mo_operandCode_28 : decode kc_Mo_operandCode 28 = .ok (.iload_n 1, 1) := by decide +kernel
theorem kd_Mo_operandCode_29 : decode kc_Mo_operandCode 29 = .ok (.iaload, 1) := by decide +kernel
theorem kd_Mo_operandCode_30 : decode kc_Mo_operandCode 30 = .ok (.lookupswitch 138 #[(6, 42), (32, 59), (33, 42), (36, 111)], 42) := by decide +kernel
theorem kd_Mo_operandCode_72 : decode kc_Mo_operandCode 72 = .ok (.aload_n 0, 1) := by decide +kernel
theorem kd_Mo_operandCode_73 : decode kc_Mo_operandCode 73 = .ok (.iconst 1, 1) := by decide +kernel
theorem kd_Mo_operandCode_74 : decode kc_Mo_operandCode 74 = .ok (.aload_n 0, 1) := by decide +kernel
theorem kd_Mo_operandCode_75 : decode kc_Mo_operandCode 75 = .ok (.getfield 109, 3) := by decide +kernel
theorem kd_Mo_operandCode_78 : decode kc_Mo_operandCode 78 = .ok (.iload_n 1, 1) := by decide +kernel
theorem kd_Mo_operandCode_79 : decode kc_Mo_operandCode 79 = .ok (.iaload, 1) := by decide +kernel
theorem kd_Mo_operandCode_80 : decode kc_Mo_operandCode 80 = .ok (.iconst 0, 1) := by decide +kernel
theorem kd_Mo_operandCode_81 : decode kc_Mo_operandCode 81 = .ok (.iconst 0, 1) := by decide +kernel
theorem kd_Mo_operandCode_82 : decode kc_Mo_operandCode 82 = .ok (.invokevirtual 670, 3) := by decide +kernel
theorem kd_Mo_operandCode_85 : decode kc_Mo_operandCode 85 = .ok (.istore_n 2, 1) := by decide +kernel
theorem kd_Mo_operandCode_86 : decode kc_Mo_operandCode 86 = .ok (.goto 87, 3) := by decide +kernel
theorem kd_Mo_operandCode_89 : decode kc_Mo_operandCode 89 = .ok (.aload_n 0, 1) := by decide +kernel
theorem kd_Mo_operandCode_90 : decode kc_Mo_operandCode 90 = .ok (.aload_n 0, 1) := by decide +kernel
theorem kd_Mo_operandCode_91 : decode kc_Mo_operandCode 91 = .ok (.getfield 550, 3) := by decide +kernel
theorem kd_Mo_operandCode_94 : decode kc_Mo_operandCode 94 = .ok (.aload_n 0, 1) := by decide +kernel
theorem kd_Mo_operandCode_95 : decode kc_Mo_operandCode 95 = .ok (.getfield 28, 3) := by decide +kernel
theorem kd_Mo_operandCode_98 : decode kc_Mo_operandCode 98 = .ok (.iload_n 1, 1) := by decide +kernel
theorem kd_Mo_operandCode_99 : decode kc_Mo_operandCode 99 = .ok (.iaload, 1) := by decide +kernel
theorem kd_Mo_operandCode_100 : decode kc_Mo_operandCode 100 = .ok (.invokevirtual 507, 3) := by decide +kernel
theorem kd_Mo_operandCode_103 : decode kc_Mo_operandCode 103 = .ok (.istore_n 3, 1) := by decide +kernel
theorem kd_Mo_operandCode_104 : decode kc_Mo_operandCode 104 = .ok (.aload_n 0, 1) := by decide +kernel
theorem kd_Mo_operandCode_105 : decode kc_Mo_operandCode 105 = .ok (.aload_n 0, 1) := by decide +kernel
theorem kd_Mo_operandCode_106 : decode kc_Mo_operandCode 106 = .ok (.getfield 34, 3) := by decide +kernel
theorem kd_Mo_operandCode_109 : decode kc_Mo_operandCode 109 = .ok (.iload_n 1, 1) := by decide +kernel
theorem kd_Mo_operandCode_110 : decode kc_Mo_operandCode 110 = .ok (.iaload, 1) := by decide +kernel
theorem kd_Mo_operandCode_111 : decode kc_Mo_operandCode 111 = .ok (.invokevirtual 682, 3) := by decide +kernel
theorem kd_Mo_operandCode_114 : decode kc_Mo_operandCode 114 = .ok (.aload_n 0, 1) := by decide +kernel
theorem kd_Mo_operandCode_115 : decode kc_Mo_operandCode 115 = .ok (.iconst 3, 1) := by decide +kernel
theorem kd_Mo_operandCode_116 : decode kc_Mo_operandCode 116 = .ok (.aload_n 0, 1) := by decide +kernel
theorem kd_Mo_operandCode_117 : decode kc_Mo_operandCode 117 = .ok (.getfield 109, 3) := by decide +kernel
theorem kd_Mo_operandCode_120 : decode kc_Mo_operandCode 120 = .ok (.iload_n 1, 1) := by decide +kernel
theorem kd_Mo_operandCode_121 : decode kc_Mo_operandCode 121 = .ok (.iaload, 1) := by decide +kernel
theorem kd_Mo_operandCode_122 : decode kc_Mo_operandCode 122 = .ok (.aload_n 0, 1) := by decide +kernel
theorem kd_Mo_operandCode_123 : decode kc_Mo_operandCode 123 = .ok (.getfield 97, 3) := by decide +kernel
theorem kd_Mo_operandCode_126 : decode kc_Mo_operandCode 126 = .ok (.iload_n 3, 1) := by decide +kernel
theorem kd_Mo_operandCode_127 : decode kc_Mo_operandCode 127 = .ok (.iaload, 1) := by decide +kernel
theorem kd_Mo_operandCode_128 : decode kc_Mo_operandCode 128 = .ok (.aload_n 0, 1) := by decide +kernel
theorem kd_Mo_operandCode_129 : decode kc_Mo_operandCode 129 = .ok (.getfield 100, 3) := by decide +kernel
theorem kd_Mo_operandCode_132 : decode kc_Mo_operandCode 132 = .ok (.iload_n 3, 1) := by decide +kernel
theorem kd_Mo_operandCode_133 : decode kc_Mo_operandCode 133 = .ok (.iaload, 1) := by decide +kernel
theorem kd_Mo_operandCode_134 : decode kc_Mo_operandCode 134 = .ok (.invokevirtual 670, 3) := by decide +kernel
theorem kd_Mo_operandCode_137 : decode kc_Mo_operandCode 137 = .ok (.istore_n 2, 1) := by decide +kernel
theorem kd_Mo_operandCode_138 : decode kc_Mo_operandCode 138 = .ok (.goto 35, 3) := by decide +kernel
theorem kd_Mo_operandCode_141 : decode kc_Mo_operandCode 141 = .ok (.aload_n 0, 1) := by decide +kernel
theorem kd_Mo_operandCode_142 : decode kc_Mo_operandCode 142 = .ok (.aload_n 0, 1) := by decide +kernel
theorem kd_Mo_operandCode_143 : decode kc_Mo_operandCode 143 = .ok (.getfield 34, 3) := by decide +kernel
theorem kd_Mo_operandCode_146 : decode kc_Mo_operandCode 146 = .ok (.iload_n 1, 1) := by decide +kernel
theorem kd_Mo_operandCode_147 : decode kc_Mo_operandCode 147 = .ok (.iaload, 1) := by decide +kernel
theorem kd_Mo_operandCode_148 : decode kc_Mo_operandCode 148 = .ok (.invokevirtual 682, 3) := by decide +kernel
theorem kd_Mo_operandCode_151 : decode kc_Mo_operandCode 151 = .ok (.aload_n 0, 1) := by decide +kernel
theorem kd_Mo_operandCode_152 : decode kc_Mo_operandCode 152 = .ok (.bipush 8, 2) := by decide +kernel
theorem kd_Mo_operandCode_154 : decode kc_Mo_operandCode 154 = .ok (.aload_n 0, 1) := by decide +kernel
theorem kd_Mo_operandCode_155 : decode kc_Mo_operandCode 155 = .ok (.iload_n 1, 1) := by decide +kernel
theorem kd_Mo_operandCode_156 : decode kc_Mo_operandCode 156 = .ok (.invokevirtual 726, 3) := by decide +kernel
theorem kd_Mo_operandCode_159 : decode kc_Mo_operandCode 159 = .ok (.iconst 0, 1) := by decide +kernel
theorem kd_Mo_operandCode_160 : decode kc_Mo_operandCode 160 = .ok (.iconst 0, 1) := by decide +kernel
theorem kd_Mo_operandCode_161 : decode kc_Mo_operandCode 161 = .ok (.invokevirtual 670, 3) := by decide +kernel
theorem kd_Mo_operandCode_164 : decode kc_Mo_operandCode 164 = .ok (.istore_n 2, 1) := by decide +kernel
theorem kd_Mo_operandCode_165 : decode kc_Mo_operandCode 165 = .ok (.goto 8, 3) := by decide +kernel
theorem kd_Mo_operandCode_168 : decode kc_Mo_operandCode 168 = .ok (.aload_n 0, 1) := by decide +kernel
theorem kd_Mo_operandCode_169 : decode kc_Mo_operandCode 169 = .ok (.iload_n 1, 1) := by decide +kernel
theorem kd_Mo_operandCode_170 : decode kc_Mo_operandCode 170 = .ok (.invokevirtual 738, 3) := by decide +kernel
theorem kd_Mo_operandCode_173 : decode kc_Mo_operandCode 173 = .ok (.return_, 1) := by decide +kernel
theorem kd_Mo_rangesCode_0 : decode kc_Mo_rangesCode 0 = .ok (.iconst 0, 1) := by decide +kernel
theorem kd_Mo_rangesCode_1 : decode kc_Mo_rangesCode 1 = .ok (.istore_n 3, 1) := by decide +kernel
theorem kd_Mo_rangesCode_2 : decode kc_Mo_rangesCode 2 = .ok (.iconst 0, 1) := by decide +kernel
theorem kd_Mo_rangesCode_3 : decode kc_Mo_rangesCode 3 = .ok (.istore 4, 2) := by decide +kernel
theorem kd_Mo_rangesCode_5 : decode kc_Mo_rangesCode 5 = .ok (.aload_n 0, 1) := by decide +kernel
theorem kd_Mo_rangesCode_6 : decode kc_Mo_rangesCode 6 = .ok (.getfield 34, 3) := by decide +kernel
theorem kd_Mo_rangesCode_9 : decode kc_Mo_rangesCode 9 = .ok (.iload_n 1, 1) := by decide +kernel
theorem kd_Mo_rangesCode_10 : decode kc_Mo_rangesCode 10 = .ok (.iaload, 1) := by decide +kernel
theorem kd_Mo_rangesCode_11 : decode kc_Mo_rangesCode 11 = .ok (.istore 5, 2) := by decide +kernel
theorem kd_Mo_rangesCode_13 : decode kc_Mo_rangesCode 13 = .ok (.aload_n 0, 1) := by decide +kernel
theorem kd_Mo_rangesCode_14 : decode kc_Mo_rangesCode 14 = .ok (.getfield 22, 3) := by decide +kernel
theorem kd_Mo_rangesCode_17 : decode kc_Mo_rangesCode 17 = .ok (.iload 5, 2) := by decide +kernel
theorem kd_Mo_rangesCode_19 : decode kc_Mo_rangesCode 19 = .ok (.iaload, 1) := by decide +kernel
theorem kd_Mo_rangesCode_20 : decode kc_Mo_rangesCode 20 = .ok (.bipush 18, 2) := by decide +kernel
theorem kd_Mo_rangesCode_22 : decode kc_Mo_rangesCode 22 = .ok (.if_icmp .ne 164, 3) := by decide +kernel
theorem kd_Mo_rangesCode_25 : decode kc_Mo_rangesCode 25 = .ok (.aload_n 0, 1) := by decide +kernel
theorem kd_Mo_rangesCode_26 : decode kc_Mo_rangesCode 26 = .ok (.iconst 1, 1) := by decide +kernel
theorem kd_Mo_rangesCode_27 : decode kc_Mo_rangesCode 27 = .ok (.iload_n 2, 1) := by decide +kernel
theorem kd_Mo_rangesCode_28 : decode kc_Mo_rangesCode 28 = .ok (.iconst 0, 1) := by decide +kernel
theorem kd_Mo_rangesCode_29 : decode kc_Mo_rangesCode 29 = .ok (.iconst 0, 1) := by decide +kernel
theorem kd_Mo_rangesCode_30 : decode kc_Mo_rangesCode 30 = .ok (.invokevirtual 670, 3) := by decide +kernel
theorem kd_Mo_rangesCode_33 : decode kc_Mo_rangesCode 33 = .ok (.istore 4, 2) := by decide +kernel
theorem kd_Mo_rangesCode_35 : decode kc_Mo_rangesCode 35 = .ok (.aload_n 0, 1) := by decide +kernel
theorem kd_Mo_rangesCode_36 : decode kc_Mo_rangesCode 36 = .ok (.iconst 0, 1) := by decide +kernel
theorem kd_Mo_rangesCode_37 : decode kc_Mo_rangesCode 37 = .ok (.aload_n 0, 1) := by decide +kernel
theorem kd_Mo_rangesCode_38 : decode kc_Mo_rangesCode 38 = .ok (.getfield 28, 3) := by decide +kernel
theorem kd_Mo_rangesCode_41 : decode kc_Mo_rangesCode 41 = .ok (.aload_n 0, 1) := by decide +kernel
theorem kd_Mo_rangesCode_42 : decode kc_Mo_rangesCode 42 = .ok (.getfield 34, 3) := by decide +kernel
theorem kd_Mo_rangesCode_45 : decode kc_Mo_rangesCode 45 = .ok (.iload 5, 2) := by decide +kernel
theorem kd_Mo_rangesCode_47 : decode kc_Mo_rangesCode 47 = .ok (.iaload, 1) := by decide +kernel
theorem kd_Mo_rangesCode_48 : decode kc_Mo_rangesCode 48 = .ok (.iaload, 1) := by decide +kernel
theorem kd_Mo_rangesCode_49 : decode kc_Mo_rangesCode 49 = .ok (.iconst 0, 1) := by decide +kernel
theorem kd_Mo_rangesCode_50 : decode kc_Mo_rangesCode 50 = .ok (.iconst 0, 1) := by decide +kernel
theorem kd_Mo_rangesCode_51 : decode kc_Mo_rangesCode 51 = .ok (.invokevirtual 670, 3) := by decide +kernel
theorem kd_Mo_rangesCode_54 : decode kc_Mo_rangesCode 54 = .ok (.istore 4, 2) := by decide +kernel
theorem kd_Mo_rangesCode_56 : decode kc_Mo_rangesCode 56 = .ok (.aload_n 0, 1) := by decide +kernel
theorem kd_Mo_rangesCode_57 : decode kc_Mo_rangesCode 57 = .ok (.getfield 34, 3) := by decide +kernel
theorem kd_Mo_rangesCode_60 : decode kc_Mo_rangesCode 60 = .ok (.iload 5, 2) := by decide +kernel
theorem kd_Mo_rangesCode_62 : decode kc_Mo_rangesCode 62 = .ok (.iaload, 1) := by decide +kernel
theorem kd_Mo_rangesCode_63 : decode kc_Mo_rangesCode 63 = .ok (.aload_n 0, 1) := by decide +kernel
theorem kd_Mo_rangesCode_64 : decode kc_Mo_rangesCode 64 = .ok (.getfield 37, 3) := by decide +kernel
theorem kd_Mo_rangesCode_67 : decode kc_Mo_rangesCode 67 = .ok (.iload 5, 2) := by decide +kernel
theorem kd_Mo_rangesCode_69 : decode kc_Mo_rangesCode 69 = .ok (.iaload, 1) := by decide +kernel
theorem kd_Mo_rangesCode_70 : decode kc_Mo_rangesCode 70 = .ok (.if_icmp .ne 18, 3) := by decide +kernel
theorem kd_Mo_rangesCode_73 : decode kc_Mo_rangesCode 73 = .ok (.aload_n 0, 1) := by decide +kernel
theorem kd_Mo_rangesCode_74 : decode kc_Mo_rangesCode 74 = .ok (.bipush 7, 2) := by decide +kernel
theorem kd_Mo_rangesCode_76 : decode kc_Mo_rangesCode 76 = .ok (.bipush 13, 2) := by decide +kernel
theorem kd_Mo_rangesCode_78 : decode kc_Mo_rangesCode 78 = .ok (.iconst 0, 1) := by decide +kernel
theorem kd_Mo_rangesCode_79 : decode kc_Mo_rangesCode 79 = .ok (.iconst 0, 1) := by decide +kernel
theorem kd_Mo_rangesCode_80 : decode kc_Mo_rangesCode 80 = .ok (.invokevirtual 670, 3) := by decide +kernel
theorem kd_Mo_rangesCode_83 : decode kc_Mo_rangesCode 83 = .ok (.istore 4, 2) := by decide +kernel
theorem kd_Mo_rangesCode_85 : decode kc_Mo_rangesCode 85 = .ok (.goto 70, 3) := by decide +kernel
theorem kd_Mo_rangesCode_88 : decode kc_Mo_rangesCode 88 = .ok (.aload_n 0, 1) := by decide +kernel
theorem kd_Mo_rangesCode_89 : decode kc_Mo_rangesCode 89 = .ok (.bipush 7, 2) := by decide +kernel
theorem kd_Mo_rangesCode_91 : decode kc_Mo_rangesCode 91 = .ok (.bipush 18, 2) := by decide +kernel
theorem kd_Mo_rangesCode_93 : decode kc_Mo_rangesCode 93 = .ok (.iconst 0, 1) := by decide +kernel
theorem kd_Mo_rangesCode_94 : decode kc_Mo_rangesCode 94 = .ok (.iconst 0, 1) := by decide +kernel
theorem kd_Mo_rangesCode_95 : decode kc_Mo_rangesCode 95 = .ok (.invokevirtual 670, 3) := by decide +kernel
theorem kd_Mo_rangesCode_98 : decode kc_Mo_rangesCode 98 = .ok (.istore 4, 2) := by decide +kernel
theorem kd_Mo_rangesCode_100 : decode kc_Mo_rangesCode 100 = .ok (.aload_n 0, 1) := by decide +kernel
theorem kd_Mo_rangesCode_101 : decode kc_Mo_rangesCode 101 = .ok (.iconst 1, 1) := by decide +kernel
theorem kd_Mo_rangesCode_102 : decode kc_Mo_rangesCode 102 = .ok (.iload_n 2, 1) := by decide +kernel
theorem kd_Mo_rangesCode_103 : decode kc_Mo_rangesCode 103 = .ok (.iconst 0, 1) := by decide +kernel
theorem kd_Mo_rangesCode_104 : decode kc_Mo_rangesCode 104 = .ok (.iconst 0, 1) := by decide +kernel
theorem kd_Mo_rangesCode_105 : decode kc_Mo_rangesCode 105 = .ok (.invokevirtual 670, 3) := by decide +kernel
theorem kd_Mo_rangesCode_108 : decode kc_Mo_rangesCode 108 = .ok (.istore 4, 2) := by decide +kernel
theorem kd_Mo_rangesCode_110 : decode kc_Mo_rangesCode 110 = .ok (.aload_n 0, 1) := by decide +kernel
theorem kd_Mo_rangesCode_111 : decode kc_Mo_rangesCode 111 = .ok (.iconst 0, 1) := by decide +kernel
theorem kd_Mo_rangesCode_112 : decode kc_Mo_rangesCode 112 = .ok (.aload_n 0, 1) := by decide +kernel
theorem kd_Mo_rangesCode_113 : decode kc_Mo_rangesCode 113 = .ok (.getfield 28, 3) := by decide +kernel
theorem kd_Mo_rangesCode_116 : decode kc_Mo_rangesCode 116 = .ok (.aload_n 0, 1) := by decide +kernel
theorem kd_Mo_rangesCode_117 : decode kc_Mo_rangesCode 117 = .ok (.getfield 37, 3) := by decide +kernel
theorem kd_Mo_rangesCode_120 : decode kc_Mo_rangesCode 120 = .ok (.iload 5, 2) := by decide +kernel
theorem kd_Mo_rangesCode_122 : decode kc_Mo_rangesCode 122 = .ok (.iaload, 1) := by decide +kernel
theorem kd_Mo_rangesCode_123 : decode kc_Mo_rangesCode 123 = .ok (.iaload, 1) := by decide +kernel
theorem kd_Mo_rangesCode_124 : decode kc_Mo_rangesCode 124 = .ok (.iconst 0, 1) := by decide +kernel
theorem kd_Mo_rangesCode_125 : decode kc_Mo_rangesCode 125 = .ok (.iconst 0, 1) := by decide +kernel
theorem kd_Mo_rangesCode_126 : decode kc_Mo_rangesCode 126 = .ok (.invokevirtual 670, 3) := by decide +kernel
theorem kd_Mo_rangesCode_129 : decode kc_Mo_rangesCode 129 = .ok (.istore 4, 2) := by decide +kernel
theorem kd_Mo_rangesCode_131 : decode kc_Mo_rangesCode 131 = .ok (.aload_n 0, 1) := by decide +kernel
theorem kd_Mo_rangesCode_132 : decode kc_Mo_rangesCode 132 = .ok (.bipush 7, 2) := by decide +kernel
theorem kd_Mo_rangesCode_134 : decode kc_Mo_rangesCode 134 = .ok (.bipush 17, 2) := by decide +kernel
theorem kd_Mo_rangesCode_136 : decode kc_Mo_rangesCode 136 = .ok (.iconst 0, 1) := by decide +kernel
theorem kd_Mo_rangesCode_137 : decode kc_Mo_rangesCode 137 = .ok (.iconst 0, 1) := by decide +kernel
theorem kd_Mo_rangesCode_138 : decode kc_Mo_rangesCode 138 = .ok (.invokevirtual 670, 3) := by decide +kernel
theorem kd_Mo_rangesCode_141 : decode kc_Mo_rangesCode 141 = .ok (.istore 4, 2) := by decide +kernel
theorem kd_Mo_rangesCode_143 : decode kc_Mo_rangesCode 143 = .ok (.aload_n 0, 1) := by decide +kernel
theorem kd_Mo_rangesCode_144 : decode kc_Mo_rangesCode 144 = .ok (.bipush 7, 2) := by decide +kernel
theorem kd_Mo_rangesCode_146 : decode kc_Mo_rangesCode 146 = .ok (.bipush 10, 2) := by decide +kernel
theorem kd_Mo_rangesCode_148 : decode kc_Mo_rangesCode 148 = .ok (.iconst 0, 1) := by decide +kernel
theorem kd_Mo_rangesCode_149 : decode kc_Mo_rangesCode 149 = .ok (.iconst 0, 1) := by decide +kernel
theorem kd_Mo_rangesCode_150 : decode kc_Mo_rangesCode 150 = .ok (.invokevirtual 670, 3) := by decide +kernel
theorem kd_Mo_rangesCode_153 : decode kc_Mo_rangesCode 153 = .ok (.istore 4, 2) := by decide +kernel
theorem kd_Mo_rangesCode_155 : decode kc_Mo_rangesCode 155 = .ok (.iload_n 3, 1) := by decide +kernel
theorem kd_Mo_rangesCode_156 : decode kc_Mo_rangesCode 156 = .ok (.ifCond .le 15, 3) := by decide +kernel
theorem kd_Mo_rangesCode_159 : decode kc_Mo_rangesCode 159 = .ok (.aload_n 0, 1) := by decide +kernel
theorem kd_Mo_rangesCode_160 : decode kc_Mo_rangesCode 160 = .ok (.bipush 7, 2) := by decide +kernel
theorem kd_Mo_rangesCode_162 : decode kc_Mo_rangesCode 162 = .ok (.bipush 11, 2) := by decide +kernel
theorem kd_Mo_rangesCode_164 : decode kc_Mo_rangesCode 164 = .ok (.iconst 0, 1) := by decide +kernel
theorem kd_Mo_rangesCode_165 : decode kc_Mo_rangesCode 165 = .ok (.iconst 0, 1) := by decide +kernel
theorem kd_Mo_rangesCode_166 : decode kc_Mo_rangesCode 166 = .ok (.invokevirtual 670, 3) := by decide +kernel
theorem kd_Mo_rangesCode_169 : decode kc_Mo_rangesCode 169 = .ok (.istore 4, 2) := by decide +kernel
theorem kd_Mo_rangesCode_171 : decode kc_Mo_rangesCode 171 = .ok (.iinc 3 1, 3) := by decide +kernel
theorem kd_Mo_rangesCode_174 : decode kc_Mo_rangesCode 174 = .ok (.aload_n 0, 1) := by decide +kernel
theorem kd_Mo_rangesCode_175 : decode kc_Mo_rangesCode 175 = .ok (.getfield 40, 3) := by decide +kernel
theorem kd_Mo_rangesCode_178 : decode kc_Mo_rangesCode 178 = .ok (.iload 5, 2) := by decide +kernel
theorem kd_Mo_rangesCode_180 : decode kc_Mo_rangesCode 180 = .ok (.iaload, 1) := by decide +kernel
theorem kd_Mo_rangesCode_181 : decode kc_Mo_rangesCode 181 = .ok (.istore 5, 2) := by decide +kernel
theorem kd_Mo_rangesCode_183 : decode kc_Mo_rangesCode 183 = .ok (.goto (-170), 3) := by decide +kernel
theorem kd_Mo_rangesCode_186 : decode kc_Mo_rangesCode 186 = .ok (.return_, 1) := by decide +kernel
set_option maxHeartbeats 4000000 in
set_option maxRecDepth 100000 in
theorem zb_Mo_callCode_89 {X : zkj_T} {S : zs_T} {P : ze_T} {l : Launch} {D : va_G} {sz0 : Nat} {d : Nat} {rh : zs_H} (C : zk_C X km_Mo_callCode (zs_G S l D sz0) { frames := 805 + (d + 1), cells := 0, slots := 0, locals := 19314 + 26 * (d + 1) } (ze_E P)) (hR : zkj_R X (zd_PV S rh) (none)) {r_Mo_expressionCode : zs_H → Int32 → (Option zs_H)} (hr_Mo_expressionCode : ∀ (h : zs_H) (x0 : Int32) {rh : zs_H}, r_Mo_expressionCode h x0 = some rh → zk_Sp (zs_G S l D sz0) (ze_E P) km_Mo_expressionCode { frames := 805 + d, cells := 0, slots := 0, locals := 19314 + 26 * d } [.ref (S.1 68), .int x0] (zs_W S h) (zd_PV S rh)) {k53 : zs_H → Int32 → Int32 → Int32 → Int32 → Int32 → (Option zs_H)} (hk53 : ∀ (h : zs_H) (x1 : Int32) (x3 : Int32) (x4 : Int32) (x5 : Int32) (x6 : Int32), k53 h x1 x3 x4 x5 x6 = some rh → zk_Ab X (zs_W S h) 0 0 53 [(0, .ref (S.1 68)), (1, .int x1), (3, .int x3), (4, .int x4), (5, .int x5), (6, .int x6)] []) (h : zs_H) (x1 : Int32) (x3 : Int32) (x4 : Int32) (x5 : Int32) (x6 : Int32) (e : f_Mo_callCode_89 r_Mo_expressionCode k53 h x1 x3 x4 x5 x6 = some rh) : zk_Ab X (zs_W S h) 0 0 89 [(0, .ref (S.1 68)), (1, .int x1), (3, .int x3), (4, .int x4), (5, .int x5), (6, .int x6)] [] := by
  unfold f_Mo_callCode_89 at e
  refine zk_aload_n C kd_Mo_callCode_89 rfl 0 rfl rfl ?_
  refine zs_get (v := .ref (S.1 78)) C 68 21 rfl rfl rfl rfl ki_Mo (by decide) kw1704 kd_Mo_callCode_90 rfl ?_
  refine zk_iload C kd_Mo_callCode_93 5 rfl rfl ?_
  obtain ⟨q1, e⟩ := zd_g e
  refine zs_iald C 78 rfl (zd_vp q1) kd_Mo_callCode_95 rfl ?_
  refine zk_istore (lv' := [(6, _), (0, _), (1, _), (3, _), (4, _), (5, _)]) C kd_Mo_callCode_96 (by decide) rfl rfl ?_
  refine zk_goto (tgt := 53) C kd_Mo_callCode_98 (by decide) ?_
  refine zk_lvs (lv' := [(0, .ref (S.1 68)), (1, .int x1), (3, .int x3), (4, .int x4), (5, .int x5), (6, .int (h.2.1 78 x6.toNatClampNeg))]) [1, 2, 3, 4, 5, 0] rfl ?_
  exact hk53 h x1 x3 x4 x5 (h.2.1 78 x6.toNatClampNeg) e
set_option maxHeartbeats 4000000 in
set_option maxRecDepth 100000 in
theorem zb_Mo_callCode_286 {X : zkj_T} {S : zs_T} {P : ze_T} {l : Launch} {D : va_G} {sz0 : Nat} {d : Nat} {rh : zs_H} (C : zk_C X km_Mo_callCode (zs_G S l D sz0) { frames := 805 + (d + 1), cells := 0, slots := 0, locals := 19314 + 26 * (d + 1) } (ze_E P)) (hR : zkj_R X (zd_PV S rh) (none)) {k286 : zs_H → Int32 → Int32 → (Option zs_H)} (hk286 : ∀ (h : zs_H) (x1 : Int32) (x6 : Int32), k286 h x1 x6 = some rh → zk_Ab X (zs_W S h) 0 0 286 [(0, .ref (S.1 68)), (1, .int x1), (6, .int x6)] []) (h : zs_H) (x1 : Int32) (x6 : Int32) (e : f_Mo_callCode_286 k286 h x1 x6 = some rh) : zk_Ab X (zs_W S h) 0 0 286 [(0, .ref (S.1 68)), (1, .int x1), (6, .int x6)] [] := by
  unfold f_Mo_callCode_286 at e
  refine zk_iload C kd_Mo_callCode_286 2 rfl rfl ?_
  refine zk_if_lt (tgt := 328) C kd_Mo_callCode_288 (by decide) rfl (fun b1 => ?_) (fun b1 => ?_)
  · replace e := zd_pos b1 e
    refine zk_aload_n C kd_Mo_callCode_328 rfl 0 rfl rfl ?_
    refine zk_bipush (v := 16) C kd_Mo_callCode_329 (by decide) rfl ?_
    refine zk_aload_n C kd_Mo_callCode_331 rfl 0 rfl rfl ?_
    refine zs_get (v := .ref (S.1 102)) C 68 53 rfl rfl rfl rfl ki_Mo (by decide) kw1736 kd_Mo_callCode_332 rfl ?_
    refine zk_iload_n C kd_Mo_callCode_335 rfl 1 rfl rfl ?_
    obtain ⟨q2, e⟩ := zd_g e
    refine zs_iald C 102 rfl (zd_vp q2) kd_Mo_callCode_336 rfl ?_
    refine zk_iconst (v := 0) C kd_Mo_callCode_337 (by decide) rfl ?_
    refine zk_iconst (v := 0) C kd_Mo_callCode_338 (by decide) rfl ?_
    obtain ⟨v4, h5, c3, e⟩ := zd_Be e
    refine zs_callV (k := 68) (rn := { frames := 0, cells := 0, slots := 0, locals := 0 }) (As := [.int 16, .int (h.2.1 102 x1.toNatClampNeg), .int 0, .int 0]) (rest := []) C (zc_Mo_emit h 16 (h.2.1 102 x1.toNatClampNeg) 0 0 c3) ku_Mo_emit kw2524 kv_Mo_emit rfl (zd_rmO (by decide) (by decide)) ⟨Nat.le_refl _, Nat.le_refl _⟩ rfl rfl rfl (Nat.le_of_ble_eq_true rfl) kd_Mo_callCode_339 rfl (c1 := 0) (s1 := 0) rfl rfl (fun v w hp => ?_)
    obtain ⟨rfl, rfl⟩ := hp
    refine zk_stk (r' := [.int v4]) rfl ?_
    refine zk_istore_n (lv' := [(2, _), (0, _), (1, _), (6, _)]) C kd_Mo_callCode_342 rfl (by decide) rfl rfl ?_
    refine zk_aload_n C kd_Mo_callCode_343 rfl 1 rfl rfl ?_
    refine zk_iconst (v := 5) C kd_Mo_callCode_344 (by decide) rfl ?_
    refine zk_aload_n C kd_Mo_callCode_345 rfl 1 rfl rfl ?_
    refine zs_get (v := .ref (S.1 102)) C 68 53 rfl rfl rfl rfl ki_Mo (by decide) kw1736 kd_Mo_callCode_346 rfl ?_
    refine zk_iload_n C kd_Mo_callCode_349 rfl 2 rfl rfl ?_
    obtain ⟨q6, e⟩ := zd_g e
    refine zs_iald C 102 rfl (zd_vp q6) kd_Mo_callCode_350 rfl ?_
    refine zk_iconst (v := 0) C kd_Mo_callCode_351 (by decide) rfl ?_
    refine zk_iconst (v := 0) C kd_Mo_callCode_352 (by decide) rfl ?_
    obtain ⟨v8, h9, c7, e⟩ := zd_Be e
    refine zs_callV (k := 68) (rn := { frames := 0, cells := 0, slots := 0, locals := 0 }) (As := [.int 5, .int (h5.2.1 102 x1.toNatClampNeg), .int 0, .int 0]) (rest := []) C (zc_Mo_emit h5 5 (h5.2.1 102 x1.toNatClampNeg) 0 0 c7) ku_Mo_emit kw2524 kv_Mo_emit rfl (zd_rmO (by decide) (by decide)) ⟨Nat.le_refl _, Nat.le_refl _⟩ rfl rfl rfl (Nat.le_of_ble_eq_true rfl) kd_Mo_callCode_353 rfl (c1 := 0) (s1 := 0) rfl rfl (fun v w hp => ?_)
    obtain ⟨rfl, rfl⟩ := hp
    refine zk_stk (r' := [.int v8]) rfl ?_
    refine zk_istore_n (lv' := [(2, _), (0, _), (1, _), (6, _)]) C kd_Mo_callCode_356 rfl (by decide) rfl rfl ?_
    exact zk_vret C hR kd_Mo_callCode_357 rfl rfl (zd_rV e)
  · replace e := zd_neg b1 e
    refine zk_aload_n C kd_Mo_callCode_291 rfl 0 rfl rfl ?_
    refine zk_bipush (v := 6) C kd_Mo_callCode_292 (by decide) rfl ?_
    refine zk_aload_n C kd_Mo_callCode_294 rfl 0 rfl rfl ?_
    refine zs_get (v := .ref (S.1 102)) C 68 53 rfl rfl rfl rfl ki_Mo (by decide) kw1736 kd_Mo_callCode_295 rfl ?_
    refine zk_iload_n C kd_Mo_callCode_298 rfl 1 rfl rfl ?_
    obtain ⟨q10, e⟩ := zd_g e
    refine zs_iald C 102 rfl (zd_vp q10) kd_Mo_callCode_299 rfl ?_
    refine zk_aload_n C kd_Mo_callCode_300 rfl 0 rfl rfl ?_
    refine zs_get (v := .ref (S.1 94)) C 68 45 rfl rfl rfl rfl ki_Mo (by decide) kw1728 kd_Mo_callCode_301 rfl ?_
    refine zk_aload_n C kd_Mo_callCode_304 rfl 0 rfl rfl ?_
    refine zk_aload_n C kd_Mo_callCode_305 rfl 0 rfl rfl ?_
    refine zs_get (v := .ref (S.1 102)) C 68 53 rfl rfl rfl rfl ki_Mo (by decide) kw1736 kd_Mo_callCode_306 rfl ?_
    refine zk_iload_n C kd_Mo_callCode_309 rfl 1 rfl rfl ?_
    refine zs_iald C 102 rfl (zd_vp q10) kd_Mo_callCode_310 rfl ?_
    refine zk_iload C kd_Mo_callCode_311 2 rfl rfl ?_
    obtain ⟨v12, c11, e⟩ := zd_b e
    refine zs_callV (k := 68) (rn := { frames := 0, cells := 0, slots := 0, locals := 0 }) (As := [.int (h.2.1 102 x1.toNatClampNeg), .int x6]) (rest := [.ref (S.1 94), .int (h.2.1 102 x1.toNatClampNeg), .int 6, .ref (S.1 68)]) C (zc_Mo_input h (h.2.1 102 x1.toNatClampNeg) x6 c11) ku_Mo_input kw2508 kv_Mo_input rfl (zd_rmO (by decide) (by decide)) ⟨Nat.le_refl _, Nat.le_refl _⟩ rfl rfl rfl (Nat.le_of_ble_eq_true rfl) kd_Mo_callCode_313 rfl (c1 := 0) (s1 := 0) rfl rfl (fun v w hp => ?_)
    obtain ⟨rfl, rfl⟩ := hp
    refine zk_stk (r' := [.int v12, .ref (S.1 94), .int (h.2.1 102 x1.toNatClampNeg), .int 6, .ref (S.1 68)]) rfl ?_
    obtain ⟨q13, e⟩ := zd_g e
    refine zs_iald C 94 rfl (zd_vp q13) kd_Mo_callCode_316 rfl ?_
    refine zk_iconst (v := 0) C kd_Mo_callCode_317 (by decide) rfl ?_
    obtain ⟨v15, h16, c14, e⟩ := zd_Be e
    refine zs_callV (k := 68) (rn := { frames := 0, cells := 0, slots := 0, locals := 0 }) (As := [.int 6, .int (h.2.1 102 x1.toNatClampNeg), .int (h.2.1 94 v12.toNatClampNeg), .int 0]) (rest := []) C (zc_Mo_emit h 6 (h.2.1 102 x1.toNatClampNeg) (h.2.1 94 v12.toNatClampNeg) 0 c14) ku_Mo_emit kw2524 kv_Mo_emit rfl (zd_rmO (by decide) (by decide)) ⟨Nat.le_refl _, Nat.le_refl _⟩ rfl rfl rfl (Nat.le_of_ble_eq_true rfl) kd_Mo_callCode_318 rfl (c1 := 0) (s1 := 0) rfl rfl (fun v w hp => ?_)
    obtain ⟨rfl, rfl⟩ := hp
    refine zk_stk (r' := [.int v15]) rfl ?_
    refine zk_istore_n (lv' := [(2, _), (0, _), (1, _), (6, _)]) C kd_Mo_callCode_321 rfl (by decide) rfl rfl ?_
    refine zk_iinc (v := (x6 + (-1))) (lv' := [(6, _), (2, _), (0, _), (1, _)]) C kd_Mo_callCode_322 3 rfl rfl (by decide) rfl rfl ?_
    refine zk_goto (tgt := 286) C kd_Mo_callCode_325 (by decide) ?_
    refine zk_lvs (lv' := [(0, .ref (S.1 68)), (1, .int x1), (6, .int (x6 + (-1)))]) [2, 3, 0] rfl ?_
    exact hk286 h16 x1 (x6 + (-1)) e
theorem zl_Mo_callCode_286 {X : zkj_T} {S : zs_T} {P : ze_T} {l : Launch} {D : va_G} {sz0 : Nat} {d : Nat} {rh : zs_H} (C : zk_C X km_Mo_callCode (zs_G S l D sz0) { frames := 805 + (d + 1), cells := 0, slots := 0, locals := 19314 + 26 * (d + 1) } (ze_E P)) (hR : zkj_R X (zd_PV S rh) (none)) (n : Nat) : ∀ (h : zs_H) (x1 : Int32) (x6 : Int32), f_Mo_callCode_L286 n h x1 x6 = some rh → zk_Ab X (zs_W S h) 0 0 286 [(0, .ref (S.1 68)), (1, .int x1), (6, .int x6)] [] := by
  induction n with
  | zero => intro h x1 x6 e; exact zd_no e
  | succ n ih => intro h x1 x6 e; exact zb_Mo_callCode_286 (k286 := f_Mo_callCode_L286  n) C hR ih h x1 x6 e
set_option maxHeartbeats 4000000 in
set_option maxRecDepth 100000 in
theorem zb_Mo_callCode_236 {X : zkj_T} {S : zs_T} {P : ze_T} {l : Launch} {D : va_G} {sz0 : Nat} {d : Nat} {rh : zs_H} (C : zk_C X km_Mo_callCode (zs_G S l D sz0) { frames := 805 + (d + 1), cells := 0, slots := 0, locals := 19314 + 26 * (d + 1) } (ze_E P)) (hR : zkj_R X (zd_PV S rh) (none)) (h : zs_H) (x3 : Int32) (y0 : Int32) (y1 : Int32) (e : f_Mo_callCode_236 h x3 y0 y1 = some rh) : zk_Ab X (zs_W S h) 0 0 236 [(3, .int x3)] [.int y0, .int y1, .ref (S.1 68)] := by
  unfold f_Mo_callCode_236 at e
  refine zk_iload_n C kd_Mo_callCode_236 rfl 0 rfl rfl ?_
  refine zk_iadd C kd_Mo_callCode_237 rfl ?_
  refine zk_iconst (v := 5) C kd_Mo_callCode_238 (by decide) rfl ?_
  refine zk_isub C kd_Mo_callCode_239 rfl ?_
  refine zk_iconst (v := 0) C kd_Mo_callCode_240 (by decide) rfl ?_
  refine zk_iconst (v := 0) C kd_Mo_callCode_241 (by decide) rfl ?_
  obtain ⟨v2, h3, c1, e⟩ := zd_Be e
  refine zs_callV (k := 68) (rn := { frames := 0, cells := 0, slots := 0, locals := 0 }) (As := [.int y1, .int ((y0 + x3) - 5), .int 0, .int 0]) (rest := []) C (zc_Mo_emit h y1 ((y0 + x3) - 5) 0 0 c1) ku_Mo_emit kw2524 kv_Mo_emit rfl (zd_rmO (by decide) (by decide)) ⟨Nat.le_refl _, Nat.le_refl _⟩ rfl rfl rfl (Nat.le_of_ble_eq_true rfl) kd_Mo_callCode_242 rfl (c1 := 0) (s1 := 0) rfl rfl (fun v w hp => ?_)
  obtain ⟨rfl, rfl⟩ := hp
  refine zk_stk (r' := [.int v2]) rfl ?_
  refine zk_istore_n (lv' := [(2, _), (3, _)]) C kd_Mo_callCode_245 rfl (by decide) rfl rfl ?_
  refine zk_goto (tgt := 357) C kd_Mo_callCode_246 (by decide) ?_
  exact zk_vret C hR kd_Mo_callCode_357 rfl rfl (zd_rV e)
set_option maxHeartbeats 4000000 in
set_option maxRecDepth 100000 in
theorem zb_Mo_callCode_170 {X : zkj_T} {S : zs_T} {P : ze_T} {l : Launch} {D : va_G} {sz0 : Nat} {d : Nat} {rh : zs_H} (C : zk_C X km_Mo_callCode (zs_G S l D sz0) { frames := 805 + (d + 1), cells := 0, slots := 0, locals := 19314 + 26 * (d + 1) } (ze_E P)) (hR : zkj_R X (zd_PV S rh) (none)) (h : zs_H) (y0 : Int32) (y1 : Int32) (e : f_Mo_callCode_170 h y0 y1 = some rh) : zk_Ab X (zs_W S h) 0 0 170 [] [.int y0, .int y1, .ref (S.1 68)] := by
  unfold f_Mo_callCode_170 at e
  refine zk_iconst (v := 0) C kd_Mo_callCode_170 (by decide) rfl ?_
  refine zk_iconst (v := 0) C kd_Mo_callCode_171 (by decide) rfl ?_
  obtain ⟨v2, h3, c1, e⟩ := zd_Be e
  refine zs_callV (k := 68) (rn := { frames := 0, cells := 0, slots := 0, locals := 0 }) (As := [.int y1, .int y0, .int 0, .int 0]) (rest := []) C (zc_Mo_emit h y1 y0 0 0 c1) ku_Mo_emit kw2524 kv_Mo_emit rfl (zd_rmO (by decide) (by decide)) ⟨Nat.le_refl _, Nat.le_refl _⟩ rfl rfl rfl (Nat.le_of_ble_eq_true rfl) kd_Mo_callCode_172 rfl (c1 := 0) (s1 := 0) rfl rfl (fun v w hp => ?_)
  obtain ⟨rfl, rfl⟩ := hp
  refine zk_stk (r' := [.int v2]) rfl ?_
  refine zk_istore_n (lv' := [(2, _)]) C kd_Mo_callCode_175 rfl (by decide) rfl rfl ?_
  refine zk_goto (tgt := 357) C kd_Mo_callCode_176 (by decide) ?_
  exact zk_vret C hR kd_Mo_callCode_357 rfl rfl (zd_rV e)
set_option maxHeartbeats 4000000 in
set_option maxRecDepth 100000 in
theorem zb_Mo_callCode_53 {X : zkj_T} {S : zs_T} {P : ze_T} {l : Launch} {D : va_G} {sz0 : Nat} {d : Nat} {rh : zs_H} (C : zk_C X km_Mo_callCode (zs_G S l D sz0) { frames := 805 + (d + 1), cells := 0, slots := 0, locals := 19314 + 26 * (d + 1) } (ze_E P)) (hR : zkj_R X (zd_PV S rh) (none)) {r_Mo_expressionCode : zs_H → Int32 → (Option zs_H)} (hr_Mo_expressionCode : ∀ (h : zs_H) (x0 : Int32) {rh : zs_H}, r_Mo_expressionCode h x0 = some rh → zk_Sp (zs_G S l D sz0) (ze_E P) km_Mo_expressionCode { frames := 805 + d, cells := 0, slots := 0, locals := 19314 + 26 * d } [.ref (S.1 68), .int x0] (zs_W S h) (zd_PV S rh)) {k53 : zs_H → Int32 → Int32 → Int32 → Int32 → Int32 → (Option zs_H)} (hk53 : ∀ (h : zs_H) (x1 : Int32) (x3 : Int32) (x4 : Int32) (x5 : Int32) (x6 : Int32), k53 h x1 x3 x4 x5 x6 = some rh → zk_Ab X (zs_W S h) 0 0 53 [(0, .ref (S.1 68)), (1, .int x1), (3, .int x3), (4, .int x4), (5, .int x5), (6, .int x6)] []) (h : zs_H) (x1 : Int32) (x3 : Int32) (x4 : Int32) (x5 : Int32) (x6 : Int32) (e : f_Mo_callCode_53 r_Mo_expressionCode k53 h x1 x3 x4 x5 x6 = some rh) : zk_Ab X (zs_W S h) 0 0 53 [(0, .ref (S.1 68)), (1, .int x1), (3, .int x3), (4, .int x4), (5, .int x5), (6, .int x6)] [] := by
  unfold f_Mo_callCode_53 at e
  refine zk_iload C kd_Mo_callCode_53 5 rfl rfl ?_
  refine zk_if_lt (tgt := 101) C kd_Mo_callCode_55 (by decide) rfl (fun b1 => ?_) (fun b1 => ?_)
  · replace e := zd_pos b1 e
    refine zk_iload_n C kd_Mo_callCode_101 rfl 2 rfl rfl ?_
    by_cases b2 : x3 = 0
    · replace e := zd_pos b2 e
      refine zk_tableIn (tgt := 156) C kd_Mo_callCode_102 (by rw [b2]; decide) (by rw [b2]; decide) (by rw [b2]; rfl) (by decide) ?_
      refine zk_aload_n C kd_Mo_callCode_156 rfl 0 rfl rfl ?_
      refine zk_bipush (v := 8) C kd_Mo_callCode_157 (by decide) rfl ?_
      refine zk_iload C kd_Mo_callCode_159 3 rfl rfl ?_
      refine zk_iconst (v := 1) C kd_Mo_callCode_161 (by decide) rfl ?_
      refine zk_icmp_ne (tgt := 169) C kd_Mo_callCode_162 (by decide) rfl (fun b3 => ?_) (fun b3 => ?_)
      · replace e := zd_neg b3 e
        refine zk_iconst (v := 5) C kd_Mo_callCode_169 (by decide) rfl ?_
        refine zk_lvs (lv' := []) [] rfl ?_
        exact zb_Mo_callCode_170 C hR h 5 8 e
      · replace e := zd_pos b3 e
        refine zk_iconst (v := 4) C kd_Mo_callCode_165 (by decide) rfl ?_
        refine zk_goto (tgt := 170) C kd_Mo_callCode_166 (by decide) ?_
        refine zk_lvs (lv' := []) [] rfl ?_
        exact zb_Mo_callCode_170 C hR h 4 8 e
    replace e := zd_neg b2 e
    by_cases b4 : x3 = 1
    · replace e := zd_pos b4 e
      refine zk_tableIn (tgt := 179) C kd_Mo_callCode_102 (by rw [b4]; decide) (by rw [b4]; decide) (by rw [b4]; rfl) (by decide) ?_
      refine zk_aload_n C kd_Mo_callCode_179 rfl 0 rfl rfl ?_
      refine zk_bipush (v := 7) C kd_Mo_callCode_180 (by decide) rfl ?_
      refine zk_bipush (v := 23) C kd_Mo_callCode_182 (by decide) rfl ?_
      refine zk_iconst (v := 0) C kd_Mo_callCode_184 (by decide) rfl ?_
      refine zk_iconst (v := 0) C kd_Mo_callCode_185 (by decide) rfl ?_
      obtain ⟨v6, h7, c5, e⟩ := zd_Be e
      refine zs_callV (k := 68) (rn := { frames := 0, cells := 0, slots := 0, locals := 0 }) (As := [.int 7, .int 23, .int 0, .int 0]) (rest := []) C (zc_Mo_emit h 7 23 0 0 c5) ku_Mo_emit kw2524 kv_Mo_emit rfl (zd_rmO (by decide) (by decide)) ⟨Nat.le_refl _, Nat.le_refl _⟩ rfl rfl rfl (Nat.le_of_ble_eq_true rfl) kd_Mo_callCode_186 rfl (c1 := 0) (s1 := 0) rfl rfl (fun v w hp => ?_)
      obtain ⟨rfl, rfl⟩ := hp
      refine zk_stk (r' := [.int v6]) rfl ?_
      refine zk_istore_n (lv' := [(2, _), (0, _), (1, _), (3, _), (4, _), (5, _), (6, _)]) C kd_Mo_callCode_189 rfl (by decide) rfl rfl ?_
      refine zk_goto (tgt := 357) C kd_Mo_callCode_190 (by decide) ?_
      exact zk_vret C hR kd_Mo_callCode_357 rfl rfl (zd_rV e)
    replace e := zd_neg b4 e
    by_cases b8 : x3 = 2
    · replace e := zd_pos b8 e
      refine zk_tableIn (tgt := 193) C kd_Mo_callCode_102 (by rw [b8]; decide) (by rw [b8]; decide) (by rw [b8]; rfl) (by decide) ?_
      refine zk_aload_n C kd_Mo_callCode_193 rfl 0 rfl rfl ?_
      refine zk_bipush (v := 7) C kd_Mo_callCode_194 (by decide) rfl ?_
      refine zk_bipush (v := 24) C kd_Mo_callCode_196 (by decide) rfl ?_
      refine zk_iconst (v := 0) C kd_Mo_callCode_198 (by decide) rfl ?_
      refine zk_iconst (v := 0) C kd_Mo_callCode_199 (by decide) rfl ?_
      obtain ⟨v10, h11, c9, e⟩ := zd_Be e
      refine zs_callV (k := 68) (rn := { frames := 0, cells := 0, slots := 0, locals := 0 }) (As := [.int 7, .int 24, .int 0, .int 0]) (rest := []) C (zc_Mo_emit h 7 24 0 0 c9) ku_Mo_emit kw2524 kv_Mo_emit rfl (zd_rmO (by decide) (by decide)) ⟨Nat.le_refl _, Nat.le_refl _⟩ rfl rfl rfl (Nat.le_of_ble_eq_true rfl) kd_Mo_callCode_200 rfl (c1 := 0) (s1 := 0) rfl rfl (fun v w hp => ?_)
      obtain ⟨rfl, rfl⟩ := hp
      refine zk_stk (r' := [.int v10]) rfl ?_
      refine zk_istore_n (lv' := [(2, _), (0, _), (1, _), (3, _), (4, _), (5, _), (6, _)]) C kd_Mo_callCode_203 rfl (by decide) rfl rfl ?_
      refine zk_goto (tgt := 357) C kd_Mo_callCode_204 (by decide) ?_
      exact zk_vret C hR kd_Mo_callCode_357 rfl rfl (zd_rV e)
    replace e := zd_neg b8 e
    by_cases b12 : x3 = 3
    · replace e := zd_pos b12 e
      refine zk_tableIn (tgt := 179) C kd_Mo_callCode_102 (by rw [b12]; decide) (by rw [b12]; decide) (by rw [b12]; rfl) (by decide) ?_
      refine zk_aload_n C kd_Mo_callCode_179 rfl 0 rfl rfl ?_
      refine zk_bipush (v := 7) C kd_Mo_callCode_180 (by decide) rfl ?_
      refine zk_bipush (v := 23) C kd_Mo_callCode_182 (by decide) rfl ?_
      refine zk_iconst (v := 0) C kd_Mo_callCode_184 (by decide) rfl ?_
      refine zk_iconst (v := 0) C kd_Mo_callCode_185 (by decide) rfl ?_
      obtain ⟨v14, h15, c13, e⟩ := zd_Be e
      refine zs_callV (k := 68) (rn := { frames := 0, cells := 0, slots := 0, locals := 0 }) (As := [.int 7, .int 23, .int 0, .int 0]) (rest := []) C (zc_Mo_emit h 7 23 0 0 c13) ku_Mo_emit kw2524 kv_Mo_emit rfl (zd_rmO (by decide) (by decide)) ⟨Nat.le_refl _, Nat.le_refl _⟩ rfl rfl rfl (Nat.le_of_ble_eq_true rfl) kd_Mo_callCode_186 rfl (c1 := 0) (s1 := 0) rfl rfl (fun v w hp => ?_)
      obtain ⟨rfl, rfl⟩ := hp
      refine zk_stk (r' := [.int v14]) rfl ?_
      refine zk_istore_n (lv' := [(2, _), (0, _), (1, _), (3, _), (4, _), (5, _), (6, _)]) C kd_Mo_callCode_189 rfl (by decide) rfl rfl ?_
      refine zk_goto (tgt := 357) C kd_Mo_callCode_190 (by decide) ?_
      exact zk_vret C hR kd_Mo_callCode_357 rfl rfl (zd_rV e)
    replace e := zd_neg b12 e
    by_cases b16 : x3 = 4
    · replace e := zd_pos b16 e
      refine zk_tableIn (tgt := 207) C kd_Mo_callCode_102 (by rw [b16]; decide) (by rw [b16]; decide) (by rw [b16]; rfl) (by decide) ?_
      refine zk_aload_n C kd_Mo_callCode_207 rfl 0 rfl rfl ?_
      refine zk_bipush (v := 9) C kd_Mo_callCode_208 (by decide) rfl ?_
      refine zk_iconst (v := 0) C kd_Mo_callCode_210 (by decide) rfl ?_
      refine zk_iconst (v := 0) C kd_Mo_callCode_211 (by decide) rfl ?_
      refine zk_iconst (v := 0) C kd_Mo_callCode_212 (by decide) rfl ?_
      obtain ⟨v18, h19, c17, e⟩ := zd_Be e
      refine zs_callV (k := 68) (rn := { frames := 0, cells := 0, slots := 0, locals := 0 }) (As := [.int 9, .int 0, .int 0, .int 0]) (rest := []) C (zc_Mo_emit h 9 0 0 0 c17) ku_Mo_emit kw2524 kv_Mo_emit rfl (zd_rmO (by decide) (by decide)) ⟨Nat.le_refl _, Nat.le_refl _⟩ rfl rfl rfl (Nat.le_of_ble_eq_true rfl) kd_Mo_callCode_213 rfl (c1 := 0) (s1 := 0) rfl rfl (fun v w hp => ?_)
      obtain ⟨rfl, rfl⟩ := hp
      refine zk_stk (r' := [.int v18]) rfl ?_
      refine zk_istore_n (lv' := [(2, _), (0, _), (1, _), (3, _), (4, _), (5, _), (6, _)]) C kd_Mo_callCode_216 rfl (by decide) rfl rfl ?_
      refine zk_goto (tgt := 357) C kd_Mo_callCode_217 (by decide) ?_
      exact zk_vret C hR kd_Mo_callCode_357 rfl rfl (zd_rV e)
    replace e := zd_neg b16 e
    by_cases b20 : x3 = 5
    · replace e := zd_pos b20 e
      refine zk_tableIn (tgt := 220) C kd_Mo_callCode_102 (by rw [b20]; decide) (by rw [b20]; decide) (by rw [b20]; rfl) (by decide) ?_
      refine zk_aload_n C kd_Mo_callCode_220 rfl 0 rfl rfl ?_
      refine zk_bipush (v := 7) C kd_Mo_callCode_221 (by decide) rfl ?_
      refine zk_iload C kd_Mo_callCode_223 3 rfl rfl ?_
      refine zk_iconst (v := 1) C kd_Mo_callCode_225 (by decide) rfl ?_
      refine zk_icmp_ne (tgt := 234) C kd_Mo_callCode_226 (by decide) rfl (fun b21 => ?_) (fun b21 => ?_)
      · replace e := zd_neg b21 e
        refine zk_bipush (v := 21) C kd_Mo_callCode_234 (by decide) rfl ?_
        refine zk_lvs (lv' := [(3, .int x3)]) [2] rfl ?_
        exact zb_Mo_callCode_236 C hR h x3 21 7 e
      · replace e := zd_pos b21 e
        refine zk_bipush (v := 19) C kd_Mo_callCode_229 (by decide) rfl ?_
        refine zk_goto (tgt := 236) C kd_Mo_callCode_231 (by decide) ?_
        refine zk_lvs (lv' := [(3, .int x3)]) [2] rfl ?_
        exact zb_Mo_callCode_236 C hR h x3 19 7 e
    replace e := zd_neg b20 e
    by_cases b22 : x3 = 6
    · replace e := zd_pos b22 e
      refine zk_tableIn (tgt := 220) C kd_Mo_callCode_102 (by rw [b22]; decide) (by rw [b22]; decide) (by rw [b22]; rfl) (by decide) ?_
      refine zk_aload_n C kd_Mo_callCode_220 rfl 0 rfl rfl ?_
      refine zk_bipush (v := 7) C kd_Mo_callCode_221 (by decide) rfl ?_
      refine zk_iload C kd_Mo_callCode_223 3 rfl rfl ?_
      refine zk_iconst (v := 1) C kd_Mo_callCode_225 (by decide) rfl ?_
      refine zk_icmp_ne (tgt := 234) C kd_Mo_callCode_226 (by decide) rfl (fun b23 => ?_) (fun b23 => ?_)
      · replace e := zd_neg b23 e
        refine zk_bipush (v := 21) C kd_Mo_callCode_234 (by decide) rfl ?_
        refine zk_lvs (lv' := [(3, .int x3)]) [2] rfl ?_
        exact zb_Mo_callCode_236 C hR h x3 21 7 e
      · replace e := zd_pos b23 e
        refine zk_bipush (v := 19) C kd_Mo_callCode_229 (by decide) rfl ?_
        refine zk_goto (tgt := 236) C kd_Mo_callCode_231 (by decide) ?_
        refine zk_lvs (lv' := [(3, .int x3)]) [2] rfl ?_
        exact zb_Mo_callCode_236 C hR h x3 19 7 e
    replace e := zd_neg b22 e
    by_cases b24 : x3 = 7
    · replace e := zd_pos b24 e
      refine zk_tableIn (tgt := 249) C kd_Mo_callCode_102 (by rw [b24]; decide) (by rw [b24]; decide) (by rw [b24]; rfl) (by decide) ?_
      refine zk_aload_n C kd_Mo_callCode_249 rfl 0 rfl rfl ?_
      refine zk_bipush (v := 8) C kd_Mo_callCode_250 (by decide) rfl ?_
      refine zk_bipush (v := 6) C kd_Mo_callCode_252 (by decide) rfl ?_
      refine zk_iconst (v := 0) C kd_Mo_callCode_254 (by decide) rfl ?_
      refine zk_iconst (v := 0) C kd_Mo_callCode_255 (by decide) rfl ?_
      obtain ⟨v26, h27, c25, e⟩ := zd_Be e
      refine zs_callV (k := 68) (rn := { frames := 0, cells := 0, slots := 0, locals := 0 }) (As := [.int 8, .int 6, .int 0, .int 0]) (rest := []) C (zc_Mo_emit h 8 6 0 0 c25) ku_Mo_emit kw2524 kv_Mo_emit rfl (zd_rmO (by decide) (by decide)) ⟨Nat.le_refl _, Nat.le_refl _⟩ rfl rfl rfl (Nat.le_of_ble_eq_true rfl) kd_Mo_callCode_256 rfl (c1 := 0) (s1 := 0) rfl rfl (fun v w hp => ?_)
      obtain ⟨rfl, rfl⟩ := hp
      refine zk_stk (r' := [.int v26]) rfl ?_
      refine zk_istore_n (lv' := [(2, _), (0, _), (1, _), (3, _), (4, _), (5, _), (6, _)]) C kd_Mo_callCode_259 rfl (by decide) rfl rfl ?_
      refine zk_goto (tgt := 357) C kd_Mo_callCode_260 (by decide) ?_
      exact zk_vret C hR kd_Mo_callCode_357 rfl rfl (zd_rV e)
    replace e := zd_neg b24 e
    by_cases b28 : x3 = 8
    · replace e := zd_pos b28 e
      refine zk_tableIn (tgt := 263) C kd_Mo_callCode_102 (by rw [b28]; decide) (by rw [b28]; decide) (by rw [b28]; rfl) (by decide) ?_
      refine zk_goto (tgt := 357) C kd_Mo_callCode_263 (by decide) ?_
      exact zk_vret C hR kd_Mo_callCode_357 rfl rfl (zd_rV e)
    replace e := zd_neg b28 e
    by_cases b29 : x3 = 9
    · replace e := zd_pos b29 e
      refine zk_tableIn (tgt := 266) C kd_Mo_callCode_102 (by rw [b29]; decide) (by rw [b29]; decide) (by rw [b29]; rfl) (by decide) ?_
      refine zk_aload_n C kd_Mo_callCode_266 rfl 0 rfl rfl ?_
      refine zk_bipush (v := 8) C kd_Mo_callCode_267 (by decide) rfl ?_
      refine zk_bipush (v := 7) C kd_Mo_callCode_269 (by decide) rfl ?_
      refine zk_iconst (v := 0) C kd_Mo_callCode_271 (by decide) rfl ?_
      refine zk_iconst (v := 0) C kd_Mo_callCode_272 (by decide) rfl ?_
      obtain ⟨v31, h32, c30, e⟩ := zd_Be e
      refine zs_callV (k := 68) (rn := { frames := 0, cells := 0, slots := 0, locals := 0 }) (As := [.int 8, .int 7, .int 0, .int 0]) (rest := []) C (zc_Mo_emit h 8 7 0 0 c30) ku_Mo_emit kw2524 kv_Mo_emit rfl (zd_rmO (by decide) (by decide)) ⟨Nat.le_refl _, Nat.le_refl _⟩ rfl rfl rfl (Nat.le_of_ble_eq_true rfl) kd_Mo_callCode_273 rfl (c1 := 0) (s1 := 0) rfl rfl (fun v w hp => ?_)
      obtain ⟨rfl, rfl⟩ := hp
      refine zk_stk (r' := [.int v31]) rfl ?_
      refine zk_istore_n (lv' := [(2, _), (0, _), (1, _), (3, _), (4, _), (5, _), (6, _)]) C kd_Mo_callCode_276 rfl (by decide) rfl rfl ?_
      refine zk_goto (tgt := 357) C kd_Mo_callCode_277 (by decide) ?_
      exact zk_vret C hR kd_Mo_callCode_357 rfl rfl (zd_rV e)
    replace e := zd_neg b29 e
    refine zk_tableOut (tgt := 280) C kd_Mo_callCode_102 (by have := lv_neT b2 (a := 0) (by decide); have := lv_neT b4 (a := 1) (by decide); have := lv_neT b8 (a := 2) (by decide); have := lv_neT b12 (a := 3) (by decide); have := lv_neT b16 (a := 4) (by decide); have := lv_neT b20 (a := 5) (by decide); have := lv_neT b22 (a := 6) (by decide); have := lv_neT b24 (a := 7) (by decide); have := lv_neT b28 (a := 8) (by decide); have := lv_neT b29 (a := 9) (by decide); omega) (by decide) ?_
    refine zk_iload C kd_Mo_callCode_280 4 rfl rfl ?_
    refine zk_iconst (v := 1) C kd_Mo_callCode_282 (by decide) rfl ?_
    refine zk_isub C kd_Mo_callCode_283 rfl ?_
    refine zk_istore (lv' := [(6, _), (0, _), (1, _), (3, _), (4, _), (5, _)]) C kd_Mo_callCode_284 (by decide) rfl rfl ?_
    refine zk_lvs (lv' := [(0, .ref (S.1 68)), (1, .int x1), (6, .int (x5 - 1))]) [1, 2, 0] rfl ?_
    exact zl_Mo_callCode_286 C hR zF h x1 (x5 - 1) e
  · replace e := zd_neg b1 e
    refine zk_aload_n C kd_Mo_callCode_58 rfl 0 rfl rfl ?_
    refine zk_iload C kd_Mo_callCode_59 5 rfl rfl ?_
    obtain ⟨h34, c33, e⟩ := zd_b e
    refine zs_callV (k := 68) (rn := { frames := 805 + d, cells := 0, slots := 0, locals := 19314 + 26 * d }) (As := [.int x6]) (rest := []) C (hr_Mo_expressionCode h x6 c33) ku_Mo_expressionCode kw2544 kv_Mo_expressionCode rfl (zd_rmI (by decide)) ⟨Nat.le_refl _, Nat.le_refl _⟩ rfl rfl rfl (Nat.le_of_ble_eq_true rfl) kd_Mo_callCode_61 rfl (c1 := 0) (s1 := 0) rfl rfl (fun v w hp => ?_)
    obtain ⟨rfl, rfl⟩ := hp
    refine zk_stk (r' := []) rfl ?_
    refine zk_iinc (v := (x5 + 1)) (lv' := [(5, _), (0, _), (1, _), (3, _), (4, _), (6, _)]) C kd_Mo_callCode_64 4 rfl rfl (by decide) rfl rfl ?_
    refine zk_iload_n C kd_Mo_callCode_67 rfl 3 rfl rfl ?_
    refine zk_iconst (v := 3) C kd_Mo_callCode_68 (by decide) rfl ?_
    refine zk_icmp_ne (tgt := 89) C kd_Mo_callCode_69 (by decide) rfl (fun b35 => ?_) (fun b35 => ?_)
    · replace e := zd_neg b35 e
      refine zk_lvs (lv' := [(0, .ref (S.1 68)), (1, .int x1), (3, .int x3), (4, .int x4), (5, .int (x5 + 1)), (6, .int x6)]) [1, 2, 3, 4, 0, 5] rfl ?_
      exact zb_Mo_callCode_89 C hR hr_Mo_expressionCode hk53 h34 x1 x3 x4 (x5 + 1) x6 e
    · replace e := zd_pos b35 e
      refine zk_iload C kd_Mo_callCode_72 0 rfl rfl ?_
      refine zk_iconst (v := 2) C kd_Mo_callCode_74 (by decide) rfl ?_
      refine zk_icmp_ne (tgt := 89) C kd_Mo_callCode_75 (by decide) rfl (fun b36 => ?_) (fun b36 => ?_)
      · replace e := zd_neg b36 e
        refine zk_lvs (lv' := [(0, .ref (S.1 68)), (1, .int x1), (3, .int x3), (4, .int x4), (5, .int (x5 + 1)), (6, .int x6)]) [1, 2, 3, 4, 0, 5] rfl ?_
        exact zb_Mo_callCode_89 C hR hr_Mo_expressionCode hk53 h34 x1 x3 x4 (x5 + 1) x6 e
      · replace e := zd_pos b36 e
        refine zk_aload_n C kd_Mo_callCode_78 rfl 1 rfl rfl ?_
        refine zk_bipush (v := 7) C kd_Mo_callCode_79 (by decide) rfl ?_
        refine zk_bipush (v := 24) C kd_Mo_callCode_81 (by decide) rfl ?_
        refine zk_iconst (v := 0) C kd_Mo_callCode_83 (by decide) rfl ?_
        refine zk_iconst (v := 0) C kd_Mo_callCode_84 (by decide) rfl ?_
        obtain ⟨v38, h39, c37, e⟩ := zd_Be e
        refine zs_callV (k := 68) (rn := { frames := 0, cells := 0, slots := 0, locals := 0 }) (As := [.int 7, .int 24, .int 0, .int 0]) (rest := []) C (zc_Mo_emit h34 7 24 0 0 c37) ku_Mo_emit kw2524 kv_Mo_emit rfl (zd_rmO (by decide) (by decide)) ⟨Nat.le_refl _, Nat.le_refl _⟩ rfl rfl rfl (Nat.le_of_ble_eq_true rfl) kd_Mo_callCode_85 rfl (c1 := 0) (s1 := 0) rfl rfl (fun v w hp => ?_)
        obtain ⟨rfl, rfl⟩ := hp
        refine zk_stk (r' := [.int v38]) rfl ?_
        refine zk_istore_n (lv' := [(2, _), (5, _), (0, _), (1, _), (3, _), (4, _), (6, _)]) C kd_Mo_callCode_88 rfl (by decide) rfl rfl ?_
        refine zk_lvs (lv' := [(0, .ref (S.1 68)), (1, .int x1), (3, .int x3), (4, .int x4), (5, .int (x5 + 1)), (6, .int x6)]) [2, 3, 4, 5, 1, 6] rfl ?_
        exact zb_Mo_callCode_89 C hR hr_Mo_expressionCode hk53 h39 x1 x3 x4 (x5 + 1) x6 e
theorem zl_Mo_callCode_53 {X : zkj_T} {S : zs_T} {P : ze_T} {l : Launch} {D : va_G} {sz0 : Nat} {d : Nat} {rh : zs_H} (C : zk_C X km_Mo_callCode (zs_G S l D sz0) { frames := 805 + (d + 1), cells := 0, slots := 0, locals := 19314 + 26 * (d + 1) } (ze_E P)) (hR : zkj_R X (zd_PV S rh) (none)) {r_Mo_expressionCode : zs_H → Int32 → (Option zs_H)} (hr_Mo_expressionCode : ∀ (h : zs_H) (x0 : Int32) {rh : zs_H}, r_Mo_expressionCode h x0 = some rh → zk_Sp (zs_G S l D sz0) (ze_E P) km_Mo_expressionCode { frames := 805 + d, cells := 0, slots := 0, locals := 19314 + 26 * d } [.ref (S.1 68), .int x0] (zs_W S h) (zd_PV S rh)) (n : Nat) : ∀ (h : zs_H) (x1 : Int32) (x3 : Int32) (x4 : Int32) (x5 : Int32) (x6 : Int32), f_Mo_callCode_L53 r_Mo_expressionCode n h x1 x3 x4 x5 x6 = some rh → zk_Ab X (zs_W S h) 0 0 53 [(0, .ref (S.1 68)), (1, .int x1), (3, .int x3), (4, .int x4), (5, .int x5), (6, .int x6)] [] := by
  induction n with
  | zero => intro h x1 x3 x4 x5 x6 e; exact zd_no e
  | succ n ih => intro h x1 x3 x4 x5 x6 e; exact zb_Mo_callCode_53 (k53 := f_Mo_callCode_L53 r_Mo_expressionCode n) C hR hr_Mo_expressionCode ih h x1 x3 x4 x5 x6 e
set_option maxHeartbeats 4000000 in
set_option maxRecDepth 100000 in
theorem zb_Mo_callCode_40 {X : zkj_T} {S : zs_T} {P : ze_T} {l : Launch} {D : va_G} {sz0 : Nat} {d : Nat} {rh : zs_H} (C : zk_C X km_Mo_callCode (zs_G S l D sz0) { frames := 805 + (d + 1), cells := 0, slots := 0, locals := 19314 + 26 * (d + 1) } (ze_E P)) (hR : zkj_R X (zd_PV S rh) (none)) {r_Mo_expressionCode : zs_H → Int32 → (Option zs_H)} (hr_Mo_expressionCode : ∀ (h : zs_H) (x0 : Int32) {rh : zs_H}, r_Mo_expressionCode h x0 = some rh → zk_Sp (zs_G S l D sz0) (ze_E P) km_Mo_expressionCode { frames := 805 + d, cells := 0, slots := 0, locals := 19314 + 26 * d } [.ref (S.1 68), .int x0] (zs_W S h) (zd_PV S rh)) (h : zs_H) (x1 : Int32) (x3 : Int32) (y0 : Int32) (e : f_Mo_callCode_40 r_Mo_expressionCode h x1 x3 y0 = some rh) : zk_Ab X (zs_W S h) 0 0 40 [(0, .ref (S.1 68)), (1, .int x1), (3, .int x3)] [.int y0] := by
  unfold f_Mo_callCode_40 at e
  refine zk_istore (lv' := [(4, _), (0, _), (1, _), (3, _)]) C kd_Mo_callCode_40 (by decide) rfl rfl ?_
  refine zk_iconst (v := 0) C kd_Mo_callCode_42 (by decide) rfl ?_
  refine zk_istore (lv' := [(5, _), (4, _), (0, _), (1, _), (3, _)]) C kd_Mo_callCode_43 (by decide) rfl rfl ?_
  refine zk_aload_n C kd_Mo_callCode_45 rfl 2 rfl rfl ?_
  refine zs_get (v := .ref (S.1 76)) C 68 19 rfl rfl rfl rfl ki_Mo (by decide) kw1702 kd_Mo_callCode_46 rfl ?_
  refine zk_iload_n C kd_Mo_callCode_49 rfl 3 rfl rfl ?_
  obtain ⟨q1, e⟩ := zd_g e
  refine zs_iald C 76 rfl (zd_vp q1) kd_Mo_callCode_50 rfl ?_
  refine zk_istore (lv' := [(6, _), (5, _), (4, _), (0, _), (1, _), (3, _)]) C kd_Mo_callCode_51 (by decide) rfl rfl ?_
  refine zk_lvs (lv' := [(0, .ref (S.1 68)), (1, .int x1), (3, .int x3), (4, .int y0), (5, .int 0), (6, .int (h.2.1 76 x1.toNatClampNeg))]) [3, 4, 5, 2, 1, 0] rfl ?_
  exact zl_Mo_callCode_53 C hR hr_Mo_expressionCode zF h x1 x3 y0 0 (h.2.1 76 x1.toNatClampNeg) e
set_option maxHeartbeats 4000000 in
set_option maxRecDepth 100000 in
theorem zg_Mo_callCode {l : Launch} {D : va_G} {sz0 : Nat} {S : zs_T} {P : ze_T} {d : Nat} {r_Mo_expressionCode : zs_H → Int32 → (Option zs_H)} (hr_Mo_expressionCode : ∀ (h : zs_H) (x0 : Int32) {rh : zs_H}, r_Mo_expressionCode h x0 = some rh → zk_Sp (zs_G S l D sz0) (ze_E P) km_Mo_expressionCode { frames := 805 + d, cells := 0, slots := 0, locals := 19314 + 26 * d } [.ref (S.1 68), .int x0] (zs_W S h) (zd_PV S rh)) (h : zs_H) (x1 : Int32) {rh : zs_H} (e : g_Mo_callCode r_Mo_expressionCode h x1 = some rh) : zk_Sp (zs_G S l D sz0) (ze_E P) km_Mo_callCode { frames := 805 + (d + 1), cells := 0, slots := 0, locals := 19314 + 26 * (d + 1) } [.ref (S.1 68), .int x1] (zs_W S h) (zd_PV S rh) := by
  refine zk_met ku_Mo_callCode (Nat.le_of_ble_eq_true rfl) (ze_Em P) ?_
  intro X C hR
  refine zk_lvs (lv' := [(0, .ref (S.1 68)), (1, .int x1)]) [0, 1] rfl ?_
  unfold g_Mo_callCode at e
  refine zk_iconst (v := 0) C kd_Mo_callCode_0 (by decide) rfl ?_
  refine zk_istore_n (lv' := [(2, _), (0, _), (1, _)]) C kd_Mo_callCode_1 rfl (by decide) rfl rfl ?_
  refine zk_aload_n C kd_Mo_callCode_2 rfl 1 rfl rfl ?_
  refine ze_ldcSw (i := 11) C (zd_str 11 rfl) kd_Mo_callCode_3 rfl ?_
  refine zk_aload_n C kd_Mo_callCode_6 rfl 1 rfl rfl ?_
  refine zs_get (v := .ref (S.1 74)) C 68 17 rfl rfl rfl rfl ki_Mo (by decide) kw1700 kd_Mo_callCode_7 rfl ?_
  refine zk_iload_n C kd_Mo_callCode_10 rfl 2 rfl rfl ?_
  obtain ⟨q1, e⟩ := zd_g e
  refine zs_iald C 74 rfl (zd_vp q1) kd_Mo_callCode_11 rfl ?_
  obtain ⟨v3, c2, e⟩ := zd_b e
  refine zs_callV (k := 68) (rn := { frames := 4, cells := 0, slots := 0, locals := 85 }) (As := [.ref (P.1 11), .int (h.2.1 74 x1.toNatClampNeg)]) (rest := []) C (zc_Mo_wordOf_s11 h (h.2.1 74 x1.toNatClampNeg) c2) ku_Mo_wordOf kw2273 kv_Mo_wordOf rfl (zd_rmO (by decide) (by decide)) ⟨Nat.le_refl _, Nat.le_refl _⟩ rfl rfl rfl (Nat.le_of_ble_eq_true rfl) kd_Mo_callCode_12 rfl (c1 := 0) (s1 := 0) rfl rfl (fun v w hp => ?_)
  obtain ⟨rfl, rfl⟩ := hp
  refine zk_stk (r' := [.int v3]) rfl ?_
  refine zk_istore_n (lv' := [(3, _), (2, _), (0, _), (1, _)]) C kd_Mo_callCode_15 rfl (by decide) rfl rfl ?_
  refine zk_aload_n C kd_Mo_callCode_16 rfl 2 rfl rfl ?_
  refine zs_get (v := .ref (S.1 76)) C 68 19 rfl rfl rfl rfl ki_Mo (by decide) kw1702 kd_Mo_callCode_17 rfl ?_
  refine zk_iload_n C kd_Mo_callCode_20 rfl 3 rfl rfl ?_
  refine zs_iald C 76 rfl (zd_vp q1) kd_Mo_callCode_21 rfl ?_
  refine zk_if_ge (tgt := 29) C kd_Mo_callCode_22 (by decide) rfl (fun b4 => ?_) (fun b4 => ?_)
  · replace e := zd_pos b4 e
    refine zk_aload_n C kd_Mo_callCode_29 rfl 2 rfl rfl ?_
    refine zs_get (v := .ref (S.1 100)) C 68 51 rfl rfl rfl rfl ki_Mo (by decide) kw1734 kd_Mo_callCode_30 rfl ?_
    refine zk_aload_n C kd_Mo_callCode_33 rfl 2 rfl rfl ?_
    refine zs_get (v := .ref (S.1 76)) C 68 19 rfl rfl rfl rfl ki_Mo (by decide) kw1702 kd_Mo_callCode_34 rfl ?_
    refine zk_iload_n C kd_Mo_callCode_37 rfl 3 rfl rfl ?_
    refine zs_iald C 76 rfl (zd_vp q1) kd_Mo_callCode_38 rfl ?_
    obtain ⟨q5, e⟩ := zd_g e
    refine zs_iald C 100 rfl (zd_vp q5) kd_Mo_callCode_39 rfl ?_
    refine zk_lvs (lv' := [(0, .ref (S.1 68)), (1, .int x1), (3, .int v3)]) [2, 3, 0] rfl ?_
    exact zb_Mo_callCode_40 C hR hr_Mo_expressionCode h x1 v3 (h.2.1 100 (h.2.1 76 x1.toNatClampNeg).toNatClampNeg) e
  · replace e := zd_neg b4 e
    refine zk_iconst (v := (-1)) C kd_Mo_callCode_25 (by decide) rfl ?_
    refine zk_goto (tgt := 40) C kd_Mo_callCode_26 (by decide) ?_
    refine zk_lvs (lv' := [(0, .ref (S.1 68)), (1, .int x1), (3, .int v3)]) [2, 3, 0] rfl ?_
    exact zb_Mo_callCode_40 C hR hr_Mo_expressionCode h x1 v3 (-1) e
set_option maxHeartbeats 4000000 in
set_option maxRecDepth 100000 in
theorem zb_Mo_expressionCode_36 {X : zkj_T} {S : zs_T} {P : ze_T} {l : Launch} {D : va_G} {sz0 : Nat} {d : Nat} {rh : zs_H} (C : zk_C X km_Mo_expressionCode (zs_G S l D sz0) { frames := 805 + (d + 1), cells := 0, slots := 0, locals := 19314 + 26 * (d + 1) } (ze_E P)) (hR : zkj_R X (zd_PV S rh) (none)) {r_Mo_expressionCode : zs_H → Int32 → (Option zs_H)} (hr_Mo_expressionCode : ∀ (h : zs_H) (x0 : Int32) {rh : zs_H}, r_Mo_expressionCode h x0 = some rh → zk_Sp (zs_G S l D sz0) (ze_E P) km_Mo_expressionCode { frames := 805 + d, cells := 0, slots := 0, locals := 19314 + 26 * d } [.ref (S.1 68), .int x0] (zs_W S h) (zd_PV S rh)) {k36 : zs_H → Int32 → Int32 → (Option zs_H)} (hk36 : ∀ (h : zs_H) (x1 : Int32) (x2 : Int32), k36 h x1 x2 = some rh → zk_Ab X (zs_W S h) 0 0 36 [(0, .ref (S.1 68)), (1, .int x1), (2, .int x2)] []) (h : zs_H) (x1 : Int32) (x2 : Int32) (e : f_Mo_expressionCode_36 r_Mo_expressionCode k36 h x1 x2 = some rh) : zk_Ab X (zs_W S h) 0 0 36 [(0, .ref (S.1 68)), (1, .int x1), (2, .int x2)] [] := by
  unfold f_Mo_expressionCode_36 at e
  refine zk_iload_n C kd_Mo_expressionCode_36 rfl 2 rfl rfl ?_
  refine zk_iload_n C kd_Mo_expressionCode_37 rfl 1 rfl rfl ?_
  refine zk_icmp_eq (tgt := 75) C kd_Mo_expressionCode_38 (by decide) rfl (fun b1 => ?_) (fun b1 => ?_)
  · replace e := zd_pos b1 e
    exact zk_vret C hR kd_Mo_expressionCode_75 rfl rfl (zd_rV e)
  · replace e := zd_neg b1 e
    refine zk_aload_n C kd_Mo_expressionCode_41 rfl 0 rfl rfl ?_
    refine zs_get (v := .ref (S.1 75)) C 68 18 rfl rfl rfl rfl ki_Mo (by decide) kw1701 kd_Mo_expressionCode_42 rfl ?_
    refine zk_iload_n C kd_Mo_expressionCode_45 rfl 2 rfl rfl ?_
    obtain ⟨q2, e⟩ := zd_g e
    refine zs_iald C 75 rfl (zd_vp q2) kd_Mo_expressionCode_46 rfl ?_
    refine zk_istore_n (lv' := [(2, _), (0, _), (1, _)]) C kd_Mo_expressionCode_47 rfl (by decide) rfl rfl ?_
    refine zk_aload_n C kd_Mo_expressionCode_48 rfl 1 rfl rfl ?_
    refine zk_aload_n C kd_Mo_expressionCode_49 rfl 1 rfl rfl ?_
    refine zs_get (v := .ref (S.1 77)) C 68 20 rfl rfl rfl rfl ki_Mo (by decide) kw1703 kd_Mo_expressionCode_50 rfl ?_
    refine zk_iload_n C kd_Mo_expressionCode_53 rfl 0 rfl rfl ?_
    obtain ⟨q3, e⟩ := zd_g e
    refine zs_iald C 77 rfl (zd_vp q3) kd_Mo_expressionCode_54 rfl ?_
    obtain ⟨h5, c4, e⟩ := zd_b e
    refine zs_callV (k := 68) (rn := { frames := 805 + d, cells := 0, slots := 0, locals := 19314 + 26 * d }) (As := [.int (h.2.1 77 (h.2.1 75 x2.toNatClampNeg).toNatClampNeg)]) (rest := []) C (hr_Mo_expressionCode h (h.2.1 77 (h.2.1 75 x2.toNatClampNeg).toNatClampNeg) c4) ku_Mo_expressionCode kw2544 kv_Mo_expressionCode rfl (zd_rmI (by decide)) ⟨Nat.le_refl _, Nat.le_refl _⟩ rfl rfl rfl (Nat.le_of_ble_eq_true rfl) kd_Mo_expressionCode_55 rfl (c1 := 0) (s1 := 0) rfl rfl (fun v w hp => ?_)
    obtain ⟨rfl, rfl⟩ := hp
    refine zk_stk (r' := []) rfl ?_
    refine zk_aload_n C kd_Mo_expressionCode_58 rfl 1 rfl rfl ?_
    refine zk_bipush (v := 7) C kd_Mo_expressionCode_59 (by decide) rfl ?_
    refine zk_aload_n C kd_Mo_expressionCode_61 rfl 1 rfl rfl ?_
    refine zk_iload_n C kd_Mo_expressionCode_62 rfl 0 rfl rfl ?_
    obtain ⟨v7, c6, e⟩ := zd_b e
    refine zs_callV (k := 68) (rn := { frames := 0, cells := 0, slots := 0, locals := 0 }) (As := [.int (h.2.1 75 x2.toNatClampNeg)]) (rest := [.int 7, .ref (S.1 68)]) C (zc_Mo_signCode h5 (h.2.1 75 x2.toNatClampNeg) c6) ku_Mo_signCode kw2580 kv_Mo_signCode rfl (zd_rmO (by decide) (by decide)) ⟨Nat.le_refl _, Nat.le_refl _⟩ rfl rfl rfl (Nat.le_of_ble_eq_true rfl) kd_Mo_expressionCode_63 rfl (c1 := 0) (s1 := 0) rfl rfl (fun v w hp => ?_)
    obtain ⟨rfl, rfl⟩ := hp
    refine zk_stk (r' := [.int v7, .int 7, .ref (S.1 68)]) rfl ?_
    refine zk_iconst (v := 0) C kd_Mo_expressionCode_66 (by decide) rfl ?_
    refine zk_iconst (v := 0) C kd_Mo_expressionCode_67 (by decide) rfl ?_
    obtain ⟨v9, h10, c8, e⟩ := zd_Be e
    refine zs_callV (k := 68) (rn := { frames := 0, cells := 0, slots := 0, locals := 0 }) (As := [.int 7, .int v7, .int 0, .int 0]) (rest := []) C (zc_Mo_emit h5 7 v7 0 0 c8) ku_Mo_emit kw2524 kv_Mo_emit rfl (zd_rmO (by decide) (by decide)) ⟨Nat.le_refl _, Nat.le_refl _⟩ rfl rfl rfl (Nat.le_of_ble_eq_true rfl) kd_Mo_expressionCode_68 rfl (c1 := 0) (s1 := 0) rfl rfl (fun v w hp => ?_)
    obtain ⟨rfl, rfl⟩ := hp
    refine zk_stk (r' := [.int v9]) rfl ?_
    refine zk_istore_n (lv' := [(3, _), (2, _), (0, _), (1, _)]) C kd_Mo_expressionCode_71 rfl (by decide) rfl rfl ?_
    refine zk_goto (tgt := 36) C kd_Mo_expressionCode_72 (by decide) ?_
    refine zk_lvs (lv' := [(0, .ref (S.1 68)), (1, .int x1), (2, .int (h.2.1 75 x2.toNatClampNeg))]) [2, 3, 1] rfl ?_
    exact hk36 h10 x1 (h.2.1 75 x2.toNatClampNeg) e
theorem zl_Mo_expressionCode_36 {X : zkj_T} {S : zs_T} {P : ze_T} {l : Launch} {D : va_G} {sz0 : Nat} {d : Nat} {rh : zs_H} (C : zk_C X km_Mo_expressionCode (zs_G S l D sz0) { frames := 805 + (d + 1), cells := 0, slots := 0, locals := 19314 + 26 * (d + 1) } (ze_E P)) (hR : zkj_R X (zd_PV S rh) (none)) {r_Mo_expressionCode : zs_H → Int32 → (Option zs_H)} (hr_Mo_expressionCode : ∀ (h : zs_H) (x0 : Int32) {rh : zs_H}, r_Mo_expressionCode h x0 = some rh → zk_Sp (zs_G S l D sz0) (ze_E P) km_Mo_expressionCode { frames := 805 + d, cells := 0, slots := 0, locals := 19314 + 26 * d } [.ref (S.1 68), .int x0] (zs_W S h) (zd_PV S rh)) (n : Nat) : ∀ (h : zs_H) (x1 : Int32) (x2 : Int32), f_Mo_expressionCode_L36 r_Mo_expressionCode n h x1 x2 = some rh → zk_Ab X (zs_W S h) 0 0 36 [(0, .ref (S.1 68)), (1, .int x1), (2, .int x2)] [] := by
  induction n with
  | zero => intro h x1 x2 e; exact zd_no e
  | succ n ih => intro h x1 x2 e; exact zb_Mo_expressionCode_36 (k36 := f_Mo_expressionCode_L36 r_Mo_expressionCode n) C hR hr_Mo_expressionCode ih h x1 x2 e
set_option maxHeartbeats 4000000 in
set_option maxRecDepth 100000 in
theorem zb_Mo_expressionCode_31 {X : zkj_T} {S : zs_T} {P : ze_T} {l : Launch} {D : va_G} {sz0 : Nat} {d : Nat} {rh : zs_H} (C : zk_C X km_Mo_expressionCode (zs_G S l D sz0) { frames := 805 + (d + 1), cells := 0, slots := 0, locals := 19314 + 26 * (d + 1) } (ze_E P)) (hR : zkj_R X (zd_PV S rh) (none)) {r_Mo_expressionCode : zs_H → Int32 → (Option zs_H)} (hr_Mo_expressionCode : ∀ (h : zs_H) (x0 : Int32) {rh : zs_H}, r_Mo_expressionCode h x0 = some rh → zk_Sp (zs_G S l D sz0) (ze_E P) km_Mo_expressionCode { frames := 805 + d, cells := 0, slots := 0, locals := 19314 + 26 * d } [.ref (S.1 68), .int x0] (zs_W S h) (zd_PV S rh)) {r_Mo_operandCode : zs_H → Int32 → (Option zs_H)} (hr_Mo_operandCode : ∀ (h : zs_H) (x0 : Int32) {rh : zs_H}, r_Mo_operandCode h x0 = some rh → zk_Sp (zs_G S l D sz0) (ze_E P) km_Mo_operandCode { frames := 805 + d, cells := 0, slots := 0, locals := 19314 + 26 * d } [.ref (S.1 68), .int x0] (zs_W S h) (zd_PV S rh)) (h : zs_H) (x1 : Int32) (x2 : Int32) (e : f_Mo_expressionCode_31 r_Mo_expressionCode r_Mo_operandCode h x1 x2 = some rh) : zk_Ab X (zs_W S h) 0 0 31 [(0, .ref (S.1 68)), (1, .int x1), (2, .int x2)] [] := by
  unfold f_Mo_expressionCode_31 at e
  refine zk_aload_n C kd_Mo_expressionCode_31 rfl 0 rfl rfl ?_
  refine zk_iload_n C kd_Mo_expressionCode_32 rfl 2 rfl rfl ?_
  obtain ⟨h2, c1, e⟩ := zd_b e
  refine zs_callV (k := 68) (rn := { frames := 805 + d, cells := 0, slots := 0, locals := 19314 + 26 * d }) (As := [.int x2]) (rest := []) C (hr_Mo_operandCode h x2 c1) ku_Mo_operandCode kw2584 kv_Mo_operandCode rfl (zd_rmI (by decide)) ⟨Nat.le_refl _, Nat.le_refl _⟩ rfl rfl rfl (Nat.le_of_ble_eq_true rfl) kd_Mo_expressionCode_33 rfl (c1 := 0) (s1 := 0) rfl rfl (fun v w hp => ?_)
  obtain ⟨rfl, rfl⟩ := hp
  refine zk_stk (r' := []) rfl ?_
  refine zk_lvs (lv' := [(0, .ref (S.1 68)), (1, .int x1), (2, .int x2)]) [0, 1, 2] rfl ?_
  exact zl_Mo_expressionCode_36 C hR hr_Mo_expressionCode zF h2 x1 x2 e
set_option maxHeartbeats 4000000 in
set_option maxRecDepth 100000 in
theorem zb_Mo_expressionCode_2 {X : zkj_T} {S : zs_T} {P : ze_T} {l : Launch} {D : va_G} {sz0 : Nat} {d : Nat} {rh : zs_H} (C : zk_C X km_Mo_expressionCode (zs_G S l D sz0) { frames := 805 + (d + 1), cells := 0, slots := 0, locals := 19314 + 26 * (d + 1) } (ze_E P)) (hR : zkj_R X (zd_PV S rh) (none)) {r_Mo_expressionCode : zs_H → Int32 → (Option zs_H)} (hr_Mo_expressionCode : ∀ (h : zs_H) (x0 : Int32) {rh : zs_H}, r_Mo_expressionCode h x0 = some rh → zk_Sp (zs_G S l D sz0) (ze_E P) km_Mo_expressionCode { frames := 805 + d, cells := 0, slots := 0, locals := 19314 + 26 * d } [.ref (S.1 68), .int x0] (zs_W S h) (zd_PV S rh)) {r_Mo_operandCode : zs_H → Int32 → (Option zs_H)} (hr_Mo_operandCode : ∀ (h : zs_H) (x0 : Int32) {rh : zs_H}, r_Mo_operandCode h x0 = some rh → zk_Sp (zs_G S l D sz0) (ze_E P) km_Mo_operandCode { frames := 805 + d, cells := 0, slots := 0, locals := 19314 + 26 * d } [.ref (S.1 68), .int x0] (zs_W S h) (zd_PV S rh)) {k2 : zs_H → Int32 → Int32 → (Option zs_H)} (hk2 : ∀ (h : zs_H) (x1 : Int32) (x2 : Int32), k2 h x1 x2 = some rh → zk_Ab X (zs_W S h) 0 0 2 [(0, .ref (S.1 68)), (1, .int x1), (2, .int x2)] []) (h : zs_H) (x1 : Int32) (x2 : Int32) (e : f_Mo_expressionCode_2 r_Mo_expressionCode r_Mo_operandCode k2 h x1 x2 = some rh) : zk_Ab X (zs_W S h) 0 0 2 [(0, .ref (S.1 68)), (1, .int x1), (2, .int x2)] [] := by
  unfold f_Mo_expressionCode_2 at e
  refine zk_aload_n C kd_Mo_expressionCode_2 rfl 0 rfl rfl ?_
  refine zs_get (v := .ref (S.1 72)) C 68 15 rfl rfl rfl rfl ki_Mo (by decide) kw1698 kd_Mo_expressionCode_3 rfl ?_
  refine zk_iload_n C kd_Mo_expressionCode_6 rfl 2 rfl rfl ?_
  obtain ⟨q1, e⟩ := zd_g e
  refine zs_iald C 72 rfl (zd_vp q1) kd_Mo_expressionCode_7 rfl ?_
  refine zk_bipush (v := 35) C kd_Mo_expressionCode_8 (by decide) rfl ?_
  refine zk_icmp_ne (tgt := 31) C kd_Mo_expressionCode_10 (by decide) rfl (fun b2 => ?_) (fun b2 => ?_)
  · replace e := zd_neg b2 e
    refine zk_lvs (lv' := [(0, .ref (S.1 68)), (1, .int x1), (2, .int x2)]) [0, 1, 2] rfl ?_
    exact zb_Mo_expressionCode_31 C hR hr_Mo_expressionCode hr_Mo_operandCode h x1 x2 e
  · replace e := zd_pos b2 e
    refine zk_aload_n C kd_Mo_expressionCode_13 rfl 0 rfl rfl ?_
    refine zk_iload_n C kd_Mo_expressionCode_14 rfl 2 rfl rfl ?_
    obtain ⟨v4, c3, e⟩ := zd_b e
    refine zs_callV (k := 68) (rn := { frames := 404 + 400, cells := 0, slots := 0, locals := 10091 + 23 * 400 }) (As := [.int x2]) (rest := []) C (zc_Mo_isConstant h x2 c3) ku_Mo_isConstant kw2548 kv_Mo_isConstant rfl (zd_rmO (by decide) (by decide)) ⟨Nat.le_refl _, Nat.le_refl _⟩ rfl rfl rfl (Nat.le_of_ble_eq_true rfl) kd_Mo_expressionCode_15 rfl (c1 := 0) (s1 := 0) rfl rfl (fun v w hp => ?_)
    obtain ⟨rfl, rfl, z5⟩ := hp
    refine zk_stk (r' := [.int v4]) rfl ?_
    refine zk_if_ne (tgt := 31) C kd_Mo_expressionCode_18 (by decide) rfl (fun b6 => ?_) (fun b6 => ?_)
    · replace e := zd_neg b6 e
      refine zk_lvs (lv' := [(0, .ref (S.1 68)), (1, .int x1), (2, .int x2)]) [0, 1, 2] rfl ?_
      exact zb_Mo_expressionCode_31 C hR hr_Mo_expressionCode hr_Mo_operandCode h x1 x2 e
    · replace e := zd_pos b6 e
      refine zk_aload_n C kd_Mo_expressionCode_21 rfl 0 rfl rfl ?_
      refine zs_get (v := .ref (S.1 76)) C 68 19 rfl rfl rfl rfl ki_Mo (by decide) kw1702 kd_Mo_expressionCode_22 rfl ?_
      refine zk_iload_n C kd_Mo_expressionCode_25 rfl 2 rfl rfl ?_
      refine zs_iald C 76 rfl (zd_vp q1) kd_Mo_expressionCode_26 rfl ?_
      refine zk_istore_n (lv' := [(2, _), (0, _), (1, _)]) C kd_Mo_expressionCode_27 rfl (by decide) rfl rfl ?_
      refine zk_goto (tgt := 2) C kd_Mo_expressionCode_28 (by decide) ?_
      refine zk_lvs (lv' := [(0, .ref (S.1 68)), (1, .int x1), (2, .int (h.2.1 76 x2.toNatClampNeg))]) [1, 2, 0] rfl ?_
      exact hk2 h x1 (h.2.1 76 x2.toNatClampNeg) e
theorem zl_Mo_expressionCode_2 {X : zkj_T} {S : zs_T} {P : ze_T} {l : Launch} {D : va_G} {sz0 : Nat} {d : Nat} {rh : zs_H} (C : zk_C X km_Mo_expressionCode (zs_G S l D sz0) { frames := 805 + (d + 1), cells := 0, slots := 0, locals := 19314 + 26 * (d + 1) } (ze_E P)) (hR : zkj_R X (zd_PV S rh) (none)) {r_Mo_expressionCode : zs_H → Int32 → (Option zs_H)} (hr_Mo_expressionCode : ∀ (h : zs_H) (x0 : Int32) {rh : zs_H}, r_Mo_expressionCode h x0 = some rh → zk_Sp (zs_G S l D sz0) (ze_E P) km_Mo_expressionCode { frames := 805 + d, cells := 0, slots := 0, locals := 19314 + 26 * d } [.ref (S.1 68), .int x0] (zs_W S h) (zd_PV S rh)) {r_Mo_operandCode : zs_H → Int32 → (Option zs_H)} (hr_Mo_operandCode : ∀ (h : zs_H) (x0 : Int32) {rh : zs_H}, r_Mo_operandCode h x0 = some rh → zk_Sp (zs_G S l D sz0) (ze_E P) km_Mo_operandCode { frames := 805 + d, cells := 0, slots := 0, locals := 19314 + 26 * d } [.ref (S.1 68), .int x0] (zs_W S h) (zd_PV S rh)) (n : Nat) : ∀ (h : zs_H) (x1 : Int32) (x2 : Int32), f_Mo_expressionCode_L2 r_Mo_expressionCode r_Mo_operandCode n h x1 x2 = some rh → zk_Ab X (zs_W S h) 0 0 2 [(0, .ref (S.1 68)), (1, .int x1), (2, .int x2)] [] := by
  induction n with
  | zero => intro h x1 x2 e; exact zd_no e
  | succ n ih => intro h x1 x2 e; exact zb_Mo_expressionCode_2 (k2 := f_Mo_expressionCode_L2 r_Mo_expressionCode r_Mo_operandCode n) C hR hr_Mo_expressionCode hr_Mo_operandCode ih h x1 x2 e
set_option maxHeartbeats 4000000 in
set_option maxRecDepth 100000 in
theorem zg_Mo_expressionCode {l : Launch} {D : va_G} {sz0 : Nat} {S : zs_T} {P : ze_T} {d : Nat} {r_Mo_expressionCode : zs_H → Int32 → (Option zs_H)} (hr_Mo_expressionCode : ∀ (h : zs_H) (x0 : Int32) {rh : zs_H}, r_Mo_expressionCode h x0 = some rh → zk_Sp (zs_G S l D sz0) (ze_E P) km_Mo_expressionCode { frames := 805 + d, cells := 0, slots := 0, locals := 19314 + 26 * d } [.ref (S.1 68), .int x0] (zs_W S h) (zd_PV S rh)) {r_Mo_operandCode : zs_H → Int32 → (Option zs_H)} (hr_Mo_operandCode : ∀ (h : zs_H) (x0 : Int32) {rh : zs_H}, r_Mo_operandCode h x0 = some rh → zk_Sp (zs_G S l D sz0) (ze_E P) km_Mo_operandCode { frames := 805 + d, cells := 0, slots := 0, locals := 19314 + 26 * d } [.ref (S.1 68), .int x0] (zs_W S h) (zd_PV S rh)) (h : zs_H) (x1 : Int32) {rh : zs_H} (e : g_Mo_expressionCode r_Mo_expressionCode r_Mo_operandCode h x1 = some rh) : zk_Sp (zs_G S l D sz0) (ze_E P) km_Mo_expressionCode { frames := 805 + (d + 1), cells := 0, slots := 0, locals := 19314 + 26 * (d + 1) } [.ref (S.1 68), .int x1] (zs_W S h) (zd_PV S rh) := by
  refine zk_met ku_Mo_expressionCode (Nat.le_of_ble_eq_true rfl) (ze_Em P) ?_
  intro X C hR
  refine zk_lvs (lv' := [(0, .ref (S.1 68)), (1, .int x1)]) [0, 1] rfl ?_
  unfold g_Mo_expressionCode at e
  refine zk_iload_n C kd_Mo_expressionCode_0 rfl 1 rfl rfl ?_
  refine zk_istore_n (lv' := [(2, _), (0, _), (1, _)]) C kd_Mo_expressionCode_1 rfl (by decide) rfl rfl ?_
  refine zk_lvs (lv' := [(0, .ref (S.1 68)), (1, .int x1), (2, .int x1)]) [1, 2, 0] rfl ?_
  exact zl_Mo_expressionCode_2 C hR hr_Mo_expressionCode hr_Mo_operandCode zF h x1 x1 e
set_option maxHeartbeats 4000000 in
set_option maxRecDepth 100000 in
theorem zg_Mo_operandCode {l : Launch} {D : va_G} {sz0 : Nat} {S : zs_T} {P : ze_T} {d : Nat} {r_Mo_callCode : zs_H → Int32 → (Option zs_H)} (hr_Mo_callCode : ∀ (h : zs_H) (x0 : Int32) {rh : zs_H}, r_Mo_callCode h x0 = some rh → zk_Sp (zs_G S l D sz0) (ze_E P) km_Mo_callCode { frames := 805 + d, cells := 0, slots := 0, locals := 19314 + 26 * d } [.ref (S.1 68), .int x0] (zs_W S h) (zd_PV S rh)) {r_Mo_expressionCode : zs_H → Int32 → (Option zs_H)} (hr_Mo_expressionCode : ∀ (h : zs_H) (x0 : Int32) {rh : zs_H}, r_Mo_expressionCode h x0 = some rh → zk_Sp (zs_G S l D sz0) (ze_E P) km_Mo_expressionCode { frames := 805 + d, cells := 0, slots := 0, locals := 19314 + 26 * d } [.ref (S.1 68), .int x0] (zs_W S h) (zd_PV S rh)) (h : zs_H) (x1 : Int32) {rh : zs_H} (e : g_Mo_operandCode r_Mo_callCode r_Mo_expressionCode h x1 = some rh) : zk_Sp (zs_G S l D sz0) (ze_E P) km_Mo_operandCode { frames := 805 + (d + 1), cells := 0, slots := 0, locals := 19314 + 26 * (d + 1) } [.ref (S.1 68), .int x1] (zs_W S h) (zd_PV S rh) := by
  refine zk_met ku_Mo_operandCode (Nat.le_of_ble_eq_true rfl) (ze_Em P) ?_
  intro X C hR
  refine zk_lvs (lv' := [(0, .ref (S.1 68)), (1, .int x1)]) [0, 1] rfl ?_
  unfold g_Mo_operandCode at e
  refine zk_iconst (v := 0) C kd_Mo_operandCode_0 (by decide) rfl ?_
  refine zk_istore_n (lv' := [(2, _), (0, _), (1, _)]) C kd_Mo_operandCode_1 rfl (by decide) rfl rfl ?_
  refine zk_aload_n C kd_Mo_operandCode_2 rfl 1 rfl rfl ?_
  refine zk_iload_n C kd_Mo_operandCode_3 rfl 2 rfl rfl ?_
  obtain ⟨v2, c1, e⟩ := zd_b e
  refine zs_callV (k := 68) (rn := { frames := 404 + 400, cells := 0, slots := 0, locals := 10091 + 23 * 400 }) (As := [.int x1]) (rest := []) C (zc_Mo_isConstant h x1 c1) ku_Mo_isConstant kw2548 kv_Mo_isConstant rfl (zd_rmO (by decide) (by decide)) ⟨Nat.le_refl _, Nat.le_refl _⟩ rfl rfl rfl (Nat.le_of_ble_eq_true rfl) kd_Mo_operandCode_4 rfl (c1 := 0) (s1 := 0) rfl rfl (fun v w hp => ?_)
  obtain ⟨rfl, rfl, z3⟩ := hp
  refine zk_stk (r' := [.int v2]) rfl ?_
  refine zk_if_eq (tgt := 24) C kd_Mo_operandCode_7 (by decide) rfl (fun b4 => ?_) (fun b4 => ?_)
  · replace e := zd_pos b4 e
    refine zk_aload_n C kd_Mo_operandCode_24 rfl 1 rfl rfl ?_
    refine zs_get (v := .ref (S.1 72)) C 68 15 rfl rfl rfl rfl ki_Mo (by decide) kw1698 kd_Mo_operandCode_25 rfl ?_
    refine zk_iload_n C kd_Mo_operandCode_28 rfl 2 rfl rfl ?_
    obtain ⟨q5, e⟩ := zd_g e
    refine zs_iald C 72 rfl (zd_vp q5) kd_Mo_operandCode_29 rfl ?_
    by_cases b6 : (h.2.1 72 x1.toNatClampNeg) = 6
    · replace e := zd_pos b6 e
      refine zk_lookup (tgt := 72) C kd_Mo_operandCode_30 (by decide) (by rw [b6]) (by decide) ?_
      refine zk_aload_n C kd_Mo_operandCode_72 rfl 1 rfl rfl ?_
      refine zk_iconst (v := 1) C kd_Mo_operandCode_73 (by decide) rfl ?_
      refine zk_aload_n C kd_Mo_operandCode_74 rfl 1 rfl rfl ?_
      refine zs_get (v := .ref (S.1 101)) C 68 52 rfl rfl rfl rfl ki_Mo (by decide) kw1735 kd_Mo_operandCode_75 rfl ?_
      refine zk_iload_n C kd_Mo_operandCode_78 rfl 2 rfl rfl ?_
      refine zs_iald C 101 rfl (zd_vp q5) kd_Mo_operandCode_79 rfl ?_
      refine zk_iconst (v := 0) C kd_Mo_operandCode_80 (by decide) rfl ?_
      refine zk_iconst (v := 0) C kd_Mo_operandCode_81 (by decide) rfl ?_
      obtain ⟨v8, h9, c7, e⟩ := zd_Be e
      refine zs_callV (k := 68) (rn := { frames := 0, cells := 0, slots := 0, locals := 0 }) (As := [.int 1, .int (h.2.1 101 x1.toNatClampNeg), .int 0, .int 0]) (rest := []) C (zc_Mo_emit h 1 (h.2.1 101 x1.toNatClampNeg) 0 0 c7) ku_Mo_emit kw2524 kv_Mo_emit rfl (zd_rmO (by decide) (by decide)) ⟨Nat.le_refl _, Nat.le_refl _⟩ rfl rfl rfl (Nat.le_of_ble_eq_true rfl) kd_Mo_operandCode_82 rfl (c1 := 0) (s1 := 0) rfl rfl (fun v w hp => ?_)
      obtain ⟨rfl, rfl⟩ := hp
      refine zk_stk (r' := [.int v8]) rfl ?_
      refine zk_istore_n (lv' := [(2, _), (0, _), (1, _)]) C kd_Mo_operandCode_85 rfl (by decide) rfl rfl ?_
      refine zk_goto (tgt := 173) C kd_Mo_operandCode_86 (by decide) ?_
      exact zk_vret C hR kd_Mo_operandCode_173 rfl rfl (zd_rV e)
    replace e := zd_neg b6 e
    by_cases b10 : (h.2.1 72 x1.toNatClampNeg) = 32
    · replace e := zd_pos b10 e
      refine zk_lookup (tgt := 89) C kd_Mo_operandCode_30 (by decide) (by rw [b10]) (by decide) ?_
      refine zk_aload_n C kd_Mo_operandCode_89 rfl 1 rfl rfl ?_
      refine zk_aload_n C kd_Mo_operandCode_90 rfl 1 rfl rfl ?_
      refine zs_get (v := .int (h.1 68 54)) C 68 54 rfl rfl rfl rfl ki_Mo (by decide) kw1737 kd_Mo_operandCode_91 rfl ?_
      refine zk_aload_n C kd_Mo_operandCode_94 rfl 1 rfl rfl ?_
      refine zs_get (v := .ref (S.1 74)) C 68 17 rfl rfl rfl rfl ki_Mo (by decide) kw1700 kd_Mo_operandCode_95 rfl ?_
      refine zk_iload_n C kd_Mo_operandCode_98 rfl 2 rfl rfl ?_
      refine zs_iald C 74 rfl (zd_vp q5) kd_Mo_operandCode_99 rfl ?_
      obtain ⟨v12, c11, e⟩ := zd_b e
      refine zs_callV (k := 68) (rn := { frames := 0, cells := 0, slots := 0, locals := 0 }) (As := [.int (h.1 68 54), .int (h.2.1 74 x1.toNatClampNeg)]) (rest := []) C (zc_Mo_variable h (h.1 68 54) (h.2.1 74 x1.toNatClampNeg) c11) ku_Mo_variable kw2327 kv_Mo_variable rfl (zd_rmO (by decide) (by decide)) ⟨Nat.le_refl _, Nat.le_refl _⟩ rfl rfl rfl (Nat.le_of_ble_eq_true rfl) kd_Mo_operandCode_100 rfl (c1 := 0) (s1 := 0) rfl rfl (fun v w hp => ?_)
      obtain ⟨rfl, rfl⟩ := hp
      refine zk_stk (r' := [.int v12]) rfl ?_
      refine zk_istore_n (lv' := [(3, _), (2, _), (0, _), (1, _)]) C kd_Mo_operandCode_103 rfl (by decide) rfl rfl ?_
      refine zk_aload_n C kd_Mo_operandCode_104 rfl 2 rfl rfl ?_
      refine zk_aload_n C kd_Mo_operandCode_105 rfl 2 rfl rfl ?_
      refine zs_get (v := .ref (S.1 76)) C 68 19 rfl rfl rfl rfl ki_Mo (by decide) kw1702 kd_Mo_operandCode_106 rfl ?_
      refine zk_iload_n C kd_Mo_operandCode_109 rfl 3 rfl rfl ?_
      refine zs_iald C 76 rfl (zd_vp q5) kd_Mo_operandCode_110 rfl ?_
      obtain ⟨h14, c13, e⟩ := zd_b e
      refine zs_callV (k := 68) (rn := { frames := 805 + d, cells := 0, slots := 0, locals := 19314 + 26 * d }) (As := [.int (h.2.1 76 x1.toNatClampNeg)]) (rest := []) C (hr_Mo_expressionCode h (h.2.1 76 x1.toNatClampNeg) c13) ku_Mo_expressionCode kw2544 kv_Mo_expressionCode rfl (zd_rmI (by decide)) ⟨Nat.le_refl _, Nat.le_refl _⟩ rfl rfl rfl (Nat.le_of_ble_eq_true rfl) kd_Mo_operandCode_111 rfl (c1 := 0) (s1 := 0) rfl rfl (fun v w hp => ?_)
      obtain ⟨rfl, rfl⟩ := hp
      refine zk_stk (r' := []) rfl ?_
      refine zk_aload_n C kd_Mo_operandCode_114 rfl 2 rfl rfl ?_
      refine zk_iconst (v := 3) C kd_Mo_operandCode_115 (by decide) rfl ?_
      refine zk_aload_n C kd_Mo_operandCode_116 rfl 2 rfl rfl ?_
      refine zs_get (v := .ref (S.1 101)) C 68 52 rfl rfl rfl rfl ki_Mo (by decide) kw1735 kd_Mo_operandCode_117 rfl ?_
      refine zk_iload_n C kd_Mo_operandCode_120 rfl 3 rfl rfl ?_
      obtain ⟨q15, e⟩ := zd_g e
      refine zs_iald C 101 rfl (zd_vp q15) kd_Mo_operandCode_121 rfl ?_
      refine zk_aload_n C kd_Mo_operandCode_122 rfl 2 rfl rfl ?_
      refine zs_get (v := .ref (S.1 97)) C 68 48 rfl rfl rfl rfl ki_Mo (by decide) kw1731 kd_Mo_operandCode_123 rfl ?_
      refine zk_iload_n C kd_Mo_operandCode_126 rfl 0 rfl rfl ?_
      obtain ⟨q16, e⟩ := zd_g e
      refine zs_iald C 97 rfl (zd_vp q16) kd_Mo_operandCode_127 rfl ?_
      refine zk_aload_n C kd_Mo_operandCode_128 rfl 2 rfl rfl ?_
      refine zs_get (v := .ref (S.1 98)) C 68 49 rfl rfl rfl rfl ki_Mo (by decide) kw1732 kd_Mo_operandCode_129 rfl ?_
      refine zk_iload_n C kd_Mo_operandCode_132 rfl 0 rfl rfl ?_
      refine zs_iald C 98 rfl (zd_vp q16) kd_Mo_operandCode_133 rfl ?_
      obtain ⟨v18, h19, c17, e⟩ := zd_Be e
      refine zs_callV (k := 68) (rn := { frames := 0, cells := 0, slots := 0, locals := 0 }) (As := [.int 3, .int (h14.2.1 101 x1.toNatClampNeg), .int (h14.2.1 97 v12.toNatClampNeg), .int (h14.2.1 98 v12.toNatClampNeg)]) (rest := []) C (zc_Mo_emit h14 3 (h14.2.1 101 x1.toNatClampNeg) (h14.2.1 97 v12.toNatClampNeg) (h14.2.1 98 v12.toNatClampNeg) c17) ku_Mo_emit kw2524 kv_Mo_emit rfl (zd_rmO (by decide) (by decide)) ⟨Nat.le_refl _, Nat.le_refl _⟩ rfl rfl rfl (Nat.le_of_ble_eq_true rfl) kd_Mo_operandCode_134 rfl (c1 := 0) (s1 := 0) rfl rfl (fun v w hp => ?_)
      obtain ⟨rfl, rfl⟩ := hp
      refine zk_stk (r' := [.int v18]) rfl ?_
      refine zk_istore_n (lv' := [(2, _), (3, _), (0, _), (1, _)]) C kd_Mo_operandCode_137 rfl (by decide) rfl rfl ?_
      refine zk_goto (tgt := 173) C kd_Mo_operandCode_138 (by decide) ?_
      exact zk_vret C hR kd_Mo_operandCode_173 rfl rfl (zd_rV e)
    replace e := zd_neg b10 e
    by_cases b20 : (h.2.1 72 x1.toNatClampNeg) = 33
    · replace e := zd_pos b20 e
      refine zk_lookup (tgt := 72) C kd_Mo_operandCode_30 (by decide) (by rw [b20]) (by decide) ?_
      refine zk_aload_n C kd_Mo_operandCode_72 rfl 1 rfl rfl ?_
      refine zk_iconst (v := 1) C kd_Mo_operandCode_73 (by decide) rfl ?_
      refine zk_aload_n C kd_Mo_operandCode_74 rfl 1 rfl rfl ?_
      refine zs_get (v := .ref (S.1 101)) C 68 52 rfl rfl rfl rfl ki_Mo (by decide) kw1735 kd_Mo_operandCode_75 rfl ?_
      refine zk_iload_n C kd_Mo_operandCode_78 rfl 2 rfl rfl ?_
      refine zs_iald C 101 rfl (zd_vp q5) kd_Mo_operandCode_79 rfl ?_
      refine zk_iconst (v := 0) C kd_Mo_operandCode_80 (by decide) rfl ?_
      refine zk_iconst (v := 0) C kd_Mo_operandCode_81 (by decide) rfl ?_
      obtain ⟨v22, h23, c21, e⟩ := zd_Be e
      refine zs_callV (k := 68) (rn := { frames := 0, cells := 0, slots := 0, locals := 0 }) (As := [.int 1, .int (h.2.1 101 x1.toNatClampNeg), .int 0, .int 0]) (rest := []) C (zc_Mo_emit h 1 (h.2.1 101 x1.toNatClampNeg) 0 0 c21) ku_Mo_emit kw2524 kv_Mo_emit rfl (zd_rmO (by decide) (by decide)) ⟨Nat.le_refl _, Nat.le_refl _⟩ rfl rfl rfl (Nat.le_of_ble_eq_true rfl) kd_Mo_operandCode_82 rfl (c1 := 0) (s1 := 0) rfl rfl (fun v w hp => ?_)
      obtain ⟨rfl, rfl⟩ := hp
      refine zk_stk (r' := [.int v22]) rfl ?_
      refine zk_istore_n (lv' := [(2, _), (0, _), (1, _)]) C kd_Mo_operandCode_85 rfl (by decide) rfl rfl ?_
      refine zk_goto (tgt := 173) C kd_Mo_operandCode_86 (by decide) ?_
      exact zk_vret C hR kd_Mo_operandCode_173 rfl rfl (zd_rV e)
    replace e := zd_neg b20 e
    by_cases b24 : (h.2.1 72 x1.toNatClampNeg) = 36
    · replace e := zd_pos b24 e
      refine zk_lookup (tgt := 141) C kd_Mo_operandCode_30 (by decide) (by rw [b24]) (by decide) ?_
      refine zk_aload_n C kd_Mo_operandCode_141 rfl 1 rfl rfl ?_
      refine zk_aload_n C kd_Mo_operandCode_142 rfl 1 rfl rfl ?_
      refine zs_get (v := .ref (S.1 76)) C 68 19 rfl rfl rfl rfl ki_Mo (by decide) kw1702 kd_Mo_operandCode_143 rfl ?_
      refine zk_iload_n C kd_Mo_operandCode_146 rfl 2 rfl rfl ?_
      refine zs_iald C 76 rfl (zd_vp q5) kd_Mo_operandCode_147 rfl ?_
      obtain ⟨h26, c25, e⟩ := zd_b e
      refine zs_callV (k := 68) (rn := { frames := 805 + d, cells := 0, slots := 0, locals := 19314 + 26 * d }) (As := [.int (h.2.1 76 x1.toNatClampNeg)]) (rest := []) C (hr_Mo_expressionCode h (h.2.1 76 x1.toNatClampNeg) c25) ku_Mo_expressionCode kw2544 kv_Mo_expressionCode rfl (zd_rmI (by decide)) ⟨Nat.le_refl _, Nat.le_refl _⟩ rfl rfl rfl (Nat.le_of_ble_eq_true rfl) kd_Mo_operandCode_148 rfl (c1 := 0) (s1 := 0) rfl rfl (fun v w hp => ?_)
      obtain ⟨rfl, rfl⟩ := hp
      refine zk_stk (r' := []) rfl ?_
      refine zk_aload_n C kd_Mo_operandCode_151 rfl 1 rfl rfl ?_
      refine zk_bipush (v := 8) C kd_Mo_operandCode_152 (by decide) rfl ?_
      refine zk_aload_n C kd_Mo_operandCode_154 rfl 1 rfl rfl ?_
      refine zk_iload_n C kd_Mo_operandCode_155 rfl 2 rfl rfl ?_
      obtain ⟨v28, c27, e⟩ := zd_b e
      refine zs_callV (k := 68) (rn := { frames := 0, cells := 0, slots := 0, locals := 0 }) (As := [.int x1]) (rest := [.int 8, .ref (S.1 68)]) C (zc_Mo_oneCode h26 x1 c27) ku_Mo_oneCode kw2560 kv_Mo_oneCode rfl (zd_rmO (by decide) (by decide)) ⟨Nat.le_refl _, Nat.le_refl _⟩ rfl rfl rfl (Nat.le_of_ble_eq_true rfl) kd_Mo_operandCode_156 rfl (c1 := 0) (s1 := 0) rfl rfl (fun v w hp => ?_)
      obtain ⟨rfl, rfl⟩ := hp
      refine zk_stk (r' := [.int v28, .int 8, .ref (S.1 68)]) rfl ?_
      refine zk_iconst (v := 0) C kd_Mo_operandCode_159 (by decide) rfl ?_
      refine zk_iconst (v := 0) C kd_Mo_operandCode_160 (by decide) rfl ?_
      obtain ⟨v30, h31, c29, e⟩ := zd_Be e
      refine zs_callV (k := 68) (rn := { frames := 0, cells := 0, slots := 0, locals := 0 }) (As := [.int 8, .int v28, .int 0, .int 0]) (rest := []) C (zc_Mo_emit h26 8 v28 0 0 c29) ku_Mo_emit kw2524 kv_Mo_emit rfl (zd_rmO (by decide) (by decide)) ⟨Nat.le_refl _, Nat.le_refl _⟩ rfl rfl rfl (Nat.le_of_ble_eq_true rfl) kd_Mo_operandCode_161 rfl (c1 := 0) (s1 := 0) rfl rfl (fun v w hp => ?_)
      obtain ⟨rfl, rfl⟩ := hp
      refine zk_stk (r' := [.int v30]) rfl ?_
      refine zk_istore_n (lv' := [(2, _), (0, _), (1, _)]) C kd_Mo_operandCode_164 rfl (by decide) rfl rfl ?_
      refine zk_goto (tgt := 173) C kd_Mo_operandCode_165 (by decide) ?_
      exact zk_vret C hR kd_Mo_operandCode_173 rfl rfl (zd_rV e)
    replace e := zd_neg b24 e
    refine zk_lookup (tgt := 168) C kd_Mo_operandCode_30 (by decide) (zd_lk (by show _ ∉ ([6, 32, 33, 36] : List Int); have n0 := lv_neT b6 (a := 6) (by decide); have n1 := lv_neT b10 (a := 32) (by decide); have n2 := lv_neT b20 (a := 33) (by decide); have n3 := lv_neT b24 (a := 36) (by decide); simp only [List.mem_cons, List.not_mem_nil, or_false, not_or]; exact ⟨n0, n1, n2, n3⟩)) (by decide) ?_
    refine zk_aload_n C kd_Mo_operandCode_168 rfl 1 rfl rfl ?_
    refine zk_iload_n C kd_Mo_operandCode_169 rfl 2 rfl rfl ?_
    obtain ⟨h33, c32, e⟩ := zd_b e
    refine zs_callV (k := 68) (rn := { frames := 805 + d, cells := 0, slots := 0, locals := 19314 + 26 * d }) (As := [.int x1]) (rest := []) C (hr_Mo_callCode h x1 c32) ku_Mo_callCode kw2588 kv_Mo_callCode rfl (zd_rmI (by decide)) ⟨Nat.le_refl _, Nat.le_refl _⟩ rfl rfl rfl (Nat.le_of_ble_eq_true rfl) kd_Mo_operandCode_170 rfl (c1 := 0) (s1 := 0) rfl rfl (fun v w hp => ?_)
    obtain ⟨rfl, rfl⟩ := hp
    refine zk_stk (r' := []) rfl ?_
    exact zk_vret C hR kd_Mo_operandCode_173 rfl rfl (zd_rV e)
  · replace e := zd_neg b4 e
    refine zk_aload_n C kd_Mo_operandCode_10 rfl 1 rfl rfl ?_
    refine zk_iconst (v := 0) C kd_Mo_operandCode_11 (by decide) rfl ?_
    refine zk_aload_n C kd_Mo_operandCode_12 rfl 1 rfl rfl ?_
    refine zk_iload_n C kd_Mo_operandCode_13 rfl 2 rfl rfl ?_
    obtain ⟨v35, c34, e⟩ := zd_b e
    refine zs_callV (k := 68) (rn := { frames := 3 + 400, cells := 0, slots := 0, locals := 68 + 25 * 400 }) (As := [.int x1]) (rest := [.int 0, .ref (S.1 68)]) C (zc_Mo_valueOf h x1 c34) ku_Mo_valueOf kw2552 kv_Mo_valueOf rfl (zd_rmO (by decide) (by decide)) ⟨Nat.le_refl _, Nat.le_refl _⟩ rfl rfl rfl (Nat.le_of_ble_eq_true rfl) kd_Mo_operandCode_14 rfl (c1 := 0) (s1 := 0) rfl rfl (fun v w hp => ?_)
    obtain ⟨rfl, rfl⟩ := hp
    refine zk_stk (r' := [.int v35, .int 0, .ref (S.1 68)]) rfl ?_
    refine zk_iconst (v := 0) C kd_Mo_operandCode_17 (by decide) rfl ?_
    refine zk_iconst (v := 0) C kd_Mo_operandCode_18 (by decide) rfl ?_
    obtain ⟨v37, h38, c36, e⟩ := zd_Be e
    refine zs_callV (k := 68) (rn := { frames := 0, cells := 0, slots := 0, locals := 0 }) (As := [.int 0, .int v35, .int 0, .int 0]) (rest := []) C (zc_Mo_emit h 0 v35 0 0 c36) ku_Mo_emit kw2524 kv_Mo_emit rfl (zd_rmO (by decide) (by decide)) ⟨Nat.le_refl _, Nat.le_refl _⟩ rfl rfl rfl (Nat.le_of_ble_eq_true rfl) kd_Mo_operandCode_19 rfl (c1 := 0) (s1 := 0) rfl rfl (fun v w hp => ?_)
    obtain ⟨rfl, rfl⟩ := hp
    refine zk_stk (r' := [.int v37]) rfl ?_
    refine zk_istore_n (lv' := [(2, _), (0, _), (1, _)]) C kd_Mo_operandCode_22 rfl (by decide) rfl rfl ?_
    exact zk_vret C hR kd_Mo_operandCode_23 rfl rfl (zd_rV e)
theorem zs_Mo_callCode {l : Launch} {D : va_G} {sz0 : Nat} {S : zs_T} {P : ze_T} (d : Nat) : (∀ (h : zs_H) (x0 : Int32) {rh : zs_H}, f_Mo_callCode d h x0 = some rh → zk_Sp (zs_G S l D sz0) (ze_E P) km_Mo_callCode { frames := 805 + d, cells := 0, slots := 0, locals := 19314 + 26 * d } [.ref (S.1 68), .int x0] (zs_W S h) (zd_PV S rh)) ∧ (∀ (h : zs_H) (x0 : Int32) {rh : zs_H}, f_Mo_expressionCode d h x0 = some rh → zk_Sp (zs_G S l D sz0) (ze_E P) km_Mo_expressionCode { frames := 805 + d, cells := 0, slots := 0, locals := 19314 + 26 * d } [.ref (S.1 68), .int x0] (zs_W S h) (zd_PV S rh)) ∧ (∀ (h : zs_H) (x0 : Int32) {rh : zs_H}, f_Mo_operandCode d h x0 = some rh → zk_Sp (zs_G S l D sz0) (ze_E P) km_Mo_operandCode { frames := 805 + d, cells := 0, slots := 0, locals := 19314 + 26 * d } [.ref (S.1 68), .int x0] (zs_W S h) (zd_PV S rh)) := by
  induction d with
  | zero => exact ⟨(fun h x0 _ e => zd_no e), (fun h x0 _ e => zd_no e), (fun h x0 _ e => zd_no e)⟩
  | succ d ih =>
    obtain ⟨q0, q1, q2⟩ := ih
    exact ⟨(fun h x0 _ e => zg_Mo_callCode (r_Mo_expressionCode := f_Mo_expressionCode d) q1 h x0 e), (fun h x0 _ e => zg_Mo_expressionCode (r_Mo_expressionCode := f_Mo_expressionCode d) q1 (r_Mo_operandCode := f_Mo_operandCode d) q2 h x0 e), (fun h x0 _ e => zg_Mo_operandCode (r_Mo_callCode := f_Mo_callCode d) q0 (r_Mo_expressionCode := f_Mo_expressionCode d) q1 h x0 e)⟩
theorem zc_Mo_callCode {l : Launch} {D : va_G} {sz0 : Nat} {S : zs_T} {P : ze_T} (h : zs_H) (x0 : Int32) {rh : zs_H} (e : f_Mo_callCode 600 h x0 = some rh) : zk_Sp (zs_G S l D sz0) (ze_E P) km_Mo_callCode { frames := 805 + 600, cells := 0, slots := 0, locals := 19314 + 26 * 600 } [.ref (S.1 68), .int x0] (zs_W S h) (zd_PV S rh) := (zs_Mo_callCode 600).1 h x0 e
theorem zc_Mo_expressionCode {l : Launch} {D : va_G} {sz0 : Nat} {S : zs_T} {P : ze_T} (h : zs_H) (x0 : Int32) {rh : zs_H} (e : f_Mo_expressionCode 600 h x0 = some rh) : zk_Sp (zs_G S l D sz0) (ze_E P) km_Mo_expressionCode { frames := 805 + 600, cells := 0, slots := 0, locals := 19314 + 26 * 600 } [.ref (S.1 68), .int x0] (zs_W S h) (zd_PV S rh) := (zs_Mo_callCode 600).2.1 h x0 e
theorem zc_Mo_operandCode {l : Launch} {D : va_G} {sz0 : Nat} {S : zs_T} {P : ze_T} (h : zs_H) (x0 : Int32) {rh : zs_H} (e : f_Mo_operandCode 600 h x0 = some rh) : zk_Sp (zs_G S l D sz0) (ze_E P) km_Mo_operandCode { frames := 805 + 600, cells := 0, slots := 0, locals := 19314 + 26 * 600 } [.ref (S.1 68), .int x0] (zs_W S h) (zd_PV S rh) := (zs_Mo_callCode 600).2.2 h x0 e
set_option maxHeartbeats 4000000 in
set_option maxRecDepth 100000 in
theorem zb_Mo_rangesCode_171 {X : zkj_T} {S : zs_T} {P : ze_T} {l : Launch} {D : va_G} {sz0 : Nat} {rh : zs_H} (C : zk_C X km_Mo_rangesCode (zs_G S l D sz0) { frames := 1, cells := 0, slots := 0, locals := 24 } (ze_E P)) (hR : zkj_R X (zd_PV S rh) (none)) {k13 : zs_H → Int32 → Int32 → Int32 → (Option zs_H)} (hk13 : ∀ (h : zs_H) (x2 : Int32) (x3 : Int32) (x5 : Int32), k13 h x2 x3 x5 = some rh → zk_Ab X (zs_W S h) 0 0 13 [(0, .ref (S.1 68)), (2, .int x2), (3, .int x3), (5, .int x5)] []) (h : zs_H) (x2 : Int32) (x3 : Int32) (x5 : Int32) (e : f_Mo_rangesCode_171 k13 h x2 x3 x5 = some rh) : zk_Ab X (zs_W S h) 0 0 171 [(0, .ref (S.1 68)), (2, .int x2), (3, .int x3), (5, .int x5)] [] := by
  unfold f_Mo_rangesCode_171 at e
  refine zk_iinc (v := (x3 + 1)) (lv' := [(3, _), (0, _), (2, _), (5, _)]) C kd_Mo_rangesCode_171 2 rfl rfl (by decide) rfl rfl ?_
  refine zk_aload_n C kd_Mo_rangesCode_174 rfl 1 rfl rfl ?_
  refine zs_get (v := .ref (S.1 78)) C 68 21 rfl rfl rfl rfl ki_Mo (by decide) kw1704 kd_Mo_rangesCode_175 rfl ?_
  refine zk_iload C kd_Mo_rangesCode_178 3 rfl rfl ?_
  obtain ⟨q1, e⟩ := zd_g e
  refine zs_iald C 78 rfl (zd_vp q1) kd_Mo_rangesCode_180 rfl ?_
  refine zk_istore (lv' := [(5, _), (3, _), (0, _), (2, _)]) C kd_Mo_rangesCode_181 (by decide) rfl rfl ?_
  refine zk_goto (tgt := 13) C kd_Mo_rangesCode_183 (by decide) ?_
  refine zk_lvs (lv' := [(0, .ref (S.1 68)), (2, .int x2), (3, .int (x3 + 1)), (5, .int (h.2.1 78 x5.toNatClampNeg))]) [2, 3, 1, 0] rfl ?_
  exact hk13 h x2 (x3 + 1) (h.2.1 78 x5.toNatClampNeg) e
set_option maxHeartbeats 4000000 in
set_option maxRecDepth 100000 in
theorem zb_Mo_rangesCode_155 {X : zkj_T} {S : zs_T} {P : ze_T} {l : Launch} {D : va_G} {sz0 : Nat} {rh : zs_H} (C : zk_C X km_Mo_rangesCode (zs_G S l D sz0) { frames := 1, cells := 0, slots := 0, locals := 24 } (ze_E P)) (hR : zkj_R X (zd_PV S rh) (none)) {k13 : zs_H → Int32 → Int32 → Int32 → (Option zs_H)} (hk13 : ∀ (h : zs_H) (x2 : Int32) (x3 : Int32) (x5 : Int32), k13 h x2 x3 x5 = some rh → zk_Ab X (zs_W S h) 0 0 13 [(0, .ref (S.1 68)), (2, .int x2), (3, .int x3), (5, .int x5)] []) (h : zs_H) (x2 : Int32) (x3 : Int32) (x5 : Int32) (e : f_Mo_rangesCode_155 k13 h x2 x3 x5 = some rh) : zk_Ab X (zs_W S h) 0 0 155 [(0, .ref (S.1 68)), (2, .int x2), (3, .int x3), (5, .int x5)] [] := by
  unfold f_Mo_rangesCode_155 at e
  refine zk_iload_n C kd_Mo_rangesCode_155 rfl 2 rfl rfl ?_
  refine zk_if_le (tgt := 171) C kd_Mo_rangesCode_156 (by decide) rfl (fun b1 => ?_) (fun b1 => ?_)
  · replace e := zd_pos b1 e
    refine zk_lvs (lv' := [(0, .ref (S.1 68)), (2, .int x2), (3, .int x3), (5, .int x5)]) [0, 1, 2, 3] rfl ?_
    exact zb_Mo_rangesCode_171 C hR hk13 h x2 x3 x5 e
  · replace e := zd_neg b1 e
    refine zk_aload_n C kd_Mo_rangesCode_159 rfl 0 rfl rfl ?_
    refine zk_bipush (v := 7) C kd_Mo_rangesCode_160 (by decide) rfl ?_
    refine zk_bipush (v := 11) C kd_Mo_rangesCode_162 (by decide) rfl ?_
    refine zk_iconst (v := 0) C kd_Mo_rangesCode_164 (by decide) rfl ?_
    refine zk_iconst (v := 0) C kd_Mo_rangesCode_165 (by decide) rfl ?_
    obtain ⟨v3, h4, c2, e⟩ := zd_Be e
    refine zs_callV (k := 68) (rn := { frames := 0, cells := 0, slots := 0, locals := 0 }) (As := [.int 7, .int 11, .int 0, .int 0]) (rest := []) C (zc_Mo_emit h 7 11 0 0 c2) ku_Mo_emit kw2524 kv_Mo_emit rfl ⟨by decide, by decide⟩ ⟨by decide, by decide⟩ rfl rfl rfl (Nat.le_of_ble_eq_true rfl) kd_Mo_rangesCode_166 rfl (c1 := 0) (s1 := 0) rfl rfl (fun v w hp => ?_)
    obtain ⟨rfl, rfl⟩ := hp
    refine zk_stk (r' := [.int v3]) rfl ?_
    refine zk_istore (lv' := [(4, _), (0, _), (2, _), (3, _), (5, _)]) C kd_Mo_rangesCode_169 (by decide) rfl rfl ?_
    refine zk_lvs (lv' := [(0, .ref (S.1 68)), (2, .int x2), (3, .int x3), (5, .int x5)]) [1, 2, 3, 4] rfl ?_
    exact zb_Mo_rangesCode_171 C hR hk13 h4 x2 x3 x5 e
set_option maxHeartbeats 4000000 in
set_option maxRecDepth 100000 in
theorem zb_Mo_rangesCode_13 {X : zkj_T} {S : zs_T} {P : ze_T} {l : Launch} {D : va_G} {sz0 : Nat} {rh : zs_H} (C : zk_C X km_Mo_rangesCode (zs_G S l D sz0) { frames := 1, cells := 0, slots := 0, locals := 24 } (ze_E P)) (hR : zkj_R X (zd_PV S rh) (none)) {k13 : zs_H → Int32 → Int32 → Int32 → (Option zs_H)} (hk13 : ∀ (h : zs_H) (x2 : Int32) (x3 : Int32) (x5 : Int32), k13 h x2 x3 x5 = some rh → zk_Ab X (zs_W S h) 0 0 13 [(0, .ref (S.1 68)), (2, .int x2), (3, .int x3), (5, .int x5)] []) (h : zs_H) (x2 : Int32) (x3 : Int32) (x5 : Int32) (e : f_Mo_rangesCode_13 k13 h x2 x3 x5 = some rh) : zk_Ab X (zs_W S h) 0 0 13 [(0, .ref (S.1 68)), (2, .int x2), (3, .int x3), (5, .int x5)] [] := by
  unfold f_Mo_rangesCode_13 at e
  refine zk_aload_n C kd_Mo_rangesCode_13 rfl 0 rfl rfl ?_
  refine zs_get (v := .ref (S.1 72)) C 68 15 rfl rfl rfl rfl ki_Mo (by decide) kw1698 kd_Mo_rangesCode_14 rfl ?_
  refine zk_iload C kd_Mo_rangesCode_17 3 rfl rfl ?_
  obtain ⟨q1, e⟩ := zd_g e
  refine zs_iald C 72 rfl (zd_vp q1) kd_Mo_rangesCode_19 rfl ?_
  refine zk_bipush (v := 18) C kd_Mo_rangesCode_20 (by decide) rfl ?_
  refine zk_icmp_ne (tgt := 186) C kd_Mo_rangesCode_22 (by decide) rfl (fun b2 => ?_) (fun b2 => ?_)
  · replace e := zd_neg b2 e
    exact zk_vret C hR kd_Mo_rangesCode_186 rfl rfl (zd_rV e)
  · replace e := zd_pos b2 e
    refine zk_aload_n C kd_Mo_rangesCode_25 rfl 0 rfl rfl ?_
    refine zk_iconst (v := 1) C kd_Mo_rangesCode_26 (by decide) rfl ?_
    refine zk_iload_n C kd_Mo_rangesCode_27 rfl 1 rfl rfl ?_
    refine zk_iconst (v := 0) C kd_Mo_rangesCode_28 (by decide) rfl ?_
    refine zk_iconst (v := 0) C kd_Mo_rangesCode_29 (by decide) rfl ?_
    obtain ⟨v4, h5, c3, e⟩ := zd_Be e
    refine zs_callV (k := 68) (rn := { frames := 0, cells := 0, slots := 0, locals := 0 }) (As := [.int 1, .int x2, .int 0, .int 0]) (rest := []) C (zc_Mo_emit h 1 x2 0 0 c3) ku_Mo_emit kw2524 kv_Mo_emit rfl ⟨by decide, by decide⟩ ⟨by decide, by decide⟩ rfl rfl rfl (Nat.le_of_ble_eq_true rfl) kd_Mo_rangesCode_30 rfl (c1 := 0) (s1 := 0) rfl rfl (fun v w hp => ?_)
    obtain ⟨rfl, rfl⟩ := hp
    refine zk_stk (r' := [.int v4]) rfl ?_
    refine zk_istore (lv' := [(4, _), (0, _), (2, _), (3, _), (5, _)]) C kd_Mo_rangesCode_33 (by decide) rfl rfl ?_
    refine zk_aload_n C kd_Mo_rangesCode_35 rfl 1 rfl rfl ?_
    refine zk_iconst (v := 0) C kd_Mo_rangesCode_36 (by decide) rfl ?_
    refine zk_aload_n C kd_Mo_rangesCode_37 rfl 1 rfl rfl ?_
    refine zs_get (v := .ref (S.1 74)) C 68 17 rfl rfl rfl rfl ki_Mo (by decide) kw1700 kd_Mo_rangesCode_38 rfl ?_
    refine zk_aload_n C kd_Mo_rangesCode_41 rfl 1 rfl rfl ?_
    refine zs_get (v := .ref (S.1 76)) C 68 19 rfl rfl rfl rfl ki_Mo (by decide) kw1702 kd_Mo_rangesCode_42 rfl ?_
    refine zk_iload C kd_Mo_rangesCode_45 4 rfl rfl ?_
    obtain ⟨q6, e⟩ := zd_g e
    refine zs_iald C 76 rfl (zd_vp q6) kd_Mo_rangesCode_47 rfl ?_
    obtain ⟨q7, e⟩ := zd_g e
    refine zs_iald C 74 rfl (zd_vp q7) kd_Mo_rangesCode_48 rfl ?_
    refine zk_iconst (v := 0) C kd_Mo_rangesCode_49 (by decide) rfl ?_
    refine zk_iconst (v := 0) C kd_Mo_rangesCode_50 (by decide) rfl ?_
    obtain ⟨v9, h10, c8, e⟩ := zd_Be e
    refine zs_callV (k := 68) (rn := { frames := 0, cells := 0, slots := 0, locals := 0 }) (As := [.int 0, .int (h5.2.1 74 (h5.2.1 76 x5.toNatClampNeg).toNatClampNeg), .int 0, .int 0]) (rest := []) C (zc_Mo_emit h5 0 (h5.2.1 74 (h5.2.1 76 x5.toNatClampNeg).toNatClampNeg) 0 0 c8) ku_Mo_emit kw2524 kv_Mo_emit rfl ⟨by decide, by decide⟩ ⟨by decide, by decide⟩ rfl rfl rfl (Nat.le_of_ble_eq_true rfl) kd_Mo_rangesCode_51 rfl (c1 := 0) (s1 := 0) rfl rfl (fun v w hp => ?_)
    obtain ⟨rfl, rfl⟩ := hp
    refine zk_stk (r' := [.int v9]) rfl ?_
    refine zk_istore (lv' := [(4, _), (0, _), (2, _), (3, _), (5, _)]) C kd_Mo_rangesCode_54 (by decide) rfl rfl ?_
    refine zk_aload_n C kd_Mo_rangesCode_56 rfl 1 rfl rfl ?_
    refine zs_get (v := .ref (S.1 76)) C 68 19 rfl rfl rfl rfl ki_Mo (by decide) kw1702 kd_Mo_rangesCode_57 rfl ?_
    refine zk_iload C kd_Mo_rangesCode_60 4 rfl rfl ?_
    obtain ⟨q11, e⟩ := zd_g e
    refine zs_iald C 76 rfl (zd_vp q11) kd_Mo_rangesCode_62 rfl ?_
    refine zk_aload_n C kd_Mo_rangesCode_63 rfl 1 rfl rfl ?_
    refine zs_get (v := .ref (S.1 77)) C 68 20 rfl rfl rfl rfl ki_Mo (by decide) kw1703 kd_Mo_rangesCode_64 rfl ?_
    refine zk_iload C kd_Mo_rangesCode_67 4 rfl rfl ?_
    refine zs_iald C 77 rfl (zd_vp q11) kd_Mo_rangesCode_69 rfl ?_
    refine zk_icmp_ne (tgt := 88) C kd_Mo_rangesCode_70 (by decide) rfl (fun b12 => ?_) (fun b12 => ?_)
    · replace e := zd_neg b12 e
      refine zk_aload_n C kd_Mo_rangesCode_88 rfl 1 rfl rfl ?_
      refine zk_bipush (v := 7) C kd_Mo_rangesCode_89 (by decide) rfl ?_
      refine zk_bipush (v := 18) C kd_Mo_rangesCode_91 (by decide) rfl ?_
      refine zk_iconst (v := 0) C kd_Mo_rangesCode_93 (by decide) rfl ?_
      refine zk_iconst (v := 0) C kd_Mo_rangesCode_94 (by decide) rfl ?_
      obtain ⟨v14, h15, c13, e⟩ := zd_Be e
      refine zs_callV (k := 68) (rn := { frames := 0, cells := 0, slots := 0, locals := 0 }) (As := [.int 7, .int 18, .int 0, .int 0]) (rest := []) C (zc_Mo_emit h10 7 18 0 0 c13) ku_Mo_emit kw2524 kv_Mo_emit rfl ⟨by decide, by decide⟩ ⟨by decide, by decide⟩ rfl rfl rfl (Nat.le_of_ble_eq_true rfl) kd_Mo_rangesCode_95 rfl (c1 := 0) (s1 := 0) rfl rfl (fun v w hp => ?_)
      obtain ⟨rfl, rfl⟩ := hp
      refine zk_stk (r' := [.int v14]) rfl ?_
      refine zk_istore (lv' := [(4, _), (0, _), (2, _), (3, _), (5, _)]) C kd_Mo_rangesCode_98 (by decide) rfl rfl ?_
      refine zk_aload_n C kd_Mo_rangesCode_100 rfl 1 rfl rfl ?_
      refine zk_iconst (v := 1) C kd_Mo_rangesCode_101 (by decide) rfl ?_
      refine zk_iload_n C kd_Mo_rangesCode_102 rfl 2 rfl rfl ?_
      refine zk_iconst (v := 0) C kd_Mo_rangesCode_103 (by decide) rfl ?_
      refine zk_iconst (v := 0) C kd_Mo_rangesCode_104 (by decide) rfl ?_
      obtain ⟨v17, h18, c16, e⟩ := zd_Be e
      refine zs_callV (k := 68) (rn := { frames := 0, cells := 0, slots := 0, locals := 0 }) (As := [.int 1, .int x2, .int 0, .int 0]) (rest := []) C (zc_Mo_emit h15 1 x2 0 0 c16) ku_Mo_emit kw2524 kv_Mo_emit rfl ⟨by decide, by decide⟩ ⟨by decide, by decide⟩ rfl rfl rfl (Nat.le_of_ble_eq_true rfl) kd_Mo_rangesCode_105 rfl (c1 := 0) (s1 := 0) rfl rfl (fun v w hp => ?_)
      obtain ⟨rfl, rfl⟩ := hp
      refine zk_stk (r' := [.int v17]) rfl ?_
      refine zk_istore (lv' := [(4, _), (0, _), (2, _), (3, _), (5, _)]) C kd_Mo_rangesCode_108 (by decide) rfl rfl ?_
      refine zk_aload_n C kd_Mo_rangesCode_110 rfl 1 rfl rfl ?_
      refine zk_iconst (v := 0) C kd_Mo_rangesCode_111 (by decide) rfl ?_
      refine zk_aload_n C kd_Mo_rangesCode_112 rfl 1 rfl rfl ?_
      refine zs_get (v := .ref (S.1 74)) C 68 17 rfl rfl rfl rfl ki_Mo (by decide) kw1700 kd_Mo_rangesCode_113 rfl ?_
      refine zk_aload_n C kd_Mo_rangesCode_116 rfl 1 rfl rfl ?_
      refine zs_get (v := .ref (S.1 77)) C 68 20 rfl rfl rfl rfl ki_Mo (by decide) kw1703 kd_Mo_rangesCode_117 rfl ?_
      refine zk_iload C kd_Mo_rangesCode_120 4 rfl rfl ?_
      obtain ⟨q19, e⟩ := zd_g e
      refine zs_iald C 77 rfl (zd_vp q19) kd_Mo_rangesCode_122 rfl ?_
      obtain ⟨q20, e⟩ := zd_g e
      refine zs_iald C 74 rfl (zd_vp q20) kd_Mo_rangesCode_123 rfl ?_
      refine zk_iconst (v := 0) C kd_Mo_rangesCode_124 (by decide) rfl ?_
      refine zk_iconst (v := 0) C kd_Mo_rangesCode_125 (by decide) rfl ?_
      obtain ⟨v22, h23, c21, e⟩ := zd_Be e
      refine zs_callV (k := 68) (rn := { frames := 0, cells := 0, slots := 0, locals := 0 }) (As := [.int 0, .int (h18.2.1 74 (h18.2.1 77 x5.toNatClampNeg).toNatClampNeg), .int 0, .int 0]) (rest := []) C (zc_Mo_emit h18 0 (h18.2.1 74 (h18.2.1 77 x5.toNatClampNeg).toNatClampNeg) 0 0 c21) ku_Mo_emit kw2524 kv_Mo_emit rfl ⟨by decide, by decide⟩ ⟨by decide, by decide⟩ rfl rfl rfl (Nat.le_of_ble_eq_true rfl) kd_Mo_rangesCode_126 rfl (c1 := 0) (s1 := 0) rfl rfl (fun v w hp => ?_)
      obtain ⟨rfl, rfl⟩ := hp
      refine zk_stk (r' := [.int v22]) rfl ?_
      refine zk_istore (lv' := [(4, _), (0, _), (2, _), (3, _), (5, _)]) C kd_Mo_rangesCode_129 (by decide) rfl rfl ?_
      refine zk_aload_n C kd_Mo_rangesCode_131 rfl 1 rfl rfl ?_
      refine zk_bipush (v := 7) C kd_Mo_rangesCode_132 (by decide) rfl ?_
      refine zk_bipush (v := 17) C kd_Mo_rangesCode_134 (by decide) rfl ?_
      refine zk_iconst (v := 0) C kd_Mo_rangesCode_136 (by decide) rfl ?_
      refine zk_iconst (v := 0) C kd_Mo_rangesCode_137 (by decide) rfl ?_
      obtain ⟨v25, h26, c24, e⟩ := zd_Be e
      refine zs_callV (k := 68) (rn := { frames := 0, cells := 0, slots := 0, locals := 0 }) (As := [.int 7, .int 17, .int 0, .int 0]) (rest := []) C (zc_Mo_emit h23 7 17 0 0 c24) ku_Mo_emit kw2524 kv_Mo_emit rfl ⟨by decide, by decide⟩ ⟨by decide, by decide⟩ rfl rfl rfl (Nat.le_of_ble_eq_true rfl) kd_Mo_rangesCode_138 rfl (c1 := 0) (s1 := 0) rfl rfl (fun v w hp => ?_)
      obtain ⟨rfl, rfl⟩ := hp
      refine zk_stk (r' := [.int v25]) rfl ?_
      refine zk_istore (lv' := [(4, _), (0, _), (2, _), (3, _), (5, _)]) C kd_Mo_rangesCode_141 (by decide) rfl rfl ?_
      refine zk_aload_n C kd_Mo_rangesCode_143 rfl 1 rfl rfl ?_
      refine zk_bipush (v := 7) C kd_Mo_rangesCode_144 (by decide) rfl ?_
      refine zk_bipush (v := 10) C kd_Mo_rangesCode_146 (by decide) rfl ?_
      refine zk_iconst (v := 0) C kd_Mo_rangesCode_148 (by decide) rfl ?_
      refine zk_iconst (v := 0) C kd_Mo_rangesCode_149 (by decide) rfl ?_
      obtain ⟨v28, h29, c27, e⟩ := zd_Be e
      refine zs_callV (k := 68) (rn := { frames := 0, cells := 0, slots := 0, locals := 0 }) (As := [.int 7, .int 10, .int 0, .int 0]) (rest := []) C (zc_Mo_emit h26 7 10 0 0 c27) ku_Mo_emit kw2524 kv_Mo_emit rfl ⟨by decide, by decide⟩ ⟨by decide, by decide⟩ rfl rfl rfl (Nat.le_of_ble_eq_true rfl) kd_Mo_rangesCode_150 rfl (c1 := 0) (s1 := 0) rfl rfl (fun v w hp => ?_)
      obtain ⟨rfl, rfl⟩ := hp
      refine zk_stk (r' := [.int v28]) rfl ?_
      refine zk_istore (lv' := [(4, _), (0, _), (2, _), (3, _), (5, _)]) C kd_Mo_rangesCode_153 (by decide) rfl rfl ?_
      refine zk_lvs (lv' := [(0, .ref (S.1 68)), (2, .int x2), (3, .int x3), (5, .int x5)]) [1, 2, 3, 4] rfl ?_
      exact zb_Mo_rangesCode_155 C hR hk13 h29 x2 x3 x5 e
    · replace e := zd_pos b12 e
      refine zk_aload_n C kd_Mo_rangesCode_73 rfl 1 rfl rfl ?_
      refine zk_bipush (v := 7) C kd_Mo_rangesCode_74 (by decide) rfl ?_
      refine zk_bipush (v := 13) C kd_Mo_rangesCode_76 (by decide) rfl ?_
      refine zk_iconst (v := 0) C kd_Mo_rangesCode_78 (by decide) rfl ?_
      refine zk_iconst (v := 0) C kd_Mo_rangesCode_79 (by decide) rfl ?_
      obtain ⟨v31, h32, c30, e⟩ := zd_Be e
      refine zs_callV (k := 68) (rn := { frames := 0, cells := 0, slots := 0, locals := 0 }) (As := [.int 7, .int 13, .int 0, .int 0]) (rest := []) C (zc_Mo_emit h10 7 13 0 0 c30) ku_Mo_emit kw2524 kv_Mo_emit rfl ⟨by decide, by decide⟩ ⟨by decide, by decide⟩ rfl rfl rfl (Nat.le_of_ble_eq_true rfl) kd_Mo_rangesCode_80 rfl (c1 := 0) (s1 := 0) rfl rfl (fun v w hp => ?_)
      obtain ⟨rfl, rfl⟩ := hp
      refine zk_stk (r' := [.int v31]) rfl ?_
      refine zk_istore (lv' := [(4, _), (0, _), (2, _), (3, _), (5, _)]) C kd_Mo_rangesCode_83 (by decide) rfl rfl ?_
      refine zk_goto (tgt := 155) C kd_Mo_rangesCode_85 (by decide) ?_
      refine zk_lvs (lv' := [(0, .ref (S.1 68)), (2, .int x2), (3, .int x3), (5, .int x5)]) [1, 2, 3, 4] rfl ?_
      exact zb_Mo_rangesCode_155 C hR hk13 h32 x2 x3 x5 e
theorem zl_Mo_rangesCode_13 {X : zkj_T} {S : zs_T} {P : ze_T} {l : Launch} {D : va_G} {sz0 : Nat} {rh : zs_H} (C : zk_C X km_Mo_rangesCode (zs_G S l D sz0) { frames := 1, cells := 0, slots := 0, locals := 24 } (ze_E P)) (hR : zkj_R X (zd_PV S rh) (none)) (n : Nat) : ∀ (h : zs_H) (x2 : Int32) (x3 : Int32) (x5 : Int32), f_Mo_rangesCode_L13 n h x2 x3 x5 = some rh → zk_Ab X (zs_W S h) 0 0 13 [(0, .ref (S.1 68)), (2, .int x2), (3, .int x3), (5, .int x5)] [] := by
  induction n with
  | zero => intro h x2 x3 x5 e; exact zd_no e
  | succ n ih => intro h x2 x3 x5 e; exact zb_Mo_rangesCode_13 (k13 := f_Mo_rangesCode_L13  n) C hR ih h x2 x3 x5 e
set_option maxHeartbeats 4000000 in
set_option maxRecDepth 100000 in
theorem zc_Mo_rangesCode {l : Launch} {D : va_G} {sz0 : Nat} {S : zs_T} {P : ze_T} (h : zs_H) (x1 : Int32) (x2 : Int32) {rh : zs_H} (e : f_Mo_rangesCode h x1 x2 = some rh) : zk_Sp (zs_G S l D sz0) (ze_E P) km_Mo_rangesCode { frames := 1, cells := 0, slots := 0, locals := 24 } [.ref (S.1 68), .int x1, .int x2] (zs_W S h) (zd_PV S rh) := by
  refine zk_met ku_Mo_rangesCode (Nat.le_of_ble_eq_true rfl) (ze_Em P) ?_
  intro X C hR
  refine zk_lvs (lv' := [(0, .ref (S.1 68)), (1, .int x1), (2, .int x2)]) [0, 1, 2] rfl ?_
  unfold f_Mo_rangesCode at e
  refine zk_iconst (v := 0) C kd_Mo_rangesCode_0 (by decide) rfl ?_
  refine zk_istore_n (lv' := [(3, _), (0, _), (1, _), (2, _)]) C kd_Mo_rangesCode_1 rfl (by decide) rfl rfl ?_
  refine zk_iconst (v := 0) C kd_Mo_rangesCode_2 (by decide) rfl ?_
  refine zk_istore (lv' := [(4, _), (3, _), (0, _), (1, _), (2, _)]) C kd_Mo_rangesCode_3 (by decide) rfl rfl ?_
  refine zk_aload_n C kd_Mo_rangesCode_5 rfl 2 rfl rfl ?_
  refine zs_get (v := .ref (S.1 76)) C 68 19 rfl rfl rfl rfl ki_Mo (by decide) kw1702 kd_Mo_rangesCode_6 rfl ?_
  refine zk_iload_n C kd_Mo_rangesCode_9 rfl 3 rfl rfl ?_
  obtain ⟨q1, e⟩ := zd_g e
  refine zs_iald C 76 rfl (zd_vp q1) kd_Mo_rangesCode_10 rfl ?_
  refine zk_istore (lv' := [(5, _), (4, _), (3, _), (0, _), (1, _), (2, _)]) C kd_Mo_rangesCode_11 (by decide) rfl rfl ?_
  refine zk_lvs (lv' := [(0, .ref (S.1 68)), (2, .int x2), (3, .int 0), (5, .int (h.2.1 76 x1.toNatClampNeg))]) [3, 5, 2, 0] rfl ?_
  exact zl_Mo_rangesCode_13 C hR zF h x2 0 (h.2.1 76 x1.toNatClampNeg) e
set_option maxHeartbeats 4000000 in
set_option maxRecDepth 100000 in
theorem zc_Mo_isOwn {l : Launch} {D : va_G} {sz0 : Nat} {S : zs_T} {P : ze_T} (h : zs_H) (x1 : Int32) {rv : Int32} (e : f_Mo_isOwn h x1 = some rv) : zk_Sp (zs_G S l D sz0) (ze_E P) km_Mo_isOwn { frames := 1, cells := 0, slots := 0, locals := 23 } [.ref (S.1 68), .int x1] (zs_W S h) (zd_PZ S rv h) := by
  refine zk_met ku_Mo_isOwn (Nat.le_of_ble_eq_true rfl) (ze_Em P) ?_
  intro X C hR
  refine zk_lvs (lv' := [(0, .ref (S.1 68)), (1, .int x1)]) [0, 1] rfl ?_
  unfold f_Mo_isOwn at e
  refine zk_aload_n C kd_Mo_isOwn_0 rfl 0 rfl rfl ?_
  refine zs_get (v := .ref (S.1 93)) C 68 44 rfl rfl rfl rfl ki_Mo (by decide) kw1727 kd_Mo_isOwn_1 rfl ?_
  refine zk_aload_n C kd_Mo_isOwn_4 rfl 0 rfl rfl ?_
  refine zk_aload_n C kd_Mo_isOwn_5 rfl 0 rfl rfl ?_
  refine zs_get (v := .int (h.1 68 54)) C 68 54 rfl rfl rfl rfl ki_Mo (by decide) kw1737 kd_Mo_isOwn_6 rfl ?_
  refine zk_aload_n C kd_Mo_isOwn_9 rfl 0 rfl rfl ?_
  refine zs_get (v := .ref (S.1 74)) C 68 17 rfl rfl rfl rfl ki_Mo (by decide) kw1700 kd_Mo_isOwn_10 rfl ?_
  refine zk_iload_n C kd_Mo_isOwn_13 rfl 1 rfl rfl ?_
  obtain ⟨q1, e⟩ := zd_g e
  refine zs_iald C 74 rfl (zd_vp q1) kd_Mo_isOwn_14 rfl ?_
  obtain ⟨v3, c2, e⟩ := zd_b e
  refine zs_callV (k := 68) (rn := { frames := 0, cells := 0, slots := 0, locals := 0 }) (As := [.int (h.1 68 54), .int (h.2.1 74 x1.toNatClampNeg)]) (rest := [.ref (S.1 93)]) C (zc_Mo_variable h (h.1 68 54) (h.2.1 74 x1.toNatClampNeg) c2) ku_Mo_variable kw2327 kv_Mo_variable rfl ⟨by decide, by decide⟩ ⟨by decide, by decide⟩ rfl rfl rfl (Nat.le_of_ble_eq_true rfl) kd_Mo_isOwn_15 rfl (c1 := 0) (s1 := 0) rfl rfl (fun v w hp => ?_)
  obtain ⟨rfl, rfl⟩ := hp
  refine zk_stk (r' := [.int v3, .ref (S.1 93)]) rfl ?_
  obtain ⟨q4, e⟩ := zd_g e
  refine zs_iald C 93 rfl (zd_vp q4) kd_Mo_isOwn_18 rfl ?_
  refine zk_ldcw (v := 100000) C kw1988 kd_Mo_isOwn_19 rfl ?_
  refine zk_icmp_lt (tgt := 29) C kd_Mo_isOwn_22 (by decide) rfl (fun b5 => ?_) (fun b5 => ?_)
  · replace e := zd_pos b5 e
    refine zk_iconst (v := 0) C kd_Mo_isOwn_29 (by decide) rfl ?_
    exact zk_zret C hR (zd_nb (Or.inl rfl)) kd_Mo_isOwn_30 rfl rfl (zd_rZO (Or.inl rfl) e)
  · replace e := zd_neg b5 e
    refine zk_iconst (v := 1) C kd_Mo_isOwn_25 (by decide) rfl ?_
    refine zk_goto (tgt := 30) C kd_Mo_isOwn_26 (by decide) ?_
    exact zk_zret C hR (zd_nb (Or.inr rfl)) kd_Mo_isOwn_30 rfl rfl (zd_rZO (Or.inr rfl) e)
set_option maxHeartbeats 4000000 in
set_option maxRecDepth 100000 in
theorem zc_Mo_assignmentCode {l : Launch} {D : va_G} {sz0 : Nat} {S : zs_T} {P : ze_T} (h : zs_H) (x1 : Int32) {rh : zs_H} (e : f_Mo_assignmentCode h x1 = some rh) : zk_Sp (zs_G S l D sz0) (ze_E P) km_Mo_assignmentCode { frames := 1406, cells := 0, slots := 0, locals := 34937 } [.ref (S.1 68), .int x1] (zs_W S h) (zd_PV S rh) := by
  refine zk_met ku_Mo_assignmentCode (Nat.le_of_ble_eq_true rfl) (ze_Em P) ?_
  intro X C hR
  refine zk_lvs (lv' := [(0, .ref (S.1 68)), (1, .int x1)]) [0, 1] rfl ?_
  unfold f_Mo_assignmentCode at e
  refine zk_aload_n C kd_Mo_assignmentCode_0 rfl 0 rfl rfl ?_
  refine zs_get (v := .ref (S.1 76)) C 68 19 rfl rfl rfl rfl ki_Mo (by decide) kw1702 kd_Mo_assignmentCode_1 rfl ?_
  refine zk_iload_n C kd_Mo_assignmentCode_4 rfl 1 rfl rfl ?_
  obtain ⟨q1, e⟩ := zd_g e
  refine zs_iald C 76 rfl (zd_vp q1) kd_Mo_assignmentCode_5 rfl ?_
  refine zk_istore_n (lv' := [(2, _), (0, _), (1, _)]) C kd_Mo_assignmentCode_6 rfl (by decide) rfl rfl ?_
  refine zk_iconst (v := 0) C kd_Mo_assignmentCode_7 (by decide) rfl ?_
  refine zk_istore_n (lv' := [(3, _), (2, _), (0, _), (1, _)]) C kd_Mo_assignmentCode_8 rfl (by decide) rfl rfl ?_
  refine zk_aload_n C kd_Mo_assignmentCode_9 rfl 2 rfl rfl ?_
  refine zs_get (v := .ref (S.1 72)) C 68 15 rfl rfl rfl rfl ki_Mo (by decide) kw1698 kd_Mo_assignmentCode_10 rfl ?_
  refine zk_iload_n C kd_Mo_assignmentCode_13 rfl 1 rfl rfl ?_
  obtain ⟨q2, e⟩ := zd_g e
  refine zs_iald C 72 rfl (zd_vp q2) kd_Mo_assignmentCode_14 rfl ?_
  refine zk_bipush (v := 6) C kd_Mo_assignmentCode_15 (by decide) rfl ?_
  refine zk_icmp_ne (tgt := 47) C kd_Mo_assignmentCode_17 (by decide) rfl (fun b3 => ?_) (fun b3 => ?_)
  · replace e := zd_neg b3 e
    refine zk_aload_n C kd_Mo_assignmentCode_47 rfl 2 rfl rfl ?_
    refine zk_aload_n C kd_Mo_assignmentCode_48 rfl 2 rfl rfl ?_
    refine zs_get (v := .int (h.1 68 54)) C 68 54 rfl rfl rfl rfl ki_Mo (by decide) kw1737 kd_Mo_assignmentCode_49 rfl ?_
    refine zk_aload_n C kd_Mo_assignmentCode_52 rfl 2 rfl rfl ?_
    refine zs_get (v := .ref (S.1 74)) C 68 17 rfl rfl rfl rfl ki_Mo (by decide) kw1700 kd_Mo_assignmentCode_53 rfl ?_
    refine zk_iload_n C kd_Mo_assignmentCode_56 rfl 1 rfl rfl ?_
    refine zs_iald C 74 rfl (zd_vp q2) kd_Mo_assignmentCode_57 rfl ?_
    obtain ⟨v5, c4, e⟩ := zd_b e
    refine zs_callV (k := 68) (rn := { frames := 0, cells := 0, slots := 0, locals := 0 }) (As := [.int (h.1 68 54), .int (h.2.1 74 (h.2.1 76 x1.toNatClampNeg).toNatClampNeg)]) (rest := []) C (zc_Mo_variable h (h.1 68 54) (h.2.1 74 (h.2.1 76 x1.toNatClampNeg).toNatClampNeg) c4) ku_Mo_variable kw2327 kv_Mo_variable rfl ⟨by decide, by decide⟩ ⟨by decide, by decide⟩ rfl rfl rfl (Nat.le_of_ble_eq_true rfl) kd_Mo_assignmentCode_58 rfl (c1 := 0) (s1 := 0) rfl rfl (fun v w hp => ?_)
    obtain ⟨rfl, rfl⟩ := hp
    refine zk_stk (r' := [.int v5]) rfl ?_
    refine zk_istore (lv' := [(4, _), (3, _), (2, _), (0, _), (1, _)]) C kd_Mo_assignmentCode_61 (by decide) rfl rfl ?_
    refine zk_aload_n C kd_Mo_assignmentCode_63 rfl 3 rfl rfl ?_
    refine zk_aload_n C kd_Mo_assignmentCode_64 rfl 3 rfl rfl ?_
    refine zs_get (v := .ref (S.1 76)) C 68 19 rfl rfl rfl rfl ki_Mo (by decide) kw1702 kd_Mo_assignmentCode_65 rfl ?_
    refine zk_iload_n C kd_Mo_assignmentCode_68 rfl 2 rfl rfl ?_
    refine zs_iald C 76 rfl (zd_vp q2) kd_Mo_assignmentCode_69 rfl ?_
    obtain ⟨h7, c6, e⟩ := zd_b e
    refine zs_callV (k := 68) (rn := { frames := 805 + 600, cells := 0, slots := 0, locals := 19314 + 26 * 600 }) (As := [.int (h.2.1 76 (h.2.1 76 x1.toNatClampNeg).toNatClampNeg)]) (rest := []) C (zc_Mo_expressionCode h (h.2.1 76 (h.2.1 76 x1.toNatClampNeg).toNatClampNeg) c6) ku_Mo_expressionCode kw2544 kv_Mo_expressionCode rfl ⟨by decide, by decide⟩ ⟨by decide, by decide⟩ rfl rfl rfl (Nat.le_of_ble_eq_true rfl) kd_Mo_assignmentCode_70 rfl (c1 := 0) (s1 := 0) rfl rfl (fun v w hp => ?_)
    obtain ⟨rfl, rfl⟩ := hp
    refine zk_stk (r' := []) rfl ?_
    refine zk_aload_n C kd_Mo_assignmentCode_73 rfl 3 rfl rfl ?_
    refine zk_aload_n C kd_Mo_assignmentCode_74 rfl 3 rfl rfl ?_
    refine zs_get (v := .ref (S.1 77)) C 68 20 rfl rfl rfl rfl ki_Mo (by decide) kw1703 kd_Mo_assignmentCode_75 rfl ?_
    refine zk_iload_n C kd_Mo_assignmentCode_78 rfl 4 rfl rfl ?_
    obtain ⟨q8, e⟩ := zd_g e
    refine zs_iald C 77 rfl (zd_vp q8) kd_Mo_assignmentCode_79 rfl ?_
    obtain ⟨h10, c9, e⟩ := zd_b e
    refine zs_callV (k := 68) (rn := { frames := 805 + 600, cells := 0, slots := 0, locals := 19314 + 26 * 600 }) (As := [.int (h7.2.1 77 x1.toNatClampNeg)]) (rest := []) C (zc_Mo_expressionCode h7 (h7.2.1 77 x1.toNatClampNeg) c9) ku_Mo_expressionCode kw2544 kv_Mo_expressionCode rfl ⟨by decide, by decide⟩ ⟨by decide, by decide⟩ rfl rfl rfl (Nat.le_of_ble_eq_true rfl) kd_Mo_assignmentCode_80 rfl (c1 := 0) (s1 := 0) rfl rfl (fun v w hp => ?_)
    obtain ⟨rfl, rfl⟩ := hp
    refine zk_stk (r' := []) rfl ?_
    refine zk_aload_n C kd_Mo_assignmentCode_83 rfl 3 rfl rfl ?_
    refine zk_iconst (v := 4) C kd_Mo_assignmentCode_84 (by decide) rfl ?_
    refine zk_aload_n C kd_Mo_assignmentCode_85 rfl 3 rfl rfl ?_
    refine zs_get (v := .ref (S.1 101)) C 68 52 rfl rfl rfl rfl ki_Mo (by decide) kw1735 kd_Mo_assignmentCode_86 rfl ?_
    refine zk_iload_n C kd_Mo_assignmentCode_89 rfl 2 rfl rfl ?_
    obtain ⟨q11, e⟩ := zd_g e
    refine zs_iald C 101 rfl (zd_vp q11) kd_Mo_assignmentCode_90 rfl ?_
    refine zk_aload_n C kd_Mo_assignmentCode_91 rfl 3 rfl rfl ?_
    refine zs_get (v := .ref (S.1 97)) C 68 48 rfl rfl rfl rfl ki_Mo (by decide) kw1731 kd_Mo_assignmentCode_92 rfl ?_
    refine zk_iload C kd_Mo_assignmentCode_95 0 rfl rfl ?_
    obtain ⟨q12, e⟩ := zd_g e
    refine zs_iald C 97 rfl (zd_vp q12) kd_Mo_assignmentCode_97 rfl ?_
    refine zk_aload_n C kd_Mo_assignmentCode_98 rfl 3 rfl rfl ?_
    refine zs_get (v := .ref (S.1 98)) C 68 49 rfl rfl rfl rfl ki_Mo (by decide) kw1732 kd_Mo_assignmentCode_99 rfl ?_
    refine zk_iload C kd_Mo_assignmentCode_102 0 rfl rfl ?_
    refine zs_iald C 98 rfl (zd_vp q12) kd_Mo_assignmentCode_104 rfl ?_
    obtain ⟨v14, h15, c13, e⟩ := zd_Be e
    refine zs_callV (k := 68) (rn := { frames := 0, cells := 0, slots := 0, locals := 0 }) (As := [.int 4, .int (h10.2.1 101 (h.2.1 76 x1.toNatClampNeg).toNatClampNeg), .int (h10.2.1 97 v5.toNatClampNeg), .int (h10.2.1 98 v5.toNatClampNeg)]) (rest := []) C (zc_Mo_emit h10 4 (h10.2.1 101 (h.2.1 76 x1.toNatClampNeg).toNatClampNeg) (h10.2.1 97 v5.toNatClampNeg) (h10.2.1 98 v5.toNatClampNeg) c13) ku_Mo_emit kw2524 kv_Mo_emit rfl ⟨by decide, by decide⟩ ⟨by decide, by decide⟩ rfl rfl rfl (Nat.le_of_ble_eq_true rfl) kd_Mo_assignmentCode_105 rfl (c1 := 0) (s1 := 0) rfl rfl (fun v w hp => ?_)
    obtain ⟨rfl, rfl⟩ := hp
    refine zk_stk (r' := [.int v14]) rfl ?_
    refine zk_istore_n (lv' := [(3, _), (4, _), (2, _), (0, _), (1, _)]) C kd_Mo_assignmentCode_108 rfl (by decide) rfl rfl ?_
    exact zk_vret C hR kd_Mo_assignmentCode_109 rfl rfl (zd_rV e)
  · replace e := zd_pos b3 e
    refine zk_aload_n C kd_Mo_assignmentCode_20 rfl 2 rfl rfl ?_
    refine zk_aload_n C kd_Mo_assignmentCode_21 rfl 2 rfl rfl ?_
    refine zs_get (v := .ref (S.1 77)) C 68 20 rfl rfl rfl rfl ki_Mo (by decide) kw1703 kd_Mo_assignmentCode_22 rfl ?_
    refine zk_iload_n C kd_Mo_assignmentCode_25 rfl 3 rfl rfl ?_
    refine zs_iald C 77 rfl (zd_vp q1) kd_Mo_assignmentCode_26 rfl ?_
    obtain ⟨h17, c16, e⟩ := zd_b e
    refine zs_callV (k := 68) (rn := { frames := 805 + 600, cells := 0, slots := 0, locals := 19314 + 26 * 600 }) (As := [.int (h.2.1 77 x1.toNatClampNeg)]) (rest := []) C (zc_Mo_expressionCode h (h.2.1 77 x1.toNatClampNeg) c16) ku_Mo_expressionCode kw2544 kv_Mo_expressionCode rfl ⟨by decide, by decide⟩ ⟨by decide, by decide⟩ rfl rfl rfl (Nat.le_of_ble_eq_true rfl) kd_Mo_assignmentCode_27 rfl (c1 := 0) (s1 := 0) rfl rfl (fun v w hp => ?_)
    obtain ⟨rfl, rfl⟩ := hp
    refine zk_stk (r' := []) rfl ?_
    refine zk_aload_n C kd_Mo_assignmentCode_30 rfl 2 rfl rfl ?_
    refine zk_iconst (v := 2) C kd_Mo_assignmentCode_31 (by decide) rfl ?_
    refine zk_aload_n C kd_Mo_assignmentCode_32 rfl 2 rfl rfl ?_
    refine zs_get (v := .ref (S.1 101)) C 68 52 rfl rfl rfl rfl ki_Mo (by decide) kw1735 kd_Mo_assignmentCode_33 rfl ?_
    refine zk_iload_n C kd_Mo_assignmentCode_36 rfl 1 rfl rfl ?_
    obtain ⟨q18, e⟩ := zd_g e
    refine zs_iald C 101 rfl (zd_vp q18) kd_Mo_assignmentCode_37 rfl ?_
    refine zk_iconst (v := 0) C kd_Mo_assignmentCode_38 (by decide) rfl ?_
    refine zk_iconst (v := 0) C kd_Mo_assignmentCode_39 (by decide) rfl ?_
    obtain ⟨v20, h21, c19, e⟩ := zd_Be e
    refine zs_callV (k := 68) (rn := { frames := 0, cells := 0, slots := 0, locals := 0 }) (As := [.int 2, .int (h17.2.1 101 (h.2.1 76 x1.toNatClampNeg).toNatClampNeg), .int 0, .int 0]) (rest := []) C (zc_Mo_emit h17 2 (h17.2.1 101 (h.2.1 76 x1.toNatClampNeg).toNatClampNeg) 0 0 c19) ku_Mo_emit kw2524 kv_Mo_emit rfl ⟨by decide, by decide⟩ ⟨by decide, by decide⟩ rfl rfl rfl (Nat.le_of_ble_eq_true rfl) kd_Mo_assignmentCode_40 rfl (c1 := 0) (s1 := 0) rfl rfl (fun v w hp => ?_)
    obtain ⟨rfl, rfl⟩ := hp
    refine zk_stk (r' := [.int v20]) rfl ?_
    refine zk_istore_n (lv' := [(3, _), (2, _), (0, _), (1, _)]) C kd_Mo_assignmentCode_43 rfl (by decide) rfl rfl ?_
    refine zk_goto (tgt := 109) C kd_Mo_assignmentCode_44 (by decide) ?_
    exact zk_vret C hR kd_Mo_assignmentCode_109 rfl rfl (zd_rV e)
