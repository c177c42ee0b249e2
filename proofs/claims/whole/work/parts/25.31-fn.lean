theorem kw252 : Jvm.Cond.fieldLink "PlantKeeper$Judge" (213 : Nat) "PlantKeeper$Plan" "cells" "[I" ∈ zk_BW := zk_inT 252 (by decide +kernel) rfl
theorem kw276 : Jvm.Cond.fieldLink "PlantKeeper$Judge" (243 : Nat) "PlantKeeper$Plan" "low" "[I" ∈ zk_BW := zk_inT 276 (by decide +kernel) rfl
theorem kw281 : Jvm.Cond.fieldLink "PlantKeeper$Judge" (246 : Nat) "PlantKeeper$Plan" "length" "[I" ∈ zk_BW := zk_inT 281 (by decide +kernel) rfl
theorem kw285 : Jvm.Cond.fieldLink "PlantKeeper$Judge" (249 : Nat) "PlantKeeper$Plan" "constant" "[I" ∈ zk_BW := zk_inT 285 (by decide +kernel) rfl
theorem kw299 : Jvm.Cond.fieldLink "PlantKeeper$Judge" (210 : Nat) "PlantKeeper$Plan" "allCells" "I" ∈ zk_BW := zk_inT 299 (by decide +kernel) rfl
theorem kw1059 : Jvm.Cond.instanceMethod ({ cls := "PlantKeeper$Judge", name := "leaveText", desc := "(I)V" } : Jvm.MethodName) ∈ zk_BW := zk_inT 1059 (by decide +kernel) rfl
theorem kw1060 : Jvm.Cond.code ({ cls := "PlantKeeper$Judge", name := "leaveText", desc := "(I)V" } : Jvm.MethodName) prog_4_method_9_code (2 : Nat) (Option.none : Option FieldType) ∈ zk_BW := zk_inT 1060 (by decide +kernel) rfl
theorem kw1061 : Jvm.Cond.methodLink "PlantKeeper$Judge" (207 : Nat) ({ cls := "PlantKeeper$Plan", name := "layOut", desc := "()V" } : Jvm.MethodName) ∈ zk_BW := zk_inT 1061 (by decide +kernel) rfl
theorem kw1062 : Jvm.Cond.instanceMethod ({ cls := "PlantKeeper$Plan", name := "layOut", desc := "()V" } : Jvm.MethodName) ∈ zk_BW := zk_inT 1062 (by decide +kernel) rfl
theorem kw1063 : Jvm.Cond.selects "PlantKeeper$Plan" ({ cls := "PlantKeeper$Plan", name := "layOut", desc := "()V" } : Jvm.MethodName) ({ cls := "PlantKeeper$Plan", name := "layOut", desc := "()V" } : Jvm.MethodName) ∈ zk_BW := zk_inT 1063 (by decide +kernel) rfl
theorem kw1064 : Jvm.Cond.code ({ cls := "PlantKeeper$Plan", name := "layOut", desc := "()V" } : Jvm.MethodName) prog_9_method_10_code (2 : Nat) (Option.none : Option FieldType) ∈ zk_BW := zk_inT 1064 (by decide +kernel) rfl
theorem kw1067 : Jvm.Cond.instanceMethod ({ cls := "PlantKeeper$Judge", name := "leaveBlock", desc := "(I)V" } : Jvm.MethodName) ∈ zk_BW := zk_inT 1067 (by decide +kernel) rfl
theorem kw1068 : Jvm.Cond.code ({ cls := "PlantKeeper$Judge", name := "leaveBlock", desc := "(I)V" } : Jvm.MethodName) prog_4_method_10_code (2 : Nat) (Option.none : Option FieldType) ∈ zk_BW := zk_inT 1068 (by decide +kernel) rfl
theorem kw1075 : Jvm.Cond.instanceMethod ({ cls := "PlantKeeper$Judge", name := "judgeSection", desc := "(I)V" } : Jvm.MethodName) ∈ zk_BW := zk_inT 1075 (by decide +kernel) rfl
theorem kw1076 : Jvm.Cond.code ({ cls := "PlantKeeper$Judge", name := "judgeSection", desc := "(I)V" } : Jvm.MethodName) prog_4_method_11_code (3 : Nat) (Option.none : Option FieldType) ∈ zk_BW := zk_inT 1076 (by decide +kernel) rfl
theorem kw1079 : Jvm.Cond.instanceMethod ({ cls := "PlantKeeper$Judge", name := "judgeDeclaration", desc := "(I)V" } : Jvm.MethodName) ∈ zk_BW := zk_inT 1079 (by decide +kernel) rfl
theorem kw1080 : Jvm.Cond.code ({ cls := "PlantKeeper$Judge", name := "judgeDeclaration", desc := "(I)V" } : Jvm.MethodName) prog_4_method_17_code (10 : Nat) (Option.none : Option FieldType) ∈ zk_BW := zk_inT 1080 (by decide +kernel) rfl
theorem kw1085 : Jvm.Cond.methodLink "PlantKeeper$Judge" (232 : Nat) ({ cls := "PlantKeeper$Judge", name := "isConstantOf", desc := "(II)Z" } : Jvm.MethodName) ∈ zk_BW := zk_inT 1085 (by decide +kernel) rfl
theorem kw1087 : Jvm.Cond.instanceMethod ({ cls := "PlantKeeper$Judge", name := "isConstantOf", desc := "(II)Z" } : Jvm.MethodName) ∈ zk_BW := zk_inT 1087 (by decide +kernel) rfl
theorem kw1088 : Jvm.Cond.code ({ cls := "PlantKeeper$Judge", name := "isConstantOf", desc := "(II)Z" } : Jvm.MethodName) prog_4_method_18_code (3 : Nat) (Option.some FieldType.boolean) ∈ zk_BW := zk_inT 1088 (by decide +kernel) rfl
theorem kw1093 : Jvm.Cond.methodLink "PlantKeeper$Judge" (236 : Nat) ({ cls := "PlantKeeper$Judge", name := "settle", desc := "(IIII)V" } : Jvm.MethodName) ∈ zk_BW := zk_inT 1093 (by decide +kernel) rfl
theorem kw1095 : Jvm.Cond.instanceMethod ({ cls := "PlantKeeper$Judge", name := "settle", desc := "(IIII)V" } : Jvm.MethodName) ∈ zk_BW := zk_inT 1095 (by decide +kernel) rfl
theorem kw1096 : Jvm.Cond.code ({ cls := "PlantKeeper$Judge", name := "settle", desc := "(IIII)V" } : Jvm.MethodName) prog_4_method_20_code (10 : Nat) (Option.none : Option FieldType) ∈ zk_BW := zk_inT 1096 (by decide +kernel) rfl
theorem kw1193 : Jvm.Cond.instanceMethod ({ cls := "PlantKeeper$Judge", name := "judgeVariable", desc := "(I)V" } : Jvm.MethodName) ∈ zk_BW := zk_inT 1193 (by decide +kernel) rfl
theorem kw1194 : Jvm.Cond.code ({ cls := "PlantKeeper$Judge", name := "judgeVariable", desc := "(I)V" } : Jvm.MethodName) prog_4_method_22_code (7 : Nat) (Option.none : Option FieldType) ∈ zk_BW := zk_inT 1194 (by decide +kernel) rfl
abbrev kc_Jd_isConstantOf : ByteArray := prog_4_method_18_code
def km_Jd_isConstantOf : zk_MT := (⟨"PlantKeeper$Judge", "isConstantOf", "(II)Z"⟩, kc_Jd_isConstantOf, 3, some .boolean, 2)
theorem ku_Jd_isConstantOf : zk_My km_Jd_isConstantOf := ⟨kw1088, kw11, by decide, by decide, by decide, by decide +kernel⟩
theorem kv_Jd_isConstantOf : zk_Mv km_Jd_isConstantOf := ⟨kw1087, zk_inS 58 (q := (⟨"PlantKeeper$Judge", "isConstantOf", "(II)Z"⟩, 14)) (by decide +kernel)⟩
abbrev kc_Jd_judgeDeclaration : ByteArray := prog_4_method_17_code
def km_Jd_judgeDeclaration : zk_MT := (⟨"PlantKeeper$Judge", "judgeDeclaration", "(I)V"⟩, kc_Jd_judgeDeclaration, 10, none, 1)
theorem ku_Jd_judgeDeclaration : zk_My km_Jd_judgeDeclaration := ⟨kw1080, kw11, by decide, by decide, by decide, by decide +kernel⟩
theorem kv_Jd_judgeDeclaration : zk_Mv km_Jd_judgeDeclaration := ⟨kw1079, zk_inS 57 (q := (⟨"PlantKeeper$Judge", "judgeDeclaration", "(I)V"⟩, 14)) (by decide +kernel)⟩
abbrev kc_Jd_judgeSection : ByteArray := prog_4_method_11_code
def km_Jd_judgeSection : zk_MT := (⟨"PlantKeeper$Judge", "judgeSection", "(I)V"⟩, kc_Jd_judgeSection, 3, none, 1)
theorem ku_Jd_judgeSection : zk_My km_Jd_judgeSection := ⟨kw1076, kw11, by decide, by decide, by decide, by decide +kernel⟩
theorem kv_Jd_judgeSection : zk_Mv km_Jd_judgeSection := ⟨kw1075, zk_inS 56 (q := (⟨"PlantKeeper$Judge", "judgeSection", "(I)V"⟩, 14)) (by decide +kernel)⟩
abbrev kc_Jd_judgeVariable : ByteArray := prog_4_method_22_code
def km_Jd_judgeVariable : zk_MT := (⟨"PlantKeeper$Judge", "judgeVariable", "(I)V"⟩, kc_Jd_judgeVariable, 7, none, 1)
theorem ku_Jd_judgeVariable : zk_My km_Jd_judgeVariable := ⟨kw1194, kw11, by decide, by decide, by decide, by decide +kernel⟩
theorem kv_Jd_judgeVariable : zk_Mv km_Jd_judgeVariable := ⟨kw1193, zk_inS 77 (q := (⟨"PlantKeeper$Judge", "judgeVariable", "(I)V"⟩, 14)) (by decide +kernel)⟩
abbrev kc_Jd_leaveBlock : ByteArray := prog_4_method_10_code
def km_Jd_leaveBlock : zk_MT := (⟨"PlantKeeper$Judge", "leaveBlock", "(I)V"⟩, kc_Jd_leaveBlock, 2, none, 1)
theorem ku_Jd_leaveBlock : zk_My km_Jd_leaveBlock := ⟨kw1068, kw11, by decide, by decide, by decide, by decide +kernel⟩
theorem kv_Jd_leaveBlock : zk_Mv km_Jd_leaveBlock := ⟨kw1067, zk_inS 55 (q := (⟨"PlantKeeper$Judge", "leaveBlock", "(I)V"⟩, 14)) (by decide +kernel)⟩
abbrev kc_Jd_leaveText : ByteArray := prog_4_method_9_code
def km_Jd_leaveText : zk_MT := (⟨"PlantKeeper$Judge", "leaveText", "(I)V"⟩, kc_Jd_leaveText, 2, none, 1)
theorem ku_Jd_leaveText : zk_My km_Jd_leaveText := ⟨kw1060, kw11, by decide, by decide, by decide, by decide +kernel⟩
theorem kv_Jd_leaveText : zk_Mv km_Jd_leaveText := ⟨kw1059, zk_inS 54 (q := (⟨"PlantKeeper$Judge", "leaveText", "(I)V"⟩, 14)) (by decide +kernel)⟩
abbrev kc_Jd_settle : ByteArray := prog_4_method_20_code
def km_Jd_settle : zk_MT := (⟨"PlantKeeper$Judge", "settle", "(IIII)V"⟩, kc_Jd_settle, 10, none, 4)
theorem ku_Jd_settle : zk_My km_Jd_settle := ⟨kw1096, kw11, by decide, by decide, by decide, by decide +kernel⟩
theorem kv_Jd_settle : zk_Mv km_Jd_settle := ⟨kw1095, zk_inS 60 (q := (⟨"PlantKeeper$Judge", "settle", "(IIII)V"⟩, 14)) (by decide +kernel)⟩
abbrev kc_Pl_layOut : ByteArray := prog_9_method_10_code
def km_Pl_layOut : zk_MT := (⟨"PlantKeeper$Plan", "layOut", "()V"⟩, kc_Pl_layOut, 2, none, 0)
theorem ku_Pl_layOut : zk_My km_Pl_layOut := ⟨kw1064, kw10, by decide, by decide, by decide, by decide +kernel⟩
theorem kv_Pl_layOut : zk_Mv km_Pl_layOut := ⟨kw1062, kw1063⟩
theorem kd_Jd_isConstantOf_0 : decode kc_Jd_isConstantOf 0 = .ok (.aload_n 0, 1) := by decide +kernel
theorem kd_Jd_isConstantOf_1 : decode kc_Jd_isConstantOf 1 = .ok (.getfield 9, 3) := by decide +kernel
theorem kd_Jd_isConstantOf_4 : decode kc_Jd_isConstantOf 4 = .ok (.getfield 71, 3) := by decide +kernel
theorem kd_Jd_isConstantOf_7 : decode kc_Jd_isConstantOf 7 = .ok (.iload_n 2, 1) := by decide +kernel
theorem kd_Jd_isConstantOf_8 : decode kc_Jd_isConstantOf 8 = .ok (.baload, 1) := by decide +kernel
theorem kd_Jd_isConstantOf_9 : decode kc_Jd_isConstantOf 9 = .ok (.bipush 31, 2) := by decide +kernel
theorem kd_Jd_isConstantOf_11 : decode kc_Jd_isConstantOf 11 = .ok (.if_icmp .ne 13, 3) := by decide +kernel
theorem kd_Jd_isConstantOf_14 : decode kc_Jd_isConstantOf 14 = .ok (.iload_n 1, 1) := by decide +kernel
theorem kd_Jd_isConstantOf_15 : decode kc_Jd_isConstantOf 15 = .ok (.ifCond .ne 7, 3) := by decide +kernel
theorem kd_Jd_isConstantOf_18 : decode kc_Jd_isConstantOf 18 = .ok (.iconst 1, 1) := by decide +kernel
theorem kd_Jd_isConstantOf_19 : decode kc_Jd_isConstantOf 19 = .ok (.goto 4, 3) := by decide +kernel
theorem kd_Jd_isConstantOf_22 : decode kc_Jd_isConstantOf 22 = .ok (.iconst 0, 1) := by decide +kernel
theorem kd_Jd_isConstantOf_23 : decode kc_Jd_isConstantOf 23 = .ok (.ireturn, 1) := by decide +kernel
theorem kd_Jd_isConstantOf_24 : decode kc_Jd_isConstantOf 24 = .ok (.iload_n 1, 1) := by decide +kernel
theorem kd_Jd_isConstantOf_25 : decode kc_Jd_isConstantOf 25 = .ok (.ifCond .eq 16, 3) := by decide +kernel
theorem kd_Jd_isConstantOf_28 : decode kc_Jd_isConstantOf 28 = .ok (.aload_n 0, 1) := by decide +kernel
theorem kd_Jd_isConstantOf_29 : decode kc_Jd_isConstantOf 29 = .ok (.iload_n 1, 1) := by decide +kernel
theorem kd_Jd_isConstantOf_30 : decode kc_Jd_isConstantOf 30 = .ok (.iload_n 2, 1) := by decide +kernel
theorem kd_Jd_isConstantOf_31 : decode kc_Jd_isConstantOf 31 = .ok (.invokevirtual 240, 3) := by decide +kernel
theorem kd_Jd_isConstantOf_34 : decode kc_Jd_isConstantOf 34 = .ok (.ifCond .eq 7, 3) := by decide +kernel
theorem kd_Jd_isConstantOf_37 : decode kc_Jd_isConstantOf 37 = .ok (.iconst 1, 1) := by decide +kernel
theorem kd_Jd_isConstantOf_38 : decode kc_Jd_isConstantOf 38 = .ok (.goto 4, 3) := by decide +kernel
theorem kd_Jd_isConstantOf_41 : decode kc_Jd_isConstantOf 41 = .ok (.iconst 0, 1) := by decide +kernel
theorem kd_Jd_isConstantOf_42 : decode kc_Jd_isConstantOf 42 = .ok (.ireturn, 1) := by decide +kernel
theorem kd_Jd_judgeDeclaration_0 : decode kc_Jd_judgeDeclaration 0 = .ok (.aload_n 0, 1) := by decide +kernel
theorem kd_Jd_judgeDeclaration_1 : decode kc_Jd_judgeDeclaration 1 = .ok (.getfield 9, 3) := by decide +kernel
theorem kd_Jd_judgeDeclaration_4 : decode kc_Jd_judgeDeclaration 4 = .ok (.getfield 49, 3) := by decide +kernel
theorem kd_Jd_judgeDeclaration_7 : decode kc_Jd_judgeDeclaration 7 = .ok (.iload_n 1, 1) := by decide +kernel
theorem kd_Jd_judgeDeclaration_8 : decode kc_Jd_judgeDeclaration 8 = .ok (.iaload, 1) := by decide +kernel
theorem kd_Jd_judgeDeclaration_9 : decode kc_Jd_judgeDeclaration 9 = .ok (.istore_n 2, 1) := by decide +kernel
theorem kd_Jd_judgeDeclaration_10 : decode kc_Jd_judgeDeclaration 10 = .ok (.iconst 0, 1) := by decide +kernel
theorem kd_Jd_judgeDeclaration_11 : decode kc_Jd_judgeDeclaration 11 = .ok (.istore_n 3, 1) := by decide +kernel
theorem kd_Jd_judgeDeclaration_12 : decode kc_Jd_judgeDeclaration 12 = .ok (.iload_n 3, 1) := by decide +kernel
theorem kd_Jd_judgeDeclaration_13 : decode kc_Jd_judgeDeclaration 13 = .ok (.aload_n 0, 1) := by decide +kernel
theorem kd_Jd_judgeDeclaration_14 : decode kc_Jd_judgeDeclaration 14 = .ok (.getfield 9, 3) := by decide +kernel
theorem kd_Jd_judgeDeclaration_17 : decode kc_Jd_judgeDeclaration 17 = .ok (.getfield 52, 3) := by decide +kernel
theorem kd_Jd_judgeDeclaration_20 : decode kc_Jd_judgeDeclaration 20 = .ok (.if_icmp .ge 33, 3) := by decide +kernel
theorem kd_Jd_judgeDeclaration_23 : decode kc_Jd_judgeDeclaration 23 = .ok (.aload_n 0, 1) := by decide +kernel
theorem kd_Jd_judgeDeclaration_24 : decode kc_Jd_judgeDeclaration 24 = .ok (.getfield 9, 3) := by decide +kernel
theorem kd_Jd_judgeDeclaration_27 : decode kc_Jd_judgeDeclaration 27 = .ok (.getfield 71, 3) := by decide +kernel
theorem kd_Jd_judgeDeclaration_30 : decode kc_Jd_judgeDeclaration 30 = .ok (.iload_n 2, 1) := by decide +kernel
theorem kd_Jd_judgeDeclaration_31 : decode kc_Jd_judgeDeclaration 31 = .ok (.baload, 1) := by decide +kernel
theorem kd_Jd_judgeDeclaration_32 : decode kc_Jd_judgeDeclaration 32 = .ok (.bipush 37, 2) := by decide +kernel
theorem kd_Jd_judgeDeclaration_34 : decode kc_Jd_judgeDeclaration 34 = .ok (.if_icmp .ne 19, 3) := by decide +kernel
theorem kd_Jd_judgeDeclaration_37 : decode kc_Jd_judgeDeclaration 37 = .ok (.aload_n 0, 1) := by decide +kernel
theorem kd_Jd_judgeDeclaration_38 : decode kc_Jd_judgeDeclaration 38 = .ok (.getfield 9, 3) := by decide +kernel
theorem kd_Jd_judgeDeclaration_41 : decode kc_Jd_judgeDeclaration 41 = .ok (.getfield 55, 3) := by decide +kernel
theorem kd_Jd_judgeDeclaration_44 : decode kc_Jd_judgeDeclaration 44 = .ok (.iload_n 2, 1) := by decide +kernel
theorem kd_Jd_judgeDeclaration_45 : decode kc_Jd_judgeDeclaration 45 = .ok (.iaload, 1) := by decide +kernel
theorem kd_Jd_judgeDeclaration_46 : decode kc_Jd_judgeDeclaration 46 = .ok (.istore_n 2, 1) := by decide +kernel
theorem kd_Jd_judgeDeclaration_47 : decode kc_Jd_judgeDeclaration 47 = .ok (.iinc 3 1, 3) := by decide +kernel
theorem kd_Jd_judgeDeclaration_50 : decode kc_Jd_judgeDeclaration 50 = .ok (.goto (-38), 3) := by decide +kernel
theorem kd_Jd_judgeDeclaration_53 : decode kc_Jd_judgeDeclaration 53 = .ok (.iconst (-1), 1) := by decide +kernel
theorem kd_Jd_judgeDeclaration_54 : decode kc_Jd_judgeDeclaration 54 = .ok (.istore_n 3, 1) := by decide +kernel
theorem kd_Jd_judgeDeclaration_55 : decode kc_Jd_judgeDeclaration 55 = .ok (.aload_n 0, 1) := by decide +kernel
theorem kd_Jd_judgeDeclaration_56 : decode kc_Jd_judgeDeclaration 56 = .ok (.getfield 9, 3) := by decide +kernel
theorem kd_Jd_judgeDeclaration_59 : decode kc_Jd_judgeDeclaration 59 = .ok (.getfield 71, 3) := by decide +kernel
theorem kd_Jd_judgeDeclaration_62 : decode kc_Jd_judgeDeclaration 62 = .ok (.iload_n 2, 1) := by decide +kernel
theorem kd_Jd_judgeDeclaration_63 : decode kc_Jd_judgeDeclaration 63 = .ok (.baload, 1) := by decide +kernel
theorem kd_Jd_judgeDeclaration_64 : decode kc_Jd_judgeDeclaration 64 = .ok (.bipush 7, 2) := by decide +kernel
theorem kd_Jd_judgeDeclaration_66 : decode kc_Jd_judgeDeclaration 66 = .ok (.if_icmp .ne 23, 3) := by decide +kernel
theorem kd_Jd_judgeDeclaration_69 : decode kc_Jd_judgeDeclaration 69 = .ok (.aload_n 0, 1) := by decide +kernel
theorem kd_Jd_judgeDeclaration_70 : decode kc_Jd_judgeDeclaration 70 = .ok (.getfield 9, 3) := by decide +kernel
theorem kd_Jd_judgeDeclaration_73 : decode kc_Jd_judgeDeclaration 73 = .ok (.getfield 78, 3) := by decide +kernel
theorem kd_Jd_judgeDeclaration_76 : decode kc_Jd_judgeDeclaration 76 = .ok (.iload_n 2, 1) := by decide +kernel
theorem kd_Jd_judgeDeclaration_77 : decode kc_Jd_judgeDeclaration 77 = .ok (.iaload, 1) := by decide +kernel
theorem kd_Jd_judgeDeclaration_78 : decode kc_Jd_judgeDeclaration 78 = .ok (.istore_n 3, 1) := by decide +kernel
theorem kd_Jd_judgeDeclaration_79 : decode kc_Jd_judgeDeclaration 79 = .ok (.aload_n 0, 1) := by decide +kernel
theorem kd_Jd_judgeDeclaration_80 : decode kc_Jd_judgeDeclaration 80 = .ok (.getfield 9, 3) := by decide +kernel
theorem kd_Jd_judgeDeclaration_83 : decode kc_Jd_judgeDeclaration 83 = .ok (.getfield 55, 3) := by decide +kernel
theorem kd_Jd_judgeDeclaration_86 : decode kc_Jd_judgeDeclaration 86 = .ok (.iload_n 2, 1) := by decide +kernel
theorem kd_Jd_judgeDeclaration_87 : decode kc_Jd_judgeDeclaration 87 = .ok (.iaload, 1) := by decide +kernel
theorem kd_Jd_judgeDeclaration_88 : decode kc_Jd_judgeDeclaration 88 = .ok (.istore_n 2, 1) := by decide +kernel
theorem kd_Jd_judgeDeclaration_89 : decode kc_Jd_judgeDeclaration 89 = .ok (.aload_n 0, 1) := by decide +kernel
theorem kd_Jd_judgeDeclaration_90 : decode kc_Jd_judgeDeclaration 90 = .ok (.getfield 9, 3) := by decide +kernel
theorem kd_Jd_judgeDeclaration_93 : decode kc_Jd_judgeDeclaration 93 = .ok (.getfield 55, 3) := by decide +kernel
theorem kd_Jd_judgeDeclaration_96 : decode kc_Jd_judgeDeclaration 96 = .ok (.iload_n 2, 1) := by decide +kernel
theorem kd_Jd_judgeDeclaration_97 : decode kc_Jd_judgeDeclaration 97 = .ok (.iaload, 1) := by decide +kernel
theorem kd_Jd_judgeDeclaration_98 : decode kc_Jd_judgeDeclaration 98 = .ok (.istore 4, 2) := by decide +kernel
theorem kd_Jd_judgeDeclaration_100 : decode kc_Jd_judgeDeclaration 100 = .ok (.aload_n 0, 1) := by decide +kernel
theorem kd_Jd_judgeDeclaration_101 : decode kc_Jd_judgeDeclaration 101 = .ok (.getfield 9, 3) := by decide +kernel
theorem kd_Jd_judgeDeclaration_104 : decode kc_Jd_judgeDeclaration 104 = .ok (.getfield 71, 3) := by decide +kernel
theorem kd_Jd_judgeDeclaration_107 : decode kc_Jd_judgeDeclaration 107 = .ok (.iload_n 2, 1) := by decide +kernel
theorem kd_Jd_judgeDeclaration_108 : decode kc_Jd_judgeDeclaration 108 = .ok (.baload, 1) := by decide +kernel
theorem kd_Jd_judgeDeclaration_109 : decode kc_Jd_judgeDeclaration 109 = .ok (.istore 5, 2) := by decide +kernel
theorem kd_Jd_judgeDeclaration_111 : decode kc_Jd_judgeDeclaration 111 = .ok (.iload 5, 2) := by decide +kernel
theorem kd_Jd_judgeDeclaration_113 : decode kc_Jd_judgeDeclaration 113 = .ok (.bipush 8, 2) := by decide +kernel
theorem kd_Jd_judgeDeclaration_115 : decode kc_Jd_judgeDeclaration 115 = .ok (.if_icmp .ne 15, 3) := by decide +kernel
theorem kd_Jd_judgeDeclaration_118 : decode kc_Jd_judgeDeclaration 118 = .ok (.aload_n 0, 1) := by decide +kernel
theorem kd_Jd_judgeDeclaration_119 : decode kc_Jd_judgeDeclaration 119 = .ok (.getfield 9, 3) := by decide +kernel
theorem kd_Jd_judgeDeclaration_122 : decode kc_Jd_judgeDeclaration 122 = .ok (.getfield 78, 3) := by decide +kernel
theorem kd_Jd_judgeDeclaration_125 : decode kc_Jd_judgeDeclaration 125 = .ok (.iload_n 2, 1) := by decide +kernel
theorem kd_Jd_judgeDeclaration_126 : decode kc_Jd_judgeDeclaration 126 = .ok (.iaload, 1) := by decide +kernel
theorem kd_Jd_judgeDeclaration_127 : decode kc_Jd_judgeDeclaration 127 = .ok (.goto 38, 3) := by decide +kernel
theorem kd_Jd_judgeDeclaration_130 : decode kc_Jd_judgeDeclaration 130 = .ok (.iload 5, 2) := by decide +kernel
theorem kd_Jd_judgeDeclaration_132 : decode kc_Jd_judgeDeclaration 132 = .ok (.bipush 9, 2) := by decide +kernel
theorem kd_Jd_judgeDeclaration_134 : decode kc_Jd_judgeDeclaration 134 = .ok (.if_icmp .ne 30, 3) := by decide +kernel
theorem kd_Jd_judgeDeclaration_137 : decode kc_Jd_judgeDeclaration 137 = .ok (.aload_n 0, 1) := by decide +kernel
theorem kd_Jd_judgeDeclaration_138 : decode kc_Jd_judgeDeclaration 138 = .ok (.getfield 9, 3) := by decide +kernel
theorem kd_Jd_judgeDeclaration_141 : decode kc_Jd_judgeDeclaration 141 = .ok (.getfield 78, 3) := by decide +kernel
theorem kd_Jd_judgeDeclaration_144 : decode kc_Jd_judgeDeclaration 144 = .ok (.aload_n 0, 1) := by decide +kernel
theorem kd_Jd_judgeDeclaration_145 : decode kc_Jd_judgeDeclaration 145 = .ok (.getfield 9, 3) := by decide +kernel
theorem kd_Jd_judgeDeclaration_148 : decode kc_Jd_judgeDeclaration 148 = .ok (.getfield 55, 3) := by decide +kernel
theorem kd_Jd_judgeDeclaration_151 : decode kc_Jd_judgeDeclaration 151 = .ok (.aload_n 0, 1) := by decide +kernel
theorem kd_Jd_judgeDeclaration_152 : decode kc_Jd_judgeDeclaration 152 = .ok (.getfield 9, 3) := by decide +kernel
theorem kd_Jd_judgeDeclaration_155 : decode kc_Jd_judgeDeclaration 155 = .ok (.iload_n 2, 1) := by decide +kernel
theorem kd_Jd_judgeDeclaration_156 : decode kc_Jd_judgeDeclaration 156 = .ok (.invokevirtual 227, 3) := by decide +kernel
theorem kd_Jd_judgeDeclaration_159 : decode kc_Jd_judgeDeclaration 159 = .ok (.iaload, 1) := by decide +kernel
theorem kd_Jd_judgeDeclaration_160 : decode kc_Jd_judgeDeclaration 160 = .ok (.iaload, 1) := by decide +kernel
theorem kd_Jd_judgeDeclaration_161 : decode kc_Jd_judgeDeclaration 161 = .ok (.goto 4, 3) := by decide +kernel
theorem kd_Jd_judgeDeclaration_164 : decode kc_Jd_judgeDeclaration 164 = .ok (.iconst 0, 1) := by decide +kernel
theorem kd_Jd_judgeDeclaration_165 : decode kc_Jd_judgeDeclaration 165 = .ok (.istore 6, 2) := by decide +kernel
theorem kd_Jd_judgeDeclaration_167 : decode kc_Jd_judgeDeclaration 167 = .ok (.aload_n 0, 1) := by decide +kernel
theorem kd_Jd_judgeDeclaration_168 : decode kc_Jd_judgeDeclaration 168 = .ok (.aload_n 0, 1) := by decide +kernel
theorem kd_Jd_judgeDeclaration_169 : decode kc_Jd_judgeDeclaration 169 = .ok (.getfield 81, 3) := by decide +kernel
theorem kd_Jd_judgeDeclaration_172 : decode kc_Jd_judgeDeclaration 172 = .ok (.ifCond .eq 14, 3) := by decide +kernel
theorem kd_Jd_judgeDeclaration_175 : decode kc_Jd_judgeDeclaration 175 = .ok (.iload 5, 2) := by decide +kernel
theorem kd_Jd_judgeDeclaration_177 : decode kc_Jd_judgeDeclaration 177 = .ok (.bipush 8, 2) := by decide +kernel
theorem kd_Jd_judgeDeclaration_179 : decode kc_Jd_judgeDeclaration 179 = .ok (.if_icmp .eq 7, 3) := by decide +kernel
theorem kd_Jd_judgeDeclaration_182 : decode kc_Jd_judgeDeclaration 182 = .ok (.iconst 1, 1) := by decide +kernel
theorem kd_Jd_judgeDeclaration_183 : decode kc_Jd_judgeDeclaration 183 = .ok (.goto 4, 3) := by decide +kernel
theorem kd_Jd_judgeDeclaration_186 : decode kc_Jd_judgeDeclaration 186 = .ok (.iconst 0, 1) := by decide +kernel
theorem kd_Jd_judgeDeclaration_187 : decode kc_Jd_judgeDeclaration 187 = .ok (.bipush 43, 2) := by decide +kernel
theorem kd_Jd_judgeDeclaration_189 : decode kc_Jd_judgeDeclaration 189 = .ok (.iload_n 1, 1) := by decide +kernel
theorem kd_Jd_judgeDeclaration_190 : decode kc_Jd_judgeDeclaration 190 = .ok (.invokevirtual 112, 3) := by decide +kernel
theorem kd_Jd_judgeDeclaration_193 : decode kc_Jd_judgeDeclaration 193 = .ok (.iload_n 3, 1) := by decide +kernel
theorem kd_Jd_judgeDeclaration_194 : decode kc_Jd_judgeDeclaration 194 = .ok (.bipush 8, 2) := by decide +kernel
theorem kd_Jd_judgeDeclaration_196 : decode kc_Jd_judgeDeclaration 196 = .ok (.ishr, 1) := by decide +kernel
theorem kd_Jd_judgeDeclaration_197 : decode kc_Jd_judgeDeclaration 197 = .ok (.iconst 3, 1) := by decide +kernel
theorem kd_Jd_judgeDeclaration_198 : decode kc_Jd_judgeDeclaration 198 = .ok (.if_icmp .ge 7, 3) := by decide +kernel
theorem kd_Jd_judgeDeclaration_201 : decode kc_Jd_judgeDeclaration 201 = .ok (.iconst 0, 1) := by decide +kernel
theorem kd_Jd_judgeDeclaration_202 : decode kc_Jd_judgeDeclaration 202 = .ok (.goto 4, 3) := by decide +kernel
theorem kd_Jd_judgeDeclaration_205 : decode kc_Jd_judgeDeclaration 205 = .ok (.iconst 1, 1) := by decide +kernel
theorem kd_Jd_judgeDeclaration_206 : decode kc_Jd_judgeDeclaration 206 = .ok (.istore 7, 2) := by decide +kernel
theorem kd_Jd_judgeDeclaration_208 : decode kc_Jd_judgeDeclaration 208 = .ok (.aload_n 0, 1) := by decide +kernel
theorem kd_Jd_judgeDeclaration_209 : decode kc_Jd_judgeDeclaration 209 = .ok (.iload_n 3, 1) := by decide +kernel
theorem kd_Jd_judgeDeclaration_210 : decode kc_Jd_judgeDeclaration 210 = .ok (.iconst (-1), 1) := by decide +kernel
theorem kd_Jd_judgeDeclaration_211 : decode kc_Jd_judgeDeclaration 211 = .ok (.if_icmp .eq 21, 3) := by decide +kernel
theorem kd_Jd_judgeDeclaration_214 : decode kc_Jd_judgeDeclaration 214 = .ok (.iload 5, 2) := by decide +kernel
theorem kd_Jd_judgeDeclaration_216 : decode kc_Jd_judgeDeclaration 216 = .ok (.bipush 8, 2) := by decide +kernel
theorem kd_Jd_judgeDeclaration_218 : decode kc_Jd_judgeDeclaration 218 = .ok (.if_icmp .ne 10, 3) := by decide +kernel
theorem kd_Jd_judgeDeclaration_221 : decode kc_Jd_judgeDeclaration 221 = .ok (.iload 6, 2) := by decide +kernel
theorem kd_Jd_judgeDeclaration_223 : decode kc_Jd_judgeDeclaration 223 = .ok (.iload 7, 2) := by decide +kernel
theorem kd_Jd_judgeDeclaration_225 : decode kc_Jd_judgeDeclaration 225 = .ok (.if_icmp .eq 7, 3) := by decide +kernel
theorem kd_Jd_judgeDeclaration_228 : decode kc_Jd_judgeDeclaration 228 = .ok (.iconst 1, 1) := by decide +kernel
theorem kd_Jd_judgeDeclaration_229 : decode kc_Jd_judgeDeclaration 229 = .ok (.goto 4, 3) := by decide +kernel
theorem kd_Jd_judgeDeclaration_232 : decode kc_Jd_judgeDeclaration 232 = .ok (.iconst 0, 1) := by decide +kernel
theorem kd_Jd_judgeDeclaration_233 : decode kc_Jd_judgeDeclaration 233 = .ok (.bipush 15, 2) := by decide +kernel
theorem kd_Jd_judgeDeclaration_235 : decode kc_Jd_judgeDeclaration 235 = .ok (.iload_n 1, 1) := by decide +kernel
theorem kd_Jd_judgeDeclaration_236 : decode kc_Jd_judgeDeclaration 236 = .ok (.invokevirtual 112, 3) := by decide +kernel
theorem kd_Jd_judgeDeclaration_239 : decode kc_Jd_judgeDeclaration 239 = .ok (.iload 4, 2) := by decide +kernel
theorem kd_Jd_judgeDeclaration_241 : decode kc_Jd_judgeDeclaration 241 = .ok (.iconst (-1), 1) := by decide +kernel
theorem kd_Jd_judgeDeclaration_242 : decode kc_Jd_judgeDeclaration 242 = .ok (.if_icmp .eq 69, 3) := by decide +kernel
theorem kd_Jd_judgeDeclaration_245 : decode kc_Jd_judgeDeclaration 245 = .ok (.iload_n 3, 1) := by decide +kernel
theorem kd_Jd_judgeDeclaration_246 : decode kc_Jd_judgeDeclaration 246 = .ok (.iconst (-1), 1) := by decide +kernel
theorem kd_Jd_judgeDeclaration_247 : decode kc_Jd_judgeDeclaration 247 = .ok (.if_icmp .eq 22, 3) := by decide +kernel
theorem kd_Jd_judgeDeclaration_250 : decode kc_Jd_judgeDeclaration 250 = .ok (.iload_n 3, 1) := by decide +kernel
theorem kd_Jd_judgeDeclaration_251 : decode kc_Jd_judgeDeclaration 251 = .ok (.bipush 8, 2) := by decide +kernel
theorem kd_Jd_judgeDeclaration_253 : decode kc_Jd_judgeDeclaration 253 = .ok (.ishr, 1) := by decide +kernel
theorem kd_Jd_judgeDeclaration_254 : decode kc_Jd_judgeDeclaration 254 = .ok (.ifCond .eq 11, 3) := by decide +kernel
theorem kd_Jd_judgeDeclaration_257 : decode kc_Jd_judgeDeclaration 257 = .ok (.iload_n 3, 1) := by decide +kernel
theorem kd_Jd_judgeDeclaration_258 : decode kc_Jd_judgeDeclaration 258 = .ok (.bipush 8, 2) := by decide +kernel
theorem kd_Jd_judgeDeclaration_260 : decode kc_Jd_judgeDeclaration 260 = .ok (.ishr, 1) := by decide +kernel
theorem kd_Jd_judgeDeclaration_261 : decode kc_Jd_judgeDeclaration 261 = .ok (.iconst 3, 1) := by decide +kernel
theorem kd_Jd_judgeDeclaration_262 : decode kc_Jd_judgeDeclaration 262 = .ok (.if_icmp .ne 7, 3) := by decide +kernel
theorem kd_Jd_judgeDeclaration_265 : decode kc_Jd_judgeDeclaration 265 = .ok (.iconst 1, 1) := by decide +kernel
theorem kd_Jd_judgeDeclaration_266 : decode kc_Jd_judgeDeclaration 266 = .ok (.goto 4, 3) := by decide +kernel
theorem kd_Jd_judgeDeclaration_269 : decode kc_Jd_judgeDeclaration 269 = .ok (.iconst 0, 1) := by decide +kernel
theorem kd_Jd_judgeDeclaration_270 : decode kc_Jd_judgeDeclaration 270 = .ok (.istore 8, 2) := by decide +kernel
theorem kd_Jd_judgeDeclaration_272 : decode kc_Jd_judgeDeclaration 272 = .ok (.iload 5, 2) := by decide +kernel
theorem kd_Jd_judgeDeclaration_274 : decode kc_Jd_judgeDeclaration 274 = .ok (.bipush 10, 2) := by decide +kernel
theorem kd_Jd_judgeDeclaration_276 : decode kc_Jd_judgeDeclaration 276 = .ok (.if_icmp .eq 19, 3) := by decide +kernel
theorem kd_Jd_judgeDeclaration_279 : decode kc_Jd_judgeDeclaration 279 = .ok (.iload 8, 2) := by decide +kernel
theorem kd_Jd_judgeDeclaration_281 : decode kc_Jd_judgeDeclaration 281 = .ok (.ifCond .ne 14, 3) := by decide +kernel
theorem kd_Jd_judgeDeclaration_284 : decode kc_Jd_judgeDeclaration 284 = .ok (.aload_n 0, 1) := by decide +kernel
theorem kd_Jd_judgeDeclaration_285 : decode kc_Jd_judgeDeclaration 285 = .ok (.iload 6, 2) := by decide +kernel
theorem kd_Jd_judgeDeclaration_287 : decode kc_Jd_judgeDeclaration 287 = .ok (.iload 4, 2) := by decide +kernel
theorem kd_Jd_judgeDeclaration_289 : decode kc_Jd_judgeDeclaration 289 = .ok (.invokevirtual 232, 3) := by decide +kernel
theorem kd_Jd_judgeDeclaration_292 : decode kc_Jd_judgeDeclaration 292 = .ok (.ifCond .ne 7, 3) := by decide +kernel
theorem kd_Jd_judgeDeclaration_295 : decode kc_Jd_judgeDeclaration 295 = .ok (.iconst 1, 1) := by decide +kernel
theorem kd_Jd_judgeDeclaration_296 : decode kc_Jd_judgeDeclaration 296 = .ok (.goto 4, 3) := by decide +kernel
theorem kd_Jd_judgeDeclaration_299 : decode kc_Jd_judgeDeclaration 299 = .ok (.iconst 0, 1) := by decide +kernel
theorem kd_Jd_judgeDeclaration_300 : decode kc_Jd_judgeDeclaration 300 = .ok (.istore 9, 2) := by decide +kernel
theorem kd_Jd_judgeDeclaration_302 : decode kc_Jd_judgeDeclaration 302 = .ok (.aload_n 0, 1) := by decide +kernel
theorem kd_Jd_judgeDeclaration_303 : decode kc_Jd_judgeDeclaration 303 = .ok (.iload 9, 2) := by decide +kernel
theorem kd_Jd_judgeDeclaration_305 : decode kc_Jd_judgeDeclaration 305 = .ok (.bipush 18, 2) := by decide +kernel
theorem kd_Jd_judgeDeclaration_307 : decode kc_Jd_judgeDeclaration 307 = .ok (.iload_n 1, 1) := by decide +kernel
theorem kd_Jd_judgeDeclaration_308 : decode kc_Jd_judgeDeclaration 308 = .ok (.invokevirtual 112, 3) := by decide +kernel
theorem kd_Jd_judgeDeclaration_311 : decode kc_Jd_judgeDeclaration 311 = .ok (.aload_n 0, 1) := by decide +kernel
theorem kd_Jd_judgeDeclaration_312 : decode kc_Jd_judgeDeclaration 312 = .ok (.getfield 29, 3) := by decide +kernel
theorem kd_Jd_judgeDeclaration_315 : decode kc_Jd_judgeDeclaration 315 = .ok (.ifCond .ne 31, 3) := by decide +kernel
theorem kd_Jd_judgeDeclaration_318 : decode kc_Jd_judgeDeclaration 318 = .ok (.aload_n 0, 1) := by decide +kernel
theorem kd_Jd_judgeDeclaration_319 : decode kc_Jd_judgeDeclaration 319 = .ok (.iload_n 2, 1) := by decide +kernel
theorem kd_Jd_judgeDeclaration_320 : decode kc_Jd_judgeDeclaration 320 = .ok (.iload 6, 2) := by decide +kernel
theorem kd_Jd_judgeDeclaration_322 : decode kc_Jd_judgeDeclaration 322 = .ok (.iload_n 3, 1) := by decide +kernel
theorem kd_Jd_judgeDeclaration_323 : decode kc_Jd_judgeDeclaration 323 = .ok (.iload 4, 2) := by decide +kernel
theorem kd_Jd_judgeDeclaration_325 : decode kc_Jd_judgeDeclaration 325 = .ok (.iconst (-1), 1) := by decide +kernel
theorem kd_Jd_judgeDeclaration_326 : decode kc_Jd_judgeDeclaration 326 = .ok (.if_icmp .ne 7, 3) := by decide +kernel
theorem kd_Jd_judgeDeclaration_329 : decode kc_Jd_judgeDeclaration 329 = .ok (.iconst 0, 1) := by decide +kernel
theorem kd_Jd_judgeDeclaration_330 : decode kc_Jd_judgeDeclaration 330 = .ok (.goto 13, 3) := by decide +kernel
theorem kd_Jd_judgeDeclaration_333 : decode kc_Jd_judgeDeclaration 333 = .ok (.aload_n 0, 1) := by decide +kernel
theorem kd_Jd_judgeDeclaration_334 : decode kc_Jd_judgeDeclaration 334 = .ok (.getfield 9, 3) := by decide +kernel
theorem kd_Jd_judgeDeclaration_337 : decode kc_Jd_judgeDeclaration 337 = .ok (.getfield 78, 3) := by decide +kernel
theorem kd_Jd_judgeDeclaration_340 : decode kc_Jd_judgeDeclaration 340 = .ok (.iload 4, 2) := by decide +kernel
theorem kd_Jd_judgeDeclaration_342 : decode kc_Jd_judgeDeclaration 342 = .ok (.iaload, 1) := by decide +kernel
theorem kd_Jd_judgeDeclaration_343 : decode kc_Jd_judgeDeclaration 343 = .ok (.invokevirtual 236, 3) := by decide +kernel
theorem kd_Jd_judgeDeclaration_346 : decode kc_Jd_judgeDeclaration 346 = .ok (.aload_n 0, 1) := by decide +kernel
theorem kd_Jd_judgeDeclaration_347 : decode kc_Jd_judgeDeclaration 347 = .ok (.aload_n 0, 1) := by decide +kernel
theorem kd_Jd_judgeDeclaration_348 : decode kc_Jd_judgeDeclaration 348 = .ok (.getfield 15, 3) := by decide +kernel
theorem kd_Jd_judgeDeclaration_351 : decode kc_Jd_judgeDeclaration 351 = .ok (.getfield 139, 3) := by decide +kernel
theorem kd_Jd_judgeDeclaration_354 : decode kc_Jd_judgeDeclaration 354 = .ok (.aload_n 0, 1) := by decide +kernel
theorem kd_Jd_judgeDeclaration_355 : decode kc_Jd_judgeDeclaration 355 = .ok (.getfield 129, 3) := by decide +kernel
theorem kd_Jd_judgeDeclaration_358 : decode kc_Jd_judgeDeclaration 358 = .ok (.iaload, 1) := by decide +kernel
theorem kd_Jd_judgeDeclaration_359 : decode kc_Jd_judgeDeclaration 359 = .ok (.sipush 4096, 3) := by decide +kernel
theorem kd_Jd_judgeDeclaration_362 : decode kc_Jd_judgeDeclaration 362 = .ok (.if_icmp .le 7, 3) := by decide +kernel
theorem kd_Jd_judgeDeclaration_365 : decode kc_Jd_judgeDeclaration 365 = .ok (.iconst 1, 1) := by decide +kernel
theorem kd_Jd_judgeDeclaration_366 : decode kc_Jd_judgeDeclaration 366 = .ok (.goto 4, 3) := by decide +kernel
theorem kd_Jd_judgeDeclaration_369 : decode kc_Jd_judgeDeclaration 369 = .ok (.iconst 0, 1) := by decide +kernel
theorem kd_Jd_judgeDeclaration_370 : decode kc_Jd_judgeDeclaration 370 = .ok (.bipush 19, 2) := by decide +kernel
theorem kd_Jd_judgeDeclaration_372 : decode kc_Jd_judgeDeclaration 372 = .ok (.iload_n 1, 1) := by decide +kernel
theorem kd_Jd_judgeDeclaration_373 : decode kc_Jd_judgeDeclaration 373 = .ok (.invokevirtual 112, 3) := by decide +kernel
theorem kd_Jd_judgeDeclaration_376 : decode kc_Jd_judgeDeclaration 376 = .ok (.return_, 1) := by decide +kernel
theorem kd_Jd_judgeSection_0 : decode kc_Jd_judgeSection 0 = .ok (.aload_n 0, 1) := by decide +kernel
theorem kd_Jd_judgeSection_1 : decode kc_Jd_judgeSection 1 = .ok (.getfield 15, 3) := by decide +kernel
theorem kd_Jd_judgeSection_4 : decode kc_Jd_judgeSection 4 = .ok (.getfield 219, 3) := by decide +kernel
theorem kd_Jd_judgeSection_7 : decode kc_Jd_judgeSection 7 = .ok (.aload_n 0, 1) := by decide +kernel
theorem kd_Jd_judgeSection_8 : decode kc_Jd_judgeSection 8 = .ok (.getfield 129, 3) := by decide +kernel
theorem kd_Jd_judgeSection_11 : decode kc_Jd_judgeSection 11 = .ok (.iaload, 1) := by decide +kernel
theorem kd_Jd_judgeSection_12 : decode kc_Jd_judgeSection 12 = .ok (.iconst 3, 1) := by decide +kernel
theorem kd_Jd_judgeSection_13 : decode kc_Jd_judgeSection 13 = .ok (.if_icmp .ne 10, 3) := by decide +kernel
theorem kd_Jd_judgeSection_16 : decode kc_Jd_judgeSection 16 = .ok (.aload_n 0, 1) := by decide +kernel
theorem kd_Jd_judgeSection_17 : decode kc_Jd_judgeSection 17 = .ok (.getfield 81, 3) := by decide +kernel
theorem kd_Jd_judgeSection_20 : decode kc_Jd_judgeSection 20 = .ok (.ifCond .ne 27, 3) := by decide +kernel
theorem kd_Jd_judgeSection_23 : decode kc_Jd_judgeSection 23 = .ok (.aload_n 0, 1) := by decide +kernel
theorem kd_Jd_judgeSection_24 : decode kc_Jd_judgeSection 24 = .ok (.getfield 15, 3) := by decide +kernel
theorem kd_Jd_judgeSection_27 : decode kc_Jd_judgeSection 27 = .ok (.getfield 219, 3) := by decide +kernel
theorem kd_Jd_judgeSection_30 : decode kc_Jd_judgeSection 30 = .ok (.aload_n 0, 1) := by decide +kernel
theorem kd_Jd_judgeSection_31 : decode kc_Jd_judgeSection 31 = .ok (.getfield 129, 3) := by decide +kernel
theorem kd_Jd_judgeSection_34 : decode kc_Jd_judgeSection 34 = .ok (.iaload, 1) := by decide +kernel
theorem kd_Jd_judgeSection_35 : decode kc_Jd_judgeSection 35 = .ok (.iconst 1, 1) := by decide +kernel
theorem kd_Jd_judgeSection_36 : decode kc_Jd_judgeSection 36 = .ok (.if_icmp .ne 15, 3) := by decide +kernel
theorem kd_Jd_judgeSection_39 : decode kc_Jd_judgeSection 39 = .ok (.aload_n 0, 1) := by decide +kernel
theorem kd_Jd_judgeSection_40 : decode kc_Jd_judgeSection 40 = .ok (.getfield 81, 3) := by decide +kernel
theorem kd_Jd_judgeSection_43 : decode kc_Jd_judgeSection 43 = .ok (.iconst 2, 1) := by decide +kernel
theorem kd_Jd_judgeSection_44 : decode kc_Jd_judgeSection 44 = .ok (.if_icmp .ne 7, 3) := by decide +kernel
theorem kd_Jd_judgeSection_47 : decode kc_Jd_judgeSection 47 = .ok (.iconst 1, 1) := by decide +kernel
theorem kd_Jd_judgeSection_48 : decode kc_Jd_judgeSection 48 = .ok (.goto 4, 3) := by decide +kernel
theorem kd_Jd_judgeSection_51 : decode kc_Jd_judgeSection 51 = .ok (.iconst 0, 1) := by decide +kernel
theorem kd_Jd_judgeSection_52 : decode kc_Jd_judgeSection 52 = .ok (.istore_n 2, 1) := by decide +kernel
theorem kd_Jd_judgeSection_53 : decode kc_Jd_judgeSection 53 = .ok (.aload_n 0, 1) := by decide +kernel
theorem kd_Jd_judgeSection_54 : decode kc_Jd_judgeSection 54 = .ok (.iload_n 2, 1) := by decide +kernel
theorem kd_Jd_judgeSection_55 : decode kc_Jd_judgeSection 55 = .ok (.bipush 13, 2) := by decide +kernel
theorem kd_Jd_judgeSection_57 : decode kc_Jd_judgeSection 57 = .ok (.iload_n 1, 1) := by decide +kernel
theorem kd_Jd_judgeSection_58 : decode kc_Jd_judgeSection 58 = .ok (.invokevirtual 112, 3) := by decide +kernel
theorem kd_Jd_judgeSection_61 : decode kc_Jd_judgeSection 61 = .ok (.return_, 1) := by decide +kernel
theorem kd_Jd_judgeVariable_0 : decode kc_Jd_judgeVariable 0 = .ok (.aload_n 0, 1) := by decide +kernel
theorem kd_Jd_judgeVariable_1 : decode kc_Jd_judgeVariable 1 = .ok (.getfield 9, 3) := by decide +kernel
theorem kd_Jd_judgeVariable_4 : decode kc_Jd_judgeVariable 4 = .ok (.getfield 71, 3) := by decide +kernel
theorem kd_Jd_judgeVariable_7 : decode kc_Jd_judgeVariable 7 = .ok (.iload_n 1, 1) := by decide +kernel
theorem kd_Jd_judgeVariable_8 : decode kc_Jd_judgeVariable 8 = .ok (.baload, 1) := by decide +kernel
theorem kd_Jd_judgeVariable_9 : decode kc_Jd_judgeVariable 9 = .ok (.istore_n 2, 1) := by decide +kernel
theorem kd_Jd_judgeVariable_10 : decode kc_Jd_judgeVariable 10 = .ok (.iload_n 2, 1) := by decide +kernel
theorem kd_Jd_judgeVariable_11 : decode kc_Jd_judgeVariable 11 = .ok (.bipush 6, 2) := by decide +kernel
theorem kd_Jd_judgeVariable_13 : decode kc_Jd_judgeVariable 13 = .ok (.if_icmp .ne 7, 3) := by decide +kernel
theorem kd_Jd_judgeVariable_16 : decode kc_Jd_judgeVariable 16 = .ok (.iconst (-1), 1) := by decide +kernel
theorem kd_Jd_judgeVariable_17 : decode kc_Jd_judgeVariable 17 = .ok (.goto 15, 3) := by decide +kernel
theorem kd_Jd_judgeVariable_20 : decode kc_Jd_judgeVariable 20 = .ok (.iload_n 2, 1) := by decide +kernel
theorem kd_Jd_judgeVariable_21 : decode kc_Jd_judgeVariable 21 = .ok (.bipush 32, 2) := by decide +kernel
theorem kd_Jd_judgeVariable_23 : decode kc_Jd_judgeVariable 23 = .ok (.if_icmp .ne 8, 3) := by decide +kernel
theorem kd_Jd_judgeVariable_26 : decode kc_Jd_judgeVariable 26 = .ok (.bipush (-2), 2) := by decide +kernel
theorem kd_Jd_judgeVariable_28 : decode kc_Jd_judgeVariable 28 = .ok (.goto 4, 3) := by decide +kernel
theorem kd_Jd_judgeVariable_31 : decode kc_Jd_judgeVariable 31 = .ok (.iconst 0, 1) := by decide +kernel
theorem kd_Jd_judgeVariable_32 : decode kc_Jd_judgeVariable 32 = .ok (.istore_n 3, 1) := by decide +kernel
theorem kd_Jd_judgeVariable_33 : decode kc_Jd_judgeVariable 33 = .ok (.aload_n 0, 1) := by decide +kernel
theorem kd_Jd_judgeVariable_34 : decode kc_Jd_judgeVariable 34 = .ok (.iload_n 1, 1) := by decide +kernel
theorem kd_Jd_judgeVariable_35 : decode kc_Jd_judgeVariable 35 = .ok (.iload_n 3, 1) := by decide +kernel
theorem kd_Jd_judgeVariable_36 : decode kc_Jd_judgeVariable 36 = .ok (.invokevirtual 172, 3) := by decide +kernel
theorem kd_Jd_judgeVariable_39 : decode kc_Jd_judgeVariable 39 = .ok (.istore 4, 2) := by decide +kernel
theorem kd_Jd_judgeVariable_41 : decode kc_Jd_judgeVariable 41 = .ok (.aload_n 0, 1) := by decide +kernel
theorem kd_Jd_judgeVariable_42 : decode kc_Jd_judgeVariable 42 = .ok (.getfield 29, 3) := by decide +kernel
theorem kd_Jd_judgeVariable_45 : decode kc_Jd_judgeVariable 45 = .ok (.ifCond .eq 4, 3) := by decide +kernel
theorem kd_Jd_judgeVariable_48 : decode kc_Jd_judgeVariable 48 = .ok (.return_, 1) := by decide +kernel
theorem kd_Jd_judgeVariable_49 : decode kc_Jd_judgeVariable 49 = .ok (.aload_n 0, 1) := by decide +kernel
theorem kd_Jd_judgeVariable_50 : decode kc_Jd_judgeVariable 50 = .ok (.getfield 9, 3) := by decide +kernel
theorem kd_Jd_judgeVariable_53 : decode kc_Jd_judgeVariable 53 = .ok (.getfield 49, 3) := by decide +kernel
theorem kd_Jd_judgeVariable_56 : decode kc_Jd_judgeVariable 56 = .ok (.iload_n 1, 1) := by decide +kernel
theorem kd_Jd_judgeVariable_57 : decode kc_Jd_judgeVariable 57 = .ok (.iaload, 1) := by decide +kernel
theorem kd_Jd_judgeVariable_58 : decode kc_Jd_judgeVariable 58 = .ok (.istore 5, 2) := by decide +kernel
theorem kd_Jd_judgeVariable_60 : decode kc_Jd_judgeVariable 60 = .ok (.aload_n 0, 1) := by decide +kernel
theorem kd_Jd_judgeVariable_61 : decode kc_Jd_judgeVariable 61 = .ok (.getfield 9, 3) := by decide +kernel
theorem kd_Jd_judgeVariable_64 : decode kc_Jd_judgeVariable 64 = .ok (.getfield 78, 3) := by decide +kernel
theorem kd_Jd_judgeVariable_67 : decode kc_Jd_judgeVariable 67 = .ok (.iload_n 1, 1) := by decide +kernel
theorem kd_Jd_judgeVariable_68 : decode kc_Jd_judgeVariable 68 = .ok (.iload 4, 2) := by decide +kernel
theorem kd_Jd_judgeVariable_70 : decode kc_Jd_judgeVariable 70 = .ok (.iastore, 1) := by decide +kernel
theorem kd_Jd_judgeVariable_71 : decode kc_Jd_judgeVariable 71 = .ok (.aload_n 0, 1) := by decide +kernel
theorem kd_Jd_judgeVariable_72 : decode kc_Jd_judgeVariable 72 = .ok (.getfield 9, 3) := by decide +kernel
theorem kd_Jd_judgeVariable_75 : decode kc_Jd_judgeVariable 75 = .ok (.getfield 178, 3) := by decide +kernel
theorem kd_Jd_judgeVariable_78 : decode kc_Jd_judgeVariable 78 = .ok (.iload_n 1, 1) := by decide +kernel
theorem kd_Jd_judgeVariable_79 : decode kc_Jd_judgeVariable 79 = .ok (.aload_n 0, 1) := by decide +kernel
theorem kd_Jd_judgeVariable_80 : decode kc_Jd_judgeVariable 80 = .ok (.getfield 15, 3) := by decide +kernel
theorem kd_Jd_judgeVariable_83 : decode kc_Jd_judgeVariable 83 = .ok (.getfield 132, 3) := by decide +kernel
theorem kd_Jd_judgeVariable_86 : decode kc_Jd_judgeVariable 86 = .ok (.iload 4, 2) := by decide +kernel
theorem kd_Jd_judgeVariable_88 : decode kc_Jd_judgeVariable 88 = .ok (.iaload, 1) := by decide +kernel
theorem kd_Jd_judgeVariable_89 : decode kc_Jd_judgeVariable 89 = .ok (.i2b, 1) := by decide +kernel
theorem kd_Jd_judgeVariable_90 : decode kc_Jd_judgeVariable 90 = .ok (.bastore, 1) := by decide +kernel
theorem kd_Jd_judgeVariable_91 : decode kc_Jd_judgeVariable 91 = .ok (.iload_n 2, 1) := by decide +kernel
theorem kd_Jd_judgeVariable_92 : decode kc_Jd_judgeVariable 92 = .ok (.bipush 32, 2) := by decide +kernel
theorem kd_Jd_judgeVariable_94 : decode kc_Jd_judgeVariable 94 = .ok (.if_icmp .ne 28, 3) := by decide +kernel
theorem kd_Jd_judgeVariable_97 : decode kc_Jd_judgeVariable 97 = .ok (.aload_n 0, 1) := by decide +kernel
theorem kd_Jd_judgeVariable_98 : decode kc_Jd_judgeVariable 98 = .ok (.aload_n 0, 1) := by decide +kernel
theorem kd_Jd_judgeVariable_99 : decode kc_Jd_judgeVariable 99 = .ok (.getfield 9, 3) := by decide +kernel
theorem kd_Jd_judgeVariable_102 : decode kc_Jd_judgeVariable 102 = .ok (.getfield 178, 3) := by decide +kernel
theorem kd_Jd_judgeVariable_105 : decode kc_Jd_judgeVariable 105 = .ok (.iload 5, 2) := by decide +kernel
theorem kd_Jd_judgeVariable_107 : decode kc_Jd_judgeVariable 107 = .ok (.baload, 1) := by decide +kernel
theorem kd_Jd_judgeVariable_108 : decode kc_Jd_judgeVariable 108 = .ok (.ifCond .ne 7, 3) := by decide +kernel
theorem kd_Jd_judgeVariable_111 : decode kc_Jd_judgeVariable 111 = .ok (.iconst 1, 1) := by decide +kernel
theorem kd_Jd_judgeVariable_112 : decode kc_Jd_judgeVariable 112 = .ok (.goto 4, 3) := by decide +kernel
theorem kd_Jd_judgeVariable_115 : decode kc_Jd_judgeVariable 115 = .ok (.iconst 0, 1) := by decide +kernel
theorem kd_Jd_judgeVariable_116 : decode kc_Jd_judgeVariable 116 = .ok (.bipush 22, 2) := by decide +kernel
theorem kd_Jd_judgeVariable_118 : decode kc_Jd_judgeVariable 118 = .ok (.iload_n 1, 1) := by decide +kernel
theorem kd_Jd_judgeVariable_119 : decode kc_Jd_judgeVariable 119 = .ok (.invokevirtual 112, 3) := by decide +kernel
theorem kd_Jd_judgeVariable_122 : decode kc_Jd_judgeVariable 122 = .ok (.iload_n 2, 1) := by decide +kernel
theorem kd_Jd_judgeVariable_123 : decode kc_Jd_judgeVariable 123 = .ok (.bipush 33, 2) := by decide +kernel
theorem kd_Jd_judgeVariable_125 : decode kc_Jd_judgeVariable 125 = .ok (.if_icmp .ne 100, 3) := by decide +kernel
theorem kd_Jd_judgeVariable_128 : decode kc_Jd_judgeVariable 128 = .ok (.aload_n 0, 1) := by decide +kernel
theorem kd_Jd_judgeVariable_129 : decode kc_Jd_judgeVariable 129 = .ok (.getfield 15, 3) := by decide +kernel
theorem kd_Jd_judgeVariable_132 : decode kc_Jd_judgeVariable 132 = .ok (.aload_n 0, 1) := by decide +kernel
theorem kd_Jd_judgeVariable_133 : decode kc_Jd_judgeVariable 133 = .ok (.getfield 15, 3) := by decide +kernel
theorem kd_Jd_judgeVariable_136 : decode kc_Jd_judgeVariable 136 = .ok (.getfield 100, 3) := by decide +kernel
theorem kd_Jd_judgeVariable_139 : decode kc_Jd_judgeVariable 139 = .ok (.iload 4, 2) := by decide +kernel
theorem kd_Jd_judgeVariable_141 : decode kc_Jd_judgeVariable 141 = .ok (.iaload, 1) := by decide +kernel
theorem kd_Jd_judgeVariable_142 : decode kc_Jd_judgeVariable 142 = .ok (.aload_n 0, 1) := by decide +kernel
theorem kd_Jd_judgeVariable_143 : decode kc_Jd_judgeVariable 143 = .ok (.getfield 9, 3) := by decide +kernel
theorem kd_Jd_judgeVariable_146 : decode kc_Jd_judgeVariable 146 = .ok (.getfield 78, 3) := by decide +kernel
theorem kd_Jd_judgeVariable_149 : decode kc_Jd_judgeVariable 149 = .ok (.iload 5, 2) := by decide +kernel
theorem kd_Jd_judgeVariable_151 : decode kc_Jd_judgeVariable 151 = .ok (.iaload, 1) := by decide +kernel
theorem kd_Jd_judgeVariable_152 : decode kc_Jd_judgeVariable 152 = .ok (.invokevirtual 255, 3) := by decide +kernel
theorem kd_Jd_judgeVariable_155 : decode kc_Jd_judgeVariable 155 = .ok (.istore 6, 2) := by decide +kernel
theorem kd_Jd_judgeVariable_157 : decode kc_Jd_judgeVariable 157 = .ok (.iload 6, 2) := by decide +kernel
theorem kd_Jd_judgeVariable_159 : decode kc_Jd_judgeVariable 159 = .ok (.iconst (-1), 1) := by decide +kernel
theorem kd_Jd_judgeVariable_160 : decode kc_Jd_judgeVariable 160 = .ok (.if_icmp .eq 17, 3) := by decide +kernel
theorem kd_Jd_judgeVariable_163 : decode kc_Jd_judgeVariable 163 = .ok (.aload_n 0, 1) := by decide +kernel
theorem kd_Jd_judgeVariable_164 : decode kc_Jd_judgeVariable 164 = .ok (.getfield 15, 3) := by decide +kernel
theorem kd_Jd_judgeVariable_167 : decode kc_Jd_judgeVariable 167 = .ok (.getfield 258, 3) := by decide +kernel
theorem kd_Jd_judgeVariable_170 : decode kc_Jd_judgeVariable 170 = .ok (.iload 6, 2) := by decide +kernel
theorem kd_Jd_judgeVariable_172 : decode kc_Jd_judgeVariable 172 = .ok (.iaload, 1) := by decide +kernel
theorem kd_Jd_judgeVariable_173 : decode kc_Jd_judgeVariable 173 = .ok (.iconst 2, 1) := by decide +kernel
theorem kd_Jd_judgeVariable_174 : decode kc_Jd_judgeVariable 174 = .ok (.if_icmp .eq 11, 3) := by decide +kernel
theorem kd_Jd_judgeVariable_177 : decode kc_Jd_judgeVariable 177 = .ok (.aload_n 0, 1) := by decide +kernel
theorem kd_Jd_judgeVariable_178 : decode kc_Jd_judgeVariable 178 = .ok (.bipush 23, 2) := by decide +kernel
theorem kd_Jd_judgeVariable_180 : decode kc_Jd_judgeVariable 180 = .ok (.iload_n 1, 1) := by decide +kernel
theorem kd_Jd_judgeVariable_181 : decode kc_Jd_judgeVariable 181 = .ok (.invokevirtual 68, 3) := by decide +kernel
theorem kd_Jd_judgeVariable_184 : decode kc_Jd_judgeVariable 184 = .ok (.return_, 1) := by decide +kernel
theorem kd_Jd_judgeVariable_185 : decode kc_Jd_judgeVariable 185 = .ok (.aload_n 0, 1) := by decide +kernel
theorem kd_Jd_judgeVariable_186 : decode kc_Jd_judgeVariable 186 = .ok (.getfield 9, 3) := by decide +kernel
theorem kd_Jd_judgeVariable_189 : decode kc_Jd_judgeVariable 189 = .ok (.getfield 78, 3) := by decide +kernel
theorem kd_Jd_judgeVariable_192 : decode kc_Jd_judgeVariable 192 = .ok (.iload 5, 2) := by decide +kernel
theorem kd_Jd_judgeVariable_194 : decode kc_Jd_judgeVariable 194 = .ok (.aload_n 0, 1) := by decide +kernel
theorem kd_Jd_judgeVariable_195 : decode kc_Jd_judgeVariable 195 = .ok (.getfield 15, 3) := by decide +kernel
theorem kd_Jd_judgeVariable_198 : decode kc_Jd_judgeVariable 198 = .ok (.getfield 252, 3) := by decide +kernel
theorem kd_Jd_judgeVariable_201 : decode kc_Jd_judgeVariable 201 = .ok (.iload 6, 2) := by decide +kernel
theorem kd_Jd_judgeVariable_203 : decode kc_Jd_judgeVariable 203 = .ok (.iaload, 1) := by decide +kernel
theorem kd_Jd_judgeVariable_204 : decode kc_Jd_judgeVariable 204 = .ok (.iastore, 1) := by decide +kernel
theorem kd_Jd_judgeVariable_205 : decode kc_Jd_judgeVariable 205 = .ok (.aload_n 0, 1) := by decide +kernel
theorem kd_Jd_judgeVariable_206 : decode kc_Jd_judgeVariable 206 = .ok (.getfield 9, 3) := by decide +kernel
theorem kd_Jd_judgeVariable_209 : decode kc_Jd_judgeVariable 209 = .ok (.getfield 178, 3) := by decide +kernel
theorem kd_Jd_judgeVariable_212 : decode kc_Jd_judgeVariable 212 = .ok (.iload_n 1, 1) := by decide +kernel
theorem kd_Jd_judgeVariable_213 : decode kc_Jd_judgeVariable 213 = .ok (.aload_n 0, 1) := by decide +kernel
theorem kd_Jd_judgeVariable_214 : decode kc_Jd_judgeVariable 214 = .ok (.getfield 15, 3) := by decide +kernel
theorem kd_Jd_judgeVariable_217 : decode kc_Jd_judgeVariable 217 = .ok (.getfield 132, 3) := by decide +kernel
theorem kd_Jd_judgeVariable_220 : decode kc_Jd_judgeVariable 220 = .ok (.iload 6, 2) := by decide +kernel
theorem kd_Jd_judgeVariable_222 : decode kc_Jd_judgeVariable 222 = .ok (.iaload, 1) := by decide +kernel
theorem kd_Jd_judgeVariable_223 : decode kc_Jd_judgeVariable 223 = .ok (.i2b, 1) := by decide +kernel
theorem kd_Jd_judgeVariable_224 : decode kc_Jd_judgeVariable 224 = .ok (.bastore, 1) := by decide +kernel
theorem kd_Jd_judgeVariable_225 : decode kc_Jd_judgeVariable 225 = .ok (.return_, 1) := by decide +kernel
theorem kd_Jd_leaveBlock_0 : decode kc_Jd_leaveBlock 0 = .ok (.aload_n 0, 1) := by decide +kernel
theorem kd_Jd_leaveBlock_1 : decode kc_Jd_leaveBlock 1 = .ok (.getfield 15, 3) := by decide +kernel
theorem kd_Jd_leaveBlock_4 : decode kc_Jd_leaveBlock 4 = .ok (.getfield 213, 3) := by decide +kernel
theorem kd_Jd_leaveBlock_7 : decode kc_Jd_leaveBlock 7 = .ok (.aload_n 0, 1) := by decide +kernel
theorem kd_Jd_leaveBlock_8 : decode kc_Jd_leaveBlock 8 = .ok (.getfield 129, 3) := by decide +kernel
theorem kd_Jd_leaveBlock_11 : decode kc_Jd_leaveBlock 11 = .ok (.aload_n 0, 1) := by decide +kernel
theorem kd_Jd_leaveBlock_12 : decode kc_Jd_leaveBlock 12 = .ok (.getfield 15, 3) := by decide +kernel
theorem kd_Jd_leaveBlock_15 : decode kc_Jd_leaveBlock 15 = .ok (.getfield 139, 3) := by decide +kernel
theorem kd_Jd_leaveBlock_18 : decode kc_Jd_leaveBlock 18 = .ok (.aload_n 0, 1) := by decide +kernel
theorem kd_Jd_leaveBlock_19 : decode kc_Jd_leaveBlock 19 = .ok (.getfield 129, 3) := by decide +kernel
theorem kd_Jd_leaveBlock_22 : decode kc_Jd_leaveBlock 22 = .ok (.iaload, 1) := by decide +kernel
theorem kd_Jd_leaveBlock_23 : decode kc_Jd_leaveBlock 23 = .ok (.aload_n 0, 1) := by decide +kernel
theorem kd_Jd_leaveBlock_24 : decode kc_Jd_leaveBlock 24 = .ok (.getfield 103, 3) := by decide +kernel
theorem kd_Jd_leaveBlock_27 : decode kc_Jd_leaveBlock 27 = .ok (.iadd, 1) := by decide +kernel
theorem kd_Jd_leaveBlock_28 : decode kc_Jd_leaveBlock 28 = .ok (.iastore, 1) := by decide +kernel
theorem kd_Jd_leaveBlock_29 : decode kc_Jd_leaveBlock 29 = .ok (.aload_n 0, 1) := by decide +kernel
theorem kd_Jd_leaveBlock_30 : decode kc_Jd_leaveBlock 30 = .ok (.aload_n 0, 1) := by decide +kernel
theorem kd_Jd_leaveBlock_31 : decode kc_Jd_leaveBlock 31 = .ok (.getfield 9, 3) := by decide +kernel
theorem kd_Jd_leaveBlock_34 : decode kc_Jd_leaveBlock 34 = .ok (.getfield 71, 3) := by decide +kernel
theorem kd_Jd_leaveBlock_37 : decode kc_Jd_leaveBlock 37 = .ok (.iload_n 1, 1) := by decide +kernel
theorem kd_Jd_leaveBlock_38 : decode kc_Jd_leaveBlock 38 = .ok (.baload, 1) := by decide +kernel
theorem kd_Jd_leaveBlock_39 : decode kc_Jd_leaveBlock 39 = .ok (.iconst 1, 1) := by decide +kernel
theorem kd_Jd_leaveBlock_40 : decode kc_Jd_leaveBlock 40 = .ok (.if_icmp .ne 23, 3) := by decide +kernel
theorem kd_Jd_leaveBlock_43 : decode kc_Jd_leaveBlock 43 = .ok (.aload_n 0, 1) := by decide +kernel
theorem kd_Jd_leaveBlock_44 : decode kc_Jd_leaveBlock 44 = .ok (.getfield 15, 3) := by decide +kernel
theorem kd_Jd_leaveBlock_47 : decode kc_Jd_leaveBlock 47 = .ok (.aload_n 0, 1) := by decide +kernel
theorem kd_Jd_leaveBlock_48 : decode kc_Jd_leaveBlock 48 = .ok (.getfield 129, 3) := by decide +kernel
theorem kd_Jd_leaveBlock_51 : decode kc_Jd_leaveBlock 51 = .ok (.invokevirtual 216, 3) := by decide +kernel
theorem kd_Jd_leaveBlock_54 : decode kc_Jd_leaveBlock 54 = .ok (.bipush 8, 2) := by decide +kernel
theorem kd_Jd_leaveBlock_56 : decode kc_Jd_leaveBlock 56 = .ok (.if_icmp .le 7, 3) := by decide +kernel
theorem kd_Jd_leaveBlock_59 : decode kc_Jd_leaveBlock 59 = .ok (.iconst 1, 1) := by decide +kernel
theorem kd_Jd_leaveBlock_60 : decode kc_Jd_leaveBlock 60 = .ok (.goto 4, 3) := by decide +kernel
theorem kd_Jd_leaveBlock_63 : decode kc_Jd_leaveBlock 63 = .ok (.iconst 0, 1) := by decide +kernel
theorem kd_Jd_leaveBlock_64 : decode kc_Jd_leaveBlock 64 = .ok (.bipush 44, 2) := by decide +kernel
theorem kd_Jd_leaveBlock_66 : decode kc_Jd_leaveBlock 66 = .ok (.iload_n 1, 1) := by decide +kernel
theorem kd_Jd_leaveBlock_67 : decode kc_Jd_leaveBlock 67 = .ok (.invokevirtual 112, 3) := by decide +kernel
theorem kd_Jd_leaveBlock_70 : decode kc_Jd_leaveBlock 70 = .ok (.return_, 1) := by decide +kernel
theorem kd_Jd_leaveText_0 : decode kc_Jd_leaveText 0 = .ok (.aload_n 0, 1) := by decide +kernel
theorem kd_Jd_leaveText_1 : decode kc_Jd_leaveText 1 = .ok (.getfield 15, 3) := by decide +kernel
theorem kd_Jd_leaveText_4 : decode kc_Jd_leaveText 4 = .ok (.invokevirtual 207, 3) := by decide +kernel
theorem kd_Jd_leaveText_7 : decode kc_Jd_leaveText 7 = .ok (.aload_n 0, 1) := by decide +kernel
theorem kd_Jd_leaveText_8 : decode kc_Jd_leaveText 8 = .ok (.aload_n 0, 1) := by decide +kernel
theorem kd_Jd_leaveText_9 : decode kc_Jd_leaveText 9 = .ok (.getfield 15, 3) := by decide +kernel
theorem kd_Jd_leaveText_12 : decode kc_Jd_leaveText 12 = .ok (.getfield 109, 3) := by decide +kernel
theorem kd_Jd_leaveText_15 : decode kc_Jd_leaveText 15 = .ok (.iconst (-1), 1) := by decide +kernel
theorem kd_Jd_leaveText_16 : decode kc_Jd_leaveText 16 = .ok (.if_icmp .ne 7, 3) := by decide +kernel
theorem kd_Jd_leaveText_19 : decode kc_Jd_leaveText 19 = .ok (.iconst 1, 1) := by decide +kernel
theorem kd_Jd_leaveText_20 : decode kc_Jd_leaveText 20 = .ok (.goto 4, 3) := by decide +kernel
theorem kd_Jd_leaveText_23 : decode kc_Jd_leaveText 23 = .ok (.iconst 0, 1) := by decide +kernel
theorem kd_Jd_leaveText_24 : decode kc_Jd_leaveText 24 = .ok (.bipush 10, 2) := by decide +kernel
theorem kd_Jd_leaveText_26 : decode kc_Jd_leaveText 26 = .ok (.iload_n 1, 1) := by decide +kernel
theorem kd_Jd_leaveText_27 : decode kc_Jd_leaveText 27 = .ok (.invokevirtual 112, 3) := by decide +kernel
theorem kd_Jd_leaveText_30 : decode kc_Jd_leaveText 30 = .ok (.aload_n 0, 1) := by decide +kernel
theorem kd_Jd_leaveText_31 : decode kc_Jd_leaveText 31 = .ok (.aload_n 0, 1) := by decide +kernel
theorem kd_Jd_leaveText_32 : decode kc_Jd_leaveText 32 = .ok (.getfield 15, 3) := by decide +kernel
theorem kd_Jd_leaveText_35 : decode kc_Jd_leaveText 35 = .ok (.getfield 210, 3) := by decide +kernel
theorem kd_Jd_leaveText_38 : decode kc_Jd_leaveText 38 = .ok (.sipush 8192, 3) := by decide +kernel
theorem kd_Jd_leaveText_41 : decode kc_Jd_leaveText 41 = .ok (.if_icmp .le 7, 3) := by decide +kernel
theorem kd_Jd_leaveText_44 : decode kc_Jd_leaveText 44 = .ok (.iconst 1, 1) := by decide +kernel
theorem kd_Jd_leaveText_45 : decode kc_Jd_leaveText 45 = .ok (.goto 4, 3) := by decide +kernel
theorem kd_Jd_leaveText_48 : decode kc_Jd_leaveText 48 = .ok (.iconst 0, 1) := by decide +kernel
theorem kd_Jd_leaveText_49 : decode kc_Jd_leaveText 49 = .ok (.bipush 42, 2) := by decide +kernel
theorem kd_Jd_leaveText_51 : decode kc_Jd_leaveText 51 = .ok (.iload_n 1, 1) := by decide +kernel
theorem kd_Jd_leaveText_52 : decode kc_Jd_leaveText 52 = .ok (.invokevirtual 112, 3) := by decide +kernel
theorem kd_Jd_leaveText_55 : decode kc_Jd_leaveText 55 = .ok (.return_, 1) := by decide +kernel
theorem kd_Jd_settle_0 : decode kc_Jd_settle 0 = .ok (.aload_n 0, 1) := by decide +kernel
theorem kd_Jd_settle_1 : decode kc_Jd_settle 1 = .ok (.getfield 9, 3) := by decide +kernel
theorem kd_Jd_settle_4 : decode kc_Jd_settle 4 = .ok (.getfield 71, 3) := by decide +kernel
theorem kd_Jd_settle_7 : decode kc_Jd_settle 7 = .ok (.iload_n 1, 1) := by decide +kernel
theorem kd_Jd_settle_8 : decode kc_Jd_settle 8 = .ok (.baload, 1) := by decide +kernel
theorem kd_Jd_settle_9 : decode kc_Jd_settle 9 = .ok (.istore 5, 2) := by decide +kernel
theorem kd_Jd_settle_11 : decode kc_Jd_settle 11 = .ok (.iload 5, 2) := by decide +kernel
theorem kd_Jd_settle_13 : decode kc_Jd_settle 13 = .ok (.bipush 10, 2) := by decide +kernel
theorem kd_Jd_settle_15 : decode kc_Jd_settle 15 = .ok (.if_icmp .ne 23, 3) := by decide +kernel
theorem kd_Jd_settle_18 : decode kc_Jd_settle 18 = .ok (.aload_n 0, 1) := by decide +kernel
theorem kd_Jd_settle_19 : decode kc_Jd_settle 19 = .ok (.getfield 15, 3) := by decide +kernel
theorem kd_Jd_settle_22 : decode kc_Jd_settle 22 = .ok (.getfield 116, 3) := by decide +kernel
theorem kd_Jd_settle_25 : decode kc_Jd_settle 25 = .ok (.aload_n 0, 1) := by decide +kernel
theorem kd_Jd_settle_26 : decode kc_Jd_settle 26 = .ok (.getfield 9, 3) := by decide +kernel
theorem kd_Jd_settle_29 : decode kc_Jd_settle 29 = .ok (.getfield 78, 3) := by decide +kernel
theorem kd_Jd_settle_32 : decode kc_Jd_settle 32 = .ok (.iload_n 1, 1) := by decide +kernel
theorem kd_Jd_settle_33 : decode kc_Jd_settle 33 = .ok (.iaload, 1) := by decide +kernel
theorem kd_Jd_settle_34 : decode kc_Jd_settle 34 = .ok (.iaload, 1) := by decide +kernel
theorem kd_Jd_settle_35 : decode kc_Jd_settle 35 = .ok (.goto 4, 3) := by decide +kernel
theorem kd_Jd_settle_38 : decode kc_Jd_settle 38 = .ok (.iconst (-1), 1) := by decide +kernel
theorem kd_Jd_settle_39 : decode kc_Jd_settle 39 = .ok (.istore 6, 2) := by decide +kernel
theorem kd_Jd_settle_41 : decode kc_Jd_settle 41 = .ok (.iconst 0, 1) := by decide +kernel
theorem kd_Jd_settle_42 : decode kc_Jd_settle 42 = .ok (.istore 7, 2) := by decide +kernel
theorem kd_Jd_settle_44 : decode kc_Jd_settle 44 = .ok (.iload 6, 2) := by decide +kernel
theorem kd_Jd_settle_46 : decode kc_Jd_settle 46 = .ok (.ifCond .lt 16, 3) := by decide +kernel
theorem kd_Jd_settle_49 : decode kc_Jd_settle 49 = .ok (.aload_n 0, 1) := by decide +kernel
theorem kd_Jd_settle_50 : decode kc_Jd_settle 50 = .ok (.getfield 15, 3) := by decide +kernel
theorem kd_Jd_settle_53 : decode kc_Jd_settle 53 = .ok (.getfield 213, 3) := by decide +kernel
theorem kd_Jd_settle_56 : decode kc_Jd_settle 56 = .ok (.iload 6, 2) := by decide +kernel
theorem kd_Jd_settle_58 : decode kc_Jd_settle 58 = .ok (.iaload, 1) := by decide +kernel
theorem kd_Jd_settle_59 : decode kc_Jd_settle 59 = .ok (.goto 4, 3) := by decide +kernel
theorem kd_Jd_settle_62 : decode kc_Jd_settle 62 = .ok (.iconst 1, 1) := by decide +kernel
theorem kd_Jd_settle_63 : decode kc_Jd_settle 63 = .ok (.istore 8, 2) := by decide +kernel
theorem kd_Jd_settle_65 : decode kc_Jd_settle 65 = .ok (.iload 5, 2) := by decide +kernel
theorem kd_Jd_settle_67 : decode kc_Jd_settle 67 = .ok (.bipush 9, 2) := by decide +kernel
theorem kd_Jd_settle_69 : decode kc_Jd_settle 69 = .ok (.if_icmp .ne 49, 3) := by decide +kernel
theorem kd_Jd_settle_72 : decode kc_Jd_settle 72 = .ok (.bipush (-2), 2) := by decide +kernel
theorem kd_Jd_settle_74 : decode kc_Jd_settle 74 = .ok (.istore 6, 2) := by decide +kernel
theorem kd_Jd_settle_76 : decode kc_Jd_settle 76 = .ok (.aload_n 0, 1) := by decide +kernel
theorem kd_Jd_settle_77 : decode kc_Jd_settle 77 = .ok (.getfield 9, 3) := by decide +kernel
theorem kd_Jd_settle_80 : decode kc_Jd_settle 80 = .ok (.getfield 78, 3) := by decide +kernel
theorem kd_Jd_settle_83 : decode kc_Jd_settle 83 = .ok (.aload_n 0, 1) := by decide +kernel
theorem kd_Jd_settle_84 : decode kc_Jd_settle 84 = .ok (.getfield 9, 3) := by decide +kernel
theorem kd_Jd_settle_87 : decode kc_Jd_settle 87 = .ok (.getfield 49, 3) := by decide +kernel
theorem kd_Jd_settle_90 : decode kc_Jd_settle 90 = .ok (.iload_n 1, 1) := by decide +kernel
theorem kd_Jd_settle_91 : decode kc_Jd_settle 91 = .ok (.iaload, 1) := by decide +kernel
theorem kd_Jd_settle_92 : decode kc_Jd_settle 92 = .ok (.iaload, 1) := by decide +kernel
theorem kd_Jd_settle_93 : decode kc_Jd_settle 93 = .ok (.istore 7, 2) := by decide +kernel
theorem kd_Jd_settle_95 : decode kc_Jd_settle 95 = .ok (.aload_n 0, 1) := by decide +kernel
theorem kd_Jd_settle_96 : decode kc_Jd_settle 96 = .ok (.getfield 9, 3) := by decide +kernel
theorem kd_Jd_settle_99 : decode kc_Jd_settle 99 = .ok (.getfield 78, 3) := by decide +kernel
theorem kd_Jd_settle_102 : decode kc_Jd_settle 102 = .ok (.aload_n 0, 1) := by decide +kernel
theorem kd_Jd_settle_103 : decode kc_Jd_settle 103 = .ok (.getfield 9, 3) := by decide +kernel
theorem kd_Jd_settle_106 : decode kc_Jd_settle 106 = .ok (.iload_n 1, 1) := by decide +kernel
theorem kd_Jd_settle_107 : decode kc_Jd_settle 107 = .ok (.invokevirtual 227, 3) := by decide +kernel
theorem kd_Jd_settle_110 : decode kc_Jd_settle 110 = .ok (.iaload, 1) := by decide +kernel
theorem kd_Jd_settle_111 : decode kc_Jd_settle 111 = .ok (.iload 7, 2) := by decide +kernel
theorem kd_Jd_settle_113 : decode kc_Jd_settle 113 = .ok (.isub, 1) := by decide +kernel
theorem kd_Jd_settle_114 : decode kc_Jd_settle 114 = .ok (.iconst 1, 1) := by decide +kernel
theorem kd_Jd_settle_115 : decode kc_Jd_settle 115 = .ok (.iadd, 1) := by decide +kernel
theorem kd_Jd_settle_116 : decode kc_Jd_settle 116 = .ok (.istore 8, 2) := by decide +kernel
theorem kd_Jd_settle_118 : decode kc_Jd_settle 118 = .ok (.aload_n 0, 1) := by decide +kernel
theorem kd_Jd_settle_119 : decode kc_Jd_settle 119 = .ok (.getfield 87, 3) := by decide +kernel
theorem kd_Jd_settle_122 : decode kc_Jd_settle 122 = .ok (.istore 9, 2) := by decide +kernel
theorem kd_Jd_settle_124 : decode kc_Jd_settle 124 = .ok (.iload 9, 2) := by decide +kernel
theorem kd_Jd_settle_126 : decode kc_Jd_settle 126 = .ok (.aload_n 0, 1) := by decide +kernel
theorem kd_Jd_settle_127 : decode kc_Jd_settle 127 = .ok (.getfield 15, 3) := by decide +kernel
theorem kd_Jd_settle_130 : decode kc_Jd_settle 130 = .ok (.getfield 84, 3) := by decide +kernel
theorem kd_Jd_settle_133 : decode kc_Jd_settle 133 = .ok (.if_icmp .ge 129, 3) := by decide +kernel
theorem kd_Jd_settle_136 : decode kc_Jd_settle 136 = .ok (.aload_n 0, 1) := by decide +kernel
theorem kd_Jd_settle_137 : decode kc_Jd_settle 137 = .ok (.getfield 15, 3) := by decide +kernel
theorem kd_Jd_settle_140 : decode kc_Jd_settle 140 = .ok (.getfield 100, 3) := by decide +kernel
theorem kd_Jd_settle_143 : decode kc_Jd_settle 143 = .ok (.iload 9, 2) := by decide +kernel
theorem kd_Jd_settle_145 : decode kc_Jd_settle 145 = .ok (.iload 6, 2) := by decide +kernel
theorem kd_Jd_settle_147 : decode kc_Jd_settle 147 = .ok (.iastore, 1) := by decide +kernel
theorem kd_Jd_settle_148 : decode kc_Jd_settle 148 = .ok (.aload_n 0, 1) := by decide +kernel
theorem kd_Jd_settle_149 : decode kc_Jd_settle 149 = .ok (.getfield 15, 3) := by decide +kernel
theorem kd_Jd_settle_152 : decode kc_Jd_settle 152 = .ok (.getfield 132, 3) := by decide +kernel
theorem kd_Jd_settle_155 : decode kc_Jd_settle 155 = .ok (.iload 9, 2) := by decide +kernel
theorem kd_Jd_settle_157 : decode kc_Jd_settle 157 = .ok (.iload_n 2, 1) := by decide +kernel
theorem kd_Jd_settle_158 : decode kc_Jd_settle 158 = .ok (.iastore, 1) := by decide +kernel
theorem kd_Jd_settle_159 : decode kc_Jd_settle 159 = .ok (.aload_n 0, 1) := by decide +kernel
theorem kd_Jd_settle_160 : decode kc_Jd_settle 160 = .ok (.getfield 15, 3) := by decide +kernel
theorem kd_Jd_settle_163 : decode kc_Jd_settle 163 = .ok (.getfield 243, 3) := by decide +kernel
theorem kd_Jd_settle_166 : decode kc_Jd_settle 166 = .ok (.iload 9, 2) := by decide +kernel
theorem kd_Jd_settle_168 : decode kc_Jd_settle 168 = .ok (.iload 7, 2) := by decide +kernel
theorem kd_Jd_settle_170 : decode kc_Jd_settle 170 = .ok (.iastore, 1) := by decide +kernel
theorem kd_Jd_settle_171 : decode kc_Jd_settle 171 = .ok (.aload_n 0, 1) := by decide +kernel
theorem kd_Jd_settle_172 : decode kc_Jd_settle 172 = .ok (.getfield 15, 3) := by decide +kernel
theorem kd_Jd_settle_175 : decode kc_Jd_settle 175 = .ok (.getfield 246, 3) := by decide +kernel
theorem kd_Jd_settle_178 : decode kc_Jd_settle 178 = .ok (.iload 9, 2) := by decide +kernel
theorem kd_Jd_settle_180 : decode kc_Jd_settle 180 = .ok (.iload 8, 2) := by decide +kernel
theorem kd_Jd_settle_182 : decode kc_Jd_settle 182 = .ok (.iastore, 1) := by decide +kernel
theorem kd_Jd_settle_183 : decode kc_Jd_settle 183 = .ok (.aload_n 0, 1) := by decide +kernel
theorem kd_Jd_settle_184 : decode kc_Jd_settle 184 = .ok (.getfield 15, 3) := by decide +kernel
theorem kd_Jd_settle_187 : decode kc_Jd_settle 187 = .ok (.getfield 249, 3) := by decide +kernel
theorem kd_Jd_settle_190 : decode kc_Jd_settle 190 = .ok (.iload 9, 2) := by decide +kernel
theorem kd_Jd_settle_192 : decode kc_Jd_settle 192 = .ok (.iload 4, 2) := by decide +kernel
theorem kd_Jd_settle_194 : decode kc_Jd_settle 194 = .ok (.iastore, 1) := by decide +kernel
theorem kd_Jd_settle_195 : decode kc_Jd_settle 195 = .ok (.iload_n 3, 1) := by decide +kernel
theorem kd_Jd_settle_196 : decode kc_Jd_settle 196 = .ok (.iconst (-1), 1) := by decide +kernel
theorem kd_Jd_settle_197 : decode kc_Jd_settle 197 = .ok (.if_icmp .ne 45, 3) := by decide +kernel
theorem kd_Jd_settle_200 : decode kc_Jd_settle 200 = .ok (.aload_n 0, 1) := by decide +kernel
theorem kd_Jd_settle_201 : decode kc_Jd_settle 201 = .ok (.getfield 15, 3) := by decide +kernel
theorem kd_Jd_settle_204 : decode kc_Jd_settle 204 = .ok (.getfield 252, 3) := by decide +kernel
theorem kd_Jd_settle_207 : decode kc_Jd_settle 207 = .ok (.iload 9, 2) := by decide +kernel
theorem kd_Jd_settle_209 : decode kc_Jd_settle 209 = .ok (.aload_n 0, 1) := by decide +kernel
theorem kd_Jd_settle_210 : decode kc_Jd_settle 210 = .ok (.getfield 15, 3) := by decide +kernel
theorem kd_Jd_settle_213 : decode kc_Jd_settle 213 = .ok (.getfield 139, 3) := by decide +kernel
theorem kd_Jd_settle_216 : decode kc_Jd_settle 216 = .ok (.aload_n 0, 1) := by decide +kernel
theorem kd_Jd_settle_217 : decode kc_Jd_settle 217 = .ok (.getfield 129, 3) := by decide +kernel
theorem kd_Jd_settle_220 : decode kc_Jd_settle 220 = .ok (.iaload, 1) := by decide +kernel
theorem kd_Jd_settle_221 : decode kc_Jd_settle 221 = .ok (.iastore, 1) := by decide +kernel
theorem kd_Jd_settle_222 : decode kc_Jd_settle 222 = .ok (.aload_n 0, 1) := by decide +kernel
theorem kd_Jd_settle_223 : decode kc_Jd_settle 223 = .ok (.getfield 15, 3) := by decide +kernel
theorem kd_Jd_settle_226 : decode kc_Jd_settle 226 = .ok (.getfield 139, 3) := by decide +kernel
theorem kd_Jd_settle_229 : decode kc_Jd_settle 229 = .ok (.aload_n 0, 1) := by decide +kernel
theorem kd_Jd_settle_230 : decode kc_Jd_settle 230 = .ok (.getfield 129, 3) := by decide +kernel
theorem kd_Jd_settle_233 : decode kc_Jd_settle 233 = .ok (.dup2, 1) := by decide +kernel
theorem kd_Jd_settle_234 : decode kc_Jd_settle 234 = .ok (.iaload, 1) := by decide +kernel
theorem kd_Jd_settle_235 : decode kc_Jd_settle 235 = .ok (.iload 8, 2) := by decide +kernel
theorem kd_Jd_settle_237 : decode kc_Jd_settle 237 = .ok (.iadd, 1) := by decide +kernel
theorem kd_Jd_settle_238 : decode kc_Jd_settle 238 = .ok (.iastore, 1) := by decide +kernel
theorem kd_Jd_settle_239 : decode kc_Jd_settle 239 = .ok (.goto 17, 3) := by decide +kernel
theorem kd_Jd_settle_242 : decode kc_Jd_settle 242 = .ok (.aload_n 0, 1) := by decide +kernel
theorem kd_Jd_settle_243 : decode kc_Jd_settle 243 = .ok (.getfield 15, 3) := by decide +kernel
theorem kd_Jd_settle_246 : decode kc_Jd_settle 246 = .ok (.getfield 252, 3) := by decide +kernel
theorem kd_Jd_settle_249 : decode kc_Jd_settle 249 = .ok (.iload 9, 2) := by decide +kernel
theorem kd_Jd_settle_251 : decode kc_Jd_settle 251 = .ok (.iload_n 3, 1) := by decide +kernel
theorem kd_Jd_settle_252 : decode kc_Jd_settle 252 = .ok (.invokestatic 224, 3) := by decide +kernel
theorem kd_Jd_settle_255 : decode kc_Jd_settle 255 = .ok (.iastore, 1) := by decide +kernel
theorem kd_Jd_settle_256 : decode kc_Jd_settle 256 = .ok (.iinc 9 1, 3) := by decide +kernel
theorem kd_Jd_settle_259 : decode kc_Jd_settle 259 = .ok (.goto (-135), 3) := by decide +kernel
theorem kd_Jd_settle_262 : decode kc_Jd_settle 262 = .ok (.return_, 1) := by decide +kernel
theorem kd_Pl_layOut_0 : decode kc_Pl_layOut 0 = .ok (.aload_n 0, 1) := by decide +kernel
theorem kd_Pl_layOut_1 : decode kc_Pl_layOut 1 = .ok (.aload_n 0, 1) := by decide +kernel
theorem kd_Pl_layOut_2 : decode kc_Pl_layOut 2 = .ok (.getfield 78, 3) := by decide +kernel
theorem kd_Pl_layOut_5 : decode kc_Pl_layOut 5 = .ok (.iconst (-1), 1) := by decide +kernel
theorem kd_Pl_layOut_6 : decode kc_Pl_layOut 6 = .ok (.if_icmp .ne 7, 3) := by decide +kernel
theorem kd_Pl_layOut_9 : decode kc_Pl_layOut 9 = .ok (.iconst 0, 1) := by decide +kernel
theorem kd_Pl_layOut_10 : decode kc_Pl_layOut 10 = .ok (.goto 12, 3) := by decide +kernel
theorem kd_Pl_layOut_13 : decode kc_Pl_layOut 13 = .ok (.aload_n 0, 1) := by decide +kernel
theorem kd_Pl_layOut_14 : decode kc_Pl_layOut 14 = .ok (.getfield 27, 3) := by decide +kernel
theorem kd_Pl_layOut_17 : decode kc_Pl_layOut 17 = .ok (.aload_n 0, 1) := by decide +kernel
theorem kd_Pl_layOut_18 : decode kc_Pl_layOut 18 = .ok (.getfield 78, 3) := by decide +kernel
theorem kd_Pl_layOut_21 : decode kc_Pl_layOut 21 = .ok (.iaload, 1) := by decide +kernel
theorem kd_Pl_layOut_22 : decode kc_Pl_layOut 22 = .ok (.putfield 81, 3) := by decide +kernel
theorem kd_Pl_layOut_25 : decode kc_Pl_layOut 25 = .ok (.bipush 9, 2) := by decide +kernel
theorem kd_Pl_layOut_27 : decode kc_Pl_layOut 27 = .ok (.istore_n 1, 1) := by decide +kernel
theorem kd_Pl_layOut_28 : decode kc_Pl_layOut 28 = .ok (.iload_n 1, 1) := by decide +kernel
theorem kd_Pl_layOut_29 : decode kc_Pl_layOut 29 = .ok (.aload_n 0, 1) := by decide +kernel
theorem kd_Pl_layOut_30 : decode kc_Pl_layOut 30 = .ok (.getfield 71, 3) := by decide +kernel
theorem kd_Pl_layOut_33 : decode kc_Pl_layOut 33 = .ok (.if_icmp .ge 44, 3) := by decide +kernel
theorem kd_Pl_layOut_36 : decode kc_Pl_layOut 36 = .ok (.aload_n 0, 1) := by decide +kernel
theorem kd_Pl_layOut_37 : decode kc_Pl_layOut 37 = .ok (.getfield 11, 3) := by decide +kernel
theorem kd_Pl_layOut_40 : decode kc_Pl_layOut 40 = .ok (.iload_n 1, 1) := by decide +kernel
theorem kd_Pl_layOut_41 : decode kc_Pl_layOut 41 = .ok (.iaload, 1) := by decide +kernel
theorem kd_Pl_layOut_42 : decode kc_Pl_layOut 42 = .ok (.iconst 1, 1) := by decide +kernel
theorem kd_Pl_layOut_43 : decode kc_Pl_layOut 43 = .ok (.if_icmp .ne 28, 3) := by decide +kernel
theorem kd_Pl_layOut_46 : decode kc_Pl_layOut 46 = .ok (.aload_n 0, 1) := by decide +kernel
theorem kd_Pl_layOut_47 : decode kc_Pl_layOut 47 = .ok (.getfield 30, 3) := by decide +kernel
theorem kd_Pl_layOut_50 : decode kc_Pl_layOut 50 = .ok (.iload_n 1, 1) := by decide +kernel
theorem kd_Pl_layOut_51 : decode kc_Pl_layOut 51 = .ok (.aload_n 0, 1) := by decide +kernel
theorem kd_Pl_layOut_52 : decode kc_Pl_layOut 52 = .ok (.getfield 81, 3) := by decide +kernel
theorem kd_Pl_layOut_55 : decode kc_Pl_layOut 55 = .ok (.iastore, 1) := by decide +kernel
theorem kd_Pl_layOut_56 : decode kc_Pl_layOut 56 = .ok (.aload_n 0, 1) := by decide +kernel
theorem kd_Pl_layOut_57 : decode kc_Pl_layOut 57 = .ok (.dup, 1) := by decide +kernel
theorem kd_Pl_layOut_58 : decode kc_Pl_layOut 58 = .ok (.getfield 81, 3) := by decide +kernel
theorem kd_Pl_layOut_61 : decode kc_Pl_layOut 61 = .ok (.aload_n 0, 1) := by decide +kernel
theorem kd_Pl_layOut_62 : decode kc_Pl_layOut 62 = .ok (.getfield 27, 3) := by decide +kernel
theorem kd_Pl_layOut_65 : decode kc_Pl_layOut 65 = .ok (.iload_n 1, 1) := by decide +kernel
theorem kd_Pl_layOut_66 : decode kc_Pl_layOut 66 = .ok (.iaload, 1) := by decide +kernel
theorem kd_Pl_layOut_67 : decode kc_Pl_layOut 67 = .ok (.iadd, 1) := by decide +kernel
theorem kd_Pl_layOut_68 : decode kc_Pl_layOut 68 = .ok (.putfield 81, 3) := by decide +kernel
theorem kd_Pl_layOut_71 : decode kc_Pl_layOut 71 = .ok (.iinc 1 1, 3) := by decide +kernel
theorem kd_Pl_layOut_74 : decode kc_Pl_layOut 74 = .ok (.goto (-46), 3) := by decide +kernel
theorem kd_Pl_layOut_77 : decode kc_Pl_layOut 77 = .ok (.return_, 1) := by decide +kernel
set_option maxHeartbeats 4000000 in
set_option maxRecDepth 100000 in
theorem zb_Jd_judgeVariable_177 {X : zkj_T} {S : zs_T} {P : ze_T} {l : Launch} {D : va_G} {sz0 : Nat} {rh : zs_H} (C : zk_C X km_Jd_judgeVariable (zs_G S l D sz0) { frames := 3, cells := 0, slots := 0, locals := 69 } (ze_E P)) (hR : zkj_R X (zd_PV S rh) (none)) (h : zs_H) (x1 : Int32) (e : f_Jd_judgeVariable_177 h x1 = some rh) : zk_Ab X (zs_W S h) 0 0 177 [(0, .ref (S.1 38)), (1, .int x1)] [] := by
  unfold f_Jd_judgeVariable_177 at e
  refine zk_aload_n C kd_Jd_judgeVariable_177 rfl 0 rfl rfl ?_
  refine zk_bipush (v := 23) C kd_Jd_judgeVariable_178 (by decide) rfl ?_
  refine zk_iload_n C kd_Jd_judgeVariable_180 rfl 1 rfl rfl ?_
  obtain ⟨h2, c1, e⟩ := zd_b e
  refine zs_callV (k := 38) (rn := { frames := 0, cells := 0, slots := 0, locals := 0 }) (As := [.int 23, .int x1]) (rest := []) C (zc_Jd_refuse h 23 x1 c1) ku_Jd_refuse kw1040 kv_Jd_refuse rfl ⟨by decide, by decide⟩ ⟨by decide, by decide⟩ rfl rfl rfl (Nat.le_of_ble_eq_true rfl) kd_Jd_judgeVariable_181 rfl (c1 := 0) (s1 := 0) rfl rfl (fun v w hp => ?_)
  obtain ⟨rfl, rfl⟩ := hp
  refine zk_stk (r' := []) rfl ?_
  exact zk_vret C hR kd_Jd_judgeVariable_184 rfl rfl (zd_rV e)
set_option maxHeartbeats 4000000 in
set_option maxRecDepth 100000 in
theorem zb_Jd_judgeVariable_122 {X : zkj_T} {S : zs_T} {P : ze_T} {l : Launch} {D : va_G} {sz0 : Nat} {rh : zs_H} (C : zk_C X km_Jd_judgeVariable (zs_G S l D sz0) { frames := 3, cells := 0, slots := 0, locals := 69 } (ze_E P)) (hR : zkj_R X (zd_PV S rh) (none)) (h : zs_H) (x1 : Int32) (x2 : Int32) (x4 : Int32) (x5 : Int32) (e : f_Jd_judgeVariable_122 h x1 x2 x4 x5 = some rh) : zk_Ab X (zs_W S h) 0 0 122 [(0, .ref (S.1 38)), (1, .int x1), (2, .int x2), (4, .int x4), (5, .int x5)] [] := by
  unfold f_Jd_judgeVariable_122 at e
  refine zk_iload_n C kd_Jd_judgeVariable_122 rfl 2 rfl rfl ?_
  refine zk_bipush (v := 33) C kd_Jd_judgeVariable_123 (by decide) rfl ?_
  refine zk_icmp_ne (tgt := 225) C kd_Jd_judgeVariable_125 (by decide) rfl (fun b1 => ?_) (fun b1 => ?_)
  · replace e := zd_neg b1 e
    exact zk_vret C hR kd_Jd_judgeVariable_225 rfl rfl (zd_rV e)
  · replace e := zd_pos b1 e
    refine zk_aload_n C kd_Jd_judgeVariable_128 rfl 0 rfl rfl ?_
    refine zs_get (v := .ref (S.1 20)) C 38 2 rfl rfl rfl rfl ki_Jd (by decide) kw353 kd_Jd_judgeVariable_129 rfl ?_
    refine zk_aload_n C kd_Jd_judgeVariable_132 rfl 0 rfl rfl ?_
    refine zs_get (v := .ref (S.1 20)) C 38 2 rfl rfl rfl rfl ki_Jd (by decide) kw353 kd_Jd_judgeVariable_133 rfl ?_
    refine zs_get (v := .ref (S.1 30)) C 20 9 rfl rfl rfl rfl ki_Pl (by decide) kw262 kd_Jd_judgeVariable_136 rfl ?_
    refine zk_iload C kd_Jd_judgeVariable_139 3 rfl rfl ?_
    obtain ⟨q2, e⟩ := zd_g e
    refine zs_iald C 30 rfl (zd_vp q2) kd_Jd_judgeVariable_141 rfl ?_
    refine zk_aload_n C kd_Jd_judgeVariable_142 rfl 0 rfl rfl ?_
    refine zs_get (v := .ref (S.1 12)) C 38 1 rfl rfl rfl rfl ki_Jd (by decide) kw352 kd_Jd_judgeVariable_143 rfl ?_
    refine zs_get (v := .ref (S.1 16)) C 12 3 rfl rfl rfl rfl ki_Tr (by decide) kw168 kd_Jd_judgeVariable_146 rfl ?_
    refine zk_iload C kd_Jd_judgeVariable_149 4 rfl rfl ?_
    obtain ⟨q3, e⟩ := zd_g e
    refine zs_iald C 16 rfl (zd_vp q3) kd_Jd_judgeVariable_151 rfl ?_
    obtain ⟨v5, c4, e⟩ := zd_b e
    refine zs_callV (k := 20) (rn := { frames := 0, cells := 0, slots := 0, locals := 0 }) (As := [.int (h.2.1 30 x4.toNatClampNeg), .int (h.2.1 16 x5.toNatClampNeg)]) (rest := []) C (zc_Pl_variableOf h (h.2.1 30 x4.toNatClampNeg) (h.2.1 16 x5.toNatClampNeg) c4) ku_Pl_variableOf kw1134 kv_Pl_variableOf rfl ⟨by decide, by decide⟩ ⟨by decide, by decide⟩ rfl rfl rfl (Nat.le_of_ble_eq_true rfl) kd_Jd_judgeVariable_152 rfl (c1 := 0) (s1 := 0) rfl rfl (fun v w hp => ?_)
    obtain ⟨rfl, rfl⟩ := hp
    refine zk_stk (r' := [.int v5]) rfl ?_
    refine zk_istore (lv' := [(6, _), (0, _), (1, _), (2, _), (4, _), (5, _)]) C kd_Jd_judgeVariable_155 (by decide) rfl rfl ?_
    refine zk_iload C kd_Jd_judgeVariable_157 0 rfl rfl ?_
    refine zk_iconst (v := (-1)) C kd_Jd_judgeVariable_159 (by decide) rfl ?_
    refine zk_icmp_eq (tgt := 177) C kd_Jd_judgeVariable_160 (by decide) rfl (fun b6 => ?_) (fun b6 => ?_)
    · replace e := zd_pos b6 e
      refine zk_lvs (lv' := [(0, .ref (S.1 38)), (1, .int x1)]) [1, 2] rfl ?_
      exact zb_Jd_judgeVariable_177 C hR h x1 e
    · replace e := zd_neg b6 e
      refine zk_aload_n C kd_Jd_judgeVariable_163 rfl 1 rfl rfl ?_
      refine zs_get (v := .ref (S.1 20)) C 38 2 rfl rfl rfl rfl ki_Jd (by decide) kw353 kd_Jd_judgeVariable_164 rfl ?_
      refine zs_get (v := .ref (S.1 29)) C 20 8 rfl rfl rfl rfl ki_Pl (by decide) kw259 kd_Jd_judgeVariable_167 rfl ?_
      refine zk_iload C kd_Jd_judgeVariable_170 0 rfl rfl ?_
      obtain ⟨q7, e⟩ := zd_g e
      refine zs_iald C 29 rfl (zd_vp q7) kd_Jd_judgeVariable_172 rfl ?_
      refine zk_iconst (v := 2) C kd_Jd_judgeVariable_173 (by decide) rfl ?_
      refine zk_icmp_eq (tgt := 185) C kd_Jd_judgeVariable_174 (by decide) rfl (fun b8 => ?_) (fun b8 => ?_)
      · replace e := zd_pos b8 e
        refine zk_aload_n C kd_Jd_judgeVariable_185 rfl 1 rfl rfl ?_
        refine zs_get (v := .ref (S.1 12)) C 38 1 rfl rfl rfl rfl ki_Jd (by decide) kw352 kd_Jd_judgeVariable_186 rfl ?_
        refine zs_get (v := .ref (S.1 16)) C 12 3 rfl rfl rfl rfl ki_Tr (by decide) kw168 kd_Jd_judgeVariable_189 rfl ?_
        refine zk_iload C kd_Jd_judgeVariable_192 5 rfl rfl ?_
        refine zk_aload_n C kd_Jd_judgeVariable_194 rfl 1 rfl rfl ?_
        refine zs_get (v := .ref (S.1 20)) C 38 2 rfl rfl rfl rfl ki_Jd (by decide) kw353 kd_Jd_judgeVariable_195 rfl ?_
        refine zs_get (v := .ref (S.1 32)) C 20 11 rfl rfl rfl rfl ki_Pl (by decide) kw272 kd_Jd_judgeVariable_198 rfl ?_
        refine zk_iload C kd_Jd_judgeVariable_201 0 rfl rfl ?_
        refine zs_iald C 32 rfl (zd_vp q7) kd_Jd_judgeVariable_203 rfl ?_
        refine zs_iast C 16 rfl (zd_vp q3) kd_Jd_judgeVariable_204 rfl ?_
        refine zk_aload_n C kd_Jd_judgeVariable_205 rfl 1 rfl rfl ?_
        refine zs_get (v := .ref (S.1 12)) C 38 1 rfl rfl rfl rfl ki_Jd (by decide) kw352 kd_Jd_judgeVariable_206 rfl ?_
        refine zs_get (v := .ref (S.1 14)) C 12 1 rfl rfl rfl rfl ki_Tr (by decide) kw160 kd_Jd_judgeVariable_209 rfl ?_
        refine zk_iload_n C kd_Jd_judgeVariable_212 rfl 2 rfl rfl ?_
        refine zk_aload_n C kd_Jd_judgeVariable_213 rfl 1 rfl rfl ?_
        refine zs_get (v := .ref (S.1 20)) C 38 2 rfl rfl rfl rfl ki_Jd (by decide) kw353 kd_Jd_judgeVariable_214 rfl ?_
        refine zs_get (v := .ref (S.1 31)) C 20 10 rfl rfl rfl rfl ki_Pl (by decide) kw266 kd_Jd_judgeVariable_217 rfl ?_
        refine zk_iload C kd_Jd_judgeVariable_220 0 rfl rfl ?_
        refine zs_iald C 31 rfl (zd_vp q7) kd_Jd_judgeVariable_222 rfl ?_
        refine zk_stk (r' := [.int (h.2.1 31 v5.toNatClampNeg), .int x1, .ref (S.1 14)]) rfl ?_
        refine zk_i2b C kd_Jd_judgeVariable_223 rfl ?_
        obtain ⟨q9, e⟩ := zd_g e
        refine zs_bast C 14 rfl (zd_vp q9) kd_Jd_judgeVariable_224 rfl ?_
        exact zk_vret C hR kd_Jd_judgeVariable_225 rfl rfl (zd_rV e)
      · replace e := zd_neg b8 e
        refine zk_lvs (lv' := [(0, .ref (S.1 38)), (1, .int x1)]) [1, 2] rfl ?_
        exact zb_Jd_judgeVariable_177 C hR h x1 e
set_option maxHeartbeats 4000000 in
set_option maxRecDepth 100000 in
theorem zb_Jd_judgeVariable_116 {X : zkj_T} {S : zs_T} {P : ze_T} {l : Launch} {D : va_G} {sz0 : Nat} {rh : zs_H} (C : zk_C X km_Jd_judgeVariable (zs_G S l D sz0) { frames := 3, cells := 0, slots := 0, locals := 69 } (ze_E P)) (hR : zkj_R X (zd_PV S rh) (none)) (h : zs_H) (x1 : Int32) (x2 : Int32) (x4 : Int32) (x5 : Int32) (y0 : Int32) (e : f_Jd_judgeVariable_116 h x1 x2 x4 x5 y0 = some rh) : zk_Ab X (zs_W S h) 0 0 116 [(0, .ref (S.1 38)), (1, .int x1), (2, .int x2), (4, .int x4), (5, .int x5)] [.int y0, .ref (S.1 38)] := by
  unfold f_Jd_judgeVariable_116 at e
  refine zk_bipush (v := 22) C kd_Jd_judgeVariable_116 (by decide) rfl ?_
  refine zk_iload_n C kd_Jd_judgeVariable_118 rfl 1 rfl rfl ?_
  obtain ⟨h2, c1, e⟩ := zd_b e
  refine zs_callV (k := 38) (rn := { frames := 1, cells := 0, slots := 0, locals := 22 }) (As := [.int y0, .int 22, .int x1]) (rest := []) C (zc_Jd_refuseIf h y0 22 x1 c1) ku_Jd_refuseIf kw1036 kv_Jd_refuseIf rfl ⟨by decide, by decide⟩ ⟨by decide, by decide⟩ rfl rfl rfl (Nat.le_of_ble_eq_true rfl) kd_Jd_judgeVariable_119 rfl (c1 := 0) (s1 := 0) rfl rfl (fun v w hp => ?_)
  obtain ⟨rfl, rfl⟩ := hp
  refine zk_stk (r' := []) rfl ?_
  refine zk_lvs (lv' := [(0, .ref (S.1 38)), (1, .int x1), (2, .int x2), (4, .int x4), (5, .int x5)]) [0, 1, 2, 3, 4] rfl ?_
  exact zb_Jd_judgeVariable_122 C hR h2 x1 x2 x4 x5 e
set_option maxHeartbeats 4000000 in
set_option maxRecDepth 100000 in
theorem zb_Jd_judgeVariable_32 {X : zkj_T} {S : zs_T} {P : ze_T} {l : Launch} {D : va_G} {sz0 : Nat} {rh : zs_H} (C : zk_C X km_Jd_judgeVariable (zs_G S l D sz0) { frames := 3, cells := 0, slots := 0, locals := 69 } (ze_E P)) (hR : zkj_R X (zd_PV S rh) (none)) (h : zs_H) (x1 : Int32) (x2 : Int32) (y0 : Int32) (e : f_Jd_judgeVariable_32 h x1 x2 y0 = some rh) : zk_Ab X (zs_W S h) 0 0 32 [(0, .ref (S.1 38)), (1, .int x1), (2, .int x2)] [.int y0] := by
  unfold f_Jd_judgeVariable_32 at e
  refine zk_istore_n (lv' := [(3, _), (0, _), (1, _), (2, _)]) C kd_Jd_judgeVariable_32 rfl (by decide) rfl rfl ?_
  refine zk_aload_n C kd_Jd_judgeVariable_33 rfl 1 rfl rfl ?_
  refine zk_iload_n C kd_Jd_judgeVariable_34 rfl 2 rfl rfl ?_
  refine zk_iload_n C kd_Jd_judgeVariable_35 rfl 0 rfl rfl ?_
  obtain ⟨v2, h3, c1, e⟩ := zd_Be e
  refine zs_callV (k := 38) (rn := { frames := 2, cells := 0, slots := 0, locals := 45 }) (As := [.int x1, .int y0]) (rest := []) C (zc_Jd_variableAt h x1 y0 c1) ku_Jd_variableAt kw1142 kv_Jd_variableAt rfl ⟨by decide, by decide⟩ ⟨by decide, by decide⟩ rfl rfl rfl (Nat.le_of_ble_eq_true rfl) kd_Jd_judgeVariable_36 rfl (c1 := 0) (s1 := 0) rfl rfl (fun v w hp => ?_)
  obtain ⟨rfl, rfl⟩ := hp
  refine zk_stk (r' := [.int v2]) rfl ?_
  refine zk_istore (lv' := [(4, _), (3, _), (0, _), (1, _), (2, _)]) C kd_Jd_judgeVariable_39 (by decide) rfl rfl ?_
  refine zk_aload_n C kd_Jd_judgeVariable_41 rfl 2 rfl rfl ?_
  refine zs_get (v := .int (h3.1 38 3)) C 38 3 rfl rfl rfl rfl ki_Jd (by decide) kw354 kd_Jd_judgeVariable_42 rfl ?_
  refine zk_if_eq (tgt := 49) C kd_Jd_judgeVariable_45 (by decide) rfl (fun b4 => ?_) (fun b4 => ?_)
  · replace e := zd_pos b4 e
    refine zk_aload_n C kd_Jd_judgeVariable_49 rfl 2 rfl rfl ?_
    refine zs_get (v := .ref (S.1 12)) C 38 1 rfl rfl rfl rfl ki_Jd (by decide) kw352 kd_Jd_judgeVariable_50 rfl ?_
    refine zs_get (v := .ref (S.1 17)) C 12 4 rfl rfl rfl rfl ki_Tr (by decide) kw170 kd_Jd_judgeVariable_53 rfl ?_
    refine zk_iload_n C kd_Jd_judgeVariable_56 rfl 3 rfl rfl ?_
    obtain ⟨q5, e⟩ := zd_g e
    refine zs_iald C 17 rfl (zd_vp q5) kd_Jd_judgeVariable_57 rfl ?_
    refine zk_istore (lv' := [(5, _), (4, _), (3, _), (0, _), (1, _), (2, _)]) C kd_Jd_judgeVariable_58 (by decide) rfl rfl ?_
    refine zk_aload_n C kd_Jd_judgeVariable_60 rfl 3 rfl rfl ?_
    refine zs_get (v := .ref (S.1 12)) C 38 1 rfl rfl rfl rfl ki_Jd (by decide) kw352 kd_Jd_judgeVariable_61 rfl ?_
    refine zs_get (v := .ref (S.1 16)) C 12 3 rfl rfl rfl rfl ki_Tr (by decide) kw168 kd_Jd_judgeVariable_64 rfl ?_
    refine zk_iload_n C kd_Jd_judgeVariable_67 rfl 4 rfl rfl ?_
    refine zk_iload C kd_Jd_judgeVariable_68 1 rfl rfl ?_
    refine zs_iast C 16 rfl (zd_vp q5) kd_Jd_judgeVariable_70 rfl ?_
    refine zk_aload_n C kd_Jd_judgeVariable_71 rfl 3 rfl rfl ?_
    refine zs_get (v := .ref (S.1 12)) C 38 1 rfl rfl rfl rfl ki_Jd (by decide) kw352 kd_Jd_judgeVariable_72 rfl ?_
    refine zs_get (v := .ref (S.1 14)) C 12 1 rfl rfl rfl rfl ki_Tr (by decide) kw160 kd_Jd_judgeVariable_75 rfl ?_
    refine zk_iload_n C kd_Jd_judgeVariable_78 rfl 4 rfl rfl ?_
    refine zk_aload_n C kd_Jd_judgeVariable_79 rfl 3 rfl rfl ?_
    refine zs_get (v := .ref (S.1 20)) C 38 2 rfl rfl rfl rfl ki_Jd (by decide) kw353 kd_Jd_judgeVariable_80 rfl ?_
    refine zs_get (v := .ref (S.1 31)) C 20 10 rfl rfl rfl rfl ki_Pl (by decide) kw266 kd_Jd_judgeVariable_83 rfl ?_
    refine zk_iload C kd_Jd_judgeVariable_86 1 rfl rfl ?_
    obtain ⟨q6, e⟩ := zd_g e
    refine zs_iald C 31 rfl (zd_vp q6) kd_Jd_judgeVariable_88 rfl ?_
    refine zk_stk (r' := [.int (h3.2.1 31 v2.toNatClampNeg), .int x1, .ref (S.1 14)]) rfl ?_
    refine zk_i2b C kd_Jd_judgeVariable_89 rfl ?_
    refine zs_bast C 14 rfl (zd_vp q5) kd_Jd_judgeVariable_90 rfl ?_
    refine zk_iload_n C kd_Jd_judgeVariable_91 rfl 5 rfl rfl ?_
    refine zk_bipush (v := 32) C kd_Jd_judgeVariable_92 (by decide) rfl ?_
    refine zk_icmp_ne (tgt := 122) C kd_Jd_judgeVariable_94 (by decide) rfl (fun b7 => ?_) (fun b7 => ?_)
    · replace e := zd_neg b7 e
      refine zk_lvs (lv' := [(0, .ref (S.1 38)), (1, .int x1), (2, .int x2), (4, .int v2), (5, .int (h3.2.1 17 x1.toNatClampNeg))]) [3, 4, 5, 1, 0] rfl ?_
      exact zb_Jd_judgeVariable_122 C hR (zs_uM (zs_uM h3 16 x1.toNatClampNeg v2) 14 x1.toNatClampNeg (vp_nar .byte ((h3.2.1 31 v2.toNatClampNeg).toInt8.toInt32))) x1 x2 v2 (h3.2.1 17 x1.toNatClampNeg) e
    · replace e := zd_pos b7 e
      refine zk_aload_n C kd_Jd_judgeVariable_97 rfl 3 rfl rfl ?_
      refine zk_aload_n C kd_Jd_judgeVariable_98 rfl 3 rfl rfl ?_
      refine zs_get (v := .ref (S.1 12)) C 38 1 rfl rfl rfl rfl ki_Jd (by decide) kw352 kd_Jd_judgeVariable_99 rfl ?_
      refine zs_get (v := .ref (S.1 14)) C 12 1 rfl rfl rfl rfl ki_Tr (by decide) kw160 kd_Jd_judgeVariable_102 rfl ?_
      refine zk_iload C kd_Jd_judgeVariable_105 0 rfl rfl ?_
      obtain ⟨q8, e⟩ := zd_g e
      refine zs_bald C 14 rfl (zd_vp q8) kd_Jd_judgeVariable_107 rfl ?_
      refine zk_stk (r' := [.int ((zs_uM h3 14 x1.toNatClampNeg (vp_nar .byte ((h3.2.1 31 v2.toNatClampNeg).toInt8.toInt32))).2.1 14 (h3.2.1 17 x1.toNatClampNeg).toNatClampNeg), .ref (S.1 38)]) rfl ?_
      refine zk_if_ne (tgt := 115) C kd_Jd_judgeVariable_108 (by decide) rfl (fun b9 => ?_) (fun b9 => ?_)
      · replace e := zd_neg b9 e
        refine zk_iconst (v := 0) C kd_Jd_judgeVariable_115 (by decide) rfl ?_
        refine zk_lvs (lv' := [(0, .ref (S.1 38)), (1, .int x1), (2, .int x2), (4, .int v2), (5, .int (h3.2.1 17 x1.toNatClampNeg))]) [3, 4, 5, 1, 0] rfl ?_
        exact zb_Jd_judgeVariable_116 C hR (zs_uM (zs_uM h3 16 x1.toNatClampNeg v2) 14 x1.toNatClampNeg (vp_nar .byte ((h3.2.1 31 v2.toNatClampNeg).toInt8.toInt32))) x1 x2 v2 (h3.2.1 17 x1.toNatClampNeg) 0 e
      · replace e := zd_pos b9 e
        refine zk_iconst (v := 1) C kd_Jd_judgeVariable_111 (by decide) rfl ?_
        refine zk_goto (tgt := 116) C kd_Jd_judgeVariable_112 (by decide) ?_
        refine zk_lvs (lv' := [(0, .ref (S.1 38)), (1, .int x1), (2, .int x2), (4, .int v2), (5, .int (h3.2.1 17 x1.toNatClampNeg))]) [3, 4, 5, 1, 0] rfl ?_
        exact zb_Jd_judgeVariable_116 C hR (zs_uM (zs_uM h3 16 x1.toNatClampNeg v2) 14 x1.toNatClampNeg (vp_nar .byte ((h3.2.1 31 v2.toNatClampNeg).toInt8.toInt32))) x1 x2 v2 (h3.2.1 17 x1.toNatClampNeg) 1 e
  · replace e := zd_neg b4 e
    exact zk_vret C hR kd_Jd_judgeVariable_48 rfl rfl (zd_rV e)
set_option maxHeartbeats 4000000 in
set_option maxRecDepth 100000 in
theorem zc_Jd_judgeVariable {l : Launch} {D : va_G} {sz0 : Nat} {S : zs_T} {P : ze_T} (h : zs_H) (x1 : Int32) {rh : zs_H} (e : f_Jd_judgeVariable h x1 = some rh) : zk_Sp (zs_G S l D sz0) (ze_E P) km_Jd_judgeVariable { frames := 3, cells := 0, slots := 0, locals := 69 } [.ref (S.1 38), .int x1] (zs_W S h) (zd_PV S rh) := by
  refine zk_met ku_Jd_judgeVariable (Nat.le_of_ble_eq_true rfl) (ze_Em P) ?_
  intro X C hR
  refine zk_lvs (lv' := [(0, .ref (S.1 38)), (1, .int x1)]) [0, 1] rfl ?_
  unfold f_Jd_judgeVariable at e
  refine zk_aload_n C kd_Jd_judgeVariable_0 rfl 0 rfl rfl ?_
  refine zs_get (v := .ref (S.1 12)) C 38 1 rfl rfl rfl rfl ki_Jd (by decide) kw352 kd_Jd_judgeVariable_1 rfl ?_
  refine zs_get (v := .ref (S.1 13)) C 12 0 rfl rfl rfl rfl ki_Tr (by decide) kw157 kd_Jd_judgeVariable_4 rfl ?_
  refine zk_iload_n C kd_Jd_judgeVariable_7 rfl 1 rfl rfl ?_
  obtain ⟨q1, e⟩ := zd_g e
  refine zs_bald C 13 rfl (zd_vp q1) kd_Jd_judgeVariable_8 rfl ?_
  refine zk_istore_n (lv' := [(2, _), (0, _), (1, _)]) C kd_Jd_judgeVariable_9 rfl (by decide) rfl rfl ?_
  refine zk_iload_n C kd_Jd_judgeVariable_10 rfl 0 rfl rfl ?_
  refine zk_bipush (v := 6) C kd_Jd_judgeVariable_11 (by decide) rfl ?_
  refine zk_icmp_ne (tgt := 20) C kd_Jd_judgeVariable_13 (by decide) rfl (fun b2 => ?_) (fun b2 => ?_)
  · replace e := zd_neg b2 e
    refine zk_iload_n C kd_Jd_judgeVariable_20 rfl 0 rfl rfl ?_
    refine zk_bipush (v := 32) C kd_Jd_judgeVariable_21 (by decide) rfl ?_
    refine zk_icmp_ne (tgt := 31) C kd_Jd_judgeVariable_23 (by decide) rfl (fun b3 => ?_) (fun b3 => ?_)
    · replace e := zd_neg b3 e
      refine zk_iconst (v := 0) C kd_Jd_judgeVariable_31 (by decide) rfl ?_
      refine zk_lvs (lv' := [(0, .ref (S.1 38)), (1, .int x1), (2, .int (h.2.1 13 x1.toNatClampNeg))]) [1, 2, 0] rfl ?_
      exact zb_Jd_judgeVariable_32 C hR h x1 (h.2.1 13 x1.toNatClampNeg) 0 e
    · replace e := zd_pos b3 e
      refine zk_bipush (v := (-2)) C kd_Jd_judgeVariable_26 (by decide) rfl ?_
      refine zk_goto (tgt := 32) C kd_Jd_judgeVariable_28 (by decide) ?_
      refine zk_lvs (lv' := [(0, .ref (S.1 38)), (1, .int x1), (2, .int (h.2.1 13 x1.toNatClampNeg))]) [1, 2, 0] rfl ?_
      exact zb_Jd_judgeVariable_32 C hR h x1 (h.2.1 13 x1.toNatClampNeg) (-2) e
  · replace e := zd_pos b2 e
    refine zk_iconst (v := (-1)) C kd_Jd_judgeVariable_16 (by decide) rfl ?_
    refine zk_goto (tgt := 32) C kd_Jd_judgeVariable_17 (by decide) ?_
    refine zk_lvs (lv' := [(0, .ref (S.1 38)), (1, .int x1), (2, .int (h.2.1 13 x1.toNatClampNeg))]) [1, 2, 0] rfl ?_
    exact zb_Jd_judgeVariable_32 C hR h x1 (h.2.1 13 x1.toNatClampNeg) (-1) e
set_option maxHeartbeats 4000000 in
set_option maxRecDepth 100000 in
theorem zc_Jd_isConstantOf {l : Launch} {D : va_G} {sz0 : Nat} {S : zs_T} {P : ze_T} (h : zs_H) (x1 : Int32) (x2 : Int32) {rv : Int32} (e : f_Jd_isConstantOf h x1 x2 = some rv) : zk_Sp (zs_G S l D sz0) (ze_E P) km_Jd_isConstantOf { frames := 1, cells := 0, slots := 0, locals := 23 } [.ref (S.1 38), .int x1, .int x2] (zs_W S h) (zd_PZ S rv h) := by
  refine zk_met ku_Jd_isConstantOf (Nat.le_of_ble_eq_true rfl) (ze_Em P) ?_
  intro X C hR
  refine zk_lvs (lv' := [(0, .ref (S.1 38)), (1, .int x1), (2, .int x2)]) [0, 1, 2] rfl ?_
  unfold f_Jd_isConstantOf at e
  refine zk_aload_n C kd_Jd_isConstantOf_0 rfl 0 rfl rfl ?_
  refine zs_get (v := .ref (S.1 12)) C 38 1 rfl rfl rfl rfl ki_Jd (by decide) kw352 kd_Jd_isConstantOf_1 rfl ?_
  refine zs_get (v := .ref (S.1 13)) C 12 0 rfl rfl rfl rfl ki_Tr (by decide) kw157 kd_Jd_isConstantOf_4 rfl ?_
  refine zk_iload_n C kd_Jd_isConstantOf_7 rfl 2 rfl rfl ?_
  obtain ⟨q1, e⟩ := zd_g e
  refine zs_bald C 13 rfl (zd_vp q1) kd_Jd_isConstantOf_8 rfl ?_
  refine zk_bipush (v := 31) C kd_Jd_isConstantOf_9 (by decide) rfl ?_
  refine zk_icmp_ne (tgt := 24) C kd_Jd_isConstantOf_11 (by decide) rfl (fun b2 => ?_) (fun b2 => ?_)
  · replace e := zd_neg b2 e
    refine zk_iload_n C kd_Jd_isConstantOf_24 rfl 1 rfl rfl ?_
    refine zk_if_eq (tgt := 41) C kd_Jd_isConstantOf_25 (by decide) rfl (fun b3 => ?_) (fun b3 => ?_)
    · replace e := zd_pos b3 e
      refine zk_iconst (v := 0) C kd_Jd_isConstantOf_41 (by decide) rfl ?_
      exact zk_zret C hR (zd_nb (Or.inl rfl)) kd_Jd_isConstantOf_42 rfl rfl (zd_rZO (Or.inl rfl) e)
    · replace e := zd_neg b3 e
      refine zk_aload_n C kd_Jd_isConstantOf_28 rfl 0 rfl rfl ?_
      refine zk_iload_n C kd_Jd_isConstantOf_29 rfl 1 rfl rfl ?_
      refine zk_iload_n C kd_Jd_isConstantOf_30 rfl 2 rfl rfl ?_
      obtain ⟨v5, c4, e⟩ := zd_b e
      refine zs_callV (k := 38) (rn := { frames := 0, cells := 0, slots := 0, locals := 0 }) (As := [.int x1, .int x2]) (rest := []) C (zc_Jd_isInRange h x1 x2 c4) ku_Jd_isInRange kw1089 kv_Jd_isInRange rfl ⟨by decide, by decide⟩ ⟨by decide, by decide⟩ rfl rfl rfl (Nat.le_of_ble_eq_true rfl) kd_Jd_isConstantOf_31 rfl (c1 := 0) (s1 := 0) rfl rfl (fun v w hp => ?_)
      obtain ⟨rfl, rfl, z6⟩ := hp
      refine zk_stk (r' := [.int v5]) rfl ?_
      refine zk_if_eq (tgt := 41) C kd_Jd_isConstantOf_34 (by decide) rfl (fun b7 => ?_) (fun b7 => ?_)
      · replace e := zd_pos b7 e
        refine zk_iconst (v := 0) C kd_Jd_isConstantOf_41 (by decide) rfl ?_
        exact zk_zret C hR (zd_nb (Or.inl rfl)) kd_Jd_isConstantOf_42 rfl rfl (zd_rZO (Or.inl rfl) e)
      · replace e := zd_neg b7 e
        refine zk_iconst (v := 1) C kd_Jd_isConstantOf_37 (by decide) rfl ?_
        refine zk_goto (tgt := 42) C kd_Jd_isConstantOf_38 (by decide) ?_
        exact zk_zret C hR (zd_nb (Or.inr rfl)) kd_Jd_isConstantOf_42 rfl rfl (zd_rZO (Or.inr rfl) e)
  · replace e := zd_pos b2 e
    refine zk_iload_n C kd_Jd_isConstantOf_14 rfl 1 rfl rfl ?_
    refine zk_if_ne (tgt := 22) C kd_Jd_isConstantOf_15 (by decide) rfl (fun b8 => ?_) (fun b8 => ?_)
    · replace e := zd_neg b8 e
      refine zk_iconst (v := 0) C kd_Jd_isConstantOf_22 (by decide) rfl ?_
      exact zk_zret C hR (zd_nb (Or.inl rfl)) kd_Jd_isConstantOf_23 rfl rfl (zd_rZO (Or.inl rfl) e)
    · replace e := zd_pos b8 e
      refine zk_iconst (v := 1) C kd_Jd_isConstantOf_18 (by decide) rfl ?_
      refine zk_goto (tgt := 23) C kd_Jd_isConstantOf_19 (by decide) ?_
      exact zk_zret C hR (zd_nb (Or.inr rfl)) kd_Jd_isConstantOf_23 rfl rfl (zd_rZO (Or.inr rfl) e)
set_option maxHeartbeats 4000000 in
set_option maxRecDepth 100000 in
theorem zb_Jd_settle_256 {X : zkj_T} {S : zs_T} {P : ze_T} {l : Launch} {D : va_G} {sz0 : Nat} {rh : zs_H} (C : zk_C X km_Jd_settle (zs_G S l D sz0) { frames := 1, cells := 0, slots := 0, locals := 22 } (ze_E P)) (hR : zkj_R X (zd_PV S rh) (none)) {k124 : zs_H → Int32 → Int32 → Int32 → Int32 → Int32 → Int32 → Int32 → (Option zs_H)} (hk124 : ∀ (h : zs_H) (x2 : Int32) (x3 : Int32) (x4 : Int32) (x6 : Int32) (x7 : Int32) (x8 : Int32) (x9 : Int32), k124 h x2 x3 x4 x6 x7 x8 x9 = some rh → zk_Ab X (zs_W S h) 0 0 124 [(0, .ref (S.1 38)), (2, .int x2), (3, .int x3), (4, .int x4), (6, .int x6), (7, .int x7), (8, .int x8), (9, .int x9)] []) (h : zs_H) (x2 : Int32) (x3 : Int32) (x4 : Int32) (x6 : Int32) (x7 : Int32) (x8 : Int32) (x9 : Int32) (e : f_Jd_settle_256 k124 h x2 x3 x4 x6 x7 x8 x9 = some rh) : zk_Ab X (zs_W S h) 0 0 256 [(0, .ref (S.1 38)), (2, .int x2), (3, .int x3), (4, .int x4), (6, .int x6), (7, .int x7), (8, .int x8), (9, .int x9)] [] := by
  unfold f_Jd_settle_256 at e
  refine zk_iinc (v := (x9 + 1)) (lv' := [(9, _), (0, _), (2, _), (3, _), (4, _), (6, _), (7, _), (8, _)]) C kd_Jd_settle_256 7 rfl rfl (by decide) rfl rfl ?_
  refine zk_goto (tgt := 124) C kd_Jd_settle_259 (by decide) ?_
  refine zk_lvs (lv' := [(0, .ref (S.1 38)), (2, .int x2), (3, .int x3), (4, .int x4), (6, .int x6), (7, .int x7), (8, .int x8), (9, .int (x9 + 1))]) [1, 2, 3, 4, 5, 6, 7, 0] rfl ?_
  exact hk124 h x2 x3 x4 x6 x7 x8 (x9 + 1) e
set_option maxHeartbeats 4000000 in
set_option maxRecDepth 100000 in
theorem zb_Jd_settle_124 {X : zkj_T} {S : zs_T} {P : ze_T} {l : Launch} {D : va_G} {sz0 : Nat} {rh : zs_H} (C : zk_C X km_Jd_settle (zs_G S l D sz0) { frames := 1, cells := 0, slots := 0, locals := 22 } (ze_E P)) (hR : zkj_R X (zd_PV S rh) (none)) {k124 : zs_H → Int32 → Int32 → Int32 → Int32 → Int32 → Int32 → Int32 → (Option zs_H)} (hk124 : ∀ (h : zs_H) (x2 : Int32) (x3 : Int32) (x4 : Int32) (x6 : Int32) (x7 : Int32) (x8 : Int32) (x9 : Int32), k124 h x2 x3 x4 x6 x7 x8 x9 = some rh → zk_Ab X (zs_W S h) 0 0 124 [(0, .ref (S.1 38)), (2, .int x2), (3, .int x3), (4, .int x4), (6, .int x6), (7, .int x7), (8, .int x8), (9, .int x9)] []) (h : zs_H) (x2 : Int32) (x3 : Int32) (x4 : Int32) (x6 : Int32) (x7 : Int32) (x8 : Int32) (x9 : Int32) (e : f_Jd_settle_124 k124 h x2 x3 x4 x6 x7 x8 x9 = some rh) : zk_Ab X (zs_W S h) 0 0 124 [(0, .ref (S.1 38)), (2, .int x2), (3, .int x3), (4, .int x4), (6, .int x6), (7, .int x7), (8, .int x8), (9, .int x9)] [] := by
  unfold f_Jd_settle_124 at e
  refine zk_iload C kd_Jd_settle_124 7 rfl rfl ?_
  refine zk_aload_n C kd_Jd_settle_126 rfl 0 rfl rfl ?_
  refine zs_get (v := .ref (S.1 20)) C 38 2 rfl rfl rfl rfl ki_Jd (by decide) kw353 kd_Jd_settle_127 rfl ?_
  refine zs_get (v := .int (h.1 20 18)) C 20 18 rfl rfl rfl rfl ki_Pl (by decide) kw293 kd_Jd_settle_130 rfl ?_
  refine zk_icmp_ge (tgt := 262) C kd_Jd_settle_133 (by decide) rfl (fun b1 => ?_) (fun b1 => ?_)
  · replace e := zd_pos b1 e
    exact zk_vret C hR kd_Jd_settle_262 rfl rfl (zd_rV e)
  · replace e := zd_neg b1 e
    refine zk_aload_n C kd_Jd_settle_136 rfl 0 rfl rfl ?_
    refine zs_get (v := .ref (S.1 20)) C 38 2 rfl rfl rfl rfl ki_Jd (by decide) kw353 kd_Jd_settle_137 rfl ?_
    refine zs_get (v := .ref (S.1 30)) C 20 9 rfl rfl rfl rfl ki_Pl (by decide) kw262 kd_Jd_settle_140 rfl ?_
    refine zk_iload C kd_Jd_settle_143 7 rfl rfl ?_
    refine zk_iload C kd_Jd_settle_145 4 rfl rfl ?_
    obtain ⟨q2, e⟩ := zd_g e
    refine zs_iast C 30 rfl (zd_vp q2) kd_Jd_settle_147 rfl ?_
    refine zk_aload_n C kd_Jd_settle_148 rfl 0 rfl rfl ?_
    refine zs_get (v := .ref (S.1 20)) C 38 2 rfl rfl rfl rfl ki_Jd (by decide) kw353 kd_Jd_settle_149 rfl ?_
    refine zs_get (v := .ref (S.1 31)) C 20 10 rfl rfl rfl rfl ki_Pl (by decide) kw266 kd_Jd_settle_152 rfl ?_
    refine zk_iload C kd_Jd_settle_155 7 rfl rfl ?_
    refine zk_iload_n C kd_Jd_settle_157 rfl 1 rfl rfl ?_
    refine zs_iast C 31 rfl (zd_vp q2) kd_Jd_settle_158 rfl ?_
    refine zk_aload_n C kd_Jd_settle_159 rfl 0 rfl rfl ?_
    refine zs_get (v := .ref (S.1 20)) C 38 2 rfl rfl rfl rfl ki_Jd (by decide) kw353 kd_Jd_settle_160 rfl ?_
    refine zs_get (v := .ref (S.1 33)) C 20 12 rfl rfl rfl rfl ki_Pl (by decide) kw276 kd_Jd_settle_163 rfl ?_
    refine zk_iload C kd_Jd_settle_166 7 rfl rfl ?_
    refine zk_iload C kd_Jd_settle_168 5 rfl rfl ?_
    refine zs_iast C 33 rfl (zd_vp q2) kd_Jd_settle_170 rfl ?_
    refine zk_aload_n C kd_Jd_settle_171 rfl 0 rfl rfl ?_
    refine zs_get (v := .ref (S.1 20)) C 38 2 rfl rfl rfl rfl ki_Jd (by decide) kw353 kd_Jd_settle_172 rfl ?_
    refine zs_get (v := .ref (S.1 34)) C 20 13 rfl rfl rfl rfl ki_Pl (by decide) kw281 kd_Jd_settle_175 rfl ?_
    refine zk_iload C kd_Jd_settle_178 7 rfl rfl ?_
    refine zk_iload C kd_Jd_settle_180 6 rfl rfl ?_
    refine zs_iast C 34 rfl (zd_vp q2) kd_Jd_settle_182 rfl ?_
    refine zk_aload_n C kd_Jd_settle_183 rfl 0 rfl rfl ?_
    refine zs_get (v := .ref (S.1 20)) C 38 2 rfl rfl rfl rfl ki_Jd (by decide) kw353 kd_Jd_settle_184 rfl ?_
    refine zs_get (v := .ref (S.1 35)) C 20 14 rfl rfl rfl rfl ki_Pl (by decide) kw285 kd_Jd_settle_187 rfl ?_
    refine zk_iload C kd_Jd_settle_190 7 rfl rfl ?_
    refine zk_iload C kd_Jd_settle_192 3 rfl rfl ?_
    refine zs_iast C 35 rfl (zd_vp q2) kd_Jd_settle_194 rfl ?_
    refine zk_iload_n C kd_Jd_settle_195 rfl 2 rfl rfl ?_
    refine zk_iconst (v := (-1)) C kd_Jd_settle_196 (by decide) rfl ?_
    refine zk_icmp_ne (tgt := 242) C kd_Jd_settle_197 (by decide) rfl (fun b3 => ?_) (fun b3 => ?_)
    · replace e := zd_neg b3 e
      refine zk_aload_n C kd_Jd_settle_242 rfl 0 rfl rfl ?_
      refine zs_get (v := .ref (S.1 20)) C 38 2 rfl rfl rfl rfl ki_Jd (by decide) kw353 kd_Jd_settle_243 rfl ?_
      refine zs_get (v := .ref (S.1 32)) C 20 11 rfl rfl rfl rfl ki_Pl (by decide) kw272 kd_Jd_settle_246 rfl ?_
      refine zk_iload C kd_Jd_settle_249 7 rfl rfl ?_
      refine zk_iload_n C kd_Jd_settle_251 rfl 2 rfl rfl ?_
      obtain ⟨v5, c4, e⟩ := zd_b e
      refine zk_callS (rn := { frames := 0, cells := 0, slots := 0, locals := 0 }) (As := [.int x3]) (rest := [.int x9, .ref (S.1 32)]) C (zc_Jd_placeCell (zs_uM (zs_uM (zs_uM (zs_uM (zs_uM h 30 x9.toNatClampNeg x6) 31 x9.toNatClampNeg x2) 33 x9.toNatClampNeg x7) 34 x9.toNatClampNeg x8) 35 x9.toNatClampNeg x4) x3 c4) ku_Jd_placeCell kw1097 ks_Jd_placeCell rfl ⟨by decide, by decide⟩ ⟨by decide, by decide⟩ rfl (Nat.le_of_ble_eq_true rfl) kd_Jd_settle_252 rfl (c1 := 0) (s1 := 0) rfl rfl (fun v w hp => ?_)
      obtain ⟨rfl, rfl⟩ := hp
      refine zk_stk (r' := [.int v5, .int x9, .ref (S.1 32)]) rfl ?_
      refine zs_iast C 32 rfl (zd_vp q2) kd_Jd_settle_255 rfl ?_
      refine zk_lvs (lv' := [(0, .ref (S.1 38)), (2, .int x2), (3, .int x3), (4, .int x4), (6, .int x6), (7, .int x7), (8, .int x8), (9, .int x9)]) [0, 1, 2, 3, 4, 5, 6, 7] rfl ?_
      exact zb_Jd_settle_256 C hR hk124 (zs_uM (zs_uM (zs_uM (zs_uM (zs_uM (zs_uM h 30 x9.toNatClampNeg x6) 31 x9.toNatClampNeg x2) 33 x9.toNatClampNeg x7) 34 x9.toNatClampNeg x8) 35 x9.toNatClampNeg x4) 32 x9.toNatClampNeg v5) x2 x3 x4 x6 x7 x8 x9 e
    · replace e := zd_pos b3 e
      refine zk_aload_n C kd_Jd_settle_200 rfl 0 rfl rfl ?_
      refine zs_get (v := .ref (S.1 20)) C 38 2 rfl rfl rfl rfl ki_Jd (by decide) kw353 kd_Jd_settle_201 rfl ?_
      refine zs_get (v := .ref (S.1 32)) C 20 11 rfl rfl rfl rfl ki_Pl (by decide) kw272 kd_Jd_settle_204 rfl ?_
      refine zk_iload C kd_Jd_settle_207 7 rfl rfl ?_
      refine zk_aload_n C kd_Jd_settle_209 rfl 0 rfl rfl ?_
      refine zs_get (v := .ref (S.1 20)) C 38 2 rfl rfl rfl rfl ki_Jd (by decide) kw353 kd_Jd_settle_210 rfl ?_
      refine zs_get (v := .ref (S.1 25)) C 20 4 rfl rfl rfl rfl ki_Pl (by decide) kw248 kd_Jd_settle_213 rfl ?_
      refine zk_aload_n C kd_Jd_settle_216 rfl 0 rfl rfl ?_
      refine zs_get (v := .int (h.1 38 4)) C 38 4 rfl rfl rfl rfl ki_Jd (by decide) kw355 kd_Jd_settle_217 rfl ?_
      obtain ⟨q6, e⟩ := zd_g e
      refine zs_iald C 25 rfl (zd_vp q6) kd_Jd_settle_220 rfl ?_
      refine zk_stk (r' := [.int (h.2.1 25 (h.1 38 4).toNatClampNeg), .int x9, .ref (S.1 32)]) rfl ?_
      refine zs_iast C 32 rfl (zd_vp q2) kd_Jd_settle_221 rfl ?_
      refine zk_aload_n C kd_Jd_settle_222 rfl 0 rfl rfl ?_
      refine zs_get (v := .ref (S.1 20)) C 38 2 rfl rfl rfl rfl ki_Jd (by decide) kw353 kd_Jd_settle_223 rfl ?_
      refine zs_get (v := .ref (S.1 25)) C 20 4 rfl rfl rfl rfl ki_Pl (by decide) kw248 kd_Jd_settle_226 rfl ?_
      refine zk_aload_n C kd_Jd_settle_229 rfl 0 rfl rfl ?_
      refine zs_get (v := .int (h.1 38 4)) C 38 4 rfl rfl rfl rfl ki_Jd (by decide) kw355 kd_Jd_settle_230 rfl ?_
      refine zk_dup2 C kd_Jd_settle_233 rfl rfl rfl ?_
      refine zs_iald C 25 rfl (zd_vp q6) kd_Jd_settle_234 rfl ?_
      refine zk_stk (r' := [.int (h.2.1 25 (h.1 38 4).toNatClampNeg), .int (h.1 38 4), .ref (S.1 25)]) rfl ?_
      refine zk_iload C kd_Jd_settle_235 6 rfl rfl ?_
      refine zk_iadd C kd_Jd_settle_237 rfl ?_
      refine zs_iast C 25 rfl (zd_vp q6) kd_Jd_settle_238 rfl ?_
      refine zk_goto (tgt := 256) C kd_Jd_settle_239 (by decide) ?_
      refine zk_lvs (lv' := [(0, .ref (S.1 38)), (2, .int x2), (3, .int x3), (4, .int x4), (6, .int x6), (7, .int x7), (8, .int x8), (9, .int x9)]) [0, 1, 2, 3, 4, 5, 6, 7] rfl ?_
      exact zb_Jd_settle_256 C hR hk124 (zs_uM (zs_uM (zs_uM (zs_uM (zs_uM (zs_uM (zs_uM h 30 x9.toNatClampNeg x6) 31 x9.toNatClampNeg x2) 33 x9.toNatClampNeg x7) 34 x9.toNatClampNeg x8) 35 x9.toNatClampNeg x4) 32 x9.toNatClampNeg (h.2.1 25 (h.1 38 4).toNatClampNeg)) 25 (h.1 38 4).toNatClampNeg ((h.2.1 25 (h.1 38 4).toNatClampNeg) + x8)) x2 x3 x4 x6 x7 x8 x9 e
theorem zl_Jd_settle_124 {X : zkj_T} {S : zs_T} {P : ze_T} {l : Launch} {D : va_G} {sz0 : Nat} {rh : zs_H} (C : zk_C X km_Jd_settle (zs_G S l D sz0) { frames := 1, cells := 0, slots := 0, locals := 22 } (ze_E P)) (hR : zkj_R X (zd_PV S rh) (none)) (n : Nat) : ∀ (h : zs_H) (x2 : Int32) (x3 : Int32) (x4 : Int32) (x6 : Int32) (x7 : Int32) (x8 : Int32) (x9 : Int32), f_Jd_settle_L124 n h x2 x3 x4 x6 x7 x8 x9 = some rh → zk_Ab X (zs_W S h) 0 0 124 [(0, .ref (S.1 38)), (2, .int x2), (3, .int x3), (4, .int x4), (6, .int x6), (7, .int x7), (8, .int x8), (9, .int x9)] [] := by
  induction n with
  | zero => intro h x2 x3 x4 x6 x7 x8 x9 e; exact zd_no e
  | succ n ih => intro h x2 x3 x4 x6 x7 x8 x9 e; exact zb_Jd_settle_124 (k124 := f_Jd_settle_L124  n) C hR ih h x2 x3 x4 x6 x7 x8 x9 e
set_option maxHeartbeats 4000000 in
set_option maxRecDepth 100000 in
theorem zb_Jd_settle_118 {X : zkj_T} {S : zs_T} {P : ze_T} {l : Launch} {D : va_G} {sz0 : Nat} {rh : zs_H} (C : zk_C X km_Jd_settle (zs_G S l D sz0) { frames := 1, cells := 0, slots := 0, locals := 22 } (ze_E P)) (hR : zkj_R X (zd_PV S rh) (none)) (h : zs_H) (x2 : Int32) (x3 : Int32) (x4 : Int32) (x6 : Int32) (x7 : Int32) (x8 : Int32) (e : f_Jd_settle_118 h x2 x3 x4 x6 x7 x8 = some rh) : zk_Ab X (zs_W S h) 0 0 118 [(0, .ref (S.1 38)), (2, .int x2), (3, .int x3), (4, .int x4), (6, .int x6), (7, .int x7), (8, .int x8)] [] := by
  unfold f_Jd_settle_118 at e
  refine zk_aload_n C kd_Jd_settle_118 rfl 0 rfl rfl ?_
  refine zs_get (v := .int (h.1 38 6)) C 38 6 rfl rfl rfl rfl ki_Jd (by decide) kw357 kd_Jd_settle_119 rfl ?_
  refine zk_istore (lv' := [(9, _), (0, _), (2, _), (3, _), (4, _), (6, _), (7, _), (8, _)]) C kd_Jd_settle_122 (by decide) rfl rfl ?_
  refine zk_lvs (lv' := [(0, .ref (S.1 38)), (2, .int x2), (3, .int x3), (4, .int x4), (6, .int x6), (7, .int x7), (8, .int x8), (9, .int (h.1 38 6))]) [1, 2, 3, 4, 5, 6, 7, 0] rfl ?_
  exact zl_Jd_settle_124 C hR zF h x2 x3 x4 x6 x7 x8 (h.1 38 6) e
set_option maxHeartbeats 4000000 in
set_option maxRecDepth 100000 in
theorem zb_Jd_settle_63 {X : zkj_T} {S : zs_T} {P : ze_T} {l : Launch} {D : va_G} {sz0 : Nat} {rh : zs_H} (C : zk_C X km_Jd_settle (zs_G S l D sz0) { frames := 1, cells := 0, slots := 0, locals := 22 } (ze_E P)) (hR : zkj_R X (zd_PV S rh) (none)) (h : zs_H) (x1 : Int32) (x2 : Int32) (x3 : Int32) (x4 : Int32) (x5 : Int32) (x6 : Int32) (x7 : Int32) (y0 : Int32) (e : f_Jd_settle_63 h x1 x2 x3 x4 x5 x6 x7 y0 = some rh) : zk_Ab X (zs_W S h) 0 0 63 [(0, .ref (S.1 38)), (1, .int x1), (2, .int x2), (3, .int x3), (4, .int x4), (5, .int x5), (6, .int x6), (7, .int x7)] [.int y0] := by
  unfold f_Jd_settle_63 at e
  refine zk_istore (lv' := [(8, _), (0, _), (1, _), (2, _), (3, _), (4, _), (5, _), (6, _), (7, _)]) C kd_Jd_settle_63 (by decide) rfl rfl ?_
  refine zk_iload C kd_Jd_settle_65 6 rfl rfl ?_
  refine zk_bipush (v := 9) C kd_Jd_settle_67 (by decide) rfl ?_
  refine zk_icmp_ne (tgt := 118) C kd_Jd_settle_69 (by decide) rfl (fun b1 => ?_) (fun b1 => ?_)
  · replace e := zd_neg b1 e
    refine zk_lvs (lv' := [(0, .ref (S.1 38)), (2, .int x2), (3, .int x3), (4, .int x4), (6, .int x6), (7, .int x7), (8, .int y0)]) [1, 3, 4, 5, 7, 8, 0] rfl ?_
    exact zb_Jd_settle_118 C hR h x2 x3 x4 x6 x7 y0 e
  · replace e := zd_pos b1 e
    refine zk_bipush (v := (-2)) C kd_Jd_settle_72 (by decide) rfl ?_
    refine zk_istore (lv' := [(6, _), (8, _), (0, _), (1, _), (2, _), (3, _), (4, _), (5, _), (7, _)]) C kd_Jd_settle_74 (by decide) rfl rfl ?_
    refine zk_aload_n C kd_Jd_settle_76 rfl 2 rfl rfl ?_
    refine zs_get (v := .ref (S.1 12)) C 38 1 rfl rfl rfl rfl ki_Jd (by decide) kw352 kd_Jd_settle_77 rfl ?_
    refine zs_get (v := .ref (S.1 16)) C 12 3 rfl rfl rfl rfl ki_Tr (by decide) kw168 kd_Jd_settle_80 rfl ?_
    refine zk_aload_n C kd_Jd_settle_83 rfl 2 rfl rfl ?_
    refine zs_get (v := .ref (S.1 12)) C 38 1 rfl rfl rfl rfl ki_Jd (by decide) kw352 kd_Jd_settle_84 rfl ?_
    refine zs_get (v := .ref (S.1 17)) C 12 4 rfl rfl rfl rfl ki_Tr (by decide) kw170 kd_Jd_settle_87 rfl ?_
    refine zk_iload_n C kd_Jd_settle_90 rfl 3 rfl rfl ?_
    obtain ⟨q2, e⟩ := zd_g e
    refine zs_iald C 17 rfl (zd_vp q2) kd_Jd_settle_91 rfl ?_
    obtain ⟨q3, e⟩ := zd_g e
    refine zs_iald C 16 rfl (zd_vp q3) kd_Jd_settle_92 rfl ?_
    refine zk_istore (lv' := [(7, _), (6, _), (8, _), (0, _), (1, _), (2, _), (3, _), (4, _), (5, _)]) C kd_Jd_settle_93 (by decide) rfl rfl ?_
    refine zk_aload_n C kd_Jd_settle_95 rfl 3 rfl rfl ?_
    refine zs_get (v := .ref (S.1 12)) C 38 1 rfl rfl rfl rfl ki_Jd (by decide) kw352 kd_Jd_settle_96 rfl ?_
    refine zs_get (v := .ref (S.1 16)) C 12 3 rfl rfl rfl rfl ki_Tr (by decide) kw168 kd_Jd_settle_99 rfl ?_
    refine zk_aload_n C kd_Jd_settle_102 rfl 3 rfl rfl ?_
    refine zs_get (v := .ref (S.1 12)) C 38 1 rfl rfl rfl rfl ki_Jd (by decide) kw352 kd_Jd_settle_103 rfl ?_
    refine zk_iload_n C kd_Jd_settle_106 rfl 4 rfl rfl ?_
    obtain ⟨v5, c4, e⟩ := zd_b e
    refine zs_callV (k := 12) (rn := { frames := 0, cells := 0, slots := 0, locals := 0 }) (As := [.int x1]) (rest := [.ref (S.1 16)]) C (zc_Tr_second h x1 c4) ku_Tr_second kw1081 kv_Tr_second rfl ⟨by decide, by decide⟩ ⟨by decide, by decide⟩ rfl rfl rfl (Nat.le_of_ble_eq_true rfl) kd_Jd_settle_107 rfl (c1 := 0) (s1 := 0) rfl rfl (fun v w hp => ?_)
    obtain ⟨rfl, rfl⟩ := hp
    refine zk_stk (r' := [.int v5, .ref (S.1 16)]) rfl ?_
    obtain ⟨q6, e⟩ := zd_g e
    refine zs_iald C 16 rfl (zd_vp q6) kd_Jd_settle_110 rfl ?_
    refine zk_iload C kd_Jd_settle_111 0 rfl rfl ?_
    refine zk_isub C kd_Jd_settle_113 rfl ?_
    refine zk_iconst (v := 1) C kd_Jd_settle_114 (by decide) rfl ?_
    refine zk_iadd C kd_Jd_settle_115 rfl ?_
    refine zk_istore (lv' := [(8, _), (7, _), (6, _), (0, _), (1, _), (2, _), (3, _), (4, _), (5, _)]) C kd_Jd_settle_116 (by decide) rfl rfl ?_
    refine zk_lvs (lv' := [(0, .ref (S.1 38)), (2, .int x2), (3, .int x3), (4, .int x4), (6, .int (-2)), (7, .int (h.2.1 16 (h.2.1 17 x1.toNatClampNeg).toNatClampNeg)), (8, .int (((h.2.1 16 v5.toNatClampNeg) - (h.2.1 16 (h.2.1 17 x1.toNatClampNeg).toNatClampNeg)) + 1))]) [3, 5, 6, 7, 2, 1, 0] rfl ?_
    exact zb_Jd_settle_118 C hR h x2 x3 x4 (-2) (h.2.1 16 (h.2.1 17 x1.toNatClampNeg).toNatClampNeg) (((h.2.1 16 v5.toNatClampNeg) - (h.2.1 16 (h.2.1 17 x1.toNatClampNeg).toNatClampNeg)) + 1) e
set_option maxHeartbeats 4000000 in
set_option maxRecDepth 100000 in
theorem zb_Jd_settle_39 {X : zkj_T} {S : zs_T} {P : ze_T} {l : Launch} {D : va_G} {sz0 : Nat} {rh : zs_H} (C : zk_C X km_Jd_settle (zs_G S l D sz0) { frames := 1, cells := 0, slots := 0, locals := 22 } (ze_E P)) (hR : zkj_R X (zd_PV S rh) (none)) (h : zs_H) (x1 : Int32) (x2 : Int32) (x3 : Int32) (x4 : Int32) (x5 : Int32) (y0 : Int32) (e : f_Jd_settle_39 h x1 x2 x3 x4 x5 y0 = some rh) : zk_Ab X (zs_W S h) 0 0 39 [(0, .ref (S.1 38)), (1, .int x1), (2, .int x2), (3, .int x3), (4, .int x4), (5, .int x5)] [.int y0] := by
  unfold f_Jd_settle_39 at e
  refine zk_istore (lv' := [(6, _), (0, _), (1, _), (2, _), (3, _), (4, _), (5, _)]) C kd_Jd_settle_39 (by decide) rfl rfl ?_
  refine zk_iconst (v := 0) C kd_Jd_settle_41 (by decide) rfl ?_
  refine zk_istore (lv' := [(7, _), (6, _), (0, _), (1, _), (2, _), (3, _), (4, _), (5, _)]) C kd_Jd_settle_42 (by decide) rfl rfl ?_
  refine zk_iload C kd_Jd_settle_44 1 rfl rfl ?_
  refine zk_if_lt (tgt := 62) C kd_Jd_settle_46 (by decide) rfl (fun b1 => ?_) (fun b1 => ?_)
  · replace e := zd_pos b1 e
    refine zk_iconst (v := 1) C kd_Jd_settle_62 (by decide) rfl ?_
    refine zk_lvs (lv' := [(0, .ref (S.1 38)), (1, .int x1), (2, .int x2), (3, .int x3), (4, .int x4), (5, .int x5), (6, .int y0), (7, .int 0)]) [2, 3, 4, 5, 6, 7, 1, 0] rfl ?_
    exact zb_Jd_settle_63 C hR h x1 x2 x3 x4 x5 y0 0 1 e
  · replace e := zd_neg b1 e
    refine zk_aload_n C kd_Jd_settle_49 rfl 2 rfl rfl ?_
    refine zs_get (v := .ref (S.1 20)) C 38 2 rfl rfl rfl rfl ki_Jd (by decide) kw353 kd_Jd_settle_50 rfl ?_
    refine zs_get (v := .ref (S.1 26)) C 20 5 rfl rfl rfl rfl ki_Pl (by decide) kw252 kd_Jd_settle_53 rfl ?_
    refine zk_iload C kd_Jd_settle_56 1 rfl rfl ?_
    obtain ⟨q2, e⟩ := zd_g e
    refine zs_iald C 26 rfl (zd_vp q2) kd_Jd_settle_58 rfl ?_
    refine zk_goto (tgt := 63) C kd_Jd_settle_59 (by decide) ?_
    refine zk_lvs (lv' := [(0, .ref (S.1 38)), (1, .int x1), (2, .int x2), (3, .int x3), (4, .int x4), (5, .int x5), (6, .int y0), (7, .int 0)]) [2, 3, 4, 5, 6, 7, 1, 0] rfl ?_
    exact zb_Jd_settle_63 C hR h x1 x2 x3 x4 x5 y0 0 (h.2.1 26 y0.toNatClampNeg) e
set_option maxHeartbeats 4000000 in
set_option maxRecDepth 100000 in
theorem zc_Jd_settle {l : Launch} {D : va_G} {sz0 : Nat} {S : zs_T} {P : ze_T} (h : zs_H) (x1 : Int32) (x2 : Int32) (x3 : Int32) (x4 : Int32) {rh : zs_H} (e : f_Jd_settle h x1 x2 x3 x4 = some rh) : zk_Sp (zs_G S l D sz0) (ze_E P) km_Jd_settle { frames := 1, cells := 0, slots := 0, locals := 22 } [.ref (S.1 38), .int x1, .int x2, .int x3, .int x4] (zs_W S h) (zd_PV S rh) := by
  refine zk_met ku_Jd_settle (Nat.le_of_ble_eq_true rfl) (ze_Em P) ?_
  intro X C hR
  refine zk_lvs (lv' := [(0, .ref (S.1 38)), (1, .int x1), (2, .int x2), (3, .int x3), (4, .int x4)]) [0, 1, 2, 3, 4] rfl ?_
  unfold f_Jd_settle at e
  refine zk_aload_n C kd_Jd_settle_0 rfl 0 rfl rfl ?_
  refine zs_get (v := .ref (S.1 12)) C 38 1 rfl rfl rfl rfl ki_Jd (by decide) kw352 kd_Jd_settle_1 rfl ?_
  refine zs_get (v := .ref (S.1 13)) C 12 0 rfl rfl rfl rfl ki_Tr (by decide) kw157 kd_Jd_settle_4 rfl ?_
  refine zk_iload_n C kd_Jd_settle_7 rfl 1 rfl rfl ?_
  obtain ⟨q1, e⟩ := zd_g e
  refine zs_bald C 13 rfl (zd_vp q1) kd_Jd_settle_8 rfl ?_
  refine zk_istore (lv' := [(5, _), (0, _), (1, _), (2, _), (3, _), (4, _)]) C kd_Jd_settle_9 (by decide) rfl rfl ?_
  refine zk_iload C kd_Jd_settle_11 0 rfl rfl ?_
  refine zk_bipush (v := 10) C kd_Jd_settle_13 (by decide) rfl ?_
  refine zk_icmp_ne (tgt := 38) C kd_Jd_settle_15 (by decide) rfl (fun b2 => ?_) (fun b2 => ?_)
  · replace e := zd_neg b2 e
    refine zk_iconst (v := (-1)) C kd_Jd_settle_38 (by decide) rfl ?_
    refine zk_lvs (lv' := [(0, .ref (S.1 38)), (1, .int x1), (2, .int x2), (3, .int x3), (4, .int x4), (5, .int (h.2.1 13 x1.toNatClampNeg))]) [1, 2, 3, 4, 5, 0] rfl ?_
    exact zb_Jd_settle_39 C hR h x1 x2 x3 x4 (h.2.1 13 x1.toNatClampNeg) (-1) e
  · replace e := zd_pos b2 e
    refine zk_aload_n C kd_Jd_settle_18 rfl 1 rfl rfl ?_
    refine zs_get (v := .ref (S.1 20)) C 38 2 rfl rfl rfl rfl ki_Jd (by decide) kw353 kd_Jd_settle_19 rfl ?_
    refine zs_get (v := .ref (S.1 36)) C 20 15 rfl rfl rfl rfl ki_Pl (by decide) kw287 kd_Jd_settle_22 rfl ?_
    refine zk_aload_n C kd_Jd_settle_25 rfl 1 rfl rfl ?_
    refine zs_get (v := .ref (S.1 12)) C 38 1 rfl rfl rfl rfl ki_Jd (by decide) kw352 kd_Jd_settle_26 rfl ?_
    refine zs_get (v := .ref (S.1 16)) C 12 3 rfl rfl rfl rfl ki_Tr (by decide) kw168 kd_Jd_settle_29 rfl ?_
    refine zk_iload_n C kd_Jd_settle_32 rfl 2 rfl rfl ?_
    refine zs_iald C 16 rfl (zd_vp q1) kd_Jd_settle_33 rfl ?_
    obtain ⟨q3, e⟩ := zd_g e
    refine zs_iald C 36 rfl (zd_vp q3) kd_Jd_settle_34 rfl ?_
    refine zk_goto (tgt := 39) C kd_Jd_settle_35 (by decide) ?_
    refine zk_lvs (lv' := [(0, .ref (S.1 38)), (1, .int x1), (2, .int x2), (3, .int x3), (4, .int x4), (5, .int (h.2.1 13 x1.toNatClampNeg))]) [1, 2, 3, 4, 5, 0] rfl ?_
    exact zb_Jd_settle_39 C hR h x1 x2 x3 x4 (h.2.1 13 x1.toNatClampNeg) (h.2.1 36 (h.2.1 16 x1.toNatClampNeg).toNatClampNeg) e
set_option maxHeartbeats 4000000 in
set_option maxRecDepth 100000 in
theorem zb_Jd_judgeDeclaration_370 {X : zkj_T} {S : zs_T} {P : ze_T} {l : Launch} {D : va_G} {sz0 : Nat} {rh : zs_H} (C : zk_C X km_Jd_judgeDeclaration (zs_G S l D sz0) { frames := 2, cells := 0, slots := 0, locals := 51 } (ze_E P)) (hR : zkj_R X (zd_PV S rh) (none)) (h : zs_H) (x1 : Int32) (y0 : Int32) (e : f_Jd_judgeDeclaration_370 h x1 y0 = some rh) : zk_Ab X (zs_W S h) 0 0 370 [(1, .int x1)] [.int y0, .ref (S.1 38)] := by
  unfold f_Jd_judgeDeclaration_370 at e
  refine zk_bipush (v := 19) C kd_Jd_judgeDeclaration_370 (by decide) rfl ?_
  refine zk_iload_n C kd_Jd_judgeDeclaration_372 rfl 0 rfl rfl ?_
  obtain ⟨h2, c1, e⟩ := zd_b e
  refine zs_callV (k := 38) (rn := { frames := 1, cells := 0, slots := 0, locals := 22 }) (As := [.int y0, .int 19, .int x1]) (rest := []) C (zc_Jd_refuseIf h y0 19 x1 c1) ku_Jd_refuseIf kw1036 kv_Jd_refuseIf rfl ⟨by decide, by decide⟩ ⟨by decide, by decide⟩ rfl rfl rfl (Nat.le_of_ble_eq_true rfl) kd_Jd_judgeDeclaration_373 rfl (c1 := 0) (s1 := 0) rfl rfl (fun v w hp => ?_)
  obtain ⟨rfl, rfl⟩ := hp
  refine zk_stk (r' := []) rfl ?_
  exact zk_vret C hR kd_Jd_judgeDeclaration_376 rfl rfl (zd_rV e)
set_option maxHeartbeats 4000000 in
set_option maxRecDepth 100000 in
theorem zb_Jd_judgeDeclaration_346 {X : zkj_T} {S : zs_T} {P : ze_T} {l : Launch} {D : va_G} {sz0 : Nat} {rh : zs_H} (C : zk_C X km_Jd_judgeDeclaration (zs_G S l D sz0) { frames := 2, cells := 0, slots := 0, locals := 51 } (ze_E P)) (hR : zkj_R X (zd_PV S rh) (none)) (h : zs_H) (x1 : Int32) (e : f_Jd_judgeDeclaration_346 h x1 = some rh) : zk_Ab X (zs_W S h) 0 0 346 [(0, .ref (S.1 38)), (1, .int x1)] [] := by
  unfold f_Jd_judgeDeclaration_346 at e
  refine zk_aload_n C kd_Jd_judgeDeclaration_346 rfl 0 rfl rfl ?_
  refine zk_aload_n C kd_Jd_judgeDeclaration_347 rfl 0 rfl rfl ?_
  refine zs_get (v := .ref (S.1 20)) C 38 2 rfl rfl rfl rfl ki_Jd (by decide) kw353 kd_Jd_judgeDeclaration_348 rfl ?_
  refine zs_get (v := .ref (S.1 25)) C 20 4 rfl rfl rfl rfl ki_Pl (by decide) kw248 kd_Jd_judgeDeclaration_351 rfl ?_
  refine zk_aload_n C kd_Jd_judgeDeclaration_354 rfl 0 rfl rfl ?_
  refine zs_get (v := .int (h.1 38 4)) C 38 4 rfl rfl rfl rfl ki_Jd (by decide) kw355 kd_Jd_judgeDeclaration_355 rfl ?_
  obtain ⟨q1, e⟩ := zd_g e
  refine zs_iald C 25 rfl (zd_vp q1) kd_Jd_judgeDeclaration_358 rfl ?_
  refine zk_sipush (v := 4096) C kd_Jd_judgeDeclaration_359 (by decide) rfl ?_
  refine zk_icmp_le (tgt := 369) C kd_Jd_judgeDeclaration_362 (by decide) rfl (fun b2 => ?_) (fun b2 => ?_)
  · replace e := zd_pos b2 e
    refine zk_iconst (v := 0) C kd_Jd_judgeDeclaration_369 (by decide) rfl ?_
    refine zk_lvs (lv' := [(1, .int x1)]) [1] rfl ?_
    exact zb_Jd_judgeDeclaration_370 C hR h x1 0 e
  · replace e := zd_neg b2 e
    refine zk_iconst (v := 1) C kd_Jd_judgeDeclaration_365 (by decide) rfl ?_
    refine zk_goto (tgt := 370) C kd_Jd_judgeDeclaration_366 (by decide) ?_
    refine zk_lvs (lv' := [(1, .int x1)]) [1] rfl ?_
    exact zb_Jd_judgeDeclaration_370 C hR h x1 1 e
set_option maxHeartbeats 4000000 in
set_option maxRecDepth 100000 in
theorem zb_Jd_judgeDeclaration_343 {X : zkj_T} {S : zs_T} {P : ze_T} {l : Launch} {D : va_G} {sz0 : Nat} {rh : zs_H} (C : zk_C X km_Jd_judgeDeclaration (zs_G S l D sz0) { frames := 2, cells := 0, slots := 0, locals := 51 } (ze_E P)) (hR : zkj_R X (zd_PV S rh) (none)) (h : zs_H) (x1 : Int32) (y0 : Int32) (y1 : Int32) (y2 : Int32) (y3 : Int32) (e : f_Jd_judgeDeclaration_343 h x1 y0 y1 y2 y3 = some rh) : zk_Ab X (zs_W S h) 0 0 343 [(0, .ref (S.1 38)), (1, .int x1)] [.int y0, .int y1, .int y2, .int y3, .ref (S.1 38)] := by
  unfold f_Jd_judgeDeclaration_343 at e
  obtain ⟨h2, c1, e⟩ := zd_b e
  refine zs_callV (k := 38) (rn := { frames := 1, cells := 0, slots := 0, locals := 22 }) (As := [.int y3, .int y2, .int y1, .int y0]) (rest := []) C (zc_Jd_settle h y3 y2 y1 y0 c1) ku_Jd_settle kw1093 kv_Jd_settle rfl ⟨by decide, by decide⟩ ⟨by decide, by decide⟩ rfl rfl rfl (Nat.le_of_ble_eq_true rfl) kd_Jd_judgeDeclaration_343 rfl (c1 := 0) (s1 := 0) rfl rfl (fun v w hp => ?_)
  obtain ⟨rfl, rfl⟩ := hp
  refine zk_stk (r' := []) rfl ?_
  refine zk_lvs (lv' := [(0, .ref (S.1 38)), (1, .int x1)]) [0, 1] rfl ?_
  exact zb_Jd_judgeDeclaration_346 C hR h2 x1 e
set_option maxHeartbeats 4000000 in
set_option maxRecDepth 100000 in
theorem zb_Jd_judgeDeclaration_311 {X : zkj_T} {S : zs_T} {P : ze_T} {l : Launch} {D : va_G} {sz0 : Nat} {rh : zs_H} (C : zk_C X km_Jd_judgeDeclaration (zs_G S l D sz0) { frames := 2, cells := 0, slots := 0, locals := 51 } (ze_E P)) (hR : zkj_R X (zd_PV S rh) (none)) (h : zs_H) (x1 : Int32) (x2 : Int32) (x3 : Int32) (x4 : Int32) (x6 : Int32) (e : f_Jd_judgeDeclaration_311 h x1 x2 x3 x4 x6 = some rh) : zk_Ab X (zs_W S h) 0 0 311 [(0, .ref (S.1 38)), (1, .int x1), (2, .int x2), (3, .int x3), (4, .int x4), (6, .int x6)] [] := by
  unfold f_Jd_judgeDeclaration_311 at e
  refine zk_aload_n C kd_Jd_judgeDeclaration_311 rfl 0 rfl rfl ?_
  refine zs_get (v := .int (h.1 38 3)) C 38 3 rfl rfl rfl rfl ki_Jd (by decide) kw354 kd_Jd_judgeDeclaration_312 rfl ?_
  refine zk_if_ne (tgt := 346) C kd_Jd_judgeDeclaration_315 (by decide) rfl (fun b1 => ?_) (fun b1 => ?_)
  · replace e := zd_neg b1 e
    refine zk_lvs (lv' := [(0, .ref (S.1 38)), (1, .int x1)]) [0, 1] rfl ?_
    exact zb_Jd_judgeDeclaration_346 C hR h x1 e
  · replace e := zd_pos b1 e
    refine zk_aload_n C kd_Jd_judgeDeclaration_318 rfl 0 rfl rfl ?_
    refine zk_iload_n C kd_Jd_judgeDeclaration_319 rfl 2 rfl rfl ?_
    refine zk_iload C kd_Jd_judgeDeclaration_320 5 rfl rfl ?_
    refine zk_iload_n C kd_Jd_judgeDeclaration_322 rfl 3 rfl rfl ?_
    refine zk_iload C kd_Jd_judgeDeclaration_323 4 rfl rfl ?_
    refine zk_iconst (v := (-1)) C kd_Jd_judgeDeclaration_325 (by decide) rfl ?_
    refine zk_icmp_ne (tgt := 333) C kd_Jd_judgeDeclaration_326 (by decide) rfl (fun b2 => ?_) (fun b2 => ?_)
    · replace e := zd_neg b2 e
      refine zk_aload_n C kd_Jd_judgeDeclaration_333 rfl 0 rfl rfl ?_
      refine zs_get (v := .ref (S.1 12)) C 38 1 rfl rfl rfl rfl ki_Jd (by decide) kw352 kd_Jd_judgeDeclaration_334 rfl ?_
      refine zs_get (v := .ref (S.1 16)) C 12 3 rfl rfl rfl rfl ki_Tr (by decide) kw168 kd_Jd_judgeDeclaration_337 rfl ?_
      refine zk_iload C kd_Jd_judgeDeclaration_340 4 rfl rfl ?_
      obtain ⟨q3, e⟩ := zd_g e
      refine zs_iald C 16 rfl (zd_vp q3) kd_Jd_judgeDeclaration_342 rfl ?_
      refine zk_lvs (lv' := [(0, .ref (S.1 38)), (1, .int x1)]) [0, 1] rfl ?_
      exact zb_Jd_judgeDeclaration_343 C hR h x1 (h.2.1 16 x4.toNatClampNeg) x3 x6 x2 e
    · replace e := zd_pos b2 e
      refine zk_iconst (v := 0) C kd_Jd_judgeDeclaration_329 (by decide) rfl ?_
      refine zk_goto (tgt := 343) C kd_Jd_judgeDeclaration_330 (by decide) ?_
      refine zk_lvs (lv' := [(0, .ref (S.1 38)), (1, .int x1)]) [0, 1] rfl ?_
      exact zb_Jd_judgeDeclaration_343 C hR h x1 0 x3 x6 x2 e
set_option maxHeartbeats 4000000 in
set_option maxRecDepth 100000 in
theorem zb_Jd_judgeDeclaration_300 {X : zkj_T} {S : zs_T} {P : ze_T} {l : Launch} {D : va_G} {sz0 : Nat} {rh : zs_H} (C : zk_C X km_Jd_judgeDeclaration (zs_G S l D sz0) { frames := 2, cells := 0, slots := 0, locals := 51 } (ze_E P)) (hR : zkj_R X (zd_PV S rh) (none)) (h : zs_H) (x1 : Int32) (x2 : Int32) (x3 : Int32) (x4 : Int32) (x6 : Int32) (y0 : Int32) (e : f_Jd_judgeDeclaration_300 h x1 x2 x3 x4 x6 y0 = some rh) : zk_Ab X (zs_W S h) 0 0 300 [(0, .ref (S.1 38)), (1, .int x1), (2, .int x2), (3, .int x3), (4, .int x4), (6, .int x6)] [.int y0] := by
  unfold f_Jd_judgeDeclaration_300 at e
  refine zk_istore (lv' := [(9, _), (0, _), (1, _), (2, _), (3, _), (4, _), (6, _)]) C kd_Jd_judgeDeclaration_300 (by decide) rfl rfl ?_
  refine zk_aload_n C kd_Jd_judgeDeclaration_302 rfl 1 rfl rfl ?_
  refine zk_iload C kd_Jd_judgeDeclaration_303 0 rfl rfl ?_
  refine zk_bipush (v := 18) C kd_Jd_judgeDeclaration_305 (by decide) rfl ?_
  refine zk_iload_n C kd_Jd_judgeDeclaration_307 rfl 2 rfl rfl ?_
  obtain ⟨h2, c1, e⟩ := zd_b e
  refine zs_callV (k := 38) (rn := { frames := 1, cells := 0, slots := 0, locals := 22 }) (As := [.int y0, .int 18, .int x1]) (rest := []) C (zc_Jd_refuseIf h y0 18 x1 c1) ku_Jd_refuseIf kw1036 kv_Jd_refuseIf rfl ⟨by decide, by decide⟩ ⟨by decide, by decide⟩ rfl rfl rfl (Nat.le_of_ble_eq_true rfl) kd_Jd_judgeDeclaration_308 rfl (c1 := 0) (s1 := 0) rfl rfl (fun v w hp => ?_)
  obtain ⟨rfl, rfl⟩ := hp
  refine zk_stk (r' := []) rfl ?_
  refine zk_lvs (lv' := [(0, .ref (S.1 38)), (1, .int x1), (2, .int x2), (3, .int x3), (4, .int x4), (6, .int x6)]) [1, 2, 3, 4, 5, 6] rfl ?_
  exact zb_Jd_judgeDeclaration_311 C hR h2 x1 x2 x3 x4 x6 e
set_option maxHeartbeats 4000000 in
set_option maxRecDepth 100000 in
theorem zb_Jd_judgeDeclaration_295 {X : zkj_T} {S : zs_T} {P : ze_T} {l : Launch} {D : va_G} {sz0 : Nat} {rh : zs_H} (C : zk_C X km_Jd_judgeDeclaration (zs_G S l D sz0) { frames := 2, cells := 0, slots := 0, locals := 51 } (ze_E P)) (hR : zkj_R X (zd_PV S rh) (none)) (h : zs_H) (x1 : Int32) (x2 : Int32) (x3 : Int32) (x4 : Int32) (x6 : Int32) (e : f_Jd_judgeDeclaration_295 h x1 x2 x3 x4 x6 = some rh) : zk_Ab X (zs_W S h) 0 0 295 [(0, .ref (S.1 38)), (1, .int x1), (2, .int x2), (3, .int x3), (4, .int x4), (6, .int x6)] [] := by
  unfold f_Jd_judgeDeclaration_295 at e
  refine zk_iconst (v := 1) C kd_Jd_judgeDeclaration_295 (by decide) rfl ?_
  refine zk_goto (tgt := 300) C kd_Jd_judgeDeclaration_296 (by decide) ?_
  refine zk_lvs (lv' := [(0, .ref (S.1 38)), (1, .int x1), (2, .int x2), (3, .int x3), (4, .int x4), (6, .int x6)]) [0, 1, 2, 3, 4, 5] rfl ?_
  exact zb_Jd_judgeDeclaration_300 C hR h x1 x2 x3 x4 x6 1 e
set_option maxHeartbeats 4000000 in
set_option maxRecDepth 100000 in
theorem zb_Jd_judgeDeclaration_270 {X : zkj_T} {S : zs_T} {P : ze_T} {l : Launch} {D : va_G} {sz0 : Nat} {rh : zs_H} (C : zk_C X km_Jd_judgeDeclaration (zs_G S l D sz0) { frames := 2, cells := 0, slots := 0, locals := 51 } (ze_E P)) (hR : zkj_R X (zd_PV S rh) (none)) (h : zs_H) (x1 : Int32) (x2 : Int32) (x3 : Int32) (x4 : Int32) (x5 : Int32) (x6 : Int32) (y0 : Int32) (e : f_Jd_judgeDeclaration_270 h x1 x2 x3 x4 x5 x6 y0 = some rh) : zk_Ab X (zs_W S h) 0 0 270 [(0, .ref (S.1 38)), (1, .int x1), (2, .int x2), (3, .int x3), (4, .int x4), (5, .int x5), (6, .int x6)] [.int y0] := by
  unfold f_Jd_judgeDeclaration_270 at e
  refine zk_istore (lv' := [(8, _), (0, _), (1, _), (2, _), (3, _), (4, _), (5, _), (6, _)]) C kd_Jd_judgeDeclaration_270 (by decide) rfl rfl ?_
  refine zk_iload C kd_Jd_judgeDeclaration_272 6 rfl rfl ?_
  refine zk_bipush (v := 10) C kd_Jd_judgeDeclaration_274 (by decide) rfl ?_
  refine zk_icmp_eq (tgt := 295) C kd_Jd_judgeDeclaration_276 (by decide) rfl (fun b1 => ?_) (fun b1 => ?_)
  · replace e := zd_pos b1 e
    refine zk_lvs (lv' := [(0, .ref (S.1 38)), (1, .int x1), (2, .int x2), (3, .int x3), (4, .int x4), (6, .int x6)]) [1, 2, 3, 4, 5, 7] rfl ?_
    exact zb_Jd_judgeDeclaration_295 C hR h x1 x2 x3 x4 x6 e
  · replace e := zd_neg b1 e
    refine zk_iload C kd_Jd_judgeDeclaration_279 0 rfl rfl ?_
    refine zk_if_ne (tgt := 295) C kd_Jd_judgeDeclaration_281 (by decide) rfl (fun b2 => ?_) (fun b2 => ?_)
    · replace e := zd_neg b2 e
      refine zk_lvs (lv' := [(0, .ref (S.1 38)), (1, .int x1), (2, .int x2), (3, .int x3), (4, .int x4), (6, .int x6)]) [1, 2, 3, 4, 5, 7] rfl ?_
      exact zb_Jd_judgeDeclaration_295 C hR h x1 x2 x3 x4 x6 e
    · replace e := zd_pos b2 e
      refine zk_aload_n C kd_Jd_judgeDeclaration_284 rfl 1 rfl rfl ?_
      refine zk_iload C kd_Jd_judgeDeclaration_285 7 rfl rfl ?_
      refine zk_iload C kd_Jd_judgeDeclaration_287 5 rfl rfl ?_
      obtain ⟨v4, c3, e⟩ := zd_b e
      refine zs_callV (k := 38) (rn := { frames := 1, cells := 0, slots := 0, locals := 23 }) (As := [.int x6, .int x4]) (rest := []) C (zc_Jd_isConstantOf h x6 x4 c3) ku_Jd_isConstantOf kw1085 kv_Jd_isConstantOf rfl ⟨by decide, by decide⟩ ⟨by decide, by decide⟩ rfl rfl rfl (Nat.le_of_ble_eq_true rfl) kd_Jd_judgeDeclaration_289 rfl (c1 := 0) (s1 := 0) rfl rfl (fun v w hp => ?_)
      obtain ⟨rfl, rfl, z5⟩ := hp
      refine zk_stk (r' := [.int v4]) rfl ?_
      refine zk_if_ne (tgt := 299) C kd_Jd_judgeDeclaration_292 (by decide) rfl (fun b6 => ?_) (fun b6 => ?_)
      · replace e := zd_neg b6 e
        refine zk_iconst (v := 0) C kd_Jd_judgeDeclaration_299 (by decide) rfl ?_
        refine zk_lvs (lv' := [(0, .ref (S.1 38)), (1, .int x1), (2, .int x2), (3, .int x3), (4, .int x4), (6, .int x6)]) [1, 2, 3, 4, 5, 7] rfl ?_
        exact zb_Jd_judgeDeclaration_300 C hR h x1 x2 x3 x4 x6 0 e
      · replace e := zd_pos b6 e
        refine zk_lvs (lv' := [(0, .ref (S.1 38)), (1, .int x1), (2, .int x2), (3, .int x3), (4, .int x4), (6, .int x6)]) [1, 2, 3, 4, 5, 7] rfl ?_
        exact zb_Jd_judgeDeclaration_295 C hR h x1 x2 x3 x4 x6 e
set_option maxHeartbeats 4000000 in
set_option maxRecDepth 100000 in
theorem zb_Jd_judgeDeclaration_265 {X : zkj_T} {S : zs_T} {P : ze_T} {l : Launch} {D : va_G} {sz0 : Nat} {rh : zs_H} (C : zk_C X km_Jd_judgeDeclaration (zs_G S l D sz0) { frames := 2, cells := 0, slots := 0, locals := 51 } (ze_E P)) (hR : zkj_R X (zd_PV S rh) (none)) (h : zs_H) (x1 : Int32) (x2 : Int32) (x3 : Int32) (x4 : Int32) (x5 : Int32) (x6 : Int32) (e : f_Jd_judgeDeclaration_265 h x1 x2 x3 x4 x5 x6 = some rh) : zk_Ab X (zs_W S h) 0 0 265 [(0, .ref (S.1 38)), (1, .int x1), (2, .int x2), (3, .int x3), (4, .int x4), (5, .int x5), (6, .int x6)] [] := by
  unfold f_Jd_judgeDeclaration_265 at e
  refine zk_iconst (v := 1) C kd_Jd_judgeDeclaration_265 (by decide) rfl ?_
  refine zk_goto (tgt := 270) C kd_Jd_judgeDeclaration_266 (by decide) ?_
  refine zk_lvs (lv' := [(0, .ref (S.1 38)), (1, .int x1), (2, .int x2), (3, .int x3), (4, .int x4), (5, .int x5), (6, .int x6)]) [0, 1, 2, 3, 4, 5, 6] rfl ?_
  exact zb_Jd_judgeDeclaration_270 C hR h x1 x2 x3 x4 x5 x6 1 e
set_option maxHeartbeats 4000000 in
set_option maxRecDepth 100000 in
theorem zb_Jd_judgeDeclaration_269 {X : zkj_T} {S : zs_T} {P : ze_T} {l : Launch} {D : va_G} {sz0 : Nat} {rh : zs_H} (C : zk_C X km_Jd_judgeDeclaration (zs_G S l D sz0) { frames := 2, cells := 0, slots := 0, locals := 51 } (ze_E P)) (hR : zkj_R X (zd_PV S rh) (none)) (h : zs_H) (x1 : Int32) (x2 : Int32) (x3 : Int32) (x4 : Int32) (x5 : Int32) (x6 : Int32) (e : f_Jd_judgeDeclaration_269 h x1 x2 x3 x4 x5 x6 = some rh) : zk_Ab X (zs_W S h) 0 0 269 [(0, .ref (S.1 38)), (1, .int x1), (2, .int x2), (3, .int x3), (4, .int x4), (5, .int x5), (6, .int x6)] [] := by
  unfold f_Jd_judgeDeclaration_269 at e
  refine zk_iconst (v := 0) C kd_Jd_judgeDeclaration_269 (by decide) rfl ?_
  refine zk_lvs (lv' := [(0, .ref (S.1 38)), (1, .int x1), (2, .int x2), (3, .int x3), (4, .int x4), (5, .int x5), (6, .int x6)]) [0, 1, 2, 3, 4, 5, 6] rfl ?_
  exact zb_Jd_judgeDeclaration_270 C hR h x1 x2 x3 x4 x5 x6 0 e
set_option maxHeartbeats 4000000 in
set_option maxRecDepth 100000 in
theorem zb_Jd_judgeDeclaration_233 {X : zkj_T} {S : zs_T} {P : ze_T} {l : Launch} {D : va_G} {sz0 : Nat} {rh : zs_H} (C : zk_C X km_Jd_judgeDeclaration (zs_G S l D sz0) { frames := 2, cells := 0, slots := 0, locals := 51 } (ze_E P)) (hR : zkj_R X (zd_PV S rh) (none)) (h : zs_H) (x1 : Int32) (x2 : Int32) (x3 : Int32) (x4 : Int32) (x5 : Int32) (x6 : Int32) (y0 : Int32) (e : f_Jd_judgeDeclaration_233 h x1 x2 x3 x4 x5 x6 y0 = some rh) : zk_Ab X (zs_W S h) 0 0 233 [(0, .ref (S.1 38)), (1, .int x1), (2, .int x2), (3, .int x3), (4, .int x4), (5, .int x5), (6, .int x6)] [.int y0, .ref (S.1 38)] := by
  unfold f_Jd_judgeDeclaration_233 at e
  refine zk_bipush (v := 15) C kd_Jd_judgeDeclaration_233 (by decide) rfl ?_
  refine zk_iload_n C kd_Jd_judgeDeclaration_235 rfl 1 rfl rfl ?_
  obtain ⟨h2, c1, e⟩ := zd_b e
  refine zs_callV (k := 38) (rn := { frames := 1, cells := 0, slots := 0, locals := 22 }) (As := [.int y0, .int 15, .int x1]) (rest := []) C (zc_Jd_refuseIf h y0 15 x1 c1) ku_Jd_refuseIf kw1036 kv_Jd_refuseIf rfl ⟨by decide, by decide⟩ ⟨by decide, by decide⟩ rfl rfl rfl (Nat.le_of_ble_eq_true rfl) kd_Jd_judgeDeclaration_236 rfl (c1 := 0) (s1 := 0) rfl rfl (fun v w hp => ?_)
  obtain ⟨rfl, rfl⟩ := hp
  refine zk_stk (r' := []) rfl ?_
  refine zk_iload C kd_Jd_judgeDeclaration_239 4 rfl rfl ?_
  refine zk_iconst (v := (-1)) C kd_Jd_judgeDeclaration_241 (by decide) rfl ?_
  refine zk_icmp_eq (tgt := 311) C kd_Jd_judgeDeclaration_242 (by decide) rfl (fun b3 => ?_) (fun b3 => ?_)
  · replace e := zd_pos b3 e
    refine zk_lvs (lv' := [(0, .ref (S.1 38)), (1, .int x1), (2, .int x2), (3, .int x3), (4, .int x4), (6, .int x6)]) [0, 1, 2, 3, 4, 6] rfl ?_
    exact zb_Jd_judgeDeclaration_311 C hR h2 x1 x2 x3 x4 x6 e
  · replace e := zd_neg b3 e
    refine zk_iload_n C kd_Jd_judgeDeclaration_245 rfl 3 rfl rfl ?_
    refine zk_iconst (v := (-1)) C kd_Jd_judgeDeclaration_246 (by decide) rfl ?_
    refine zk_icmp_eq (tgt := 269) C kd_Jd_judgeDeclaration_247 (by decide) rfl (fun b4 => ?_) (fun b4 => ?_)
    · replace e := zd_pos b4 e
      refine zk_lvs (lv' := [(0, .ref (S.1 38)), (1, .int x1), (2, .int x2), (3, .int x3), (4, .int x4), (5, .int x5), (6, .int x6)]) [0, 1, 2, 3, 4, 5, 6] rfl ?_
      exact zb_Jd_judgeDeclaration_269 C hR h2 x1 x2 x3 x4 x5 x6 e
    · replace e := zd_neg b4 e
      refine zk_iload_n C kd_Jd_judgeDeclaration_250 rfl 3 rfl rfl ?_
      refine zk_bipush (v := 8) C kd_Jd_judgeDeclaration_251 (by decide) rfl ?_
      refine zk_ishr C kd_Jd_judgeDeclaration_253 rfl ?_
      refine zk_if_eq (tgt := 265) C kd_Jd_judgeDeclaration_254 (by decide) rfl (fun b5 => ?_) (fun b5 => ?_)
      · replace e := zd_pos b5 e
        refine zk_lvs (lv' := [(0, .ref (S.1 38)), (1, .int x1), (2, .int x2), (3, .int x3), (4, .int x4), (5, .int x5), (6, .int x6)]) [0, 1, 2, 3, 4, 5, 6] rfl ?_
        exact zb_Jd_judgeDeclaration_265 C hR h2 x1 x2 x3 x4 x5 x6 e
      · replace e := zd_neg b5 e
        refine zk_iload_n C kd_Jd_judgeDeclaration_257 rfl 3 rfl rfl ?_
        refine zk_bipush (v := 8) C kd_Jd_judgeDeclaration_258 (by decide) rfl ?_
        refine zk_ishr C kd_Jd_judgeDeclaration_260 rfl ?_
        refine zk_iconst (v := 3) C kd_Jd_judgeDeclaration_261 (by decide) rfl ?_
        refine zk_icmp_ne (tgt := 269) C kd_Jd_judgeDeclaration_262 (by decide) rfl (fun b6 => ?_) (fun b6 => ?_)
        · replace e := zd_neg b6 e
          refine zk_lvs (lv' := [(0, .ref (S.1 38)), (1, .int x1), (2, .int x2), (3, .int x3), (4, .int x4), (5, .int x5), (6, .int x6)]) [0, 1, 2, 3, 4, 5, 6] rfl ?_
          exact zb_Jd_judgeDeclaration_269 C hR h2 x1 x2 x3 x4 x5 x6 e
        · replace e := zd_pos b6 e
          refine zk_lvs (lv' := [(0, .ref (S.1 38)), (1, .int x1), (2, .int x2), (3, .int x3), (4, .int x4), (5, .int x5), (6, .int x6)]) [0, 1, 2, 3, 4, 5, 6] rfl ?_
          exact zb_Jd_judgeDeclaration_265 C hR h2 x1 x2 x3 x4 x5 x6 e
set_option maxHeartbeats 4000000 in
set_option maxRecDepth 100000 in
theorem zb_Jd_judgeDeclaration_228 {X : zkj_T} {S : zs_T} {P : ze_T} {l : Launch} {D : va_G} {sz0 : Nat} {rh : zs_H} (C : zk_C X km_Jd_judgeDeclaration (zs_G S l D sz0) { frames := 2, cells := 0, slots := 0, locals := 51 } (ze_E P)) (hR : zkj_R X (zd_PV S rh) (none)) (h : zs_H) (x1 : Int32) (x2 : Int32) (x3 : Int32) (x4 : Int32) (x5 : Int32) (x6 : Int32) (e : f_Jd_judgeDeclaration_228 h x1 x2 x3 x4 x5 x6 = some rh) : zk_Ab X (zs_W S h) 0 0 228 [(0, .ref (S.1 38)), (1, .int x1), (2, .int x2), (3, .int x3), (4, .int x4), (5, .int x5), (6, .int x6)] [.ref (S.1 38)] := by
  unfold f_Jd_judgeDeclaration_228 at e
  refine zk_iconst (v := 1) C kd_Jd_judgeDeclaration_228 (by decide) rfl ?_
  refine zk_goto (tgt := 233) C kd_Jd_judgeDeclaration_229 (by decide) ?_
  refine zk_lvs (lv' := [(0, .ref (S.1 38)), (1, .int x1), (2, .int x2), (3, .int x3), (4, .int x4), (5, .int x5), (6, .int x6)]) [0, 1, 2, 3, 4, 5, 6] rfl ?_
  exact zb_Jd_judgeDeclaration_233 C hR h x1 x2 x3 x4 x5 x6 1 e
set_option maxHeartbeats 4000000 in
set_option maxRecDepth 100000 in
theorem zb_Jd_judgeDeclaration_232 {X : zkj_T} {S : zs_T} {P : ze_T} {l : Launch} {D : va_G} {sz0 : Nat} {rh : zs_H} (C : zk_C X km_Jd_judgeDeclaration (zs_G S l D sz0) { frames := 2, cells := 0, slots := 0, locals := 51 } (ze_E P)) (hR : zkj_R X (zd_PV S rh) (none)) (h : zs_H) (x1 : Int32) (x2 : Int32) (x3 : Int32) (x4 : Int32) (x5 : Int32) (x6 : Int32) (e : f_Jd_judgeDeclaration_232 h x1 x2 x3 x4 x5 x6 = some rh) : zk_Ab X (zs_W S h) 0 0 232 [(0, .ref (S.1 38)), (1, .int x1), (2, .int x2), (3, .int x3), (4, .int x4), (5, .int x5), (6, .int x6)] [.ref (S.1 38)] := by
  unfold f_Jd_judgeDeclaration_232 at e
  refine zk_iconst (v := 0) C kd_Jd_judgeDeclaration_232 (by decide) rfl ?_
  refine zk_lvs (lv' := [(0, .ref (S.1 38)), (1, .int x1), (2, .int x2), (3, .int x3), (4, .int x4), (5, .int x5), (6, .int x6)]) [0, 1, 2, 3, 4, 5, 6] rfl ?_
  exact zb_Jd_judgeDeclaration_233 C hR h x1 x2 x3 x4 x5 x6 0 e
set_option maxHeartbeats 4000000 in
set_option maxRecDepth 100000 in
theorem zb_Jd_judgeDeclaration_206 {X : zkj_T} {S : zs_T} {P : ze_T} {l : Launch} {D : va_G} {sz0 : Nat} {rh : zs_H} (C : zk_C X km_Jd_judgeDeclaration (zs_G S l D sz0) { frames := 2, cells := 0, slots := 0, locals := 51 } (ze_E P)) (hR : zkj_R X (zd_PV S rh) (none)) (h : zs_H) (x1 : Int32) (x2 : Int32) (x3 : Int32) (x4 : Int32) (x5 : Int32) (x6 : Int32) (y0 : Int32) (e : f_Jd_judgeDeclaration_206 h x1 x2 x3 x4 x5 x6 y0 = some rh) : zk_Ab X (zs_W S h) 0 0 206 [(0, .ref (S.1 38)), (1, .int x1), (2, .int x2), (3, .int x3), (4, .int x4), (5, .int x5), (6, .int x6)] [.int y0] := by
  unfold f_Jd_judgeDeclaration_206 at e
  refine zk_istore (lv' := [(7, _), (0, _), (1, _), (2, _), (3, _), (4, _), (5, _), (6, _)]) C kd_Jd_judgeDeclaration_206 (by decide) rfl rfl ?_
  refine zk_aload_n C kd_Jd_judgeDeclaration_208 rfl 1 rfl rfl ?_
  refine zk_iload_n C kd_Jd_judgeDeclaration_209 rfl 4 rfl rfl ?_
  refine zk_iconst (v := (-1)) C kd_Jd_judgeDeclaration_210 (by decide) rfl ?_
  refine zk_icmp_eq (tgt := 232) C kd_Jd_judgeDeclaration_211 (by decide) rfl (fun b1 => ?_) (fun b1 => ?_)
  · replace e := zd_pos b1 e
    refine zk_lvs (lv' := [(0, .ref (S.1 38)), (1, .int x1), (2, .int x2), (3, .int x3), (4, .int x4), (5, .int x5), (6, .int x6)]) [1, 2, 3, 4, 5, 6, 7] rfl ?_
    exact zb_Jd_judgeDeclaration_232 C hR h x1 x2 x3 x4 x5 x6 e
  · replace e := zd_neg b1 e
    refine zk_iload C kd_Jd_judgeDeclaration_214 6 rfl rfl ?_
    refine zk_bipush (v := 8) C kd_Jd_judgeDeclaration_216 (by decide) rfl ?_
    refine zk_icmp_ne (tgt := 228) C kd_Jd_judgeDeclaration_218 (by decide) rfl (fun b2 => ?_) (fun b2 => ?_)
    · replace e := zd_neg b2 e
      refine zk_lvs (lv' := [(0, .ref (S.1 38)), (1, .int x1), (2, .int x2), (3, .int x3), (4, .int x4), (5, .int x5), (6, .int x6)]) [1, 2, 3, 4, 5, 6, 7] rfl ?_
      exact zb_Jd_judgeDeclaration_228 C hR h x1 x2 x3 x4 x5 x6 e
    · replace e := zd_pos b2 e
      refine zk_iload C kd_Jd_judgeDeclaration_221 7 rfl rfl ?_
      refine zk_iload C kd_Jd_judgeDeclaration_223 0 rfl rfl ?_
      refine zk_icmp_eq (tgt := 232) C kd_Jd_judgeDeclaration_225 (by decide) rfl (fun b3 => ?_) (fun b3 => ?_)
      · replace e := zd_pos b3 e
        refine zk_lvs (lv' := [(0, .ref (S.1 38)), (1, .int x1), (2, .int x2), (3, .int x3), (4, .int x4), (5, .int x5), (6, .int x6)]) [1, 2, 3, 4, 5, 6, 7] rfl ?_
        exact zb_Jd_judgeDeclaration_232 C hR h x1 x2 x3 x4 x5 x6 e
      · replace e := zd_neg b3 e
        refine zk_lvs (lv' := [(0, .ref (S.1 38)), (1, .int x1), (2, .int x2), (3, .int x3), (4, .int x4), (5, .int x5), (6, .int x6)]) [1, 2, 3, 4, 5, 6, 7] rfl ?_
        exact zb_Jd_judgeDeclaration_228 C hR h x1 x2 x3 x4 x5 x6 e
set_option maxHeartbeats 4000000 in
set_option maxRecDepth 100000 in
theorem zb_Jd_judgeDeclaration_187 {X : zkj_T} {S : zs_T} {P : ze_T} {l : Launch} {D : va_G} {sz0 : Nat} {rh : zs_H} (C : zk_C X km_Jd_judgeDeclaration (zs_G S l D sz0) { frames := 2, cells := 0, slots := 0, locals := 51 } (ze_E P)) (hR : zkj_R X (zd_PV S rh) (none)) (h : zs_H) (x1 : Int32) (x2 : Int32) (x3 : Int32) (x4 : Int32) (x5 : Int32) (x6 : Int32) (y0 : Int32) (e : f_Jd_judgeDeclaration_187 h x1 x2 x3 x4 x5 x6 y0 = some rh) : zk_Ab X (zs_W S h) 0 0 187 [(0, .ref (S.1 38)), (1, .int x1), (2, .int x2), (3, .int x3), (4, .int x4), (5, .int x5), (6, .int x6)] [.int y0, .ref (S.1 38)] := by
  unfold f_Jd_judgeDeclaration_187 at e
  refine zk_bipush (v := 43) C kd_Jd_judgeDeclaration_187 (by decide) rfl ?_
  refine zk_iload_n C kd_Jd_judgeDeclaration_189 rfl 1 rfl rfl ?_
  obtain ⟨h2, c1, e⟩ := zd_b e
  refine zs_callV (k := 38) (rn := { frames := 1, cells := 0, slots := 0, locals := 22 }) (As := [.int y0, .int 43, .int x1]) (rest := []) C (zc_Jd_refuseIf h y0 43 x1 c1) ku_Jd_refuseIf kw1036 kv_Jd_refuseIf rfl ⟨by decide, by decide⟩ ⟨by decide, by decide⟩ rfl rfl rfl (Nat.le_of_ble_eq_true rfl) kd_Jd_judgeDeclaration_190 rfl (c1 := 0) (s1 := 0) rfl rfl (fun v w hp => ?_)
  obtain ⟨rfl, rfl⟩ := hp
  refine zk_stk (r' := []) rfl ?_
  refine zk_iload_n C kd_Jd_judgeDeclaration_193 rfl 3 rfl rfl ?_
  refine zk_bipush (v := 8) C kd_Jd_judgeDeclaration_194 (by decide) rfl ?_
  refine zk_ishr C kd_Jd_judgeDeclaration_196 rfl ?_
  refine zk_iconst (v := 3) C kd_Jd_judgeDeclaration_197 (by decide) rfl ?_
  refine zk_icmp_ge (tgt := 205) C kd_Jd_judgeDeclaration_198 (by decide) rfl (fun b3 => ?_) (fun b3 => ?_)
  · replace e := zd_pos b3 e
    refine zk_iconst (v := 1) C kd_Jd_judgeDeclaration_205 (by decide) rfl ?_
    refine zk_lvs (lv' := [(0, .ref (S.1 38)), (1, .int x1), (2, .int x2), (3, .int x3), (4, .int x4), (5, .int x5), (6, .int x6)]) [0, 1, 2, 3, 4, 5, 6] rfl ?_
    exact zb_Jd_judgeDeclaration_206 C hR h2 x1 x2 x3 x4 x5 x6 1 e
  · replace e := zd_neg b3 e
    refine zk_iconst (v := 0) C kd_Jd_judgeDeclaration_201 (by decide) rfl ?_
    refine zk_goto (tgt := 206) C kd_Jd_judgeDeclaration_202 (by decide) ?_
    refine zk_lvs (lv' := [(0, .ref (S.1 38)), (1, .int x1), (2, .int x2), (3, .int x3), (4, .int x4), (5, .int x5), (6, .int x6)]) [0, 1, 2, 3, 4, 5, 6] rfl ?_
    exact zb_Jd_judgeDeclaration_206 C hR h2 x1 x2 x3 x4 x5 x6 0 e
set_option maxHeartbeats 4000000 in
set_option maxRecDepth 100000 in
theorem zb_Jd_judgeDeclaration_186 {X : zkj_T} {S : zs_T} {P : ze_T} {l : Launch} {D : va_G} {sz0 : Nat} {rh : zs_H} (C : zk_C X km_Jd_judgeDeclaration (zs_G S l D sz0) { frames := 2, cells := 0, slots := 0, locals := 51 } (ze_E P)) (hR : zkj_R X (zd_PV S rh) (none)) (h : zs_H) (x1 : Int32) (x2 : Int32) (x3 : Int32) (x4 : Int32) (x5 : Int32) (x6 : Int32) (e : f_Jd_judgeDeclaration_186 h x1 x2 x3 x4 x5 x6 = some rh) : zk_Ab X (zs_W S h) 0 0 186 [(0, .ref (S.1 38)), (1, .int x1), (2, .int x2), (3, .int x3), (4, .int x4), (5, .int x5), (6, .int x6)] [.ref (S.1 38)] := by
  unfold f_Jd_judgeDeclaration_186 at e
  refine zk_iconst (v := 0) C kd_Jd_judgeDeclaration_186 (by decide) rfl ?_
  refine zk_lvs (lv' := [(0, .ref (S.1 38)), (1, .int x1), (2, .int x2), (3, .int x3), (4, .int x4), (5, .int x5), (6, .int x6)]) [0, 1, 2, 3, 4, 5, 6] rfl ?_
  exact zb_Jd_judgeDeclaration_187 C hR h x1 x2 x3 x4 x5 x6 0 e
set_option maxHeartbeats 4000000 in
set_option maxRecDepth 100000 in
theorem zb_Jd_judgeDeclaration_165 {X : zkj_T} {S : zs_T} {P : ze_T} {l : Launch} {D : va_G} {sz0 : Nat} {rh : zs_H} (C : zk_C X km_Jd_judgeDeclaration (zs_G S l D sz0) { frames := 2, cells := 0, slots := 0, locals := 51 } (ze_E P)) (hR : zkj_R X (zd_PV S rh) (none)) (h : zs_H) (x1 : Int32) (x2 : Int32) (x3 : Int32) (x4 : Int32) (x5 : Int32) (y0 : Int32) (e : f_Jd_judgeDeclaration_165 h x1 x2 x3 x4 x5 y0 = some rh) : zk_Ab X (zs_W S h) 0 0 165 [(0, .ref (S.1 38)), (1, .int x1), (2, .int x2), (3, .int x3), (4, .int x4), (5, .int x5)] [.int y0] := by
  unfold f_Jd_judgeDeclaration_165 at e
  refine zk_istore (lv' := [(6, _), (0, _), (1, _), (2, _), (3, _), (4, _), (5, _)]) C kd_Jd_judgeDeclaration_165 (by decide) rfl rfl ?_
  refine zk_aload_n C kd_Jd_judgeDeclaration_167 rfl 1 rfl rfl ?_
  refine zk_aload_n C kd_Jd_judgeDeclaration_168 rfl 1 rfl rfl ?_
  refine zs_get (v := .int (h.1 38 5)) C 38 5 rfl rfl rfl rfl ki_Jd (by decide) kw356 kd_Jd_judgeDeclaration_169 rfl ?_
  refine zk_if_eq (tgt := 186) C kd_Jd_judgeDeclaration_172 (by decide) rfl (fun b1 => ?_) (fun b1 => ?_)
  · replace e := zd_pos b1 e
    refine zk_lvs (lv' := [(0, .ref (S.1 38)), (1, .int x1), (2, .int x2), (3, .int x3), (4, .int x4), (5, .int x5), (6, .int y0)]) [1, 2, 3, 4, 5, 6, 0] rfl ?_
    exact zb_Jd_judgeDeclaration_186 C hR h x1 x2 x3 x4 x5 y0 e
  · replace e := zd_neg b1 e
    refine zk_iload C kd_Jd_judgeDeclaration_175 6 rfl rfl ?_
    refine zk_bipush (v := 8) C kd_Jd_judgeDeclaration_177 (by decide) rfl ?_
    refine zk_icmp_eq (tgt := 186) C kd_Jd_judgeDeclaration_179 (by decide) rfl (fun b2 => ?_) (fun b2 => ?_)
    · replace e := zd_pos b2 e
      refine zk_lvs (lv' := [(0, .ref (S.1 38)), (1, .int x1), (2, .int x2), (3, .int x3), (4, .int x4), (5, .int x5), (6, .int y0)]) [1, 2, 3, 4, 5, 6, 0] rfl ?_
      exact zb_Jd_judgeDeclaration_186 C hR h x1 x2 x3 x4 x5 y0 e
    · replace e := zd_neg b2 e
      refine zk_iconst (v := 1) C kd_Jd_judgeDeclaration_182 (by decide) rfl ?_
      refine zk_goto (tgt := 187) C kd_Jd_judgeDeclaration_183 (by decide) ?_
      refine zk_lvs (lv' := [(0, .ref (S.1 38)), (1, .int x1), (2, .int x2), (3, .int x3), (4, .int x4), (5, .int x5), (6, .int y0)]) [1, 2, 3, 4, 5, 6, 0] rfl ?_
      exact zb_Jd_judgeDeclaration_187 C hR h x1 x2 x3 x4 x5 y0 1 e
set_option maxHeartbeats 4000000 in
set_option maxRecDepth 100000 in
theorem zb_Jd_judgeDeclaration_89 {X : zkj_T} {S : zs_T} {P : ze_T} {l : Launch} {D : va_G} {sz0 : Nat} {rh : zs_H} (C : zk_C X km_Jd_judgeDeclaration (zs_G S l D sz0) { frames := 2, cells := 0, slots := 0, locals := 51 } (ze_E P)) (hR : zkj_R X (zd_PV S rh) (none)) (h : zs_H) (x1 : Int32) (x2 : Int32) (x3 : Int32) (e : f_Jd_judgeDeclaration_89 h x1 x2 x3 = some rh) : zk_Ab X (zs_W S h) 0 0 89 [(0, .ref (S.1 38)), (1, .int x1), (2, .int x2), (3, .int x3)] [] := by
  unfold f_Jd_judgeDeclaration_89 at e
  refine zk_aload_n C kd_Jd_judgeDeclaration_89 rfl 0 rfl rfl ?_
  refine zs_get (v := .ref (S.1 12)) C 38 1 rfl rfl rfl rfl ki_Jd (by decide) kw352 kd_Jd_judgeDeclaration_90 rfl ?_
  refine zs_get (v := .ref (S.1 18)) C 12 5 rfl rfl rfl rfl ki_Tr (by decide) kw173 kd_Jd_judgeDeclaration_93 rfl ?_
  refine zk_iload_n C kd_Jd_judgeDeclaration_96 rfl 2 rfl rfl ?_
  obtain ⟨q1, e⟩ := zd_g e
  refine zs_iald C 18 rfl (zd_vp q1) kd_Jd_judgeDeclaration_97 rfl ?_
  refine zk_istore (lv' := [(4, _), (0, _), (1, _), (2, _), (3, _)]) C kd_Jd_judgeDeclaration_98 (by decide) rfl rfl ?_
  refine zk_aload_n C kd_Jd_judgeDeclaration_100 rfl 1 rfl rfl ?_
  refine zs_get (v := .ref (S.1 12)) C 38 1 rfl rfl rfl rfl ki_Jd (by decide) kw352 kd_Jd_judgeDeclaration_101 rfl ?_
  refine zs_get (v := .ref (S.1 13)) C 12 0 rfl rfl rfl rfl ki_Tr (by decide) kw157 kd_Jd_judgeDeclaration_104 rfl ?_
  refine zk_iload_n C kd_Jd_judgeDeclaration_107 rfl 3 rfl rfl ?_
  refine zs_bald C 13 rfl (zd_vp q1) kd_Jd_judgeDeclaration_108 rfl ?_
  refine zk_istore (lv' := [(5, _), (4, _), (0, _), (1, _), (2, _), (3, _)]) C kd_Jd_judgeDeclaration_109 (by decide) rfl rfl ?_
  refine zk_iload C kd_Jd_judgeDeclaration_111 0 rfl rfl ?_
  refine zk_bipush (v := 8) C kd_Jd_judgeDeclaration_113 (by decide) rfl ?_
  refine zk_icmp_ne (tgt := 130) C kd_Jd_judgeDeclaration_115 (by decide) rfl (fun b2 => ?_) (fun b2 => ?_)
  · replace e := zd_neg b2 e
    refine zk_iload C kd_Jd_judgeDeclaration_130 0 rfl rfl ?_
    refine zk_bipush (v := 9) C kd_Jd_judgeDeclaration_132 (by decide) rfl ?_
    refine zk_icmp_ne (tgt := 164) C kd_Jd_judgeDeclaration_134 (by decide) rfl (fun b3 => ?_) (fun b3 => ?_)
    · replace e := zd_neg b3 e
      refine zk_iconst (v := 0) C kd_Jd_judgeDeclaration_164 (by decide) rfl ?_
      refine zk_lvs (lv' := [(0, .ref (S.1 38)), (1, .int x1), (2, .int x2), (3, .int x3), (4, .int (h.2.1 18 x2.toNatClampNeg)), (5, .int (h.2.1 13 x2.toNatClampNeg))]) [2, 3, 4, 5, 1, 0] rfl ?_
      exact zb_Jd_judgeDeclaration_165 C hR h x1 x2 x3 (h.2.1 18 x2.toNatClampNeg) (h.2.1 13 x2.toNatClampNeg) 0 e
    · replace e := zd_pos b3 e
      refine zk_aload_n C kd_Jd_judgeDeclaration_137 rfl 2 rfl rfl ?_
      refine zs_get (v := .ref (S.1 12)) C 38 1 rfl rfl rfl rfl ki_Jd (by decide) kw352 kd_Jd_judgeDeclaration_138 rfl ?_
      refine zs_get (v := .ref (S.1 16)) C 12 3 rfl rfl rfl rfl ki_Tr (by decide) kw168 kd_Jd_judgeDeclaration_141 rfl ?_
      refine zk_aload_n C kd_Jd_judgeDeclaration_144 rfl 2 rfl rfl ?_
      refine zs_get (v := .ref (S.1 12)) C 38 1 rfl rfl rfl rfl ki_Jd (by decide) kw352 kd_Jd_judgeDeclaration_145 rfl ?_
      refine zs_get (v := .ref (S.1 18)) C 12 5 rfl rfl rfl rfl ki_Tr (by decide) kw173 kd_Jd_judgeDeclaration_148 rfl ?_
      refine zk_aload_n C kd_Jd_judgeDeclaration_151 rfl 2 rfl rfl ?_
      refine zs_get (v := .ref (S.1 12)) C 38 1 rfl rfl rfl rfl ki_Jd (by decide) kw352 kd_Jd_judgeDeclaration_152 rfl ?_
      refine zk_iload_n C kd_Jd_judgeDeclaration_155 rfl 4 rfl rfl ?_
      obtain ⟨v5, c4, e⟩ := zd_b e
      refine zs_callV (k := 12) (rn := { frames := 0, cells := 0, slots := 0, locals := 0 }) (As := [.int x2]) (rest := [.ref (S.1 18), .ref (S.1 16)]) C (zc_Tr_second h x2 c4) ku_Tr_second kw1081 kv_Tr_second rfl ⟨by decide, by decide⟩ ⟨by decide, by decide⟩ rfl rfl rfl (Nat.le_of_ble_eq_true rfl) kd_Jd_judgeDeclaration_156 rfl (c1 := 0) (s1 := 0) rfl rfl (fun v w hp => ?_)
      obtain ⟨rfl, rfl⟩ := hp
      refine zk_stk (r' := [.int v5, .ref (S.1 18), .ref (S.1 16)]) rfl ?_
      obtain ⟨q6, e⟩ := zd_g e
      refine zs_iald C 18 rfl (zd_vp q6) kd_Jd_judgeDeclaration_159 rfl ?_
      obtain ⟨q7, e⟩ := zd_g e
      refine zs_iald C 16 rfl (zd_vp q7) kd_Jd_judgeDeclaration_160 rfl ?_
      refine zk_goto (tgt := 165) C kd_Jd_judgeDeclaration_161 (by decide) ?_
      refine zk_lvs (lv' := [(0, .ref (S.1 38)), (1, .int x1), (2, .int x2), (3, .int x3), (4, .int (h.2.1 18 x2.toNatClampNeg)), (5, .int (h.2.1 13 x2.toNatClampNeg))]) [2, 3, 4, 5, 1, 0] rfl ?_
      exact zb_Jd_judgeDeclaration_165 C hR h x1 x2 x3 (h.2.1 18 x2.toNatClampNeg) (h.2.1 13 x2.toNatClampNeg) (h.2.1 16 (h.2.1 18 v5.toNatClampNeg).toNatClampNeg) e
  · replace e := zd_pos b2 e
    refine zk_aload_n C kd_Jd_judgeDeclaration_118 rfl 2 rfl rfl ?_
    refine zs_get (v := .ref (S.1 12)) C 38 1 rfl rfl rfl rfl ki_Jd (by decide) kw352 kd_Jd_judgeDeclaration_119 rfl ?_
    refine zs_get (v := .ref (S.1 16)) C 12 3 rfl rfl rfl rfl ki_Tr (by decide) kw168 kd_Jd_judgeDeclaration_122 rfl ?_
    refine zk_iload_n C kd_Jd_judgeDeclaration_125 rfl 4 rfl rfl ?_
    refine zs_iald C 16 rfl (zd_vp q1) kd_Jd_judgeDeclaration_126 rfl ?_
    refine zk_goto (tgt := 165) C kd_Jd_judgeDeclaration_127 (by decide) ?_
    refine zk_lvs (lv' := [(0, .ref (S.1 38)), (1, .int x1), (2, .int x2), (3, .int x3), (4, .int (h.2.1 18 x2.toNatClampNeg)), (5, .int (h.2.1 13 x2.toNatClampNeg))]) [2, 3, 4, 5, 1, 0] rfl ?_
    exact zb_Jd_judgeDeclaration_165 C hR h x1 x2 x3 (h.2.1 18 x2.toNatClampNeg) (h.2.1 13 x2.toNatClampNeg) (h.2.1 16 x2.toNatClampNeg) e
set_option maxHeartbeats 4000000 in
set_option maxRecDepth 100000 in
theorem zb_Jd_judgeDeclaration_53 {X : zkj_T} {S : zs_T} {P : ze_T} {l : Launch} {D : va_G} {sz0 : Nat} {rh : zs_H} (C : zk_C X km_Jd_judgeDeclaration (zs_G S l D sz0) { frames := 2, cells := 0, slots := 0, locals := 51 } (ze_E P)) (hR : zkj_R X (zd_PV S rh) (none)) (h : zs_H) (x1 : Int32) (x2 : Int32) (e : f_Jd_judgeDeclaration_53 h x1 x2 = some rh) : zk_Ab X (zs_W S h) 0 0 53 [(0, .ref (S.1 38)), (1, .int x1), (2, .int x2)] [] := by
  unfold f_Jd_judgeDeclaration_53 at e
  refine zk_iconst (v := (-1)) C kd_Jd_judgeDeclaration_53 (by decide) rfl ?_
  refine zk_istore_n (lv' := [(3, _), (0, _), (1, _), (2, _)]) C kd_Jd_judgeDeclaration_54 rfl (by decide) rfl rfl ?_
  refine zk_aload_n C kd_Jd_judgeDeclaration_55 rfl 1 rfl rfl ?_
  refine zs_get (v := .ref (S.1 12)) C 38 1 rfl rfl rfl rfl ki_Jd (by decide) kw352 kd_Jd_judgeDeclaration_56 rfl ?_
  refine zs_get (v := .ref (S.1 13)) C 12 0 rfl rfl rfl rfl ki_Tr (by decide) kw157 kd_Jd_judgeDeclaration_59 rfl ?_
  refine zk_iload_n C kd_Jd_judgeDeclaration_62 rfl 3 rfl rfl ?_
  obtain ⟨q1, e⟩ := zd_g e
  refine zs_bald C 13 rfl (zd_vp q1) kd_Jd_judgeDeclaration_63 rfl ?_
  refine zk_bipush (v := 7) C kd_Jd_judgeDeclaration_64 (by decide) rfl ?_
  refine zk_icmp_ne (tgt := 89) C kd_Jd_judgeDeclaration_66 (by decide) rfl (fun b2 => ?_) (fun b2 => ?_)
  · replace e := zd_neg b2 e
    refine zk_lvs (lv' := [(0, .ref (S.1 38)), (1, .int x1), (2, .int x2), (3, .int (-1))]) [1, 2, 3, 0] rfl ?_
    exact zb_Jd_judgeDeclaration_89 C hR h x1 x2 (-1) e
  · replace e := zd_pos b2 e
    refine zk_aload_n C kd_Jd_judgeDeclaration_69 rfl 1 rfl rfl ?_
    refine zs_get (v := .ref (S.1 12)) C 38 1 rfl rfl rfl rfl ki_Jd (by decide) kw352 kd_Jd_judgeDeclaration_70 rfl ?_
    refine zs_get (v := .ref (S.1 16)) C 12 3 rfl rfl rfl rfl ki_Tr (by decide) kw168 kd_Jd_judgeDeclaration_73 rfl ?_
    refine zk_iload_n C kd_Jd_judgeDeclaration_76 rfl 3 rfl rfl ?_
    refine zs_iald C 16 rfl (zd_vp q1) kd_Jd_judgeDeclaration_77 rfl ?_
    refine zk_istore_n (lv' := [(3, _), (0, _), (1, _), (2, _)]) C kd_Jd_judgeDeclaration_78 rfl (by decide) rfl rfl ?_
    refine zk_aload_n C kd_Jd_judgeDeclaration_79 rfl 1 rfl rfl ?_
    refine zs_get (v := .ref (S.1 12)) C 38 1 rfl rfl rfl rfl ki_Jd (by decide) kw352 kd_Jd_judgeDeclaration_80 rfl ?_
    refine zs_get (v := .ref (S.1 18)) C 12 5 rfl rfl rfl rfl ki_Tr (by decide) kw173 kd_Jd_judgeDeclaration_83 rfl ?_
    refine zk_iload_n C kd_Jd_judgeDeclaration_86 rfl 3 rfl rfl ?_
    refine zs_iald C 18 rfl (zd_vp q1) kd_Jd_judgeDeclaration_87 rfl ?_
    refine zk_istore_n (lv' := [(2, _), (3, _), (0, _), (1, _)]) C kd_Jd_judgeDeclaration_88 rfl (by decide) rfl rfl ?_
    refine zk_lvs (lv' := [(0, .ref (S.1 38)), (1, .int x1), (2, .int (h.2.1 18 x2.toNatClampNeg)), (3, .int (h.2.1 16 x2.toNatClampNeg))]) [2, 3, 0, 1] rfl ?_
    exact zb_Jd_judgeDeclaration_89 C hR h x1 (h.2.1 18 x2.toNatClampNeg) (h.2.1 16 x2.toNatClampNeg) e
set_option maxHeartbeats 4000000 in
set_option maxRecDepth 100000 in
theorem zb_Jd_judgeDeclaration_12 {X : zkj_T} {S : zs_T} {P : ze_T} {l : Launch} {D : va_G} {sz0 : Nat} {rh : zs_H} (C : zk_C X km_Jd_judgeDeclaration (zs_G S l D sz0) { frames := 2, cells := 0, slots := 0, locals := 51 } (ze_E P)) (hR : zkj_R X (zd_PV S rh) (none)) {k12 : zs_H → Int32 → Int32 → Int32 → (Option zs_H)} (hk12 : ∀ (h : zs_H) (x1 : Int32) (x2 : Int32) (x3 : Int32), k12 h x1 x2 x3 = some rh → zk_Ab X (zs_W S h) 0 0 12 [(0, .ref (S.1 38)), (1, .int x1), (2, .int x2), (3, .int x3)] []) (h : zs_H) (x1 : Int32) (x2 : Int32) (x3 : Int32) (e : f_Jd_judgeDeclaration_12 k12 h x1 x2 x3 = some rh) : zk_Ab X (zs_W S h) 0 0 12 [(0, .ref (S.1 38)), (1, .int x1), (2, .int x2), (3, .int x3)] [] := by
  unfold f_Jd_judgeDeclaration_12 at e
  refine zk_iload_n C kd_Jd_judgeDeclaration_12 rfl 3 rfl rfl ?_
  refine zk_aload_n C kd_Jd_judgeDeclaration_13 rfl 0 rfl rfl ?_
  refine zs_get (v := .ref (S.1 12)) C 38 1 rfl rfl rfl rfl ki_Jd (by decide) kw352 kd_Jd_judgeDeclaration_14 rfl ?_
  refine zs_get (v := .int (h.1 12 6)) C 12 6 rfl rfl rfl rfl ki_Tr (by decide) kw177 kd_Jd_judgeDeclaration_17 rfl ?_
  refine zk_icmp_ge (tgt := 53) C kd_Jd_judgeDeclaration_20 (by decide) rfl (fun b1 => ?_) (fun b1 => ?_)
  · replace e := zd_pos b1 e
    refine zk_lvs (lv' := [(0, .ref (S.1 38)), (1, .int x1), (2, .int x2)]) [0, 1, 2] rfl ?_
    exact zb_Jd_judgeDeclaration_53 C hR h x1 x2 e
  · replace e := zd_neg b1 e
    refine zk_aload_n C kd_Jd_judgeDeclaration_23 rfl 0 rfl rfl ?_
    refine zs_get (v := .ref (S.1 12)) C 38 1 rfl rfl rfl rfl ki_Jd (by decide) kw352 kd_Jd_judgeDeclaration_24 rfl ?_
    refine zs_get (v := .ref (S.1 13)) C 12 0 rfl rfl rfl rfl ki_Tr (by decide) kw157 kd_Jd_judgeDeclaration_27 rfl ?_
    refine zk_iload_n C kd_Jd_judgeDeclaration_30 rfl 2 rfl rfl ?_
    obtain ⟨q2, e⟩ := zd_g e
    refine zs_bald C 13 rfl (zd_vp q2) kd_Jd_judgeDeclaration_31 rfl ?_
    refine zk_bipush (v := 37) C kd_Jd_judgeDeclaration_32 (by decide) rfl ?_
    refine zk_icmp_ne (tgt := 53) C kd_Jd_judgeDeclaration_34 (by decide) rfl (fun b3 => ?_) (fun b3 => ?_)
    · replace e := zd_neg b3 e
      refine zk_lvs (lv' := [(0, .ref (S.1 38)), (1, .int x1), (2, .int x2)]) [0, 1, 2] rfl ?_
      exact zb_Jd_judgeDeclaration_53 C hR h x1 x2 e
    · replace e := zd_pos b3 e
      refine zk_aload_n C kd_Jd_judgeDeclaration_37 rfl 0 rfl rfl ?_
      refine zs_get (v := .ref (S.1 12)) C 38 1 rfl rfl rfl rfl ki_Jd (by decide) kw352 kd_Jd_judgeDeclaration_38 rfl ?_
      refine zs_get (v := .ref (S.1 18)) C 12 5 rfl rfl rfl rfl ki_Tr (by decide) kw173 kd_Jd_judgeDeclaration_41 rfl ?_
      refine zk_iload_n C kd_Jd_judgeDeclaration_44 rfl 2 rfl rfl ?_
      refine zs_iald C 18 rfl (zd_vp q2) kd_Jd_judgeDeclaration_45 rfl ?_
      refine zk_istore_n (lv' := [(2, _), (0, _), (1, _), (3, _)]) C kd_Jd_judgeDeclaration_46 rfl (by decide) rfl rfl ?_
      refine zk_iinc (v := (x3 + 1)) (lv' := [(3, _), (2, _), (0, _), (1, _)]) C kd_Jd_judgeDeclaration_47 3 rfl rfl (by decide) rfl rfl ?_
      refine zk_goto (tgt := 12) C kd_Jd_judgeDeclaration_50 (by decide) ?_
      refine zk_lvs (lv' := [(0, .ref (S.1 38)), (1, .int x1), (2, .int (h.2.1 18 x2.toNatClampNeg)), (3, .int (x3 + 1))]) [2, 3, 1, 0] rfl ?_
      exact hk12 h x1 (h.2.1 18 x2.toNatClampNeg) (x3 + 1) e
theorem zl_Jd_judgeDeclaration_12 {X : zkj_T} {S : zs_T} {P : ze_T} {l : Launch} {D : va_G} {sz0 : Nat} {rh : zs_H} (C : zk_C X km_Jd_judgeDeclaration (zs_G S l D sz0) { frames := 2, cells := 0, slots := 0, locals := 51 } (ze_E P)) (hR : zkj_R X (zd_PV S rh) (none)) (n : Nat) : ∀ (h : zs_H) (x1 : Int32) (x2 : Int32) (x3 : Int32), f_Jd_judgeDeclaration_L12 n h x1 x2 x3 = some rh → zk_Ab X (zs_W S h) 0 0 12 [(0, .ref (S.1 38)), (1, .int x1), (2, .int x2), (3, .int x3)] [] := by
  induction n with
  | zero => intro h x1 x2 x3 e; exact zd_no e
  | succ n ih => intro h x1 x2 x3 e; exact zb_Jd_judgeDeclaration_12 (k12 := f_Jd_judgeDeclaration_L12  n) C hR ih h x1 x2 x3 e
set_option maxHeartbeats 4000000 in
set_option maxRecDepth 100000 in
theorem zc_Jd_judgeDeclaration {l : Launch} {D : va_G} {sz0 : Nat} {S : zs_T} {P : ze_T} (h : zs_H) (x1 : Int32) {rh : zs_H} (e : f_Jd_judgeDeclaration h x1 = some rh) : zk_Sp (zs_G S l D sz0) (ze_E P) km_Jd_judgeDeclaration { frames := 2, cells := 0, slots := 0, locals := 51 } [.ref (S.1 38), .int x1] (zs_W S h) (zd_PV S rh) := by
  refine zk_met ku_Jd_judgeDeclaration (Nat.le_of_ble_eq_true rfl) (ze_Em P) ?_
  intro X C hR
  refine zk_lvs (lv' := [(0, .ref (S.1 38)), (1, .int x1)]) [0, 1] rfl ?_
  unfold f_Jd_judgeDeclaration at e
  refine zk_aload_n C kd_Jd_judgeDeclaration_0 rfl 0 rfl rfl ?_
  refine zs_get (v := .ref (S.1 12)) C 38 1 rfl rfl rfl rfl ki_Jd (by decide) kw352 kd_Jd_judgeDeclaration_1 rfl ?_
  refine zs_get (v := .ref (S.1 17)) C 12 4 rfl rfl rfl rfl ki_Tr (by decide) kw170 kd_Jd_judgeDeclaration_4 rfl ?_
  refine zk_iload_n C kd_Jd_judgeDeclaration_7 rfl 1 rfl rfl ?_
  obtain ⟨q1, e⟩ := zd_g e
  refine zs_iald C 17 rfl (zd_vp q1) kd_Jd_judgeDeclaration_8 rfl ?_
  refine zk_istore_n (lv' := [(2, _), (0, _), (1, _)]) C kd_Jd_judgeDeclaration_9 rfl (by decide) rfl rfl ?_
  refine zk_iconst (v := 0) C kd_Jd_judgeDeclaration_10 (by decide) rfl ?_
  refine zk_istore_n (lv' := [(3, _), (2, _), (0, _), (1, _)]) C kd_Jd_judgeDeclaration_11 rfl (by decide) rfl rfl ?_
  refine zk_lvs (lv' := [(0, .ref (S.1 38)), (1, .int x1), (2, .int (h.2.1 17 x1.toNatClampNeg)), (3, .int 0)]) [2, 3, 1, 0] rfl ?_
  exact zl_Jd_judgeDeclaration_12 C hR zF h x1 (h.2.1 17 x1.toNatClampNeg) 0 e
set_option maxHeartbeats 4000000 in
set_option maxRecDepth 100000 in
theorem zb_Jd_judgeSection_52 {X : zkj_T} {S : zs_T} {P : ze_T} {l : Launch} {D : va_G} {sz0 : Nat} {rh : zs_H} (C : zk_C X km_Jd_judgeSection (zs_G S l D sz0) { frames := 2, cells := 0, slots := 0, locals := 45 } (ze_E P)) (hR : zkj_R X (zd_PV S rh) (none)) (h : zs_H) (x1 : Int32) (y0 : Int32) (e : f_Jd_judgeSection_52 h x1 y0 = some rh) : zk_Ab X (zs_W S h) 0 0 52 [(0, .ref (S.1 38)), (1, .int x1)] [.int y0] := by
  unfold f_Jd_judgeSection_52 at e
  refine zk_istore_n (lv' := [(2, _), (0, _), (1, _)]) C kd_Jd_judgeSection_52 rfl (by decide) rfl rfl ?_
  refine zk_aload_n C kd_Jd_judgeSection_53 rfl 1 rfl rfl ?_
  refine zk_iload_n C kd_Jd_judgeSection_54 rfl 0 rfl rfl ?_
  refine zk_bipush (v := 13) C kd_Jd_judgeSection_55 (by decide) rfl ?_
  refine zk_iload_n C kd_Jd_judgeSection_57 rfl 2 rfl rfl ?_
  obtain ⟨h2, c1, e⟩ := zd_b e
  refine zs_callV (k := 38) (rn := { frames := 1, cells := 0, slots := 0, locals := 22 }) (As := [.int y0, .int 13, .int x1]) (rest := []) C (zc_Jd_refuseIf h y0 13 x1 c1) ku_Jd_refuseIf kw1036 kv_Jd_refuseIf rfl ⟨by decide, by decide⟩ ⟨by decide, by decide⟩ rfl rfl rfl (Nat.le_of_ble_eq_true rfl) kd_Jd_judgeSection_58 rfl (c1 := 0) (s1 := 0) rfl rfl (fun v w hp => ?_)
  obtain ⟨rfl, rfl⟩ := hp
  refine zk_stk (r' := []) rfl ?_
  exact zk_vret C hR kd_Jd_judgeSection_61 rfl rfl (zd_rV e)
set_option maxHeartbeats 4000000 in
set_option maxRecDepth 100000 in
theorem zb_Jd_judgeSection_47 {X : zkj_T} {S : zs_T} {P : ze_T} {l : Launch} {D : va_G} {sz0 : Nat} {rh : zs_H} (C : zk_C X km_Jd_judgeSection (zs_G S l D sz0) { frames := 2, cells := 0, slots := 0, locals := 45 } (ze_E P)) (hR : zkj_R X (zd_PV S rh) (none)) (h : zs_H) (x1 : Int32) (e : f_Jd_judgeSection_47 h x1 = some rh) : zk_Ab X (zs_W S h) 0 0 47 [(0, .ref (S.1 38)), (1, .int x1)] [] := by
  unfold f_Jd_judgeSection_47 at e
  refine zk_iconst (v := 1) C kd_Jd_judgeSection_47 (by decide) rfl ?_
  refine zk_goto (tgt := 52) C kd_Jd_judgeSection_48 (by decide) ?_
  refine zk_lvs (lv' := [(0, .ref (S.1 38)), (1, .int x1)]) [0, 1] rfl ?_
  exact zb_Jd_judgeSection_52 C hR h x1 1 e
set_option maxHeartbeats 4000000 in
set_option maxRecDepth 100000 in
theorem zb_Jd_judgeSection_51 {X : zkj_T} {S : zs_T} {P : ze_T} {l : Launch} {D : va_G} {sz0 : Nat} {rh : zs_H} (C : zk_C X km_Jd_judgeSection (zs_G S l D sz0) { frames := 2, cells := 0, slots := 0, locals := 45 } (ze_E P)) (hR : zkj_R X (zd_PV S rh) (none)) (h : zs_H) (x1 : Int32) (e : f_Jd_judgeSection_51 h x1 = some rh) : zk_Ab X (zs_W S h) 0 0 51 [(0, .ref (S.1 38)), (1, .int x1)] [] := by
  unfold f_Jd_judgeSection_51 at e
  refine zk_iconst (v := 0) C kd_Jd_judgeSection_51 (by decide) rfl ?_
  refine zk_lvs (lv' := [(0, .ref (S.1 38)), (1, .int x1)]) [0, 1] rfl ?_
  exact zb_Jd_judgeSection_52 C hR h x1 0 e
set_option maxHeartbeats 4000000 in
set_option maxRecDepth 100000 in
theorem zb_Jd_judgeSection_23 {X : zkj_T} {S : zs_T} {P : ze_T} {l : Launch} {D : va_G} {sz0 : Nat} {rh : zs_H} (C : zk_C X km_Jd_judgeSection (zs_G S l D sz0) { frames := 2, cells := 0, slots := 0, locals := 45 } (ze_E P)) (hR : zkj_R X (zd_PV S rh) (none)) (h : zs_H) (x1 : Int32) (e : f_Jd_judgeSection_23 h x1 = some rh) : zk_Ab X (zs_W S h) 0 0 23 [(0, .ref (S.1 38)), (1, .int x1)] [] := by
  unfold f_Jd_judgeSection_23 at e
  refine zk_aload_n C kd_Jd_judgeSection_23 rfl 0 rfl rfl ?_
  refine zs_get (v := .ref (S.1 20)) C 38 2 rfl rfl rfl rfl ki_Jd (by decide) kw353 kd_Jd_judgeSection_24 rfl ?_
  refine zs_get (v := .ref (S.1 21)) C 20 0 rfl rfl rfl rfl ki_Pl (by decide) kw235 kd_Jd_judgeSection_27 rfl ?_
  refine zk_aload_n C kd_Jd_judgeSection_30 rfl 0 rfl rfl ?_
  refine zs_get (v := .int (h.1 38 4)) C 38 4 rfl rfl rfl rfl ki_Jd (by decide) kw355 kd_Jd_judgeSection_31 rfl ?_
  obtain ⟨q1, e⟩ := zd_g e
  refine zs_iald C 21 rfl (zd_vp q1) kd_Jd_judgeSection_34 rfl ?_
  refine zk_iconst (v := 1) C kd_Jd_judgeSection_35 (by decide) rfl ?_
  refine zk_icmp_ne (tgt := 51) C kd_Jd_judgeSection_36 (by decide) rfl (fun b2 => ?_) (fun b2 => ?_)
  · replace e := zd_neg b2 e
    refine zk_lvs (lv' := [(0, .ref (S.1 38)), (1, .int x1)]) [0, 1] rfl ?_
    exact zb_Jd_judgeSection_51 C hR h x1 e
  · replace e := zd_pos b2 e
    refine zk_aload_n C kd_Jd_judgeSection_39 rfl 0 rfl rfl ?_
    refine zs_get (v := .int (h.1 38 5)) C 38 5 rfl rfl rfl rfl ki_Jd (by decide) kw356 kd_Jd_judgeSection_40 rfl ?_
    refine zk_iconst (v := 2) C kd_Jd_judgeSection_43 (by decide) rfl ?_
    refine zk_icmp_ne (tgt := 51) C kd_Jd_judgeSection_44 (by decide) rfl (fun b3 => ?_) (fun b3 => ?_)
    · replace e := zd_neg b3 e
      refine zk_lvs (lv' := [(0, .ref (S.1 38)), (1, .int x1)]) [0, 1] rfl ?_
      exact zb_Jd_judgeSection_51 C hR h x1 e
    · replace e := zd_pos b3 e
      refine zk_lvs (lv' := [(0, .ref (S.1 38)), (1, .int x1)]) [0, 1] rfl ?_
      exact zb_Jd_judgeSection_47 C hR h x1 e
set_option maxHeartbeats 4000000 in
set_option maxRecDepth 100000 in
theorem zc_Jd_judgeSection {l : Launch} {D : va_G} {sz0 : Nat} {S : zs_T} {P : ze_T} (h : zs_H) (x1 : Int32) {rh : zs_H} (e : f_Jd_judgeSection h x1 = some rh) : zk_Sp (zs_G S l D sz0) (ze_E P) km_Jd_judgeSection { frames := 2, cells := 0, slots := 0, locals := 45 } [.ref (S.1 38), .int x1] (zs_W S h) (zd_PV S rh) := by
  refine zk_met ku_Jd_judgeSection (Nat.le_of_ble_eq_true rfl) (ze_Em P) ?_
  intro X C hR
  refine zk_lvs (lv' := [(0, .ref (S.1 38)), (1, .int x1)]) [0, 1] rfl ?_
  unfold f_Jd_judgeSection at e
  refine zk_aload_n C kd_Jd_judgeSection_0 rfl 0 rfl rfl ?_
  refine zs_get (v := .ref (S.1 20)) C 38 2 rfl rfl rfl rfl ki_Jd (by decide) kw353 kd_Jd_judgeSection_1 rfl ?_
  refine zs_get (v := .ref (S.1 21)) C 20 0 rfl rfl rfl rfl ki_Pl (by decide) kw235 kd_Jd_judgeSection_4 rfl ?_
  refine zk_aload_n C kd_Jd_judgeSection_7 rfl 0 rfl rfl ?_
  refine zs_get (v := .int (h.1 38 4)) C 38 4 rfl rfl rfl rfl ki_Jd (by decide) kw355 kd_Jd_judgeSection_8 rfl ?_
  obtain ⟨q1, e⟩ := zd_g e
  refine zs_iald C 21 rfl (zd_vp q1) kd_Jd_judgeSection_11 rfl ?_
  refine zk_iconst (v := 3) C kd_Jd_judgeSection_12 (by decide) rfl ?_
  refine zk_icmp_ne (tgt := 23) C kd_Jd_judgeSection_13 (by decide) rfl (fun b2 => ?_) (fun b2 => ?_)
  · replace e := zd_neg b2 e
    refine zk_lvs (lv' := [(0, .ref (S.1 38)), (1, .int x1)]) [0, 1] rfl ?_
    exact zb_Jd_judgeSection_23 C hR h x1 e
  · replace e := zd_pos b2 e
    refine zk_aload_n C kd_Jd_judgeSection_16 rfl 0 rfl rfl ?_
    refine zs_get (v := .int (h.1 38 5)) C 38 5 rfl rfl rfl rfl ki_Jd (by decide) kw356 kd_Jd_judgeSection_17 rfl ?_
    refine zk_if_ne (tgt := 47) C kd_Jd_judgeSection_20 (by decide) rfl (fun b3 => ?_) (fun b3 => ?_)
    · replace e := zd_neg b3 e
      refine zk_lvs (lv' := [(0, .ref (S.1 38)), (1, .int x1)]) [0, 1] rfl ?_
      exact zb_Jd_judgeSection_47 C hR h x1 e
    · replace e := zd_pos b3 e
      refine zk_lvs (lv' := [(0, .ref (S.1 38)), (1, .int x1)]) [0, 1] rfl ?_
      exact zb_Jd_judgeSection_23 C hR h x1 e
set_option maxHeartbeats 4000000 in
set_option maxRecDepth 100000 in
theorem zb_Jd_leaveBlock_64 {X : zkj_T} {S : zs_T} {P : ze_T} {l : Launch} {D : va_G} {sz0 : Nat} {rh : zs_H} (C : zk_C X km_Jd_leaveBlock (zs_G S l D sz0) { frames := 2, cells := 0, slots := 0, locals := 45 } (ze_E P)) (hR : zkj_R X (zd_PV S rh) (none)) (h : zs_H) (x1 : Int32) (y0 : Int32) (e : f_Jd_leaveBlock_64 h x1 y0 = some rh) : zk_Ab X (zs_W S h) 0 0 64 [(1, .int x1)] [.int y0, .ref (S.1 38)] := by
  unfold f_Jd_leaveBlock_64 at e
  refine zk_bipush (v := 44) C kd_Jd_leaveBlock_64 (by decide) rfl ?_
  refine zk_iload_n C kd_Jd_leaveBlock_66 rfl 0 rfl rfl ?_
  obtain ⟨h2, c1, e⟩ := zd_b e
  refine zs_callV (k := 38) (rn := { frames := 1, cells := 0, slots := 0, locals := 22 }) (As := [.int y0, .int 44, .int x1]) (rest := []) C (zc_Jd_refuseIf h y0 44 x1 c1) ku_Jd_refuseIf kw1036 kv_Jd_refuseIf rfl ⟨by decide, by decide⟩ ⟨by decide, by decide⟩ rfl rfl rfl (Nat.le_of_ble_eq_true rfl) kd_Jd_leaveBlock_67 rfl (c1 := 0) (s1 := 0) rfl rfl (fun v w hp => ?_)
  obtain ⟨rfl, rfl⟩ := hp
  refine zk_stk (r' := []) rfl ?_
  exact zk_vret C hR kd_Jd_leaveBlock_70 rfl rfl (zd_rV e)
set_option maxHeartbeats 4000000 in
set_option maxRecDepth 100000 in
theorem zb_Jd_leaveBlock_63 {X : zkj_T} {S : zs_T} {P : ze_T} {l : Launch} {D : va_G} {sz0 : Nat} {rh : zs_H} (C : zk_C X km_Jd_leaveBlock (zs_G S l D sz0) { frames := 2, cells := 0, slots := 0, locals := 45 } (ze_E P)) (hR : zkj_R X (zd_PV S rh) (none)) (h : zs_H) (x1 : Int32) (e : f_Jd_leaveBlock_63 h x1 = some rh) : zk_Ab X (zs_W S h) 0 0 63 [(1, .int x1)] [.ref (S.1 38)] := by
  unfold f_Jd_leaveBlock_63 at e
  refine zk_iconst (v := 0) C kd_Jd_leaveBlock_63 (by decide) rfl ?_
  refine zk_lvs (lv' := [(1, .int x1)]) [0] rfl ?_
  exact zb_Jd_leaveBlock_64 C hR h x1 0 e
set_option maxHeartbeats 4000000 in
set_option maxRecDepth 100000 in
theorem zc_Jd_leaveBlock {l : Launch} {D : va_G} {sz0 : Nat} {S : zs_T} {P : ze_T} (h : zs_H) (x1 : Int32) {rh : zs_H} (e : f_Jd_leaveBlock h x1 = some rh) : zk_Sp (zs_G S l D sz0) (ze_E P) km_Jd_leaveBlock { frames := 2, cells := 0, slots := 0, locals := 45 } [.ref (S.1 38), .int x1] (zs_W S h) (zd_PV S rh) := by
  refine zk_met ku_Jd_leaveBlock (Nat.le_of_ble_eq_true rfl) (ze_Em P) ?_
  intro X C hR
  refine zk_lvs (lv' := [(0, .ref (S.1 38)), (1, .int x1)]) [0, 1] rfl ?_
  unfold f_Jd_leaveBlock at e
  refine zk_aload_n C kd_Jd_leaveBlock_0 rfl 0 rfl rfl ?_
  refine zs_get (v := .ref (S.1 20)) C 38 2 rfl rfl rfl rfl ki_Jd (by decide) kw353 kd_Jd_leaveBlock_1 rfl ?_
  refine zs_get (v := .ref (S.1 26)) C 20 5 rfl rfl rfl rfl ki_Pl (by decide) kw252 kd_Jd_leaveBlock_4 rfl ?_
  refine zk_aload_n C kd_Jd_leaveBlock_7 rfl 0 rfl rfl ?_
  refine zs_get (v := .int (h.1 38 4)) C 38 4 rfl rfl rfl rfl ki_Jd (by decide) kw355 kd_Jd_leaveBlock_8 rfl ?_
  refine zk_aload_n C kd_Jd_leaveBlock_11 rfl 0 rfl rfl ?_
  refine zs_get (v := .ref (S.1 20)) C 38 2 rfl rfl rfl rfl ki_Jd (by decide) kw353 kd_Jd_leaveBlock_12 rfl ?_
  refine zs_get (v := .ref (S.1 25)) C 20 4 rfl rfl rfl rfl ki_Pl (by decide) kw248 kd_Jd_leaveBlock_15 rfl ?_
  refine zk_aload_n C kd_Jd_leaveBlock_18 rfl 0 rfl rfl ?_
  refine zs_get (v := .int (h.1 38 4)) C 38 4 rfl rfl rfl rfl ki_Jd (by decide) kw355 kd_Jd_leaveBlock_19 rfl ?_
  obtain ⟨q1, e⟩ := zd_g e
  refine zs_iald C 25 rfl (zd_vp q1) kd_Jd_leaveBlock_22 rfl ?_
  refine zk_aload_n C kd_Jd_leaveBlock_23 rfl 0 rfl rfl ?_
  refine zs_get (v := .int (h.1 38 10)) C 38 10 rfl rfl rfl rfl ki_Jd (by decide) kw361 kd_Jd_leaveBlock_24 rfl ?_
  refine zk_iadd C kd_Jd_leaveBlock_27 rfl ?_
  refine zs_iast C 26 rfl (zd_vp q1) kd_Jd_leaveBlock_28 rfl ?_
  refine zk_aload_n C kd_Jd_leaveBlock_29 rfl 0 rfl rfl ?_
  refine zk_aload_n C kd_Jd_leaveBlock_30 rfl 0 rfl rfl ?_
  refine zs_get (v := .ref (S.1 12)) C 38 1 rfl rfl rfl rfl ki_Jd (by decide) kw352 kd_Jd_leaveBlock_31 rfl ?_
  refine zs_get (v := .ref (S.1 13)) C 12 0 rfl rfl rfl rfl ki_Tr (by decide) kw157 kd_Jd_leaveBlock_34 rfl ?_
  refine zk_iload_n C kd_Jd_leaveBlock_37 rfl 1 rfl rfl ?_
  obtain ⟨q2, e⟩ := zd_g e
  refine zs_bald C 13 rfl (zd_vp q2) kd_Jd_leaveBlock_38 rfl ?_
  refine zk_stk (r' := [.int (h.2.1 13 x1.toNatClampNeg), .ref (S.1 38)]) rfl ?_
  refine zk_iconst (v := 1) C kd_Jd_leaveBlock_39 (by decide) rfl ?_
  refine zk_icmp_ne (tgt := 63) C kd_Jd_leaveBlock_40 (by decide) rfl (fun b3 => ?_) (fun b3 => ?_)
  · replace e := zd_neg b3 e
    refine zk_lvs (lv' := [(1, .int x1)]) [1] rfl ?_
    exact zb_Jd_leaveBlock_63 C hR (zs_uM h 26 (h.1 38 4).toNatClampNeg ((h.2.1 25 (h.1 38 4).toNatClampNeg) + (h.1 38 10))) x1 e
  · replace e := zd_pos b3 e
    refine zk_aload_n C kd_Jd_leaveBlock_43 rfl 0 rfl rfl ?_
    refine zs_get (v := .ref (S.1 20)) C 38 2 rfl rfl rfl rfl ki_Jd (by decide) kw353 kd_Jd_leaveBlock_44 rfl ?_
    refine zk_aload_n C kd_Jd_leaveBlock_47 rfl 0 rfl rfl ?_
    refine zs_get (v := .int (h.1 38 4)) C 38 4 rfl rfl rfl rfl ki_Jd (by decide) kw355 kd_Jd_leaveBlock_48 rfl ?_
    obtain ⟨v5, c4, e⟩ := zd_b e
    refine zs_callV (k := 20) (rn := { frames := 0, cells := 0, slots := 0, locals := 0 }) (As := [.int (h.1 38 4)]) (rest := [.ref (S.1 38)]) C (zc_Pl_inputs (zs_uM h 26 (h.1 38 4).toNatClampNeg ((h.2.1 25 (h.1 38 4).toNatClampNeg) + (h.1 38 10))) (h.1 38 4) c4) ku_Pl_inputs kw1069 kv_Pl_inputs rfl ⟨by decide, by decide⟩ ⟨by decide, by decide⟩ rfl rfl rfl (Nat.le_of_ble_eq_true rfl) kd_Jd_leaveBlock_51 rfl (c1 := 0) (s1 := 0) rfl rfl (fun v w hp => ?_)
    obtain ⟨rfl, rfl⟩ := hp
    refine zk_stk (r' := [.int v5, .ref (S.1 38)]) rfl ?_
    refine zk_bipush (v := 8) C kd_Jd_leaveBlock_54 (by decide) rfl ?_
    refine zk_icmp_le (tgt := 63) C kd_Jd_leaveBlock_56 (by decide) rfl (fun b6 => ?_) (fun b6 => ?_)
    · replace e := zd_pos b6 e
      refine zk_lvs (lv' := [(1, .int x1)]) [1] rfl ?_
      exact zb_Jd_leaveBlock_63 C hR (zs_uM h 26 (h.1 38 4).toNatClampNeg ((h.2.1 25 (h.1 38 4).toNatClampNeg) + (h.1 38 10))) x1 e
    · replace e := zd_neg b6 e
      refine zk_iconst (v := 1) C kd_Jd_leaveBlock_59 (by decide) rfl ?_
      refine zk_goto (tgt := 64) C kd_Jd_leaveBlock_60 (by decide) ?_
      refine zk_lvs (lv' := [(1, .int x1)]) [1] rfl ?_
      exact zb_Jd_leaveBlock_64 C hR (zs_uM h 26 (h.1 38 4).toNatClampNeg ((h.2.1 25 (h.1 38 4).toNatClampNeg) + (h.1 38 10))) x1 1 e
set_option maxHeartbeats 4000000 in
set_option maxRecDepth 100000 in
theorem zb_Pl_layOut_71 {X : zkj_T} {S : zs_T} {P : ze_T} {l : Launch} {D : va_G} {sz0 : Nat} {rh : zs_H} (C : zk_C X km_Pl_layOut (zs_G S l D sz0) { frames := 0, cells := 0, slots := 0, locals := 0 } (ze_E P)) (hR : zkj_R X (zd_PV S rh) (none)) {k28 : zs_H → Int32 → (Option zs_H)} (hk28 : ∀ (h : zs_H) (x1 : Int32), k28 h x1 = some rh → zk_Ab X (zs_W S h) 0 0 28 [(0, .ref (S.1 20)), (1, .int x1)] []) (h : zs_H) (x1 : Int32) (e : f_Pl_layOut_71 k28 h x1 = some rh) : zk_Ab X (zs_W S h) 0 0 71 [(0, .ref (S.1 20)), (1, .int x1)] [] := by
  unfold f_Pl_layOut_71 at e
  refine zk_iinc (v := (x1 + 1)) (lv' := [(1, _), (0, _)]) C kd_Pl_layOut_71 1 rfl rfl (by decide) rfl rfl ?_
  refine zk_goto (tgt := 28) C kd_Pl_layOut_74 (by decide) ?_
  refine zk_lvs (lv' := [(0, .ref (S.1 20)), (1, .int (x1 + 1))]) [1, 0] rfl ?_
  exact hk28 h (x1 + 1) e
set_option maxHeartbeats 4000000 in
set_option maxRecDepth 100000 in
theorem zb_Pl_layOut_28 {X : zkj_T} {S : zs_T} {P : ze_T} {l : Launch} {D : va_G} {sz0 : Nat} {rh : zs_H} (C : zk_C X km_Pl_layOut (zs_G S l D sz0) { frames := 0, cells := 0, slots := 0, locals := 0 } (ze_E P)) (hR : zkj_R X (zd_PV S rh) (none)) {k28 : zs_H → Int32 → (Option zs_H)} (hk28 : ∀ (h : zs_H) (x1 : Int32), k28 h x1 = some rh → zk_Ab X (zs_W S h) 0 0 28 [(0, .ref (S.1 20)), (1, .int x1)] []) (h : zs_H) (x1 : Int32) (e : f_Pl_layOut_28 k28 h x1 = some rh) : zk_Ab X (zs_W S h) 0 0 28 [(0, .ref (S.1 20)), (1, .int x1)] [] := by
  unfold f_Pl_layOut_28 at e
  refine zk_iload_n C kd_Pl_layOut_28 rfl 1 rfl rfl ?_
  refine zk_aload_n C kd_Pl_layOut_29 rfl 0 rfl rfl ?_
  refine zs_get (v := .int (h.1 20 17)) C 20 17 rfl rfl rfl rfl ki_Pl (by decide) kw290 kd_Pl_layOut_30 rfl ?_
  refine zk_icmp_ge (tgt := 77) C kd_Pl_layOut_33 (by decide) rfl (fun b1 => ?_) (fun b1 => ?_)
  · replace e := zd_pos b1 e
    exact zk_vret C hR kd_Pl_layOut_77 rfl rfl (zd_rV e)
  · replace e := zd_neg b1 e
    refine zk_aload_n C kd_Pl_layOut_36 rfl 0 rfl rfl ?_
    refine zs_get (v := .ref (S.1 21)) C 20 0 rfl rfl rfl rfl ki_Pl (by decide) kw232 kd_Pl_layOut_37 rfl ?_
    refine zk_iload_n C kd_Pl_layOut_40 rfl 1 rfl rfl ?_
    obtain ⟨q2, e⟩ := zd_g e
    refine zs_iald C 21 rfl (zd_vp q2) kd_Pl_layOut_41 rfl ?_
    refine zk_iconst (v := 1) C kd_Pl_layOut_42 (by decide) rfl ?_
    refine zk_icmp_ne (tgt := 71) C kd_Pl_layOut_43 (by decide) rfl (fun b3 => ?_) (fun b3 => ?_)
    · replace e := zd_neg b3 e
      refine zk_lvs (lv' := [(0, .ref (S.1 20)), (1, .int x1)]) [0, 1] rfl ?_
      exact zb_Pl_layOut_71 C hR hk28 h x1 e
    · replace e := zd_pos b3 e
      refine zk_aload_n C kd_Pl_layOut_46 rfl 0 rfl rfl ?_
      refine zs_get (v := .ref (S.1 27)) C 20 6 rfl rfl rfl rfl ki_Pl (by decide) kw253 kd_Pl_layOut_47 rfl ?_
      refine zk_iload_n C kd_Pl_layOut_50 rfl 1 rfl rfl ?_
      refine zk_aload_n C kd_Pl_layOut_51 rfl 0 rfl rfl ?_
      refine zs_get (v := .int (h.1 20 20)) C 20 20 rfl rfl rfl rfl ki_Pl (by decide) kw298 kd_Pl_layOut_52 rfl ?_
      refine zs_iast C 27 rfl (zd_vp q2) kd_Pl_layOut_55 rfl ?_
      refine zk_aload_n C kd_Pl_layOut_56 rfl 0 rfl rfl ?_
      refine zk_dup C kd_Pl_layOut_57 rfl rfl ?_
      refine zs_get (v := .int (h.1 20 20)) C 20 20 rfl rfl rfl rfl ki_Pl (by decide) kw298 kd_Pl_layOut_58 rfl ?_
      refine zk_aload_n C kd_Pl_layOut_61 rfl 0 rfl rfl ?_
      refine zs_get (v := .ref (S.1 26)) C 20 5 rfl rfl rfl rfl ki_Pl (by decide) kw249 kd_Pl_layOut_62 rfl ?_
      refine zk_iload_n C kd_Pl_layOut_65 rfl 1 rfl rfl ?_
      refine zs_iald C 26 rfl (zd_vp q2) kd_Pl_layOut_66 rfl ?_
      refine zk_stk (r' := [.int (h.2.1 26 x1.toNatClampNeg), .int (h.1 20 20), .ref (S.1 20)]) rfl ?_
      refine zk_iadd C kd_Pl_layOut_67 rfl ?_
      refine zs_put (ty := .int) C 20 20 ((h.1 20 20) + (h.2.1 26 x1.toNatClampNeg)) rfl rfl rfl rfl ki_Pl ky_Pl ko_Pl kn_Pl (by decide) kw298 rfl rfl rfl rfl (by decide) kd_Pl_layOut_68 rfl ?_
      refine zk_lvs (lv' := [(0, .ref (S.1 20)), (1, .int x1)]) [0, 1] rfl ?_
      exact zb_Pl_layOut_71 C hR hk28 (zs_uF (zs_uM h 27 x1.toNatClampNeg (h.1 20 20)) 20 20 ((h.1 20 20) + (h.2.1 26 x1.toNatClampNeg))) x1 e
theorem zl_Pl_layOut_28 {X : zkj_T} {S : zs_T} {P : ze_T} {l : Launch} {D : va_G} {sz0 : Nat} {rh : zs_H} (C : zk_C X km_Pl_layOut (zs_G S l D sz0) { frames := 0, cells := 0, slots := 0, locals := 0 } (ze_E P)) (hR : zkj_R X (zd_PV S rh) (none)) (n : Nat) : ∀ (h : zs_H) (x1 : Int32), f_Pl_layOut_L28 n h x1 = some rh → zk_Ab X (zs_W S h) 0 0 28 [(0, .ref (S.1 20)), (1, .int x1)] [] := by
  induction n with
  | zero => intro h x1 e; exact zd_no e
  | succ n ih => intro h x1 e; exact zb_Pl_layOut_28 (k28 := f_Pl_layOut_L28  n) C hR ih h x1 e
set_option maxHeartbeats 4000000 in
set_option maxRecDepth 100000 in
theorem zb_Pl_layOut_22 {X : zkj_T} {S : zs_T} {P : ze_T} {l : Launch} {D : va_G} {sz0 : Nat} {rh : zs_H} (C : zk_C X km_Pl_layOut (zs_G S l D sz0) { frames := 0, cells := 0, slots := 0, locals := 0 } (ze_E P)) (hR : zkj_R X (zd_PV S rh) (none)) (h : zs_H) (y0 : Int32) (e : f_Pl_layOut_22 h y0 = some rh) : zk_Ab X (zs_W S h) 0 0 22 [(0, .ref (S.1 20))] [.int y0, .ref (S.1 20)] := by
  unfold f_Pl_layOut_22 at e
  refine zs_put (ty := .int) C 20 20 y0 rfl rfl rfl rfl ki_Pl ky_Pl ko_Pl kn_Pl (by decide) kw298 rfl rfl rfl rfl (by decide) kd_Pl_layOut_22 rfl ?_
  refine zk_bipush (v := 9) C kd_Pl_layOut_25 (by decide) rfl ?_
  refine zk_istore_n (lv' := [(1, _), (0, _)]) C kd_Pl_layOut_27 rfl (by decide) rfl rfl ?_
  refine zk_lvs (lv' := [(0, .ref (S.1 20)), (1, .int 9)]) [1, 0] rfl ?_
  exact zl_Pl_layOut_28 C hR zF (zs_uF h 20 20 y0) 9 e
set_option maxHeartbeats 4000000 in
set_option maxRecDepth 100000 in
theorem zc_Pl_layOut {l : Launch} {D : va_G} {sz0 : Nat} {S : zs_T} {P : ze_T} (h : zs_H) {rh : zs_H} (e : f_Pl_layOut h = some rh) : zk_Sp (zs_G S l D sz0) (ze_E P) km_Pl_layOut { frames := 0, cells := 0, slots := 0, locals := 0 } [.ref (S.1 20)] (zs_W S h) (zd_PV S rh) := by
  refine zk_met ku_Pl_layOut (Nat.le_of_ble_eq_true rfl) (ze_Em P) ?_
  intro X C hR
  refine zk_lvs (lv' := [(0, .ref (S.1 20))]) [0] rfl ?_
  unfold f_Pl_layOut at e
  refine zk_aload_n C kd_Pl_layOut_0 rfl 0 rfl rfl ?_
  refine zk_aload_n C kd_Pl_layOut_1 rfl 0 rfl rfl ?_
  refine zs_get (v := .int (h.1 20 19)) C 20 19 rfl rfl rfl rfl ki_Pl (by decide) kw294 kd_Pl_layOut_2 rfl ?_
  refine zk_iconst (v := (-1)) C kd_Pl_layOut_5 (by decide) rfl ?_
  refine zk_icmp_ne (tgt := 13) C kd_Pl_layOut_6 (by decide) rfl (fun b1 => ?_) (fun b1 => ?_)
  · replace e := zd_neg b1 e
    refine zk_aload_n C kd_Pl_layOut_13 rfl 0 rfl rfl ?_
    refine zs_get (v := .ref (S.1 26)) C 20 5 rfl rfl rfl rfl ki_Pl (by decide) kw249 kd_Pl_layOut_14 rfl ?_
    refine zk_aload_n C kd_Pl_layOut_17 rfl 0 rfl rfl ?_
    refine zs_get (v := .int (h.1 20 19)) C 20 19 rfl rfl rfl rfl ki_Pl (by decide) kw294 kd_Pl_layOut_18 rfl ?_
    obtain ⟨q2, e⟩ := zd_g e
    refine zs_iald C 26 rfl (zd_vp q2) kd_Pl_layOut_21 rfl ?_
    refine zk_lvs (lv' := [(0, .ref (S.1 20))]) [0] rfl ?_
    exact zb_Pl_layOut_22 C hR h (h.2.1 26 (h.1 20 19).toNatClampNeg) e
  · replace e := zd_pos b1 e
    refine zk_iconst (v := 0) C kd_Pl_layOut_9 (by decide) rfl ?_
    refine zk_goto (tgt := 22) C kd_Pl_layOut_10 (by decide) ?_
    refine zk_lvs (lv' := [(0, .ref (S.1 20))]) [0] rfl ?_
    exact zb_Pl_layOut_22 C hR h 0 e
set_option maxHeartbeats 4000000 in
set_option maxRecDepth 100000 in
theorem zb_Jd_leaveText_49 {X : zkj_T} {S : zs_T} {P : ze_T} {l : Launch} {D : va_G} {sz0 : Nat} {rh : zs_H} (C : zk_C X km_Jd_leaveText (zs_G S l D sz0) { frames := 2, cells := 0, slots := 0, locals := 45 } (ze_E P)) (hR : zkj_R X (zd_PV S rh) (none)) (h : zs_H) (x1 : Int32) (y0 : Int32) (e : f_Jd_leaveText_49 h x1 y0 = some rh) : zk_Ab X (zs_W S h) 0 0 49 [(1, .int x1)] [.int y0, .ref (S.1 38)] := by
  unfold f_Jd_leaveText_49 at e
  refine zk_bipush (v := 42) C kd_Jd_leaveText_49 (by decide) rfl ?_
  refine zk_iload_n C kd_Jd_leaveText_51 rfl 0 rfl rfl ?_
  obtain ⟨h2, c1, e⟩ := zd_b e
  refine zs_callV (k := 38) (rn := { frames := 1, cells := 0, slots := 0, locals := 22 }) (As := [.int y0, .int 42, .int x1]) (rest := []) C (zc_Jd_refuseIf h y0 42 x1 c1) ku_Jd_refuseIf kw1036 kv_Jd_refuseIf rfl ⟨by decide, by decide⟩ ⟨by decide, by decide⟩ rfl rfl rfl (Nat.le_of_ble_eq_true rfl) kd_Jd_leaveText_52 rfl (c1 := 0) (s1 := 0) rfl rfl (fun v w hp => ?_)
  obtain ⟨rfl, rfl⟩ := hp
  refine zk_stk (r' := []) rfl ?_
  exact zk_vret C hR kd_Jd_leaveText_55 rfl rfl (zd_rV e)
set_option maxHeartbeats 4000000 in
set_option maxRecDepth 100000 in
theorem zb_Jd_leaveText_24 {X : zkj_T} {S : zs_T} {P : ze_T} {l : Launch} {D : va_G} {sz0 : Nat} {rh : zs_H} (C : zk_C X km_Jd_leaveText (zs_G S l D sz0) { frames := 2, cells := 0, slots := 0, locals := 45 } (ze_E P)) (hR : zkj_R X (zd_PV S rh) (none)) (h : zs_H) (x1 : Int32) (y0 : Int32) (e : f_Jd_leaveText_24 h x1 y0 = some rh) : zk_Ab X (zs_W S h) 0 0 24 [(0, .ref (S.1 38)), (1, .int x1)] [.int y0, .ref (S.1 38)] := by
  unfold f_Jd_leaveText_24 at e
  refine zk_bipush (v := 10) C kd_Jd_leaveText_24 (by decide) rfl ?_
  refine zk_iload_n C kd_Jd_leaveText_26 rfl 1 rfl rfl ?_
  obtain ⟨h2, c1, e⟩ := zd_b e
  refine zs_callV (k := 38) (rn := { frames := 1, cells := 0, slots := 0, locals := 22 }) (As := [.int y0, .int 10, .int x1]) (rest := []) C (zc_Jd_refuseIf h y0 10 x1 c1) ku_Jd_refuseIf kw1036 kv_Jd_refuseIf rfl ⟨by decide, by decide⟩ ⟨by decide, by decide⟩ rfl rfl rfl (Nat.le_of_ble_eq_true rfl) kd_Jd_leaveText_27 rfl (c1 := 0) (s1 := 0) rfl rfl (fun v w hp => ?_)
  obtain ⟨rfl, rfl⟩ := hp
  refine zk_stk (r' := []) rfl ?_
  refine zk_aload_n C kd_Jd_leaveText_30 rfl 0 rfl rfl ?_
  refine zk_aload_n C kd_Jd_leaveText_31 rfl 0 rfl rfl ?_
  refine zs_get (v := .ref (S.1 20)) C 38 2 rfl rfl rfl rfl ki_Jd (by decide) kw353 kd_Jd_leaveText_32 rfl ?_
  refine zs_get (v := .int (h2.1 20 20)) C 20 20 rfl rfl rfl rfl ki_Pl (by decide) kw299 kd_Jd_leaveText_35 rfl ?_
  refine zk_sipush (v := 8192) C kd_Jd_leaveText_38 (by decide) rfl ?_
  refine zk_icmp_le (tgt := 48) C kd_Jd_leaveText_41 (by decide) rfl (fun b3 => ?_) (fun b3 => ?_)
  · replace e := zd_pos b3 e
    refine zk_iconst (v := 0) C kd_Jd_leaveText_48 (by decide) rfl ?_
    refine zk_lvs (lv' := [(1, .int x1)]) [1] rfl ?_
    exact zb_Jd_leaveText_49 C hR h2 x1 0 e
  · replace e := zd_neg b3 e
    refine zk_iconst (v := 1) C kd_Jd_leaveText_44 (by decide) rfl ?_
    refine zk_goto (tgt := 49) C kd_Jd_leaveText_45 (by decide) ?_
    refine zk_lvs (lv' := [(1, .int x1)]) [1] rfl ?_
    exact zb_Jd_leaveText_49 C hR h2 x1 1 e
set_option maxHeartbeats 4000000 in
set_option maxRecDepth 100000 in
theorem zc_Jd_leaveText {l : Launch} {D : va_G} {sz0 : Nat} {S : zs_T} {P : ze_T} (h : zs_H) (x1 : Int32) {rh : zs_H} (e : f_Jd_leaveText h x1 = some rh) : zk_Sp (zs_G S l D sz0) (ze_E P) km_Jd_leaveText { frames := 2, cells := 0, slots := 0, locals := 45 } [.ref (S.1 38), .int x1] (zs_W S h) (zd_PV S rh) := by
  refine zk_met ku_Jd_leaveText (Nat.le_of_ble_eq_true rfl) (ze_Em P) ?_
  intro X C hR
  refine zk_lvs (lv' := [(0, .ref (S.1 38)), (1, .int x1)]) [0, 1] rfl ?_
  unfold f_Jd_leaveText at e
  refine zk_aload_n C kd_Jd_leaveText_0 rfl 0 rfl rfl ?_
  refine zs_get (v := .ref (S.1 20)) C 38 2 rfl rfl rfl rfl ki_Jd (by decide) kw353 kd_Jd_leaveText_1 rfl ?_
  obtain ⟨h2, c1, e⟩ := zd_b e
  refine zs_callV (k := 20) (rn := { frames := 0, cells := 0, slots := 0, locals := 0 }) (As := []) (rest := []) C (zc_Pl_layOut h c1) ku_Pl_layOut kw1061 kv_Pl_layOut rfl ⟨by decide, by decide⟩ ⟨by decide, by decide⟩ rfl rfl rfl (Nat.le_of_ble_eq_true rfl) kd_Jd_leaveText_4 rfl (c1 := 0) (s1 := 0) rfl rfl (fun v w hp => ?_)
  obtain ⟨rfl, rfl⟩ := hp
  refine zk_stk (r' := []) rfl ?_
  refine zk_aload_n C kd_Jd_leaveText_7 rfl 0 rfl rfl ?_
  refine zk_aload_n C kd_Jd_leaveText_8 rfl 0 rfl rfl ?_
  refine zs_get (v := .ref (S.1 20)) C 38 2 rfl rfl rfl rfl ki_Jd (by decide) kw353 kd_Jd_leaveText_9 rfl ?_
  refine zs_get (v := .int (h2.1 20 19)) C 20 19 rfl rfl rfl rfl ki_Pl (by decide) kw296 kd_Jd_leaveText_12 rfl ?_
  refine zk_iconst (v := (-1)) C kd_Jd_leaveText_15 (by decide) rfl ?_
  refine zk_icmp_ne (tgt := 23) C kd_Jd_leaveText_16 (by decide) rfl (fun b3 => ?_) (fun b3 => ?_)
  · replace e := zd_neg b3 e
    refine zk_iconst (v := 0) C kd_Jd_leaveText_23 (by decide) rfl ?_
    refine zk_lvs (lv' := [(0, .ref (S.1 38)), (1, .int x1)]) [0, 1] rfl ?_
    exact zb_Jd_leaveText_24 C hR h2 x1 0 e
  · replace e := zd_pos b3 e
    refine zk_iconst (v := 1) C kd_Jd_leaveText_19 (by decide) rfl ?_
    refine zk_goto (tgt := 24) C kd_Jd_leaveText_20 (by decide) ?_
    refine zk_lvs (lv' := [(0, .ref (S.1 38)), (1, .int x1)]) [0, 1] rfl ?_
    exact zb_Jd_leaveText_24 C hR h2 x1 1 e
