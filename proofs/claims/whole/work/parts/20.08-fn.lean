theorem kw2121 : Jvm.Cond.methodLink "PlantKeeperModel" (352 : Nat) ({ cls := "PlantKeeperModel", name := "simple", desc := "(I)V" } : Jvm.MethodName) ∈ zk_BW := zk_inT 2121 (by decide +kernel) rfl
theorem kw2131 : Jvm.Cond.instanceMethod ({ cls := "PlantKeeperModel", name := "declaration", desc := "(I)V" } : Jvm.MethodName) ∈ zk_BW := zk_inT 2131 (by decide +kernel) rfl
theorem kw2132 : Jvm.Cond.code ({ cls := "PlantKeeperModel", name := "declaration", desc := "(I)V" } : Jvm.MethodName) prog_14_method_37_code (5 : Nat) (Option.none : Option FieldType) ∈ zk_BW := zk_inT 2132 (by decide +kernel) rfl
theorem kw2133 : Jvm.Cond.methodLink "PlantKeeperModel" (367 : Nat) ({ cls := "PlantKeeperModel", name := "readType", desc := "(I)V" } : Jvm.MethodName) ∈ zk_BW := zk_inT 2133 (by decide +kernel) rfl
theorem kw2135 : Jvm.Cond.instanceMethod ({ cls := "PlantKeeperModel", name := "readType", desc := "(I)V" } : Jvm.MethodName) ∈ zk_BW := zk_inT 2135 (by decide +kernel) rfl
theorem kw2136 : Jvm.Cond.code ({ cls := "PlantKeeperModel", name := "readType", desc := "(I)V" } : Jvm.MethodName) prog_14_method_38_code (3 : Nat) (Option.none : Option FieldType) ∈ zk_BW := zk_inT 2136 (by decide +kernel) rfl
theorem kw2137 : Jvm.Cond.methodLink "PlantKeeperModel" (370 : Nat) ({ cls := "PlantKeeperModel", name := "constant", desc := "(I)V" } : Jvm.MethodName) ∈ zk_BW := zk_inT 2137 (by decide +kernel) rfl
theorem kw2161 : Jvm.Cond.methodLink "PlantKeeperModel" (364 : Nat) ({ cls := "PlantKeeperModel", name := "statements", desc := "(I)V" } : Jvm.MethodName) ∈ zk_BW := zk_inT 2161 (by decide +kernel) rfl
theorem kw2163 : Jvm.Cond.instanceMethod ({ cls := "PlantKeeperModel", name := "statements", desc := "(I)V" } : Jvm.MethodName) ∈ zk_BW := zk_inT 2163 (by decide +kernel) rfl
theorem kw2164 : Jvm.Cond.code ({ cls := "PlantKeeperModel", name := "statements", desc := "(I)V" } : Jvm.MethodName) prog_14_method_39_code (3 : Nat) (Option.none : Option FieldType) ∈ zk_BW := zk_inT 2164 (by decide +kernel) rfl
theorem kw2165 : Jvm.Cond.methodLink "PlantKeeperModel" (373 : Nat) ({ cls := "PlantKeeperModel", name := "named", desc := "(I)V" } : Jvm.MethodName) ∈ zk_BW := zk_inT 2165 (by decide +kernel) rfl
theorem kw2220 : Jvm.Cond.methodLink "PlantKeeperModel" (376 : Nat) ({ cls := "PlantKeeperModel", name := "opened", desc := "(I)V" } : Jvm.MethodName) ∈ zk_BW := zk_inT 2220 (by decide +kernel) rfl
theorem kw2222 : Jvm.Cond.instanceMethod ({ cls := "PlantKeeperModel", name := "opened", desc := "(I)V" } : Jvm.MethodName) ∈ zk_BW := zk_inT 2222 (by decide +kernel) rfl
theorem kw2223 : Jvm.Cond.code ({ cls := "PlantKeeperModel", name := "opened", desc := "(I)V" } : Jvm.MethodName) prog_14_method_40_code (3 : Nat) (Option.none : Option FieldType) ∈ zk_BW := zk_inT 2223 (by decide +kernel) rfl
theorem kw2224 : Jvm.Cond.methodLink "PlantKeeperModel" (382 : Nat) ({ cls := "PlantKeeperModel", name := "choose", desc := "(I)V" } : Jvm.MethodName) ∈ zk_BW := zk_inT 2224 (by decide +kernel) rfl
theorem kw2226 : Jvm.Cond.instanceMethod ({ cls := "PlantKeeperModel", name := "choose", desc := "(I)V" } : Jvm.MethodName) ∈ zk_BW := zk_inT 2226 (by decide +kernel) rfl
theorem kw2227 : Jvm.Cond.code ({ cls := "PlantKeeperModel", name := "choose", desc := "(I)V" } : Jvm.MethodName) prog_14_method_42_code (4 : Nat) (Option.none : Option FieldType) ∈ zk_BW := zk_inT 2227 (by decide +kernel) rfl
theorem kw2228 : Jvm.Cond.methodLink "PlantKeeperModel" (394 : Nat) ({ cls := "PlantKeeperModel", name := "body", desc := "(IZ)V" } : Jvm.MethodName) ∈ zk_BW := zk_inT 2228 (by decide +kernel) rfl
theorem kw2230 : Jvm.Cond.instanceMethod ({ cls := "PlantKeeperModel", name := "body", desc := "(IZ)V" } : Jvm.MethodName) ∈ zk_BW := zk_inT 2230 (by decide +kernel) rfl
theorem kw2231 : Jvm.Cond.code ({ cls := "PlantKeeperModel", name := "body", desc := "(IZ)V" } : Jvm.MethodName) prog_14_method_41_code (4 : Nat) (Option.none : Option FieldType) ∈ zk_BW := zk_inT 2231 (by decide +kernel) rfl
theorem kw2232 : Jvm.Cond.methodLink "PlantKeeperModel" (385 : Nat) ({ cls := "PlantKeeperModel", name := "cases", desc := "(I)V" } : Jvm.MethodName) ∈ zk_BW := zk_inT 2232 (by decide +kernel) rfl
theorem kw2234 : Jvm.Cond.instanceMethod ({ cls := "PlantKeeperModel", name := "cases", desc := "(I)V" } : Jvm.MethodName) ∈ zk_BW := zk_inT 2234 (by decide +kernel) rfl
theorem kw2235 : Jvm.Cond.code ({ cls := "PlantKeeperModel", name := "cases", desc := "(I)V" } : Jvm.MethodName) prog_14_method_44_code (6 : Nat) (Option.none : Option FieldType) ∈ zk_BW := zk_inT 2235 (by decide +kernel) rfl
theorem kw2236 : Jvm.Cond.methodLink "PlantKeeperModel" (398 : Nat) ({ cls := "PlantKeeperModel", name := "beginsConstant", desc := "()Z" } : Jvm.MethodName) ∈ zk_BW := zk_inT 2236 (by decide +kernel) rfl
theorem kw2240 : Jvm.Cond.methodLink "PlantKeeperModel" (388 : Nat) ({ cls := "PlantKeeperModel", name := "loop", desc := "(I)V" } : Jvm.MethodName) ∈ zk_BW := zk_inT 2240 (by decide +kernel) rfl
theorem kw2242 : Jvm.Cond.instanceMethod ({ cls := "PlantKeeperModel", name := "loop", desc := "(I)V" } : Jvm.MethodName) ∈ zk_BW := zk_inT 2242 (by decide +kernel) rfl
theorem kw2243 : Jvm.Cond.code ({ cls := "PlantKeeperModel", name := "loop", desc := "(I)V" } : Jvm.MethodName) prog_14_method_45_code (3 : Nat) (Option.none : Option FieldType) ∈ zk_BW := zk_inT 2243 (by decide +kernel) rfl
abbrev kc_Mo_body : ByteArray := prog_14_method_41_code
def km_Mo_body : zk_MT := (⟨"PlantKeeperModel", "body", "(IZ)V"⟩, kc_Mo_body, 4, none, 2)
theorem ku_Mo_body : zk_My km_Mo_body := ⟨kw2231, kw17, by decide, by decide, by decide, by decide +kernel⟩
theorem kv_Mo_body : zk_Mv km_Mo_body := ⟨kw2230, zk_inS 200 (q := (⟨"PlantKeeperModel", "body", "(IZ)V"⟩, 96)) (by decide +kernel)⟩
abbrev kc_Mo_cases : ByteArray := prog_14_method_44_code
def km_Mo_cases : zk_MT := (⟨"PlantKeeperModel", "cases", "(I)V"⟩, kc_Mo_cases, 6, none, 1)
theorem ku_Mo_cases : zk_My km_Mo_cases := ⟨kw2235, kw17, by decide, by decide, by decide, by decide +kernel⟩
theorem kv_Mo_cases : zk_Mv km_Mo_cases := ⟨kw2234, zk_inS 201 (q := (⟨"PlantKeeperModel", "cases", "(I)V"⟩, 96)) (by decide +kernel)⟩
abbrev kc_Mo_choose : ByteArray := prog_14_method_42_code
def km_Mo_choose : zk_MT := (⟨"PlantKeeperModel", "choose", "(I)V"⟩, kc_Mo_choose, 4, none, 1)
theorem ku_Mo_choose : zk_My km_Mo_choose := ⟨kw2227, kw17, by decide, by decide, by decide, by decide +kernel⟩
theorem kv_Mo_choose : zk_Mv km_Mo_choose := ⟨kw2226, zk_inS 199 (q := (⟨"PlantKeeperModel", "choose", "(I)V"⟩, 96)) (by decide +kernel)⟩
abbrev kc_Mo_declaration : ByteArray := prog_14_method_37_code
def km_Mo_declaration : zk_MT := (⟨"PlantKeeperModel", "declaration", "(I)V"⟩, kc_Mo_declaration, 5, none, 1)
theorem ku_Mo_declaration : zk_My km_Mo_declaration := ⟨kw2132, kw17, by decide, by decide, by decide, by decide +kernel⟩
theorem kv_Mo_declaration : zk_Mv km_Mo_declaration := ⟨kw2131, zk_inS 176 (q := (⟨"PlantKeeperModel", "declaration", "(I)V"⟩, 96)) (by decide +kernel)⟩
abbrev kc_Mo_loop : ByteArray := prog_14_method_45_code
def km_Mo_loop : zk_MT := (⟨"PlantKeeperModel", "loop", "(I)V"⟩, kc_Mo_loop, 3, none, 1)
theorem ku_Mo_loop : zk_My km_Mo_loop := ⟨kw2243, kw17, by decide, by decide, by decide, by decide +kernel⟩
theorem kv_Mo_loop : zk_Mv km_Mo_loop := ⟨kw2242, zk_inS 203 (q := (⟨"PlantKeeperModel", "loop", "(I)V"⟩, 96)) (by decide +kernel)⟩
abbrev kc_Mo_opened : ByteArray := prog_14_method_40_code
def km_Mo_opened : zk_MT := (⟨"PlantKeeperModel", "opened", "(I)V"⟩, kc_Mo_opened, 3, none, 1)
theorem ku_Mo_opened : zk_My km_Mo_opened := ⟨kw2223, kw17, by decide, by decide, by decide, by decide +kernel⟩
theorem kv_Mo_opened : zk_Mv km_Mo_opened := ⟨kw2222, zk_inS 198 (q := (⟨"PlantKeeperModel", "opened", "(I)V"⟩, 96)) (by decide +kernel)⟩
abbrev kc_Mo_readType : ByteArray := prog_14_method_38_code
def km_Mo_readType : zk_MT := (⟨"PlantKeeperModel", "readType", "(I)V"⟩, kc_Mo_readType, 3, none, 1)
theorem ku_Mo_readType : zk_My km_Mo_readType := ⟨kw2136, kw17, by decide, by decide, by decide, by decide +kernel⟩
theorem kv_Mo_readType : zk_Mv km_Mo_readType := ⟨kw2135, zk_inS 177 (q := (⟨"PlantKeeperModel", "readType", "(I)V"⟩, 96)) (by decide +kernel)⟩
abbrev kc_Mo_statements : ByteArray := prog_14_method_39_code
def km_Mo_statements : zk_MT := (⟨"PlantKeeperModel", "statements", "(I)V"⟩, kc_Mo_statements, 3, none, 1)
theorem ku_Mo_statements : zk_My km_Mo_statements := ⟨kw2164, kw17, by decide, by decide, by decide, by decide +kernel⟩
theorem kv_Mo_statements : zk_Mv km_Mo_statements := ⟨kw2163, zk_inS 184 (q := (⟨"PlantKeeperModel", "statements", "(I)V"⟩, 96)) (by decide +kernel)⟩
theorem kd_Mo_body_0 : decode kc_Mo_body 0 = .ok (.aload_n 0, 1) := by decide +kernel
theorem kd_Mo_body_1 : decode kc_Mo_body 1 = .ok (.getfield 214, 3) := by decide +kernel
theorem kd_Mo_body_4 : decode kc_Mo_body 4 = .ok (.istore_n 3, 1) := by decide +kernel
theorem kd_Mo_body_5 : decode kc_Mo_body 5 = .ok (.aload_n 0, 1) := by decide +kernel
theorem kd_Mo_body_6 : decode kc_Mo_body 6 = .ok (.iload_n 2, 1) := by decide +kernel
theorem kd_Mo_body_7 : decode kc_Mo_body 7 = .ok (.invokevirtual 305, 3) := by decide +kernel
theorem kd_Mo_body_10 : decode kc_Mo_body 10 = .ok (.aload_n 0, 1) := by decide +kernel
theorem kd_Mo_body_11 : decode kc_Mo_body 11 = .ok (.getfield 201, 3) := by decide +kernel
theorem kd_Mo_body_14 : decode kc_Mo_body 14 = .ok (.ifCond .ne 16, 3) := by decide +kernel
theorem kd_Mo_body_17 : decode kc_Mo_body 17 = .ok (.aload_n 0, 1) := by decide +kernel
theorem kd_Mo_body_18 : decode kc_Mo_body 18 = .ok (.aload_n 0, 1) := by decide +kernel
theorem kd_Mo_body_19 : decode kc_Mo_body 19 = .ok (.iload_n 1, 1) := by decide +kernel
theorem kd_Mo_body_20 : decode kc_Mo_body 20 = .ok (.bipush 11, 2) := by decide +kernel
theorem kd_Mo_body_22 : decode kc_Mo_body 22 = .ok (.iload_n 3, 1) := by decide +kernel
theorem kd_Mo_body_23 : decode kc_Mo_body 23 = .ok (.iconst 0, 1) := by decide +kernel
theorem kd_Mo_body_24 : decode kc_Mo_body 24 = .ok (.invokevirtual 342, 3) := by decide +kernel
theorem kd_Mo_body_27 : decode kc_Mo_body 27 = .ok (.invokevirtual 364, 3) := by decide +kernel
theorem kd_Mo_body_30 : decode kc_Mo_body 30 = .ok (.return_, 1) := by decide +kernel
theorem kd_Mo_cases_0 : decode kc_Mo_cases 0 = .ok (.aload_n 0, 1) := by decide +kernel
theorem kd_Mo_cases_1 : decode kc_Mo_cases 1 = .ok (.iload_n 1, 1) := by decide +kernel
theorem kd_Mo_cases_2 : decode kc_Mo_cases 2 = .ok (.bipush 16, 2) := by decide +kernel
theorem kd_Mo_cases_4 : decode kc_Mo_cases 4 = .ok (.aload_n 0, 1) := by decide +kernel
theorem kd_Mo_cases_5 : decode kc_Mo_cases 5 = .ok (.getfield 214, 3) := by decide +kernel
theorem kd_Mo_cases_8 : decode kc_Mo_cases 8 = .ok (.iconst 0, 1) := by decide +kernel
theorem kd_Mo_cases_9 : decode kc_Mo_cases 9 = .ok (.invokevirtual 342, 3) := by decide +kernel
theorem kd_Mo_cases_12 : decode kc_Mo_cases 12 = .ok (.istore_n 2, 1) := by decide +kernel
theorem kd_Mo_cases_13 : decode kc_Mo_cases 13 = .ok (.aload_n 0, 1) := by decide +kernel
theorem kd_Mo_cases_14 : decode kc_Mo_cases 14 = .ok (.invokevirtual 296, 3) := by decide +kernel
theorem kd_Mo_cases_17 : decode kc_Mo_cases 17 = .ok (.aload_n 0, 1) := by decide +kernel
theorem kd_Mo_cases_18 : decode kc_Mo_cases 18 = .ok (.iload_n 2, 1) := by decide +kernel
theorem kd_Mo_cases_19 : decode kc_Mo_cases 19 = .ok (.invokevirtual 391, 3) := by decide +kernel
theorem kd_Mo_cases_22 : decode kc_Mo_cases 22 = .ok (.aload_n 0, 1) := by decide +kernel
theorem kd_Mo_cases_23 : decode kc_Mo_cases 23 = .ok (.bipush 15, 2) := by decide +kernel
theorem kd_Mo_cases_25 : decode kc_Mo_cases 25 = .ok (.invokevirtual 358, 3) := by decide +kernel
theorem kd_Mo_cases_28 : decode kc_Mo_cases 28 = .ok (.aload_n 0, 1) := by decide +kernel
theorem kd_Mo_cases_29 : decode kc_Mo_cases 29 = .ok (.invokevirtual 398, 3) := by decide +kernel
theorem kd_Mo_cases_32 : decode kc_Mo_cases 32 = .ok (.ifCond .eq 105, 3) := by decide +kernel
theorem kd_Mo_cases_35 : decode kc_Mo_cases 35 = .ok (.aload_n 0, 1) := by decide +kernel
theorem kd_Mo_cases_36 : decode kc_Mo_cases 36 = .ok (.iload_n 2, 1) := by decide +kernel
theorem kd_Mo_cases_37 : decode kc_Mo_cases 37 = .ok (.bipush 17, 2) := by decide +kernel
theorem kd_Mo_cases_39 : decode kc_Mo_cases 39 = .ok (.aload_n 0, 1) := by decide +kernel
theorem kd_Mo_cases_40 : decode kc_Mo_cases 40 = .ok (.getfield 214, 3) := by decide +kernel
theorem kd_Mo_cases_43 : decode kc_Mo_cases 43 = .ok (.iconst 0, 1) := by decide +kernel
theorem kd_Mo_cases_44 : decode kc_Mo_cases 44 = .ok (.invokevirtual 342, 3) := by decide +kernel
theorem kd_Mo_cases_47 : decode kc_Mo_cases 47 = .ok (.istore_n 3, 1) := by decide +kernel
theorem kd_Mo_cases_48 : decode kc_Mo_cases 48 = .ok (.iconst 1, 1) := by decide +kernel
theorem kd_Mo_cases_49 : decode kc_Mo_cases 49 = .ok (.istore 4, 2) := by decide +kernel
theorem kd_Mo_cases_51 : decode kc_Mo_cases 51 = .ok (.iload 4, 2) := by decide +kernel
theorem kd_Mo_cases_53 : decode kc_Mo_cases 53 = .ok (.ifCond .eq 70, 3) := by decide +kernel
theorem kd_Mo_cases_56 : decode kc_Mo_cases 56 = .ok (.aload_n 0, 1) := by decide +kernel
theorem kd_Mo_cases_57 : decode kc_Mo_cases 57 = .ok (.getfield 201, 3) := by decide +kernel
theorem kd_Mo_cases_60 : decode kc_Mo_cases 60 = .ok (.ifCond .ne 63, 3) := by decide +kernel
theorem kd_Mo_cases_63 : decode kc_Mo_cases 63 = .ok (.aload_n 0, 1) := by decide +kernel
theorem kd_Mo_cases_64 : decode kc_Mo_cases 64 = .ok (.iload_n 3, 1) := by decide +kernel
theorem kd_Mo_cases_65 : decode kc_Mo_cases 65 = .ok (.bipush 18, 2) := by decide +kernel
theorem kd_Mo_cases_67 : decode kc_Mo_cases 67 = .ok (.aload_n 0, 1) := by decide +kernel
theorem kd_Mo_cases_68 : decode kc_Mo_cases 68 = .ok (.getfield 214, 3) := by decide +kernel
theorem kd_Mo_cases_71 : decode kc_Mo_cases 71 = .ok (.iconst 0, 1) := by decide +kernel
theorem kd_Mo_cases_72 : decode kc_Mo_cases 72 = .ok (.invokevirtual 342, 3) := by decide +kernel
theorem kd_Mo_cases_75 : decode kc_Mo_cases 75 = .ok (.istore 5, 2) := by decide +kernel
theorem kd_Mo_cases_77 : decode kc_Mo_cases 77 = .ok (.aload_n 0, 1) := by decide +kernel
theorem kd_Mo_cases_78 : decode kc_Mo_cases 78 = .ok (.iload 5, 2) := by decide +kernel
theorem kd_Mo_cases_80 : decode kc_Mo_cases 80 = .ok (.invokevirtual 370, 3) := by decide +kernel
theorem kd_Mo_cases_83 : decode kc_Mo_cases 83 = .ok (.aload_n 0, 1) := by decide +kernel
theorem kd_Mo_cases_84 : decode kc_Mo_cases 84 = .ok (.sipush 257, 3) := by decide +kernel
theorem kd_Mo_cases_87 : decode kc_Mo_cases 87 = .ok (.invokevirtual 309, 3) := by decide +kernel
theorem kd_Mo_cases_90 : decode kc_Mo_cases 90 = .ok (.ifCond .eq 13, 3) := by decide +kernel
theorem kd_Mo_cases_93 : decode kc_Mo_cases 93 = .ok (.aload_n 0, 1) := by decide +kernel
theorem kd_Mo_cases_94 : decode kc_Mo_cases 94 = .ok (.invokevirtual 296, 3) := by decide +kernel
theorem kd_Mo_cases_97 : decode kc_Mo_cases 97 = .ok (.aload_n 0, 1) := by decide +kernel
theorem kd_Mo_cases_98 : decode kc_Mo_cases 98 = .ok (.iload 5, 2) := by decide +kernel
theorem kd_Mo_cases_100 : decode kc_Mo_cases 100 = .ok (.invokevirtual 370, 3) := by decide +kernel
theorem kd_Mo_cases_103 : decode kc_Mo_cases 103 = .ok (.aload_n 0, 1) := by decide +kernel
theorem kd_Mo_cases_104 : decode kc_Mo_cases 104 = .ok (.bipush 44, 2) := by decide +kernel
theorem kd_Mo_cases_106 : decode kc_Mo_cases 106 = .ok (.invokevirtual 309, 3) := by decide +kernel
theorem kd_Mo_cases_109 : decode kc_Mo_cases 109 = .ok (.istore 4, 2) := by decide +kernel
theorem kd_Mo_cases_111 : decode kc_Mo_cases 111 = .ok (.iload 4, 2) := by decide +kernel
theorem kd_Mo_cases_113 : decode kc_Mo_cases 113 = .ok (.ifCond .eq 7, 3) := by decide +kernel
theorem kd_Mo_cases_116 : decode kc_Mo_cases 116 = .ok (.aload_n 0, 1) := by decide +kernel
theorem kd_Mo_cases_117 : decode kc_Mo_cases 117 = .ok (.invokevirtual 296, 3) := by decide +kernel
theorem kd_Mo_cases_120 : decode kc_Mo_cases 120 = .ok (.goto (-69), 3) := by decide +kernel
theorem kd_Mo_cases_123 : decode kc_Mo_cases 123 = .ok (.aload_n 0, 1) := by decide +kernel
theorem kd_Mo_cases_124 : decode kc_Mo_cases 124 = .ok (.iload_n 3, 1) := by decide +kernel
theorem kd_Mo_cases_125 : decode kc_Mo_cases 125 = .ok (.aload_n 0, 1) := by decide +kernel
theorem kd_Mo_cases_126 : decode kc_Mo_cases 126 = .ok (.bipush 58, 2) := by decide +kernel
theorem kd_Mo_cases_128 : decode kc_Mo_cases 128 = .ok (.invokevirtual 309, 3) := by decide +kernel
theorem kd_Mo_cases_131 : decode kc_Mo_cases 131 = .ok (.invokevirtual 394, 3) := by decide +kernel
theorem kd_Mo_cases_134 : decode kc_Mo_cases 134 = .ok (.goto (-106), 3) := by decide +kernel
theorem kd_Mo_cases_137 : decode kc_Mo_cases 137 = .ok (.aload_n 0, 1) := by decide +kernel
theorem kd_Mo_cases_138 : decode kc_Mo_cases 138 = .ok (.bipush 19, 2) := by decide +kernel
theorem kd_Mo_cases_140 : decode kc_Mo_cases 140 = .ok (.invokevirtual 302, 3) := by decide +kernel
theorem kd_Mo_cases_143 : decode kc_Mo_cases 143 = .ok (.ifCond .eq 9, 3) := by decide +kernel
theorem kd_Mo_cases_146 : decode kc_Mo_cases 146 = .ok (.aload_n 0, 1) := by decide +kernel
theorem kd_Mo_cases_147 : decode kc_Mo_cases 147 = .ok (.iload_n 2, 1) := by decide +kernel
theorem kd_Mo_cases_148 : decode kc_Mo_cases 148 = .ok (.iconst 1, 1) := by decide +kernel
theorem kd_Mo_cases_149 : decode kc_Mo_cases 149 = .ok (.invokevirtual 394, 3) := by decide +kernel
theorem kd_Mo_cases_152 : decode kc_Mo_cases 152 = .ok (.aload_n 0, 1) := by decide +kernel
theorem kd_Mo_cases_153 : decode kc_Mo_cases 153 = .ok (.bipush 22, 2) := by decide +kernel
theorem kd_Mo_cases_155 : decode kc_Mo_cases 155 = .ok (.invokevirtual 358, 3) := by decide +kernel
theorem kd_Mo_cases_158 : decode kc_Mo_cases 158 = .ok (.return_, 1) := by decide +kernel
theorem kd_Mo_choose_0 : decode kc_Mo_choose 0 = .ok (.aload_n 0, 1) := by decide +kernel
theorem kd_Mo_choose_1 : decode kc_Mo_choose 1 = .ok (.iload_n 1, 1) := by decide +kernel
theorem kd_Mo_choose_2 : decode kc_Mo_choose 2 = .ok (.bipush 15, 2) := by decide +kernel
theorem kd_Mo_choose_4 : decode kc_Mo_choose 4 = .ok (.aload_n 0, 1) := by decide +kernel
theorem kd_Mo_choose_5 : decode kc_Mo_choose 5 = .ok (.getfield 214, 3) := by decide +kernel
theorem kd_Mo_choose_8 : decode kc_Mo_choose 8 = .ok (.iconst 0, 1) := by decide +kernel
theorem kd_Mo_choose_9 : decode kc_Mo_choose 9 = .ok (.invokevirtual 342, 3) := by decide +kernel
theorem kd_Mo_choose_12 : decode kc_Mo_choose 12 = .ok (.istore_n 2, 1) := by decide +kernel
theorem kd_Mo_choose_13 : decode kc_Mo_choose 13 = .ok (.iconst 1, 1) := by decide +kernel
theorem kd_Mo_choose_14 : decode kc_Mo_choose 14 = .ok (.istore_n 3, 1) := by decide +kernel
theorem kd_Mo_choose_15 : decode kc_Mo_choose 15 = .ok (.iload_n 3, 1) := by decide +kernel
theorem kd_Mo_choose_16 : decode kc_Mo_choose 16 = .ok (.ifCond .eq 40, 3) := by decide +kernel
theorem kd_Mo_choose_19 : decode kc_Mo_choose 19 = .ok (.aload_n 0, 1) := by decide +kernel
theorem kd_Mo_choose_20 : decode kc_Mo_choose 20 = .ok (.getfield 201, 3) := by decide +kernel
theorem kd_Mo_choose_23 : decode kc_Mo_choose 23 = .ok (.ifCond .ne 33, 3) := by decide +kernel
theorem kd_Mo_choose_26 : decode kc_Mo_choose 26 = .ok (.aload_n 0, 1) := by decide +kernel
theorem kd_Mo_choose_27 : decode kc_Mo_choose 27 = .ok (.invokevirtual 296, 3) := by decide +kernel
theorem kd_Mo_choose_30 : decode kc_Mo_choose 30 = .ok (.aload_n 0, 1) := by decide +kernel
theorem kd_Mo_choose_31 : decode kc_Mo_choose 31 = .ok (.iload_n 2, 1) := by decide +kernel
theorem kd_Mo_choose_32 : decode kc_Mo_choose 32 = .ok (.invokevirtual 391, 3) := by decide +kernel
theorem kd_Mo_choose_35 : decode kc_Mo_choose 35 = .ok (.aload_n 0, 1) := by decide +kernel
theorem kd_Mo_choose_36 : decode kc_Mo_choose 36 = .ok (.iload_n 2, 1) := by decide +kernel
theorem kd_Mo_choose_37 : decode kc_Mo_choose 37 = .ok (.aload_n 0, 1) := by decide +kernel
theorem kd_Mo_choose_38 : decode kc_Mo_choose 38 = .ok (.bipush 17, 2) := by decide +kernel
theorem kd_Mo_choose_40 : decode kc_Mo_choose 40 = .ok (.invokevirtual 302, 3) := by decide +kernel
theorem kd_Mo_choose_43 : decode kc_Mo_choose 43 = .ok (.invokevirtual 394, 3) := by decide +kernel
theorem kd_Mo_choose_46 : decode kc_Mo_choose 46 = .ok (.aload_n 0, 1) := by decide +kernel
theorem kd_Mo_choose_47 : decode kc_Mo_choose 47 = .ok (.bipush 18, 2) := by decide +kernel
theorem kd_Mo_choose_49 : decode kc_Mo_choose 49 = .ok (.invokevirtual 302, 3) := by decide +kernel
theorem kd_Mo_choose_52 : decode kc_Mo_choose 52 = .ok (.istore_n 3, 1) := by decide +kernel
theorem kd_Mo_choose_53 : decode kc_Mo_choose 53 = .ok (.goto (-38), 3) := by decide +kernel
theorem kd_Mo_choose_56 : decode kc_Mo_choose 56 = .ok (.aload_n 0, 1) := by decide +kernel
theorem kd_Mo_choose_57 : decode kc_Mo_choose 57 = .ok (.bipush 19, 2) := by decide +kernel
theorem kd_Mo_choose_59 : decode kc_Mo_choose 59 = .ok (.invokevirtual 302, 3) := by decide +kernel
theorem kd_Mo_choose_62 : decode kc_Mo_choose 62 = .ok (.ifCond .eq 9, 3) := by decide +kernel
theorem kd_Mo_choose_65 : decode kc_Mo_choose 65 = .ok (.aload_n 0, 1) := by decide +kernel
theorem kd_Mo_choose_66 : decode kc_Mo_choose 66 = .ok (.iload_n 2, 1) := by decide +kernel
theorem kd_Mo_choose_67 : decode kc_Mo_choose 67 = .ok (.iconst 1, 1) := by decide +kernel
theorem kd_Mo_choose_68 : decode kc_Mo_choose 68 = .ok (.invokevirtual 394, 3) := by decide +kernel
theorem kd_Mo_choose_71 : decode kc_Mo_choose 71 = .ok (.aload_n 0, 1) := by decide +kernel
theorem kd_Mo_choose_72 : decode kc_Mo_choose 72 = .ok (.bipush 20, 2) := by decide +kernel
theorem kd_Mo_choose_74 : decode kc_Mo_choose 74 = .ok (.invokevirtual 358, 3) := by decide +kernel
theorem kd_Mo_choose_77 : decode kc_Mo_choose 77 = .ok (.return_, 1) := by decide +kernel
theorem kd_Mo_declaration_0 : decode kc_Mo_declaration 0 = .ok (.aload_n 0, 1) := by decide +kernel
theorem kd_Mo_declaration_1 : decode kc_Mo_declaration 1 = .ok (.iload_n 1, 1) := by decide +kernel
theorem kd_Mo_declaration_2 : decode kc_Mo_declaration 2 = .ok (.iconst 5, 1) := by decide +kernel
theorem kd_Mo_declaration_3 : decode kc_Mo_declaration 3 = .ok (.aload_n 0, 1) := by decide +kernel
theorem kd_Mo_declaration_4 : decode kc_Mo_declaration 4 = .ok (.getfield 214, 3) := by decide +kernel
theorem kd_Mo_declaration_7 : decode kc_Mo_declaration 7 = .ok (.iconst 0, 1) := by decide +kernel
theorem kd_Mo_declaration_8 : decode kc_Mo_declaration 8 = .ok (.invokevirtual 342, 3) := by decide +kernel
theorem kd_Mo_declaration_11 : decode kc_Mo_declaration 11 = .ok (.istore_n 2, 1) := by decide +kernel
theorem kd_Mo_declaration_12 : decode kc_Mo_declaration 12 = .ok (.iconst 1, 1) := by decide +kernel
theorem kd_Mo_declaration_13 : decode kc_Mo_declaration 13 = .ok (.istore_n 3, 1) := by decide +kernel
theorem kd_Mo_declaration_14 : decode kc_Mo_declaration 14 = .ok (.iload_n 3, 1) := by decide +kernel
theorem kd_Mo_declaration_15 : decode kc_Mo_declaration 15 = .ok (.ifCond .eq 62, 3) := by decide +kernel
theorem kd_Mo_declaration_18 : decode kc_Mo_declaration 18 = .ok (.aload_n 0, 1) := by decide +kernel
theorem kd_Mo_declaration_19 : decode kc_Mo_declaration 19 = .ok (.getfield 201, 3) := by decide +kernel
theorem kd_Mo_declaration_22 : decode kc_Mo_declaration 22 = .ok (.ifCond .ne 55, 3) := by decide +kernel
theorem kd_Mo_declaration_25 : decode kc_Mo_declaration 25 = .ok (.aload_n 0, 1) := by decide +kernel
theorem kd_Mo_declaration_26 : decode kc_Mo_declaration 26 = .ok (.iload_n 2, 1) := by decide +kernel
theorem kd_Mo_declaration_27 : decode kc_Mo_declaration 27 = .ok (.bipush 6, 2) := by decide +kernel
theorem kd_Mo_declaration_29 : decode kc_Mo_declaration 29 = .ok (.aload_n 0, 1) := by decide +kernel
theorem kd_Mo_declaration_30 : decode kc_Mo_declaration 30 = .ok (.getfield 214, 3) := by decide +kernel
theorem kd_Mo_declaration_33 : decode kc_Mo_declaration 33 = .ok (.aload_n 0, 1) := by decide +kernel
theorem kd_Mo_declaration_34 : decode kc_Mo_declaration 34 = .ok (.getfield 242, 3) := by decide +kernel
theorem kd_Mo_declaration_37 : decode kc_Mo_declaration 37 = .ok (.invokevirtual 342, 3) := by decide +kernel
theorem kd_Mo_declaration_40 : decode kc_Mo_declaration 40 = .ok (.istore 4, 2) := by decide +kernel
theorem kd_Mo_declaration_42 : decode kc_Mo_declaration 42 = .ok (.aload_n 0, 1) := by decide +kernel
theorem kd_Mo_declaration_43 : decode kc_Mo_declaration 43 = .ok (.aload_n 0, 1) := by decide +kernel
theorem kd_Mo_declaration_44 : decode kc_Mo_declaration 44 = .ok (.getfield 217, 3) := by decide +kernel
theorem kd_Mo_declaration_47 : decode kc_Mo_declaration 47 = .ok (.iconst 1, 1) := by decide +kernel
theorem kd_Mo_declaration_48 : decode kc_Mo_declaration 48 = .ok (.if_icmp .ne 7, 3) := by decide +kernel
theorem kd_Mo_declaration_51 : decode kc_Mo_declaration 51 = .ok (.iconst 1, 1) := by decide +kernel
theorem kd_Mo_declaration_52 : decode kc_Mo_declaration 52 = .ok (.goto 4, 3) := by decide +kernel
theorem kd_Mo_declaration_55 : decode kc_Mo_declaration 55 = .ok (.iconst 0, 1) := by decide +kernel
theorem kd_Mo_declaration_56 : decode kc_Mo_declaration 56 = .ok (.invokevirtual 305, 3) := by decide +kernel
theorem kd_Mo_declaration_59 : decode kc_Mo_declaration 59 = .ok (.aload_n 0, 1) := by decide +kernel
theorem kd_Mo_declaration_60 : decode kc_Mo_declaration 60 = .ok (.bipush 44, 2) := by decide +kernel
theorem kd_Mo_declaration_62 : decode kc_Mo_declaration 62 = .ok (.invokevirtual 309, 3) := by decide +kernel
theorem kd_Mo_declaration_65 : decode kc_Mo_declaration 65 = .ok (.istore_n 3, 1) := by decide +kernel
theorem kd_Mo_declaration_66 : decode kc_Mo_declaration 66 = .ok (.iload_n 3, 1) := by decide +kernel
theorem kd_Mo_declaration_67 : decode kc_Mo_declaration 67 = .ok (.ifCond .eq 7, 3) := by decide +kernel
theorem kd_Mo_declaration_70 : decode kc_Mo_declaration 70 = .ok (.aload_n 0, 1) := by decide +kernel
theorem kd_Mo_declaration_71 : decode kc_Mo_declaration 71 = .ok (.invokevirtual 296, 3) := by decide +kernel
theorem kd_Mo_declaration_74 : decode kc_Mo_declaration 74 = .ok (.goto (-60), 3) := by decide +kernel
theorem kd_Mo_declaration_77 : decode kc_Mo_declaration 77 = .ok (.aload_n 0, 1) := by decide +kernel
theorem kd_Mo_declaration_78 : decode kc_Mo_declaration 78 = .ok (.bipush 10, 2) := by decide +kernel
theorem kd_Mo_declaration_80 : decode kc_Mo_declaration 80 = .ok (.invokevirtual 302, 3) := by decide +kernel
theorem kd_Mo_declaration_83 : decode kc_Mo_declaration 83 = .ok (.ifCond .eq 41, 3) := by decide +kernel
theorem kd_Mo_declaration_86 : decode kc_Mo_declaration 86 = .ok (.aload_n 0, 1) := by decide +kernel
theorem kd_Mo_declaration_87 : decode kc_Mo_declaration 87 = .ok (.invokevirtual 296, 3) := by decide +kernel
theorem kd_Mo_declaration_90 : decode kc_Mo_declaration 90 = .ok (.aload_n 0, 1) := by decide +kernel
theorem kd_Mo_declaration_91 : decode kc_Mo_declaration 91 = .ok (.iload_n 2, 1) := by decide +kernel
theorem kd_Mo_declaration_92 : decode kc_Mo_declaration 92 = .ok (.bipush 7, 2) := by decide +kernel
theorem kd_Mo_declaration_94 : decode kc_Mo_declaration 94 = .ok (.aload_n 0, 1) := by decide +kernel
theorem kd_Mo_declaration_95 : decode kc_Mo_declaration 95 = .ok (.getfield 214, 3) := by decide +kernel
theorem kd_Mo_declaration_98 : decode kc_Mo_declaration 98 = .ok (.aload_n 0, 1) := by decide +kernel
theorem kd_Mo_declaration_99 : decode kc_Mo_declaration 99 = .ok (.getfield 242, 3) := by decide +kernel
theorem kd_Mo_declaration_102 : decode kc_Mo_declaration 102 = .ok (.invokevirtual 342, 3) := by decide +kernel
theorem kd_Mo_declaration_105 : decode kc_Mo_declaration 105 = .ok (.istore 4, 2) := by decide +kernel
theorem kd_Mo_declaration_107 : decode kc_Mo_declaration 107 = .ok (.aload_n 0, 1) := by decide +kernel
theorem kd_Mo_declaration_108 : decode kc_Mo_declaration 108 = .ok (.aload_n 0, 1) := by decide +kernel
theorem kd_Mo_declaration_109 : decode kc_Mo_declaration 109 = .ok (.getfield 217, 3) := by decide +kernel
theorem kd_Mo_declaration_112 : decode kc_Mo_declaration 112 = .ok (.iconst 4, 1) := by decide +kernel
theorem kd_Mo_declaration_113 : decode kc_Mo_declaration 113 = .ok (.if_icmp .ne 7, 3) := by decide +kernel
theorem kd_Mo_declaration_116 : decode kc_Mo_declaration 116 = .ok (.iconst 1, 1) := by decide +kernel
theorem kd_Mo_declaration_117 : decode kc_Mo_declaration 117 = .ok (.goto 4, 3) := by decide +kernel
theorem kd_Mo_declaration_120 : decode kc_Mo_declaration 120 = .ok (.iconst 0, 1) := by decide +kernel
theorem kd_Mo_declaration_121 : decode kc_Mo_declaration 121 = .ok (.invokevirtual 305, 3) := by decide +kernel
theorem kd_Mo_declaration_124 : decode kc_Mo_declaration 124 = .ok (.aload_n 0, 1) := by decide +kernel
theorem kd_Mo_declaration_125 : decode kc_Mo_declaration 125 = .ok (.bipush 58, 2) := by decide +kernel
theorem kd_Mo_declaration_127 : decode kc_Mo_declaration 127 = .ok (.invokevirtual 349, 3) := by decide +kernel
theorem kd_Mo_declaration_130 : decode kc_Mo_declaration 130 = .ok (.aload_n 0, 1) := by decide +kernel
theorem kd_Mo_declaration_131 : decode kc_Mo_declaration 131 = .ok (.getfield 201, 3) := by decide +kernel
theorem kd_Mo_declaration_134 : decode kc_Mo_declaration 134 = .ok (.ifCond .ne 8, 3) := by decide +kernel
theorem kd_Mo_declaration_137 : decode kc_Mo_declaration 137 = .ok (.aload_n 0, 1) := by decide +kernel
theorem kd_Mo_declaration_138 : decode kc_Mo_declaration 138 = .ok (.iload_n 2, 1) := by decide +kernel
theorem kd_Mo_declaration_139 : decode kc_Mo_declaration 139 = .ok (.invokevirtual 367, 3) := by decide +kernel
theorem kd_Mo_declaration_142 : decode kc_Mo_declaration 142 = .ok (.aload_n 0, 1) := by decide +kernel
theorem kd_Mo_declaration_143 : decode kc_Mo_declaration 143 = .ok (.sipush 256, 3) := by decide +kernel
theorem kd_Mo_declaration_146 : decode kc_Mo_declaration 146 = .ok (.invokevirtual 309, 3) := by decide +kernel
theorem kd_Mo_declaration_149 : decode kc_Mo_declaration 149 = .ok (.ifCond .eq 12, 3) := by decide +kernel
theorem kd_Mo_declaration_152 : decode kc_Mo_declaration 152 = .ok (.aload_n 0, 1) := by decide +kernel
theorem kd_Mo_declaration_153 : decode kc_Mo_declaration 153 = .ok (.invokevirtual 296, 3) := by decide +kernel
theorem kd_Mo_declaration_156 : decode kc_Mo_declaration 156 = .ok (.aload_n 0, 1) := by decide +kernel
theorem kd_Mo_declaration_157 : decode kc_Mo_declaration 157 = .ok (.iload_n 2, 1) := by decide +kernel
theorem kd_Mo_declaration_158 : decode kc_Mo_declaration 158 = .ok (.invokevirtual 370, 3) := by decide +kernel
theorem kd_Mo_declaration_161 : decode kc_Mo_declaration 161 = .ok (.aload_n 0, 1) := by decide +kernel
theorem kd_Mo_declaration_162 : decode kc_Mo_declaration 162 = .ok (.bipush 59, 2) := by decide +kernel
theorem kd_Mo_declaration_164 : decode kc_Mo_declaration 164 = .ok (.invokevirtual 349, 3) := by decide +kernel
theorem kd_Mo_declaration_167 : decode kc_Mo_declaration 167 = .ok (.return_, 1) := by decide +kernel
theorem kd_Mo_loop_0 : decode kc_Mo_loop 0 = .ok (.aload_n 0, 1) := by decide +kernel
theorem kd_Mo_loop_1 : decode kc_Mo_loop 1 = .ok (.iload_n 1, 1) := by decide +kernel
theorem kd_Mo_loop_2 : decode kc_Mo_loop 2 = .ok (.bipush 19, 2) := by decide +kernel
theorem kd_Mo_loop_4 : decode kc_Mo_loop 4 = .ok (.aload_n 0, 1) := by decide +kernel
theorem kd_Mo_loop_5 : decode kc_Mo_loop 5 = .ok (.getfield 214, 3) := by decide +kernel
theorem kd_Mo_loop_8 : decode kc_Mo_loop 8 = .ok (.iconst 0, 1) := by decide +kernel
theorem kd_Mo_loop_9 : decode kc_Mo_loop 9 = .ok (.invokevirtual 342, 3) := by decide +kernel
theorem kd_Mo_loop_12 : decode kc_Mo_loop 12 = .ok (.istore_n 2, 1) := by decide +kernel
theorem kd_Mo_loop_13 : decode kc_Mo_loop 13 = .ok (.aload_n 0, 1) := by decide +kernel
theorem kd_Mo_loop_14 : decode kc_Mo_loop 14 = .ok (.invokevirtual 296, 3) := by decide +kernel
theorem kd_Mo_loop_17 : decode kc_Mo_loop 17 = .ok (.aload_n 0, 1) := by decide +kernel
theorem kd_Mo_loop_18 : decode kc_Mo_loop 18 = .ok (.getfield 28, 3) := by decide +kernel
theorem kd_Mo_loop_21 : decode kc_Mo_loop 21 = .ok (.iload_n 2, 1) := by decide +kernel
theorem kd_Mo_loop_22 : decode kc_Mo_loop 22 = .ok (.aload_n 0, 1) := by decide +kernel
theorem kd_Mo_loop_23 : decode kc_Mo_loop 23 = .ok (.invokevirtual 346, 3) := by decide +kernel
theorem kd_Mo_loop_26 : decode kc_Mo_loop 26 = .ok (.iastore, 1) := by decide +kernel
theorem kd_Mo_loop_27 : decode kc_Mo_loop 27 = .ok (.aload_n 0, 1) := by decide +kernel
theorem kd_Mo_loop_28 : decode kc_Mo_loop 28 = .ok (.sipush 256, 3) := by decide +kernel
theorem kd_Mo_loop_31 : decode kc_Mo_loop 31 = .ok (.invokevirtual 349, 3) := by decide +kernel
theorem kd_Mo_loop_34 : decode kc_Mo_loop 34 = .ok (.aload_n 0, 1) := by decide +kernel
theorem kd_Mo_loop_35 : decode kc_Mo_loop 35 = .ok (.iload_n 2, 1) := by decide +kernel
theorem kd_Mo_loop_36 : decode kc_Mo_loop 36 = .ok (.invokevirtual 370, 3) := by decide +kernel
theorem kd_Mo_loop_39 : decode kc_Mo_loop 39 = .ok (.aload_n 0, 1) := by decide +kernel
theorem kd_Mo_loop_40 : decode kc_Mo_loop 40 = .ok (.bipush 24, 2) := by decide +kernel
theorem kd_Mo_loop_42 : decode kc_Mo_loop 42 = .ok (.invokevirtual 358, 3) := by decide +kernel
theorem kd_Mo_loop_45 : decode kc_Mo_loop 45 = .ok (.aload_n 0, 1) := by decide +kernel
theorem kd_Mo_loop_46 : decode kc_Mo_loop 46 = .ok (.iload_n 2, 1) := by decide +kernel
theorem kd_Mo_loop_47 : decode kc_Mo_loop 47 = .ok (.invokevirtual 370, 3) := by decide +kernel
theorem kd_Mo_loop_50 : decode kc_Mo_loop 50 = .ok (.aload_n 0, 1) := by decide +kernel
theorem kd_Mo_loop_51 : decode kc_Mo_loop 51 = .ok (.bipush 25, 2) := by decide +kernel
theorem kd_Mo_loop_53 : decode kc_Mo_loop 53 = .ok (.invokevirtual 302, 3) := by decide +kernel
theorem kd_Mo_loop_56 : decode kc_Mo_loop 56 = .ok (.ifCond .eq 12, 3) := by decide +kernel
theorem kd_Mo_loop_59 : decode kc_Mo_loop 59 = .ok (.aload_n 0, 1) := by decide +kernel
theorem kd_Mo_loop_60 : decode kc_Mo_loop 60 = .ok (.invokevirtual 296, 3) := by decide +kernel
theorem kd_Mo_loop_63 : decode kc_Mo_loop 63 = .ok (.aload_n 0, 1) := by decide +kernel
theorem kd_Mo_loop_64 : decode kc_Mo_loop 64 = .ok (.iload_n 2, 1) := by decide +kernel
theorem kd_Mo_loop_65 : decode kc_Mo_loop 65 = .ok (.invokevirtual 370, 3) := by decide +kernel
theorem kd_Mo_loop_68 : decode kc_Mo_loop 68 = .ok (.aload_n 0, 1) := by decide +kernel
theorem kd_Mo_loop_69 : decode kc_Mo_loop 69 = .ok (.iload_n 2, 1) := by decide +kernel
theorem kd_Mo_loop_70 : decode kc_Mo_loop 70 = .ok (.aload_n 0, 1) := by decide +kernel
theorem kd_Mo_loop_71 : decode kc_Mo_loop 71 = .ok (.bipush 26, 2) := by decide +kernel
theorem kd_Mo_loop_73 : decode kc_Mo_loop 73 = .ok (.invokevirtual 302, 3) := by decide +kernel
theorem kd_Mo_loop_76 : decode kc_Mo_loop 76 = .ok (.invokevirtual 394, 3) := by decide +kernel
theorem kd_Mo_loop_79 : decode kc_Mo_loop 79 = .ok (.aload_n 0, 1) := by decide +kernel
theorem kd_Mo_loop_80 : decode kc_Mo_loop 80 = .ok (.bipush 27, 2) := by decide +kernel
theorem kd_Mo_loop_82 : decode kc_Mo_loop 82 = .ok (.invokevirtual 358, 3) := by decide +kernel
theorem kd_Mo_loop_85 : decode kc_Mo_loop 85 = .ok (.return_, 1) := by decide +kernel
theorem kd_Mo_opened_0 : decode kc_Mo_opened 0 = .ok (.aload_n 0, 1) := by decide +kernel
theorem kd_Mo_opened_1 : decode kc_Mo_opened 1 = .ok (.getfield 242, 3) := by decide +kernel
theorem kd_Mo_opened_4 : decode kc_Mo_opened 4 = .ok (.istore_n 2, 1) := by decide +kernel
theorem kd_Mo_opened_5 : decode kc_Mo_opened 5 = .ok (.aload_n 0, 1) := by decide +kernel
theorem kd_Mo_opened_6 : decode kc_Mo_opened 6 = .ok (.invokevirtual 379, 3) := by decide +kernel
theorem kd_Mo_opened_9 : decode kc_Mo_opened 9 = .ok (.iload_n 2, 1) := by decide +kernel
theorem kd_Mo_opened_10 : decode kc_Mo_opened 10 = .ok (.bipush 16, 2) := by decide +kernel
theorem kd_Mo_opened_12 : decode kc_Mo_opened 12 = .ok (.if_icmp .ne 11, 3) := by decide +kernel
theorem kd_Mo_opened_15 : decode kc_Mo_opened 15 = .ok (.aload_n 0, 1) := by decide +kernel
theorem kd_Mo_opened_16 : decode kc_Mo_opened 16 = .ok (.iload_n 1, 1) := by decide +kernel
theorem kd_Mo_opened_17 : decode kc_Mo_opened 17 = .ok (.invokevirtual 382, 3) := by decide +kernel
theorem kd_Mo_opened_20 : decode kc_Mo_opened 20 = .ok (.goto 22, 3) := by decide +kernel
theorem kd_Mo_opened_23 : decode kc_Mo_opened 23 = .ok (.iload_n 2, 1) := by decide +kernel
theorem kd_Mo_opened_24 : decode kc_Mo_opened 24 = .ok (.bipush 21, 2) := by decide +kernel
theorem kd_Mo_opened_26 : decode kc_Mo_opened 26 = .ok (.if_icmp .ne 11, 3) := by decide +kernel
theorem kd_Mo_opened_29 : decode kc_Mo_opened 29 = .ok (.aload_n 0, 1) := by decide +kernel
theorem kd_Mo_opened_30 : decode kc_Mo_opened 30 = .ok (.iload_n 1, 1) := by decide +kernel
theorem kd_Mo_opened_31 : decode kc_Mo_opened 31 = .ok (.invokevirtual 385, 3) := by decide +kernel
theorem kd_Mo_opened_34 : decode kc_Mo_opened 34 = .ok (.goto 8, 3) := by decide +kernel
theorem kd_Mo_opened_37 : decode kc_Mo_opened 37 = .ok (.aload_n 0, 1) := by decide +kernel
theorem kd_Mo_opened_38 : decode kc_Mo_opened 38 = .ok (.iload_n 1, 1) := by decide +kernel
theorem kd_Mo_opened_39 : decode kc_Mo_opened 39 = .ok (.invokevirtual 388, 3) := by decide +kernel
theorem kd_Mo_opened_42 : decode kc_Mo_opened 42 = .ok (.aload_n 0, 1) := by decide +kernel
theorem kd_Mo_opened_43 : decode kc_Mo_opened 43 = .ok (.dup, 1) := by decide +kernel
theorem kd_Mo_opened_44 : decode kc_Mo_opened 44 = .ok (.getfield 312, 3) := by decide +kernel
theorem kd_Mo_opened_47 : decode kc_Mo_opened 47 = .ok (.iconst 1, 1) := by decide +kernel
theorem kd_Mo_opened_48 : decode kc_Mo_opened 48 = .ok (.isub, 1) := by decide +kernel
theorem kd_Mo_opened_49 : decode kc_Mo_opened 49 = .ok (.putfield 312, 3) := by decide +kernel
theorem kd_Mo_opened_52 : decode kc_Mo_opened 52 = .ok (.return_, 1) := by decide +kernel
theorem kd_Mo_readType_0 : decode kc_Mo_readType 0 = .ok (.aload_n 0, 1) := by decide +kernel
theorem kd_Mo_readType_1 : decode kc_Mo_readType 1 = .ok (.bipush 14, 2) := by decide +kernel
theorem kd_Mo_readType_3 : decode kc_Mo_readType 3 = .ok (.invokevirtual 302, 3) := by decide +kernel
theorem kd_Mo_readType_6 : decode kc_Mo_readType 6 = .ok (.ifCond .eq 63, 3) := by decide +kernel
theorem kd_Mo_readType_9 : decode kc_Mo_readType 9 = .ok (.aload_n 0, 1) := by decide +kernel
theorem kd_Mo_readType_10 : decode kc_Mo_readType 10 = .ok (.iload_n 1, 1) := by decide +kernel
theorem kd_Mo_readType_11 : decode kc_Mo_readType 11 = .ok (.bipush 9, 2) := by decide +kernel
theorem kd_Mo_readType_13 : decode kc_Mo_readType 13 = .ok (.aload_n 0, 1) := by decide +kernel
theorem kd_Mo_readType_14 : decode kc_Mo_readType 14 = .ok (.getfield 214, 3) := by decide +kernel
theorem kd_Mo_readType_17 : decode kc_Mo_readType 17 = .ok (.iconst 0, 1) := by decide +kernel
theorem kd_Mo_readType_18 : decode kc_Mo_readType 18 = .ok (.invokevirtual 342, 3) := by decide +kernel
theorem kd_Mo_readType_21 : decode kc_Mo_readType 21 = .ok (.istore_n 2, 1) := by decide +kernel
theorem kd_Mo_readType_22 : decode kc_Mo_readType 22 = .ok (.aload_n 0, 1) := by decide +kernel
theorem kd_Mo_readType_23 : decode kc_Mo_readType 23 = .ok (.invokevirtual 296, 3) := by decide +kernel
theorem kd_Mo_readType_26 : decode kc_Mo_readType 26 = .ok (.aload_n 0, 1) := by decide +kernel
theorem kd_Mo_readType_27 : decode kc_Mo_readType 27 = .ok (.bipush 91, 2) := by decide +kernel
theorem kd_Mo_readType_29 : decode kc_Mo_readType 29 = .ok (.invokevirtual 349, 3) := by decide +kernel
theorem kd_Mo_readType_32 : decode kc_Mo_readType 32 = .ok (.aload_n 0, 1) := by decide +kernel
theorem kd_Mo_readType_33 : decode kc_Mo_readType 33 = .ok (.iload_n 2, 1) := by decide +kernel
theorem kd_Mo_readType_34 : decode kc_Mo_readType 34 = .ok (.invokevirtual 370, 3) := by decide +kernel
theorem kd_Mo_readType_37 : decode kc_Mo_readType 37 = .ok (.aload_n 0, 1) := by decide +kernel
theorem kd_Mo_readType_38 : decode kc_Mo_readType 38 = .ok (.sipush 257, 3) := by decide +kernel
theorem kd_Mo_readType_41 : decode kc_Mo_readType 41 = .ok (.invokevirtual 349, 3) := by decide +kernel
theorem kd_Mo_readType_44 : decode kc_Mo_readType 44 = .ok (.aload_n 0, 1) := by decide +kernel
theorem kd_Mo_readType_45 : decode kc_Mo_readType 45 = .ok (.iload_n 2, 1) := by decide +kernel
theorem kd_Mo_readType_46 : decode kc_Mo_readType 46 = .ok (.invokevirtual 370, 3) := by decide +kernel
theorem kd_Mo_readType_49 : decode kc_Mo_readType 49 = .ok (.aload_n 0, 1) := by decide +kernel
theorem kd_Mo_readType_50 : decode kc_Mo_readType 50 = .ok (.bipush 93, 2) := by decide +kernel
theorem kd_Mo_readType_52 : decode kc_Mo_readType 52 = .ok (.invokevirtual 349, 3) := by decide +kernel
theorem kd_Mo_readType_55 : decode kc_Mo_readType 55 = .ok (.aload_n 0, 1) := by decide +kernel
theorem kd_Mo_readType_56 : decode kc_Mo_readType 56 = .ok (.bipush 15, 2) := by decide +kernel
theorem kd_Mo_readType_58 : decode kc_Mo_readType 58 = .ok (.invokevirtual 358, 3) := by decide +kernel
theorem kd_Mo_readType_61 : decode kc_Mo_readType 61 = .ok (.aload_n 0, 1) := by decide +kernel
theorem kd_Mo_readType_62 : decode kc_Mo_readType 62 = .ok (.iload_n 2, 1) := by decide +kernel
theorem kd_Mo_readType_63 : decode kc_Mo_readType 63 = .ok (.invokevirtual 352, 3) := by decide +kernel
theorem kd_Mo_readType_66 : decode kc_Mo_readType 66 = .ok (.goto 39, 3) := by decide +kernel
theorem kd_Mo_readType_69 : decode kc_Mo_readType 69 = .ok (.aload_n 0, 1) := by decide +kernel
theorem kd_Mo_readType_70 : decode kc_Mo_readType 70 = .ok (.getfield 217, 3) := by decide +kernel
theorem kd_Mo_readType_73 : decode kc_Mo_readType 73 = .ok (.iconst 1, 1) := by decide +kernel
theorem kd_Mo_readType_74 : decode kc_Mo_readType 74 = .ok (.if_icmp .ne 26, 3) := by decide +kernel
theorem kd_Mo_readType_77 : decode kc_Mo_readType 77 = .ok (.aload_n 0, 1) := by decide +kernel
theorem kd_Mo_readType_78 : decode kc_Mo_readType 78 = .ok (.iload_n 1, 1) := by decide +kernel
theorem kd_Mo_readType_79 : decode kc_Mo_readType 79 = .ok (.bipush 10, 2) := by decide +kernel
theorem kd_Mo_readType_81 : decode kc_Mo_readType 81 = .ok (.aload_n 0, 1) := by decide +kernel
theorem kd_Mo_readType_82 : decode kc_Mo_readType 82 = .ok (.getfield 214, 3) := by decide +kernel
theorem kd_Mo_readType_85 : decode kc_Mo_readType 85 = .ok (.aload_n 0, 1) := by decide +kernel
theorem kd_Mo_readType_86 : decode kc_Mo_readType 86 = .ok (.getfield 242, 3) := by decide +kernel
theorem kd_Mo_readType_89 : decode kc_Mo_readType 89 = .ok (.invokevirtual 342, 3) := by decide +kernel
theorem kd_Mo_readType_92 : decode kc_Mo_readType 92 = .ok (.istore_n 2, 1) := by decide +kernel
theorem kd_Mo_readType_93 : decode kc_Mo_readType 93 = .ok (.aload_n 0, 1) := by decide +kernel
theorem kd_Mo_readType_94 : decode kc_Mo_readType 94 = .ok (.invokevirtual 296, 3) := by decide +kernel
theorem kd_Mo_readType_97 : decode kc_Mo_readType 97 = .ok (.goto 8, 3) := by decide +kernel
theorem kd_Mo_readType_100 : decode kc_Mo_readType 100 = .ok (.aload_n 0, 1) := by decide +kernel
theorem kd_Mo_readType_101 : decode kc_Mo_readType 101 = .ok (.iload_n 1, 1) := by decide +kernel
theorem kd_Mo_readType_102 : decode kc_Mo_readType 102 = .ok (.invokevirtual 352, 3) := by decide +kernel
theorem kd_Mo_readType_105 : decode kc_Mo_readType 105 = .ok (.return_, 1) := by decide +kernel
theorem kd_Mo_statements_0 : decode kc_Mo_statements 0 = .ok (.aload_n 0, 1) := by decide +kernel
theorem kd_Mo_statements_1 : decode kc_Mo_statements 1 = .ok (.getfield 201, 3) := by decide +kernel
theorem kd_Mo_statements_4 : decode kc_Mo_statements 4 = .ok (.ifCond .ne 163, 3) := by decide +kernel
theorem kd_Mo_statements_7 : decode kc_Mo_statements 7 = .ok (.aload_n 0, 1) := by decide +kernel
theorem kd_Mo_statements_8 : decode kc_Mo_statements 8 = .ok (.getfield 217, 3) := by decide +kernel
theorem kd_Mo_statements_11 : decode kc_Mo_statements 11 = .ok (.iconst 1, 1) := by decide +kernel
theorem kd_Mo_statements_12 : decode kc_Mo_statements 12 = .ok (.if_icmp .eq 57, 3) := by decide +kernel
theorem kd_Mo_statements_15 : decode kc_Mo_statements 15 = .ok (.aload_n 0, 1) := by decide +kernel
theorem kd_Mo_statements_16 : decode kc_Mo_statements 16 = .ok (.bipush 59, 2) := by decide +kernel
theorem kd_Mo_statements_18 : decode kc_Mo_statements 18 = .ok (.invokevirtual 309, 3) := by decide +kernel
theorem kd_Mo_statements_21 : decode kc_Mo_statements 21 = .ok (.ifCond .ne 48, 3) := by decide +kernel
theorem kd_Mo_statements_24 : decode kc_Mo_statements 24 = .ok (.aload_n 0, 1) := by decide +kernel
theorem kd_Mo_statements_25 : decode kc_Mo_statements 25 = .ok (.bipush 16, 2) := by decide +kernel
theorem kd_Mo_statements_27 : decode kc_Mo_statements 27 = .ok (.invokevirtual 302, 3) := by decide +kernel
theorem kd_Mo_statements_30 : decode kc_Mo_statements 30 = .ok (.ifCond .ne 39, 3) := by decide +kernel
theorem kd_Mo_statements_33 : decode kc_Mo_statements 33 = .ok (.aload_n 0, 1) := by decide +kernel
theorem kd_Mo_statements_34 : decode kc_Mo_statements 34 = .ok (.bipush 21, 2) := by decide +kernel
theorem kd_Mo_statements_36 : decode kc_Mo_statements 36 = .ok (.invokevirtual 302, 3) := by decide +kernel
theorem kd_Mo_statements_39 : decode kc_Mo_statements 39 = .ok (.ifCond .ne 30, 3) := by decide +kernel
theorem kd_Mo_statements_42 : decode kc_Mo_statements 42 = .ok (.aload_n 0, 1) := by decide +kernel
theorem kd_Mo_statements_43 : decode kc_Mo_statements 43 = .ok (.bipush 23, 2) := by decide +kernel
theorem kd_Mo_statements_45 : decode kc_Mo_statements 45 = .ok (.invokevirtual 302, 3) := by decide +kernel
theorem kd_Mo_statements_48 : decode kc_Mo_statements 48 = .ok (.ifCond .ne 21, 3) := by decide +kernel
theorem kd_Mo_statements_51 : decode kc_Mo_statements 51 = .ok (.aload_n 0, 1) := by decide +kernel
theorem kd_Mo_statements_52 : decode kc_Mo_statements 52 = .ok (.bipush 28, 2) := by decide +kernel
theorem kd_Mo_statements_54 : decode kc_Mo_statements 54 = .ok (.invokevirtual 302, 3) := by decide +kernel
theorem kd_Mo_statements_57 : decode kc_Mo_statements 57 = .ok (.ifCond .ne 12, 3) := by decide +kernel
theorem kd_Mo_statements_60 : decode kc_Mo_statements 60 = .ok (.aload_n 0, 1) := by decide +kernel
theorem kd_Mo_statements_61 : decode kc_Mo_statements 61 = .ok (.bipush 29, 2) := by decide +kernel
theorem kd_Mo_statements_63 : decode kc_Mo_statements 63 = .ok (.invokevirtual 302, 3) := by decide +kernel
theorem kd_Mo_statements_66 : decode kc_Mo_statements 66 = .ok (.ifCond .eq 101, 3) := by decide +kernel
theorem kd_Mo_statements_69 : decode kc_Mo_statements 69 = .ok (.aload_n 0, 1) := by decide +kernel
theorem kd_Mo_statements_70 : decode kc_Mo_statements 70 = .ok (.getfield 217, 3) := by decide +kernel
theorem kd_Mo_statements_73 : decode kc_Mo_statements 73 = .ok (.iconst 1, 1) := by decide +kernel
theorem kd_Mo_statements_74 : decode kc_Mo_statements 74 = .ok (.if_icmp .ne 11, 3) := by decide +kernel
theorem kd_Mo_statements_77 : decode kc_Mo_statements 77 = .ok (.aload_n 0, 1) := by decide +kernel
theorem kd_Mo_statements_78 : decode kc_Mo_statements 78 = .ok (.iload_n 1, 1) := by decide +kernel
theorem kd_Mo_statements_79 : decode kc_Mo_statements 79 = .ok (.invokevirtual 373, 3) := by decide +kernel
theorem kd_Mo_statements_82 : decode kc_Mo_statements 82 = .ok (.goto 76, 3) := by decide +kernel
theorem kd_Mo_statements_85 : decode kc_Mo_statements 85 = .ok (.aload_n 0, 1) := by decide +kernel
theorem kd_Mo_statements_86 : decode kc_Mo_statements 86 = .ok (.getfield 217, 3) := by decide +kernel
theorem kd_Mo_statements_89 : decode kc_Mo_statements 89 = .ok (.iconst 2, 1) := by decide +kernel
theorem kd_Mo_statements_90 : decode kc_Mo_statements 90 = .ok (.if_icmp .ne 29, 3) := by decide +kernel
theorem kd_Mo_statements_93 : decode kc_Mo_statements 93 = .ok (.aload_n 0, 1) := by decide +kernel
theorem kd_Mo_statements_94 : decode kc_Mo_statements 94 = .ok (.getfield 242, 3) := by decide +kernel
theorem kd_Mo_statements_97 : decode kc_Mo_statements 97 = .ok (.bipush 28, 2) := by decide +kernel
theorem kd_Mo_statements_99 : decode kc_Mo_statements 99 = .ok (.if_icmp .eq 20, 3) := by decide +kernel
theorem kd_Mo_statements_102 : decode kc_Mo_statements 102 = .ok (.aload_n 0, 1) := by decide +kernel
theorem kd_Mo_statements_103 : decode kc_Mo_statements 103 = .ok (.getfield 242, 3) := by decide +kernel
theorem kd_Mo_statements_106 : decode kc_Mo_statements 106 = .ok (.bipush 29, 2) := by decide +kernel
theorem kd_Mo_statements_108 : decode kc_Mo_statements 108 = .ok (.if_icmp .eq 11, 3) := by decide +kernel
theorem kd_Mo_statements_111 : decode kc_Mo_statements 111 = .ok (.aload_n 0, 1) := by decide +kernel
theorem kd_Mo_statements_112 : decode kc_Mo_statements 112 = .ok (.iload_n 1, 1) := by decide +kernel
theorem kd_Mo_statements_113 : decode kc_Mo_statements 113 = .ok (.invokevirtual 376, 3) := by decide +kernel
theorem kd_Mo_statements_116 : decode kc_Mo_statements 116 = .ok (.goto 42, 3) := by decide +kernel
theorem kd_Mo_statements_119 : decode kc_Mo_statements 119 = .ok (.aload_n 0, 1) := by decide +kernel
theorem kd_Mo_statements_120 : decode kc_Mo_statements 120 = .ok (.getfield 217, 3) := by decide +kernel
theorem kd_Mo_statements_123 : decode kc_Mo_statements 123 = .ok (.iconst 2, 1) := by decide +kernel
theorem kd_Mo_statements_124 : decode kc_Mo_statements 124 = .ok (.if_icmp .ne 34, 3) := by decide +kernel
theorem kd_Mo_statements_127 : decode kc_Mo_statements 127 = .ok (.aload_n 0, 1) := by decide +kernel
theorem kd_Mo_statements_128 : decode kc_Mo_statements 128 = .ok (.iload_n 1, 1) := by decide +kernel
theorem kd_Mo_statements_129 : decode kc_Mo_statements 129 = .ok (.aload_n 0, 1) := by decide +kernel
theorem kd_Mo_statements_130 : decode kc_Mo_statements 130 = .ok (.getfield 242, 3) := by decide +kernel
theorem kd_Mo_statements_133 : decode kc_Mo_statements 133 = .ok (.bipush 28, 2) := by decide +kernel
theorem kd_Mo_statements_135 : decode kc_Mo_statements 135 = .ok (.if_icmp .ne 8, 3) := by decide +kernel
theorem kd_Mo_statements_138 : decode kc_Mo_statements 138 = .ok (.bipush 20, 2) := by decide +kernel
theorem kd_Mo_statements_140 : decode kc_Mo_statements 140 = .ok (.goto 5, 3) := by decide +kernel
theorem kd_Mo_statements_143 : decode kc_Mo_statements 143 = .ok (.bipush 21, 2) := by decide +kernel
theorem kd_Mo_statements_145 : decode kc_Mo_statements 145 = .ok (.aload_n 0, 1) := by decide +kernel
theorem kd_Mo_statements_146 : decode kc_Mo_statements 146 = .ok (.getfield 214, 3) := by decide +kernel
theorem kd_Mo_statements_149 : decode kc_Mo_statements 149 = .ok (.iconst 0, 1) := by decide +kernel
theorem kd_Mo_statements_150 : decode kc_Mo_statements 150 = .ok (.invokevirtual 342, 3) := by decide +kernel
theorem kd_Mo_statements_153 : decode kc_Mo_statements 153 = .ok (.istore_n 2, 1) := by decide +kernel
theorem kd_Mo_statements_154 : decode kc_Mo_statements 154 = .ok (.aload_n 0, 1) := by decide +kernel
theorem kd_Mo_statements_155 : decode kc_Mo_statements 155 = .ok (.invokevirtual 296, 3) := by decide +kernel
theorem kd_Mo_statements_158 : decode kc_Mo_statements 158 = .ok (.aload_n 0, 1) := by decide +kernel
theorem kd_Mo_statements_159 : decode kc_Mo_statements 159 = .ok (.bipush 59, 2) := by decide +kernel
theorem kd_Mo_statements_161 : decode kc_Mo_statements 161 = .ok (.invokevirtual 349, 3) := by decide +kernel
theorem kd_Mo_statements_164 : decode kc_Mo_statements 164 = .ok (.goto (-164), 3) := by decide +kernel
theorem kd_Mo_statements_167 : decode kc_Mo_statements 167 = .ok (.return_, 1) := by decide +kernel
set_option maxHeartbeats 4000000 in
set_option maxRecDepth 100000 in
theorem zg_Mo_body {l : Launch} {D : va_G} {sz0 : Nat} {S : zs_T} {P : ze_T} {d : Nat} {r_Mo_statements : zs_H → Int32 → (Option zs_H)} (hr_Mo_statements : ∀ (h : zs_H) (x0 : Int32) {rh : zs_H}, r_Mo_statements h x0 = some rh → zk_Sp (zs_G S l D sz0) (ze_E P) km_Mo_statements { frames := 805 + d, cells := 0, slots := 0, locals := 19321 + 25 * d } [.ref (S.1 68), .int x0] (zs_W S h) (zd_PV S rh)) (h : zs_H) (x1 : Int32) (x2 : Int32) {rh : zs_H} (e : g_Mo_body r_Mo_statements h x1 x2 = some rh) : zk_Sp (zs_G S l D sz0) (ze_E P) km_Mo_body { frames := 805 + (d + 1), cells := 0, slots := 0, locals := 19321 + 25 * (d + 1) } [.ref (S.1 68), .int x1, .int x2] (zs_W S h) (zd_PV S rh) := by
  refine zk_met ku_Mo_body (Nat.le_of_ble_eq_true rfl) (ze_Em P) ?_
  intro X C hR
  refine zk_lvs (lv' := [(0, .ref (S.1 68)), (1, .int x1), (2, .int x2)]) [0, 1, 2] rfl ?_
  unfold g_Mo_body at e
  refine zk_aload_n C kd_Mo_body_0 rfl 0 rfl rfl ?_
  refine zs_get (v := .int (h.1 68 7)) C 68 7 rfl rfl rfl rfl ki_Mo (by decide) kw1690 kd_Mo_body_1 rfl ?_
  refine zk_istore_n (lv' := [(3, _), (0, _), (1, _), (2, _)]) C kd_Mo_body_4 rfl (by decide) rfl rfl ?_
  refine zk_aload_n C kd_Mo_body_5 rfl 1 rfl rfl ?_
  refine zk_iload_n C kd_Mo_body_6 rfl 3 rfl rfl ?_
  obtain ⟨h2, c1, e⟩ := zd_b e
  refine zs_callV (k := 68) (rn := { frames := 7, cells := 0, slots := 0, locals := 150 }) (As := [.int x2]) (rest := []) C (zc_Mo_want h x2 c1) ku_Mo_want kw2109 kv_Mo_want rfl (zd_rmO (by decide) (by decide)) ⟨Nat.le_refl _, Nat.le_refl _⟩ rfl rfl rfl (Nat.le_of_ble_eq_true rfl) kd_Mo_body_7 rfl (c1 := 0) (s1 := 0) rfl rfl (fun v w hp => ?_)
  obtain ⟨rfl, rfl⟩ := hp
  refine zk_stk (r' := []) rfl ?_
  refine zk_aload_n C kd_Mo_body_10 rfl 1 rfl rfl ?_
  refine zs_get (v := .int (h2.1 68 10)) C 68 10 rfl rfl rfl rfl ki_Mo (by decide) kw1693 kd_Mo_body_11 rfl ?_
  refine zk_if_ne (tgt := 30) C kd_Mo_body_14 (by decide) rfl (fun b3 => ?_) (fun b3 => ?_)
  · replace e := zd_neg b3 e
    exact zk_vret C hR kd_Mo_body_30 rfl rfl (zd_rV e)
  · replace e := zd_pos b3 e
    refine zk_aload_n C kd_Mo_body_17 rfl 1 rfl rfl ?_
    refine zk_aload_n C kd_Mo_body_18 rfl 1 rfl rfl ?_
    refine zk_iload_n C kd_Mo_body_19 rfl 2 rfl rfl ?_
    refine zk_bipush (v := 11) C kd_Mo_body_20 (by decide) rfl ?_
    refine zk_iload_n C kd_Mo_body_22 rfl 0 rfl rfl ?_
    refine zk_iconst (v := 0) C kd_Mo_body_23 (by decide) rfl ?_
    obtain ⟨v5, h6, c4, e⟩ := zd_Be e
    refine zs_callV (k := 68) (rn := { frames := 1, cells := 0, slots := 0, locals := 24 }) (As := [.int x1, .int 11, .int (h.1 68 7), .int 0]) (rest := [.ref (S.1 68)]) C (zc_Mo_add h2 x1 11 (h.1 68 7) 0 c4) ku_Mo_add kw2097 kv_Mo_add rfl (zd_rmO (by decide) (by decide)) ⟨Nat.le_refl _, Nat.le_refl _⟩ rfl rfl rfl (Nat.le_of_ble_eq_true rfl) kd_Mo_body_24 rfl (c1 := 0) (s1 := 0) rfl rfl (fun v w hp => ?_)
    obtain ⟨rfl, rfl⟩ := hp
    refine zk_stk (r' := [.int v5, .ref (S.1 68)]) rfl ?_
    obtain ⟨h8, c7, e⟩ := zd_b e
    refine zs_callV (k := 68) (rn := { frames := 805 + d, cells := 0, slots := 0, locals := 19321 + 25 * d }) (As := [.int v5]) (rest := []) C (hr_Mo_statements h6 v5 c7) ku_Mo_statements kw2161 kv_Mo_statements rfl (zd_rmI (by decide)) ⟨Nat.le_refl _, Nat.le_refl _⟩ rfl rfl rfl (Nat.le_of_ble_eq_true rfl) kd_Mo_body_27 rfl (c1 := 0) (s1 := 0) rfl rfl (fun v w hp => ?_)
    obtain ⟨rfl, rfl⟩ := hp
    refine zk_stk (r' := []) rfl ?_
    exact zk_vret C hR kd_Mo_body_30 rfl rfl (zd_rV e)
set_option maxHeartbeats 4000000 in
set_option maxRecDepth 100000 in
theorem zb_Mo_cases_120 {X : zkj_T} {S : zs_T} {P : ze_T} {l : Launch} {D : va_G} {sz0 : Nat} {d : Nat} {rh : zs_H} (C : zk_C X km_Mo_cases (zs_G S l D sz0) { frames := 805 + (d + 1), cells := 0, slots := 0, locals := 19321 + 25 * (d + 1) } (ze_E P)) (hR : zkj_R X (zd_PV S rh) (none)) {r_Mo_body : zs_H → Int32 → Int32 → (Option zs_H)} (hr_Mo_body : ∀ (h : zs_H) (x0 : Int32) (x1 : Int32) {rh : zs_H}, r_Mo_body h x0 x1 = some rh → zk_Sp (zs_G S l D sz0) (ze_E P) km_Mo_body { frames := 805 + d, cells := 0, slots := 0, locals := 19321 + 25 * d } [.ref (S.1 68), .int x0, .int x1] (zs_W S h) (zd_PV S rh)) {k28 : zs_H → Int32 → (Option zs_H)} (hk28 : ∀ (h : zs_H) (x2 : Int32), k28 h x2 = some rh → zk_Ab X (zs_W S h) 0 0 28 [(0, .ref (S.1 68)), (2, .int x2)] []) {k51 : zs_H → Int32 → Int32 → Int32 → (Option zs_H)} (hk51 : ∀ (h : zs_H) (x2 : Int32) (x3 : Int32) (x4 : Int32), k51 h x2 x3 x4 = some rh → zk_Ab X (zs_W S h) 0 0 51 [(0, .ref (S.1 68)), (2, .int x2), (3, .int x3), (4, .int x4)] []) (h : zs_H) (x2 : Int32) (x3 : Int32) (x4 : Int32) (e : f_Mo_cases_120 r_Mo_body k28 k51 h x2 x3 x4 = some rh) : zk_Ab X (zs_W S h) 0 0 120 [(0, .ref (S.1 68)), (2, .int x2), (3, .int x3), (4, .int x4)] [] := by
  unfold f_Mo_cases_120 at e
  refine zk_goto (tgt := 51) C kd_Mo_cases_120 (by decide) ?_
  refine zk_lvs (lv' := [(0, .ref (S.1 68)), (2, .int x2), (3, .int x3), (4, .int x4)]) [0, 1, 2, 3] rfl ?_
  exact hk51 h x2 x3 x4 e
set_option maxHeartbeats 4000000 in
set_option maxRecDepth 100000 in
theorem zb_Mo_cases_103 {X : zkj_T} {S : zs_T} {P : ze_T} {l : Launch} {D : va_G} {sz0 : Nat} {d : Nat} {rh : zs_H} (C : zk_C X km_Mo_cases (zs_G S l D sz0) { frames := 805 + (d + 1), cells := 0, slots := 0, locals := 19321 + 25 * (d + 1) } (ze_E P)) (hR : zkj_R X (zd_PV S rh) (none)) {r_Mo_body : zs_H → Int32 → Int32 → (Option zs_H)} (hr_Mo_body : ∀ (h : zs_H) (x0 : Int32) (x1 : Int32) {rh : zs_H}, r_Mo_body h x0 x1 = some rh → zk_Sp (zs_G S l D sz0) (ze_E P) km_Mo_body { frames := 805 + d, cells := 0, slots := 0, locals := 19321 + 25 * d } [.ref (S.1 68), .int x0, .int x1] (zs_W S h) (zd_PV S rh)) {k28 : zs_H → Int32 → (Option zs_H)} (hk28 : ∀ (h : zs_H) (x2 : Int32), k28 h x2 = some rh → zk_Ab X (zs_W S h) 0 0 28 [(0, .ref (S.1 68)), (2, .int x2)] []) {k51 : zs_H → Int32 → Int32 → Int32 → (Option zs_H)} (hk51 : ∀ (h : zs_H) (x2 : Int32) (x3 : Int32) (x4 : Int32), k51 h x2 x3 x4 = some rh → zk_Ab X (zs_W S h) 0 0 51 [(0, .ref (S.1 68)), (2, .int x2), (3, .int x3), (4, .int x4)] []) (h : zs_H) (x2 : Int32) (x3 : Int32) (e : f_Mo_cases_103 r_Mo_body k28 k51 h x2 x3 = some rh) : zk_Ab X (zs_W S h) 0 0 103 [(0, .ref (S.1 68)), (2, .int x2), (3, .int x3)] [] := by
  unfold f_Mo_cases_103 at e
  refine zk_aload_n C kd_Mo_cases_103 rfl 0 rfl rfl ?_
  refine zk_bipush (v := 44) C kd_Mo_cases_104 (by decide) rfl ?_
  refine zs_callV (k := 68) (rn := { frames := 0, cells := 0, slots := 0, locals := 0 }) (As := [.int 44]) (rest := []) C (zc_Mo_isSign h 44) ku_Mo_isSign kw2117 kv_Mo_isSign rfl (zd_rmO (by decide) (by decide)) ⟨Nat.le_refl _, Nat.le_refl _⟩ rfl rfl rfl (Nat.le_of_ble_eq_true rfl) kd_Mo_cases_106 rfl (c1 := 0) (s1 := 0) rfl rfl (fun v w hp => ?_)
  obtain ⟨rfl, rfl, z1⟩ := hp
  refine zk_stk (r' := [.int (f_Mo_isSign h 44)]) rfl ?_
  refine zk_istore (lv' := [(4, _), (0, _), (2, _), (3, _)]) C kd_Mo_cases_109 (by decide) rfl rfl ?_
  refine zk_iload C kd_Mo_cases_111 0 rfl rfl ?_
  refine zk_if_eq (tgt := 120) C kd_Mo_cases_113 (by decide) rfl (fun b2 => ?_) (fun b2 => ?_)
  · replace e := zd_pos b2 e
    refine zk_lvs (lv' := [(0, .ref (S.1 68)), (2, .int x2), (3, .int x3), (4, .int (f_Mo_isSign h 44))]) [1, 2, 3, 0] rfl ?_
    exact zb_Mo_cases_120 C hR hr_Mo_body hk28 hk51 h x2 x3 (f_Mo_isSign h 44) e
  · replace e := zd_neg b2 e
    refine zk_aload_n C kd_Mo_cases_116 rfl 1 rfl rfl ?_
    obtain ⟨h4, c3, e⟩ := zd_b e
    refine zs_callV (k := 68) (rn := { frames := 6, cells := 0, slots := 0, locals := 129 }) (As := []) (rest := []) C (zc_Mo_next h c3) ku_Mo_next kw2001 kv_Mo_next rfl (zd_rmO (by decide) (by decide)) ⟨Nat.le_refl _, Nat.le_refl _⟩ rfl rfl rfl (Nat.le_of_ble_eq_true rfl) kd_Mo_cases_117 rfl (c1 := 0) (s1 := 0) rfl rfl (fun v w hp => ?_)
    obtain ⟨rfl, rfl⟩ := hp
    refine zk_stk (r' := []) rfl ?_
    refine zk_lvs (lv' := [(0, .ref (S.1 68)), (2, .int x2), (3, .int x3), (4, .int (f_Mo_isSign h 44))]) [1, 2, 3, 0] rfl ?_
    exact zb_Mo_cases_120 C hR hr_Mo_body hk28 hk51 h4 x2 x3 (f_Mo_isSign h 44) e
set_option maxHeartbeats 4000000 in
set_option maxRecDepth 100000 in
theorem zb_Mo_cases_123 {X : zkj_T} {S : zs_T} {P : ze_T} {l : Launch} {D : va_G} {sz0 : Nat} {d : Nat} {rh : zs_H} (C : zk_C X km_Mo_cases (zs_G S l D sz0) { frames := 805 + (d + 1), cells := 0, slots := 0, locals := 19321 + 25 * (d + 1) } (ze_E P)) (hR : zkj_R X (zd_PV S rh) (none)) {r_Mo_body : zs_H → Int32 → Int32 → (Option zs_H)} (hr_Mo_body : ∀ (h : zs_H) (x0 : Int32) (x1 : Int32) {rh : zs_H}, r_Mo_body h x0 x1 = some rh → zk_Sp (zs_G S l D sz0) (ze_E P) km_Mo_body { frames := 805 + d, cells := 0, slots := 0, locals := 19321 + 25 * d } [.ref (S.1 68), .int x0, .int x1] (zs_W S h) (zd_PV S rh)) {k28 : zs_H → Int32 → (Option zs_H)} (hk28 : ∀ (h : zs_H) (x2 : Int32), k28 h x2 = some rh → zk_Ab X (zs_W S h) 0 0 28 [(0, .ref (S.1 68)), (2, .int x2)] []) (h : zs_H) (x2 : Int32) (x3 : Int32) (e : f_Mo_cases_123 r_Mo_body k28 h x2 x3 = some rh) : zk_Ab X (zs_W S h) 0 0 123 [(0, .ref (S.1 68)), (2, .int x2), (3, .int x3)] [] := by
  unfold f_Mo_cases_123 at e
  refine zk_aload_n C kd_Mo_cases_123 rfl 0 rfl rfl ?_
  refine zk_iload_n C kd_Mo_cases_124 rfl 2 rfl rfl ?_
  refine zk_aload_n C kd_Mo_cases_125 rfl 0 rfl rfl ?_
  refine zk_bipush (v := 58) C kd_Mo_cases_126 (by decide) rfl ?_
  refine zs_callV (k := 68) (rn := { frames := 0, cells := 0, slots := 0, locals := 0 }) (As := [.int 58]) (rest := [.int x3, .ref (S.1 68)]) C (zc_Mo_isSign h 58) ku_Mo_isSign kw2117 kv_Mo_isSign rfl (zd_rmO (by decide) (by decide)) ⟨Nat.le_refl _, Nat.le_refl _⟩ rfl rfl rfl (Nat.le_of_ble_eq_true rfl) kd_Mo_cases_128 rfl (c1 := 0) (s1 := 0) rfl rfl (fun v w hp => ?_)
  obtain ⟨rfl, rfl, z1⟩ := hp
  refine zk_stk (r' := [.int (f_Mo_isSign h 58), .int x3, .ref (S.1 68)]) rfl ?_
  obtain ⟨h3, c2, e⟩ := zd_b e
  refine zs_callV (k := 68) (rn := { frames := 805 + d, cells := 0, slots := 0, locals := 19321 + 25 * d }) (As := [.int x3, .int (f_Mo_isSign h 58)]) (rest := []) C (hr_Mo_body h x3 (f_Mo_isSign h 58) c2) ku_Mo_body kw2228 kv_Mo_body rfl (zd_rmI (by decide)) ⟨Nat.le_refl _, Nat.le_refl _⟩ rfl rfl rfl (Nat.le_of_ble_eq_true rfl) kd_Mo_cases_131 rfl (c1 := 0) (s1 := 0) rfl rfl (fun v w hp => ?_)
  obtain ⟨rfl, rfl⟩ := hp
  refine zk_stk (r' := []) rfl ?_
  refine zk_goto (tgt := 28) C kd_Mo_cases_134 (by decide) ?_
  refine zk_lvs (lv' := [(0, .ref (S.1 68)), (2, .int x2)]) [0, 1] rfl ?_
  exact hk28 h3 x2 e
set_option maxHeartbeats 4000000 in
set_option maxRecDepth 100000 in
theorem zb_Mo_cases_51 {X : zkj_T} {S : zs_T} {P : ze_T} {l : Launch} {D : va_G} {sz0 : Nat} {d : Nat} {rh : zs_H} (C : zk_C X km_Mo_cases (zs_G S l D sz0) { frames := 805 + (d + 1), cells := 0, slots := 0, locals := 19321 + 25 * (d + 1) } (ze_E P)) (hR : zkj_R X (zd_PV S rh) (none)) {r_Mo_body : zs_H → Int32 → Int32 → (Option zs_H)} (hr_Mo_body : ∀ (h : zs_H) (x0 : Int32) (x1 : Int32) {rh : zs_H}, r_Mo_body h x0 x1 = some rh → zk_Sp (zs_G S l D sz0) (ze_E P) km_Mo_body { frames := 805 + d, cells := 0, slots := 0, locals := 19321 + 25 * d } [.ref (S.1 68), .int x0, .int x1] (zs_W S h) (zd_PV S rh)) {k28 : zs_H → Int32 → (Option zs_H)} (hk28 : ∀ (h : zs_H) (x2 : Int32), k28 h x2 = some rh → zk_Ab X (zs_W S h) 0 0 28 [(0, .ref (S.1 68)), (2, .int x2)] []) {k51 : zs_H → Int32 → Int32 → Int32 → (Option zs_H)} (hk51 : ∀ (h : zs_H) (x2 : Int32) (x3 : Int32) (x4 : Int32), k51 h x2 x3 x4 = some rh → zk_Ab X (zs_W S h) 0 0 51 [(0, .ref (S.1 68)), (2, .int x2), (3, .int x3), (4, .int x4)] []) (h : zs_H) (x2 : Int32) (x3 : Int32) (x4 : Int32) (e : f_Mo_cases_51 r_Mo_body k28 k51 h x2 x3 x4 = some rh) : zk_Ab X (zs_W S h) 0 0 51 [(0, .ref (S.1 68)), (2, .int x2), (3, .int x3), (4, .int x4)] [] := by
  unfold f_Mo_cases_51 at e
  refine zk_iload C kd_Mo_cases_51 3 rfl rfl ?_
  refine zk_if_eq (tgt := 123) C kd_Mo_cases_53 (by decide) rfl (fun b1 => ?_) (fun b1 => ?_)
  · replace e := zd_pos b1 e
    refine zk_lvs (lv' := [(0, .ref (S.1 68)), (2, .int x2), (3, .int x3)]) [0, 1, 2] rfl ?_
    exact zb_Mo_cases_123 C hR hr_Mo_body hk28 h x2 x3 e
  · replace e := zd_neg b1 e
    refine zk_aload_n C kd_Mo_cases_56 rfl 0 rfl rfl ?_
    refine zs_get (v := .int (h.1 68 10)) C 68 10 rfl rfl rfl rfl ki_Mo (by decide) kw1693 kd_Mo_cases_57 rfl ?_
    refine zk_if_ne (tgt := 123) C kd_Mo_cases_60 (by decide) rfl (fun b2 => ?_) (fun b2 => ?_)
    · replace e := zd_neg b2 e
      refine zk_lvs (lv' := [(0, .ref (S.1 68)), (2, .int x2), (3, .int x3)]) [0, 1, 2] rfl ?_
      exact zb_Mo_cases_123 C hR hr_Mo_body hk28 h x2 x3 e
    · replace e := zd_pos b2 e
      refine zk_aload_n C kd_Mo_cases_63 rfl 0 rfl rfl ?_
      refine zk_iload_n C kd_Mo_cases_64 rfl 2 rfl rfl ?_
      refine zk_bipush (v := 18) C kd_Mo_cases_65 (by decide) rfl ?_
      refine zk_aload_n C kd_Mo_cases_67 rfl 0 rfl rfl ?_
      refine zs_get (v := .int (h.1 68 7)) C 68 7 rfl rfl rfl rfl ki_Mo (by decide) kw1690 kd_Mo_cases_68 rfl ?_
      refine zk_iconst (v := 0) C kd_Mo_cases_71 (by decide) rfl ?_
      obtain ⟨v4, h5, c3, e⟩ := zd_Be e
      refine zs_callV (k := 68) (rn := { frames := 1, cells := 0, slots := 0, locals := 24 }) (As := [.int x3, .int 18, .int (h.1 68 7), .int 0]) (rest := []) C (zc_Mo_add h x3 18 (h.1 68 7) 0 c3) ku_Mo_add kw2097 kv_Mo_add rfl (zd_rmO (by decide) (by decide)) ⟨Nat.le_refl _, Nat.le_refl _⟩ rfl rfl rfl (Nat.le_of_ble_eq_true rfl) kd_Mo_cases_72 rfl (c1 := 0) (s1 := 0) rfl rfl (fun v w hp => ?_)
      obtain ⟨rfl, rfl⟩ := hp
      refine zk_stk (r' := [.int v4]) rfl ?_
      refine zk_istore (lv' := [(5, _), (0, _), (2, _), (3, _), (4, _)]) C kd_Mo_cases_75 (by decide) rfl rfl ?_
      refine zk_aload_n C kd_Mo_cases_77 rfl 1 rfl rfl ?_
      refine zk_iload C kd_Mo_cases_78 0 rfl rfl ?_
      obtain ⟨h7, c6, e⟩ := zd_b e
      refine zs_callV (k := 68) (rn := { frames := 8, cells := 0, slots := 0, locals := 171 }) (As := [.int v4]) (rest := []) C (zc_Mo_constant h5 v4 c6) ku_Mo_constant kw2137 kv_Mo_constant rfl (zd_rmO (by decide) (by decide)) ⟨Nat.le_refl _, Nat.le_refl _⟩ rfl rfl rfl (Nat.le_of_ble_eq_true rfl) kd_Mo_cases_80 rfl (c1 := 0) (s1 := 0) rfl rfl (fun v w hp => ?_)
      obtain ⟨rfl, rfl⟩ := hp
      refine zk_stk (r' := []) rfl ?_
      refine zk_aload_n C kd_Mo_cases_83 rfl 1 rfl rfl ?_
      refine zk_sipush (v := 257) C kd_Mo_cases_84 (by decide) rfl ?_
      refine zs_callV (k := 68) (rn := { frames := 0, cells := 0, slots := 0, locals := 0 }) (As := [.int 257]) (rest := []) C (zc_Mo_isSign h7 257) ku_Mo_isSign kw2117 kv_Mo_isSign rfl (zd_rmO (by decide) (by decide)) ⟨Nat.le_refl _, Nat.le_refl _⟩ rfl rfl rfl (Nat.le_of_ble_eq_true rfl) kd_Mo_cases_87 rfl (c1 := 0) (s1 := 0) rfl rfl (fun v w hp => ?_)
      obtain ⟨rfl, rfl, z8⟩ := hp
      refine zk_stk (r' := [.int (f_Mo_isSign h7 257)]) rfl ?_
      refine zk_if_eq (tgt := 103) C kd_Mo_cases_90 (by decide) rfl (fun b9 => ?_) (fun b9 => ?_)
      · replace e := zd_pos b9 e
        refine zk_lvs (lv' := [(0, .ref (S.1 68)), (2, .int x2), (3, .int x3)]) [1, 2, 3] rfl ?_
        exact zb_Mo_cases_103 C hR hr_Mo_body hk28 hk51 h7 x2 x3 e
      · replace e := zd_neg b9 e
        refine zk_aload_n C kd_Mo_cases_93 rfl 1 rfl rfl ?_
        obtain ⟨h11, c10, e⟩ := zd_b e
        refine zs_callV (k := 68) (rn := { frames := 6, cells := 0, slots := 0, locals := 129 }) (As := []) (rest := []) C (zc_Mo_next h7 c10) ku_Mo_next kw2001 kv_Mo_next rfl (zd_rmO (by decide) (by decide)) ⟨Nat.le_refl _, Nat.le_refl _⟩ rfl rfl rfl (Nat.le_of_ble_eq_true rfl) kd_Mo_cases_94 rfl (c1 := 0) (s1 := 0) rfl rfl (fun v w hp => ?_)
        obtain ⟨rfl, rfl⟩ := hp
        refine zk_stk (r' := []) rfl ?_
        refine zk_aload_n C kd_Mo_cases_97 rfl 1 rfl rfl ?_
        refine zk_iload C kd_Mo_cases_98 0 rfl rfl ?_
        obtain ⟨h13, c12, e⟩ := zd_b e
        refine zs_callV (k := 68) (rn := { frames := 8, cells := 0, slots := 0, locals := 171 }) (As := [.int v4]) (rest := []) C (zc_Mo_constant h11 v4 c12) ku_Mo_constant kw2137 kv_Mo_constant rfl (zd_rmO (by decide) (by decide)) ⟨Nat.le_refl _, Nat.le_refl _⟩ rfl rfl rfl (Nat.le_of_ble_eq_true rfl) kd_Mo_cases_100 rfl (c1 := 0) (s1 := 0) rfl rfl (fun v w hp => ?_)
        obtain ⟨rfl, rfl⟩ := hp
        refine zk_stk (r' := []) rfl ?_
        refine zk_lvs (lv' := [(0, .ref (S.1 68)), (2, .int x2), (3, .int x3)]) [1, 2, 3] rfl ?_
        exact zb_Mo_cases_103 C hR hr_Mo_body hk28 hk51 h13 x2 x3 e
theorem zl_Mo_cases_51 {X : zkj_T} {S : zs_T} {P : ze_T} {l : Launch} {D : va_G} {sz0 : Nat} {d : Nat} {rh : zs_H} (C : zk_C X km_Mo_cases (zs_G S l D sz0) { frames := 805 + (d + 1), cells := 0, slots := 0, locals := 19321 + 25 * (d + 1) } (ze_E P)) (hR : zkj_R X (zd_PV S rh) (none)) {r_Mo_body : zs_H → Int32 → Int32 → (Option zs_H)} (hr_Mo_body : ∀ (h : zs_H) (x0 : Int32) (x1 : Int32) {rh : zs_H}, r_Mo_body h x0 x1 = some rh → zk_Sp (zs_G S l D sz0) (ze_E P) km_Mo_body { frames := 805 + d, cells := 0, slots := 0, locals := 19321 + 25 * d } [.ref (S.1 68), .int x0, .int x1] (zs_W S h) (zd_PV S rh)) {k28 : zs_H → Int32 → (Option zs_H)} (hk28 : ∀ (h : zs_H) (x2 : Int32), k28 h x2 = some rh → zk_Ab X (zs_W S h) 0 0 28 [(0, .ref (S.1 68)), (2, .int x2)] []) (n : Nat) : ∀ (h : zs_H) (x2 : Int32) (x3 : Int32) (x4 : Int32), f_Mo_cases_L51 r_Mo_body k28 n h x2 x3 x4 = some rh → zk_Ab X (zs_W S h) 0 0 51 [(0, .ref (S.1 68)), (2, .int x2), (3, .int x3), (4, .int x4)] [] := by
  induction n with
  | zero => intro h x2 x3 x4 e; exact zd_no e
  | succ n ih => intro h x2 x3 x4 e; exact zb_Mo_cases_51 (k51 := f_Mo_cases_L51 r_Mo_body k28 n) C hR hr_Mo_body hk28 ih h x2 x3 x4 e
set_option maxHeartbeats 4000000 in
set_option maxRecDepth 100000 in
theorem zb_Mo_cases_152 {X : zkj_T} {S : zs_T} {P : ze_T} {l : Launch} {D : va_G} {sz0 : Nat} {d : Nat} {rh : zs_H} (C : zk_C X km_Mo_cases (zs_G S l D sz0) { frames := 805 + (d + 1), cells := 0, slots := 0, locals := 19321 + 25 * (d + 1) } (ze_E P)) (hR : zkj_R X (zd_PV S rh) (none)) (h : zs_H) (e : f_Mo_cases_152 h = some rh) : zk_Ab X (zs_W S h) 0 0 152 [(0, .ref (S.1 68))] [] := by
  unfold f_Mo_cases_152 at e
  refine zk_aload_n C kd_Mo_cases_152 rfl 0 rfl rfl ?_
  refine zk_bipush (v := 22) C kd_Mo_cases_153 (by decide) rfl ?_
  obtain ⟨h2, c1, e⟩ := zd_b e
  refine zs_callV (k := 68) (rn := { frames := 8, cells := 0, slots := 0, locals := 171 }) (As := [.int 22]) (rest := []) C (zc_Mo_wantWord h 22 c1) ku_Mo_wantWord kw2141 kv_Mo_wantWord rfl (zd_rmO (by decide) (by decide)) ⟨Nat.le_refl _, Nat.le_refl _⟩ rfl rfl rfl (Nat.le_of_ble_eq_true rfl) kd_Mo_cases_155 rfl (c1 := 0) (s1 := 0) rfl rfl (fun v w hp => ?_)
  obtain ⟨rfl, rfl⟩ := hp
  refine zk_stk (r' := []) rfl ?_
  exact zk_vret C hR kd_Mo_cases_158 rfl rfl (zd_rV e)
set_option maxHeartbeats 4000000 in
set_option maxRecDepth 100000 in
theorem zb_Mo_cases_28 {X : zkj_T} {S : zs_T} {P : ze_T} {l : Launch} {D : va_G} {sz0 : Nat} {d : Nat} {rh : zs_H} (C : zk_C X km_Mo_cases (zs_G S l D sz0) { frames := 805 + (d + 1), cells := 0, slots := 0, locals := 19321 + 25 * (d + 1) } (ze_E P)) (hR : zkj_R X (zd_PV S rh) (none)) {r_Mo_body : zs_H → Int32 → Int32 → (Option zs_H)} (hr_Mo_body : ∀ (h : zs_H) (x0 : Int32) (x1 : Int32) {rh : zs_H}, r_Mo_body h x0 x1 = some rh → zk_Sp (zs_G S l D sz0) (ze_E P) km_Mo_body { frames := 805 + d, cells := 0, slots := 0, locals := 19321 + 25 * d } [.ref (S.1 68), .int x0, .int x1] (zs_W S h) (zd_PV S rh)) {k28 : zs_H → Int32 → (Option zs_H)} (hk28 : ∀ (h : zs_H) (x2 : Int32), k28 h x2 = some rh → zk_Ab X (zs_W S h) 0 0 28 [(0, .ref (S.1 68)), (2, .int x2)] []) (h : zs_H) (x2 : Int32) (e : f_Mo_cases_28 r_Mo_body k28 h x2 = some rh) : zk_Ab X (zs_W S h) 0 0 28 [(0, .ref (S.1 68)), (2, .int x2)] [] := by
  unfold f_Mo_cases_28 at e
  refine zk_aload_n C kd_Mo_cases_28 rfl 0 rfl rfl ?_
  refine zs_callV (k := 68) (rn := { frames := 1, cells := 0, slots := 0, locals := 21 }) (As := []) (rest := []) C (zc_Mo_beginsConstant h) ku_Mo_beginsConstant kw2236 kv_Mo_beginsConstant rfl (zd_rmO (by decide) (by decide)) ⟨Nat.le_refl _, Nat.le_refl _⟩ rfl rfl rfl (Nat.le_of_ble_eq_true rfl) kd_Mo_cases_29 rfl (c1 := 0) (s1 := 0) rfl rfl (fun v w hp => ?_)
  obtain ⟨rfl, rfl, z1⟩ := hp
  refine zk_stk (r' := [.int (f_Mo_beginsConstant h)]) rfl ?_
  refine zk_if_eq (tgt := 137) C kd_Mo_cases_32 (by decide) rfl (fun b2 => ?_) (fun b2 => ?_)
  · replace e := zd_pos b2 e
    refine zk_aload_n C kd_Mo_cases_137 rfl 0 rfl rfl ?_
    refine zk_bipush (v := 19) C kd_Mo_cases_138 (by decide) rfl ?_
    refine zs_callV (k := 68) (rn := { frames := 0, cells := 0, slots := 0, locals := 0 }) (As := [.int 19]) (rest := []) C (zc_Mo_isWord h 19) ku_Mo_isWord kw2125 kv_Mo_isWord rfl (zd_rmO (by decide) (by decide)) ⟨Nat.le_refl _, Nat.le_refl _⟩ rfl rfl rfl (Nat.le_of_ble_eq_true rfl) kd_Mo_cases_140 rfl (c1 := 0) (s1 := 0) rfl rfl (fun v w hp => ?_)
    obtain ⟨rfl, rfl, z3⟩ := hp
    refine zk_stk (r' := [.int (f_Mo_isWord h 19)]) rfl ?_
    refine zk_if_eq (tgt := 152) C kd_Mo_cases_143 (by decide) rfl (fun b4 => ?_) (fun b4 => ?_)
    · replace e := zd_pos b4 e
      refine zk_lvs (lv' := [(0, .ref (S.1 68))]) [0] rfl ?_
      exact zb_Mo_cases_152 C hR h e
    · replace e := zd_neg b4 e
      refine zk_aload_n C kd_Mo_cases_146 rfl 0 rfl rfl ?_
      refine zk_iload_n C kd_Mo_cases_147 rfl 1 rfl rfl ?_
      refine zk_iconst (v := 1) C kd_Mo_cases_148 (by decide) rfl ?_
      obtain ⟨h6, c5, e⟩ := zd_b e
      refine zs_callV (k := 68) (rn := { frames := 805 + d, cells := 0, slots := 0, locals := 19321 + 25 * d }) (As := [.int x2, .int 1]) (rest := []) C (hr_Mo_body h x2 1 c5) ku_Mo_body kw2228 kv_Mo_body rfl (zd_rmI (by decide)) ⟨Nat.le_refl _, Nat.le_refl _⟩ rfl rfl rfl (Nat.le_of_ble_eq_true rfl) kd_Mo_cases_149 rfl (c1 := 0) (s1 := 0) rfl rfl (fun v w hp => ?_)
      obtain ⟨rfl, rfl⟩ := hp
      refine zk_stk (r' := []) rfl ?_
      refine zk_lvs (lv' := [(0, .ref (S.1 68))]) [0] rfl ?_
      exact zb_Mo_cases_152 C hR h6 e
  · replace e := zd_neg b2 e
    refine zk_aload_n C kd_Mo_cases_35 rfl 0 rfl rfl ?_
    refine zk_iload_n C kd_Mo_cases_36 rfl 1 rfl rfl ?_
    refine zk_bipush (v := 17) C kd_Mo_cases_37 (by decide) rfl ?_
    refine zk_aload_n C kd_Mo_cases_39 rfl 0 rfl rfl ?_
    refine zs_get (v := .int (h.1 68 7)) C 68 7 rfl rfl rfl rfl ki_Mo (by decide) kw1690 kd_Mo_cases_40 rfl ?_
    refine zk_iconst (v := 0) C kd_Mo_cases_43 (by decide) rfl ?_
    obtain ⟨v8, h9, c7, e⟩ := zd_Be e
    refine zs_callV (k := 68) (rn := { frames := 1, cells := 0, slots := 0, locals := 24 }) (As := [.int x2, .int 17, .int (h.1 68 7), .int 0]) (rest := []) C (zc_Mo_add h x2 17 (h.1 68 7) 0 c7) ku_Mo_add kw2097 kv_Mo_add rfl (zd_rmO (by decide) (by decide)) ⟨Nat.le_refl _, Nat.le_refl _⟩ rfl rfl rfl (Nat.le_of_ble_eq_true rfl) kd_Mo_cases_44 rfl (c1 := 0) (s1 := 0) rfl rfl (fun v w hp => ?_)
    obtain ⟨rfl, rfl⟩ := hp
    refine zk_stk (r' := [.int v8]) rfl ?_
    refine zk_istore_n (lv' := [(3, _), (0, _), (2, _)]) C kd_Mo_cases_47 rfl (by decide) rfl rfl ?_
    refine zk_iconst (v := 1) C kd_Mo_cases_48 (by decide) rfl ?_
    refine zk_istore (lv' := [(4, _), (3, _), (0, _), (2, _)]) C kd_Mo_cases_49 (by decide) rfl rfl ?_
    refine zk_lvs (lv' := [(0, .ref (S.1 68)), (2, .int x2), (3, .int v8), (4, .int 1)]) [2, 3, 1, 0] rfl ?_
    exact zl_Mo_cases_51 C hR hr_Mo_body hk28 zF h9 x2 v8 1 e
theorem zl_Mo_cases_28 {X : zkj_T} {S : zs_T} {P : ze_T} {l : Launch} {D : va_G} {sz0 : Nat} {d : Nat} {rh : zs_H} (C : zk_C X km_Mo_cases (zs_G S l D sz0) { frames := 805 + (d + 1), cells := 0, slots := 0, locals := 19321 + 25 * (d + 1) } (ze_E P)) (hR : zkj_R X (zd_PV S rh) (none)) {r_Mo_body : zs_H → Int32 → Int32 → (Option zs_H)} (hr_Mo_body : ∀ (h : zs_H) (x0 : Int32) (x1 : Int32) {rh : zs_H}, r_Mo_body h x0 x1 = some rh → zk_Sp (zs_G S l D sz0) (ze_E P) km_Mo_body { frames := 805 + d, cells := 0, slots := 0, locals := 19321 + 25 * d } [.ref (S.1 68), .int x0, .int x1] (zs_W S h) (zd_PV S rh)) (n : Nat) : ∀ (h : zs_H) (x2 : Int32), f_Mo_cases_L28 r_Mo_body n h x2 = some rh → zk_Ab X (zs_W S h) 0 0 28 [(0, .ref (S.1 68)), (2, .int x2)] [] := by
  induction n with
  | zero => intro h x2 e; exact zd_no e
  | succ n ih => intro h x2 e; exact zb_Mo_cases_28 (k28 := f_Mo_cases_L28 r_Mo_body n) C hR hr_Mo_body ih h x2 e
set_option maxHeartbeats 4000000 in
set_option maxRecDepth 100000 in
theorem zg_Mo_cases {l : Launch} {D : va_G} {sz0 : Nat} {S : zs_T} {P : ze_T} {d : Nat} {r_Mo_body : zs_H → Int32 → Int32 → (Option zs_H)} (hr_Mo_body : ∀ (h : zs_H) (x0 : Int32) (x1 : Int32) {rh : zs_H}, r_Mo_body h x0 x1 = some rh → zk_Sp (zs_G S l D sz0) (ze_E P) km_Mo_body { frames := 805 + d, cells := 0, slots := 0, locals := 19321 + 25 * d } [.ref (S.1 68), .int x0, .int x1] (zs_W S h) (zd_PV S rh)) (h : zs_H) (x1 : Int32) {rh : zs_H} (e : g_Mo_cases r_Mo_body h x1 = some rh) : zk_Sp (zs_G S l D sz0) (ze_E P) km_Mo_cases { frames := 805 + (d + 1), cells := 0, slots := 0, locals := 19321 + 25 * (d + 1) } [.ref (S.1 68), .int x1] (zs_W S h) (zd_PV S rh) := by
  refine zk_met ku_Mo_cases (Nat.le_of_ble_eq_true rfl) (ze_Em P) ?_
  intro X C hR
  refine zk_lvs (lv' := [(0, .ref (S.1 68)), (1, .int x1)]) [0, 1] rfl ?_
  unfold g_Mo_cases at e
  refine zk_aload_n C kd_Mo_cases_0 rfl 0 rfl rfl ?_
  refine zk_iload_n C kd_Mo_cases_1 rfl 1 rfl rfl ?_
  refine zk_bipush (v := 16) C kd_Mo_cases_2 (by decide) rfl ?_
  refine zk_aload_n C kd_Mo_cases_4 rfl 0 rfl rfl ?_
  refine zs_get (v := .int (h.1 68 7)) C 68 7 rfl rfl rfl rfl ki_Mo (by decide) kw1690 kd_Mo_cases_5 rfl ?_
  refine zk_iconst (v := 0) C kd_Mo_cases_8 (by decide) rfl ?_
  obtain ⟨v2, h3, c1, e⟩ := zd_Be e
  refine zs_callV (k := 68) (rn := { frames := 1, cells := 0, slots := 0, locals := 24 }) (As := [.int x1, .int 16, .int (h.1 68 7), .int 0]) (rest := []) C (zc_Mo_add h x1 16 (h.1 68 7) 0 c1) ku_Mo_add kw2097 kv_Mo_add rfl (zd_rmO (by decide) (by decide)) ⟨Nat.le_refl _, Nat.le_refl _⟩ rfl rfl rfl (Nat.le_of_ble_eq_true rfl) kd_Mo_cases_9 rfl (c1 := 0) (s1 := 0) rfl rfl (fun v w hp => ?_)
  obtain ⟨rfl, rfl⟩ := hp
  refine zk_stk (r' := [.int v2]) rfl ?_
  refine zk_istore_n (lv' := [(2, _), (0, _), (1, _)]) C kd_Mo_cases_12 rfl (by decide) rfl rfl ?_
  refine zk_aload_n C kd_Mo_cases_13 rfl 1 rfl rfl ?_
  obtain ⟨h5, c4, e⟩ := zd_b e
  refine zs_callV (k := 68) (rn := { frames := 6, cells := 0, slots := 0, locals := 129 }) (As := []) (rest := []) C (zc_Mo_next h3 c4) ku_Mo_next kw2001 kv_Mo_next rfl (zd_rmO (by decide) (by decide)) ⟨Nat.le_refl _, Nat.le_refl _⟩ rfl rfl rfl (Nat.le_of_ble_eq_true rfl) kd_Mo_cases_14 rfl (c1 := 0) (s1 := 0) rfl rfl (fun v w hp => ?_)
  obtain ⟨rfl, rfl⟩ := hp
  refine zk_stk (r' := []) rfl ?_
  refine zk_aload_n C kd_Mo_cases_17 rfl 1 rfl rfl ?_
  refine zk_iload_n C kd_Mo_cases_18 rfl 0 rfl rfl ?_
  obtain ⟨h7, c6, e⟩ := zd_b e
  refine zs_callV (k := 68) (rn := { frames := 402 + 400, cells := 0, slots := 0, locals := 9648 + 24 * 400 }) (As := [.int v2]) (rest := []) C (zc_Mo_expression h5 v2 c6) ku_Mo_expression kw2177 kv_Mo_expression rfl (zd_rmO (by decide) (by decide)) ⟨Nat.le_refl _, Nat.le_refl _⟩ rfl rfl rfl (Nat.le_of_ble_eq_true rfl) kd_Mo_cases_19 rfl (c1 := 0) (s1 := 0) rfl rfl (fun v w hp => ?_)
  obtain ⟨rfl, rfl⟩ := hp
  refine zk_stk (r' := []) rfl ?_
  refine zk_aload_n C kd_Mo_cases_22 rfl 1 rfl rfl ?_
  refine zk_bipush (v := 15) C kd_Mo_cases_23 (by decide) rfl ?_
  obtain ⟨h9, c8, e⟩ := zd_b e
  refine zs_callV (k := 68) (rn := { frames := 8, cells := 0, slots := 0, locals := 171 }) (As := [.int 15]) (rest := []) C (zc_Mo_wantWord h7 15 c8) ku_Mo_wantWord kw2141 kv_Mo_wantWord rfl (zd_rmO (by decide) (by decide)) ⟨Nat.le_refl _, Nat.le_refl _⟩ rfl rfl rfl (Nat.le_of_ble_eq_true rfl) kd_Mo_cases_25 rfl (c1 := 0) (s1 := 0) rfl rfl (fun v w hp => ?_)
  obtain ⟨rfl, rfl⟩ := hp
  refine zk_stk (r' := []) rfl ?_
  refine zk_lvs (lv' := [(0, .ref (S.1 68)), (2, .int v2)]) [1, 0] rfl ?_
  exact zl_Mo_cases_28 C hR hr_Mo_body zF h9 v2 e
set_option maxHeartbeats 4000000 in
set_option maxRecDepth 100000 in
theorem zb_Mo_choose_71 {X : zkj_T} {S : zs_T} {P : ze_T} {l : Launch} {D : va_G} {sz0 : Nat} {d : Nat} {rh : zs_H} (C : zk_C X km_Mo_choose (zs_G S l D sz0) { frames := 805 + (d + 1), cells := 0, slots := 0, locals := 19321 + 25 * (d + 1) } (ze_E P)) (hR : zkj_R X (zd_PV S rh) (none)) (h : zs_H) (e : f_Mo_choose_71 h = some rh) : zk_Ab X (zs_W S h) 0 0 71 [(0, .ref (S.1 68))] [] := by
  unfold f_Mo_choose_71 at e
  refine zk_aload_n C kd_Mo_choose_71 rfl 0 rfl rfl ?_
  refine zk_bipush (v := 20) C kd_Mo_choose_72 (by decide) rfl ?_
  obtain ⟨h2, c1, e⟩ := zd_b e
  refine zs_callV (k := 68) (rn := { frames := 8, cells := 0, slots := 0, locals := 171 }) (As := [.int 20]) (rest := []) C (zc_Mo_wantWord h 20 c1) ku_Mo_wantWord kw2141 kv_Mo_wantWord rfl (zd_rmO (by decide) (by decide)) ⟨Nat.le_refl _, Nat.le_refl _⟩ rfl rfl rfl (Nat.le_of_ble_eq_true rfl) kd_Mo_choose_74 rfl (c1 := 0) (s1 := 0) rfl rfl (fun v w hp => ?_)
  obtain ⟨rfl, rfl⟩ := hp
  refine zk_stk (r' := []) rfl ?_
  exact zk_vret C hR kd_Mo_choose_77 rfl rfl (zd_rV e)
set_option maxHeartbeats 4000000 in
set_option maxRecDepth 100000 in
theorem zb_Mo_choose_56 {X : zkj_T} {S : zs_T} {P : ze_T} {l : Launch} {D : va_G} {sz0 : Nat} {d : Nat} {rh : zs_H} (C : zk_C X km_Mo_choose (zs_G S l D sz0) { frames := 805 + (d + 1), cells := 0, slots := 0, locals := 19321 + 25 * (d + 1) } (ze_E P)) (hR : zkj_R X (zd_PV S rh) (none)) {r_Mo_body : zs_H → Int32 → Int32 → (Option zs_H)} (hr_Mo_body : ∀ (h : zs_H) (x0 : Int32) (x1 : Int32) {rh : zs_H}, r_Mo_body h x0 x1 = some rh → zk_Sp (zs_G S l D sz0) (ze_E P) km_Mo_body { frames := 805 + d, cells := 0, slots := 0, locals := 19321 + 25 * d } [.ref (S.1 68), .int x0, .int x1] (zs_W S h) (zd_PV S rh)) (h : zs_H) (x2 : Int32) (e : f_Mo_choose_56 r_Mo_body h x2 = some rh) : zk_Ab X (zs_W S h) 0 0 56 [(0, .ref (S.1 68)), (2, .int x2)] [] := by
  unfold f_Mo_choose_56 at e
  refine zk_aload_n C kd_Mo_choose_56 rfl 0 rfl rfl ?_
  refine zk_bipush (v := 19) C kd_Mo_choose_57 (by decide) rfl ?_
  refine zs_callV (k := 68) (rn := { frames := 0, cells := 0, slots := 0, locals := 0 }) (As := [.int 19]) (rest := []) C (zc_Mo_isWord h 19) ku_Mo_isWord kw2125 kv_Mo_isWord rfl (zd_rmO (by decide) (by decide)) ⟨Nat.le_refl _, Nat.le_refl _⟩ rfl rfl rfl (Nat.le_of_ble_eq_true rfl) kd_Mo_choose_59 rfl (c1 := 0) (s1 := 0) rfl rfl (fun v w hp => ?_)
  obtain ⟨rfl, rfl, z1⟩ := hp
  refine zk_stk (r' := [.int (f_Mo_isWord h 19)]) rfl ?_
  refine zk_if_eq (tgt := 71) C kd_Mo_choose_62 (by decide) rfl (fun b2 => ?_) (fun b2 => ?_)
  · replace e := zd_pos b2 e
    refine zk_lvs (lv' := [(0, .ref (S.1 68))]) [0] rfl ?_
    exact zb_Mo_choose_71 C hR h e
  · replace e := zd_neg b2 e
    refine zk_aload_n C kd_Mo_choose_65 rfl 0 rfl rfl ?_
    refine zk_iload_n C kd_Mo_choose_66 rfl 1 rfl rfl ?_
    refine zk_iconst (v := 1) C kd_Mo_choose_67 (by decide) rfl ?_
    obtain ⟨h4, c3, e⟩ := zd_b e
    refine zs_callV (k := 68) (rn := { frames := 805 + d, cells := 0, slots := 0, locals := 19321 + 25 * d }) (As := [.int x2, .int 1]) (rest := []) C (hr_Mo_body h x2 1 c3) ku_Mo_body kw2228 kv_Mo_body rfl (zd_rmI (by decide)) ⟨Nat.le_refl _, Nat.le_refl _⟩ rfl rfl rfl (Nat.le_of_ble_eq_true rfl) kd_Mo_choose_68 rfl (c1 := 0) (s1 := 0) rfl rfl (fun v w hp => ?_)
    obtain ⟨rfl, rfl⟩ := hp
    refine zk_stk (r' := []) rfl ?_
    refine zk_lvs (lv' := [(0, .ref (S.1 68))]) [0] rfl ?_
    exact zb_Mo_choose_71 C hR h4 e
set_option maxHeartbeats 4000000 in
set_option maxRecDepth 100000 in
theorem zb_Mo_choose_15 {X : zkj_T} {S : zs_T} {P : ze_T} {l : Launch} {D : va_G} {sz0 : Nat} {d : Nat} {rh : zs_H} (C : zk_C X km_Mo_choose (zs_G S l D sz0) { frames := 805 + (d + 1), cells := 0, slots := 0, locals := 19321 + 25 * (d + 1) } (ze_E P)) (hR : zkj_R X (zd_PV S rh) (none)) {r_Mo_body : zs_H → Int32 → Int32 → (Option zs_H)} (hr_Mo_body : ∀ (h : zs_H) (x0 : Int32) (x1 : Int32) {rh : zs_H}, r_Mo_body h x0 x1 = some rh → zk_Sp (zs_G S l D sz0) (ze_E P) km_Mo_body { frames := 805 + d, cells := 0, slots := 0, locals := 19321 + 25 * d } [.ref (S.1 68), .int x0, .int x1] (zs_W S h) (zd_PV S rh)) {k15 : zs_H → Int32 → Int32 → (Option zs_H)} (hk15 : ∀ (h : zs_H) (x2 : Int32) (x3 : Int32), k15 h x2 x3 = some rh → zk_Ab X (zs_W S h) 0 0 15 [(0, .ref (S.1 68)), (2, .int x2), (3, .int x3)] []) (h : zs_H) (x2 : Int32) (x3 : Int32) (e : f_Mo_choose_15 r_Mo_body k15 h x2 x3 = some rh) : zk_Ab X (zs_W S h) 0 0 15 [(0, .ref (S.1 68)), (2, .int x2), (3, .int x3)] [] := by
  unfold f_Mo_choose_15 at e
  refine zk_iload_n C kd_Mo_choose_15 rfl 2 rfl rfl ?_
  refine zk_if_eq (tgt := 56) C kd_Mo_choose_16 (by decide) rfl (fun b1 => ?_) (fun b1 => ?_)
  · replace e := zd_pos b1 e
    refine zk_lvs (lv' := [(0, .ref (S.1 68)), (2, .int x2)]) [0, 1] rfl ?_
    exact zb_Mo_choose_56 C hR hr_Mo_body h x2 e
  · replace e := zd_neg b1 e
    refine zk_aload_n C kd_Mo_choose_19 rfl 0 rfl rfl ?_
    refine zs_get (v := .int (h.1 68 10)) C 68 10 rfl rfl rfl rfl ki_Mo (by decide) kw1693 kd_Mo_choose_20 rfl ?_
    refine zk_if_ne (tgt := 56) C kd_Mo_choose_23 (by decide) rfl (fun b2 => ?_) (fun b2 => ?_)
    · replace e := zd_neg b2 e
      refine zk_lvs (lv' := [(0, .ref (S.1 68)), (2, .int x2)]) [0, 1] rfl ?_
      exact zb_Mo_choose_56 C hR hr_Mo_body h x2 e
    · replace e := zd_pos b2 e
      refine zk_aload_n C kd_Mo_choose_26 rfl 0 rfl rfl ?_
      obtain ⟨h4, c3, e⟩ := zd_b e
      refine zs_callV (k := 68) (rn := { frames := 6, cells := 0, slots := 0, locals := 129 }) (As := []) (rest := []) C (zc_Mo_next h c3) ku_Mo_next kw2001 kv_Mo_next rfl (zd_rmO (by decide) (by decide)) ⟨Nat.le_refl _, Nat.le_refl _⟩ rfl rfl rfl (Nat.le_of_ble_eq_true rfl) kd_Mo_choose_27 rfl (c1 := 0) (s1 := 0) rfl rfl (fun v w hp => ?_)
      obtain ⟨rfl, rfl⟩ := hp
      refine zk_stk (r' := []) rfl ?_
      refine zk_aload_n C kd_Mo_choose_30 rfl 0 rfl rfl ?_
      refine zk_iload_n C kd_Mo_choose_31 rfl 1 rfl rfl ?_
      obtain ⟨h6, c5, e⟩ := zd_b e
      refine zs_callV (k := 68) (rn := { frames := 402 + 400, cells := 0, slots := 0, locals := 9648 + 24 * 400 }) (As := [.int x2]) (rest := []) C (zc_Mo_expression h4 x2 c5) ku_Mo_expression kw2177 kv_Mo_expression rfl (zd_rmO (by decide) (by decide)) ⟨Nat.le_refl _, Nat.le_refl _⟩ rfl rfl rfl (Nat.le_of_ble_eq_true rfl) kd_Mo_choose_32 rfl (c1 := 0) (s1 := 0) rfl rfl (fun v w hp => ?_)
      obtain ⟨rfl, rfl⟩ := hp
      refine zk_stk (r' := []) rfl ?_
      refine zk_aload_n C kd_Mo_choose_35 rfl 0 rfl rfl ?_
      refine zk_iload_n C kd_Mo_choose_36 rfl 1 rfl rfl ?_
      refine zk_aload_n C kd_Mo_choose_37 rfl 0 rfl rfl ?_
      refine zk_bipush (v := 17) C kd_Mo_choose_38 (by decide) rfl ?_
      refine zs_callV (k := 68) (rn := { frames := 0, cells := 0, slots := 0, locals := 0 }) (As := [.int 17]) (rest := [.int x2, .ref (S.1 68)]) C (zc_Mo_isWord h6 17) ku_Mo_isWord kw2125 kv_Mo_isWord rfl (zd_rmO (by decide) (by decide)) ⟨Nat.le_refl _, Nat.le_refl _⟩ rfl rfl rfl (Nat.le_of_ble_eq_true rfl) kd_Mo_choose_40 rfl (c1 := 0) (s1 := 0) rfl rfl (fun v w hp => ?_)
      obtain ⟨rfl, rfl, z7⟩ := hp
      refine zk_stk (r' := [.int (f_Mo_isWord h6 17), .int x2, .ref (S.1 68)]) rfl ?_
      obtain ⟨h9, c8, e⟩ := zd_b e
      refine zs_callV (k := 68) (rn := { frames := 805 + d, cells := 0, slots := 0, locals := 19321 + 25 * d }) (As := [.int x2, .int (f_Mo_isWord h6 17)]) (rest := []) C (hr_Mo_body h6 x2 (f_Mo_isWord h6 17) c8) ku_Mo_body kw2228 kv_Mo_body rfl (zd_rmI (by decide)) ⟨Nat.le_refl _, Nat.le_refl _⟩ rfl rfl rfl (Nat.le_of_ble_eq_true rfl) kd_Mo_choose_43 rfl (c1 := 0) (s1 := 0) rfl rfl (fun v w hp => ?_)
      obtain ⟨rfl, rfl⟩ := hp
      refine zk_stk (r' := []) rfl ?_
      refine zk_aload_n C kd_Mo_choose_46 rfl 0 rfl rfl ?_
      refine zk_bipush (v := 18) C kd_Mo_choose_47 (by decide) rfl ?_
      refine zs_callV (k := 68) (rn := { frames := 0, cells := 0, slots := 0, locals := 0 }) (As := [.int 18]) (rest := []) C (zc_Mo_isWord h9 18) ku_Mo_isWord kw2125 kv_Mo_isWord rfl (zd_rmO (by decide) (by decide)) ⟨Nat.le_refl _, Nat.le_refl _⟩ rfl rfl rfl (Nat.le_of_ble_eq_true rfl) kd_Mo_choose_49 rfl (c1 := 0) (s1 := 0) rfl rfl (fun v w hp => ?_)
      obtain ⟨rfl, rfl, z10⟩ := hp
      refine zk_stk (r' := [.int (f_Mo_isWord h9 18)]) rfl ?_
      refine zk_istore_n (lv' := [(3, _), (0, _), (2, _)]) C kd_Mo_choose_52 rfl (by decide) rfl rfl ?_
      refine zk_goto (tgt := 15) C kd_Mo_choose_53 (by decide) ?_
      refine zk_lvs (lv' := [(0, .ref (S.1 68)), (2, .int x2), (3, .int (f_Mo_isWord h9 18))]) [1, 2, 0] rfl ?_
      exact hk15 h9 x2 (f_Mo_isWord h9 18) e
theorem zl_Mo_choose_15 {X : zkj_T} {S : zs_T} {P : ze_T} {l : Launch} {D : va_G} {sz0 : Nat} {d : Nat} {rh : zs_H} (C : zk_C X km_Mo_choose (zs_G S l D sz0) { frames := 805 + (d + 1), cells := 0, slots := 0, locals := 19321 + 25 * (d + 1) } (ze_E P)) (hR : zkj_R X (zd_PV S rh) (none)) {r_Mo_body : zs_H → Int32 → Int32 → (Option zs_H)} (hr_Mo_body : ∀ (h : zs_H) (x0 : Int32) (x1 : Int32) {rh : zs_H}, r_Mo_body h x0 x1 = some rh → zk_Sp (zs_G S l D sz0) (ze_E P) km_Mo_body { frames := 805 + d, cells := 0, slots := 0, locals := 19321 + 25 * d } [.ref (S.1 68), .int x0, .int x1] (zs_W S h) (zd_PV S rh)) (n : Nat) : ∀ (h : zs_H) (x2 : Int32) (x3 : Int32), f_Mo_choose_L15 r_Mo_body n h x2 x3 = some rh → zk_Ab X (zs_W S h) 0 0 15 [(0, .ref (S.1 68)), (2, .int x2), (3, .int x3)] [] := by
  induction n with
  | zero => intro h x2 x3 e; exact zd_no e
  | succ n ih => intro h x2 x3 e; exact zb_Mo_choose_15 (k15 := f_Mo_choose_L15 r_Mo_body n) C hR hr_Mo_body ih h x2 x3 e
set_option maxHeartbeats 4000000 in
set_option maxRecDepth 100000 in
theorem zg_Mo_choose {l : Launch} {D : va_G} {sz0 : Nat} {S : zs_T} {P : ze_T} {d : Nat} {r_Mo_body : zs_H → Int32 → Int32 → (Option zs_H)} (hr_Mo_body : ∀ (h : zs_H) (x0 : Int32) (x1 : Int32) {rh : zs_H}, r_Mo_body h x0 x1 = some rh → zk_Sp (zs_G S l D sz0) (ze_E P) km_Mo_body { frames := 805 + d, cells := 0, slots := 0, locals := 19321 + 25 * d } [.ref (S.1 68), .int x0, .int x1] (zs_W S h) (zd_PV S rh)) (h : zs_H) (x1 : Int32) {rh : zs_H} (e : g_Mo_choose r_Mo_body h x1 = some rh) : zk_Sp (zs_G S l D sz0) (ze_E P) km_Mo_choose { frames := 805 + (d + 1), cells := 0, slots := 0, locals := 19321 + 25 * (d + 1) } [.ref (S.1 68), .int x1] (zs_W S h) (zd_PV S rh) := by
  refine zk_met ku_Mo_choose (Nat.le_of_ble_eq_true rfl) (ze_Em P) ?_
  intro X C hR
  refine zk_lvs (lv' := [(0, .ref (S.1 68)), (1, .int x1)]) [0, 1] rfl ?_
  unfold g_Mo_choose at e
  refine zk_aload_n C kd_Mo_choose_0 rfl 0 rfl rfl ?_
  refine zk_iload_n C kd_Mo_choose_1 rfl 1 rfl rfl ?_
  refine zk_bipush (v := 15) C kd_Mo_choose_2 (by decide) rfl ?_
  refine zk_aload_n C kd_Mo_choose_4 rfl 0 rfl rfl ?_
  refine zs_get (v := .int (h.1 68 7)) C 68 7 rfl rfl rfl rfl ki_Mo (by decide) kw1690 kd_Mo_choose_5 rfl ?_
  refine zk_iconst (v := 0) C kd_Mo_choose_8 (by decide) rfl ?_
  obtain ⟨v2, h3, c1, e⟩ := zd_Be e
  refine zs_callV (k := 68) (rn := { frames := 1, cells := 0, slots := 0, locals := 24 }) (As := [.int x1, .int 15, .int (h.1 68 7), .int 0]) (rest := []) C (zc_Mo_add h x1 15 (h.1 68 7) 0 c1) ku_Mo_add kw2097 kv_Mo_add rfl (zd_rmO (by decide) (by decide)) ⟨Nat.le_refl _, Nat.le_refl _⟩ rfl rfl rfl (Nat.le_of_ble_eq_true rfl) kd_Mo_choose_9 rfl (c1 := 0) (s1 := 0) rfl rfl (fun v w hp => ?_)
  obtain ⟨rfl, rfl⟩ := hp
  refine zk_stk (r' := [.int v2]) rfl ?_
  refine zk_istore_n (lv' := [(2, _), (0, _), (1, _)]) C kd_Mo_choose_12 rfl (by decide) rfl rfl ?_
  refine zk_iconst (v := 1) C kd_Mo_choose_13 (by decide) rfl ?_
  refine zk_istore_n (lv' := [(3, _), (2, _), (0, _), (1, _)]) C kd_Mo_choose_14 rfl (by decide) rfl rfl ?_
  refine zk_lvs (lv' := [(0, .ref (S.1 68)), (2, .int v2), (3, .int 1)]) [2, 1, 0] rfl ?_
  exact zl_Mo_choose_15 C hR hr_Mo_body zF h3 v2 1 e
set_option maxHeartbeats 4000000 in
set_option maxRecDepth 100000 in
theorem zb_Mo_loop_68 {X : zkj_T} {S : zs_T} {P : ze_T} {l : Launch} {D : va_G} {sz0 : Nat} {d : Nat} {rh : zs_H} (C : zk_C X km_Mo_loop (zs_G S l D sz0) { frames := 805 + (d + 1), cells := 0, slots := 0, locals := 19321 + 25 * (d + 1) } (ze_E P)) (hR : zkj_R X (zd_PV S rh) (none)) {r_Mo_body : zs_H → Int32 → Int32 → (Option zs_H)} (hr_Mo_body : ∀ (h : zs_H) (x0 : Int32) (x1 : Int32) {rh : zs_H}, r_Mo_body h x0 x1 = some rh → zk_Sp (zs_G S l D sz0) (ze_E P) km_Mo_body { frames := 805 + d, cells := 0, slots := 0, locals := 19321 + 25 * d } [.ref (S.1 68), .int x0, .int x1] (zs_W S h) (zd_PV S rh)) (h : zs_H) (x2 : Int32) (e : f_Mo_loop_68 r_Mo_body h x2 = some rh) : zk_Ab X (zs_W S h) 0 0 68 [(0, .ref (S.1 68)), (2, .int x2)] [] := by
  unfold f_Mo_loop_68 at e
  refine zk_aload_n C kd_Mo_loop_68 rfl 0 rfl rfl ?_
  refine zk_iload_n C kd_Mo_loop_69 rfl 1 rfl rfl ?_
  refine zk_aload_n C kd_Mo_loop_70 rfl 0 rfl rfl ?_
  refine zk_bipush (v := 26) C kd_Mo_loop_71 (by decide) rfl ?_
  refine zs_callV (k := 68) (rn := { frames := 0, cells := 0, slots := 0, locals := 0 }) (As := [.int 26]) (rest := [.int x2, .ref (S.1 68)]) C (zc_Mo_isWord h 26) ku_Mo_isWord kw2125 kv_Mo_isWord rfl (zd_rmO (by decide) (by decide)) ⟨Nat.le_refl _, Nat.le_refl _⟩ rfl rfl rfl (Nat.le_of_ble_eq_true rfl) kd_Mo_loop_73 rfl (c1 := 0) (s1 := 0) rfl rfl (fun v w hp => ?_)
  obtain ⟨rfl, rfl, z1⟩ := hp
  refine zk_stk (r' := [.int (f_Mo_isWord h 26), .int x2, .ref (S.1 68)]) rfl ?_
  obtain ⟨h3, c2, e⟩ := zd_b e
  refine zs_callV (k := 68) (rn := { frames := 805 + d, cells := 0, slots := 0, locals := 19321 + 25 * d }) (As := [.int x2, .int (f_Mo_isWord h 26)]) (rest := []) C (hr_Mo_body h x2 (f_Mo_isWord h 26) c2) ku_Mo_body kw2228 kv_Mo_body rfl (zd_rmI (by decide)) ⟨Nat.le_refl _, Nat.le_refl _⟩ rfl rfl rfl (Nat.le_of_ble_eq_true rfl) kd_Mo_loop_76 rfl (c1 := 0) (s1 := 0) rfl rfl (fun v w hp => ?_)
  obtain ⟨rfl, rfl⟩ := hp
  refine zk_stk (r' := []) rfl ?_
  refine zk_aload_n C kd_Mo_loop_79 rfl 0 rfl rfl ?_
  refine zk_bipush (v := 27) C kd_Mo_loop_80 (by decide) rfl ?_
  obtain ⟨h5, c4, e⟩ := zd_b e
  refine zs_callV (k := 68) (rn := { frames := 8, cells := 0, slots := 0, locals := 171 }) (As := [.int 27]) (rest := []) C (zc_Mo_wantWord h3 27 c4) ku_Mo_wantWord kw2141 kv_Mo_wantWord rfl (zd_rmO (by decide) (by decide)) ⟨Nat.le_refl _, Nat.le_refl _⟩ rfl rfl rfl (Nat.le_of_ble_eq_true rfl) kd_Mo_loop_82 rfl (c1 := 0) (s1 := 0) rfl rfl (fun v w hp => ?_)
  obtain ⟨rfl, rfl⟩ := hp
  refine zk_stk (r' := []) rfl ?_
  exact zk_vret C hR kd_Mo_loop_85 rfl rfl (zd_rV e)
set_option maxHeartbeats 4000000 in
set_option maxRecDepth 100000 in
theorem zg_Mo_loop {l : Launch} {D : va_G} {sz0 : Nat} {S : zs_T} {P : ze_T} {d : Nat} {r_Mo_body : zs_H → Int32 → Int32 → (Option zs_H)} (hr_Mo_body : ∀ (h : zs_H) (x0 : Int32) (x1 : Int32) {rh : zs_H}, r_Mo_body h x0 x1 = some rh → zk_Sp (zs_G S l D sz0) (ze_E P) km_Mo_body { frames := 805 + d, cells := 0, slots := 0, locals := 19321 + 25 * d } [.ref (S.1 68), .int x0, .int x1] (zs_W S h) (zd_PV S rh)) (h : zs_H) (x1 : Int32) {rh : zs_H} (e : g_Mo_loop r_Mo_body h x1 = some rh) : zk_Sp (zs_G S l D sz0) (ze_E P) km_Mo_loop { frames := 805 + (d + 1), cells := 0, slots := 0, locals := 19321 + 25 * (d + 1) } [.ref (S.1 68), .int x1] (zs_W S h) (zd_PV S rh) := by
  refine zk_met ku_Mo_loop (Nat.le_of_ble_eq_true rfl) (ze_Em P) ?_
  intro X C hR
  refine zk_lvs (lv' := [(0, .ref (S.1 68)), (1, .int x1)]) [0, 1] rfl ?_
  unfold g_Mo_loop at e
  refine zk_aload_n C kd_Mo_loop_0 rfl 0 rfl rfl ?_
  refine zk_iload_n C kd_Mo_loop_1 rfl 1 rfl rfl ?_
  refine zk_bipush (v := 19) C kd_Mo_loop_2 (by decide) rfl ?_
  refine zk_aload_n C kd_Mo_loop_4 rfl 0 rfl rfl ?_
  refine zs_get (v := .int (h.1 68 7)) C 68 7 rfl rfl rfl rfl ki_Mo (by decide) kw1690 kd_Mo_loop_5 rfl ?_
  refine zk_iconst (v := 0) C kd_Mo_loop_8 (by decide) rfl ?_
  obtain ⟨v2, h3, c1, e⟩ := zd_Be e
  refine zs_callV (k := 68) (rn := { frames := 1, cells := 0, slots := 0, locals := 24 }) (As := [.int x1, .int 19, .int (h.1 68 7), .int 0]) (rest := []) C (zc_Mo_add h x1 19 (h.1 68 7) 0 c1) ku_Mo_add kw2097 kv_Mo_add rfl (zd_rmO (by decide) (by decide)) ⟨Nat.le_refl _, Nat.le_refl _⟩ rfl rfl rfl (Nat.le_of_ble_eq_true rfl) kd_Mo_loop_9 rfl (c1 := 0) (s1 := 0) rfl rfl (fun v w hp => ?_)
  obtain ⟨rfl, rfl⟩ := hp
  refine zk_stk (r' := [.int v2]) rfl ?_
  refine zk_istore_n (lv' := [(2, _), (0, _), (1, _)]) C kd_Mo_loop_12 rfl (by decide) rfl rfl ?_
  refine zk_aload_n C kd_Mo_loop_13 rfl 1 rfl rfl ?_
  obtain ⟨h5, c4, e⟩ := zd_b e
  refine zs_callV (k := 68) (rn := { frames := 6, cells := 0, slots := 0, locals := 129 }) (As := []) (rest := []) C (zc_Mo_next h3 c4) ku_Mo_next kw2001 kv_Mo_next rfl (zd_rmO (by decide) (by decide)) ⟨Nat.le_refl _, Nat.le_refl _⟩ rfl rfl rfl (Nat.le_of_ble_eq_true rfl) kd_Mo_loop_14 rfl (c1 := 0) (s1 := 0) rfl rfl (fun v w hp => ?_)
  obtain ⟨rfl, rfl⟩ := hp
  refine zk_stk (r' := []) rfl ?_
  refine zk_aload_n C kd_Mo_loop_17 rfl 1 rfl rfl ?_
  refine zs_get (v := .ref (S.1 74)) C 68 17 rfl rfl rfl rfl ki_Mo (by decide) kw1700 kd_Mo_loop_18 rfl ?_
  refine zk_iload_n C kd_Mo_loop_21 rfl 0 rfl rfl ?_
  refine zk_aload_n C kd_Mo_loop_22 rfl 1 rfl rfl ?_
  obtain ⟨v7, h8, c6, e⟩ := zd_Be e
  refine zs_callV (k := 68) (rn := { frames := 8, cells := 0, slots := 0, locals := 171 }) (As := []) (rest := [.int v2, .ref (S.1 74)]) C (zc_Mo_name h5 c6) ku_Mo_name kw2105 kv_Mo_name rfl (zd_rmO (by decide) (by decide)) ⟨Nat.le_refl _, Nat.le_refl _⟩ rfl rfl rfl (Nat.le_of_ble_eq_true rfl) kd_Mo_loop_23 rfl (c1 := 0) (s1 := 0) rfl rfl (fun v w hp => ?_)
  obtain ⟨rfl, rfl⟩ := hp
  refine zk_stk (r' := [.int v7, .int v2, .ref (S.1 74)]) rfl ?_
  obtain ⟨q9, e⟩ := zd_g e
  refine zs_iast C 74 rfl (zd_vp q9) kd_Mo_loop_26 rfl ?_
  refine zk_aload_n C kd_Mo_loop_27 rfl 1 rfl rfl ?_
  refine zk_sipush (v := 256) C kd_Mo_loop_28 (by decide) rfl ?_
  obtain ⟨h11, c10, e⟩ := zd_b e
  refine zs_callV (k := 68) (rn := { frames := 8, cells := 0, slots := 0, locals := 171 }) (As := [.int 256]) (rest := []) C (zc_Mo_wantSign (zs_uM h8 74 v2.toNatClampNeg v7) 256 c10) ku_Mo_wantSign kw2113 kv_Mo_wantSign rfl (zd_rmO (by decide) (by decide)) ⟨Nat.le_refl _, Nat.le_refl _⟩ rfl rfl rfl (Nat.le_of_ble_eq_true rfl) kd_Mo_loop_31 rfl (c1 := 0) (s1 := 0) rfl rfl (fun v w hp => ?_)
  obtain ⟨rfl, rfl⟩ := hp
  refine zk_stk (r' := []) rfl ?_
  refine zk_aload_n C kd_Mo_loop_34 rfl 1 rfl rfl ?_
  refine zk_iload_n C kd_Mo_loop_35 rfl 0 rfl rfl ?_
  obtain ⟨h13, c12, e⟩ := zd_b e
  refine zs_callV (k := 68) (rn := { frames := 8, cells := 0, slots := 0, locals := 171 }) (As := [.int v2]) (rest := []) C (zc_Mo_constant h11 v2 c12) ku_Mo_constant kw2137 kv_Mo_constant rfl (zd_rmO (by decide) (by decide)) ⟨Nat.le_refl _, Nat.le_refl _⟩ rfl rfl rfl (Nat.le_of_ble_eq_true rfl) kd_Mo_loop_36 rfl (c1 := 0) (s1 := 0) rfl rfl (fun v w hp => ?_)
  obtain ⟨rfl, rfl⟩ := hp
  refine zk_stk (r' := []) rfl ?_
  refine zk_aload_n C kd_Mo_loop_39 rfl 1 rfl rfl ?_
  refine zk_bipush (v := 24) C kd_Mo_loop_40 (by decide) rfl ?_
  obtain ⟨h15, c14, e⟩ := zd_b e
  refine zs_callV (k := 68) (rn := { frames := 8, cells := 0, slots := 0, locals := 171 }) (As := [.int 24]) (rest := []) C (zc_Mo_wantWord h13 24 c14) ku_Mo_wantWord kw2141 kv_Mo_wantWord rfl (zd_rmO (by decide) (by decide)) ⟨Nat.le_refl _, Nat.le_refl _⟩ rfl rfl rfl (Nat.le_of_ble_eq_true rfl) kd_Mo_loop_42 rfl (c1 := 0) (s1 := 0) rfl rfl (fun v w hp => ?_)
  obtain ⟨rfl, rfl⟩ := hp
  refine zk_stk (r' := []) rfl ?_
  refine zk_aload_n C kd_Mo_loop_45 rfl 1 rfl rfl ?_
  refine zk_iload_n C kd_Mo_loop_46 rfl 0 rfl rfl ?_
  obtain ⟨h17, c16, e⟩ := zd_b e
  refine zs_callV (k := 68) (rn := { frames := 8, cells := 0, slots := 0, locals := 171 }) (As := [.int v2]) (rest := []) C (zc_Mo_constant h15 v2 c16) ku_Mo_constant kw2137 kv_Mo_constant rfl (zd_rmO (by decide) (by decide)) ⟨Nat.le_refl _, Nat.le_refl _⟩ rfl rfl rfl (Nat.le_of_ble_eq_true rfl) kd_Mo_loop_47 rfl (c1 := 0) (s1 := 0) rfl rfl (fun v w hp => ?_)
  obtain ⟨rfl, rfl⟩ := hp
  refine zk_stk (r' := []) rfl ?_
  refine zk_aload_n C kd_Mo_loop_50 rfl 1 rfl rfl ?_
  refine zk_bipush (v := 25) C kd_Mo_loop_51 (by decide) rfl ?_
  refine zs_callV (k := 68) (rn := { frames := 0, cells := 0, slots := 0, locals := 0 }) (As := [.int 25]) (rest := []) C (zc_Mo_isWord h17 25) ku_Mo_isWord kw2125 kv_Mo_isWord rfl (zd_rmO (by decide) (by decide)) ⟨Nat.le_refl _, Nat.le_refl _⟩ rfl rfl rfl (Nat.le_of_ble_eq_true rfl) kd_Mo_loop_53 rfl (c1 := 0) (s1 := 0) rfl rfl (fun v w hp => ?_)
  obtain ⟨rfl, rfl, z18⟩ := hp
  refine zk_stk (r' := [.int (f_Mo_isWord h17 25)]) rfl ?_
  refine zk_if_eq (tgt := 68) C kd_Mo_loop_56 (by decide) rfl (fun b19 => ?_) (fun b19 => ?_)
  · replace e := zd_pos b19 e
    refine zk_lvs (lv' := [(0, .ref (S.1 68)), (2, .int v2)]) [1, 0] rfl ?_
    exact zb_Mo_loop_68 C hR hr_Mo_body h17 v2 e
  · replace e := zd_neg b19 e
    refine zk_aload_n C kd_Mo_loop_59 rfl 1 rfl rfl ?_
    obtain ⟨h21, c20, e⟩ := zd_b e
    refine zs_callV (k := 68) (rn := { frames := 6, cells := 0, slots := 0, locals := 129 }) (As := []) (rest := []) C (zc_Mo_next h17 c20) ku_Mo_next kw2001 kv_Mo_next rfl (zd_rmO (by decide) (by decide)) ⟨Nat.le_refl _, Nat.le_refl _⟩ rfl rfl rfl (Nat.le_of_ble_eq_true rfl) kd_Mo_loop_60 rfl (c1 := 0) (s1 := 0) rfl rfl (fun v w hp => ?_)
    obtain ⟨rfl, rfl⟩ := hp
    refine zk_stk (r' := []) rfl ?_
    refine zk_aload_n C kd_Mo_loop_63 rfl 1 rfl rfl ?_
    refine zk_iload_n C kd_Mo_loop_64 rfl 0 rfl rfl ?_
    obtain ⟨h23, c22, e⟩ := zd_b e
    refine zs_callV (k := 68) (rn := { frames := 8, cells := 0, slots := 0, locals := 171 }) (As := [.int v2]) (rest := []) C (zc_Mo_constant h21 v2 c22) ku_Mo_constant kw2137 kv_Mo_constant rfl (zd_rmO (by decide) (by decide)) ⟨Nat.le_refl _, Nat.le_refl _⟩ rfl rfl rfl (Nat.le_of_ble_eq_true rfl) kd_Mo_loop_65 rfl (c1 := 0) (s1 := 0) rfl rfl (fun v w hp => ?_)
    obtain ⟨rfl, rfl⟩ := hp
    refine zk_stk (r' := []) rfl ?_
    refine zk_lvs (lv' := [(0, .ref (S.1 68)), (2, .int v2)]) [1, 0] rfl ?_
    exact zb_Mo_loop_68 C hR hr_Mo_body h23 v2 e
set_option maxHeartbeats 4000000 in
set_option maxRecDepth 100000 in
theorem zb_Mo_opened_42 {X : zkj_T} {S : zs_T} {P : ze_T} {l : Launch} {D : va_G} {sz0 : Nat} {d : Nat} {rh : zs_H} (C : zk_C X km_Mo_opened (zs_G S l D sz0) { frames := 805 + (d + 1), cells := 0, slots := 0, locals := 19321 + 25 * (d + 1) } (ze_E P)) (hR : zkj_R X (zd_PV S rh) (none)) (h : zs_H) (e : f_Mo_opened_42 h = some rh) : zk_Ab X (zs_W S h) 0 0 42 [(0, .ref (S.1 68))] [] := by
  unfold f_Mo_opened_42 at e
  refine zk_aload_n C kd_Mo_opened_42 rfl 0 rfl rfl ?_
  refine zk_dup C kd_Mo_opened_43 rfl rfl ?_
  refine zs_get (v := .int (h.1 68 12)) C 68 12 rfl rfl rfl rfl ki_Mo (by decide) kw1695 kd_Mo_opened_44 rfl ?_
  refine zk_iconst (v := 1) C kd_Mo_opened_47 (by decide) rfl ?_
  refine zk_isub C kd_Mo_opened_48 rfl ?_
  refine zs_put (ty := .int) C 68 12 ((h.1 68 12) - 1) rfl rfl rfl rfl ki_Mo ky_Mo ko_Mo kn_Mo (by decide) kw1695 rfl rfl rfl rfl (by decide) kd_Mo_opened_49 rfl ?_
  exact zk_vret C hR kd_Mo_opened_52 rfl rfl (zd_rV e)
set_option maxHeartbeats 4000000 in
set_option maxRecDepth 100000 in
theorem zg_Mo_opened {l : Launch} {D : va_G} {sz0 : Nat} {S : zs_T} {P : ze_T} {d : Nat} {r_Mo_cases : zs_H → Int32 → (Option zs_H)} (hr_Mo_cases : ∀ (h : zs_H) (x0 : Int32) {rh : zs_H}, r_Mo_cases h x0 = some rh → zk_Sp (zs_G S l D sz0) (ze_E P) km_Mo_cases { frames := 805 + d, cells := 0, slots := 0, locals := 19321 + 25 * d } [.ref (S.1 68), .int x0] (zs_W S h) (zd_PV S rh)) {r_Mo_choose : zs_H → Int32 → (Option zs_H)} (hr_Mo_choose : ∀ (h : zs_H) (x0 : Int32) {rh : zs_H}, r_Mo_choose h x0 = some rh → zk_Sp (zs_G S l D sz0) (ze_E P) km_Mo_choose { frames := 805 + d, cells := 0, slots := 0, locals := 19321 + 25 * d } [.ref (S.1 68), .int x0] (zs_W S h) (zd_PV S rh)) {r_Mo_loop : zs_H → Int32 → (Option zs_H)} (hr_Mo_loop : ∀ (h : zs_H) (x0 : Int32) {rh : zs_H}, r_Mo_loop h x0 = some rh → zk_Sp (zs_G S l D sz0) (ze_E P) km_Mo_loop { frames := 805 + d, cells := 0, slots := 0, locals := 19321 + 25 * d } [.ref (S.1 68), .int x0] (zs_W S h) (zd_PV S rh)) (h : zs_H) (x1 : Int32) {rh : zs_H} (e : g_Mo_opened r_Mo_cases r_Mo_choose r_Mo_loop h x1 = some rh) : zk_Sp (zs_G S l D sz0) (ze_E P) km_Mo_opened { frames := 805 + (d + 1), cells := 0, slots := 0, locals := 19321 + 25 * (d + 1) } [.ref (S.1 68), .int x1] (zs_W S h) (zd_PV S rh) := by
  refine zk_met ku_Mo_opened (Nat.le_of_ble_eq_true rfl) (ze_Em P) ?_
  intro X C hR
  refine zk_lvs (lv' := [(0, .ref (S.1 68)), (1, .int x1)]) [0, 1] rfl ?_
  unfold g_Mo_opened at e
  refine zk_aload_n C kd_Mo_opened_0 rfl 0 rfl rfl ?_
  refine zs_get (v := .int (h.1 68 9)) C 68 9 rfl rfl rfl rfl ki_Mo (by decide) kw1692 kd_Mo_opened_1 rfl ?_
  refine zk_istore_n (lv' := [(2, _), (0, _), (1, _)]) C kd_Mo_opened_4 rfl (by decide) rfl rfl ?_
  refine zk_aload_n C kd_Mo_opened_5 rfl 1 rfl rfl ?_
  obtain ⟨h2, c1, e⟩ := zd_b e
  refine zs_callV (k := 68) (rn := { frames := 1, cells := 0, slots := 0, locals := 22 }) (As := []) (rest := []) C (zc_Mo_open h c1) ku_Mo_open kw2173 kv_Mo_open rfl (zd_rmO (by decide) (by decide)) ⟨Nat.le_refl _, Nat.le_refl _⟩ rfl rfl rfl (Nat.le_of_ble_eq_true rfl) kd_Mo_opened_6 rfl (c1 := 0) (s1 := 0) rfl rfl (fun v w hp => ?_)
  obtain ⟨rfl, rfl⟩ := hp
  refine zk_stk (r' := []) rfl ?_
  refine zk_iload_n C kd_Mo_opened_9 rfl 0 rfl rfl ?_
  refine zk_bipush (v := 16) C kd_Mo_opened_10 (by decide) rfl ?_
  refine zk_icmp_ne (tgt := 23) C kd_Mo_opened_12 (by decide) rfl (fun b3 => ?_) (fun b3 => ?_)
  · replace e := zd_neg b3 e
    refine zk_iload_n C kd_Mo_opened_23 rfl 0 rfl rfl ?_
    refine zk_bipush (v := 21) C kd_Mo_opened_24 (by decide) rfl ?_
    refine zk_icmp_ne (tgt := 37) C kd_Mo_opened_26 (by decide) rfl (fun b4 => ?_) (fun b4 => ?_)
    · replace e := zd_neg b4 e
      refine zk_aload_n C kd_Mo_opened_37 rfl 1 rfl rfl ?_
      refine zk_iload_n C kd_Mo_opened_38 rfl 2 rfl rfl ?_
      obtain ⟨h6, c5, e⟩ := zd_b e
      refine zs_callV (k := 68) (rn := { frames := 805 + d, cells := 0, slots := 0, locals := 19321 + 25 * d }) (As := [.int x1]) (rest := []) C (hr_Mo_loop h2 x1 c5) ku_Mo_loop kw2240 kv_Mo_loop rfl (zd_rmI (by decide)) ⟨Nat.le_refl _, Nat.le_refl _⟩ rfl rfl rfl (Nat.le_of_ble_eq_true rfl) kd_Mo_opened_39 rfl (c1 := 0) (s1 := 0) rfl rfl (fun v w hp => ?_)
      obtain ⟨rfl, rfl⟩ := hp
      refine zk_stk (r' := []) rfl ?_
      refine zk_lvs (lv' := [(0, .ref (S.1 68))]) [1] rfl ?_
      exact zb_Mo_opened_42 C hR h6 e
    · replace e := zd_pos b4 e
      refine zk_aload_n C kd_Mo_opened_29 rfl 1 rfl rfl ?_
      refine zk_iload_n C kd_Mo_opened_30 rfl 2 rfl rfl ?_
      obtain ⟨h8, c7, e⟩ := zd_b e
      refine zs_callV (k := 68) (rn := { frames := 805 + d, cells := 0, slots := 0, locals := 19321 + 25 * d }) (As := [.int x1]) (rest := []) C (hr_Mo_cases h2 x1 c7) ku_Mo_cases kw2232 kv_Mo_cases rfl (zd_rmI (by decide)) ⟨Nat.le_refl _, Nat.le_refl _⟩ rfl rfl rfl (Nat.le_of_ble_eq_true rfl) kd_Mo_opened_31 rfl (c1 := 0) (s1 := 0) rfl rfl (fun v w hp => ?_)
      obtain ⟨rfl, rfl⟩ := hp
      refine zk_stk (r' := []) rfl ?_
      refine zk_goto (tgt := 42) C kd_Mo_opened_34 (by decide) ?_
      refine zk_lvs (lv' := [(0, .ref (S.1 68))]) [1] rfl ?_
      exact zb_Mo_opened_42 C hR h8 e
  · replace e := zd_pos b3 e
    refine zk_aload_n C kd_Mo_opened_15 rfl 1 rfl rfl ?_
    refine zk_iload_n C kd_Mo_opened_16 rfl 2 rfl rfl ?_
    obtain ⟨h10, c9, e⟩ := zd_b e
    refine zs_callV (k := 68) (rn := { frames := 805 + d, cells := 0, slots := 0, locals := 19321 + 25 * d }) (As := [.int x1]) (rest := []) C (hr_Mo_choose h2 x1 c9) ku_Mo_choose kw2224 kv_Mo_choose rfl (zd_rmI (by decide)) ⟨Nat.le_refl _, Nat.le_refl _⟩ rfl rfl rfl (Nat.le_of_ble_eq_true rfl) kd_Mo_opened_17 rfl (c1 := 0) (s1 := 0) rfl rfl (fun v w hp => ?_)
    obtain ⟨rfl, rfl⟩ := hp
    refine zk_stk (r' := []) rfl ?_
    refine zk_goto (tgt := 42) C kd_Mo_opened_20 (by decide) ?_
    refine zk_lvs (lv' := [(0, .ref (S.1 68))]) [1] rfl ?_
    exact zb_Mo_opened_42 C hR h10 e
set_option maxHeartbeats 4000000 in
set_option maxRecDepth 100000 in
theorem zb_Mo_statements_158 {X : zkj_T} {S : zs_T} {P : ze_T} {l : Launch} {D : va_G} {sz0 : Nat} {d : Nat} {rh : zs_H} (C : zk_C X km_Mo_statements (zs_G S l D sz0) { frames := 805 + (d + 1), cells := 0, slots := 0, locals := 19321 + 25 * (d + 1) } (ze_E P)) (hR : zkj_R X (zd_PV S rh) (none)) {r_Mo_opened : zs_H → Int32 → (Option zs_H)} (hr_Mo_opened : ∀ (h : zs_H) (x0 : Int32) {rh : zs_H}, r_Mo_opened h x0 = some rh → zk_Sp (zs_G S l D sz0) (ze_E P) km_Mo_opened { frames := 805 + d, cells := 0, slots := 0, locals := 19321 + 25 * d } [.ref (S.1 68), .int x0] (zs_W S h) (zd_PV S rh)) {k0 : zs_H → Int32 → (Option zs_H)} (hk0 : ∀ (h : zs_H) (x1 : Int32), k0 h x1 = some rh → zk_Ab X (zs_W S h) 0 0 0 [(0, .ref (S.1 68)), (1, .int x1)] []) (h : zs_H) (x1 : Int32) (e : f_Mo_statements_158 r_Mo_opened k0 h x1 = some rh) : zk_Ab X (zs_W S h) 0 0 158 [(0, .ref (S.1 68)), (1, .int x1)] [] := by
  unfold f_Mo_statements_158 at e
  refine zk_aload_n C kd_Mo_statements_158 rfl 0 rfl rfl ?_
  refine zk_bipush (v := 59) C kd_Mo_statements_159 (by decide) rfl ?_
  obtain ⟨h2, c1, e⟩ := zd_b e
  refine zs_callV (k := 68) (rn := { frames := 8, cells := 0, slots := 0, locals := 171 }) (As := [.int 59]) (rest := []) C (zc_Mo_wantSign h 59 c1) ku_Mo_wantSign kw2113 kv_Mo_wantSign rfl (zd_rmO (by decide) (by decide)) ⟨Nat.le_refl _, Nat.le_refl _⟩ rfl rfl rfl (Nat.le_of_ble_eq_true rfl) kd_Mo_statements_161 rfl (c1 := 0) (s1 := 0) rfl rfl (fun v w hp => ?_)
  obtain ⟨rfl, rfl⟩ := hp
  refine zk_stk (r' := []) rfl ?_
  refine zk_goto (tgt := 0) C kd_Mo_statements_164 (by decide) ?_
  refine zk_lvs (lv' := [(0, .ref (S.1 68)), (1, .int x1)]) [0, 1] rfl ?_
  exact hk0 h2 x1 e
set_option maxHeartbeats 4000000 in
set_option maxRecDepth 100000 in
theorem zb_Mo_statements_145 {X : zkj_T} {S : zs_T} {P : ze_T} {l : Launch} {D : va_G} {sz0 : Nat} {d : Nat} {rh : zs_H} (C : zk_C X km_Mo_statements (zs_G S l D sz0) { frames := 805 + (d + 1), cells := 0, slots := 0, locals := 19321 + 25 * (d + 1) } (ze_E P)) (hR : zkj_R X (zd_PV S rh) (none)) {r_Mo_opened : zs_H → Int32 → (Option zs_H)} (hr_Mo_opened : ∀ (h : zs_H) (x0 : Int32) {rh : zs_H}, r_Mo_opened h x0 = some rh → zk_Sp (zs_G S l D sz0) (ze_E P) km_Mo_opened { frames := 805 + d, cells := 0, slots := 0, locals := 19321 + 25 * d } [.ref (S.1 68), .int x0] (zs_W S h) (zd_PV S rh)) {k0 : zs_H → Int32 → (Option zs_H)} (hk0 : ∀ (h : zs_H) (x1 : Int32), k0 h x1 = some rh → zk_Ab X (zs_W S h) 0 0 0 [(0, .ref (S.1 68)), (1, .int x1)] []) (h : zs_H) (x1 : Int32) (y0 : Int32) (y1 : Int32) (e : f_Mo_statements_145 r_Mo_opened k0 h x1 y0 y1 = some rh) : zk_Ab X (zs_W S h) 0 0 145 [(0, .ref (S.1 68)), (1, .int x1)] [.int y0, .int y1, .ref (S.1 68)] := by
  unfold f_Mo_statements_145 at e
  refine zk_aload_n C kd_Mo_statements_145 rfl 0 rfl rfl ?_
  refine zs_get (v := .int (h.1 68 7)) C 68 7 rfl rfl rfl rfl ki_Mo (by decide) kw1690 kd_Mo_statements_146 rfl ?_
  refine zk_iconst (v := 0) C kd_Mo_statements_149 (by decide) rfl ?_
  obtain ⟨v2, h3, c1, e⟩ := zd_Be e
  refine zs_callV (k := 68) (rn := { frames := 1, cells := 0, slots := 0, locals := 24 }) (As := [.int y1, .int y0, .int (h.1 68 7), .int 0]) (rest := []) C (zc_Mo_add h y1 y0 (h.1 68 7) 0 c1) ku_Mo_add kw2097 kv_Mo_add rfl (zd_rmO (by decide) (by decide)) ⟨Nat.le_refl _, Nat.le_refl _⟩ rfl rfl rfl (Nat.le_of_ble_eq_true rfl) kd_Mo_statements_150 rfl (c1 := 0) (s1 := 0) rfl rfl (fun v w hp => ?_)
  obtain ⟨rfl, rfl⟩ := hp
  refine zk_stk (r' := [.int v2]) rfl ?_
  refine zk_istore_n (lv' := [(2, _), (0, _), (1, _)]) C kd_Mo_statements_153 rfl (by decide) rfl rfl ?_
  refine zk_aload_n C kd_Mo_statements_154 rfl 1 rfl rfl ?_
  obtain ⟨h5, c4, e⟩ := zd_b e
  refine zs_callV (k := 68) (rn := { frames := 6, cells := 0, slots := 0, locals := 129 }) (As := []) (rest := []) C (zc_Mo_next h3 c4) ku_Mo_next kw2001 kv_Mo_next rfl (zd_rmO (by decide) (by decide)) ⟨Nat.le_refl _, Nat.le_refl _⟩ rfl rfl rfl (Nat.le_of_ble_eq_true rfl) kd_Mo_statements_155 rfl (c1 := 0) (s1 := 0) rfl rfl (fun v w hp => ?_)
  obtain ⟨rfl, rfl⟩ := hp
  refine zk_stk (r' := []) rfl ?_
  refine zk_lvs (lv' := [(0, .ref (S.1 68)), (1, .int x1)]) [1, 2] rfl ?_
  exact zb_Mo_statements_158 C hR hr_Mo_opened hk0 h5 x1 e
set_option maxHeartbeats 4000000 in
set_option maxRecDepth 100000 in
theorem zb_Mo_statements_119 {X : zkj_T} {S : zs_T} {P : ze_T} {l : Launch} {D : va_G} {sz0 : Nat} {d : Nat} {rh : zs_H} (C : zk_C X km_Mo_statements (zs_G S l D sz0) { frames := 805 + (d + 1), cells := 0, slots := 0, locals := 19321 + 25 * (d + 1) } (ze_E P)) (hR : zkj_R X (zd_PV S rh) (none)) {r_Mo_opened : zs_H → Int32 → (Option zs_H)} (hr_Mo_opened : ∀ (h : zs_H) (x0 : Int32) {rh : zs_H}, r_Mo_opened h x0 = some rh → zk_Sp (zs_G S l D sz0) (ze_E P) km_Mo_opened { frames := 805 + d, cells := 0, slots := 0, locals := 19321 + 25 * d } [.ref (S.1 68), .int x0] (zs_W S h) (zd_PV S rh)) {k0 : zs_H → Int32 → (Option zs_H)} (hk0 : ∀ (h : zs_H) (x1 : Int32), k0 h x1 = some rh → zk_Ab X (zs_W S h) 0 0 0 [(0, .ref (S.1 68)), (1, .int x1)] []) (h : zs_H) (x1 : Int32) (e : f_Mo_statements_119 r_Mo_opened k0 h x1 = some rh) : zk_Ab X (zs_W S h) 0 0 119 [(0, .ref (S.1 68)), (1, .int x1)] [] := by
  unfold f_Mo_statements_119 at e
  refine zk_aload_n C kd_Mo_statements_119 rfl 0 rfl rfl ?_
  refine zs_get (v := .int (h.1 68 6)) C 68 6 rfl rfl rfl rfl ki_Mo (by decide) kw1689 kd_Mo_statements_120 rfl ?_
  refine zk_iconst (v := 2) C kd_Mo_statements_123 (by decide) rfl ?_
  refine zk_icmp_ne (tgt := 158) C kd_Mo_statements_124 (by decide) rfl (fun b1 => ?_) (fun b1 => ?_)
  · replace e := zd_neg b1 e
    refine zk_lvs (lv' := [(0, .ref (S.1 68)), (1, .int x1)]) [0, 1] rfl ?_
    exact zb_Mo_statements_158 C hR hr_Mo_opened hk0 h x1 e
  · replace e := zd_pos b1 e
    refine zk_aload_n C kd_Mo_statements_127 rfl 0 rfl rfl ?_
    refine zk_iload_n C kd_Mo_statements_128 rfl 1 rfl rfl ?_
    refine zk_aload_n C kd_Mo_statements_129 rfl 0 rfl rfl ?_
    refine zs_get (v := .int (h.1 68 9)) C 68 9 rfl rfl rfl rfl ki_Mo (by decide) kw1692 kd_Mo_statements_130 rfl ?_
    refine zk_bipush (v := 28) C kd_Mo_statements_133 (by decide) rfl ?_
    refine zk_icmp_ne (tgt := 143) C kd_Mo_statements_135 (by decide) rfl (fun b2 => ?_) (fun b2 => ?_)
    · replace e := zd_neg b2 e
      refine zk_bipush (v := 21) C kd_Mo_statements_143 (by decide) rfl ?_
      refine zk_lvs (lv' := [(0, .ref (S.1 68)), (1, .int x1)]) [0, 1] rfl ?_
      exact zb_Mo_statements_145 C hR hr_Mo_opened hk0 h x1 21 x1 e
    · replace e := zd_pos b2 e
      refine zk_bipush (v := 20) C kd_Mo_statements_138 (by decide) rfl ?_
      refine zk_goto (tgt := 145) C kd_Mo_statements_140 (by decide) ?_
      refine zk_lvs (lv' := [(0, .ref (S.1 68)), (1, .int x1)]) [0, 1] rfl ?_
      exact zb_Mo_statements_145 C hR hr_Mo_opened hk0 h x1 20 x1 e
set_option maxHeartbeats 4000000 in
set_option maxRecDepth 100000 in
theorem zb_Mo_statements_69 {X : zkj_T} {S : zs_T} {P : ze_T} {l : Launch} {D : va_G} {sz0 : Nat} {d : Nat} {rh : zs_H} (C : zk_C X km_Mo_statements (zs_G S l D sz0) { frames := 805 + (d + 1), cells := 0, slots := 0, locals := 19321 + 25 * (d + 1) } (ze_E P)) (hR : zkj_R X (zd_PV S rh) (none)) {r_Mo_opened : zs_H → Int32 → (Option zs_H)} (hr_Mo_opened : ∀ (h : zs_H) (x0 : Int32) {rh : zs_H}, r_Mo_opened h x0 = some rh → zk_Sp (zs_G S l D sz0) (ze_E P) km_Mo_opened { frames := 805 + d, cells := 0, slots := 0, locals := 19321 + 25 * d } [.ref (S.1 68), .int x0] (zs_W S h) (zd_PV S rh)) {k0 : zs_H → Int32 → (Option zs_H)} (hk0 : ∀ (h : zs_H) (x1 : Int32), k0 h x1 = some rh → zk_Ab X (zs_W S h) 0 0 0 [(0, .ref (S.1 68)), (1, .int x1)] []) (h : zs_H) (x1 : Int32) (e : f_Mo_statements_69 r_Mo_opened k0 h x1 = some rh) : zk_Ab X (zs_W S h) 0 0 69 [(0, .ref (S.1 68)), (1, .int x1)] [] := by
  unfold f_Mo_statements_69 at e
  refine zk_aload_n C kd_Mo_statements_69 rfl 0 rfl rfl ?_
  refine zs_get (v := .int (h.1 68 6)) C 68 6 rfl rfl rfl rfl ki_Mo (by decide) kw1689 kd_Mo_statements_70 rfl ?_
  refine zk_iconst (v := 1) C kd_Mo_statements_73 (by decide) rfl ?_
  refine zk_icmp_ne (tgt := 85) C kd_Mo_statements_74 (by decide) rfl (fun b1 => ?_) (fun b1 => ?_)
  · replace e := zd_neg b1 e
    refine zk_aload_n C kd_Mo_statements_85 rfl 0 rfl rfl ?_
    refine zs_get (v := .int (h.1 68 6)) C 68 6 rfl rfl rfl rfl ki_Mo (by decide) kw1689 kd_Mo_statements_86 rfl ?_
    refine zk_iconst (v := 2) C kd_Mo_statements_89 (by decide) rfl ?_
    refine zk_icmp_ne (tgt := 119) C kd_Mo_statements_90 (by decide) rfl (fun b2 => ?_) (fun b2 => ?_)
    · replace e := zd_neg b2 e
      refine zk_lvs (lv' := [(0, .ref (S.1 68)), (1, .int x1)]) [0, 1] rfl ?_
      exact zb_Mo_statements_119 C hR hr_Mo_opened hk0 h x1 e
    · replace e := zd_pos b2 e
      refine zk_aload_n C kd_Mo_statements_93 rfl 0 rfl rfl ?_
      refine zs_get (v := .int (h.1 68 9)) C 68 9 rfl rfl rfl rfl ki_Mo (by decide) kw1692 kd_Mo_statements_94 rfl ?_
      refine zk_bipush (v := 28) C kd_Mo_statements_97 (by decide) rfl ?_
      refine zk_icmp_eq (tgt := 119) C kd_Mo_statements_99 (by decide) rfl (fun b3 => ?_) (fun b3 => ?_)
      · replace e := zd_pos b3 e
        refine zk_lvs (lv' := [(0, .ref (S.1 68)), (1, .int x1)]) [0, 1] rfl ?_
        exact zb_Mo_statements_119 C hR hr_Mo_opened hk0 h x1 e
      · replace e := zd_neg b3 e
        refine zk_aload_n C kd_Mo_statements_102 rfl 0 rfl rfl ?_
        refine zs_get (v := .int (h.1 68 9)) C 68 9 rfl rfl rfl rfl ki_Mo (by decide) kw1692 kd_Mo_statements_103 rfl ?_
        refine zk_bipush (v := 29) C kd_Mo_statements_106 (by decide) rfl ?_
        refine zk_icmp_eq (tgt := 119) C kd_Mo_statements_108 (by decide) rfl (fun b4 => ?_) (fun b4 => ?_)
        · replace e := zd_pos b4 e
          refine zk_lvs (lv' := [(0, .ref (S.1 68)), (1, .int x1)]) [0, 1] rfl ?_
          exact zb_Mo_statements_119 C hR hr_Mo_opened hk0 h x1 e
        · replace e := zd_neg b4 e
          refine zk_aload_n C kd_Mo_statements_111 rfl 0 rfl rfl ?_
          refine zk_iload_n C kd_Mo_statements_112 rfl 1 rfl rfl ?_
          obtain ⟨h6, c5, e⟩ := zd_b e
          refine zs_callV (k := 68) (rn := { frames := 805 + d, cells := 0, slots := 0, locals := 19321 + 25 * d }) (As := [.int x1]) (rest := []) C (hr_Mo_opened h x1 c5) ku_Mo_opened kw2220 kv_Mo_opened rfl (zd_rmI (by decide)) ⟨Nat.le_refl _, Nat.le_refl _⟩ rfl rfl rfl (Nat.le_of_ble_eq_true rfl) kd_Mo_statements_113 rfl (c1 := 0) (s1 := 0) rfl rfl (fun v w hp => ?_)
          obtain ⟨rfl, rfl⟩ := hp
          refine zk_stk (r' := []) rfl ?_
          refine zk_goto (tgt := 158) C kd_Mo_statements_116 (by decide) ?_
          refine zk_lvs (lv' := [(0, .ref (S.1 68)), (1, .int x1)]) [0, 1] rfl ?_
          exact zb_Mo_statements_158 C hR hr_Mo_opened hk0 h6 x1 e
  · replace e := zd_pos b1 e
    refine zk_aload_n C kd_Mo_statements_77 rfl 0 rfl rfl ?_
    refine zk_iload_n C kd_Mo_statements_78 rfl 1 rfl rfl ?_
    obtain ⟨h8, c7, e⟩ := zd_b e
    refine zs_callV (k := 68) (rn := { frames := 804, cells := 0, slots := 0, locals := 19296 }) (As := [.int x1]) (rest := []) C (zc_Mo_named h x1 c7) ku_Mo_named kw2165 kv_Mo_named rfl (zd_rmO (by decide) (by decide)) ⟨Nat.le_refl _, Nat.le_refl _⟩ rfl rfl rfl (Nat.le_of_ble_eq_true rfl) kd_Mo_statements_79 rfl (c1 := 0) (s1 := 0) rfl rfl (fun v w hp => ?_)
    obtain ⟨rfl, rfl⟩ := hp
    refine zk_stk (r' := []) rfl ?_
    refine zk_goto (tgt := 158) C kd_Mo_statements_82 (by decide) ?_
    refine zk_lvs (lv' := [(0, .ref (S.1 68)), (1, .int x1)]) [0, 1] rfl ?_
    exact zb_Mo_statements_158 C hR hr_Mo_opened hk0 h8 x1 e
set_option maxHeartbeats 4000000 in
set_option maxRecDepth 100000 in
theorem zb_Mo_statements_0 {X : zkj_T} {S : zs_T} {P : ze_T} {l : Launch} {D : va_G} {sz0 : Nat} {d : Nat} {rh : zs_H} (C : zk_C X km_Mo_statements (zs_G S l D sz0) { frames := 805 + (d + 1), cells := 0, slots := 0, locals := 19321 + 25 * (d + 1) } (ze_E P)) (hR : zkj_R X (zd_PV S rh) (none)) {r_Mo_opened : zs_H → Int32 → (Option zs_H)} (hr_Mo_opened : ∀ (h : zs_H) (x0 : Int32) {rh : zs_H}, r_Mo_opened h x0 = some rh → zk_Sp (zs_G S l D sz0) (ze_E P) km_Mo_opened { frames := 805 + d, cells := 0, slots := 0, locals := 19321 + 25 * d } [.ref (S.1 68), .int x0] (zs_W S h) (zd_PV S rh)) {k0 : zs_H → Int32 → (Option zs_H)} (hk0 : ∀ (h : zs_H) (x1 : Int32), k0 h x1 = some rh → zk_Ab X (zs_W S h) 0 0 0 [(0, .ref (S.1 68)), (1, .int x1)] []) (h : zs_H) (x1 : Int32) (e : f_Mo_statements_0 r_Mo_opened k0 h x1 = some rh) : zk_Ab X (zs_W S h) 0 0 0 [(0, .ref (S.1 68)), (1, .int x1)] [] := by
  unfold f_Mo_statements_0 at e
  refine zk_aload_n C kd_Mo_statements_0 rfl 0 rfl rfl ?_
  refine zs_get (v := .int (h.1 68 10)) C 68 10 rfl rfl rfl rfl ki_Mo (by decide) kw1693 kd_Mo_statements_1 rfl ?_
  refine zk_if_ne (tgt := 167) C kd_Mo_statements_4 (by decide) rfl (fun b1 => ?_) (fun b1 => ?_)
  · replace e := zd_neg b1 e
    exact zk_vret C hR kd_Mo_statements_167 rfl rfl (zd_rV e)
  · replace e := zd_pos b1 e
    refine zk_aload_n C kd_Mo_statements_7 rfl 0 rfl rfl ?_
    refine zs_get (v := .int (h.1 68 6)) C 68 6 rfl rfl rfl rfl ki_Mo (by decide) kw1689 kd_Mo_statements_8 rfl ?_
    refine zk_iconst (v := 1) C kd_Mo_statements_11 (by decide) rfl ?_
    refine zk_icmp_eq (tgt := 69) C kd_Mo_statements_12 (by decide) rfl (fun b2 => ?_) (fun b2 => ?_)
    · replace e := zd_pos b2 e
      refine zk_lvs (lv' := [(0, .ref (S.1 68)), (1, .int x1)]) [0, 1] rfl ?_
      exact zb_Mo_statements_69 C hR hr_Mo_opened hk0 h x1 e
    · replace e := zd_neg b2 e
      refine zk_aload_n C kd_Mo_statements_15 rfl 0 rfl rfl ?_
      refine zk_bipush (v := 59) C kd_Mo_statements_16 (by decide) rfl ?_
      refine zs_callV (k := 68) (rn := { frames := 0, cells := 0, slots := 0, locals := 0 }) (As := [.int 59]) (rest := []) C (zc_Mo_isSign h 59) ku_Mo_isSign kw2117 kv_Mo_isSign rfl (zd_rmO (by decide) (by decide)) ⟨Nat.le_refl _, Nat.le_refl _⟩ rfl rfl rfl (Nat.le_of_ble_eq_true rfl) kd_Mo_statements_18 rfl (c1 := 0) (s1 := 0) rfl rfl (fun v w hp => ?_)
      obtain ⟨rfl, rfl, z3⟩ := hp
      refine zk_stk (r' := [.int (f_Mo_isSign h 59)]) rfl ?_
      refine zk_if_ne (tgt := 69) C kd_Mo_statements_21 (by decide) rfl (fun b4 => ?_) (fun b4 => ?_)
      · replace e := zd_neg b4 e
        refine zk_lvs (lv' := [(0, .ref (S.1 68)), (1, .int x1)]) [0, 1] rfl ?_
        exact zb_Mo_statements_69 C hR hr_Mo_opened hk0 h x1 e
      · replace e := zd_pos b4 e
        refine zk_aload_n C kd_Mo_statements_24 rfl 0 rfl rfl ?_
        refine zk_bipush (v := 16) C kd_Mo_statements_25 (by decide) rfl ?_
        refine zs_callV (k := 68) (rn := { frames := 0, cells := 0, slots := 0, locals := 0 }) (As := [.int 16]) (rest := []) C (zc_Mo_isWord h 16) ku_Mo_isWord kw2125 kv_Mo_isWord rfl (zd_rmO (by decide) (by decide)) ⟨Nat.le_refl _, Nat.le_refl _⟩ rfl rfl rfl (Nat.le_of_ble_eq_true rfl) kd_Mo_statements_27 rfl (c1 := 0) (s1 := 0) rfl rfl (fun v w hp => ?_)
        obtain ⟨rfl, rfl, z5⟩ := hp
        refine zk_stk (r' := [.int (f_Mo_isWord h 16)]) rfl ?_
        refine zk_if_ne (tgt := 69) C kd_Mo_statements_30 (by decide) rfl (fun b6 => ?_) (fun b6 => ?_)
        · replace e := zd_neg b6 e
          refine zk_lvs (lv' := [(0, .ref (S.1 68)), (1, .int x1)]) [0, 1] rfl ?_
          exact zb_Mo_statements_69 C hR hr_Mo_opened hk0 h x1 e
        · replace e := zd_pos b6 e
          refine zk_aload_n C kd_Mo_statements_33 rfl 0 rfl rfl ?_
          refine zk_bipush (v := 21) C kd_Mo_statements_34 (by decide) rfl ?_
          refine zs_callV (k := 68) (rn := { frames := 0, cells := 0, slots := 0, locals := 0 }) (As := [.int 21]) (rest := []) C (zc_Mo_isWord h 21) ku_Mo_isWord kw2125 kv_Mo_isWord rfl (zd_rmO (by decide) (by decide)) ⟨Nat.le_refl _, Nat.le_refl _⟩ rfl rfl rfl (Nat.le_of_ble_eq_true rfl) kd_Mo_statements_36 rfl (c1 := 0) (s1 := 0) rfl rfl (fun v w hp => ?_)
          obtain ⟨rfl, rfl, z7⟩ := hp
          refine zk_stk (r' := [.int (f_Mo_isWord h 21)]) rfl ?_
          refine zk_if_ne (tgt := 69) C kd_Mo_statements_39 (by decide) rfl (fun b8 => ?_) (fun b8 => ?_)
          · replace e := zd_neg b8 e
            refine zk_lvs (lv' := [(0, .ref (S.1 68)), (1, .int x1)]) [0, 1] rfl ?_
            exact zb_Mo_statements_69 C hR hr_Mo_opened hk0 h x1 e
          · replace e := zd_pos b8 e
            refine zk_aload_n C kd_Mo_statements_42 rfl 0 rfl rfl ?_
            refine zk_bipush (v := 23) C kd_Mo_statements_43 (by decide) rfl ?_
            refine zs_callV (k := 68) (rn := { frames := 0, cells := 0, slots := 0, locals := 0 }) (As := [.int 23]) (rest := []) C (zc_Mo_isWord h 23) ku_Mo_isWord kw2125 kv_Mo_isWord rfl (zd_rmO (by decide) (by decide)) ⟨Nat.le_refl _, Nat.le_refl _⟩ rfl rfl rfl (Nat.le_of_ble_eq_true rfl) kd_Mo_statements_45 rfl (c1 := 0) (s1 := 0) rfl rfl (fun v w hp => ?_)
            obtain ⟨rfl, rfl, z9⟩ := hp
            refine zk_stk (r' := [.int (f_Mo_isWord h 23)]) rfl ?_
            refine zk_if_ne (tgt := 69) C kd_Mo_statements_48 (by decide) rfl (fun b10 => ?_) (fun b10 => ?_)
            · replace e := zd_neg b10 e
              refine zk_lvs (lv' := [(0, .ref (S.1 68)), (1, .int x1)]) [0, 1] rfl ?_
              exact zb_Mo_statements_69 C hR hr_Mo_opened hk0 h x1 e
            · replace e := zd_pos b10 e
              refine zk_aload_n C kd_Mo_statements_51 rfl 0 rfl rfl ?_
              refine zk_bipush (v := 28) C kd_Mo_statements_52 (by decide) rfl ?_
              refine zs_callV (k := 68) (rn := { frames := 0, cells := 0, slots := 0, locals := 0 }) (As := [.int 28]) (rest := []) C (zc_Mo_isWord h 28) ku_Mo_isWord kw2125 kv_Mo_isWord rfl (zd_rmO (by decide) (by decide)) ⟨Nat.le_refl _, Nat.le_refl _⟩ rfl rfl rfl (Nat.le_of_ble_eq_true rfl) kd_Mo_statements_54 rfl (c1 := 0) (s1 := 0) rfl rfl (fun v w hp => ?_)
              obtain ⟨rfl, rfl, z11⟩ := hp
              refine zk_stk (r' := [.int (f_Mo_isWord h 28)]) rfl ?_
              refine zk_if_ne (tgt := 69) C kd_Mo_statements_57 (by decide) rfl (fun b12 => ?_) (fun b12 => ?_)
              · replace e := zd_neg b12 e
                refine zk_lvs (lv' := [(0, .ref (S.1 68)), (1, .int x1)]) [0, 1] rfl ?_
                exact zb_Mo_statements_69 C hR hr_Mo_opened hk0 h x1 e
              · replace e := zd_pos b12 e
                refine zk_aload_n C kd_Mo_statements_60 rfl 0 rfl rfl ?_
                refine zk_bipush (v := 29) C kd_Mo_statements_61 (by decide) rfl ?_
                refine zs_callV (k := 68) (rn := { frames := 0, cells := 0, slots := 0, locals := 0 }) (As := [.int 29]) (rest := []) C (zc_Mo_isWord h 29) ku_Mo_isWord kw2125 kv_Mo_isWord rfl (zd_rmO (by decide) (by decide)) ⟨Nat.le_refl _, Nat.le_refl _⟩ rfl rfl rfl (Nat.le_of_ble_eq_true rfl) kd_Mo_statements_63 rfl (c1 := 0) (s1 := 0) rfl rfl (fun v w hp => ?_)
                obtain ⟨rfl, rfl, z13⟩ := hp
                refine zk_stk (r' := [.int (f_Mo_isWord h 29)]) rfl ?_
                refine zk_if_eq (tgt := 167) C kd_Mo_statements_66 (by decide) rfl (fun b14 => ?_) (fun b14 => ?_)
                · replace e := zd_pos b14 e
                  exact zk_vret C hR kd_Mo_statements_167 rfl rfl (zd_rV e)
                · replace e := zd_neg b14 e
                  refine zk_lvs (lv' := [(0, .ref (S.1 68)), (1, .int x1)]) [0, 1] rfl ?_
                  exact zb_Mo_statements_69 C hR hr_Mo_opened hk0 h x1 e
theorem zl_Mo_statements_0 {X : zkj_T} {S : zs_T} {P : ze_T} {l : Launch} {D : va_G} {sz0 : Nat} {d : Nat} {rh : zs_H} (C : zk_C X km_Mo_statements (zs_G S l D sz0) { frames := 805 + (d + 1), cells := 0, slots := 0, locals := 19321 + 25 * (d + 1) } (ze_E P)) (hR : zkj_R X (zd_PV S rh) (none)) {r_Mo_opened : zs_H → Int32 → (Option zs_H)} (hr_Mo_opened : ∀ (h : zs_H) (x0 : Int32) {rh : zs_H}, r_Mo_opened h x0 = some rh → zk_Sp (zs_G S l D sz0) (ze_E P) km_Mo_opened { frames := 805 + d, cells := 0, slots := 0, locals := 19321 + 25 * d } [.ref (S.1 68), .int x0] (zs_W S h) (zd_PV S rh)) (n : Nat) : ∀ (h : zs_H) (x1 : Int32), f_Mo_statements_L0 r_Mo_opened n h x1 = some rh → zk_Ab X (zs_W S h) 0 0 0 [(0, .ref (S.1 68)), (1, .int x1)] [] := by
  induction n with
  | zero => intro h x1 e; exact zd_no e
  | succ n ih => intro h x1 e; exact zb_Mo_statements_0 (k0 := f_Mo_statements_L0 r_Mo_opened n) C hR hr_Mo_opened ih h x1 e
set_option maxHeartbeats 4000000 in
set_option maxRecDepth 100000 in
theorem zg_Mo_statements {l : Launch} {D : va_G} {sz0 : Nat} {S : zs_T} {P : ze_T} {d : Nat} {r_Mo_opened : zs_H → Int32 → (Option zs_H)} (hr_Mo_opened : ∀ (h : zs_H) (x0 : Int32) {rh : zs_H}, r_Mo_opened h x0 = some rh → zk_Sp (zs_G S l D sz0) (ze_E P) km_Mo_opened { frames := 805 + d, cells := 0, slots := 0, locals := 19321 + 25 * d } [.ref (S.1 68), .int x0] (zs_W S h) (zd_PV S rh)) (h : zs_H) (x1 : Int32) {rh : zs_H} (e : g_Mo_statements r_Mo_opened h x1 = some rh) : zk_Sp (zs_G S l D sz0) (ze_E P) km_Mo_statements { frames := 805 + (d + 1), cells := 0, slots := 0, locals := 19321 + 25 * (d + 1) } [.ref (S.1 68), .int x1] (zs_W S h) (zd_PV S rh) := by
  refine zk_met ku_Mo_statements (Nat.le_of_ble_eq_true rfl) (ze_Em P) ?_
  intro X C hR
  refine zk_lvs (lv' := [(0, .ref (S.1 68)), (1, .int x1)]) [0, 1] rfl ?_
  unfold g_Mo_statements at e
  refine zk_lvs (lv' := [(0, .ref (S.1 68)), (1, .int x1)]) [0, 1] rfl ?_
  exact zl_Mo_statements_0 C hR hr_Mo_opened zF h x1 e
theorem zs_Mo_body {l : Launch} {D : va_G} {sz0 : Nat} {S : zs_T} {P : ze_T} (d : Nat) : (∀ (h : zs_H) (x0 : Int32) (x1 : Int32) {rh : zs_H}, f_Mo_body d h x0 x1 = some rh → zk_Sp (zs_G S l D sz0) (ze_E P) km_Mo_body { frames := 805 + d, cells := 0, slots := 0, locals := 19321 + 25 * d } [.ref (S.1 68), .int x0, .int x1] (zs_W S h) (zd_PV S rh)) ∧ (∀ (h : zs_H) (x0 : Int32) {rh : zs_H}, f_Mo_cases d h x0 = some rh → zk_Sp (zs_G S l D sz0) (ze_E P) km_Mo_cases { frames := 805 + d, cells := 0, slots := 0, locals := 19321 + 25 * d } [.ref (S.1 68), .int x0] (zs_W S h) (zd_PV S rh)) ∧ (∀ (h : zs_H) (x0 : Int32) {rh : zs_H}, f_Mo_choose d h x0 = some rh → zk_Sp (zs_G S l D sz0) (ze_E P) km_Mo_choose { frames := 805 + d, cells := 0, slots := 0, locals := 19321 + 25 * d } [.ref (S.1 68), .int x0] (zs_W S h) (zd_PV S rh)) ∧ (∀ (h : zs_H) (x0 : Int32) {rh : zs_H}, f_Mo_loop d h x0 = some rh → zk_Sp (zs_G S l D sz0) (ze_E P) km_Mo_loop { frames := 805 + d, cells := 0, slots := 0, locals := 19321 + 25 * d } [.ref (S.1 68), .int x0] (zs_W S h) (zd_PV S rh)) ∧ (∀ (h : zs_H) (x0 : Int32) {rh : zs_H}, f_Mo_opened d h x0 = some rh → zk_Sp (zs_G S l D sz0) (ze_E P) km_Mo_opened { frames := 805 + d, cells := 0, slots := 0, locals := 19321 + 25 * d } [.ref (S.1 68), .int x0] (zs_W S h) (zd_PV S rh)) ∧ (∀ (h : zs_H) (x0 : Int32) {rh : zs_H}, f_Mo_statements d h x0 = some rh → zk_Sp (zs_G S l D sz0) (ze_E P) km_Mo_statements { frames := 805 + d, cells := 0, slots := 0, locals := 19321 + 25 * d } [.ref (S.1 68), .int x0] (zs_W S h) (zd_PV S rh)) := by
  induction d with
  | zero => exact ⟨(fun h x0 x1 _ e => zd_no e), (fun h x0 _ e => zd_no e), (fun h x0 _ e => zd_no e), (fun h x0 _ e => zd_no e), (fun h x0 _ e => zd_no e), (fun h x0 _ e => zd_no e)⟩
  | succ d ih =>
    obtain ⟨q0, q1, q2, q3, q4, q5⟩ := ih
    exact ⟨(fun h x0 x1 _ e => zg_Mo_body (r_Mo_statements := f_Mo_statements d) q5 h x0 x1 e), (fun h x0 _ e => zg_Mo_cases (r_Mo_body := f_Mo_body d) q0 h x0 e), (fun h x0 _ e => zg_Mo_choose (r_Mo_body := f_Mo_body d) q0 h x0 e), (fun h x0 _ e => zg_Mo_loop (r_Mo_body := f_Mo_body d) q0 h x0 e), (fun h x0 _ e => zg_Mo_opened (r_Mo_cases := f_Mo_cases d) q1 (r_Mo_choose := f_Mo_choose d) q2 (r_Mo_loop := f_Mo_loop d) q3 h x0 e), (fun h x0 _ e => zg_Mo_statements (r_Mo_opened := f_Mo_opened d) q4 h x0 e)⟩
theorem zc_Mo_body {l : Launch} {D : va_G} {sz0 : Nat} {S : zs_T} {P : ze_T} (h : zs_H) (x0 : Int32) (x1 : Int32) {rh : zs_H} (e : f_Mo_body 400 h x0 x1 = some rh) : zk_Sp (zs_G S l D sz0) (ze_E P) km_Mo_body { frames := 805 + 400, cells := 0, slots := 0, locals := 19321 + 25 * 400 } [.ref (S.1 68), .int x0, .int x1] (zs_W S h) (zd_PV S rh) := (zs_Mo_body 400).1 h x0 x1 e
theorem zc_Mo_cases {l : Launch} {D : va_G} {sz0 : Nat} {S : zs_T} {P : ze_T} (h : zs_H) (x0 : Int32) {rh : zs_H} (e : f_Mo_cases 400 h x0 = some rh) : zk_Sp (zs_G S l D sz0) (ze_E P) km_Mo_cases { frames := 805 + 400, cells := 0, slots := 0, locals := 19321 + 25 * 400 } [.ref (S.1 68), .int x0] (zs_W S h) (zd_PV S rh) := (zs_Mo_body 400).2.1 h x0 e
theorem zc_Mo_choose {l : Launch} {D : va_G} {sz0 : Nat} {S : zs_T} {P : ze_T} (h : zs_H) (x0 : Int32) {rh : zs_H} (e : f_Mo_choose 400 h x0 = some rh) : zk_Sp (zs_G S l D sz0) (ze_E P) km_Mo_choose { frames := 805 + 400, cells := 0, slots := 0, locals := 19321 + 25 * 400 } [.ref (S.1 68), .int x0] (zs_W S h) (zd_PV S rh) := (zs_Mo_body 400).2.2.1 h x0 e
theorem zc_Mo_loop {l : Launch} {D : va_G} {sz0 : Nat} {S : zs_T} {P : ze_T} (h : zs_H) (x0 : Int32) {rh : zs_H} (e : f_Mo_loop 400 h x0 = some rh) : zk_Sp (zs_G S l D sz0) (ze_E P) km_Mo_loop { frames := 805 + 400, cells := 0, slots := 0, locals := 19321 + 25 * 400 } [.ref (S.1 68), .int x0] (zs_W S h) (zd_PV S rh) := (zs_Mo_body 400).2.2.2.1 h x0 e
theorem zc_Mo_opened {l : Launch} {D : va_G} {sz0 : Nat} {S : zs_T} {P : ze_T} (h : zs_H) (x0 : Int32) {rh : zs_H} (e : f_Mo_opened 400 h x0 = some rh) : zk_Sp (zs_G S l D sz0) (ze_E P) km_Mo_opened { frames := 805 + 400, cells := 0, slots := 0, locals := 19321 + 25 * 400 } [.ref (S.1 68), .int x0] (zs_W S h) (zd_PV S rh) := (zs_Mo_body 400).2.2.2.2.1 h x0 e
theorem zc_Mo_statements {l : Launch} {D : va_G} {sz0 : Nat} {S : zs_T} {P : ze_T} (h : zs_H) (x0 : Int32) {rh : zs_H} (e : f_Mo_statements 400 h x0 = some rh) : zk_Sp (zs_G S l D sz0) (ze_E P) km_Mo_statements { frames := 805 + 400, cells := 0, slots := 0, locals := 19321 + 25 * 400 } [.ref (S.1 68), .int x0] (zs_W S h) (zd_PV S rh) := (zs_Mo_body 400).2.2.2.2.2 h x0 e
set_option maxHeartbeats 4000000 in
set_option maxRecDepth 100000 in
theorem zc_Mo_readType {l : Launch} {D : va_G} {sz0 : Nat} {S : zs_T} {P : ze_T} (h : zs_H) (x1 : Int32) {rh : zs_H} (e : f_Mo_readType h x1 = some rh) : zk_Sp (zs_G S l D sz0) (ze_E P) km_Mo_readType { frames := 9, cells := 0, slots := 0, locals := 196 } [.ref (S.1 68), .int x1] (zs_W S h) (zd_PV S rh) := by
  refine zk_met ku_Mo_readType (Nat.le_of_ble_eq_true rfl) (ze_Em P) ?_
  intro X C hR
  refine zk_lvs (lv' := [(0, .ref (S.1 68)), (1, .int x1)]) [0, 1] rfl ?_
  unfold f_Mo_readType at e
  refine zk_aload_n C kd_Mo_readType_0 rfl 0 rfl rfl ?_
  refine zk_bipush (v := 14) C kd_Mo_readType_1 (by decide) rfl ?_
  refine zs_callV (k := 68) (rn := { frames := 0, cells := 0, slots := 0, locals := 0 }) (As := [.int 14]) (rest := []) C (zc_Mo_isWord h 14) ku_Mo_isWord kw2125 kv_Mo_isWord rfl ⟨by decide, by decide⟩ ⟨by decide, by decide⟩ rfl rfl rfl (Nat.le_of_ble_eq_true rfl) kd_Mo_readType_3 rfl (c1 := 0) (s1 := 0) rfl rfl (fun v w hp => ?_)
  obtain ⟨rfl, rfl, z1⟩ := hp
  refine zk_stk (r' := [.int (f_Mo_isWord h 14)]) rfl ?_
  refine zk_if_eq (tgt := 69) C kd_Mo_readType_6 (by decide) rfl (fun b2 => ?_) (fun b2 => ?_)
  · replace e := zd_pos b2 e
    refine zk_aload_n C kd_Mo_readType_69 rfl 0 rfl rfl ?_
    refine zs_get (v := .int (h.1 68 6)) C 68 6 rfl rfl rfl rfl ki_Mo (by decide) kw1689 kd_Mo_readType_70 rfl ?_
    refine zk_iconst (v := 1) C kd_Mo_readType_73 (by decide) rfl ?_
    refine zk_icmp_ne (tgt := 100) C kd_Mo_readType_74 (by decide) rfl (fun b3 => ?_) (fun b3 => ?_)
    · replace e := zd_neg b3 e
      refine zk_aload_n C kd_Mo_readType_100 rfl 0 rfl rfl ?_
      refine zk_iload_n C kd_Mo_readType_101 rfl 1 rfl rfl ?_
      obtain ⟨h5, c4, e⟩ := zd_b e
      refine zs_callV (k := 68) (rn := { frames := 8, cells := 0, slots := 0, locals := 171 }) (As := [.int x1]) (rest := []) C (zc_Mo_simple h x1 c4) ku_Mo_simple kw2121 kv_Mo_simple rfl ⟨by decide, by decide⟩ ⟨by decide, by decide⟩ rfl rfl rfl (Nat.le_of_ble_eq_true rfl) kd_Mo_readType_102 rfl (c1 := 0) (s1 := 0) rfl rfl (fun v w hp => ?_)
      obtain ⟨rfl, rfl⟩ := hp
      refine zk_stk (r' := []) rfl ?_
      exact zk_vret C hR kd_Mo_readType_105 rfl rfl (zd_rV e)
    · replace e := zd_pos b3 e
      refine zk_aload_n C kd_Mo_readType_77 rfl 0 rfl rfl ?_
      refine zk_iload_n C kd_Mo_readType_78 rfl 1 rfl rfl ?_
      refine zk_bipush (v := 10) C kd_Mo_readType_79 (by decide) rfl ?_
      refine zk_aload_n C kd_Mo_readType_81 rfl 0 rfl rfl ?_
      refine zs_get (v := .int (h.1 68 7)) C 68 7 rfl rfl rfl rfl ki_Mo (by decide) kw1690 kd_Mo_readType_82 rfl ?_
      refine zk_aload_n C kd_Mo_readType_85 rfl 0 rfl rfl ?_
      refine zs_get (v := .int (h.1 68 9)) C 68 9 rfl rfl rfl rfl ki_Mo (by decide) kw1692 kd_Mo_readType_86 rfl ?_
      obtain ⟨v7, h8, c6, e⟩ := zd_Be e
      refine zs_callV (k := 68) (rn := { frames := 1, cells := 0, slots := 0, locals := 24 }) (As := [.int x1, .int 10, .int (h.1 68 7), .int (h.1 68 9)]) (rest := []) C (zc_Mo_add h x1 10 (h.1 68 7) (h.1 68 9) c6) ku_Mo_add kw2097 kv_Mo_add rfl ⟨by decide, by decide⟩ ⟨by decide, by decide⟩ rfl rfl rfl (Nat.le_of_ble_eq_true rfl) kd_Mo_readType_89 rfl (c1 := 0) (s1 := 0) rfl rfl (fun v w hp => ?_)
      obtain ⟨rfl, rfl⟩ := hp
      refine zk_stk (r' := [.int v7]) rfl ?_
      refine zk_istore_n (lv' := [(2, _), (0, _), (1, _)]) C kd_Mo_readType_92 rfl (by decide) rfl rfl ?_
      refine zk_aload_n C kd_Mo_readType_93 rfl 1 rfl rfl ?_
      obtain ⟨h10, c9, e⟩ := zd_b e
      refine zs_callV (k := 68) (rn := { frames := 6, cells := 0, slots := 0, locals := 129 }) (As := []) (rest := []) C (zc_Mo_next h8 c9) ku_Mo_next kw2001 kv_Mo_next rfl ⟨by decide, by decide⟩ ⟨by decide, by decide⟩ rfl rfl rfl (Nat.le_of_ble_eq_true rfl) kd_Mo_readType_94 rfl (c1 := 0) (s1 := 0) rfl rfl (fun v w hp => ?_)
      obtain ⟨rfl, rfl⟩ := hp
      refine zk_stk (r' := []) rfl ?_
      refine zk_goto (tgt := 105) C kd_Mo_readType_97 (by decide) ?_
      exact zk_vret C hR kd_Mo_readType_105 rfl rfl (zd_rV e)
  · replace e := zd_neg b2 e
    refine zk_aload_n C kd_Mo_readType_9 rfl 0 rfl rfl ?_
    refine zk_iload_n C kd_Mo_readType_10 rfl 1 rfl rfl ?_
    refine zk_bipush (v := 9) C kd_Mo_readType_11 (by decide) rfl ?_
    refine zk_aload_n C kd_Mo_readType_13 rfl 0 rfl rfl ?_
    refine zs_get (v := .int (h.1 68 7)) C 68 7 rfl rfl rfl rfl ki_Mo (by decide) kw1690 kd_Mo_readType_14 rfl ?_
    refine zk_iconst (v := 0) C kd_Mo_readType_17 (by decide) rfl ?_
    obtain ⟨v12, h13, c11, e⟩ := zd_Be e
    refine zs_callV (k := 68) (rn := { frames := 1, cells := 0, slots := 0, locals := 24 }) (As := [.int x1, .int 9, .int (h.1 68 7), .int 0]) (rest := []) C (zc_Mo_add h x1 9 (h.1 68 7) 0 c11) ku_Mo_add kw2097 kv_Mo_add rfl ⟨by decide, by decide⟩ ⟨by decide, by decide⟩ rfl rfl rfl (Nat.le_of_ble_eq_true rfl) kd_Mo_readType_18 rfl (c1 := 0) (s1 := 0) rfl rfl (fun v w hp => ?_)
    obtain ⟨rfl, rfl⟩ := hp
    refine zk_stk (r' := [.int v12]) rfl ?_
    refine zk_istore_n (lv' := [(2, _), (0, _), (1, _)]) C kd_Mo_readType_21 rfl (by decide) rfl rfl ?_
    refine zk_aload_n C kd_Mo_readType_22 rfl 1 rfl rfl ?_
    obtain ⟨h15, c14, e⟩ := zd_b e
    refine zs_callV (k := 68) (rn := { frames := 6, cells := 0, slots := 0, locals := 129 }) (As := []) (rest := []) C (zc_Mo_next h13 c14) ku_Mo_next kw2001 kv_Mo_next rfl ⟨by decide, by decide⟩ ⟨by decide, by decide⟩ rfl rfl rfl (Nat.le_of_ble_eq_true rfl) kd_Mo_readType_23 rfl (c1 := 0) (s1 := 0) rfl rfl (fun v w hp => ?_)
    obtain ⟨rfl, rfl⟩ := hp
    refine zk_stk (r' := []) rfl ?_
    refine zk_aload_n C kd_Mo_readType_26 rfl 1 rfl rfl ?_
    refine zk_bipush (v := 91) C kd_Mo_readType_27 (by decide) rfl ?_
    obtain ⟨h17, c16, e⟩ := zd_b e
    refine zs_callV (k := 68) (rn := { frames := 8, cells := 0, slots := 0, locals := 171 }) (As := [.int 91]) (rest := []) C (zc_Mo_wantSign h15 91 c16) ku_Mo_wantSign kw2113 kv_Mo_wantSign rfl ⟨by decide, by decide⟩ ⟨by decide, by decide⟩ rfl rfl rfl (Nat.le_of_ble_eq_true rfl) kd_Mo_readType_29 rfl (c1 := 0) (s1 := 0) rfl rfl (fun v w hp => ?_)
    obtain ⟨rfl, rfl⟩ := hp
    refine zk_stk (r' := []) rfl ?_
    refine zk_aload_n C kd_Mo_readType_32 rfl 1 rfl rfl ?_
    refine zk_iload_n C kd_Mo_readType_33 rfl 0 rfl rfl ?_
    obtain ⟨h19, c18, e⟩ := zd_b e
    refine zs_callV (k := 68) (rn := { frames := 8, cells := 0, slots := 0, locals := 171 }) (As := [.int v12]) (rest := []) C (zc_Mo_constant h17 v12 c18) ku_Mo_constant kw2137 kv_Mo_constant rfl ⟨by decide, by decide⟩ ⟨by decide, by decide⟩ rfl rfl rfl (Nat.le_of_ble_eq_true rfl) kd_Mo_readType_34 rfl (c1 := 0) (s1 := 0) rfl rfl (fun v w hp => ?_)
    obtain ⟨rfl, rfl⟩ := hp
    refine zk_stk (r' := []) rfl ?_
    refine zk_aload_n C kd_Mo_readType_37 rfl 1 rfl rfl ?_
    refine zk_sipush (v := 257) C kd_Mo_readType_38 (by decide) rfl ?_
    obtain ⟨h21, c20, e⟩ := zd_b e
    refine zs_callV (k := 68) (rn := { frames := 8, cells := 0, slots := 0, locals := 171 }) (As := [.int 257]) (rest := []) C (zc_Mo_wantSign h19 257 c20) ku_Mo_wantSign kw2113 kv_Mo_wantSign rfl ⟨by decide, by decide⟩ ⟨by decide, by decide⟩ rfl rfl rfl (Nat.le_of_ble_eq_true rfl) kd_Mo_readType_41 rfl (c1 := 0) (s1 := 0) rfl rfl (fun v w hp => ?_)
    obtain ⟨rfl, rfl⟩ := hp
    refine zk_stk (r' := []) rfl ?_
    refine zk_aload_n C kd_Mo_readType_44 rfl 1 rfl rfl ?_
    refine zk_iload_n C kd_Mo_readType_45 rfl 0 rfl rfl ?_
    obtain ⟨h23, c22, e⟩ := zd_b e
    refine zs_callV (k := 68) (rn := { frames := 8, cells := 0, slots := 0, locals := 171 }) (As := [.int v12]) (rest := []) C (zc_Mo_constant h21 v12 c22) ku_Mo_constant kw2137 kv_Mo_constant rfl ⟨by decide, by decide⟩ ⟨by decide, by decide⟩ rfl rfl rfl (Nat.le_of_ble_eq_true rfl) kd_Mo_readType_46 rfl (c1 := 0) (s1 := 0) rfl rfl (fun v w hp => ?_)
    obtain ⟨rfl, rfl⟩ := hp
    refine zk_stk (r' := []) rfl ?_
    refine zk_aload_n C kd_Mo_readType_49 rfl 1 rfl rfl ?_
    refine zk_bipush (v := 93) C kd_Mo_readType_50 (by decide) rfl ?_
    obtain ⟨h25, c24, e⟩ := zd_b e
    refine zs_callV (k := 68) (rn := { frames := 8, cells := 0, slots := 0, locals := 171 }) (As := [.int 93]) (rest := []) C (zc_Mo_wantSign h23 93 c24) ku_Mo_wantSign kw2113 kv_Mo_wantSign rfl ⟨by decide, by decide⟩ ⟨by decide, by decide⟩ rfl rfl rfl (Nat.le_of_ble_eq_true rfl) kd_Mo_readType_52 rfl (c1 := 0) (s1 := 0) rfl rfl (fun v w hp => ?_)
    obtain ⟨rfl, rfl⟩ := hp
    refine zk_stk (r' := []) rfl ?_
    refine zk_aload_n C kd_Mo_readType_55 rfl 1 rfl rfl ?_
    refine zk_bipush (v := 15) C kd_Mo_readType_56 (by decide) rfl ?_
    obtain ⟨h27, c26, e⟩ := zd_b e
    refine zs_callV (k := 68) (rn := { frames := 8, cells := 0, slots := 0, locals := 171 }) (As := [.int 15]) (rest := []) C (zc_Mo_wantWord h25 15 c26) ku_Mo_wantWord kw2141 kv_Mo_wantWord rfl ⟨by decide, by decide⟩ ⟨by decide, by decide⟩ rfl rfl rfl (Nat.le_of_ble_eq_true rfl) kd_Mo_readType_58 rfl (c1 := 0) (s1 := 0) rfl rfl (fun v w hp => ?_)
    obtain ⟨rfl, rfl⟩ := hp
    refine zk_stk (r' := []) rfl ?_
    refine zk_aload_n C kd_Mo_readType_61 rfl 1 rfl rfl ?_
    refine zk_iload_n C kd_Mo_readType_62 rfl 0 rfl rfl ?_
    obtain ⟨h29, c28, e⟩ := zd_b e
    refine zs_callV (k := 68) (rn := { frames := 8, cells := 0, slots := 0, locals := 171 }) (As := [.int v12]) (rest := []) C (zc_Mo_simple h27 v12 c28) ku_Mo_simple kw2121 kv_Mo_simple rfl ⟨by decide, by decide⟩ ⟨by decide, by decide⟩ rfl rfl rfl (Nat.le_of_ble_eq_true rfl) kd_Mo_readType_63 rfl (c1 := 0) (s1 := 0) rfl rfl (fun v w hp => ?_)
    obtain ⟨rfl, rfl⟩ := hp
    refine zk_stk (r' := []) rfl ?_
    refine zk_goto (tgt := 105) C kd_Mo_readType_66 (by decide) ?_
    exact zk_vret C hR kd_Mo_readType_105 rfl rfl (zd_rV e)
set_option maxHeartbeats 4000000 in
set_option maxRecDepth 100000 in
theorem zb_Mo_declaration_74 {X : zkj_T} {S : zs_T} {P : ze_T} {l : Launch} {D : va_G} {sz0 : Nat} {rh : zs_H} (C : zk_C X km_Mo_declaration (zs_G S l D sz0) { frames := 10, cells := 0, slots := 0, locals := 218 } (ze_E P)) (hR : zkj_R X (zd_PV S rh) (none)) {k14 : zs_H → Int32 → Int32 → (Option zs_H)} (hk14 : ∀ (h : zs_H) (x2 : Int32) (x3 : Int32), k14 h x2 x3 = some rh → zk_Ab X (zs_W S h) 0 0 14 [(0, .ref (S.1 68)), (2, .int x2), (3, .int x3)] []) (h : zs_H) (x2 : Int32) (x3 : Int32) (e : f_Mo_declaration_74 k14 h x2 x3 = some rh) : zk_Ab X (zs_W S h) 0 0 74 [(0, .ref (S.1 68)), (2, .int x2), (3, .int x3)] [] := by
  unfold f_Mo_declaration_74 at e
  refine zk_goto (tgt := 14) C kd_Mo_declaration_74 (by decide) ?_
  refine zk_lvs (lv' := [(0, .ref (S.1 68)), (2, .int x2), (3, .int x3)]) [0, 1, 2] rfl ?_
  exact hk14 h x2 x3 e
set_option maxHeartbeats 4000000 in
set_option maxRecDepth 100000 in
theorem zb_Mo_declaration_56 {X : zkj_T} {S : zs_T} {P : ze_T} {l : Launch} {D : va_G} {sz0 : Nat} {rh : zs_H} (C : zk_C X km_Mo_declaration (zs_G S l D sz0) { frames := 10, cells := 0, slots := 0, locals := 218 } (ze_E P)) (hR : zkj_R X (zd_PV S rh) (none)) {k14 : zs_H → Int32 → Int32 → (Option zs_H)} (hk14 : ∀ (h : zs_H) (x2 : Int32) (x3 : Int32), k14 h x2 x3 = some rh → zk_Ab X (zs_W S h) 0 0 14 [(0, .ref (S.1 68)), (2, .int x2), (3, .int x3)] []) (h : zs_H) (x2 : Int32) (y0 : Int32) (e : f_Mo_declaration_56 k14 h x2 y0 = some rh) : zk_Ab X (zs_W S h) 0 0 56 [(0, .ref (S.1 68)), (2, .int x2)] [.int y0, .ref (S.1 68)] := by
  unfold f_Mo_declaration_56 at e
  obtain ⟨h2, c1, e⟩ := zd_b e
  refine zs_callV (k := 68) (rn := { frames := 7, cells := 0, slots := 0, locals := 150 }) (As := [.int y0]) (rest := []) C (zc_Mo_want h y0 c1) ku_Mo_want kw2109 kv_Mo_want rfl ⟨by decide, by decide⟩ ⟨by decide, by decide⟩ rfl rfl rfl (Nat.le_of_ble_eq_true rfl) kd_Mo_declaration_56 rfl (c1 := 0) (s1 := 0) rfl rfl (fun v w hp => ?_)
  obtain ⟨rfl, rfl⟩ := hp
  refine zk_stk (r' := []) rfl ?_
  refine zk_aload_n C kd_Mo_declaration_59 rfl 0 rfl rfl ?_
  refine zk_bipush (v := 44) C kd_Mo_declaration_60 (by decide) rfl ?_
  refine zs_callV (k := 68) (rn := { frames := 0, cells := 0, slots := 0, locals := 0 }) (As := [.int 44]) (rest := []) C (zc_Mo_isSign h2 44) ku_Mo_isSign kw2117 kv_Mo_isSign rfl ⟨by decide, by decide⟩ ⟨by decide, by decide⟩ rfl rfl rfl (Nat.le_of_ble_eq_true rfl) kd_Mo_declaration_62 rfl (c1 := 0) (s1 := 0) rfl rfl (fun v w hp => ?_)
  obtain ⟨rfl, rfl, z3⟩ := hp
  refine zk_stk (r' := [.int (f_Mo_isSign h2 44)]) rfl ?_
  refine zk_istore_n (lv' := [(3, _), (0, _), (2, _)]) C kd_Mo_declaration_65 rfl (by decide) rfl rfl ?_
  refine zk_iload_n C kd_Mo_declaration_66 rfl 0 rfl rfl ?_
  refine zk_if_eq (tgt := 74) C kd_Mo_declaration_67 (by decide) rfl (fun b4 => ?_) (fun b4 => ?_)
  · replace e := zd_pos b4 e
    refine zk_lvs (lv' := [(0, .ref (S.1 68)), (2, .int x2), (3, .int (f_Mo_isSign h2 44))]) [1, 2, 0] rfl ?_
    exact zb_Mo_declaration_74 C hR hk14 h2 x2 (f_Mo_isSign h2 44) e
  · replace e := zd_neg b4 e
    refine zk_aload_n C kd_Mo_declaration_70 rfl 1 rfl rfl ?_
    obtain ⟨h6, c5, e⟩ := zd_b e
    refine zs_callV (k := 68) (rn := { frames := 6, cells := 0, slots := 0, locals := 129 }) (As := []) (rest := []) C (zc_Mo_next h2 c5) ku_Mo_next kw2001 kv_Mo_next rfl ⟨by decide, by decide⟩ ⟨by decide, by decide⟩ rfl rfl rfl (Nat.le_of_ble_eq_true rfl) kd_Mo_declaration_71 rfl (c1 := 0) (s1 := 0) rfl rfl (fun v w hp => ?_)
    obtain ⟨rfl, rfl⟩ := hp
    refine zk_stk (r' := []) rfl ?_
    refine zk_lvs (lv' := [(0, .ref (S.1 68)), (2, .int x2), (3, .int (f_Mo_isSign h2 44))]) [1, 2, 0] rfl ?_
    exact zb_Mo_declaration_74 C hR hk14 h6 x2 (f_Mo_isSign h2 44) e
set_option maxHeartbeats 4000000 in
set_option maxRecDepth 100000 in
theorem zb_Mo_declaration_161 {X : zkj_T} {S : zs_T} {P : ze_T} {l : Launch} {D : va_G} {sz0 : Nat} {rh : zs_H} (C : zk_C X km_Mo_declaration (zs_G S l D sz0) { frames := 10, cells := 0, slots := 0, locals := 218 } (ze_E P)) (hR : zkj_R X (zd_PV S rh) (none)) (h : zs_H) (e : f_Mo_declaration_161 h = some rh) : zk_Ab X (zs_W S h) 0 0 161 [(0, .ref (S.1 68))] [] := by
  unfold f_Mo_declaration_161 at e
  refine zk_aload_n C kd_Mo_declaration_161 rfl 0 rfl rfl ?_
  refine zk_bipush (v := 59) C kd_Mo_declaration_162 (by decide) rfl ?_
  obtain ⟨h2, c1, e⟩ := zd_b e
  refine zs_callV (k := 68) (rn := { frames := 8, cells := 0, slots := 0, locals := 171 }) (As := [.int 59]) (rest := []) C (zc_Mo_wantSign h 59 c1) ku_Mo_wantSign kw2113 kv_Mo_wantSign rfl ⟨by decide, by decide⟩ ⟨by decide, by decide⟩ rfl rfl rfl (Nat.le_of_ble_eq_true rfl) kd_Mo_declaration_164 rfl (c1 := 0) (s1 := 0) rfl rfl (fun v w hp => ?_)
  obtain ⟨rfl, rfl⟩ := hp
  refine zk_stk (r' := []) rfl ?_
  exact zk_vret C hR kd_Mo_declaration_167 rfl rfl (zd_rV e)
set_option maxHeartbeats 4000000 in
set_option maxRecDepth 100000 in
theorem zb_Mo_declaration_142 {X : zkj_T} {S : zs_T} {P : ze_T} {l : Launch} {D : va_G} {sz0 : Nat} {rh : zs_H} (C : zk_C X km_Mo_declaration (zs_G S l D sz0) { frames := 10, cells := 0, slots := 0, locals := 218 } (ze_E P)) (hR : zkj_R X (zd_PV S rh) (none)) (h : zs_H) (x2 : Int32) (e : f_Mo_declaration_142 h x2 = some rh) : zk_Ab X (zs_W S h) 0 0 142 [(0, .ref (S.1 68)), (2, .int x2)] [] := by
  unfold f_Mo_declaration_142 at e
  refine zk_aload_n C kd_Mo_declaration_142 rfl 0 rfl rfl ?_
  refine zk_sipush (v := 256) C kd_Mo_declaration_143 (by decide) rfl ?_
  refine zs_callV (k := 68) (rn := { frames := 0, cells := 0, slots := 0, locals := 0 }) (As := [.int 256]) (rest := []) C (zc_Mo_isSign h 256) ku_Mo_isSign kw2117 kv_Mo_isSign rfl ⟨by decide, by decide⟩ ⟨by decide, by decide⟩ rfl rfl rfl (Nat.le_of_ble_eq_true rfl) kd_Mo_declaration_146 rfl (c1 := 0) (s1 := 0) rfl rfl (fun v w hp => ?_)
  obtain ⟨rfl, rfl, z1⟩ := hp
  refine zk_stk (r' := [.int (f_Mo_isSign h 256)]) rfl ?_
  refine zk_if_eq (tgt := 161) C kd_Mo_declaration_149 (by decide) rfl (fun b2 => ?_) (fun b2 => ?_)
  · replace e := zd_pos b2 e
    refine zk_lvs (lv' := [(0, .ref (S.1 68))]) [0] rfl ?_
    exact zb_Mo_declaration_161 C hR h e
  · replace e := zd_neg b2 e
    refine zk_aload_n C kd_Mo_declaration_152 rfl 0 rfl rfl ?_
    obtain ⟨h4, c3, e⟩ := zd_b e
    refine zs_callV (k := 68) (rn := { frames := 6, cells := 0, slots := 0, locals := 129 }) (As := []) (rest := []) C (zc_Mo_next h c3) ku_Mo_next kw2001 kv_Mo_next rfl ⟨by decide, by decide⟩ ⟨by decide, by decide⟩ rfl rfl rfl (Nat.le_of_ble_eq_true rfl) kd_Mo_declaration_153 rfl (c1 := 0) (s1 := 0) rfl rfl (fun v w hp => ?_)
    obtain ⟨rfl, rfl⟩ := hp
    refine zk_stk (r' := []) rfl ?_
    refine zk_aload_n C kd_Mo_declaration_156 rfl 0 rfl rfl ?_
    refine zk_iload_n C kd_Mo_declaration_157 rfl 1 rfl rfl ?_
    obtain ⟨h6, c5, e⟩ := zd_b e
    refine zs_callV (k := 68) (rn := { frames := 8, cells := 0, slots := 0, locals := 171 }) (As := [.int x2]) (rest := []) C (zc_Mo_constant h4 x2 c5) ku_Mo_constant kw2137 kv_Mo_constant rfl ⟨by decide, by decide⟩ ⟨by decide, by decide⟩ rfl rfl rfl (Nat.le_of_ble_eq_true rfl) kd_Mo_declaration_158 rfl (c1 := 0) (s1 := 0) rfl rfl (fun v w hp => ?_)
    obtain ⟨rfl, rfl⟩ := hp
    refine zk_stk (r' := []) rfl ?_
    refine zk_lvs (lv' := [(0, .ref (S.1 68))]) [0] rfl ?_
    exact zb_Mo_declaration_161 C hR h6 e
set_option maxHeartbeats 4000000 in
set_option maxRecDepth 100000 in
theorem zb_Mo_declaration_124 {X : zkj_T} {S : zs_T} {P : ze_T} {l : Launch} {D : va_G} {sz0 : Nat} {rh : zs_H} (C : zk_C X km_Mo_declaration (zs_G S l D sz0) { frames := 10, cells := 0, slots := 0, locals := 218 } (ze_E P)) (hR : zkj_R X (zd_PV S rh) (none)) (h : zs_H) (x2 : Int32) (e : f_Mo_declaration_124 h x2 = some rh) : zk_Ab X (zs_W S h) 0 0 124 [(0, .ref (S.1 68)), (2, .int x2)] [] := by
  unfold f_Mo_declaration_124 at e
  refine zk_aload_n C kd_Mo_declaration_124 rfl 0 rfl rfl ?_
  refine zk_bipush (v := 58) C kd_Mo_declaration_125 (by decide) rfl ?_
  obtain ⟨h2, c1, e⟩ := zd_b e
  refine zs_callV (k := 68) (rn := { frames := 8, cells := 0, slots := 0, locals := 171 }) (As := [.int 58]) (rest := []) C (zc_Mo_wantSign h 58 c1) ku_Mo_wantSign kw2113 kv_Mo_wantSign rfl ⟨by decide, by decide⟩ ⟨by decide, by decide⟩ rfl rfl rfl (Nat.le_of_ble_eq_true rfl) kd_Mo_declaration_127 rfl (c1 := 0) (s1 := 0) rfl rfl (fun v w hp => ?_)
  obtain ⟨rfl, rfl⟩ := hp
  refine zk_stk (r' := []) rfl ?_
  refine zk_aload_n C kd_Mo_declaration_130 rfl 0 rfl rfl ?_
  refine zs_get (v := .int (h2.1 68 10)) C 68 10 rfl rfl rfl rfl ki_Mo (by decide) kw1693 kd_Mo_declaration_131 rfl ?_
  refine zk_if_ne (tgt := 142) C kd_Mo_declaration_134 (by decide) rfl (fun b3 => ?_) (fun b3 => ?_)
  · replace e := zd_neg b3 e
    refine zk_lvs (lv' := [(0, .ref (S.1 68)), (2, .int x2)]) [0, 1] rfl ?_
    exact zb_Mo_declaration_142 C hR h2 x2 e
  · replace e := zd_pos b3 e
    refine zk_aload_n C kd_Mo_declaration_137 rfl 0 rfl rfl ?_
    refine zk_iload_n C kd_Mo_declaration_138 rfl 1 rfl rfl ?_
    obtain ⟨h5, c4, e⟩ := zd_b e
    refine zs_callV (k := 68) (rn := { frames := 9, cells := 0, slots := 0, locals := 196 }) (As := [.int x2]) (rest := []) C (zc_Mo_readType h2 x2 c4) ku_Mo_readType kw2133 kv_Mo_readType rfl ⟨by decide, by decide⟩ ⟨by decide, by decide⟩ rfl rfl rfl (Nat.le_of_ble_eq_true rfl) kd_Mo_declaration_139 rfl (c1 := 0) (s1 := 0) rfl rfl (fun v w hp => ?_)
    obtain ⟨rfl, rfl⟩ := hp
    refine zk_stk (r' := []) rfl ?_
    refine zk_lvs (lv' := [(0, .ref (S.1 68)), (2, .int x2)]) [0, 1] rfl ?_
    exact zb_Mo_declaration_142 C hR h5 x2 e
set_option maxHeartbeats 4000000 in
set_option maxRecDepth 100000 in
theorem zb_Mo_declaration_121 {X : zkj_T} {S : zs_T} {P : ze_T} {l : Launch} {D : va_G} {sz0 : Nat} {rh : zs_H} (C : zk_C X km_Mo_declaration (zs_G S l D sz0) { frames := 10, cells := 0, slots := 0, locals := 218 } (ze_E P)) (hR : zkj_R X (zd_PV S rh) (none)) (h : zs_H) (x2 : Int32) (y0 : Int32) (e : f_Mo_declaration_121 h x2 y0 = some rh) : zk_Ab X (zs_W S h) 0 0 121 [(0, .ref (S.1 68)), (2, .int x2)] [.int y0, .ref (S.1 68)] := by
  unfold f_Mo_declaration_121 at e
  obtain ⟨h2, c1, e⟩ := zd_b e
  refine zs_callV (k := 68) (rn := { frames := 7, cells := 0, slots := 0, locals := 150 }) (As := [.int y0]) (rest := []) C (zc_Mo_want h y0 c1) ku_Mo_want kw2109 kv_Mo_want rfl ⟨by decide, by decide⟩ ⟨by decide, by decide⟩ rfl rfl rfl (Nat.le_of_ble_eq_true rfl) kd_Mo_declaration_121 rfl (c1 := 0) (s1 := 0) rfl rfl (fun v w hp => ?_)
  obtain ⟨rfl, rfl⟩ := hp
  refine zk_stk (r' := []) rfl ?_
  refine zk_lvs (lv' := [(0, .ref (S.1 68)), (2, .int x2)]) [0, 1] rfl ?_
  exact zb_Mo_declaration_124 C hR h2 x2 e
set_option maxHeartbeats 4000000 in
set_option maxRecDepth 100000 in
theorem zb_Mo_declaration_77 {X : zkj_T} {S : zs_T} {P : ze_T} {l : Launch} {D : va_G} {sz0 : Nat} {rh : zs_H} (C : zk_C X km_Mo_declaration (zs_G S l D sz0) { frames := 10, cells := 0, slots := 0, locals := 218 } (ze_E P)) (hR : zkj_R X (zd_PV S rh) (none)) (h : zs_H) (x2 : Int32) (e : f_Mo_declaration_77 h x2 = some rh) : zk_Ab X (zs_W S h) 0 0 77 [(0, .ref (S.1 68)), (2, .int x2)] [] := by
  unfold f_Mo_declaration_77 at e
  refine zk_aload_n C kd_Mo_declaration_77 rfl 0 rfl rfl ?_
  refine zk_bipush (v := 10) C kd_Mo_declaration_78 (by decide) rfl ?_
  refine zs_callV (k := 68) (rn := { frames := 0, cells := 0, slots := 0, locals := 0 }) (As := [.int 10]) (rest := []) C (zc_Mo_isWord h 10) ku_Mo_isWord kw2125 kv_Mo_isWord rfl ⟨by decide, by decide⟩ ⟨by decide, by decide⟩ rfl rfl rfl (Nat.le_of_ble_eq_true rfl) kd_Mo_declaration_80 rfl (c1 := 0) (s1 := 0) rfl rfl (fun v w hp => ?_)
  obtain ⟨rfl, rfl, z1⟩ := hp
  refine zk_stk (r' := [.int (f_Mo_isWord h 10)]) rfl ?_
  refine zk_if_eq (tgt := 124) C kd_Mo_declaration_83 (by decide) rfl (fun b2 => ?_) (fun b2 => ?_)
  · replace e := zd_pos b2 e
    refine zk_lvs (lv' := [(0, .ref (S.1 68)), (2, .int x2)]) [0, 1] rfl ?_
    exact zb_Mo_declaration_124 C hR h x2 e
  · replace e := zd_neg b2 e
    refine zk_aload_n C kd_Mo_declaration_86 rfl 0 rfl rfl ?_
    obtain ⟨h4, c3, e⟩ := zd_b e
    refine zs_callV (k := 68) (rn := { frames := 6, cells := 0, slots := 0, locals := 129 }) (As := []) (rest := []) C (zc_Mo_next h c3) ku_Mo_next kw2001 kv_Mo_next rfl ⟨by decide, by decide⟩ ⟨by decide, by decide⟩ rfl rfl rfl (Nat.le_of_ble_eq_true rfl) kd_Mo_declaration_87 rfl (c1 := 0) (s1 := 0) rfl rfl (fun v w hp => ?_)
    obtain ⟨rfl, rfl⟩ := hp
    refine zk_stk (r' := []) rfl ?_
    refine zk_aload_n C kd_Mo_declaration_90 rfl 0 rfl rfl ?_
    refine zk_iload_n C kd_Mo_declaration_91 rfl 1 rfl rfl ?_
    refine zk_bipush (v := 7) C kd_Mo_declaration_92 (by decide) rfl ?_
    refine zk_aload_n C kd_Mo_declaration_94 rfl 0 rfl rfl ?_
    refine zs_get (v := .int (h4.1 68 7)) C 68 7 rfl rfl rfl rfl ki_Mo (by decide) kw1690 kd_Mo_declaration_95 rfl ?_
    refine zk_aload_n C kd_Mo_declaration_98 rfl 0 rfl rfl ?_
    refine zs_get (v := .int (h4.1 68 9)) C 68 9 rfl rfl rfl rfl ki_Mo (by decide) kw1692 kd_Mo_declaration_99 rfl ?_
    obtain ⟨v6, h7, c5, e⟩ := zd_Be e
    refine zs_callV (k := 68) (rn := { frames := 1, cells := 0, slots := 0, locals := 24 }) (As := [.int x2, .int 7, .int (h4.1 68 7), .int (h4.1 68 9)]) (rest := []) C (zc_Mo_add h4 x2 7 (h4.1 68 7) (h4.1 68 9) c5) ku_Mo_add kw2097 kv_Mo_add rfl ⟨by decide, by decide⟩ ⟨by decide, by decide⟩ rfl rfl rfl (Nat.le_of_ble_eq_true rfl) kd_Mo_declaration_102 rfl (c1 := 0) (s1 := 0) rfl rfl (fun v w hp => ?_)
    obtain ⟨rfl, rfl⟩ := hp
    refine zk_stk (r' := [.int v6]) rfl ?_
    refine zk_istore (lv' := [(4, _), (0, _), (2, _)]) C kd_Mo_declaration_105 (by decide) rfl rfl ?_
    refine zk_aload_n C kd_Mo_declaration_107 rfl 1 rfl rfl ?_
    refine zk_aload_n C kd_Mo_declaration_108 rfl 1 rfl rfl ?_
    refine zs_get (v := .int (h7.1 68 6)) C 68 6 rfl rfl rfl rfl ki_Mo (by decide) kw1689 kd_Mo_declaration_109 rfl ?_
    refine zk_iconst (v := 4) C kd_Mo_declaration_112 (by decide) rfl ?_
    refine zk_icmp_ne (tgt := 120) C kd_Mo_declaration_113 (by decide) rfl (fun b8 => ?_) (fun b8 => ?_)
    · replace e := zd_neg b8 e
      refine zk_iconst (v := 0) C kd_Mo_declaration_120 (by decide) rfl ?_
      refine zk_lvs (lv' := [(0, .ref (S.1 68)), (2, .int x2)]) [1, 2] rfl ?_
      exact zb_Mo_declaration_121 C hR h7 x2 0 e
    · replace e := zd_pos b8 e
      refine zk_iconst (v := 1) C kd_Mo_declaration_116 (by decide) rfl ?_
      refine zk_goto (tgt := 121) C kd_Mo_declaration_117 (by decide) ?_
      refine zk_lvs (lv' := [(0, .ref (S.1 68)), (2, .int x2)]) [1, 2] rfl ?_
      exact zb_Mo_declaration_121 C hR h7 x2 1 e
set_option maxHeartbeats 4000000 in
set_option maxRecDepth 100000 in
theorem zb_Mo_declaration_14 {X : zkj_T} {S : zs_T} {P : ze_T} {l : Launch} {D : va_G} {sz0 : Nat} {rh : zs_H} (C : zk_C X km_Mo_declaration (zs_G S l D sz0) { frames := 10, cells := 0, slots := 0, locals := 218 } (ze_E P)) (hR : zkj_R X (zd_PV S rh) (none)) {k14 : zs_H → Int32 → Int32 → (Option zs_H)} (hk14 : ∀ (h : zs_H) (x2 : Int32) (x3 : Int32), k14 h x2 x3 = some rh → zk_Ab X (zs_W S h) 0 0 14 [(0, .ref (S.1 68)), (2, .int x2), (3, .int x3)] []) (h : zs_H) (x2 : Int32) (x3 : Int32) (e : f_Mo_declaration_14 k14 h x2 x3 = some rh) : zk_Ab X (zs_W S h) 0 0 14 [(0, .ref (S.1 68)), (2, .int x2), (3, .int x3)] [] := by
  unfold f_Mo_declaration_14 at e
  refine zk_iload_n C kd_Mo_declaration_14 rfl 2 rfl rfl ?_
  refine zk_if_eq (tgt := 77) C kd_Mo_declaration_15 (by decide) rfl (fun b1 => ?_) (fun b1 => ?_)
  · replace e := zd_pos b1 e
    refine zk_lvs (lv' := [(0, .ref (S.1 68)), (2, .int x2)]) [0, 1] rfl ?_
    exact zb_Mo_declaration_77 C hR h x2 e
  · replace e := zd_neg b1 e
    refine zk_aload_n C kd_Mo_declaration_18 rfl 0 rfl rfl ?_
    refine zs_get (v := .int (h.1 68 10)) C 68 10 rfl rfl rfl rfl ki_Mo (by decide) kw1693 kd_Mo_declaration_19 rfl ?_
    refine zk_if_ne (tgt := 77) C kd_Mo_declaration_22 (by decide) rfl (fun b2 => ?_) (fun b2 => ?_)
    · replace e := zd_neg b2 e
      refine zk_lvs (lv' := [(0, .ref (S.1 68)), (2, .int x2)]) [0, 1] rfl ?_
      exact zb_Mo_declaration_77 C hR h x2 e
    · replace e := zd_pos b2 e
      refine zk_aload_n C kd_Mo_declaration_25 rfl 0 rfl rfl ?_
      refine zk_iload_n C kd_Mo_declaration_26 rfl 1 rfl rfl ?_
      refine zk_bipush (v := 6) C kd_Mo_declaration_27 (by decide) rfl ?_
      refine zk_aload_n C kd_Mo_declaration_29 rfl 0 rfl rfl ?_
      refine zs_get (v := .int (h.1 68 7)) C 68 7 rfl rfl rfl rfl ki_Mo (by decide) kw1690 kd_Mo_declaration_30 rfl ?_
      refine zk_aload_n C kd_Mo_declaration_33 rfl 0 rfl rfl ?_
      refine zs_get (v := .int (h.1 68 9)) C 68 9 rfl rfl rfl rfl ki_Mo (by decide) kw1692 kd_Mo_declaration_34 rfl ?_
      obtain ⟨v4, h5, c3, e⟩ := zd_Be e
      refine zs_callV (k := 68) (rn := { frames := 1, cells := 0, slots := 0, locals := 24 }) (As := [.int x2, .int 6, .int (h.1 68 7), .int (h.1 68 9)]) (rest := []) C (zc_Mo_add h x2 6 (h.1 68 7) (h.1 68 9) c3) ku_Mo_add kw2097 kv_Mo_add rfl ⟨by decide, by decide⟩ ⟨by decide, by decide⟩ rfl rfl rfl (Nat.le_of_ble_eq_true rfl) kd_Mo_declaration_37 rfl (c1 := 0) (s1 := 0) rfl rfl (fun v w hp => ?_)
      obtain ⟨rfl, rfl⟩ := hp
      refine zk_stk (r' := [.int v4]) rfl ?_
      refine zk_istore (lv' := [(4, _), (0, _), (2, _), (3, _)]) C kd_Mo_declaration_40 (by decide) rfl rfl ?_
      refine zk_aload_n C kd_Mo_declaration_42 rfl 1 rfl rfl ?_
      refine zk_aload_n C kd_Mo_declaration_43 rfl 1 rfl rfl ?_
      refine zs_get (v := .int (h5.1 68 6)) C 68 6 rfl rfl rfl rfl ki_Mo (by decide) kw1689 kd_Mo_declaration_44 rfl ?_
      refine zk_iconst (v := 1) C kd_Mo_declaration_47 (by decide) rfl ?_
      refine zk_icmp_ne (tgt := 55) C kd_Mo_declaration_48 (by decide) rfl (fun b6 => ?_) (fun b6 => ?_)
      · replace e := zd_neg b6 e
        refine zk_iconst (v := 0) C kd_Mo_declaration_55 (by decide) rfl ?_
        refine zk_lvs (lv' := [(0, .ref (S.1 68)), (2, .int x2)]) [1, 2] rfl ?_
        exact zb_Mo_declaration_56 C hR hk14 h5 x2 0 e
      · replace e := zd_pos b6 e
        refine zk_iconst (v := 1) C kd_Mo_declaration_51 (by decide) rfl ?_
        refine zk_goto (tgt := 56) C kd_Mo_declaration_52 (by decide) ?_
        refine zk_lvs (lv' := [(0, .ref (S.1 68)), (2, .int x2)]) [1, 2] rfl ?_
        exact zb_Mo_declaration_56 C hR hk14 h5 x2 1 e
theorem zl_Mo_declaration_14 {X : zkj_T} {S : zs_T} {P : ze_T} {l : Launch} {D : va_G} {sz0 : Nat} {rh : zs_H} (C : zk_C X km_Mo_declaration (zs_G S l D sz0) { frames := 10, cells := 0, slots := 0, locals := 218 } (ze_E P)) (hR : zkj_R X (zd_PV S rh) (none)) (n : Nat) : ∀ (h : zs_H) (x2 : Int32) (x3 : Int32), f_Mo_declaration_L14 n h x2 x3 = some rh → zk_Ab X (zs_W S h) 0 0 14 [(0, .ref (S.1 68)), (2, .int x2), (3, .int x3)] [] := by
  induction n with
  | zero => intro h x2 x3 e; exact zd_no e
  | succ n ih => intro h x2 x3 e; exact zb_Mo_declaration_14 (k14 := f_Mo_declaration_L14  n) C hR ih h x2 x3 e
set_option maxHeartbeats 4000000 in
set_option maxRecDepth 100000 in
theorem zc_Mo_declaration {l : Launch} {D : va_G} {sz0 : Nat} {S : zs_T} {P : ze_T} (h : zs_H) (x1 : Int32) {rh : zs_H} (e : f_Mo_declaration h x1 = some rh) : zk_Sp (zs_G S l D sz0) (ze_E P) km_Mo_declaration { frames := 10, cells := 0, slots := 0, locals := 218 } [.ref (S.1 68), .int x1] (zs_W S h) (zd_PV S rh) := by
  refine zk_met ku_Mo_declaration (Nat.le_of_ble_eq_true rfl) (ze_Em P) ?_
  intro X C hR
  refine zk_lvs (lv' := [(0, .ref (S.1 68)), (1, .int x1)]) [0, 1] rfl ?_
  unfold f_Mo_declaration at e
  refine zk_aload_n C kd_Mo_declaration_0 rfl 0 rfl rfl ?_
  refine zk_iload_n C kd_Mo_declaration_1 rfl 1 rfl rfl ?_
  refine zk_iconst (v := 5) C kd_Mo_declaration_2 (by decide) rfl ?_
  refine zk_aload_n C kd_Mo_declaration_3 rfl 0 rfl rfl ?_
  refine zs_get (v := .int (h.1 68 7)) C 68 7 rfl rfl rfl rfl ki_Mo (by decide) kw1690 kd_Mo_declaration_4 rfl ?_
  refine zk_iconst (v := 0) C kd_Mo_declaration_7 (by decide) rfl ?_
  obtain ⟨v2, h3, c1, e⟩ := zd_Be e
  refine zs_callV (k := 68) (rn := { frames := 1, cells := 0, slots := 0, locals := 24 }) (As := [.int x1, .int 5, .int (h.1 68 7), .int 0]) (rest := []) C (zc_Mo_add h x1 5 (h.1 68 7) 0 c1) ku_Mo_add kw2097 kv_Mo_add rfl ⟨by decide, by decide⟩ ⟨by decide, by decide⟩ rfl rfl rfl (Nat.le_of_ble_eq_true rfl) kd_Mo_declaration_8 rfl (c1 := 0) (s1 := 0) rfl rfl (fun v w hp => ?_)
  obtain ⟨rfl, rfl⟩ := hp
  refine zk_stk (r' := [.int v2]) rfl ?_
  refine zk_istore_n (lv' := [(2, _), (0, _), (1, _)]) C kd_Mo_declaration_11 rfl (by decide) rfl rfl ?_
  refine zk_iconst (v := 1) C kd_Mo_declaration_12 (by decide) rfl ?_
  refine zk_istore_n (lv' := [(3, _), (2, _), (0, _), (1, _)]) C kd_Mo_declaration_13 rfl (by decide) rfl rfl ?_
  refine zk_lvs (lv' := [(0, .ref (S.1 68)), (2, .int v2), (3, .int 1)]) [2, 1, 0] rfl ?_
  exact zl_Mo_declaration_14 C hR zF h3 v2 1 e
