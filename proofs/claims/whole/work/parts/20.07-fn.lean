theorem kw1696 : Jvm.Cond.fieldLink "PlantKeeperModel" (328 : Nat) "PlantKeeperModel" "nested" "I" ∈ zk_BW := zk_inT 1696 (by decide +kernel) rfl
theorem kw2105 : Jvm.Cond.methodLink "PlantKeeperModel" (346 : Nat) ({ cls := "PlantKeeperModel", name := "name", desc := "()I" } : Jvm.MethodName) ∈ zk_BW := zk_inT 2105 (by decide +kernel) rfl
theorem kw2139 : Jvm.Cond.instanceMethod ({ cls := "PlantKeeperModel", name := "constant", desc := "(I)V" } : Jvm.MethodName) ∈ zk_BW := zk_inT 2139 (by decide +kernel) rfl
theorem kw2140 : Jvm.Cond.code ({ cls := "PlantKeeperModel", name := "constant", desc := "(I)V" } : Jvm.MethodName) prog_14_method_36_code (6 : Nat) (Option.none : Option FieldType) ∈ zk_BW := zk_inT 2140 (by decide +kernel) rfl
theorem kw2167 : Jvm.Cond.instanceMethod ({ cls := "PlantKeeperModel", name := "named", desc := "(I)V" } : Jvm.MethodName) ∈ zk_BW := zk_inT 2167 (by decide +kernel) rfl
theorem kw2168 : Jvm.Cond.code ({ cls := "PlantKeeperModel", name := "named", desc := "(I)V" } : Jvm.MethodName) prog_14_method_46_code (6 : Nat) (Option.none : Option FieldType) ∈ zk_BW := zk_inT 2168 (by decide +kernel) rfl
theorem kw2169 : Jvm.Cond.methodLink "PlantKeeperModel" (402 : Nat) ({ cls := "PlantKeeperModel", name := "invoke", desc := "(I)V" } : Jvm.MethodName) ∈ zk_BW := zk_inT 2169 (by decide +kernel) rfl
theorem kw2171 : Jvm.Cond.instanceMethod ({ cls := "PlantKeeperModel", name := "invoke", desc := "(I)V" } : Jvm.MethodName) ∈ zk_BW := zk_inT 2171 (by decide +kernel) rfl
theorem kw2172 : Jvm.Cond.code ({ cls := "PlantKeeperModel", name := "invoke", desc := "(I)V" } : Jvm.MethodName) prog_14_method_48_code (5 : Nat) (Option.none : Option FieldType) ∈ zk_BW := zk_inT 2172 (by decide +kernel) rfl
theorem kw2173 : Jvm.Cond.methodLink "PlantKeeperModel" (379 : Nat) ({ cls := "PlantKeeperModel", name := "open", desc := "()V" } : Jvm.MethodName) ∈ zk_BW := zk_inT 2173 (by decide +kernel) rfl
theorem kw2177 : Jvm.Cond.methodLink "PlantKeeperModel" (391 : Nat) ({ cls := "PlantKeeperModel", name := "expression", desc := "(I)V" } : Jvm.MethodName) ∈ zk_BW := zk_inT 2177 (by decide +kernel) rfl
theorem kw2179 : Jvm.Cond.instanceMethod ({ cls := "PlantKeeperModel", name := "expression", desc := "(I)V" } : Jvm.MethodName) ∈ zk_BW := zk_inT 2179 (by decide +kernel) rfl
theorem kw2180 : Jvm.Cond.code ({ cls := "PlantKeeperModel", name := "expression", desc := "(I)V" } : Jvm.MethodName) prog_14_method_51_code (5 : Nat) (Option.none : Option FieldType) ∈ zk_BW := zk_inT 2180 (by decide +kernel) rfl
theorem kw2181 : Jvm.Cond.methodLink "PlantKeeperModel" (408 : Nat) ({ cls := "PlantKeeperModel", name := "operand", desc := "()V" } : Jvm.MethodName) ∈ zk_BW := zk_inT 2181 (by decide +kernel) rfl
theorem kw2183 : Jvm.Cond.instanceMethod ({ cls := "PlantKeeperModel", name := "operand", desc := "()V" } : Jvm.MethodName) ∈ zk_BW := zk_inT 2183 (by decide +kernel) rfl
theorem kw2184 : Jvm.Cond.code ({ cls := "PlantKeeperModel", name := "operand", desc := "()V" } : Jvm.MethodName) prog_14_method_55_code (2 : Nat) (Option.none : Option FieldType) ∈ zk_BW := zk_inT 2184 (by decide +kernel) rfl
theorem kw2185 : Jvm.Cond.methodLink "PlantKeeperModel" (414 : Nat) ({ cls := "PlantKeeperModel", name := "next2", desc := "()V" } : Jvm.MethodName) ∈ zk_BW := zk_inT 2185 (by decide +kernel) rfl
theorem kw2189 : Jvm.Cond.methodLink "PlantKeeperModel" (424 : Nat) ({ cls := "PlantKeeperModel", name := "keep", desc := "(I)V" } : Jvm.MethodName) ∈ zk_BW := zk_inT 2189 (by decide +kernel) rfl
theorem kw2193 : Jvm.Cond.methodLink "PlantKeeperModel" (427 : Nat) ({ cls := "PlantKeeperModel", name := "bracket", desc := "()V" } : Jvm.MethodName) ∈ zk_BW := zk_inT 2193 (by decide +kernel) rfl
theorem kw2195 : Jvm.Cond.instanceMethod ({ cls := "PlantKeeperModel", name := "bracket", desc := "()V" } : Jvm.MethodName) ∈ zk_BW := zk_inT 2195 (by decide +kernel) rfl
theorem kw2196 : Jvm.Cond.code ({ cls := "PlantKeeperModel", name := "bracket", desc := "()V" } : Jvm.MethodName) prog_14_method_56_code (2 : Nat) (Option.none : Option FieldType) ∈ zk_BW := zk_inT 2196 (by decide +kernel) rfl
theorem kw2197 : Jvm.Cond.methodLink "PlantKeeperModel" (430 : Nat) ({ cls := "PlantKeeperModel", name := "nameOperand", desc := "()V" } : Jvm.MethodName) ∈ zk_BW := zk_inT 2197 (by decide +kernel) rfl
theorem kw2199 : Jvm.Cond.instanceMethod ({ cls := "PlantKeeperModel", name := "nameOperand", desc := "()V" } : Jvm.MethodName) ∈ zk_BW := zk_inT 2199 (by decide +kernel) rfl
theorem kw2200 : Jvm.Cond.code ({ cls := "PlantKeeperModel", name := "nameOperand", desc := "()V" } : Jvm.MethodName) prog_14_method_57_code (5 : Nat) (Option.none : Option FieldType) ∈ zk_BW := zk_inT 2200 (by decide +kernel) rfl
theorem kw2201 : Jvm.Cond.methodLink "PlantKeeperModel" (405 : Nat) ({ cls := "PlantKeeperModel", name := "element", desc := "(I)V" } : Jvm.MethodName) ∈ zk_BW := zk_inT 2201 (by decide +kernel) rfl
theorem kw2203 : Jvm.Cond.instanceMethod ({ cls := "PlantKeeperModel", name := "element", desc := "(I)V" } : Jvm.MethodName) ∈ zk_BW := zk_inT 2203 (by decide +kernel) rfl
theorem kw2204 : Jvm.Cond.code ({ cls := "PlantKeeperModel", name := "element", desc := "(I)V" } : Jvm.MethodName) prog_14_method_47_code (2 : Nat) (Option.none : Option FieldType) ∈ zk_BW := zk_inT 2204 (by decide +kernel) rfl
theorem kw2205 : Jvm.Cond.methodLink "PlantKeeperModel" (433 : Nat) ({ cls := "PlantKeeperModel", name := "call", desc := "(I)V" } : Jvm.MethodName) ∈ zk_BW := zk_inT 2205 (by decide +kernel) rfl
theorem kw2207 : Jvm.Cond.instanceMethod ({ cls := "PlantKeeperModel", name := "call", desc := "(I)V" } : Jvm.MethodName) ∈ zk_BW := zk_inT 2207 (by decide +kernel) rfl
theorem kw2208 : Jvm.Cond.code ({ cls := "PlantKeeperModel", name := "call", desc := "(I)V" } : Jvm.MethodName) prog_14_method_58_code (3 : Nat) (Option.none : Option FieldType) ∈ zk_BW := zk_inT 2208 (by decide +kernel) rfl
theorem kw2209 : Jvm.Cond.methodLink "PlantKeeperModel" (411 : Nat) ({ cls := "PlantKeeperModel", name := "signAt", desc := "()I" } : Jvm.MethodName) ∈ zk_BW := zk_inT 2209 (by decide +kernel) rfl
theorem kw2238 : Jvm.Cond.instanceMethod ({ cls := "PlantKeeperModel", name := "beginsConstant", desc := "()Z" } : Jvm.MethodName) ∈ zk_BW := zk_inT 2238 (by decide +kernel) rfl
theorem kw2239 : Jvm.Cond.code ({ cls := "PlantKeeperModel", name := "beginsConstant", desc := "()Z" } : Jvm.MethodName) prog_14_method_43_code (1 : Nat) (Option.some FieldType.boolean) ∈ zk_BW := zk_inT 2239 (by decide +kernel) rfl
abbrev kc_Mo_beginsConstant : ByteArray := prog_14_method_43_code
def km_Mo_beginsConstant : zk_MT := (⟨"PlantKeeperModel", "beginsConstant", "()Z"⟩, kc_Mo_beginsConstant, 1, some .boolean, 0)
theorem ku_Mo_beginsConstant : zk_My km_Mo_beginsConstant := ⟨kw2239, kw17, by decide, by decide, by decide, by decide +kernel⟩
theorem kv_Mo_beginsConstant : zk_Mv km_Mo_beginsConstant := ⟨kw2238, zk_inS 202 (q := (⟨"PlantKeeperModel", "beginsConstant", "()Z"⟩, 96)) (by decide +kernel)⟩
abbrev kc_Mo_bracket : ByteArray := prog_14_method_56_code
def km_Mo_bracket : zk_MT := (⟨"PlantKeeperModel", "bracket", "()V"⟩, kc_Mo_bracket, 2, none, 0)
theorem ku_Mo_bracket : zk_My km_Mo_bracket := ⟨kw2196, kw17, by decide, by decide, by decide, by decide +kernel⟩
theorem kv_Mo_bracket : zk_Mv km_Mo_bracket := ⟨kw2195, zk_inS 192 (q := (⟨"PlantKeeperModel", "bracket", "()V"⟩, 96)) (by decide +kernel)⟩
abbrev kc_Mo_call : ByteArray := prog_14_method_58_code
def km_Mo_call : zk_MT := (⟨"PlantKeeperModel", "call", "(I)V"⟩, kc_Mo_call, 3, none, 1)
theorem ku_Mo_call : zk_My km_Mo_call := ⟨kw2208, kw17, by decide, by decide, by decide, by decide +kernel⟩
theorem kv_Mo_call : zk_Mv km_Mo_call := ⟨kw2207, zk_inS 195 (q := (⟨"PlantKeeperModel", "call", "(I)V"⟩, 96)) (by decide +kernel)⟩
abbrev kc_Mo_constant : ByteArray := prog_14_method_36_code
def km_Mo_constant : zk_MT := (⟨"PlantKeeperModel", "constant", "(I)V"⟩, kc_Mo_constant, 6, none, 1)
theorem ku_Mo_constant : zk_My km_Mo_constant := ⟨kw2140, kw17, by decide, by decide, by decide, by decide +kernel⟩
theorem kv_Mo_constant : zk_Mv km_Mo_constant := ⟨kw2139, zk_inS 178 (q := (⟨"PlantKeeperModel", "constant", "(I)V"⟩, 96)) (by decide +kernel)⟩
abbrev kc_Mo_element : ByteArray := prog_14_method_47_code
def km_Mo_element : zk_MT := (⟨"PlantKeeperModel", "element", "(I)V"⟩, kc_Mo_element, 2, none, 1)
theorem ku_Mo_element : zk_My km_Mo_element := ⟨kw2204, kw17, by decide, by decide, by decide, by decide +kernel⟩
theorem kv_Mo_element : zk_Mv km_Mo_element := ⟨kw2203, zk_inS 194 (q := (⟨"PlantKeeperModel", "element", "(I)V"⟩, 96)) (by decide +kernel)⟩
abbrev kc_Mo_expression : ByteArray := prog_14_method_51_code
def km_Mo_expression : zk_MT := (⟨"PlantKeeperModel", "expression", "(I)V"⟩, kc_Mo_expression, 5, none, 1)
theorem ku_Mo_expression : zk_My km_Mo_expression := ⟨kw2180, kw17, by decide, by decide, by decide, by decide +kernel⟩
theorem kv_Mo_expression : zk_Mv km_Mo_expression := ⟨kw2179, zk_inS 188 (q := (⟨"PlantKeeperModel", "expression", "(I)V"⟩, 96)) (by decide +kernel)⟩
abbrev kc_Mo_invoke : ByteArray := prog_14_method_48_code
def km_Mo_invoke : zk_MT := (⟨"PlantKeeperModel", "invoke", "(I)V"⟩, kc_Mo_invoke, 5, none, 1)
theorem ku_Mo_invoke : zk_My km_Mo_invoke := ⟨kw2172, kw17, by decide, by decide, by decide, by decide +kernel⟩
theorem kv_Mo_invoke : zk_Mv km_Mo_invoke := ⟨kw2171, zk_inS 186 (q := (⟨"PlantKeeperModel", "invoke", "(I)V"⟩, 96)) (by decide +kernel)⟩
abbrev kc_Mo_nameOperand : ByteArray := prog_14_method_57_code
def km_Mo_nameOperand : zk_MT := (⟨"PlantKeeperModel", "nameOperand", "()V"⟩, kc_Mo_nameOperand, 5, none, 0)
theorem ku_Mo_nameOperand : zk_My km_Mo_nameOperand := ⟨kw2200, kw17, by decide, by decide, by decide, by decide +kernel⟩
theorem kv_Mo_nameOperand : zk_Mv km_Mo_nameOperand := ⟨kw2199, zk_inS 193 (q := (⟨"PlantKeeperModel", "nameOperand", "()V"⟩, 96)) (by decide +kernel)⟩
abbrev kc_Mo_named : ByteArray := prog_14_method_46_code
def km_Mo_named : zk_MT := (⟨"PlantKeeperModel", "named", "(I)V"⟩, kc_Mo_named, 6, none, 1)
theorem ku_Mo_named : zk_My km_Mo_named := ⟨kw2168, kw17, by decide, by decide, by decide, by decide +kernel⟩
theorem kv_Mo_named : zk_Mv km_Mo_named := ⟨kw2167, zk_inS 185 (q := (⟨"PlantKeeperModel", "named", "(I)V"⟩, 96)) (by decide +kernel)⟩
abbrev kc_Mo_operand : ByteArray := prog_14_method_55_code
def km_Mo_operand : zk_MT := (⟨"PlantKeeperModel", "operand", "()V"⟩, kc_Mo_operand, 2, none, 0)
theorem ku_Mo_operand : zk_My km_Mo_operand := ⟨kw2184, kw17, by decide, by decide, by decide, by decide +kernel⟩
theorem kv_Mo_operand : zk_Mv km_Mo_operand := ⟨kw2183, zk_inS 189 (q := (⟨"PlantKeeperModel", "operand", "()V"⟩, 96)) (by decide +kernel)⟩
theorem kd_Mo_beginsConstant_0 : decode kc_Mo_beginsConstant 0 = .ok (.aload_n 0, 1) := by decide +kernel
theorem kd_Mo_beginsConstant_1 : decode kc_Mo_beginsConstant 1 = .ok (.getfield 201, 3) := by decide +kernel
theorem kd_Mo_beginsConstant_4 : decode kc_Mo_beginsConstant 4 = .ok (.ifCond .ne 42, 3) := by decide +kernel
theorem kd_Mo_beginsConstant_7 : decode kc_Mo_beginsConstant 7 = .ok (.aload_n 0, 1) := by decide +kernel
theorem kd_Mo_beginsConstant_8 : decode kc_Mo_beginsConstant 8 = .ok (.getfield 217, 3) := by decide +kernel
theorem kd_Mo_beginsConstant_11 : decode kc_Mo_beginsConstant 11 = .ok (.iconst 3, 1) := by decide +kernel
theorem kd_Mo_beginsConstant_12 : decode kc_Mo_beginsConstant 12 = .ok (.if_icmp .eq 30, 3) := by decide +kernel
theorem kd_Mo_beginsConstant_15 : decode kc_Mo_beginsConstant 15 = .ok (.aload_n 0, 1) := by decide +kernel
theorem kd_Mo_beginsConstant_16 : decode kc_Mo_beginsConstant 16 = .ok (.bipush 45, 2) := by decide +kernel
theorem kd_Mo_beginsConstant_18 : decode kc_Mo_beginsConstant 18 = .ok (.invokevirtual 309, 3) := by decide +kernel
theorem kd_Mo_beginsConstant_21 : decode kc_Mo_beginsConstant 21 = .ok (.ifCond .ne 21, 3) := by decide +kernel
theorem kd_Mo_beginsConstant_24 : decode kc_Mo_beginsConstant 24 = .ok (.aload_n 0, 1) := by decide +kernel
theorem kd_Mo_beginsConstant_25 : decode kc_Mo_beginsConstant 25 = .ok (.bipush 35, 2) := by decide +kernel
theorem kd_Mo_beginsConstant_27 : decode kc_Mo_beginsConstant 27 = .ok (.invokevirtual 302, 3) := by decide +kernel
theorem kd_Mo_beginsConstant_30 : decode kc_Mo_beginsConstant 30 = .ok (.ifCond .ne 12, 3) := by decide +kernel
theorem kd_Mo_beginsConstant_33 : decode kc_Mo_beginsConstant 33 = .ok (.aload_n 0, 1) := by decide +kernel
theorem kd_Mo_beginsConstant_34 : decode kc_Mo_beginsConstant 34 = .ok (.bipush 36, 2) := by decide +kernel
theorem kd_Mo_beginsConstant_36 : decode kc_Mo_beginsConstant 36 = .ok (.invokevirtual 302, 3) := by decide +kernel
theorem kd_Mo_beginsConstant_39 : decode kc_Mo_beginsConstant 39 = .ok (.ifCond .eq 7, 3) := by decide +kernel
theorem kd_Mo_beginsConstant_42 : decode kc_Mo_beginsConstant 42 = .ok (.iconst 1, 1) := by decide +kernel
theorem kd_Mo_beginsConstant_43 : decode kc_Mo_beginsConstant 43 = .ok (.goto 4, 3) := by decide +kernel
theorem kd_Mo_beginsConstant_46 : decode kc_Mo_beginsConstant 46 = .ok (.iconst 0, 1) := by decide +kernel
theorem kd_Mo_beginsConstant_47 : decode kc_Mo_beginsConstant 47 = .ok (.ireturn, 1) := by decide +kernel
theorem kd_Mo_bracket_0 : decode kc_Mo_bracket 0 = .ok (.aload_n 0, 1) := by decide +kernel
theorem kd_Mo_bracket_1 : decode kc_Mo_bracket 1 = .ok (.bipush 99, 2) := by decide +kernel
theorem kd_Mo_bracket_3 : decode kc_Mo_bracket 3 = .ok (.aload_n 0, 1) := by decide +kernel
theorem kd_Mo_bracket_4 : decode kc_Mo_bracket 4 = .ok (.getfield 214, 3) := by decide +kernel
theorem kd_Mo_bracket_7 : decode kc_Mo_bracket 7 = .ok (.iconst 0, 1) := by decide +kernel
theorem kd_Mo_bracket_8 : decode kc_Mo_bracket 8 = .ok (.invokevirtual 318, 3) := by decide +kernel
theorem kd_Mo_bracket_11 : decode kc_Mo_bracket 11 = .ok (.istore_n 1, 1) := by decide +kernel
theorem kd_Mo_bracket_12 : decode kc_Mo_bracket 12 = .ok (.aload_n 0, 1) := by decide +kernel
theorem kd_Mo_bracket_13 : decode kc_Mo_bracket 13 = .ok (.invokevirtual 379, 3) := by decide +kernel
theorem kd_Mo_bracket_16 : decode kc_Mo_bracket 16 = .ok (.aload_n 0, 1) := by decide +kernel
theorem kd_Mo_bracket_17 : decode kc_Mo_bracket 17 = .ok (.invokevirtual 414, 3) := by decide +kernel
theorem kd_Mo_bracket_20 : decode kc_Mo_bracket 20 = .ok (.aload_n 0, 1) := by decide +kernel
theorem kd_Mo_bracket_21 : decode kc_Mo_bracket 21 = .ok (.iload_n 1, 1) := by decide +kernel
theorem kd_Mo_bracket_22 : decode kc_Mo_bracket 22 = .ok (.invokevirtual 391, 3) := by decide +kernel
theorem kd_Mo_bracket_25 : decode kc_Mo_bracket 25 = .ok (.aload_n 0, 1) := by decide +kernel
theorem kd_Mo_bracket_26 : decode kc_Mo_bracket 26 = .ok (.bipush 41, 2) := by decide +kernel
theorem kd_Mo_bracket_28 : decode kc_Mo_bracket 28 = .ok (.invokevirtual 349, 3) := by decide +kernel
theorem kd_Mo_bracket_31 : decode kc_Mo_bracket 31 = .ok (.aload_n 0, 1) := by decide +kernel
theorem kd_Mo_bracket_32 : decode kc_Mo_bracket 32 = .ok (.dup, 1) := by decide +kernel
theorem kd_Mo_bracket_33 : decode kc_Mo_bracket 33 = .ok (.getfield 312, 3) := by decide +kernel
theorem kd_Mo_bracket_36 : decode kc_Mo_bracket 36 = .ok (.iconst 1, 1) := by decide +kernel
theorem kd_Mo_bracket_37 : decode kc_Mo_bracket 37 = .ok (.isub, 1) := by decide +kernel
theorem kd_Mo_bracket_38 : decode kc_Mo_bracket 38 = .ok (.putfield 312, 3) := by decide +kernel
theorem kd_Mo_bracket_41 : decode kc_Mo_bracket 41 = .ok (.aload_n 0, 1) := by decide +kernel
theorem kd_Mo_bracket_42 : decode kc_Mo_bracket 42 = .ok (.getfield 201, 3) := by decide +kernel
theorem kd_Mo_bracket_45 : decode kc_Mo_bracket 45 = .ok (.ifCond .ne 25, 3) := by decide +kernel
theorem kd_Mo_bracket_48 : decode kc_Mo_bracket 48 = .ok (.aload_n 0, 1) := by decide +kernel
theorem kd_Mo_bracket_49 : decode kc_Mo_bracket 49 = .ok (.aload_n 0, 1) := by decide +kernel
theorem kd_Mo_bracket_50 : decode kc_Mo_bracket 50 = .ok (.getfield 34, 3) := by decide +kernel
theorem kd_Mo_bracket_53 : decode kc_Mo_bracket 53 = .ok (.iload_n 1, 1) := by decide +kernel
theorem kd_Mo_bracket_54 : decode kc_Mo_bracket 54 = .ok (.iaload, 1) := by decide +kernel
theorem kd_Mo_bracket_55 : decode kc_Mo_bracket 55 = .ok (.invokevirtual 424, 3) := by decide +kernel
theorem kd_Mo_bracket_58 : decode kc_Mo_bracket 58 = .ok (.aload_n 0, 1) := by decide +kernel
theorem kd_Mo_bracket_59 : decode kc_Mo_bracket 59 = .ok (.getfield 31, 3) := by decide +kernel
theorem kd_Mo_bracket_62 : decode kc_Mo_bracket 62 = .ok (.aload_n 0, 1) := by decide +kernel
theorem kd_Mo_bracket_63 : decode kc_Mo_bracket 63 = .ok (.getfield 34, 3) := by decide +kernel
theorem kd_Mo_bracket_66 : decode kc_Mo_bracket 66 = .ok (.iload_n 1, 1) := by decide +kernel
theorem kd_Mo_bracket_67 : decode kc_Mo_bracket 67 = .ok (.iaload, 1) := by decide +kernel
theorem kd_Mo_bracket_68 : decode kc_Mo_bracket 68 = .ok (.iconst (-1), 1) := by decide +kernel
theorem kd_Mo_bracket_69 : decode kc_Mo_bracket 69 = .ok (.iastore, 1) := by decide +kernel
theorem kd_Mo_bracket_70 : decode kc_Mo_bracket 70 = .ok (.return_, 1) := by decide +kernel
theorem kd_Mo_call_0 : decode kc_Mo_call 0 = .ok (.aload_n 0, 1) := by decide +kernel
theorem kd_Mo_call_1 : decode kc_Mo_call 1 = .ok (.invokevirtual 379, 3) := by decide +kernel
theorem kd_Mo_call_4 : decode kc_Mo_call 4 = .ok (.aload_n 0, 1) := by decide +kernel
theorem kd_Mo_call_5 : decode kc_Mo_call 5 = .ok (.bipush 40, 2) := by decide +kernel
theorem kd_Mo_call_7 : decode kc_Mo_call 7 = .ok (.invokevirtual 349, 3) := by decide +kernel
theorem kd_Mo_call_10 : decode kc_Mo_call 10 = .ok (.aload_n 0, 1) := by decide +kernel
theorem kd_Mo_call_11 : decode kc_Mo_call 11 = .ok (.getfield 201, 3) := by decide +kernel
theorem kd_Mo_call_14 : decode kc_Mo_call 14 = .ok (.ifCond .ne 16, 3) := by decide +kernel
theorem kd_Mo_call_17 : decode kc_Mo_call 17 = .ok (.aload_n 0, 1) := by decide +kernel
theorem kd_Mo_call_18 : decode kc_Mo_call 18 = .ok (.bipush 41, 2) := by decide +kernel
theorem kd_Mo_call_20 : decode kc_Mo_call 20 = .ok (.invokevirtual 309, 3) := by decide +kernel
theorem kd_Mo_call_23 : decode kc_Mo_call 23 = .ok (.ifCond .ne 7, 3) := by decide +kernel
theorem kd_Mo_call_26 : decode kc_Mo_call 26 = .ok (.iconst 1, 1) := by decide +kernel
theorem kd_Mo_call_27 : decode kc_Mo_call 27 = .ok (.goto 4, 3) := by decide +kernel
theorem kd_Mo_call_30 : decode kc_Mo_call 30 = .ok (.iconst 0, 1) := by decide +kernel
theorem kd_Mo_call_31 : decode kc_Mo_call 31 = .ok (.istore_n 2, 1) := by decide +kernel
theorem kd_Mo_call_32 : decode kc_Mo_call 32 = .ok (.iload_n 2, 1) := by decide +kernel
theorem kd_Mo_call_33 : decode kc_Mo_call 33 = .ok (.ifCond .eq 26, 3) := by decide +kernel
theorem kd_Mo_call_36 : decode kc_Mo_call 36 = .ok (.aload_n 0, 1) := by decide +kernel
theorem kd_Mo_call_37 : decode kc_Mo_call 37 = .ok (.iload_n 1, 1) := by decide +kernel
theorem kd_Mo_call_38 : decode kc_Mo_call 38 = .ok (.invokevirtual 391, 3) := by decide +kernel
theorem kd_Mo_call_41 : decode kc_Mo_call 41 = .ok (.aload_n 0, 1) := by decide +kernel
theorem kd_Mo_call_42 : decode kc_Mo_call 42 = .ok (.bipush 44, 2) := by decide +kernel
theorem kd_Mo_call_44 : decode kc_Mo_call 44 = .ok (.invokevirtual 309, 3) := by decide +kernel
theorem kd_Mo_call_47 : decode kc_Mo_call 47 = .ok (.istore_n 2, 1) := by decide +kernel
theorem kd_Mo_call_48 : decode kc_Mo_call 48 = .ok (.iload_n 2, 1) := by decide +kernel
theorem kd_Mo_call_49 : decode kc_Mo_call 49 = .ok (.ifCond .eq (-17), 3) := by decide +kernel
theorem kd_Mo_call_52 : decode kc_Mo_call 52 = .ok (.aload_n 0, 1) := by decide +kernel
theorem kd_Mo_call_53 : decode kc_Mo_call 53 = .ok (.invokevirtual 296, 3) := by decide +kernel
theorem kd_Mo_call_56 : decode kc_Mo_call 56 = .ok (.goto (-24), 3) := by decide +kernel
theorem kd_Mo_call_59 : decode kc_Mo_call 59 = .ok (.aload_n 0, 1) := by decide +kernel
theorem kd_Mo_call_60 : decode kc_Mo_call 60 = .ok (.bipush 41, 2) := by decide +kernel
theorem kd_Mo_call_62 : decode kc_Mo_call 62 = .ok (.invokevirtual 349, 3) := by decide +kernel
theorem kd_Mo_call_65 : decode kc_Mo_call 65 = .ok (.aload_n 0, 1) := by decide +kernel
theorem kd_Mo_call_66 : decode kc_Mo_call 66 = .ok (.dup, 1) := by decide +kernel
theorem kd_Mo_call_67 : decode kc_Mo_call 67 = .ok (.getfield 312, 3) := by decide +kernel
theorem kd_Mo_call_70 : decode kc_Mo_call 70 = .ok (.iconst 1, 1) := by decide +kernel
theorem kd_Mo_call_71 : decode kc_Mo_call 71 = .ok (.isub, 1) := by decide +kernel
theorem kd_Mo_call_72 : decode kc_Mo_call 72 = .ok (.putfield 312, 3) := by decide +kernel
theorem kd_Mo_call_75 : decode kc_Mo_call 75 = .ok (.return_, 1) := by decide +kernel
theorem kd_Mo_constant_0 : decode kc_Mo_constant 0 = .ok (.aload_n 0, 1) := by decide +kernel
theorem kd_Mo_constant_1 : decode kc_Mo_constant 1 = .ok (.getfield 214, 3) := by decide +kernel
theorem kd_Mo_constant_4 : decode kc_Mo_constant 4 = .ok (.istore_n 2, 1) := by decide +kernel
theorem kd_Mo_constant_5 : decode kc_Mo_constant 5 = .ok (.aload_n 0, 1) := by decide +kernel
theorem kd_Mo_constant_6 : decode kc_Mo_constant 6 = .ok (.getfield 217, 3) := by decide +kernel
theorem kd_Mo_constant_9 : decode kc_Mo_constant 9 = .ok (.iconst 2, 1) := by decide +kernel
theorem kd_Mo_constant_10 : decode kc_Mo_constant 10 = .ok (.if_icmp .ne 45, 3) := by decide +kernel
theorem kd_Mo_constant_13 : decode kc_Mo_constant 13 = .ok (.aload_n 0, 1) := by decide +kernel
theorem kd_Mo_constant_14 : decode kc_Mo_constant 14 = .ok (.getfield 242, 3) := by decide +kernel
theorem kd_Mo_constant_17 : decode kc_Mo_constant 17 = .ok (.bipush 35, 2) := by decide +kernel
theorem kd_Mo_constant_19 : decode kc_Mo_constant 19 = .ok (.if_icmp .eq 12, 3) := by decide +kernel
theorem kd_Mo_constant_22 : decode kc_Mo_constant 22 = .ok (.aload_n 0, 1) := by decide +kernel
theorem kd_Mo_constant_23 : decode kc_Mo_constant 23 = .ok (.getfield 242, 3) := by decide +kernel
theorem kd_Mo_constant_26 : decode kc_Mo_constant 26 = .ok (.bipush 36, 2) := by decide +kernel
theorem kd_Mo_constant_28 : decode kc_Mo_constant 28 = .ok (.if_icmp .ne 27, 3) := by decide +kernel
theorem kd_Mo_constant_31 : decode kc_Mo_constant 31 = .ok (.aload_n 0, 1) := by decide +kernel
theorem kd_Mo_constant_32 : decode kc_Mo_constant 32 = .ok (.iload_n 1, 1) := by decide +kernel
theorem kd_Mo_constant_33 : decode kc_Mo_constant 33 = .ok (.bipush 31, 2) := by decide +kernel
theorem kd_Mo_constant_35 : decode kc_Mo_constant 35 = .ok (.aload_n 0, 1) := by decide +kernel
theorem kd_Mo_constant_36 : decode kc_Mo_constant 36 = .ok (.getfield 214, 3) := by decide +kernel
theorem kd_Mo_constant_39 : decode kc_Mo_constant 39 = .ok (.bipush 36, 2) := by decide +kernel
theorem kd_Mo_constant_41 : decode kc_Mo_constant 41 = .ok (.aload_n 0, 1) := by decide +kernel
theorem kd_Mo_constant_42 : decode kc_Mo_constant 42 = .ok (.getfield 242, 3) := by decide +kernel
theorem kd_Mo_constant_45 : decode kc_Mo_constant 45 = .ok (.isub, 1) := by decide +kernel
theorem kd_Mo_constant_46 : decode kc_Mo_constant 46 = .ok (.invokevirtual 342, 3) := by decide +kernel
theorem kd_Mo_constant_49 : decode kc_Mo_constant 49 = .ok (.istore_n 3, 1) := by decide +kernel
theorem kd_Mo_constant_50 : decode kc_Mo_constant 50 = .ok (.aload_n 0, 1) := by decide +kernel
theorem kd_Mo_constant_51 : decode kc_Mo_constant 51 = .ok (.invokevirtual 296, 3) := by decide +kernel
theorem kd_Mo_constant_54 : decode kc_Mo_constant 54 = .ok (.return_, 1) := by decide +kernel
theorem kd_Mo_constant_55 : decode kc_Mo_constant 55 = .ok (.aload_n 0, 1) := by decide +kernel
theorem kd_Mo_constant_56 : decode kc_Mo_constant 56 = .ok (.bipush 45, 2) := by decide +kernel
theorem kd_Mo_constant_58 : decode kc_Mo_constant 58 = .ok (.invokevirtual 309, 3) := by decide +kernel
theorem kd_Mo_constant_61 : decode kc_Mo_constant 61 = .ok (.istore_n 3, 1) := by decide +kernel
theorem kd_Mo_constant_62 : decode kc_Mo_constant 62 = .ok (.iload_n 3, 1) := by decide +kernel
theorem kd_Mo_constant_63 : decode kc_Mo_constant 63 = .ok (.ifCond .eq 7, 3) := by decide +kernel
theorem kd_Mo_constant_66 : decode kc_Mo_constant 66 = .ok (.aload_n 0, 1) := by decide +kernel
theorem kd_Mo_constant_67 : decode kc_Mo_constant 67 = .ok (.invokevirtual 296, 3) := by decide +kernel
theorem kd_Mo_constant_70 : decode kc_Mo_constant 70 = .ok (.aload_n 0, 1) := by decide +kernel
theorem kd_Mo_constant_71 : decode kc_Mo_constant 71 = .ok (.getfield 242, 3) := by decide +kernel
theorem kd_Mo_constant_74 : decode kc_Mo_constant 74 = .ok (.istore 4, 2) := by decide +kernel
theorem kd_Mo_constant_76 : decode kc_Mo_constant 76 = .ok (.aload_n 0, 1) := by decide +kernel
theorem kd_Mo_constant_77 : decode kc_Mo_constant 77 = .ok (.aload_n 0, 1) := by decide +kernel
theorem kd_Mo_constant_78 : decode kc_Mo_constant 78 = .ok (.getfield 217, 3) := by decide +kernel
theorem kd_Mo_constant_81 : decode kc_Mo_constant 81 = .ok (.iconst 3, 1) := by decide +kernel
theorem kd_Mo_constant_82 : decode kc_Mo_constant 82 = .ok (.if_icmp .ne 7, 3) := by decide +kernel
theorem kd_Mo_constant_85 : decode kc_Mo_constant 85 = .ok (.iconst 1, 1) := by decide +kernel
theorem kd_Mo_constant_86 : decode kc_Mo_constant 86 = .ok (.goto 4, 3) := by decide +kernel
theorem kd_Mo_constant_89 : decode kc_Mo_constant 89 = .ok (.iconst 0, 1) := by decide +kernel
theorem kd_Mo_constant_90 : decode kc_Mo_constant 90 = .ok (.invokevirtual 305, 3) := by decide +kernel
theorem kd_Mo_constant_93 : decode kc_Mo_constant 93 = .ok (.aload_n 0, 1) := by decide +kernel
theorem kd_Mo_constant_94 : decode kc_Mo_constant 94 = .ok (.iload_n 1, 1) := by decide +kernel
theorem kd_Mo_constant_95 : decode kc_Mo_constant 95 = .ok (.bipush 30, 2) := by decide +kernel
theorem kd_Mo_constant_97 : decode kc_Mo_constant 97 = .ok (.iload_n 2, 1) := by decide +kernel
theorem kd_Mo_constant_98 : decode kc_Mo_constant 98 = .ok (.iload_n 3, 1) := by decide +kernel
theorem kd_Mo_constant_99 : decode kc_Mo_constant 99 = .ok (.ifCond .eq 9, 3) := by decide +kernel
theorem kd_Mo_constant_102 : decode kc_Mo_constant 102 = .ok (.iload 4, 2) := by decide +kernel
theorem kd_Mo_constant_104 : decode kc_Mo_constant 104 = .ok (.ineg, 1) := by decide +kernel
theorem kd_Mo_constant_105 : decode kc_Mo_constant 105 = .ok (.goto 5, 3) := by decide +kernel
theorem kd_Mo_constant_108 : decode kc_Mo_constant 108 = .ok (.iload 4, 2) := by decide +kernel
theorem kd_Mo_constant_110 : decode kc_Mo_constant 110 = .ok (.invokevirtual 342, 3) := by decide +kernel
theorem kd_Mo_constant_113 : decode kc_Mo_constant 113 = .ok (.istore 5, 2) := by decide +kernel
theorem kd_Mo_constant_115 : decode kc_Mo_constant 115 = .ok (.return_, 1) := by decide +kernel
theorem kd_Mo_element_0 : decode kc_Mo_element 0 = .ok (.aload_n 0, 1) := by decide +kernel
theorem kd_Mo_element_1 : decode kc_Mo_element 1 = .ok (.invokevirtual 379, 3) := by decide +kernel
theorem kd_Mo_element_4 : decode kc_Mo_element 4 = .ok (.aload_n 0, 1) := by decide +kernel
theorem kd_Mo_element_5 : decode kc_Mo_element 5 = .ok (.bipush 91, 2) := by decide +kernel
theorem kd_Mo_element_7 : decode kc_Mo_element 7 = .ok (.invokevirtual 349, 3) := by decide +kernel
theorem kd_Mo_element_10 : decode kc_Mo_element 10 = .ok (.aload_n 0, 1) := by decide +kernel
theorem kd_Mo_element_11 : decode kc_Mo_element 11 = .ok (.iload_n 1, 1) := by decide +kernel
theorem kd_Mo_element_12 : decode kc_Mo_element 12 = .ok (.invokevirtual 391, 3) := by decide +kernel
theorem kd_Mo_element_15 : decode kc_Mo_element 15 = .ok (.aload_n 0, 1) := by decide +kernel
theorem kd_Mo_element_16 : decode kc_Mo_element 16 = .ok (.bipush 93, 2) := by decide +kernel
theorem kd_Mo_element_18 : decode kc_Mo_element 18 = .ok (.invokevirtual 349, 3) := by decide +kernel
theorem kd_Mo_element_21 : decode kc_Mo_element 21 = .ok (.aload_n 0, 1) := by decide +kernel
theorem kd_Mo_element_22 : decode kc_Mo_element 22 = .ok (.dup, 1) := by decide +kernel
theorem kd_Mo_element_23 : decode kc_Mo_element 23 = .ok (.getfield 312, 3) := by decide +kernel
theorem kd_Mo_element_26 : decode kc_Mo_element 26 = .ok (.iconst 1, 1) := by decide +kernel
theorem kd_Mo_element_27 : decode kc_Mo_element 27 = .ok (.isub, 1) := by decide +kernel
theorem kd_Mo_element_28 : decode kc_Mo_element 28 = .ok (.putfield 312, 3) := by decide +kernel
theorem kd_Mo_element_31 : decode kc_Mo_element 31 = .ok (.return_, 1) := by decide +kernel
theorem kd_Mo_expression_0 : decode kc_Mo_expression 0 = .ok (.aload_n 0, 1) := by decide +kernel
theorem kd_Mo_expression_1 : decode kc_Mo_expression 1 = .ok (.getfield 201, 3) := by decide +kernel
theorem kd_Mo_expression_4 : decode kc_Mo_expression 4 = .ok (.ifCond .le 4, 3) := by decide +kernel
theorem kd_Mo_expression_7 : decode kc_Mo_expression 7 = .ok (.return_, 1) := by decide +kernel
theorem kd_Mo_expression_8 : decode kc_Mo_expression 8 = .ok (.aload_n 0, 1) := by decide +kernel
theorem kd_Mo_expression_9 : decode kc_Mo_expression 9 = .ok (.getfield 325, 3) := by decide +kernel
theorem kd_Mo_expression_12 : decode kc_Mo_expression 12 = .ok (.istore_n 2, 1) := by decide +kernel
theorem kd_Mo_expression_13 : decode kc_Mo_expression 13 = .ok (.aload_n 0, 1) := by decide +kernel
theorem kd_Mo_expression_14 : decode kc_Mo_expression 14 = .ok (.getfield 312, 3) := by decide +kernel
theorem kd_Mo_expression_17 : decode kc_Mo_expression 17 = .ok (.istore_n 3, 1) := by decide +kernel
theorem kd_Mo_expression_18 : decode kc_Mo_expression 18 = .ok (.aload_n 0, 1) := by decide +kernel
theorem kd_Mo_expression_19 : decode kc_Mo_expression 19 = .ok (.dup, 1) := by decide +kernel
theorem kd_Mo_expression_20 : decode kc_Mo_expression 20 = .ok (.getfield 328, 3) := by decide +kernel
theorem kd_Mo_expression_23 : decode kc_Mo_expression 23 = .ok (.iconst 1, 1) := by decide +kernel
theorem kd_Mo_expression_24 : decode kc_Mo_expression 24 = .ok (.iadd, 1) := by decide +kernel
theorem kd_Mo_expression_25 : decode kc_Mo_expression 25 = .ok (.putfield 328, 3) := by decide +kernel
theorem kd_Mo_expression_28 : decode kc_Mo_expression 28 = .ok (.aload_n 0, 1) := by decide +kernel
theorem kd_Mo_expression_29 : decode kc_Mo_expression 29 = .ok (.invokevirtual 408, 3) := by decide +kernel
theorem kd_Mo_expression_32 : decode kc_Mo_expression 32 = .ok (.aload_n 0, 1) := by decide +kernel
theorem kd_Mo_expression_33 : decode kc_Mo_expression 33 = .ok (.invokevirtual 411, 3) := by decide +kernel
theorem kd_Mo_expression_36 : decode kc_Mo_expression 36 = .ok (.istore 4, 2) := by decide +kernel
theorem kd_Mo_expression_38 : decode kc_Mo_expression 38 = .ok (.iload 4, 2) := by decide +kernel
theorem kd_Mo_expression_40 : decode kc_Mo_expression 40 = .ok (.ifCond .lt 52, 3) := by decide +kernel
theorem kd_Mo_expression_43 : decode kc_Mo_expression 43 = .ok (.aload_n 0, 1) := by decide +kernel
theorem kd_Mo_expression_44 : decode kc_Mo_expression 44 = .ok (.getfield 52, 3) := by decide +kernel
theorem kd_Mo_expression_47 : decode kc_Mo_expression 47 = .ok (.aload_n 0, 1) := by decide +kernel
theorem kd_Mo_expression_48 : decode kc_Mo_expression 48 = .ok (.getfield 325, 3) := by decide +kernel
theorem kd_Mo_expression_51 : decode kc_Mo_expression 51 = .ok (.iconst 1, 1) := by decide +kernel
theorem kd_Mo_expression_52 : decode kc_Mo_expression 52 = .ok (.isub, 1) := by decide +kernel
theorem kd_Mo_expression_53 : decode kc_Mo_expression 53 = .ok (.iload 4, 2) := by decide +kernel
theorem kd_Mo_expression_55 : decode kc_Mo_expression 55 = .ok (.iastore, 1) := by decide +kernel
theorem kd_Mo_expression_56 : decode kc_Mo_expression 56 = .ok (.aload_n 0, 1) := by decide +kernel
theorem kd_Mo_expression_57 : decode kc_Mo_expression 57 = .ok (.getfield 55, 3) := by decide +kernel
theorem kd_Mo_expression_60 : decode kc_Mo_expression 60 = .ok (.aload_n 0, 1) := by decide +kernel
theorem kd_Mo_expression_61 : decode kc_Mo_expression 61 = .ok (.getfield 325, 3) := by decide +kernel
theorem kd_Mo_expression_64 : decode kc_Mo_expression 64 = .ok (.iconst 1, 1) := by decide +kernel
theorem kd_Mo_expression_65 : decode kc_Mo_expression 65 = .ok (.isub, 1) := by decide +kernel
theorem kd_Mo_expression_66 : decode kc_Mo_expression 66 = .ok (.aload_n 0, 1) := by decide +kernel
theorem kd_Mo_expression_67 : decode kc_Mo_expression 67 = .ok (.getfield 214, 3) := by decide +kernel
theorem kd_Mo_expression_70 : decode kc_Mo_expression 70 = .ok (.iastore, 1) := by decide +kernel
theorem kd_Mo_expression_71 : decode kc_Mo_expression 71 = .ok (.aload_n 0, 1) := by decide +kernel
theorem kd_Mo_expression_72 : decode kc_Mo_expression 72 = .ok (.invokevirtual 379, 3) := by decide +kernel
theorem kd_Mo_expression_75 : decode kc_Mo_expression 75 = .ok (.aload_n 0, 1) := by decide +kernel
theorem kd_Mo_expression_76 : decode kc_Mo_expression 76 = .ok (.invokevirtual 414, 3) := by decide +kernel
theorem kd_Mo_expression_79 : decode kc_Mo_expression 79 = .ok (.aload_n 0, 1) := by decide +kernel
theorem kd_Mo_expression_80 : decode kc_Mo_expression 80 = .ok (.invokevirtual 408, 3) := by decide +kernel
theorem kd_Mo_expression_83 : decode kc_Mo_expression 83 = .ok (.aload_n 0, 1) := by decide +kernel
theorem kd_Mo_expression_84 : decode kc_Mo_expression 84 = .ok (.invokevirtual 411, 3) := by decide +kernel
theorem kd_Mo_expression_87 : decode kc_Mo_expression 87 = .ok (.istore 4, 2) := by decide +kernel
theorem kd_Mo_expression_89 : decode kc_Mo_expression 89 = .ok (.goto (-51), 3) := by decide +kernel
theorem kd_Mo_expression_92 : decode kc_Mo_expression 92 = .ok (.aload_n 0, 1) := by decide +kernel
theorem kd_Mo_expression_93 : decode kc_Mo_expression 93 = .ok (.dup, 1) := by decide +kernel
theorem kd_Mo_expression_94 : decode kc_Mo_expression 94 = .ok (.getfield 328, 3) := by decide +kernel
theorem kd_Mo_expression_97 : decode kc_Mo_expression 97 = .ok (.iconst 1, 1) := by decide +kernel
theorem kd_Mo_expression_98 : decode kc_Mo_expression 98 = .ok (.isub, 1) := by decide +kernel
theorem kd_Mo_expression_99 : decode kc_Mo_expression 99 = .ok (.putfield 328, 3) := by decide +kernel
theorem kd_Mo_expression_102 : decode kc_Mo_expression 102 = .ok (.aload_n 0, 1) := by decide +kernel
theorem kd_Mo_expression_103 : decode kc_Mo_expression 103 = .ok (.aload_n 0, 1) := by decide +kernel
theorem kd_Mo_expression_104 : decode kc_Mo_expression 104 = .ok (.getfield 328, 3) := by decide +kernel
theorem kd_Mo_expression_107 : decode kc_Mo_expression 107 = .ok (.ifCond .ne 7, 3) := by decide +kernel
theorem kd_Mo_expression_110 : decode kc_Mo_expression 110 = .ok (.iload_n 3, 1) := by decide +kernel
theorem kd_Mo_expression_111 : decode kc_Mo_expression 111 = .ok (.goto 7, 3) := by decide +kernel
theorem kd_Mo_expression_114 : decode kc_Mo_expression 114 = .ok (.aload_n 0, 1) := by decide +kernel
theorem kd_Mo_expression_115 : decode kc_Mo_expression 115 = .ok (.getfield 312, 3) := by decide +kernel
theorem kd_Mo_expression_118 : decode kc_Mo_expression 118 = .ok (.putfield 312, 3) := by decide +kernel
theorem kd_Mo_expression_121 : decode kc_Mo_expression 121 = .ok (.aload_n 0, 1) := by decide +kernel
theorem kd_Mo_expression_122 : decode kc_Mo_expression 122 = .ok (.getfield 201, 3) := by decide +kernel
theorem kd_Mo_expression_125 : decode kc_Mo_expression 125 = .ok (.ifCond .ne 19, 3) := by decide +kernel
theorem kd_Mo_expression_128 : decode kc_Mo_expression 128 = .ok (.aload_n 0, 1) := by decide +kernel
theorem kd_Mo_expression_129 : decode kc_Mo_expression 129 = .ok (.aload_n 0, 1) := by decide +kernel
theorem kd_Mo_expression_130 : decode kc_Mo_expression 130 = .ok (.iload_n 2, 1) := by decide +kernel
theorem kd_Mo_expression_131 : decode kc_Mo_expression 131 = .ok (.aload_n 0, 1) := by decide +kernel
theorem kd_Mo_expression_132 : decode kc_Mo_expression 132 = .ok (.getfield 325, 3) := by decide +kernel
theorem kd_Mo_expression_135 : decode kc_Mo_expression 135 = .ok (.iconst 1, 1) := by decide +kernel
theorem kd_Mo_expression_136 : decode kc_Mo_expression 136 = .ok (.isub, 1) := by decide +kernel
theorem kd_Mo_expression_137 : decode kc_Mo_expression 137 = .ok (.invokevirtual 417, 3) := by decide +kernel
theorem kd_Mo_expression_140 : decode kc_Mo_expression 140 = .ok (.iload_n 1, 1) := by decide +kernel
theorem kd_Mo_expression_141 : decode kc_Mo_expression 141 = .ok (.invokevirtual 322, 3) := by decide +kernel
theorem kd_Mo_expression_144 : decode kc_Mo_expression 144 = .ok (.aload_n 0, 1) := by decide +kernel
theorem kd_Mo_expression_145 : decode kc_Mo_expression 145 = .ok (.iload_n 2, 1) := by decide +kernel
theorem kd_Mo_expression_146 : decode kc_Mo_expression 146 = .ok (.putfield 325, 3) := by decide +kernel
theorem kd_Mo_expression_149 : decode kc_Mo_expression 149 = .ok (.return_, 1) := by decide +kernel
theorem kd_Mo_invoke_0 : decode kc_Mo_invoke 0 = .ok (.aload_n 0, 1) := by decide +kernel
theorem kd_Mo_invoke_1 : decode kc_Mo_invoke 1 = .ok (.invokevirtual 379, 3) := by decide +kernel
theorem kd_Mo_invoke_4 : decode kc_Mo_invoke 4 = .ok (.aload_n 0, 1) := by decide +kernel
theorem kd_Mo_invoke_5 : decode kc_Mo_invoke 5 = .ok (.bipush 40, 2) := by decide +kernel
theorem kd_Mo_invoke_7 : decode kc_Mo_invoke 7 = .ok (.invokevirtual 349, 3) := by decide +kernel
theorem kd_Mo_invoke_10 : decode kc_Mo_invoke 10 = .ok (.aload_n 0, 1) := by decide +kernel
theorem kd_Mo_invoke_11 : decode kc_Mo_invoke 11 = .ok (.getfield 201, 3) := by decide +kernel
theorem kd_Mo_invoke_14 : decode kc_Mo_invoke 14 = .ok (.ifCond .ne 16, 3) := by decide +kernel
theorem kd_Mo_invoke_17 : decode kc_Mo_invoke 17 = .ok (.aload_n 0, 1) := by decide +kernel
theorem kd_Mo_invoke_18 : decode kc_Mo_invoke 18 = .ok (.bipush 41, 2) := by decide +kernel
theorem kd_Mo_invoke_20 : decode kc_Mo_invoke 20 = .ok (.invokevirtual 309, 3) := by decide +kernel
theorem kd_Mo_invoke_23 : decode kc_Mo_invoke 23 = .ok (.ifCond .ne 7, 3) := by decide +kernel
theorem kd_Mo_invoke_26 : decode kc_Mo_invoke 26 = .ok (.iconst 1, 1) := by decide +kernel
theorem kd_Mo_invoke_27 : decode kc_Mo_invoke 27 = .ok (.goto 4, 3) := by decide +kernel
theorem kd_Mo_invoke_30 : decode kc_Mo_invoke 30 = .ok (.iconst 0, 1) := by decide +kernel
theorem kd_Mo_invoke_31 : decode kc_Mo_invoke 31 = .ok (.istore_n 2, 1) := by decide +kernel
theorem kd_Mo_invoke_32 : decode kc_Mo_invoke 32 = .ok (.iload_n 2, 1) := by decide +kernel
theorem kd_Mo_invoke_33 : decode kc_Mo_invoke 33 = .ok (.ifCond .eq 53, 3) := by decide +kernel
theorem kd_Mo_invoke_36 : decode kc_Mo_invoke 36 = .ok (.aload_n 0, 1) := by decide +kernel
theorem kd_Mo_invoke_37 : decode kc_Mo_invoke 37 = .ok (.getfield 214, 3) := by decide +kernel
theorem kd_Mo_invoke_40 : decode kc_Mo_invoke 40 = .ok (.istore_n 3, 1) := by decide +kernel
theorem kd_Mo_invoke_41 : decode kc_Mo_invoke 41 = .ok (.aload_n 0, 1) := by decide +kernel
theorem kd_Mo_invoke_42 : decode kc_Mo_invoke 42 = .ok (.iload_n 1, 1) := by decide +kernel
theorem kd_Mo_invoke_43 : decode kc_Mo_invoke 43 = .ok (.bipush 14, 2) := by decide +kernel
theorem kd_Mo_invoke_45 : decode kc_Mo_invoke 45 = .ok (.iload_n 3, 1) := by decide +kernel
theorem kd_Mo_invoke_46 : decode kc_Mo_invoke 46 = .ok (.aload_n 0, 1) := by decide +kernel
theorem kd_Mo_invoke_47 : decode kc_Mo_invoke 47 = .ok (.invokevirtual 346, 3) := by decide +kernel
theorem kd_Mo_invoke_50 : decode kc_Mo_invoke 50 = .ok (.invokevirtual 342, 3) := by decide +kernel
theorem kd_Mo_invoke_53 : decode kc_Mo_invoke 53 = .ok (.istore 4, 2) := by decide +kernel
theorem kd_Mo_invoke_55 : decode kc_Mo_invoke 55 = .ok (.aload_n 0, 1) := by decide +kernel
theorem kd_Mo_invoke_56 : decode kc_Mo_invoke 56 = .ok (.sipush 256, 3) := by decide +kernel
theorem kd_Mo_invoke_59 : decode kc_Mo_invoke 59 = .ok (.invokevirtual 349, 3) := by decide +kernel
theorem kd_Mo_invoke_62 : decode kc_Mo_invoke 62 = .ok (.aload_n 0, 1) := by decide +kernel
theorem kd_Mo_invoke_63 : decode kc_Mo_invoke 63 = .ok (.iload 4, 2) := by decide +kernel
theorem kd_Mo_invoke_65 : decode kc_Mo_invoke 65 = .ok (.invokevirtual 391, 3) := by decide +kernel
theorem kd_Mo_invoke_68 : decode kc_Mo_invoke 68 = .ok (.aload_n 0, 1) := by decide +kernel
theorem kd_Mo_invoke_69 : decode kc_Mo_invoke 69 = .ok (.bipush 44, 2) := by decide +kernel
theorem kd_Mo_invoke_71 : decode kc_Mo_invoke 71 = .ok (.invokevirtual 309, 3) := by decide +kernel
theorem kd_Mo_invoke_74 : decode kc_Mo_invoke 74 = .ok (.istore_n 2, 1) := by decide +kernel
theorem kd_Mo_invoke_75 : decode kc_Mo_invoke 75 = .ok (.iload_n 2, 1) := by decide +kernel
theorem kd_Mo_invoke_76 : decode kc_Mo_invoke 76 = .ok (.ifCond .eq 7, 3) := by decide +kernel
theorem kd_Mo_invoke_79 : decode kc_Mo_invoke 79 = .ok (.aload_n 0, 1) := by decide +kernel
theorem kd_Mo_invoke_80 : decode kc_Mo_invoke 80 = .ok (.invokevirtual 296, 3) := by decide +kernel
theorem kd_Mo_invoke_83 : decode kc_Mo_invoke 83 = .ok (.goto (-51), 3) := by decide +kernel
theorem kd_Mo_invoke_86 : decode kc_Mo_invoke 86 = .ok (.aload_n 0, 1) := by decide +kernel
theorem kd_Mo_invoke_87 : decode kc_Mo_invoke 87 = .ok (.bipush 41, 2) := by decide +kernel
theorem kd_Mo_invoke_89 : decode kc_Mo_invoke 89 = .ok (.invokevirtual 349, 3) := by decide +kernel
theorem kd_Mo_invoke_92 : decode kc_Mo_invoke 92 = .ok (.aload_n 0, 1) := by decide +kernel
theorem kd_Mo_invoke_93 : decode kc_Mo_invoke 93 = .ok (.dup, 1) := by decide +kernel
theorem kd_Mo_invoke_94 : decode kc_Mo_invoke 94 = .ok (.getfield 312, 3) := by decide +kernel
theorem kd_Mo_invoke_97 : decode kc_Mo_invoke 97 = .ok (.iconst 1, 1) := by decide +kernel
theorem kd_Mo_invoke_98 : decode kc_Mo_invoke 98 = .ok (.isub, 1) := by decide +kernel
theorem kd_Mo_invoke_99 : decode kc_Mo_invoke 99 = .ok (.putfield 312, 3) := by decide +kernel
theorem kd_Mo_invoke_102 : decode kc_Mo_invoke 102 = .ok (.return_, 1) := by decide +kernel
theorem kd_Mo_nameOperand_0 : decode kc_Mo_nameOperand 0 = .ok (.aload_n 0, 1) := by decide +kernel
theorem kd_Mo_nameOperand_1 : decode kc_Mo_nameOperand 1 = .ok (.getfield 214, 3) := by decide +kernel
theorem kd_Mo_nameOperand_4 : decode kc_Mo_nameOperand 4 = .ok (.istore_n 1, 1) := by decide +kernel
theorem kd_Mo_nameOperand_5 : decode kc_Mo_nameOperand 5 = .ok (.aload_n 0, 1) := by decide +kernel
theorem kd_Mo_nameOperand_6 : decode kc_Mo_nameOperand 6 = .ok (.invokevirtual 346, 3) := by decide +kernel
theorem kd_Mo_nameOperand_9 : decode kc_Mo_nameOperand 9 = .ok (.istore_n 2, 1) := by decide +kernel
theorem kd_Mo_nameOperand_10 : decode kc_Mo_nameOperand 10 = .ok (.aload_n 0, 1) := by decide +kernel
theorem kd_Mo_nameOperand_11 : decode kc_Mo_nameOperand 11 = .ok (.aload_n 0, 1) := by decide +kernel
theorem kd_Mo_nameOperand_12 : decode kc_Mo_nameOperand 12 = .ok (.bipush 91, 2) := by decide +kernel
theorem kd_Mo_nameOperand_14 : decode kc_Mo_nameOperand 14 = .ok (.invokevirtual 309, 3) := by decide +kernel
theorem kd_Mo_nameOperand_17 : decode kc_Mo_nameOperand 17 = .ok (.ifCond .eq 8, 3) := by decide +kernel
theorem kd_Mo_nameOperand_20 : decode kc_Mo_nameOperand 20 = .ok (.bipush 32, 2) := by decide +kernel
theorem kd_Mo_nameOperand_22 : decode kc_Mo_nameOperand 22 = .ok (.goto 33, 3) := by decide +kernel
theorem kd_Mo_nameOperand_25 : decode kc_Mo_nameOperand 25 = .ok (.aload_n 0, 1) := by decide +kernel
theorem kd_Mo_nameOperand_26 : decode kc_Mo_nameOperand 26 = .ok (.bipush 46, 2) := by decide +kernel
theorem kd_Mo_nameOperand_28 : decode kc_Mo_nameOperand 28 = .ok (.invokevirtual 309, 3) := by decide +kernel
theorem kd_Mo_nameOperand_31 : decode kc_Mo_nameOperand 31 = .ok (.ifCond .eq 8, 3) := by decide +kernel
theorem kd_Mo_nameOperand_34 : decode kc_Mo_nameOperand 34 = .ok (.bipush 33, 2) := by decide +kernel
theorem kd_Mo_nameOperand_36 : decode kc_Mo_nameOperand 36 = .ok (.goto 19, 3) := by decide +kernel
theorem kd_Mo_nameOperand_39 : decode kc_Mo_nameOperand 39 = .ok (.aload_n 0, 1) := by decide +kernel
theorem kd_Mo_nameOperand_40 : decode kc_Mo_nameOperand 40 = .ok (.bipush 40, 2) := by decide +kernel
theorem kd_Mo_nameOperand_42 : decode kc_Mo_nameOperand 42 = .ok (.invokevirtual 309, 3) := by decide +kernel
theorem kd_Mo_nameOperand_45 : decode kc_Mo_nameOperand 45 = .ok (.ifCond .eq 8, 3) := by decide +kernel
theorem kd_Mo_nameOperand_48 : decode kc_Mo_nameOperand 48 = .ok (.bipush 34, 2) := by decide +kernel
theorem kd_Mo_nameOperand_50 : decode kc_Mo_nameOperand 50 = .ok (.goto 5, 3) := by decide +kernel
theorem kd_Mo_nameOperand_53 : decode kc_Mo_nameOperand 53 = .ok (.bipush 6, 2) := by decide +kernel
theorem kd_Mo_nameOperand_55 : decode kc_Mo_nameOperand 55 = .ok (.iload_n 1, 1) := by decide +kernel
theorem kd_Mo_nameOperand_56 : decode kc_Mo_nameOperand 56 = .ok (.iload_n 2, 1) := by decide +kernel
theorem kd_Mo_nameOperand_57 : decode kc_Mo_nameOperand 57 = .ok (.invokevirtual 318, 3) := by decide +kernel
theorem kd_Mo_nameOperand_60 : decode kc_Mo_nameOperand 60 = .ok (.istore_n 3, 1) := by decide +kernel
theorem kd_Mo_nameOperand_61 : decode kc_Mo_nameOperand 61 = .ok (.aload_n 0, 1) := by decide +kernel
theorem kd_Mo_nameOperand_62 : decode kc_Mo_nameOperand 62 = .ok (.bipush 91, 2) := by decide +kernel
theorem kd_Mo_nameOperand_64 : decode kc_Mo_nameOperand 64 = .ok (.invokevirtual 309, 3) := by decide +kernel
theorem kd_Mo_nameOperand_67 : decode kc_Mo_nameOperand 67 = .ok (.ifCond .eq 11, 3) := by decide +kernel
theorem kd_Mo_nameOperand_70 : decode kc_Mo_nameOperand 70 = .ok (.aload_n 0, 1) := by decide +kernel
theorem kd_Mo_nameOperand_71 : decode kc_Mo_nameOperand 71 = .ok (.iload_n 3, 1) := by decide +kernel
theorem kd_Mo_nameOperand_72 : decode kc_Mo_nameOperand 72 = .ok (.invokevirtual 405, 3) := by decide +kernel
theorem kd_Mo_nameOperand_75 : decode kc_Mo_nameOperand 75 = .ok (.goto 67, 3) := by decide +kernel
theorem kd_Mo_nameOperand_78 : decode kc_Mo_nameOperand 78 = .ok (.aload_n 0, 1) := by decide +kernel
theorem kd_Mo_nameOperand_79 : decode kc_Mo_nameOperand 79 = .ok (.bipush 46, 2) := by decide +kernel
theorem kd_Mo_nameOperand_81 : decode kc_Mo_nameOperand 81 = .ok (.invokevirtual 309, 3) := by decide +kernel
theorem kd_Mo_nameOperand_84 : decode kc_Mo_nameOperand 84 = .ok (.ifCond .eq 44, 3) := by decide +kernel
theorem kd_Mo_nameOperand_87 : decode kc_Mo_nameOperand 87 = .ok (.aload_n 0, 1) := by decide +kernel
theorem kd_Mo_nameOperand_88 : decode kc_Mo_nameOperand 88 = .ok (.invokevirtual 296, 3) := by decide +kernel
theorem kd_Mo_nameOperand_91 : decode kc_Mo_nameOperand 91 = .ok (.aload_n 0, 1) := by decide +kernel
theorem kd_Mo_nameOperand_92 : decode kc_Mo_nameOperand 92 = .ok (.iload_n 3, 1) := by decide +kernel
theorem kd_Mo_nameOperand_93 : decode kc_Mo_nameOperand 93 = .ok (.bipush 6, 2) := by decide +kernel
theorem kd_Mo_nameOperand_95 : decode kc_Mo_nameOperand 95 = .ok (.aload_n 0, 1) := by decide +kernel
theorem kd_Mo_nameOperand_96 : decode kc_Mo_nameOperand 96 = .ok (.getfield 214, 3) := by decide +kernel
theorem kd_Mo_nameOperand_99 : decode kc_Mo_nameOperand 99 = .ok (.aload_n 0, 1) := by decide +kernel
theorem kd_Mo_nameOperand_100 : decode kc_Mo_nameOperand 100 = .ok (.getfield 242, 3) := by decide +kernel
theorem kd_Mo_nameOperand_103 : decode kc_Mo_nameOperand 103 = .ok (.invokevirtual 342, 3) := by decide +kernel
theorem kd_Mo_nameOperand_106 : decode kc_Mo_nameOperand 106 = .ok (.istore 4, 2) := by decide +kernel
theorem kd_Mo_nameOperand_108 : decode kc_Mo_nameOperand 108 = .ok (.aload_n 0, 1) := by decide +kernel
theorem kd_Mo_nameOperand_109 : decode kc_Mo_nameOperand 109 = .ok (.aload_n 0, 1) := by decide +kernel
theorem kd_Mo_nameOperand_110 : decode kc_Mo_nameOperand 110 = .ok (.getfield 217, 3) := by decide +kernel
theorem kd_Mo_nameOperand_113 : decode kc_Mo_nameOperand 113 = .ok (.iconst 1, 1) := by decide +kernel
theorem kd_Mo_nameOperand_114 : decode kc_Mo_nameOperand 114 = .ok (.if_icmp .ne 7, 3) := by decide +kernel
theorem kd_Mo_nameOperand_117 : decode kc_Mo_nameOperand 117 = .ok (.iconst 1, 1) := by decide +kernel
theorem kd_Mo_nameOperand_118 : decode kc_Mo_nameOperand 118 = .ok (.goto 4, 3) := by decide +kernel
theorem kd_Mo_nameOperand_121 : decode kc_Mo_nameOperand 121 = .ok (.iconst 0, 1) := by decide +kernel
theorem kd_Mo_nameOperand_122 : decode kc_Mo_nameOperand 122 = .ok (.invokevirtual 305, 3) := by decide +kernel
theorem kd_Mo_nameOperand_125 : decode kc_Mo_nameOperand 125 = .ok (.goto 17, 3) := by decide +kernel
theorem kd_Mo_nameOperand_128 : decode kc_Mo_nameOperand 128 = .ok (.aload_n 0, 1) := by decide +kernel
theorem kd_Mo_nameOperand_129 : decode kc_Mo_nameOperand 129 = .ok (.bipush 40, 2) := by decide +kernel
theorem kd_Mo_nameOperand_131 : decode kc_Mo_nameOperand 131 = .ok (.invokevirtual 309, 3) := by decide +kernel
theorem kd_Mo_nameOperand_134 : decode kc_Mo_nameOperand 134 = .ok (.ifCond .eq 8, 3) := by decide +kernel
theorem kd_Mo_nameOperand_137 : decode kc_Mo_nameOperand 137 = .ok (.aload_n 0, 1) := by decide +kernel
theorem kd_Mo_nameOperand_138 : decode kc_Mo_nameOperand 138 = .ok (.iload_n 3, 1) := by decide +kernel
theorem kd_Mo_nameOperand_139 : decode kc_Mo_nameOperand 139 = .ok (.invokevirtual 433, 3) := by decide +kernel
theorem kd_Mo_nameOperand_142 : decode kc_Mo_nameOperand 142 = .ok (.aload_n 0, 1) := by decide +kernel
theorem kd_Mo_nameOperand_143 : decode kc_Mo_nameOperand 143 = .ok (.iload_n 3, 1) := by decide +kernel
theorem kd_Mo_nameOperand_144 : decode kc_Mo_nameOperand 144 = .ok (.invokevirtual 424, 3) := by decide +kernel
theorem kd_Mo_nameOperand_147 : decode kc_Mo_nameOperand 147 = .ok (.return_, 1) := by decide +kernel
theorem kd_Mo_named_0 : decode kc_Mo_named 0 = .ok (.aload_n 0, 1) := by decide +kernel
theorem kd_Mo_named_1 : decode kc_Mo_named 1 = .ok (.getfield 214, 3) := by decide +kernel
theorem kd_Mo_named_4 : decode kc_Mo_named 4 = .ok (.istore_n 2, 1) := by decide +kernel
theorem kd_Mo_named_5 : decode kc_Mo_named 5 = .ok (.aload_n 0, 1) := by decide +kernel
theorem kd_Mo_named_6 : decode kc_Mo_named 6 = .ok (.invokevirtual 346, 3) := by decide +kernel
theorem kd_Mo_named_9 : decode kc_Mo_named 9 = .ok (.istore_n 3, 1) := by decide +kernel
theorem kd_Mo_named_10 : decode kc_Mo_named 10 = .ok (.aload_n 0, 1) := by decide +kernel
theorem kd_Mo_named_11 : decode kc_Mo_named 11 = .ok (.bipush 40, 2) := by decide +kernel
theorem kd_Mo_named_13 : decode kc_Mo_named 13 = .ok (.invokevirtual 309, 3) := by decide +kernel
theorem kd_Mo_named_16 : decode kc_Mo_named 16 = .ok (.ifCond .eq 17, 3) := by decide +kernel
theorem kd_Mo_named_19 : decode kc_Mo_named 19 = .ok (.aload_n 0, 1) := by decide +kernel
theorem kd_Mo_named_20 : decode kc_Mo_named 20 = .ok (.aload_n 0, 1) := by decide +kernel
theorem kd_Mo_named_21 : decode kc_Mo_named 21 = .ok (.iload_n 1, 1) := by decide +kernel
theorem kd_Mo_named_22 : decode kc_Mo_named 22 = .ok (.bipush 13, 2) := by decide +kernel
theorem kd_Mo_named_24 : decode kc_Mo_named 24 = .ok (.iload_n 2, 1) := by decide +kernel
theorem kd_Mo_named_25 : decode kc_Mo_named 25 = .ok (.iload_n 3, 1) := by decide +kernel
theorem kd_Mo_named_26 : decode kc_Mo_named 26 = .ok (.invokevirtual 342, 3) := by decide +kernel
theorem kd_Mo_named_29 : decode kc_Mo_named 29 = .ok (.invokevirtual 402, 3) := by decide +kernel
theorem kd_Mo_named_32 : decode kc_Mo_named 32 = .ok (.return_, 1) := by decide +kernel
theorem kd_Mo_named_33 : decode kc_Mo_named 33 = .ok (.aload_n 0, 1) := by decide +kernel
theorem kd_Mo_named_34 : decode kc_Mo_named 34 = .ok (.iload_n 1, 1) := by decide +kernel
theorem kd_Mo_named_35 : decode kc_Mo_named 35 = .ok (.bipush 12, 2) := by decide +kernel
theorem kd_Mo_named_37 : decode kc_Mo_named 37 = .ok (.iconst 0, 1) := by decide +kernel
theorem kd_Mo_named_38 : decode kc_Mo_named 38 = .ok (.iconst 0, 1) := by decide +kernel
theorem kd_Mo_named_39 : decode kc_Mo_named 39 = .ok (.invokevirtual 342, 3) := by decide +kernel
theorem kd_Mo_named_42 : decode kc_Mo_named 42 = .ok (.istore 4, 2) := by decide +kernel
theorem kd_Mo_named_44 : decode kc_Mo_named 44 = .ok (.aload_n 0, 1) := by decide +kernel
theorem kd_Mo_named_45 : decode kc_Mo_named 45 = .ok (.bipush 91, 2) := by decide +kernel
theorem kd_Mo_named_47 : decode kc_Mo_named 47 = .ok (.invokevirtual 309, 3) := by decide +kernel
theorem kd_Mo_named_50 : decode kc_Mo_named 50 = .ok (.ifCond .eq 20, 3) := by decide +kernel
theorem kd_Mo_named_53 : decode kc_Mo_named 53 = .ok (.aload_n 0, 1) := by decide +kernel
theorem kd_Mo_named_54 : decode kc_Mo_named 54 = .ok (.aload_n 0, 1) := by decide +kernel
theorem kd_Mo_named_55 : decode kc_Mo_named 55 = .ok (.iload 4, 2) := by decide +kernel
theorem kd_Mo_named_57 : decode kc_Mo_named 57 = .ok (.bipush 32, 2) := by decide +kernel
theorem kd_Mo_named_59 : decode kc_Mo_named 59 = .ok (.iload_n 2, 1) := by decide +kernel
theorem kd_Mo_named_60 : decode kc_Mo_named 60 = .ok (.iload_n 3, 1) := by decide +kernel
theorem kd_Mo_named_61 : decode kc_Mo_named 61 = .ok (.invokevirtual 342, 3) := by decide +kernel
theorem kd_Mo_named_64 : decode kc_Mo_named 64 = .ok (.invokevirtual 405, 3) := by decide +kernel
theorem kd_Mo_named_67 : decode kc_Mo_named 67 = .ok (.goto 15, 3) := by decide +kernel
theorem kd_Mo_named_70 : decode kc_Mo_named 70 = .ok (.aload_n 0, 1) := by decide +kernel
theorem kd_Mo_named_71 : decode kc_Mo_named 71 = .ok (.iload 4, 2) := by decide +kernel
theorem kd_Mo_named_73 : decode kc_Mo_named 73 = .ok (.bipush 6, 2) := by decide +kernel
theorem kd_Mo_named_75 : decode kc_Mo_named 75 = .ok (.iload_n 2, 1) := by decide +kernel
theorem kd_Mo_named_76 : decode kc_Mo_named 76 = .ok (.iload_n 3, 1) := by decide +kernel
theorem kd_Mo_named_77 : decode kc_Mo_named 77 = .ok (.invokevirtual 342, 3) := by decide +kernel
theorem kd_Mo_named_80 : decode kc_Mo_named 80 = .ok (.istore 5, 2) := by decide +kernel
theorem kd_Mo_named_82 : decode kc_Mo_named 82 = .ok (.aload_n 0, 1) := by decide +kernel
theorem kd_Mo_named_83 : decode kc_Mo_named 83 = .ok (.getfield 25, 3) := by decide +kernel
theorem kd_Mo_named_86 : decode kc_Mo_named 86 = .ok (.iload 4, 2) := by decide +kernel
theorem kd_Mo_named_88 : decode kc_Mo_named 88 = .ok (.aload_n 0, 1) := by decide +kernel
theorem kd_Mo_named_89 : decode kc_Mo_named 89 = .ok (.getfield 214, 3) := by decide +kernel
theorem kd_Mo_named_92 : decode kc_Mo_named 92 = .ok (.iastore, 1) := by decide +kernel
theorem kd_Mo_named_93 : decode kc_Mo_named 93 = .ok (.aload_n 0, 1) := by decide +kernel
theorem kd_Mo_named_94 : decode kc_Mo_named 94 = .ok (.sipush 256, 3) := by decide +kernel
theorem kd_Mo_named_97 : decode kc_Mo_named 97 = .ok (.invokevirtual 349, 3) := by decide +kernel
theorem kd_Mo_named_100 : decode kc_Mo_named 100 = .ok (.aload_n 0, 1) := by decide +kernel
theorem kd_Mo_named_101 : decode kc_Mo_named 101 = .ok (.iload 4, 2) := by decide +kernel
theorem kd_Mo_named_103 : decode kc_Mo_named 103 = .ok (.invokevirtual 391, 3) := by decide +kernel
theorem kd_Mo_named_106 : decode kc_Mo_named 106 = .ok (.return_, 1) := by decide +kernel
theorem kd_Mo_operand_0 : decode kc_Mo_operand 0 = .ok (.aload_n 0, 1) := by decide +kernel
theorem kd_Mo_operand_1 : decode kc_Mo_operand 1 = .ok (.getfield 201, 3) := by decide +kernel
theorem kd_Mo_operand_4 : decode kc_Mo_operand 4 = .ok (.ifCond .le 4, 3) := by decide +kernel
theorem kd_Mo_operand_7 : decode kc_Mo_operand 7 = .ok (.return_, 1) := by decide +kernel
theorem kd_Mo_operand_8 : decode kc_Mo_operand 8 = .ok (.aload_n 0, 1) := by decide +kernel
theorem kd_Mo_operand_9 : decode kc_Mo_operand 9 = .ok (.bipush 45, 2) := by decide +kernel
theorem kd_Mo_operand_11 : decode kc_Mo_operand 11 = .ok (.invokevirtual 309, 3) := by decide +kernel
theorem kd_Mo_operand_14 : decode kc_Mo_operand 14 = .ok (.ifCond .ne 12, 3) := by decide +kernel
theorem kd_Mo_operand_17 : decode kc_Mo_operand 17 = .ok (.aload_n 0, 1) := by decide +kernel
theorem kd_Mo_operand_18 : decode kc_Mo_operand 18 = .ok (.bipush 34, 2) := by decide +kernel
theorem kd_Mo_operand_20 : decode kc_Mo_operand 20 = .ok (.invokevirtual 302, 3) := by decide +kernel
theorem kd_Mo_operand_23 : decode kc_Mo_operand 23 = .ok (.ifCond .eq 88, 3) := by decide +kernel
theorem kd_Mo_operand_26 : decode kc_Mo_operand 26 = .ok (.aload_n 0, 1) := by decide +kernel
theorem kd_Mo_operand_27 : decode kc_Mo_operand 27 = .ok (.bipush 36, 2) := by decide +kernel
theorem kd_Mo_operand_29 : decode kc_Mo_operand 29 = .ok (.aload_n 0, 1) := by decide +kernel
theorem kd_Mo_operand_30 : decode kc_Mo_operand 30 = .ok (.getfield 214, 3) := by decide +kernel
theorem kd_Mo_operand_33 : decode kc_Mo_operand 33 = .ok (.aload_n 0, 1) := by decide +kernel
theorem kd_Mo_operand_34 : decode kc_Mo_operand 34 = .ok (.getfield 217, 3) := by decide +kernel
theorem kd_Mo_operand_37 : decode kc_Mo_operand 37 = .ok (.iconst 5, 1) := by decide +kernel
theorem kd_Mo_operand_38 : decode kc_Mo_operand 38 = .ok (.if_icmp .ne 7, 3) := by decide +kernel
theorem kd_Mo_operand_41 : decode kc_Mo_operand 41 = .ok (.iconst 0, 1) := by decide +kernel
theorem kd_Mo_operand_42 : decode kc_Mo_operand 42 = .ok (.goto 4, 3) := by decide +kernel
theorem kd_Mo_operand_45 : decode kc_Mo_operand 45 = .ok (.iconst 1, 1) := by decide +kernel
theorem kd_Mo_operand_46 : decode kc_Mo_operand 46 = .ok (.invokevirtual 318, 3) := by decide +kernel
theorem kd_Mo_operand_49 : decode kc_Mo_operand 49 = .ok (.istore_n 1, 1) := by decide +kernel
theorem kd_Mo_operand_50 : decode kc_Mo_operand 50 = .ok (.aload_n 0, 1) := by decide +kernel
theorem kd_Mo_operand_51 : decode kc_Mo_operand 51 = .ok (.invokevirtual 379, 3) := by decide +kernel
theorem kd_Mo_operand_54 : decode kc_Mo_operand 54 = .ok (.aload_n 0, 1) := by decide +kernel
theorem kd_Mo_operand_55 : decode kc_Mo_operand 55 = .ok (.invokevirtual 414, 3) := by decide +kernel
theorem kd_Mo_operand_58 : decode kc_Mo_operand 58 = .ok (.aload_n 0, 1) := by decide +kernel
theorem kd_Mo_operand_59 : decode kc_Mo_operand 59 = .ok (.invokevirtual 408, 3) := by decide +kernel
theorem kd_Mo_operand_62 : decode kc_Mo_operand 62 = .ok (.aload_n 0, 1) := by decide +kernel
theorem kd_Mo_operand_63 : decode kc_Mo_operand 63 = .ok (.dup, 1) := by decide +kernel
theorem kd_Mo_operand_64 : decode kc_Mo_operand 64 = .ok (.getfield 312, 3) := by decide +kernel
theorem kd_Mo_operand_67 : decode kc_Mo_operand 67 = .ok (.iconst 1, 1) := by decide +kernel
theorem kd_Mo_operand_68 : decode kc_Mo_operand 68 = .ok (.isub, 1) := by decide +kernel
theorem kd_Mo_operand_69 : decode kc_Mo_operand 69 = .ok (.putfield 312, 3) := by decide +kernel
theorem kd_Mo_operand_72 : decode kc_Mo_operand 72 = .ok (.aload_n 0, 1) := by decide +kernel
theorem kd_Mo_operand_73 : decode kc_Mo_operand 73 = .ok (.getfield 201, 3) := by decide +kernel
theorem kd_Mo_operand_76 : decode kc_Mo_operand 76 = .ok (.ifCond .ne 32, 3) := by decide +kernel
theorem kd_Mo_operand_79 : decode kc_Mo_operand 79 = .ok (.aload_n 0, 1) := by decide +kernel
theorem kd_Mo_operand_80 : decode kc_Mo_operand 80 = .ok (.dup, 1) := by decide +kernel
theorem kd_Mo_operand_81 : decode kc_Mo_operand 81 = .ok (.getfield 325, 3) := by decide +kernel
theorem kd_Mo_operand_84 : decode kc_Mo_operand 84 = .ok (.iconst 1, 1) := by decide +kernel
theorem kd_Mo_operand_85 : decode kc_Mo_operand 85 = .ok (.isub, 1) := by decide +kernel
theorem kd_Mo_operand_86 : decode kc_Mo_operand 86 = .ok (.putfield 325, 3) := by decide +kernel
theorem kd_Mo_operand_89 : decode kc_Mo_operand 89 = .ok (.aload_n 0, 1) := by decide +kernel
theorem kd_Mo_operand_90 : decode kc_Mo_operand 90 = .ok (.aload_n 0, 1) := by decide +kernel
theorem kd_Mo_operand_91 : decode kc_Mo_operand 91 = .ok (.getfield 49, 3) := by decide +kernel
theorem kd_Mo_operand_94 : decode kc_Mo_operand 94 = .ok (.aload_n 0, 1) := by decide +kernel
theorem kd_Mo_operand_95 : decode kc_Mo_operand 95 = .ok (.getfield 325, 3) := by decide +kernel
theorem kd_Mo_operand_98 : decode kc_Mo_operand 98 = .ok (.iaload, 1) := by decide +kernel
theorem kd_Mo_operand_99 : decode kc_Mo_operand 99 = .ok (.iload_n 1, 1) := by decide +kernel
theorem kd_Mo_operand_100 : decode kc_Mo_operand 100 = .ok (.invokevirtual 322, 3) := by decide +kernel
theorem kd_Mo_operand_103 : decode kc_Mo_operand 103 = .ok (.aload_n 0, 1) := by decide +kernel
theorem kd_Mo_operand_104 : decode kc_Mo_operand 104 = .ok (.iload_n 1, 1) := by decide +kernel
theorem kd_Mo_operand_105 : decode kc_Mo_operand 105 = .ok (.invokevirtual 424, 3) := by decide +kernel
theorem kd_Mo_operand_108 : decode kc_Mo_operand 108 = .ok (.goto 117, 3) := by decide +kernel
theorem kd_Mo_operand_111 : decode kc_Mo_operand 111 = .ok (.aload_n 0, 1) := by decide +kernel
theorem kd_Mo_operand_112 : decode kc_Mo_operand 112 = .ok (.getfield 217, 3) := by decide +kernel
theorem kd_Mo_operand_115 : decode kc_Mo_operand 115 = .ok (.iconst 3, 1) := by decide +kernel
theorem kd_Mo_operand_116 : decode kc_Mo_operand 116 = .ok (.if_icmp .ne 28, 3) := by decide +kernel
theorem kd_Mo_operand_119 : decode kc_Mo_operand 119 = .ok (.aload_n 0, 1) := by decide +kernel
theorem kd_Mo_operand_120 : decode kc_Mo_operand 120 = .ok (.aload_n 0, 1) := by decide +kernel
theorem kd_Mo_operand_121 : decode kc_Mo_operand 121 = .ok (.bipush 30, 2) := by decide +kernel
theorem kd_Mo_operand_123 : decode kc_Mo_operand 123 = .ok (.aload_n 0, 1) := by decide +kernel
theorem kd_Mo_operand_124 : decode kc_Mo_operand 124 = .ok (.getfield 214, 3) := by decide +kernel
theorem kd_Mo_operand_127 : decode kc_Mo_operand 127 = .ok (.aload_n 0, 1) := by decide +kernel
theorem kd_Mo_operand_128 : decode kc_Mo_operand 128 = .ok (.getfield 242, 3) := by decide +kernel
theorem kd_Mo_operand_131 : decode kc_Mo_operand 131 = .ok (.invokevirtual 318, 3) := by decide +kernel
theorem kd_Mo_operand_134 : decode kc_Mo_operand 134 = .ok (.invokevirtual 424, 3) := by decide +kernel
theorem kd_Mo_operand_137 : decode kc_Mo_operand 137 = .ok (.aload_n 0, 1) := by decide +kernel
theorem kd_Mo_operand_138 : decode kc_Mo_operand 138 = .ok (.invokevirtual 296, 3) := by decide +kernel
theorem kd_Mo_operand_141 : decode kc_Mo_operand 141 = .ok (.goto 84, 3) := by decide +kernel
theorem kd_Mo_operand_144 : decode kc_Mo_operand 144 = .ok (.aload_n 0, 1) := by decide +kernel
theorem kd_Mo_operand_145 : decode kc_Mo_operand 145 = .ok (.bipush 35, 2) := by decide +kernel
theorem kd_Mo_operand_147 : decode kc_Mo_operand 147 = .ok (.invokevirtual 302, 3) := by decide +kernel
theorem kd_Mo_operand_150 : decode kc_Mo_operand 150 = .ok (.ifCond .ne 12, 3) := by decide +kernel
theorem kd_Mo_operand_153 : decode kc_Mo_operand 153 = .ok (.aload_n 0, 1) := by decide +kernel
theorem kd_Mo_operand_154 : decode kc_Mo_operand 154 = .ok (.bipush 36, 2) := by decide +kernel
theorem kd_Mo_operand_156 : decode kc_Mo_operand 156 = .ok (.invokevirtual 302, 3) := by decide +kernel
theorem kd_Mo_operand_159 : decode kc_Mo_operand 159 = .ok (.ifCond .eq 31, 3) := by decide +kernel
theorem kd_Mo_operand_162 : decode kc_Mo_operand 162 = .ok (.aload_n 0, 1) := by decide +kernel
theorem kd_Mo_operand_163 : decode kc_Mo_operand 163 = .ok (.aload_n 0, 1) := by decide +kernel
theorem kd_Mo_operand_164 : decode kc_Mo_operand 164 = .ok (.bipush 31, 2) := by decide +kernel
theorem kd_Mo_operand_166 : decode kc_Mo_operand 166 = .ok (.aload_n 0, 1) := by decide +kernel
theorem kd_Mo_operand_167 : decode kc_Mo_operand 167 = .ok (.getfield 214, 3) := by decide +kernel
theorem kd_Mo_operand_170 : decode kc_Mo_operand 170 = .ok (.bipush 36, 2) := by decide +kernel
theorem kd_Mo_operand_172 : decode kc_Mo_operand 172 = .ok (.aload_n 0, 1) := by decide +kernel
theorem kd_Mo_operand_173 : decode kc_Mo_operand 173 = .ok (.getfield 242, 3) := by decide +kernel
theorem kd_Mo_operand_176 : decode kc_Mo_operand 176 = .ok (.isub, 1) := by decide +kernel
theorem kd_Mo_operand_177 : decode kc_Mo_operand 177 = .ok (.invokevirtual 318, 3) := by decide +kernel
theorem kd_Mo_operand_180 : decode kc_Mo_operand 180 = .ok (.invokevirtual 424, 3) := by decide +kernel
theorem kd_Mo_operand_183 : decode kc_Mo_operand 183 = .ok (.aload_n 0, 1) := by decide +kernel
theorem kd_Mo_operand_184 : decode kc_Mo_operand 184 = .ok (.invokevirtual 296, 3) := by decide +kernel
theorem kd_Mo_operand_187 : decode kc_Mo_operand 187 = .ok (.goto 38, 3) := by decide +kernel
theorem kd_Mo_operand_190 : decode kc_Mo_operand 190 = .ok (.aload_n 0, 1) := by decide +kernel
theorem kd_Mo_operand_191 : decode kc_Mo_operand 191 = .ok (.bipush 40, 2) := by decide +kernel
theorem kd_Mo_operand_193 : decode kc_Mo_operand 193 = .ok (.invokevirtual 309, 3) := by decide +kernel
theorem kd_Mo_operand_196 : decode kc_Mo_operand 196 = .ok (.ifCond .eq 10, 3) := by decide +kernel
theorem kd_Mo_operand_199 : decode kc_Mo_operand 199 = .ok (.aload_n 0, 1) := by decide +kernel
theorem kd_Mo_operand_200 : decode kc_Mo_operand 200 = .ok (.invokevirtual 427, 3) := by decide +kernel
theorem kd_Mo_operand_203 : decode kc_Mo_operand 203 = .ok (.goto 22, 3) := by decide +kernel
theorem kd_Mo_operand_206 : decode kc_Mo_operand 206 = .ok (.aload_n 0, 1) := by decide +kernel
theorem kd_Mo_operand_207 : decode kc_Mo_operand 207 = .ok (.getfield 217, 3) := by decide +kernel
theorem kd_Mo_operand_210 : decode kc_Mo_operand 210 = .ok (.iconst 1, 1) := by decide +kernel
theorem kd_Mo_operand_211 : decode kc_Mo_operand 211 = .ok (.if_icmp .ne 10, 3) := by decide +kernel
theorem kd_Mo_operand_214 : decode kc_Mo_operand 214 = .ok (.aload_n 0, 1) := by decide +kernel
theorem kd_Mo_operand_215 : decode kc_Mo_operand 215 = .ok (.invokevirtual 430, 3) := by decide +kernel
theorem kd_Mo_operand_218 : decode kc_Mo_operand 218 = .ok (.goto 7, 3) := by decide +kernel
theorem kd_Mo_operand_221 : decode kc_Mo_operand 221 = .ok (.aload_n 0, 1) := by decide +kernel
theorem kd_Mo_operand_222 : decode kc_Mo_operand 222 = .ok (.invokevirtual 299, 3) := by decide +kernel
theorem kd_Mo_operand_225 : decode kc_Mo_operand 225 = .ok (.return_, 1) := by decide +kernel
set_option maxHeartbeats 4000000 in
set_option maxRecDepth 100000 in
theorem zg_Mo_bracket {l : Launch} {D : va_G} {sz0 : Nat} {S : zs_T} {P : ze_T} {d : Nat} {r_Mo_expression : zs_H → Int32 → (Option zs_H)} (hr_Mo_expression : ∀ (h : zs_H) (x0 : Int32) {rh : zs_H}, r_Mo_expression h x0 = some rh → zk_Sp (zs_G S l D sz0) (ze_E P) km_Mo_expression { frames := 402 + d, cells := 0, slots := 0, locals := 9648 + 24 * d } [.ref (S.1 68), .int x0] (zs_W S h) (zd_PV S rh)) (h : zs_H) {rh : zs_H} (e : g_Mo_bracket r_Mo_expression h = some rh) : zk_Sp (zs_G S l D sz0) (ze_E P) km_Mo_bracket { frames := 402 + (d + 1), cells := 0, slots := 0, locals := 9648 + 24 * (d + 1) } [.ref (S.1 68)] (zs_W S h) (zd_PV S rh) := by
  refine zk_met ku_Mo_bracket (Nat.le_of_ble_eq_true rfl) (ze_Em P) ?_
  intro X C hR
  refine zk_lvs (lv' := [(0, .ref (S.1 68))]) [0] rfl ?_
  unfold g_Mo_bracket at e
  refine zk_aload_n C kd_Mo_bracket_0 rfl 0 rfl rfl ?_
  refine zk_bipush (v := 99) C kd_Mo_bracket_1 (by decide) rfl ?_
  refine zk_aload_n C kd_Mo_bracket_3 rfl 0 rfl rfl ?_
  refine zs_get (v := .int (h.1 68 7)) C 68 7 rfl rfl rfl rfl ki_Mo (by decide) kw1690 kd_Mo_bracket_4 rfl ?_
  refine zk_iconst (v := 0) C kd_Mo_bracket_7 (by decide) rfl ?_
  obtain ⟨v2, h3, c1, e⟩ := zd_Be e
  refine zs_callV (k := 68) (rn := { frames := 0, cells := 0, slots := 0, locals := 0 }) (As := [.int 99, .int (h.1 68 7), .int 0]) (rest := []) C (zc_Mo_node h 99 (h.1 68 7) 0 c1) ku_Mo_node kw2085 kv_Mo_node rfl (zd_rmO (by decide) (by decide)) ⟨Nat.le_refl _, Nat.le_refl _⟩ rfl rfl rfl (Nat.le_of_ble_eq_true rfl) kd_Mo_bracket_8 rfl (c1 := 0) (s1 := 0) rfl rfl (fun v w hp => ?_)
  obtain ⟨rfl, rfl⟩ := hp
  refine zk_stk (r' := [.int v2]) rfl ?_
  refine zk_istore_n (lv' := [(1, _), (0, _)]) C kd_Mo_bracket_11 rfl (by decide) rfl rfl ?_
  refine zk_aload_n C kd_Mo_bracket_12 rfl 1 rfl rfl ?_
  obtain ⟨h5, c4, e⟩ := zd_b e
  refine zs_callV (k := 68) (rn := { frames := 1, cells := 0, slots := 0, locals := 22 }) (As := []) (rest := []) C (zc_Mo_open h3 c4) ku_Mo_open kw2173 kv_Mo_open rfl (zd_rmO (by decide) (by decide)) ⟨Nat.le_refl _, Nat.le_refl _⟩ rfl rfl rfl (Nat.le_of_ble_eq_true rfl) kd_Mo_bracket_13 rfl (c1 := 0) (s1 := 0) rfl rfl (fun v w hp => ?_)
  obtain ⟨rfl, rfl⟩ := hp
  refine zk_stk (r' := []) rfl ?_
  refine zk_aload_n C kd_Mo_bracket_16 rfl 1 rfl rfl ?_
  obtain ⟨h7, c6, e⟩ := zd_b e
  refine zs_callV (k := 68) (rn := { frames := 7, cells := 0, slots := 0, locals := 150 }) (As := []) (rest := []) C (zc_Mo_next2 h5 c6) ku_Mo_next2 kw2185 kv_Mo_next2 rfl (zd_rmO (by decide) (by decide)) ⟨Nat.le_refl _, Nat.le_refl _⟩ rfl rfl rfl (Nat.le_of_ble_eq_true rfl) kd_Mo_bracket_17 rfl (c1 := 0) (s1 := 0) rfl rfl (fun v w hp => ?_)
  obtain ⟨rfl, rfl⟩ := hp
  refine zk_stk (r' := []) rfl ?_
  refine zk_aload_n C kd_Mo_bracket_20 rfl 1 rfl rfl ?_
  refine zk_iload_n C kd_Mo_bracket_21 rfl 0 rfl rfl ?_
  obtain ⟨h9, c8, e⟩ := zd_b e
  refine zs_callV (k := 68) (rn := { frames := 402 + d, cells := 0, slots := 0, locals := 9648 + 24 * d }) (As := [.int v2]) (rest := []) C (hr_Mo_expression h7 v2 c8) ku_Mo_expression kw2177 kv_Mo_expression rfl (zd_rmI (by decide)) ⟨Nat.le_refl _, Nat.le_refl _⟩ rfl rfl rfl (Nat.le_of_ble_eq_true rfl) kd_Mo_bracket_22 rfl (c1 := 0) (s1 := 0) rfl rfl (fun v w hp => ?_)
  obtain ⟨rfl, rfl⟩ := hp
  refine zk_stk (r' := []) rfl ?_
  refine zk_aload_n C kd_Mo_bracket_25 rfl 1 rfl rfl ?_
  refine zk_bipush (v := 41) C kd_Mo_bracket_26 (by decide) rfl ?_
  obtain ⟨h11, c10, e⟩ := zd_b e
  refine zs_callV (k := 68) (rn := { frames := 8, cells := 0, slots := 0, locals := 171 }) (As := [.int 41]) (rest := []) C (zc_Mo_wantSign h9 41 c10) ku_Mo_wantSign kw2113 kv_Mo_wantSign rfl (zd_rmO (by decide) (by decide)) ⟨Nat.le_refl _, Nat.le_refl _⟩ rfl rfl rfl (Nat.le_of_ble_eq_true rfl) kd_Mo_bracket_28 rfl (c1 := 0) (s1 := 0) rfl rfl (fun v w hp => ?_)
  obtain ⟨rfl, rfl⟩ := hp
  refine zk_stk (r' := []) rfl ?_
  refine zk_aload_n C kd_Mo_bracket_31 rfl 1 rfl rfl ?_
  refine zk_dup C kd_Mo_bracket_32 rfl rfl ?_
  refine zs_get (v := .int (h11.1 68 12)) C 68 12 rfl rfl rfl rfl ki_Mo (by decide) kw1695 kd_Mo_bracket_33 rfl ?_
  refine zk_iconst (v := 1) C kd_Mo_bracket_36 (by decide) rfl ?_
  refine zk_isub C kd_Mo_bracket_37 rfl ?_
  refine zs_put (ty := .int) C 68 12 ((h11.1 68 12) - 1) rfl rfl rfl rfl ki_Mo ky_Mo ko_Mo kn_Mo (by decide) kw1695 rfl rfl rfl rfl (by decide) kd_Mo_bracket_38 rfl ?_
  refine zk_aload_n C kd_Mo_bracket_41 rfl 1 rfl rfl ?_
  refine zs_get (v := .int (h11.1 68 10)) C 68 10 rfl rfl rfl rfl ki_Mo (by decide) kw1693 kd_Mo_bracket_42 rfl ?_
  refine zk_if_ne (tgt := 70) C kd_Mo_bracket_45 (by decide) rfl (fun b12 => ?_) (fun b12 => ?_)
  · replace e := zd_neg b12 e
    exact zk_vret C hR kd_Mo_bracket_70 rfl rfl (zd_rV e)
  · replace e := zd_pos b12 e
    refine zk_aload_n C kd_Mo_bracket_48 rfl 1 rfl rfl ?_
    refine zk_aload_n C kd_Mo_bracket_49 rfl 1 rfl rfl ?_
    refine zs_get (v := .ref (S.1 76)) C 68 19 rfl rfl rfl rfl ki_Mo (by decide) kw1702 kd_Mo_bracket_50 rfl ?_
    refine zk_iload_n C kd_Mo_bracket_53 rfl 0 rfl rfl ?_
    obtain ⟨q13, e⟩ := zd_g e
    refine zs_iald C 76 rfl (zd_vp q13) kd_Mo_bracket_54 rfl ?_
    refine zk_stk (r' := [.int (h11.2.1 76 v2.toNatClampNeg), .ref (S.1 68)]) rfl ?_
    obtain ⟨h15, c14, e⟩ := zd_b e
    refine zs_callV (k := 68) (rn := { frames := 0, cells := 0, slots := 0, locals := 0 }) (As := [.int (h11.2.1 76 v2.toNatClampNeg)]) (rest := []) C (zc_Mo_keep (zs_uF h11 68 12 ((h11.1 68 12) - 1)) (h11.2.1 76 v2.toNatClampNeg) c14) ku_Mo_keep kw2189 kv_Mo_keep rfl (zd_rmO (by decide) (by decide)) ⟨Nat.le_refl _, Nat.le_refl _⟩ rfl rfl rfl (Nat.le_of_ble_eq_true rfl) kd_Mo_bracket_55 rfl (c1 := 0) (s1 := 0) rfl rfl (fun v w hp => ?_)
    obtain ⟨rfl, rfl⟩ := hp
    refine zk_stk (r' := []) rfl ?_
    refine zk_aload_n C kd_Mo_bracket_58 rfl 1 rfl rfl ?_
    refine zs_get (v := .ref (S.1 75)) C 68 18 rfl rfl rfl rfl ki_Mo (by decide) kw1701 kd_Mo_bracket_59 rfl ?_
    refine zk_aload_n C kd_Mo_bracket_62 rfl 1 rfl rfl ?_
    refine zs_get (v := .ref (S.1 76)) C 68 19 rfl rfl rfl rfl ki_Mo (by decide) kw1702 kd_Mo_bracket_63 rfl ?_
    refine zk_iload_n C kd_Mo_bracket_66 rfl 0 rfl rfl ?_
    obtain ⟨q16, e⟩ := zd_g e
    refine zs_iald C 76 rfl (zd_vp q16) kd_Mo_bracket_67 rfl ?_
    refine zk_iconst (v := (-1)) C kd_Mo_bracket_68 (by decide) rfl ?_
    obtain ⟨q17, e⟩ := zd_g e
    refine zs_iast C 75 rfl (zd_vp q17) kd_Mo_bracket_69 rfl ?_
    exact zk_vret C hR kd_Mo_bracket_70 rfl rfl (zd_rV e)
set_option maxHeartbeats 4000000 in
set_option maxRecDepth 100000 in
theorem zb_Mo_call_32 {X : zkj_T} {S : zs_T} {P : ze_T} {l : Launch} {D : va_G} {sz0 : Nat} {d : Nat} {rh : zs_H} (C : zk_C X km_Mo_call (zs_G S l D sz0) { frames := 402 + (d + 1), cells := 0, slots := 0, locals := 9648 + 24 * (d + 1) } (ze_E P)) (hR : zkj_R X (zd_PV S rh) (none)) {r_Mo_expression : zs_H → Int32 → (Option zs_H)} (hr_Mo_expression : ∀ (h : zs_H) (x0 : Int32) {rh : zs_H}, r_Mo_expression h x0 = some rh → zk_Sp (zs_G S l D sz0) (ze_E P) km_Mo_expression { frames := 402 + d, cells := 0, slots := 0, locals := 9648 + 24 * d } [.ref (S.1 68), .int x0] (zs_W S h) (zd_PV S rh)) {k32 : zs_H → Int32 → Int32 → (Option zs_H)} (hk32 : ∀ (h : zs_H) (x1 : Int32) (x2 : Int32), k32 h x1 x2 = some rh → zk_Ab X (zs_W S h) 0 0 32 [(0, .ref (S.1 68)), (1, .int x1), (2, .int x2)] []) (h : zs_H) (x1 : Int32) (x2 : Int32) (e : f_Mo_call_32 r_Mo_expression k32 h x1 x2 = some rh) : zk_Ab X (zs_W S h) 0 0 32 [(0, .ref (S.1 68)), (1, .int x1), (2, .int x2)] [] := by
  unfold f_Mo_call_32 at e
  refine zk_iload_n C kd_Mo_call_32 rfl 2 rfl rfl ?_
  refine zk_if_eq (tgt := 59) C kd_Mo_call_33 (by decide) rfl (fun b1 => ?_) (fun b1 => ?_)
  · replace e := zd_pos b1 e
    refine zk_aload_n C kd_Mo_call_59 rfl 0 rfl rfl ?_
    refine zk_bipush (v := 41) C kd_Mo_call_60 (by decide) rfl ?_
    obtain ⟨h3, c2, e⟩ := zd_b e
    refine zs_callV (k := 68) (rn := { frames := 8, cells := 0, slots := 0, locals := 171 }) (As := [.int 41]) (rest := []) C (zc_Mo_wantSign h 41 c2) ku_Mo_wantSign kw2113 kv_Mo_wantSign rfl (zd_rmO (by decide) (by decide)) ⟨Nat.le_refl _, Nat.le_refl _⟩ rfl rfl rfl (Nat.le_of_ble_eq_true rfl) kd_Mo_call_62 rfl (c1 := 0) (s1 := 0) rfl rfl (fun v w hp => ?_)
    obtain ⟨rfl, rfl⟩ := hp
    refine zk_stk (r' := []) rfl ?_
    refine zk_aload_n C kd_Mo_call_65 rfl 0 rfl rfl ?_
    refine zk_dup C kd_Mo_call_66 rfl rfl ?_
    refine zs_get (v := .int (h3.1 68 12)) C 68 12 rfl rfl rfl rfl ki_Mo (by decide) kw1695 kd_Mo_call_67 rfl ?_
    refine zk_iconst (v := 1) C kd_Mo_call_70 (by decide) rfl ?_
    refine zk_isub C kd_Mo_call_71 rfl ?_
    refine zs_put (ty := .int) C 68 12 ((h3.1 68 12) - 1) rfl rfl rfl rfl ki_Mo ky_Mo ko_Mo kn_Mo (by decide) kw1695 rfl rfl rfl rfl (by decide) kd_Mo_call_72 rfl ?_
    exact zk_vret C hR kd_Mo_call_75 rfl rfl (zd_rV e)
  · replace e := zd_neg b1 e
    refine zk_aload_n C kd_Mo_call_36 rfl 0 rfl rfl ?_
    refine zk_iload_n C kd_Mo_call_37 rfl 1 rfl rfl ?_
    obtain ⟨h5, c4, e⟩ := zd_b e
    refine zs_callV (k := 68) (rn := { frames := 402 + d, cells := 0, slots := 0, locals := 9648 + 24 * d }) (As := [.int x1]) (rest := []) C (hr_Mo_expression h x1 c4) ku_Mo_expression kw2177 kv_Mo_expression rfl (zd_rmI (by decide)) ⟨Nat.le_refl _, Nat.le_refl _⟩ rfl rfl rfl (Nat.le_of_ble_eq_true rfl) kd_Mo_call_38 rfl (c1 := 0) (s1 := 0) rfl rfl (fun v w hp => ?_)
    obtain ⟨rfl, rfl⟩ := hp
    refine zk_stk (r' := []) rfl ?_
    refine zk_aload_n C kd_Mo_call_41 rfl 0 rfl rfl ?_
    refine zk_bipush (v := 44) C kd_Mo_call_42 (by decide) rfl ?_
    refine zs_callV (k := 68) (rn := { frames := 0, cells := 0, slots := 0, locals := 0 }) (As := [.int 44]) (rest := []) C (zc_Mo_isSign h5 44) ku_Mo_isSign kw2117 kv_Mo_isSign rfl (zd_rmO (by decide) (by decide)) ⟨Nat.le_refl _, Nat.le_refl _⟩ rfl rfl rfl (Nat.le_of_ble_eq_true rfl) kd_Mo_call_44 rfl (c1 := 0) (s1 := 0) rfl rfl (fun v w hp => ?_)
    obtain ⟨rfl, rfl, z6⟩ := hp
    refine zk_stk (r' := [.int (f_Mo_isSign h5 44)]) rfl ?_
    refine zk_istore_n (lv' := [(2, _), (0, _), (1, _)]) C kd_Mo_call_47 rfl (by decide) rfl rfl ?_
    refine zk_iload_n C kd_Mo_call_48 rfl 0 rfl rfl ?_
    refine zk_if_eq (tgt := 32) C kd_Mo_call_49 (by decide) rfl (fun b7 => ?_) (fun b7 => ?_)
    · replace e := zd_pos b7 e
      refine zk_lvs (lv' := [(0, .ref (S.1 68)), (1, .int x1), (2, .int (f_Mo_isSign h5 44))]) [1, 2, 0] rfl ?_
      exact hk32 h5 x1 (f_Mo_isSign h5 44) e
    · replace e := zd_neg b7 e
      refine zk_aload_n C kd_Mo_call_52 rfl 1 rfl rfl ?_
      obtain ⟨h9, c8, e⟩ := zd_b e
      refine zs_callV (k := 68) (rn := { frames := 6, cells := 0, slots := 0, locals := 129 }) (As := []) (rest := []) C (zc_Mo_next h5 c8) ku_Mo_next kw2001 kv_Mo_next rfl (zd_rmO (by decide) (by decide)) ⟨Nat.le_refl _, Nat.le_refl _⟩ rfl rfl rfl (Nat.le_of_ble_eq_true rfl) kd_Mo_call_53 rfl (c1 := 0) (s1 := 0) rfl rfl (fun v w hp => ?_)
      obtain ⟨rfl, rfl⟩ := hp
      refine zk_stk (r' := []) rfl ?_
      refine zk_goto (tgt := 32) C kd_Mo_call_56 (by decide) ?_
      refine zk_lvs (lv' := [(0, .ref (S.1 68)), (1, .int x1), (2, .int (f_Mo_isSign h5 44))]) [1, 2, 0] rfl ?_
      exact hk32 h9 x1 (f_Mo_isSign h5 44) e
theorem zl_Mo_call_32 {X : zkj_T} {S : zs_T} {P : ze_T} {l : Launch} {D : va_G} {sz0 : Nat} {d : Nat} {rh : zs_H} (C : zk_C X km_Mo_call (zs_G S l D sz0) { frames := 402 + (d + 1), cells := 0, slots := 0, locals := 9648 + 24 * (d + 1) } (ze_E P)) (hR : zkj_R X (zd_PV S rh) (none)) {r_Mo_expression : zs_H → Int32 → (Option zs_H)} (hr_Mo_expression : ∀ (h : zs_H) (x0 : Int32) {rh : zs_H}, r_Mo_expression h x0 = some rh → zk_Sp (zs_G S l D sz0) (ze_E P) km_Mo_expression { frames := 402 + d, cells := 0, slots := 0, locals := 9648 + 24 * d } [.ref (S.1 68), .int x0] (zs_W S h) (zd_PV S rh)) (n : Nat) : ∀ (h : zs_H) (x1 : Int32) (x2 : Int32), f_Mo_call_L32 r_Mo_expression n h x1 x2 = some rh → zk_Ab X (zs_W S h) 0 0 32 [(0, .ref (S.1 68)), (1, .int x1), (2, .int x2)] [] := by
  induction n with
  | zero => intro h x1 x2 e; exact zd_no e
  | succ n ih => intro h x1 x2 e; exact zb_Mo_call_32 (k32 := f_Mo_call_L32 r_Mo_expression n) C hR hr_Mo_expression ih h x1 x2 e
set_option maxHeartbeats 4000000 in
set_option maxRecDepth 100000 in
theorem zb_Mo_call_31 {X : zkj_T} {S : zs_T} {P : ze_T} {l : Launch} {D : va_G} {sz0 : Nat} {d : Nat} {rh : zs_H} (C : zk_C X km_Mo_call (zs_G S l D sz0) { frames := 402 + (d + 1), cells := 0, slots := 0, locals := 9648 + 24 * (d + 1) } (ze_E P)) (hR : zkj_R X (zd_PV S rh) (none)) {r_Mo_expression : zs_H → Int32 → (Option zs_H)} (hr_Mo_expression : ∀ (h : zs_H) (x0 : Int32) {rh : zs_H}, r_Mo_expression h x0 = some rh → zk_Sp (zs_G S l D sz0) (ze_E P) km_Mo_expression { frames := 402 + d, cells := 0, slots := 0, locals := 9648 + 24 * d } [.ref (S.1 68), .int x0] (zs_W S h) (zd_PV S rh)) (h : zs_H) (x1 : Int32) (y0 : Int32) (e : f_Mo_call_31 r_Mo_expression h x1 y0 = some rh) : zk_Ab X (zs_W S h) 0 0 31 [(0, .ref (S.1 68)), (1, .int x1)] [.int y0] := by
  unfold f_Mo_call_31 at e
  refine zk_istore_n (lv' := [(2, _), (0, _), (1, _)]) C kd_Mo_call_31 rfl (by decide) rfl rfl ?_
  refine zk_lvs (lv' := [(0, .ref (S.1 68)), (1, .int x1), (2, .int y0)]) [1, 2, 0] rfl ?_
  exact zl_Mo_call_32 C hR hr_Mo_expression zF h x1 y0 e
set_option maxHeartbeats 4000000 in
set_option maxRecDepth 100000 in
theorem zb_Mo_call_30 {X : zkj_T} {S : zs_T} {P : ze_T} {l : Launch} {D : va_G} {sz0 : Nat} {d : Nat} {rh : zs_H} (C : zk_C X km_Mo_call (zs_G S l D sz0) { frames := 402 + (d + 1), cells := 0, slots := 0, locals := 9648 + 24 * (d + 1) } (ze_E P)) (hR : zkj_R X (zd_PV S rh) (none)) {r_Mo_expression : zs_H → Int32 → (Option zs_H)} (hr_Mo_expression : ∀ (h : zs_H) (x0 : Int32) {rh : zs_H}, r_Mo_expression h x0 = some rh → zk_Sp (zs_G S l D sz0) (ze_E P) km_Mo_expression { frames := 402 + d, cells := 0, slots := 0, locals := 9648 + 24 * d } [.ref (S.1 68), .int x0] (zs_W S h) (zd_PV S rh)) (h : zs_H) (x1 : Int32) (e : f_Mo_call_30 r_Mo_expression h x1 = some rh) : zk_Ab X (zs_W S h) 0 0 30 [(0, .ref (S.1 68)), (1, .int x1)] [] := by
  unfold f_Mo_call_30 at e
  refine zk_iconst (v := 0) C kd_Mo_call_30 (by decide) rfl ?_
  refine zk_lvs (lv' := [(0, .ref (S.1 68)), (1, .int x1)]) [0, 1] rfl ?_
  exact zb_Mo_call_31 C hR hr_Mo_expression h x1 0 e
set_option maxHeartbeats 4000000 in
set_option maxRecDepth 100000 in
theorem zg_Mo_call {l : Launch} {D : va_G} {sz0 : Nat} {S : zs_T} {P : ze_T} {d : Nat} {r_Mo_expression : zs_H → Int32 → (Option zs_H)} (hr_Mo_expression : ∀ (h : zs_H) (x0 : Int32) {rh : zs_H}, r_Mo_expression h x0 = some rh → zk_Sp (zs_G S l D sz0) (ze_E P) km_Mo_expression { frames := 402 + d, cells := 0, slots := 0, locals := 9648 + 24 * d } [.ref (S.1 68), .int x0] (zs_W S h) (zd_PV S rh)) (h : zs_H) (x1 : Int32) {rh : zs_H} (e : g_Mo_call r_Mo_expression h x1 = some rh) : zk_Sp (zs_G S l D sz0) (ze_E P) km_Mo_call { frames := 402 + (d + 1), cells := 0, slots := 0, locals := 9648 + 24 * (d + 1) } [.ref (S.1 68), .int x1] (zs_W S h) (zd_PV S rh) := by
  refine zk_met ku_Mo_call (Nat.le_of_ble_eq_true rfl) (ze_Em P) ?_
  intro X C hR
  refine zk_lvs (lv' := [(0, .ref (S.1 68)), (1, .int x1)]) [0, 1] rfl ?_
  unfold g_Mo_call at e
  refine zk_aload_n C kd_Mo_call_0 rfl 0 rfl rfl ?_
  obtain ⟨h2, c1, e⟩ := zd_b e
  refine zs_callV (k := 68) (rn := { frames := 1, cells := 0, slots := 0, locals := 22 }) (As := []) (rest := []) C (zc_Mo_open h c1) ku_Mo_open kw2173 kv_Mo_open rfl (zd_rmO (by decide) (by decide)) ⟨Nat.le_refl _, Nat.le_refl _⟩ rfl rfl rfl (Nat.le_of_ble_eq_true rfl) kd_Mo_call_1 rfl (c1 := 0) (s1 := 0) rfl rfl (fun v w hp => ?_)
  obtain ⟨rfl, rfl⟩ := hp
  refine zk_stk (r' := []) rfl ?_
  refine zk_aload_n C kd_Mo_call_4 rfl 0 rfl rfl ?_
  refine zk_bipush (v := 40) C kd_Mo_call_5 (by decide) rfl ?_
  obtain ⟨h4, c3, e⟩ := zd_b e
  refine zs_callV (k := 68) (rn := { frames := 8, cells := 0, slots := 0, locals := 171 }) (As := [.int 40]) (rest := []) C (zc_Mo_wantSign h2 40 c3) ku_Mo_wantSign kw2113 kv_Mo_wantSign rfl (zd_rmO (by decide) (by decide)) ⟨Nat.le_refl _, Nat.le_refl _⟩ rfl rfl rfl (Nat.le_of_ble_eq_true rfl) kd_Mo_call_7 rfl (c1 := 0) (s1 := 0) rfl rfl (fun v w hp => ?_)
  obtain ⟨rfl, rfl⟩ := hp
  refine zk_stk (r' := []) rfl ?_
  refine zk_aload_n C kd_Mo_call_10 rfl 0 rfl rfl ?_
  refine zs_get (v := .int (h4.1 68 10)) C 68 10 rfl rfl rfl rfl ki_Mo (by decide) kw1693 kd_Mo_call_11 rfl ?_
  refine zk_if_ne (tgt := 30) C kd_Mo_call_14 (by decide) rfl (fun b5 => ?_) (fun b5 => ?_)
  · replace e := zd_neg b5 e
    refine zk_lvs (lv' := [(0, .ref (S.1 68)), (1, .int x1)]) [0, 1] rfl ?_
    exact zb_Mo_call_30 C hR hr_Mo_expression h4 x1 e
  · replace e := zd_pos b5 e
    refine zk_aload_n C kd_Mo_call_17 rfl 0 rfl rfl ?_
    refine zk_bipush (v := 41) C kd_Mo_call_18 (by decide) rfl ?_
    refine zs_callV (k := 68) (rn := { frames := 0, cells := 0, slots := 0, locals := 0 }) (As := [.int 41]) (rest := []) C (zc_Mo_isSign h4 41) ku_Mo_isSign kw2117 kv_Mo_isSign rfl (zd_rmO (by decide) (by decide)) ⟨Nat.le_refl _, Nat.le_refl _⟩ rfl rfl rfl (Nat.le_of_ble_eq_true rfl) kd_Mo_call_20 rfl (c1 := 0) (s1 := 0) rfl rfl (fun v w hp => ?_)
    obtain ⟨rfl, rfl, z6⟩ := hp
    refine zk_stk (r' := [.int (f_Mo_isSign h4 41)]) rfl ?_
    refine zk_if_ne (tgt := 30) C kd_Mo_call_23 (by decide) rfl (fun b7 => ?_) (fun b7 => ?_)
    · replace e := zd_neg b7 e
      refine zk_lvs (lv' := [(0, .ref (S.1 68)), (1, .int x1)]) [0, 1] rfl ?_
      exact zb_Mo_call_30 C hR hr_Mo_expression h4 x1 e
    · replace e := zd_pos b7 e
      refine zk_iconst (v := 1) C kd_Mo_call_26 (by decide) rfl ?_
      refine zk_goto (tgt := 31) C kd_Mo_call_27 (by decide) ?_
      refine zk_lvs (lv' := [(0, .ref (S.1 68)), (1, .int x1)]) [0, 1] rfl ?_
      exact zb_Mo_call_31 C hR hr_Mo_expression h4 x1 1 e
set_option maxHeartbeats 4000000 in
set_option maxRecDepth 100000 in
theorem zg_Mo_element {l : Launch} {D : va_G} {sz0 : Nat} {S : zs_T} {P : ze_T} {d : Nat} {r_Mo_expression : zs_H → Int32 → (Option zs_H)} (hr_Mo_expression : ∀ (h : zs_H) (x0 : Int32) {rh : zs_H}, r_Mo_expression h x0 = some rh → zk_Sp (zs_G S l D sz0) (ze_E P) km_Mo_expression { frames := 402 + d, cells := 0, slots := 0, locals := 9648 + 24 * d } [.ref (S.1 68), .int x0] (zs_W S h) (zd_PV S rh)) (h : zs_H) (x1 : Int32) {rh : zs_H} (e : g_Mo_element r_Mo_expression h x1 = some rh) : zk_Sp (zs_G S l D sz0) (ze_E P) km_Mo_element { frames := 402 + (d + 1), cells := 0, slots := 0, locals := 9648 + 24 * (d + 1) } [.ref (S.1 68), .int x1] (zs_W S h) (zd_PV S rh) := by
  refine zk_met ku_Mo_element (Nat.le_of_ble_eq_true rfl) (ze_Em P) ?_
  intro X C hR
  refine zk_lvs (lv' := [(0, .ref (S.1 68)), (1, .int x1)]) [0, 1] rfl ?_
  unfold g_Mo_element at e
  refine zk_aload_n C kd_Mo_element_0 rfl 0 rfl rfl ?_
  obtain ⟨h2, c1, e⟩ := zd_b e
  refine zs_callV (k := 68) (rn := { frames := 1, cells := 0, slots := 0, locals := 22 }) (As := []) (rest := []) C (zc_Mo_open h c1) ku_Mo_open kw2173 kv_Mo_open rfl (zd_rmO (by decide) (by decide)) ⟨Nat.le_refl _, Nat.le_refl _⟩ rfl rfl rfl (Nat.le_of_ble_eq_true rfl) kd_Mo_element_1 rfl (c1 := 0) (s1 := 0) rfl rfl (fun v w hp => ?_)
  obtain ⟨rfl, rfl⟩ := hp
  refine zk_stk (r' := []) rfl ?_
  refine zk_aload_n C kd_Mo_element_4 rfl 0 rfl rfl ?_
  refine zk_bipush (v := 91) C kd_Mo_element_5 (by decide) rfl ?_
  obtain ⟨h4, c3, e⟩ := zd_b e
  refine zs_callV (k := 68) (rn := { frames := 8, cells := 0, slots := 0, locals := 171 }) (As := [.int 91]) (rest := []) C (zc_Mo_wantSign h2 91 c3) ku_Mo_wantSign kw2113 kv_Mo_wantSign rfl (zd_rmO (by decide) (by decide)) ⟨Nat.le_refl _, Nat.le_refl _⟩ rfl rfl rfl (Nat.le_of_ble_eq_true rfl) kd_Mo_element_7 rfl (c1 := 0) (s1 := 0) rfl rfl (fun v w hp => ?_)
  obtain ⟨rfl, rfl⟩ := hp
  refine zk_stk (r' := []) rfl ?_
  refine zk_aload_n C kd_Mo_element_10 rfl 0 rfl rfl ?_
  refine zk_iload_n C kd_Mo_element_11 rfl 1 rfl rfl ?_
  obtain ⟨h6, c5, e⟩ := zd_b e
  refine zs_callV (k := 68) (rn := { frames := 402 + d, cells := 0, slots := 0, locals := 9648 + 24 * d }) (As := [.int x1]) (rest := []) C (hr_Mo_expression h4 x1 c5) ku_Mo_expression kw2177 kv_Mo_expression rfl (zd_rmI (by decide)) ⟨Nat.le_refl _, Nat.le_refl _⟩ rfl rfl rfl (Nat.le_of_ble_eq_true rfl) kd_Mo_element_12 rfl (c1 := 0) (s1 := 0) rfl rfl (fun v w hp => ?_)
  obtain ⟨rfl, rfl⟩ := hp
  refine zk_stk (r' := []) rfl ?_
  refine zk_aload_n C kd_Mo_element_15 rfl 0 rfl rfl ?_
  refine zk_bipush (v := 93) C kd_Mo_element_16 (by decide) rfl ?_
  obtain ⟨h8, c7, e⟩ := zd_b e
  refine zs_callV (k := 68) (rn := { frames := 8, cells := 0, slots := 0, locals := 171 }) (As := [.int 93]) (rest := []) C (zc_Mo_wantSign h6 93 c7) ku_Mo_wantSign kw2113 kv_Mo_wantSign rfl (zd_rmO (by decide) (by decide)) ⟨Nat.le_refl _, Nat.le_refl _⟩ rfl rfl rfl (Nat.le_of_ble_eq_true rfl) kd_Mo_element_18 rfl (c1 := 0) (s1 := 0) rfl rfl (fun v w hp => ?_)
  obtain ⟨rfl, rfl⟩ := hp
  refine zk_stk (r' := []) rfl ?_
  refine zk_aload_n C kd_Mo_element_21 rfl 0 rfl rfl ?_
  refine zk_dup C kd_Mo_element_22 rfl rfl ?_
  refine zs_get (v := .int (h8.1 68 12)) C 68 12 rfl rfl rfl rfl ki_Mo (by decide) kw1695 kd_Mo_element_23 rfl ?_
  refine zk_iconst (v := 1) C kd_Mo_element_26 (by decide) rfl ?_
  refine zk_isub C kd_Mo_element_27 rfl ?_
  refine zs_put (ty := .int) C 68 12 ((h8.1 68 12) - 1) rfl rfl rfl rfl ki_Mo ky_Mo ko_Mo kn_Mo (by decide) kw1695 rfl rfl rfl rfl (by decide) kd_Mo_element_28 rfl ?_
  exact zk_vret C hR kd_Mo_element_31 rfl rfl (zd_rV e)
set_option maxHeartbeats 4000000 in
set_option maxRecDepth 100000 in
theorem zb_Mo_expression_144 {X : zkj_T} {S : zs_T} {P : ze_T} {l : Launch} {D : va_G} {sz0 : Nat} {d : Nat} {rh : zs_H} (C : zk_C X km_Mo_expression (zs_G S l D sz0) { frames := 402 + (d + 1), cells := 0, slots := 0, locals := 9648 + 24 * (d + 1) } (ze_E P)) (hR : zkj_R X (zd_PV S rh) (none)) (h : zs_H) (x2 : Int32) (e : f_Mo_expression_144 h x2 = some rh) : zk_Ab X (zs_W S h) 0 0 144 [(0, .ref (S.1 68)), (2, .int x2)] [] := by
  unfold f_Mo_expression_144 at e
  refine zk_aload_n C kd_Mo_expression_144 rfl 0 rfl rfl ?_
  refine zk_iload_n C kd_Mo_expression_145 rfl 1 rfl rfl ?_
  refine zs_put (ty := .int) C 68 25 x2 rfl rfl rfl rfl ki_Mo ky_Mo ko_Mo kn_Mo (by decide) kw1708 rfl rfl rfl rfl (by decide) kd_Mo_expression_146 rfl ?_
  exact zk_vret C hR kd_Mo_expression_149 rfl rfl (zd_rV e)
set_option maxHeartbeats 4000000 in
set_option maxRecDepth 100000 in
theorem zb_Mo_expression_118 {X : zkj_T} {S : zs_T} {P : ze_T} {l : Launch} {D : va_G} {sz0 : Nat} {d : Nat} {rh : zs_H} (C : zk_C X km_Mo_expression (zs_G S l D sz0) { frames := 402 + (d + 1), cells := 0, slots := 0, locals := 9648 + 24 * (d + 1) } (ze_E P)) (hR : zkj_R X (zd_PV S rh) (none)) (h : zs_H) (x1 : Int32) (x2 : Int32) (y0 : Int32) (e : f_Mo_expression_118 h x1 x2 y0 = some rh) : zk_Ab X (zs_W S h) 0 0 118 [(0, .ref (S.1 68)), (1, .int x1), (2, .int x2)] [.int y0, .ref (S.1 68)] := by
  unfold f_Mo_expression_118 at e
  refine zs_put (ty := .int) C 68 12 y0 rfl rfl rfl rfl ki_Mo ky_Mo ko_Mo kn_Mo (by decide) kw1695 rfl rfl rfl rfl (by decide) kd_Mo_expression_118 rfl ?_
  refine zk_aload_n C kd_Mo_expression_121 rfl 0 rfl rfl ?_
  refine zs_get (v := .int (h.1 68 10)) C 68 10 rfl rfl rfl rfl ki_Mo (by decide) kw1693 kd_Mo_expression_122 rfl ?_
  refine zk_if_ne (tgt := 144) C kd_Mo_expression_125 (by decide) rfl (fun b1 => ?_) (fun b1 => ?_)
  · replace e := zd_neg b1 e
    refine zk_lvs (lv' := [(0, .ref (S.1 68)), (2, .int x2)]) [0, 2] rfl ?_
    exact zb_Mo_expression_144 C hR (zs_uF h 68 12 y0) x2 e
  · replace e := zd_pos b1 e
    refine zk_aload_n C kd_Mo_expression_128 rfl 0 rfl rfl ?_
    refine zk_aload_n C kd_Mo_expression_129 rfl 0 rfl rfl ?_
    refine zk_iload_n C kd_Mo_expression_130 rfl 2 rfl rfl ?_
    refine zk_aload_n C kd_Mo_expression_131 rfl 0 rfl rfl ?_
    refine zs_get (v := .int (h.1 68 25)) C 68 25 rfl rfl rfl rfl ki_Mo (by decide) kw1708 kd_Mo_expression_132 rfl ?_
    refine zk_iconst (v := 1) C kd_Mo_expression_135 (by decide) rfl ?_
    refine zk_isub C kd_Mo_expression_136 rfl ?_
    obtain ⟨v3, h4, c2, e⟩ := zd_Be e
    refine zs_callV (k := 68) (rn := { frames := 1 + 400, cells := 0, slots := 0, locals := 24 + 24 * 400 }) (As := [.int x2, .int ((h.1 68 25) - 1)]) (rest := [.ref (S.1 68)]) C (zc_Mo_split (zs_uF h 68 12 y0) x2 ((h.1 68 25) - 1) c2) ku_Mo_split kw2213 kv_Mo_split rfl (zd_rmO (by decide) (by decide)) ⟨Nat.le_refl _, Nat.le_refl _⟩ rfl rfl rfl (Nat.le_of_ble_eq_true rfl) kd_Mo_expression_137 rfl (c1 := 0) (s1 := 0) rfl rfl (fun v w hp => ?_)
    obtain ⟨rfl, rfl⟩ := hp
    refine zk_stk (r' := [.int v3, .ref (S.1 68)]) rfl ?_
    refine zk_iload_n C kd_Mo_expression_140 rfl 1 rfl rfl ?_
    obtain ⟨h6, c5, e⟩ := zd_b e
    refine zs_callV (k := 68) (rn := { frames := 0, cells := 0, slots := 0, locals := 0 }) (As := [.int v3, .int x1]) (rest := []) C (zc_Mo_hang h4 v3 x1 c5) ku_Mo_hang kw2101 kv_Mo_hang rfl (zd_rmO (by decide) (by decide)) ⟨Nat.le_refl _, Nat.le_refl _⟩ rfl rfl rfl (Nat.le_of_ble_eq_true rfl) kd_Mo_expression_141 rfl (c1 := 0) (s1 := 0) rfl rfl (fun v w hp => ?_)
    obtain ⟨rfl, rfl⟩ := hp
    refine zk_stk (r' := []) rfl ?_
    refine zk_lvs (lv' := [(0, .ref (S.1 68)), (2, .int x2)]) [0, 2] rfl ?_
    exact zb_Mo_expression_144 C hR h6 x2 e
set_option maxHeartbeats 4000000 in
set_option maxRecDepth 100000 in
theorem zb_Mo_expression_38 {X : zkj_T} {S : zs_T} {P : ze_T} {l : Launch} {D : va_G} {sz0 : Nat} {d : Nat} {rh : zs_H} (C : zk_C X km_Mo_expression (zs_G S l D sz0) { frames := 402 + (d + 1), cells := 0, slots := 0, locals := 9648 + 24 * (d + 1) } (ze_E P)) (hR : zkj_R X (zd_PV S rh) (none)) {r_Mo_operand : zs_H → (Option zs_H)} (hr_Mo_operand : ∀ (h : zs_H) {rh : zs_H}, r_Mo_operand h = some rh → zk_Sp (zs_G S l D sz0) (ze_E P) km_Mo_operand { frames := 402 + d, cells := 0, slots := 0, locals := 9648 + 24 * d } [.ref (S.1 68)] (zs_W S h) (zd_PV S rh)) {k38 : zs_H → Int32 → Int32 → Int32 → Int32 → (Option zs_H)} (hk38 : ∀ (h : zs_H) (x1 : Int32) (x2 : Int32) (x3 : Int32) (x4 : Int32), k38 h x1 x2 x3 x4 = some rh → zk_Ab X (zs_W S h) 0 0 38 [(0, .ref (S.1 68)), (1, .int x1), (2, .int x2), (3, .int x3), (4, .int x4)] []) (h : zs_H) (x1 : Int32) (x2 : Int32) (x3 : Int32) (x4 : Int32) (e : f_Mo_expression_38 r_Mo_operand k38 h x1 x2 x3 x4 = some rh) : zk_Ab X (zs_W S h) 0 0 38 [(0, .ref (S.1 68)), (1, .int x1), (2, .int x2), (3, .int x3), (4, .int x4)] [] := by
  unfold f_Mo_expression_38 at e
  refine zk_iload C kd_Mo_expression_38 4 rfl rfl ?_
  refine zk_if_lt (tgt := 92) C kd_Mo_expression_40 (by decide) rfl (fun b1 => ?_) (fun b1 => ?_)
  · replace e := zd_pos b1 e
    refine zk_aload_n C kd_Mo_expression_92 rfl 0 rfl rfl ?_
    refine zk_dup C kd_Mo_expression_93 rfl rfl ?_
    refine zs_get (v := .int (h.1 68 13)) C 68 13 rfl rfl rfl rfl ki_Mo (by decide) kw1696 kd_Mo_expression_94 rfl ?_
    refine zk_iconst (v := 1) C kd_Mo_expression_97 (by decide) rfl ?_
    refine zk_isub C kd_Mo_expression_98 rfl ?_
    refine zs_put (ty := .int) C 68 13 ((h.1 68 13) - 1) rfl rfl rfl rfl ki_Mo ky_Mo ko_Mo kn_Mo (by decide) kw1696 rfl rfl rfl rfl (by decide) kd_Mo_expression_99 rfl ?_
    refine zk_aload_n C kd_Mo_expression_102 rfl 0 rfl rfl ?_
    refine zk_aload_n C kd_Mo_expression_103 rfl 0 rfl rfl ?_
    refine zs_get (v := .int ((h.1 68 13) - 1)) C 68 13 rfl rfl rfl rfl ki_Mo (by decide) kw1696 kd_Mo_expression_104 rfl ?_
    refine zk_if_ne (tgt := 114) C kd_Mo_expression_107 (by decide) rfl (fun b2 => ?_) (fun b2 => ?_)
    · replace e := zd_neg b2 e
      refine zk_aload_n C kd_Mo_expression_114 rfl 0 rfl rfl ?_
      refine zs_get (v := .int (h.1 68 12)) C 68 12 rfl rfl rfl rfl ki_Mo (by decide) kw1695 kd_Mo_expression_115 rfl ?_
      refine zk_lvs (lv' := [(0, .ref (S.1 68)), (1, .int x1), (2, .int x2)]) [0, 1, 2] rfl ?_
      exact zb_Mo_expression_118 C hR (zs_uF h 68 13 ((h.1 68 13) - 1)) x1 x2 (h.1 68 12) e
    · replace e := zd_pos b2 e
      refine zk_iload_n C kd_Mo_expression_110 rfl 3 rfl rfl ?_
      refine zk_goto (tgt := 118) C kd_Mo_expression_111 (by decide) ?_
      refine zk_lvs (lv' := [(0, .ref (S.1 68)), (1, .int x1), (2, .int x2)]) [0, 1, 2] rfl ?_
      exact zb_Mo_expression_118 C hR (zs_uF h 68 13 ((h.1 68 13) - 1)) x1 x2 x3 e
  · replace e := zd_neg b1 e
    refine zk_aload_n C kd_Mo_expression_43 rfl 0 rfl rfl ?_
    refine zs_get (v := .ref (S.1 82)) C 68 27 rfl rfl rfl rfl ki_Mo (by decide) kw1710 kd_Mo_expression_44 rfl ?_
    refine zk_aload_n C kd_Mo_expression_47 rfl 0 rfl rfl ?_
    refine zs_get (v := .int (h.1 68 25)) C 68 25 rfl rfl rfl rfl ki_Mo (by decide) kw1708 kd_Mo_expression_48 rfl ?_
    refine zk_iconst (v := 1) C kd_Mo_expression_51 (by decide) rfl ?_
    refine zk_isub C kd_Mo_expression_52 rfl ?_
    refine zk_iload C kd_Mo_expression_53 4 rfl rfl ?_
    obtain ⟨q3, e⟩ := zd_g e
    refine zs_iast C 82 rfl (zd_vp q3) kd_Mo_expression_55 rfl ?_
    refine zk_aload_n C kd_Mo_expression_56 rfl 0 rfl rfl ?_
    refine zs_get (v := .ref (S.1 83)) C 68 28 rfl rfl rfl rfl ki_Mo (by decide) kw1711 kd_Mo_expression_57 rfl ?_
    refine zk_aload_n C kd_Mo_expression_60 rfl 0 rfl rfl ?_
    refine zs_get (v := .int (h.1 68 25)) C 68 25 rfl rfl rfl rfl ki_Mo (by decide) kw1708 kd_Mo_expression_61 rfl ?_
    refine zk_iconst (v := 1) C kd_Mo_expression_64 (by decide) rfl ?_
    refine zk_isub C kd_Mo_expression_65 rfl ?_
    refine zk_aload_n C kd_Mo_expression_66 rfl 0 rfl rfl ?_
    refine zs_get (v := .int (h.1 68 7)) C 68 7 rfl rfl rfl rfl ki_Mo (by decide) kw1690 kd_Mo_expression_67 rfl ?_
    refine zs_iast C 83 rfl (zd_vp q3) kd_Mo_expression_70 rfl ?_
    refine zk_aload_n C kd_Mo_expression_71 rfl 0 rfl rfl ?_
    obtain ⟨h5, c4, e⟩ := zd_b e
    refine zs_callV (k := 68) (rn := { frames := 1, cells := 0, slots := 0, locals := 22 }) (As := []) (rest := []) C (zc_Mo_open (zs_uM (zs_uM h 82 ((h.1 68 25) - 1).toNatClampNeg x4) 83 ((h.1 68 25) - 1).toNatClampNeg (h.1 68 7)) c4) ku_Mo_open kw2173 kv_Mo_open rfl (zd_rmO (by decide) (by decide)) ⟨Nat.le_refl _, Nat.le_refl _⟩ rfl rfl rfl (Nat.le_of_ble_eq_true rfl) kd_Mo_expression_72 rfl (c1 := 0) (s1 := 0) rfl rfl (fun v w hp => ?_)
    obtain ⟨rfl, rfl⟩ := hp
    refine zk_stk (r' := []) rfl ?_
    refine zk_aload_n C kd_Mo_expression_75 rfl 0 rfl rfl ?_
    obtain ⟨h7, c6, e⟩ := zd_b e
    refine zs_callV (k := 68) (rn := { frames := 7, cells := 0, slots := 0, locals := 150 }) (As := []) (rest := []) C (zc_Mo_next2 h5 c6) ku_Mo_next2 kw2185 kv_Mo_next2 rfl (zd_rmO (by decide) (by decide)) ⟨Nat.le_refl _, Nat.le_refl _⟩ rfl rfl rfl (Nat.le_of_ble_eq_true rfl) kd_Mo_expression_76 rfl (c1 := 0) (s1 := 0) rfl rfl (fun v w hp => ?_)
    obtain ⟨rfl, rfl⟩ := hp
    refine zk_stk (r' := []) rfl ?_
    refine zk_aload_n C kd_Mo_expression_79 rfl 0 rfl rfl ?_
    obtain ⟨h9, c8, e⟩ := zd_b e
    refine zs_callV (k := 68) (rn := { frames := 402 + d, cells := 0, slots := 0, locals := 9648 + 24 * d }) (As := []) (rest := []) C (hr_Mo_operand h7 c8) ku_Mo_operand kw2181 kv_Mo_operand rfl (zd_rmI (by decide)) ⟨Nat.le_refl _, Nat.le_refl _⟩ rfl rfl rfl (Nat.le_of_ble_eq_true rfl) kd_Mo_expression_80 rfl (c1 := 0) (s1 := 0) rfl rfl (fun v w hp => ?_)
    obtain ⟨rfl, rfl⟩ := hp
    refine zk_stk (r' := []) rfl ?_
    refine zk_aload_n C kd_Mo_expression_83 rfl 0 rfl rfl ?_
    refine zs_callV (k := 68) (rn := { frames := 0, cells := 0, slots := 0, locals := 0 }) (As := []) (rest := []) C (zc_Mo_signAt h9) ku_Mo_signAt kw2209 kv_Mo_signAt rfl (zd_rmO (by decide) (by decide)) ⟨Nat.le_refl _, Nat.le_refl _⟩ rfl rfl rfl (Nat.le_of_ble_eq_true rfl) kd_Mo_expression_84 rfl (c1 := 0) (s1 := 0) rfl rfl (fun v w hp => ?_)
    obtain ⟨rfl, rfl⟩ := hp
    refine zk_stk (r' := [.int (f_Mo_signAt h9)]) rfl ?_
    refine zk_istore (lv' := [(4, _), (0, _), (1, _), (2, _), (3, _)]) C kd_Mo_expression_87 (by decide) rfl rfl ?_
    refine zk_goto (tgt := 38) C kd_Mo_expression_89 (by decide) ?_
    refine zk_lvs (lv' := [(0, .ref (S.1 68)), (1, .int x1), (2, .int x2), (3, .int x3), (4, .int (f_Mo_signAt h9))]) [1, 2, 3, 4, 0] rfl ?_
    exact hk38 h9 x1 x2 x3 (f_Mo_signAt h9) e
theorem zl_Mo_expression_38 {X : zkj_T} {S : zs_T} {P : ze_T} {l : Launch} {D : va_G} {sz0 : Nat} {d : Nat} {rh : zs_H} (C : zk_C X km_Mo_expression (zs_G S l D sz0) { frames := 402 + (d + 1), cells := 0, slots := 0, locals := 9648 + 24 * (d + 1) } (ze_E P)) (hR : zkj_R X (zd_PV S rh) (none)) {r_Mo_operand : zs_H → (Option zs_H)} (hr_Mo_operand : ∀ (h : zs_H) {rh : zs_H}, r_Mo_operand h = some rh → zk_Sp (zs_G S l D sz0) (ze_E P) km_Mo_operand { frames := 402 + d, cells := 0, slots := 0, locals := 9648 + 24 * d } [.ref (S.1 68)] (zs_W S h) (zd_PV S rh)) (n : Nat) : ∀ (h : zs_H) (x1 : Int32) (x2 : Int32) (x3 : Int32) (x4 : Int32), f_Mo_expression_L38 r_Mo_operand n h x1 x2 x3 x4 = some rh → zk_Ab X (zs_W S h) 0 0 38 [(0, .ref (S.1 68)), (1, .int x1), (2, .int x2), (3, .int x3), (4, .int x4)] [] := by
  induction n with
  | zero => intro h x1 x2 x3 x4 e; exact zd_no e
  | succ n ih => intro h x1 x2 x3 x4 e; exact zb_Mo_expression_38 (k38 := f_Mo_expression_L38 r_Mo_operand n) C hR hr_Mo_operand ih h x1 x2 x3 x4 e
set_option maxHeartbeats 4000000 in
set_option maxRecDepth 100000 in
theorem zg_Mo_expression {l : Launch} {D : va_G} {sz0 : Nat} {S : zs_T} {P : ze_T} {d : Nat} {r_Mo_operand : zs_H → (Option zs_H)} (hr_Mo_operand : ∀ (h : zs_H) {rh : zs_H}, r_Mo_operand h = some rh → zk_Sp (zs_G S l D sz0) (ze_E P) km_Mo_operand { frames := 402 + d, cells := 0, slots := 0, locals := 9648 + 24 * d } [.ref (S.1 68)] (zs_W S h) (zd_PV S rh)) (h : zs_H) (x1 : Int32) {rh : zs_H} (e : g_Mo_expression r_Mo_operand h x1 = some rh) : zk_Sp (zs_G S l D sz0) (ze_E P) km_Mo_expression { frames := 402 + (d + 1), cells := 0, slots := 0, locals := 9648 + 24 * (d + 1) } [.ref (S.1 68), .int x1] (zs_W S h) (zd_PV S rh) := by
  refine zk_met ku_Mo_expression (Nat.le_of_ble_eq_true rfl) (ze_Em P) ?_
  intro X C hR
  refine zk_lvs (lv' := [(0, .ref (S.1 68)), (1, .int x1)]) [0, 1] rfl ?_
  unfold g_Mo_expression at e
  refine zk_aload_n C kd_Mo_expression_0 rfl 0 rfl rfl ?_
  refine zs_get (v := .int (h.1 68 10)) C 68 10 rfl rfl rfl rfl ki_Mo (by decide) kw1693 kd_Mo_expression_1 rfl ?_
  refine zk_if_le (tgt := 8) C kd_Mo_expression_4 (by decide) rfl (fun b1 => ?_) (fun b1 => ?_)
  · replace e := zd_pos b1 e
    refine zk_aload_n C kd_Mo_expression_8 rfl 0 rfl rfl ?_
    refine zs_get (v := .int (h.1 68 25)) C 68 25 rfl rfl rfl rfl ki_Mo (by decide) kw1708 kd_Mo_expression_9 rfl ?_
    refine zk_istore_n (lv' := [(2, _), (0, _), (1, _)]) C kd_Mo_expression_12 rfl (by decide) rfl rfl ?_
    refine zk_aload_n C kd_Mo_expression_13 rfl 1 rfl rfl ?_
    refine zs_get (v := .int (h.1 68 12)) C 68 12 rfl rfl rfl rfl ki_Mo (by decide) kw1695 kd_Mo_expression_14 rfl ?_
    refine zk_istore_n (lv' := [(3, _), (2, _), (0, _), (1, _)]) C kd_Mo_expression_17 rfl (by decide) rfl rfl ?_
    refine zk_aload_n C kd_Mo_expression_18 rfl 2 rfl rfl ?_
    refine zk_dup C kd_Mo_expression_19 rfl rfl ?_
    refine zs_get (v := .int (h.1 68 13)) C 68 13 rfl rfl rfl rfl ki_Mo (by decide) kw1696 kd_Mo_expression_20 rfl ?_
    refine zk_iconst (v := 1) C kd_Mo_expression_23 (by decide) rfl ?_
    refine zk_iadd C kd_Mo_expression_24 rfl ?_
    refine zs_put (ty := .int) C 68 13 ((h.1 68 13) + 1) rfl rfl rfl rfl ki_Mo ky_Mo ko_Mo kn_Mo (by decide) kw1696 rfl rfl rfl rfl (by decide) kd_Mo_expression_25 rfl ?_
    refine zk_aload_n C kd_Mo_expression_28 rfl 2 rfl rfl ?_
    obtain ⟨h3, c2, e⟩ := zd_b e
    refine zs_callV (k := 68) (rn := { frames := 402 + d, cells := 0, slots := 0, locals := 9648 + 24 * d }) (As := []) (rest := []) C (hr_Mo_operand (zs_uF h 68 13 ((h.1 68 13) + 1)) c2) ku_Mo_operand kw2181 kv_Mo_operand rfl (zd_rmI (by decide)) ⟨Nat.le_refl _, Nat.le_refl _⟩ rfl rfl rfl (Nat.le_of_ble_eq_true rfl) kd_Mo_expression_29 rfl (c1 := 0) (s1 := 0) rfl rfl (fun v w hp => ?_)
    obtain ⟨rfl, rfl⟩ := hp
    refine zk_stk (r' := []) rfl ?_
    refine zk_aload_n C kd_Mo_expression_32 rfl 2 rfl rfl ?_
    refine zs_callV (k := 68) (rn := { frames := 0, cells := 0, slots := 0, locals := 0 }) (As := []) (rest := []) C (zc_Mo_signAt h3) ku_Mo_signAt kw2209 kv_Mo_signAt rfl (zd_rmO (by decide) (by decide)) ⟨Nat.le_refl _, Nat.le_refl _⟩ rfl rfl rfl (Nat.le_of_ble_eq_true rfl) kd_Mo_expression_33 rfl (c1 := 0) (s1 := 0) rfl rfl (fun v w hp => ?_)
    obtain ⟨rfl, rfl⟩ := hp
    refine zk_stk (r' := [.int (f_Mo_signAt h3)]) rfl ?_
    refine zk_istore (lv' := [(4, _), (3, _), (2, _), (0, _), (1, _)]) C kd_Mo_expression_36 (by decide) rfl rfl ?_
    refine zk_lvs (lv' := [(0, .ref (S.1 68)), (1, .int x1), (2, .int (h.1 68 25)), (3, .int (h.1 68 12)), (4, .int (f_Mo_signAt h3))]) [3, 4, 2, 1, 0] rfl ?_
    exact zl_Mo_expression_38 C hR hr_Mo_operand zF h3 x1 (h.1 68 25) (h.1 68 12) (f_Mo_signAt h3) e
  · replace e := zd_neg b1 e
    exact zk_vret C hR kd_Mo_expression_7 rfl rfl (zd_rV e)
set_option maxHeartbeats 4000000 in
set_option maxRecDepth 100000 in
theorem zb_Mo_nameOperand_142 {X : zkj_T} {S : zs_T} {P : ze_T} {l : Launch} {D : va_G} {sz0 : Nat} {d : Nat} {rh : zs_H} (C : zk_C X km_Mo_nameOperand (zs_G S l D sz0) { frames := 402 + (d + 1), cells := 0, slots := 0, locals := 9648 + 24 * (d + 1) } (ze_E P)) (hR : zkj_R X (zd_PV S rh) (none)) (h : zs_H) (x3 : Int32) (e : f_Mo_nameOperand_142 h x3 = some rh) : zk_Ab X (zs_W S h) 0 0 142 [(0, .ref (S.1 68)), (3, .int x3)] [] := by
  unfold f_Mo_nameOperand_142 at e
  refine zk_aload_n C kd_Mo_nameOperand_142 rfl 0 rfl rfl ?_
  refine zk_iload_n C kd_Mo_nameOperand_143 rfl 1 rfl rfl ?_
  obtain ⟨h2, c1, e⟩ := zd_b e
  refine zs_callV (k := 68) (rn := { frames := 0, cells := 0, slots := 0, locals := 0 }) (As := [.int x3]) (rest := []) C (zc_Mo_keep h x3 c1) ku_Mo_keep kw2189 kv_Mo_keep rfl (zd_rmO (by decide) (by decide)) ⟨Nat.le_refl _, Nat.le_refl _⟩ rfl rfl rfl (Nat.le_of_ble_eq_true rfl) kd_Mo_nameOperand_144 rfl (c1 := 0) (s1 := 0) rfl rfl (fun v w hp => ?_)
  obtain ⟨rfl, rfl⟩ := hp
  refine zk_stk (r' := []) rfl ?_
  exact zk_vret C hR kd_Mo_nameOperand_147 rfl rfl (zd_rV e)
set_option maxHeartbeats 4000000 in
set_option maxRecDepth 100000 in
theorem zb_Mo_nameOperand_122 {X : zkj_T} {S : zs_T} {P : ze_T} {l : Launch} {D : va_G} {sz0 : Nat} {d : Nat} {rh : zs_H} (C : zk_C X km_Mo_nameOperand (zs_G S l D sz0) { frames := 402 + (d + 1), cells := 0, slots := 0, locals := 9648 + 24 * (d + 1) } (ze_E P)) (hR : zkj_R X (zd_PV S rh) (none)) (h : zs_H) (x3 : Int32) (y0 : Int32) (e : f_Mo_nameOperand_122 h x3 y0 = some rh) : zk_Ab X (zs_W S h) 0 0 122 [(0, .ref (S.1 68)), (3, .int x3)] [.int y0, .ref (S.1 68)] := by
  unfold f_Mo_nameOperand_122 at e
  obtain ⟨h2, c1, e⟩ := zd_b e
  refine zs_callV (k := 68) (rn := { frames := 7, cells := 0, slots := 0, locals := 150 }) (As := [.int y0]) (rest := []) C (zc_Mo_want h y0 c1) ku_Mo_want kw2109 kv_Mo_want rfl (zd_rmO (by decide) (by decide)) ⟨Nat.le_refl _, Nat.le_refl _⟩ rfl rfl rfl (Nat.le_of_ble_eq_true rfl) kd_Mo_nameOperand_122 rfl (c1 := 0) (s1 := 0) rfl rfl (fun v w hp => ?_)
  obtain ⟨rfl, rfl⟩ := hp
  refine zk_stk (r' := []) rfl ?_
  refine zk_goto (tgt := 142) C kd_Mo_nameOperand_125 (by decide) ?_
  refine zk_lvs (lv' := [(0, .ref (S.1 68)), (3, .int x3)]) [0, 1] rfl ?_
  exact zb_Mo_nameOperand_142 C hR h2 x3 e
set_option maxHeartbeats 4000000 in
set_option maxRecDepth 100000 in
theorem zb_Mo_nameOperand_55 {X : zkj_T} {S : zs_T} {P : ze_T} {l : Launch} {D : va_G} {sz0 : Nat} {d : Nat} {rh : zs_H} (C : zk_C X km_Mo_nameOperand (zs_G S l D sz0) { frames := 402 + (d + 1), cells := 0, slots := 0, locals := 9648 + 24 * (d + 1) } (ze_E P)) (hR : zkj_R X (zd_PV S rh) (none)) {r_Mo_call : zs_H → Int32 → (Option zs_H)} (hr_Mo_call : ∀ (h : zs_H) (x0 : Int32) {rh : zs_H}, r_Mo_call h x0 = some rh → zk_Sp (zs_G S l D sz0) (ze_E P) km_Mo_call { frames := 402 + d, cells := 0, slots := 0, locals := 9648 + 24 * d } [.ref (S.1 68), .int x0] (zs_W S h) (zd_PV S rh)) {r_Mo_element : zs_H → Int32 → (Option zs_H)} (hr_Mo_element : ∀ (h : zs_H) (x0 : Int32) {rh : zs_H}, r_Mo_element h x0 = some rh → zk_Sp (zs_G S l D sz0) (ze_E P) km_Mo_element { frames := 402 + d, cells := 0, slots := 0, locals := 9648 + 24 * d } [.ref (S.1 68), .int x0] (zs_W S h) (zd_PV S rh)) (h : zs_H) (x1 : Int32) (x2 : Int32) (y0 : Int32) (e : f_Mo_nameOperand_55 r_Mo_call r_Mo_element h x1 x2 y0 = some rh) : zk_Ab X (zs_W S h) 0 0 55 [(0, .ref (S.1 68)), (1, .int x1), (2, .int x2)] [.int y0, .ref (S.1 68)] := by
  unfold f_Mo_nameOperand_55 at e
  refine zk_iload_n C kd_Mo_nameOperand_55 rfl 1 rfl rfl ?_
  refine zk_iload_n C kd_Mo_nameOperand_56 rfl 2 rfl rfl ?_
  obtain ⟨v2, h3, c1, e⟩ := zd_Be e
  refine zs_callV (k := 68) (rn := { frames := 0, cells := 0, slots := 0, locals := 0 }) (As := [.int y0, .int x1, .int x2]) (rest := []) C (zc_Mo_node h y0 x1 x2 c1) ku_Mo_node kw2085 kv_Mo_node rfl (zd_rmO (by decide) (by decide)) ⟨Nat.le_refl _, Nat.le_refl _⟩ rfl rfl rfl (Nat.le_of_ble_eq_true rfl) kd_Mo_nameOperand_57 rfl (c1 := 0) (s1 := 0) rfl rfl (fun v w hp => ?_)
  obtain ⟨rfl, rfl⟩ := hp
  refine zk_stk (r' := [.int v2]) rfl ?_
  refine zk_istore_n (lv' := [(3, _), (0, _), (1, _), (2, _)]) C kd_Mo_nameOperand_60 rfl (by decide) rfl rfl ?_
  refine zk_aload_n C kd_Mo_nameOperand_61 rfl 1 rfl rfl ?_
  refine zk_bipush (v := 91) C kd_Mo_nameOperand_62 (by decide) rfl ?_
  refine zs_callV (k := 68) (rn := { frames := 0, cells := 0, slots := 0, locals := 0 }) (As := [.int 91]) (rest := []) C (zc_Mo_isSign h3 91) ku_Mo_isSign kw2117 kv_Mo_isSign rfl (zd_rmO (by decide) (by decide)) ⟨Nat.le_refl _, Nat.le_refl _⟩ rfl rfl rfl (Nat.le_of_ble_eq_true rfl) kd_Mo_nameOperand_64 rfl (c1 := 0) (s1 := 0) rfl rfl (fun v w hp => ?_)
  obtain ⟨rfl, rfl, z4⟩ := hp
  refine zk_stk (r' := [.int (f_Mo_isSign h3 91)]) rfl ?_
  refine zk_if_eq (tgt := 78) C kd_Mo_nameOperand_67 (by decide) rfl (fun b5 => ?_) (fun b5 => ?_)
  · replace e := zd_pos b5 e
    refine zk_aload_n C kd_Mo_nameOperand_78 rfl 1 rfl rfl ?_
    refine zk_bipush (v := 46) C kd_Mo_nameOperand_79 (by decide) rfl ?_
    refine zs_callV (k := 68) (rn := { frames := 0, cells := 0, slots := 0, locals := 0 }) (As := [.int 46]) (rest := []) C (zc_Mo_isSign h3 46) ku_Mo_isSign kw2117 kv_Mo_isSign rfl (zd_rmO (by decide) (by decide)) ⟨Nat.le_refl _, Nat.le_refl _⟩ rfl rfl rfl (Nat.le_of_ble_eq_true rfl) kd_Mo_nameOperand_81 rfl (c1 := 0) (s1 := 0) rfl rfl (fun v w hp => ?_)
    obtain ⟨rfl, rfl, z6⟩ := hp
    refine zk_stk (r' := [.int (f_Mo_isSign h3 46)]) rfl ?_
    refine zk_if_eq (tgt := 128) C kd_Mo_nameOperand_84 (by decide) rfl (fun b7 => ?_) (fun b7 => ?_)
    · replace e := zd_pos b7 e
      refine zk_aload_n C kd_Mo_nameOperand_128 rfl 1 rfl rfl ?_
      refine zk_bipush (v := 40) C kd_Mo_nameOperand_129 (by decide) rfl ?_
      refine zs_callV (k := 68) (rn := { frames := 0, cells := 0, slots := 0, locals := 0 }) (As := [.int 40]) (rest := []) C (zc_Mo_isSign h3 40) ku_Mo_isSign kw2117 kv_Mo_isSign rfl (zd_rmO (by decide) (by decide)) ⟨Nat.le_refl _, Nat.le_refl _⟩ rfl rfl rfl (Nat.le_of_ble_eq_true rfl) kd_Mo_nameOperand_131 rfl (c1 := 0) (s1 := 0) rfl rfl (fun v w hp => ?_)
      obtain ⟨rfl, rfl, z8⟩ := hp
      refine zk_stk (r' := [.int (f_Mo_isSign h3 40)]) rfl ?_
      refine zk_if_eq (tgt := 142) C kd_Mo_nameOperand_134 (by decide) rfl (fun b9 => ?_) (fun b9 => ?_)
      · replace e := zd_pos b9 e
        refine zk_lvs (lv' := [(0, .ref (S.1 68)), (3, .int v2)]) [1, 0] rfl ?_
        exact zb_Mo_nameOperand_142 C hR h3 v2 e
      · replace e := zd_neg b9 e
        refine zk_aload_n C kd_Mo_nameOperand_137 rfl 1 rfl rfl ?_
        refine zk_iload_n C kd_Mo_nameOperand_138 rfl 0 rfl rfl ?_
        obtain ⟨h11, c10, e⟩ := zd_b e
        refine zs_callV (k := 68) (rn := { frames := 402 + d, cells := 0, slots := 0, locals := 9648 + 24 * d }) (As := [.int v2]) (rest := []) C (hr_Mo_call h3 v2 c10) ku_Mo_call kw2205 kv_Mo_call rfl (zd_rmI (by decide)) ⟨Nat.le_refl _, Nat.le_refl _⟩ rfl rfl rfl (Nat.le_of_ble_eq_true rfl) kd_Mo_nameOperand_139 rfl (c1 := 0) (s1 := 0) rfl rfl (fun v w hp => ?_)
        obtain ⟨rfl, rfl⟩ := hp
        refine zk_stk (r' := []) rfl ?_
        refine zk_lvs (lv' := [(0, .ref (S.1 68)), (3, .int v2)]) [1, 0] rfl ?_
        exact zb_Mo_nameOperand_142 C hR h11 v2 e
    · replace e := zd_neg b7 e
      refine zk_aload_n C kd_Mo_nameOperand_87 rfl 1 rfl rfl ?_
      obtain ⟨h13, c12, e⟩ := zd_b e
      refine zs_callV (k := 68) (rn := { frames := 6, cells := 0, slots := 0, locals := 129 }) (As := []) (rest := []) C (zc_Mo_next h3 c12) ku_Mo_next kw2001 kv_Mo_next rfl (zd_rmO (by decide) (by decide)) ⟨Nat.le_refl _, Nat.le_refl _⟩ rfl rfl rfl (Nat.le_of_ble_eq_true rfl) kd_Mo_nameOperand_88 rfl (c1 := 0) (s1 := 0) rfl rfl (fun v w hp => ?_)
      obtain ⟨rfl, rfl⟩ := hp
      refine zk_stk (r' := []) rfl ?_
      refine zk_aload_n C kd_Mo_nameOperand_91 rfl 1 rfl rfl ?_
      refine zk_iload_n C kd_Mo_nameOperand_92 rfl 0 rfl rfl ?_
      refine zk_bipush (v := 6) C kd_Mo_nameOperand_93 (by decide) rfl ?_
      refine zk_aload_n C kd_Mo_nameOperand_95 rfl 1 rfl rfl ?_
      refine zs_get (v := .int (h13.1 68 7)) C 68 7 rfl rfl rfl rfl ki_Mo (by decide) kw1690 kd_Mo_nameOperand_96 rfl ?_
      refine zk_aload_n C kd_Mo_nameOperand_99 rfl 1 rfl rfl ?_
      refine zs_get (v := .int (h13.1 68 9)) C 68 9 rfl rfl rfl rfl ki_Mo (by decide) kw1692 kd_Mo_nameOperand_100 rfl ?_
      obtain ⟨v15, h16, c14, e⟩ := zd_Be e
      refine zs_callV (k := 68) (rn := { frames := 1, cells := 0, slots := 0, locals := 24 }) (As := [.int v2, .int 6, .int (h13.1 68 7), .int (h13.1 68 9)]) (rest := []) C (zc_Mo_add h13 v2 6 (h13.1 68 7) (h13.1 68 9) c14) ku_Mo_add kw2097 kv_Mo_add rfl (zd_rmO (by decide) (by decide)) ⟨Nat.le_refl _, Nat.le_refl _⟩ rfl rfl rfl (Nat.le_of_ble_eq_true rfl) kd_Mo_nameOperand_103 rfl (c1 := 0) (s1 := 0) rfl rfl (fun v w hp => ?_)
      obtain ⟨rfl, rfl⟩ := hp
      refine zk_stk (r' := [.int v15]) rfl ?_
      refine zk_istore (lv' := [(4, _), (3, _), (0, _), (1, _), (2, _)]) C kd_Mo_nameOperand_106 (by decide) rfl rfl ?_
      refine zk_aload_n C kd_Mo_nameOperand_108 rfl 2 rfl rfl ?_
      refine zk_aload_n C kd_Mo_nameOperand_109 rfl 2 rfl rfl ?_
      refine zs_get (v := .int (h16.1 68 6)) C 68 6 rfl rfl rfl rfl ki_Mo (by decide) kw1689 kd_Mo_nameOperand_110 rfl ?_
      refine zk_iconst (v := 1) C kd_Mo_nameOperand_113 (by decide) rfl ?_
      refine zk_icmp_ne (tgt := 121) C kd_Mo_nameOperand_114 (by decide) rfl (fun b17 => ?_) (fun b17 => ?_)
      · replace e := zd_neg b17 e
        refine zk_iconst (v := 0) C kd_Mo_nameOperand_121 (by decide) rfl ?_
        refine zk_lvs (lv' := [(0, .ref (S.1 68)), (3, .int v2)]) [2, 1] rfl ?_
        exact zb_Mo_nameOperand_122 C hR h16 v2 0 e
      · replace e := zd_pos b17 e
        refine zk_iconst (v := 1) C kd_Mo_nameOperand_117 (by decide) rfl ?_
        refine zk_goto (tgt := 122) C kd_Mo_nameOperand_118 (by decide) ?_
        refine zk_lvs (lv' := [(0, .ref (S.1 68)), (3, .int v2)]) [2, 1] rfl ?_
        exact zb_Mo_nameOperand_122 C hR h16 v2 1 e
  · replace e := zd_neg b5 e
    refine zk_aload_n C kd_Mo_nameOperand_70 rfl 1 rfl rfl ?_
    refine zk_iload_n C kd_Mo_nameOperand_71 rfl 0 rfl rfl ?_
    obtain ⟨h19, c18, e⟩ := zd_b e
    refine zs_callV (k := 68) (rn := { frames := 402 + d, cells := 0, slots := 0, locals := 9648 + 24 * d }) (As := [.int v2]) (rest := []) C (hr_Mo_element h3 v2 c18) ku_Mo_element kw2201 kv_Mo_element rfl (zd_rmI (by decide)) ⟨Nat.le_refl _, Nat.le_refl _⟩ rfl rfl rfl (Nat.le_of_ble_eq_true rfl) kd_Mo_nameOperand_72 rfl (c1 := 0) (s1 := 0) rfl rfl (fun v w hp => ?_)
    obtain ⟨rfl, rfl⟩ := hp
    refine zk_stk (r' := []) rfl ?_
    refine zk_goto (tgt := 142) C kd_Mo_nameOperand_75 (by decide) ?_
    refine zk_lvs (lv' := [(0, .ref (S.1 68)), (3, .int v2)]) [1, 0] rfl ?_
    exact zb_Mo_nameOperand_142 C hR h19 v2 e
set_option maxHeartbeats 4000000 in
set_option maxRecDepth 100000 in
theorem zg_Mo_nameOperand {l : Launch} {D : va_G} {sz0 : Nat} {S : zs_T} {P : ze_T} {d : Nat} {r_Mo_call : zs_H → Int32 → (Option zs_H)} (hr_Mo_call : ∀ (h : zs_H) (x0 : Int32) {rh : zs_H}, r_Mo_call h x0 = some rh → zk_Sp (zs_G S l D sz0) (ze_E P) km_Mo_call { frames := 402 + d, cells := 0, slots := 0, locals := 9648 + 24 * d } [.ref (S.1 68), .int x0] (zs_W S h) (zd_PV S rh)) {r_Mo_element : zs_H → Int32 → (Option zs_H)} (hr_Mo_element : ∀ (h : zs_H) (x0 : Int32) {rh : zs_H}, r_Mo_element h x0 = some rh → zk_Sp (zs_G S l D sz0) (ze_E P) km_Mo_element { frames := 402 + d, cells := 0, slots := 0, locals := 9648 + 24 * d } [.ref (S.1 68), .int x0] (zs_W S h) (zd_PV S rh)) (h : zs_H) {rh : zs_H} (e : g_Mo_nameOperand r_Mo_call r_Mo_element h = some rh) : zk_Sp (zs_G S l D sz0) (ze_E P) km_Mo_nameOperand { frames := 402 + (d + 1), cells := 0, slots := 0, locals := 9648 + 24 * (d + 1) } [.ref (S.1 68)] (zs_W S h) (zd_PV S rh) := by
  refine zk_met ku_Mo_nameOperand (Nat.le_of_ble_eq_true rfl) (ze_Em P) ?_
  intro X C hR
  refine zk_lvs (lv' := [(0, .ref (S.1 68))]) [0] rfl ?_
  unfold g_Mo_nameOperand at e
  refine zk_aload_n C kd_Mo_nameOperand_0 rfl 0 rfl rfl ?_
  refine zs_get (v := .int (h.1 68 7)) C 68 7 rfl rfl rfl rfl ki_Mo (by decide) kw1690 kd_Mo_nameOperand_1 rfl ?_
  refine zk_istore_n (lv' := [(1, _), (0, _)]) C kd_Mo_nameOperand_4 rfl (by decide) rfl rfl ?_
  refine zk_aload_n C kd_Mo_nameOperand_5 rfl 1 rfl rfl ?_
  obtain ⟨v2, h3, c1, e⟩ := zd_Be e
  refine zs_callV (k := 68) (rn := { frames := 8, cells := 0, slots := 0, locals := 171 }) (As := []) (rest := []) C (zc_Mo_name h c1) ku_Mo_name kw2105 kv_Mo_name rfl (zd_rmO (by decide) (by decide)) ⟨Nat.le_refl _, Nat.le_refl _⟩ rfl rfl rfl (Nat.le_of_ble_eq_true rfl) kd_Mo_nameOperand_6 rfl (c1 := 0) (s1 := 0) rfl rfl (fun v w hp => ?_)
  obtain ⟨rfl, rfl⟩ := hp
  refine zk_stk (r' := [.int v2]) rfl ?_
  refine zk_istore_n (lv' := [(2, _), (1, _), (0, _)]) C kd_Mo_nameOperand_9 rfl (by decide) rfl rfl ?_
  refine zk_aload_n C kd_Mo_nameOperand_10 rfl 2 rfl rfl ?_
  refine zk_aload_n C kd_Mo_nameOperand_11 rfl 2 rfl rfl ?_
  refine zk_bipush (v := 91) C kd_Mo_nameOperand_12 (by decide) rfl ?_
  refine zs_callV (k := 68) (rn := { frames := 0, cells := 0, slots := 0, locals := 0 }) (As := [.int 91]) (rest := [.ref (S.1 68)]) C (zc_Mo_isSign h3 91) ku_Mo_isSign kw2117 kv_Mo_isSign rfl (zd_rmO (by decide) (by decide)) ⟨Nat.le_refl _, Nat.le_refl _⟩ rfl rfl rfl (Nat.le_of_ble_eq_true rfl) kd_Mo_nameOperand_14 rfl (c1 := 0) (s1 := 0) rfl rfl (fun v w hp => ?_)
  obtain ⟨rfl, rfl, z4⟩ := hp
  refine zk_stk (r' := [.int (f_Mo_isSign h3 91), .ref (S.1 68)]) rfl ?_
  refine zk_if_eq (tgt := 25) C kd_Mo_nameOperand_17 (by decide) rfl (fun b5 => ?_) (fun b5 => ?_)
  · replace e := zd_pos b5 e
    refine zk_aload_n C kd_Mo_nameOperand_25 rfl 2 rfl rfl ?_
    refine zk_bipush (v := 46) C kd_Mo_nameOperand_26 (by decide) rfl ?_
    refine zs_callV (k := 68) (rn := { frames := 0, cells := 0, slots := 0, locals := 0 }) (As := [.int 46]) (rest := [.ref (S.1 68)]) C (zc_Mo_isSign h3 46) ku_Mo_isSign kw2117 kv_Mo_isSign rfl (zd_rmO (by decide) (by decide)) ⟨Nat.le_refl _, Nat.le_refl _⟩ rfl rfl rfl (Nat.le_of_ble_eq_true rfl) kd_Mo_nameOperand_28 rfl (c1 := 0) (s1 := 0) rfl rfl (fun v w hp => ?_)
    obtain ⟨rfl, rfl, z6⟩ := hp
    refine zk_stk (r' := [.int (f_Mo_isSign h3 46), .ref (S.1 68)]) rfl ?_
    refine zk_if_eq (tgt := 39) C kd_Mo_nameOperand_31 (by decide) rfl (fun b7 => ?_) (fun b7 => ?_)
    · replace e := zd_pos b7 e
      refine zk_aload_n C kd_Mo_nameOperand_39 rfl 2 rfl rfl ?_
      refine zk_bipush (v := 40) C kd_Mo_nameOperand_40 (by decide) rfl ?_
      refine zs_callV (k := 68) (rn := { frames := 0, cells := 0, slots := 0, locals := 0 }) (As := [.int 40]) (rest := [.ref (S.1 68)]) C (zc_Mo_isSign h3 40) ku_Mo_isSign kw2117 kv_Mo_isSign rfl (zd_rmO (by decide) (by decide)) ⟨Nat.le_refl _, Nat.le_refl _⟩ rfl rfl rfl (Nat.le_of_ble_eq_true rfl) kd_Mo_nameOperand_42 rfl (c1 := 0) (s1 := 0) rfl rfl (fun v w hp => ?_)
      obtain ⟨rfl, rfl, z8⟩ := hp
      refine zk_stk (r' := [.int (f_Mo_isSign h3 40), .ref (S.1 68)]) rfl ?_
      refine zk_if_eq (tgt := 53) C kd_Mo_nameOperand_45 (by decide) rfl (fun b9 => ?_) (fun b9 => ?_)
      · replace e := zd_pos b9 e
        refine zk_bipush (v := 6) C kd_Mo_nameOperand_53 (by decide) rfl ?_
        refine zk_lvs (lv' := [(0, .ref (S.1 68)), (1, .int (h.1 68 7)), (2, .int v2)]) [2, 1, 0] rfl ?_
        exact zb_Mo_nameOperand_55 C hR hr_Mo_call hr_Mo_element h3 (h.1 68 7) v2 6 e
      · replace e := zd_neg b9 e
        refine zk_bipush (v := 34) C kd_Mo_nameOperand_48 (by decide) rfl ?_
        refine zk_goto (tgt := 55) C kd_Mo_nameOperand_50 (by decide) ?_
        refine zk_lvs (lv' := [(0, .ref (S.1 68)), (1, .int (h.1 68 7)), (2, .int v2)]) [2, 1, 0] rfl ?_
        exact zb_Mo_nameOperand_55 C hR hr_Mo_call hr_Mo_element h3 (h.1 68 7) v2 34 e
    · replace e := zd_neg b7 e
      refine zk_bipush (v := 33) C kd_Mo_nameOperand_34 (by decide) rfl ?_
      refine zk_goto (tgt := 55) C kd_Mo_nameOperand_36 (by decide) ?_
      refine zk_lvs (lv' := [(0, .ref (S.1 68)), (1, .int (h.1 68 7)), (2, .int v2)]) [2, 1, 0] rfl ?_
      exact zb_Mo_nameOperand_55 C hR hr_Mo_call hr_Mo_element h3 (h.1 68 7) v2 33 e
  · replace e := zd_neg b5 e
    refine zk_bipush (v := 32) C kd_Mo_nameOperand_20 (by decide) rfl ?_
    refine zk_goto (tgt := 55) C kd_Mo_nameOperand_22 (by decide) ?_
    refine zk_lvs (lv' := [(0, .ref (S.1 68)), (1, .int (h.1 68 7)), (2, .int v2)]) [2, 1, 0] rfl ?_
    exact zb_Mo_nameOperand_55 C hR hr_Mo_call hr_Mo_element h3 (h.1 68 7) v2 32 e
set_option maxHeartbeats 4000000 in
set_option maxRecDepth 100000 in
theorem zb_Mo_operand_46 {X : zkj_T} {S : zs_T} {P : ze_T} {l : Launch} {D : va_G} {sz0 : Nat} {d : Nat} {rh : zs_H} (C : zk_C X km_Mo_operand (zs_G S l D sz0) { frames := 402 + (d + 1), cells := 0, slots := 0, locals := 9648 + 24 * (d + 1) } (ze_E P)) (hR : zkj_R X (zd_PV S rh) (none)) {r_Mo_operand : zs_H → (Option zs_H)} (hr_Mo_operand : ∀ (h : zs_H) {rh : zs_H}, r_Mo_operand h = some rh → zk_Sp (zs_G S l D sz0) (ze_E P) km_Mo_operand { frames := 402 + d, cells := 0, slots := 0, locals := 9648 + 24 * d } [.ref (S.1 68)] (zs_W S h) (zd_PV S rh)) (h : zs_H) (y0 : Int32) (y1 : Int32) (y2 : Int32) (e : f_Mo_operand_46 r_Mo_operand h y0 y1 y2 = some rh) : zk_Ab X (zs_W S h) 0 0 46 [(0, .ref (S.1 68))] [.int y0, .int y1, .int y2, .ref (S.1 68)] := by
  unfold f_Mo_operand_46 at e
  obtain ⟨v2, h3, c1, e⟩ := zd_Be e
  refine zs_callV (k := 68) (rn := { frames := 0, cells := 0, slots := 0, locals := 0 }) (As := [.int y2, .int y1, .int y0]) (rest := []) C (zc_Mo_node h y2 y1 y0 c1) ku_Mo_node kw2085 kv_Mo_node rfl (zd_rmO (by decide) (by decide)) ⟨Nat.le_refl _, Nat.le_refl _⟩ rfl rfl rfl (Nat.le_of_ble_eq_true rfl) kd_Mo_operand_46 rfl (c1 := 0) (s1 := 0) rfl rfl (fun v w hp => ?_)
  obtain ⟨rfl, rfl⟩ := hp
  refine zk_stk (r' := [.int v2]) rfl ?_
  refine zk_istore_n (lv' := [(1, _), (0, _)]) C kd_Mo_operand_49 rfl (by decide) rfl rfl ?_
  refine zk_aload_n C kd_Mo_operand_50 rfl 1 rfl rfl ?_
  obtain ⟨h5, c4, e⟩ := zd_b e
  refine zs_callV (k := 68) (rn := { frames := 1, cells := 0, slots := 0, locals := 22 }) (As := []) (rest := []) C (zc_Mo_open h3 c4) ku_Mo_open kw2173 kv_Mo_open rfl (zd_rmO (by decide) (by decide)) ⟨Nat.le_refl _, Nat.le_refl _⟩ rfl rfl rfl (Nat.le_of_ble_eq_true rfl) kd_Mo_operand_51 rfl (c1 := 0) (s1 := 0) rfl rfl (fun v w hp => ?_)
  obtain ⟨rfl, rfl⟩ := hp
  refine zk_stk (r' := []) rfl ?_
  refine zk_aload_n C kd_Mo_operand_54 rfl 1 rfl rfl ?_
  obtain ⟨h7, c6, e⟩ := zd_b e
  refine zs_callV (k := 68) (rn := { frames := 7, cells := 0, slots := 0, locals := 150 }) (As := []) (rest := []) C (zc_Mo_next2 h5 c6) ku_Mo_next2 kw2185 kv_Mo_next2 rfl (zd_rmO (by decide) (by decide)) ⟨Nat.le_refl _, Nat.le_refl _⟩ rfl rfl rfl (Nat.le_of_ble_eq_true rfl) kd_Mo_operand_55 rfl (c1 := 0) (s1 := 0) rfl rfl (fun v w hp => ?_)
  obtain ⟨rfl, rfl⟩ := hp
  refine zk_stk (r' := []) rfl ?_
  refine zk_aload_n C kd_Mo_operand_58 rfl 1 rfl rfl ?_
  obtain ⟨h9, c8, e⟩ := zd_b e
  refine zs_callV (k := 68) (rn := { frames := 402 + d, cells := 0, slots := 0, locals := 9648 + 24 * d }) (As := []) (rest := []) C (hr_Mo_operand h7 c8) ku_Mo_operand kw2181 kv_Mo_operand rfl (zd_rmI (by decide)) ⟨Nat.le_refl _, Nat.le_refl _⟩ rfl rfl rfl (Nat.le_of_ble_eq_true rfl) kd_Mo_operand_59 rfl (c1 := 0) (s1 := 0) rfl rfl (fun v w hp => ?_)
  obtain ⟨rfl, rfl⟩ := hp
  refine zk_stk (r' := []) rfl ?_
  refine zk_aload_n C kd_Mo_operand_62 rfl 1 rfl rfl ?_
  refine zk_dup C kd_Mo_operand_63 rfl rfl ?_
  refine zs_get (v := .int (h9.1 68 12)) C 68 12 rfl rfl rfl rfl ki_Mo (by decide) kw1695 kd_Mo_operand_64 rfl ?_
  refine zk_iconst (v := 1) C kd_Mo_operand_67 (by decide) rfl ?_
  refine zk_isub C kd_Mo_operand_68 rfl ?_
  refine zs_put (ty := .int) C 68 12 ((h9.1 68 12) - 1) rfl rfl rfl rfl ki_Mo ky_Mo ko_Mo kn_Mo (by decide) kw1695 rfl rfl rfl rfl (by decide) kd_Mo_operand_69 rfl ?_
  refine zk_aload_n C kd_Mo_operand_72 rfl 1 rfl rfl ?_
  refine zs_get (v := .int (h9.1 68 10)) C 68 10 rfl rfl rfl rfl ki_Mo (by decide) kw1693 kd_Mo_operand_73 rfl ?_
  refine zk_if_ne (tgt := 108) C kd_Mo_operand_76 (by decide) rfl (fun b10 => ?_) (fun b10 => ?_)
  · replace e := zd_neg b10 e
    refine zk_goto (tgt := 225) C kd_Mo_operand_108 (by decide) ?_
    exact zk_vret C hR kd_Mo_operand_225 rfl rfl (zd_rV e)
  · replace e := zd_pos b10 e
    refine zk_aload_n C kd_Mo_operand_79 rfl 1 rfl rfl ?_
    refine zk_dup C kd_Mo_operand_80 rfl rfl ?_
    refine zs_get (v := .int (h9.1 68 25)) C 68 25 rfl rfl rfl rfl ki_Mo (by decide) kw1708 kd_Mo_operand_81 rfl ?_
    refine zk_iconst (v := 1) C kd_Mo_operand_84 (by decide) rfl ?_
    refine zk_isub C kd_Mo_operand_85 rfl ?_
    refine zs_put (ty := .int) C 68 25 ((h9.1 68 25) - 1) rfl rfl rfl rfl ki_Mo ky_Mo ko_Mo kn_Mo (by decide) kw1708 rfl rfl rfl rfl (by decide) kd_Mo_operand_86 rfl ?_
    refine zk_aload_n C kd_Mo_operand_89 rfl 1 rfl rfl ?_
    refine zk_aload_n C kd_Mo_operand_90 rfl 1 rfl rfl ?_
    refine zs_get (v := .ref (S.1 81)) C 68 26 rfl rfl rfl rfl ki_Mo (by decide) kw1709 kd_Mo_operand_91 rfl ?_
    refine zk_aload_n C kd_Mo_operand_94 rfl 1 rfl rfl ?_
    refine zs_get (v := .int ((h9.1 68 25) - 1)) C 68 25 rfl rfl rfl rfl ki_Mo (by decide) kw1708 kd_Mo_operand_95 rfl ?_
    obtain ⟨q11, e⟩ := zd_g e
    refine zs_iald C 81 rfl (zd_vp q11) kd_Mo_operand_98 rfl ?_
    refine zk_stk (r' := [.int (h9.2.1 81 ((h9.1 68 25) - 1).toNatClampNeg), .ref (S.1 68)]) rfl ?_
    refine zk_iload_n C kd_Mo_operand_99 rfl 0 rfl rfl ?_
    obtain ⟨h13, c12, e⟩ := zd_b e
    refine zs_callV (k := 68) (rn := { frames := 0, cells := 0, slots := 0, locals := 0 }) (As := [.int (h9.2.1 81 ((h9.1 68 25) - 1).toNatClampNeg), .int v2]) (rest := []) C (zc_Mo_hang (zs_uF (zs_uF h9 68 12 ((h9.1 68 12) - 1)) 68 25 ((h9.1 68 25) - 1)) (h9.2.1 81 ((h9.1 68 25) - 1).toNatClampNeg) v2 c12) ku_Mo_hang kw2101 kv_Mo_hang rfl (zd_rmO (by decide) (by decide)) ⟨Nat.le_refl _, Nat.le_refl _⟩ rfl rfl rfl (Nat.le_of_ble_eq_true rfl) kd_Mo_operand_100 rfl (c1 := 0) (s1 := 0) rfl rfl (fun v w hp => ?_)
    obtain ⟨rfl, rfl⟩ := hp
    refine zk_stk (r' := []) rfl ?_
    refine zk_aload_n C kd_Mo_operand_103 rfl 1 rfl rfl ?_
    refine zk_iload_n C kd_Mo_operand_104 rfl 0 rfl rfl ?_
    obtain ⟨h15, c14, e⟩ := zd_b e
    refine zs_callV (k := 68) (rn := { frames := 0, cells := 0, slots := 0, locals := 0 }) (As := [.int v2]) (rest := []) C (zc_Mo_keep h13 v2 c14) ku_Mo_keep kw2189 kv_Mo_keep rfl (zd_rmO (by decide) (by decide)) ⟨Nat.le_refl _, Nat.le_refl _⟩ rfl rfl rfl (Nat.le_of_ble_eq_true rfl) kd_Mo_operand_105 rfl (c1 := 0) (s1 := 0) rfl rfl (fun v w hp => ?_)
    obtain ⟨rfl, rfl⟩ := hp
    refine zk_stk (r' := []) rfl ?_
    refine zk_goto (tgt := 225) C kd_Mo_operand_108 (by decide) ?_
    exact zk_vret C hR kd_Mo_operand_225 rfl rfl (zd_rV e)
set_option maxHeartbeats 4000000 in
set_option maxRecDepth 100000 in
theorem zb_Mo_operand_26 {X : zkj_T} {S : zs_T} {P : ze_T} {l : Launch} {D : va_G} {sz0 : Nat} {d : Nat} {rh : zs_H} (C : zk_C X km_Mo_operand (zs_G S l D sz0) { frames := 402 + (d + 1), cells := 0, slots := 0, locals := 9648 + 24 * (d + 1) } (ze_E P)) (hR : zkj_R X (zd_PV S rh) (none)) {r_Mo_operand : zs_H → (Option zs_H)} (hr_Mo_operand : ∀ (h : zs_H) {rh : zs_H}, r_Mo_operand h = some rh → zk_Sp (zs_G S l D sz0) (ze_E P) km_Mo_operand { frames := 402 + d, cells := 0, slots := 0, locals := 9648 + 24 * d } [.ref (S.1 68)] (zs_W S h) (zd_PV S rh)) (h : zs_H) (e : f_Mo_operand_26 r_Mo_operand h = some rh) : zk_Ab X (zs_W S h) 0 0 26 [(0, .ref (S.1 68))] [] := by
  unfold f_Mo_operand_26 at e
  refine zk_aload_n C kd_Mo_operand_26 rfl 0 rfl rfl ?_
  refine zk_bipush (v := 36) C kd_Mo_operand_27 (by decide) rfl ?_
  refine zk_aload_n C kd_Mo_operand_29 rfl 0 rfl rfl ?_
  refine zs_get (v := .int (h.1 68 7)) C 68 7 rfl rfl rfl rfl ki_Mo (by decide) kw1690 kd_Mo_operand_30 rfl ?_
  refine zk_aload_n C kd_Mo_operand_33 rfl 0 rfl rfl ?_
  refine zs_get (v := .int (h.1 68 6)) C 68 6 rfl rfl rfl rfl ki_Mo (by decide) kw1689 kd_Mo_operand_34 rfl ?_
  refine zk_iconst (v := 5) C kd_Mo_operand_37 (by decide) rfl ?_
  refine zk_icmp_ne (tgt := 45) C kd_Mo_operand_38 (by decide) rfl (fun b1 => ?_) (fun b1 => ?_)
  · replace e := zd_neg b1 e
    refine zk_iconst (v := 1) C kd_Mo_operand_45 (by decide) rfl ?_
    refine zk_lvs (lv' := [(0, .ref (S.1 68))]) [0] rfl ?_
    exact zb_Mo_operand_46 C hR hr_Mo_operand h 1 (h.1 68 7) 36 e
  · replace e := zd_pos b1 e
    refine zk_iconst (v := 0) C kd_Mo_operand_41 (by decide) rfl ?_
    refine zk_goto (tgt := 46) C kd_Mo_operand_42 (by decide) ?_
    refine zk_lvs (lv' := [(0, .ref (S.1 68))]) [0] rfl ?_
    exact zb_Mo_operand_46 C hR hr_Mo_operand h 0 (h.1 68 7) 36 e
set_option maxHeartbeats 4000000 in
set_option maxRecDepth 100000 in
theorem zb_Mo_operand_162 {X : zkj_T} {S : zs_T} {P : ze_T} {l : Launch} {D : va_G} {sz0 : Nat} {d : Nat} {rh : zs_H} (C : zk_C X km_Mo_operand (zs_G S l D sz0) { frames := 402 + (d + 1), cells := 0, slots := 0, locals := 9648 + 24 * (d + 1) } (ze_E P)) (hR : zkj_R X (zd_PV S rh) (none)) (h : zs_H) (e : f_Mo_operand_162 h = some rh) : zk_Ab X (zs_W S h) 0 0 162 [(0, .ref (S.1 68))] [] := by
  unfold f_Mo_operand_162 at e
  refine zk_aload_n C kd_Mo_operand_162 rfl 0 rfl rfl ?_
  refine zk_aload_n C kd_Mo_operand_163 rfl 0 rfl rfl ?_
  refine zk_bipush (v := 31) C kd_Mo_operand_164 (by decide) rfl ?_
  refine zk_aload_n C kd_Mo_operand_166 rfl 0 rfl rfl ?_
  refine zs_get (v := .int (h.1 68 7)) C 68 7 rfl rfl rfl rfl ki_Mo (by decide) kw1690 kd_Mo_operand_167 rfl ?_
  refine zk_bipush (v := 36) C kd_Mo_operand_170 (by decide) rfl ?_
  refine zk_aload_n C kd_Mo_operand_172 rfl 0 rfl rfl ?_
  refine zs_get (v := .int (h.1 68 9)) C 68 9 rfl rfl rfl rfl ki_Mo (by decide) kw1692 kd_Mo_operand_173 rfl ?_
  refine zk_isub C kd_Mo_operand_176 rfl ?_
  obtain ⟨v2, h3, c1, e⟩ := zd_Be e
  refine zs_callV (k := 68) (rn := { frames := 0, cells := 0, slots := 0, locals := 0 }) (As := [.int 31, .int (h.1 68 7), .int (36 - (h.1 68 9))]) (rest := [.ref (S.1 68)]) C (zc_Mo_node h 31 (h.1 68 7) (36 - (h.1 68 9)) c1) ku_Mo_node kw2085 kv_Mo_node rfl (zd_rmO (by decide) (by decide)) ⟨Nat.le_refl _, Nat.le_refl _⟩ rfl rfl rfl (Nat.le_of_ble_eq_true rfl) kd_Mo_operand_177 rfl (c1 := 0) (s1 := 0) rfl rfl (fun v w hp => ?_)
  obtain ⟨rfl, rfl⟩ := hp
  refine zk_stk (r' := [.int v2, .ref (S.1 68)]) rfl ?_
  obtain ⟨h5, c4, e⟩ := zd_b e
  refine zs_callV (k := 68) (rn := { frames := 0, cells := 0, slots := 0, locals := 0 }) (As := [.int v2]) (rest := []) C (zc_Mo_keep h3 v2 c4) ku_Mo_keep kw2189 kv_Mo_keep rfl (zd_rmO (by decide) (by decide)) ⟨Nat.le_refl _, Nat.le_refl _⟩ rfl rfl rfl (Nat.le_of_ble_eq_true rfl) kd_Mo_operand_180 rfl (c1 := 0) (s1 := 0) rfl rfl (fun v w hp => ?_)
  obtain ⟨rfl, rfl⟩ := hp
  refine zk_stk (r' := []) rfl ?_
  refine zk_aload_n C kd_Mo_operand_183 rfl 0 rfl rfl ?_
  obtain ⟨h7, c6, e⟩ := zd_b e
  refine zs_callV (k := 68) (rn := { frames := 6, cells := 0, slots := 0, locals := 129 }) (As := []) (rest := []) C (zc_Mo_next h5 c6) ku_Mo_next kw2001 kv_Mo_next rfl (zd_rmO (by decide) (by decide)) ⟨Nat.le_refl _, Nat.le_refl _⟩ rfl rfl rfl (Nat.le_of_ble_eq_true rfl) kd_Mo_operand_184 rfl (c1 := 0) (s1 := 0) rfl rfl (fun v w hp => ?_)
  obtain ⟨rfl, rfl⟩ := hp
  refine zk_stk (r' := []) rfl ?_
  refine zk_goto (tgt := 225) C kd_Mo_operand_187 (by decide) ?_
  exact zk_vret C hR kd_Mo_operand_225 rfl rfl (zd_rV e)
set_option maxHeartbeats 4000000 in
set_option maxRecDepth 100000 in
theorem zg_Mo_operand {l : Launch} {D : va_G} {sz0 : Nat} {S : zs_T} {P : ze_T} {d : Nat} {r_Mo_bracket : zs_H → (Option zs_H)} (hr_Mo_bracket : ∀ (h : zs_H) {rh : zs_H}, r_Mo_bracket h = some rh → zk_Sp (zs_G S l D sz0) (ze_E P) km_Mo_bracket { frames := 402 + d, cells := 0, slots := 0, locals := 9648 + 24 * d } [.ref (S.1 68)] (zs_W S h) (zd_PV S rh)) {r_Mo_nameOperand : zs_H → (Option zs_H)} (hr_Mo_nameOperand : ∀ (h : zs_H) {rh : zs_H}, r_Mo_nameOperand h = some rh → zk_Sp (zs_G S l D sz0) (ze_E P) km_Mo_nameOperand { frames := 402 + d, cells := 0, slots := 0, locals := 9648 + 24 * d } [.ref (S.1 68)] (zs_W S h) (zd_PV S rh)) {r_Mo_operand : zs_H → (Option zs_H)} (hr_Mo_operand : ∀ (h : zs_H) {rh : zs_H}, r_Mo_operand h = some rh → zk_Sp (zs_G S l D sz0) (ze_E P) km_Mo_operand { frames := 402 + d, cells := 0, slots := 0, locals := 9648 + 24 * d } [.ref (S.1 68)] (zs_W S h) (zd_PV S rh)) (h : zs_H) {rh : zs_H} (e : g_Mo_operand r_Mo_bracket r_Mo_nameOperand r_Mo_operand h = some rh) : zk_Sp (zs_G S l D sz0) (ze_E P) km_Mo_operand { frames := 402 + (d + 1), cells := 0, slots := 0, locals := 9648 + 24 * (d + 1) } [.ref (S.1 68)] (zs_W S h) (zd_PV S rh) := by
  refine zk_met ku_Mo_operand (Nat.le_of_ble_eq_true rfl) (ze_Em P) ?_
  intro X C hR
  refine zk_lvs (lv' := [(0, .ref (S.1 68))]) [0] rfl ?_
  unfold g_Mo_operand at e
  refine zk_aload_n C kd_Mo_operand_0 rfl 0 rfl rfl ?_
  refine zs_get (v := .int (h.1 68 10)) C 68 10 rfl rfl rfl rfl ki_Mo (by decide) kw1693 kd_Mo_operand_1 rfl ?_
  refine zk_if_le (tgt := 8) C kd_Mo_operand_4 (by decide) rfl (fun b1 => ?_) (fun b1 => ?_)
  · replace e := zd_pos b1 e
    refine zk_aload_n C kd_Mo_operand_8 rfl 0 rfl rfl ?_
    refine zk_bipush (v := 45) C kd_Mo_operand_9 (by decide) rfl ?_
    refine zs_callV (k := 68) (rn := { frames := 0, cells := 0, slots := 0, locals := 0 }) (As := [.int 45]) (rest := []) C (zc_Mo_isSign h 45) ku_Mo_isSign kw2117 kv_Mo_isSign rfl (zd_rmO (by decide) (by decide)) ⟨Nat.le_refl _, Nat.le_refl _⟩ rfl rfl rfl (Nat.le_of_ble_eq_true rfl) kd_Mo_operand_11 rfl (c1 := 0) (s1 := 0) rfl rfl (fun v w hp => ?_)
    obtain ⟨rfl, rfl, z2⟩ := hp
    refine zk_stk (r' := [.int (f_Mo_isSign h 45)]) rfl ?_
    refine zk_if_ne (tgt := 26) C kd_Mo_operand_14 (by decide) rfl (fun b3 => ?_) (fun b3 => ?_)
    · replace e := zd_neg b3 e
      refine zk_lvs (lv' := [(0, .ref (S.1 68))]) [0] rfl ?_
      exact zb_Mo_operand_26 C hR hr_Mo_operand h e
    · replace e := zd_pos b3 e
      refine zk_aload_n C kd_Mo_operand_17 rfl 0 rfl rfl ?_
      refine zk_bipush (v := 34) C kd_Mo_operand_18 (by decide) rfl ?_
      refine zs_callV (k := 68) (rn := { frames := 0, cells := 0, slots := 0, locals := 0 }) (As := [.int 34]) (rest := []) C (zc_Mo_isWord h 34) ku_Mo_isWord kw2125 kv_Mo_isWord rfl (zd_rmO (by decide) (by decide)) ⟨Nat.le_refl _, Nat.le_refl _⟩ rfl rfl rfl (Nat.le_of_ble_eq_true rfl) kd_Mo_operand_20 rfl (c1 := 0) (s1 := 0) rfl rfl (fun v w hp => ?_)
      obtain ⟨rfl, rfl, z4⟩ := hp
      refine zk_stk (r' := [.int (f_Mo_isWord h 34)]) rfl ?_
      refine zk_if_eq (tgt := 111) C kd_Mo_operand_23 (by decide) rfl (fun b5 => ?_) (fun b5 => ?_)
      · replace e := zd_pos b5 e
        refine zk_aload_n C kd_Mo_operand_111 rfl 0 rfl rfl ?_
        refine zs_get (v := .int (h.1 68 6)) C 68 6 rfl rfl rfl rfl ki_Mo (by decide) kw1689 kd_Mo_operand_112 rfl ?_
        refine zk_iconst (v := 3) C kd_Mo_operand_115 (by decide) rfl ?_
        refine zk_icmp_ne (tgt := 144) C kd_Mo_operand_116 (by decide) rfl (fun b6 => ?_) (fun b6 => ?_)
        · replace e := zd_neg b6 e
          refine zk_aload_n C kd_Mo_operand_144 rfl 0 rfl rfl ?_
          refine zk_bipush (v := 35) C kd_Mo_operand_145 (by decide) rfl ?_
          refine zs_callV (k := 68) (rn := { frames := 0, cells := 0, slots := 0, locals := 0 }) (As := [.int 35]) (rest := []) C (zc_Mo_isWord h 35) ku_Mo_isWord kw2125 kv_Mo_isWord rfl (zd_rmO (by decide) (by decide)) ⟨Nat.le_refl _, Nat.le_refl _⟩ rfl rfl rfl (Nat.le_of_ble_eq_true rfl) kd_Mo_operand_147 rfl (c1 := 0) (s1 := 0) rfl rfl (fun v w hp => ?_)
          obtain ⟨rfl, rfl, z7⟩ := hp
          refine zk_stk (r' := [.int (f_Mo_isWord h 35)]) rfl ?_
          refine zk_if_ne (tgt := 162) C kd_Mo_operand_150 (by decide) rfl (fun b8 => ?_) (fun b8 => ?_)
          · replace e := zd_neg b8 e
            refine zk_lvs (lv' := [(0, .ref (S.1 68))]) [0] rfl ?_
            exact zb_Mo_operand_162 C hR h e
          · replace e := zd_pos b8 e
            refine zk_aload_n C kd_Mo_operand_153 rfl 0 rfl rfl ?_
            refine zk_bipush (v := 36) C kd_Mo_operand_154 (by decide) rfl ?_
            refine zs_callV (k := 68) (rn := { frames := 0, cells := 0, slots := 0, locals := 0 }) (As := [.int 36]) (rest := []) C (zc_Mo_isWord h 36) ku_Mo_isWord kw2125 kv_Mo_isWord rfl (zd_rmO (by decide) (by decide)) ⟨Nat.le_refl _, Nat.le_refl _⟩ rfl rfl rfl (Nat.le_of_ble_eq_true rfl) kd_Mo_operand_156 rfl (c1 := 0) (s1 := 0) rfl rfl (fun v w hp => ?_)
            obtain ⟨rfl, rfl, z9⟩ := hp
            refine zk_stk (r' := [.int (f_Mo_isWord h 36)]) rfl ?_
            refine zk_if_eq (tgt := 190) C kd_Mo_operand_159 (by decide) rfl (fun b10 => ?_) (fun b10 => ?_)
            · replace e := zd_pos b10 e
              refine zk_aload_n C kd_Mo_operand_190 rfl 0 rfl rfl ?_
              refine zk_bipush (v := 40) C kd_Mo_operand_191 (by decide) rfl ?_
              refine zs_callV (k := 68) (rn := { frames := 0, cells := 0, slots := 0, locals := 0 }) (As := [.int 40]) (rest := []) C (zc_Mo_isSign h 40) ku_Mo_isSign kw2117 kv_Mo_isSign rfl (zd_rmO (by decide) (by decide)) ⟨Nat.le_refl _, Nat.le_refl _⟩ rfl rfl rfl (Nat.le_of_ble_eq_true rfl) kd_Mo_operand_193 rfl (c1 := 0) (s1 := 0) rfl rfl (fun v w hp => ?_)
              obtain ⟨rfl, rfl, z11⟩ := hp
              refine zk_stk (r' := [.int (f_Mo_isSign h 40)]) rfl ?_
              refine zk_if_eq (tgt := 206) C kd_Mo_operand_196 (by decide) rfl (fun b12 => ?_) (fun b12 => ?_)
              · replace e := zd_pos b12 e
                refine zk_aload_n C kd_Mo_operand_206 rfl 0 rfl rfl ?_
                refine zs_get (v := .int (h.1 68 6)) C 68 6 rfl rfl rfl rfl ki_Mo (by decide) kw1689 kd_Mo_operand_207 rfl ?_
                refine zk_iconst (v := 1) C kd_Mo_operand_210 (by decide) rfl ?_
                refine zk_icmp_ne (tgt := 221) C kd_Mo_operand_211 (by decide) rfl (fun b13 => ?_) (fun b13 => ?_)
                · replace e := zd_neg b13 e
                  refine zk_aload_n C kd_Mo_operand_221 rfl 0 rfl rfl ?_
                  obtain ⟨h15, c14, e⟩ := zd_b e
                  refine zs_callV (k := 68) (rn := { frames := 1, cells := 0, slots := 0, locals := 22 }) (As := []) (rest := []) C (zc_Mo_wrong h c14) ku_Mo_wrong kw2093 kv_Mo_wrong rfl (zd_rmO (by decide) (by decide)) ⟨Nat.le_refl _, Nat.le_refl _⟩ rfl rfl rfl (Nat.le_of_ble_eq_true rfl) kd_Mo_operand_222 rfl (c1 := 0) (s1 := 0) rfl rfl (fun v w hp => ?_)
                  obtain ⟨rfl, rfl⟩ := hp
                  refine zk_stk (r' := []) rfl ?_
                  exact zk_vret C hR kd_Mo_operand_225 rfl rfl (zd_rV e)
                · replace e := zd_pos b13 e
                  refine zk_aload_n C kd_Mo_operand_214 rfl 0 rfl rfl ?_
                  obtain ⟨h17, c16, e⟩ := zd_b e
                  refine zs_callV (k := 68) (rn := { frames := 402 + d, cells := 0, slots := 0, locals := 9648 + 24 * d }) (As := []) (rest := []) C (hr_Mo_nameOperand h c16) ku_Mo_nameOperand kw2197 kv_Mo_nameOperand rfl (zd_rmI (by decide)) ⟨Nat.le_refl _, Nat.le_refl _⟩ rfl rfl rfl (Nat.le_of_ble_eq_true rfl) kd_Mo_operand_215 rfl (c1 := 0) (s1 := 0) rfl rfl (fun v w hp => ?_)
                  obtain ⟨rfl, rfl⟩ := hp
                  refine zk_stk (r' := []) rfl ?_
                  refine zk_goto (tgt := 225) C kd_Mo_operand_218 (by decide) ?_
                  exact zk_vret C hR kd_Mo_operand_225 rfl rfl (zd_rV e)
              · replace e := zd_neg b12 e
                refine zk_aload_n C kd_Mo_operand_199 rfl 0 rfl rfl ?_
                obtain ⟨h19, c18, e⟩ := zd_b e
                refine zs_callV (k := 68) (rn := { frames := 402 + d, cells := 0, slots := 0, locals := 9648 + 24 * d }) (As := []) (rest := []) C (hr_Mo_bracket h c18) ku_Mo_bracket kw2193 kv_Mo_bracket rfl (zd_rmI (by decide)) ⟨Nat.le_refl _, Nat.le_refl _⟩ rfl rfl rfl (Nat.le_of_ble_eq_true rfl) kd_Mo_operand_200 rfl (c1 := 0) (s1 := 0) rfl rfl (fun v w hp => ?_)
                obtain ⟨rfl, rfl⟩ := hp
                refine zk_stk (r' := []) rfl ?_
                refine zk_goto (tgt := 225) C kd_Mo_operand_203 (by decide) ?_
                exact zk_vret C hR kd_Mo_operand_225 rfl rfl (zd_rV e)
            · replace e := zd_neg b10 e
              refine zk_lvs (lv' := [(0, .ref (S.1 68))]) [0] rfl ?_
              exact zb_Mo_operand_162 C hR h e
        · replace e := zd_pos b6 e
          refine zk_aload_n C kd_Mo_operand_119 rfl 0 rfl rfl ?_
          refine zk_aload_n C kd_Mo_operand_120 rfl 0 rfl rfl ?_
          refine zk_bipush (v := 30) C kd_Mo_operand_121 (by decide) rfl ?_
          refine zk_aload_n C kd_Mo_operand_123 rfl 0 rfl rfl ?_
          refine zs_get (v := .int (h.1 68 7)) C 68 7 rfl rfl rfl rfl ki_Mo (by decide) kw1690 kd_Mo_operand_124 rfl ?_
          refine zk_aload_n C kd_Mo_operand_127 rfl 0 rfl rfl ?_
          refine zs_get (v := .int (h.1 68 9)) C 68 9 rfl rfl rfl rfl ki_Mo (by decide) kw1692 kd_Mo_operand_128 rfl ?_
          obtain ⟨v21, h22, c20, e⟩ := zd_Be e
          refine zs_callV (k := 68) (rn := { frames := 0, cells := 0, slots := 0, locals := 0 }) (As := [.int 30, .int (h.1 68 7), .int (h.1 68 9)]) (rest := [.ref (S.1 68)]) C (zc_Mo_node h 30 (h.1 68 7) (h.1 68 9) c20) ku_Mo_node kw2085 kv_Mo_node rfl (zd_rmO (by decide) (by decide)) ⟨Nat.le_refl _, Nat.le_refl _⟩ rfl rfl rfl (Nat.le_of_ble_eq_true rfl) kd_Mo_operand_131 rfl (c1 := 0) (s1 := 0) rfl rfl (fun v w hp => ?_)
          obtain ⟨rfl, rfl⟩ := hp
          refine zk_stk (r' := [.int v21, .ref (S.1 68)]) rfl ?_
          obtain ⟨h24, c23, e⟩ := zd_b e
          refine zs_callV (k := 68) (rn := { frames := 0, cells := 0, slots := 0, locals := 0 }) (As := [.int v21]) (rest := []) C (zc_Mo_keep h22 v21 c23) ku_Mo_keep kw2189 kv_Mo_keep rfl (zd_rmO (by decide) (by decide)) ⟨Nat.le_refl _, Nat.le_refl _⟩ rfl rfl rfl (Nat.le_of_ble_eq_true rfl) kd_Mo_operand_134 rfl (c1 := 0) (s1 := 0) rfl rfl (fun v w hp => ?_)
          obtain ⟨rfl, rfl⟩ := hp
          refine zk_stk (r' := []) rfl ?_
          refine zk_aload_n C kd_Mo_operand_137 rfl 0 rfl rfl ?_
          obtain ⟨h26, c25, e⟩ := zd_b e
          refine zs_callV (k := 68) (rn := { frames := 6, cells := 0, slots := 0, locals := 129 }) (As := []) (rest := []) C (zc_Mo_next h24 c25) ku_Mo_next kw2001 kv_Mo_next rfl (zd_rmO (by decide) (by decide)) ⟨Nat.le_refl _, Nat.le_refl _⟩ rfl rfl rfl (Nat.le_of_ble_eq_true rfl) kd_Mo_operand_138 rfl (c1 := 0) (s1 := 0) rfl rfl (fun v w hp => ?_)
          obtain ⟨rfl, rfl⟩ := hp
          refine zk_stk (r' := []) rfl ?_
          refine zk_goto (tgt := 225) C kd_Mo_operand_141 (by decide) ?_
          exact zk_vret C hR kd_Mo_operand_225 rfl rfl (zd_rV e)
      · replace e := zd_neg b5 e
        refine zk_lvs (lv' := [(0, .ref (S.1 68))]) [0] rfl ?_
        exact zb_Mo_operand_26 C hR hr_Mo_operand h e
  · replace e := zd_neg b1 e
    exact zk_vret C hR kd_Mo_operand_7 rfl rfl (zd_rV e)
theorem zs_Mo_bracket {l : Launch} {D : va_G} {sz0 : Nat} {S : zs_T} {P : ze_T} (d : Nat) : (∀ (h : zs_H) {rh : zs_H}, f_Mo_bracket d h = some rh → zk_Sp (zs_G S l D sz0) (ze_E P) km_Mo_bracket { frames := 402 + d, cells := 0, slots := 0, locals := 9648 + 24 * d } [.ref (S.1 68)] (zs_W S h) (zd_PV S rh)) ∧ (∀ (h : zs_H) (x0 : Int32) {rh : zs_H}, f_Mo_call d h x0 = some rh → zk_Sp (zs_G S l D sz0) (ze_E P) km_Mo_call { frames := 402 + d, cells := 0, slots := 0, locals := 9648 + 24 * d } [.ref (S.1 68), .int x0] (zs_W S h) (zd_PV S rh)) ∧ (∀ (h : zs_H) (x0 : Int32) {rh : zs_H}, f_Mo_element d h x0 = some rh → zk_Sp (zs_G S l D sz0) (ze_E P) km_Mo_element { frames := 402 + d, cells := 0, slots := 0, locals := 9648 + 24 * d } [.ref (S.1 68), .int x0] (zs_W S h) (zd_PV S rh)) ∧ (∀ (h : zs_H) (x0 : Int32) {rh : zs_H}, f_Mo_expression d h x0 = some rh → zk_Sp (zs_G S l D sz0) (ze_E P) km_Mo_expression { frames := 402 + d, cells := 0, slots := 0, locals := 9648 + 24 * d } [.ref (S.1 68), .int x0] (zs_W S h) (zd_PV S rh)) ∧ (∀ (h : zs_H) {rh : zs_H}, f_Mo_nameOperand d h = some rh → zk_Sp (zs_G S l D sz0) (ze_E P) km_Mo_nameOperand { frames := 402 + d, cells := 0, slots := 0, locals := 9648 + 24 * d } [.ref (S.1 68)] (zs_W S h) (zd_PV S rh)) ∧ (∀ (h : zs_H) {rh : zs_H}, f_Mo_operand d h = some rh → zk_Sp (zs_G S l D sz0) (ze_E P) km_Mo_operand { frames := 402 + d, cells := 0, slots := 0, locals := 9648 + 24 * d } [.ref (S.1 68)] (zs_W S h) (zd_PV S rh)) := by
  induction d with
  | zero => exact ⟨(fun h _ e => zd_no e), (fun h x0 _ e => zd_no e), (fun h x0 _ e => zd_no e), (fun h x0 _ e => zd_no e), (fun h _ e => zd_no e), (fun h _ e => zd_no e)⟩
  | succ d ih =>
    obtain ⟨q0, q1, q2, q3, q4, q5⟩ := ih
    exact ⟨(fun h _ e => zg_Mo_bracket (r_Mo_expression := f_Mo_expression d) q3 h e), (fun h x0 _ e => zg_Mo_call (r_Mo_expression := f_Mo_expression d) q3 h x0 e), (fun h x0 _ e => zg_Mo_element (r_Mo_expression := f_Mo_expression d) q3 h x0 e), (fun h x0 _ e => zg_Mo_expression (r_Mo_operand := f_Mo_operand d) q5 h x0 e), (fun h _ e => zg_Mo_nameOperand (r_Mo_call := f_Mo_call d) q1 (r_Mo_element := f_Mo_element d) q2 h e), (fun h _ e => zg_Mo_operand (r_Mo_bracket := f_Mo_bracket d) q0 (r_Mo_nameOperand := f_Mo_nameOperand d) q4 (r_Mo_operand := f_Mo_operand d) q5 h e)⟩
theorem zc_Mo_bracket {l : Launch} {D : va_G} {sz0 : Nat} {S : zs_T} {P : ze_T} (h : zs_H) {rh : zs_H} (e : f_Mo_bracket 400 h = some rh) : zk_Sp (zs_G S l D sz0) (ze_E P) km_Mo_bracket { frames := 402 + 400, cells := 0, slots := 0, locals := 9648 + 24 * 400 } [.ref (S.1 68)] (zs_W S h) (zd_PV S rh) := (zs_Mo_bracket 400).1 h e
theorem zc_Mo_call {l : Launch} {D : va_G} {sz0 : Nat} {S : zs_T} {P : ze_T} (h : zs_H) (x0 : Int32) {rh : zs_H} (e : f_Mo_call 400 h x0 = some rh) : zk_Sp (zs_G S l D sz0) (ze_E P) km_Mo_call { frames := 402 + 400, cells := 0, slots := 0, locals := 9648 + 24 * 400 } [.ref (S.1 68), .int x0] (zs_W S h) (zd_PV S rh) := (zs_Mo_bracket 400).2.1 h x0 e
theorem zc_Mo_element {l : Launch} {D : va_G} {sz0 : Nat} {S : zs_T} {P : ze_T} (h : zs_H) (x0 : Int32) {rh : zs_H} (e : f_Mo_element 400 h x0 = some rh) : zk_Sp (zs_G S l D sz0) (ze_E P) km_Mo_element { frames := 402 + 400, cells := 0, slots := 0, locals := 9648 + 24 * 400 } [.ref (S.1 68), .int x0] (zs_W S h) (zd_PV S rh) := (zs_Mo_bracket 400).2.2.1 h x0 e
theorem zc_Mo_expression {l : Launch} {D : va_G} {sz0 : Nat} {S : zs_T} {P : ze_T} (h : zs_H) (x0 : Int32) {rh : zs_H} (e : f_Mo_expression 400 h x0 = some rh) : zk_Sp (zs_G S l D sz0) (ze_E P) km_Mo_expression { frames := 402 + 400, cells := 0, slots := 0, locals := 9648 + 24 * 400 } [.ref (S.1 68), .int x0] (zs_W S h) (zd_PV S rh) := (zs_Mo_bracket 400).2.2.2.1 h x0 e
theorem zc_Mo_nameOperand {l : Launch} {D : va_G} {sz0 : Nat} {S : zs_T} {P : ze_T} (h : zs_H) {rh : zs_H} (e : f_Mo_nameOperand 400 h = some rh) : zk_Sp (zs_G S l D sz0) (ze_E P) km_Mo_nameOperand { frames := 402 + 400, cells := 0, slots := 0, locals := 9648 + 24 * 400 } [.ref (S.1 68)] (zs_W S h) (zd_PV S rh) := (zs_Mo_bracket 400).2.2.2.2.1 h e
theorem zc_Mo_operand {l : Launch} {D : va_G} {sz0 : Nat} {S : zs_T} {P : ze_T} (h : zs_H) {rh : zs_H} (e : f_Mo_operand 400 h = some rh) : zk_Sp (zs_G S l D sz0) (ze_E P) km_Mo_operand { frames := 402 + 400, cells := 0, slots := 0, locals := 9648 + 24 * 400 } [.ref (S.1 68)] (zs_W S h) (zd_PV S rh) := (zs_Mo_bracket 400).2.2.2.2.2 h e
set_option maxHeartbeats 4000000 in
set_option maxRecDepth 100000 in
theorem zb_Mo_invoke_83 {X : zkj_T} {S : zs_T} {P : ze_T} {l : Launch} {D : va_G} {sz0 : Nat} {rh : zs_H} (C : zk_C X km_Mo_invoke (zs_G S l D sz0) { frames := 803, cells := 0, slots := 0, locals := 19272 } (ze_E P)) (hR : zkj_R X (zd_PV S rh) (none)) {k32 : zs_H → Int32 → Int32 → (Option zs_H)} (hk32 : ∀ (h : zs_H) (x1 : Int32) (x2 : Int32), k32 h x1 x2 = some rh → zk_Ab X (zs_W S h) 0 0 32 [(0, .ref (S.1 68)), (1, .int x1), (2, .int x2)] []) (h : zs_H) (x1 : Int32) (x2 : Int32) (e : f_Mo_invoke_83 k32 h x1 x2 = some rh) : zk_Ab X (zs_W S h) 0 0 83 [(0, .ref (S.1 68)), (1, .int x1), (2, .int x2)] [] := by
  unfold f_Mo_invoke_83 at e
  refine zk_goto (tgt := 32) C kd_Mo_invoke_83 (by decide) ?_
  refine zk_lvs (lv' := [(0, .ref (S.1 68)), (1, .int x1), (2, .int x2)]) [0, 1, 2] rfl ?_
  exact hk32 h x1 x2 e
set_option maxHeartbeats 4000000 in
set_option maxRecDepth 100000 in
theorem zb_Mo_invoke_32 {X : zkj_T} {S : zs_T} {P : ze_T} {l : Launch} {D : va_G} {sz0 : Nat} {rh : zs_H} (C : zk_C X km_Mo_invoke (zs_G S l D sz0) { frames := 803, cells := 0, slots := 0, locals := 19272 } (ze_E P)) (hR : zkj_R X (zd_PV S rh) (none)) {k32 : zs_H → Int32 → Int32 → (Option zs_H)} (hk32 : ∀ (h : zs_H) (x1 : Int32) (x2 : Int32), k32 h x1 x2 = some rh → zk_Ab X (zs_W S h) 0 0 32 [(0, .ref (S.1 68)), (1, .int x1), (2, .int x2)] []) (h : zs_H) (x1 : Int32) (x2 : Int32) (e : f_Mo_invoke_32 k32 h x1 x2 = some rh) : zk_Ab X (zs_W S h) 0 0 32 [(0, .ref (S.1 68)), (1, .int x1), (2, .int x2)] [] := by
  unfold f_Mo_invoke_32 at e
  refine zk_iload_n C kd_Mo_invoke_32 rfl 2 rfl rfl ?_
  refine zk_if_eq (tgt := 86) C kd_Mo_invoke_33 (by decide) rfl (fun b1 => ?_) (fun b1 => ?_)
  · replace e := zd_pos b1 e
    refine zk_aload_n C kd_Mo_invoke_86 rfl 0 rfl rfl ?_
    refine zk_bipush (v := 41) C kd_Mo_invoke_87 (by decide) rfl ?_
    obtain ⟨h3, c2, e⟩ := zd_b e
    refine zs_callV (k := 68) (rn := { frames := 8, cells := 0, slots := 0, locals := 171 }) (As := [.int 41]) (rest := []) C (zc_Mo_wantSign h 41 c2) ku_Mo_wantSign kw2113 kv_Mo_wantSign rfl ⟨by decide, by decide⟩ ⟨by decide, by decide⟩ rfl rfl rfl (Nat.le_of_ble_eq_true rfl) kd_Mo_invoke_89 rfl (c1 := 0) (s1 := 0) rfl rfl (fun v w hp => ?_)
    obtain ⟨rfl, rfl⟩ := hp
    refine zk_stk (r' := []) rfl ?_
    refine zk_aload_n C kd_Mo_invoke_92 rfl 0 rfl rfl ?_
    refine zk_dup C kd_Mo_invoke_93 rfl rfl ?_
    refine zs_get (v := .int (h3.1 68 12)) C 68 12 rfl rfl rfl rfl ki_Mo (by decide) kw1695 kd_Mo_invoke_94 rfl ?_
    refine zk_iconst (v := 1) C kd_Mo_invoke_97 (by decide) rfl ?_
    refine zk_isub C kd_Mo_invoke_98 rfl ?_
    refine zs_put (ty := .int) C 68 12 ((h3.1 68 12) - 1) rfl rfl rfl rfl ki_Mo ky_Mo ko_Mo kn_Mo (by decide) kw1695 rfl rfl rfl rfl (by decide) kd_Mo_invoke_99 rfl ?_
    exact zk_vret C hR kd_Mo_invoke_102 rfl rfl (zd_rV e)
  · replace e := zd_neg b1 e
    refine zk_aload_n C kd_Mo_invoke_36 rfl 0 rfl rfl ?_
    refine zs_get (v := .int (h.1 68 7)) C 68 7 rfl rfl rfl rfl ki_Mo (by decide) kw1690 kd_Mo_invoke_37 rfl ?_
    refine zk_istore_n (lv' := [(3, _), (0, _), (1, _), (2, _)]) C kd_Mo_invoke_40 rfl (by decide) rfl rfl ?_
    refine zk_aload_n C kd_Mo_invoke_41 rfl 1 rfl rfl ?_
    refine zk_iload_n C kd_Mo_invoke_42 rfl 2 rfl rfl ?_
    refine zk_bipush (v := 14) C kd_Mo_invoke_43 (by decide) rfl ?_
    refine zk_iload_n C kd_Mo_invoke_45 rfl 0 rfl rfl ?_
    refine zk_aload_n C kd_Mo_invoke_46 rfl 1 rfl rfl ?_
    obtain ⟨v5, h6, c4, e⟩ := zd_Be e
    refine zs_callV (k := 68) (rn := { frames := 8, cells := 0, slots := 0, locals := 171 }) (As := []) (rest := [.int (h.1 68 7), .int 14, .int x1, .ref (S.1 68)]) C (zc_Mo_name h c4) ku_Mo_name kw2105 kv_Mo_name rfl ⟨by decide, by decide⟩ ⟨by decide, by decide⟩ rfl rfl rfl (Nat.le_of_ble_eq_true rfl) kd_Mo_invoke_47 rfl (c1 := 0) (s1 := 0) rfl rfl (fun v w hp => ?_)
    obtain ⟨rfl, rfl⟩ := hp
    refine zk_stk (r' := [.int v5, .int (h.1 68 7), .int 14, .int x1, .ref (S.1 68)]) rfl ?_
    obtain ⟨v8, h9, c7, e⟩ := zd_Be e
    refine zs_callV (k := 68) (rn := { frames := 1, cells := 0, slots := 0, locals := 24 }) (As := [.int x1, .int 14, .int (h.1 68 7), .int v5]) (rest := []) C (zc_Mo_add h6 x1 14 (h.1 68 7) v5 c7) ku_Mo_add kw2097 kv_Mo_add rfl ⟨by decide, by decide⟩ ⟨by decide, by decide⟩ rfl rfl rfl (Nat.le_of_ble_eq_true rfl) kd_Mo_invoke_50 rfl (c1 := 0) (s1 := 0) rfl rfl (fun v w hp => ?_)
    obtain ⟨rfl, rfl⟩ := hp
    refine zk_stk (r' := [.int v8]) rfl ?_
    refine zk_istore (lv' := [(4, _), (3, _), (0, _), (1, _), (2, _)]) C kd_Mo_invoke_53 (by decide) rfl rfl ?_
    refine zk_aload_n C kd_Mo_invoke_55 rfl 2 rfl rfl ?_
    refine zk_sipush (v := 256) C kd_Mo_invoke_56 (by decide) rfl ?_
    obtain ⟨h11, c10, e⟩ := zd_b e
    refine zs_callV (k := 68) (rn := { frames := 8, cells := 0, slots := 0, locals := 171 }) (As := [.int 256]) (rest := []) C (zc_Mo_wantSign h9 256 c10) ku_Mo_wantSign kw2113 kv_Mo_wantSign rfl ⟨by decide, by decide⟩ ⟨by decide, by decide⟩ rfl rfl rfl (Nat.le_of_ble_eq_true rfl) kd_Mo_invoke_59 rfl (c1 := 0) (s1 := 0) rfl rfl (fun v w hp => ?_)
    obtain ⟨rfl, rfl⟩ := hp
    refine zk_stk (r' := []) rfl ?_
    refine zk_aload_n C kd_Mo_invoke_62 rfl 2 rfl rfl ?_
    refine zk_iload C kd_Mo_invoke_63 0 rfl rfl ?_
    obtain ⟨h13, c12, e⟩ := zd_b e
    refine zs_callV (k := 68) (rn := { frames := 402 + 400, cells := 0, slots := 0, locals := 9648 + 24 * 400 }) (As := [.int v8]) (rest := []) C (zc_Mo_expression h11 v8 c12) ku_Mo_expression kw2177 kv_Mo_expression rfl ⟨by decide, by decide⟩ ⟨by decide, by decide⟩ rfl rfl rfl (Nat.le_of_ble_eq_true rfl) kd_Mo_invoke_65 rfl (c1 := 0) (s1 := 0) rfl rfl (fun v w hp => ?_)
    obtain ⟨rfl, rfl⟩ := hp
    refine zk_stk (r' := []) rfl ?_
    refine zk_aload_n C kd_Mo_invoke_68 rfl 2 rfl rfl ?_
    refine zk_bipush (v := 44) C kd_Mo_invoke_69 (by decide) rfl ?_
    refine zs_callV (k := 68) (rn := { frames := 0, cells := 0, slots := 0, locals := 0 }) (As := [.int 44]) (rest := []) C (zc_Mo_isSign h13 44) ku_Mo_isSign kw2117 kv_Mo_isSign rfl ⟨by decide, by decide⟩ ⟨by decide, by decide⟩ rfl rfl rfl (Nat.le_of_ble_eq_true rfl) kd_Mo_invoke_71 rfl (c1 := 0) (s1 := 0) rfl rfl (fun v w hp => ?_)
    obtain ⟨rfl, rfl, z14⟩ := hp
    refine zk_stk (r' := [.int (f_Mo_isSign h13 44)]) rfl ?_
    refine zk_istore_n (lv' := [(2, _), (4, _), (3, _), (0, _), (1, _)]) C kd_Mo_invoke_74 rfl (by decide) rfl rfl ?_
    refine zk_iload_n C kd_Mo_invoke_75 rfl 0 rfl rfl ?_
    refine zk_if_eq (tgt := 83) C kd_Mo_invoke_76 (by decide) rfl (fun b15 => ?_) (fun b15 => ?_)
    · replace e := zd_pos b15 e
      refine zk_lvs (lv' := [(0, .ref (S.1 68)), (1, .int x1), (2, .int (f_Mo_isSign h13 44))]) [3, 4, 0] rfl ?_
      exact zb_Mo_invoke_83 C hR hk32 h13 x1 (f_Mo_isSign h13 44) e
    · replace e := zd_neg b15 e
      refine zk_aload_n C kd_Mo_invoke_79 rfl 3 rfl rfl ?_
      obtain ⟨h17, c16, e⟩ := zd_b e
      refine zs_callV (k := 68) (rn := { frames := 6, cells := 0, slots := 0, locals := 129 }) (As := []) (rest := []) C (zc_Mo_next h13 c16) ku_Mo_next kw2001 kv_Mo_next rfl ⟨by decide, by decide⟩ ⟨by decide, by decide⟩ rfl rfl rfl (Nat.le_of_ble_eq_true rfl) kd_Mo_invoke_80 rfl (c1 := 0) (s1 := 0) rfl rfl (fun v w hp => ?_)
      obtain ⟨rfl, rfl⟩ := hp
      refine zk_stk (r' := []) rfl ?_
      refine zk_lvs (lv' := [(0, .ref (S.1 68)), (1, .int x1), (2, .int (f_Mo_isSign h13 44))]) [3, 4, 0] rfl ?_
      exact zb_Mo_invoke_83 C hR hk32 h17 x1 (f_Mo_isSign h13 44) e
theorem zl_Mo_invoke_32 {X : zkj_T} {S : zs_T} {P : ze_T} {l : Launch} {D : va_G} {sz0 : Nat} {rh : zs_H} (C : zk_C X km_Mo_invoke (zs_G S l D sz0) { frames := 803, cells := 0, slots := 0, locals := 19272 } (ze_E P)) (hR : zkj_R X (zd_PV S rh) (none)) (n : Nat) : ∀ (h : zs_H) (x1 : Int32) (x2 : Int32), f_Mo_invoke_L32 n h x1 x2 = some rh → zk_Ab X (zs_W S h) 0 0 32 [(0, .ref (S.1 68)), (1, .int x1), (2, .int x2)] [] := by
  induction n with
  | zero => intro h x1 x2 e; exact zd_no e
  | succ n ih => intro h x1 x2 e; exact zb_Mo_invoke_32 (k32 := f_Mo_invoke_L32  n) C hR ih h x1 x2 e
set_option maxHeartbeats 4000000 in
set_option maxRecDepth 100000 in
theorem zb_Mo_invoke_31 {X : zkj_T} {S : zs_T} {P : ze_T} {l : Launch} {D : va_G} {sz0 : Nat} {rh : zs_H} (C : zk_C X km_Mo_invoke (zs_G S l D sz0) { frames := 803, cells := 0, slots := 0, locals := 19272 } (ze_E P)) (hR : zkj_R X (zd_PV S rh) (none)) (h : zs_H) (x1 : Int32) (y0 : Int32) (e : f_Mo_invoke_31 h x1 y0 = some rh) : zk_Ab X (zs_W S h) 0 0 31 [(0, .ref (S.1 68)), (1, .int x1)] [.int y0] := by
  unfold f_Mo_invoke_31 at e
  refine zk_istore_n (lv' := [(2, _), (0, _), (1, _)]) C kd_Mo_invoke_31 rfl (by decide) rfl rfl ?_
  refine zk_lvs (lv' := [(0, .ref (S.1 68)), (1, .int x1), (2, .int y0)]) [1, 2, 0] rfl ?_
  exact zl_Mo_invoke_32 C hR zF h x1 y0 e
set_option maxHeartbeats 4000000 in
set_option maxRecDepth 100000 in
theorem zb_Mo_invoke_30 {X : zkj_T} {S : zs_T} {P : ze_T} {l : Launch} {D : va_G} {sz0 : Nat} {rh : zs_H} (C : zk_C X km_Mo_invoke (zs_G S l D sz0) { frames := 803, cells := 0, slots := 0, locals := 19272 } (ze_E P)) (hR : zkj_R X (zd_PV S rh) (none)) (h : zs_H) (x1 : Int32) (e : f_Mo_invoke_30 h x1 = some rh) : zk_Ab X (zs_W S h) 0 0 30 [(0, .ref (S.1 68)), (1, .int x1)] [] := by
  unfold f_Mo_invoke_30 at e
  refine zk_iconst (v := 0) C kd_Mo_invoke_30 (by decide) rfl ?_
  refine zk_lvs (lv' := [(0, .ref (S.1 68)), (1, .int x1)]) [0, 1] rfl ?_
  exact zb_Mo_invoke_31 C hR h x1 0 e
set_option maxHeartbeats 4000000 in
set_option maxRecDepth 100000 in
theorem zc_Mo_invoke {l : Launch} {D : va_G} {sz0 : Nat} {S : zs_T} {P : ze_T} (h : zs_H) (x1 : Int32) {rh : zs_H} (e : f_Mo_invoke h x1 = some rh) : zk_Sp (zs_G S l D sz0) (ze_E P) km_Mo_invoke { frames := 803, cells := 0, slots := 0, locals := 19272 } [.ref (S.1 68), .int x1] (zs_W S h) (zd_PV S rh) := by
  refine zk_met ku_Mo_invoke (Nat.le_of_ble_eq_true rfl) (ze_Em P) ?_
  intro X C hR
  refine zk_lvs (lv' := [(0, .ref (S.1 68)), (1, .int x1)]) [0, 1] rfl ?_
  unfold f_Mo_invoke at e
  refine zk_aload_n C kd_Mo_invoke_0 rfl 0 rfl rfl ?_
  obtain ⟨h2, c1, e⟩ := zd_b e
  refine zs_callV (k := 68) (rn := { frames := 1, cells := 0, slots := 0, locals := 22 }) (As := []) (rest := []) C (zc_Mo_open h c1) ku_Mo_open kw2173 kv_Mo_open rfl ⟨by decide, by decide⟩ ⟨by decide, by decide⟩ rfl rfl rfl (Nat.le_of_ble_eq_true rfl) kd_Mo_invoke_1 rfl (c1 := 0) (s1 := 0) rfl rfl (fun v w hp => ?_)
  obtain ⟨rfl, rfl⟩ := hp
  refine zk_stk (r' := []) rfl ?_
  refine zk_aload_n C kd_Mo_invoke_4 rfl 0 rfl rfl ?_
  refine zk_bipush (v := 40) C kd_Mo_invoke_5 (by decide) rfl ?_
  obtain ⟨h4, c3, e⟩ := zd_b e
  refine zs_callV (k := 68) (rn := { frames := 8, cells := 0, slots := 0, locals := 171 }) (As := [.int 40]) (rest := []) C (zc_Mo_wantSign h2 40 c3) ku_Mo_wantSign kw2113 kv_Mo_wantSign rfl ⟨by decide, by decide⟩ ⟨by decide, by decide⟩ rfl rfl rfl (Nat.le_of_ble_eq_true rfl) kd_Mo_invoke_7 rfl (c1 := 0) (s1 := 0) rfl rfl (fun v w hp => ?_)
  obtain ⟨rfl, rfl⟩ := hp
  refine zk_stk (r' := []) rfl ?_
  refine zk_aload_n C kd_Mo_invoke_10 rfl 0 rfl rfl ?_
  refine zs_get (v := .int (h4.1 68 10)) C 68 10 rfl rfl rfl rfl ki_Mo (by decide) kw1693 kd_Mo_invoke_11 rfl ?_
  refine zk_if_ne (tgt := 30) C kd_Mo_invoke_14 (by decide) rfl (fun b5 => ?_) (fun b5 => ?_)
  · replace e := zd_neg b5 e
    refine zk_lvs (lv' := [(0, .ref (S.1 68)), (1, .int x1)]) [0, 1] rfl ?_
    exact zb_Mo_invoke_30 C hR h4 x1 e
  · replace e := zd_pos b5 e
    refine zk_aload_n C kd_Mo_invoke_17 rfl 0 rfl rfl ?_
    refine zk_bipush (v := 41) C kd_Mo_invoke_18 (by decide) rfl ?_
    refine zs_callV (k := 68) (rn := { frames := 0, cells := 0, slots := 0, locals := 0 }) (As := [.int 41]) (rest := []) C (zc_Mo_isSign h4 41) ku_Mo_isSign kw2117 kv_Mo_isSign rfl ⟨by decide, by decide⟩ ⟨by decide, by decide⟩ rfl rfl rfl (Nat.le_of_ble_eq_true rfl) kd_Mo_invoke_20 rfl (c1 := 0) (s1 := 0) rfl rfl (fun v w hp => ?_)
    obtain ⟨rfl, rfl, z6⟩ := hp
    refine zk_stk (r' := [.int (f_Mo_isSign h4 41)]) rfl ?_
    refine zk_if_ne (tgt := 30) C kd_Mo_invoke_23 (by decide) rfl (fun b7 => ?_) (fun b7 => ?_)
    · replace e := zd_neg b7 e
      refine zk_lvs (lv' := [(0, .ref (S.1 68)), (1, .int x1)]) [0, 1] rfl ?_
      exact zb_Mo_invoke_30 C hR h4 x1 e
    · replace e := zd_pos b7 e
      refine zk_iconst (v := 1) C kd_Mo_invoke_26 (by decide) rfl ?_
      refine zk_goto (tgt := 31) C kd_Mo_invoke_27 (by decide) ?_
      refine zk_lvs (lv' := [(0, .ref (S.1 68)), (1, .int x1)]) [0, 1] rfl ?_
      exact zb_Mo_invoke_31 C hR h4 x1 1 e
set_option maxHeartbeats 4000000 in
set_option maxRecDepth 100000 in
theorem zb_Mo_named_82 {X : zkj_T} {S : zs_T} {P : ze_T} {l : Launch} {D : va_G} {sz0 : Nat} {rh : zs_H} (C : zk_C X km_Mo_named (zs_G S l D sz0) { frames := 804, cells := 0, slots := 0, locals := 19296 } (ze_E P)) (hR : zkj_R X (zd_PV S rh) (none)) (h : zs_H) (x4 : Int32) (e : f_Mo_named_82 h x4 = some rh) : zk_Ab X (zs_W S h) 0 0 82 [(0, .ref (S.1 68)), (4, .int x4)] [] := by
  unfold f_Mo_named_82 at e
  refine zk_aload_n C kd_Mo_named_82 rfl 0 rfl rfl ?_
  refine zs_get (v := .ref (S.1 73)) C 68 16 rfl rfl rfl rfl ki_Mo (by decide) kw1699 kd_Mo_named_83 rfl ?_
  refine zk_iload C kd_Mo_named_86 1 rfl rfl ?_
  refine zk_aload_n C kd_Mo_named_88 rfl 0 rfl rfl ?_
  refine zs_get (v := .int (h.1 68 7)) C 68 7 rfl rfl rfl rfl ki_Mo (by decide) kw1690 kd_Mo_named_89 rfl ?_
  obtain ⟨q1, e⟩ := zd_g e
  refine zs_iast C 73 rfl (zd_vp q1) kd_Mo_named_92 rfl ?_
  refine zk_aload_n C kd_Mo_named_93 rfl 0 rfl rfl ?_
  refine zk_sipush (v := 256) C kd_Mo_named_94 (by decide) rfl ?_
  obtain ⟨h3, c2, e⟩ := zd_b e
  refine zs_callV (k := 68) (rn := { frames := 8, cells := 0, slots := 0, locals := 171 }) (As := [.int 256]) (rest := []) C (zc_Mo_wantSign (zs_uM h 73 x4.toNatClampNeg (h.1 68 7)) 256 c2) ku_Mo_wantSign kw2113 kv_Mo_wantSign rfl ⟨by decide, by decide⟩ ⟨by decide, by decide⟩ rfl rfl rfl (Nat.le_of_ble_eq_true rfl) kd_Mo_named_97 rfl (c1 := 0) (s1 := 0) rfl rfl (fun v w hp => ?_)
  obtain ⟨rfl, rfl⟩ := hp
  refine zk_stk (r' := []) rfl ?_
  refine zk_aload_n C kd_Mo_named_100 rfl 0 rfl rfl ?_
  refine zk_iload C kd_Mo_named_101 1 rfl rfl ?_
  obtain ⟨h5, c4, e⟩ := zd_b e
  refine zs_callV (k := 68) (rn := { frames := 402 + 400, cells := 0, slots := 0, locals := 9648 + 24 * 400 }) (As := [.int x4]) (rest := []) C (zc_Mo_expression h3 x4 c4) ku_Mo_expression kw2177 kv_Mo_expression rfl ⟨by decide, by decide⟩ ⟨by decide, by decide⟩ rfl rfl rfl (Nat.le_of_ble_eq_true rfl) kd_Mo_named_103 rfl (c1 := 0) (s1 := 0) rfl rfl (fun v w hp => ?_)
  obtain ⟨rfl, rfl⟩ := hp
  refine zk_stk (r' := []) rfl ?_
  exact zk_vret C hR kd_Mo_named_106 rfl rfl (zd_rV e)
set_option maxHeartbeats 4000000 in
set_option maxRecDepth 100000 in
theorem zc_Mo_named {l : Launch} {D : va_G} {sz0 : Nat} {S : zs_T} {P : ze_T} (h : zs_H) (x1 : Int32) {rh : zs_H} (e : f_Mo_named h x1 = some rh) : zk_Sp (zs_G S l D sz0) (ze_E P) km_Mo_named { frames := 804, cells := 0, slots := 0, locals := 19296 } [.ref (S.1 68), .int x1] (zs_W S h) (zd_PV S rh) := by
  refine zk_met ku_Mo_named (Nat.le_of_ble_eq_true rfl) (ze_Em P) ?_
  intro X C hR
  refine zk_lvs (lv' := [(0, .ref (S.1 68)), (1, .int x1)]) [0, 1] rfl ?_
  unfold f_Mo_named at e
  refine zk_aload_n C kd_Mo_named_0 rfl 0 rfl rfl ?_
  refine zs_get (v := .int (h.1 68 7)) C 68 7 rfl rfl rfl rfl ki_Mo (by decide) kw1690 kd_Mo_named_1 rfl ?_
  refine zk_istore_n (lv' := [(2, _), (0, _), (1, _)]) C kd_Mo_named_4 rfl (by decide) rfl rfl ?_
  refine zk_aload_n C kd_Mo_named_5 rfl 1 rfl rfl ?_
  obtain ⟨v2, h3, c1, e⟩ := zd_Be e
  refine zs_callV (k := 68) (rn := { frames := 8, cells := 0, slots := 0, locals := 171 }) (As := []) (rest := []) C (zc_Mo_name h c1) ku_Mo_name kw2105 kv_Mo_name rfl ⟨by decide, by decide⟩ ⟨by decide, by decide⟩ rfl rfl rfl (Nat.le_of_ble_eq_true rfl) kd_Mo_named_6 rfl (c1 := 0) (s1 := 0) rfl rfl (fun v w hp => ?_)
  obtain ⟨rfl, rfl⟩ := hp
  refine zk_stk (r' := [.int v2]) rfl ?_
  refine zk_istore_n (lv' := [(3, _), (2, _), (0, _), (1, _)]) C kd_Mo_named_9 rfl (by decide) rfl rfl ?_
  refine zk_aload_n C kd_Mo_named_10 rfl 2 rfl rfl ?_
  refine zk_bipush (v := 40) C kd_Mo_named_11 (by decide) rfl ?_
  refine zs_callV (k := 68) (rn := { frames := 0, cells := 0, slots := 0, locals := 0 }) (As := [.int 40]) (rest := []) C (zc_Mo_isSign h3 40) ku_Mo_isSign kw2117 kv_Mo_isSign rfl ⟨by decide, by decide⟩ ⟨by decide, by decide⟩ rfl rfl rfl (Nat.le_of_ble_eq_true rfl) kd_Mo_named_13 rfl (c1 := 0) (s1 := 0) rfl rfl (fun v w hp => ?_)
  obtain ⟨rfl, rfl, z4⟩ := hp
  refine zk_stk (r' := [.int (f_Mo_isSign h3 40)]) rfl ?_
  refine zk_if_eq (tgt := 33) C kd_Mo_named_16 (by decide) rfl (fun b5 => ?_) (fun b5 => ?_)
  · replace e := zd_pos b5 e
    refine zk_aload_n C kd_Mo_named_33 rfl 2 rfl rfl ?_
    refine zk_iload_n C kd_Mo_named_34 rfl 3 rfl rfl ?_
    refine zk_bipush (v := 12) C kd_Mo_named_35 (by decide) rfl ?_
    refine zk_iconst (v := 0) C kd_Mo_named_37 (by decide) rfl ?_
    refine zk_iconst (v := 0) C kd_Mo_named_38 (by decide) rfl ?_
    obtain ⟨v7, h8, c6, e⟩ := zd_Be e
    refine zs_callV (k := 68) (rn := { frames := 1, cells := 0, slots := 0, locals := 24 }) (As := [.int x1, .int 12, .int 0, .int 0]) (rest := []) C (zc_Mo_add h3 x1 12 0 0 c6) ku_Mo_add kw2097 kv_Mo_add rfl ⟨by decide, by decide⟩ ⟨by decide, by decide⟩ rfl rfl rfl (Nat.le_of_ble_eq_true rfl) kd_Mo_named_39 rfl (c1 := 0) (s1 := 0) rfl rfl (fun v w hp => ?_)
    obtain ⟨rfl, rfl⟩ := hp
    refine zk_stk (r' := [.int v7]) rfl ?_
    refine zk_istore (lv' := [(4, _), (3, _), (2, _), (0, _), (1, _)]) C kd_Mo_named_42 (by decide) rfl rfl ?_
    refine zk_aload_n C kd_Mo_named_44 rfl 3 rfl rfl ?_
    refine zk_bipush (v := 91) C kd_Mo_named_45 (by decide) rfl ?_
    refine zs_callV (k := 68) (rn := { frames := 0, cells := 0, slots := 0, locals := 0 }) (As := [.int 91]) (rest := []) C (zc_Mo_isSign h8 91) ku_Mo_isSign kw2117 kv_Mo_isSign rfl ⟨by decide, by decide⟩ ⟨by decide, by decide⟩ rfl rfl rfl (Nat.le_of_ble_eq_true rfl) kd_Mo_named_47 rfl (c1 := 0) (s1 := 0) rfl rfl (fun v w hp => ?_)
    obtain ⟨rfl, rfl, z9⟩ := hp
    refine zk_stk (r' := [.int (f_Mo_isSign h8 91)]) rfl ?_
    refine zk_if_eq (tgt := 70) C kd_Mo_named_50 (by decide) rfl (fun b10 => ?_) (fun b10 => ?_)
    · replace e := zd_pos b10 e
      refine zk_aload_n C kd_Mo_named_70 rfl 3 rfl rfl ?_
      refine zk_iload C kd_Mo_named_71 0 rfl rfl ?_
      refine zk_bipush (v := 6) C kd_Mo_named_73 (by decide) rfl ?_
      refine zk_iload_n C kd_Mo_named_75 rfl 2 rfl rfl ?_
      refine zk_iload_n C kd_Mo_named_76 rfl 1 rfl rfl ?_
      obtain ⟨v12, h13, c11, e⟩ := zd_Be e
      refine zs_callV (k := 68) (rn := { frames := 1, cells := 0, slots := 0, locals := 24 }) (As := [.int v7, .int 6, .int (h.1 68 7), .int v2]) (rest := []) C (zc_Mo_add h8 v7 6 (h.1 68 7) v2 c11) ku_Mo_add kw2097 kv_Mo_add rfl ⟨by decide, by decide⟩ ⟨by decide, by decide⟩ rfl rfl rfl (Nat.le_of_ble_eq_true rfl) kd_Mo_named_77 rfl (c1 := 0) (s1 := 0) rfl rfl (fun v w hp => ?_)
      obtain ⟨rfl, rfl⟩ := hp
      refine zk_stk (r' := [.int v12]) rfl ?_
      refine zk_istore (lv' := [(5, _), (4, _), (3, _), (2, _), (0, _), (1, _)]) C kd_Mo_named_80 (by decide) rfl rfl ?_
      refine zk_lvs (lv' := [(0, .ref (S.1 68)), (4, .int v7)]) [4, 1] rfl ?_
      exact zb_Mo_named_82 C hR h13 v7 e
    · replace e := zd_neg b10 e
      refine zk_aload_n C kd_Mo_named_53 rfl 3 rfl rfl ?_
      refine zk_aload_n C kd_Mo_named_54 rfl 3 rfl rfl ?_
      refine zk_iload C kd_Mo_named_55 0 rfl rfl ?_
      refine zk_bipush (v := 32) C kd_Mo_named_57 (by decide) rfl ?_
      refine zk_iload_n C kd_Mo_named_59 rfl 2 rfl rfl ?_
      refine zk_iload_n C kd_Mo_named_60 rfl 1 rfl rfl ?_
      obtain ⟨v15, h16, c14, e⟩ := zd_Be e
      refine zs_callV (k := 68) (rn := { frames := 1, cells := 0, slots := 0, locals := 24 }) (As := [.int v7, .int 32, .int (h.1 68 7), .int v2]) (rest := [.ref (S.1 68)]) C (zc_Mo_add h8 v7 32 (h.1 68 7) v2 c14) ku_Mo_add kw2097 kv_Mo_add rfl ⟨by decide, by decide⟩ ⟨by decide, by decide⟩ rfl rfl rfl (Nat.le_of_ble_eq_true rfl) kd_Mo_named_61 rfl (c1 := 0) (s1 := 0) rfl rfl (fun v w hp => ?_)
      obtain ⟨rfl, rfl⟩ := hp
      refine zk_stk (r' := [.int v15, .ref (S.1 68)]) rfl ?_
      obtain ⟨h18, c17, e⟩ := zd_b e
      refine zs_callV (k := 68) (rn := { frames := 402 + 400, cells := 0, slots := 0, locals := 9648 + 24 * 400 }) (As := [.int v15]) (rest := []) C (zc_Mo_element h16 v15 c17) ku_Mo_element kw2201 kv_Mo_element rfl ⟨by decide, by decide⟩ ⟨by decide, by decide⟩ rfl rfl rfl (Nat.le_of_ble_eq_true rfl) kd_Mo_named_64 rfl (c1 := 0) (s1 := 0) rfl rfl (fun v w hp => ?_)
      obtain ⟨rfl, rfl⟩ := hp
      refine zk_stk (r' := []) rfl ?_
      refine zk_goto (tgt := 82) C kd_Mo_named_67 (by decide) ?_
      refine zk_lvs (lv' := [(0, .ref (S.1 68)), (4, .int v7)]) [3, 0] rfl ?_
      exact zb_Mo_named_82 C hR h18 v7 e
  · replace e := zd_neg b5 e
    refine zk_aload_n C kd_Mo_named_19 rfl 2 rfl rfl ?_
    refine zk_aload_n C kd_Mo_named_20 rfl 2 rfl rfl ?_
    refine zk_iload_n C kd_Mo_named_21 rfl 3 rfl rfl ?_
    refine zk_bipush (v := 13) C kd_Mo_named_22 (by decide) rfl ?_
    refine zk_iload_n C kd_Mo_named_24 rfl 1 rfl rfl ?_
    refine zk_iload_n C kd_Mo_named_25 rfl 0 rfl rfl ?_
    obtain ⟨v20, h21, c19, e⟩ := zd_Be e
    refine zs_callV (k := 68) (rn := { frames := 1, cells := 0, slots := 0, locals := 24 }) (As := [.int x1, .int 13, .int (h.1 68 7), .int v2]) (rest := [.ref (S.1 68)]) C (zc_Mo_add h3 x1 13 (h.1 68 7) v2 c19) ku_Mo_add kw2097 kv_Mo_add rfl ⟨by decide, by decide⟩ ⟨by decide, by decide⟩ rfl rfl rfl (Nat.le_of_ble_eq_true rfl) kd_Mo_named_26 rfl (c1 := 0) (s1 := 0) rfl rfl (fun v w hp => ?_)
    obtain ⟨rfl, rfl⟩ := hp
    refine zk_stk (r' := [.int v20, .ref (S.1 68)]) rfl ?_
    obtain ⟨h23, c22, e⟩ := zd_b e
    refine zs_callV (k := 68) (rn := { frames := 803, cells := 0, slots := 0, locals := 19272 }) (As := [.int v20]) (rest := []) C (zc_Mo_invoke h21 v20 c22) ku_Mo_invoke kw2169 kv_Mo_invoke rfl ⟨by decide, by decide⟩ ⟨by decide, by decide⟩ rfl rfl rfl (Nat.le_of_ble_eq_true rfl) kd_Mo_named_29 rfl (c1 := 0) (s1 := 0) rfl rfl (fun v w hp => ?_)
    obtain ⟨rfl, rfl⟩ := hp
    refine zk_stk (r' := []) rfl ?_
    exact zk_vret C hR kd_Mo_named_32 rfl rfl (zd_rV e)
set_option maxHeartbeats 4000000 in
set_option maxRecDepth 100000 in
theorem zc_Mo_beginsConstant {l : Launch} {D : va_G} {sz0 : Nat} {S : zs_T} {P : ze_T} (h : zs_H) : zk_Sp (zs_G S l D sz0) (ze_E P) km_Mo_beginsConstant { frames := 1, cells := 0, slots := 0, locals := 21 } [.ref (S.1 68)] (zs_W S h) (zd_PZ S (f_Mo_beginsConstant h) h) := by
  obtain ⟨rv, e⟩ : ∃ rv, f_Mo_beginsConstant h = rv := ⟨_, rfl⟩
  rw [e]
  refine zk_met ku_Mo_beginsConstant (Nat.le_of_ble_eq_true rfl) (ze_Em P) ?_
  intro X C hR
  refine zk_lvs (lv' := [(0, .ref (S.1 68))]) [0] rfl ?_
  unfold f_Mo_beginsConstant at e
  refine zk_aload_n C kd_Mo_beginsConstant_0 rfl 0 rfl rfl ?_
  refine zs_get (v := .int (h.1 68 10)) C 68 10 rfl rfl rfl rfl ki_Mo (by decide) kw1693 kd_Mo_beginsConstant_1 rfl ?_
  refine zk_if_ne (tgt := 46) C kd_Mo_beginsConstant_4 (by decide) rfl (fun b1 => ?_) (fun b1 => ?_)
  · replace e := zd_neg b1 e
    refine zk_iconst (v := 0) C kd_Mo_beginsConstant_46 (by decide) rfl ?_
    exact zk_zret C hR (zd_nb (Or.inl rfl)) kd_Mo_beginsConstant_47 rfl rfl (zd_rZT (Or.inl rfl) e)
  · replace e := zd_pos b1 e
    refine zk_aload_n C kd_Mo_beginsConstant_7 rfl 0 rfl rfl ?_
    refine zs_get (v := .int (h.1 68 6)) C 68 6 rfl rfl rfl rfl ki_Mo (by decide) kw1689 kd_Mo_beginsConstant_8 rfl ?_
    refine zk_iconst (v := 3) C kd_Mo_beginsConstant_11 (by decide) rfl ?_
    refine zk_icmp_eq (tgt := 42) C kd_Mo_beginsConstant_12 (by decide) rfl (fun b2 => ?_) (fun b2 => ?_)
    · replace e := zd_pos b2 e
      refine zk_iconst (v := 1) C kd_Mo_beginsConstant_42 (by decide) rfl ?_
      refine zk_goto (tgt := 47) C kd_Mo_beginsConstant_43 (by decide) ?_
      exact zk_zret C hR (zd_nb (Or.inr rfl)) kd_Mo_beginsConstant_47 rfl rfl (zd_rZT (Or.inr rfl) e)
    · replace e := zd_neg b2 e
      refine zk_aload_n C kd_Mo_beginsConstant_15 rfl 0 rfl rfl ?_
      refine zk_bipush (v := 45) C kd_Mo_beginsConstant_16 (by decide) rfl ?_
      refine zs_callV (k := 68) (rn := { frames := 0, cells := 0, slots := 0, locals := 0 }) (As := [.int 45]) (rest := []) C (zc_Mo_isSign h 45) ku_Mo_isSign kw2117 kv_Mo_isSign rfl ⟨by decide, by decide⟩ ⟨by decide, by decide⟩ rfl rfl rfl (Nat.le_of_ble_eq_true rfl) kd_Mo_beginsConstant_18 rfl (c1 := 0) (s1 := 0) rfl rfl (fun v w hp => ?_)
      obtain ⟨rfl, rfl, z3⟩ := hp
      refine zk_stk (r' := [.int (f_Mo_isSign h 45)]) rfl ?_
      refine zk_if_ne (tgt := 42) C kd_Mo_beginsConstant_21 (by decide) rfl (fun b4 => ?_) (fun b4 => ?_)
      · replace e := zd_neg b4 e
        refine zk_iconst (v := 1) C kd_Mo_beginsConstant_42 (by decide) rfl ?_
        refine zk_goto (tgt := 47) C kd_Mo_beginsConstant_43 (by decide) ?_
        exact zk_zret C hR (zd_nb (Or.inr rfl)) kd_Mo_beginsConstant_47 rfl rfl (zd_rZT (Or.inr rfl) e)
      · replace e := zd_pos b4 e
        refine zk_aload_n C kd_Mo_beginsConstant_24 rfl 0 rfl rfl ?_
        refine zk_bipush (v := 35) C kd_Mo_beginsConstant_25 (by decide) rfl ?_
        refine zs_callV (k := 68) (rn := { frames := 0, cells := 0, slots := 0, locals := 0 }) (As := [.int 35]) (rest := []) C (zc_Mo_isWord h 35) ku_Mo_isWord kw2125 kv_Mo_isWord rfl ⟨by decide, by decide⟩ ⟨by decide, by decide⟩ rfl rfl rfl (Nat.le_of_ble_eq_true rfl) kd_Mo_beginsConstant_27 rfl (c1 := 0) (s1 := 0) rfl rfl (fun v w hp => ?_)
        obtain ⟨rfl, rfl, z5⟩ := hp
        refine zk_stk (r' := [.int (f_Mo_isWord h 35)]) rfl ?_
        refine zk_if_ne (tgt := 42) C kd_Mo_beginsConstant_30 (by decide) rfl (fun b6 => ?_) (fun b6 => ?_)
        · replace e := zd_neg b6 e
          refine zk_iconst (v := 1) C kd_Mo_beginsConstant_42 (by decide) rfl ?_
          refine zk_goto (tgt := 47) C kd_Mo_beginsConstant_43 (by decide) ?_
          exact zk_zret C hR (zd_nb (Or.inr rfl)) kd_Mo_beginsConstant_47 rfl rfl (zd_rZT (Or.inr rfl) e)
        · replace e := zd_pos b6 e
          refine zk_aload_n C kd_Mo_beginsConstant_33 rfl 0 rfl rfl ?_
          refine zk_bipush (v := 36) C kd_Mo_beginsConstant_34 (by decide) rfl ?_
          refine zs_callV (k := 68) (rn := { frames := 0, cells := 0, slots := 0, locals := 0 }) (As := [.int 36]) (rest := []) C (zc_Mo_isWord h 36) ku_Mo_isWord kw2125 kv_Mo_isWord rfl ⟨by decide, by decide⟩ ⟨by decide, by decide⟩ rfl rfl rfl (Nat.le_of_ble_eq_true rfl) kd_Mo_beginsConstant_36 rfl (c1 := 0) (s1 := 0) rfl rfl (fun v w hp => ?_)
          obtain ⟨rfl, rfl, z7⟩ := hp
          refine zk_stk (r' := [.int (f_Mo_isWord h 36)]) rfl ?_
          refine zk_if_eq (tgt := 46) C kd_Mo_beginsConstant_39 (by decide) rfl (fun b8 => ?_) (fun b8 => ?_)
          · replace e := zd_pos b8 e
            refine zk_iconst (v := 0) C kd_Mo_beginsConstant_46 (by decide) rfl ?_
            exact zk_zret C hR (zd_nb (Or.inl rfl)) kd_Mo_beginsConstant_47 rfl rfl (zd_rZT (Or.inl rfl) e)
          · replace e := zd_neg b8 e
            refine zk_iconst (v := 1) C kd_Mo_beginsConstant_42 (by decide) rfl ?_
            refine zk_goto (tgt := 47) C kd_Mo_beginsConstant_43 (by decide) ?_
            exact zk_zret C hR (zd_nb (Or.inr rfl)) kd_Mo_beginsConstant_47 rfl rfl (zd_rZT (Or.inr rfl) e)
set_option maxHeartbeats 4000000 in
set_option maxRecDepth 100000 in
theorem zb_Mo_constant_31 {X : zkj_T} {S : zs_T} {P : ze_T} {l : Launch} {D : va_G} {sz0 : Nat} {rh : zs_H} (C : zk_C X km_Mo_constant (zs_G S l D sz0) { frames := 8, cells := 0, slots := 0, locals := 171 } (ze_E P)) (hR : zkj_R X (zd_PV S rh) (none)) (h : zs_H) (x1 : Int32) (e : f_Mo_constant_31 h x1 = some rh) : zk_Ab X (zs_W S h) 0 0 31 [(0, .ref (S.1 68)), (1, .int x1)] [] := by
  unfold f_Mo_constant_31 at e
  refine zk_aload_n C kd_Mo_constant_31 rfl 0 rfl rfl ?_
  refine zk_iload_n C kd_Mo_constant_32 rfl 1 rfl rfl ?_
  refine zk_bipush (v := 31) C kd_Mo_constant_33 (by decide) rfl ?_
  refine zk_aload_n C kd_Mo_constant_35 rfl 0 rfl rfl ?_
  refine zs_get (v := .int (h.1 68 7)) C 68 7 rfl rfl rfl rfl ki_Mo (by decide) kw1690 kd_Mo_constant_36 rfl ?_
  refine zk_bipush (v := 36) C kd_Mo_constant_39 (by decide) rfl ?_
  refine zk_aload_n C kd_Mo_constant_41 rfl 0 rfl rfl ?_
  refine zs_get (v := .int (h.1 68 9)) C 68 9 rfl rfl rfl rfl ki_Mo (by decide) kw1692 kd_Mo_constant_42 rfl ?_
  refine zk_isub C kd_Mo_constant_45 rfl ?_
  obtain ⟨v2, h3, c1, e⟩ := zd_Be e
  refine zs_callV (k := 68) (rn := { frames := 1, cells := 0, slots := 0, locals := 24 }) (As := [.int x1, .int 31, .int (h.1 68 7), .int (36 - (h.1 68 9))]) (rest := []) C (zc_Mo_add h x1 31 (h.1 68 7) (36 - (h.1 68 9)) c1) ku_Mo_add kw2097 kv_Mo_add rfl ⟨by decide, by decide⟩ ⟨by decide, by decide⟩ rfl rfl rfl (Nat.le_of_ble_eq_true rfl) kd_Mo_constant_46 rfl (c1 := 0) (s1 := 0) rfl rfl (fun v w hp => ?_)
  obtain ⟨rfl, rfl⟩ := hp
  refine zk_stk (r' := [.int v2]) rfl ?_
  refine zk_istore_n (lv' := [(3, _), (0, _), (1, _)]) C kd_Mo_constant_49 rfl (by decide) rfl rfl ?_
  refine zk_aload_n C kd_Mo_constant_50 rfl 1 rfl rfl ?_
  obtain ⟨h5, c4, e⟩ := zd_b e
  refine zs_callV (k := 68) (rn := { frames := 6, cells := 0, slots := 0, locals := 129 }) (As := []) (rest := []) C (zc_Mo_next h3 c4) ku_Mo_next kw2001 kv_Mo_next rfl ⟨by decide, by decide⟩ ⟨by decide, by decide⟩ rfl rfl rfl (Nat.le_of_ble_eq_true rfl) kd_Mo_constant_51 rfl (c1 := 0) (s1 := 0) rfl rfl (fun v w hp => ?_)
  obtain ⟨rfl, rfl⟩ := hp
  refine zk_stk (r' := []) rfl ?_
  exact zk_vret C hR kd_Mo_constant_54 rfl rfl (zd_rV e)
set_option maxHeartbeats 4000000 in
set_option maxRecDepth 100000 in
theorem zb_Mo_constant_110 {X : zkj_T} {S : zs_T} {P : ze_T} {l : Launch} {D : va_G} {sz0 : Nat} {rh : zs_H} (C : zk_C X km_Mo_constant (zs_G S l D sz0) { frames := 8, cells := 0, slots := 0, locals := 171 } (ze_E P)) (hR : zkj_R X (zd_PV S rh) (none)) (h : zs_H) (y0 : Int32) (y1 : Int32) (y2 : Int32) (y3 : Int32) (e : f_Mo_constant_110 h y0 y1 y2 y3 = some rh) : zk_Ab X (zs_W S h) 0 0 110 [] [.int y0, .int y1, .int y2, .int y3, .ref (S.1 68)] := by
  unfold f_Mo_constant_110 at e
  obtain ⟨v2, h3, c1, e⟩ := zd_Be e
  refine zs_callV (k := 68) (rn := { frames := 1, cells := 0, slots := 0, locals := 24 }) (As := [.int y3, .int y2, .int y1, .int y0]) (rest := []) C (zc_Mo_add h y3 y2 y1 y0 c1) ku_Mo_add kw2097 kv_Mo_add rfl ⟨by decide, by decide⟩ ⟨by decide, by decide⟩ rfl rfl rfl (Nat.le_of_ble_eq_true rfl) kd_Mo_constant_110 rfl (c1 := 0) (s1 := 0) rfl rfl (fun v w hp => ?_)
  obtain ⟨rfl, rfl⟩ := hp
  refine zk_stk (r' := [.int v2]) rfl ?_
  refine zk_istore (lv' := [(5, _)]) C kd_Mo_constant_113 (by decide) rfl rfl ?_
  exact zk_vret C hR kd_Mo_constant_115 rfl rfl (zd_rV e)
set_option maxHeartbeats 4000000 in
set_option maxRecDepth 100000 in
theorem zb_Mo_constant_90 {X : zkj_T} {S : zs_T} {P : ze_T} {l : Launch} {D : va_G} {sz0 : Nat} {rh : zs_H} (C : zk_C X km_Mo_constant (zs_G S l D sz0) { frames := 8, cells := 0, slots := 0, locals := 171 } (ze_E P)) (hR : zkj_R X (zd_PV S rh) (none)) (h : zs_H) (x1 : Int32) (x2 : Int32) (x3 : Int32) (x4 : Int32) (y0 : Int32) (e : f_Mo_constant_90 h x1 x2 x3 x4 y0 = some rh) : zk_Ab X (zs_W S h) 0 0 90 [(0, .ref (S.1 68)), (1, .int x1), (2, .int x2), (3, .int x3), (4, .int x4)] [.int y0, .ref (S.1 68)] := by
  unfold f_Mo_constant_90 at e
  obtain ⟨h2, c1, e⟩ := zd_b e
  refine zs_callV (k := 68) (rn := { frames := 7, cells := 0, slots := 0, locals := 150 }) (As := [.int y0]) (rest := []) C (zc_Mo_want h y0 c1) ku_Mo_want kw2109 kv_Mo_want rfl ⟨by decide, by decide⟩ ⟨by decide, by decide⟩ rfl rfl rfl (Nat.le_of_ble_eq_true rfl) kd_Mo_constant_90 rfl (c1 := 0) (s1 := 0) rfl rfl (fun v w hp => ?_)
  obtain ⟨rfl, rfl⟩ := hp
  refine zk_stk (r' := []) rfl ?_
  refine zk_aload_n C kd_Mo_constant_93 rfl 0 rfl rfl ?_
  refine zk_iload_n C kd_Mo_constant_94 rfl 1 rfl rfl ?_
  refine zk_bipush (v := 30) C kd_Mo_constant_95 (by decide) rfl ?_
  refine zk_iload_n C kd_Mo_constant_97 rfl 2 rfl rfl ?_
  refine zk_iload_n C kd_Mo_constant_98 rfl 3 rfl rfl ?_
  refine zk_if_eq (tgt := 108) C kd_Mo_constant_99 (by decide) rfl (fun b3 => ?_) (fun b3 => ?_)
  · replace e := zd_pos b3 e
    refine zk_iload C kd_Mo_constant_108 4 rfl rfl ?_
    refine zk_lvs (lv' := []) [] rfl ?_
    exact zb_Mo_constant_110 C hR h2 x4 x2 30 x1 e
  · replace e := zd_neg b3 e
    refine zk_iload C kd_Mo_constant_102 4 rfl rfl ?_
    refine zk_ineg C kd_Mo_constant_104 rfl ?_
    refine zk_goto (tgt := 110) C kd_Mo_constant_105 (by decide) ?_
    refine zk_lvs (lv' := []) [] rfl ?_
    exact zb_Mo_constant_110 C hR h2 (-x4) x2 30 x1 e
set_option maxHeartbeats 4000000 in
set_option maxRecDepth 100000 in
theorem zb_Mo_constant_70 {X : zkj_T} {S : zs_T} {P : ze_T} {l : Launch} {D : va_G} {sz0 : Nat} {rh : zs_H} (C : zk_C X km_Mo_constant (zs_G S l D sz0) { frames := 8, cells := 0, slots := 0, locals := 171 } (ze_E P)) (hR : zkj_R X (zd_PV S rh) (none)) (h : zs_H) (x1 : Int32) (x2 : Int32) (x3 : Int32) (e : f_Mo_constant_70 h x1 x2 x3 = some rh) : zk_Ab X (zs_W S h) 0 0 70 [(0, .ref (S.1 68)), (1, .int x1), (2, .int x2), (3, .int x3)] [] := by
  unfold f_Mo_constant_70 at e
  refine zk_aload_n C kd_Mo_constant_70 rfl 0 rfl rfl ?_
  refine zs_get (v := .int (h.1 68 9)) C 68 9 rfl rfl rfl rfl ki_Mo (by decide) kw1692 kd_Mo_constant_71 rfl ?_
  refine zk_istore (lv' := [(4, _), (0, _), (1, _), (2, _), (3, _)]) C kd_Mo_constant_74 (by decide) rfl rfl ?_
  refine zk_aload_n C kd_Mo_constant_76 rfl 1 rfl rfl ?_
  refine zk_aload_n C kd_Mo_constant_77 rfl 1 rfl rfl ?_
  refine zs_get (v := .int (h.1 68 6)) C 68 6 rfl rfl rfl rfl ki_Mo (by decide) kw1689 kd_Mo_constant_78 rfl ?_
  refine zk_iconst (v := 3) C kd_Mo_constant_81 (by decide) rfl ?_
  refine zk_icmp_ne (tgt := 89) C kd_Mo_constant_82 (by decide) rfl (fun b1 => ?_) (fun b1 => ?_)
  · replace e := zd_neg b1 e
    refine zk_iconst (v := 0) C kd_Mo_constant_89 (by decide) rfl ?_
    refine zk_lvs (lv' := [(0, .ref (S.1 68)), (1, .int x1), (2, .int x2), (3, .int x3), (4, .int (h.1 68 9))]) [1, 2, 3, 4, 0] rfl ?_
    exact zb_Mo_constant_90 C hR h x1 x2 x3 (h.1 68 9) 0 e
  · replace e := zd_pos b1 e
    refine zk_iconst (v := 1) C kd_Mo_constant_85 (by decide) rfl ?_
    refine zk_goto (tgt := 90) C kd_Mo_constant_86 (by decide) ?_
    refine zk_lvs (lv' := [(0, .ref (S.1 68)), (1, .int x1), (2, .int x2), (3, .int x3), (4, .int (h.1 68 9))]) [1, 2, 3, 4, 0] rfl ?_
    exact zb_Mo_constant_90 C hR h x1 x2 x3 (h.1 68 9) 1 e
set_option maxHeartbeats 4000000 in
set_option maxRecDepth 100000 in
theorem zb_Mo_constant_55 {X : zkj_T} {S : zs_T} {P : ze_T} {l : Launch} {D : va_G} {sz0 : Nat} {rh : zs_H} (C : zk_C X km_Mo_constant (zs_G S l D sz0) { frames := 8, cells := 0, slots := 0, locals := 171 } (ze_E P)) (hR : zkj_R X (zd_PV S rh) (none)) (h : zs_H) (x1 : Int32) (x2 : Int32) (e : f_Mo_constant_55 h x1 x2 = some rh) : zk_Ab X (zs_W S h) 0 0 55 [(0, .ref (S.1 68)), (1, .int x1), (2, .int x2)] [] := by
  unfold f_Mo_constant_55 at e
  refine zk_aload_n C kd_Mo_constant_55 rfl 0 rfl rfl ?_
  refine zk_bipush (v := 45) C kd_Mo_constant_56 (by decide) rfl ?_
  refine zs_callV (k := 68) (rn := { frames := 0, cells := 0, slots := 0, locals := 0 }) (As := [.int 45]) (rest := []) C (zc_Mo_isSign h 45) ku_Mo_isSign kw2117 kv_Mo_isSign rfl ⟨by decide, by decide⟩ ⟨by decide, by decide⟩ rfl rfl rfl (Nat.le_of_ble_eq_true rfl) kd_Mo_constant_58 rfl (c1 := 0) (s1 := 0) rfl rfl (fun v w hp => ?_)
  obtain ⟨rfl, rfl, z1⟩ := hp
  refine zk_stk (r' := [.int (f_Mo_isSign h 45)]) rfl ?_
  refine zk_istore_n (lv' := [(3, _), (0, _), (1, _), (2, _)]) C kd_Mo_constant_61 rfl (by decide) rfl rfl ?_
  refine zk_iload_n C kd_Mo_constant_62 rfl 0 rfl rfl ?_
  refine zk_if_eq (tgt := 70) C kd_Mo_constant_63 (by decide) rfl (fun b2 => ?_) (fun b2 => ?_)
  · replace e := zd_pos b2 e
    refine zk_lvs (lv' := [(0, .ref (S.1 68)), (1, .int x1), (2, .int x2), (3, .int (f_Mo_isSign h 45))]) [1, 2, 3, 0] rfl ?_
    exact zb_Mo_constant_70 C hR h x1 x2 (f_Mo_isSign h 45) e
  · replace e := zd_neg b2 e
    refine zk_aload_n C kd_Mo_constant_66 rfl 1 rfl rfl ?_
    obtain ⟨h4, c3, e⟩ := zd_b e
    refine zs_callV (k := 68) (rn := { frames := 6, cells := 0, slots := 0, locals := 129 }) (As := []) (rest := []) C (zc_Mo_next h c3) ku_Mo_next kw2001 kv_Mo_next rfl ⟨by decide, by decide⟩ ⟨by decide, by decide⟩ rfl rfl rfl (Nat.le_of_ble_eq_true rfl) kd_Mo_constant_67 rfl (c1 := 0) (s1 := 0) rfl rfl (fun v w hp => ?_)
    obtain ⟨rfl, rfl⟩ := hp
    refine zk_stk (r' := []) rfl ?_
    refine zk_lvs (lv' := [(0, .ref (S.1 68)), (1, .int x1), (2, .int x2), (3, .int (f_Mo_isSign h 45))]) [1, 2, 3, 0] rfl ?_
    exact zb_Mo_constant_70 C hR h4 x1 x2 (f_Mo_isSign h 45) e
set_option maxHeartbeats 4000000 in
set_option maxRecDepth 100000 in
theorem zc_Mo_constant {l : Launch} {D : va_G} {sz0 : Nat} {S : zs_T} {P : ze_T} (h : zs_H) (x1 : Int32) {rh : zs_H} (e : f_Mo_constant h x1 = some rh) : zk_Sp (zs_G S l D sz0) (ze_E P) km_Mo_constant { frames := 8, cells := 0, slots := 0, locals := 171 } [.ref (S.1 68), .int x1] (zs_W S h) (zd_PV S rh) := by
  refine zk_met ku_Mo_constant (Nat.le_of_ble_eq_true rfl) (ze_Em P) ?_
  intro X C hR
  refine zk_lvs (lv' := [(0, .ref (S.1 68)), (1, .int x1)]) [0, 1] rfl ?_
  unfold f_Mo_constant at e
  refine zk_aload_n C kd_Mo_constant_0 rfl 0 rfl rfl ?_
  refine zs_get (v := .int (h.1 68 7)) C 68 7 rfl rfl rfl rfl ki_Mo (by decide) kw1690 kd_Mo_constant_1 rfl ?_
  refine zk_istore_n (lv' := [(2, _), (0, _), (1, _)]) C kd_Mo_constant_4 rfl (by decide) rfl rfl ?_
  refine zk_aload_n C kd_Mo_constant_5 rfl 1 rfl rfl ?_
  refine zs_get (v := .int (h.1 68 6)) C 68 6 rfl rfl rfl rfl ki_Mo (by decide) kw1689 kd_Mo_constant_6 rfl ?_
  refine zk_iconst (v := 2) C kd_Mo_constant_9 (by decide) rfl ?_
  refine zk_icmp_ne (tgt := 55) C kd_Mo_constant_10 (by decide) rfl (fun b1 => ?_) (fun b1 => ?_)
  · replace e := zd_neg b1 e
    refine zk_lvs (lv' := [(0, .ref (S.1 68)), (1, .int x1), (2, .int (h.1 68 7))]) [1, 2, 0] rfl ?_
    exact zb_Mo_constant_55 C hR h x1 (h.1 68 7) e
  · replace e := zd_pos b1 e
    refine zk_aload_n C kd_Mo_constant_13 rfl 1 rfl rfl ?_
    refine zs_get (v := .int (h.1 68 9)) C 68 9 rfl rfl rfl rfl ki_Mo (by decide) kw1692 kd_Mo_constant_14 rfl ?_
    refine zk_bipush (v := 35) C kd_Mo_constant_17 (by decide) rfl ?_
    refine zk_icmp_eq (tgt := 31) C kd_Mo_constant_19 (by decide) rfl (fun b2 => ?_) (fun b2 => ?_)
    · replace e := zd_pos b2 e
      refine zk_lvs (lv' := [(0, .ref (S.1 68)), (1, .int x1)]) [1, 2] rfl ?_
      exact zb_Mo_constant_31 C hR h x1 e
    · replace e := zd_neg b2 e
      refine zk_aload_n C kd_Mo_constant_22 rfl 1 rfl rfl ?_
      refine zs_get (v := .int (h.1 68 9)) C 68 9 rfl rfl rfl rfl ki_Mo (by decide) kw1692 kd_Mo_constant_23 rfl ?_
      refine zk_bipush (v := 36) C kd_Mo_constant_26 (by decide) rfl ?_
      refine zk_icmp_ne (tgt := 55) C kd_Mo_constant_28 (by decide) rfl (fun b3 => ?_) (fun b3 => ?_)
      · replace e := zd_neg b3 e
        refine zk_lvs (lv' := [(0, .ref (S.1 68)), (1, .int x1), (2, .int (h.1 68 7))]) [1, 2, 0] rfl ?_
        exact zb_Mo_constant_55 C hR h x1 (h.1 68 7) e
      · replace e := zd_pos b3 e
        refine zk_lvs (lv' := [(0, .ref (S.1 68)), (1, .int x1)]) [1, 2] rfl ?_
        exact zb_Mo_constant_31 C hR h x1 e
