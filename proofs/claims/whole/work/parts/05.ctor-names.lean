section ZK3
variable {X : zkj_T} {M : zk_MT} {G : zk_GT} {rm : Room} {E : Nat → State → Prop} {ws ws' : va_W} {cells slots pc n : Nat} {lv lv' : List (Nat × Value)} {r r' : List Value}
theorem zk_stk (h : r = r') (k : zk_Ab X ws cells slots pc lv r') : zk_Ab X ws cells slots pc lv r := h ▸ k
theorem zk_ldc {index : Nat} {v : Int32} (C : zk_C X M G rm E) (hc : Cond.constant M.1.cls index v ∈ zk_BW) (d : decode M.2.1 pc = .ok (.ldc index, 2)) (hpc : pc + 2 = n) (k : zk_Ab X ws cells slots n lv (.int v :: r)) : zk_Ab X ws cells slots pc lv r := by
  obtain ⟨p, l, e, R, s, m, args, below, meth, c, Q, D, cl, tys, sz0, nL⟩ := X
  obtain ⟨⟨hx, hb, hml, hown, hts⟩, hK, hsz, hE, hEm, hG9, hnL9, hrm9, hin0⟩ := C; subst hG9; subst hnL9; subst hrm9
  subst hpc
  exact fun H locs ls hP hD hS h => lv_ldc hx hb hown (hts _ hc) d (k H locs ls hP hD hS h)
theorem zk_ldc2 {index : Nat} {v : Int64} (C : zk_C X M G rm E) (hc : Cond.constantLong M.1.cls index v ∈ zk_BW) (d : decode M.2.1 pc = .ok (.ldc2_w index, 3)) (hpc : pc + 3 = n) (k : zk_Ab X ws cells slots n lv (.long v :: r)) : zk_Ab X ws cells slots pc lv r := by
  obtain ⟨p, l, e, R, s, m, args, below, meth, c, Q, D, cl, tys, sz0, nL⟩ := X
  obtain ⟨⟨hx, hb, hml, hown, hts⟩, hK, hsz, hE, hEm, hG9, hnL9, hrm9, hin0⟩ := C; subst hG9; subst hnL9; subst hrm9
  subst hpc
  exact fun H locs ls hP hD hS h => lv_ldc2 hx hb hown (hts _ hc) d (k H locs ls hP hD hS h)
end ZK3
theorem kw_obj : Cond.code objectInit ⟨#[0xb1]⟩ 1 none ∈ zk_BW := zk_inT 29 (by decide +kernel) rfl
theorem kf_Pk : ∀ j, j < 16 → defaultValue (ky_Pk j) = vp_V [.null, .int 0, .int 0, .int 0, .int 0, .null, .null, .null, .null, .null, .null, .null, .null, .null, .null, .null] j := by decide +kernel
theorem kf_Nm : ∀ j, j < 6 → defaultValue (ky_Nm j) = vp_V [.null, .null, .null, .null, .null, .int 0] j := by decide +kernel
theorem kf_Tk : ∀ j, j < 8 → defaultValue (ky_Tk j) = vp_V [.null, .null, .null, .int 0, .null, .null, .int 0, .int 0] j := by decide +kernel
theorem kf_Tr : ∀ j, j < 7 → defaultValue (ky_Tr j) = vp_V [.null, .null, .null, .null, .null, .null, .int 0] j := by decide +kernel
theorem kf_Ps : ∀ j, j < 8 → defaultValue (ky_Ps j) = vp_V [.int 0, .null, .null, .int 0, .int 0, .int 0, .int 0, .int 0] j := by decide +kernel
theorem kf_Pl : ∀ j, j < 21 → defaultValue (ky_Pl j) = vp_V [.null, .null, .null, .null, .null, .null, .null, .null, .null, .null, .null, .null, .null, .null, .null, .null, .null, .int 0, .int 0, .int 0, .int 0] j := by decide +kernel
theorem kf_Jd : ∀ j, j < 14 → defaultValue (ky_Jd j) = vp_V [.int 0, .null, .null, .int 0, .int 0, .int 0, .int 0, .int 0, .int 0, .int 0, .int 0, .null, .int 0, .null] j := by decide +kernel
theorem kf_Cd : ∀ j, j < 7 → defaultValue (ky_Cd j) = vp_V [.null, .null, .null, .null, .null, .int 0, .int 0] j := by decide +kernel
theorem kf_Cr : ∀ j, j < 12 → defaultValue (ky_Cr j) = vp_V [.null, .null, .null, .int 0, .int 0, .int 0, .int 0, .null, .null, .null, .int 0, .int 0] j := by decide +kernel
theorem kf_Pv : ∀ j, j < 8 → defaultValue (ky_Pv j) = vp_V [.null, .null, .null, .null, .null, .null, .null, .int 0] j := by decide +kernel
theorem kf_Mc : ∀ j, j < 21 → defaultValue (ky_Mc j) = vp_V [.null, .null, .null, .int 0, .int 0, .int 0, .int 0, .int 0, .int 0, .int 0, .null, .null, .null, .null, .int 0, .null, .null, .int 0, .int 0, .int 0, .int 0] j := by decide +kernel
theorem kf_Ln : ∀ j, j < 6 → defaultValue (ky_Ln j) = vp_V [.null, .int 0, .int 0, .null, .null, .int 0] j := by decide +kernel
theorem kf_Mo : ∀ j, j < 96 → defaultValue (ky_Mo j) = vp_V [.int 0, .int 0, .null, .int 0, .null, .null, .int 0, .int 0, .int 0, .int 0, .int 0, .int 0, .int 0, .int 0, .int 0, .null, .null, .null, .null, .null, .null, .null, .int 0, .null, .null, .int 0, .null, .null, .null, .int 0, .int 0, .int 0, .int 0, .int 0, .null, .null, .null, .null, .null, .null, .null, .int 0, .null, .null, .null, .null, .null, .null, .null, .null, .null, .null, .null, .null, .int 0, .int 0, .int 0, .null, .int 0, .null, .null, .null, .null, .null, .int 0, .null, .int 0, .null, .int 0, .null, .null, .null, .null, .int 0, .int 0, .int 0, .int 0, .null, .int 0, .null, .int 0, .int 0, .int 0, .int 0, .int 0, .int 0, .int 0, .int 0, .int 0, .null, .null, .null, .null, .int 0, .int 0, .int 0] j := by decide +kernel
theorem kw7 : Jvm.Cond.initialized "PlantKeeper$Tokens" ∈ zk_BW := zk_inT 7 (by decide +kernel) rfl
theorem kw8 : Jvm.Cond.initialized "PlantKeeper$Tree" ∈ zk_BW := zk_inT 8 (by decide +kernel) rfl
theorem kw9 : Jvm.Cond.initialized "PlantKeeper$Parser" ∈ zk_BW := zk_inT 9 (by decide +kernel) rfl
theorem kw10 : Jvm.Cond.initialized "PlantKeeper$Plan" ∈ zk_BW := zk_inT 10 (by decide +kernel) rfl
theorem kw11 : Jvm.Cond.initialized "PlantKeeper$Judge" ∈ zk_BW := zk_inT 11 (by decide +kernel) rfl
theorem kw12 : Jvm.Cond.initialized "PlantKeeper$Code" ∈ zk_BW := zk_inT 12 (by decide +kernel) rfl
theorem kw13 : Jvm.Cond.initialized "PlantKeeper$Coder" ∈ zk_BW := zk_inT 13 (by decide +kernel) rfl
theorem kw14 : Jvm.Cond.initialized "PlantKeeper$Prover" ∈ zk_BW := zk_inT 14 (by decide +kernel) rfl
theorem kw15 : Jvm.Cond.initialized "PlantKeeper$Machine" ∈ zk_BW := zk_inT 15 (by decide +kernel) rfl
theorem kw16 : Jvm.Cond.initialized "PlantKeeper$Line" ∈ zk_BW := zk_inT 16 (by decide +kernel) rfl
theorem kw28 : Jvm.Cond.instanceMethod ({ cls := "java/lang/Object", name := "<init>", desc := "()V" } : Jvm.MethodName) ∈ zk_BW := zk_inT 28 (by decide +kernel) rfl
theorem kw110 : Jvm.Cond.arrayClass FieldType.byte ∈ zk_BW := zk_inT 110 (by decide +kernel) rfl
theorem kw111 : Jvm.Cond.arrayClass FieldType.int ∈ zk_BW := zk_inT 111 (by decide +kernel) rfl
theorem kw115 : Jvm.Cond.instanceMethod ({ cls := "PlantKeeper$Tokens", name := "<init>", desc := "(LPlantKeeper$Names;)V" } : Jvm.MethodName) ∈ zk_BW := zk_inT 115 (by decide +kernel) rfl
theorem kw116 : Jvm.Cond.code ({ cls := "PlantKeeper$Tokens", name := "<init>", desc := "(LPlantKeeper$Names;)V" } : Jvm.MethodName) prog_11_method_1_code (2 : Nat) (Option.none : Option FieldType) ∈ zk_BW := zk_inT 116 (by decide +kernel) rfl
theorem kw117 : Jvm.Cond.methodLink "PlantKeeper$Tokens" (5 : Nat) ({ cls := "java/lang/Object", name := "<init>", desc := "()V" } : Jvm.MethodName) ∈ zk_BW := zk_inT 117 (by decide +kernel) rfl
theorem kw118 : Jvm.Cond.fieldLink "PlantKeeper$Tokens" (15 : Nat) "PlantKeeper$Tokens" "kind" "[C" ∈ zk_BW := zk_inT 118 (by decide +kernel) rfl
theorem kw120 : Jvm.Cond.fieldLink "PlantKeeper$Tokens" (19 : Nat) "PlantKeeper$Tokens" "place" "[C" ∈ zk_BW := zk_inT 120 (by decide +kernel) rfl
theorem kw122 : Jvm.Cond.fieldLink "PlantKeeper$Tokens" (22 : Nat) "PlantKeeper$Tokens" "value" "[I" ∈ zk_BW := zk_inT 122 (by decide +kernel) rfl
theorem kw126 : Jvm.Cond.fieldLink "PlantKeeper$Tokens" (11 : Nat) "PlantKeeper$Tokens" "names" "LPlantKeeper$Names;" ∈ zk_BW := zk_inT 126 (by decide +kernel) rfl
theorem kw147 : Jvm.Cond.arrayClass FieldType.char ∈ zk_BW := zk_inT 147 (by decide +kernel) rfl
theorem kw151 : Jvm.Cond.instanceMethod ({ cls := "PlantKeeper$Tree", name := "<init>", desc := "()V" } : Jvm.MethodName) ∈ zk_BW := zk_inT 151 (by decide +kernel) rfl
theorem kw152 : Jvm.Cond.code ({ cls := "PlantKeeper$Tree", name := "<init>", desc := "()V" } : Jvm.MethodName) prog_12_method_1_code (1 : Nat) (Option.none : Option FieldType) ∈ zk_BW := zk_inT 152 (by decide +kernel) rfl
theorem kw153 : Jvm.Cond.methodLink "PlantKeeper$Tree" (3 : Nat) ({ cls := "java/lang/Object", name := "<init>", desc := "()V" } : Jvm.MethodName) ∈ zk_BW := zk_inT 153 (by decide +kernel) rfl
theorem kw154 : Jvm.Cond.constant "PlantKeeper$Tree" (11 : Nat) (32784 : Int32) ∈ zk_BW := zk_inT 154 (by decide +kernel) rfl
theorem kw155 : Jvm.Cond.fieldLink "PlantKeeper$Tree" (12 : Nat) "PlantKeeper$Tree" "kind" "[B" ∈ zk_BW := zk_inT 155 (by decide +kernel) rfl
theorem kw159 : Jvm.Cond.fieldLink "PlantKeeper$Tree" (16 : Nat) "PlantKeeper$Tree" "type" "[B" ∈ zk_BW := zk_inT 159 (by decide +kernel) rfl
theorem kw162 : Jvm.Cond.fieldLink "PlantKeeper$Tree" (19 : Nat) "PlantKeeper$Tree" "place" "[C" ∈ zk_BW := zk_inT 162 (by decide +kernel) rfl
theorem kw165 : Jvm.Cond.fieldLink "PlantKeeper$Tree" (23 : Nat) "PlantKeeper$Tree" "value" "[I" ∈ zk_BW := zk_inT 165 (by decide +kernel) rfl
theorem kw169 : Jvm.Cond.fieldLink "PlantKeeper$Tree" (27 : Nat) "PlantKeeper$Tree" "child" "[I" ∈ zk_BW := zk_inT 169 (by decide +kernel) rfl
theorem kw172 : Jvm.Cond.fieldLink "PlantKeeper$Tree" (30 : Nat) "PlantKeeper$Tree" "next" "[I" ∈ zk_BW := zk_inT 172 (by decide +kernel) rfl
theorem kw197 : Jvm.Cond.instanceMethod ({ cls := "PlantKeeper$Parser", name := "<init>", desc := "(LPlantKeeper$Tokens;LPlantKeeper$Tree;)V" } : Jvm.MethodName) ∈ zk_BW := zk_inT 197 (by decide +kernel) rfl
theorem kw198 : Jvm.Cond.code ({ cls := "PlantKeeper$Parser", name := "<init>", desc := "(LPlantKeeper$Tokens;LPlantKeeper$Tree;)V" } : Jvm.MethodName) prog_8_method_1_code (3 : Nat) (Option.none : Option FieldType) ∈ zk_BW := zk_inT 198 (by decide +kernel) rfl
theorem kw199 : Jvm.Cond.methodLink "PlantKeeper$Parser" (3 : Nat) ({ cls := "java/lang/Object", name := "<init>", desc := "()V" } : Jvm.MethodName) ∈ zk_BW := zk_inT 199 (by decide +kernel) rfl
theorem kw202 : Jvm.Cond.fieldLink "PlantKeeper$Parser" (9 : Nat) "PlantKeeper$Parser" "tokens" "LPlantKeeper$Tokens;" ∈ zk_BW := zk_inT 202 (by decide +kernel) rfl
theorem kw203 : Jvm.Cond.fieldLink "PlantKeeper$Parser" (15 : Nat) "PlantKeeper$Parser" "tree" "LPlantKeeper$Tree;" ∈ zk_BW := zk_inT 203 (by decide +kernel) rfl
theorem kw229 : Jvm.Cond.instanceMethod ({ cls := "PlantKeeper$Plan", name := "<init>", desc := "()V" } : Jvm.MethodName) ∈ zk_BW := zk_inT 229 (by decide +kernel) rfl
theorem kw230 : Jvm.Cond.code ({ cls := "PlantKeeper$Plan", name := "<init>", desc := "()V" } : Jvm.MethodName) prog_9_method_1_code (1 : Nat) (Option.none : Option FieldType) ∈ zk_BW := zk_inT 230 (by decide +kernel) rfl
theorem kw231 : Jvm.Cond.methodLink "PlantKeeper$Plan" (5 : Nat) ({ cls := "java/lang/Object", name := "<init>", desc := "()V" } : Jvm.MethodName) ∈ zk_BW := zk_inT 231 (by decide +kernel) rfl
theorem kw232 : Jvm.Cond.fieldLink "PlantKeeper$Plan" (11 : Nat) "PlantKeeper$Plan" "kind" "[I" ∈ zk_BW := zk_inT 232 (by decide +kernel) rfl
theorem kw236 : Jvm.Cond.fieldLink "PlantKeeper$Plan" (15 : Nat) "PlantKeeper$Plan" "node" "[I" ∈ zk_BW := zk_inT 236 (by decide +kernel) rfl
theorem kw239 : Jvm.Cond.fieldLink "PlantKeeper$Plan" (18 : Nat) "PlantKeeper$Plan" "first" "[I" ∈ zk_BW := zk_inT 239 (by decide +kernel) rfl
theorem kw243 : Jvm.Cond.fieldLink "PlantKeeper$Plan" (21 : Nat) "PlantKeeper$Plan" "behind" "[I" ∈ zk_BW := zk_inT 243 (by decide +kernel) rfl
theorem kw246 : Jvm.Cond.fieldLink "PlantKeeper$Plan" (24 : Nat) "PlantKeeper$Plan" "variableCells" "[I" ∈ zk_BW := zk_inT 246 (by decide +kernel) rfl
theorem kw249 : Jvm.Cond.fieldLink "PlantKeeper$Plan" (27 : Nat) "PlantKeeper$Plan" "cells" "[I" ∈ zk_BW := zk_inT 249 (by decide +kernel) rfl
theorem kw253 : Jvm.Cond.fieldLink "PlantKeeper$Plan" (30 : Nat) "PlantKeeper$Plan" "place" "[I" ∈ zk_BW := zk_inT 253 (by decide +kernel) rfl
theorem kw255 : Jvm.Cond.fieldLink "PlantKeeper$Plan" (33 : Nat) "PlantKeeper$Plan" "name" "[I" ∈ zk_BW := zk_inT 255 (by decide +kernel) rfl
theorem kw257 : Jvm.Cond.fieldLink "PlantKeeper$Plan" (36 : Nat) "PlantKeeper$Plan" "section" "[I" ∈ zk_BW := zk_inT 257 (by decide +kernel) rfl
theorem kw260 : Jvm.Cond.fieldLink "PlantKeeper$Plan" (39 : Nat) "PlantKeeper$Plan" "instanceOf" "[I" ∈ zk_BW := zk_inT 260 (by decide +kernel) rfl
theorem kw265 : Jvm.Cond.fieldLink "PlantKeeper$Plan" (42 : Nat) "PlantKeeper$Plan" "type" "[I" ∈ zk_BW := zk_inT 265 (by decide +kernel) rfl
theorem kw268 : Jvm.Cond.fieldLink "PlantKeeper$Plan" (45 : Nat) "PlantKeeper$Plan" "cell" "[I" ∈ zk_BW := zk_inT 268 (by decide +kernel) rfl
theorem kw273 : Jvm.Cond.fieldLink "PlantKeeper$Plan" (48 : Nat) "PlantKeeper$Plan" "low" "[I" ∈ zk_BW := zk_inT 273 (by decide +kernel) rfl
theorem kw277 : Jvm.Cond.fieldLink "PlantKeeper$Plan" (51 : Nat) "PlantKeeper$Plan" "length" "[I" ∈ zk_BW := zk_inT 277 (by decide +kernel) rfl
theorem kw282 : Jvm.Cond.fieldLink "PlantKeeper$Plan" (54 : Nat) "PlantKeeper$Plan" "constant" "[I" ∈ zk_BW := zk_inT 282 (by decide +kernel) rfl
theorem kw286 : Jvm.Cond.fieldLink "PlantKeeper$Plan" (59 : Nat) "PlantKeeper$Plan" "blockNamed" "[I" ∈ zk_BW := zk_inT 286 (by decide +kernel) rfl
theorem kw288 : Jvm.Cond.fieldLink "PlantKeeper$Plan" (62 : Nat) "PlantKeeper$Plan" "lastNamed" "[I" ∈ zk_BW := zk_inT 288 (by decide +kernel) rfl
theorem kw347 : Jvm.Cond.instanceMethod ({ cls := "PlantKeeper$Judge", name := "<init>", desc := "(LPlantKeeper$Tree;LPlantKeeper$Plan;)V" } : Jvm.MethodName) ∈ zk_BW := zk_inT 347 (by decide +kernel) rfl
theorem kw348 : Jvm.Cond.code ({ cls := "PlantKeeper$Judge", name := "<init>", desc := "(LPlantKeeper$Tree;LPlantKeeper$Plan;)V" } : Jvm.MethodName) prog_4_method_1_code (3 : Nat) (Option.none : Option FieldType) ∈ zk_BW := zk_inT 348 (by decide +kernel) rfl
theorem kw349 : Jvm.Cond.methodLink "PlantKeeper$Judge" (3 : Nat) ({ cls := "java/lang/Object", name := "<init>", desc := "()V" } : Jvm.MethodName) ∈ zk_BW := zk_inT 349 (by decide +kernel) rfl
theorem kw352 : Jvm.Cond.fieldLink "PlantKeeper$Judge" (9 : Nat) "PlantKeeper$Judge" "tree" "LPlantKeeper$Tree;" ∈ zk_BW := zk_inT 352 (by decide +kernel) rfl
theorem kw353 : Jvm.Cond.fieldLink "PlantKeeper$Judge" (15 : Nat) "PlantKeeper$Judge" "plan" "LPlantKeeper$Plan;" ∈ zk_BW := zk_inT 353 (by decide +kernel) rfl
theorem kw362 : Jvm.Cond.fieldLink "PlantKeeper$Judge" (21 : Nat) "PlantKeeper$Judge" "loopNames" "[I" ∈ zk_BW := zk_inT 362 (by decide +kernel) rfl
theorem kw364 : Jvm.Cond.fieldLink "PlantKeeper$Judge" (25 : Nat) "PlantKeeper$Judge" "taken" "[Z" ∈ zk_BW := zk_inT 364 (by decide +kernel) rfl
theorem kw394 : Jvm.Cond.arrayClass FieldType.boolean ∈ zk_BW := zk_inT 394 (by decide +kernel) rfl
theorem kw398 : Jvm.Cond.instanceMethod ({ cls := "PlantKeeper$Code", name := "<init>", desc := "()V" } : Jvm.MethodName) ∈ zk_BW := zk_inT 398 (by decide +kernel) rfl
theorem kw399 : Jvm.Cond.code ({ cls := "PlantKeeper$Code", name := "<init>", desc := "()V" } : Jvm.MethodName) prog_2_method_1_code (1 : Nat) (Option.none : Option FieldType) ∈ zk_BW := zk_inT 399 (by decide +kernel) rfl
theorem kw400 : Jvm.Cond.methodLink "PlantKeeper$Code" (3 : Nat) ({ cls := "java/lang/Object", name := "<init>", desc := "()V" } : Jvm.MethodName) ∈ zk_BW := zk_inT 400 (by decide +kernel) rfl
theorem kw401 : Jvm.Cond.fieldLink "PlantKeeper$Code" (9 : Nat) "PlantKeeper$Code" "op" "[B" ∈ zk_BW := zk_inT 401 (by decide +kernel) rfl
theorem kw404 : Jvm.Cond.fieldLink "PlantKeeper$Code" (15 : Nat) "PlantKeeper$Code" "a" "[I" ∈ zk_BW := zk_inT 404 (by decide +kernel) rfl
theorem kw407 : Jvm.Cond.fieldLink "PlantKeeper$Code" (19 : Nat) "PlantKeeper$Code" "b" "[I" ∈ zk_BW := zk_inT 407 (by decide +kernel) rfl
theorem kw410 : Jvm.Cond.fieldLink "PlantKeeper$Code" (22 : Nat) "PlantKeeper$Code" "c" "[I" ∈ zk_BW := zk_inT 410 (by decide +kernel) rfl
theorem kw412 : Jvm.Cond.fieldLink "PlantKeeper$Code" (25 : Nat) "PlantKeeper$Code" "start" "[I" ∈ zk_BW := zk_inT 412 (by decide +kernel) rfl
theorem kw439 : Jvm.Cond.instanceMethod ({ cls := "PlantKeeper$Coder", name := "<init>", desc := "(LPlantKeeper$Tree;LPlantKeeper$Plan;LPlantKeeper$Code;)V" } : Jvm.MethodName) ∈ zk_BW := zk_inT 439 (by decide +kernel) rfl
theorem kw440 : Jvm.Cond.code ({ cls := "PlantKeeper$Coder", name := "<init>", desc := "(LPlantKeeper$Tree;LPlantKeeper$Plan;LPlantKeeper$Code;)V" } : Jvm.MethodName) prog_3_method_1_code (4 : Nat) (Option.none : Option FieldType) ∈ zk_BW := zk_inT 440 (by decide +kernel) rfl
theorem kw441 : Jvm.Cond.methodLink "PlantKeeper$Coder" (3 : Nat) ({ cls := "java/lang/Object", name := "<init>", desc := "()V" } : Jvm.MethodName) ∈ zk_BW := zk_inT 441 (by decide +kernel) rfl
theorem kw442 : Jvm.Cond.fieldLink "PlantKeeper$Coder" (9 : Nat) "PlantKeeper$Coder" "tree" "LPlantKeeper$Tree;" ∈ zk_BW := zk_inT 442 (by decide +kernel) rfl
theorem kw443 : Jvm.Cond.fieldLink "PlantKeeper$Coder" (15 : Nat) "PlantKeeper$Coder" "plan" "LPlantKeeper$Plan;" ∈ zk_BW := zk_inT 443 (by decide +kernel) rfl
theorem kw444 : Jvm.Cond.fieldLink "PlantKeeper$Coder" (19 : Nat) "PlantKeeper$Coder" "code" "LPlantKeeper$Code;" ∈ zk_BW := zk_inT 444 (by decide +kernel) rfl
theorem kw449 : Jvm.Cond.fieldLink "PlantKeeper$Coder" (23 : Nat) "PlantKeeper$Coder" "grid" "[I" ∈ zk_BW := zk_inT 449 (by decide +kernel) rfl
theorem kw450 : Jvm.Cond.fieldLink "PlantKeeper$Coder" (27 : Nat) "PlantKeeper$Coder" "edgeCell" "[I" ∈ zk_BW := zk_inT 450 (by decide +kernel) rfl
theorem kw451 : Jvm.Cond.fieldLink "PlantKeeper$Coder" (30 : Nat) "PlantKeeper$Coder" "linked" "[Z" ∈ zk_BW := zk_inT 451 (by decide +kernel) rfl
theorem kw482 : Jvm.Cond.instanceMethod ({ cls := "PlantKeeper$Prover", name := "<init>", desc := "(LPlantKeeper$Code;)V" } : Jvm.MethodName) ∈ zk_BW := zk_inT 482 (by decide +kernel) rfl
theorem kw483 : Jvm.Cond.code ({ cls := "PlantKeeper$Prover", name := "<init>", desc := "(LPlantKeeper$Code;)V" } : Jvm.MethodName) prog_10_method_1_code (2 : Nat) (Option.none : Option FieldType) ∈ zk_BW := zk_inT 483 (by decide +kernel) rfl
theorem kw484 : Jvm.Cond.methodLink "PlantKeeper$Prover" (3 : Nat) ({ cls := "java/lang/Object", name := "<init>", desc := "()V" } : Jvm.MethodName) ∈ zk_BW := zk_inT 484 (by decide +kernel) rfl
theorem kw485 : Jvm.Cond.fieldLink "PlantKeeper$Prover" (15 : Nat) "PlantKeeper$Prover" "bounds" "[I" ∈ zk_BW := zk_inT 485 (by decide +kernel) rfl
theorem kw487 : Jvm.Cond.fieldLink "PlantKeeper$Prover" (9 : Nat) "PlantKeeper$Prover" "code" "LPlantKeeper$Code;" ∈ zk_BW := zk_inT 487 (by decide +kernel) rfl
theorem kw488 : Jvm.Cond.fieldLink "PlantKeeper$Prover" (19 : Nat) "PlantKeeper$Prover" "reached" "[Z" ∈ zk_BW := zk_inT 488 (by decide +kernel) rfl
theorem kw489 : Jvm.Cond.fieldLink "PlantKeeper$Prover" (23 : Nat) "PlantKeeper$Prover" "through" "[J" ∈ zk_BW := zk_inT 489 (by decide +kernel) rfl
theorem kw490 : Jvm.Cond.fieldLink "PlantKeeper$Prover" (27 : Nat) "PlantKeeper$Prover" "out" "[J" ∈ zk_BW := zk_inT 490 (by decide +kernel) rfl
theorem kw491 : Jvm.Cond.fieldLink "PlantKeeper$Prover" (30 : Nat) "PlantKeeper$Prover" "away" "[J" ∈ zk_BW := zk_inT 491 (by decide +kernel) rfl
theorem kw492 : Jvm.Cond.fieldLink "PlantKeeper$Prover" (35 : Nat) "PlantKeeper$Prover" "backs" "[I" ∈ zk_BW := zk_inT 492 (by decide +kernel) rfl
theorem kw511 : Jvm.Cond.arrayClass FieldType.long ∈ zk_BW := zk_inT 511 (by decide +kernel) rfl
theorem kw515 : Jvm.Cond.instanceMethod ({ cls := "PlantKeeper$Machine", name := "<init>", desc := "(LPlantKeeper$Code;LPlantKeeper$Plan;)V" } : Jvm.MethodName) ∈ zk_BW := zk_inT 515 (by decide +kernel) rfl
theorem kw516 : Jvm.Cond.code ({ cls := "PlantKeeper$Machine", name := "<init>", desc := "(LPlantKeeper$Code;LPlantKeeper$Plan;)V" } : Jvm.MethodName) prog_6_method_1_code (3 : Nat) (Option.none : Option FieldType) ∈ zk_BW := zk_inT 516 (by decide +kernel) rfl
theorem kw517 : Jvm.Cond.methodLink "PlantKeeper$Machine" (3 : Nat) ({ cls := "java/lang/Object", name := "<init>", desc := "()V" } : Jvm.MethodName) ∈ zk_BW := zk_inT 517 (by decide +kernel) rfl
theorem kw518 : Jvm.Cond.fieldLink "PlantKeeper$Machine" (19 : Nat) "PlantKeeper$Machine" "given" "[I" ∈ zk_BW := zk_inT 518 (by decide +kernel) rfl
theorem kw519 : Jvm.Cond.fieldLink "PlantKeeper$Machine" (23 : Nat) "PlantKeeper$Machine" "published" "[I" ∈ zk_BW := zk_inT 519 (by decide +kernel) rfl
theorem kw520 : Jvm.Cond.fieldLink "PlantKeeper$Machine" (26 : Nat) "PlantKeeper$Machine" "safeOutputs" "[I" ∈ zk_BW := zk_inT 520 (by decide +kernel) rfl
theorem kw537 : Jvm.Cond.fieldLink "PlantKeeper$Machine" (9 : Nat) "PlantKeeper$Machine" "code" "LPlantKeeper$Code;" ∈ zk_BW := zk_inT 537 (by decide +kernel) rfl
theorem kw538 : Jvm.Cond.fieldLink "PlantKeeper$Machine" (15 : Nat) "PlantKeeper$Machine" "plan" "LPlantKeeper$Plan;" ∈ zk_BW := zk_inT 538 (by decide +kernel) rfl
theorem kw539 : Jvm.Cond.fieldLink "PlantKeeper$Machine" (29 : Nat) "PlantKeeper$Machine" "cells" "[I" ∈ zk_BW := zk_inT 539 (by decide +kernel) rfl
theorem kw540 : Jvm.Cond.fieldLink "PlantKeeper$Machine" (32 : Nat) "PlantKeeper$Machine" "stack" "[I" ∈ zk_BW := zk_inT 540 (by decide +kernel) rfl
theorem kw542 : Jvm.Cond.fieldLink "PlantKeeper$Machine" (35 : Nat) "PlantKeeper$Machine" "frames" "[I" ∈ zk_BW := zk_inT 542 (by decide +kernel) rfl
theorem kw543 : Jvm.Cond.fieldLink "PlantKeeper$Machine" (38 : Nat) "PlantKeeper$Machine" "firstInstance" "[I" ∈ zk_BW := zk_inT 543 (by decide +kernel) rfl
theorem kw594 : Jvm.Cond.instanceMethod ({ cls := "PlantKeeper$Line", name := "<init>", desc := "(LPlantKeeper$Machine;)V" } : Jvm.MethodName) ∈ zk_BW := zk_inT 594 (by decide +kernel) rfl
theorem kw595 : Jvm.Cond.code ({ cls := "PlantKeeper$Line", name := "<init>", desc := "(LPlantKeeper$Machine;)V" } : Jvm.MethodName) prog_5_method_1_code (2 : Nat) (Option.none : Option FieldType) ∈ zk_BW := zk_inT 595 (by decide +kernel) rfl
theorem kw596 : Jvm.Cond.methodLink "PlantKeeper$Line" (3 : Nat) ({ cls := "java/lang/Object", name := "<init>", desc := "()V" } : Jvm.MethodName) ∈ zk_BW := zk_inT 596 (by decide +kernel) rfl
theorem kw597 : Jvm.Cond.fieldLink "PlantKeeper$Line" (15 : Nat) "PlantKeeper$Line" "out" "[B" ∈ zk_BW := zk_inT 597 (by decide +kernel) rfl
theorem kw601 : Jvm.Cond.fieldLink "PlantKeeper$Line" (19 : Nat) "PlantKeeper$Line" "station" "I" ∈ zk_BW := zk_inT 601 (by decide +kernel) rfl
theorem kw603 : Jvm.Cond.fieldLink "PlantKeeper$Line" (9 : Nat) "PlantKeeper$Line" "machine" "LPlantKeeper$Machine;" ∈ zk_BW := zk_inT 603 (by decide +kernel) rfl
abbrev kc_Tk_init : ByteArray := prog_11_method_1_code
def km_Tk_init : zk_MT := (⟨"PlantKeeper$Tokens", "<init>", "(LPlantKeeper$Names;)V"⟩, kc_Tk_init, 2, none, 1)
theorem ku_Tk_init : zk_My km_Tk_init := ⟨kw116, kw7, by decide, by decide, by decide, by decide +kernel⟩
theorem kj_Tk_init : Cond.instanceMethod km_Tk_init.1 ∈ zk_BW := kw115
abbrev kc_Tr_init : ByteArray := prog_12_method_1_code
def km_Tr_init : zk_MT := (⟨"PlantKeeper$Tree", "<init>", "()V"⟩, kc_Tr_init, 1, none, 0)
theorem ku_Tr_init : zk_My km_Tr_init := ⟨kw152, kw8, by decide, by decide, by decide, by decide +kernel⟩
theorem kj_Tr_init : Cond.instanceMethod km_Tr_init.1 ∈ zk_BW := kw151
abbrev kc_Ps_init : ByteArray := prog_8_method_1_code
def km_Ps_init : zk_MT := (⟨"PlantKeeper$Parser", "<init>", "(LPlantKeeper$Tokens;LPlantKeeper$Tree;)V"⟩, kc_Ps_init, 3, none, 2)
theorem ku_Ps_init : zk_My km_Ps_init := ⟨kw198, kw9, by decide, by decide, by decide, by decide +kernel⟩
theorem kj_Ps_init : Cond.instanceMethod km_Ps_init.1 ∈ zk_BW := kw197
abbrev kc_Pl_init : ByteArray := prog_9_method_1_code
def km_Pl_init : zk_MT := (⟨"PlantKeeper$Plan", "<init>", "()V"⟩, kc_Pl_init, 1, none, 0)
theorem ku_Pl_init : zk_My km_Pl_init := ⟨kw230, kw10, by decide, by decide, by decide, by decide +kernel⟩
theorem kj_Pl_init : Cond.instanceMethod km_Pl_init.1 ∈ zk_BW := kw229
abbrev kc_Jd_init : ByteArray := prog_4_method_1_code
def km_Jd_init : zk_MT := (⟨"PlantKeeper$Judge", "<init>", "(LPlantKeeper$Tree;LPlantKeeper$Plan;)V"⟩, kc_Jd_init, 3, none, 2)
theorem ku_Jd_init : zk_My km_Jd_init := ⟨kw348, kw11, by decide, by decide, by decide, by decide +kernel⟩
theorem kj_Jd_init : Cond.instanceMethod km_Jd_init.1 ∈ zk_BW := kw347
abbrev kc_Cd_init : ByteArray := prog_2_method_1_code
def km_Cd_init : zk_MT := (⟨"PlantKeeper$Code", "<init>", "()V"⟩, kc_Cd_init, 1, none, 0)
theorem ku_Cd_init : zk_My km_Cd_init := ⟨kw399, kw12, by decide, by decide, by decide, by decide +kernel⟩
theorem kj_Cd_init : Cond.instanceMethod km_Cd_init.1 ∈ zk_BW := kw398
abbrev kc_Cr_init : ByteArray := prog_3_method_1_code
def km_Cr_init : zk_MT := (⟨"PlantKeeper$Coder", "<init>", "(LPlantKeeper$Tree;LPlantKeeper$Plan;LPlantKeeper$Code;)V"⟩, kc_Cr_init, 4, none, 3)
theorem ku_Cr_init : zk_My km_Cr_init := ⟨kw440, kw13, by decide, by decide, by decide, by decide +kernel⟩
theorem kj_Cr_init : Cond.instanceMethod km_Cr_init.1 ∈ zk_BW := kw439
abbrev kc_Pv_init : ByteArray := prog_10_method_1_code
def km_Pv_init : zk_MT := (⟨"PlantKeeper$Prover", "<init>", "(LPlantKeeper$Code;)V"⟩, kc_Pv_init, 2, none, 1)
theorem ku_Pv_init : zk_My km_Pv_init := ⟨kw483, kw14, by decide, by decide, by decide, by decide +kernel⟩
theorem kj_Pv_init : Cond.instanceMethod km_Pv_init.1 ∈ zk_BW := kw482
abbrev kc_Mc_init : ByteArray := prog_6_method_1_code
def km_Mc_init : zk_MT := (⟨"PlantKeeper$Machine", "<init>", "(LPlantKeeper$Code;LPlantKeeper$Plan;)V"⟩, kc_Mc_init, 3, none, 2)
theorem ku_Mc_init : zk_My km_Mc_init := ⟨kw516, kw15, by decide, by decide, by decide, by decide +kernel⟩
theorem kj_Mc_init : Cond.instanceMethod km_Mc_init.1 ∈ zk_BW := kw515
abbrev kc_Ln_init : ByteArray := prog_5_method_1_code
def km_Ln_init : zk_MT := (⟨"PlantKeeper$Line", "<init>", "(LPlantKeeper$Machine;)V"⟩, kc_Ln_init, 2, none, 1)
theorem ku_Ln_init : zk_My km_Ln_init := ⟨kw595, kw16, by decide, by decide, by decide, by decide +kernel⟩
theorem kj_Ln_init : Cond.instanceMethod km_Ln_init.1 ∈ zk_BW := kw594
theorem kd_Tk_init_0 : decode kc_Tk_init 0 = .ok (.aload_n 0, 1) := by decide +kernel
theorem kd_Tk_init_1 : decode kc_Tk_init 1 = .ok (.invokespecial 5, 3) := by decide +kernel
theorem kd_Tk_init_4 : decode kc_Tk_init 4 = .ok (.aload_n 0, 1) := by decide +kernel
theorem kd_Tk_init_5 : decode kc_Tk_init 5 = .ok (.aload_n 1, 1) := by decide +kernel
theorem kd_Tk_init_6 : decode kc_Tk_init 6 = .ok (.putfield 11, 3) := by decide +kernel
theorem kd_Tk_init_9 : decode kc_Tk_init 9 = .ok (.aload_n 0, 1) := by decide +kernel
theorem kd_Tk_init_10 : decode kc_Tk_init 10 = .ok (.sipush 16385, 3) := by decide +kernel
theorem kd_Tk_init_13 : decode kc_Tk_init 13 = .ok (.newarray .char, 2) := by decide +kernel
theorem kd_Tk_init_15 : decode kc_Tk_init 15 = .ok (.putfield 15, 3) := by decide +kernel
theorem kd_Tk_init_18 : decode kc_Tk_init 18 = .ok (.aload_n 0, 1) := by decide +kernel
theorem kd_Tk_init_19 : decode kc_Tk_init 19 = .ok (.sipush 16385, 3) := by decide +kernel
theorem kd_Tk_init_22 : decode kc_Tk_init 22 = .ok (.newarray .char, 2) := by decide +kernel
theorem kd_Tk_init_24 : decode kc_Tk_init 24 = .ok (.putfield 19, 3) := by decide +kernel
theorem kd_Tk_init_27 : decode kc_Tk_init 27 = .ok (.aload_n 0, 1) := by decide +kernel
theorem kd_Tk_init_28 : decode kc_Tk_init 28 = .ok (.sipush 16385, 3) := by decide +kernel
theorem kd_Tk_init_31 : decode kc_Tk_init 31 = .ok (.newarray .int, 2) := by decide +kernel
theorem kd_Tk_init_33 : decode kc_Tk_init 33 = .ok (.putfield 22, 3) := by decide +kernel
theorem kd_Tk_init_36 : decode kc_Tk_init 36 = .ok (.return_, 1) := by decide +kernel
theorem kd_Tr_init_0 : decode kc_Tr_init 0 = .ok (.aload_n 0, 1) := by decide +kernel
theorem kd_Tr_init_1 : decode kc_Tr_init 1 = .ok (.invokespecial 3, 3) := by decide +kernel
theorem kd_Tr_init_4 : decode kc_Tr_init 4 = .ok (.aload_n 0, 1) := by decide +kernel
theorem kd_Tr_init_5 : decode kc_Tr_init 5 = .ok (.ldc 11, 2) := by decide +kernel
theorem kd_Tr_init_7 : decode kc_Tr_init 7 = .ok (.newarray .byte, 2) := by decide +kernel
theorem kd_Tr_init_9 : decode kc_Tr_init 9 = .ok (.putfield 12, 3) := by decide +kernel
theorem kd_Tr_init_12 : decode kc_Tr_init 12 = .ok (.aload_n 0, 1) := by decide +kernel
theorem kd_Tr_init_13 : decode kc_Tr_init 13 = .ok (.ldc 11, 2) := by decide +kernel
theorem kd_Tr_init_15 : decode kc_Tr_init 15 = .ok (.newarray .byte, 2) := by decide +kernel
theorem kd_Tr_init_17 : decode kc_Tr_init 17 = .ok (.putfield 16, 3) := by decide +kernel
theorem kd_Tr_init_20 : decode kc_Tr_init 20 = .ok (.aload_n 0, 1) := by decide +kernel
theorem kd_Tr_init_21 : decode kc_Tr_init 21 = .ok (.ldc 11, 2) := by decide +kernel
theorem kd_Tr_init_23 : decode kc_Tr_init 23 = .ok (.newarray .char, 2) := by decide +kernel
theorem kd_Tr_init_25 : decode kc_Tr_init 25 = .ok (.putfield 19, 3) := by decide +kernel
theorem kd_Tr_init_28 : decode kc_Tr_init 28 = .ok (.aload_n 0, 1) := by decide +kernel
theorem kd_Tr_init_29 : decode kc_Tr_init 29 = .ok (.ldc 11, 2) := by decide +kernel
theorem kd_Tr_init_31 : decode kc_Tr_init 31 = .ok (.newarray .int, 2) := by decide +kernel
theorem kd_Tr_init_33 : decode kc_Tr_init 33 = .ok (.putfield 23, 3) := by decide +kernel
theorem kd_Tr_init_36 : decode kc_Tr_init 36 = .ok (.aload_n 0, 1) := by decide +kernel
theorem kd_Tr_init_37 : decode kc_Tr_init 37 = .ok (.ldc 11, 2) := by decide +kernel
theorem kd_Tr_init_39 : decode kc_Tr_init 39 = .ok (.newarray .int, 2) := by decide +kernel
theorem kd_Tr_init_41 : decode kc_Tr_init 41 = .ok (.putfield 27, 3) := by decide +kernel
theorem kd_Tr_init_44 : decode kc_Tr_init 44 = .ok (.aload_n 0, 1) := by decide +kernel
theorem kd_Tr_init_45 : decode kc_Tr_init 45 = .ok (.ldc 11, 2) := by decide +kernel
theorem kd_Tr_init_47 : decode kc_Tr_init 47 = .ok (.newarray .int, 2) := by decide +kernel
theorem kd_Tr_init_49 : decode kc_Tr_init 49 = .ok (.putfield 30, 3) := by decide +kernel
theorem kd_Tr_init_52 : decode kc_Tr_init 52 = .ok (.return_, 1) := by decide +kernel
theorem kd_Ps_init_0 : decode kc_Ps_init 0 = .ok (.aload_n 0, 1) := by decide +kernel
theorem kd_Ps_init_1 : decode kc_Ps_init 1 = .ok (.invokespecial 3, 3) := by decide +kernel
theorem kd_Ps_init_4 : decode kc_Ps_init 4 = .ok (.aload_n 0, 1) := by decide +kernel
theorem kd_Ps_init_5 : decode kc_Ps_init 5 = .ok (.aload_n 1, 1) := by decide +kernel
theorem kd_Ps_init_6 : decode kc_Ps_init 6 = .ok (.putfield 9, 3) := by decide +kernel
theorem kd_Ps_init_9 : decode kc_Ps_init 9 = .ok (.aload_n 0, 1) := by decide +kernel
theorem kd_Ps_init_10 : decode kc_Ps_init 10 = .ok (.aload_n 2, 1) := by decide +kernel
theorem kd_Ps_init_11 : decode kc_Ps_init 11 = .ok (.putfield 15, 3) := by decide +kernel
theorem kd_Ps_init_14 : decode kc_Ps_init 14 = .ok (.return_, 1) := by decide +kernel
theorem kd_Pl_init_0 : decode kc_Pl_init 0 = .ok (.aload_n 0, 1) := by decide +kernel
theorem kd_Pl_init_1 : decode kc_Pl_init 1 = .ok (.invokespecial 5, 3) := by decide +kernel
theorem kd_Pl_init_4 : decode kc_Pl_init 4 = .ok (.aload_n 0, 1) := by decide +kernel
theorem kd_Pl_init_5 : decode kc_Pl_init 5 = .ok (.sipush 629, 3) := by decide +kernel
theorem kd_Pl_init_8 : decode kc_Pl_init 8 = .ok (.newarray .int, 2) := by decide +kernel
theorem kd_Pl_init_10 : decode kc_Pl_init 10 = .ok (.putfield 11, 3) := by decide +kernel
theorem kd_Pl_init_13 : decode kc_Pl_init 13 = .ok (.aload_n 0, 1) := by decide +kernel
theorem kd_Pl_init_14 : decode kc_Pl_init 14 = .ok (.sipush 629, 3) := by decide +kernel
theorem kd_Pl_init_17 : decode kc_Pl_init 17 = .ok (.newarray .int, 2) := by decide +kernel
theorem kd_Pl_init_19 : decode kc_Pl_init 19 = .ok (.putfield 15, 3) := by decide +kernel
theorem kd_Pl_init_22 : decode kc_Pl_init 22 = .ok (.aload_n 0, 1) := by decide +kernel
theorem kd_Pl_init_23 : decode kc_Pl_init 23 = .ok (.sipush 629, 3) := by decide +kernel
theorem kd_Pl_init_26 : decode kc_Pl_init 26 = .ok (.newarray .int, 2) := by decide +kernel
theorem kd_Pl_init_28 : decode kc_Pl_init 28 = .ok (.putfield 18, 3) := by decide +kernel
theorem kd_Pl_init_31 : decode kc_Pl_init 31 = .ok (.aload_n 0, 1) := by decide +kernel
theorem kd_Pl_init_32 : decode kc_Pl_init 32 = .ok (.sipush 629, 3) := by decide +kernel
theorem kd_Pl_init_35 : decode kc_Pl_init 35 = .ok (.newarray .int, 2) := by decide +kernel
theorem kd_Pl_init_37 : decode kc_Pl_init 37 = .ok (.putfield 21, 3) := by decide +kernel
theorem kd_Pl_init_40 : decode kc_Pl_init 40 = .ok (.aload_n 0, 1) := by decide +kernel
theorem kd_Pl_init_41 : decode kc_Pl_init 41 = .ok (.sipush 629, 3) := by decide +kernel
theorem kd_Pl_init_44 : decode kc_Pl_init 44 = .ok (.newarray .int, 2) := by decide +kernel
theorem kd_Pl_init_46 : decode kc_Pl_init 46 = .ok (.putfield 24, 3) := by decide +kernel
theorem kd_Pl_init_49 : decode kc_Pl_init 49 = .ok (.aload_n 0, 1) := by decide +kernel
theorem kd_Pl_init_50 : decode kc_Pl_init 50 = .ok (.sipush 629, 3) := by decide +kernel
theorem kd_Pl_init_53 : decode kc_Pl_init 53 = .ok (.newarray .int, 2) := by decide +kernel
theorem kd_Pl_init_55 : decode kc_Pl_init 55 = .ok (.putfield 27, 3) := by decide +kernel
theorem kd_Pl_init_58 : decode kc_Pl_init 58 = .ok (.aload_n 0, 1) := by decide +kernel
theorem kd_Pl_init_59 : decode kc_Pl_init 59 = .ok (.sipush 629, 3) := by decide +kernel
theorem kd_Pl_init_62 : decode kc_Pl_init 62 = .ok (.newarray .int, 2) := by decide +kernel
theorem kd_Pl_init_64 : decode kc_Pl_init 64 = .ok (.putfield 30, 3) := by decide +kernel
theorem kd_Pl_init_67 : decode kc_Pl_init 67 = .ok (.aload_n 0, 1) := by decide +kernel
theorem kd_Pl_init_68 : decode kc_Pl_init 68 = .ok (.sipush 6000, 3) := by decide +kernel
theorem kd_Pl_init_71 : decode kc_Pl_init 71 = .ok (.newarray .int, 2) := by decide +kernel
theorem kd_Pl_init_73 : decode kc_Pl_init 73 = .ok (.putfield 33, 3) := by decide +kernel
theorem kd_Pl_init_76 : decode kc_Pl_init 76 = .ok (.aload_n 0, 1) := by decide +kernel
theorem kd_Pl_init_77 : decode kc_Pl_init 77 = .ok (.sipush 6000, 3) := by decide +kernel
theorem kd_Pl_init_80 : decode kc_Pl_init 80 = .ok (.newarray .int, 2) := by decide +kernel
theorem kd_Pl_init_82 : decode kc_Pl_init 82 = .ok (.putfield 36, 3) := by decide +kernel
theorem kd_Pl_init_85 : decode kc_Pl_init 85 = .ok (.aload_n 0, 1) := by decide +kernel
theorem kd_Pl_init_86 : decode kc_Pl_init 86 = .ok (.sipush 6000, 3) := by decide +kernel
theorem kd_Pl_init_89 : decode kc_Pl_init 89 = .ok (.newarray .int, 2) := by decide +kernel
theorem kd_Pl_init_91 : decode kc_Pl_init 91 = .ok (.putfield 39, 3) := by decide +kernel
theorem kd_Pl_init_94 : decode kc_Pl_init 94 = .ok (.aload_n 0, 1) := by decide +kernel
theorem kd_Pl_init_95 : decode kc_Pl_init 95 = .ok (.sipush 6000, 3) := by decide +kernel
theorem kd_Pl_init_98 : decode kc_Pl_init 98 = .ok (.newarray .int, 2) := by decide +kernel
theorem kd_Pl_init_100 : decode kc_Pl_init 100 = .ok (.putfield 42, 3) := by decide +kernel
theorem kd_Pl_init_103 : decode kc_Pl_init 103 = .ok (.aload_n 0, 1) := by decide +kernel
theorem kd_Pl_init_104 : decode kc_Pl_init 104 = .ok (.sipush 6000, 3) := by decide +kernel
theorem kd_Pl_init_107 : decode kc_Pl_init 107 = .ok (.newarray .int, 2) := by decide +kernel
theorem kd_Pl_init_109 : decode kc_Pl_init 109 = .ok (.putfield 45, 3) := by decide +kernel
theorem kd_Pl_init_112 : decode kc_Pl_init 112 = .ok (.aload_n 0, 1) := by decide +kernel
theorem kd_Pl_init_113 : decode kc_Pl_init 113 = .ok (.sipush 6000, 3) := by decide +kernel
theorem kd_Pl_init_116 : decode kc_Pl_init 116 = .ok (.newarray .int, 2) := by decide +kernel
theorem kd_Pl_init_118 : decode kc_Pl_init 118 = .ok (.putfield 48, 3) := by decide +kernel
theorem kd_Pl_init_121 : decode kc_Pl_init 121 = .ok (.aload_n 0, 1) := by decide +kernel
theorem kd_Pl_init_122 : decode kc_Pl_init 122 = .ok (.sipush 6000, 3) := by decide +kernel
theorem kd_Pl_init_125 : decode kc_Pl_init 125 = .ok (.newarray .int, 2) := by decide +kernel
theorem kd_Pl_init_127 : decode kc_Pl_init 127 = .ok (.putfield 51, 3) := by decide +kernel
theorem kd_Pl_init_130 : decode kc_Pl_init 130 = .ok (.aload_n 0, 1) := by decide +kernel
theorem kd_Pl_init_131 : decode kc_Pl_init 131 = .ok (.sipush 6000, 3) := by decide +kernel
theorem kd_Pl_init_134 : decode kc_Pl_init 134 = .ok (.newarray .int, 2) := by decide +kernel
theorem kd_Pl_init_136 : decode kc_Pl_init 136 = .ok (.putfield 54, 3) := by decide +kernel
theorem kd_Pl_init_139 : decode kc_Pl_init 139 = .ok (.aload_n 0, 1) := by decide +kernel
theorem kd_Pl_init_140 : decode kc_Pl_init 140 = .ok (.sipush 6000, 3) := by decide +kernel
theorem kd_Pl_init_143 : decode kc_Pl_init 143 = .ok (.newarray .int, 2) := by decide +kernel
theorem kd_Pl_init_145 : decode kc_Pl_init 145 = .ok (.putfield 59, 3) := by decide +kernel
theorem kd_Pl_init_148 : decode kc_Pl_init 148 = .ok (.aload_n 0, 1) := by decide +kernel
theorem kd_Pl_init_149 : decode kc_Pl_init 149 = .ok (.sipush 6000, 3) := by decide +kernel
theorem kd_Pl_init_152 : decode kc_Pl_init 152 = .ok (.newarray .int, 2) := by decide +kernel
theorem kd_Pl_init_154 : decode kc_Pl_init 154 = .ok (.putfield 62, 3) := by decide +kernel
theorem kd_Pl_init_157 : decode kc_Pl_init 157 = .ok (.return_, 1) := by decide +kernel
theorem kd_Jd_init_0 : decode kc_Jd_init 0 = .ok (.aload_n 0, 1) := by decide +kernel
theorem kd_Jd_init_1 : decode kc_Jd_init 1 = .ok (.invokespecial 3, 3) := by decide +kernel
theorem kd_Jd_init_4 : decode kc_Jd_init 4 = .ok (.aload_n 0, 1) := by decide +kernel
theorem kd_Jd_init_5 : decode kc_Jd_init 5 = .ok (.aload_n 1, 1) := by decide +kernel
theorem kd_Jd_init_6 : decode kc_Jd_init 6 = .ok (.putfield 9, 3) := by decide +kernel
theorem kd_Jd_init_9 : decode kc_Jd_init 9 = .ok (.aload_n 0, 1) := by decide +kernel
theorem kd_Jd_init_10 : decode kc_Jd_init 10 = .ok (.aload_n 2, 1) := by decide +kernel
theorem kd_Jd_init_11 : decode kc_Jd_init 11 = .ok (.putfield 15, 3) := by decide +kernel
theorem kd_Jd_init_14 : decode kc_Jd_init 14 = .ok (.aload_n 0, 1) := by decide +kernel
theorem kd_Jd_init_15 : decode kc_Jd_init 15 = .ok (.sipush 240, 3) := by decide +kernel
theorem kd_Jd_init_18 : decode kc_Jd_init 18 = .ok (.newarray .int, 2) := by decide +kernel
theorem kd_Jd_init_20 : decode kc_Jd_init 20 = .ok (.putfield 21, 3) := by decide +kernel
theorem kd_Jd_init_23 : decode kc_Jd_init 23 = .ok (.aload_n 0, 1) := by decide +kernel
theorem kd_Jd_init_24 : decode kc_Jd_init 24 = .ok (.sipush 960, 3) := by decide +kernel
theorem kd_Jd_init_27 : decode kc_Jd_init 27 = .ok (.newarray .boolean, 2) := by decide +kernel
theorem kd_Jd_init_29 : decode kc_Jd_init 29 = .ok (.putfield 25, 3) := by decide +kernel
theorem kd_Jd_init_32 : decode kc_Jd_init 32 = .ok (.return_, 1) := by decide +kernel
theorem kd_Cd_init_0 : decode kc_Cd_init 0 = .ok (.aload_n 0, 1) := by decide +kernel
theorem kd_Cd_init_1 : decode kc_Cd_init 1 = .ok (.invokespecial 3, 3) := by decide +kernel
theorem kd_Cd_init_4 : decode kc_Cd_init 4 = .ok (.aload_n 0, 1) := by decide +kernel
theorem kd_Cd_init_5 : decode kc_Cd_init 5 = .ok (.sipush 4000, 3) := by decide +kernel
theorem kd_Cd_init_8 : decode kc_Cd_init 8 = .ok (.newarray .byte, 2) := by decide +kernel
theorem kd_Cd_init_10 : decode kc_Cd_init 10 = .ok (.putfield 9, 3) := by decide +kernel
theorem kd_Cd_init_13 : decode kc_Cd_init 13 = .ok (.aload_n 0, 1) := by decide +kernel
theorem kd_Cd_init_14 : decode kc_Cd_init 14 = .ok (.sipush 4000, 3) := by decide +kernel
theorem kd_Cd_init_17 : decode kc_Cd_init 17 = .ok (.newarray .int, 2) := by decide +kernel
theorem kd_Cd_init_19 : decode kc_Cd_init 19 = .ok (.putfield 15, 3) := by decide +kernel
theorem kd_Cd_init_22 : decode kc_Cd_init 22 = .ok (.aload_n 0, 1) := by decide +kernel
theorem kd_Cd_init_23 : decode kc_Cd_init 23 = .ok (.sipush 4000, 3) := by decide +kernel
theorem kd_Cd_init_26 : decode kc_Cd_init 26 = .ok (.newarray .int, 2) := by decide +kernel
theorem kd_Cd_init_28 : decode kc_Cd_init 28 = .ok (.putfield 19, 3) := by decide +kernel
theorem kd_Cd_init_31 : decode kc_Cd_init 31 = .ok (.aload_n 0, 1) := by decide +kernel
theorem kd_Cd_init_32 : decode kc_Cd_init 32 = .ok (.sipush 4000, 3) := by decide +kernel
theorem kd_Cd_init_35 : decode kc_Cd_init 35 = .ok (.newarray .int, 2) := by decide +kernel
theorem kd_Cd_init_37 : decode kc_Cd_init 37 = .ok (.putfield 22, 3) := by decide +kernel
theorem kd_Cd_init_40 : decode kc_Cd_init 40 = .ok (.aload_n 0, 1) := by decide +kernel
theorem kd_Cd_init_41 : decode kc_Cd_init 41 = .ok (.bipush 17, 2) := by decide +kernel
theorem kd_Cd_init_43 : decode kc_Cd_init 43 = .ok (.newarray .int, 2) := by decide +kernel
theorem kd_Cd_init_45 : decode kc_Cd_init 45 = .ok (.putfield 25, 3) := by decide +kernel
theorem kd_Cd_init_48 : decode kc_Cd_init 48 = .ok (.return_, 1) := by decide +kernel
theorem kd_Cr_init_0 : decode kc_Cr_init 0 = .ok (.aload_n 0, 1) := by decide +kernel
theorem kd_Cr_init_1 : decode kc_Cr_init 1 = .ok (.invokespecial 3, 3) := by decide +kernel
theorem kd_Cr_init_4 : decode kc_Cr_init 4 = .ok (.aload_n 0, 1) := by decide +kernel
theorem kd_Cr_init_5 : decode kc_Cr_init 5 = .ok (.aload_n 1, 1) := by decide +kernel
theorem kd_Cr_init_6 : decode kc_Cr_init 6 = .ok (.putfield 9, 3) := by decide +kernel
theorem kd_Cr_init_9 : decode kc_Cr_init 9 = .ok (.aload_n 0, 1) := by decide +kernel
theorem kd_Cr_init_10 : decode kc_Cr_init 10 = .ok (.aload_n 2, 1) := by decide +kernel
theorem kd_Cr_init_11 : decode kc_Cr_init 11 = .ok (.putfield 15, 3) := by decide +kernel
theorem kd_Cr_init_14 : decode kc_Cr_init 14 = .ok (.aload_n 0, 1) := by decide +kernel
theorem kd_Cr_init_15 : decode kc_Cr_init 15 = .ok (.aload_n 3, 1) := by decide +kernel
theorem kd_Cr_init_16 : decode kc_Cr_init 16 = .ok (.putfield 19, 3) := by decide +kernel
theorem kd_Cr_init_19 : decode kc_Cr_init 19 = .ok (.aload_n 0, 1) := by decide +kernel
theorem kd_Cr_init_20 : decode kc_Cr_init 20 = .ok (.sipush 144, 3) := by decide +kernel
theorem kd_Cr_init_23 : decode kc_Cr_init 23 = .ok (.newarray .int, 2) := by decide +kernel
theorem kd_Cr_init_25 : decode kc_Cr_init 25 = .ok (.putfield 23, 3) := by decide +kernel
theorem kd_Cr_init_28 : decode kc_Cr_init 28 = .ok (.aload_n 0, 1) := by decide +kernel
theorem kd_Cr_init_29 : decode kc_Cr_init 29 = .ok (.sipush 144, 3) := by decide +kernel
theorem kd_Cr_init_32 : decode kc_Cr_init 32 = .ok (.newarray .int, 2) := by decide +kernel
theorem kd_Cr_init_34 : decode kc_Cr_init 34 = .ok (.putfield 27, 3) := by decide +kernel
theorem kd_Cr_init_37 : decode kc_Cr_init 37 = .ok (.aload_n 0, 1) := by decide +kernel
theorem kd_Cr_init_38 : decode kc_Cr_init 38 = .ok (.sipush 144, 3) := by decide +kernel
theorem kd_Cr_init_41 : decode kc_Cr_init 41 = .ok (.newarray .boolean, 2) := by decide +kernel
theorem kd_Cr_init_43 : decode kc_Cr_init 43 = .ok (.putfield 30, 3) := by decide +kernel
theorem kd_Cr_init_46 : decode kc_Cr_init 46 = .ok (.return_, 1) := by decide +kernel
theorem kd_Pv_init_0 : decode kc_Pv_init 0 = .ok (.aload_n 0, 1) := by decide +kernel
theorem kd_Pv_init_1 : decode kc_Pv_init 1 = .ok (.invokespecial 3, 3) := by decide +kernel
theorem kd_Pv_init_4 : decode kc_Pv_init 4 = .ok (.aload_n 0, 1) := by decide +kernel
theorem kd_Pv_init_5 : decode kc_Pv_init 5 = .ok (.aload_n 1, 1) := by decide +kernel
theorem kd_Pv_init_6 : decode kc_Pv_init 6 = .ok (.putfield 9, 3) := by decide +kernel
theorem kd_Pv_init_9 : decode kc_Pv_init 9 = .ok (.aload_n 0, 1) := by decide +kernel
theorem kd_Pv_init_10 : decode kc_Pv_init 10 = .ok (.bipush 16, 2) := by decide +kernel
theorem kd_Pv_init_12 : decode kc_Pv_init 12 = .ok (.newarray .int, 2) := by decide +kernel
theorem kd_Pv_init_14 : decode kc_Pv_init 14 = .ok (.putfield 15, 3) := by decide +kernel
theorem kd_Pv_init_17 : decode kc_Pv_init 17 = .ok (.aload_n 0, 1) := by decide +kernel
theorem kd_Pv_init_18 : decode kc_Pv_init 18 = .ok (.sipush 4001, 3) := by decide +kernel
theorem kd_Pv_init_21 : decode kc_Pv_init 21 = .ok (.newarray .boolean, 2) := by decide +kernel
theorem kd_Pv_init_23 : decode kc_Pv_init 23 = .ok (.putfield 19, 3) := by decide +kernel
theorem kd_Pv_init_26 : decode kc_Pv_init 26 = .ok (.aload_n 0, 1) := by decide +kernel
theorem kd_Pv_init_27 : decode kc_Pv_init 27 = .ok (.sipush 4001, 3) := by decide +kernel
theorem kd_Pv_init_30 : decode kc_Pv_init 30 = .ok (.newarray .long, 2) := by decide +kernel
theorem kd_Pv_init_32 : decode kc_Pv_init 32 = .ok (.putfield 23, 3) := by decide +kernel
theorem kd_Pv_init_35 : decode kc_Pv_init 35 = .ok (.aload_n 0, 1) := by decide +kernel
theorem kd_Pv_init_36 : decode kc_Pv_init 36 = .ok (.sipush 4001, 3) := by decide +kernel
theorem kd_Pv_init_39 : decode kc_Pv_init 39 = .ok (.newarray .long, 2) := by decide +kernel
theorem kd_Pv_init_41 : decode kc_Pv_init 41 = .ok (.putfield 27, 3) := by decide +kernel
theorem kd_Pv_init_44 : decode kc_Pv_init 44 = .ok (.aload_n 0, 1) := by decide +kernel
theorem kd_Pv_init_45 : decode kc_Pv_init 45 = .ok (.sipush 4001, 3) := by decide +kernel
theorem kd_Pv_init_48 : decode kc_Pv_init 48 = .ok (.newarray .long, 2) := by decide +kernel
theorem kd_Pv_init_50 : decode kc_Pv_init 50 = .ok (.putfield 30, 3) := by decide +kernel
theorem kd_Pv_init_53 : decode kc_Pv_init 53 = .ok (.aload_n 0, 1) := by decide +kernel
theorem kd_Pv_init_54 : decode kc_Pv_init 54 = .ok (.sipush 240, 3) := by decide +kernel
theorem kd_Pv_init_57 : decode kc_Pv_init 57 = .ok (.newarray .int, 2) := by decide +kernel
theorem kd_Pv_init_59 : decode kc_Pv_init 59 = .ok (.putfield 35, 3) := by decide +kernel
theorem kd_Pv_init_62 : decode kc_Pv_init 62 = .ok (.return_, 1) := by decide +kernel
theorem kd_Mc_init_0 : decode kc_Mc_init 0 = .ok (.aload_n 0, 1) := by decide +kernel
theorem kd_Mc_init_1 : decode kc_Mc_init 1 = .ok (.invokespecial 3, 3) := by decide +kernel
theorem kd_Mc_init_4 : decode kc_Mc_init 4 = .ok (.aload_n 0, 1) := by decide +kernel
theorem kd_Mc_init_5 : decode kc_Mc_init 5 = .ok (.aload_n 1, 1) := by decide +kernel
theorem kd_Mc_init_6 : decode kc_Mc_init 6 = .ok (.putfield 9, 3) := by decide +kernel
theorem kd_Mc_init_9 : decode kc_Mc_init 9 = .ok (.aload_n 0, 1) := by decide +kernel
theorem kd_Mc_init_10 : decode kc_Mc_init 10 = .ok (.aload_n 2, 1) := by decide +kernel
theorem kd_Mc_init_11 : decode kc_Mc_init 11 = .ok (.putfield 15, 3) := by decide +kernel
theorem kd_Mc_init_14 : decode kc_Mc_init 14 = .ok (.aload_n 0, 1) := by decide +kernel
theorem kd_Mc_init_15 : decode kc_Mc_init 15 = .ok (.sipush 960, 3) := by decide +kernel
theorem kd_Mc_init_18 : decode kc_Mc_init 18 = .ok (.newarray .int, 2) := by decide +kernel
theorem kd_Mc_init_20 : decode kc_Mc_init 20 = .ok (.putfield 19, 3) := by decide +kernel
theorem kd_Mc_init_23 : decode kc_Mc_init 23 = .ok (.aload_n 0, 1) := by decide +kernel
theorem kd_Mc_init_24 : decode kc_Mc_init 24 = .ok (.sipush 960, 3) := by decide +kernel
theorem kd_Mc_init_27 : decode kc_Mc_init 27 = .ok (.newarray .int, 2) := by decide +kernel
theorem kd_Mc_init_29 : decode kc_Mc_init 29 = .ok (.putfield 23, 3) := by decide +kernel
theorem kd_Mc_init_32 : decode kc_Mc_init 32 = .ok (.aload_n 0, 1) := by decide +kernel
theorem kd_Mc_init_33 : decode kc_Mc_init 33 = .ok (.sipush 960, 3) := by decide +kernel
theorem kd_Mc_init_36 : decode kc_Mc_init 36 = .ok (.newarray .int, 2) := by decide +kernel
theorem kd_Mc_init_38 : decode kc_Mc_init 38 = .ok (.putfield 26, 3) := by decide +kernel
theorem kd_Mc_init_41 : decode kc_Mc_init 41 = .ok (.aload_n 0, 1) := by decide +kernel
theorem kd_Mc_init_42 : decode kc_Mc_init 42 = .ok (.sipush 8192, 3) := by decide +kernel
theorem kd_Mc_init_45 : decode kc_Mc_init 45 = .ok (.newarray .int, 2) := by decide +kernel
theorem kd_Mc_init_47 : decode kc_Mc_init 47 = .ok (.putfield 29, 3) := by decide +kernel
theorem kd_Mc_init_50 : decode kc_Mc_init 50 = .ok (.aload_n 0, 1) := by decide +kernel
theorem kd_Mc_init_51 : decode kc_Mc_init 51 = .ok (.sipush 1088, 3) := by decide +kernel
theorem kd_Mc_init_54 : decode kc_Mc_init 54 = .ok (.newarray .int, 2) := by decide +kernel
theorem kd_Mc_init_56 : decode kc_Mc_init 56 = .ok (.putfield 32, 3) := by decide +kernel
theorem kd_Mc_init_59 : decode kc_Mc_init 59 = .ok (.aload_n 0, 1) := by decide +kernel
theorem kd_Mc_init_60 : decode kc_Mc_init 60 = .ok (.bipush 51, 2) := by decide +kernel
theorem kd_Mc_init_62 : decode kc_Mc_init 62 = .ok (.newarray .int, 2) := by decide +kernel
theorem kd_Mc_init_64 : decode kc_Mc_init 64 = .ok (.putfield 35, 3) := by decide +kernel
theorem kd_Mc_init_67 : decode kc_Mc_init 67 = .ok (.aload_n 0, 1) := by decide +kernel
theorem kd_Mc_init_68 : decode kc_Mc_init 68 = .ok (.bipush 16, 2) := by decide +kernel
theorem kd_Mc_init_70 : decode kc_Mc_init 70 = .ok (.newarray .int, 2) := by decide +kernel
theorem kd_Mc_init_72 : decode kc_Mc_init 72 = .ok (.putfield 38, 3) := by decide +kernel
theorem kd_Mc_init_75 : decode kc_Mc_init 75 = .ok (.return_, 1) := by decide +kernel
theorem kd_Ln_init_0 : decode kc_Ln_init 0 = .ok (.aload_n 0, 1) := by decide +kernel
theorem kd_Ln_init_1 : decode kc_Ln_init 1 = .ok (.invokespecial 3, 3) := by decide +kernel
theorem kd_Ln_init_4 : decode kc_Ln_init 4 = .ok (.aload_n 0, 1) := by decide +kernel
theorem kd_Ln_init_5 : decode kc_Ln_init 5 = .ok (.aload_n 1, 1) := by decide +kernel
theorem kd_Ln_init_6 : decode kc_Ln_init 6 = .ok (.putfield 9, 3) := by decide +kernel
theorem kd_Ln_init_9 : decode kc_Ln_init 9 = .ok (.aload_n 0, 1) := by decide +kernel
theorem kd_Ln_init_10 : decode kc_Ln_init 10 = .ok (.sipush 256, 3) := by decide +kernel
theorem kd_Ln_init_13 : decode kc_Ln_init 13 = .ok (.newarray .byte, 2) := by decide +kernel
theorem kd_Ln_init_15 : decode kc_Ln_init 15 = .ok (.putfield 15, 3) := by decide +kernel
theorem kd_Ln_init_18 : decode kc_Ln_init 18 = .ok (.aload_n 0, 1) := by decide +kernel
theorem kd_Ln_init_19 : decode kc_Ln_init 19 = .ok (.iconst 1, 1) := by decide +kernel
theorem kd_Ln_init_20 : decode kc_Ln_init 20 = .ok (.putfield 19, 3) := by decide +kernel
theorem kd_Ln_init_23 : decode kc_Ln_init 23 = .ok (.return_, 1) := by decide +kernel
