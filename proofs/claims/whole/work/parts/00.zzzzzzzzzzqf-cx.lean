/-! CX: the class's reader, part 5. -/
theorem cx_f_Ps_expression {E : zcx_T} {a : Int} {d : Nat} {h : zs_H} {x : Int32} (H : zcx_P E a h) : zcx_2 E a (f_Ps_expression d h x) := (cx_rec1 d).1 h x H
theorem cx_f_Ps_wholeExpression {E : zcx_T} {a : Int} {h : zs_H}  (H : zcx_P E a h) : zcx_2 E a (f_Ps_wholeExpression h) := by
  unfold f_Ps_wholeExpression
  exact (zcx_B2e (cx_f_Ps_expression H) (fun v2 h3 H_h3 => (zcx_2s (zcx_uF (by decide) H_h3))))
theorem cx_ranges_L7 {E : zcx_T} : ∀ (N i : Nat) (h : zs_H) (x1 x2 x3 : Int32), (x3 = 0 → zcx_P E 2 h) → (¬ x3 = 0 → zcx_P E (2 * (i : Int)) h) → i ≤ 16384 → zcx_2 E 2 (f_Ps_ranges_L7 N h x1 x2 x3 (nI i)) := by
  intro N
  induction N with
  | zero => intro i h x1 x2 x3 _ _ _; exact zcx_2n
  | succ N ih =>
    intro i h x1 x2 x3 h0 h1 hi
    show zcx_2 E 2 (f_Ps_ranges_7 (f_Ps_ranges_L7 N) h x1 x2 x3 (nI i))
    unfold f_Ps_ranges_7
    refine zcx_2i (fun c => ?_) (fun c => ?_)
    · have hi : 16384 ≤ i := (zc_le (k := 16384) (by decide) (by omega)).mp c
      refine zcx_2s ?_
      by_cases z : x3 = 0
      · exact h0 z
      · exact zcx_big (h1 z) (by omega)
    · have hi : i < 16384 := by
        have := mt (zc_le (k := 16384) (t := i) (by decide) (by omega)).mpr c
        omega
      refine zcx_2i (fun z => zcx_2s (h0 z)) (fun z => ?_)
      have fin : ∀ (h : zs_H) (x1 x2 v : Int32), zcx_P E (2 * (i : Int) + 1) h → zcx_2 E 2 (f_Ps_ranges_80 (f_Ps_ranges_L7 N) h x1 x2 (nI i) v) := by
        intro h x1 x2 v H
        unfold f_Ps_ranges_80 f_Ps_ranges_106 f_Ps_ranges_119
        refine zcx_B2 (cx_f_Tr_hang H) ?_
        intro v2 h3 H3
        have go : ∀ y x3 : Int32, zcx_2 E 2 ((f_Ps_take h3 y).bind fun h2 => f_Ps_ranges_L7 N h2 x1 v2 x3 (nI i + 1)) := fun y x3 => by
          refine zcx_b2 (cx_take1 H3) ?_
          intro h2 H2
          rw [nI_1]
          exact ih (i + 1) h2 _ _ _ (fun _ => zcx_le H2 (by omega)) (fun _ => zcx_le H2 (by omega)) (by omega)
        exact zcx_2i (fun _ => zcx_2i (fun _ => go _ _) (fun _ => go _ _)) (fun _ => zcx_2i (fun _ => go _ _) (fun _ => go _ _))
      refine zcx_B2 (cx_f_Tr_add (zcx_kI (by decide +kernel)) (h1 z)) ?_
      intro v4 h5 H5
      refine zcx_B2 (cxp_constant H5) ?_
      intro v7 h8 H8
      refine zcx_B2 (cx_f_Tr_hang H8) ?_
      intro v10 h11 H11
      refine zcx_2i (fun _ => ?_) (fun _ => fin _ _ _ _ H11)
      refine zcx_b2 (cx_f_Ps_take H11) ?_
      intro h14 H14
      refine zcx_B2 (cx_f_Ps_constant H14) ?_
      intro v16 h17 H17
      refine zcx_B2 (cx_f_Tr_hang H17) ?_
      intro v19 h20 H20
      exact fin _ _ _ _ H20
theorem cx_ranges {E : zcx_T} {h : zs_H} {x1 : Int32} (H : zcx_P E 0 h) : zcx_2 E 2 (f_Ps_ranges h x1) := by
  unfold f_Ps_ranges
  exact cx_ranges_L7 zF 0 h x1 (-1) 1 (fun z => absurd z (by decide)) (fun _ => zcx_le H (by omega)) (by decide)
theorem cx_f_Ps_invocation_164 {E : zcx_T} {a : Int} {k62 : zs_H → Int32 → Int32 → Int32 → Int32 → (Option (Int32 × zs_H))} {h : zs_H} {x1 : Int32} {x2 : Int32} {x3 : Int32} {x4 : Int32} (H_k62 : ∀ z0 z1 z2 z3 z4, zcx_P E a z0 → zcx_2 E a (k62 z0 z1 z2 z3 z4)) (H : zcx_P E a h) : zcx_2 E a (f_Ps_invocation_164 k62 h x1 x2 x3 x4) := by
  unfold f_Ps_invocation_164
  exact (H_k62 _ _ _ _ _ H)
theorem cx_f_Ps_invocation_153 {E : zcx_T} {a : Int} {k62 : zs_H → Int32 → Int32 → Int32 → Int32 → (Option (Int32 × zs_H))} {h : zs_H} {x1 : Int32} {x2 : Int32} {x4 : Int32} {y0 : Int32} (H_k62 : ∀ z0 z1 z2 z3 z4, zcx_P E a z0 → zcx_2 E a (k62 z0 z1 z2 z3 z4)) (H : zcx_P E a h) : zcx_2 E a (f_Ps_invocation_153 k62 h x1 x2 x4 y0) := by
  unfold f_Ps_invocation_153
  exact (zcx_2i (fun _ => (cx_f_Ps_invocation_164 H_k62 H)) (fun _ => (zcx_b2e (cx_f_Ps_take H) (fun h3 H_h3 => (cx_f_Ps_invocation_164 H_k62 H_h3)))))
theorem cx_f_Ps_invocation_170 {E : zcx_T} {a : Int} {h : zs_H} {x1 : Int32}  (H : zcx_P E a h) : zcx_2 E a (f_Ps_invocation_170 h x1) := by
  unfold f_Ps_invocation_170
  exact (zcx_b2e (cx_f_Ps_take H) (fun h2 H_h2 => (zcx_2s (zcx_uF (by decide) H_h2))))
theorem cx_f_Ps_invocation_62 {E : zcx_T} {a : Int} {k62 : zs_H → Int32 → Int32 → Int32 → Int32 → (Option (Int32 × zs_H))} {h : zs_H} {x1 : Int32} {x2 : Int32} {x3 : Int32} {x4 : Int32} (H_k62 : ∀ z0 z1 z2 z3 z4, zcx_P E a z0 → zcx_2 E a (k62 z0 z1 z2 z3 z4)) (H : zcx_P E a h) : zcx_2 E a (f_Ps_invocation_62 k62 h x1 x2 x3 x4) := by
  unfold f_Ps_invocation_62
  exact (zcx_2i (fun _ => (cx_f_Ps_invocation_170  H)) (fun _ => (zcx_2i (fun _ => (cx_f_Ps_invocation_170  H)) (fun _ => (zcx_2i (fun _ => (zcx_B2e (cx_f_Tr_add (zcx_kI (by decide +kernel)) H) (fun v5 h6 H_h6 => (zcx_b2e (cx_f_Ps_take H_h6) (fun h8 H_h8 => (zcx_b2e (cx_f_Ps_take H_h8) (fun h10 H_h10 => (zcx_B2e (cx_f_Ps_wholeExpression  H_h10) (fun v12 h13 H_h13 => (zcx_B2e (cx_f_Tr_hang  H_h13) (fun v15 h16 H_h16 => (zcx_B2e (cx_f_Tr_hang  H_h16) (fun v18 h19 H_h19 => (zcx_2i (fun _ => (cx_f_Ps_invocation_153 H_k62 H_h19)) (fun _ => (cx_f_Ps_invocation_153 H_k62 H_h19)))))))))))))))) (fun _ => zcx_2n))))))
theorem cx_f_Ps_invocation_L62 {E : zcx_T} {a : Int}   : ∀ (N : Nat) (h : zs_H) (x1 : Int32) (x2 : Int32) (x3 : Int32) (x4 : Int32), zcx_P E a h → zcx_2 E a (f_Ps_invocation_L62  N h x1 x2 x3 x4) := by
  intro N
  induction N with
  | zero => intro h x1 x2 x3 x4 _; exact zcx_2n
  | succ N ih =>
    intro h x1 x2 x3 x4 H
    exact cx_f_Ps_invocation_62  (fun b0 b1 b2 b3 b4 z => ih b0 b1 b2 b3 b4 z) H
theorem cx_f_Ps_invocation_L62' {E : zcx_T} {a : Int}   {N : Nat} {h : zs_H} {x1 : Int32} {x2 : Int32} {x3 : Int32} {x4 : Int32} (H : zcx_P E a h) : zcx_2 E a (f_Ps_invocation_L62  N h x1 x2 x3 x4) := cx_f_Ps_invocation_L62  N h x1 x2 x3 x4 H
theorem cx_f_Ps_invocation_58 {E : zcx_T} {a : Int} {h : zs_H} {x1 : Int32} {x2 : Int32} {y0 : Int32}  (H : zcx_P E a h) : zcx_2 E a (f_Ps_invocation_58 h x1 x2 y0) := by
  unfold f_Ps_invocation_58
  exact (cx_f_Ps_invocation_L62'  H)
theorem cx_f_Ps_invocation {E : zcx_T} {a : Int} {h : zs_H}  (H : zcx_P E a h) : zcx_2 E a (f_Ps_invocation h) := by
  unfold f_Ps_invocation
  exact (zcx_2i (fun _ => (zcx_B2e (cx_f_Tr_add (zcx_kI (by decide +kernel)) H) (fun v3 h4 H_h4 => (zcx_b2e (cx_f_Ps_take H_h4) (fun h6 H_h6 => (zcx_b2e (cx_f_Ps_deepen H_h6) (fun h8 H_h8 => (zcx_b2e (cx_f_Ps_take H_h8) (fun h10 H_h10 => (zcx_2i (fun _ => (cx_f_Ps_invocation_58  H_h10)) (fun _ => (cx_f_Ps_invocation_58  H_h10)))))))))))) (fun _ => zcx_2n))
theorem cx_f_Ps_assignment_92 {E : zcx_T} {a : Int} {h : zs_H} {x1 : Int32}  (H : zcx_P E a h) : zcx_2 E a (f_Ps_assignment_92 h x1) := by
  unfold f_Ps_assignment_92
  exact (zcx_B2e (cx_f_Tr_add (zcx_kI (by decide +kernel)) H) (fun v2 h3 H_h3 => (zcx_b2e (cx_f_Ps_take H_h3) (fun h5 H_h5 => (zcx_B2e (cx_f_Tr_hang  H_h5) (fun v7 h8 H_h8 => (zcx_B2e (cx_f_Ps_wholeExpression  H_h8) (fun v10 h11 H_h11 => (zcx_B2e (cx_f_Tr_hang  H_h11) (fun v13 h14 H_h14 => (zcx_2s H_h14)))))))))))
theorem cx_f_Ps_assignment {E : zcx_T} {a : Int} {h : zs_H}  (H : zcx_P E a h) : zcx_2 E a (f_Ps_assignment h) := by
  unfold f_Ps_assignment
  exact (zcx_2i (fun _ => (zcx_B2e (cx_f_Tr_add (zcx_kI (by decide +kernel)) H) (fun v3 h4 H_h4 => (zcx_b2e (cx_f_Ps_take H_h4) (fun h6 H_h6 => (zcx_2i (fun _ => (zcx_2i (fun _ => (zcx_b2e (cx_f_Ps_deepen (zcx_uK (by decide +kernel) H_h6)) (fun h10 H_h10 => (zcx_b2e (cx_f_Ps_take H_h10) (fun h12 H_h12 => (zcx_B2e (cx_f_Ps_wholeExpression  H_h12) (fun v14 h15 H_h15 => (zcx_B2e (cx_f_Tr_hang  H_h15) (fun v17 h18 H_h18 => (zcx_b2e (cx_f_Ps_take H_h18) (fun h20 H_h20 => (cx_f_Ps_assignment_92  (zcx_uF (by decide) H_h20))))))))))))) (fun _ => zcx_2n))) (fun _ => (cx_f_Ps_assignment_92  H_h6)))))))) (fun _ => zcx_2n))
theorem cx_f_Ps_caseStatement_152 {E : zcx_T} {a : Int} {h : zs_H} {x1 : Int32}  (H : zcx_P E a h) : zcx_2 E a (f_Ps_caseStatement_152 h x1) := by
  unfold f_Ps_caseStatement_152
  exact (zcx_b2e (cx_f_Ps_take H) (fun h2 H_h2 => (zcx_2s (zcx_uF (by decide) H_h2))))
theorem cx_f_Ps_ifStatement_125 {E : zcx_T} {a : Int} {h : zs_H} {x1 : Int32}  (H : zcx_P E a h) : zcx_2 E a (f_Ps_ifStatement_125 h x1) := by
  unfold f_Ps_ifStatement_125
  exact (zcx_b2e (cx_f_Ps_take H) (fun h2 H_h2 => (zcx_2s (zcx_uF (by decide) H_h2))))
theorem cx_f_Ps_statement_103 {E : zcx_T} {a : Int} {h : zs_H} {y0 : Int32}  (H : zcx_P E a h) : zcx_2 E a (f_Ps_statement_103 h y0) := by
  unfold f_Ps_statement_103
  exact (zcx_2i (fun _ => (zcx_B2e (cx_f_Ps_assignment  H) (fun v3 h4 H_h4 => (zcx_2s H_h4)))) (fun _ => (zcx_B2e (cx_f_Ps_invocation  H) (fun v6 h7 H_h7 => (zcx_2s H_h7)))))
theorem cx_f_Ps_statement_102 {E : zcx_T} {a : Int} {h : zs_H}  (H : zcx_P E a h) : zcx_2 E a (f_Ps_statement_102 h) := by
  unfold f_Ps_statement_102
  exact (cx_f_Ps_statement_103  H)
section ZXT
variable {E : zcx_T} {h : zs_H} {r rc rf ri : zs_H → Option (Int32 × zs_H)}
abbrev zcx_R (E : zcx_T) (r : zs_H → Option (Int32 × zs_H)) : Prop := ∀ h, zcx_P E 2 h → zcx_2 E 0 (r h)
abbrev zcx_S (E : zcx_T) (r : zs_H → Option (Int32 × zs_H)) : Prop := ∀ h, zcx_P E 0 h → zcx_2 E 0 (r h)
theorem zcx_K0 {x : Int32} (hx : (128 : Int32) ≤ x) (H : zcx_P E 0 h) : zcx_1 E 2 (f_Ps_take h x) := cx_takeK hx H
theorem cx_case121 {x1 x2 : Int32} (Hr : zcx_R E r) (H : zcx_P E 0 h) : zcx_2 E 0 (f_Ps_caseStatement_121 r h x1 x2) := by
  unfold f_Ps_caseStatement_121
  refine zcx_2i (fun _ => ?_) (fun _ => cx_f_Ps_caseStatement_152 H)
  refine zcx_b2 (zcx_K0 (by decide) H) ?_
  intro h3 H3
  refine zcx_B2 (Hr _ H3) ?_
  intro v5 h6 H6
  refine zcx_B2 (cx_f_Tr_hang H6) ?_
  intro v8 h9 H9
  exact cx_f_Ps_caseStatement_152 H9
theorem cx_case49 (Hr : zcx_R E r) : ∀ (N : Nat) (h : zs_H) (x1 x2 x3 : Int32), zcx_P E 0 h → zcx_2 E 0 (f_Ps_caseStatement_L49 r N h x1 x2 x3) := by
  intro N
  induction N with
  | zero => intro h x1 x2 x3 _; exact zcx_2n
  | succ N ih =>
    intro h x1 x2 x3 H
    show zcx_2 E 0 (f_Ps_caseStatement_49 r (f_Ps_caseStatement_L49 r N) h x1 x2 x3)
    unfold f_Ps_caseStatement_49
    refine zcx_2i (fun _ => cx_case121 Hr H) (fun _ => zcx_2i (fun _ => cx_case121 Hr H) (fun _ => ?_))
    refine zcx_B2 (cx_f_Tr_add (zcx_kI (by decide +kernel)) H) ?_
    intro v5 h6 H6
    refine zcx_B2 (cx_f_Tr_hang H6) ?_
    intro v8 h9 H9
    refine zcx_B2 (cx_ranges H9) ?_
    intro v11 h12 H12
    refine zcx_B2 (Hr _ H12) ?_
    intro v14 h15 H15
    refine zcx_B2 (cx_f_Tr_hang H15) ?_
    intro v17 h18 H18
    exact ih _ _ _ _ H18
theorem cx_case (Hr : zcx_R E r) (H : zcx_P E 0 h) : zcx_2 E 0 (g_Ps_caseStatement r h) := by
  unfold g_Ps_caseStatement
  refine zcx_B2 (cx_f_Tr_add (zcx_kI (by decide +kernel)) H) ?_
  intro v2 h3 H3
  refine zcx_b2 (cx_f_Ps_deepen H3) ?_
  intro h5 H5
  refine zcx_b2 (cx_f_Ps_take H5) ?_
  intro h7 H7
  refine zcx_B2 (cx_f_Ps_wholeExpression H7) ?_
  intro v9 h10 H10
  refine zcx_B2 (cx_f_Tr_hang H10) ?_
  intro v12 h13 H13
  refine zcx_b2 (cx_f_Ps_take H13) ?_
  intro h15 H15
  exact cx_case49 Hr _ _ _ _ _ H15
theorem cx_for124 {x1 x2 : Int32} (Hr : zcx_R E r) (H : zcx_P E 0 h) : zcx_2 E 0 (f_Ps_forStatement_124 r h x1 x2) := by
  unfold f_Ps_forStatement_124
  refine zcx_b2 (zcx_K0 (by decide) H) ?_
  intro h3 H3
  refine zcx_B2 (Hr _ H3) ?_
  intro v5 h6 H6
  refine zcx_B2 (cx_f_Tr_hang H6) ?_
  intro v8 h9 H9
  refine zcx_b2 (cx_f_Ps_take H9) ?_
  intro h10 H10
  exact zcx_2s (zcx_uF (by decide) H10)
theorem cx_for (Hr : zcx_R E r) (H : zcx_P E 0 h) : zcx_2 E 0 (g_Ps_forStatement r h) := by
  unfold g_Ps_forStatement
  refine zcx_B2 (cx_f_Tr_add (zcx_kI (by decide +kernel)) H) ?_
  intro v2 h3 H3
  refine zcx_b2 (cx_f_Ps_deepen H3) ?_
  intro h5 H5
  refine zcx_b2 (cx_f_Ps_take H5) ?_
  intro h7 H7
  refine zcx_2i (fun _ => zcx_2i (fun _ => ?_) (fun _ => zcx_2n)) (fun _ => zcx_2n)
  refine zcx_b2 (cx_f_Ps_take (zcx_uM (by decide) H7)) ?_
  intro h11 H11
  refine zcx_b2 (cx_f_Ps_take H11) ?_
  intro h13 H13
  refine zcx_B2 (cx_f_Ps_constant H13) ?_
  intro v15 h16 H16
  refine zcx_B2 (cx_f_Tr_hang H16) ?_
  intro v18 h19 H19
  refine zcx_b2 (cx_f_Ps_take H19) ?_
  intro h21 H21
  refine zcx_B2 (cx_f_Ps_constant H21) ?_
  intro v23 h24 H24
  refine zcx_B2 (cx_f_Tr_hang H24) ?_
  intro v26 h27 H27
  refine zcx_2i (fun _ => ?_) (fun _ => cx_for124 Hr H27)
  refine zcx_b2 (cx_f_Ps_take H27) ?_
  intro h30 H30
  refine zcx_B2 (cx_f_Ps_constant H30) ?_
  intro v32 h33 H33
  refine zcx_B2 (cx_f_Tr_hang H33) ?_
  intro v35 h36 H36
  exact cx_for124 Hr H36
theorem cx_if94 {x1 x2 : Int32} (Hr : zcx_R E r) (H : zcx_P E 0 h) : zcx_2 E 0 (f_Ps_ifStatement_94 r h x1 x2) := by
  unfold f_Ps_ifStatement_94
  refine zcx_2i (fun _ => ?_) (fun _ => cx_f_Ps_ifStatement_125 H)
  refine zcx_b2 (zcx_K0 (by decide) H) ?_
  intro h3 H3
  refine zcx_B2 (Hr _ H3) ?_
  intro v5 h6 H6
  refine zcx_B2 (cx_f_Tr_hang H6) ?_
  intro v8 h9 H9
  exact cx_f_Ps_ifStatement_125 H9
theorem cx_if28 (Hr : zcx_R E r) : ∀ (N : Nat) (h : zs_H) (x1 x2 x3 x4 : Int32), zcx_P E 0 h → zcx_2 E 0 (f_Ps_ifStatement_L28 r N h x1 x2 x3 x4) := by
  intro N
  induction N with
  | zero => intro h x1 x2 x3 x4 _; exact zcx_2n
  | succ N ih =>
    intro h x1 x2 x3 x4 H
    show zcx_2 E 0 (f_Ps_ifStatement_28 r (f_Ps_ifStatement_L28 r N) h x1 x2 x3 x4)
    unfold f_Ps_ifStatement_28
    refine zcx_2i (fun _ => cx_if94 Hr H) (fun _ => zcx_2i (fun _ => ?_) (fun _ => cx_if94 Hr H))
    refine zcx_b2 (cx_f_Ps_take H) ?_
    intro h4 H4
    refine zcx_B2 (cx_f_Ps_wholeExpression H4) ?_
    intro v6 h7 H7
    refine zcx_B2 (cx_f_Tr_hang H7) ?_
    intro v9 h10 H10
    refine zcx_b2 (zcx_K0 (by decide) H10) ?_
    intro h12 H12
    refine zcx_B2 (Hr _ H12) ?_
    intro v14 h15 H15
    refine zcx_B2 (cx_f_Tr_hang H15) ?_
    intro v17 h18 H18
    exact ih _ _ _ _ _ H18
theorem cx_if (Hr : zcx_R E r) (H : zcx_P E 0 h) : zcx_2 E 0 (g_Ps_ifStatement r h) := by
  unfold g_Ps_ifStatement
  refine zcx_B2 (cx_f_Tr_add (zcx_kI (by decide +kernel)) H) ?_
  intro v2 h3 H3
  refine zcx_b2 (cx_f_Ps_deepen H3) ?_
  intro h5 H5
  exact cx_if28 Hr _ _ _ _ _ _ H5
theorem cx_statement (Hc : zcx_S E rc) (Hf : zcx_S E rf) (Hi : zcx_S E ri) (H : zcx_P E 0 h) : zcx_2 E 0 (g_Ps_statement rc rf ri h) := by
  unfold g_Ps_statement
  have w : ∀ (r : zs_H → Option (Int32 × zs_H)), zcx_S E r → zcx_2 E 0 (zd_B (r h) fun v7 h8 => (some (v7, h8))) := fun r Hr => by
    refine zcx_B2 (Hr _ H) ?_
    intro v h' H'
    exact zcx_2s H'
  refine zcx_2i (fun _ => zcx_2i (fun _ => cx_f_Ps_statement_102 H) (fun _ => zcx_2i (fun _ => zcx_2i (fun _ => cx_f_Ps_statement_103 H) (fun _ => cx_f_Ps_statement_102 H)) (fun _ => zcx_2n))) (fun _ => zcx_2i (fun _ => w _ Hi) (fun _ => zcx_2i (fun _ => w _ Hc) (fun _ => zcx_2i (fun _ => w _ Hf) (fun _ => zcx_2i (fun c => ?_) (fun _ => ?_)))))
  · unfold f_Ps_statement_141
    have A : zcx_2 E (-4) (f_Tr_add h 20 (h.1 19 6) 0) := zcx_add H (by rw [if_neg (by decide +kernel), if_pos (by decide +kernel)]; decide)
    intro x h' e
    cases q : f_Tr_add h 20 (h.1 19 6) 0 with
    | none => rw [q] at e; cases e
    | some p =>
      have t5 : p.2.1 19 5 = 156 := by
        unfold f_Tr_add at q
        split at q
        · cases q; exact c
        · cases q
      rw [q] at e
      have B := A p.1 p.2 q
      have e' : ((f_Ps_take p.2 (p.2.1 19 5)).bind fun h5 => some (p.1, h5)) = some (x, h') := e
      rw [t5] at e'
      exact zcx_b2 (cx_takeX B) (fun h5 H5 => zcx_2s (zcx_le H5 (by decide))) x h' e'
  · unfold f_Ps_statement_141
    refine zcx_B2 (cx_f_Tr_add (zcx_kI (by decide +kernel)) H) ?_
    intro v2 h3 H3
    refine zcx_b2 (cx_f_Ps_take H3) ?_
    intro h5 H5
    exact zcx_2s H5
theorem cx_statements (Hs : zcx_S E r) (H : zcx_P E 2 h) : zcx_2 E 0 (g_Ps_statements r h) := by
  have L : ∀ (N : Nat) (h : zs_H) (x1 x2 x3 : Int32), zcx_P E 0 h → zcx_2 E 0 (f_Ps_statements_L19 r N h x1 x2 x3) := by
    intro N
    induction N with
    | zero => intro h x1 x2 x3 _; exact zcx_2n
    | succ N ih =>
      intro h x1 x2 x3 H
      show zcx_2 E 0 (f_Ps_statements_19 r (f_Ps_statements_L19 r N) h x1 x2 x3)
      unfold f_Ps_statements_19
      have f56 : ∀ (h : zs_H) (x1 x2 x3 : Int32), zcx_P E 0 h → zcx_2 E 0 (f_Ps_statements_56 r (f_Ps_statements_L19 r N) h x1 x2 x3) := fun h x1 x2 x3 H => by
        unfold f_Ps_statements_56
        refine zcx_b2 (cx_f_Ps_take H) ?_
        intro h2 H2
        exact ih _ _ _ _ H2
      refine zcx_2i (fun _ => zcx_2s H) (fun _ => zcx_2i (fun _ => zcx_2s H) (fun _ => zcx_2i (fun _ => f56 _ _ _ _ H) (fun _ => ?_)))
      refine zcx_B2 (Hs _ H) ?_
      intro v6 h7 H7
      refine zcx_B2 (cx_f_Tr_hang H7) ?_
      intro v9 h10 H10
      exact f56 _ _ _ _ H10
  unfold g_Ps_statements
  have A : zcx_2 E 0 (f_Tr_add h 11 (h.1 19 6) 0) := zcx_add H (by rw [if_pos (by decide +kernel), if_neg (by decide +kernel)]; decide)
  refine zcx_B2 A ?_
  intro v2 h3 H3
  exact L _ _ _ _ _ H3
theorem cx_rec2 : ∀ d, zcx_S E (f_Ps_caseStatement d) ∧ zcx_S E (f_Ps_forStatement d) ∧ zcx_S E (f_Ps_ifStatement d) ∧ zcx_S E (f_Ps_statement d) ∧ zcx_R E (f_Ps_statements d) := by
  intro d
  induction d with
  | zero => exact ⟨fun _ _ => zcx_2n, fun _ _ => zcx_2n, fun _ _ => zcx_2n, fun _ _ => zcx_2n, fun _ _ => zcx_2n⟩
  | succ d ih =>
    obtain ⟨a, b, c, e, f⟩ := ih
    rw [zy_ps, zy_pt, zy_pi, zy_pc, zy_pf]
    exact ⟨fun h H => cx_case f H, fun h H => cx_for f H, fun h H => cx_if f H, fun h H => cx_statement a b c H, fun h H => cx_statements e H⟩
end ZXT
