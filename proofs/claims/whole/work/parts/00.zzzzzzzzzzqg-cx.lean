/-! CX: the class's reader, part 6. -/
theorem cx_g_Ps_operand {E : zcx_T} {a : Int} {r_Ps_expression : zs_H → Int32 → (Option (Int32 × zs_H))} {r_Ps_namedOperand : zs_H → (Option (Int32 × zs_H))} {r_Ps_operand : zs_H → (Option (Int32 × zs_H))} {h : zs_H} (H_r_Ps_expression : ∀ z0 z1, zcx_P E a z0 → zcx_2 E a (r_Ps_expression z0 z1)) (H_r_Ps_namedOperand : ∀ z0, zcx_P E a z0 → zcx_2 E a (r_Ps_namedOperand z0)) (H_r_Ps_operand : ∀ z0, zcx_P E a z0 → zcx_2 E a (r_Ps_operand z0)) (H : zcx_P E a h) : zcx_2 E a (g_Ps_operand r_Ps_expression r_Ps_namedOperand r_Ps_operand h) := by
  unfold g_Ps_operand
  repeat' first
    | with_reducible assumption
    | (with_reducible refine zcx_uF ?_ ?_; · decide)
    | with_reducible exact zcx_2n
    | with_reducible refine zcx_2s ?_
    | with_reducible refine zcx_2i ?_ ?_
    | with_reducible refine cx_f_Ps_deepen  ?_
    | with_reducible refine zcx_b2e (cx_f_Ps_deepen  ?_) ?_
    | with_reducible refine cx_f_Ps_take  ?_
    | with_reducible refine zcx_b2e (cx_f_Ps_take  ?_) ?_
    | with_reducible refine cx_f_Ps_operand_88 ?_ ?_ ?_
    | with_reducible refine zcx_B2e (cx_f_Ps_operand_88 ?_ ?_ ?_) ?_
    | with_reducible refine cx_f_Ps_operand_189 ?_ ?_
    | with_reducible refine zcx_B2e (cx_f_Ps_operand_189 ?_ ?_) ?_
    | with_reducible refine cx_f_Tr_add ?_ ?_
    | with_reducible refine zcx_B2e (cx_f_Tr_add ?_ ?_) ?_
    | with_reducible exact H_r_Ps_expression
    | with_reducible refine H_r_Ps_expression _ _ ?_
    | with_reducible refine zcx_B2e (H_r_Ps_expression _ _ ?_) ?_
    | with_reducible exact H_r_Ps_namedOperand
    | with_reducible refine H_r_Ps_namedOperand _ ?_
    | with_reducible refine zcx_B2e (H_r_Ps_namedOperand _ ?_) ?_
    | with_reducible exact H_r_Ps_operand
    | with_reducible refine H_r_Ps_operand _ ?_
    | with_reducible refine zcx_B2e (H_r_Ps_operand _ ?_) ?_
    | intro _
    | decide +kernel
theorem cx_rec1 {E : zcx_T} {a : Int} : ∀ d, (∀ h x, zcx_P E a h → zcx_2 E a (f_Ps_expression d h x)) ∧ (∀ h, zcx_P E a h → zcx_2 E a (f_Ps_namedOperand d h)) ∧ (∀ h, zcx_P E a h → zcx_2 E a (f_Ps_operand d h)) := by
  intro d
  induction d with
  | zero => exact ⟨fun _ _ _ => zcx_2n, fun _ _ => zcx_2n, fun _ _ => zcx_2n⟩
  | succ d ih =>
    obtain ⟨p, q, r⟩ := ih
    rw [zy_e, zy_n, zy_o]
    exact ⟨fun h x H => cx_g_Ps_expression p r H, fun h H => cx_g_Ps_namedOperand p H, fun h H => cx_g_Ps_operand p q r H⟩
theorem cx_f_Ps_expression {E : zcx_T} {a : Int} {d : Nat} {h : zs_H} {x : Int32} (H : zcx_P E a h) : zcx_2 E a (f_Ps_expression d h x) := (cx_rec1 d).1 h x H
theorem cx_f_Ps_wholeExpression {E : zcx_T} {a : Int} {h : zs_H}  (H : zcx_P E a h) : zcx_2 E a (f_Ps_wholeExpression h) := by
  unfold f_Ps_wholeExpression
  repeat' first
    | with_reducible assumption
    | (with_reducible refine zcx_uF ?_ ?_; · decide)
    | with_reducible exact zcx_2n
    | with_reducible refine zcx_2s ?_
    | with_reducible refine zcx_2i ?_ ?_
    | with_reducible refine cx_f_Ps_expression  ?_
    | with_reducible refine zcx_B2e (cx_f_Ps_expression  ?_) ?_
    | intro _
theorem cx_ranges_L7 {E : zcx_T} : ∀ (N i : Nat) (h : zs_H) (x1 x2 x3 : Int32), (x3 = 0 → zcx_P E 2 h) → (¬ x3 = 0 → zcx_P E (2 * (i : Int)) h) → i ≤ 16384 → zcx_2 E 2 (f_Ps_ranges_L7 N h x1 x2 x3 (nI i)) := by
  intro N
  induction N with
  | zero => intro i h x1 x2 x3 _ _ _; exact zcx_2n
  | succ N ih =>
    intro i h x1 x2 x3 h0 h1 hi
    show zcx_2 E 2 (f_Ps_ranges_7 (f_Ps_ranges_L7 N) h x1 x2 x3 (nI i))
    unfold f_Ps_ranges_7
    refine zcx_2i (fun c => ?_) (fun c => ?_)
    · have hi : 16384 ≤ i := (zc_le (k := 16384) (by decide) (by omega)).mp c
      refine zcx_2s ?_
      by_cases z : x3 = 0
      · exact h0 z
      · exact zcx_big (h1 z) (by omega)
    · have hi : i < 16384 := by
        have := mt (zc_le (k := 16384) (t := i) (by decide) (by omega)).mpr c
        omega
      refine zcx_2i (fun z => zcx_2s (h0 z)) (fun z => ?_)
      have fin : ∀ (h : zs_H) (x1 x2 v : Int32), zcx_P E (2 * (i : Int) + 1) h → zcx_2 E 2 (f_Ps_ranges_80 (f_Ps_ranges_L7 N) h x1 x2 (nI i) v) := by
        intro h x1 x2 v H
        unfold f_Ps_ranges_80 f_Ps_ranges_106 f_Ps_ranges_119
        refine zcx_B2 (cx_f_Tr_hang H) ?_
        intro v2 h3 H3
        have go : ∀ y x3 : Int32, zcx_2 E 2 ((f_Ps_take h3 y).bind fun h2 => f_Ps_ranges_L7 N h2 x1 v2 x3 (nI i + 1)) := fun y x3 => by
          refine zcx_b2 (cx_take1 H3) ?_
          intro h2 H2
          rw [nI_1]
          exact ih (i + 1) h2 _ _ _ (fun _ => zcx_le H2 (by omega)) (fun _ => zcx_le H2 (by omega)) (by omega)
        exact zcx_2i (fun _ => zcx_2i (fun _ => go _ _) (fun _ => go _ _)) (fun _ => zcx_2i (fun _ => go _ _) (fun _ => go _ _))
      refine zcx_B2 (cx_f_Tr_add (by decide +kernel) (h1 z)) ?_
      intro v4 h5 H5
      refine zcx_B2 (cxp_constant H5) ?_
      intro v7 h8 H8
      refine zcx_B2 (cx_f_Tr_hang H8) ?_
      intro v10 h11 H11
      refine zcx_2i (fun _ => ?_) (fun _ => fin _ _ _ _ H11)
      refine zcx_b2 (cx_f_Ps_take H11) ?_
      intro h14 H14
      refine zcx_B2 (cx_f_Ps_constant H14) ?_
      intro v16 h17 H17
      refine zcx_B2 (cx_f_Tr_hang H17) ?_
      intro v19 h20 H20
      exact fin _ _ _ _ H20
theorem cx_ranges {E : zcx_T} {h : zs_H} {x1 : Int32} (H : zcx_P E 0 h) : zcx_2 E 2 (f_Ps_ranges h x1) := by
  unfold f_Ps_ranges
  exact cx_ranges_L7 zF 0 h x1 (-1) 1 (fun z => absurd z (by decide)) (fun _ => zcx_le H (by omega)) (by decide)
theorem cx_f_Ps_invocation_164 {E : zcx_T} {a : Int} {k62 : zs_H → Int32 → Int32 → Int32 → Int32 → (Option (Int32 × zs_H))} {h : zs_H} {x1 : Int32} {x2 : Int32} {x3 : Int32} {x4 : Int32} (H_k62 : ∀ z0 z1 z2 z3 z4, zcx_P E a z0 → zcx_2 E a (k62 z0 z1 z2 z3 z4)) (H : zcx_P E a h) : zcx_2 E a (f_Ps_invocation_164 k62 h x1 x2 x3 x4) := by
  unfold f_Ps_invocation_164
  repeat' first
    | with_reducible assumption
    | with_reducible exact zcx_2n
    | with_reducible refine zcx_2s ?_
    | with_reducible refine zcx_2i ?_ ?_
    | with_reducible exact H_k62
    | with_reducible refine H_k62 _ _ _ _ _ ?_
    | with_reducible refine zcx_B2e (H_k62 _ _ _ _ _ ?_) ?_
    | intro _
theorem cx_f_Ps_invocation_153 {E : zcx_T} {a : Int} {k62 : zs_H → Int32 → Int32 → Int32 → Int32 → (Option (Int32 × zs_H))} {h : zs_H} {x1 : Int32} {x2 : Int32} {x4 : Int32} {y0 : Int32} (H_k62 : ∀ z0 z1 z2 z3 z4, zcx_P E a z0 → zcx_2 E a (k62 z0 z1 z2 z3 z4)) (H : zcx_P E a h) : zcx_2 E a (f_Ps_invocation_153 k62 h x1 x2 x4 y0) := by
  unfold f_Ps_invocation_153
  repeat' first
    | with_reducible assumption
    | with_reducible exact zcx_2n
    | with_reducible refine zcx_2s ?_
    | with_reducible refine zcx_2i ?_ ?_
    | with_reducible refine cx_f_Ps_invocation_164 ?_ ?_
    | with_reducible refine zcx_B2e (cx_f_Ps_invocation_164 ?_ ?_) ?_
    | with_reducible refine cx_f_Ps_take  ?_
    | with_reducible refine zcx_b2e (cx_f_Ps_take  ?_) ?_
    | with_reducible exact H_k62
    | with_reducible refine H_k62 _ _ _ _ _ ?_
    | with_reducible refine zcx_B2e (H_k62 _ _ _ _ _ ?_) ?_
    | intro _
theorem cx_f_Ps_invocation_170 {E : zcx_T} {a : Int} {h : zs_H} {x1 : Int32}  (H : zcx_P E a h) : zcx_2 E a (f_Ps_invocation_170 h x1) := by
  unfold f_Ps_invocation_170
  repeat' first
    | with_reducible assumption
    | (with_reducible refine zcx_uF ?_ ?_; · decide)
    | with_reducible exact zcx_2n
    | with_reducible refine zcx_2s ?_
    | with_reducible refine zcx_2i ?_ ?_
    | with_reducible refine cx_f_Ps_take  ?_
    | with_reducible refine zcx_b2e (cx_f_Ps_take  ?_) ?_
    | intro _
theorem cx_f_Ps_invocation_62 {E : zcx_T} {a : Int} {k62 : zs_H → Int32 → Int32 → Int32 → Int32 → (Option (Int32 × zs_H))} {h : zs_H} {x1 : Int32} {x2 : Int32} {x3 : Int32} {x4 : Int32} (H_k62 : ∀ z0 z1 z2 z3 z4, zcx_P E a z0 → zcx_2 E a (k62 z0 z1 z2 z3 z4)) (H : zcx_P E a h) : zcx_2 E a (f_Ps_invocation_62 k62 h x1 x2 x3 x4) := by
  unfold f_Ps_invocation_62
  repeat' first
    | with_reducible assumption
    | with_reducible exact zcx_2n
    | with_reducible refine zcx_2s ?_
    | with_reducible refine zcx_2i ?_ ?_
    | with_reducible refine cx_f_Ps_invocation_170  ?_
    | with_reducible refine zcx_B2e (cx_f_Ps_invocation_170  ?_) ?_
    | with_reducible refine cx_f_Tr_add ?_ ?_
    | with_reducible refine zcx_B2e (cx_f_Tr_add ?_ ?_) ?_
    | with_reducible refine cx_f_Ps_take  ?_
    | with_reducible refine zcx_b2e (cx_f_Ps_take  ?_) ?_
    | with_reducible refine cx_f_Ps_wholeExpression  ?_
    | with_reducible refine zcx_B2e (cx_f_Ps_wholeExpression  ?_) ?_
    | with_reducible refine cx_f_Tr_hang  ?_
    | with_reducible refine zcx_B2e (cx_f_Tr_hang  ?_) ?_
    | with_reducible refine cx_f_Ps_invocation_153 ?_ ?_
    | with_reducible refine zcx_B2e (cx_f_Ps_invocation_153 ?_ ?_) ?_
    | with_reducible exact H_k62
    | with_reducible refine H_k62 _ _ _ _ _ ?_
    | with_reducible refine zcx_B2e (H_k62 _ _ _ _ _ ?_) ?_
    | intro _
    | decide +kernel
theorem cx_f_Ps_invocation_L62 {E : zcx_T} {a : Int}   : ∀ (N : Nat) (h : zs_H) (x1 : Int32) (x2 : Int32) (x3 : Int32) (x4 : Int32), zcx_P E a h → zcx_2 E a (f_Ps_invocation_L62  N h x1 x2 x3 x4) := by
  intro N
  induction N with
  | zero => intro h x1 x2 x3 x4 _; exact zcx_2n
  | succ N ih =>
    intro h x1 x2 x3 x4 H
    exact cx_f_Ps_invocation_62  (fun b0 b1 b2 b3 b4 z => ih b0 b1 b2 b3 b4 z) H
