/-! CX: the class's reader, part 5. -/
theorem cx_f_Ps_namedOperand_268 {E : zcx_T} {a : Int} {r_Ps_expression : zs_H → Int32 → (Option (Int32 × zs_H))} {k216 : zs_H → Int32 → Int32 → Int32 → Int32 → (Option (Int32 × zs_H))} {h : zs_H} {x1 : Int32} {x2 : Int32} {x3 : Int32} {x4 : Int32} (H_r_Ps_expression : ∀ z0 z1, zcx_P E a z0 → zcx_2 E a (r_Ps_expression z0 z1)) (H_k216 : ∀ z0 z1 z2 z3 z4, zcx_P E a z0 → zcx_2 E a (k216 z0 z1 z2 z3 z4)) (H : zcx_P E a h) : zcx_2 E a (f_Ps_namedOperand_268 r_Ps_expression k216 h x1 x2 x3 x4) := by
  unfold f_Ps_namedOperand_268
  repeat' first
    | with_reducible assumption
    | with_reducible exact zcx_2n
    | with_reducible refine zcx_2s ?_
    | with_reducible refine zcx_2i ?_ ?_
    | with_reducible exact H_r_Ps_expression
    | with_reducible refine H_r_Ps_expression _ _ ?_
    | with_reducible refine zcx_B2e (H_r_Ps_expression _ _ ?_) ?_
    | with_reducible exact H_k216
    | with_reducible refine H_k216 _ _ _ _ _ ?_
    | with_reducible refine zcx_B2e (H_k216 _ _ _ _ _ ?_) ?_
    | intro _
theorem cx_f_Ps_namedOperand_257 {E : zcx_T} {a : Int} {r_Ps_expression : zs_H → Int32 → (Option (Int32 × zs_H))} {k216 : zs_H → Int32 → Int32 → Int32 → Int32 → (Option (Int32 × zs_H))} {h : zs_H} {x1 : Int32} {x2 : Int32} {x4 : Int32} {y0 : Int32} (H_r_Ps_expression : ∀ z0 z1, zcx_P E a z0 → zcx_2 E a (r_Ps_expression z0 z1)) (H_k216 : ∀ z0 z1 z2 z3 z4, zcx_P E a z0 → zcx_2 E a (k216 z0 z1 z2 z3 z4)) (H : zcx_P E a h) : zcx_2 E a (f_Ps_namedOperand_257 r_Ps_expression k216 h x1 x2 x4 y0) := by
  unfold f_Ps_namedOperand_257
  repeat' first
    | with_reducible assumption
    | with_reducible exact zcx_2n
    | with_reducible refine zcx_2s ?_
    | with_reducible refine zcx_2i ?_ ?_
    | with_reducible refine cx_f_Ps_namedOperand_268 ?_ ?_ ?_
    | with_reducible refine zcx_B2e (cx_f_Ps_namedOperand_268 ?_ ?_ ?_) ?_
    | with_reducible refine cx_f_Ps_take  ?_
    | with_reducible refine zcx_b2e (cx_f_Ps_take  ?_) ?_
    | with_reducible exact H_r_Ps_expression
    | with_reducible refine H_r_Ps_expression _ _ ?_
    | with_reducible refine zcx_B2e (H_r_Ps_expression _ _ ?_) ?_
    | with_reducible exact H_k216
    | with_reducible refine H_k216 _ _ _ _ _ ?_
    | with_reducible refine zcx_B2e (H_k216 _ _ _ _ _ ?_) ?_
    | intro _
theorem cx_f_Ps_namedOperand_274 {E : zcx_T} {a : Int} {h : zs_H} {x1 : Int32}  (H : zcx_P E a h) : zcx_2 E a (f_Ps_namedOperand_274 h x1) := by
  unfold f_Ps_namedOperand_274
  repeat' first
    | with_reducible assumption
    | (with_reducible refine zcx_uF ?_ ?_; · decide)
    | with_reducible exact zcx_2n
    | with_reducible refine zcx_2s ?_
    | with_reducible refine zcx_2i ?_ ?_
    | with_reducible refine cx_f_Ps_take  ?_
    | with_reducible refine zcx_b2e (cx_f_Ps_take  ?_) ?_
    | intro _
theorem cx_f_Ps_namedOperand_216 {E : zcx_T} {a : Int} {r_Ps_expression : zs_H → Int32 → (Option (Int32 × zs_H))} {k216 : zs_H → Int32 → Int32 → Int32 → Int32 → (Option (Int32 × zs_H))} {h : zs_H} {x1 : Int32} {x2 : Int32} {x3 : Int32} {x4 : Int32} (H_r_Ps_expression : ∀ z0 z1, zcx_P E a z0 → zcx_2 E a (r_Ps_expression z0 z1)) (H_k216 : ∀ z0 z1 z2 z3 z4, zcx_P E a z0 → zcx_2 E a (k216 z0 z1 z2 z3 z4)) (H : zcx_P E a h) : zcx_2 E a (f_Ps_namedOperand_216 r_Ps_expression k216 h x1 x2 x3 x4) := by
  unfold f_Ps_namedOperand_216
  repeat' first
    | with_reducible assumption
    | with_reducible exact zcx_2n
    | with_reducible refine zcx_2s ?_
    | with_reducible refine zcx_2i ?_ ?_
    | with_reducible refine cx_f_Ps_namedOperand_274  ?_
    | with_reducible refine zcx_B2e (cx_f_Ps_namedOperand_274  ?_) ?_
    | with_reducible refine cx_f_Tr_hang  ?_
    | with_reducible refine zcx_B2e (cx_f_Tr_hang  ?_) ?_
    | with_reducible refine cx_f_Ps_namedOperand_257 ?_ ?_ ?_
    | with_reducible refine zcx_B2e (cx_f_Ps_namedOperand_257 ?_ ?_ ?_) ?_
    | with_reducible exact H_r_Ps_expression
    | with_reducible refine H_r_Ps_expression _ _ ?_
    | with_reducible refine zcx_B2e (H_r_Ps_expression _ _ ?_) ?_
    | with_reducible exact H_k216
    | with_reducible refine H_k216 _ _ _ _ _ ?_
    | with_reducible refine zcx_B2e (H_k216 _ _ _ _ _ ?_) ?_
    | intro _
theorem cx_f_Ps_namedOperand_L216 {E : zcx_T} {a : Int} {r_Ps_expression : zs_H → Int32 → (Option (Int32 × zs_H))} (H_r_Ps_expression : ∀ z0 z1, zcx_P E a z0 → zcx_2 E a (r_Ps_expression z0 z1)) : ∀ (N : Nat) (h : zs_H) (x1 : Int32) (x2 : Int32) (x3 : Int32) (x4 : Int32), zcx_P E a h → zcx_2 E a (f_Ps_namedOperand_L216 r_Ps_expression N h x1 x2 x3 x4) := by
  intro N
  induction N with
  | zero => intro h x1 x2 x3 x4 _; exact zcx_2n
  | succ N ih =>
    intro h x1 x2 x3 x4 H
    exact cx_f_Ps_namedOperand_216 H_r_Ps_expression (fun b0 b1 b2 b3 b4 z => ih b0 b1 b2 b3 b4 z) H
theorem cx_f_Ps_namedOperand_L216' {E : zcx_T} {a : Int} {r_Ps_expression : zs_H → Int32 → (Option (Int32 × zs_H))} (H_r_Ps_expression : ∀ z0 z1, zcx_P E a z0 → zcx_2 E a (r_Ps_expression z0 z1)) {N : Nat} {h : zs_H} {x1 : Int32} {x2 : Int32} {x3 : Int32} {x4 : Int32} (H : zcx_P E a h) : zcx_2 E a (f_Ps_namedOperand_L216 r_Ps_expression N h x1 x2 x3 x4) := cx_f_Ps_namedOperand_L216 H_r_Ps_expression N h x1 x2 x3 x4 H
theorem cx_f_Ps_namedOperand_212 {E : zcx_T} {a : Int} {r_Ps_expression : zs_H → Int32 → (Option (Int32 × zs_H))} {h : zs_H} {x1 : Int32} {x2 : Int32} {y0 : Int32} (H_r_Ps_expression : ∀ z0 z1, zcx_P E a z0 → zcx_2 E a (r_Ps_expression z0 z1)) (H : zcx_P E a h) : zcx_2 E a (f_Ps_namedOperand_212 r_Ps_expression h x1 x2 y0) := by
  unfold f_Ps_namedOperand_212
  repeat' first
    | with_reducible assumption
    | with_reducible exact zcx_2n
    | with_reducible refine zcx_2s ?_
    | with_reducible refine zcx_2i ?_ ?_
    | with_reducible refine cx_f_Ps_namedOperand_L216' ?_ ?_
    | with_reducible refine zcx_B2e (cx_f_Ps_namedOperand_L216' ?_ ?_) ?_
    | with_reducible exact H_r_Ps_expression
    | with_reducible refine H_r_Ps_expression _ _ ?_
    | with_reducible refine zcx_B2e (H_r_Ps_expression _ _ ?_) ?_
    | intro _
theorem cx_g_Ps_namedOperand {E : zcx_T} {a : Int} {r_Ps_expression : zs_H → Int32 → (Option (Int32 × zs_H))} {h : zs_H} (H_r_Ps_expression : ∀ z0 z1, zcx_P E a z0 → zcx_2 E a (r_Ps_expression z0 z1)) (H : zcx_P E a h) : zcx_2 E a (g_Ps_namedOperand r_Ps_expression h) := by
  unfold g_Ps_namedOperand
  repeat' first
    | with_reducible assumption
    | (with_reducible refine zcx_uF ?_ ?_; · decide)
    | (with_reducible refine zcx_uM ?_ ?_; · decide)
    | (with_reducible refine zcx_uK ?_ ?_; · decide +kernel)
    | with_reducible exact zcx_2n
    | with_reducible refine zcx_2s ?_
    | with_reducible refine zcx_2i ?_ ?_
    | with_reducible refine cx_f_Tr_add ?_ ?_
    | with_reducible refine zcx_B2e (cx_f_Tr_add ?_ ?_) ?_
    | with_reducible refine cx_f_Ps_take  ?_
    | with_reducible refine zcx_b2e (cx_f_Ps_take  ?_) ?_
    | with_reducible refine cx_f_Tr_hang  ?_
    | with_reducible refine zcx_B2e (cx_f_Tr_hang  ?_) ?_
    | with_reducible refine cx_f_Ps_deepen  ?_
    | with_reducible refine zcx_b2e (cx_f_Ps_deepen  ?_) ?_
    | with_reducible refine cx_f_Ps_namedOperand_212 ?_ ?_
    | with_reducible refine zcx_B2e (cx_f_Ps_namedOperand_212 ?_ ?_) ?_
    | with_reducible exact H_r_Ps_expression
    | with_reducible refine H_r_Ps_expression _ _ ?_
    | with_reducible refine zcx_B2e (H_r_Ps_expression _ _ ?_) ?_
    | intro _
    | decide +kernel
theorem cx_f_Ps_operand_189 {E : zcx_T} {a : Int} {h : zs_H} {y0 : Int32} {y1 : Int32} {y2 : Int32} (Hk : zcx_k y2)  (H : zcx_P E a h) : zcx_2 E a (f_Ps_operand_189 h y0 y1 y2) := by
  unfold f_Ps_operand_189
  repeat' first
    | with_reducible assumption
    | with_reducible exact zcx_2n
    | with_reducible refine zcx_2s ?_
    | with_reducible refine zcx_2i ?_ ?_
    | with_reducible refine cx_f_Tr_add ?_ ?_
    | with_reducible refine zcx_B2e (cx_f_Tr_add ?_ ?_) ?_
    | with_reducible refine cx_f_Ps_take  ?_
    | with_reducible refine zcx_b2e (cx_f_Ps_take  ?_) ?_
    | intro _
    | with_reducible exact Hk
theorem cx_f_Ps_operand_88 {E : zcx_T} {a : Int} {r_Ps_operand : zs_H → (Option (Int32 × zs_H))} {h : zs_H} {y0 : Int32} {y1 : Int32} {y2 : Int32} (Hk : zcx_k y2) (H_r_Ps_operand : ∀ z0, zcx_P E a z0 → zcx_2 E a (r_Ps_operand z0)) (H : zcx_P E a h) : zcx_2 E a (f_Ps_operand_88 r_Ps_operand h y0 y1 y2) := by
  unfold f_Ps_operand_88
  repeat' first
    | with_reducible assumption
    | (with_reducible refine zcx_uF ?_ ?_; · decide)
    | with_reducible exact zcx_2n
    | with_reducible refine zcx_2s ?_
    | with_reducible refine zcx_2i ?_ ?_
    | with_reducible refine cx_f_Tr_add ?_ ?_
    | with_reducible refine zcx_B2e (cx_f_Tr_add ?_ ?_) ?_
    | with_reducible refine cx_f_Ps_deepen  ?_
    | with_reducible refine zcx_b2e (cx_f_Ps_deepen  ?_) ?_
    | with_reducible refine cx_f_Ps_take  ?_
    | with_reducible refine zcx_b2e (cx_f_Ps_take  ?_) ?_
    | with_reducible refine cx_f_Tr_hang  ?_
    | with_reducible refine zcx_B2e (cx_f_Tr_hang  ?_) ?_
    | with_reducible exact H_r_Ps_operand
    | with_reducible refine H_r_Ps_operand _ ?_
    | with_reducible refine zcx_B2e (H_r_Ps_operand _ ?_) ?_
    | intro _
    | with_reducible exact Hk
