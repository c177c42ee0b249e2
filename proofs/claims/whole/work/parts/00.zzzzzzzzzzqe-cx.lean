/-! CX: the class's reader, part 4. -/
theorem cx_f_Ps_ladder_123 {E : zcx_T} {a : Int} {k26 : zs_H → Int32 → Int32 → Int32 → (Option (Int32 × zs_H))} {h : zs_H} {x1 : Int32} {x2 : Int32} {x3 : Int32} {x4 : Int32} (H_k26 : ∀ z0 z1 z2 z3, zcx_P E a z0 → zcx_2 E a (k26 z0 z1 z2 z3)) (H : zcx_P E a h) : zcx_2 E a (f_Ps_ladder_123 k26 h x1 x2 x3 x4) := by
  unfold f_Ps_ladder_123
  repeat' first
    | with_reducible assumption
    | with_reducible exact zcx_2n
    | with_reducible refine zcx_2s ?_
    | with_reducible refine zcx_2i ?_ ?_
    | with_reducible refine cx_f_Ps_take  ?_
    | with_reducible refine zcx_b2e (cx_f_Ps_take  ?_) ?_
    | with_reducible refine cx_f_Tr_hang  ?_
    | with_reducible refine zcx_B2e (cx_f_Tr_hang  ?_) ?_
    | with_reducible exact H_k26
    | with_reducible refine H_k26 _ _ _ _ ?_
    | with_reducible refine zcx_B2e (H_k26 _ _ _ _ ?_) ?_
    | intro _
theorem cx_f_Ps_ladder_85 {E : zcx_T} {a : Int} {k26 : zs_H → Int32 → Int32 → Int32 → (Option (Int32 × zs_H))} {k85 : zs_H → Int32 → Int32 → Int32 → Int32 → Int32 → Int32 → (Option (Int32 × zs_H))} {h : zs_H} {x1 : Int32} {x2 : Int32} {x3 : Int32} {x4 : Int32} {x5 : Int32} {x6 : Int32} (H_k26 : ∀ z0 z1 z2 z3, zcx_P E a z0 → zcx_2 E a (k26 z0 z1 z2 z3)) (H_k85 : ∀ z0 z1 z2 z3 z4 z5 z6, zcx_P E a z0 → zcx_2 E a (k85 z0 z1 z2 z3 z4 z5 z6)) (H : zcx_P E a h) : zcx_2 E a (f_Ps_ladder_85 k26 k85 h x1 x2 x3 x4 x5 x6) := by
  unfold f_Ps_ladder_85
  repeat' first
    | with_reducible assumption
    | with_reducible exact zcx_2n
    | with_reducible refine zcx_2s ?_
    | with_reducible refine zcx_2i ?_ ?_
    | with_reducible refine cx_f_Ps_ladder_123 ?_ ?_
    | with_reducible refine zcx_B2e (cx_f_Ps_ladder_123 ?_ ?_) ?_
    | with_reducible refine cx_f_Ps_row  ?_
    | with_reducible refine zcx_B2e (cx_f_Ps_row  ?_) ?_
    | with_reducible refine cx_f_Tr_hang  ?_
    | with_reducible refine zcx_B2e (cx_f_Tr_hang  ?_) ?_
    | with_reducible exact H_k26
    | with_reducible refine H_k26 _ _ _ _ ?_
    | with_reducible refine zcx_B2e (H_k26 _ _ _ _ ?_) ?_
    | with_reducible exact H_k85
    | with_reducible refine H_k85 _ _ _ _ _ _ _ ?_
    | with_reducible refine zcx_B2e (H_k85 _ _ _ _ _ _ _ ?_) ?_
    | intro _
theorem cx_f_Ps_ladder_L85 {E : zcx_T} {a : Int} {k26 : zs_H → Int32 → Int32 → Int32 → (Option (Int32 × zs_H))} (H_k26 : ∀ z0 z1 z2 z3, zcx_P E a z0 → zcx_2 E a (k26 z0 z1 z2 z3)) : ∀ (N : Nat) (h : zs_H) (x1 : Int32) (x2 : Int32) (x3 : Int32) (x4 : Int32) (x5 : Int32) (x6 : Int32), zcx_P E a h → zcx_2 E a (f_Ps_ladder_L85 k26 N h x1 x2 x3 x4 x5 x6) := by
  intro N
  induction N with
  | zero => intro h x1 x2 x3 x4 x5 x6 _; exact zcx_2n
  | succ N ih =>
    intro h x1 x2 x3 x4 x5 x6 H
    exact cx_f_Ps_ladder_85 H_k26 (fun b0 b1 b2 b3 b4 b5 b6 z => ih b0 b1 b2 b3 b4 b5 b6 z) H
theorem cx_f_Ps_ladder_L85' {E : zcx_T} {a : Int} {k26 : zs_H → Int32 → Int32 → Int32 → (Option (Int32 × zs_H))} (H_k26 : ∀ z0 z1 z2 z3, zcx_P E a z0 → zcx_2 E a (k26 z0 z1 z2 z3)) {N : Nat} {h : zs_H} {x1 : Int32} {x2 : Int32} {x3 : Int32} {x4 : Int32} {x5 : Int32} {x6 : Int32} (H : zcx_P E a h) : zcx_2 E a (f_Ps_ladder_L85 k26 N h x1 x2 x3 x4 x5 x6) := cx_f_Ps_ladder_L85 H_k26 N h x1 x2 x3 x4 x5 x6 H
theorem cx_f_Ps_ladder_148 {E : zcx_T} {a : Int} {h : zs_H} {x1 : Int32}  (H : zcx_P E a h) : zcx_2 E a (f_Ps_ladder_148 h x1) := by
  unfold f_Ps_ladder_148
  repeat' first
    | with_reducible assumption
    | with_reducible exact zcx_2n
    | with_reducible refine zcx_2s ?_
    | with_reducible refine zcx_2i ?_ ?_
    | with_reducible refine cx_f_Ps_take  ?_
    | with_reducible refine zcx_b2e (cx_f_Ps_take  ?_) ?_
    | intro _
theorem cx_f_Ps_ladder_26 {E : zcx_T} {a : Int} {k26 : zs_H → Int32 → Int32 → Int32 → (Option (Int32 × zs_H))} {h : zs_H} {x1 : Int32} {x2 : Int32} {x3 : Int32} (H_k26 : ∀ z0 z1 z2 z3, zcx_P E a z0 → zcx_2 E a (k26 z0 z1 z2 z3)) (H : zcx_P E a h) : zcx_2 E a (f_Ps_ladder_26 k26 h x1 x2 x3) := by
  unfold f_Ps_ladder_26
  repeat' first
    | with_reducible assumption
    | with_reducible exact zcx_2n
    | with_reducible refine zcx_2s ?_
    | with_reducible refine zcx_2i ?_ ?_
    | with_reducible refine cx_f_Ps_ladder_148  ?_
    | with_reducible refine zcx_B2e (cx_f_Ps_ladder_148  ?_) ?_
    | with_reducible refine cx_f_Tr_add ?_ ?_
    | with_reducible refine zcx_B2e (cx_f_Tr_add ?_ ?_) ?_
    | with_reducible refine cx_f_Ps_take  ?_
    | with_reducible refine zcx_b2e (cx_f_Ps_take  ?_) ?_
    | with_reducible refine cx_f_Ps_row  ?_
    | with_reducible refine zcx_B2e (cx_f_Ps_row  ?_) ?_
    | with_reducible refine cx_f_Tr_hang  ?_
    | with_reducible refine zcx_B2e (cx_f_Tr_hang  ?_) ?_
    | with_reducible refine cx_f_Ps_ladder_L85' ?_ ?_
    | with_reducible refine zcx_B2e (cx_f_Ps_ladder_L85' ?_ ?_) ?_
    | with_reducible exact H_k26
    | with_reducible refine H_k26 _ _ _ _ ?_
    | with_reducible refine zcx_B2e (H_k26 _ _ _ _ ?_) ?_
    | intro _
    | decide +kernel
theorem cx_f_Ps_ladder_L26 {E : zcx_T} {a : Int}   : ∀ (N : Nat) (h : zs_H) (x1 : Int32) (x2 : Int32) (x3 : Int32), zcx_P E a h → zcx_2 E a (f_Ps_ladder_L26  N h x1 x2 x3) := by
  intro N
  induction N with
  | zero => intro h x1 x2 x3 _; exact zcx_2n
  | succ N ih =>
    intro h x1 x2 x3 H
    exact cx_f_Ps_ladder_26  (fun b0 b1 b2 b3 z => ih b0 b1 b2 b3 z) H
theorem cx_f_Ps_ladder_L26' {E : zcx_T} {a : Int}   {N : Nat} {h : zs_H} {x1 : Int32} {x2 : Int32} {x3 : Int32} (H : zcx_P E a h) : zcx_2 E a (f_Ps_ladder_L26  N h x1 x2 x3) := cx_f_Ps_ladder_L26  N h x1 x2 x3 H
theorem cx_f_Ps_ladder {E : zcx_T} {a : Int} {h : zs_H}  (H : zcx_P E a h) : zcx_2 E a (f_Ps_ladder h) := by
  unfold f_Ps_ladder
  repeat' first
    | with_reducible assumption
    | with_reducible exact zcx_2n
    | with_reducible refine zcx_2s ?_
    | with_reducible refine zcx_2i ?_ ?_
    | with_reducible refine cx_f_Tr_add ?_ ?_
    | with_reducible refine zcx_B2e (cx_f_Tr_add ?_ ?_) ?_
    | with_reducible refine cx_f_Ps_take  ?_
    | with_reducible refine zcx_b2e (cx_f_Ps_take  ?_) ?_
    | with_reducible refine cx_f_Ps_ladder_L26'  ?_
    | with_reducible refine zcx_B2e (cx_f_Ps_ladder_L26'  ?_) ?_
    | intro _
    | decide +kernel
theorem cx_f_Ps_expression_13 {E : zcx_T} {a : Int} {r_Ps_expression : zs_H → Int32 → (Option (Int32 × zs_H))} {k13 : zs_H → Int32 → Int32 → Int32 → Int32 → (Option (Int32 × zs_H))} {h : zs_H} {x1 : Int32} {x2 : Int32} {x3 : Int32} {x4 : Int32} (H_r_Ps_expression : ∀ z0 z1, zcx_P E a z0 → zcx_2 E a (r_Ps_expression z0 z1)) (H_k13 : ∀ z0 z1 z2 z3 z4, zcx_P E a z0 → zcx_2 E a (k13 z0 z1 z2 z3 z4)) (H : zcx_P E a h) : zcx_2 E a (f_Ps_expression_13 r_Ps_expression k13 h x1 x2 x3 x4) := by
  unfold f_Ps_expression_13
  repeat' first
    | with_reducible assumption
    | with_reducible exact zcx_2n
    | with_reducible refine zcx_2s ?_
    | with_reducible refine zcx_2i ?_ ?_
    | with_reducible refine cx_f_Tr_add ?_ ?_
    | with_reducible refine zcx_B2e (cx_f_Tr_add ?_ ?_) ?_
    | with_reducible refine cx_f_Ps_deepen  ?_
    | with_reducible refine zcx_b2e (cx_f_Ps_deepen  ?_) ?_
    | with_reducible refine cx_f_Ps_take  ?_
    | with_reducible refine zcx_b2e (cx_f_Ps_take  ?_) ?_
    | with_reducible refine cx_f_Tr_hang  ?_
    | with_reducible refine zcx_B2e (cx_f_Tr_hang  ?_) ?_
    | with_reducible exact H_r_Ps_expression
    | with_reducible refine H_r_Ps_expression _ _ ?_
    | with_reducible refine zcx_B2e (H_r_Ps_expression _ _ ?_) ?_
    | with_reducible exact H_k13
    | with_reducible refine H_k13 _ _ _ _ _ ?_
    | with_reducible refine zcx_B2e (H_k13 _ _ _ _ _ ?_) ?_
    | intro _
    | decide +kernel
theorem cx_f_Ps_expression_L13 {E : zcx_T} {a : Int} {r_Ps_expression : zs_H → Int32 → (Option (Int32 × zs_H))} (H_r_Ps_expression : ∀ z0 z1, zcx_P E a z0 → zcx_2 E a (r_Ps_expression z0 z1)) : ∀ (N : Nat) (h : zs_H) (x1 : Int32) (x2 : Int32) (x3 : Int32) (x4 : Int32), zcx_P E a h → zcx_2 E a (f_Ps_expression_L13 r_Ps_expression N h x1 x2 x3 x4) := by
  intro N
  induction N with
  | zero => intro h x1 x2 x3 x4 _; exact zcx_2n
  | succ N ih =>
    intro h x1 x2 x3 x4 H
    exact cx_f_Ps_expression_13 H_r_Ps_expression (fun b0 b1 b2 b3 b4 z => ih b0 b1 b2 b3 b4 z) H
theorem cx_f_Ps_expression_L13' {E : zcx_T} {a : Int} {r_Ps_expression : zs_H → Int32 → (Option (Int32 × zs_H))} (H_r_Ps_expression : ∀ z0 z1, zcx_P E a z0 → zcx_2 E a (r_Ps_expression z0 z1)) {N : Nat} {h : zs_H} {x1 : Int32} {x2 : Int32} {x3 : Int32} {x4 : Int32} (H : zcx_P E a h) : zcx_2 E a (f_Ps_expression_L13 r_Ps_expression N h x1 x2 x3 x4) := cx_f_Ps_expression_L13 H_r_Ps_expression N h x1 x2 x3 x4 H
theorem cx_g_Ps_expression {E : zcx_T} {a : Int} {r_Ps_expression : zs_H → Int32 → (Option (Int32 × zs_H))} {r_Ps_operand : zs_H → (Option (Int32 × zs_H))} {h : zs_H} {x1 : Int32} (H_r_Ps_expression : ∀ z0 z1, zcx_P E a z0 → zcx_2 E a (r_Ps_expression z0 z1)) (H_r_Ps_operand : ∀ z0, zcx_P E a z0 → zcx_2 E a (r_Ps_operand z0)) (H : zcx_P E a h) : zcx_2 E a (g_Ps_expression r_Ps_expression r_Ps_operand h x1) := by
  unfold g_Ps_expression
  repeat' first
    | with_reducible assumption
    | with_reducible exact zcx_2n
    | with_reducible refine zcx_2s ?_
    | with_reducible refine zcx_2i ?_ ?_
    | with_reducible refine cx_f_Ps_expression_L13' ?_ ?_
    | with_reducible refine zcx_B2e (cx_f_Ps_expression_L13' ?_ ?_) ?_
    | with_reducible exact H_r_Ps_expression
    | with_reducible refine H_r_Ps_expression _ _ ?_
    | with_reducible refine zcx_B2e (H_r_Ps_expression _ _ ?_) ?_
    | with_reducible exact H_r_Ps_operand
    | with_reducible refine H_r_Ps_operand _ ?_
    | with_reducible refine zcx_B2e (H_r_Ps_operand _ ?_) ?_
    | intro _
