/-! CX: the class's reader, part 3. -/
theorem cx_f_Ps_ladderCell_121 {E : zcx_T} {a : Int} {h : zs_H} {y0 : Int32} {y1 : Int32} {y2 : Int32} (Hk : zcx_k y2)  (H : zcx_P E a h) : zcx_2 E a (f_Ps_ladderCell_121 h y0 y1 y2) := by
  unfold f_Ps_ladderCell_121
  exact (zcx_B2e (cx_f_Tr_add Hk H) (fun v2 h3 H_h3 => (zcx_2i (fun _ => (cx_f_Ps_ladderCell_153  H_h3)) (fun _ => (zcx_2i (fun _ => (cx_f_Ps_ladderCell_150  H_h3)) (fun _ => (cx_f_Ps_ladderCell_150  H_h3)))))))
theorem cx_f_Ps_ladderCell {E : zcx_T} {a : Int} {h : zs_H}  (H : zcx_P E a h) : zcx_2 E a (f_Ps_ladderCell h) := by
  unfold f_Ps_ladderCell
  exact (zcx_2i (fun _ => (zcx_B2e (cx_f_Ps_coil  H) (fun v8 h9 H_h9 => (zcx_2s H_h9)))) (fun _ => (zcx_2i (fun _ => (cx_f_Ps_ladderCell_32  H)) (fun _ => (zcx_2i (fun _ => (cx_f_Ps_ladderCell_32  H)) (fun _ => (zcx_2i (fun _ => (cx_f_Ps_ladderCell_121 (zcx_kI (by decide +kernel)) H)) (fun _ => (zcx_2i (fun _ => (cx_f_Ps_ladderCell_121 (zcx_kI (by decide +kernel)) H)) (fun _ => (zcx_2i (fun _ => (cx_f_Ps_ladderCell_121 (zcx_kI (by decide +kernel)) H)) (fun _ => (cx_f_Ps_ladderCell_121 (zcx_kI (by decide +kernel)) H)))))))))))))
theorem cx_f_Ps_row_93 {E : zcx_T} {a : Int} {k31 : zs_H → Int32 → Int32 → Int32 → (Option (Int32 × zs_H))} {h : zs_H} {x1 : Int32} {x2 : Int32} {x3 : Int32} (H_k31 : ∀ z0 z1 z2 z3, zcx_P E a z0 → zcx_2 E a (k31 z0 z1 z2 z3)) (H : zcx_P E a h) : zcx_2 E a (f_Ps_row_93 k31 h x1 x2 x3) := by
  unfold f_Ps_row_93
  exact (zcx_B2e (cx_f_Ps_ladderCell  H) (fun v2 h3 H_h3 => (zcx_B2e (cx_f_Tr_hang  H_h3) (fun v5 h6 H_h6 => (H_k31 _ _ _ _ H_h6)))))
theorem cx_f_Ps_row_54 {E : zcx_T} {a : Int} {k31 : zs_H → Int32 → Int32 → Int32 → (Option (Int32 × zs_H))} {h : zs_H} {x1 : Int32} {x2 : Int32} {x3 : Int32} (H_k31 : ∀ z0 z1 z2 z3, zcx_P E a z0 → zcx_2 E a (k31 z0 z1 z2 z3)) (H : zcx_P E a h) : zcx_2 E a (f_Ps_row_54 k31 h x1 x2 x3) := by
  unfold f_Ps_row_54
  exact (zcx_2i (fun _ => (zcx_B2e (cx_f_Tr_add (zcx_kI (by decide +kernel)) H) (fun v3 h4 H_h4 => (zcx_B2e (cx_f_Tr_hang  H_h4) (fun v6 h7 H_h7 => (zcx_b2e (cx_f_Ps_take H_h7) (fun h9 H_h9 => (cx_f_Ps_row_93 H_k31 H_h9)))))))) (fun _ => (cx_f_Ps_row_93 H_k31 H)))
theorem cx_f_Ps_row_113 {E : zcx_T} {a : Int} {h : zs_H} {x1 : Int32}  (H : zcx_P E a h) : zcx_2 E a (f_Ps_row_113 h x1) := by
  unfold f_Ps_row_113
  exact (zcx_b2e (cx_f_Ps_take H) (fun h2 H_h2 => (zcx_2s H_h2)))
theorem cx_f_Ps_row_31 {E : zcx_T} {a : Int} {k31 : zs_H → Int32 → Int32 → Int32 → (Option (Int32 × zs_H))} {h : zs_H} {x1 : Int32} {x2 : Int32} {x3 : Int32} (H_k31 : ∀ z0 z1 z2 z3, zcx_P E a z0 → zcx_2 E a (k31 z0 z1 z2 z3)) (H : zcx_P E a h) : zcx_2 E a (f_Ps_row_31 k31 h x1 x2 x3) := by
  unfold f_Ps_row_31
  exact (zcx_2i (fun _ => (cx_f_Ps_row_113  H)) (fun _ => (zcx_2i (fun _ => (cx_f_Ps_row_54 H_k31 H)) (fun _ => (zcx_2i (fun _ => (cx_f_Ps_row_113  H)) (fun _ => (cx_f_Ps_row_54 H_k31 H)))))))
theorem cx_f_Ps_row_L31 {E : zcx_T} {a : Int}   : ∀ (N : Nat) (h : zs_H) (x1 : Int32) (x2 : Int32) (x3 : Int32), zcx_P E a h → zcx_2 E a (f_Ps_row_L31  N h x1 x2 x3) := by
  intro N
  induction N with
  | zero => intro h x1 x2 x3 _; exact zcx_2n
  | succ N ih =>
    intro h x1 x2 x3 H
    exact cx_f_Ps_row_31  (fun b0 b1 b2 b3 z => ih b0 b1 b2 b3 z) H
theorem cx_f_Ps_row_L31' {E : zcx_T} {a : Int}   {N : Nat} {h : zs_H} {x1 : Int32} {x2 : Int32} {x3 : Int32} (H : zcx_P E a h) : zcx_2 E a (f_Ps_row_L31  N h x1 x2 x3) := cx_f_Ps_row_L31  N h x1 x2 x3 H
theorem cx_f_Ps_row {E : zcx_T} {a : Int} {h : zs_H}  (H : zcx_P E a h) : zcx_2 E a (f_Ps_row h) := by
  unfold f_Ps_row
  exact (zcx_B2e (cx_f_Tr_add (zcx_kI (by decide +kernel)) H) (fun v2 h3 H_h3 => (zcx_B2e (cx_f_Ps_ladderCell  H_h3) (fun v5 h6 H_h6 => (zcx_B2e (cx_f_Tr_hang  H_h6) (fun v8 h9 H_h9 => (cx_f_Ps_row_L31'  H_h9)))))))
theorem cx_f_Ps_ladder_123 {E : zcx_T} {a : Int} {k26 : zs_H → Int32 → Int32 → Int32 → (Option (Int32 × zs_H))} {h : zs_H} {x1 : Int32} {x2 : Int32} {x3 : Int32} {x4 : Int32} (H_k26 : ∀ z0 z1 z2 z3, zcx_P E a z0 → zcx_2 E a (k26 z0 z1 z2 z3)) (H : zcx_P E a h) : zcx_2 E a (f_Ps_ladder_123 k26 h x1 x2 x3 x4) := by
  unfold f_Ps_ladder_123
  exact (zcx_b2e (cx_f_Ps_take H) (fun h2 H_h2 => (zcx_B2e (cx_f_Tr_hang  H_h2) (fun v4 h5 H_h5 => (H_k26 _ _ _ _ H_h5)))))
theorem cx_f_Ps_ladder_85 {E : zcx_T} {a : Int} {k26 : zs_H → Int32 → Int32 → Int32 → (Option (Int32 × zs_H))} {k85 : zs_H → Int32 → Int32 → Int32 → Int32 → Int32 → Int32 → (Option (Int32 × zs_H))} {h : zs_H} {x1 : Int32} {x2 : Int32} {x3 : Int32} {x4 : Int32} {x5 : Int32} {x6 : Int32} (H_k26 : ∀ z0 z1 z2 z3, zcx_P E a z0 → zcx_2 E a (k26 z0 z1 z2 z3)) (H_k85 : ∀ z0 z1 z2 z3 z4 z5 z6, zcx_P E a z0 → zcx_2 E a (k85 z0 z1 z2 z3 z4 z5 z6)) (H : zcx_P E a h) : zcx_2 E a (f_Ps_ladder_85 k26 k85 h x1 x2 x3 x4 x5 x6) := by
  unfold f_Ps_ladder_85
  exact (zcx_2i (fun _ => (cx_f_Ps_ladder_123 H_k26 H)) (fun _ => (zcx_2i (fun _ => (cx_f_Ps_ladder_123 H_k26 H)) (fun _ => (zcx_B2e (cx_f_Ps_row  H) (fun v5 h6 H_h6 => (zcx_B2e (cx_f_Tr_hang  H_h6) (fun v8 h9 H_h9 => (H_k85 _ _ _ _ _ _ _ H_h9)))))))))
theorem cx_f_Ps_ladder_L85 {E : zcx_T} {a : Int} {k26 : zs_H → Int32 → Int32 → Int32 → (Option (Int32 × zs_H))} (H_k26 : ∀ z0 z1 z2 z3, zcx_P E a z0 → zcx_2 E a (k26 z0 z1 z2 z3)) : ∀ (N : Nat) (h : zs_H) (x1 : Int32) (x2 : Int32) (x3 : Int32) (x4 : Int32) (x5 : Int32) (x6 : Int32), zcx_P E a h → zcx_2 E a (f_Ps_ladder_L85 k26 N h x1 x2 x3 x4 x5 x6) := by
  intro N
  induction N with
  | zero => intro h x1 x2 x3 x4 x5 x6 _; exact zcx_2n
  | succ N ih =>
    intro h x1 x2 x3 x4 x5 x6 H
    exact cx_f_Ps_ladder_85 H_k26 (fun b0 b1 b2 b3 b4 b5 b6 z => ih b0 b1 b2 b3 b4 b5 b6 z) H
theorem cx_f_Ps_ladder_L85' {E : zcx_T} {a : Int} {k26 : zs_H → Int32 → Int32 → Int32 → (Option (Int32 × zs_H))} (H_k26 : ∀ z0 z1 z2 z3, zcx_P E a z0 → zcx_2 E a (k26 z0 z1 z2 z3)) {N : Nat} {h : zs_H} {x1 : Int32} {x2 : Int32} {x3 : Int32} {x4 : Int32} {x5 : Int32} {x6 : Int32} (H : zcx_P E a h) : zcx_2 E a (f_Ps_ladder_L85 k26 N h x1 x2 x3 x4 x5 x6) := cx_f_Ps_ladder_L85 H_k26 N h x1 x2 x3 x4 x5 x6 H
theorem cx_f_Ps_ladder_148 {E : zcx_T} {a : Int} {h : zs_H} {x1 : Int32}  (H : zcx_P E a h) : zcx_2 E a (f_Ps_ladder_148 h x1) := by
  unfold f_Ps_ladder_148
  exact (zcx_b2e (cx_f_Ps_take H) (fun h2 H_h2 => (zcx_2s H_h2)))
theorem cx_f_Ps_ladder_26 {E : zcx_T} {a : Int} {k26 : zs_H → Int32 → Int32 → Int32 → (Option (Int32 × zs_H))} {h : zs_H} {x1 : Int32} {x2 : Int32} {x3 : Int32} (H_k26 : ∀ z0 z1 z2 z3, zcx_P E a z0 → zcx_2 E a (k26 z0 z1 z2 z3)) (H : zcx_P E a h) : zcx_2 E a (f_Ps_ladder_26 k26 h x1 x2 x3) := by
  unfold f_Ps_ladder_26
  exact (zcx_2i (fun _ => (cx_f_Ps_ladder_148  H)) (fun _ => (zcx_2i (fun _ => (zcx_B2e (cx_f_Tr_add (zcx_kI (by decide +kernel)) H) (fun v4 h5 H_h5 => (zcx_b2e (cx_f_Ps_take H_h5) (fun h7 H_h7 => (zcx_B2e (cx_f_Ps_row  H_h7) (fun v9 h10 H_h10 => (zcx_B2e (cx_f_Tr_hang  H_h10) (fun v12 h13 H_h13 => (cx_f_Ps_ladder_L85' H_k26 H_h13)))))))))) (fun _ => (cx_f_Ps_ladder_148  H)))))
theorem cx_f_Ps_ladder_L26 {E : zcx_T} {a : Int}   : ∀ (N : Nat) (h : zs_H) (x1 : Int32) (x2 : Int32) (x3 : Int32), zcx_P E a h → zcx_2 E a (f_Ps_ladder_L26  N h x1 x2 x3) := by
  intro N
  induction N with
  | zero => intro h x1 x2 x3 _; exact zcx_2n
  | succ N ih =>
    intro h x1 x2 x3 H
    exact cx_f_Ps_ladder_26  (fun b0 b1 b2 b3 z => ih b0 b1 b2 b3 z) H
theorem cx_f_Ps_ladder_L26' {E : zcx_T} {a : Int}   {N : Nat} {h : zs_H} {x1 : Int32} {x2 : Int32} {x3 : Int32} (H : zcx_P E a h) : zcx_2 E a (f_Ps_ladder_L26  N h x1 x2 x3) := cx_f_Ps_ladder_L26  N h x1 x2 x3 H
theorem cx_f_Ps_ladder {E : zcx_T} {a : Int} {h : zs_H}  (H : zcx_P E a h) : zcx_2 E a (f_Ps_ladder h) := by
  unfold f_Ps_ladder
  exact (zcx_B2e (cx_f_Tr_add (zcx_kI (by decide +kernel)) H) (fun v2 h3 H_h3 => (zcx_b2e (cx_f_Ps_take H_h3) (fun h5 H_h5 => (cx_f_Ps_ladder_L26'  H_h5)))))
theorem cx_f_Ps_expression_13 {E : zcx_T} {a : Int} {r_Ps_expression : zs_H → Int32 → (Option (Int32 × zs_H))} {k13 : zs_H → Int32 → Int32 → Int32 → Int32 → (Option (Int32 × zs_H))} {h : zs_H} {x1 : Int32} {x2 : Int32} {x3 : Int32} {x4 : Int32} (H_r_Ps_expression : ∀ z0 z1, zcx_P E a z0 → zcx_2 E a (r_Ps_expression z0 z1)) (H_k13 : ∀ z0 z1 z2 z3 z4, zcx_P E a z0 → zcx_2 E a (k13 z0 z1 z2 z3 z4)) (H : zcx_P E a h) : zcx_2 E a (f_Ps_expression_13 r_Ps_expression k13 h x1 x2 x3 x4) := by
  unfold f_Ps_expression_13
  exact (zcx_2i (fun _ => (zcx_2s H)) (fun _ => (zcx_2i (fun _ => (zcx_2s H)) (fun _ => (zcx_2i (fun _ => (zcx_2i (fun _ => (zcx_2s H)) (fun _ => (zcx_B2e (cx_f_Tr_add (zcx_kI (by decide +kernel)) H) (fun v6 h7 H_h7 => (zcx_b2e (cx_f_Ps_deepen H_h7) (fun h9 H_h9 => (zcx_b2e (cx_f_Ps_take H_h9) (fun h11 H_h11 => (zcx_B2e (cx_f_Tr_hang  H_h11) (fun v13 h14 H_h14 => (zcx_2i (fun _ => (zcx_B2e (H_r_Ps_expression _ _ H_h14) (fun v17 h18 H_h18 => (zcx_B2e (cx_f_Tr_hang  H_h18) (fun v20 h21 H_h21 => (H_k13 _ _ _ _ _ H_h21)))))) (fun _ => zcx_2n))))))))))))) (fun _ => zcx_2n))))))
theorem cx_f_Ps_expression_L13 {E : zcx_T} {a : Int} {r_Ps_expression : zs_H → Int32 → (Option (Int32 × zs_H))} (H_r_Ps_expression : ∀ z0 z1, zcx_P E a z0 → zcx_2 E a (r_Ps_expression z0 z1)) : ∀ (N : Nat) (h : zs_H) (x1 : Int32) (x2 : Int32) (x3 : Int32) (x4 : Int32), zcx_P E a h → zcx_2 E a (f_Ps_expression_L13 r_Ps_expression N h x1 x2 x3 x4) := by
  intro N
  induction N with
  | zero => intro h x1 x2 x3 x4 _; exact zcx_2n
  | succ N ih =>
    intro h x1 x2 x3 x4 H
    exact cx_f_Ps_expression_13 H_r_Ps_expression (fun b0 b1 b2 b3 b4 z => ih b0 b1 b2 b3 b4 z) H
