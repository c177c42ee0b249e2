/-! CX: the class's reader, part 3. -/
theorem cx_f_Ps_coil_48 {E : zcx_T} {a : Int} {h : zs_H} {x1 : Int32}  (H : zcx_P E a h) : zcx_2 E a (f_Ps_coil_48 h x1) := by
  unfold f_Ps_coil_48
  repeat' first
    | with_reducible assumption
    | with_reducible exact zcx_2n
    | with_reducible refine zcx_2s ?_
    | with_reducible refine zcx_2i ?_ ?_
    | with_reducible refine cx_f_Ps_coil_83  ?_
    | with_reducible refine zcx_B2e (cx_f_Ps_coil_83  ?_) ?_
    | intro _
theorem cx_f_Ps_coil {E : zcx_T} {a : Int} {h : zs_H}  (H : zcx_P E a h) : zcx_2 E a (f_Ps_coil h) := by
  unfold f_Ps_coil
  repeat' first
    | with_reducible assumption
    | with_reducible exact zcx_2n
    | with_reducible refine zcx_2s ?_
    | with_reducible refine zcx_2i ?_ ?_
    | with_reducible refine cx_f_Tr_add ?_ ?_
    | with_reducible refine zcx_B2e (cx_f_Tr_add ?_ ?_) ?_
    | with_reducible refine cx_f_Ps_take  ?_
    | with_reducible refine zcx_b2e (cx_f_Ps_take  ?_) ?_
    | with_reducible refine cx_f_Ps_coil_48  ?_
    | with_reducible refine zcx_B2e (cx_f_Ps_coil_48  ?_) ?_
    | with_reducible refine cx_f_Ps_coil_92  ?_
    | with_reducible refine zcx_B2e (cx_f_Ps_coil_92  ?_) ?_
    | intro _
    | decide +kernel
theorem cx_f_Ps_ladderCell_52 {E : zcx_T} {a : Int} {h : zs_H} {y0 : Int32} (Hk : zcx_k y0)  (H : zcx_P E a h) : zcx_2 E a (f_Ps_ladderCell_52 h y0) := by
  unfold f_Ps_ladderCell_52
  repeat' first
    | with_reducible assumption
    | with_reducible exact zcx_2n
    | with_reducible refine zcx_2s ?_
    | with_reducible refine zcx_2i ?_ ?_
    | with_reducible refine cx_f_Tr_add ?_ ?_
    | with_reducible refine zcx_B2e (cx_f_Tr_add ?_ ?_) ?_
    | with_reducible refine cx_f_Ps_take  ?_
    | with_reducible refine zcx_b2e (cx_f_Ps_take  ?_) ?_
    | intro _
    | with_reducible exact Hk
theorem cx_f_Ps_ladderCell_32 {E : zcx_T} {a : Int} {h : zs_H}  (H : zcx_P E a h) : zcx_2 E a (f_Ps_ladderCell_32 h) := by
  unfold f_Ps_ladderCell_32
  repeat' first
    | with_reducible assumption
    | with_reducible exact zcx_2n
    | with_reducible refine zcx_2s ?_
    | with_reducible refine zcx_2i ?_ ?_
    | with_reducible refine cx_f_Ps_ladderCell_52 ?_ ?_
    | with_reducible refine zcx_B2e (cx_f_Ps_ladderCell_52 ?_ ?_) ?_
    | intro _
    | decide +kernel
theorem cx_f_Ps_ladderCell_153 {E : zcx_T} {a : Int} {h : zs_H} {x1 : Int32}  (H : zcx_P E a h) : zcx_2 E a (f_Ps_ladderCell_153 h x1) := by
  unfold f_Ps_ladderCell_153
  repeat' first
    | with_reducible assumption
    | (with_reducible refine zcx_uM ?_ ?_; · decide)
    | (with_reducible refine zcx_uK ?_ ?_; · decide +kernel)
    | with_reducible exact zcx_2n
    | with_reducible refine zcx_2s ?_
    | with_reducible refine zcx_2i ?_ ?_
    | with_reducible refine cx_f_Tr_add ?_ ?_
    | with_reducible refine zcx_B2e (cx_f_Tr_add ?_ ?_) ?_
    | with_reducible refine cx_f_Ps_take  ?_
    | with_reducible refine zcx_b2e (cx_f_Ps_take  ?_) ?_
    | with_reducible refine cx_f_Tr_hang  ?_
    | with_reducible refine zcx_B2e (cx_f_Tr_hang  ?_) ?_
    | intro _
    | decide +kernel
theorem cx_f_Ps_ladderCell_150 {E : zcx_T} {a : Int} {h : zs_H} {x1 : Int32} {y0 : Int32}  (H : zcx_P E a h) : zcx_2 E a (f_Ps_ladderCell_150 h x1 y0) := by
  unfold f_Ps_ladderCell_150
  repeat' first
    | with_reducible assumption
    | with_reducible exact zcx_2n
    | with_reducible refine zcx_2s ?_
    | with_reducible refine zcx_2i ?_ ?_
    | with_reducible refine cx_f_Ps_take  ?_
    | with_reducible refine zcx_b2e (cx_f_Ps_take  ?_) ?_
    | with_reducible refine cx_f_Ps_ladderCell_153  ?_
    | with_reducible refine zcx_B2e (cx_f_Ps_ladderCell_153  ?_) ?_
    | intro _
theorem cx_f_Ps_ladderCell_121 {E : zcx_T} {a : Int} {h : zs_H} {y0 : Int32} {y1 : Int32} {y2 : Int32} (Hk : zcx_k y2)  (H : zcx_P E a h) : zcx_2 E a (f_Ps_ladderCell_121 h y0 y1 y2) := by
  unfold f_Ps_ladderCell_121
  repeat' first
    | with_reducible assumption
    | with_reducible exact zcx_2n
    | with_reducible refine zcx_2s ?_
    | with_reducible refine zcx_2i ?_ ?_
    | with_reducible refine cx_f_Tr_add ?_ ?_
    | with_reducible refine zcx_B2e (cx_f_Tr_add ?_ ?_) ?_
    | with_reducible refine cx_f_Ps_ladderCell_153  ?_
    | with_reducible refine zcx_B2e (cx_f_Ps_ladderCell_153  ?_) ?_
    | with_reducible refine cx_f_Ps_ladderCell_150  ?_
    | with_reducible refine zcx_B2e (cx_f_Ps_ladderCell_150  ?_) ?_
    | intro _
    | with_reducible exact Hk
theorem cx_f_Ps_ladderCell {E : zcx_T} {a : Int} {h : zs_H}  (H : zcx_P E a h) : zcx_2 E a (f_Ps_ladderCell h) := by
  unfold f_Ps_ladderCell
  repeat' first
    | with_reducible assumption
    | with_reducible exact zcx_2n
    | with_reducible refine zcx_2s ?_
    | with_reducible refine zcx_2i ?_ ?_
    | with_reducible refine cx_f_Ps_coil  ?_
    | with_reducible refine zcx_B2e (cx_f_Ps_coil  ?_) ?_
    | with_reducible refine cx_f_Ps_ladderCell_32  ?_
    | with_reducible refine zcx_B2e (cx_f_Ps_ladderCell_32  ?_) ?_
    | with_reducible refine cx_f_Ps_ladderCell_121 ?_ ?_
    | with_reducible refine zcx_B2e (cx_f_Ps_ladderCell_121 ?_ ?_) ?_
    | intro _
    | decide +kernel
theorem cx_f_Ps_row_93 {E : zcx_T} {a : Int} {k31 : zs_H → Int32 → Int32 → Int32 → (Option (Int32 × zs_H))} {h : zs_H} {x1 : Int32} {x2 : Int32} {x3 : Int32} (H_k31 : ∀ z0 z1 z2 z3, zcx_P E a z0 → zcx_2 E a (k31 z0 z1 z2 z3)) (H : zcx_P E a h) : zcx_2 E a (f_Ps_row_93 k31 h x1 x2 x3) := by
  unfold f_Ps_row_93
  repeat' first
    | with_reducible assumption
    | with_reducible exact zcx_2n
    | with_reducible refine zcx_2s ?_
    | with_reducible refine zcx_2i ?_ ?_
    | with_reducible refine cx_f_Ps_ladderCell  ?_
    | with_reducible refine zcx_B2e (cx_f_Ps_ladderCell  ?_) ?_
    | with_reducible refine cx_f_Tr_hang  ?_
    | with_reducible refine zcx_B2e (cx_f_Tr_hang  ?_) ?_
    | with_reducible exact H_k31
    | with_reducible refine H_k31 _ _ _ _ ?_
    | with_reducible refine zcx_B2e (H_k31 _ _ _ _ ?_) ?_
    | intro _
theorem cx_f_Ps_row_54 {E : zcx_T} {a : Int} {k31 : zs_H → Int32 → Int32 → Int32 → (Option (Int32 × zs_H))} {h : zs_H} {x1 : Int32} {x2 : Int32} {x3 : Int32} (H_k31 : ∀ z0 z1 z2 z3, zcx_P E a z0 → zcx_2 E a (k31 z0 z1 z2 z3)) (H : zcx_P E a h) : zcx_2 E a (f_Ps_row_54 k31 h x1 x2 x3) := by
  unfold f_Ps_row_54
  repeat' first
    | with_reducible assumption
    | with_reducible exact zcx_2n
    | with_reducible refine zcx_2s ?_
    | with_reducible refine zcx_2i ?_ ?_
    | with_reducible refine cx_f_Tr_add ?_ ?_
    | with_reducible refine zcx_B2e (cx_f_Tr_add ?_ ?_) ?_
    | with_reducible refine cx_f_Tr_hang  ?_
    | with_reducible refine zcx_B2e (cx_f_Tr_hang  ?_) ?_
    | with_reducible refine cx_f_Ps_take  ?_
    | with_reducible refine zcx_b2e (cx_f_Ps_take  ?_) ?_
    | with_reducible refine cx_f_Ps_row_93 ?_ ?_
    | with_reducible refine zcx_B2e (cx_f_Ps_row_93 ?_ ?_) ?_
    | with_reducible exact H_k31
    | with_reducible refine H_k31 _ _ _ _ ?_
    | with_reducible refine zcx_B2e (H_k31 _ _ _ _ ?_) ?_
    | intro _
    | decide +kernel
theorem cx_f_Ps_row_113 {E : zcx_T} {a : Int} {h : zs_H} {x1 : Int32}  (H : zcx_P E a h) : zcx_2 E a (f_Ps_row_113 h x1) := by
  unfold f_Ps_row_113
  repeat' first
    | with_reducible assumption
    | with_reducible exact zcx_2n
    | with_reducible refine zcx_2s ?_
    | with_reducible refine zcx_2i ?_ ?_
    | with_reducible refine cx_f_Ps_take  ?_
    | with_reducible refine zcx_b2e (cx_f_Ps_take  ?_) ?_
    | intro _
theorem cx_f_Ps_row_31 {E : zcx_T} {a : Int} {k31 : zs_H → Int32 → Int32 → Int32 → (Option (Int32 × zs_H))} {h : zs_H} {x1 : Int32} {x2 : Int32} {x3 : Int32} (H_k31 : ∀ z0 z1 z2 z3, zcx_P E a z0 → zcx_2 E a (k31 z0 z1 z2 z3)) (H : zcx_P E a h) : zcx_2 E a (f_Ps_row_31 k31 h x1 x2 x3) := by
  unfold f_Ps_row_31
  repeat' first
    | with_reducible assumption
    | with_reducible exact zcx_2n
    | with_reducible refine zcx_2s ?_
    | with_reducible refine zcx_2i ?_ ?_
    | with_reducible refine cx_f_Ps_row_113  ?_
    | with_reducible refine zcx_B2e (cx_f_Ps_row_113  ?_) ?_
    | with_reducible refine cx_f_Ps_row_54 ?_ ?_
    | with_reducible refine zcx_B2e (cx_f_Ps_row_54 ?_ ?_) ?_
    | with_reducible exact H_k31
    | with_reducible refine H_k31 _ _ _ _ ?_
    | with_reducible refine zcx_B2e (H_k31 _ _ _ _ ?_) ?_
    | intro _
theorem cx_f_Ps_row_L31 {E : zcx_T} {a : Int}   : ∀ (N : Nat) (h : zs_H) (x1 : Int32) (x2 : Int32) (x3 : Int32), zcx_P E a h → zcx_2 E a (f_Ps_row_L31  N h x1 x2 x3) := by
  intro N
  induction N with
  | zero => intro h x1 x2 x3 _; exact zcx_2n
  | succ N ih =>
    intro h x1 x2 x3 H
    exact cx_f_Ps_row_31  (fun b0 b1 b2 b3 z => ih b0 b1 b2 b3 z) H
theorem cx_f_Ps_row_L31' {E : zcx_T} {a : Int}   {N : Nat} {h : zs_H} {x1 : Int32} {x2 : Int32} {x3 : Int32} (H : zcx_P E a h) : zcx_2 E a (f_Ps_row_L31  N h x1 x2 x3) := cx_f_Ps_row_L31  N h x1 x2 x3 H
theorem cx_f_Ps_row {E : zcx_T} {a : Int} {h : zs_H}  (H : zcx_P E a h) : zcx_2 E a (f_Ps_row h) := by
  unfold f_Ps_row
  repeat' first
    | with_reducible assumption
    | with_reducible exact zcx_2n
    | with_reducible refine zcx_2s ?_
    | with_reducible refine zcx_2i ?_ ?_
    | with_reducible refine cx_f_Tr_add ?_ ?_
    | with_reducible refine zcx_B2e (cx_f_Tr_add ?_ ?_) ?_
    | with_reducible refine cx_f_Ps_ladderCell  ?_
    | with_reducible refine zcx_B2e (cx_f_Ps_ladderCell  ?_) ?_
    | with_reducible refine cx_f_Tr_hang  ?_
    | with_reducible refine zcx_B2e (cx_f_Tr_hang  ?_) ?_
    | with_reducible refine cx_f_Ps_row_L31'  ?_
    | with_reducible refine zcx_B2e (cx_f_Ps_row_L31'  ?_) ?_
    | intro _
    | decide +kernel
