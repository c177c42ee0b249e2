/-! CX: the class's reader, part 2. -/
theorem cx_f_Ps_type {E : zcx_T} {a : Int} {h : zs_H}  (H : zcx_P E a h) : zcx_2 E a (f_Ps_type h) := by
  unfold f_Ps_type
  repeat' first
    | with_reducible assumption
    | with_reducible exact zcx_2n
    | with_reducible refine zcx_2s ?_
    | with_reducible refine zcx_2i ?_ ?_
    | with_reducible refine cx_f_Tr_add ?_ ?_
    | with_reducible refine zcx_B2e (cx_f_Tr_add ?_ ?_) ?_
    | with_reducible refine cx_f_Ps_take  ?_
    | with_reducible refine zcx_b2e (cx_f_Ps_take  ?_) ?_
    | with_reducible refine cx_f_Ps_constant  ?_
    | with_reducible refine zcx_B2e (cx_f_Ps_constant  ?_) ?_
    | with_reducible refine cx_f_Tr_hang  ?_
    | with_reducible refine zcx_B2e (cx_f_Tr_hang  ?_) ?_
    | with_reducible refine cx_f_Ps_simpleType  ?_
    | with_reducible refine zcx_B2e (cx_f_Ps_simpleType  ?_) ?_
    | intro _
    | decide +kernel
theorem cx_f_Ps_declaration_231 {E : zcx_T} {a : Int} {h : zs_H} {x1 : Int32}  (H : zcx_P E a h) : zcx_2 E a (f_Ps_declaration_231 h x1) := by
  unfold f_Ps_declaration_231
  repeat' first
    | with_reducible assumption
    | with_reducible exact zcx_2n
    | with_reducible refine zcx_2s ?_
    | with_reducible refine zcx_2i ?_ ?_
    | with_reducible refine cx_f_Ps_take  ?_
    | with_reducible refine zcx_b2e (cx_f_Ps_take  ?_) ?_
    | intro _
theorem cx_f_Ps_declaration_184 {E : zcx_T} {a : Int} {h : zs_H} {x1 : Int32} {x2 : Int32}  (H : zcx_P E a h) : zcx_2 E a (f_Ps_declaration_184 h x1 x2) := by
  unfold f_Ps_declaration_184
  repeat' first
    | with_reducible assumption
    | with_reducible exact zcx_2n
    | with_reducible refine zcx_2s ?_
    | with_reducible refine zcx_2i ?_ ?_
    | with_reducible refine cx_f_Ps_take  ?_
    | with_reducible refine zcx_b2e (cx_f_Ps_take  ?_) ?_
    | with_reducible refine cx_f_Ps_type  ?_
    | with_reducible refine zcx_B2e (cx_f_Ps_type  ?_) ?_
    | with_reducible refine cx_f_Tr_hang  ?_
    | with_reducible refine zcx_B2e (cx_f_Tr_hang  ?_) ?_
    | with_reducible refine cx_f_Ps_constant  ?_
    | with_reducible refine zcx_B2e (cx_f_Ps_constant  ?_) ?_
    | with_reducible refine cx_f_Ps_declaration_231  ?_
    | with_reducible refine zcx_B2e (cx_f_Ps_declaration_231  ?_) ?_
    | intro _
theorem cx_f_Ps_declaration_126 {E : zcx_T} {a : Int} {h : zs_H} {x1 : Int32} {x2 : Int32}  (H : zcx_P E a h) : zcx_2 E a (f_Ps_declaration_126 h x1 x2) := by
  unfold f_Ps_declaration_126
  repeat' first
    | with_reducible assumption
    | with_reducible exact zcx_2n
    | with_reducible refine zcx_2s ?_
    | with_reducible refine zcx_2i ?_ ?_
    | with_reducible refine cx_f_Ps_take  ?_
    | with_reducible refine zcx_b2e (cx_f_Ps_take  ?_) ?_
    | with_reducible refine cx_f_Tr_add ?_ ?_
    | with_reducible refine zcx_B2e (cx_f_Tr_add ?_ ?_) ?_
    | with_reducible refine cx_f_Tr_hang  ?_
    | with_reducible refine zcx_B2e (cx_f_Tr_hang  ?_) ?_
    | with_reducible refine cx_f_Ps_declaration_184  ?_
    | with_reducible refine zcx_B2e (cx_f_Ps_declaration_184  ?_) ?_
    | intro _
    | decide +kernel
theorem cx_f_Ps_declaration_57 {E : zcx_T} {a : Int} {k57 : zs_H → Int32 → Int32 → Int32 → (Option (Int32 × zs_H))} {h : zs_H} {x1 : Int32} {x2 : Int32} {x3 : Int32} (H_k57 : ∀ z0 z1 z2 z3, zcx_P E a z0 → zcx_2 E a (k57 z0 z1 z2 z3)) (H : zcx_P E a h) : zcx_2 E a (f_Ps_declaration_57 k57 h x1 x2 x3) := by
  unfold f_Ps_declaration_57
  repeat' first
    | with_reducible assumption
    | with_reducible exact zcx_2n
    | with_reducible refine zcx_2s ?_
    | with_reducible refine zcx_2i ?_ ?_
    | with_reducible refine cx_f_Ps_declaration_126  ?_
    | with_reducible refine zcx_B2e (cx_f_Ps_declaration_126  ?_) ?_
    | with_reducible refine cx_f_Ps_take  ?_
    | with_reducible refine zcx_b2e (cx_f_Ps_take  ?_) ?_
    | with_reducible refine cx_f_Tr_add ?_ ?_
    | with_reducible refine zcx_B2e (cx_f_Tr_add ?_ ?_) ?_
    | with_reducible refine cx_f_Tr_hang  ?_
    | with_reducible refine zcx_B2e (cx_f_Tr_hang  ?_) ?_
    | with_reducible exact H_k57
    | with_reducible refine H_k57 _ _ _ _ ?_
    | with_reducible refine zcx_B2e (H_k57 _ _ _ _ ?_) ?_
    | intro _
    | decide +kernel
theorem cx_f_Ps_declaration_L57 {E : zcx_T} {a : Int}   : ∀ (N : Nat) (h : zs_H) (x1 : Int32) (x2 : Int32) (x3 : Int32), zcx_P E a h → zcx_2 E a (f_Ps_declaration_L57  N h x1 x2 x3) := by
  intro N
  induction N with
  | zero => intro h x1 x2 x3 _; exact zcx_2n
  | succ N ih =>
    intro h x1 x2 x3 H
    exact cx_f_Ps_declaration_57  (fun b0 b1 b2 b3 z => ih b0 b1 b2 b3 z) H
theorem cx_f_Ps_declaration_L57' {E : zcx_T} {a : Int}   {N : Nat} {h : zs_H} {x1 : Int32} {x2 : Int32} {x3 : Int32} (H : zcx_P E a h) : zcx_2 E a (f_Ps_declaration_L57  N h x1 x2 x3) := cx_f_Ps_declaration_L57  N h x1 x2 x3 H
theorem cx_f_Ps_declaration {E : zcx_T} {a : Int} {h : zs_H}  (H : zcx_P E a h) : zcx_2 E a (f_Ps_declaration h) := by
  unfold f_Ps_declaration
  repeat' first
    | with_reducible assumption
    | with_reducible exact zcx_2n
    | with_reducible refine zcx_2s ?_
    | with_reducible refine zcx_2i ?_ ?_
    | with_reducible refine cx_f_Tr_add ?_ ?_
    | with_reducible refine zcx_B2e (cx_f_Tr_add ?_ ?_) ?_
    | with_reducible refine cx_f_Tr_hang  ?_
    | with_reducible refine zcx_B2e (cx_f_Tr_hang  ?_) ?_
    | with_reducible refine cx_f_Ps_take  ?_
    | with_reducible refine zcx_b2e (cx_f_Ps_take  ?_) ?_
    | with_reducible refine cx_f_Ps_declaration_L57'  ?_
    | with_reducible refine zcx_B2e (cx_f_Ps_declaration_L57'  ?_) ?_
    | intro _
    | decide +kernel
theorem cx_f_Ps_section_69 {E : zcx_T} {a : Int} {h : zs_H} {x1 : Int32}  (H : zcx_P E a h) : zcx_2 E a (f_Ps_section_69 h x1) := by
  unfold f_Ps_section_69
  repeat' first
    | with_reducible assumption
    | with_reducible exact zcx_2n
    | with_reducible refine zcx_2s ?_
    | with_reducible refine zcx_2i ?_ ?_
    | with_reducible refine cx_f_Ps_take  ?_
    | with_reducible refine zcx_b2e (cx_f_Ps_take  ?_) ?_
    | intro _
theorem cx_f_Ps_section_33 {E : zcx_T} {a : Int} {k33 : zs_H → Int32 → Int32 → Int32 → (Option (Int32 × zs_H))} {h : zs_H} {x1 : Int32} {x2 : Int32} {x3 : Int32} (H_k33 : ∀ z0 z1 z2 z3, zcx_P E a z0 → zcx_2 E a (k33 z0 z1 z2 z3)) (H : zcx_P E a h) : zcx_2 E a (f_Ps_section_33 k33 h x1 x2 x3) := by
  unfold f_Ps_section_33
  repeat' first
    | with_reducible assumption
    | with_reducible exact zcx_2n
    | with_reducible refine zcx_2s ?_
    | with_reducible refine zcx_2i ?_ ?_
    | with_reducible refine cx_f_Ps_section_69  ?_
    | with_reducible refine zcx_B2e (cx_f_Ps_section_69  ?_) ?_
    | with_reducible refine cx_f_Ps_declaration  ?_
    | with_reducible refine zcx_B2e (cx_f_Ps_declaration  ?_) ?_
    | with_reducible refine cx_f_Tr_hang  ?_
    | with_reducible refine zcx_B2e (cx_f_Tr_hang  ?_) ?_
    | with_reducible exact H_k33
    | with_reducible refine H_k33 _ _ _ _ ?_
    | with_reducible refine zcx_B2e (H_k33 _ _ _ _ ?_) ?_
    | intro _
theorem cx_f_Ps_section_L33 {E : zcx_T} {a : Int}   : ∀ (N : Nat) (h : zs_H) (x1 : Int32) (x2 : Int32) (x3 : Int32), zcx_P E a h → zcx_2 E a (f_Ps_section_L33  N h x1 x2 x3) := by
  intro N
  induction N with
  | zero => intro h x1 x2 x3 _; exact zcx_2n
  | succ N ih =>
    intro h x1 x2 x3 H
    exact cx_f_Ps_section_33  (fun b0 b1 b2 b3 z => ih b0 b1 b2 b3 z) H
theorem cx_f_Ps_section_L33' {E : zcx_T} {a : Int}   {N : Nat} {h : zs_H} {x1 : Int32} {x2 : Int32} {x3 : Int32} (H : zcx_P E a h) : zcx_2 E a (f_Ps_section_L33  N h x1 x2 x3) := cx_f_Ps_section_L33  N h x1 x2 x3 H
theorem cx_f_Ps_section {E : zcx_T} {a : Int} {h : zs_H}  (H : zcx_P E a h) : zcx_2 E a (f_Ps_section h) := by
  unfold f_Ps_section
  repeat' first
    | with_reducible assumption
    | with_reducible exact zcx_2n
    | with_reducible refine zcx_2s ?_
    | with_reducible refine zcx_2i ?_ ?_
    | with_reducible refine cx_f_Tr_add ?_ ?_
    | with_reducible refine zcx_B2e (cx_f_Tr_add ?_ ?_) ?_
    | with_reducible refine cx_f_Ps_take  ?_
    | with_reducible refine zcx_b2e (cx_f_Ps_take  ?_) ?_
    | with_reducible refine cx_f_Ps_section_L33'  ?_
    | with_reducible refine zcx_B2e (cx_f_Ps_section_L33'  ?_) ?_
    | intro _
    | decide +kernel
theorem cx_f_Ps_coil_92 {E : zcx_T} {a : Int} {h : zs_H} {x1 : Int32}  (H : zcx_P E a h) : zcx_2 E a (f_Ps_coil_92 h x1) := by
  unfold f_Ps_coil_92
  repeat' first
    | with_reducible assumption
    | with_reducible exact zcx_2n
    | with_reducible refine zcx_2s ?_
    | with_reducible refine zcx_2i ?_ ?_
    | with_reducible refine cx_f_Tr_add ?_ ?_
    | with_reducible refine zcx_B2e (cx_f_Tr_add ?_ ?_) ?_
    | with_reducible refine cx_f_Tr_hang  ?_
    | with_reducible refine zcx_B2e (cx_f_Tr_hang  ?_) ?_
    | with_reducible refine cx_f_Ps_take  ?_
    | with_reducible refine zcx_b2e (cx_f_Ps_take  ?_) ?_
    | intro _
    | decide +kernel
theorem cx_f_Ps_coil_83 {E : zcx_T} {a : Int} {h : zs_H} {x1 : Int32} {y0 : Int32} {y1 : Int32}  (H : zcx_P E a h) : zcx_2 E a (f_Ps_coil_83 h x1 y0 y1) := by
  unfold f_Ps_coil_83
  repeat' first
    | with_reducible assumption
    | (with_reducible refine zcx_uM ?_ ?_; · decide)
    | with_reducible exact zcx_2n
    | with_reducible refine zcx_2s ?_
    | with_reducible refine zcx_2i ?_ ?_
    | with_reducible refine cx_f_Ps_take  ?_
    | with_reducible refine zcx_b2e (cx_f_Ps_take  ?_) ?_
    | with_reducible refine cx_f_Ps_coil_92  ?_
    | with_reducible refine zcx_B2e (cx_f_Ps_coil_92  ?_) ?_
    | intro _
