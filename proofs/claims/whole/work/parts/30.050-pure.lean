section
/-! CX: the class's reader, part 2. -/
theorem cx_f_Ps_type {E : zcx_T} {a : Int} {h : zs_H}  (H : zcx_P E a h) : zcx_2 E a (f_Ps_type h) := by
  unfold f_Ps_type
  exact (zcx_2i (fun _ => (zcx_2i (fun _ => (zcx_B2e (cx_f_Tr_add (zcx_kI (by decide +kernel)) H) (fun v39 h40 H_h40 => (zcx_b2e (cx_f_Ps_take H_h40) (fun h42 H_h42 => (zcx_2s H_h42)))))) (fun _ => zcx_2n))) (fun _ => (zcx_2i (fun _ => (zcx_B2e (cx_f_Tr_add (zcx_kI (by decide +kernel)) H) (fun v4 h5 H_h5 => (zcx_b2e (cx_f_Ps_take H_h5) (fun h7 H_h7 => (zcx_b2e (cx_f_Ps_take H_h7) (fun h9 H_h9 => (zcx_B2e (cx_f_Ps_constant  H_h9) (fun v11 h12 H_h12 => (zcx_B2e (cx_f_Tr_hang  H_h12) (fun v14 h15 H_h15 => (zcx_b2e (cx_f_Ps_take H_h15) (fun h17 H_h17 => (zcx_B2e (cx_f_Ps_constant  H_h17) (fun v19 h20 H_h20 => (zcx_B2e (cx_f_Tr_hang  H_h20) (fun v22 h23 H_h23 => (zcx_b2e (cx_f_Ps_take H_h23) (fun h25 H_h25 => (zcx_b2e (cx_f_Ps_take H_h25) (fun h27 H_h27 => (zcx_B2e (cx_f_Ps_simpleType  H_h27) (fun v29 h30 H_h30 => (zcx_B2e (cx_f_Tr_hang  H_h30) (fun v32 h33 H_h33 => (zcx_2s H_h33)))))))))))))))))))))))))) (fun _ => (zcx_B2e (cx_f_Ps_simpleType  H) (fun v35 h36 H_h36 => (zcx_2s H_h36)))))))
theorem cx_f_Ps_declaration_231 {E : zcx_T} {a : Int} {h : zs_H} {x1 : Int32}  (H : zcx_P E a h) : zcx_2 E a (f_Ps_declaration_231 h x1) := by
  unfold f_Ps_declaration_231
  exact (zcx_b2e (cx_f_Ps_take H) (fun h2 H_h2 => (zcx_2s H_h2)))
theorem cx_f_Ps_declaration_184 {E : zcx_T} {a : Int} {h : zs_H} {x1 : Int32} {x2 : Int32}  (H : zcx_P E a h) : zcx_2 E a (f_Ps_declaration_184 h x1 x2) := by
  unfold f_Ps_declaration_184
  exact (zcx_b2e (cx_f_Ps_take H) (fun h2 H_h2 => (zcx_B2e (cx_f_Ps_type  H_h2) (fun v4 h5 H_h5 => (zcx_B2e (cx_f_Tr_hang  H_h5) (fun v7 h8 H_h8 => (zcx_2i (fun _ => (zcx_b2e (cx_f_Ps_take H_h8) (fun h11 H_h11 => (zcx_B2e (cx_f_Ps_constant  H_h11) (fun v13 h14 H_h14 => (zcx_B2e (cx_f_Tr_hang  H_h14) (fun v16 h17 H_h17 => (cx_f_Ps_declaration_231  H_h17)))))))) (fun _ => (cx_f_Ps_declaration_231  H_h8)))))))))
theorem cx_f_Ps_declaration_126 {E : zcx_T} {a : Int} {h : zs_H} {x1 : Int32} {x2 : Int32}  (H : zcx_P E a h) : zcx_2 E a (f_Ps_declaration_126 h x1 x2) := by
  unfold f_Ps_declaration_126
  exact (zcx_2i (fun _ => (zcx_b2e (cx_f_Ps_take H) (fun h3 H_h3 => (zcx_2i (fun _ => (zcx_B2e (cx_f_Tr_add (zcx_kI (by decide +kernel)) H_h3) (fun v6 h7 H_h7 => (zcx_B2e (cx_f_Tr_hang  H_h7) (fun v9 h10 H_h10 => (zcx_b2e (cx_f_Ps_take H_h10) (fun h12 H_h12 => (cx_f_Ps_declaration_184  H_h12)))))))) (fun _ => zcx_2n))))) (fun _ => (cx_f_Ps_declaration_184  H)))
theorem cx_f_Ps_declaration_57 {E : zcx_T} {a : Int} {k57 : zs_H → Int32 → Int32 → Int32 → (Option (Int32 × zs_H))} {h : zs_H} {x1 : Int32} {x2 : Int32} {x3 : Int32} (H_k57 : ∀ z0 z1 z2 z3, zcx_P E a z0 → zcx_2 E a (k57 z0 z1 z2 z3)) (H : zcx_P E a h) : zcx_2 E a (f_Ps_declaration_57 k57 h x1 x2 x3) := by
  unfold f_Ps_declaration_57
  exact (zcx_2i (fun _ => (cx_f_Ps_declaration_126  H)) (fun _ => (zcx_2i (fun _ => (zcx_b2e (cx_f_Ps_take H) (fun h4 H_h4 => (zcx_2i (fun _ => (zcx_B2e (cx_f_Tr_add (zcx_kI (by decide +kernel)) H_h4) (fun v7 h8 H_h8 => (zcx_B2e (cx_f_Tr_hang  H_h8) (fun v10 h11 H_h11 => (zcx_b2e (cx_f_Ps_take H_h11) (fun h13 H_h13 => (H_k57 _ _ _ _ H_h13)))))))) (fun _ => zcx_2n))))) (fun _ => (cx_f_Ps_declaration_126  H)))))
theorem cx_f_Ps_declaration_L57 {E : zcx_T} {a : Int}   : ∀ (N : Nat) (h : zs_H) (x1 : Int32) (x2 : Int32) (x3 : Int32), zcx_P E a h → zcx_2 E a (f_Ps_declaration_L57  N h x1 x2 x3) := by
  intro N
  induction N with
  | zero => intro h x1 x2 x3 _; exact zcx_2n
  | succ N ih =>
    intro h x1 x2 x3 H
    exact cx_f_Ps_declaration_57  (fun b0 b1 b2 b3 z => ih b0 b1 b2 b3 z) H
theorem cx_f_Ps_declaration_L57' {E : zcx_T} {a : Int}   {N : Nat} {h : zs_H} {x1 : Int32} {x2 : Int32} {x3 : Int32} (H : zcx_P E a h) : zcx_2 E a (f_Ps_declaration_L57  N h x1 x2 x3) := cx_f_Ps_declaration_L57  N h x1 x2 x3 H
theorem cx_f_Ps_declaration {E : zcx_T} {a : Int} {h : zs_H}  (H : zcx_P E a h) : zcx_2 E a (f_Ps_declaration h) := by
  unfold f_Ps_declaration
  exact (zcx_B2e (cx_f_Tr_add (zcx_kI (by decide +kernel)) H) (fun v2 h3 H_h3 => (zcx_2i (fun _ => (zcx_B2e (cx_f_Tr_add (zcx_kI (by decide +kernel)) H_h3) (fun v6 h7 H_h7 => (zcx_B2e (cx_f_Tr_hang  H_h7) (fun v9 h10 H_h10 => (zcx_b2e (cx_f_Ps_take H_h10) (fun h12 H_h12 => (cx_f_Ps_declaration_L57'  H_h12)))))))) (fun _ => zcx_2n))))
theorem cx_f_Ps_section_69 {E : zcx_T} {a : Int} {h : zs_H} {x1 : Int32}  (H : zcx_P E a h) : zcx_2 E a (f_Ps_section_69 h x1) := by
  unfold f_Ps_section_69
  exact (zcx_b2e (cx_f_Ps_take H) (fun h2 H_h2 => (zcx_2s H_h2)))
theorem cx_f_Ps_section_33 {E : zcx_T} {a : Int} {k33 : zs_H → Int32 → Int32 → Int32 → (Option (Int32 × zs_H))} {h : zs_H} {x1 : Int32} {x2 : Int32} {x3 : Int32} (H_k33 : ∀ z0 z1 z2 z3, zcx_P E a z0 → zcx_2 E a (k33 z0 z1 z2 z3)) (H : zcx_P E a h) : zcx_2 E a (f_Ps_section_33 k33 h x1 x2 x3) := by
  unfold f_Ps_section_33
  exact (zcx_2i (fun _ => (cx_f_Ps_section_69  H)) (fun _ => (zcx_2i (fun _ => (zcx_B2e (cx_f_Ps_declaration  H) (fun v4 h5 H_h5 => (zcx_B2e (cx_f_Tr_hang  H_h5) (fun v7 h8 H_h8 => (H_k33 _ _ _ _ H_h8)))))) (fun _ => (cx_f_Ps_section_69  H)))))
theorem cx_f_Ps_section_L33 {E : zcx_T} {a : Int}   : ∀ (N : Nat) (h : zs_H) (x1 : Int32) (x2 : Int32) (x3 : Int32), zcx_P E a h → zcx_2 E a (f_Ps_section_L33  N h x1 x2 x3) := by
  intro N
  induction N with
  | zero => intro h x1 x2 x3 _; exact zcx_2n
  | succ N ih =>
    intro h x1 x2 x3 H
    exact cx_f_Ps_section_33  (fun b0 b1 b2 b3 z => ih b0 b1 b2 b3 z) H
theorem cx_f_Ps_section_L33' {E : zcx_T} {a : Int}   {N : Nat} {h : zs_H} {x1 : Int32} {x2 : Int32} {x3 : Int32} (H : zcx_P E a h) : zcx_2 E a (f_Ps_section_L33  N h x1 x2 x3) := cx_f_Ps_section_L33  N h x1 x2 x3 H
theorem cx_f_Ps_section {E : zcx_T} {a : Int} {h : zs_H}  (H : zcx_P E a h) : zcx_2 E a (f_Ps_section h) := by
  unfold f_Ps_section
  exact (zcx_B2e (cx_f_Tr_add (zcx_kI (by decide +kernel)) H) (fun v2 h3 H_h3 => (zcx_b2e (cx_f_Ps_take H_h3) (fun h5 H_h5 => (cx_f_Ps_section_L33'  H_h5)))))
theorem cx_f_Ps_coil_92 {E : zcx_T} {a : Int} {h : zs_H} {x1 : Int32}  (H : zcx_P E a h) : zcx_2 E a (f_Ps_coil_92 h x1) := by
  unfold f_Ps_coil_92
  exact (zcx_2i (fun _ => (zcx_B2e (cx_f_Tr_add (zcx_kI (by decide +kernel)) H) (fun v3 h4 H_h4 => (zcx_B2e (cx_f_Tr_hang  H_h4) (fun v6 h7 H_h7 => (zcx_b2e (cx_f_Ps_take H_h7) (fun h9 H_h9 => (zcx_b2e (cx_f_Ps_take H_h9) (fun h11 H_h11 => (zcx_2s H_h11)))))))))) (fun _ => zcx_2n))
theorem cx_f_Ps_coil_83 {E : zcx_T} {a : Int} {h : zs_H} {x1 : Int32} {y0 : Int32} {y1 : Int32}  (H : zcx_P E a h) : zcx_2 E a (f_Ps_coil_83 h x1 y0 y1) := by
  unfold f_Ps_coil_83
  exact (zcx_2i (fun _ => (zcx_b2e (cx_f_Ps_take (zcx_uM (by decide) H)) (fun h3 H_h3 => (cx_f_Ps_coil_92  H_h3)))) (fun _ => zcx_2n))
theorem cx_f_Ps_coil_48 {E : zcx_T} {a : Int} {h : zs_H} {x1 : Int32}  (H : zcx_P E a h) : zcx_2 E a (f_Ps_coil_48 h x1) := by
  unfold f_Ps_coil_48
  exact (zcx_2i (fun _ => (cx_f_Ps_coil_83  H)) (fun _ => (zcx_2i (fun _ => (cx_f_Ps_coil_83  H)) (fun _ => (cx_f_Ps_coil_83  H)))))
theorem cx_f_Ps_coil {E : zcx_T} {a : Int} {h : zs_H}  (H : zcx_P E a h) : zcx_2 E a (f_Ps_coil h) := by
  unfold f_Ps_coil
  exact (zcx_B2e (cx_f_Tr_add (zcx_kI (by decide +kernel)) H) (fun v2 h3 H_h3 => (zcx_b2e (cx_f_Ps_take H_h3) (fun h5 H_h5 => (zcx_2i (fun _ => (cx_f_Ps_coil_48  H_h5)) (fun _ => (zcx_2i (fun _ => (cx_f_Ps_coil_48  H_h5)) (fun _ => (zcx_2i (fun _ => (cx_f_Ps_coil_48  H_h5)) (fun _ => (cx_f_Ps_coil_92  H_h5)))))))))))
theorem cx_f_Ps_ladderCell_52 {E : zcx_T} {a : Int} {h : zs_H} {y0 : Int32} (Hk : zcx_k y0)  (H : zcx_P E a h) : zcx_2 E a (f_Ps_ladderCell_52 h y0) := by
  unfold f_Ps_ladderCell_52
  exact (zcx_B2e (cx_f_Tr_add Hk H) (fun v2 h3 H_h3 => (zcx_b2e (cx_f_Ps_take H_h3) (fun h5 H_h5 => (zcx_2s H_h5)))))
theorem cx_f_Ps_ladderCell_32 {E : zcx_T} {a : Int} {h : zs_H}  (H : zcx_P E a h) : zcx_2 E a (f_Ps_ladderCell_32 h) := by
  unfold f_Ps_ladderCell_32
  exact (zcx_2i (fun _ => (cx_f_Ps_ladderCell_52 (zcx_kI (by decide +kernel)) H)) (fun _ => (cx_f_Ps_ladderCell_52 (zcx_kI (by decide +kernel)) H)))
theorem cx_f_Ps_ladderCell_153 {E : zcx_T} {a : Int} {h : zs_H} {x1 : Int32}  (H : zcx_P E a h) : zcx_2 E a (f_Ps_ladderCell_153 h x1) := by
  unfold f_Ps_ladderCell_153
  exact (zcx_2i (fun _ => (zcx_B2e (cx_f_Tr_add (zcx_kI (by decide +kernel)) H) (fun v3 h4 H_h4 => (zcx_b2e (cx_f_Ps_take H_h4) (fun h6 H_h6 => (zcx_B2e (cx_f_Tr_hang  H_h6) (fun v8 h9 H_h9 => (zcx_2i (fun _ => (zcx_2i (fun _ => (zcx_b2e (cx_f_Ps_take (zcx_uK (by decide +kernel) H_h9)) (fun h13 H_h13 => (zcx_2i (fun _ => (zcx_B2e (cx_f_Tr_add (zcx_kI (by decide +kernel)) H_h13) (fun v16 h17 H_h17 => (zcx_B2e (cx_f_Tr_hang  H_h17) (fun v19 h20 H_h20 => (zcx_b2e (cx_f_Ps_take H_h20) (fun h22 H_h22 => (zcx_2s H_h22)))))))) (fun _ => zcx_2n))))) (fun _ => zcx_2n))) (fun _ => (zcx_2s H_h9)))))))))) (fun _ => zcx_2n))
theorem cx_f_Ps_ladderCell_150 {E : zcx_T} {a : Int} {h : zs_H} {x1 : Int32} {y0 : Int32}  (H : zcx_P E a h) : zcx_2 E a (f_Ps_ladderCell_150 h x1 y0) := by
  unfold f_Ps_ladderCell_150
  exact (zcx_b2e (cx_f_Ps_take H) (fun h2 H_h2 => (cx_f_Ps_ladderCell_153  H_h2)))
end
section
/-! CX: the class's reader, part 3. -/
theorem cx_f_Ps_ladderCell_121 {E : zcx_T} {a : Int} {h : zs_H} {y0 : Int32} {y1 : Int32} {y2 : Int32} (Hk : zcx_k y2)  (H : zcx_P E a h) : zcx_2 E a (f_Ps_ladderCell_121 h y0 y1 y2) := by
  unfold f_Ps_ladderCell_121
  exact (zcx_B2e (cx_f_Tr_add Hk H) (fun v2 h3 H_h3 => (zcx_2i (fun _ => (cx_f_Ps_ladderCell_153  H_h3)) (fun _ => (zcx_2i (fun _ => (cx_f_Ps_ladderCell_150  H_h3)) (fun _ => (cx_f_Ps_ladderCell_150  H_h3)))))))
theorem cx_f_Ps_ladderCell {E : zcx_T} {a : Int} {h : zs_H}  (H : zcx_P E a h) : zcx_2 E a (f_Ps_ladderCell h) := by
  unfold f_Ps_ladderCell
  exact (zcx_2i (fun _ => (zcx_B2e (cx_f_Ps_coil  H) (fun v8 h9 H_h9 => (zcx_2s H_h9)))) (fun _ => (zcx_2i (fun _ => (cx_f_Ps_ladderCell_32  H)) (fun _ => (zcx_2i (fun _ => (cx_f_Ps_ladderCell_32  H)) (fun _ => (zcx_2i (fun _ => (cx_f_Ps_ladderCell_121 (zcx_kI (by decide +kernel)) H)) (fun _ => (zcx_2i (fun _ => (cx_f_Ps_ladderCell_121 (zcx_kI (by decide +kernel)) H)) (fun _ => (zcx_2i (fun _ => (cx_f_Ps_ladderCell_121 (zcx_kI (by decide +kernel)) H)) (fun _ => (cx_f_Ps_ladderCell_121 (zcx_kI (by decide +kernel)) H)))))))))))))
theorem cx_f_Ps_row_93 {E : zcx_T} {a : Int} {k31 : zs_H → Int32 → Int32 → Int32 → (Option (Int32 × zs_H))} {h : zs_H} {x1 : Int32} {x2 : Int32} {x3 : Int32} (H_k31 : ∀ z0 z1 z2 z3, zcx_P E a z0 → zcx_2 E a (k31 z0 z1 z2 z3)) (H : zcx_P E a h) : zcx_2 E a (f_Ps_row_93 k31 h x1 x2 x3) := by
  unfold f_Ps_row_93
  exact (zcx_B2e (cx_f_Ps_ladderCell  H) (fun v2 h3 H_h3 => (zcx_B2e (cx_f_Tr_hang  H_h3) (fun v5 h6 H_h6 => (H_k31 _ _ _ _ H_h6)))))
theorem cx_f_Ps_row_54 {E : zcx_T} {a : Int} {k31 : zs_H → Int32 → Int32 → Int32 → (Option (Int32 × zs_H))} {h : zs_H} {x1 : Int32} {x2 : Int32} {x3 : Int32} (H_k31 : ∀ z0 z1 z2 z3, zcx_P E a z0 → zcx_2 E a (k31 z0 z1 z2 z3)) (H : zcx_P E a h) : zcx_2 E a (f_Ps_row_54 k31 h x1 x2 x3) := by
  unfold f_Ps_row_54
  exact (zcx_2i (fun _ => (zcx_B2e (cx_f_Tr_add (zcx_kI (by decide +kernel)) H) (fun v3 h4 H_h4 => (zcx_B2e (cx_f_Tr_hang  H_h4) (fun v6 h7 H_h7 => (zcx_b2e (cx_f_Ps_take H_h7) (fun h9 H_h9 => (cx_f_Ps_row_93 H_k31 H_h9)))))))) (fun _ => (cx_f_Ps_row_93 H_k31 H)))
theorem cx_f_Ps_row_113 {E : zcx_T} {a : Int} {h : zs_H} {x1 : Int32}  (H : zcx_P E a h) : zcx_2 E a (f_Ps_row_113 h x1) := by
  unfold f_Ps_row_113
  exact (zcx_b2e (cx_f_Ps_take H) (fun h2 H_h2 => (zcx_2s H_h2)))
theorem cx_f_Ps_row_31 {E : zcx_T} {a : Int} {k31 : zs_H → Int32 → Int32 → Int32 → (Option (Int32 × zs_H))} {h : zs_H} {x1 : Int32} {x2 : Int32} {x3 : Int32} (H_k31 : ∀ z0 z1 z2 z3, zcx_P E a z0 → zcx_2 E a (k31 z0 z1 z2 z3)) (H : zcx_P E a h) : zcx_2 E a (f_Ps_row_31 k31 h x1 x2 x3) := by
  unfold f_Ps_row_31
  exact (zcx_2i (fun _ => (cx_f_Ps_row_113  H)) (fun _ => (zcx_2i (fun _ => (cx_f_Ps_row_54 H_k31 H)) (fun _ => (zcx_2i (fun _ => (cx_f_Ps_row_113  H)) (fun _ => (cx_f_Ps_row_54 H_k31 H)))))))
theorem cx_f_Ps_row_L31 {E : zcx_T} {a : Int}   : ∀ (N : Nat) (h : zs_H) (x1 : Int32) (x2 : Int32) (x3 : Int32), zcx_P E a h → zcx_2 E a (f_Ps_row_L31  N h x1 x2 x3) := by
  intro N
  induction N with
  | zero => intro h x1 x2 x3 _; exact zcx_2n
  | succ N ih =>
    intro h x1 x2 x3 H
    exact cx_f_Ps_row_31  (fun b0 b1 b2 b3 z => ih b0 b1 b2 b3 z) H
theorem cx_f_Ps_row_L31' {E : zcx_T} {a : Int}   {N : Nat} {h : zs_H} {x1 : Int32} {x2 : Int32} {x3 : Int32} (H : zcx_P E a h) : zcx_2 E a (f_Ps_row_L31  N h x1 x2 x3) := cx_f_Ps_row_L31  N h x1 x2 x3 H
theorem cx_f_Ps_row {E : zcx_T} {a : Int} {h : zs_H}  (H : zcx_P E a h) : zcx_2 E a (f_Ps_row h) := by
  unfold f_Ps_row
  exact (zcx_B2e (cx_f_Tr_add (zcx_kI (by decide +kernel)) H) (fun v2 h3 H_h3 => (zcx_B2e (cx_f_Ps_ladderCell  H_h3) (fun v5 h6 H_h6 => (zcx_B2e (cx_f_Tr_hang  H_h6) (fun v8 h9 H_h9 => (cx_f_Ps_row_L31'  H_h9)))))))
theorem cx_f_Ps_ladder_123 {E : zcx_T} {a : Int} {k26 : zs_H → Int32 → Int32 → Int32 → (Option (Int32 × zs_H))} {h : zs_H} {x1 : Int32} {x2 : Int32} {x3 : Int32} {x4 : Int32} (H_k26 : ∀ z0 z1 z2 z3, zcx_P E a z0 → zcx_2 E a (k26 z0 z1 z2 z3)) (H : zcx_P E a h) : zcx_2 E a (f_Ps_ladder_123 k26 h x1 x2 x3 x4) := by
  unfold f_Ps_ladder_123
  exact (zcx_b2e (cx_f_Ps_take H) (fun h2 H_h2 => (zcx_B2e (cx_f_Tr_hang  H_h2) (fun v4 h5 H_h5 => (H_k26 _ _ _ _ H_h5)))))
theorem cx_f_Ps_ladder_85 {E : zcx_T} {a : Int} {k26 : zs_H → Int32 → Int32 → Int32 → (Option (Int32 × zs_H))} {k85 : zs_H → Int32 → Int32 → Int32 → Int32 → Int32 → Int32 → (Option (Int32 × zs_H))} {h : zs_H} {x1 : Int32} {x2 : Int32} {x3 : Int32} {x4 : Int32} {x5 : Int32} {x6 : Int32} (H_k26 : ∀ z0 z1 z2 z3, zcx_P E a z0 → zcx_2 E a (k26 z0 z1 z2 z3)) (H_k85 : ∀ z0 z1 z2 z3 z4 z5 z6, zcx_P E a z0 → zcx_2 E a (k85 z0 z1 z2 z3 z4 z5 z6)) (H : zcx_P E a h) : zcx_2 E a (f_Ps_ladder_85 k26 k85 h x1 x2 x3 x4 x5 x6) := by
  unfold f_Ps_ladder_85
  exact (zcx_2i (fun _ => (cx_f_Ps_ladder_123 H_k26 H)) (fun _ => (zcx_2i (fun _ => (cx_f_Ps_ladder_123 H_k26 H)) (fun _ => (zcx_B2e (cx_f_Ps_row  H) (fun v5 h6 H_h6 => (zcx_B2e (cx_f_Tr_hang  H_h6) (fun v8 h9 H_h9 => (H_k85 _ _ _ _ _ _ _ H_h9)))))))))
theorem cx_f_Ps_ladder_L85 {E : zcx_T} {a : Int} {k26 : zs_H → Int32 → Int32 → Int32 → (Option (Int32 × zs_H))} (H_k26 : ∀ z0 z1 z2 z3, zcx_P E a z0 → zcx_2 E a (k26 z0 z1 z2 z3)) : ∀ (N : Nat) (h : zs_H) (x1 : Int32) (x2 : Int32) (x3 : Int32) (x4 : Int32) (x5 : Int32) (x6 : Int32), zcx_P E a h → zcx_2 E a (f_Ps_ladder_L85 k26 N h x1 x2 x3 x4 x5 x6) := by
  intro N
  induction N with
  | zero => intro h x1 x2 x3 x4 x5 x6 _; exact zcx_2n
  | succ N ih =>
    intro h x1 x2 x3 x4 x5 x6 H
    exact cx_f_Ps_ladder_85 H_k26 (fun b0 b1 b2 b3 b4 b5 b6 z => ih b0 b1 b2 b3 b4 b5 b6 z) H
theorem cx_f_Ps_ladder_L85' {E : zcx_T} {a : Int} {k26 : zs_H → Int32 → Int32 → Int32 → (Option (Int32 × zs_H))} (H_k26 : ∀ z0 z1 z2 z3, zcx_P E a z0 → zcx_2 E a (k26 z0 z1 z2 z3)) {N : Nat} {h : zs_H} {x1 : Int32} {x2 : Int32} {x3 : Int32} {x4 : Int32} {x5 : Int32} {x6 : Int32} (H : zcx_P E a h) : zcx_2 E a (f_Ps_ladder_L85 k26 N h x1 x2 x3 x4 x5 x6) := cx_f_Ps_ladder_L85 H_k26 N h x1 x2 x3 x4 x5 x6 H
theorem cx_f_Ps_ladder_148 {E : zcx_T} {a : Int} {h : zs_H} {x1 : Int32}  (H : zcx_P E a h) : zcx_2 E a (f_Ps_ladder_148 h x1) := by
  unfold f_Ps_ladder_148
  exact (zcx_b2e (cx_f_Ps_take H) (fun h2 H_h2 => (zcx_2s H_h2)))
theorem cx_f_Ps_ladder_26 {E : zcx_T} {a : Int} {k26 : zs_H → Int32 → Int32 → Int32 → (Option (Int32 × zs_H))} {h : zs_H} {x1 : Int32} {x2 : Int32} {x3 : Int32} (H_k26 : ∀ z0 z1 z2 z3, zcx_P E a z0 → zcx_2 E a (k26 z0 z1 z2 z3)) (H : zcx_P E a h) : zcx_2 E a (f_Ps_ladder_26 k26 h x1 x2 x3) := by
  unfold f_Ps_ladder_26
  exact (zcx_2i (fun _ => (cx_f_Ps_ladder_148  H)) (fun _ => (zcx_2i (fun _ => (zcx_B2e (cx_f_Tr_add (zcx_kI (by decide +kernel)) H) (fun v4 h5 H_h5 => (zcx_b2e (cx_f_Ps_take H_h5) (fun h7 H_h7 => (zcx_B2e (cx_f_Ps_row  H_h7) (fun v9 h10 H_h10 => (zcx_B2e (cx_f_Tr_hang  H_h10) (fun v12 h13 H_h13 => (cx_f_Ps_ladder_L85' H_k26 H_h13)))))))))) (fun _ => (cx_f_Ps_ladder_148  H)))))
theorem cx_f_Ps_ladder_L26 {E : zcx_T} {a : Int}   : ∀ (N : Nat) (h : zs_H) (x1 : Int32) (x2 : Int32) (x3 : Int32), zcx_P E a h → zcx_2 E a (f_Ps_ladder_L26  N h x1 x2 x3) := by
  intro N
  induction N with
  | zero => intro h x1 x2 x3 _; exact zcx_2n
  | succ N ih =>
    intro h x1 x2 x3 H
    exact cx_f_Ps_ladder_26  (fun b0 b1 b2 b3 z => ih b0 b1 b2 b3 z) H
theorem cx_f_Ps_ladder_L26' {E : zcx_T} {a : Int}   {N : Nat} {h : zs_H} {x1 : Int32} {x2 : Int32} {x3 : Int32} (H : zcx_P E a h) : zcx_2 E a (f_Ps_ladder_L26  N h x1 x2 x3) := cx_f_Ps_ladder_L26  N h x1 x2 x3 H
theorem cx_f_Ps_ladder {E : zcx_T} {a : Int} {h : zs_H}  (H : zcx_P E a h) : zcx_2 E a (f_Ps_ladder h) := by
  unfold f_Ps_ladder
  exact (zcx_B2e (cx_f_Tr_add (zcx_kI (by decide +kernel)) H) (fun v2 h3 H_h3 => (zcx_b2e (cx_f_Ps_take H_h3) (fun h5 H_h5 => (cx_f_Ps_ladder_L26'  H_h5)))))
theorem cx_f_Ps_expression_13 {E : zcx_T} {a : Int} {r_Ps_expression : zs_H → Int32 → (Option (Int32 × zs_H))} {k13 : zs_H → Int32 → Int32 → Int32 → Int32 → (Option (Int32 × zs_H))} {h : zs_H} {x1 : Int32} {x2 : Int32} {x3 : Int32} {x4 : Int32} (H_r_Ps_expression : ∀ z0 z1, zcx_P E a z0 → zcx_2 E a (r_Ps_expression z0 z1)) (H_k13 : ∀ z0 z1 z2 z3 z4, zcx_P E a z0 → zcx_2 E a (k13 z0 z1 z2 z3 z4)) (H : zcx_P E a h) : zcx_2 E a (f_Ps_expression_13 r_Ps_expression k13 h x1 x2 x3 x4) := by
  unfold f_Ps_expression_13
  exact (zcx_2i (fun _ => (zcx_2s H)) (fun _ => (zcx_2i (fun _ => (zcx_2s H)) (fun _ => (zcx_2i (fun _ => (zcx_2i (fun _ => (zcx_2s H)) (fun _ => (zcx_B2e (cx_f_Tr_add (zcx_kI (by decide +kernel)) H) (fun v6 h7 H_h7 => (zcx_b2e (cx_f_Ps_deepen H_h7) (fun h9 H_h9 => (zcx_b2e (cx_f_Ps_take H_h9) (fun h11 H_h11 => (zcx_B2e (cx_f_Tr_hang  H_h11) (fun v13 h14 H_h14 => (zcx_2i (fun _ => (zcx_B2e (H_r_Ps_expression _ _ H_h14) (fun v17 h18 H_h18 => (zcx_B2e (cx_f_Tr_hang  H_h18) (fun v20 h21 H_h21 => (H_k13 _ _ _ _ _ H_h21)))))) (fun _ => zcx_2n))))))))))))) (fun _ => zcx_2n))))))
theorem cx_f_Ps_expression_L13 {E : zcx_T} {a : Int} {r_Ps_expression : zs_H → Int32 → (Option (Int32 × zs_H))} (H_r_Ps_expression : ∀ z0 z1, zcx_P E a z0 → zcx_2 E a (r_Ps_expression z0 z1)) : ∀ (N : Nat) (h : zs_H) (x1 : Int32) (x2 : Int32) (x3 : Int32) (x4 : Int32), zcx_P E a h → zcx_2 E a (f_Ps_expression_L13 r_Ps_expression N h x1 x2 x3 x4) := by
  intro N
  induction N with
  | zero => intro h x1 x2 x3 x4 _; exact zcx_2n
  | succ N ih =>
    intro h x1 x2 x3 x4 H
    exact cx_f_Ps_expression_13 H_r_Ps_expression (fun b0 b1 b2 b3 b4 z => ih b0 b1 b2 b3 b4 z) H
end
section
/-! CX: the class's reader, part 4. -/
theorem cx_f_Ps_expression_L13' {E : zcx_T} {a : Int} {r_Ps_expression : zs_H → Int32 → (Option (Int32 × zs_H))} (H_r_Ps_expression : ∀ z0 z1, zcx_P E a z0 → zcx_2 E a (r_Ps_expression z0 z1)) {N : Nat} {h : zs_H} {x1 : Int32} {x2 : Int32} {x3 : Int32} {x4 : Int32} (H : zcx_P E a h) : zcx_2 E a (f_Ps_expression_L13 r_Ps_expression N h x1 x2 x3 x4) := cx_f_Ps_expression_L13 H_r_Ps_expression N h x1 x2 x3 x4 H
theorem cx_g_Ps_expression {E : zcx_T} {a : Int} {r_Ps_expression : zs_H → Int32 → (Option (Int32 × zs_H))} {r_Ps_operand : zs_H → (Option (Int32 × zs_H))} {h : zs_H} {x1 : Int32} (H_r_Ps_expression : ∀ z0 z1, zcx_P E a z0 → zcx_2 E a (r_Ps_expression z0 z1)) (H_r_Ps_operand : ∀ z0, zcx_P E a z0 → zcx_2 E a (r_Ps_operand z0)) (H : zcx_P E a h) : zcx_2 E a (g_Ps_expression r_Ps_expression r_Ps_operand h x1) := by
  unfold g_Ps_expression
  exact (zcx_B2e (H_r_Ps_operand _ H) (fun v2 h3 H_h3 => (cx_f_Ps_expression_L13' H_r_Ps_expression H_h3)))
theorem cx_f_Ps_namedOperand_268 {E : zcx_T} {a : Int} {r_Ps_expression : zs_H → Int32 → (Option (Int32 × zs_H))} {k216 : zs_H → Int32 → Int32 → Int32 → Int32 → (Option (Int32 × zs_H))} {h : zs_H} {x1 : Int32} {x2 : Int32} {x3 : Int32} {x4 : Int32} (H_r_Ps_expression : ∀ z0 z1, zcx_P E a z0 → zcx_2 E a (r_Ps_expression z0 z1)) (H_k216 : ∀ z0 z1 z2 z3 z4, zcx_P E a z0 → zcx_2 E a (k216 z0 z1 z2 z3 z4)) (H : zcx_P E a h) : zcx_2 E a (f_Ps_namedOperand_268 r_Ps_expression k216 h x1 x2 x3 x4) := by
  unfold f_Ps_namedOperand_268
  exact (H_k216 _ _ _ _ _ H)
theorem cx_f_Ps_namedOperand_257 {E : zcx_T} {a : Int} {r_Ps_expression : zs_H → Int32 → (Option (Int32 × zs_H))} {k216 : zs_H → Int32 → Int32 → Int32 → Int32 → (Option (Int32 × zs_H))} {h : zs_H} {x1 : Int32} {x2 : Int32} {x4 : Int32} {y0 : Int32} (H_r_Ps_expression : ∀ z0 z1, zcx_P E a z0 → zcx_2 E a (r_Ps_expression z0 z1)) (H_k216 : ∀ z0 z1 z2 z3 z4, zcx_P E a z0 → zcx_2 E a (k216 z0 z1 z2 z3 z4)) (H : zcx_P E a h) : zcx_2 E a (f_Ps_namedOperand_257 r_Ps_expression k216 h x1 x2 x4 y0) := by
  unfold f_Ps_namedOperand_257
  exact (zcx_2i (fun _ => (cx_f_Ps_namedOperand_268 H_r_Ps_expression H_k216 H)) (fun _ => (zcx_b2e (cx_f_Ps_take H) (fun h3 H_h3 => (cx_f_Ps_namedOperand_268 H_r_Ps_expression H_k216 H_h3)))))
theorem cx_f_Ps_namedOperand_274 {E : zcx_T} {a : Int} {h : zs_H} {x1 : Int32}  (H : zcx_P E a h) : zcx_2 E a (f_Ps_namedOperand_274 h x1) := by
  unfold f_Ps_namedOperand_274
  exact (zcx_b2e (cx_f_Ps_take H) (fun h2 H_h2 => (zcx_2s (zcx_uF (by decide) H_h2))))
theorem cx_f_Ps_namedOperand_216 {E : zcx_T} {a : Int} {r_Ps_expression : zs_H → Int32 → (Option (Int32 × zs_H))} {k216 : zs_H → Int32 → Int32 → Int32 → Int32 → (Option (Int32 × zs_H))} {h : zs_H} {x1 : Int32} {x2 : Int32} {x3 : Int32} {x4 : Int32} (H_r_Ps_expression : ∀ z0 z1, zcx_P E a z0 → zcx_2 E a (r_Ps_expression z0 z1)) (H_k216 : ∀ z0 z1 z2 z3 z4, zcx_P E a z0 → zcx_2 E a (k216 z0 z1 z2 z3 z4)) (H : zcx_P E a h) : zcx_2 E a (f_Ps_namedOperand_216 r_Ps_expression k216 h x1 x2 x3 x4) := by
  unfold f_Ps_namedOperand_216
  exact (zcx_2i (fun _ => (cx_f_Ps_namedOperand_274  H)) (fun _ => (zcx_2i (fun _ => (cx_f_Ps_namedOperand_274  H)) (fun _ => (zcx_B2e (H_r_Ps_expression _ _ H) (fun v4 h5 H_h5 => (zcx_B2e (cx_f_Tr_hang  H_h5) (fun v7 h8 H_h8 => (zcx_2i (fun _ => (cx_f_Ps_namedOperand_257 H_r_Ps_expression H_k216 H_h8)) (fun _ => (cx_f_Ps_namedOperand_257 H_r_Ps_expression H_k216 H_h8)))))))))))
theorem cx_f_Ps_namedOperand_L216 {E : zcx_T} {a : Int} {r_Ps_expression : zs_H → Int32 → (Option (Int32 × zs_H))} (H_r_Ps_expression : ∀ z0 z1, zcx_P E a z0 → zcx_2 E a (r_Ps_expression z0 z1)) : ∀ (N : Nat) (h : zs_H) (x1 : Int32) (x2 : Int32) (x3 : Int32) (x4 : Int32), zcx_P E a h → zcx_2 E a (f_Ps_namedOperand_L216 r_Ps_expression N h x1 x2 x3 x4) := by
  intro N
  induction N with
  | zero => intro h x1 x2 x3 x4 _; exact zcx_2n
  | succ N ih =>
    intro h x1 x2 x3 x4 H
    exact cx_f_Ps_namedOperand_216 H_r_Ps_expression (fun b0 b1 b2 b3 b4 z => ih b0 b1 b2 b3 b4 z) H
theorem cx_f_Ps_namedOperand_L216' {E : zcx_T} {a : Int} {r_Ps_expression : zs_H → Int32 → (Option (Int32 × zs_H))} (H_r_Ps_expression : ∀ z0 z1, zcx_P E a z0 → zcx_2 E a (r_Ps_expression z0 z1)) {N : Nat} {h : zs_H} {x1 : Int32} {x2 : Int32} {x3 : Int32} {x4 : Int32} (H : zcx_P E a h) : zcx_2 E a (f_Ps_namedOperand_L216 r_Ps_expression N h x1 x2 x3 x4) := cx_f_Ps_namedOperand_L216 H_r_Ps_expression N h x1 x2 x3 x4 H
theorem cx_f_Ps_namedOperand_212 {E : zcx_T} {a : Int} {r_Ps_expression : zs_H → Int32 → (Option (Int32 × zs_H))} {h : zs_H} {x1 : Int32} {x2 : Int32} {y0 : Int32} (H_r_Ps_expression : ∀ z0 z1, zcx_P E a z0 → zcx_2 E a (r_Ps_expression z0 z1)) (H : zcx_P E a h) : zcx_2 E a (f_Ps_namedOperand_212 r_Ps_expression h x1 x2 y0) := by
  unfold f_Ps_namedOperand_212
  exact (cx_f_Ps_namedOperand_L216' H_r_Ps_expression H)
theorem cx_g_Ps_namedOperand {E : zcx_T} {a : Int} {r_Ps_expression : zs_H → Int32 → (Option (Int32 × zs_H))} {h : zs_H} (H_r_Ps_expression : ∀ z0 z1, zcx_P E a z0 → zcx_2 E a (r_Ps_expression z0 z1)) (H : zcx_P E a h) : zcx_2 E a (g_Ps_namedOperand r_Ps_expression h) := by
  unfold g_Ps_namedOperand
  exact (zcx_2i (fun _ => (zcx_B2e (cx_f_Tr_add (zcx_kI (by decide +kernel)) H) (fun v3 h4 H_h4 => (zcx_b2e (cx_f_Ps_take H_h4) (fun h6 H_h6 => (zcx_2i (fun _ => (zcx_2i (fun _ => (zcx_b2e (cx_f_Ps_take (zcx_uK (by decide +kernel) H_h6)) (fun h31 H_h31 => (zcx_2i (fun _ => (zcx_B2e (cx_f_Tr_add (zcx_kI (by decide +kernel)) H_h31) (fun v34 h35 H_h35 => (zcx_B2e (cx_f_Tr_hang  H_h35) (fun v37 h38 H_h38 => (zcx_b2e (cx_f_Ps_take H_h38) (fun h40 H_h40 => (zcx_2s H_h40)))))))) (fun _ => zcx_2n))))) (fun _ => zcx_2n))) (fun _ => (zcx_2i (fun _ => (zcx_2i (fun _ => (zcx_b2e (cx_f_Ps_deepen (zcx_uK (by decide +kernel) H_h6)) (fun h18 H_h18 => (zcx_b2e (cx_f_Ps_take H_h18) (fun h20 H_h20 => (zcx_B2e (H_r_Ps_expression _ _ H_h20) (fun v22 h23 H_h23 => (zcx_B2e (cx_f_Tr_hang  H_h23) (fun v25 h26 H_h26 => (zcx_b2e (cx_f_Ps_take H_h26) (fun h28 H_h28 => (zcx_2s (zcx_uF (by decide) H_h28))))))))))))) (fun _ => zcx_2n))) (fun _ => (zcx_2i (fun _ => (zcx_2i (fun _ => (zcx_b2e (cx_f_Ps_deepen (zcx_uK (by decide +kernel) H_h6)) (fun h12 H_h12 => (zcx_b2e (cx_f_Ps_take H_h12) (fun h14 H_h14 => (zcx_2i (fun _ => (cx_f_Ps_namedOperand_212 H_r_Ps_expression H_h14)) (fun _ => (cx_f_Ps_namedOperand_212 H_r_Ps_expression H_h14)))))))) (fun _ => zcx_2n))) (fun _ => (zcx_2s H_h6)))))))))))) (fun _ => zcx_2n))
theorem cx_f_Ps_operand_189 {E : zcx_T} {a : Int} {h : zs_H} {y0 : Int32} {y1 : Int32} {y2 : Int32} (Hk : zcx_k y2)  (H : zcx_P E a h) : zcx_2 E a (f_Ps_operand_189 h y0 y1 y2) := by
  unfold f_Ps_operand_189
  exact (zcx_B2e (cx_f_Tr_add Hk H) (fun v2 h3 H_h3 => (zcx_b2e (cx_f_Ps_take H_h3) (fun h5 H_h5 => (zcx_2s H_h5)))))
theorem cx_f_Ps_operand_88 {E : zcx_T} {a : Int} {r_Ps_operand : zs_H → (Option (Int32 × zs_H))} {h : zs_H} {y0 : Int32} {y1 : Int32} {y2 : Int32} (Hk : zcx_k y2) (H_r_Ps_operand : ∀ z0, zcx_P E a z0 → zcx_2 E a (r_Ps_operand z0)) (H : zcx_P E a h) : zcx_2 E a (f_Ps_operand_88 r_Ps_operand h y0 y1 y2) := by
  unfold f_Ps_operand_88
  exact (zcx_B2e (cx_f_Tr_add Hk H) (fun v2 h3 H_h3 => (zcx_b2e (cx_f_Ps_deepen H_h3) (fun h5 H_h5 => (zcx_b2e (cx_f_Ps_take H_h5) (fun h7 H_h7 => (zcx_B2e (H_r_Ps_operand _ H_h7) (fun v9 h10 H_h10 => (zcx_B2e (cx_f_Tr_hang  H_h10) (fun v12 h13 H_h13 => (zcx_2s (zcx_uF (by decide) H_h13))))))))))))
theorem cx_g_Ps_operand {E : zcx_T} {a : Int} {r_Ps_expression : zs_H → Int32 → (Option (Int32 × zs_H))} {r_Ps_namedOperand : zs_H → (Option (Int32 × zs_H))} {r_Ps_operand : zs_H → (Option (Int32 × zs_H))} {h : zs_H} (H_r_Ps_expression : ∀ z0 z1, zcx_P E a z0 → zcx_2 E a (r_Ps_expression z0 z1)) (H_r_Ps_namedOperand : ∀ z0, zcx_P E a z0 → zcx_2 E a (r_Ps_namedOperand z0)) (H_r_Ps_operand : ∀ z0, zcx_P E a z0 → zcx_2 E a (r_Ps_operand z0)) (H : zcx_P E a h) : zcx_2 E a (g_Ps_operand r_Ps_expression r_Ps_namedOperand r_Ps_operand h) := by
  unfold g_Ps_operand
  exact (zcx_2i (fun _ => (zcx_B2e (H_r_Ps_namedOperand _ H) (fun v3 h4 H_h4 => (zcx_2s H_h4)))) (fun _ => (zcx_2i (fun _ => (zcx_b2e (cx_f_Ps_deepen H) (fun h7 H_h7 => (zcx_b2e (cx_f_Ps_take H_h7) (fun h9 H_h9 => (zcx_B2e (H_r_Ps_expression _ _ H_h9) (fun v11 h12 H_h12 => (zcx_b2e (cx_f_Ps_take H_h12) (fun h14 H_h14 => (zcx_2s (zcx_uF (by decide) H_h14))))))))))) (fun _ => (zcx_2i (fun _ => (zcx_2i (fun _ => (cx_f_Ps_operand_88 (zcx_kI (by decide +kernel)) H_r_Ps_operand H)) (fun _ => (cx_f_Ps_operand_88 (zcx_kI (by decide +kernel)) H_r_Ps_operand H)))) (fun _ => (zcx_2i (fun _ => (zcx_2i (fun _ => (cx_f_Ps_operand_88 (zcx_kI (by decide +kernel)) H_r_Ps_operand H)) (fun _ => (cx_f_Ps_operand_88 (zcx_kI (by decide +kernel)) H_r_Ps_operand H)))) (fun _ => (zcx_2i (fun _ => (zcx_2i (fun _ => (cx_f_Ps_operand_189 (zcx_kI (by decide +kernel)) H)) (fun _ => (cx_f_Ps_operand_189 (zcx_kI (by decide +kernel)) H)))) (fun _ => (zcx_2i (fun _ => (zcx_2i (fun _ => (cx_f_Ps_operand_189 (zcx_kI (by decide +kernel)) H)) (fun _ => (cx_f_Ps_operand_189 (zcx_kI (by decide +kernel)) H)))) (fun _ => (zcx_2i (fun _ => (zcx_B2e (cx_f_Tr_add (zcx_kI (by decide +kernel)) H) (fun v25 h26 H_h26 => (zcx_b2e (cx_f_Ps_take H_h26) (fun h28 H_h28 => (zcx_2s H_h28)))))) (fun _ => zcx_2n))))))))))))))
theorem cx_rec1 {E : zcx_T} {a : Int} : ∀ d, (∀ h x, zcx_P E a h → zcx_2 E a (f_Ps_expression d h x)) ∧ (∀ h, zcx_P E a h → zcx_2 E a (f_Ps_namedOperand d h)) ∧ (∀ h, zcx_P E a h → zcx_2 E a (f_Ps_operand d h)) := by
  intro d
  induction d with
  | zero => exact ⟨fun _ _ _ => zcx_2n, fun _ _ => zcx_2n, fun _ _ => zcx_2n⟩
  | succ d ih =>
    obtain ⟨p, q, r⟩ := ih
    rw [zy_e, zy_n, zy_o]
    exact ⟨fun h x H => cx_g_Ps_expression p r H, fun h H => cx_g_Ps_namedOperand p H, fun h H => cx_g_Ps_operand p q r H⟩
end
section
/-! CX: the class's reader, part 5. -/
theorem cx_f_Ps_expression {E : zcx_T} {a : Int} {d : Nat} {h : zs_H} {x : Int32} (H : zcx_P E a h) : zcx_2 E a (f_Ps_expression d h x) := (cx_rec1 d).1 h x H
theorem cx_f_Ps_wholeExpression {E : zcx_T} {a : Int} {h : zs_H}  (H : zcx_P E a h) : zcx_2 E a (f_Ps_wholeExpression h) := by
  unfold f_Ps_wholeExpression
  exact (zcx_B2e (cx_f_Ps_expression H) (fun v2 h3 H_h3 => (zcx_2s (zcx_uF (by decide) H_h3))))
theorem cx_ranges_L7 {E : zcx_T} : ∀ (N i : Nat) (h : zs_H) (x1 x2 x3 : Int32), (x3 = 0 → zcx_P E 2 h) → (¬ x3 = 0 → zcx_P E (2 * (i : Int)) h) → i ≤ 16384 → zcx_2 E 2 (f_Ps_ranges_L7 N h x1 x2 x3 (nI i)) := by
  intro N
  induction N with
  | zero => intro i h x1 x2 x3 _ _ _; exact zcx_2n
  | succ N ih =>
    intro i h x1 x2 x3 h0 h1 hi
    show zcx_2 E 2 (f_Ps_ranges_7 (f_Ps_ranges_L7 N) h x1 x2 x3 (nI i))
    unfold f_Ps_ranges_7
    refine zcx_2i (fun c => ?_) (fun c => ?_)
    · have hi : 16384 ≤ i := (zc_le (k := 16384) (by decide) (by omega)).mp c
      refine zcx_2s ?_
      by_cases z : x3 = 0
      · exact h0 z
      · exact zcx_big (h1 z) (by omega)
    · have hi : i < 16384 := by
        have := mt (zc_le (k := 16384) (t := i) (by decide) (by omega)).mpr c
        omega
      refine zcx_2i (fun z => zcx_2s (h0 z)) (fun z => ?_)
      have fin : ∀ (h : zs_H) (x1 x2 v : Int32), zcx_P E (2 * (i : Int) + 1) h → zcx_2 E 2 (f_Ps_ranges_80 (f_Ps_ranges_L7 N) h x1 x2 (nI i) v) := by
        intro h x1 x2 v H
        unfold f_Ps_ranges_80 f_Ps_ranges_106 f_Ps_ranges_119
        refine zcx_B2 (cx_f_Tr_hang H) ?_
        intro v2 h3 H3
        have go : ∀ y x3 : Int32, zcx_2 E 2 ((f_Ps_take h3 y).bind fun h2 => f_Ps_ranges_L7 N h2 x1 v2 x3 (nI i + 1)) := fun y x3 => by
          refine zcx_b2 (cx_take1 H3) ?_
          intro h2 H2
          rw [nI_1]
          exact ih (i + 1) h2 _ _ _ (fun _ => zcx_le H2 (by omega)) (fun _ => zcx_le H2 (by omega)) (by omega)
        exact zcx_2i (fun _ => zcx_2i (fun _ => go _ _) (fun _ => go _ _)) (fun _ => zcx_2i (fun _ => go _ _) (fun _ => go _ _))
      refine zcx_B2 (cx_f_Tr_add (zcx_kI (by decide +kernel)) (h1 z)) ?_
      intro v4 h5 H5
      refine zcx_B2 (cxp_constant H5) ?_
      intro v7 h8 H8
      refine zcx_B2 (cx_f_Tr_hang H8) ?_
      intro v10 h11 H11
      refine zcx_2i (fun _ => ?_) (fun _ => fin _ _ _ _ H11)
      refine zcx_b2 (cx_f_Ps_take H11) ?_
      intro h14 H14
      refine zcx_B2 (cx_f_Ps_constant H14) ?_
      intro v16 h17 H17
      refine zcx_B2 (cx_f_Tr_hang H17) ?_
      intro v19 h20 H20
      exact fin _ _ _ _ H20
theorem cx_ranges {E : zcx_T} {h : zs_H} {x1 : Int32} (H : zcx_P E 0 h) : zcx_2 E 2 (f_Ps_ranges h x1) := by
  unfold f_Ps_ranges
  exact cx_ranges_L7 zF 0 h x1 (-1) 1 (fun z => absurd z (by decide)) (fun _ => zcx_le H (by omega)) (by decide)
theorem cx_f_Ps_invocation_164 {E : zcx_T} {a : Int} {k62 : zs_H → Int32 → Int32 → Int32 → Int32 → (Option (Int32 × zs_H))} {h : zs_H} {x1 : Int32} {x2 : Int32} {x3 : Int32} {x4 : Int32} (H_k62 : ∀ z0 z1 z2 z3 z4, zcx_P E a z0 → zcx_2 E a (k62 z0 z1 z2 z3 z4)) (H : zcx_P E a h) : zcx_2 E a (f_Ps_invocation_164 k62 h x1 x2 x3 x4) := by
  unfold f_Ps_invocation_164
  exact (H_k62 _ _ _ _ _ H)
theorem cx_f_Ps_invocation_153 {E : zcx_T} {a : Int} {k62 : zs_H → Int32 → Int32 → Int32 → Int32 → (Option (Int32 × zs_H))} {h : zs_H} {x1 : Int32} {x2 : Int32} {x4 : Int32} {y0 : Int32} (H_k62 : ∀ z0 z1 z2 z3 z4, zcx_P E a z0 → zcx_2 E a (k62 z0 z1 z2 z3 z4)) (H : zcx_P E a h) : zcx_2 E a (f_Ps_invocation_153 k62 h x1 x2 x4 y0) := by
  unfold f_Ps_invocation_153
  exact (zcx_2i (fun _ => (cx_f_Ps_invocation_164 H_k62 H)) (fun _ => (zcx_b2e (cx_f_Ps_take H) (fun h3 H_h3 => (cx_f_Ps_invocation_164 H_k62 H_h3)))))
theorem cx_f_Ps_invocation_170 {E : zcx_T} {a : Int} {h : zs_H} {x1 : Int32}  (H : zcx_P E a h) : zcx_2 E a (f_Ps_invocation_170 h x1) := by
  unfold f_Ps_invocation_170
  exact (zcx_b2e (cx_f_Ps_take H) (fun h2 H_h2 => (zcx_2s (zcx_uF (by decide) H_h2))))
theorem cx_f_Ps_invocation_62 {E : zcx_T} {a : Int} {k62 : zs_H → Int32 → Int32 → Int32 → Int32 → (Option (Int32 × zs_H))} {h : zs_H} {x1 : Int32} {x2 : Int32} {x3 : Int32} {x4 : Int32} (H_k62 : ∀ z0 z1 z2 z3 z4, zcx_P E a z0 → zcx_2 E a (k62 z0 z1 z2 z3 z4)) (H : zcx_P E a h) : zcx_2 E a (f_Ps_invocation_62 k62 h x1 x2 x3 x4) := by
  unfold f_Ps_invocation_62
  exact (zcx_2i (fun _ => (cx_f_Ps_invocation_170  H)) (fun _ => (zcx_2i (fun _ => (cx_f_Ps_invocation_170  H)) (fun _ => (zcx_2i (fun _ => (zcx_B2e (cx_f_Tr_add (zcx_kI (by decide +kernel)) H) (fun v5 h6 H_h6 => (zcx_b2e (cx_f_Ps_take H_h6) (fun h8 H_h8 => (zcx_b2e (cx_f_Ps_take H_h8) (fun h10 H_h10 => (zcx_B2e (cx_f_Ps_wholeExpression  H_h10) (fun v12 h13 H_h13 => (zcx_B2e (cx_f_Tr_hang  H_h13) (fun v15 h16 H_h16 => (zcx_B2e (cx_f_Tr_hang  H_h16) (fun v18 h19 H_h19 => (zcx_2i (fun _ => (cx_f_Ps_invocation_153 H_k62 H_h19)) (fun _ => (cx_f_Ps_invocation_153 H_k62 H_h19)))))))))))))))) (fun _ => zcx_2n))))))
theorem cx_f_Ps_invocation_L62 {E : zcx_T} {a : Int}   : ∀ (N : Nat) (h : zs_H) (x1 : Int32) (x2 : Int32) (x3 : Int32) (x4 : Int32), zcx_P E a h → zcx_2 E a (f_Ps_invocation_L62  N h x1 x2 x3 x4) := by
  intro N
  induction N with
  | zero => intro h x1 x2 x3 x4 _; exact zcx_2n
  | succ N ih =>
    intro h x1 x2 x3 x4 H
    exact cx_f_Ps_invocation_62  (fun b0 b1 b2 b3 b4 z => ih b0 b1 b2 b3 b4 z) H
theorem cx_f_Ps_invocation_L62' {E : zcx_T} {a : Int}   {N : Nat} {h : zs_H} {x1 : Int32} {x2 : Int32} {x3 : Int32} {x4 : Int32} (H : zcx_P E a h) : zcx_2 E a (f_Ps_invocation_L62  N h x1 x2 x3 x4) := cx_f_Ps_invocation_L62  N h x1 x2 x3 x4 H
theorem cx_f_Ps_invocation_58 {E : zcx_T} {a : Int} {h : zs_H} {x1 : Int32} {x2 : Int32} {y0 : Int32}  (H : zcx_P E a h) : zcx_2 E a (f_Ps_invocation_58 h x1 x2 y0) := by
  unfold f_Ps_invocation_58
  exact (cx_f_Ps_invocation_L62'  H)
theorem cx_f_Ps_invocation {E : zcx_T} {a : Int} {h : zs_H}  (H : zcx_P E a h) : zcx_2 E a (f_Ps_invocation h) := by
  unfold f_Ps_invocation
  exact (zcx_2i (fun _ => (zcx_B2e (cx_f_Tr_add (zcx_kI (by decide +kernel)) H) (fun v3 h4 H_h4 => (zcx_b2e (cx_f_Ps_take H_h4) (fun h6 H_h6 => (zcx_b2e (cx_f_Ps_deepen H_h6) (fun h8 H_h8 => (zcx_b2e (cx_f_Ps_take H_h8) (fun h10 H_h10 => (zcx_2i (fun _ => (cx_f_Ps_invocation_58  H_h10)) (fun _ => (cx_f_Ps_invocation_58  H_h10)))))))))))) (fun _ => zcx_2n))
theorem cx_f_Ps_assignment_92 {E : zcx_T} {a : Int} {h : zs_H} {x1 : Int32}  (H : zcx_P E a h) : zcx_2 E a (f_Ps_assignment_92 h x1) := by
  unfold f_Ps_assignment_92
  exact (zcx_B2e (cx_f_Tr_add (zcx_kI (by decide +kernel)) H) (fun v2 h3 H_h3 => (zcx_b2e (cx_f_Ps_take H_h3) (fun h5 H_h5 => (zcx_B2e (cx_f_Tr_hang  H_h5) (fun v7 h8 H_h8 => (zcx_B2e (cx_f_Ps_wholeExpression  H_h8) (fun v10 h11 H_h11 => (zcx_B2e (cx_f_Tr_hang  H_h11) (fun v13 h14 H_h14 => (zcx_2s H_h14)))))))))))
theorem cx_f_Ps_assignment {E : zcx_T} {a : Int} {h : zs_H}  (H : zcx_P E a h) : zcx_2 E a (f_Ps_assignment h) := by
  unfold f_Ps_assignment
  exact (zcx_2i (fun _ => (zcx_B2e (cx_f_Tr_add (zcx_kI (by decide +kernel)) H) (fun v3 h4 H_h4 => (zcx_b2e (cx_f_Ps_take H_h4) (fun h6 H_h6 => (zcx_2i (fun _ => (zcx_2i (fun _ => (zcx_b2e (cx_f_Ps_deepen (zcx_uK (by decide +kernel) H_h6)) (fun h10 H_h10 => (zcx_b2e (cx_f_Ps_take H_h10) (fun h12 H_h12 => (zcx_B2e (cx_f_Ps_wholeExpression  H_h12) (fun v14 h15 H_h15 => (zcx_B2e (cx_f_Tr_hang  H_h15) (fun v17 h18 H_h18 => (zcx_b2e (cx_f_Ps_take H_h18) (fun h20 H_h20 => (cx_f_Ps_assignment_92  (zcx_uF (by decide) H_h20))))))))))))) (fun _ => zcx_2n))) (fun _ => (cx_f_Ps_assignment_92  H_h6)))))))) (fun _ => zcx_2n))
theorem cx_f_Ps_caseStatement_152 {E : zcx_T} {a : Int} {h : zs_H} {x1 : Int32}  (H : zcx_P E a h) : zcx_2 E a (f_Ps_caseStatement_152 h x1) := by
  unfold f_Ps_caseStatement_152
  exact (zcx_b2e (cx_f_Ps_take H) (fun h2 H_h2 => (zcx_2s (zcx_uF (by decide) H_h2))))
theorem cx_f_Ps_ifStatement_125 {E : zcx_T} {a : Int} {h : zs_H} {x1 : Int32}  (H : zcx_P E a h) : zcx_2 E a (f_Ps_ifStatement_125 h x1) := by
  unfold f_Ps_ifStatement_125
  exact (zcx_b2e (cx_f_Ps_take H) (fun h2 H_h2 => (zcx_2s (zcx_uF (by decide) H_h2))))
theorem cx_f_Ps_statement_103 {E : zcx_T} {a : Int} {h : zs_H} {y0 : Int32}  (H : zcx_P E a h) : zcx_2 E a (f_Ps_statement_103 h y0) := by
  unfold f_Ps_statement_103
  exact (zcx_2i (fun _ => (zcx_B2e (cx_f_Ps_assignment  H) (fun v3 h4 H_h4 => (zcx_2s H_h4)))) (fun _ => (zcx_B2e (cx_f_Ps_invocation  H) (fun v6 h7 H_h7 => (zcx_2s H_h7)))))
theorem cx_f_Ps_statement_102 {E : zcx_T} {a : Int} {h : zs_H}  (H : zcx_P E a h) : zcx_2 E a (f_Ps_statement_102 h) := by
  unfold f_Ps_statement_102
  exact (cx_f_Ps_statement_103  H)
section ZXT
variable {E : zcx_T} {h : zs_H} {r rc rf ri : zs_H → Option (Int32 × zs_H)}
abbrev zcx_R (E : zcx_T) (r : zs_H → Option (Int32 × zs_H)) : Prop := ∀ h, zcx_P E 2 h → zcx_2 E 0 (r h)
abbrev zcx_S (E : zcx_T) (r : zs_H → Option (Int32 × zs_H)) : Prop := ∀ h, zcx_P E 0 h → zcx_2 E 0 (r h)
theorem zcx_K0 {x : Int32} (hx : (128 : Int32) ≤ x) (H : zcx_P E 0 h) : zcx_1 E 2 (f_Ps_take h x) := cx_takeK hx H
theorem cx_case121 {x1 x2 : Int32} (Hr : zcx_R E r) (H : zcx_P E 0 h) : zcx_2 E 0 (f_Ps_caseStatement_121 r h x1 x2) := by
  unfold f_Ps_caseStatement_121
  refine zcx_2i (fun _ => ?_) (fun _ => cx_f_Ps_caseStatement_152 H)
  refine zcx_b2 (zcx_K0 (by decide) H) ?_
  intro h3 H3
  refine zcx_B2 (Hr _ H3) ?_
  intro v5 h6 H6
  refine zcx_B2 (cx_f_Tr_hang H6) ?_
  intro v8 h9 H9
  exact cx_f_Ps_caseStatement_152 H9
theorem cx_case49 (Hr : zcx_R E r) : ∀ (N : Nat) (h : zs_H) (x1 x2 x3 : Int32), zcx_P E 0 h → zcx_2 E 0 (f_Ps_caseStatement_L49 r N h x1 x2 x3) := by
  intro N
  induction N with
  | zero => intro h x1 x2 x3 _; exact zcx_2n
  | succ N ih =>
    intro h x1 x2 x3 H
    show zcx_2 E 0 (f_Ps_caseStatement_49 r (f_Ps_caseStatement_L49 r N) h x1 x2 x3)
    unfold f_Ps_caseStatement_49
    refine zcx_2i (fun _ => cx_case121 Hr H) (fun _ => zcx_2i (fun _ => cx_case121 Hr H) (fun _ => ?_))
    refine zcx_B2 (cx_f_Tr_add (zcx_kI (by decide +kernel)) H) ?_
    intro v5 h6 H6
    refine zcx_B2 (cx_f_Tr_hang H6) ?_
    intro v8 h9 H9
    refine zcx_B2 (cx_ranges H9) ?_
    intro v11 h12 H12
    refine zcx_B2 (Hr _ H12) ?_
    intro v14 h15 H15
    refine zcx_B2 (cx_f_Tr_hang H15) ?_
    intro v17 h18 H18
    exact ih _ _ _ _ H18
theorem cx_case (Hr : zcx_R E r) (H : zcx_P E 0 h) : zcx_2 E 0 (g_Ps_caseStatement r h) := by
  unfold g_Ps_caseStatement
  refine zcx_B2 (cx_f_Tr_add (zcx_kI (by decide +kernel)) H) ?_
  intro v2 h3 H3
  refine zcx_b2 (cx_f_Ps_deepen H3) ?_
  intro h5 H5
  refine zcx_b2 (cx_f_Ps_take H5) ?_
  intro h7 H7
  refine zcx_B2 (cx_f_Ps_wholeExpression H7) ?_
  intro v9 h10 H10
  refine zcx_B2 (cx_f_Tr_hang H10) ?_
  intro v12 h13 H13
  refine zcx_b2 (cx_f_Ps_take H13) ?_
  intro h15 H15
  exact cx_case49 Hr _ _ _ _ _ H15
theorem cx_for124 {x1 x2 : Int32} (Hr : zcx_R E r) (H : zcx_P E 0 h) : zcx_2 E 0 (f_Ps_forStatement_124 r h x1 x2) := by
  unfold f_Ps_forStatement_124
  refine zcx_b2 (zcx_K0 (by decide) H) ?_
  intro h3 H3
  refine zcx_B2 (Hr _ H3) ?_
  intro v5 h6 H6
  refine zcx_B2 (cx_f_Tr_hang H6) ?_
  intro v8 h9 H9
  refine zcx_b2 (cx_f_Ps_take H9) ?_
  intro h10 H10
  exact zcx_2s (zcx_uF (by decide) H10)
theorem cx_for (Hr : zcx_R E r) (H : zcx_P E 0 h) : zcx_2 E 0 (g_Ps_forStatement r h) := by
  unfold g_Ps_forStatement
  refine zcx_B2 (cx_f_Tr_add (zcx_kI (by decide +kernel)) H) ?_
  intro v2 h3 H3
  refine zcx_b2 (cx_f_Ps_deepen H3) ?_
  intro h5 H5
  refine zcx_b2 (cx_f_Ps_take H5) ?_
  intro h7 H7
  refine zcx_2i (fun _ => zcx_2i (fun _ => ?_) (fun _ => zcx_2n)) (fun _ => zcx_2n)
  refine zcx_b2 (cx_f_Ps_take (zcx_uM (by decide) H7)) ?_
  intro h11 H11
  refine zcx_b2 (cx_f_Ps_take H11) ?_
  intro h13 H13
  refine zcx_B2 (cx_f_Ps_constant H13) ?_
  intro v15 h16 H16
  refine zcx_B2 (cx_f_Tr_hang H16) ?_
  intro v18 h19 H19
  refine zcx_b2 (cx_f_Ps_take H19) ?_
  intro h21 H21
  refine zcx_B2 (cx_f_Ps_constant H21) ?_
  intro v23 h24 H24
  refine zcx_B2 (cx_f_Tr_hang H24) ?_
  intro v26 h27 H27
  refine zcx_2i (fun _ => ?_) (fun _ => cx_for124 Hr H27)
  refine zcx_b2 (cx_f_Ps_take H27) ?_
  intro h30 H30
  refine zcx_B2 (cx_f_Ps_constant H30) ?_
  intro v32 h33 H33
  refine zcx_B2 (cx_f_Tr_hang H33) ?_
  intro v35 h36 H36
  exact cx_for124 Hr H36
theorem cx_if94 {x1 x2 : Int32} (Hr : zcx_R E r) (H : zcx_P E 0 h) : zcx_2 E 0 (f_Ps_ifStatement_94 r h x1 x2) := by
  unfold f_Ps_ifStatement_94
  refine zcx_2i (fun _ => ?_) (fun _ => cx_f_Ps_ifStatement_125 H)
  refine zcx_b2 (zcx_K0 (by decide) H) ?_
  intro h3 H3
  refine zcx_B2 (Hr _ H3) ?_
  intro v5 h6 H6
  refine zcx_B2 (cx_f_Tr_hang H6) ?_
  intro v8 h9 H9
  exact cx_f_Ps_ifStatement_125 H9
theorem cx_if28 (Hr : zcx_R E r) : ∀ (N : Nat) (h : zs_H) (x1 x2 x3 x4 : Int32), zcx_P E 0 h → zcx_2 E 0 (f_Ps_ifStatement_L28 r N h x1 x2 x3 x4) := by
  intro N
  induction N with
  | zero => intro h x1 x2 x3 x4 _; exact zcx_2n
  | succ N ih =>
    intro h x1 x2 x3 x4 H
    show zcx_2 E 0 (f_Ps_ifStatement_28 r (f_Ps_ifStatement_L28 r N) h x1 x2 x3 x4)
    unfold f_Ps_ifStatement_28
    refine zcx_2i (fun _ => cx_if94 Hr H) (fun _ => zcx_2i (fun _ => ?_) (fun _ => cx_if94 Hr H))
    refine zcx_b2 (cx_f_Ps_take H) ?_
    intro h4 H4
    refine zcx_B2 (cx_f_Ps_wholeExpression H4) ?_
    intro v6 h7 H7
    refine zcx_B2 (cx_f_Tr_hang H7) ?_
    intro v9 h10 H10
    refine zcx_b2 (zcx_K0 (by decide) H10) ?_
    intro h12 H12
    refine zcx_B2 (Hr _ H12) ?_
    intro v14 h15 H15
    refine zcx_B2 (cx_f_Tr_hang H15) ?_
    intro v17 h18 H18
    exact ih _ _ _ _ _ H18
theorem cx_if (Hr : zcx_R E r) (H : zcx_P E 0 h) : zcx_2 E 0 (g_Ps_ifStatement r h) := by
  unfold g_Ps_ifStatement
  refine zcx_B2 (cx_f_Tr_add (zcx_kI (by decide +kernel)) H) ?_
  intro v2 h3 H3
  refine zcx_b2 (cx_f_Ps_deepen H3) ?_
  intro h5 H5
  exact cx_if28 Hr _ _ _ _ _ _ H5
theorem cx_statement (Hc : zcx_S E rc) (Hf : zcx_S E rf) (Hi : zcx_S E ri) (H : zcx_P E 0 h) : zcx_2 E 0 (g_Ps_statement rc rf ri h) := by
  unfold g_Ps_statement
  have w : ∀ (r : zs_H → Option (Int32 × zs_H)), zcx_S E r → zcx_2 E 0 (zd_B (r h) fun v7 h8 => (some (v7, h8))) := fun r Hr => by
    refine zcx_B2 (Hr _ H) ?_
    intro v h' H'
    exact zcx_2s H'
  refine zcx_2i (fun _ => zcx_2i (fun _ => cx_f_Ps_statement_102 H) (fun _ => zcx_2i (fun _ => zcx_2i (fun _ => cx_f_Ps_statement_103 H) (fun _ => cx_f_Ps_statement_102 H)) (fun _ => zcx_2n))) (fun _ => zcx_2i (fun _ => w _ Hi) (fun _ => zcx_2i (fun _ => w _ Hc) (fun _ => zcx_2i (fun _ => w _ Hf) (fun _ => zcx_2i (fun c => ?_) (fun _ => ?_)))))
  · unfold f_Ps_statement_141
    have A : zcx_2 E (-4) (f_Tr_add h 20 (h.1 19 6) 0) := zcx_add H (by rw [if_neg (by decide +kernel), if_pos (by decide +kernel)]; decide)
    intro x h' e
    cases q : f_Tr_add h 20 (h.1 19 6) 0 with
    | none => rw [q] at e; cases e
    | some p =>
      have t5 : p.2.1 19 5 = 156 := by
        unfold f_Tr_add at q
        split at q
        · cases q; exact c
        · cases q
      rw [q] at e
      have B := A p.1 p.2 q
      have e' : ((f_Ps_take p.2 (p.2.1 19 5)).bind fun h5 => some (p.1, h5)) = some (x, h') := e
      rw [t5] at e'
      exact zcx_b2 (cx_takeX B) (fun h5 H5 => zcx_2s (zcx_le H5 (by decide))) x h' e'
  · unfold f_Ps_statement_141
    refine zcx_B2 (cx_f_Tr_add (zcx_kI (by decide +kernel)) H) ?_
    intro v2 h3 H3
    refine zcx_b2 (cx_f_Ps_take H3) ?_
    intro h5 H5
    exact zcx_2s H5
theorem cx_statements (Hs : zcx_S E r) (H : zcx_P E 2 h) : zcx_2 E 0 (g_Ps_statements r h) := by
  have L : ∀ (N : Nat) (h : zs_H) (x1 x2 x3 : Int32), zcx_P E 0 h → zcx_2 E 0 (f_Ps_statements_L19 r N h x1 x2 x3) := by
    intro N
    induction N with
    | zero => intro h x1 x2 x3 _; exact zcx_2n
    | succ N ih =>
      intro h x1 x2 x3 H
      show zcx_2 E 0 (f_Ps_statements_19 r (f_Ps_statements_L19 r N) h x1 x2 x3)
      unfold f_Ps_statements_19
      have f56 : ∀ (h : zs_H) (x1 x2 x3 : Int32), zcx_P E 0 h → zcx_2 E 0 (f_Ps_statements_56 r (f_Ps_statements_L19 r N) h x1 x2 x3) := fun h x1 x2 x3 H => by
        unfold f_Ps_statements_56
        refine zcx_b2 (cx_f_Ps_take H) ?_
        intro h2 H2
        exact ih _ _ _ _ H2
      refine zcx_2i (fun _ => zcx_2s H) (fun _ => zcx_2i (fun _ => zcx_2s H) (fun _ => zcx_2i (fun _ => f56 _ _ _ _ H) (fun _ => ?_)))
      refine zcx_B2 (Hs _ H) ?_
      intro v6 h7 H7
      refine zcx_B2 (cx_f_Tr_hang H7) ?_
      intro v9 h10 H10
      exact f56 _ _ _ _ H10
  unfold g_Ps_statements
  have A : zcx_2 E 0 (f_Tr_add h 11 (h.1 19 6) 0) := zcx_add H (by rw [if_pos (by decide +kernel), if_neg (by decide +kernel)]; decide)
  refine zcx_B2 A ?_
  intro v2 h3 H3
  exact L _ _ _ _ _ H3
theorem cx_rec2 : ∀ d, zcx_S E (f_Ps_caseStatement d) ∧ zcx_S E (f_Ps_forStatement d) ∧ zcx_S E (f_Ps_ifStatement d) ∧ zcx_S E (f_Ps_statement d) ∧ zcx_R E (f_Ps_statements d) := by
  intro d
  induction d with
  | zero => exact ⟨fun _ _ => zcx_2n, fun _ _ => zcx_2n, fun _ _ => zcx_2n, fun _ _ => zcx_2n, fun _ _ => zcx_2n⟩
  | succ d ih =>
    obtain ⟨a, b, c, e, f⟩ := ih
    rw [zy_ps, zy_pt, zy_pi, zy_pc, zy_pf]
    exact ⟨fun h H => cx_case f H, fun h H => cx_for f H, fun h H => cx_if f H, fun h H => cx_statement a b c H, fun h H => cx_statements e H⟩
end ZXT
end
section
/-! CX: the class's reader, part 6. -/
theorem cx_f_Ps_block_184 {E : zcx_T} {a : Int} {h : zs_H} {x1 : Int32} {x3 : Int32} {y0 : Int32} {y1 : Int32} {y2 : Int32}  (H : zcx_P E a h) : zcx_2 E a (f_Ps_block_184 h x1 x3 y0 y1 y2) := by
  unfold f_Ps_block_184
  exact (zcx_B2e (cx_f_Tr_hang  H) (fun v2 h3 H_h3 => (zcx_b2e (cx_f_Ps_take H_h3) (fun h5 H_h5 => (zcx_2s H_h5)))))
section ZXB
variable {E : zcx_T} {h : zs_H}
theorem cx_block116 {x1 x3 x4 : Int32} (H : zcx_P E 2 h) : zcx_2 E 0 (f_Ps_block_116 h x1 x3 x4) := by
  have f156 : ∀ (h : zs_H) (x1 x3 x4 : Int32), zcx_P E 2 h → zcx_2 E 0 (f_Ps_block_156 h x1 x3 x4) := fun h x1 x3 x4 H => by
    unfold f_Ps_block_156
    refine zcx_2i (fun _ => ?_) (fun _ => ?_)
    · refine zcx_B2 (cx_f_Ps_ladder (zcx_le H (show (0 : Int) ≤ 2 by decide))) ?_
      intro v6 h7 H7
      exact cx_f_Ps_block_184 H7
    · refine zcx_B2 ((cx_rec2 400).2.2.2.2 _ H) ?_
      intro v6 h7 H7
      exact cx_f_Ps_block_184 H7
  have L : ∀ (N : Nat) (h : zs_H) (x1 x3 x4 x5 : Int32), zcx_P E 2 h → zcx_2 E 0 (f_Ps_block_L119 N h x1 x3 x4 x5) := by
    intro N
    induction N with
    | zero => intro h x1 x3 x4 x5 _; exact zcx_2n
    | succ N ih =>
      intro h x1 x3 x4 x5 H
      show zcx_2 E 0 (f_Ps_block_119 (f_Ps_block_L119 N) h x1 x3 x4 x5)
      unfold f_Ps_block_119
      refine zcx_2i (fun _ => f156 _ _ _ _ H) (fun _ => zcx_2i (fun _ => f156 _ _ _ _ H) (fun _ => ?_))
      refine zcx_B2 (cx_f_Ps_section H) ?_
      intro v5 h6 H6
      refine zcx_B2 (cx_f_Tr_hang H6) ?_
      intro v8 h9 H9
      exact ih _ _ _ _ _ H9
  unfold f_Ps_block_116
  exact L _ _ _ _ _ _ H
theorem cx_block56 {x1 x2 x3 y0 : Int32} (H : zcx_P E 0 h) : zcx_2 E 0 (f_Ps_block_56 h x1 x2 x3 y0) := by
  unfold f_Ps_block_56
  refine zcx_b2 (cx_take1 H) ?_
  intro h2 H2
  refine zcx_2i (fun _ => zcx_2i (fun _ => ?_) (fun _ => zcx_2n)) (fun _ => zcx_2n)
  refine zcx_b2 (cx_take1 (zcx_uM (by decide) H2)) ?_
  intro h6 H6
  have H6' : zcx_P E 2 h6 := zcx_le H6 (by decide)
  refine zcx_2i (fun _ => ?_) (fun _ => cx_block116 H6')
  refine zcx_b2 (cx_f_Ps_take H6') ?_
  intro h9 H9
  refine zcx_B2 (cx_f_Ps_simpleType H9) ?_
  intro v11 h12 H12
  refine zcx_B2 (cx_f_Tr_hang H12) ?_
  intro v14 h15 H15
  exact cx_block116 H15
theorem cx_block (H : zcx_P E 0 h) : zcx_2 E 0 (f_Ps_block h) := by
  have f28 : ∀ (x1 y0 : Int32), zcx_k y0 → zcx_2 E 0 (f_Ps_block_28 h x1 y0) := fun x1 y0 hk => by
    unfold f_Ps_block_28
    refine zcx_B2 (cx_f_Tr_add hk H) ?_
    intro v2 h3 H3
    exact zcx_2i (fun _ => cx_block56 H3) (fun _ => cx_block56 H3)
  unfold f_Ps_block
  exact zcx_2i (fun _ => f28 _ _ (zcx_kI (by decide +kernel))) (fun _ => zcx_2i (fun _ => f28 _ _ (zcx_kI (by decide +kernel))) (fun _ => f28 _ _ (zcx_kI (by decide +kernel))))
def zcx_3 (E : zcx_T) (o : Option (Int32 × zs_H)) : Prop := ∀ x h, o = some (x, h) → zcx_P E 0 h ∧ x = h.1 19 3
theorem cx_parse64 : ∀ (N : Nat) (h : zs_H) (x1 x2 x3 : Int32), zcx_P E 0 h → zcx_3 E (f_Ps_parse_L64 N h x1 x2 x3) := by
  intro N
  induction N with
  | zero => intro h x1 x2 x3 _ x h' e; cases e
  | succ N ih =>
    intro h x1 x2 x3 H x h' e
    have e1 : f_Ps_parse_64 (f_Ps_parse_L64 N) h x1 x2 x3 = some (x, h') := e
    have f107 : f_Ps_parse_107 h = some (x, h') → zcx_P E 0 h' ∧ x = h'.1 19 3 := fun q => by
      unfold f_Ps_parse_107 at q
      cases q
      exact ⟨H, rfl⟩
    unfold f_Ps_parse_64 at e1
    split at e1
    · exact f107 e1
    split at e1
    · exact f107 e1
    split at e1
    · cases q : f_Ps_block h with
      | none => rw [q] at e1; cases e1
      | some p =>
        have B := cx_block H p.1 p.2 q
        rw [q] at e1
        have e2 : (zd_B (f_Tr_hang p.2 x1 x2 p.1) fun v8 h9 => f_Ps_parse_L64 N h9 x1 v8 (x3 + 1)) = some (x, h') := e1
        cases q2 : f_Tr_hang p.2 x1 x2 p.1 with
        | none => rw [q2] at e2; cases e2
        | some p2 =>
          have C := cx_f_Tr_hang B p2.1 p2.2 q2
          rw [q2] at e2
          exact ih _ _ _ _ C x h' e2
    · exact f107 e1
end ZXB
end
section
/-! CX: not too many bodies, not too many EXITs: a text. -/
theorem zc_cnt_2 {P P1 P2 : Nat → Prop} (h1 : ∀ j, P1 j → P j ∧ ¬ P2 j) (h2 : ∀ j, P2 j → P j) : ∀ m, zc_cnt P1 m + zc_cnt P2 m ≤ zc_cnt P m := by
  intro m
  induction m with
  | zero => exact Nat.le_refl 0
  | succ m ih =>
    show (zc_cnt P1 m + @ite Nat (P1 m) (Classical.propDecidable _) 1 0) + (zc_cnt P2 m + @ite Nat (P2 m) (Classical.propDecidable _) 1 0) ≤ zc_cnt P m + @ite Nat (P m) (Classical.propDecidable _) 1 0
    by_cases c1 : P1 m
    · rw [if_pos c1, if_neg (h1 m c1).2, if_pos (h1 m c1).1]; omega
    · rw [if_neg c1]
      by_cases c2 : P2 m
      · rw [if_pos c2, if_pos (h2 m c2)]; omega
      · rw [if_neg c2]; omega
theorem zcx_ct {h : zs_H} {A B : Nat → Int32} {c : Nat} : ∀ (t : zt_T) (P : Nat → Prop) (up x y : Int32) (m : Nat), zt_G (zt_NC h) A B t P up x y → (∀ i, P i → i < m) → zg_ct c t ≤ zc_cnt (fun i => P i ∧ (h.2.1 13) i = nI c) m := by
  intro t
  induction t with
  | leaf => intro P up x y m _ _; exact Nat.zero_le _
  | inner kd k v l r ihl ihr =>
    intro P up x y m q hP
    obtain ⟨i, P1, P2, z1, z2, q1, q2, q3, q4, q5, q6, q7, q8, q9⟩ := q
    have a := ihl P1 _ _ _ m q7 (fun j hj => hP j (q5 j hj).1)
    have b := ihr P2 _ _ _ m q8 (fun j hj => hP j (q6 j hj).1)
    show (if kd = c then 1 else 0) + zg_ct c l + zg_ct c r ≤ _
    by_cases e : kd = c
    · have d := zc_cnt_3 (P := fun i => P i ∧ (h.2.1 13) i = nI c) (P1 := fun i => P1 i ∧ (h.2.1 13) i = nI c) (P2 := fun i => P2 i ∧ (h.2.1 13) i = nI c) (i := i) ⟨q1, by rw [q4.1, e]⟩ (fun j hj => ⟨⟨(q5 j hj.1).1, hj.2⟩, (q5 j hj.1).2.1, fun w => (q5 j hj.1).2.2 w.1⟩) (fun j hj => ⟨⟨(q6 j hj.1).1, hj.2⟩, (q6 j hj.1).2⟩) m
      rw [if_pos (hP i q1)] at d
      rw [if_pos e]; omega
    · have d := zc_cnt_2 (P := fun i => P i ∧ (h.2.1 13) i = nI c) (P1 := fun i => P1 i ∧ (h.2.1 13) i = nI c) (P2 := fun i => P2 i ∧ (h.2.1 13) i = nI c) (fun j hj => ⟨⟨(q5 j hj.1).1, hj.2⟩, fun w => (q5 j hj.1).2.2 w.1⟩) (fun j hj => ⟨(q6 j hj.1).1, hj.2⟩) m
      rw [if_neg e]; omega
/-- how long a word is -/
def zl_ww (t : zl_T) : Prop := t.1 = 2 → t.2.1 + (zl_W.getD t.2.2.2 []).length ≤ t.2.2.1
theorem zl_wF {T : Nat → Int32} {n a e : Nat} {v : Option Nat} : zl_ww (zl_fin T n a v e) := by
  unfold zl_fin zl_ww
  cases v with
  | none => intro q; exact absurd q (by show ¬ (9 : Nat) = 2; decide)
  | some x =>
    dsimp only
    split
    · intro q; exact absurd q (by show ¬ (3 : Nat) = 2; decide)
    · intro q; exact absurd q (by show ¬ (9 : Nat) = 2; decide)
theorem zl_wk {k a e v : Nat} (hk : ¬ k = 2) : zl_ww (k, a, e, v) := fun q => absurd q hk
theorem zl_wtok {T : Nat → Int32} {n b : Nat} : zl_ww (zl_tok T n b) := by
  unfold zl_tok
  by_cases c : (zl_sk T n (n - b) b).2 = true
  · rw [if_pos c]
    generalize (zl_sk T n (n - b) b).1 = a
    unfold zl_tk
    by_cases c0 : n ≤ a
    · rw [if_pos c0]; exact zl_wk (by decide)
    rw [if_neg c0]
    by_cases c1 : zl_g T n a = 84 ∧ zl_b T n (a + 1) = 35
    · rw [if_pos c1]; exact zl_wF
    rw [if_neg c1]
    by_cases c2 : ¬ f_Mo_isLetter (zl_g T n a) = 0
    · rw [if_pos c2]
      unfold zl_tn
      by_cases d1 : 32 < zl_ne T n a - a
      · rw [if_pos d1]; exact zl_wk (by decide)
      rw [if_neg d1]
      by_cases d2 : zl_nm T n a (zl_ne T n a) ∈ zl_W
      · rw [if_pos d2]
        intro _
        have hl := (zl_ne_le (T := T) (n := n) (a := a) (by omega)).1
        have hw : zl_W.idxOf (zl_nm T n a (zl_ne T n a)) < zl_W.length := List.idxOf_lt_length_of_mem d2
        have eg : zl_W.getD (zl_W.idxOf (zl_nm T n a (zl_ne T n a))) [] = zl_nm T n a (zl_ne T n a) := by
          rw [List.getD_eq_getElem?_getD, List.getElem?_eq_getElem hw]
          exact List.getElem_idxOf hw
        show a + (zl_W.getD (zl_W.idxOf (zl_nm T n a (zl_ne T n a))) []).length ≤ zl_ne T n a
        rw [eg, zl_nm_len]
        omega
      · rw [if_neg d2]; exact zl_wk (by decide)
    rw [if_neg c2]
    by_cases c3 : ¬ f_Mo_isDigit (zl_g T n a) = 0
    · rw [if_pos c3]
      unfold zl_nb
      repeat' split
      all_goals first | exact zl_wF | exact zl_wk (by decide)
    rw [if_neg c3]
    by_cases c4 : zl_g T n a = 37
    · rw [if_pos c4]
      unfold zl_pl
      repeat' split
      all_goals exact zl_wk (by decide)
    · rw [if_neg c4]
      unfold zl_sn
      repeat' split
      all_goals exact zl_wk (by decide)
  · rw [if_neg c]; exact zl_wk (by decide)
def zl_wd (v : Nat) : Bool := decide (2 ≤ (zl_W.getD v []).length)
theorem zl_wda : ∀ v, v < 41 → zl_wd v = true := by decide +kernel
theorem zl_w4 : (zl_W.getD 28 []).length = 4 := by decide +kernel
theorem zcx_mkE {h : zs_H} {T : Nat → Int32} {n K : Nat} {LC : List (List Int32)} (S : zq_S h T n K LC) : zcx_E (fun j => zl_ck (zl_at T n j), fun j => (zl_at T n j).2.1, K) := by
  obtain ⟨s1, s2, s3, s4, s5, s6, s7, s8, s9, s10⟩ := id S
  have bs : ∀ j, j ≤ K → zl_bs T n j ≤ n := by
    intro j
    induction j with
    | zero => intro _; exact Nat.zero_le _
    | succ j ih =>
      intro hj
      have k := zl_tok_kd (T := T) (n := n) (b := zl_bs T n j) s9 (ih (by omega))
      exact (k.2.2.2.1 (s4 j (by omega))).2
  have F := fun j => zk_F' S j
  have sv : ∀ x, zl_sv x → x < 128 := by
    intro x hx
    have : ∀ x, x ∈ [40, 41, 91, 93, 44, 59, 58, 46, 43, 45, 42, 47, 61, 60, 62, 38, 124] → x < 128 := by decide
    exact this x hx
  refine ⟨fun j hj => ?_, by show K ≤ 10240; omega, fun j hj => ?_⟩
  · have hj : j < K := hj
    have k := zl_tok_kd (T := T) (n := n) (b := zl_bs T n j) s9 (bs j (by omega))
    have k1 := zl_tok_kd (T := T) (n := n) (b := zl_bs T n (j + 1)) s9 (bs (j + 1) (by omega))
    have e1 : (zl_at T n j).2.2.1 ≤ (zl_at T n (j + 1)).2.1 := k1.1
    have e2 : (zl_at T n j).2.1 < (zl_at T n j).2.2.1 := (k.2.2.2.1 (s4 j hj)).1
    have w := zl_wtok (T := T) (n := n) (b := zl_bs T n j)
    have w' : (zl_at T n j).1 = 2 → (zl_at T n j).2.1 + (zl_W.getD (zl_at T n j).2.2.2 []).length ≤ (zl_at T n j).2.2.1 := w
    have ck := zl_ckD (F j)
    have two : 128 ≤ zl_ck (zl_at T n j) → (zl_at T n j).1 = 2 ∧ zl_ck (zl_at T n j) = 128 + (zl_at T n j).2.2.2 ∧ (zl_at T n j).2.2.2 < 41 := fun q => by
      rcases ck with z | z | z | z | z | z | z | z
      · omega
      · omega
      · exact z
      · omega
      · omega
      · omega
      · omega
      · have := sv _ z.2.1; omega
    show (zl_at T n j).2.1 + 1 ≤ (zl_at T n (j + 1)).2.1 ∧ (128 ≤ zl_ck (zl_at T n j) → (zl_at T n j).2.1 + 2 ≤ (zl_at T n (j + 1)).2.1) ∧ (zl_ck (zl_at T n j) = 156 → (zl_at T n j).2.1 + 4 ≤ (zl_at T n (j + 1)).2.1)
    refine ⟨by omega, fun q => ?_, fun q => ?_⟩
    · obtain ⟨t1, t2, t3⟩ := two q
      have := w' t1
      have := of_decide_eq_true (zl_wda _ t3)
      omega
    · obtain ⟨t1, t2, t3⟩ := two (by omega)
      have := w' t1
      rw [show (zl_at T n j).2.2.2 = 28 by omega, zl_w4] at this
      omega
  · have k := zl_tok_kd (T := T) (n := n) (b := zl_bs T n j) s9 (bs j hj)
    have e2 : (zl_at T n j).2.1 ≤ n := k.2.1
    have ck := zl_ckD (F j)
    show zl_ck (zl_at T n j) < 1000 ∧ (zl_at T n j).2.1 ≤ 10240
    refine ⟨?_, by omega⟩
    rcases ck with z | z | z | z | z | z | z | z
    · omega
    · omega
    · omega
    · omega
    · omega
    · omega
    · omega
    · have := sv _ z.2.1; omega
theorem zcx_CX : yL_CX := by
  intro h T n K LC S h1 t LM s m g1 e TX
  have hE := zcx_mkE S
  obtain ⟨s1, s2, s3, s4, s5, s6, s7, s8, s9, s10⟩ := id S
  have F := fun j => zk_F' S j
  obtain ⟨E, eE⟩ : ∃ E : zcx_T, E = (fun j => zl_ck (zl_at T n j), fun j => (zl_at T n j).2.1, K) := ⟨_, rfl⟩
  rw [← eE] at hE
  have E2 : E.2.2 = K := by rw [eE]
  unfold f_Ps_parse at e
  obtain ⟨hh, ehh⟩ : ∃ hh, hh = zs_uF (zs_uF (zs_uF (zs_uF (zs_uF (zs_uF h 19 3 0) 19 4 0) 19 5 (h.2.1 9 0)) 19 6 (h.2.1 10 0)) 19 7 0) 12 6 0 := ⟨_, rfl⟩
  rw [← ehh] at e
  have H0 : zcx_P E 0 hh := by
    refine ⟨hE, ⟨?_, fun j hj => ?_, fun j hj z => ?_⟩, 0, ?_, by decide, .inr ⟨0, Nat.zero_le _, ?_, ?_, ?_⟩⟩
    · rw [ehh, E2]; exact s1.2
    · rw [ehh, eE]; exact (s1.1 j (by omega)).1
    · rw [ehh]
      show ¬ (h.2.1 11) j = 0
      rw [(s1.1 j (by omega)).2.2.1]
      have z' : zl_ck (zl_at T n j) = 7 := by rw [eE] at z; exact z
      have t9 : (zl_at T n j).1 = 9 := by
        rcases zl_ckD (F j) with q | q | q | q | q | q | q | q
        · omega
        · omega
        · omega
        · omega
        · omega
        · exact q.1
        · omega
        · exfalso
          have : ¬ zl_sv 7 := by unfold zl_sv; decide
          apply this
          have e7 : (zl_at T n j).2.2.2 = 7 := by omega
          rw [← e7]; exact q.2.1
      have v := (F j).2.2.2 t9
      unfold zl_cv
      rw [if_neg (by omega), if_neg (by omega)]
      exact fun q => by have := (zc_eq (k := 0) (by decide) (by omega)).mp q; omega
    · rw [ehh]; rfl
    · rw [ehh]; rfl
    · rw [ehh, eE]; exact (s1.1 0 (by omega)).1
    · show 2 * ((0 : Nat) : Int) + 4 * ((0 : Nat) : Int) + 0 ≤ _
      omega
  have A : zcx_2 E 0 (f_Tr_add hh 0 0 0) := cx_f_Tr_add (zcx_kI (by decide +kernel)) H0
  cases q : f_Tr_add hh 0 0 0 with
  | none => rw [q] at e; cases e
  | some p =>
    have B := A p.1 p.2 q
    rw [q] at e
    obtain ⟨⟨_, _, s', a1, a2, alt⟩, c2⟩ := cx_parse64 zF p.2 p.1 (-1) 0 B (nI 0) h1 e
    rcases alt with z | ⟨j, j1, j2, j3, j4⟩
    · exact absurd c2.symm z
    · have hj := (hE.2.2 j j1).2
      obtain ⟨_, _, b1, b2, b3, _⟩ := TX
      have es : s' = s := (nI_eq (by omega) (by omega)).mp (a1.symm.trans b1)
      subst es
      have cc : ∀ c, zg_ct c t ≤ zcx_c c s' h1 := fun c => Nat.le_trans (zcx_ct t _ _ _ _ s' b3 (fun i hi => hi)) (zc_cnt_mb s' (fun i _ z => z.2))
      have c11 := cc 11
      have c20 := cc 20
      exact ⟨by omega, by omega⟩
theorem yO_loadX {t : Nat} {h g : zs_H} (R : yO t h g) (x1 : Int32) : ∃ v h' g' t', f_Pk_load h x1 = some (v, h') ∧ f_Mo_load g x1 = some (v, g') ∧ t' ≤ t ∧ yO t' h' g' ∧ zO_r h g h' g' := yO_load zcx_CX R x1
end
section
/-! The law, over the functions alone: one call on both sides, many calls. -/
section ZLS
variable {h g h2 g2 : zs_H} {t : Nat}
theorem yO_mg (R : yO t h g) (hc : zO_M h h2) (hm : zO_C g g2) : yO t h2 g2 := by
  have f : ∀ k j, k < 68 → h2.1 k j = h.1 k j := fun k j hk => by rw [(hc k hk).1]
  have m : ∀ k, k < 68 → h2.2.1 k = h.2.1 k := fun k hk => (hc k hk).2.1
  have l : ∀ k, k < 68 → h2.2.2 k = h.2.2 k := fun k hk => (hc k hk).2.2
  have fg : ∀ k j, 68 ≤ k → g2.1 k j = g.1 k j := fun k j hk => by rw [(hm k hk).1]
  have mg : ∀ k, 68 ≤ k → g2.2.1 k = g.2.1 k := fun k hk => (hm k hk).2.1
  have lg : ∀ k, 68 ≤ k → g2.2.2 k = g.2.2 k := fun k hk => (hm k hk).2.2
  obtain ⟨⟨⟨t1, t2, t3⟩, t4, t5⟩, ⟨⟨n1, n2⟩, n3, n4, n5⟩, io, ⟨c1, c2⟩, ⟨s1, s2⟩, ⟨n, o1, o2, o3, o4⟩, D⟩ := R
  refine ⟨⟨⟨(f 0 1 (by decide)).trans t1, (fg 68 78 (by decide)).trans t2, t3⟩, fun i => by rw [m 1 (by decide)]; exact t4 i, fun i hi => by rw [mg 116 (by decide), m 1 (by decide)]; exact t5 i hi⟩, ⟨⟨by rw [m _ (by decide)]; exact n1, fun i hi => by rw [m _ (by decide)]; exact n2 i hi⟩, by rw [m _ (by decide)]; exact n3, (fg _ _ (by decide)).trans n4, (fg _ _ (by decide)).trans n5⟩, fun i hi => ?_, ⟨?_, ?_⟩, ⟨?_, ?_⟩, ⟨n, o1, (f _ _ (by decide)).trans o2, (fg _ _ (by decide)).trans o3, fun i hi => by rw [m 67 (by decide), mg 117 (by decide)]; exact o4 i hi⟩, ?_⟩
  · rw [m 59 (by decide), m 60 (by decide), m 61 (by decide), mg 118 (by decide), mg 119 (by decide), mg 120 (by decide)]
    exact io i hi
  · exact (f _ _ (by decide)).trans (c1.trans (fg _ _ (by decide)).symm)
  · rw [f 0 3 (by decide), fg 68 80 (by decide), fg 68 81 (by decide)]
    exact c2
  · exact (f _ _ (by decide)).trans (s1.trans (fg _ _ (by decide)).symm)
  · exact (f _ _ (by decide)).trans (s2.trans (fg _ _ (by decide)).symm)
  · rcases D with ⟨d1, ⟨u1, u2, u3, u4, u5, u6, u7⟩⟩ | ⟨d1, d2, d3, Z⟩
    · exact .inl ⟨(fg _ _ (by decide)).trans d1, (f _ _ (by decide)).trans u1, (f _ _ (by decide)).trans u2, (f _ _ (by decide)).trans u3, (f _ _ (by decide)).trans u4, (f _ _ (by decide)).trans u5, (f _ _ (by decide)).trans u6, (f _ _ (by decide)).trans u7⟩
    · obtain ⟨LC, LM, nb, F, X, Y, K, T, w, h0, g0, ⟨P, ⟨e1, e2, ⟨e3, e4, e5, e6, e7⟩, ⟨e8, e9, e10, e11⟩⟩, ⟨L1, L2, ⟨k1, ⟨k2, k3⟩, k4, k5, k6⟩, ⟨m1, m2, m3, m4, m5⟩⟩, ⟨B1, B2, B3⟩, NC, LD⟩, ⟨M1, M2, ⟨M3, M4, M5, M6⟩, M7⟩⟩ := yO_ZS Z
      refine .inr ⟨(f _ _ (by decide)).trans d1, (fg _ _ (by decide)).trans d2, by rw [f 58 4 (by decide)]; exact d3, yO_SZ (LC := LC) (LM := LM) (nb := nb) (F := F) (X := X) (Y := Y) (K := K) (T := T) (w := w) (h0 := h0) (g0 := g0) ⟨P, ⟨fun a ha hb => (m a (by omega)).trans (e1 a ha hb), fun a ha hb => (mg a (by omega)).trans (e2 a ha hb), ⟨(f _ _ (by decide)).trans e3, (f _ _ (by decide)).trans e4, (f _ _ (by decide)).trans e5, (f _ _ (by decide)).trans e6, (f _ _ (by decide)).trans e7⟩, ⟨(fg _ _ (by decide)).trans e8, (fg _ _ (by decide)).trans e9, (fg _ _ (by decide)).trans e10, (fg _ _ (by decide)).trans e11⟩⟩, ⟨L1, L2, ⟨fun u hu q => by rw [m _ (by decide)]; exact k1 u hu q, ⟨fun u hu => by rw [m _ (by decide)]; exact k2 u hu, (f _ _ (by decide)).trans k3⟩, yL_AC k4 (fun a ha hb => m a (by omega)), (f _ _ (by decide)).trans k5, (f _ _ (by decide)).trans k6⟩, ⟨fun u hu q => by rw [mg _ (by decide)]; exact m1 u hu q, fun u hu => by rw [mg _ (by decide)]; exact m2 u hu, yL_AM m3 (fun a ha hb => mg a (by omega)), (fg _ _ (by decide)).trans m4, by rw [lg _ (by decide)]; exact m5⟩⟩, ⟨(f _ _ (by decide)).trans B1, (f _ _ (by decide)).trans (B2.trans (fg _ _ (by decide)).symm), (f _ _ (by decide)).trans (B3.trans (fg _ _ (by decide)).symm)⟩, ?_, LD⟩ ⟨fun j hj => by rw [m 62 (by decide), mg 114 (by decide)]; exact M1 j hj, by rw [mg 114 (by decide)]; exact M2, ⟨(f _ _ (by decide)).trans (M3.trans (fg _ _ (by decide)).symm), (f _ _ (by decide)).trans (M4.trans (fg _ _ (by decide)).symm), (f _ _ (by decide)).trans (M5.trans (fg _ _ (by decide)).symm), (f _ _ (by decide)).trans (M6.trans (fg _ _ (by decide)).symm)⟩, (f _ _ (by decide)).trans (M7.trans (fg _ _ (by decide)).symm)⟩⟩
      unfold zn_C
      rw [f 2 5 (by decide), m 5 (by decide), m 4 (by decide), m 7 (by decide), m 6 (by decide)]
      exact NC
/-- a call of the class, a call of the model -/
def zlw_C (c : Nat) (a1 a2 a3 a4 a5 : Int32) (h : zs_H) : Option (Int32 × zs_H) := if c = 0 then f_Pk_feed h a1 a2 a3 a4 a5 else if c = 1 then f_Pk_end h a1 else if c = 2 then f_Pk_load h a1 else if c = 3 then f_Pk_restart h else if c = 4 then f_Pk_put h a1 a2 a3 else if c = 5 then (f_Pk_get h a1 a2).bind fun v => some (v, h) else if c = 6 then f_Pk_safe h a1 a2 a3 else if c = 7 then f_Pk_scan h a1 else if c = 8 then f_Pk_watch h else if c = 9 then some (f_Pk_watched h, h) else if c = 10 then f_Pk_frame h else if c = 11 then f_Pk_station h a1 else if c = 12 then (f_Pk_byteAt h a1).bind fun v => some (v, h) else some (f_Pk_count h a1, h)
def zlw_M (c : Nat) (a1 a2 a3 a4 a5 : Int32) (g : zs_H) : Option (Int32 × zs_H) := if c = 0 then f_Mo_feed g a1 a2 a3 a4 a5 else if c = 1 then f_Mo_end g a1 else if c = 2 then f_Mo_load g a1 else if c = 3 then f_Mo_restart g else if c = 4 then f_Mo_put g a1 a2 a3 else if c = 5 then (f_Mo_get g a1 a2).bind fun v => some (v, g) else if c = 6 then f_Mo_safe g a1 a2 a3 else if c = 7 then f_Mo_scan g a1 else if c = 8 then f_Mo_watch g else if c = 9 then some (f_Mo_watched g, g) else if c = 10 then f_Mo_frame g else if c = 11 then f_Mo_station g a1 else if c = 12 then (f_Mo_byteAt g a1).bind fun v => some (v, g) else (f_Mo_count g a1).bind fun v => some (v, g)
/-- one call, two states -/
theorem zlw_2 (R : yO t h g) (ht : t + 20 ≤ 10240) (c : Nat) (a1 a2 a3 a4 a5 : Int32) : ∃ v h' g' t', zlw_C c a1 a2 a3 a4 a5 h = some (v, h') ∧ zlw_M c a1 a2 a3 a4 a5 g = some (v, g') ∧ t' ≤ t + 20 ∧ yO t' h' g' ∧ zO_r h g h' g' := by
  unfold zlw_C zlw_M
  by_cases k : c = 0
  · rw [if_pos k, if_pos k]
    obtain ⟨v, h', g', b1, b2, b3, b4⟩ := yO_feed R a1 a2 a3 a4 a5 ht
    exact ⟨v, h', g', t + 20, b1, b2, Nat.le_refl _, b3, b4⟩
  rw [if_neg k, if_neg k]; clear k
  by_cases k : c = 1
  · rw [if_pos k, if_pos k]
    obtain ⟨v, h', g', t', b1, b2, b3, b4⟩ := yO_end R a1
    exact ⟨v, h', g', t', b1, b2, by omega, b4⟩
  rw [if_neg k, if_neg k]; clear k
  by_cases k : c = 2
  · rw [if_pos k, if_pos k]
    obtain ⟨v, h', g', t', b1, b2, b3, b4⟩ := yO_loadX R a1
    exact ⟨v, h', g', t', b1, b2, by omega, b4⟩
  rw [if_neg k, if_neg k]; clear k
  by_cases k : c = 3
  · rw [if_pos k, if_pos k]
    obtain ⟨v, h', g', b1, b2, b3⟩ := yO_restart R
    exact ⟨v, h', g', t, b1, b2, by omega, b3⟩
  rw [if_neg k, if_neg k]; clear k
  by_cases k : c = 4
  · rw [if_pos k, if_pos k]
    obtain ⟨v, h', g', b1, b2, b3⟩ := yO_put R a1 a2 a3
    exact ⟨v, h', g', t, b1, b2, by omega, b3⟩
  rw [if_neg k, if_neg k]; clear k
  by_cases k : c = 5
  · rw [if_pos k, if_pos k]
    obtain ⟨v, b1, b2⟩ := yO_get R a1 a2
    exact ⟨v, h, g, t, by rw [b1]; rfl, by rw [b2]; rfl, by omega, R, zO_C0, zO_M0⟩
  rw [if_neg k, if_neg k]; clear k
  by_cases k : c = 6
  · rw [if_pos k, if_pos k]
    obtain ⟨v, h', g', b1, b2, b3⟩ := yO_safe R a1 a2 a3
    exact ⟨v, h', g', t, b1, b2, by omega, b3⟩
  rw [if_neg k, if_neg k]; clear k
  by_cases k : c = 7
  · rw [if_pos k, if_pos k]
    obtain ⟨v, h', g', b1, b2, b3⟩ := yO_scan R a1
    exact ⟨v, h', g', t, b1, b2, by omega, b3⟩
  rw [if_neg k, if_neg k]; clear k
  by_cases k : c = 8
  · rw [if_pos k, if_pos k]
    obtain ⟨v, h', g', b1, b2, b3⟩ := yO_watch R
    exact ⟨v, h', g', 0, b1, b2, by omega, b3⟩
  rw [if_neg k, if_neg k]; clear k
  by_cases k : c = 9
  · rw [if_pos k, if_pos k, yO_watched R]
    exact ⟨_, h, g, t, rfl, rfl, by omega, R, zO_C0, zO_M0⟩
  rw [if_neg k, if_neg k]; clear k
  by_cases k : c = 10
  · rw [if_pos k, if_pos k]
    obtain ⟨v, h', g', b1, b2, b3, _, b4⟩ := yO_frame R
    exact ⟨v, h', g', 0, b1, b2, by omega, b3, b4⟩
  rw [if_neg k, if_neg k]; clear k
  by_cases k : c = 11
  · rw [if_pos k, if_pos k]
    obtain ⟨v, h', g', b1, b2, b3⟩ := yO_station R a1
    exact ⟨v, h', g', t, b1, b2, by omega, b3⟩
  rw [if_neg k, if_neg k]; clear k
  by_cases k : c = 12
  · rw [if_pos k, if_pos k]
    obtain ⟨v, b1, b2⟩ := yO_byteAt R a1
    exact ⟨v, h, g, t, by rw [b1]; rfl, by rw [b2]; rfl, by omega, R, zO_C0, zO_M0⟩
  rw [if_neg k, if_neg k]
  exact ⟨_, h, g, t, rfl, by rw [yO_count R]; rfl, by omega, R, zO_C0, zO_M0⟩
/-- one call, on the one state that there is -/
theorem zlw_1 (R : yO t h h) (ht : t + 20 ≤ 10240) (c : Nat) (a1 a2 a3 a4 a5 : Int32) : ∃ v h1 h2 t', zlw_C c a1 a2 a3 a4 a5 h = some (v, h1) ∧ zlw_M c a1 a2 a3 a4 a5 h1 = some (v, h2) ∧ t' ≤ t + 20 ∧ yO t' h2 h2 := by
  obtain ⟨v, h1, _, _, b1, _, _, _, b5, _⟩ := zlw_2 R ht c a1 a2 a3 a4 a5
  have R1 : yO t h h1 := yO_mg R zO_M0 b5
  obtain ⟨v', h1', g', t', d1, d2, d3, d4, d5, d6⟩ := zlw_2 R1 ht c a1 a2 a3 a4 a5
  have e : v' = v ∧ h1' = h1 := by
    rw [b1] at d1
    injection d1 with d1
    injection d1 with q1 q2
    exact ⟨q1.symm, q2.symm⟩
  obtain ⟨e1, e2⟩ := e
  subst e1
  subst e2
  exact ⟨v', h1', g', t', b1, d2, d3, yO_mg d4 d6 zO_C0⟩
end ZLS
end
section
/-! What holds between two calls holds behind both constructors. -/
theorem yO_new {kn : Nat → Int32} (hk : ∀ i, i < 405 → kn i = zk_kn.getD i 0) : yO 0 (zs_f0, fun k => if k = 3 then kn else fun _ => 0, fun _ _ => 0) (zs_f0, fun k => if k = 3 then kn else fun _ => 0, fun _ _ => 0) := by
  refine ⟨⟨⟨rfl, rfl, by decide⟩, fun i => ?_, fun i hi => absurd hi (Nat.not_lt_zero i)⟩, ⟨⟨rfl, fun i hi => hk i hi⟩, rfl, rfl, rfl⟩, fun i hi => ⟨⟨rfl, rfl, rfl⟩, fun _ => ⟨.inl rfl, .inl rfl, .inl rfl⟩⟩, ⟨rfl, ?_⟩, ⟨rfl, rfl⟩, ⟨0, by decide, rfl, rfl, fun i hi => absurd hi (Nat.not_lt_zero i)⟩, .inl ⟨rfl, rfl, rfl, rfl, rfl, rfl, rfl, rfl⟩⟩
  · show zb_ok 0
    exact ⟨by decide, by decide⟩
  · show (-5 : Int32) = if (0 : Int32) = 0 then -5 else _
    rw [if_pos rfl]
end
