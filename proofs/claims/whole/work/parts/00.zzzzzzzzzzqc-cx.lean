/-! CX: the class's reader, part 2. -/
theorem cx_f_Ps_type {E : zcx_T} {a : Int} {h : zs_H}  (H : zcx_P E a h) : zcx_2 E a (f_Ps_type h) := by
  unfold f_Ps_type
  exact (zcx_2i (fun _ => (zcx_2i (fun _ => (zcx_B2e (cx_f_Tr_add (zcx_kI (by decide +kernel)) H) (fun v39 h40 H_h40 => (zcx_b2e (cx_f_Ps_take H_h40) (fun h42 H_h42 => (zcx_2s H_h42)))))) (fun _ => zcx_2n))) (fun _ => (zcx_2i (fun _ => (zcx_B2e (cx_f_Tr_add (zcx_kI (by decide +kernel)) H) (fun v4 h5 H_h5 => (zcx_b2e (cx_f_Ps_take H_h5) (fun h7 H_h7 => (zcx_b2e (cx_f_Ps_take H_h7) (fun h9 H_h9 => (zcx_B2e (cx_f_Ps_constant  H_h9) (fun v11 h12 H_h12 => (zcx_B2e (cx_f_Tr_hang  H_h12) (fun v14 h15 H_h15 => (zcx_b2e (cx_f_Ps_take H_h15) (fun h17 H_h17 => (zcx_B2e (cx_f_Ps_constant  H_h17) (fun v19 h20 H_h20 => (zcx_B2e (cx_f_Tr_hang  H_h20) (fun v22 h23 H_h23 => (zcx_b2e (cx_f_Ps_take H_h23) (fun h25 H_h25 => (zcx_b2e (cx_f_Ps_take H_h25) (fun h27 H_h27 => (zcx_B2e (cx_f_Ps_simpleType  H_h27) (fun v29 h30 H_h30 => (zcx_B2e (cx_f_Tr_hang  H_h30) (fun v32 h33 H_h33 => (zcx_2s H_h33)))))))))))))))))))))))))) (fun _ => (zcx_B2e (cx_f_Ps_simpleType  H) (fun v35 h36 H_h36 => (zcx_2s H_h36)))))))
theorem cx_f_Ps_declaration_231 {E : zcx_T} {a : Int} {h : zs_H} {x1 : Int32}  (H : zcx_P E a h) : zcx_2 E a (f_Ps_declaration_231 h x1) := by
  unfold f_Ps_declaration_231
  exact (zcx_b2e (cx_f_Ps_take H) (fun h2 H_h2 => (zcx_2s H_h2)))
theorem cx_f_Ps_declaration_184 {E : zcx_T} {a : Int} {h : zs_H} {x1 : Int32} {x2 : Int32}  (H : zcx_P E a h) : zcx_2 E a (f_Ps_declaration_184 h x1 x2) := by
  unfold f_Ps_declaration_184
  exact (zcx_b2e (cx_f_Ps_take H) (fun h2 H_h2 => (zcx_B2e (cx_f_Ps_type  H_h2) (fun v4 h5 H_h5 => (zcx_B2e (cx_f_Tr_hang  H_h5) (fun v7 h8 H_h8 => (zcx_2i (fun _ => (zcx_b2e (cx_f_Ps_take H_h8) (fun h11 H_h11 => (zcx_B2e (cx_f_Ps_constant  H_h11) (fun v13 h14 H_h14 => (zcx_B2e (cx_f_Tr_hang  H_h14) (fun v16 h17 H_h17 => (cx_f_Ps_declaration_231  H_h17)))))))) (fun _ => (cx_f_Ps_declaration_231  H_h8)))))))))
theorem cx_f_Ps_declaration_126 {E : zcx_T} {a : Int} {h : zs_H} {x1 : Int32} {x2 : Int32}  (H : zcx_P E a h) : zcx_2 E a (f_Ps_declaration_126 h x1 x2) := by
  unfold f_Ps_declaration_126
  exact (zcx_2i (fun _ => (zcx_b2e (cx_f_Ps_take H) (fun h3 H_h3 => (zcx_2i (fun _ => (zcx_B2e (cx_f_Tr_add (zcx_kI (by decide +kernel)) H_h3) (fun v6 h7 H_h7 => (zcx_B2e (cx_f_Tr_hang  H_h7) (fun v9 h10 H_h10 => (zcx_b2e (cx_f_Ps_take H_h10) (fun h12 H_h12 => (cx_f_Ps_declaration_184  H_h12)))))))) (fun _ => zcx_2n))))) (fun _ => (cx_f_Ps_declaration_184  H)))
theorem cx_f_Ps_declaration_57 {E : zcx_T} {a : Int} {k57 : zs_H → Int32 → Int32 → Int32 → (Option (Int32 × zs_H))} {h : zs_H} {x1 : Int32} {x2 : Int32} {x3 : Int32} (H_k57 : ∀ z0 z1 z2 z3, zcx_P E a z0 → zcx_2 E a (k57 z0 z1 z2 z3)) (H : zcx_P E a h) : zcx_2 E a (f_Ps_declaration_57 k57 h x1 x2 x3) := by
  unfold f_Ps_declaration_57
  exact (zcx_2i (fun _ => (cx_f_Ps_declaration_126  H)) (fun _ => (zcx_2i (fun _ => (zcx_b2e (cx_f_Ps_take H) (fun h4 H_h4 => (zcx_2i (fun _ => (zcx_B2e (cx_f_Tr_add (zcx_kI (by decide +kernel)) H_h4) (fun v7 h8 H_h8 => (zcx_B2e (cx_f_Tr_hang  H_h8) (fun v10 h11 H_h11 => (zcx_b2e (cx_f_Ps_take H_h11) (fun h13 H_h13 => (H_k57 _ _ _ _ H_h13)))))))) (fun _ => zcx_2n))))) (fun _ => (cx_f_Ps_declaration_126  H)))))
theorem cx_f_Ps_declaration_L57 {E : zcx_T} {a : Int}   : ∀ (N : Nat) (h : zs_H) (x1 : Int32) (x2 : Int32) (x3 : Int32), zcx_P E a h → zcx_2 E a (f_Ps_declaration_L57  N h x1 x2 x3) := by
  intro N
  induction N with
  | zero => intro h x1 x2 x3 _; exact zcx_2n
  | succ N ih =>
    intro h x1 x2 x3 H
    exact cx_f_Ps_declaration_57  (fun b0 b1 b2 b3 z => ih b0 b1 b2 b3 z) H
theorem cx_f_Ps_declaration_L57' {E : zcx_T} {a : Int}   {N : Nat} {h : zs_H} {x1 : Int32} {x2 : Int32} {x3 : Int32} (H : zcx_P E a h) : zcx_2 E a (f_Ps_declaration_L57  N h x1 x2 x3) := cx_f_Ps_declaration_L57  N h x1 x2 x3 H
theorem cx_f_Ps_declaration {E : zcx_T} {a : Int} {h : zs_H}  (H : zcx_P E a h) : zcx_2 E a (f_Ps_declaration h) := by
  unfold f_Ps_declaration
  exact (zcx_B2e (cx_f_Tr_add (zcx_kI (by decide +kernel)) H) (fun v2 h3 H_h3 => (zcx_2i (fun _ => (zcx_B2e (cx_f_Tr_add (zcx_kI (by decide +kernel)) H_h3) (fun v6 h7 H_h7 => (zcx_B2e (cx_f_Tr_hang  H_h7) (fun v9 h10 H_h10 => (zcx_b2e (cx_f_Ps_take H_h10) (fun h12 H_h12 => (cx_f_Ps_declaration_L57'  H_h12)))))))) (fun _ => zcx_2n))))
theorem cx_f_Ps_section_69 {E : zcx_T} {a : Int} {h : zs_H} {x1 : Int32}  (H : zcx_P E a h) : zcx_2 E a (f_Ps_section_69 h x1) := by
  unfold f_Ps_section_69
  exact (zcx_b2e (cx_f_Ps_take H) (fun h2 H_h2 => (zcx_2s H_h2)))
theorem cx_f_Ps_section_33 {E : zcx_T} {a : Int} {k33 : zs_H → Int32 → Int32 → Int32 → (Option (Int32 × zs_H))} {h : zs_H} {x1 : Int32} {x2 : Int32} {x3 : Int32} (H_k33 : ∀ z0 z1 z2 z3, zcx_P E a z0 → zcx_2 E a (k33 z0 z1 z2 z3)) (H : zcx_P E a h) : zcx_2 E a (f_Ps_section_33 k33 h x1 x2 x3) := by
  unfold f_Ps_section_33
  exact (zcx_2i (fun _ => (cx_f_Ps_section_69  H)) (fun _ => (zcx_2i (fun _ => (zcx_B2e (cx_f_Ps_declaration  H) (fun v4 h5 H_h5 => (zcx_B2e (cx_f_Tr_hang  H_h5) (fun v7 h8 H_h8 => (H_k33 _ _ _ _ H_h8)))))) (fun _ => (cx_f_Ps_section_69  H)))))
theorem cx_f_Ps_section_L33 {E : zcx_T} {a : Int}   : ∀ (N : Nat) (h : zs_H) (x1 : Int32) (x2 : Int32) (x3 : Int32), zcx_P E a h → zcx_2 E a (f_Ps_section_L33  N h x1 x2 x3) := by
  intro N
  induction N with
  | zero => intro h x1 x2 x3 _; exact zcx_2n
  | succ N ih =>
    intro h x1 x2 x3 H
    exact cx_f_Ps_section_33  (fun b0 b1 b2 b3 z => ih b0 b1 b2 b3 z) H
theorem cx_f_Ps_section_L33' {E : zcx_T} {a : Int}   {N : Nat} {h : zs_H} {x1 : Int32} {x2 : Int32} {x3 : Int32} (H : zcx_P E a h) : zcx_2 E a (f_Ps_section_L33  N h x1 x2 x3) := cx_f_Ps_section_L33  N h x1 x2 x3 H
theorem cx_f_Ps_section {E : zcx_T} {a : Int} {h : zs_H}  (H : zcx_P E a h) : zcx_2 E a (f_Ps_section h) := by
  unfold f_Ps_section
  exact (zcx_B2e (cx_f_Tr_add (zcx_kI (by decide +kernel)) H) (fun v2 h3 H_h3 => (zcx_b2e (cx_f_Ps_take H_h3) (fun h5 H_h5 => (cx_f_Ps_section_L33'  H_h5)))))
theorem cx_f_Ps_coil_92 {E : zcx_T} {a : Int} {h : zs_H} {x1 : Int32}  (H : zcx_P E a h) : zcx_2 E a (f_Ps_coil_92 h x1) := by
  unfold f_Ps_coil_92
  exact (zcx_2i (fun _ => (zcx_B2e (cx_f_Tr_add (zcx_kI (by decide +kernel)) H) (fun v3 h4 H_h4 => (zcx_B2e (cx_f_Tr_hang  H_h4) (fun v6 h7 H_h7 => (zcx_b2e (cx_f_Ps_take H_h7) (fun h9 H_h9 => (zcx_b2e (cx_f_Ps_take H_h9) (fun h11 H_h11 => (zcx_2s H_h11)))))))))) (fun _ => zcx_2n))
theorem cx_f_Ps_coil_83 {E : zcx_T} {a : Int} {h : zs_H} {x1 : Int32} {y0 : Int32} {y1 : Int32}  (H : zcx_P E a h) : zcx_2 E a (f_Ps_coil_83 h x1 y0 y1) := by
  unfold f_Ps_coil_83
  exact (zcx_2i (fun _ => (zcx_b2e (cx_f_Ps_take (zcx_uM (by decide) H)) (fun h3 H_h3 => (cx_f_Ps_coil_92  H_h3)))) (fun _ => zcx_2n))
theorem cx_f_Ps_coil_48 {E : zcx_T} {a : Int} {h : zs_H} {x1 : Int32}  (H : zcx_P E a h) : zcx_2 E a (f_Ps_coil_48 h x1) := by
  unfold f_Ps_coil_48
  exact (zcx_2i (fun _ => (cx_f_Ps_coil_83  H)) (fun _ => (zcx_2i (fun _ => (cx_f_Ps_coil_83  H)) (fun _ => (cx_f_Ps_coil_83  H)))))
theorem cx_f_Ps_coil {E : zcx_T} {a : Int} {h : zs_H}  (H : zcx_P E a h) : zcx_2 E a (f_Ps_coil h) := by
  unfold f_Ps_coil
  exact (zcx_B2e (cx_f_Tr_add (zcx_kI (by decide +kernel)) H) (fun v2 h3 H_h3 => (zcx_b2e (cx_f_Ps_take H_h3) (fun h5 H_h5 => (zcx_2i (fun _ => (cx_f_Ps_coil_48  H_h5)) (fun _ => (zcx_2i (fun _ => (cx_f_Ps_coil_48  H_h5)) (fun _ => (zcx_2i (fun _ => (cx_f_Ps_coil_48  H_h5)) (fun _ => (cx_f_Ps_coil_92  H_h5)))))))))))
theorem cx_f_Ps_ladderCell_52 {E : zcx_T} {a : Int} {h : zs_H} {y0 : Int32} (Hk : zcx_k y0)  (H : zcx_P E a h) : zcx_2 E a (f_Ps_ladderCell_52 h y0) := by
  unfold f_Ps_ladderCell_52
  exact (zcx_B2e (cx_f_Tr_add Hk H) (fun v2 h3 H_h3 => (zcx_b2e (cx_f_Ps_take H_h3) (fun h5 H_h5 => (zcx_2s H_h5)))))
theorem cx_f_Ps_ladderCell_32 {E : zcx_T} {a : Int} {h : zs_H}  (H : zcx_P E a h) : zcx_2 E a (f_Ps_ladderCell_32 h) := by
  unfold f_Ps_ladderCell_32
  exact (zcx_2i (fun _ => (cx_f_Ps_ladderCell_52 (zcx_kI (by decide +kernel)) H)) (fun _ => (cx_f_Ps_ladderCell_52 (zcx_kI (by decide +kernel)) H)))
theorem cx_f_Ps_ladderCell_153 {E : zcx_T} {a : Int} {h : zs_H} {x1 : Int32}  (H : zcx_P E a h) : zcx_2 E a (f_Ps_ladderCell_153 h x1) := by
  unfold f_Ps_ladderCell_153
  exact (zcx_2i (fun _ => (zcx_B2e (cx_f_Tr_add (zcx_kI (by decide +kernel)) H) (fun v3 h4 H_h4 => (zcx_b2e (cx_f_Ps_take H_h4) (fun h6 H_h6 => (zcx_B2e (cx_f_Tr_hang  H_h6) (fun v8 h9 H_h9 => (zcx_2i (fun _ => (zcx_2i (fun _ => (zcx_b2e (cx_f_Ps_take (zcx_uK (by decide +kernel) H_h9)) (fun h13 H_h13 => (zcx_2i (fun _ => (zcx_B2e (cx_f_Tr_add (zcx_kI (by decide +kernel)) H_h13) (fun v16 h17 H_h17 => (zcx_B2e (cx_f_Tr_hang  H_h17) (fun v19 h20 H_h20 => (zcx_b2e (cx_f_Ps_take H_h20) (fun h22 H_h22 => (zcx_2s H_h22)))))))) (fun _ => zcx_2n))))) (fun _ => zcx_2n))) (fun _ => (zcx_2s H_h9)))))))))) (fun _ => zcx_2n))
theorem cx_f_Ps_ladderCell_150 {E : zcx_T} {a : Int} {h : zs_H} {x1 : Int32} {y0 : Int32}  (H : zcx_P E a h) : zcx_2 E a (f_Ps_ladderCell_150 h x1 y0) := by
  unfold f_Ps_ladderCell_150
  exact (zcx_b2e (cx_f_Ps_take H) (fun h2 H_h2 => (cx_f_Ps_ladderCell_153  H_h2)))
