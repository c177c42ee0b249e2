/-! CX: the class's reader, part 6. -/
theorem cx_f_Ps_block_184 {E : zcx_T} {a : Int} {h : zs_H} {x1 : Int32} {x3 : Int32} {y0 : Int32} {y1 : Int32} {y2 : Int32}  (H : zcx_P E a h) : zcx_2 E a (f_Ps_block_184 h x1 x3 y0 y1 y2) := by
  unfold f_Ps_block_184
  exact (zcx_B2e (cx_f_Tr_hang  H) (fun v2 h3 H_h3 => (zcx_b2e (cx_f_Ps_take H_h3) (fun h5 H_h5 => (zcx_2s H_h5)))))
section ZXB
variable {E : zcx_T} {h : zs_H}
theorem cx_block116 {x1 x3 x4 : Int32} (H : zcx_P E 2 h) : zcx_2 E 0 (f_Ps_block_116 h x1 x3 x4) := by
  have f156 : ∀ (h : zs_H) (x1 x3 x4 : Int32), zcx_P E 2 h → zcx_2 E 0 (f_Ps_block_156 h x1 x3 x4) := fun h x1 x3 x4 H => by
    unfold f_Ps_block_156
    refine zcx_2i (fun _ => ?_) (fun _ => ?_)
    · refine zcx_B2 (cx_f_Ps_ladder (zcx_le H (show (0 : Int) ≤ 2 by decide))) ?_
      intro v6 h7 H7
      exact cx_f_Ps_block_184 H7
    · refine zcx_B2 ((cx_rec2 400).2.2.2.2 _ H) ?_
      intro v6 h7 H7
      exact cx_f_Ps_block_184 H7
  have L : ∀ (N : Nat) (h : zs_H) (x1 x3 x4 x5 : Int32), zcx_P E 2 h → zcx_2 E 0 (f_Ps_block_L119 N h x1 x3 x4 x5) := by
    intro N
    induction N with
    | zero => intro h x1 x3 x4 x5 _; exact zcx_2n
    | succ N ih =>
      intro h x1 x3 x4 x5 H
      show zcx_2 E 0 (f_Ps_block_119 (f_Ps_block_L119 N) h x1 x3 x4 x5)
      unfold f_Ps_block_119
      refine zcx_2i (fun _ => f156 _ _ _ _ H) (fun _ => zcx_2i (fun _ => f156 _ _ _ _ H) (fun _ => ?_))
      refine zcx_B2 (cx_f_Ps_section H) ?_
      intro v5 h6 H6
      refine zcx_B2 (cx_f_Tr_hang H6) ?_
      intro v8 h9 H9
      exact ih _ _ _ _ _ H9
  unfold f_Ps_block_116
  exact L _ _ _ _ _ _ H
theorem cx_block56 {x1 x2 x3 y0 : Int32} (H : zcx_P E 0 h) : zcx_2 E 0 (f_Ps_block_56 h x1 x2 x3 y0) := by
  unfold f_Ps_block_56
  refine zcx_b2 (cx_take1 H) ?_
  intro h2 H2
  refine zcx_2i (fun _ => zcx_2i (fun _ => ?_) (fun _ => zcx_2n)) (fun _ => zcx_2n)
  refine zcx_b2 (cx_take1 (zcx_uM (by decide) H2)) ?_
  intro h6 H6
  have H6' : zcx_P E 2 h6 := zcx_le H6 (by decide)
  refine zcx_2i (fun _ => ?_) (fun _ => cx_block116 H6')
  refine zcx_b2 (cx_f_Ps_take H6') ?_
  intro h9 H9
  refine zcx_B2 (cx_f_Ps_simpleType H9) ?_
  intro v11 h12 H12
  refine zcx_B2 (cx_f_Tr_hang H12) ?_
  intro v14 h15 H15
  exact cx_block116 H15
theorem cx_block (H : zcx_P E 0 h) : zcx_2 E 0 (f_Ps_block h) := by
  have f28 : ∀ (x1 y0 : Int32), zcx_k y0 → zcx_2 E 0 (f_Ps_block_28 h x1 y0) := fun x1 y0 hk => by
    unfold f_Ps_block_28
    refine zcx_B2 (cx_f_Tr_add hk H) ?_
    intro v2 h3 H3
    exact zcx_2i (fun _ => cx_block56 H3) (fun _ => cx_block56 H3)
  unfold f_Ps_block
  exact zcx_2i (fun _ => f28 _ _ (zcx_kI (by decide +kernel))) (fun _ => zcx_2i (fun _ => f28 _ _ (zcx_kI (by decide +kernel))) (fun _ => f28 _ _ (zcx_kI (by decide +kernel))))
def zcx_3 (E : zcx_T) (o : Option (Int32 × zs_H)) : Prop := ∀ x h, o = some (x, h) → zcx_P E 0 h ∧ x = h.1 19 3
theorem cx_parse64 : ∀ (N : Nat) (h : zs_H) (x1 x2 x3 : Int32), zcx_P E 0 h → zcx_3 E (f_Ps_parse_L64 N h x1 x2 x3) := by
  intro N
  induction N with
  | zero => intro h x1 x2 x3 _ x h' e; cases e
  | succ N ih =>
    intro h x1 x2 x3 H x h' e
    have e1 : f_Ps_parse_64 (f_Ps_parse_L64 N) h x1 x2 x3 = some (x, h') := e
    have f107 : f_Ps_parse_107 h = some (x, h') → zcx_P E 0 h' ∧ x = h'.1 19 3 := fun q => by
      unfold f_Ps_parse_107 at q
      cases q
      exact ⟨H, rfl⟩
    unfold f_Ps_parse_64 at e1
    split at e1
    · exact f107 e1
    split at e1
    · exact f107 e1
    split at e1
    · cases q : f_Ps_block h with
      | none => rw [q] at e1; cases e1
      | some p =>
        have B := cx_block H p.1 p.2 q
        rw [q] at e1
        have e2 : (zd_B (f_Tr_hang p.2 x1 x2 p.1) fun v8 h9 => f_Ps_parse_L64 N h9 x1 v8 (x3 + 1)) = some (x, h') := e1
        cases q2 : f_Tr_hang p.2 x1 x2 p.1 with
        | none => rw [q2] at e2; cases e2
        | some p2 =>
          have C := cx_f_Tr_hang B p2.1 p2.2 q2
          rw [q2] at e2
          exact ih _ _ _ _ C x h' e2
    · exact f107 e1
end ZXB
