section
/-! Both readers in step: declarations and sections. -/
theorem zl_plv {T : Nat → Int32} {n b : Nat} (h : (zl_tok T n b).1 = 4) : (zl_tok T n b).2.2.2 < 1536 ∧ (768 ≤ (zl_tok T n b).2.2.2 → (zl_tok T n b).2.2.2 % 256 < 64) := by
  have hfin : ∀ a v e, ¬ (zl_fin T n a v e).1 = 4 := by
    intro a v e
    unfold zl_fin
    repeat' split
    all_goals simp
  revert h
  unfold zl_tok
  by_cases c : (zl_sk T n (n - b) b).2 = true
  · rw [if_pos c]
    generalize (zl_sk T n (n - b) b).1 = a
    unfold zl_tk
    by_cases c0 : n ≤ a
    · rw [if_pos c0]; intro h; simp at h
    rw [if_neg c0]
    by_cases c1 : zl_g T n a = 84 ∧ zl_b T n (a + 1) = 35
    · rw [if_pos c1]; intro h; exact absurd h (hfin _ _ _)
    rw [if_neg c1]
    by_cases c2 : ¬ f_Mo_isLetter (zl_g T n a) = 0
    · rw [if_pos c2]
      unfold zl_tn
      repeat' split
      all_goals intro h; simp at h
    rw [if_neg c2]
    by_cases c3 : ¬ f_Mo_isDigit (zl_g T n a) = 0
    · rw [if_pos c3]
      unfold zl_nb
      repeat' split
      all_goals first | (intro h; exact absurd h (hfin _ _ _)) | (intro h; simp at h)
    rw [if_neg c3]
    by_cases c4 : zl_g T n a = 37
    · rw [if_pos c4]
      unfold zl_pl
      cases e : zl_wh T n a 6 with
      | none => intro h; simp at h
      | some k =>
        have hk := zl_wh_lt 6 k e
        dsimp only
        by_cases d : zl_dr T n 10 (a + 3) - (a + 3) = 0 ∨ (if k < 3 then 255 else 63) < zl_vl T n 10 (a + 3) (zl_dr T n 10 (a + 3) - (a + 3)) ∨ zl_pt T n (zl_dr T n 10 (a + 3)) = true
        · rw [if_pos d]; intro h; simp at h
        · rw [if_neg d]
          intro _
          have d2 : ¬ (if k < 3 then 255 else 63) < zl_vl T n 10 (a + 3) (zl_dr T n 10 (a + 3) - (a + 3)) := fun z => d (Or.inr (Or.inl z))
          generalize zl_vl T n 10 (a + 3) (zl_dr T n 10 (a + 3) - (a + 3)) = x at d2
          dsimp only
          by_cases k3 : k < 3
          · rw [if_pos k3] at d2; omega
          · rw [if_neg k3] at d2; omega
    · rw [if_neg c4]
      unfold zl_sn
      repeat' split
      all_goals intro h; simp at h
  · rw [if_neg c]; intro h; simp at h
section ZHb
variable {h0 h : zs_H} {T : Nat → Int32} {n K φ w : Nat} {LC : List (List Int32)}
theorem zz_declaration_126 {x1 x2 : Int32} (H : zq_Z h0 T n K LC φ w h) (h1 : zq_v x1) (h2 : zq_v x2) : zw (f_Ps_declaration_126 h x1 x2) (fun p => zq_v p.1 ∧ zq_Z h0 T n K LC φ w p.2) := by
  repeat' first
    | with_reducible exact zw_some.mpr ⟨by assumption, by assumption⟩
    | (rw [zw_bind]; with_reducible refine zw_mono (zz_take (by assumption)) ?_; intro _ _)
    | (rw [zw_B]; with_reducible refine zw_mono (zz_constant (by assumption)) ?_; rintro _ ⟨_, _⟩)
    | (rw [zw_B]; with_reducible refine zw_mono (zz_simpleType (by assumption)) ?_; rintro _ ⟨_, _⟩)
    | (rw [zw_B]; with_reducible refine zw_mono (zz_type (by assumption)) ?_; rintro _ ⟨_, _⟩)
    | (rw [zw_B]; with_reducible refine zw_mono (zz_whole (by assumption)) ?_; rintro _ ⟨_, _⟩)
    | (rw [zw_B]; with_reducible refine zw_mono (zz_add (by assumption)) ?_; rintro _ ⟨_, _⟩)
    | (rw [zw_B]; with_reducible refine zw_mono (zz_hang (by assumption) (by assumption) (by first | assumption | exact zq_vl_n | exact zq_vl_v (by assumption)) (by assumption)) ?_; rintro _ ⟨_, _⟩)
    | rw [if_pos (zq_at (by assumption))]
    | rw [zz_isCell (by assumption), if_pos rfl]
    | rw [if_neg (zq_ne (by assumption) (by decide) (by decide))]
    | unfold f_Ps_declaration_126
    | unfold f_Ps_declaration_184
    | unfold f_Ps_declaration_231
theorem zz_declaration_L {N : Nat} {x1 x2 x3 : Int32} (H : zq_Z h0 T n K LC φ w h) (h1 : zq_v x1) (h2 : zq_v x2) : zw (f_Ps_declaration_L57 (N + 1) h x1 x2 x3) (fun p => zq_v p.1 ∧ zq_Z h0 T n K LC φ w p.2) := by
  show zw (f_Ps_declaration_57 (f_Ps_declaration_L57 N) h x1 x2 x3) _
  unfold f_Ps_declaration_57
  split
  · exact zz_declaration_126 H h1 h2
  · rw [if_neg (zq_ne H (by decide) (by decide))]; exact zz_declaration_126 H h1 h2
theorem zz_declaration (H : zq_Z h0 T n K LC φ w h) : zw (f_Ps_declaration h) (fun p => zq_v p.1 ∧ zq_Z h0 T n K LC φ w p.2) := by
  unfold f_Ps_declaration
  rw [zF_9]
  repeat' first
    | with_reducible exact zw_some.mpr ⟨by assumption, by assumption⟩
    | (rw [zw_bind]; with_reducible refine zw_mono (zz_take (by assumption)) ?_; intro _ _)
    | (rw [zw_B]; with_reducible refine zw_mono (zz_constant (by assumption)) ?_; rintro _ ⟨_, _⟩)
    | (rw [zw_B]; with_reducible refine zw_mono (zz_simpleType (by assumption)) ?_; rintro _ ⟨_, _⟩)
    | (rw [zw_B]; with_reducible refine zw_mono (zz_type (by assumption)) ?_; rintro _ ⟨_, _⟩)
    | (rw [zw_B]; with_reducible refine zw_mono (zz_whole (by assumption)) ?_; rintro _ ⟨_, _⟩)
    | (rw [zw_B]; with_reducible refine zw_mono (zz_add (by assumption)) ?_; rintro _ ⟨_, _⟩)
    | (rw [zw_B]; with_reducible refine zw_mono (zz_hang (by assumption) (by assumption) (by first | assumption | exact zq_vl_n | exact zq_vl_v (by assumption)) (by assumption)) ?_; rintro _ ⟨_, _⟩)
    | rw [if_pos (zq_at (by assumption))]
    | rw [zz_isCell (by assumption), if_pos rfl]
    | rw [if_neg (zq_ne (by assumption) (by decide) (by decide))]
  exact zz_declaration_L (N := 18446744073709551607 + 8) (by assumption) (by assumption) (by assumption)
theorem zz_section_L {N : Nat} {x1 x2 x3 : Int32} (H : zq_Z h0 T n K LC φ w h) (h1 : zq_v x1) : zw (f_Ps_section_L33 (N + 1) h x1 x2 x3) (fun p => zq_v p.1 ∧ zq_Z h0 T n K LC φ w p.2) := by
  show zw (f_Ps_section_33 (f_Ps_section_L33 N) h x1 x2 x3) _
  unfold f_Ps_section_33
  split
  · repeat' first
      | with_reducible exact zw_some.mpr ⟨by assumption, by assumption⟩
      | (rw [zw_bind]; with_reducible refine zw_mono (zz_take (by assumption)) ?_; intro _ _)
      | (rw [zw_B]; with_reducible refine zw_mono (zz_constant (by assumption)) ?_; rintro _ ⟨_, _⟩)
      | (rw [zw_B]; with_reducible refine zw_mono (zz_simpleType (by assumption)) ?_; rintro _ ⟨_, _⟩)
      | (rw [zw_B]; with_reducible refine zw_mono (zz_type (by assumption)) ?_; rintro _ ⟨_, _⟩)
      | (rw [zw_B]; with_reducible refine zw_mono (zz_whole (by assumption)) ?_; rintro _ ⟨_, _⟩)
      | (rw [zw_B]; with_reducible refine zw_mono (zz_add (by assumption)) ?_; rintro _ ⟨_, _⟩)
      | (rw [zw_B]; with_reducible refine zw_mono (zz_hang (by assumption) (by assumption) (by first | assumption | exact zq_vl_n | exact zq_vl_v (by assumption)) (by assumption)) ?_; rintro _ ⟨_, _⟩)
      | rw [if_pos (zq_at (by assumption))]
      | rw [zz_isCell (by assumption), if_pos rfl]
      | rw [if_neg (zq_ne (by assumption) (by decide) (by decide))]
      | unfold f_Ps_section_69
  · repeat' first
      | with_reducible exact zw_some.mpr ⟨by assumption, by assumption⟩
      | (rw [zw_bind]; with_reducible refine zw_mono (zz_take (by assumption)) ?_; intro _ _)
      | (rw [zw_B]; with_reducible refine zw_mono (zz_constant (by assumption)) ?_; rintro _ ⟨_, _⟩)
      | (rw [zw_B]; with_reducible refine zw_mono (zz_simpleType (by assumption)) ?_; rintro _ ⟨_, _⟩)
      | (rw [zw_B]; with_reducible refine zw_mono (zz_type (by assumption)) ?_; rintro _ ⟨_, _⟩)
      | (rw [zw_B]; with_reducible refine zw_mono (zz_whole (by assumption)) ?_; rintro _ ⟨_, _⟩)
      | (rw [zw_B]; with_reducible refine zw_mono (zz_add (by assumption)) ?_; rintro _ ⟨_, _⟩)
      | (rw [zw_B]; with_reducible refine zw_mono (zz_hang (by assumption) (by assumption) (by first | assumption | exact zq_vl_n | exact zq_vl_v (by assumption)) (by assumption)) ?_; rintro _ ⟨_, _⟩)
      | rw [if_pos (zq_at (by assumption))]
      | rw [zz_isCell (by assumption), if_pos rfl]
      | rw [if_neg (zq_ne (by assumption) (by decide) (by decide))]
      | unfold f_Ps_section_69
theorem zz_section (H : zq_Z h0 T n K LC φ w h) : zw (f_Ps_section h) (fun p => zq_v p.1 ∧ zq_Z h0 T n K LC φ w p.2) := by
  unfold f_Ps_section
  rw [zF_9]
  repeat' first
    | with_reducible exact zw_some.mpr ⟨by assumption, by assumption⟩
    | (rw [zw_bind]; with_reducible refine zw_mono (zz_take (by assumption)) ?_; intro _ _)
    | (rw [zw_B]; with_reducible refine zw_mono (zz_constant (by assumption)) ?_; rintro _ ⟨_, _⟩)
    | (rw [zw_B]; with_reducible refine zw_mono (zz_simpleType (by assumption)) ?_; rintro _ ⟨_, _⟩)
    | (rw [zw_B]; with_reducible refine zw_mono (zz_type (by assumption)) ?_; rintro _ ⟨_, _⟩)
    | (rw [zw_B]; with_reducible refine zw_mono (zz_whole (by assumption)) ?_; rintro _ ⟨_, _⟩)
    | (rw [zw_B]; with_reducible refine zw_mono (zz_add (by assumption)) ?_; rintro _ ⟨_, _⟩)
    | (rw [zw_B]; with_reducible refine zw_mono (zz_hang (by assumption) (by assumption) (by first | assumption | exact zq_vl_n | exact zq_vl_v (by assumption)) (by assumption)) ?_; rintro _ ⟨_, _⟩)
    | rw [if_pos (zq_at (by assumption))]
    | rw [zz_isCell (by assumption), if_pos rfl]
    | rw [if_neg (zq_ne (by assumption) (by decide) (by decide))]
  exact zz_section_L (N := 18446744073709551607 + 8) (by assumption) (by assumption)
end ZHb
section ZHm
variable {g0 g : zs_H} {T : Nat → Int32} {n φ w m O : Nat}
theorem zxb_declaration_77 {x2 : Int32} (H : zx_B g0 T n φ w m O g) : zw (f_Mo_declaration_77 g x2) (zx_B g0 T n φ w m O) := by
  have : zw (f_Mo_declaration_77 g x2) (fun g' => ∃ m', (m ≤ m' ∧ m' ≤ m) ∧ zx_B g0 T n φ w m' O g') := by
    repeat' first
      | (with_reducible refine zw_some.mpr ⟨_, ⟨?_, ?_⟩, by assumption⟩ <;> omega)
      | (rw [zw_bind]; with_reducible refine zw_mono (zxw_wantSign (by assumption)) ?_; intro _ _)
      | (rw [zw_bind]; with_reducible refine zw_mono (zxw_wantWord (by assumption)) ?_; intro _ _)
      | (rw [zw_bind]; with_reducible refine zw_mono (zxw_want (by assumption)) ?_; intro _ _)
      | (rw [zw_bind]; with_reducible refine zw_mono (zx_next (by assumption)) ?_; intro _ _)
      | (rw [zw_bind]; with_reducible refine zw_mono (zxb_constant (by assumption) (by omega) (by omega)) ?_; intro _ _)
      | (rw [zw_bind]; with_reducible refine zw_mono (zxw_simple (by assumption) (by omega) (by omega)) ?_; rintro _ ⟨_, _, _, _⟩)
      | (rw [zw_B]; with_reducible refine zw_mono (zxb_add (by assumption) (by omega) rfl (by omega)) ?_; rintro _ ⟨e1, _⟩; try rw [e1])
      | rw [zx_isSign (by assumption), if_pos rfl]
      | rw [zx_isWord (by assumption), if_pos rfl]
      | rw [if_neg (zx_ne (by assumption))]
      | rw [if_neg (zx_pos (by assumption))]
      | rw [if_pos (show (0 : Int32) ≤ 0 by decide)]
      | unfold f_Mo_declaration_77
      | unfold f_Mo_declaration_124
      | unfold f_Mo_declaration_142
      | unfold f_Mo_declaration_161
      | split
  refine zw_mono this fun g' q => ?_
  obtain ⟨m', h1, h2⟩ := q
  rwa [show m = m' by omega]
theorem zxb_declaration_L {N : Nat} {x2 x3 : Int32} (H : zx_B g0 T n φ w m O g) : zw (f_Mo_declaration_L14 (N + 1) g x2 x3) (zx_B g0 T n φ w m O) := by
  show zw (f_Mo_declaration_14 (f_Mo_declaration_L14 N) g x2 x3) _
  unfold f_Mo_declaration_14
  split
  · exact zxb_declaration_77 H
  · rw [if_neg (zx_ne H)]; exact zxb_declaration_77 H
theorem zxb_declaration {b : Nat} (H : zx_B g0 T n φ w m O g) (hm : m < 33500) (hb : b < m) : zw (f_Mo_declaration g (nI b)) (zx_B g0 T n φ w (m + 1) O) := by
  unfold f_Mo_declaration
  rw [zF_9, zw_B]
  refine zw_mono (zxb_add (kn := 5) H hm rfl hb) fun p z => ?_
  exact zxb_declaration_L (N := 18446744073709551607 + 8) z.2
end ZHm
section ZH
variable {h0 g0 h g g1 h' g' : zs_H} {T : Nat → Int32} {n K : Nat} {LC LM LM' : List (List Int32)} {j d s m o q b kd j' d' s' m' e st D f M0 M : Nat} {p v y : Int32} {u : zt_T} {X : Int32 → zs_H → zs_H → Prop}
theorem zk_d184 (I : zk_I h0 g0 T n K LC LM j s m o q b 5 p v h g g1 u y LM' j' d' s' m' e st 2 f h' g') (hst : st = 1 ∨ st = 2) (vy : zq_v y) (hs : s ≤ 2 * j + 12) (hm : m ≤ 2 * j + 12) : zk_G h0 g0 T n K LC m 20600 o (zk_T h0 g0 T n K LC LM (zg_T [5] 3) j d' s m o q b h g) (f_Ps_declaration_184 h' (nI s) y) (f_Mo_declaration_124 g' (nI m)) := by
  have v0 := zk_Iv I
  have b1 := zk_Ib I
  have hv0 : zg_v 5 v := Or.inl rfl
  unfold f_Ps_declaration_184 f_Mo_declaration_124
  refine zk_sA I (zk_wantS I.1 (c := 58) (k := 58) (by decide) (by decide)) ?_ fun h2 g2 LM2 I2 => ?_
  · intro φ w hz gz z1 z2
    refine zk_Gf (φ := φ) (w := w) ?_ ?_
    · repeat' first
        | with_reducible exact zw_some.mpr ⟨by assumption, by assumption⟩
        | (rw [zw_bind]; with_reducible refine zw_mono (zz_take (by assumption)) ?_; intro _ _)
        | (rw [zw_B]; with_reducible refine zw_mono (zz_constant (by assumption)) ?_; rintro _ ⟨_, _⟩)
        | (rw [zw_B]; with_reducible refine zw_mono (zz_simpleType (by assumption)) ?_; rintro _ ⟨_, _⟩)
        | (rw [zw_B]; with_reducible refine zw_mono (zz_type (by assumption)) ?_; rintro _ ⟨_, _⟩)
        | (rw [zw_B]; with_reducible refine zw_mono (zz_whole (by assumption)) ?_; rintro _ ⟨_, _⟩)
        | (rw [zw_B]; with_reducible refine zw_mono (zz_add (by assumption)) ?_; rintro _ ⟨_, _⟩)
        | (rw [zw_B]; with_reducible refine zw_mono (zz_hang (by assumption) (by assumption) (by first | assumption | exact zq_vl_n | exact zq_vl_v (by assumption)) (by assumption)) ?_; rintro _ ⟨_, _⟩)
        | rw [if_pos (zq_at (by assumption))]
        | rw [zz_isCell (by assumption), if_pos rfl]
        | rw [if_neg (zq_ne (by assumption) (by decide) (by decide))]
        | unfold f_Ps_declaration_231
    · repeat' first
        | (with_reducible refine zw_some.mpr ⟨_, ⟨?_, ?_⟩, by assumption⟩ <;> omega)
        | (rw [zw_bind]; with_reducible refine zw_mono (zxw_wantSign (by assumption)) ?_; intro _ _)
        | (rw [zw_bind]; with_reducible refine zw_mono (zxw_wantWord (by assumption)) ?_; intro _ _)
        | (rw [zw_bind]; with_reducible refine zw_mono (zxw_want (by assumption)) ?_; intro _ _)
        | (rw [zw_bind]; with_reducible refine zw_mono (zx_next (by assumption)) ?_; intro _ _)
        | (rw [zw_bind]; with_reducible refine zw_mono (zxb_constant (by assumption) (by omega) (by omega)) ?_; intro _ _)
        | (rw [zw_bind]; with_reducible refine zw_mono (zxw_simple (by assumption) (by omega) (by omega)) ?_; rintro _ ⟨_, _, _, _⟩)
        | (rw [zw_B]; with_reducible refine zw_mono (zxb_add (by assumption) (by omega) rfl (by omega)) ?_; rintro _ ⟨e1, _⟩; try rw [e1])
        | rw [zx_isSign (by assumption), if_pos rfl]
        | rw [zx_isWord (by assumption), if_pos rfl]
        | rw [if_neg (zx_ne (by assumption))]
        | rw [if_neg (zx_pos (by assumption))]
        | rw [if_pos (show (0 : Int32) ≤ 0 by decide)]
        | unfold f_Mo_declaration_142
        | unfold f_Mo_declaration_161
        | split
  rw [if_pos I2.1.2.2.2.2.2.2.1]
  have b2 := zk_Ib I2
  refine zk_sK (st' := 3) I2 (zk_type I2.1 (by omega) (by omega) (by omega)) (by rcases hst with z | z <;> subst z <;> decide) ?_ fun x3 h3 g3 u3 LM3 j3 s3 m3 v3 l3 I3 => ?_
  · intro φ w mz xz hz gz w1 w2 vz z1 z2
    refine zk_Gf (φ := φ) (w := w) ?_ ?_
    · repeat' first
        | with_reducible exact zw_some.mpr ⟨by assumption, by assumption⟩
        | (rw [zw_bind]; with_reducible refine zw_mono (zz_take (by assumption)) ?_; intro _ _)
        | (rw [zw_B]; with_reducible refine zw_mono (zz_constant (by assumption)) ?_; rintro _ ⟨_, _⟩)
        | (rw [zw_B]; with_reducible refine zw_mono (zz_simpleType (by assumption)) ?_; rintro _ ⟨_, _⟩)
        | (rw [zw_B]; with_reducible refine zw_mono (zz_type (by assumption)) ?_; rintro _ ⟨_, _⟩)
        | (rw [zw_B]; with_reducible refine zw_mono (zz_whole (by assumption)) ?_; rintro _ ⟨_, _⟩)
        | (rw [zw_B]; with_reducible refine zw_mono (zz_add (by assumption)) ?_; rintro _ ⟨_, _⟩)
        | (rw [zw_B]; with_reducible refine zw_mono (zz_hang (by assumption) (by assumption) (by first | assumption | exact zq_vl_n | exact zq_vl_v (by assumption)) (by assumption)) ?_; rintro _ ⟨_, _⟩)
        | rw [if_pos (zq_at (by assumption))]
        | rw [zz_isCell (by assumption), if_pos rfl]
        | rw [if_neg (zq_ne (by assumption) (by decide) (by decide))]
        | unfold f_Ps_declaration_231
    · repeat' first
        | (with_reducible refine zw_some.mpr ⟨_, ⟨?_, ?_⟩, by assumption⟩ <;> omega)
        | (rw [zw_bind]; with_reducible refine zw_mono (zxw_wantSign (by assumption)) ?_; intro _ _)
        | (rw [zw_bind]; with_reducible refine zw_mono (zxw_wantWord (by assumption)) ?_; intro _ _)
        | (rw [zw_bind]; with_reducible refine zw_mono (zxw_want (by assumption)) ?_; intro _ _)
        | (rw [zw_bind]; with_reducible refine zw_mono (zx_next (by assumption)) ?_; intro _ _)
        | (rw [zw_bind]; with_reducible refine zw_mono (zxb_constant (by assumption) (by omega) (by omega)) ?_; intro _ _)
        | (rw [zw_bind]; with_reducible refine zw_mono (zxw_simple (by assumption) (by omega) (by omega)) ?_; rintro _ ⟨_, _, _, _⟩)
        | (rw [zw_B]; with_reducible refine zw_mono (zxb_add (by assumption) (by omega) rfl (by omega)) ?_; rintro _ ⟨e1, _⟩; try rw [e1])
        | rw [zx_isSign (by assumption), if_pos rfl]
        | rw [zx_isWord (by assumption), if_pos rfl]
        | rw [if_neg (zx_ne (by assumption))]
        | rw [if_neg (zx_pos (by assumption))]
        | rw [if_pos (show (0 : Int32) ≤ 0 by decide)]
        | unfold f_Mo_declaration_142
        | unfold f_Mo_declaration_161
        | split
  have b3 := zk_Ib I3
  unfold f_Mo_declaration_142
  rw [show f_Mo_isSign g3 256 = if (h3.1 19 5) = nI 1 then 1 else 0 from zk_sign I3.1 (c := 256) (k := 1) (by decide)]
  unfold f_Ps_declaration_231 f_Mo_declaration_161
  by_cases c : (h3.1 19 5) = 1
  · rw [if_pos c, if_pos (show (h3.1 19 5) = nI 1 from c), if_neg (by decide)]
    refine zk_sN I3 c (by decide) ?_ fun h4 g4 LM4 I4 => ?_
    · intro φ w hz gz z1 z2
      refine zk_Gf (φ := φ) (w := w) ?_ ?_
      · repeat' first
          | with_reducible exact zw_some.mpr ⟨by assumption, by assumption⟩
          | (rw [zw_bind]; with_reducible refine zw_mono (zz_take (by assumption)) ?_; intro _ _)
          | (rw [zw_B]; with_reducible refine zw_mono (zz_constant (by assumption)) ?_; rintro _ ⟨_, _⟩)
          | (rw [zw_B]; with_reducible refine zw_mono (zz_simpleType (by assumption)) ?_; rintro _ ⟨_, _⟩)
          | (rw [zw_B]; with_reducible refine zw_mono (zz_type (by assumption)) ?_; rintro _ ⟨_, _⟩)
          | (rw [zw_B]; with_reducible refine zw_mono (zz_whole (by assumption)) ?_; rintro _ ⟨_, _⟩)
          | (rw [zw_B]; with_reducible refine zw_mono (zz_add (by assumption)) ?_; rintro _ ⟨_, _⟩)
          | (rw [zw_B]; with_reducible refine zw_mono (zz_hang (by assumption) (by assumption) (by first | assumption | exact zq_vl_n | exact zq_vl_v (by assumption)) (by assumption)) ?_; rintro _ ⟨_, _⟩)
          | rw [if_pos (zq_at (by assumption))]
          | rw [zz_isCell (by assumption), if_pos rfl]
          | rw [if_neg (zq_ne (by assumption) (by decide) (by decide))]
      · repeat' first
          | (with_reducible refine zw_some.mpr ⟨_, ⟨?_, ?_⟩, by assumption⟩ <;> omega)
          | (rw [zw_bind]; with_reducible refine zw_mono (zxw_wantSign (by assumption)) ?_; intro _ _)
          | (rw [zw_bind]; with_reducible refine zw_mono (zxw_wantWord (by assumption)) ?_; intro _ _)
          | (rw [zw_bind]; with_reducible refine zw_mono (zxw_want (by assumption)) ?_; intro _ _)
          | (rw [zw_bind]; with_reducible refine zw_mono (zx_next (by assumption)) ?_; intro _ _)
          | (rw [zw_bind]; with_reducible refine zw_mono (zxb_constant (by assumption) (by omega) (by omega)) ?_; intro _ _)
          | (rw [zw_bind]; with_reducible refine zw_mono (zxw_simple (by assumption) (by omega) (by omega)) ?_; rintro _ ⟨_, _, _, _⟩)
          | (rw [zw_B]; with_reducible refine zw_mono (zxb_add (by assumption) (by omega) rfl (by omega)) ?_; rintro _ ⟨e1, _⟩; try rw [e1])
          | rw [zx_isSign (by assumption), if_pos rfl]
          | rw [zx_isWord (by assumption), if_pos rfl]
          | rw [if_neg (zx_ne (by assumption))]
          | rw [if_neg (zx_pos (by assumption))]
          | rw [if_pos (show (0 : Int32) ≤ 0 by decide)]
    have b4 := zk_Ib I4
    refine zk_sK (st' := 4) I4 (zk_TD (zk_constant I4.1 (by omega) (by omega) (by omega)) (by decide)) (by decide) ?_ fun x5 h5 g5 u5 LM5 j5 s5 m5 v5 l5 I5 => ?_
    · intro φ w mz xz hz gz w1 w2 vz z1 z2
      refine zk_Gf (φ := φ) (w := w) ?_ ?_
      · repeat' first
          | with_reducible exact zw_some.mpr ⟨by assumption, by assumption⟩
          | (rw [zw_bind]; with_reducible refine zw_mono (zz_take (by assumption)) ?_; intro _ _)
          | (rw [zw_B]; with_reducible refine zw_mono (zz_constant (by assumption)) ?_; rintro _ ⟨_, _⟩)
          | (rw [zw_B]; with_reducible refine zw_mono (zz_simpleType (by assumption)) ?_; rintro _ ⟨_, _⟩)
          | (rw [zw_B]; with_reducible refine zw_mono (zz_type (by assumption)) ?_; rintro _ ⟨_, _⟩)
          | (rw [zw_B]; with_reducible refine zw_mono (zz_whole (by assumption)) ?_; rintro _ ⟨_, _⟩)
          | (rw [zw_B]; with_reducible refine zw_mono (zz_add (by assumption)) ?_; rintro _ ⟨_, _⟩)
          | (rw [zw_B]; with_reducible refine zw_mono (zz_hang (by assumption) (by assumption) (by first | assumption | exact zq_vl_n | exact zq_vl_v (by assumption)) (by assumption)) ?_; rintro _ ⟨_, _⟩)
          | rw [if_pos (zq_at (by assumption))]
          | rw [zz_isCell (by assumption), if_pos rfl]
          | rw [if_neg (zq_ne (by assumption) (by decide) (by decide))]
      · repeat' first
          | (with_reducible refine zw_some.mpr ⟨_, ⟨?_, ?_⟩, by assumption⟩ <;> omega)
          | (rw [zw_bind]; with_reducible refine zw_mono (zxw_wantSign (by assumption)) ?_; intro _ _)
          | (rw [zw_bind]; with_reducible refine zw_mono (zxw_wantWord (by assumption)) ?_; intro _ _)
          | (rw [zw_bind]; with_reducible refine zw_mono (zxw_want (by assumption)) ?_; intro _ _)
          | (rw [zw_bind]; with_reducible refine zw_mono (zx_next (by assumption)) ?_; intro _ _)
          | (rw [zw_bind]; with_reducible refine zw_mono (zxb_constant (by assumption) (by omega) (by omega)) ?_; intro _ _)
          | (rw [zw_bind]; with_reducible refine zw_mono (zxw_simple (by assumption) (by omega) (by omega)) ?_; rintro _ ⟨_, _, _, _⟩)
          | (rw [zw_B]; with_reducible refine zw_mono (zxb_add (by assumption) (by omega) rfl (by omega)) ?_; rintro _ ⟨e1, _⟩; try rw [e1])
          | rw [zx_isSign (by assumption), if_pos rfl]
          | rw [zx_isWord (by assumption), if_pos rfl]
          | rw [if_neg (zx_ne (by assumption))]
          | rw [if_neg (zx_pos (by assumption))]
          | rw [if_pos (show (0 : Int32) ≤ 0 by decide)]
    have b5 := zk_Ib I5
    refine zk_sA I5 (zk_wantS I5.1 (c := 59) (k := 59) (by decide) (by decide)) ?_ fun h6 g6 LM6 I6 => ?_
    · intro φ w hz gz z1 z2
      refine zk_Gf (φ := φ) (w := w) ?_ ?_
      · repeat' first
          | with_reducible exact zw_some.mpr ⟨by assumption, by assumption⟩
          | (rw [zw_bind]; with_reducible refine zw_mono (zz_take (by assumption)) ?_; intro _ _)
          | (rw [zw_B]; with_reducible refine zw_mono (zz_constant (by assumption)) ?_; rintro _ ⟨_, _⟩)
          | (rw [zw_B]; with_reducible refine zw_mono (zz_simpleType (by assumption)) ?_; rintro _ ⟨_, _⟩)
          | (rw [zw_B]; with_reducible refine zw_mono (zz_type (by assumption)) ?_; rintro _ ⟨_, _⟩)
          | (rw [zw_B]; with_reducible refine zw_mono (zz_whole (by assumption)) ?_; rintro _ ⟨_, _⟩)
          | (rw [zw_B]; with_reducible refine zw_mono (zz_add (by assumption)) ?_; rintro _ ⟨_, _⟩)
          | (rw [zw_B]; with_reducible refine zw_mono (zz_hang (by assumption) (by assumption) (by first | assumption | exact zq_vl_n | exact zq_vl_v (by assumption)) (by assumption)) ?_; rintro _ ⟨_, _⟩)
          | rw [if_pos (zq_at (by assumption))]
          | rw [zz_isCell (by assumption), if_pos rfl]
          | rw [if_neg (zq_ne (by assumption) (by decide) (by decide))]
      · repeat' first
          | (with_reducible refine zw_some.mpr ⟨_, ⟨?_, ?_⟩, by assumption⟩ <;> omega)
          | (rw [zw_bind]; with_reducible refine zw_mono (zxw_wantSign (by assumption)) ?_; intro _ _)
          | (rw [zw_bind]; with_reducible refine zw_mono (zxw_wantWord (by assumption)) ?_; intro _ _)
          | (rw [zw_bind]; with_reducible refine zw_mono (zxw_want (by assumption)) ?_; intro _ _)
          | (rw [zw_bind]; with_reducible refine zw_mono (zx_next (by assumption)) ?_; intro _ _)
          | (rw [zw_bind]; with_reducible refine zw_mono (zxb_constant (by assumption) (by omega) (by omega)) ?_; intro _ _)
          | (rw [zw_bind]; with_reducible refine zw_mono (zxw_simple (by assumption) (by omega) (by omega)) ?_; rintro _ ⟨_, _, _, _⟩)
          | (rw [zw_B]; with_reducible refine zw_mono (zxb_add (by assumption) (by omega) rfl (by omega)) ?_; rintro _ ⟨e1, _⟩; try rw [e1])
          | rw [zx_isSign (by assumption), if_pos rfl]
          | rw [zx_isWord (by assumption), if_pos rfl]
          | rw [if_neg (zx_ne (by assumption))]
          | rw [if_neg (zx_pos (by assumption))]
          | rw [if_pos (show (0 : Int32) ≤ 0 by decide)]
    have b6 := zk_Ib I6
    exact ⟨nI s, h6, g6, rfl, rfl, Or.inl (zk_Id I6 (by omega) (by omega) rfl hv0 (by decide) (by omega) (by decide))⟩
  · rw [if_neg c, if_neg (show ¬ (h3.1 19 5) = nI 1 from c), if_pos rfl]
    refine zk_sA I3 (zk_wantS I3.1 (c := 59) (k := 59) (by decide) (by decide)) ?_ fun h6 g6 LM6 I6 => ?_
    · intro φ w hz gz z1 z2
      refine zk_Gf (φ := φ) (w := w) ?_ ?_
      · repeat' first
          | with_reducible exact zw_some.mpr ⟨by assumption, by assumption⟩
          | (rw [zw_bind]; with_reducible refine zw_mono (zz_take (by assumption)) ?_; intro _ _)
          | (rw [zw_B]; with_reducible refine zw_mono (zz_constant (by assumption)) ?_; rintro _ ⟨_, _⟩)
          | (rw [zw_B]; with_reducible refine zw_mono (zz_simpleType (by assumption)) ?_; rintro _ ⟨_, _⟩)
          | (rw [zw_B]; with_reducible refine zw_mono (zz_type (by assumption)) ?_; rintro _ ⟨_, _⟩)
          | (rw [zw_B]; with_reducible refine zw_mono (zz_whole (by assumption)) ?_; rintro _ ⟨_, _⟩)
          | (rw [zw_B]; with_reducible refine zw_mono (zz_add (by assumption)) ?_; rintro _ ⟨_, _⟩)
          | (rw [zw_B]; with_reducible refine zw_mono (zz_hang (by assumption) (by assumption) (by first | assumption | exact zq_vl_n | exact zq_vl_v (by assumption)) (by assumption)) ?_; rintro _ ⟨_, _⟩)
          | rw [if_pos (zq_at (by assumption))]
          | rw [zz_isCell (by assumption), if_pos rfl]
          | rw [if_neg (zq_ne (by assumption) (by decide) (by decide))]
      · repeat' first
          | (with_reducible refine zw_some.mpr ⟨_, ⟨?_, ?_⟩, by assumption⟩ <;> omega)
          | (rw [zw_bind]; with_reducible refine zw_mono (zxw_wantSign (by assumption)) ?_; intro _ _)
          | (rw [zw_bind]; with_reducible refine zw_mono (zxw_wantWord (by assumption)) ?_; intro _ _)
          | (rw [zw_bind]; with_reducible refine zw_mono (zxw_want (by assumption)) ?_; intro _ _)
          | (rw [zw_bind]; with_reducible refine zw_mono (zx_next (by assumption)) ?_; intro _ _)
          | (rw [zw_bind]; with_reducible refine zw_mono (zxb_constant (by assumption) (by omega) (by omega)) ?_; intro _ _)
          | (rw [zw_bind]; with_reducible refine zw_mono (zxw_simple (by assumption) (by omega) (by omega)) ?_; rintro _ ⟨_, _, _, _⟩)
          | (rw [zw_B]; with_reducible refine zw_mono (zxb_add (by assumption) (by omega) rfl (by omega)) ?_; rintro _ ⟨e1, _⟩; try rw [e1])
          | rw [zx_isSign (by assumption), if_pos rfl]
          | rw [zx_isWord (by assumption), if_pos rfl]
          | rw [if_neg (zx_ne (by assumption))]
          | rw [if_neg (zx_pos (by assumption))]
          | rw [if_pos (show (0 : Int32) ≤ 0 by decide)]
    have b6 := zk_Ib I6
    exact ⟨nI s, h6, g6, rfl, rfl, Or.inl (zk_Id I6 (by omega) (by omega) rfl hv0 (by decide) (by omega) (by decide))⟩
theorem zk_d126 (I : zk_I h0 g0 T n K LC LM j s m o q b 5 p v h g g1 u y LM' j' d' s' m' e 1 2 f h' g') (he : 1 ≤ e) (vy : zq_v y) (hs : s ≤ 2 * j + 12) (hm : m ≤ 2 * j + 12) : zk_G h0 g0 T n K LC m 20600 o (zk_T h0 g0 T n K LC LM (zg_T [5] 3) j d' s m o q b h g) (f_Ps_declaration_126 h' (nI s) y) (f_Mo_declaration_77 g' (nI m)) := by
  have v0 := zk_Iv I
  have b1 := zk_Ib I
  unfold f_Ps_declaration_126 f_Mo_declaration_77
  rw [show f_Mo_isWord g' 10 = if (h'.1 19 5) = nI 138 then 1 else 0 from zk_word I.1 (c := 10) (by decide)]
  by_cases c : (h'.1 19 5) = 138
  · rw [if_pos c, if_pos (show (h'.1 19 5) = nI 138 from c), if_neg (by decide)]
    refine zk_sN I c (by decide) ?_ fun h2 g2 LM2 I2 => ?_
    · intro φ w hz gz z1 z2
      refine zk_Gf (φ := φ) (w := w) ?_ ?_
      · repeat' first
          | with_reducible exact zw_some.mpr ⟨by assumption, by assumption⟩
          | (rw [zw_bind]; with_reducible refine zw_mono (zz_take (by assumption)) ?_; intro _ _)
          | (rw [zw_B]; with_reducible refine zw_mono (zz_constant (by assumption)) ?_; rintro _ ⟨_, _⟩)
          | (rw [zw_B]; with_reducible refine zw_mono (zz_simpleType (by assumption)) ?_; rintro _ ⟨_, _⟩)
          | (rw [zw_B]; with_reducible refine zw_mono (zz_type (by assumption)) ?_; rintro _ ⟨_, _⟩)
          | (rw [zw_B]; with_reducible refine zw_mono (zz_whole (by assumption)) ?_; rintro _ ⟨_, _⟩)
          | (rw [zw_B]; with_reducible refine zw_mono (zz_add (by assumption)) ?_; rintro _ ⟨_, _⟩)
          | (rw [zw_B]; with_reducible refine zw_mono (zz_hang (by assumption) (by assumption) (by first | assumption | exact zq_vl_n | exact zq_vl_v (by assumption)) (by assumption)) ?_; rintro _ ⟨_, _⟩)
          | rw [if_pos (zq_at (by assumption))]
          | rw [zz_isCell (by assumption), if_pos rfl]
          | rw [if_neg (zq_ne (by assumption) (by decide) (by decide))]
          | unfold f_Ps_declaration_231
          | unfold f_Ps_declaration_184
      · repeat' first
          | (with_reducible refine zw_some.mpr ⟨_, ⟨?_, ?_⟩, by assumption⟩ <;> omega)
          | (rw [zw_bind]; with_reducible refine zw_mono (zxw_wantSign (by assumption)) ?_; intro _ _)
          | (rw [zw_bind]; with_reducible refine zw_mono (zxw_wantWord (by assumption)) ?_; intro _ _)
          | (rw [zw_bind]; with_reducible refine zw_mono (zxw_want (by assumption)) ?_; intro _ _)
          | (rw [zw_bind]; with_reducible refine zw_mono (zx_next (by assumption)) ?_; intro _ _)
          | (rw [zw_bind]; with_reducible refine zw_mono (zxb_constant (by assumption) (by omega) (by omega)) ?_; intro _ _)
          | (rw [zw_bind]; with_reducible refine zw_mono (zxw_simple (by assumption) (by omega) (by omega)) ?_; rintro _ ⟨_, _, _, _⟩)
          | (rw [zw_B]; with_reducible refine zw_mono (zxb_add (by assumption) (by omega) rfl (by omega)) ?_; rintro _ ⟨e1, _⟩; try rw [e1])
          | rw [zx_isSign (by assumption), if_pos rfl]
          | rw [zx_isWord (by assumption), if_pos rfl]
          | rw [if_neg (zx_ne (by assumption))]
          | rw [if_neg (zx_pos (by assumption))]
          | rw [if_pos (show (0 : Int32) ≤ 0 by decide)]
          | unfold f_Mo_declaration_121
          | unfold f_Mo_declaration_124
          | unfold f_Mo_declaration_142
          | unfold f_Mo_declaration_161
          | split
    have b2 := zk_Ib I2
    rw [if_pos (zk_atI I2.1)]
    have hk := (zk_kind I2.1).2.2.1
    refine zk_sLf (k2 := 7) (st' := 2) (f' := f + 1) (yy := if (g2.1 68 6) = 4 then 1 else 0) (FB := fun h2 => f_Mo_declaration_124 h2 (nI m)) (x := 10) (FA := fun v9 h12 => f_Ps_declaration_184 h12 (nI s) v9) I2 (by decide) rfl rfl ?_ (by decide) ?_ (by decide) rfl (by decide) (by rw [if_neg (by decide)]; omega) (by omega) (by omega) ?_ ?_ fun h3 g3 u3 LM3 I3 => ?_
    · rw [← hk]; by_cases z : (g2.1 68 6) = 4 <;> simp [z]
    · intro z
      have hk4 : (zl_at T n (j' + 1)).1 = 4 := (zc_eq (k := 4) (by decide) (by have := (zk_F I2.1).1; omega)).mp (by rw [← I2.1.2.2.2.2.2.2.2.2.2.2.1]; exact hk.mpr z)
      obtain ⟨_, n2, n3⟩ := zk_num I2.1 (Or.inr hk4)
      obtain ⟨p1, p2⟩ := zl_plv (T := T) (n := n) (b := zl_bs T n (j' + 1)) hk4
      rw [if_neg (by decide)]
      refine ⟨n3.trans n2.symm, Or.inr ⟨_, p1, n2, fun _ => p2⟩⟩
    · intro x gx hx _
      rw [hx]
      by_cases z : (g2.1 68 6) = 4
      · rw [if_pos z, if_pos z]; rfl
      · rw [if_neg z, if_neg z]; rfl
    · intro φ w xz hz gz vz z1 z2
      refine zk_Gf (φ := φ) (w := w) ?_ ?_
      · repeat' first
          | with_reducible exact zw_some.mpr ⟨by assumption, by assumption⟩
          | (rw [zw_bind]; with_reducible refine zw_mono (zz_take (by assumption)) ?_; intro _ _)
          | (rw [zw_B]; with_reducible refine zw_mono (zz_constant (by assumption)) ?_; rintro _ ⟨_, _⟩)
          | (rw [zw_B]; with_reducible refine zw_mono (zz_simpleType (by assumption)) ?_; rintro _ ⟨_, _⟩)
          | (rw [zw_B]; with_reducible refine zw_mono (zz_type (by assumption)) ?_; rintro _ ⟨_, _⟩)
          | (rw [zw_B]; with_reducible refine zw_mono (zz_whole (by assumption)) ?_; rintro _ ⟨_, _⟩)
          | (rw [zw_B]; with_reducible refine zw_mono (zz_add (by assumption)) ?_; rintro _ ⟨_, _⟩)
          | (rw [zw_B]; with_reducible refine zw_mono (zz_hang (by assumption) (by assumption) (by first | assumption | exact zq_vl_n | exact zq_vl_v (by assumption)) (by assumption)) ?_; rintro _ ⟨_, _⟩)
          | rw [if_pos (zq_at (by assumption))]
          | rw [zz_isCell (by assumption), if_pos rfl]
          | rw [if_neg (zq_ne (by assumption) (by decide) (by decide))]
          | unfold f_Ps_declaration_231
          | unfold f_Ps_declaration_184
      · repeat' first
          | (with_reducible refine zw_some.mpr ⟨_, ⟨?_, ?_⟩, by assumption⟩ <;> omega)
          | (rw [zw_bind]; with_reducible refine zw_mono (zxw_wantSign (by assumption)) ?_; intro _ _)
          | (rw [zw_bind]; with_reducible refine zw_mono (zxw_wantWord (by assumption)) ?_; intro _ _)
          | (rw [zw_bind]; with_reducible refine zw_mono (zxw_want (by assumption)) ?_; intro _ _)
          | (rw [zw_bind]; with_reducible refine zw_mono (zx_next (by assumption)) ?_; intro _ _)
          | (rw [zw_bind]; with_reducible refine zw_mono (zxb_constant (by assumption) (by omega) (by omega)) ?_; intro _ _)
          | (rw [zw_bind]; with_reducible refine zw_mono (zxw_simple (by assumption) (by omega) (by omega)) ?_; rintro _ ⟨_, _, _, _⟩)
          | (rw [zw_B]; with_reducible refine zw_mono (zxb_add (by assumption) (by omega) rfl (by omega)) ?_; rintro _ ⟨e1, _⟩; try rw [e1])
          | rw [zx_isSign (by assumption), if_pos rfl]
          | rw [zx_isWord (by assumption), if_pos rfl]
          | rw [if_neg (zx_ne (by assumption))]
          | rw [if_neg (zx_pos (by assumption))]
          | rw [if_pos (show (0 : Int32) ≤ 0 by decide)]
          | unfold f_Mo_declaration_124
          | unfold f_Mo_declaration_142
          | unfold f_Mo_declaration_161
          | split
    exact zk_d184 I3 (Or.inr rfl) ⟨s', by omega, rfl⟩ hs hm
  · rw [if_neg c, if_neg (show ¬ (h'.1 19 5) = nI 138 from c), if_pos rfl]
    exact zk_d184 I (Or.inl rfl) vy hs hm
theorem zk_dL : ∀ (r N N' : Nat) {c : Nat} {y : Int32} {u : zt_T} {LM' : List (List Int32)} {j' s' m' e f : Nat} {h' g' : zs_H}, zk_I h0 g0 T n K LC LM j s m o q b 5 p v h g g1 u y LM' j' d' s' m' e 1 2 f h' g' → K ≤ j' + r → r + 2 ≤ N → r + 2 ≤ N' → 1 ≤ e → c ≤ j' → zq_v y → s ≤ 2 * j + 12 → m ≤ 2 * j + 12 → zk_G h0 g0 T n K LC m 20600 o (zk_T h0 g0 T n K LC LM (zg_T [5] 3) j d' s m o q b h g) (f_Ps_declaration_L57 N h' (nI s) y (nI c)) (if f_Mo_isSign g' 44 = 0 then f_Mo_declaration_74 (f_Mo_declaration_L14 N') g' (nI m) (f_Mo_isSign g' 44) else (f_Mo_next g').bind fun h6 => f_Mo_declaration_74 (f_Mo_declaration_L14 N') h6 (nI m) (f_Mo_isSign g' 44)) := by
  intro r
  induction r with
  | zero =>
    intro N N' c y u LM' j' s' m' e f h' g' I hr hN hN' he hc vy hs hm
    have b1 := zk_Ib I
    obtain ⟨N, rfl⟩ : ∃ k, N = k + 1 := ⟨N - 1, by omega⟩
    obtain ⟨N', rfl⟩ : ∃ k, N' = k + 1 := ⟨N' - 1, by omega⟩
    have hnc : ¬ (h'.1 19 5) = 44 := fun z => by
      have := zk_lt I.1 (zk_notE I.1 (by rw [z]; decide))
      omega
    rw [show f_Mo_isSign g' 44 = if (h'.1 19 5) = nI 44 then 1 else 0 from zk_sign I.1 (c := 44) (k := 44) (by decide), if_neg (show ¬ (h'.1 19 5) = nI 44 from hnc), if_pos rfl]
    show zk_G h0 g0 T n K LC m 20600 o _ (f_Ps_declaration_57 (f_Ps_declaration_L57 N) h' (nI s) y (nI c)) (f_Mo_declaration_14 (f_Mo_declaration_L14 N') g' (nI m) 0)
    unfold f_Ps_declaration_57 f_Mo_declaration_14
    rw [if_neg (mt (zc_le (k := 16384) (by decide) (by omega)).mp (by omega)), if_neg hnc, if_pos rfl]
    exact zk_d126 I he vy hs hm
  | succ r ih =>
    intro N N' c y u LM' j' s' m' e f h' g' I hr hN hN' he hc vy hs hm
    have b1 := zk_Ib I
    have v0 := zk_Iv I
    obtain ⟨N, rfl⟩ : ∃ k, N = k + 2 := ⟨N - 2, by omega⟩
    obtain ⟨N', rfl⟩ : ∃ k, N' = k + 1 := ⟨N' - 1, by omega⟩
    rw [show f_Mo_isSign g' 44 = if (h'.1 19 5) = nI 44 then 1 else 0 from zk_sign I.1 (c := 44) (k := 44) (by decide)]
    by_cases hnc : (h'.1 19 5) = 44
    · rw [if_pos (show (h'.1 19 5) = nI 44 from hnc), if_neg (by decide)]
      show zk_G h0 g0 T n K LC m 20600 o _ (f_Ps_declaration_57 (f_Ps_declaration_L57 (N + 1)) h' (nI s) y (nI c)) ((f_Mo_next g').bind fun h6 => f_Mo_declaration_L14 (N' + 1) h6 (nI m) 1)
      unfold f_Ps_declaration_57
      rw [if_neg (mt (zc_le (k := 16384) (by decide) (by omega)).mp (by omega)), if_pos hnc]
      refine zk_sN I hnc (by decide) ?_ fun h2 g2 LM2 I2 => ?_
      · intro φ w hz gz z1 z2
        refine zk_Gf (φ := φ) (w := w) ?_ ?_
        · repeat' first
            | with_reducible exact zw_some.mpr ⟨by assumption, by assumption⟩
            | (rw [zw_bind]; with_reducible refine zw_mono (zz_take (by assumption)) ?_; intro _ _)
            | (rw [zw_B]; with_reducible refine zw_mono (zz_constant (by assumption)) ?_; rintro _ ⟨_, _⟩)
            | (rw [zw_B]; with_reducible refine zw_mono (zz_simpleType (by assumption)) ?_; rintro _ ⟨_, _⟩)
            | (rw [zw_B]; with_reducible refine zw_mono (zz_type (by assumption)) ?_; rintro _ ⟨_, _⟩)
            | (rw [zw_B]; with_reducible refine zw_mono (zz_whole (by assumption)) ?_; rintro _ ⟨_, _⟩)
            | (rw [zw_B]; with_reducible refine zw_mono (zz_add (by assumption)) ?_; rintro _ ⟨_, _⟩)
            | (rw [zw_B]; with_reducible refine zw_mono (zz_hang (by assumption) (by assumption) (by first | assumption | exact zq_vl_n | exact zq_vl_v (by assumption)) (by assumption)) ?_; rintro _ ⟨_, _⟩)
            | rw [if_pos (zq_at (by assumption))]
            | rw [zz_isCell (by assumption), if_pos rfl]
            | rw [if_neg (zq_ne (by assumption) (by decide) (by decide))]
          exact zz_declaration_L (by assumption) (by assumption) (by assumption)
        · exact zw_mono (zxb_declaration_L z2) fun g' z => ⟨m', by omega, z⟩
      have b2 := zk_Ib I2
      rw [if_pos (zk_atI I2.1)]
      show zk_G h0 g0 T n K LC m 20600 o _ _ (f_Mo_declaration_14 (f_Mo_declaration_L14 N') g2 (nI m) 1)
      unfold f_Mo_declaration_14
      rw [if_neg (by decide), if_pos I2.1.2.2.2.2.2.2.1]
      have hk := (zk_kind I2.1).1
      refine zk_sLf (k2 := 37) (st' := 1) (f' := f) (yy := if (g2.1 68 6) = 1 then 1 else 0) (FB := fun h2 => (if (f_Mo_isSign h2 44) = 0 then f_Mo_declaration_74 (f_Mo_declaration_L14 N') h2 (nI m) (f_Mo_isSign h2 44) else ((f_Mo_next h2).bind fun h6 => f_Mo_declaration_74 (f_Mo_declaration_L14 N') h6 (nI m) (f_Mo_isSign h2 44)))) (x := 8) (FA := fun v9 h12 => f_Ps_declaration_L57 (N + 1) h12 (nI s) v9 (nI c + 1)) I2 (by decide) rfl rfl ?_ (by decide) ?_ (by decide) rfl (by decide) (by rw [if_pos rfl]; omega) (by omega) (by omega) ?_ ?_ fun h3 g3 u3 LM3 I3 => ?_
      · rw [← hk]; by_cases z : (g2.1 68 6) = 1 <;> simp [z]
      · intro z
        have hk1 : (zl_at T n (j' + 1)).1 = 1 := (zc_eq (k := 1) (by decide) (by have := (zk_F I2.1).1; omega)).mp (by rw [← I2.1.2.2.2.2.2.2.2.2.2.2.1]; exact hk.mpr z)
        obtain ⟨_, n2⟩ := zk_nm I2.1 hk1
        rw [if_pos (by decide)]
        exact ⟨n2, Or.inl rfl⟩
      · intro x gx hx _
        rw [hx]
        by_cases z : (g2.1 68 6) = 1
        · rw [if_pos z, if_pos z]; rfl
        · rw [if_neg z, if_neg z]; rfl
      · intro φ w xz hz gz vz z1 z2
        refine zk_Gf (φ := φ) (w := w) (zz_declaration_L z1 v0 vz) ?_
        rw [zx_isSign z2, if_pos rfl]
        by_cases hN0 : N' = 0
        · omega
        · obtain ⟨N2, rfl⟩ : ∃ k, N' = k + 1 := ⟨N' - 1, by omega⟩
          exact zw_mono (zxb_declaration_L z2) fun g' z => ⟨m' + 1, by omega, z⟩
      rw [nI_1]
      exact ih (N + 1) N' (c := c + 1) I3 (by omega) (by omega) (by omega) (by omega) (by omega) ⟨s', by omega, rfl⟩ hs hm
    · rw [if_neg (show ¬ (h'.1 19 5) = nI 44 from hnc), if_pos rfl]
      show zk_G h0 g0 T n K LC m 20600 o _ (f_Ps_declaration_57 (f_Ps_declaration_L57 (N + 1)) h' (nI s) y (nI c)) (f_Mo_declaration_14 (f_Mo_declaration_L14 N') g' (nI m) 0)
      unfold f_Ps_declaration_57 f_Mo_declaration_14
      rw [if_neg (mt (zc_le (k := 16384) (by decide) (by omega)).mp (by omega)), if_neg hnc, if_pos rfl]
      exact zk_d126 I he vy hs hm

theorem zk_declaration (H : zk_L h0 g0 T n K LC h g LM j d s m o q) {b : Nat} (hb : b < m) (hjs : s ≤ 2 * j + 12) (hjm : m ≤ 2 * j + 12) : zk_G h0 g0 T n K LC m 20600 o (zk_T h0 g0 T n K LC LM (zg_T [5] 3) j d s m o q b h g) (f_Ps_declaration h) (f_Mo_declaration g (nI b)) := by
  have hK := zk_bK H
  unfold f_Ps_declaration f_Mo_declaration
  obtain ⟨h1, g1, e1, e2, I⟩ := zk_I0 H (b := b) (kd := 5) (kc := 5) (km := 5) (D := 2) (v := 0) (w := 0) (by omega) (by omega) hb (by decide) rfl rfl (by rw [if_neg (by decide)])
  rw [e1, e2, zo_B, zo_B, if_pos (zk_atI I.1)]
  have v0 := zk_Iv I
  rw [zF_9]
  show zk_G h0 g0 T n K LC m 20600 o _ _ (f_Mo_declaration_14 (f_Mo_declaration_L14 (18446744073709551607 + 8)) g1 (nI m) 1)
  unfold f_Mo_declaration_14
  rw [if_neg (by decide), if_pos I.1.2.2.2.2.2.2.1]
  have hk := (zk_kind I.1).1
  refine zk_sLf (k2 := 37) (st' := 1) (f' := 0) (yy := if (g1.1 68 6) = 1 then 1 else 0) (FB := fun h2 => (if (f_Mo_isSign h2 44) = 0 then f_Mo_declaration_74 (f_Mo_declaration_L14 (18446744073709551607 + 8)) h2 (nI m) (f_Mo_isSign h2 44) else ((f_Mo_next h2).bind fun h6 => f_Mo_declaration_74 (f_Mo_declaration_L14 (18446744073709551607 + 8)) h6 (nI m) (f_Mo_isSign h2 44)))) (x := 8) (FA := fun v9 h12 => f_Ps_declaration_L57 (18446744073709551607 + 9) h12 (nI s) v9 0) I (by decide) rfl rfl ?_ (by decide) ?_ (by decide) rfl (by decide) (by rw [if_pos rfl]; omega) (by omega) (by omega) ?_ ?_ fun h3 g3 u3 LM3 I3 => ?_
  · rw [← hk]; by_cases z : (g1.1 68 6) = 1 <;> simp [z]
  · intro z
    have hk1 : (zl_at T n j).1 = 1 := (zc_eq (k := 1) (by decide) (by have := (zk_F I.1).1; omega)).mp (by rw [← I.1.2.2.2.2.2.2.2.2.2.2.1]; exact hk.mpr z)
    obtain ⟨_, n2⟩ := zk_nm I.1 hk1
    rw [if_pos (by decide)]
    exact ⟨n2, Or.inl rfl⟩
  · intro x gx hx _
    rw [hx]
    by_cases z : (g1.1 68 6) = 1
    · rw [if_pos z, if_pos z]; rfl
    · rw [if_neg z, if_neg z]; rfl
  · intro φ w xz hz gz vz z1 z2
    refine zk_Gf (φ := φ) (w := w) (zz_declaration_L z1 v0 vz) ?_
    rw [zx_isSign z2, if_pos rfl]
    exact zw_mono (zxb_declaration_L (N := 18446744073709551607 + 7) z2) fun g' z => ⟨m + 1 + 1, by omega, z⟩
  exact zk_dL 10240 _ _ (c := 0) I3 (by omega) (by omega) (by omega) (by omega) (by omega) ⟨s + 1, by omega, rfl⟩ hjs hjm
end ZH
/-- a section in the model, as a part of its own -/
def zm_secF (k : zs_H → Int32 → Option (Int32 × zs_H)) (h : zs_H) (x5 : Int32) : Option (Int32 × zs_H) := if (h.1 68 10) = 0 then (if (h.1 68 6) = 1 then ((f_Mo_declaration h x5).bind fun h4 => k h4 x5) else ((f_Mo_wantWord h 9).bind fun h2 => some ((h.1 68 7), h2))) else ((f_Mo_wantWord h 9).bind fun h2 => some ((h.1 68 7), h2))
def zm_secL : Nat → zs_H → Int32 → Option (Int32 × zs_H) := zd_it zm_secF (fun _ _ => none)
def zm_sec (h : zs_H) (x3 : Int32) : Option (Int32 × zs_H) := zd_B (f_Mo_add h x3 4 ((h.1 68 7)) ((h.1 68 9) - 6)) fun v2 h3 => ((f_Mo_next h3).bind fun h5 => zm_secL zF h5 v2)
theorem zm_secL_eq (k106 : zs_H → Int32 → Int32 → Int32 → Option zs_H) (x2 x3 : Int32) : ∀ N h x5, f_Mo_readBlock_L156 k106 N h x2 x3 x5 = zd_B (zm_secL N h x5) fun a h2 => k106 h2 x2 x3 a := by
  intro N
  induction N with
  | zero => intro h x5; rfl
  | succ N ih =>
    intro h x5
    show f_Mo_readBlock_156 k106 (f_Mo_readBlock_L156 k106 N) h x2 x3 x5 = zd_B (zm_secF (zm_secL N) h x5) _
    have e : f_Mo_readBlock_180 k106 h x2 x3 = zd_B ((f_Mo_wantWord h 9).bind fun h2 => some ((h.1 68 7), h2)) fun a h2 => k106 h2 x2 x3 a := by
      unfold f_Mo_readBlock_180
      cases f_Mo_wantWord h 9 <;> rfl
    unfold f_Mo_readBlock_156 zm_secF
    by_cases c1 : (h.1 68 10) = 0
    · rw [if_pos c1, if_pos c1]
      by_cases c2 : (h.1 68 6) = 1
      · rw [if_pos c2, if_pos c2]
        cases f_Mo_declaration h x5 with
        | none => rfl
        | some h4 => exact ih h4 x5
      · rw [if_neg c2, if_neg c2]; exact e
    · rw [if_neg c1, if_neg c1]; exact e
theorem zm_sec_eq (k106 : zs_H → Int32 → Int32 → Int32 → Option zs_H) (h : zs_H) (x2 x3 : Int32) : f_Mo_readBlock_133 k106 h x2 x3 = zd_B (zm_sec h x3) fun a h2 => k106 h2 x2 x3 a := by
  unfold f_Mo_readBlock_133 zm_sec
  cases f_Mo_add h x3 4 ((h.1 68 7)) ((h.1 68 9) - 6) with
  | none => rfl
  | some p =>
    obtain ⟨v2, h3⟩ := p
    show (f_Mo_next h3).bind _ = zd_B ((f_Mo_next h3).bind _) _
    cases f_Mo_next h3 with
    | none => rfl
    | some h5 => exact zm_secL_eq k106 x2 x3 zF h5 v2
def zm_2 (p : Int32 × zs_H) : Option zs_H := some p.2
theorem zm_2B {α : Type} {A : Option α} {F : α → Option (Int32 × zs_H)} : (A.bind F).bind zm_2 = A.bind fun a => (F a).bind zm_2 := by cases A <;> rfl
theorem zm_2D {A : Option (Int32 × zs_H)} {F : Int32 → zs_H → Option (Int32 × zs_H)} : (zd_B A F).bind zm_2 = zd_B A fun a b => (F a b).bind zm_2 := by cases A <;> rfl
section ZH2
variable {g0 g : zs_H} {T : Nat → Int32} {n φ w m O : Nat}
theorem zxb_secL {N : Nat} {x5 : Int32} (H : zx_B g0 T n φ w m O g) : zw (zm_secL (N + 1) g x5) (fun p => zx_B g0 T n φ w m O p.2) := by
  show zw (zm_secF (zm_secL N) g x5) _
  unfold zm_secF
  rw [if_neg (zx_ne H), zw_bind]
  exact zw_mono (zxw_wantWord H) fun g' z => zw_some.mpr z
end ZH2
section ZH3
variable {h0 g0 h g g1 h' g' : zs_H} {T : Nat → Int32} {n K : Nat} {LC LM LM' : List (List Int32)} {j d s m o q b kd j' d' s' m' e st D f M0 M : Nat} {p v y : Int32} {u : zt_T} {X : Int32 → zs_H → zs_H → Prop}
theorem zk_secE (I : zk_I h0 g0 T n K LC LM j s m o q b 4 p v h g g1 u y LM' j' d' s' m' e 0 3 f h' g') (he : 1 ≤ f) (hv : zg_v 4 v) (hs : s ≤ 2 * j + 12) (hm : m ≤ 2 * j + 12) : zk_G h0 g0 T n K LC m 20700 o (zk_T h0 g0 T n K LC LM (zg_T [4] 4) j d' s m o q b h g) (f_Ps_section_69 h' (nI s)) ((f_Mo_wantWord g' 9).bind fun h2 => (some ((g'.1 68 7), h2)).bind zm_2) := by
  have v0 := zk_Iv I
  have b1 := zk_Ib I
  unfold f_Ps_section_69
  refine zk_sA I (zk_wantW I.1 (c := 9) (by decide)) ?_ fun h2 g2 LM2 I2 => ?_
  · intro φ w hz gz z1 z2
    exact ⟨nI s, hz, gz, rfl, rfl, Or.inr ⟨v0, φ, w, m', by omega, by omega, z1, z2⟩⟩
  · have b2 := zk_Ib I2
    exact ⟨nI s, h2, g2, rfl, rfl, Or.inl (zk_Id I2 (by omega) (by omega) rfl hv (by decide) (by omega) (by decide))⟩
theorem zk_secL : ∀ (r N N' : Nat) {c : Nat} {y : Int32} {u : zt_T} {LM' : List (List Int32)} {j' s' m' e f : Nat} {h' g' : zs_H}, zk_I h0 g0 T n K LC LM j s m o q b 4 p v h g g1 u y LM' j' d' s' m' e 0 3 f h' g' → K ≤ j' + r → r + 2 ≤ N → r + 2 ≤ N' → 1 ≤ e → 1 ≤ f → c ≤ j' → zq_vl y → zg_v 4 v → s ≤ 2 * j + 12 → m ≤ 2 * j + 12 → zk_G h0 g0 T n K LC m 20700 o (zk_T h0 g0 T n K LC LM (zg_T [4] 4) j d' s m o q b h g) (f_Ps_section_L33 N h' (nI s) y (nI c)) ((zm_secL N' g' (nI m)).bind zm_2) := by
  intro r
  induction r with
  | zero =>
    intro N N' c y u LM' j' s' m' e f h' g' I hr hN hN' he hf hc vy hv hs hm
    have b1 := zk_Ib I
    obtain ⟨N, rfl⟩ : ∃ k, N = k + 1 := ⟨N - 1, by omega⟩
    obtain ⟨N', rfl⟩ : ∃ k, N' = k + 1 := ⟨N' - 1, by omega⟩
    have hnc : ¬ (h'.1 19 5) = 8 := fun z => by
      have := zk_lt I.1 (zk_notE I.1 (by rw [z]; decide))
      omega
    show zk_G h0 g0 T n K LC m 20700 o _ (f_Ps_section_33 (f_Ps_section_L33 N) h' (nI s) y (nI c)) ((zm_secF (zm_secL N') g' (nI m)).bind zm_2)
    unfold f_Ps_section_33 zm_secF
    rw [if_neg (mt (zc_le (k := 16384) (by decide) (by omega)).mp (by omega)), if_neg hnc, if_pos I.1.2.2.2.2.2.2.1, if_neg (fun z => hnc ((zk_kind I.1).1.mp z)), zm_2B]
    exact zk_secE I hf hv hs hm
  | succ r ih =>
    intro N N' c y u LM' j' s' m' e f h' g' I hr hN hN' he hf hc vy hv hs hm
    have b1 := zk_Ib I
    have v0 := zk_Iv I
    obtain ⟨N, rfl⟩ : ∃ k, N = k + 2 := ⟨N - 2, by omega⟩
    obtain ⟨N', rfl⟩ : ∃ k, N' = k + 2 := ⟨N' - 2, by omega⟩
    show zk_G h0 g0 T n K LC m 20700 o _ (f_Ps_section_33 (f_Ps_section_L33 (N + 1)) h' (nI s) y (nI c)) ((zm_secF (zm_secL (N' + 1)) g' (nI m)).bind zm_2)
    unfold f_Ps_section_33 zm_secF
    rw [if_neg (mt (zc_le (k := 16384) (by decide) (by omega)).mp (by omega)), if_pos I.1.2.2.2.2.2.2.1]
    by_cases hnc : (h'.1 19 5) = 8
    · rw [if_pos hnc, if_pos ((zk_kind I.1).1.mpr hnc), zm_2B]
      refine zk_sK (st' := 0) I (zk_declaration I.1 (by omega) (by omega) (by omega)) (by decide) ?_ fun x3 h3 g3 u3 LM3 j3 s3 m3 v3 l3 I3 => ?_
      · intro φ w mz xz hz gz w1 w2 vz z1 z2
        refine zk_Gf (φ := φ) (w := w) ?_ ?_
        · repeat' first
            | with_reducible exact zw_some.mpr ⟨by assumption, by assumption⟩
            | (rw [zw_bind]; with_reducible refine zw_mono (zz_take (by assumption)) ?_; intro _ _)
            | (rw [zw_B]; with_reducible refine zw_mono (zz_constant (by assumption)) ?_; rintro _ ⟨_, _⟩)
            | (rw [zw_B]; with_reducible refine zw_mono (zz_simpleType (by assumption)) ?_; rintro _ ⟨_, _⟩)
            | (rw [zw_B]; with_reducible refine zw_mono (zz_type (by assumption)) ?_; rintro _ ⟨_, _⟩)
            | (rw [zw_B]; with_reducible refine zw_mono (zz_whole (by assumption)) ?_; rintro _ ⟨_, _⟩)
            | (rw [zw_B]; with_reducible refine zw_mono (zz_add (by assumption)) ?_; rintro _ ⟨_, _⟩)
            | (rw [zw_B]; with_reducible refine zw_mono (zz_hang (by assumption) (by assumption) (by first | assumption | exact zq_vl_n | exact zq_vl_v (by assumption)) (by assumption)) ?_; rintro _ ⟨_, _⟩)
            | rw [if_pos (zq_at (by assumption))]
            | rw [zz_isCell (by assumption), if_pos rfl]
            | rw [if_neg (zq_ne (by assumption) (by decide) (by decide))]
          exact zz_section_L (by assumption) (by assumption)
        · rw [zw_bind]
          exact zw_mono (zxb_secL z2) fun g' z => zw_some.mpr ⟨mz, by omega, z⟩
      rw [nI_1]
      have b3 := zk_Ib I3
      exact ih (N + 1) (N' + 1) (c := c + 1) I3 (by omega) (by omega) (by omega) he hf (by omega) (zq_vl_v v3) hv hs hm
    · rw [if_neg hnc, if_neg (fun z => hnc ((zk_kind I.1).1.mp z)), zm_2B]
      exact zk_secE I hf hv hs hm
theorem zk_section (H : zk_L h0 g0 T n K LC h g LM j d s m o q) {b : Nat} (hb : b < m) (ht : ∃ c, 6 ≤ c ∧ c ≤ 8 ∧ (h.1 19 5) = nI (128 + c)) (hjs : s ≤ 2 * j + 12) (hjm : m ≤ 2 * j + 12) : zk_G h0 g0 T n K LC m 20700 o (zk_T h0 g0 T n K LC LM (zg_T [4] 4) j d s m o q b h g) (f_Ps_section h) ((zm_sec g (nI b)).bind zm_2) := by
  have hK := zk_bK H
  obtain ⟨c, c1, c2, ht⟩ := ht
  obtain ⟨_, hv⟩ := (zk_wd H c (by omega)).mp ht
  have e6 : (h.1 19 5) - 134 = nI (c - 6) := by rw [ht, show (134 : Int32) = nI 134 from rfl, zi_sub (by omega), show 128 + c - 134 = c - 6 by omega]
  have e7 : (g.1 68 9) - 6 = nI (c - 6) := by rw [hv, show (6 : Int32) = nI 6 from rfl, zi_sub (by omega)]
  unfold f_Ps_section zm_sec
  rw [zm_2D, e6, e7]
  obtain ⟨h1, g1, e1, e2, I⟩ := zk_I0 H (b := b) (kd := 4) (kc := 4) (km := 4) (D := 3) (v := nI (c - 6)) (w := nI (c - 6)) (by omega) (by omega) hb (by decide) rfl rfl (by rw [if_neg (by decide)])
  rw [e1, e2, zo_B, zo_B, zm_2B]
  have v0 := zk_Iv I
  have hv4 : zg_v 4 (nI (c - 6)) := Or.inr ⟨c - 6, by show _ < 3; omega, rfl, fun z => absurd z (by decide)⟩
  refine zk_sN I rfl (fun z => ?_) ?_ fun h2 g2 LM2 I2 => ?_
  · rw [I.1.2.2.2.1.2.2.1, ← H.2.2.2.1.2.2.1, ht] at z
    have := (zc_eq (k := 6) (by decide) (by omega)).mp z
    omega
  · intro φ w hz gz z1 z2
    rw [zF_9]
    refine zk_Gf (φ := φ) (w := w) (zz_section_L (N := 18446744073709551607 + 8) z1 v0) ?_
    rw [zw_bind]
    exact zw_mono (zxb_secL (N := 18446744073709551607 + 8) z2) fun g' z => zw_some.mpr ⟨m + 1, by omega, z⟩
  · have b2 := zk_Ib I2
    rw [zF_9]
    exact zk_secL 10240 _ _ (c := 0) I2 (by omega) (by omega) (by omega) (by omega) (by omega) (by omega) zq_vl_n hv4 hjs hjm
end ZH3
end
