/-! Both readers in step: types. -/
theorem zq_vl_n : zq_vl (-1) := Or.inl rfl
theorem zq_vl_v {x : Int32} (h : zq_v x) : zq_vl x := Or.inr h
section ZG
variable {h0 g0 h g : zs_H} {T : Nat → Int32} {n K : Nat} {LC LM : List (List Int32)} {j d s m o q : Nat}
/-- words, in the class and in the model -/
theorem zk_wd (H : zk_L h0 g0 T n K LC h g LM j d s m o q) (c : Nat) (hc : c < 41) : (h.1 19 5) = nI (128 + c) ↔ ((g.1 68 6) = 2 ∧ (g.1 68 9) = nI c) := by
  have hF := zk_F H
  have hA := zl_ckA hF
  have m6 := H.2.2.2.2.2.2.2.2.2.2.1
  have m8 := H.2.2.2.2.2.2.2.2.2.2.2.2.1
  rw [zk_tok H (by omega), hA.2.2.1 c hc, m6]
  constructor
  · intro z
    rw [z.1]
    exact ⟨rfl, by rw [m8 (by omega) (by omega), z.2]⟩
  · intro z
    have z1 := (zc_eq (k := 2) (by decide) (by have := hF.1; omega)).mp z.1
    have z2 := z.2
    rw [m8 (by omega) (by omega)] at z2
    exact ⟨z1, (nI_eq (by have := hF.2.1 z1; omega) (by omega)).mp z2⟩
theorem zk_TW {W W' : zt_T → Prop} {b : Nat} {x : Int32} {h' g' : zs_H} (R : zk_T h0 g0 T n K LC LM W j d s m o q b h g x h' g') (hW : ∀ t, W t → W' t) : zk_T h0 g0 T n K LC LM W' j d s m o q b h g x h' g' := by
  obtain ⟨t, LM', j', s', m', a, ⟨r1, r2⟩, r3⟩ := R
  exact ⟨t, LM', j', s', m', a, ⟨hW t r1, r2⟩, r3⟩
theorem zk_TD {S : List Nat} {D D' M0 M b : Nat} {A : Option (Int32 × zs_H)} {B : Option zs_H} (R : ∃ x h' g', A = some (x, h') ∧ B = some g' ∧ (zk_T h0 g0 T n K LC LM (zg_T S D) j d s m o q b h g x h' g' ∨ zk_Z h0 g0 T n K LC M0 M o x h' g')) (hD : D ≤ D') : ∃ x h' g', A = some (x, h') ∧ B = some g' ∧ (zk_T h0 g0 T n K LC LM (zg_T S D') j d s m o q b h g x h' g' ∨ zk_Z h0 g0 T n K LC M0 M o x h' g') := by
  obtain ⟨x, h', g', e1, e2, e3⟩ := R
  exact ⟨x, h', g', e1, e2, e3.imp (fun z => zk_TW z fun t z => zg_Tm z (fun _ z => z) hD) id⟩
theorem zk_simple (H : zk_L h0 g0 T n K LC h g LM j d s m o q) {b : Nat} (hb : b < m) (hs : s < 32784) (hm : m < 33500) : zk_G h0 g0 T n K LC m (m + 1) o (zk_T h0 g0 T n K LC LM (zg_T [8] 1) j d s m o q b h g) (f_Ps_simpleType h) (f_Mo_simple g (nI b)) := by
  have hF := zk_F H
  have hA := zl_ckA hF
  have m6 := H.2.2.2.2.2.2.2.2.2.2.1
  have m8 := H.2.2.2.2.2.2.2.2.2.2.2.2.1
  have m4 := H.2.2.2.2.2.2.2.2.1
  have htk := H.2.2.2.1.2.2.1
  have hck := hA.2.2.2.2.2.2.2.2.1
  by_cases c : (zl_at T n j).1 = 2 ∧ 11 ≤ (zl_at T n j).2.2.2 ∧ (zl_at T n j).2.2.2 < 14
  · obtain ⟨c1, c2, c3⟩ := c
    have ek : zl_ck (zl_at T n j) = 128 + (zl_at T n j).2.2.2 := (hA.2.2.1 _ (by omega)).mpr ⟨c1, rfl⟩
    have ev := m8 (by omega) (by omega)
    obtain ⟨h1, e1, L1, qA⟩ := zk_cadd H (kd := 8) (kv := 8) (v := (h.1 19 5) - 139) hs (by decide) rfl
    have etk : (h1.1 19 5) = (h.1 19 5) := qA.2.2.2.2.2.2.1 _ _ (by decide)
    have evv : (g.1 68 9) - 11 = (h.1 19 5) - 139 := by
      rw [ev, htk, ek, show (11 : Int32) = nI 11 from rfl, show (139 : Int32) = nI 139 from rfl, zi_sub (by omega), zi_sub (by omega)]
      rw [show 128 + (zl_at T n j).2.2.2 - 139 = (zl_at T n j).2.2.2 - 11 by omega]
    obtain ⟨g1, e2, L2, qM, _⟩ := zk_madd L1 (b := b) (kd := 8) (kv := 8) (p := (g.1 68 7)) (v := (g.1 68 9) - 11) (v' := (h.1 19 5) - 139) hm hb rfl (by rw [if_neg (by decide)]; exact evv)
    obtain ⟨h2, g2, e3, e4, f1, f2, L3⟩ := zk_step L2 (by omega)
    refine ⟨nI s, h2, g2, ?_, ?_, ?_⟩
    · unfold f_Ps_simpleType f_Ps_simpleType_47 f_Ps_simpleType_61
      rw [e1, zo_B]
      rw [if_neg (by rw [etk, htk, ek]; exact mt (zc_tl (k := 139) (by decide) (by omega)).mp (by omega)), if_neg (by rw [etk, htk, ek]; exact mt (zc_lt (k := 141) (by decide) (by omega)).mp (by omega)), if_neg (by decide), e3]; rfl
    · unfold f_Mo_simple f_Mo_simple_31 f_Mo_simple_58 f_Mo_want
      rw [if_pos (by rw [m6, c1]; rfl), if_neg (by rw [ev]; exact mt (zc_tl (k := 11) (by decide) (by omega)).mp (by omega)), if_neg (by rw [ev]; exact mt (zc_le (k := 14) (by decide) (by omega)).mp (by omega)), if_neg (by decide), e2, zo_B]
      rw [if_pos L2.2.2.2.2.2.2.1, if_neg (by decide), e4]; rfl
    · rw [m4] at qM
      rcases L3 with ⟨LM', hp, L3⟩ | ⟨φ, w, z1, z2⟩
      · refine Or.inl (zk_leaf H (zg_n zg_U0 rfl (Or.inr ⟨(zl_at T n j).2.2.2 - 11, by show _ < 3; omega, ?_, fun z => absurd z (by decide)⟩) (by decide)) (by decide) hb hs hm qA qM f1 f2 hp L3)
        rw [htk, ek, show (139 : Int32) = nI 139 from rfl, zi_sub (by omega), show 128 + (zl_at T n j).2.2.2 - 139 = (zl_at T n j).2.2.2 - 11 by omega]
      · exact Or.inr ⟨⟨s, hs, rfl⟩, φ, w, m + 1, by omega, by omega, z1, z2⟩
  · obtain ⟨h1, e1, L1, qA⟩ := zk_cadd H (kd := 8) (kv := 8) (v := (h.1 19 5) - 139) hs (by decide) rfl
    have etk : (h1.1 19 5) = (h.1 19 5) := qA.2.2.2.2.2.2.1 _ _ (by decide)
    have hne : ¬ (h1.1 19 5) = -1 := by rw [etk, htk]; exact zc_m1 (by omega)
    obtain ⟨h2, g2, e3, e4, φ, w, z1, z2⟩ := zk_wrong L1 hne
    have hrange : zl_ck (zl_at T n j) < 139 ∨ 141 < zl_ck (zl_at T n j) := by
      rcases zl_ckD hF with a | a | a | a | a | a | a | ⟨_, a1, a2⟩
      · omega
      · omega
      · omega
      · omega
      · omega
      · omega
      · omega
      · have := zl_svb a1; omega
    have e46 : f_Ps_simpleType_46 h1 (nI s) = some (nI s, h2) := by
      unfold f_Ps_simpleType_46 f_Ps_simpleType_47 f_Ps_simpleType_61
      rw [if_pos rfl, e3]; rfl
    have e30 : f_Mo_simple_30 g (nI b) = some g2 := by
      unfold f_Mo_simple_30 f_Mo_simple_31 f_Mo_simple_58 f_Mo_want
      rw [if_pos rfl, if_pos H.2.2.2.2.2.2.1, if_pos rfl, e4]; rfl
    refine ⟨nI s, h2, g2, ?_, ?_, Or.inr ⟨⟨s, hs, rfl⟩, φ, w, m, by omega, by omega, z1, z2⟩⟩
    · unfold f_Ps_simpleType
      rw [e1, zo_B, etk, htk]
      rcases hrange with z | z
      · rw [if_pos ((zc_tl (k := 139) (by decide) (by omega)).mpr z)]; exact e46
      · rw [if_neg (mt (zc_tl (k := 139) (by decide) (by omega)).mp (by omega)), if_pos ((zc_lt (k := 141) (by decide) (by omega)).mpr z)]; exact e46
    · unfold f_Mo_simple
      by_cases k2 : (zl_at T n j).1 = 2
      · have ev := m8 (by omega) (by omega)
        have hv := hF.2.1 k2
        rw [if_pos (by rw [m6, k2]; rfl), ev]
        by_cases v1 : (zl_at T n j).2.2.2 < 11
        · rw [if_pos ((zc_tl (k := 11) (by decide) (by omega)).mpr v1)]; exact e30
        · rw [if_neg (mt (zc_tl (k := 11) (by decide) (by omega)).mp v1), if_pos ((zc_le (k := 14) (by decide) (by omega)).mpr (by omega))]; exact e30
      · rw [if_neg (fun z => k2 ((zc_eq (k := 2) (by decide) (by have := hF.1; omega)).mp (by rw [← m6]; exact z)))]; exact e30
theorem zk_type (H : zk_L h0 g0 T n K LC h g LM j d s m o q) {b : Nat} (hb : b < m) (hjs : s ≤ 2 * j + 12) (hjm : m ≤ 2 * j + 12) : zk_G h0 g0 T n K LC m 20600 o (zk_T h0 g0 T n K LC LM (zg_T [8, 9, 10] 2) j d s m o q b h g) (f_Ps_type h) (f_Mo_readType g (nI b)) := by
  have hw := zk_word H (c := 14) (by decide)
  have hk := (zk_kind H).1
  have hK := zk_bK H
  unfold f_Ps_type f_Mo_readType
  rw [show f_Mo_isWord g 14 = if (h.1 19 5) = nI 142 then 1 else 0 from hw]
  by_cases c1 : (h.1 19 5) = 8
  · have hk1 : (zl_at T n j).1 = 1 := (zc_eq (k := 1) (by decide) (by have := (zk_F H).1; omega)).mp (by rw [← H.2.2.2.2.2.2.2.2.2.2.1]; exact hk.mpr c1)
    obtain ⟨n1, n2⟩ := zk_nm H hk1
    rw [if_pos c1, if_pos n1, if_neg (show ¬ (h.1 19 5) = nI 142 by rw [c1]; decide), if_pos rfl, if_pos (hk.mpr c1)]
    obtain ⟨h1, g1, e1, e2, I⟩ := zk_I0 H (b := b) (kd := 10) (kc := 10) (km := 10) (D := 1) (v := h.2.1 11 ((h.1 19 4)).toNatClampNeg) (w := (g.1 68 9)) (by omega) (by omega) hb (by decide) rfl rfl (by rw [if_pos (by decide)]; exact n2)
    rw [e1, e2, zo_B, zo_B]
    have v0 := zk_Iv I
    refine zk_sN I (by rw [I.1.2.2.2.1.2.2.1, ← H.2.2.2.1.2.2.1]; exact c1) (by decide) ?_ fun h2 g2 LM2 I2 => ?_
    · intro φ w hz gz z1 z2
      refine zk_Gf (φ := φ) (w := w) ?_ ?_
      · repeat' first
          | with_reducible exact zw_some.mpr ⟨by assumption, by assumption⟩
          | (rw [zw_bind]; with_reducible refine zw_mono (zz_take (by assumption)) ?_; intro _ _)
          | (rw [zw_B]; with_reducible refine zw_mono (zz_constant (by assumption)) ?_; rintro _ ⟨_, _⟩)
          | (rw [zw_B]; with_reducible refine zw_mono (zz_simpleType (by assumption)) ?_; rintro _ ⟨_, _⟩)
          | (rw [zw_B]; with_reducible refine zw_mono (zz_type (by assumption)) ?_; rintro _ ⟨_, _⟩)
          | (rw [zw_B]; with_reducible refine zw_mono (zz_whole (by assumption)) ?_; rintro _ ⟨_, _⟩)
          | (rw [zw_B]; with_reducible refine zw_mono (zz_add (by assumption)) ?_; rintro _ ⟨_, _⟩)
          | (rw [zw_B]; with_reducible refine zw_mono (zz_hang (by assumption) (by assumption) (by first | assumption | exact zq_vl_n | exact zq_vl_v (by assumption)) (by assumption)) ?_; rintro _ ⟨_, _⟩)
          | rw [if_pos (zq_at (by assumption))]
          | rw [zz_isCell (by assumption), if_pos rfl]
          | rw [if_neg (zq_ne (by assumption) (by decide) (by decide))]
      · repeat' first
          | (with_reducible refine zw_some.mpr ⟨_, ⟨?_, ?_⟩, by assumption⟩ <;> omega)
          | (rw [zw_bind]; with_reducible refine zw_mono (zxw_wantSign (by assumption)) ?_; intro _ _)
          | (rw [zw_bind]; with_reducible refine zw_mono (zxw_wantWord (by assumption)) ?_; intro _ _)
          | (rw [zw_bind]; with_reducible refine zw_mono (zxw_want (by assumption)) ?_; intro _ _)
          | (rw [zw_bind]; with_reducible refine zw_mono (zx_next (by assumption)) ?_; intro _ _)
          | (rw [zw_bind]; with_reducible refine zw_mono (zxb_constant (by assumption) (by omega) (by omega)) ?_; intro _ _)
          | (rw [zw_bind]; with_reducible refine zw_mono (zxw_simple (by assumption) (by omega) (by omega)) ?_; rintro _ ⟨_, _, _, _⟩)
          | (rw [zw_B]; with_reducible refine zw_mono (zxb_add (by assumption) (by omega) rfl (by omega)) ?_; rintro _ ⟨e1, _⟩; try rw [e1])
          | rw [zx_isSign (by assumption), if_pos rfl]
          | rw [zx_isWord (by assumption), if_pos rfl]
          | rw [if_neg (zx_ne (by assumption))]
          | rw [if_neg (zx_pos (by assumption))]
          | rw [if_pos (show (0 : Int32) ≤ 0 by decide)]
    exact ⟨nI s, h2, g2, rfl, rfl, Or.inl (zk_Id I2 (by omega) (by omega) rfl (Or.inl rfl) (by decide) (by omega) (by decide))⟩
  · rw [if_neg c1]
    by_cases c2 : (h.1 19 5) = 142
    · rw [if_pos c2, if_pos (show (h.1 19 5) = nI 142 from c2), if_neg (by decide)]
      obtain ⟨h1, g1, e1, e2, I⟩ := zk_I0 H (b := b) (kd := 9) (kc := 9) (km := 9) (D := 1) (v := 0) (w := 0) (by omega) (by omega) hb (by decide) rfl rfl (by rw [if_neg (by decide)])
      rw [e1, e2, zo_B, zo_B]
      have v0 := zk_Iv I
      refine zk_sN I (by rw [I.1.2.2.2.1.2.2.1, ← H.2.2.2.1.2.2.1]; exact c2) (by decide) ?_ fun h2 g2 LM2 I2 => ?_
      · intro φ w hz gz z1 z2
        refine zk_Gf (φ := φ) (w := w) ?_ ?_
        · repeat' first
            | with_reducible exact zw_some.mpr ⟨by assumption, by assumption⟩
            | (rw [zw_bind]; with_reducible refine zw_mono (zz_take (by assumption)) ?_; intro _ _)
            | (rw [zw_B]; with_reducible refine zw_mono (zz_constant (by assumption)) ?_; rintro _ ⟨_, _⟩)
            | (rw [zw_B]; with_reducible refine zw_mono (zz_simpleType (by assumption)) ?_; rintro _ ⟨_, _⟩)
            | (rw [zw_B]; with_reducible refine zw_mono (zz_type (by assumption)) ?_; rintro _ ⟨_, _⟩)
            | (rw [zw_B]; with_reducible refine zw_mono (zz_whole (by assumption)) ?_; rintro _ ⟨_, _⟩)
            | (rw [zw_B]; with_reducible refine zw_mono (zz_add (by assumption)) ?_; rintro _ ⟨_, _⟩)
            | (rw [zw_B]; with_reducible refine zw_mono (zz_hang (by assumption) (by assumption) (by first | assumption | exact zq_vl_n | exact zq_vl_v (by assumption)) (by assumption)) ?_; rintro _ ⟨_, _⟩)
            | rw [if_pos (zq_at (by assumption))]
            | rw [zz_isCell (by assumption), if_pos rfl]
            | rw [if_neg (zq_ne (by assumption) (by decide) (by decide))]
        · repeat' first
            | (with_reducible refine zw_some.mpr ⟨_, ⟨?_, ?_⟩, by assumption⟩ <;> omega)
            | (rw [zw_bind]; with_reducible refine zw_mono (zxw_wantSign (by assumption)) ?_; intro _ _)
            | (rw [zw_bind]; with_reducible refine zw_mono (zxw_wantWord (by assumption)) ?_; intro _ _)
            | (rw [zw_bind]; with_reducible refine zw_mono (zxw_want (by assumption)) ?_; intro _ _)
            | (rw [zw_bind]; with_reducible refine zw_mono (zx_next (by assumption)) ?_; intro _ _)
            | (rw [zw_bind]; with_reducible refine zw_mono (zxb_constant (by assumption) (by omega) (by omega)) ?_; intro _ _)
            | (rw [zw_bind]; with_reducible refine zw_mono (zxw_simple (by assumption) (by omega) (by omega)) ?_; rintro _ ⟨_, _, _, _⟩)
            | (rw [zw_B]; with_reducible refine zw_mono (zxb_add (by assumption) (by omega) rfl (by omega)) ?_; rintro _ ⟨e1, _⟩; try rw [e1])
            | rw [zx_isSign (by assumption), if_pos rfl]
            | rw [zx_isWord (by assumption), if_pos rfl]
            | rw [if_neg (zx_ne (by assumption))]
            | rw [if_neg (zx_pos (by assumption))]
            | rw [if_pos (show (0 : Int32) ≤ 0 by decide)]
      refine zk_sA I2 (zk_wantS I2.1 (c := 91) (k := 91) (by decide) (by decide)) ?_ fun h3 g3 LM3 I3 => ?_
      · intro φ w hz gz z1 z2
        refine zk_Gf (φ := φ) (w := w) ?_ ?_
        · repeat' first
            | with_reducible exact zw_some.mpr ⟨by assumption, by assumption⟩
            | (rw [zw_bind]; with_reducible refine zw_mono (zz_take (by assumption)) ?_; intro _ _)
            | (rw [zw_B]; with_reducible refine zw_mono (zz_constant (by assumption)) ?_; rintro _ ⟨_, _⟩)
            | (rw [zw_B]; with_reducible refine zw_mono (zz_simpleType (by assumption)) ?_; rintro _ ⟨_, _⟩)
            | (rw [zw_B]; with_reducible refine zw_mono (zz_type (by assumption)) ?_; rintro _ ⟨_, _⟩)
            | (rw [zw_B]; with_reducible refine zw_mono (zz_whole (by assumption)) ?_; rintro _ ⟨_, _⟩)
            | (rw [zw_B]; with_reducible refine zw_mono (zz_add (by assumption)) ?_; rintro _ ⟨_, _⟩)
            | (rw [zw_B]; with_reducible refine zw_mono (zz_hang (by assumption) (by assumption) (by first | assumption | exact zq_vl_n | exact zq_vl_v (by assumption)) (by assumption)) ?_; rintro _ ⟨_, _⟩)
            | rw [if_pos (zq_at (by assumption))]
            | rw [zz_isCell (by assumption), if_pos rfl]
            | rw [if_neg (zq_ne (by assumption) (by decide) (by decide))]
        · repeat' first
            | (with_reducible refine zw_some.mpr ⟨_, ⟨?_, ?_⟩, by assumption⟩ <;> omega)
            | (rw [zw_bind]; with_reducible refine zw_mono (zxw_wantSign (by assumption)) ?_; intro _ _)
            | (rw [zw_bind]; with_reducible refine zw_mono (zxw_wantWord (by assumption)) ?_; intro _ _)
            | (rw [zw_bind]; with_reducible refine zw_mono (zxw_want (by assumption)) ?_; intro _ _)
            | (rw [zw_bind]; with_reducible refine zw_mono (zx_next (by assumption)) ?_; intro _ _)
            | (rw [zw_bind]; with_reducible refine zw_mono (zxb_constant (by assumption) (by omega) (by omega)) ?_; intro _ _)
            | (rw [zw_bind]; with_reducible refine zw_mono (zxw_simple (by assumption) (by omega) (by omega)) ?_; rintro _ ⟨_, _, _, _⟩)
            | (rw [zw_B]; with_reducible refine zw_mono (zxb_add (by assumption) (by omega) rfl (by omega)) ?_; rintro _ ⟨e1, _⟩; try rw [e1])
            | rw [zx_isSign (by assumption), if_pos rfl]
            | rw [zx_isWord (by assumption), if_pos rfl]
            | rw [if_neg (zx_ne (by assumption))]
            | rw [if_neg (zx_pos (by assumption))]
            | rw [if_pos (show (0 : Int32) ≤ 0 by decide)]
      have b3 := zk_Ib I3
      refine zk_sK (st' := 1) I3 (zk_constant I3.1 (by omega) (by omega) (by omega)) (by decide) ?_ fun x4 h4 g4 u4 LM4 j4 s4 m4 v4 l4 I4 => ?_
      · intro φ w mz xz hz gz w1 w2 vz z1 z2
        refine zk_Gf (φ := φ) (w := w) ?_ ?_
        · repeat' first
            | with_reducible exact zw_some.mpr ⟨by assumption, by assumption⟩
            | (rw [zw_bind]; with_reducible refine zw_mono (zz_take (by assumption)) ?_; intro _ _)
            | (rw [zw_B]; with_reducible refine zw_mono (zz_constant (by assumption)) ?_; rintro _ ⟨_, _⟩)
            | (rw [zw_B]; with_reducible refine zw_mono (zz_simpleType (by assumption)) ?_; rintro _ ⟨_, _⟩)
            | (rw [zw_B]; with_reducible refine zw_mono (zz_type (by assumption)) ?_; rintro _ ⟨_, _⟩)
            | (rw [zw_B]; with_reducible refine zw_mono (zz_whole (by assumption)) ?_; rintro _ ⟨_, _⟩)
            | (rw [zw_B]; with_reducible refine zw_mono (zz_add (by assumption)) ?_; rintro _ ⟨_, _⟩)
            | (rw [zw_B]; with_reducible refine zw_mono (zz_hang (by assumption) (by assumption) (by first | assumption | exact zq_vl_n | exact zq_vl_v (by assumption)) (by assumption)) ?_; rintro _ ⟨_, _⟩)
            | rw [if_pos (zq_at (by assumption))]
            | rw [zz_isCell (by assumption), if_pos rfl]
            | rw [if_neg (zq_ne (by assumption) (by decide) (by decide))]
        · repeat' first
            | (with_reducible refine zw_some.mpr ⟨_, ⟨?_, ?_⟩, by assumption⟩ <;> omega)
            | (rw [zw_bind]; with_reducible refine zw_mono (zxw_wantSign (by assumption)) ?_; intro _ _)
            | (rw [zw_bind]; with_reducible refine zw_mono (zxw_wantWord (by assumption)) ?_; intro _ _)
            | (rw [zw_bind]; with_reducible refine zw_mono (zxw_want (by assumption)) ?_; intro _ _)
            | (rw [zw_bind]; with_reducible refine zw_mono (zx_next (by assumption)) ?_; intro _ _)
            | (rw [zw_bind]; with_reducible refine zw_mono (zxb_constant (by assumption) (by omega) (by omega)) ?_; intro _ _)
            | (rw [zw_bind]; with_reducible refine zw_mono (zxw_simple (by assumption) (by omega) (by omega)) ?_; rintro _ ⟨_, _, _, _⟩)
            | (rw [zw_B]; with_reducible refine zw_mono (zxb_add (by assumption) (by omega) rfl (by omega)) ?_; rintro _ ⟨e1, _⟩; try rw [e1])
            | rw [zx_isSign (by assumption), if_pos rfl]
            | rw [zx_isWord (by assumption), if_pos rfl]
            | rw [if_neg (zx_ne (by assumption))]
            | rw [if_neg (zx_pos (by assumption))]
            | rw [if_pos (show (0 : Int32) ≤ 0 by decide)]
      have b4 := zk_Ib I4
      refine zk_sA I4 (zk_wantS I4.1 (c := 257) (k := 2) (by decide) (by decide)) ?_ fun h5 g5 LM5 I5 => ?_
      · intro φ w hz gz z1 z2
        refine zk_Gf (φ := φ) (w := w) ?_ ?_
        · repeat' first
            | with_reducible exact zw_some.mpr ⟨by assumption, by assumption⟩
            | (rw [zw_bind]; with_reducible refine zw_mono (zz_take (by assumption)) ?_; intro _ _)
            | (rw [zw_B]; with_reducible refine zw_mono (zz_constant (by assumption)) ?_; rintro _ ⟨_, _⟩)
            | (rw [zw_B]; with_reducible refine zw_mono (zz_simpleType (by assumption)) ?_; rintro _ ⟨_, _⟩)
            | (rw [zw_B]; with_reducible refine zw_mono (zz_type (by assumption)) ?_; rintro _ ⟨_, _⟩)
            | (rw [zw_B]; with_reducible refine zw_mono (zz_whole (by assumption)) ?_; rintro _ ⟨_, _⟩)
            | (rw [zw_B]; with_reducible refine zw_mono (zz_add (by assumption)) ?_; rintro _ ⟨_, _⟩)
            | (rw [zw_B]; with_reducible refine zw_mono (zz_hang (by assumption) (by assumption) (by first | assumption | exact zq_vl_n | exact zq_vl_v (by assumption)) (by assumption)) ?_; rintro _ ⟨_, _⟩)
            | rw [if_pos (zq_at (by assumption))]
            | rw [zz_isCell (by assumption), if_pos rfl]
            | rw [if_neg (zq_ne (by assumption) (by decide) (by decide))]
        · repeat' first
            | (with_reducible refine zw_some.mpr ⟨_, ⟨?_, ?_⟩, by assumption⟩ <;> omega)
            | (rw [zw_bind]; with_reducible refine zw_mono (zxw_wantSign (by assumption)) ?_; intro _ _)
            | (rw [zw_bind]; with_reducible refine zw_mono (zxw_wantWord (by assumption)) ?_; intro _ _)
            | (rw [zw_bind]; with_reducible refine zw_mono (zxw_want (by assumption)) ?_; intro _ _)
            | (rw [zw_bind]; with_reducible refine zw_mono (zx_next (by assumption)) ?_; intro _ _)
            | (rw [zw_bind]; with_reducible refine zw_mono (zxb_constant (by assumption) (by omega) (by omega)) ?_; intro _ _)
            | (rw [zw_bind]; with_reducible refine zw_mono (zxw_simple (by assumption) (by omega) (by omega)) ?_; rintro _ ⟨_, _, _, _⟩)
            | (rw [zw_B]; with_reducible refine zw_mono (zxb_add (by assumption) (by omega) rfl (by omega)) ?_; rintro _ ⟨e1, _⟩; try rw [e1])
            | rw [zx_isSign (by assumption), if_pos rfl]
            | rw [zx_isWord (by assumption), if_pos rfl]
            | rw [if_neg (zx_ne (by assumption))]
            | rw [if_neg (zx_pos (by assumption))]
            | rw [if_pos (show (0 : Int32) ≤ 0 by decide)]
      have b5 := zk_Ib I5
      refine zk_sK (st' := 2) I5 (zk_constant I5.1 (by omega) (by omega) (by omega)) (by decide) ?_ fun x6 h6 g6 u6 LM6 j6 s6 m6 v6 l6 I6 => ?_
      · intro φ w mz xz hz gz w1 w2 vz z1 z2
        refine zk_Gf (φ := φ) (w := w) ?_ ?_
        · repeat' first
            | with_reducible exact zw_some.mpr ⟨by assumption, by assumption⟩
            | (rw [zw_bind]; with_reducible refine zw_mono (zz_take (by assumption)) ?_; intro _ _)
            | (rw [zw_B]; with_reducible refine zw_mono (zz_constant (by assumption)) ?_; rintro _ ⟨_, _⟩)
            | (rw [zw_B]; with_reducible refine zw_mono (zz_simpleType (by assumption)) ?_; rintro _ ⟨_, _⟩)
            | (rw [zw_B]; with_reducible refine zw_mono (zz_type (by assumption)) ?_; rintro _ ⟨_, _⟩)
            | (rw [zw_B]; with_reducible refine zw_mono (zz_whole (by assumption)) ?_; rintro _ ⟨_, _⟩)
            | (rw [zw_B]; with_reducible refine zw_mono (zz_add (by assumption)) ?_; rintro _ ⟨_, _⟩)
            | (rw [zw_B]; with_reducible refine zw_mono (zz_hang (by assumption) (by assumption) (by first | assumption | exact zq_vl_n | exact zq_vl_v (by assumption)) (by assumption)) ?_; rintro _ ⟨_, _⟩)
            | rw [if_pos (zq_at (by assumption))]
            | rw [zz_isCell (by assumption), if_pos rfl]
            | rw [if_neg (zq_ne (by assumption) (by decide) (by decide))]
        · repeat' first
            | (with_reducible refine zw_some.mpr ⟨_, ⟨?_, ?_⟩, by assumption⟩ <;> omega)
            | (rw [zw_bind]; with_reducible refine zw_mono (zxw_wantSign (by assumption)) ?_; intro _ _)
            | (rw [zw_bind]; with_reducible refine zw_mono (zxw_wantWord (by assumption)) ?_; intro _ _)
            | (rw [zw_bind]; with_reducible refine zw_mono (zxw_want (by assumption)) ?_; intro _ _)
            | (rw [zw_bind]; with_reducible refine zw_mono (zx_next (by assumption)) ?_; intro _ _)
            | (rw [zw_bind]; with_reducible refine zw_mono (zxb_constant (by assumption) (by omega) (by omega)) ?_; intro _ _)
            | (rw [zw_bind]; with_reducible refine zw_mono (zxw_simple (by assumption) (by omega) (by omega)) ?_; rintro _ ⟨_, _, _, _⟩)
            | (rw [zw_B]; with_reducible refine zw_mono (zxb_add (by assumption) (by omega) rfl (by omega)) ?_; rintro _ ⟨e1, _⟩; try rw [e1])
            | rw [zx_isSign (by assumption), if_pos rfl]
            | rw [zx_isWord (by assumption), if_pos rfl]
            | rw [if_neg (zx_ne (by assumption))]
            | rw [if_neg (zx_pos (by assumption))]
            | rw [if_pos (show (0 : Int32) ≤ 0 by decide)]
      have b6 := zk_Ib I6
      refine zk_sA I6 (zk_wantS I6.1 (c := 93) (k := 93) (by decide) (by decide)) ?_ fun h7 g7 LM7 I7 => ?_
      · intro φ w hz gz z1 z2
        refine zk_Gf (φ := φ) (w := w) ?_ ?_
        · repeat' first
            | with_reducible exact zw_some.mpr ⟨by assumption, by assumption⟩
            | (rw [zw_bind]; with_reducible refine zw_mono (zz_take (by assumption)) ?_; intro _ _)
            | (rw [zw_B]; with_reducible refine zw_mono (zz_constant (by assumption)) ?_; rintro _ ⟨_, _⟩)
            | (rw [zw_B]; with_reducible refine zw_mono (zz_simpleType (by assumption)) ?_; rintro _ ⟨_, _⟩)
            | (rw [zw_B]; with_reducible refine zw_mono (zz_type (by assumption)) ?_; rintro _ ⟨_, _⟩)
            | (rw [zw_B]; with_reducible refine zw_mono (zz_whole (by assumption)) ?_; rintro _ ⟨_, _⟩)
            | (rw [zw_B]; with_reducible refine zw_mono (zz_add (by assumption)) ?_; rintro _ ⟨_, _⟩)
            | (rw [zw_B]; with_reducible refine zw_mono (zz_hang (by assumption) (by assumption) (by first | assumption | exact zq_vl_n | exact zq_vl_v (by assumption)) (by assumption)) ?_; rintro _ ⟨_, _⟩)
            | rw [if_pos (zq_at (by assumption))]
            | rw [zz_isCell (by assumption), if_pos rfl]
            | rw [if_neg (zq_ne (by assumption) (by decide) (by decide))]
        · repeat' first
            | (with_reducible refine zw_some.mpr ⟨_, ⟨?_, ?_⟩, by assumption⟩ <;> omega)
            | (rw [zw_bind]; with_reducible refine zw_mono (zxw_wantSign (by assumption)) ?_; intro _ _)
            | (rw [zw_bind]; with_reducible refine zw_mono (zxw_wantWord (by assumption)) ?_; intro _ _)
            | (rw [zw_bind]; with_reducible refine zw_mono (zxw_want (by assumption)) ?_; intro _ _)
            | (rw [zw_bind]; with_reducible refine zw_mono (zx_next (by assumption)) ?_; intro _ _)
            | (rw [zw_bind]; with_reducible refine zw_mono (zxb_constant (by assumption) (by omega) (by omega)) ?_; intro _ _)
            | (rw [zw_bind]; with_reducible refine zw_mono (zxw_simple (by assumption) (by omega) (by omega)) ?_; rintro _ ⟨_, _, _, _⟩)
            | (rw [zw_B]; with_reducible refine zw_mono (zxb_add (by assumption) (by omega) rfl (by omega)) ?_; rintro _ ⟨e1, _⟩; try rw [e1])
            | rw [zx_isSign (by assumption), if_pos rfl]
            | rw [zx_isWord (by assumption), if_pos rfl]
            | rw [if_neg (zx_ne (by assumption))]
            | rw [if_neg (zx_pos (by assumption))]
            | rw [if_pos (show (0 : Int32) ≤ 0 by decide)]
      refine zk_sA I7 (zk_wantW I7.1 (c := 15) (by decide)) ?_ fun h8 g8 LM8 I8 => ?_
      · intro φ w hz gz z1 z2
        refine zk_Gf (φ := φ) (w := w) ?_ ?_
        · repeat' first
            | with_reducible exact zw_some.mpr ⟨by assumption, by assumption⟩
            | (rw [zw_bind]; with_reducible refine zw_mono (zz_take (by assumption)) ?_; intro _ _)
            | (rw [zw_B]; with_reducible refine zw_mono (zz_constant (by assumption)) ?_; rintro _ ⟨_, _⟩)
            | (rw [zw_B]; with_reducible refine zw_mono (zz_simpleType (by assumption)) ?_; rintro _ ⟨_, _⟩)
            | (rw [zw_B]; with_reducible refine zw_mono (zz_type (by assumption)) ?_; rintro _ ⟨_, _⟩)
            | (rw [zw_B]; with_reducible refine zw_mono (zz_whole (by assumption)) ?_; rintro _ ⟨_, _⟩)
            | (rw [zw_B]; with_reducible refine zw_mono (zz_add (by assumption)) ?_; rintro _ ⟨_, _⟩)
            | (rw [zw_B]; with_reducible refine zw_mono (zz_hang (by assumption) (by assumption) (by first | assumption | exact zq_vl_n | exact zq_vl_v (by assumption)) (by assumption)) ?_; rintro _ ⟨_, _⟩)
            | rw [if_pos (zq_at (by assumption))]
            | rw [zz_isCell (by assumption), if_pos rfl]
            | rw [if_neg (zq_ne (by assumption) (by decide) (by decide))]
        · repeat' first
            | (with_reducible refine zw_some.mpr ⟨_, ⟨?_, ?_⟩, by assumption⟩ <;> omega)
            | (rw [zw_bind]; with_reducible refine zw_mono (zxw_wantSign (by assumption)) ?_; intro _ _)
            | (rw [zw_bind]; with_reducible refine zw_mono (zxw_wantWord (by assumption)) ?_; intro _ _)
            | (rw [zw_bind]; with_reducible refine zw_mono (zxw_want (by assumption)) ?_; intro _ _)
            | (rw [zw_bind]; with_reducible refine zw_mono (zx_next (by assumption)) ?_; intro _ _)
            | (rw [zw_bind]; with_reducible refine zw_mono (zxb_constant (by assumption) (by omega) (by omega)) ?_; intro _ _)
            | (rw [zw_bind]; with_reducible refine zw_mono (zxw_simple (by assumption) (by omega) (by omega)) ?_; rintro _ ⟨_, _, _, _⟩)
            | (rw [zw_B]; with_reducible refine zw_mono (zxb_add (by assumption) (by omega) rfl (by omega)) ?_; rintro _ ⟨e1, _⟩; try rw [e1])
            | rw [zx_isSign (by assumption), if_pos rfl]
            | rw [zx_isWord (by assumption), if_pos rfl]
            | rw [if_neg (zx_ne (by assumption))]
            | rw [if_neg (zx_pos (by assumption))]
            | rw [if_pos (show (0 : Int32) ≤ 0 by decide)]
      have b8 := zk_Ib I8
      refine zk_sK (st' := 3) I8 (zk_simple I8.1 (by omega) (by omega) (by omega)) (by decide) ?_ fun x9 h9 g9 u9 LM9 j9 s9 m9 v9 l9 I9 => ?_
      · intro φ w mz xz hz gz w1 w2 vz z1 z2
        refine zk_Gf (φ := φ) (w := w) ?_ ?_
        · repeat' first
            | with_reducible exact zw_some.mpr ⟨by assumption, by assumption⟩
            | (rw [zw_bind]; with_reducible refine zw_mono (zz_take (by assumption)) ?_; intro _ _)
            | (rw [zw_B]; with_reducible refine zw_mono (zz_constant (by assumption)) ?_; rintro _ ⟨_, _⟩)
            | (rw [zw_B]; with_reducible refine zw_mono (zz_simpleType (by assumption)) ?_; rintro _ ⟨_, _⟩)
            | (rw [zw_B]; with_reducible refine zw_mono (zz_type (by assumption)) ?_; rintro _ ⟨_, _⟩)
            | (rw [zw_B]; with_reducible refine zw_mono (zz_whole (by assumption)) ?_; rintro _ ⟨_, _⟩)
            | (rw [zw_B]; with_reducible refine zw_mono (zz_add (by assumption)) ?_; rintro _ ⟨_, _⟩)
            | (rw [zw_B]; with_reducible refine zw_mono (zz_hang (by assumption) (by assumption) (by first | assumption | exact zq_vl_n | exact zq_vl_v (by assumption)) (by assumption)) ?_; rintro _ ⟨_, _⟩)
            | rw [if_pos (zq_at (by assumption))]
            | rw [zz_isCell (by assumption), if_pos rfl]
            | rw [if_neg (zq_ne (by assumption) (by decide) (by decide))]
        · repeat' first
            | (with_reducible refine zw_some.mpr ⟨_, ⟨?_, ?_⟩, by assumption⟩ <;> omega)
            | (rw [zw_bind]; with_reducible refine zw_mono (zxw_wantSign (by assumption)) ?_; intro _ _)
            | (rw [zw_bind]; with_reducible refine zw_mono (zxw_wantWord (by assumption)) ?_; intro _ _)
            | (rw [zw_bind]; with_reducible refine zw_mono (zxw_want (by assumption)) ?_; intro _ _)
            | (rw [zw_bind]; with_reducible refine zw_mono (zx_next (by assumption)) ?_; intro _ _)
            | (rw [zw_bind]; with_reducible refine zw_mono (zxb_constant (by assumption) (by omega) (by omega)) ?_; intro _ _)
            | (rw [zw_bind]; with_reducible refine zw_mono (zxw_simple (by assumption) (by omega) (by omega)) ?_; rintro _ ⟨_, _, _, _⟩)
            | (rw [zw_B]; with_reducible refine zw_mono (zxb_add (by assumption) (by omega) rfl (by omega)) ?_; rintro _ ⟨e1, _⟩; try rw [e1])
            | rw [zx_isSign (by assumption), if_pos rfl]
            | rw [zx_isWord (by assumption), if_pos rfl]
            | rw [if_neg (zx_ne (by assumption))]
            | rw [if_neg (zx_pos (by assumption))]
            | rw [if_pos (show (0 : Int32) ≤ 0 by decide)]
      exact ⟨nI s, h9, g9, rfl, rfl, Or.inl (zk_Id I9 (by omega) (by omega) rfl (Or.inl rfl) (by decide) (by omega) (by decide))⟩
    · rw [if_neg c2, if_neg (show ¬ (h.1 19 5) = nI 142 from c2), if_pos rfl, if_neg (fun z => c1 (hk.mp z))]
      obtain ⟨x, h', g', e1, e2, e3⟩ := zk_simple H hb (by omega) (by omega)
      rw [e1, e2]
      refine ⟨x, h', g', rfl, rfl, ?_⟩
      rcases e3 with z | ⟨v1, φ, w, m', z0, z1, z2, z3⟩
      · exact Or.inl (zk_TW z fun t z => zg_Tm z (by decide) (by decide))
      · exact Or.inr ⟨v1, φ, w, m', z0, by omega, z2, z3⟩
end ZG
