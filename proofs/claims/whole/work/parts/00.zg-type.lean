/-! Both readers in step: types. -/
theorem zq_vl_n : zq_vl (-1) := Or.inl rfl
theorem zq_vl_v {x : Int32} (h : zq_v x) : zq_vl x := Or.inr h
section ZG
variable {h0 g0 h g : zs_H} {T : Nat → Int32} {n K : Nat} {LC LM : List (List Int32)} {j d s m o q : Nat}
/-- words, in the class and in the model -/
theorem zk_wd (H : zk_L h0 g0 T n K LC h g LM j d s m o q) (c : Nat) (hc : c < 41) : (h.1 19 5) = nI (128 + c) ↔ ((g.1 68 6) = 2 ∧ (g.1 68 9) = nI c) := by
  have hF := zk_F H
  have hA := zl_ckA hF
  have m6 := H.2.2.2.2.2.2.2.2.2.2.1
  have m8 := H.2.2.2.2.2.2.2.2.2.2.2.2.1
  rw [zk_tok H (by omega), hA.2.2.1 c hc, m6]
  constructor
  · intro z
    rw [z.1]
    exact ⟨rfl, by rw [m8 (by omega) (by omega), z.2]⟩
  · intro z
    have z1 := (zc_eq (k := 2) (by decide) (by have := hF.1; omega)).mp z.1
    have z2 := z.2
    rw [m8 (by omega) (by omega)] at z2
    exact ⟨z1, (nI_eq (by have := hF.2.1 z1; omega) (by omega)).mp z2⟩
theorem zk_notE (H : zk_L h0 g0 T n K LC h g LM j d s m o q) (h6 : ¬ (h.1 19 5) = 6) : ¬ (zl_at T n j).1 = 0 := by
  intro z
  exact h6 (((zk_kind H).2.2.2).mp (by rw [H.2.2.2.2.2.2.2.2.2.2.1, z]; rfl))
theorem zk_simple (H : zk_L h0 g0 T n K LC h g LM j d s m o q) {b : Nat} (hb : b < m) (hs : s < 32784) (hm : m < 33500) : ∃ x h' g', f_Ps_simpleType h = some (x, h') ∧ f_Mo_simple g (nI b) = some g' ∧ (zk_T h0 g0 T n K LC LM j d s m o q b h g x h' g' ∨ zk_Z h0 g0 T n K LC m (m + 1) o x h' g') := by
  have hF := zk_F H
  have hA := zl_ckA hF
  have m6 := H.2.2.2.2.2.2.2.2.2.2.1
  have m8 := H.2.2.2.2.2.2.2.2.2.2.2.2.1
  have m4 := H.2.2.2.2.2.2.2.2.1
  have htk := H.2.2.2.1.2.2.1
  have hck := hA.2.2.2.2.2.2.2.2.1
  by_cases c : (zl_at T n j).1 = 2 ∧ 11 ≤ (zl_at T n j).2.2.2 ∧ (zl_at T n j).2.2.2 < 14
  · obtain ⟨c1, c2, c3⟩ := c
    have ek : zl_ck (zl_at T n j) = 128 + (zl_at T n j).2.2.2 := (hA.2.2.1 _ (by omega)).mpr ⟨c1, rfl⟩
    have ev := m8 (by omega) (by omega)
    obtain ⟨h1, e1, L1, qA⟩ := zk_cadd H (kd := 8) (kv := 8) (v := (h.1 19 5) - 139) hs (by decide) rfl
    have etk : (h1.1 19 5) = (h.1 19 5) := qA.2.2.2.2.2.2.1 _ _ (by decide)
    have evv : (g.1 68 9) - 11 = (h.1 19 5) - 139 := by
      rw [ev, htk, ek, show (11 : Int32) = nI 11 from rfl, show (139 : Int32) = nI 139 from rfl, zi_sub (by omega), zi_sub (by omega)]
      rw [show 128 + (zl_at T n j).2.2.2 - 139 = (zl_at T n j).2.2.2 - 11 by omega]
    obtain ⟨g1, e2, L2, qM, _⟩ := zk_madd L1 (b := b) (kd := 8) (kv := 8) (p := (g.1 68 7)) (v := (g.1 68 9) - 11) (v' := (h.1 19 5) - 139) hm hb rfl (by rw [if_neg (by decide)]; exact evv)
    obtain ⟨h2, g2, e3, e4, f1, f2, L3⟩ := zk_step L2 (by omega)
    refine ⟨nI s, h2, g2, ?_, ?_, ?_⟩
    · unfold f_Ps_simpleType f_Ps_simpleType_47 f_Ps_simpleType_61
      rw [e1, zo_B]
      rw [if_neg (by rw [etk, htk, ek]; exact mt (zc_tl (k := 139) (by decide) (by omega)).mp (by omega)), if_neg (by rw [etk, htk, ek]; exact mt (zc_lt (k := 141) (by decide) (by omega)).mp (by omega)), if_neg (by decide), e3]; rfl
    · unfold f_Mo_simple f_Mo_simple_31 f_Mo_simple_58 f_Mo_want
      rw [if_pos (by rw [m6, c1]; rfl), if_neg (by rw [ev]; exact mt (zc_tl (k := 11) (by decide) (by omega)).mp (by omega)), if_neg (by rw [ev]; exact mt (zc_le (k := 14) (by decide) (by omega)).mp (by omega)), if_neg (by decide), e2, zo_B]
      rw [if_pos L2.2.2.2.2.2.2.1, if_neg (by decide), e4]; rfl
    · rw [m4] at qM
      rcases L3 with ⟨LM', hp, L3⟩ | ⟨φ, w, z1, z2⟩
      · exact Or.inl (zk_leaf H hb hs hm qA qM f1 f2 hp L3)
      · exact Or.inr ⟨⟨s, hs, rfl⟩, φ, w, m + 1, by omega, by omega, z1, z2⟩
  · obtain ⟨h1, e1, L1, qA⟩ := zk_cadd H (kd := 8) (kv := 8) (v := (h.1 19 5) - 139) hs (by decide) rfl
    have etk : (h1.1 19 5) = (h.1 19 5) := qA.2.2.2.2.2.2.1 _ _ (by decide)
    have hne : ¬ (h1.1 19 5) = -1 := by rw [etk, htk]; exact zc_m1 (by omega)
    obtain ⟨h2, g2, e3, e4, φ, w, z1, z2⟩ := zk_wrong L1 hne
    have hrange : zl_ck (zl_at T n j) < 139 ∨ 141 < zl_ck (zl_at T n j) := by
      rcases zl_ckD hF with a | a | a | a | a | a | a | ⟨_, a1, a2⟩
      · omega
      · omega
      · omega
      · omega
      · omega
      · omega
      · omega
      · have := zl_svb a1; omega
    have e46 : f_Ps_simpleType_46 h1 (nI s) = some (nI s, h2) := by
      unfold f_Ps_simpleType_46 f_Ps_simpleType_47 f_Ps_simpleType_61
      rw [if_pos rfl, e3]; rfl
    have e30 : f_Mo_simple_30 g (nI b) = some g2 := by
      unfold f_Mo_simple_30 f_Mo_simple_31 f_Mo_simple_58 f_Mo_want
      rw [if_pos rfl, if_pos H.2.2.2.2.2.2.1, if_pos rfl, e4]; rfl
    refine ⟨nI s, h2, g2, ?_, ?_, Or.inr ⟨⟨s, hs, rfl⟩, φ, w, m, by omega, by omega, z1, z2⟩⟩
    · unfold f_Ps_simpleType
      rw [e1, zo_B, etk, htk]
      rcases hrange with z | z
      · rw [if_pos ((zc_tl (k := 139) (by decide) (by omega)).mpr z)]; exact e46
      · rw [if_neg (mt (zc_tl (k := 139) (by decide) (by omega)).mp (by omega)), if_pos ((zc_lt (k := 141) (by decide) (by omega)).mpr z)]; exact e46
    · unfold f_Mo_simple
      by_cases k2 : (zl_at T n j).1 = 2
      · have ev := m8 (by omega) (by omega)
        have hv := hF.2.1 k2
        rw [if_pos (by rw [m6, k2]; rfl), ev]
        by_cases v1 : (zl_at T n j).2.2.2 < 11
        · rw [if_pos ((zc_tl (k := 11) (by decide) (by omega)).mpr v1)]; exact e30
        · rw [if_neg (mt (zc_tl (k := 11) (by decide) (by omega)).mp v1), if_pos ((zc_le (k := 14) (by decide) (by omega)).mpr (by omega))]; exact e30
      · rw [if_neg (fun z => k2 ((zc_eq (k := 2) (by decide) (by have := hF.1; omega)).mp (by rw [← m6]; exact z)))]; exact e30
/-- one token of a node that is being read -/
theorem zk_Iw {b kd j' d' s' m' e : Nat} {p v y : Int32} {u : zt_T} {LM' : List (List Int32)} {g1 h' g' h2 g2 : zs_H} {x : Int32} (I : zk_I h0 g0 T n K LC LM j s m o q b kd p v h g g1 u y LM' j' d' s' m' e h' g') (R : zk_B h0 g0 T n K LC m' o h2 g2 ∨ ((h'.1 19 5) = x ∧ zk_on h0 g0 T n K LC LM' j' d' s' m' o q h' g' h2 g2)) : zk_B h0 g0 T n K LC m' o h2 g2 ∨ ∃ LM2, zk_I h0 g0 T n K LC LM j s m o q b kd p v h g g1 u y LM2 (j' + 1) d' s' m' (e + 2) h2 g2 := by
  rcases R with z | ⟨_, ⟨f1, f2, LM2, hp, L2⟩ | z⟩
  · exact Or.inl z
  · exact Or.inr ⟨LM2, zk_It I f1 f2 hp L2⟩
  · exact Or.inl z
theorem zk_type (H : zk_L h0 g0 T n K LC h g LM j d s m o q) {b : Nat} (hb : b < m) (hs : s + 20 ≤ 32784) (hm : m + 20 ≤ 33500) (hjs : s ≤ 2 * j + 12) (hjm : m ≤ 2 * j + 12) : ∃ x h' g', f_Ps_type h = some (x, h') ∧ f_Mo_readType g (nI b) = some g' ∧ (zk_T h0 g0 T n K LC LM j d s m o q b h g x h' g' ∨ zk_Z h0 g0 T n K LC m 20600 o x h' g') := by
  have hw := zk_word H (c := 14) (by decide)
  have hk := (zk_kind H).1
  have hjK : j ≤ 10240 := by have := H.2.2.2.2.1; have := H.2.2.1.2.1; have := H.2.2.1.2.2.1; omega
  unfold f_Ps_type f_Mo_readType
  rw [show f_Mo_isWord g 14 = if (h.1 19 5) = nI 142 then 1 else 0 from hw]
  by_cases c1 : (h.1 19 5) = 8
  · have hk1 : (zl_at T n j).1 = 1 := (zc_eq (k := 1) (by decide) (by have := (zk_F H).1; omega)).mp (by rw [← H.2.2.2.2.2.2.2.2.2.2.1]; exact hk.mpr c1)
    obtain ⟨n1, n2⟩ := zk_nm H hk1
    rw [if_pos c1, if_pos n1, if_neg (show ¬ (h.1 19 5) = nI 142 by rw [c1]; decide), if_pos rfl, if_pos (hk.mpr c1)]
    obtain ⟨h1, g1, e1, e2, I⟩ := zk_I0 H (b := b) (kd := 10) (kc := 10) (km := 10) (v := h.2.1 11 ((h.1 19 4)).toNatClampNeg) (w := (g.1 68 9)) (by omega) (by omega) hb (by decide) rfl rfl (by rw [if_pos (by decide)]; exact n2)
    obtain ⟨h2, g2, e3, e4, f1, f2, L3⟩ := zk_step I.1 (by omega)
    have etk : (h1.1 19 5) = 8 := by
      have := I.1.2.2.2.1.2.2.1
      rw [this, ← H.2.2.2.1.2.2.1]; exact c1
    rw [etk] at e3
    rw [e1, e2, zo_B, zo_B, e3, e4]
    refine ⟨nI s, h2, g2, rfl, rfl, ?_⟩
    rcases L3 with ⟨LM', hp, L3⟩ | ⟨φ, w, z1, z2⟩
    · exact Or.inl (zk_Id (zk_It I f1 f2 hp L3) (by omega) (by omega))
    · exact Or.inr ⟨⟨s, by omega, rfl⟩, φ, w, m + 1, by omega, by omega, z1, z2⟩
  · rw [if_neg c1]
    by_cases c2 : (h.1 19 5) = 142
    · rw [if_pos c2, if_pos (show (h.1 19 5) = nI 142 from c2), if_neg (by decide)]
      obtain ⟨h1, g1, e1, e2, I⟩ := zk_I0 H (b := b) (kd := 9) (kc := 9) (km := 9) (v := 0) (w := 0) (by omega) (by omega) hb (by decide) rfl rfl (by rw [if_neg (by decide)])
      obtain ⟨h2, g2, e3, e4, f1, f2, L3⟩ := zk_step I.1 (zk_notE H (by rw [c2]; decide))
      have etk : (h1.1 19 5) = 142 := by
        have := I.1.2.2.2.1.2.2.1
        rw [this, ← H.2.2.2.1.2.2.1]; exact c2
      rw [etk] at e3
      rw [e1, e2, zo_B, zo_B, e3, e4, Option.bind_some, Option.bind_some]
      have hsv : zq_v (nI s) := ⟨s, by omega, rfl⟩
      rcases L3 with ⟨LM2, p2, L3⟩ | ⟨φ, w, z1, z2⟩
      · have I2 := zk_It I f1 f2 p2 L3
        obtain ⟨h3, g3, e5, e6, r3⟩ := zk_wantS I2.1 (c := 91) (k := 91) (by decide) (by decide)
        rw [show f_Ps_take h2 91 = some h3 from e5, show f_Mo_wantSign g2 91 = some g3 from e6, Option.bind_some, Option.bind_some]
        rcases zk_Iw I2 r3 with ⟨φ, w, z1, z2⟩ | ⟨LM3, I3⟩
        · refine zk_fin (φ := φ) (w := w) ?_ ?_
          · repeat' first
              | with_reducible exact zw_some.mpr ⟨by assumption, by assumption⟩
              | (rw [zw_bind]; with_reducible refine zw_mono (zz_take (by assumption)) ?_; intro _ _)
              | (rw [zw_B]; with_reducible refine zw_mono (zz_constant (by assumption)) ?_; rintro _ ⟨_, _⟩)
              | (rw [zw_B]; with_reducible refine zw_mono (zz_simpleType (by assumption)) ?_; rintro _ ⟨_, _⟩)
              | (rw [zw_B]; with_reducible refine zw_mono (zz_type (by assumption)) ?_; rintro _ ⟨_, _⟩)
              | (rw [zw_B]; with_reducible refine zw_mono (zz_whole (by assumption)) ?_; rintro _ ⟨_, _⟩)
              | (rw [zw_B]; with_reducible refine zw_mono (zz_add (by assumption)) ?_; rintro _ ⟨_, _⟩)
              | (rw [zw_B]; with_reducible refine zw_mono (zz_hang (by assumption) (by assumption) (by first | exact zq_vl_n | exact zq_vl_v (by assumption)) (by assumption)) ?_; rintro _ ⟨_, _⟩)
              | rw [if_pos (zq_at (by assumption))]
              | rw [if_neg (zq_ne (by assumption) (by decide) (by decide))]
          · repeat' first
              | (with_reducible refine zw_some.mpr ⟨_, ⟨?_, ?_⟩, by assumption⟩ <;> omega)
              | (rw [zw_bind]; with_reducible refine zw_mono (zxw_wantSign (by assumption)) ?_; intro _ _)
              | (rw [zw_bind]; with_reducible refine zw_mono (zxw_wantWord (by assumption)) ?_; intro _ _)
              | (rw [zw_bind]; with_reducible refine zw_mono (zxw_want (by assumption)) ?_; intro _ _)
              | (rw [zw_bind]; with_reducible refine zw_mono (zx_next (by assumption)) ?_; intro _ _)
              | (rw [zw_bind]; with_reducible refine zw_mono (zxb_constant (by assumption) (by omega) (by omega)) ?_; intro _ _)
              | (rw [zw_bind]; with_reducible refine zw_mono (zxw_simple (by assumption) (by omega) (by omega)) ?_; rintro _ ⟨_, _, _, _⟩)
              | (rw [zw_B]; with_reducible refine zw_mono (zxb_add (by assumption) (by omega) rfl (by omega)) ?_; rintro _ ⟨_, _⟩)
        · obtain ⟨x3, h4, g4, e7, e8, r4⟩ := zk_constant I3.1 (b := m) (by omega) (by omega) (by omega)
          rw [e7, e8, zo_B, Option.bind_some]
          rcases r4 with r4 | ⟨v1, φ, w, m', w0, w1, z1, z2⟩
          · obtain ⟨h5, u5, LM5, j5, s5, m5, e9, jj5, I5⟩ := zk_Ic I3 r4
            have b5 := I5.2.2.2.2.2
            have hj5 : j5 ≤ 10240 := by have := I5.1.2.2.2.2.1; have := I5.1.2.2.1.2.1; have := I5.1.2.2.1.2.2.1; omega
            rw [e9, zo_B]
            obtain ⟨h6, g6, e10, e11, r6⟩ := zk_wantS I5.1 (c := 257) (k := 2) (by decide) (by decide)
            rw [show f_Ps_take h5 2 = some h6 from e10, show f_Mo_wantSign g4 257 = some g6 from e11, Option.bind_some, Option.bind_some]
            have vx3 : zq_v x3 := zk_Tv r4
            rcases zk_Iw I5 r6 with ⟨φ, w, z1, z2⟩ | ⟨LM6, I6⟩
            · refine zk_fin (φ := φ) (w := w) ?_ ?_
              · repeat' first
                  | with_reducible exact zw_some.mpr ⟨by assumption, by assumption⟩
                  | (rw [zw_bind]; with_reducible refine zw_mono (zz_take (by assumption)) ?_; intro _ _)
                  | (rw [zw_B]; with_reducible refine zw_mono (zz_constant (by assumption)) ?_; rintro _ ⟨_, _⟩)
                  | (rw [zw_B]; with_reducible refine zw_mono (zz_simpleType (by assumption)) ?_; rintro _ ⟨_, _⟩)
                  | (rw [zw_B]; with_reducible refine zw_mono (zz_type (by assumption)) ?_; rintro _ ⟨_, _⟩)
                  | (rw [zw_B]; with_reducible refine zw_mono (zz_whole (by assumption)) ?_; rintro _ ⟨_, _⟩)
                  | (rw [zw_B]; with_reducible refine zw_mono (zz_add (by assumption)) ?_; rintro _ ⟨_, _⟩)
                  | (rw [zw_B]; with_reducible refine zw_mono (zz_hang (by assumption) (by assumption) (by first | exact zq_vl_n | exact zq_vl_v (by assumption)) (by assumption)) ?_; rintro _ ⟨_, _⟩)
                  | rw [if_pos (zq_at (by assumption))]
                  | rw [if_neg (zq_ne (by assumption) (by decide) (by decide))]
              · repeat' first
                  | (with_reducible refine zw_some.mpr ⟨_, ⟨?_, ?_⟩, by assumption⟩ <;> omega)
                  | (rw [zw_bind]; with_reducible refine zw_mono (zxw_wantSign (by assumption)) ?_; intro _ _)
                  | (rw [zw_bind]; with_reducible refine zw_mono (zxw_wantWord (by assumption)) ?_; intro _ _)
                  | (rw [zw_bind]; with_reducible refine zw_mono (zxw_want (by assumption)) ?_; intro _ _)
                  | (rw [zw_bind]; with_reducible refine zw_mono (zx_next (by assumption)) ?_; intro _ _)
                  | (rw [zw_bind]; with_reducible refine zw_mono (zxb_constant (by assumption) (by omega) (by omega)) ?_; intro _ _)
                  | (rw [zw_bind]; with_reducible refine zw_mono (zxw_simple (by assumption) (by omega) (by omega)) ?_; rintro _ ⟨_, _, _, _⟩)
                  | (rw [zw_B]; with_reducible refine zw_mono (zxb_add (by assumption) (by omega) rfl (by omega)) ?_; rintro _ ⟨_, _⟩)
            · obtain ⟨x7, h7, g7, e12, e13, r7⟩ := zk_constant I6.1 (b := m) (by omega) (by omega) (by omega)
              rw [e12, e13, zo_B, Option.bind_some]
              rcases r7 with r7 | ⟨v1, φ, w, m', w0, w1, z1, z2⟩
              · have vx7 := zk_Tv r7
                obtain ⟨h8, u8, LM8, j8, s8, m8', e14, jj8, I8⟩ := zk_Ic I6 r7
                have b8 := I8.2.2.2.2.2
                have hj8 : j8 ≤ 10240 := by have := I8.1.2.2.2.2.1; have := I8.1.2.2.1.2.1; have := I8.1.2.2.1.2.2.1; omega
                rw [e14, zo_B]
                obtain ⟨h9, g9, e15, e16, r9⟩ := zk_wantS I8.1 (c := 93) (k := 93) (by decide) (by decide)
                rw [show f_Ps_take h8 93 = some h9 from e15, show f_Mo_wantSign g7 93 = some g9 from e16, Option.bind_some, Option.bind_some]
                rcases zk_Iw I8 r9 with ⟨φ, w, z1, z2⟩ | ⟨LM9, I9⟩
                · refine zk_fin (φ := φ) (w := w) ?_ ?_
                  · repeat' first
                      | with_reducible exact zw_some.mpr ⟨by assumption, by assumption⟩
                      | (rw [zw_bind]; with_reducible refine zw_mono (zz_take (by assumption)) ?_; intro _ _)
                      | (rw [zw_B]; with_reducible refine zw_mono (zz_constant (by assumption)) ?_; rintro _ ⟨_, _⟩)
                      | (rw [zw_B]; with_reducible refine zw_mono (zz_simpleType (by assumption)) ?_; rintro _ ⟨_, _⟩)
                      | (rw [zw_B]; with_reducible refine zw_mono (zz_type (by assumption)) ?_; rintro _ ⟨_, _⟩)
                      | (rw [zw_B]; with_reducible refine zw_mono (zz_whole (by assumption)) ?_; rintro _ ⟨_, _⟩)
                      | (rw [zw_B]; with_reducible refine zw_mono (zz_add (by assumption)) ?_; rintro _ ⟨_, _⟩)
                      | (rw [zw_B]; with_reducible refine zw_mono (zz_hang (by assumption) (by assumption) (by first | exact zq_vl_n | exact zq_vl_v (by assumption)) (by assumption)) ?_; rintro _ ⟨_, _⟩)
                      | rw [if_pos (zq_at (by assumption))]
                      | rw [if_neg (zq_ne (by assumption) (by decide) (by decide))]
                  · repeat' first
                      | (with_reducible refine zw_some.mpr ⟨_, ⟨?_, ?_⟩, by assumption⟩ <;> omega)
                      | (rw [zw_bind]; with_reducible refine zw_mono (zxw_wantSign (by assumption)) ?_; intro _ _)
                      | (rw [zw_bind]; with_reducible refine zw_mono (zxw_wantWord (by assumption)) ?_; intro _ _)
                      | (rw [zw_bind]; with_reducible refine zw_mono (zxw_want (by assumption)) ?_; intro _ _)
                      | (rw [zw_bind]; with_reducible refine zw_mono (zx_next (by assumption)) ?_; intro _ _)
                      | (rw [zw_bind]; with_reducible refine zw_mono (zxb_constant (by assumption) (by omega) (by omega)) ?_; intro _ _)
                      | (rw [zw_bind]; with_reducible refine zw_mono (zxw_simple (by assumption) (by omega) (by omega)) ?_; rintro _ ⟨_, _, _, _⟩)
                      | (rw [zw_B]; with_reducible refine zw_mono (zxb_add (by assumption) (by omega) rfl (by omega)) ?_; rintro _ ⟨_, _⟩)
                · obtain ⟨ha, ga, e17, e18, ra⟩ := zk_wantW I9.1 (c := 15) (by decide)
                  rw [show f_Ps_take h9 143 = some ha from e17, show f_Mo_wantWord g9 15 = some ga from e18, Option.bind_some, Option.bind_some]
                  rcases zk_Iw I9 ra with ⟨φ, w, z1, z2⟩ | ⟨LMa, Ia⟩
                  · refine zk_fin (φ := φ) (w := w) ?_ ?_
                    · repeat' first
                        | with_reducible exact zw_some.mpr ⟨by assumption, by assumption⟩
                        | (rw [zw_bind]; with_reducible refine zw_mono (zz_take (by assumption)) ?_; intro _ _)
                        | (rw [zw_B]; with_reducible refine zw_mono (zz_constant (by assumption)) ?_; rintro _ ⟨_, _⟩)
                        | (rw [zw_B]; with_reducible refine zw_mono (zz_simpleType (by assumption)) ?_; rintro _ ⟨_, _⟩)
                        | (rw [zw_B]; with_reducible refine zw_mono (zz_type (by assumption)) ?_; rintro _ ⟨_, _⟩)
                        | (rw [zw_B]; with_reducible refine zw_mono (zz_whole (by assumption)) ?_; rintro _ ⟨_, _⟩)
                        | (rw [zw_B]; with_reducible refine zw_mono (zz_add (by assumption)) ?_; rintro _ ⟨_, _⟩)
                        | (rw [zw_B]; with_reducible refine zw_mono (zz_hang (by assumption) (by assumption) (by first | exact zq_vl_n | exact zq_vl_v (by assumption)) (by assumption)) ?_; rintro _ ⟨_, _⟩)
                        | rw [if_pos (zq_at (by assumption))]
                        | rw [if_neg (zq_ne (by assumption) (by decide) (by decide))]
                    · repeat' first
                        | (with_reducible refine zw_some.mpr ⟨_, ⟨?_, ?_⟩, by assumption⟩ <;> omega)
                        | (rw [zw_bind]; with_reducible refine zw_mono (zxw_wantSign (by assumption)) ?_; intro _ _)
                        | (rw [zw_bind]; with_reducible refine zw_mono (zxw_wantWord (by assumption)) ?_; intro _ _)
                        | (rw [zw_bind]; with_reducible refine zw_mono (zxw_want (by assumption)) ?_; intro _ _)
                        | (rw [zw_bind]; with_reducible refine zw_mono (zx_next (by assumption)) ?_; intro _ _)
                        | (rw [zw_bind]; with_reducible refine zw_mono (zxb_constant (by assumption) (by omega) (by omega)) ?_; intro _ _)
                        | (rw [zw_bind]; with_reducible refine zw_mono (zxw_simple (by assumption) (by omega) (by omega)) ?_; rintro _ ⟨_, _, _, _⟩)
                        | (rw [zw_B]; with_reducible refine zw_mono (zxb_add (by assumption) (by omega) rfl (by omega)) ?_; rintro _ ⟨_, _⟩)
                  · obtain ⟨xb, hb', gb, e19, e20, rb⟩ := zk_simple Ia.1 (b := m) (by omega) (by omega) (by omega)
                    rw [e19, e20, zo_B, Option.bind_some]
                    rcases rb with rb | ⟨v1, φ, w, m', w0, w1, z1, z2⟩
                    · obtain ⟨hc, uc, LMc, jc, sc, mc, e21, jjc, Ic⟩ := zk_Ic Ia rb
                      rw [e21, zo_B]
                      exact ⟨nI s, hc, gb, rfl, rfl, Or.inl (zk_Id Ic (by omega) (by omega))⟩
                    · refine zk_fin (φ := φ) (w := w) ?_ ?_
                      · repeat' first
                          | with_reducible exact zw_some.mpr ⟨by assumption, by assumption⟩
                          | (rw [zw_bind]; with_reducible refine zw_mono (zz_take (by assumption)) ?_; intro _ _)
                          | (rw [zw_B]; with_reducible refine zw_mono (zz_constant (by assumption)) ?_; rintro _ ⟨_, _⟩)
                          | (rw [zw_B]; with_reducible refine zw_mono (zz_simpleType (by assumption)) ?_; rintro _ ⟨_, _⟩)
                          | (rw [zw_B]; with_reducible refine zw_mono (zz_type (by assumption)) ?_; rintro _ ⟨_, _⟩)
                          | (rw [zw_B]; with_reducible refine zw_mono (zz_whole (by assumption)) ?_; rintro _ ⟨_, _⟩)
                          | (rw [zw_B]; with_reducible refine zw_mono (zz_add (by assumption)) ?_; rintro _ ⟨_, _⟩)
                          | (rw [zw_B]; with_reducible refine zw_mono (zz_hang (by assumption) (by assumption) (by first | exact zq_vl_n | exact zq_vl_v (by assumption)) (by assumption)) ?_; rintro _ ⟨_, _⟩)
                          | rw [if_pos (zq_at (by assumption))]
                          | rw [if_neg (zq_ne (by assumption) (by decide) (by decide))]
                      · repeat' first
                          | (with_reducible refine zw_some.mpr ⟨_, ⟨?_, ?_⟩, by assumption⟩ <;> omega)
                          | (rw [zw_bind]; with_reducible refine zw_mono (zxw_wantSign (by assumption)) ?_; intro _ _)
                          | (rw [zw_bind]; with_reducible refine zw_mono (zxw_wantWord (by assumption)) ?_; intro _ _)
                          | (rw [zw_bind]; with_reducible refine zw_mono (zxw_want (by assumption)) ?_; intro _ _)
                          | (rw [zw_bind]; with_reducible refine zw_mono (zx_next (by assumption)) ?_; intro _ _)
                          | (rw [zw_bind]; with_reducible refine zw_mono (zxb_constant (by assumption) (by omega) (by omega)) ?_; intro _ _)
                          | (rw [zw_bind]; with_reducible refine zw_mono (zxw_simple (by assumption) (by omega) (by omega)) ?_; rintro _ ⟨_, _, _, _⟩)
                          | (rw [zw_B]; with_reducible refine zw_mono (zxb_add (by assumption) (by omega) rfl (by omega)) ?_; rintro _ ⟨_, _⟩)
              · refine zk_fin (φ := φ) (w := w) ?_ ?_
                · repeat' first
                    | with_reducible exact zw_some.mpr ⟨by assumption, by assumption⟩
                    | (rw [zw_bind]; with_reducible refine zw_mono (zz_take (by assumption)) ?_; intro _ _)
                    | (rw [zw_B]; with_reducible refine zw_mono (zz_constant (by assumption)) ?_; rintro _ ⟨_, _⟩)
                    | (rw [zw_B]; with_reducible refine zw_mono (zz_simpleType (by assumption)) ?_; rintro _ ⟨_, _⟩)
                    | (rw [zw_B]; with_reducible refine zw_mono (zz_type (by assumption)) ?_; rintro _ ⟨_, _⟩)
                    | (rw [zw_B]; with_reducible refine zw_mono (zz_whole (by assumption)) ?_; rintro _ ⟨_, _⟩)
                    | (rw [zw_B]; with_reducible refine zw_mono (zz_add (by assumption)) ?_; rintro _ ⟨_, _⟩)
                    | (rw [zw_B]; with_reducible refine zw_mono (zz_hang (by assumption) (by assumption) (by first | exact zq_vl_n | exact zq_vl_v (by assumption)) (by assumption)) ?_; rintro _ ⟨_, _⟩)
                    | rw [if_pos (zq_at (by assumption))]
                    | rw [if_neg (zq_ne (by assumption) (by decide) (by decide))]
                · repeat' first
                    | (with_reducible refine zw_some.mpr ⟨_, ⟨?_, ?_⟩, by assumption⟩ <;> omega)
                    | (rw [zw_bind]; with_reducible refine zw_mono (zxw_wantSign (by assumption)) ?_; intro _ _)
                    | (rw [zw_bind]; with_reducible refine zw_mono (zxw_wantWord (by assumption)) ?_; intro _ _)
                    | (rw [zw_bind]; with_reducible refine zw_mono (zxw_want (by assumption)) ?_; intro _ _)
                    | (rw [zw_bind]; with_reducible refine zw_mono (zx_next (by assumption)) ?_; intro _ _)
                    | (rw [zw_bind]; with_reducible refine zw_mono (zxb_constant (by assumption) (by omega) (by omega)) ?_; intro _ _)
                    | (rw [zw_bind]; with_reducible refine zw_mono (zxw_simple (by assumption) (by omega) (by omega)) ?_; rintro _ ⟨_, _, _, _⟩)
                    | (rw [zw_B]; with_reducible refine zw_mono (zxb_add (by assumption) (by omega) rfl (by omega)) ?_; rintro _ ⟨_, _⟩)
          · refine zk_fin (φ := φ) (w := w) ?_ ?_
            · repeat' first
                | with_reducible exact zw_some.mpr ⟨by assumption, by assumption⟩
                | (rw [zw_bind]; with_reducible refine zw_mono (zz_take (by assumption)) ?_; intro _ _)
                | (rw [zw_B]; with_reducible refine zw_mono (zz_constant (by assumption)) ?_; rintro _ ⟨_, _⟩)
                | (rw [zw_B]; with_reducible refine zw_mono (zz_simpleType (by assumption)) ?_; rintro _ ⟨_, _⟩)
                | (rw [zw_B]; with_reducible refine zw_mono (zz_type (by assumption)) ?_; rintro _ ⟨_, _⟩)
                | (rw [zw_B]; with_reducible refine zw_mono (zz_whole (by assumption)) ?_; rintro _ ⟨_, _⟩)
                | (rw [zw_B]; with_reducible refine zw_mono (zz_add (by assumption)) ?_; rintro _ ⟨_, _⟩)
                | (rw [zw_B]; with_reducible refine zw_mono (zz_hang (by assumption) (by assumption) (by first | exact zq_vl_n | exact zq_vl_v (by assumption)) (by assumption)) ?_; rintro _ ⟨_, _⟩)
                | rw [if_pos (zq_at (by assumption))]
                | rw [if_neg (zq_ne (by assumption) (by decide) (by decide))]
            · repeat' first
                | (with_reducible refine zw_some.mpr ⟨_, ⟨?_, ?_⟩, by assumption⟩ <;> omega)
                | (rw [zw_bind]; with_reducible refine zw_mono (zxw_wantSign (by assumption)) ?_; intro _ _)
                | (rw [zw_bind]; with_reducible refine zw_mono (zxw_wantWord (by assumption)) ?_; intro _ _)
                | (rw [zw_bind]; with_reducible refine zw_mono (zxw_want (by assumption)) ?_; intro _ _)
                | (rw [zw_bind]; with_reducible refine zw_mono (zx_next (by assumption)) ?_; intro _ _)
                | (rw [zw_bind]; with_reducible refine zw_mono (zxb_constant (by assumption) (by omega) (by omega)) ?_; intro _ _)
                | (rw [zw_bind]; with_reducible refine zw_mono (zxw_simple (by assumption) (by omega) (by omega)) ?_; rintro _ ⟨_, _, _, _⟩)
                | (rw [zw_B]; with_reducible refine zw_mono (zxb_add (by assumption) (by omega) rfl (by omega)) ?_; rintro _ ⟨_, _⟩)
      · refine zk_fin (φ := φ) (w := w) ?_ ?_
        · repeat' first
            | with_reducible exact zw_some.mpr ⟨by assumption, by assumption⟩
            | (rw [zw_bind]; with_reducible refine zw_mono (zz_take (by assumption)) ?_; intro _ _)
            | (rw [zw_B]; with_reducible refine zw_mono (zz_constant (by assumption)) ?_; rintro _ ⟨_, _⟩)
            | (rw [zw_B]; with_reducible refine zw_mono (zz_simpleType (by assumption)) ?_; rintro _ ⟨_, _⟩)
            | (rw [zw_B]; with_reducible refine zw_mono (zz_type (by assumption)) ?_; rintro _ ⟨_, _⟩)
            | (rw [zw_B]; with_reducible refine zw_mono (zz_whole (by assumption)) ?_; rintro _ ⟨_, _⟩)
            | (rw [zw_B]; with_reducible refine zw_mono (zz_add (by assumption)) ?_; rintro _ ⟨_, _⟩)
            | (rw [zw_B]; with_reducible refine zw_mono (zz_hang (by assumption) (by assumption) (by first | exact zq_vl_n | exact zq_vl_v (by assumption)) (by assumption)) ?_; rintro _ ⟨_, _⟩)
            | rw [if_pos (zq_at (by assumption))]
            | rw [if_neg (zq_ne (by assumption) (by decide) (by decide))]
        · repeat' first
            | (with_reducible refine zw_some.mpr ⟨_, ⟨?_, ?_⟩, by assumption⟩ <;> omega)
            | (rw [zw_bind]; with_reducible refine zw_mono (zxw_wantSign (by assumption)) ?_; intro _ _)
            | (rw [zw_bind]; with_reducible refine zw_mono (zxw_wantWord (by assumption)) ?_; intro _ _)
            | (rw [zw_bind]; with_reducible refine zw_mono (zxw_want (by assumption)) ?_; intro _ _)
            | (rw [zw_bind]; with_reducible refine zw_mono (zx_next (by assumption)) ?_; intro _ _)
            | (rw [zw_bind]; with_reducible refine zw_mono (zxb_constant (by assumption) (by omega) (by omega)) ?_; intro _ _)
            | (rw [zw_bind]; with_reducible refine zw_mono (zxw_simple (by assumption) (by omega) (by omega)) ?_; rintro _ ⟨_, _, _, _⟩)
            | (rw [zw_B]; with_reducible refine zw_mono (zxb_add (by assumption) (by omega) rfl (by omega)) ?_; rintro _ ⟨_, _⟩)
    · rw [if_neg c2, if_neg (show ¬ (h.1 19 5) = nI 142 from c2), if_pos rfl, if_neg (fun z => c1 (hk.mp z))]
      obtain ⟨x, h', g', e1, e2, e3⟩ := zk_simple H hb (by omega) (by omega)
      rw [e1, e2]
      refine ⟨x, h', g', rfl, rfl, ?_⟩
      rcases e3 with z | ⟨v1, φ, w, m', z0, z1, z2, z3⟩
      · exact Or.inl z
      · exact Or.inr ⟨v1, φ, w, m', z0, by omega, z2, z3⟩
end ZG
