section
/-! Both readers in step: rows, rungs, ladders. -/
section ZK
variable {h0 g0 h g g1 h' g' : zs_H} {T : Nat → Int32} {n K : Nat} {LC LM LM' : List (List Int32)} {j d s m o q b kd j' d' s' m' e st D f M0 M : Nat} {p v y : Int32} {u : zt_T} {X : Int32 → zs_H → zs_H → Prop}
theorem zk_rowL : ∀ (r N N' : Nat) {c : Nat} {y : Int32} {u : zt_T} {LM' : List (List Int32)} {j' s' m' e f : Nat} {h' g' : zs_H}, zk_I h0 g0 T n K LC LM j s m o q b 24 p v h g g1 u y LM' j' d' s' m' e 1 3 f h' g' → K ≤ j' + r → r + 2 ≤ N → r + 2 ≤ N' → j < j' → 1 ≤ f → c ≤ j' → zq_v y → s ≤ 2 * j + 11 → m ≤ 2 * j + 11 → zk_G h0 g0 T n K LC m 20710 o (zk_T h0 g0 T n K LC LM (zg_T [24] 4) j d' s m o q b h g) (f_Ps_row_L31 N h' (nI s) y (nI c)) (f_Mo_row_L18 N' g' (nI m)) := by
  intro r
  induction r with
  | zero =>
    intro N N' c y u LM' j' s' m' e f h' g' I hr hN hN' hj hf hc vy hs hm
    have b1 := zk_Ib I
    have v0 := zk_Iv I
    obtain ⟨N, rfl⟩ : ∃ k, N = k + 1 := ⟨N - 1, by omega⟩
    obtain ⟨N', rfl⟩ : ∃ k, N' = k + 2 := ⟨N' - 2, by omega⟩
    have t6 : (h'.1 19 5) = 6 := Classical.byContradiction fun z => by
      have := zk_lt I.1 (zk_notE I.1 z)
      omega
    have hC : f_Ps_isCell h' = 0 := zk_isC2 (by rw [t6]; decide)
    show zk_G h0 g0 T n K LC m 20710 o _ (f_Ps_row_31 (f_Ps_row_L31 N) h' (nI s) y (nI c)) (f_Mo_row_18 (f_Mo_row_L18 (N' + 1)) g' (nI m))
    unfold f_Ps_row_31 f_Mo_row_18
    rw [if_neg (mt (zc_le (k := 16384) (by decide) (by omega)).mp (by omega)), if_neg (show ¬ (h'.1 19 5) = 124 by rw [t6]; decide), if_pos hC, if_pos I.1.2.2.2.2.2.2.1]
    rw [show f_Mo_isSign g' 59 = if (h'.1 19 5) = nI 59 then 1 else 0 from zk_sign I.1 (c := 59) (k := 59) (by decide), show f_Mo_isSign g' 124 = if (h'.1 19 5) = nI 124 then 1 else 0 from zk_sign I.1 (c := 124) (k := 124) (by decide), if_neg (show ¬ (h'.1 19 5) = nI 59 by rw [t6]; decide), if_neg (show ¬ (h'.1 19 5) = nI 124 by rw [t6]; decide), if_pos rfl, if_pos rfl]
    unfold f_Mo_row_60 f_Ps_row_113
    obtain ⟨h2, g2, φ, w, e1, e2, z1, z2⟩ := zk_cellX I.1 (b := m) (x := 59) (by omega) (by omega) (by rw [t6]; decide) hC
    rw [e1, e2, Option.bind_some, Option.bind_some]
    refine zk_Gf (φ := φ) (w := w) (zw_some.mpr ⟨v0, z1⟩) ?_
    exact zw_mono (zxb_row_L z2) fun g' z => ⟨m' + 2, by omega, z⟩
  | succ r ih =>
    intro N N' c y u LM' j' s' m' e f h' g' I hr hN hN' hj hf hc vy hs hm
    have b1 := zk_Ib I
    have v0 := zk_Iv I
    obtain ⟨N, rfl⟩ : ∃ k, N = k + 2 := ⟨N - 2, by omega⟩
    obtain ⟨N', rfl⟩ : ∃ k, N' = k + 2 := ⟨N' - 2, by omega⟩
    -- a cell, then on
    have cell : ∀ {y : Int32} {u : zt_T} {LM' : List (List Int32)} {j2 s2 m2 e st f : Nat} {h2 g2 : zs_H}, zk_I h0 g0 T n K LC LM j s m o q b 24 p v h g g1 u y LM' j2 d' s2 m2 e st 3 f h2 g2 → j' ≤ j2 → (st = 1 ∨ st = 2) → 1 ≤ f → s2 ≤ 2 * j2 + 12 → m2 ≤ 2 * j2 + 12 → zq_v y → zk_G h0 g0 T n K LC m 20710 o (zk_T h0 g0 T n K LC LM (zg_T [24] 4) j d' s m o q b h g) (f_Ps_row_93 (f_Ps_row_L31 (N + 1)) h2 (nI s) y (nI c)) (f_Mo_row_60 (f_Mo_row_L18 (N' + 1)) g2 (nI m)) := by
      intro y u LM' j2 s2 m2 e st f h2 g2 I2 hj2 hst hf2 hs2 hm2 vy2
      have b2 := zk_Ib I2
      unfold f_Ps_row_93 f_Mo_row_60
      refine zk_sK (st' := 1) I2 (zk_cell I2.1 (by omega) hs2 hm2) (by rcases hst with z | z <;> subst z <;> decide) ?_ fun x3 h3 g3 u3 LM3 j3 s3 m3 v3 l3 I3 => ?_
      · intro φ w mz xz hz gz w1 w2 vz z1 z2
        refine zk_Gf (φ := φ) (w := w) ?_ ?_
        · repeat' first
            | with_reducible exact zw_some.mpr ⟨by assumption, by assumption⟩
            | (rw [zw_bind]; with_reducible refine zw_mono (zz_take (by assumption)) ?_; intro _ _)
            | (rw [zw_B]; with_reducible refine zw_mono (zz_constant (by assumption)) ?_; rintro _ ⟨_, _⟩)
            | (rw [zw_B]; with_reducible refine zw_mono (zz_simpleType (by assumption)) ?_; rintro _ ⟨_, _⟩)
            | (rw [zw_B]; with_reducible refine zw_mono (zz_type (by assumption)) ?_; rintro _ ⟨_, _⟩)
            | (rw [zw_B]; with_reducible refine zw_mono (zz_whole (by assumption)) ?_; rintro _ ⟨_, _⟩)
            | (rw [zw_B]; with_reducible refine zw_mono (zz_add (by assumption)) ?_; rintro _ ⟨_, _⟩)
            | (rw [zw_B]; with_reducible refine zw_mono (zz_hang (by assumption) (by assumption) (by first | assumption | exact zq_vl_n | exact zq_vl_v (by assumption)) (by assumption)) ?_; rintro _ ⟨_, _⟩)
            | rw [if_pos (zq_at (by assumption))]
            | rw [zz_isCell (by assumption), if_pos rfl]
            | rw [if_neg (zq_ne (by assumption) (by decide) (by decide))]
          exact zz_row_L (by assumption) (by assumption)
        · exact zw_mono (zxb_row_L z2) fun g' z => ⟨mz, by omega, z⟩
      rw [nI_1]
      exact ih (N + 1) (N' + 1) (c := c + 1) I3 (by omega) (by omega) (by omega) (by omega) hf2 (by omega) v3 hs hm
    show zk_G h0 g0 T n K LC m 20710 o _ (f_Ps_row_31 (f_Ps_row_L31 (N + 1)) h' (nI s) y (nI c)) (f_Mo_row_18 (f_Mo_row_L18 (N' + 1)) g' (nI m))
    unfold f_Ps_row_31 f_Mo_row_18
    rw [if_neg (mt (zc_le (k := 16384) (by decide) (by omega)).mp (by omega)), if_pos I.1.2.2.2.2.2.2.1]
    rw [show f_Mo_isSign g' 59 = if (h'.1 19 5) = nI 59 then 1 else 0 from zk_sign I.1 (c := 59) (k := 59) (by decide), show f_Mo_isSign g' 124 = if (h'.1 19 5) = nI 124 then 1 else 0 from zk_sign I.1 (c := 124) (k := 124) (by decide)]
    by_cases t124 : (h'.1 19 5) = 124
    · rw [if_pos t124, if_neg (show ¬ (h'.1 19 5) = nI 59 by rw [t124]; decide), if_pos rfl, if_pos (show (h'.1 19 5) = nI 124 from t124), if_neg (show ¬ (1 : Int32) = 0 by decide)]
      unfold f_Ps_row_54
      rw [if_pos t124]
      refine zk_sLf (k2 := 29) (st' := 2) (f' := f + 1) (yy := 1) (FB := fun h10 => f_Mo_row_60 (f_Mo_row_L18 (N' + 1)) h10 (nI m)) (x := 124) (FA := fun v6 h9 => f_Ps_row_93 (f_Ps_row_L31 (N + 1)) h9 (nI s) v6 (nI c)) I (by decide) rfl rfl ⟨fun _ => t124, fun _ => by decide⟩ (by decide) (fun _ => ⟨by rw [if_neg (by decide)], Or.inl rfl⟩) (by decide) rfl (by decide) (by rw [if_neg (by decide)]; omega) (by omega) (by omega) ?_ ?_ fun h3 g3 u3 LM3 I3 => ?_
      · intro x gx _ hx
        show _ = (f_Mo_want gx 1).bind _
        unfold f_Mo_want
        rw [if_pos hx, if_neg (by decide)]
        cases f_Mo_next gx <;> rfl
      · intro φ w xz hz gz vz z1 z2
        refine zk_Gf (φ := φ) (w := w) ?_ ?_
        · unfold f_Ps_row_93
          rw [zw_B]
          refine zw_mono (zz_ladderCell z1) ?_
          rintro _ ⟨_, _⟩
          repeat' first
            | with_reducible exact zw_some.mpr ⟨by assumption, by assumption⟩
            | (rw [zw_bind]; with_reducible refine zw_mono (zz_take (by assumption)) ?_; intro _ _)
            | (rw [zw_B]; with_reducible refine zw_mono (zz_constant (by assumption)) ?_; rintro _ ⟨_, _⟩)
            | (rw [zw_B]; with_reducible refine zw_mono (zz_simpleType (by assumption)) ?_; rintro _ ⟨_, _⟩)
            | (rw [zw_B]; with_reducible refine zw_mono (zz_type (by assumption)) ?_; rintro _ ⟨_, _⟩)
            | (rw [zw_B]; with_reducible refine zw_mono (zz_whole (by assumption)) ?_; rintro _ ⟨_, _⟩)
            | (rw [zw_B]; with_reducible refine zw_mono (zz_add (by assumption)) ?_; rintro _ ⟨_, _⟩)
            | (rw [zw_B]; with_reducible refine zw_mono (zz_hang (by assumption) (by assumption) (by first | assumption | exact zq_vl_n | exact zq_vl_v (by assumption)) (by assumption)) ?_; rintro _ ⟨_, _⟩)
            | rw [if_pos (zq_at (by assumption))]
            | rw [zz_isCell (by assumption), if_pos rfl]
            | rw [if_neg (zq_ne (by assumption) (by decide) (by decide))]
          exact zz_row_L (by assumption) (by assumption)
        · unfold f_Mo_row_60
          rw [zw_bind]
          exact zw_mono (zxb_readCell z2) fun g' z => zw_mono (zxb_row_L z) fun g' z => ⟨m' + 1, by omega, z⟩
      have b3 := zk_Ib I3
      exact cell I3 (by omega) (Or.inr rfl) (by omega) (by omega) (by omega) ⟨s', by omega, rfl⟩
    · rw [if_neg t124, if_neg (show ¬ (h'.1 19 5) = nI 124 from t124), if_pos (show (0 : Int32) = 0 from rfl)]
      by_cases hC : f_Ps_isCell h' = 0
      · rw [if_pos hC]
        by_cases t59 : (h'.1 19 5) = 59
        · rw [if_pos (show (h'.1 19 5) = nI 59 from t59), if_neg (show ¬ (1 : Int32) = 0 by decide)]
          unfold f_Ps_row_113 f_Mo_row_68
          refine zk_sA I (zk_wantS I.1 (c := 59) (k := 59) (by decide) (by decide)) ?_ fun h2 g2 LM2 I2 => ?_
          · intro φ w hz gz z1 z2
            refine zk_Gf (φ := φ) (w := w) ?_ ?_
            · repeat' first
                | with_reducible exact zw_some.mpr ⟨by assumption, by assumption⟩
                | (rw [zw_bind]; with_reducible refine zw_mono (zz_take (by assumption)) ?_; intro _ _)
                | (rw [zw_B]; with_reducible refine zw_mono (zz_constant (by assumption)) ?_; rintro _ ⟨_, _⟩)
                | (rw [zw_B]; with_reducible refine zw_mono (zz_simpleType (by assumption)) ?_; rintro _ ⟨_, _⟩)
                | (rw [zw_B]; with_reducible refine zw_mono (zz_type (by assumption)) ?_; rintro _ ⟨_, _⟩)
                | (rw [zw_B]; with_reducible refine zw_mono (zz_whole (by assumption)) ?_; rintro _ ⟨_, _⟩)
                | (rw [zw_B]; with_reducible refine zw_mono (zz_add (by assumption)) ?_; rintro _ ⟨_, _⟩)
                | (rw [zw_B]; with_reducible refine zw_mono (zz_hang (by assumption) (by assumption) (by first | assumption | exact zq_vl_n | exact zq_vl_v (by assumption)) (by assumption)) ?_; rintro _ ⟨_, _⟩)
                | rw [if_pos (zq_at (by assumption))]
                | rw [zz_isCell (by assumption), if_pos rfl]
                | rw [if_neg (zq_ne (by assumption) (by decide) (by decide))]
            · repeat' first
                | (with_reducible refine zw_some.mpr ⟨_, ⟨?_, ?_⟩, by assumption⟩ <;> omega)
                | (rw [zw_bind]; with_reducible refine zw_mono (zxw_wantSign (by assumption)) ?_; intro _ _)
                | (rw [zw_bind]; with_reducible refine zw_mono (zxw_wantWord (by assumption)) ?_; intro _ _)
                | (rw [zw_bind]; with_reducible refine zw_mono (zxw_want (by assumption)) ?_; intro _ _)
                | (rw [zw_bind]; with_reducible refine zw_mono (zx_next (by assumption)) ?_; intro _ _)
                | (rw [zw_bind]; with_reducible refine zw_mono (zxb_constant (by assumption) (by omega) (by omega)) ?_; intro _ _)
                | (rw [zw_bind]; with_reducible refine zw_mono (zxw_simple (by assumption) (by omega) (by omega)) ?_; rintro _ ⟨_, _, _, _⟩)
                | (rw [zw_B]; with_reducible refine zw_mono (zxb_add (by assumption) (by omega) rfl (by omega)) ?_; rintro _ ⟨e1, _⟩; try rw [e1])
                | rw [zx_isSign (by assumption), if_pos rfl]
                | rw [zx_isWord (by assumption), if_pos rfl]
                | rw [if_neg (zx_ne (by assumption))]
                | rw [if_neg (zx_pos (by assumption))]
                | rw [if_pos (show (0 : Int32) ≤ 0 by decide)]
          have b2 := zk_Ib I2
          exact ⟨nI s, h2, g2, rfl, rfl, Or.inl (zk_Id I2 (by omega) (by omega) rfl (Or.inl rfl) (by decide) (by omega) (by decide))⟩
        · rw [if_neg (show ¬ (h'.1 19 5) = nI 59 from t59), if_pos (show (0 : Int32) = 0 from rfl)]
          unfold f_Mo_row_60 f_Ps_row_113
          obtain ⟨h2, g2, φ, w, e1, e2, z1, z2⟩ := zk_cellX I.1 (b := m) (x := 59) (by omega) (by omega) t59 hC
          rw [e1, e2, Option.bind_some, Option.bind_some]
          refine zk_Gf (φ := φ) (w := w) (zw_some.mpr ⟨v0, z1⟩) ?_
          exact zw_mono (zxb_row_L z2) fun g' z => ⟨m' + 2, by omega, z⟩
      · have hn59 : ¬ (h'.1 19 5) = nI 59 := fun z => hC (zk_isC2 (by rw [z]; decide))
        rw [if_neg hC, if_neg hn59, if_pos (show (0 : Int32) = 0 from rfl)]
        unfold f_Ps_row_54
        rw [if_neg t124]
        exact cell I (Nat.le_refl _) (Or.inl rfl) hf (by omega) (by omega) vy
theorem zk_row (H : zk_L h0 g0 T n K LC h g LM j d s m o q) {b : Nat} (hb : b < m) (hs : s ≤ 2 * j + 11) (hm : m ≤ 2 * j + 11) : zk_G h0 g0 T n K LC m 20710 o (zk_T h0 g0 T n K LC LM (zg_T [24] 4) j d s m o q b h g) (f_Ps_row h) (f_Mo_row g (nI b)) := by
  have hK := zk_bK H
  unfold f_Ps_row f_Mo_row
  obtain ⟨h1, g1, e1, e2, I⟩ := zk_I0 H (b := b) (kd := 24) (kc := 24) (km := 24) (D := 3) (v := 0) (w := 0) (by omega) (by omega) hb (by decide) rfl rfl (by rw [if_neg (by decide)])
  rw [e1, e2, zo_B, zo_B, zF_9]
  have v0 := zk_Iv I
  refine zk_sK (st' := 1) I (zk_cell I.1 (by omega) (by omega) (by omega)) (by decide) ?_ fun x3 h3 g3 u3 LM3 j3 s3 m3 v3 l3 I3 => ?_
  · intro φ w mz xz hz gz w1 w2 vz z1 z2
    refine zk_Gf (φ := φ) (w := w) ?_ ?_
    · repeat' first
        | with_reducible exact zw_some.mpr ⟨by assumption, by assumption⟩
        | (rw [zw_bind]; with_reducible refine zw_mono (zz_take (by assumption)) ?_; intro _ _)
        | (rw [zw_B]; with_reducible refine zw_mono (zz_constant (by assumption)) ?_; rintro _ ⟨_, _⟩)
        | (rw [zw_B]; with_reducible refine zw_mono (zz_simpleType (by assumption)) ?_; rintro _ ⟨_, _⟩)
        | (rw [zw_B]; with_reducible refine zw_mono (zz_type (by assumption)) ?_; rintro _ ⟨_, _⟩)
        | (rw [zw_B]; with_reducible refine zw_mono (zz_whole (by assumption)) ?_; rintro _ ⟨_, _⟩)
        | (rw [zw_B]; with_reducible refine zw_mono (zz_add (by assumption)) ?_; rintro _ ⟨_, _⟩)
        | (rw [zw_B]; with_reducible refine zw_mono (zz_hang (by assumption) (by assumption) (by first | assumption | exact zq_vl_n | exact zq_vl_v (by assumption)) (by assumption)) ?_; rintro _ ⟨_, _⟩)
        | rw [if_pos (zq_at (by assumption))]
        | rw [zz_isCell (by assumption), if_pos rfl]
        | rw [if_neg (zq_ne (by assumption) (by decide) (by decide))]
      exact zz_row_L (N := 18446744073709551607 + 8) (by assumption) (by assumption)
    · exact zw_mono (zxb_row_L (N := 18446744073709551607 + 8) z2) fun g' z => ⟨mz, by omega, z⟩
  exact zk_rowL 10240 _ _ (c := 0) I3 (by omega) (by omega) (by omega) (by omega) (by omega) (by omega) v3 hs hm
/-- the rows of a rung, and what follows -/
theorem zk_rngL {sl ml N0 N0' : Nat} {yl x3 : Int32} (vl : zq_v (nI sl)) (vyl : zq_vl yl) (good : ∀ h2 g2, zk_T h0 g0 T n K LC LM (zg_T [23] 5) j d' s m o q b h g (nI s) h2 g2 → zk_G h0 g0 T n K LC M0 20800 o X (zd_B (f_Tr_hang h2 (nI sl) yl (nI s)) fun v4 h5 => f_Ps_ladder_L26 (N0 + 1) h5 (nI sl) v4 (x3 + 1)) (f_Mo_ladder_L17 (N0' + 1) g2 (nI ml))) : ∀ (r N N' : Nat) {c : Nat} {y : Int32} {u : zt_T} {LM' : List (List Int32)} {j' s' m' e f : Nat} {h' g' : zs_H}, zk_I h0 g0 T n K LC LM j s m o q b 23 p v h g g1 u y LM' j' d' s' m' e 1 4 f h' g' → K ≤ j' + r → r + 2 ≤ N → r + 2 ≤ N' → 2 ≤ e → 1 ≤ f → c ≤ j' → zq_v y → s ≤ 2 * j + 12 → m ≤ 2 * j + 12 → M0 ≤ m → zk_G h0 g0 T n K LC M0 20800 o X (f_Ps_ladder_L85 (f_Ps_ladder_L26 (N0 + 1)) N h' (nI sl) yl x3 (nI s) y (nI c)) (f_Mo_ladder_L48 (f_Mo_ladder_L17 (N0' + 1)) N' g' (nI ml) (nI m)) := by
  intro r
  induction r with
  | zero =>
    intro N N' c y u LM' j' s' m' e f h' g' I hr hN hN' he hf hc vy hs hm hM
    have b1 := zk_Ib I
    have v0 := zk_Iv I
    obtain ⟨N, rfl⟩ : ∃ k, N = k + 2 := ⟨N - 2, by omega⟩
    obtain ⟨N', rfl⟩ : ∃ k, N' = k + 2 := ⟨N' - 2, by omega⟩
    have t6 : (h'.1 19 5) = 6 := Classical.byContradiction fun z => by
      have := zk_lt I.1 (zk_notE I.1 z)
      omega
    have hC : f_Ps_isCell h' = 0 := zk_isC2 (by rw [t6]; decide)
    show zk_G h0 g0 T n K LC M0 20800 o X (f_Ps_ladder_85 (f_Ps_ladder_L26 (N0 + 1)) (f_Ps_ladder_L85 (f_Ps_ladder_L26 (N0 + 1)) (N + 1)) h' (nI sl) yl x3 (nI s) y (nI c)) (f_Mo_ladder_48 (f_Mo_ladder_L17 (N0' + 1)) (f_Mo_ladder_L48 (f_Mo_ladder_L17 (N0' + 1)) (N' + 1)) g' (nI ml) (nI m))
    unfold f_Ps_ladder_85 f_Mo_ladder_48
    rw [if_neg (mt (zc_le (k := 16384) (by decide) (by omega)).mp (by omega)), if_pos hC, if_pos I.1.2.2.2.2.2.2.1, show f_Mo_isWord g' 40 = if (h'.1 19 5) = nI 168 then 1 else 0 from zk_word I.1 (c := 40) (by decide), if_neg (show ¬ (h'.1 19 5) = nI 168 by rw [t6]; decide), if_pos rfl]
    unfold f_Ps_ladder_123 f_Mo_row
    obtain ⟨ga, ea, La, _⟩ := zk_madd0 I.1 (b := m) (kn := 24) (kv := 24) (p := (g'.1 68 7)) (v := 0) (by omega) (by omega) rfl
    obtain ⟨h2, g2, φ, w, e1, e2, z1, z2⟩ := zk_cellX La (b := m') (x := 168) (by omega) (by omega) (by rw [t6]; decide) hC
    rw [e1, ea, zo_B, e2, zF_9, Option.bind_some, Option.bind_some]
    refine zk_Gf (φ := φ) (w := w) ?_ ?_
    · repeat' first
        | with_reducible exact zw_some.mpr ⟨by assumption, by assumption⟩
        | (rw [zw_bind]; with_reducible refine zw_mono (zz_take (by assumption)) ?_; intro _ _)
        | (rw [zw_B]; with_reducible refine zw_mono (zz_constant (by assumption)) ?_; rintro _ ⟨_, _⟩)
        | (rw [zw_B]; with_reducible refine zw_mono (zz_simpleType (by assumption)) ?_; rintro _ ⟨_, _⟩)
        | (rw [zw_B]; with_reducible refine zw_mono (zz_type (by assumption)) ?_; rintro _ ⟨_, _⟩)
        | (rw [zw_B]; with_reducible refine zw_mono (zz_whole (by assumption)) ?_; rintro _ ⟨_, _⟩)
        | (rw [zw_B]; with_reducible refine zw_mono (zz_add (by assumption)) ?_; rintro _ ⟨_, _⟩)
        | (rw [zw_B]; with_reducible refine zw_mono (zz_hang (by assumption) (by assumption) (by first | assumption | exact zq_vl_n | exact zq_vl_v (by assumption)) (by assumption)) ?_; rintro _ ⟨_, _⟩)
        | rw [if_pos (zq_at (by assumption))]
        | rw [zz_isCell (by assumption), if_pos rfl]
        | rw [if_neg (zq_ne (by assumption) (by decide) (by decide))]
      exact zz_ladder_L26 (by assumption) (by assumption)
    · rw [zw_bind]
      exact zw_mono (zxb_row_L (N := 18446744073709551607 + 8) z2) fun g' z => zw_mono (zxb_ladder_L48 z) fun g' z => ⟨m' + 1 + 2, by omega, z⟩
  | succ r ih =>
    intro N N' c y u LM' j' s' m' e f h' g' I hr hN hN' he hf hc vy hs hm hM
    have b1 := zk_Ib I
    have v0 := zk_Iv I
    obtain ⟨N, rfl⟩ : ∃ k, N = k + 2 := ⟨N - 2, by omega⟩
    obtain ⟨N', rfl⟩ : ∃ k, N' = k + 2 := ⟨N' - 2, by omega⟩
    show zk_G h0 g0 T n K LC M0 20800 o X (f_Ps_ladder_85 (f_Ps_ladder_L26 (N0 + 1)) (f_Ps_ladder_L85 (f_Ps_ladder_L26 (N0 + 1)) (N + 1)) h' (nI sl) yl x3 (nI s) y (nI c)) (f_Mo_ladder_48 (f_Mo_ladder_L17 (N0' + 1)) (f_Mo_ladder_L48 (f_Mo_ladder_L17 (N0' + 1)) (N' + 1)) g' (nI ml) (nI m))
    unfold f_Ps_ladder_85 f_Mo_ladder_48
    rw [if_neg (mt (zc_le (k := 16384) (by decide) (by omega)).mp (by omega)), if_pos I.1.2.2.2.2.2.2.1, show f_Mo_isWord g' 40 = if (h'.1 19 5) = nI 168 then 1 else 0 from zk_word I.1 (c := 40) (by decide)]
    by_cases hC : f_Ps_isCell h' = 0
    · rw [if_pos hC]
      unfold f_Ps_ladder_123
      by_cases t168 : (h'.1 19 5) = 168
      · rw [if_pos (show (h'.1 19 5) = nI 168 from t168), if_neg (show ¬ (1 : Int32) = 0 by decide)]
        unfold f_Mo_ladder_72
        refine zk_sA I (zk_wantW I.1 (c := 40) (by decide)) ?_ fun h2 g2 LM2 I2 => ?_
        · intro φ w hz gz z1 z2
          refine zk_Gf (φ := φ) (w := w) ?_ ?_
          · repeat' first
              | with_reducible exact zw_some.mpr ⟨by assumption, by assumption⟩
              | (rw [zw_bind]; with_reducible refine zw_mono (zz_take (by assumption)) ?_; intro _ _)
              | (rw [zw_B]; with_reducible refine zw_mono (zz_constant (by assumption)) ?_; rintro _ ⟨_, _⟩)
              | (rw [zw_B]; with_reducible refine zw_mono (zz_simpleType (by assumption)) ?_; rintro _ ⟨_, _⟩)
              | (rw [zw_B]; with_reducible refine zw_mono (zz_type (by assumption)) ?_; rintro _ ⟨_, _⟩)
              | (rw [zw_B]; with_reducible refine zw_mono (zz_whole (by assumption)) ?_; rintro _ ⟨_, _⟩)
              | (rw [zw_B]; with_reducible refine zw_mono (zz_add (by assumption)) ?_; rintro _ ⟨_, _⟩)
              | (rw [zw_B]; with_reducible refine zw_mono (zz_hang (by assumption) (by assumption) (by first | assumption | exact zq_vl_n | exact zq_vl_v (by assumption)) (by assumption)) ?_; rintro _ ⟨_, _⟩)
              | rw [if_pos (zq_at (by assumption))]
              | rw [zz_isCell (by assumption), if_pos rfl]
              | rw [if_neg (zq_ne (by assumption) (by decide) (by decide))]
            exact zz_ladder_L26 (by assumption) (by assumption)
          · exact zw_mono (zxb_ladder_L17 z2) fun g' z => ⟨m', by omega, z⟩
        have b2 := zk_Ib I2
        exact good h2 g2 (zk_Id I2 (by omega) (by omega) rfl (Or.inl rfl) (by decide) (by omega) (by decide))
      · rw [if_neg (show ¬ (h'.1 19 5) = nI 168 from t168), if_pos (show (0 : Int32) = 0 from rfl)]
        unfold f_Mo_row
        obtain ⟨ga, ea, La, _⟩ := zk_madd0 I.1 (b := m) (kn := 24) (kv := 24) (p := (g'.1 68 7)) (v := 0) (by omega) (by omega) rfl
        obtain ⟨h2, g2, φ, w, e1, e2, z1, z2⟩ := zk_cellX La (b := m') (x := 168) (by omega) (by omega) t168 hC
        rw [e1, ea, zo_B, e2, zF_9, Option.bind_some, Option.bind_some]
        refine zk_Gf (φ := φ) (w := w) ?_ ?_
        · repeat' first
            | with_reducible exact zw_some.mpr ⟨by assumption, by assumption⟩
            | (rw [zw_bind]; with_reducible refine zw_mono (zz_take (by assumption)) ?_; intro _ _)
            | (rw [zw_B]; with_reducible refine zw_mono (zz_constant (by assumption)) ?_; rintro _ ⟨_, _⟩)
            | (rw [zw_B]; with_reducible refine zw_mono (zz_simpleType (by assumption)) ?_; rintro _ ⟨_, _⟩)
            | (rw [zw_B]; with_reducible refine zw_mono (zz_type (by assumption)) ?_; rintro _ ⟨_, _⟩)
            | (rw [zw_B]; with_reducible refine zw_mono (zz_whole (by assumption)) ?_; rintro _ ⟨_, _⟩)
            | (rw [zw_B]; with_reducible refine zw_mono (zz_add (by assumption)) ?_; rintro _ ⟨_, _⟩)
            | (rw [zw_B]; with_reducible refine zw_mono (zz_hang (by assumption) (by assumption) (by first | assumption | exact zq_vl_n | exact zq_vl_v (by assumption)) (by assumption)) ?_; rintro _ ⟨_, _⟩)
            | rw [if_pos (zq_at (by assumption))]
            | rw [zz_isCell (by assumption), if_pos rfl]
            | rw [if_neg (zq_ne (by assumption) (by decide) (by decide))]
          exact zz_ladder_L26 (by assumption) (by assumption)
        · rw [zw_bind]
          exact zw_mono (zxb_row_L (N := 18446744073709551607 + 8) z2) fun g' z => zw_mono (zxb_ladder_L48 z) fun g' z => ⟨m' + 1 + 2, by omega, z⟩
    · have hn : ¬ (h'.1 19 5) = nI 168 := fun z => hC (zk_isC2 (by rw [z]; decide))
      rw [if_neg hC, if_neg hn, if_pos (show (0 : Int32) = 0 from rfl)]
      refine zk_sK (st' := 1) I (zk_row I.1 (by omega) (by omega) (by omega)) (by decide) ?_ fun x4 h3 g3 u3 LM3 j3 s3 m3 v3 l3 I3 => ?_
      · intro φ w mz xz hz gz w1 w2 vz z1 z2
        refine zk_Gf (φ := φ) (w := w) ?_ ?_
        · repeat' first
            | with_reducible exact zw_some.mpr ⟨by assumption, by assumption⟩
            | (rw [zw_bind]; with_reducible refine zw_mono (zz_take (by assumption)) ?_; intro _ _)
            | (rw [zw_B]; with_reducible refine zw_mono (zz_constant (by assumption)) ?_; rintro _ ⟨_, _⟩)
            | (rw [zw_B]; with_reducible refine zw_mono (zz_simpleType (by assumption)) ?_; rintro _ ⟨_, _⟩)
            | (rw [zw_B]; with_reducible refine zw_mono (zz_type (by assumption)) ?_; rintro _ ⟨_, _⟩)
            | (rw [zw_B]; with_reducible refine zw_mono (zz_whole (by assumption)) ?_; rintro _ ⟨_, _⟩)
            | (rw [zw_B]; with_reducible refine zw_mono (zz_add (by assumption)) ?_; rintro _ ⟨_, _⟩)
            | (rw [zw_B]; with_reducible refine zw_mono (zz_hang (by assumption) (by assumption) (by first | assumption | exact zq_vl_n | exact zq_vl_v (by assumption)) (by assumption)) ?_; rintro _ ⟨_, _⟩)
            | rw [if_pos (zq_at (by assumption))]
            | rw [zz_isCell (by assumption), if_pos rfl]
            | rw [if_neg (zq_ne (by assumption) (by decide) (by decide))]
          exact zz_ladder_L85 (by assumption) (by assumption) (by assumption) (by assumption)
        · exact zw_mono (zxb_ladder_L48 z2) fun g' z => ⟨mz, by omega, z⟩
      rw [nI_1]
      exact ih (N + 1) (N' + 1) (c := c + 1) I3 (by omega) (by omega) (by omega) he hf (by omega) v3 hs hm hM
theorem zk_ladL : ∀ (r N N' : Nat) {c : Nat} {y : Int32} {u : zt_T} {LM' : List (List Int32)} {j' s' m' e f : Nat} {h' g' : zs_H}, zk_I h0 g0 T n K LC LM j s m o q b 22 p v h g g1 u y LM' j' d' s' m' e 0 5 f h' g' → K ≤ j' + r → r + 3 ≤ N → r + 3 ≤ N' → 2 ≤ e → 1 ≤ f → c ≤ j' → zq_vl y → s ≤ 2 * j + 12 → m ≤ 2 * j + 12 → zk_G h0 g0 T n K LC m 20800 o (zk_T h0 g0 T n K LC LM (zg_T [22] 6) j d' s m o q b h g) (f_Ps_ladder_L26 N h' (nI s) y (nI c)) (f_Mo_ladder_L17 N' g' (nI m)) := by
  intro r
  have fin : ∀ {y : Int32} {u : zt_T} {LM' : List (List Int32)} {j' s' m' e f : Nat} {h' g' : zs_H}, zk_I h0 g0 T n K LC LM j s m o q b 22 p v h g g1 u y LM' j' d' s' m' e 0 5 f h' g' → s ≤ 2 * j + 12 → m ≤ 2 * j + 12 → zk_G h0 g0 T n K LC m 20800 o (zk_T h0 g0 T n K LC LM (zg_T [22] 6) j d' s m o q b h g) (f_Ps_ladder_148 h' (nI s)) ((f_Mo_wantWord g' 38).bind fun h4 => some h4) := by
    intro y u LM' j' s' m' e f h' g' I hs hm
    have b1 := zk_Ib I
    have v0 := zk_Iv I
    unfold f_Ps_ladder_148
    refine zk_sA I (zk_wantW I.1 (c := 38) (by decide)) ?_ fun h2 g2 LM2 I2 => ?_
    · intro φ w hz gz z1 z2
      refine zk_Gf (φ := φ) (w := w) ?_ ?_
      · repeat' first
          | with_reducible exact zw_some.mpr ⟨by assumption, by assumption⟩
          | (rw [zw_bind]; with_reducible refine zw_mono (zz_take (by assumption)) ?_; intro _ _)
          | (rw [zw_B]; with_reducible refine zw_mono (zz_constant (by assumption)) ?_; rintro _ ⟨_, _⟩)
          | (rw [zw_B]; with_reducible refine zw_mono (zz_simpleType (by assumption)) ?_; rintro _ ⟨_, _⟩)
          | (rw [zw_B]; with_reducible refine zw_mono (zz_type (by assumption)) ?_; rintro _ ⟨_, _⟩)
          | (rw [zw_B]; with_reducible refine zw_mono (zz_whole (by assumption)) ?_; rintro _ ⟨_, _⟩)
          | (rw [zw_B]; with_reducible refine zw_mono (zz_add (by assumption)) ?_; rintro _ ⟨_, _⟩)
          | (rw [zw_B]; with_reducible refine zw_mono (zz_hang (by assumption) (by assumption) (by first | assumption | exact zq_vl_n | exact zq_vl_v (by assumption)) (by assumption)) ?_; rintro _ ⟨_, _⟩)
          | rw [if_pos (zq_at (by assumption))]
          | rw [zz_isCell (by assumption), if_pos rfl]
          | rw [if_neg (zq_ne (by assumption) (by decide) (by decide))]
      · repeat' first
          | (with_reducible refine zw_some.mpr ⟨_, ⟨?_, ?_⟩, by assumption⟩ <;> omega)
          | (rw [zw_bind]; with_reducible refine zw_mono (zxw_wantSign (by assumption)) ?_; intro _ _)
          | (rw [zw_bind]; with_reducible refine zw_mono (zxw_wantWord (by assumption)) ?_; intro _ _)
          | (rw [zw_bind]; with_reducible refine zw_mono (zxw_want (by assumption)) ?_; intro _ _)
          | (rw [zw_bind]; with_reducible refine zw_mono (zx_next (by assumption)) ?_; intro _ _)
          | (rw [zw_bind]; with_reducible refine zw_mono (zxb_constant (by assumption) (by omega) (by omega)) ?_; intro _ _)
          | (rw [zw_bind]; with_reducible refine zw_mono (zxw_simple (by assumption) (by omega) (by omega)) ?_; rintro _ ⟨_, _, _, _⟩)
          | (rw [zw_B]; with_reducible refine zw_mono (zxb_add (by assumption) (by omega) rfl (by omega)) ?_; rintro _ ⟨e1, _⟩; try rw [e1])
          | rw [zx_isSign (by assumption), if_pos rfl]
          | rw [zx_isWord (by assumption), if_pos rfl]
          | rw [if_neg (zx_ne (by assumption))]
          | rw [if_neg (zx_pos (by assumption))]
          | rw [if_pos (show (0 : Int32) ≤ 0 by decide)]
    have b2 := zk_Ib I2
    exact ⟨nI s, h2, g2, rfl, rfl, Or.inl (zk_Id I2 (by omega) (by omega) rfl (Or.inl rfl) (by decide) (by omega) (by decide))⟩
  induction r with
  | zero =>
    intro N N' c y u LM' j' s' m' e f h' g' I hr hN hN' he hf hc vy hs hm
    have b1 := zk_Ib I
    obtain ⟨N, rfl⟩ : ∃ k, N = k + 1 := ⟨N - 1, by omega⟩
    obtain ⟨N', rfl⟩ : ∃ k, N' = k + 1 := ⟨N' - 1, by omega⟩
    have t6 : (h'.1 19 5) = 6 := Classical.byContradiction fun z => by
      have := zk_lt I.1 (zk_notE I.1 z)
      omega
    show zk_G h0 g0 T n K LC m 20800 o _ (f_Ps_ladder_26 (f_Ps_ladder_L26 N) h' (nI s) y (nI c)) (f_Mo_ladder_17 (f_Mo_ladder_L17 N') g' (nI m))
    unfold f_Ps_ladder_26 f_Mo_ladder_17
    rw [if_neg (mt (zc_le (k := 16384) (by decide) (by omega)).mp (by omega)), if_neg (show ¬ (h'.1 19 5) = 167 by rw [t6]; decide), show f_Mo_isWord g' 39 = if (h'.1 19 5) = nI 167 then 1 else 0 from zk_word I.1 (c := 39) (by decide), if_neg (show ¬ (h'.1 19 5) = nI 167 by rw [t6]; decide), if_pos rfl]
    exact fin I hs hm
  | succ r ih =>
    intro N N' c y u LM' j' s' m' e f h' g' I hr hN hN' he hf hc vy hs hm
    have b1 := zk_Ib I
    have v0 := zk_Iv I
    obtain ⟨N, rfl⟩ : ∃ k, N = k + 2 := ⟨N - 2, by omega⟩
    obtain ⟨N', rfl⟩ : ∃ k, N' = k + 2 := ⟨N' - 2, by omega⟩
    show zk_G h0 g0 T n K LC m 20800 o _ (f_Ps_ladder_26 (f_Ps_ladder_L26 (N + 1)) h' (nI s) y (nI c)) (f_Mo_ladder_17 (f_Mo_ladder_L17 (N' + 1)) g' (nI m))
    unfold f_Ps_ladder_26 f_Mo_ladder_17
    rw [if_neg (mt (zc_le (k := 16384) (by decide) (by omega)).mp (by omega)), show f_Mo_isWord g' 39 = if (h'.1 19 5) = nI 167 then 1 else 0 from zk_word I.1 (c := 39) (by decide)]
    by_cases t167 : (h'.1 19 5) = 167
    · rw [if_pos t167, if_pos (show (h'.1 19 5) = nI 167 from t167), if_neg (show ¬ (1 : Int32) = 0 by decide)]
      obtain ⟨h1, g1', e1, e2, J⟩ := zk_I0 I.1 (b := m) (kd := 23) (kc := 23) (km := 23) (D := 4) (v := 0) (w := 0) (by omega) (by omega) (by omega) (by decide) rfl rfl (by rw [if_neg (by decide)])
      rw [e1, e2, zo_B, zo_B, zF_9]
      have v1 := zk_Iv J
      refine zk_sN J (by rw [J.1.2.2.2.1.2.2.1, ← I.1.2.2.2.1.2.2.1]; exact t167) (by decide) ?_ fun h2 g2 LM2 J2 => ?_
      · intro φ w hz gz z1 z2
        refine zk_Gf (φ := φ) (w := w) ?_ ?_
        · rw [zw_B]
          refine zw_mono (zz_row z1) ?_
          rintro _ ⟨_, _⟩
          repeat' first
            | with_reducible exact zw_some.mpr ⟨by assumption, by assumption⟩
            | (rw [zw_bind]; with_reducible refine zw_mono (zz_take (by assumption)) ?_; intro _ _)
            | (rw [zw_B]; with_reducible refine zw_mono (zz_constant (by assumption)) ?_; rintro _ ⟨_, _⟩)
            | (rw [zw_B]; with_reducible refine zw_mono (zz_simpleType (by assumption)) ?_; rintro _ ⟨_, _⟩)
            | (rw [zw_B]; with_reducible refine zw_mono (zz_type (by assumption)) ?_; rintro _ ⟨_, _⟩)
            | (rw [zw_B]; with_reducible refine zw_mono (zz_whole (by assumption)) ?_; rintro _ ⟨_, _⟩)
            | (rw [zw_B]; with_reducible refine zw_mono (zz_add (by assumption)) ?_; rintro _ ⟨_, _⟩)
            | (rw [zw_B]; with_reducible refine zw_mono (zz_hang (by assumption) (by assumption) (by first | assumption | exact zq_vl_n | exact zq_vl_v (by assumption)) (by assumption)) ?_; rintro _ ⟨_, _⟩)
            | rw [if_pos (zq_at (by assumption))]
            | rw [zz_isCell (by assumption), if_pos rfl]
            | rw [if_neg (zq_ne (by assumption) (by decide) (by decide))]
          exact zz_ladder_L85 (N := 18446744073709551607 + 8) (by assumption) (by assumption) (by assumption) (by assumption)
        · rw [zw_bind]
          exact zw_mono (zxb_row z2 (by omega) (by omega)) fun g' z => zw_mono (zxb_ladder_L48 (N := 18446744073709551607 + 8) z) fun g' z => ⟨m' + 1 + 1, by omega, z⟩
      have b2 := zk_Ib J2
      refine zk_sK (st' := 1) J2 (zk_row J2.1 (by omega) (by omega) (by omega)) (by decide) ?_ fun x4 h3 g3 u3 LM3 j3 s3 m3 v3 l3 J3 => ?_
      · intro φ w mz xz hz gz w1 w2 vz z1 z2
        refine zk_Gf (φ := φ) (w := w) ?_ ?_
        · repeat' first
            | with_reducible exact zw_some.mpr ⟨by assumption, by assumption⟩
            | (rw [zw_bind]; with_reducible refine zw_mono (zz_take (by assumption)) ?_; intro _ _)
            | (rw [zw_B]; with_reducible refine zw_mono (zz_constant (by assumption)) ?_; rintro _ ⟨_, _⟩)
            | (rw [zw_B]; with_reducible refine zw_mono (zz_simpleType (by assumption)) ?_; rintro _ ⟨_, _⟩)
            | (rw [zw_B]; with_reducible refine zw_mono (zz_type (by assumption)) ?_; rintro _ ⟨_, _⟩)
            | (rw [zw_B]; with_reducible refine zw_mono (zz_whole (by assumption)) ?_; rintro _ ⟨_, _⟩)
            | (rw [zw_B]; with_reducible refine zw_mono (zz_add (by assumption)) ?_; rintro _ ⟨_, _⟩)
            | (rw [zw_B]; with_reducible refine zw_mono (zz_hang (by assumption) (by assumption) (by first | assumption | exact zq_vl_n | exact zq_vl_v (by assumption)) (by assumption)) ?_; rintro _ ⟨_, _⟩)
            | rw [if_pos (zq_at (by assumption))]
            | rw [zz_isCell (by assumption), if_pos rfl]
            | rw [if_neg (zq_ne (by assumption) (by decide) (by decide))]
          exact zz_ladder_L85 (N := 18446744073709551607 + 8) (by assumption) (by assumption) (by assumption) (by assumption)
        · exact zw_mono (zxb_ladder_L48 (N := 18446744073709551607 + 8) z2) fun g' z => ⟨mz, by omega, z⟩
      refine zk_rngL (sl := s) (ml := m) v0 vy ?_ 10240 _ _ (c := 0) J3 (by omega) (by omega) (by omega) (by omega) (by omega) (by omega) v3 (by omega) (by omega) (by omega)
      intro h4 g4 R
      have vR := zk_Tv R
      obtain ⟨h5, u5, LM5, j5, s5, m5, e5, l5, I5⟩ := zk_Ic (st' := 0) I R (by decide)
      rw [e5, zo_B, nI_1]
      exact ih (N + 1) (N' + 1) (c := c + 1) I5 (by omega) (by omega) (by omega) he hf (by omega) (zq_vl_v vR) hs hm
    · rw [if_neg t167, if_neg (show ¬ (h'.1 19 5) = nI 167 from t167), if_pos rfl]
      exact fin I hs hm
theorem zk_ladder (H : zk_L h0 g0 T n K LC h g LM j d s m o q) {b : Nat} (hb : b < m) (ht : (h.1 19 5) = 165) (hs : s ≤ 2 * j + 12) (hm : m ≤ 2 * j + 12) : zk_G h0 g0 T n K LC m 20800 o (zk_T h0 g0 T n K LC LM (zg_T [22] 6) j d s m o q b h g) (f_Ps_ladder h) (f_Mo_ladder g (nI b)) := by
  have hK := zk_bK H
  unfold f_Ps_ladder f_Mo_ladder
  obtain ⟨h1, g1, e1, e2, I⟩ := zk_I0 H (b := b) (kd := 22) (kc := 22) (km := 22) (D := 5) (v := 0) (w := 0) (by omega) (by omega) hb (by decide) rfl rfl (by rw [if_neg (by decide)])
  rw [e1, e2, zo_B, zo_B, zF_9]
  have v0 := zk_Iv I
  refine zk_sN I (by rw [I.1.2.2.2.1.2.2.1, ← H.2.2.2.1.2.2.1]; exact ht) (by decide) ?_ fun h2 g2 LM2 I2 => ?_
  · intro φ w hz gz z1 z2
    refine zk_Gf (φ := φ) (w := w) (zz_ladder_L26 (N := 18446744073709551607 + 8) z1 v0) ?_
    exact zw_mono (zxb_ladder_L17 (N := 18446744073709551607 + 8) z2) fun g' z => ⟨m + 1, by omega, z⟩
  exact zk_ladL 10240 _ _ (c := 0) I2 (by omega) (by omega) (by omega) (by omega) (by omega) (by omega) zq_vl_n hs hm
end ZK
end
section
/-! The model's operands and signs, and how it splits them. -/
def zo_lv (sg : Nat) : Nat := if sg < 3 then sg else if sg < 5 then 3 else if sg < 9 then 4 else if sg < 11 then 5 else 6
theorem zo_cl : ∀ sg, sg < 14 → f_Mo_closeness (nI sg) = nI (zo_lv sg + 1) := by decide +kernel
theorem zo_l6 (sg : Nat) : zo_lv sg ≤ 6 := by
  unfold zo_lv
  repeat' split
  all_goals omega
def zo_fr (o : Nat) (g g' : zs_H) : Prop := ∀ i, i < o → (g'.2.1 81) i = (g.2.1 81) i ∧ (g'.2.1 82) i = (g.2.1 82) i ∧ (g'.2.1 83) i = (g.2.1 83) i
theorem zo_fr_f {o : Nat} {g g' : zs_H} {fs : List (Nat × Nat)} {ms ls : List Nat} (f : zfr fs ms ls g g') (h1 : 81 ∉ ms) (h2 : 82 ∉ ms) (h3 : 83 ∉ ms) : zo_fr o g g' := fun i _ => ⟨congrFun (f.2.1 _ h1) i, congrFun (f.2.1 _ h2) i, congrFun (f.2.1 _ h3) i⟩
theorem zo_fr_t {o o' : Nat} {g g1 g2 : zs_H} (a : zo_fr o g g1) (c : zo_fr o' g1 g2) (h : o ≤ o') : zo_fr o g g2 := fun i hi => by
  obtain ⟨a1, a2, a3⟩ := a i hi
  obtain ⟨c1, c2, c3⟩ := c i (by omega)
  exact ⟨c1.trans a1, c2.trans a2, c3.trans a3⟩
/-- one operand -/
def zo_b1 (LC LM : List (List Int32)) (g : zs_H) (o : Nat) (t : zt_T) (P : Nat → Prop) : Prop := ∃ a kd p v l, t = zt_n kd p v l ∧ P a ∧ a < 33500 ∧ (g.2.1 81) o = nI a ∧ zt_M LC LM g t P (-1) (nI a) (nI a)
/-- operands o to o + k, with signs that bind at least as close as lv; split they are t -/
def zo_S (LC LM : List (List Int32)) (g : zs_H) : Nat → Nat → Nat → zt_T → (Nat → Prop) → Nat → Prop
  | 0, o, k, t, P, _ => k = 0 ∧ zo_b1 LC LM g o t P
  | f + 1, o, k, t, P, lv => (k = 0 ∧ zo_b1 LC LM g o t P) ∨ ∃ (k0 k1 : Nat) (t0 t1 : zt_T) (P0 P1 : Nat → Prop) (sg : Nat) (pl : Int32), k = k0 + 1 + k1 ∧ t = zt_n 35 pl (nI sg) (zt_ap t0 t1) ∧ (g.2.1 82) (o + k0) = nI sg ∧ (g.2.1 83) (o + k0) = pl ∧ sg < 14 ∧ lv ≤ zo_lv sg ∧ (∀ i, P0 i → P i ∧ ¬ P1 i) ∧ (∀ i, P1 i → P i) ∧ zo_S LC LM g f o k0 t0 P0 (zo_lv sg) ∧ zo_S LC LM g f (o + k0 + 1) k1 t1 P1 (zo_lv sg + 1)
theorem zo_root {LC LM : List (List Int32)} {g : zs_H} {kd a : Nat} {p v up y : Int32} {l : zt_T} {P : Nat → Prop} (ha : a < 40000) (H : zt_M LC LM g (zt_n kd p v l) P up (nI a) y) : zt_Nf LC LM g a kd p v ∧ (g.2.1 75) a = up ∧ (g.2.1 78) a = -1 ∧ P a ∧ y = nI a ∧ ∃ P1 : Nat → Prop, (∀ i, P1 i → P i ∧ ¬ i = a) ∧ zt_M LC LM g l P1 (nI a) ((g.2.1 76) a) ((g.2.1 77) a) := by
  obtain ⟨i, P1, P2, z1, z2, q1, q2, q3, q4, q5, q6, q7, q8, q9⟩ := H
  have e : a = i := (nI_eq (by omega) (by omega)).mp q3
  subst e
  obtain ⟨n1, n2, n3, n4, n5⟩ := q4
  rw [q8.2, if_pos rfl] at q9
  exact ⟨⟨n1, n2, n3⟩, n4, q8.1, q1, q9, P1, fun i hi => ⟨(q5 i hi).1, (q5 i hi).2.1⟩, by rw [n5]; exact q7⟩
theorem zo_mk {LC LM : List (List Int32)} {g : zs_H} {kd a : Nat} {p v up : Int32} {l : zt_T} {P P1 : Nat → Prop} (ha : a < 40000) (h1 : zt_Nf LC LM g a kd p v) (h2 : (g.2.1 75) a = up) (h3 : (g.2.1 78) a = -1) (h4 : P a) (h5 : ∀ i, P1 i → P i ∧ ¬ i = a) (h6 : zt_M LC LM g l P1 (nI a) ((g.2.1 76) a) ((g.2.1 77) a)) : zt_M LC LM g (zt_n kd p v l) P up (nI a) (nI a) :=
  ⟨a, P1, fun _ => False, (g.2.1 77) a, -1, h4, ha, rfl, ⟨h1.1, h1.2.1, h1.2.2, h2, rfl⟩, fun i hi => ⟨(h5 i hi).1, (h5 i hi).2, fun z => z⟩, fun i z => z.elim, h6, ⟨h3, rfl⟩, by rw [if_pos rfl]⟩
/-- the nodes of P are as they were -/
def zo_ks (P : Nat → Prop) (g g' : zs_H) : Prop := ∀ i, P i → (g'.2.1 72) i = (g.2.1 72) i ∧ (g'.2.1 73) i = (g.2.1 73) i ∧ (g'.2.1 74) i = (g.2.1 74) i ∧ (g'.2.1 75) i = (g.2.1 75) i ∧ (g'.2.1 76) i = (g.2.1 76) i ∧ (g'.2.1 77) i = (g.2.1 77) i ∧ (g'.2.1 78) i = (g.2.1 78) i
theorem zo_ks_t {P Q : Nat → Prop} {g g1 g2 : zs_H} (a : zo_ks P g g1) (c : zo_ks Q g1 g2) (h : ∀ i, P i → Q i) : zo_ks P g g2 := fun i hi => by
  obtain ⟨x1, x2, x3, x4, x5, x6, x7⟩ := a i hi
  obtain ⟨y1, y2, y3, y4, y5, y6, y7⟩ := c i (h i hi)
  exact ⟨y1.trans x1, y2.trans x2, y3.trans x3, y4.trans x4, y5.trans x5, y6.trans x6, y7.trans x7⟩
theorem zo_Mk {LC LM LM' : List (List Int32)} {g g' : zs_H} {t : zt_T} {P : Nat → Prop} {up x y : Int32} (hp : LM <+: LM') (k : zo_ks P g g') (H : zt_M LC LM g t P up x y) : zt_M LC LM' g' t P up x y := by
  refine zt_fr t P P _ _ _ (fun i hi => ?_) (fun _ z => z) H
  obtain ⟨a1, a2, a3, a4, a5, a6, a7⟩ := k i hi
  refine ⟨fun kd kk up z q => ?_, a5, a7⟩
  unfold zt_NM at q ⊢
  rw [a1, a2, a3, a4, a6]
  refine ⟨q.1, q.2.1, ?_, q.2.2.2⟩
  have q3 := q.2.2.1
  by_cases c : zt_nk kd = true
  · rw [if_pos c] at q3 ⊢; exact zt_nrm hp q3
  · rw [if_neg c] at q3 ⊢; exact q3
theorem zo_Sk {LC LM LM' : List (List Int32)} {g g' : zs_H} (hp : LM <+: LM') : ∀ (f : Nat) {o k : Nat} {t : zt_T} {P : Nat → Prop} {lv : Nat}, zo_S LC LM g f o k t P lv → zo_ks P g g' → (∀ i, o ≤ i → i ≤ o + k → (g'.2.1 81) i = (g.2.1 81) i) → (∀ i, o ≤ i → i < o + k → (g'.2.1 82) i = (g.2.1 82) i ∧ (g'.2.1 83) i = (g.2.1 83) i) → zo_S LC LM' g' f o k t P lv := by
  have base : ∀ {o : Nat} {t : zt_T} {P : Nat → Prop}, zo_b1 LC LM g o t P → zo_ks P g g' → (g'.2.1 81) o = (g.2.1 81) o → zo_b1 LC LM' g' o t P := by
    intro o t P ⟨a, kd, p, v, l, e1, e2, e3, e4, e5⟩ hk hpt
    exact ⟨a, kd, p, v, l, e1, e2, e3, hpt.trans e4, zo_Mk hp hk e5⟩
  intro f
  induction f with
  | zero =>
    intro o k t P lv H hk h1 h2
    exact ⟨H.1, base H.2 hk (h1 o (Nat.le_refl _) (by omega))⟩
  | succ f ih =>
    intro o k t P lv H hk h1 h2
    rcases H with ⟨H1, H2⟩ | ⟨k0, k1, t0, t1, P0, P1, sg, pl, r1, r2, r3, r4, r5, r6, r7, r8, r9, r10⟩
    · exact Or.inl ⟨H1, base H2 hk (h1 o (Nat.le_refl _) (by omega))⟩
    · refine Or.inr ⟨k0, k1, t0, t1, P0, P1, sg, pl, r1, r2, ((h2 (o + k0) (by omega) (by omega)).1).trans r3, ((h2 (o + k0) (by omega) (by omega)).2).trans r4, r5, r6, r7, r8, ?_, ?_⟩
      · exact ih r9 (fun i hi => hk i (r7 i hi).1) (fun i a b => h1 i a (by omega)) (fun i a b => h2 i a (by omega))
      · exact ih r10 (fun i hi => hk i (r8 i hi)) (fun i a b => h1 i (by omega) (by omega)) (fun i a b => h2 i (by omega) (by omega))
theorem zo_Sm {LC LM : List (List Int32)} {g : zs_H} : ∀ (f : Nat) {o k : Nat} {t : zt_T} {P Q : Nat → Prop} {lv lv' : Nat}, zo_S LC LM g f o k t P lv → (∀ i, P i → Q i) → lv' ≤ lv → zo_S LC LM g (f + 1) o k t Q lv' := by
  have base : ∀ {o : Nat} {t : zt_T} {P Q : Nat → Prop}, zo_b1 LC LM g o t P → (∀ i, P i → Q i) → zo_b1 LC LM g o t Q := by
    intro o t P Q ⟨a, kd, p, v, l, e1, e2, e3, e4, e5⟩ hPQ
    exact ⟨a, kd, p, v, l, e1, hPQ a e2, e3, e4, zt_Mm hPQ e5⟩
  intro f
  induction f with
  | zero =>
    intro o k t P Q lv lv' H hPQ hl
    exact Or.inl ⟨H.1, base H.2 hPQ⟩
  | succ f ih =>
    intro o k t P Q lv lv' H hPQ hl
    rcases H with ⟨H1, H2⟩ | ⟨k0, k1, t0, t1, P0, P1, sg, pl, r1, r2, r3, r4, r5, r6, r7, r8, r9, r10⟩
    · exact Or.inl ⟨H1, base H2 hPQ⟩
    · exact Or.inr ⟨k0, k1, t0, t1, P0, P1, sg, pl, r1, r2, r3, r4, r5, by omega, fun i hi => ⟨hPQ i (r7 i hi).1, (r7 i hi).2⟩, fun i hi => hPQ i (r8 i hi), ih r9 (fun _ z => z) (Nat.le_refl _), ih r10 (fun _ z => z) (Nat.le_refl _)⟩
theorem zo_St {LC LM : List (List Int32)} {g : zs_H} : ∀ (f : Nat) {o k : Nat} {t : zt_T} {P : Nat → Prop} {lv : Nat}, zo_S LC LM g f o k t P lv → ∃ kd p v l, t = zt_n kd p v l := by
  intro f o k t P lv H
  cases f with
  | zero =>
    obtain ⟨_, a, kd, p, v, l, e, _⟩ := H
    exact ⟨kd, p, v, l, e⟩
  | succ f =>
    rcases H with ⟨_, a, kd, p, v, l, e, _⟩ | ⟨k0, k1, t0, t1, P0, P1, sg, pl, r1, r2, _⟩
    · exact ⟨kd, p, v, l, e⟩
    · exact ⟨35, pl, nI sg, _, r2⟩
theorem zo_Sex {LC LM : List (List Int32)} {g : zs_H} : ∀ (f : Nat) {o k : Nat} {t : zt_T} {P : Nat → Prop} {lv : Nat}, zo_S LC LM g f o k t P lv → ∃ a, P a := by
  intro f
  induction f with
  | zero =>
    intro o k t P lv H
    obtain ⟨_, a, kd, p, v, l, e, e2, _⟩ := H
    exact ⟨a, e2⟩
  | succ f ih =>
    intro o k t P lv H
    rcases H with ⟨_, a, kd, p, v, l, e, e2, _⟩ | ⟨k0, k1, t0, t1, P0, P1, sg, pl, r1, r2, r3, r4, r5, r6, r7, r8, r9, r10⟩
    · exact ⟨a, e2⟩
    · obtain ⟨a, ha⟩ := ih r10
      exact ⟨a, r8 a ha⟩
theorem zo_Sne {LC LM : List (List Int32)} {g : zs_H} {m m' : Nat} : ∀ (f : Nat) {o k : Nat} {t : zt_T} {lv : Nat}, zo_S LC LM g f o k t (fun i => m ≤ i ∧ i < m') lv → m < m' + k := by
  intro f o k t lv H
  cases f with
  | zero =>
    obtain ⟨_, a, kd, p, v, l, e, e2, _⟩ := H
    omega
  | succ f =>
    rcases H with ⟨_, a, kd, p, v, l, e, e2, _⟩ | ⟨k0, k1, t0, t1, P0, P1, sg, pl, r1, r2, r3, r4, r5, r6, r7, r8, r9, r10⟩
    · omega
    · obtain ⟨a, ha⟩ := zo_Sex f r10
      have := r8 a ha
      omega
/-- all the signs are as close as lv, at least -/
theorem zo_Sl {LC LM : List (List Int32)} {g : zs_H} : ∀ (f : Nat) {o k : Nat} {t : zt_T} {P : Nat → Prop} {lv : Nat}, zo_S LC LM g f o k t P lv → ∀ i, i < k → ∃ sg, sg < 14 ∧ (g.2.1 82) (o + i) = nI sg ∧ lv ≤ zo_lv sg := by
  intro f
  induction f with
  | zero => intro o k t P lv H i hi; have := H.1; omega
  | succ f ih =>
    intro o k t P lv H i hi
    rcases H with ⟨H1, H2⟩ | ⟨k0, k1, t0, t1, P0, P1, sg, pl, r1, r2, r3, r4, r5, r6, r7, r8, r9, r10⟩
    · omega
    · by_cases c : i < k0
      · obtain ⟨x, x1, x2, x3⟩ := ih r9 i c
        exact ⟨x, x1, x2, by omega⟩
      · by_cases c2 : i = k0
        · exact ⟨sg, r5, by rw [c2]; exact r3, r6⟩
        · obtain ⟨x, x1, x2, x3⟩ := ih r10 (i - k0 - 1) (by omega)
          exact ⟨x, x1, by rw [← show o + k0 + 1 + (i - k0 - 1) = o + i by omega]; exact x2, by omega⟩
/-- where it is cut -/
theorem zo_cut {r : zs_H → Int32 → Int32 → Option (Int32 × zs_H)} {g : zs_H} {o k c cl : Nat} (hk : o + k < 200) (hc : c < k) (hg : ∀ i, i < k → ∃ sg, sg < 14 ∧ (g.2.1 82) (o + i) = nI sg ∧ (i < c → cl ≤ zo_lv sg) ∧ (i = c → zo_lv sg = cl) ∧ (c < i → cl < zo_lv sg)) : ∀ (w i N : Nat) {x : Int32}, i + w = k → w < N → (i = 0 → x = -1) → (0 < i → ∃ b, b < i ∧ x = nI (o + b) ∧ (i ≤ c → b < c) ∧ (c < i → b = c)) → f_Mo_split_L5 r N g (nI o) (nI (o + k)) x (nI (o + i)) = f_Mo_split_5 r (fun _ _ _ _ _ => none) g (nI o) (nI (o + k)) (nI (o + c)) (nI (o + k)) := by
  intro w
  induction w with
  | zero =>
    intro i N x hi hN h1 h2
    obtain ⟨N, rfl⟩ : ∃ z, N = z + 1 := ⟨N - 1, by omega⟩
    obtain ⟨b, b1, b2, b3, b4⟩ := h2 (by omega)
    have e : b = c := b4 (by omega)
    rw [b2, e, show i = k by omega]
    show f_Mo_split_5 r _ g (nI o) (nI (o + k)) (nI (o + c)) (nI (o + k)) = _
    unfold f_Mo_split_5
    rw [if_pos (Int32.le_refl _), if_pos (Int32.le_refl _)]
  | succ w ih =>
    intro i N x hi hN h1 h2
    obtain ⟨N, rfl⟩ : ∃ z, N = z + 1 := ⟨N - 1, by omega⟩
    show f_Mo_split_5 r (f_Mo_split_L5 r N) g (nI o) (nI (o + k)) x (nI (o + i)) = _
    have hgo : ∀ x', (∃ b, b < i + 1 ∧ x' = nI (o + b) ∧ (i + 1 ≤ c → b < c) ∧ (c < i + 1 → b = c)) → f_Mo_split_43 r (f_Mo_split_L5 r N) g (nI o) (nI (o + k)) (nI (o + i)) x' = f_Mo_split_5 r (fun _ _ _ _ _ => none) g (nI o) (nI (o + k)) (nI (o + c)) (nI (o + k)) := by
      intro x' hx'
      unfold f_Mo_split_43
      rw [nI_1]
      exact ih (i + 1) N (by omega) (by omega) (fun z => by omega) (fun _ => hx')
    obtain ⟨sg, s1, s2, s3, s4, s5⟩ := hg i (by omega)
    rw [show f_Mo_split_5 r (f_Mo_split_L5 r N) g (nI o) (nI (o + k)) x (nI (o + i)) = (if x < 0 then f_Mo_split_37 r (f_Mo_split_L5 r N) g (nI o) (nI (o + k)) (nI (o + i)) else (if zd_in (nI (o + i)) 200 then (if zd_in x 200 then (if (f_Mo_closeness (g.2.1 82 x.toNatClampNeg)) < (f_Mo_closeness (g.2.1 82 (nI (o + i)).toNatClampNeg)) then f_Mo_split_43 r (f_Mo_split_L5 r N) g (nI o) (nI (o + k)) (nI (o + i)) x else f_Mo_split_37 r (f_Mo_split_L5 r N) g (nI o) (nI (o + k)) (nI (o + i))) else none) else none)) from if_neg (mt (nI_leI (by omega) (by omega)).mp (by omega))]
    unfold f_Mo_split_37
    by_cases i0 : i = 0
    · rw [h1 i0, if_pos (by decide)]
      exact hgo _ ⟨i, by omega, rfl, fun z => by omega, fun z => by omega⟩
    · obtain ⟨b, b1, b2, b3, b4⟩ := h2 (by omega)
      obtain ⟨sb, t1, t2, t3, t4, t5⟩ := hg b (by omega)
      rw [b2, if_neg (mt (zc_tl (k := 0) (by decide) (by omega)).mp (by omega)), if_pos (zi_in (by omega) (by omega)), if_pos (zi_in (by omega) (by omega)), nI_clamp (by omega), nI_clamp (by omega), s2, t2, zo_cl _ s1, zo_cl _ t1]
      have l1 := zo_l6 sg
      have l2 := zo_l6 sb
      by_cases cc : zo_lv sb + 1 < zo_lv sg + 1
      · rw [if_pos ((nI_ltI (by omega) (by omega)).mpr cc)]
        refine hgo _ ⟨b, by omega, rfl, fun z => ?_, fun z => ?_⟩
        · exact b3 (by omega)
        · by_cases e1 : i = c
          · have := s4 e1; have := t3 (b3 (by omega)); omega
          · exact b4 (by omega)
      · rw [if_neg (mt (nI_ltI (by omega) (by omega)).mp cc)]
        refine hgo _ ⟨i, by omega, rfl, fun z => by omega, fun z => ?_⟩
        by_cases e1 : i = c
        · exact e1
        · have h3 := s5 (by omega)
          have h4 := t4 (b4 (by omega))
          omega
theorem zo_split_s (d : Nat) : f_Mo_split (d + 1) = g_Mo_split (f_Mo_split d) := by
  unfold f_Mo_split zy_Mo_split
  rw [zd_it]
/-- a node is hung: what stays -/
theorem zo_ks_H {a b : Nat} {g g' : zs_H} {P : Nat → Prop} (H : zx_H a b g g') (h1 : ∀ i, P i → ¬ i = a ∧ ¬ i = b) (h2 : ∀ i, P i → (g.2.1 77) b = nI i → (g.2.1 76) b = -1) : zo_ks P g g' := by
  obtain ⟨H1, H2, H3, H4⟩ := H
  intro i hi
  obtain ⟨i1, i2⟩ := h1 i hi
  refine ⟨congrFun (H4.2.1 _ (by decide)) i, congrFun (H4.2.1 _ (by decide)) i, congrFun (H4.2.1 _ (by decide)) i, by rw [H1, if_neg i1], ?_, by rw [H2, if_neg i2], ?_⟩
  · rcases H3 with ⟨e1, e2, e3⟩ | ⟨e1, e2, c, c1, c2, e3⟩
    · rw [e2, if_neg i2]
    · exact e2 i
  · rcases H3 with ⟨e1, e2, e3⟩ | ⟨e1, e2, c, c1, c2, e3⟩
    · exact e3 i
    · rw [e3]
      by_cases z : i = c
      · exact absurd (h2 i hi (by rw [z]; exact c2)) e1
      · rw [if_neg z]
/-- the 7 arrays of nodes -/
abbrev zo_nd : List Nat := [72, 73, 74, 75, 76, 77, 78]
/-- what a split leaves -/
def zo_R (LC LM : List (List Int32)) (m k : Nat) (t : zt_T) (P : Nat → Prop) (g : zs_H) (a : Nat) (g' : zs_H) : Prop := (P a ∨ (m ≤ a ∧ a < m + k)) ∧ (g'.1 68 14) = nI (m + k) ∧ zx_W g' (m + k) ∧ zt_M LC LM g' t (fun i => P i ∨ (m ≤ i ∧ i < m + k)) (-1) (nI a) (nI a) ∧ zo_ks (fun i => i < m ∧ ¬ P i) g g' ∧ zfr [(68, 14)] zo_nd [] g g'
theorem zo_split {LC LM : List (List Int32)} : ∀ (f : Nat) {g : zs_H} {o k : Nat} {t : zt_T} {P : Nat → Prop} {lv m F : Nat}, zo_S LC LM g f o k t P lv → (∀ i, P i → i < m) → (g.1 68 14) = nI m → zx_W g m → m + k ≤ 33500 → o + k < 200 → f + 1 ≤ F → ∃ a g', f_Mo_split F g (nI o) (nI (o + k)) = some (nI a, g') ∧ zo_R LC LM m k t P g a g' := by
  have base : ∀ {g : zs_H} {o : Nat} {t : zt_T} {P : Nat → Prop} {m F : Nat}, zo_b1 LC LM g o t P → (∀ i, P i → i < m) → (g.1 68 14) = nI m → zx_W g m → o < 200 → 1 ≤ F → ∃ a g', f_Mo_split F g (nI o) (nI (o + 0)) = some (nI a, g') ∧ zo_R LC LM m 0 t P g a g' := by
    intro g o t P m F ⟨a, kd, p, v, l, e1, e2, e3, e4, e5⟩ hP hm hW ho hF
    obtain ⟨F, rfl⟩ : ∃ z, F = z + 1 := ⟨F - 1, by omega⟩
    refine ⟨a, g, ?_, Or.inl e2, hm, hW, zt_Mm (fun i hi => Or.inl hi) e5, fun i _ => ⟨rfl, rfl, rfl, rfl, rfl, rfl, rfl⟩, zfr_rfl⟩
    rw [zo_split_s, g_Mo_split, zF_9]
    show f_Mo_split_5 _ (f_Mo_split_L5 _ (18446744073709551607 + 8)) g (nI o) (nI o) (-1) (nI o) = _
    unfold f_Mo_split_5
    rw [if_pos (Int32.le_refl _), if_neg (by decide), if_pos (zi_in (by omega) (by omega)), nI_clamp (by omega), e4]
  intro f
  induction f with
  | zero =>
    intro g o k t P lv m F H hP hm hW hk ho hF
    obtain ⟨rfl, H⟩ := H
    exact base H hP hm hW ho hF
  | succ f ih =>
    intro g o k t P lv m F H hP hm hW hk ho hF
    have HSl := zo_Sl (f + 1) H
    rcases H with ⟨rfl, H⟩ | ⟨k0, k1, t0, t1, P0, P1, sg, pl, r1, r2, r3, r4, r5, r6, r7, r8, r9, r10⟩
    · exact base H hP hm hW ho (by omega)
    · obtain ⟨F, rfl⟩ : ∃ z, F = z + 1 := ⟨F - 1, by omega⟩
      have S0 := zo_Sl f r9
      have S1 := zo_Sl f r10
      have hcut := zo_cut (r := f_Mo_split F) (g := g) (o := o) (k := k) (c := k0) (cl := zo_lv sg) ho (by omega) (fun i hi => by
        by_cases c1 : i < k0
        · obtain ⟨x, x1, x2, x3⟩ := S0 i c1
          exact ⟨x, x1, x2, fun _ => x3, fun z => by omega, fun z => by omega⟩
        · by_cases c2 : i = k0
          · exact ⟨sg, r5, by rw [c2]; exact r3, fun z => by omega, fun _ => rfl, fun z => by omega⟩
          · obtain ⟨x, x1, x2, x3⟩ := S1 (i - k0 - 1) (by omega)
            exact ⟨x, x1, by rw [← show o + k0 + 1 + (i - k0 - 1) = o + i by omega]; exact x2, fun z => by omega, fun z => by omega, fun _ => by omega⟩) k 0 zF (x := -1) (by omega) (by have := zF_big; omega) (fun _ => rfl) (fun z => by omega)
      -- the node, and what is split to its left
      obtain ⟨g1, e1, q1⟩ := zx_node (g := g) (m := m) (kd := 35) (kn := 35) (p := pl) (v := nI sg) hm (by omega) rfl
      have W1 := zx_W_N hW q1
      have ka1 := zx_ka_N q1
      obtain ⟨q1a, q1b, q1c, q1d, q1e, q1f, q1g, q1h, q1i⟩ := q1
      have ks1 : ∀ Q : Nat → Prop, (∀ i, Q i → i < m) → zo_ks Q g g1 := fun Q hQ i hi => ka1 i (hQ i hi)
      have pf1 : ∀ i, (g1.2.1 81) i = (g.2.1 81) i ∧ (g1.2.1 82) i = (g.2.1 82) i ∧ (g1.2.1 83) i = (g.2.1 83) i := fun i => zo_fr_f (o := i + 1) q1i (by decide) (by decide) (by decide) i (by omega)
      have A0 := zo_Sk (g' := g1) (List.prefix_refl LM) f r9 (ks1 P0 (fun i hi => hP i (r7 i hi).1)) (fun i _ _ => (pf1 i).1) (fun i _ _ => (pf1 i).2)
      obtain ⟨a0, g2, e2, b0, b1, b2, b3, b4, b5⟩ := ih (m := m + 1) (F := F) A0 (fun i hi => by have := hP i (r7 i hi).1; omega) q1a W1 (by omega) (by omega) (by omega)
      have pf2 : ∀ i, (g2.2.1 81) i = (g1.2.1 81) i ∧ (g2.2.1 82) i = (g1.2.1 82) i ∧ (g2.2.1 83) i = (g1.2.1 83) i := fun i => zo_fr_f (o := i + 1) b5 (by decide) (by decide) (by decide) i (by omega)
      have ha0 : a0 < m + 1 + k0 := by
        rcases b0 with z | z
        · have := hP a0 (r7 a0 z).1; omega
        · omega
      have ha0m : ¬ a0 = m := by
        rcases b0 with z | z
        · have := hP a0 (r7 a0 z).1; omega
        · omega
      obtain ⟨g3, e3, c1, c2⟩ := zx_hang (g := g2) (m := m + 1 + k0) (a := a0) (b := m) (by omega) ha0 (by omega) b2
      obtain ⟨n1, n2, n3, n4, n5, n6, n7⟩ := b4 m ⟨by omega, fun z => by have := hP m (r7 m z).1; omega⟩
      have hfm : (g2.2.1 76) m = -1 := by rw [n5, q1f, if_pos rfl]
      have pf3 : ∀ i, (g3.2.1 81) i = (g2.2.1 81) i ∧ (g3.2.1 82) i = (g2.2.1 82) i ∧ (g3.2.1 83) i = (g2.2.1 83) i := fun i => zo_fr_f (o := i + 1) c1.2.2.2 (by decide) (by decide) (by decide) i (by omega)
      obtain ⟨t0k, t0p, t0v, t0l, et0⟩ : ∃ kd p v l, t0 = zt_n kd p v l := zo_St f r9
      subst et0
      obtain ⟨x1, x2, x3, x4, x5, Q0, x6, x7⟩ := zo_root (by omega) b3
      have H3 := zx_hangM (P := fun _ => False) (t := .leaf) (b := m) (by omega) c1 ⟨hfm, by rw [n6, q1g, if_pos rfl]⟩ x1 x3 x7 (fun i z => z.elim) (fun z => z) (fun z => by
        rcases (x6 m z).1 with y | y
        · have := hP m (r7 m y).1; omega
        · omega) ha0m (fun z => (x6 a0 z).2 rfl)
      -- what is split to its right
      have ks3 : ∀ Q : Nat → Prop, (∀ i, Q i → i < m ∧ ¬ P0 i) → zo_ks Q g2 g3 := by
        intro Q hQ
        refine zo_ks_H c1 (fun i hi => ⟨fun z => ?_, by have := (hQ i hi).1; omega⟩) (fun i _ _ => hfm)
        rcases b0 with y | y
        · exact (hQ i hi).2 (z ▸ y)
        · have := (hQ i hi).1; omega
      have ks13 : ∀ Q : Nat → Prop, (∀ i, Q i → i < m ∧ ¬ P0 i) → zo_ks Q g g3 := fun Q hQ => zo_ks_t (ks1 Q (fun i hi => (hQ i hi).1)) (zo_ks_t (P := Q) (fun i hi => b4 i ⟨by have := (hQ i hi).1; omega, (hQ i hi).2⟩) (ks3 Q hQ) (fun _ z => z)) (fun _ z => z)
      have hP1 : ∀ i, P1 i → i < m ∧ ¬ P0 i := fun i hi => ⟨hP i (r8 i hi), fun z => (r7 i z).2 hi⟩
      have A1 := zo_Sk (g' := g3) (List.prefix_refl LM) f r10 (ks13 P1 hP1) (fun i _ _ => by rw [(pf3 i).1, (pf2 i).1, (pf1 i).1]) (fun i _ _ => ⟨by rw [(pf3 i).2.1, (pf2 i).2.1, (pf1 i).2.1], by rw [(pf3 i).2.2, (pf2 i).2.2, (pf1 i).2.2]⟩)
      have hm3 : (g3.1 68 14) = nI (m + 1 + k0) := (c1.2.2.2.1 _ _ (by decide)).trans b1
      obtain ⟨a1, g4, e4, d0, d1, d2, d3, d4, d5⟩ := ih (m := m + 1 + k0) (F := F) A1 (fun i hi => by have := (hP1 i hi).1; omega) hm3 c2 (by omega) (by omega) (by omega)
      have ha1 : a1 < m + 1 + k0 + k1 := by
        rcases d0 with z | z
        · have := (hP1 a1 z).1; omega
        · omega
      have hP1n : ∀ i, (m ≤ i ∧ i < m + 1 + k0) → ¬ P1 i := fun i hi z => by have := (hP1 i z).1; omega
      have ha1m : ¬ a1 = m := by
        rcases d0 with z | z
        · have := (hP1 a1 z).1; omega
        · omega
      obtain ⟨g5, e5, f1, f2⟩ := zx_hang (g := g4) (m := m + 1 + k0 + k1) (a := a1) (b := m) (by omega) ha1 (by omega) d2
      obtain ⟨t1k, t1p, t1v, t1l, et1⟩ : ∃ kd p v l, t1 = zt_n kd p v l := zo_St f r10
      subst et1
      obtain ⟨y1, y2, y3, y4, y5, Q1, y6, y7⟩ := zo_root (by omega) d3
      -- the left one, below the node, in g4
      have hL : ∀ i, (False ∨ i = a0 ∨ Q0 i) → (P0 i ∨ (m + 1 ≤ i ∧ i < m + 1 + k0)) := by
        intro i hi
        rcases hi with z | z | z
        · exact z.elim
        · rw [z]; exact b0
        · exact (x6 i z).1
      have hLn : ∀ i, (False ∨ i = a0 ∨ Q0 i) → i < m + 1 + k0 ∧ ¬ P1 i := by
        intro i hi
        rcases hL i hi with z | z
        · have := hP i (r7 i z).1; exact ⟨by omega, (r7 i z).2⟩
        · exact ⟨by omega, hP1n i ⟨by omega, by omega⟩⟩
      obtain ⟨u1, u2, u3, u4, u5, u6, u7⟩ := d4 m ⟨by omega, hP1n m ⟨by omega, by omega⟩⟩
      have H4 := zo_Mk (List.prefix_refl LM) (g' := g4) (fun i hi => d4 i (hLn i hi)) H3
      rw [← u5, ← u6] at H4
      have H5 := zx_hangM (b := m) (by omega) f1 H4 y1 y3 y7 (fun i hi => by
        have hn := hLn i hi
        refine ⟨fun z => ?_, fun z => ?_⟩
        · rcases (y6 i z).1 with w | w
          · exact hn.2 w
          · omega
        · rcases d0 with w | w
          · exact hn.2 (z ▸ w)
          · omega) (fun z => by
        rcases hL m z with w | w
        · have := hP m (r7 m w).1; omega
        · omega) (fun z => by
        rcases (y6 m z).1 with w | w
        · exact hP1n m ⟨by omega, by omega⟩ w
        · omega) ha1m (fun z => (y6 a1 z).2 rfl)
      refine ⟨m, g5, ?_, Or.inr ⟨by omega, by omega⟩, ?_, ?_, ?_, ?_, ?_⟩
      · rw [zo_split_s, g_Mo_split]
        rw [show f_Mo_split_L5 (f_Mo_split F) zF g (nI o) (nI (o + k)) (-1) (nI o) = _ from hcut]
        unfold f_Mo_split_5
        rw [if_pos (Int32.le_refl _), if_pos (show (0 : Int32) ≤ nI (o + k0) from (zc_le (k := 0) (by decide) (by omega)).mpr (by omega)), if_pos (zi_in (by omega) (by omega)), nI_clamp (by omega), r3, r4, e1, zo_B, e2, zo_B, e3, Option.bind_some, nI_1, show nI (o + k) = nI (o + k0 + 1 + k1) by rw [r1]; congr 1; omega, e4, zo_B, e5]
        rfl
      · rw [f1.2.2.2.1 _ _ (by decide), d1]; congr 1; omega
      · rw [show m + k = m + 1 + k0 + k1 by omega]; exact f2
      · rw [r2]
        obtain ⟨H41, H42, H43, H44⟩ := f1
        obtain ⟨C1, C2, C3, C4⟩ := c1
        refine zo_mk (P1 := fun i => (False ∨ i = a0 ∨ Q0 i) ∨ i = a1 ∨ Q1 i) (by omega) ⟨?_, fun _ => ?_, ?_⟩ ?_ ?_ (Or.inr ⟨by omega, by omega⟩) (fun i hi => ?_) H5
        · rw [H44.2.1 _ (by decide), u1, C4.2.1 _ (by decide), n1, q1b, if_pos rfl]; rfl
        · rw [H44.2.1 _ (by decide), u2, C4.2.1 _ (by decide), n2, q1c, if_pos rfl]
        · rw [if_neg (by decide), H44.2.1 _ (by decide), u3, C4.2.1 _ (by decide), n3, q1d, if_pos rfl]
        · rw [H41, if_neg (fun z => ha1m z.symm), u4, C1, if_neg (fun z => ha0m z.symm), n4, q1e, if_pos rfl]
        · have hb3 : (g3.2.1 78) m = -1 := by
            rcases C3 with ⟨w1, w2, w3⟩ | ⟨w1, _⟩
            · rw [w3, n7, q1h, if_pos rfl]
            · exact absurd hfm w1
          have hb4 : (g4.2.1 78) m = -1 := u7.trans hb3
          rcases H43 with ⟨w1, w2, w3⟩ | ⟨w1, w2, c, w3, w4, w5⟩
          · rw [w3, hb4]
          · rw [w5]
            have hl4 : (g4.2.1 77) m = nI a0 := by rw [u6, C2, if_pos rfl]
            have : c = a0 := (nI_eq (by omega) (by omega)).mp (w4.symm.trans hl4)
            rw [if_neg (fun z => ha0m (by rw [← this, ← z])), hb4]
        · rcases hi with z | z | z
          · rcases hL i z with w | w
            · exact ⟨Or.inl (r7 i w).1, fun q => by have := hP i (r7 i w).1; omega⟩
            · exact ⟨Or.inr ⟨by omega, by omega⟩, by omega⟩
          · rw [z]
            rcases d0 with w | w
            · exact ⟨Or.inl (r8 a1 w), ha1m⟩
            · exact ⟨Or.inr ⟨by omega, by omega⟩, ha1m⟩
          · rcases (y6 i z).1 with w | w
            · exact ⟨Or.inl (r8 i w), fun q => by have := (hP1 i w).1; omega⟩
            · exact ⟨Or.inr ⟨by omega, by omega⟩, by omega⟩
      · have hn : ∀ i, (i < m ∧ ¬ P i) → (i < m ∧ ¬ P0 i) := fun i hi => ⟨hi.1, fun z => hi.2 (r7 i z).1⟩
        refine zo_ks_t (ks13 _ hn) (zo_ks_t (P := fun i => i < m ∧ ¬ P i) (fun i hi => d4 i ⟨by have := hi.1; omega, fun z => hi.2 (r8 i z)⟩) (zo_ks_H (P := fun i => i < m ∧ ¬ P i) f1 (fun i hi => ⟨fun z => ?_, by have := hi.1; omega⟩) (fun i hi z => ?_)) (fun _ z => z)) (fun _ z => z)
        · rcases d0 with w | w
          · exact hi.2 (z ▸ r8 a1 w)
          · have := hi.1; omega
        · exfalso
          have hl4 : (g4.2.1 77) m = nI a0 := by rw [u6, c1.2.1, if_pos rfl]
          have : i = a0 := (nI_eq (by have := hi.1; omega) (by omega)).mp (z.symm.trans hl4)
          rcases b0 with w | w
          · exact hi.2 (this ▸ (r7 a0 w).1)
          · have := hi.1; omega
      · exact zfr_trans (zfr_trans (zfr_trans q1i b5) (zfr_w c1.2.2.2 (by decide) (by decide) (by decide))) (zfr_trans d5 (zfr_w f1.2.2.2 (by decide) (by decide) (by decide)))
end
section
/-! Both readers in step: open tokens, signs between operands, operands. -/
theorem zo_lvT : ∀ sg, sg < 14 → zt_0.getD sg 0 = nI (zo_lv sg) := by decide +kernel
def zo_sgw (v : Nat) : Int32 := if nI v = 30 then 0 else if nI v = 31 then 1 else if nI v = 32 then 2 else if nI v = 33 then 13 else -1
def zo_sgs (v : Nat) : Int32 := if nI v = 38 then 2 else if nI v = 61 then 3 else if nI v = 260 then 4 else if nI v = 60 then 5 else if nI v = 62 then 6 else if nI v = 258 then 7 else if nI v = 259 then 8 else if nI v = 43 then 9 else if nI v = 45 then 10 else if nI v = 42 then 11 else if nI v = 47 then 12 else -1
def zo_opc (c : Nat) : Int32 := if nI c = 3 then 7 else if nI c = 4 then 8 else if nI c = 5 then 4 else if nI c = 38 then 2 else if nI c = 42 then 11 else if nI c = 43 then 9 else if nI c = 45 then 10 else if nI c = 47 then 12 else if nI c = 60 then 5 else if nI c = 61 then 3 else if nI c = 62 then 6 else if nI c = 158 then 0 else if nI c = 159 then 1 else if nI c = 160 then 2 else if nI c = 161 then 13 else -1
theorem zo_ow : ∀ v, v < 41 → zo_opc (128 + v) = zo_sgw v := by decide +kernel
theorem zo_os : ∀ v ∈ [40, 41, 91, 93, 44, 59, 58, 46, 43, 45, 42, 47, 61, 60, 62, 38, 124], zo_opc v = zo_sgs v := by decide +kernel
theorem zo_o2 : ∀ v ∈ [256, 257, 258, 259, 260], zo_opc (v - 255) = zo_sgs v := by decide +kernel
theorem zo_o0 : zo_opc 6 = -1 ∧ zo_opc 8 = -1 ∧ zo_opc 9 = -1 ∧ zo_opc 10 = -1 ∧ zo_opc 7 = -1 := by decide +kernel
theorem zo_or : ∀ c, c < 200 → zo_opc c = -1 ∨ ∃ sg, sg < 14 ∧ zo_opc c = nI sg := by decide +kernel
section ZM
variable {h0 g0 h g : zs_H} {T : Nat → Int32} {n K : Nat} {LC LM : List (List Int32)} {j d s m o q : Nat}
theorem zk_oper (H : zk_L h0 g0 T n K LC h g LM j d s m o q) : f_Mo_signAt g = f_Ps_operator h := by
  have hF := zk_F H
  have hD := zl_ckD hF
  have m2 := H.2.2.2.2.2.2.1
  have m6 := H.2.2.2.2.2.2.2.2.2.2.1
  have m8 := H.2.2.2.2.2.2.2.2.2.2.2.2.1
  have htk := H.2.2.2.1.2.2.1
  have ec : f_Ps_operator h = zo_opc (zl_ck (zl_at T n j)) := by
    unfold f_Ps_operator zo_opc
    rw [htk]
  have em : f_Mo_signAt g = if (g.1 68 6) = 2 then (if (g.1 68 9) = 30 then 0 else if (g.1 68 9) = 31 then 1 else if (g.1 68 9) = 32 then 2 else if (g.1 68 9) = 33 then 13 else -1) else (if (g.1 68 6) = 5 then (if (g.1 68 9) = 38 then 2 else if (g.1 68 9) = 61 then 3 else if (g.1 68 9) = 260 then 4 else if (g.1 68 9) = 60 then 5 else if (g.1 68 9) = 62 then 6 else if (g.1 68 9) = 258 then 7 else if (g.1 68 9) = 259 then 8 else if (g.1 68 9) = 43 then 9 else if (g.1 68 9) = 45 then 10 else if (g.1 68 9) = 42 then 11 else if (g.1 68 9) = 47 then 12 else -1) else -1) := by
    unfold f_Mo_signAt
    rw [if_pos (show (g.1 68 10) ≤ 0 by rw [m2]; decide)]
  rw [ec, em, m6]
  rcases hD with ⟨a, b⟩ | ⟨a, b⟩ | ⟨a, b, c⟩ | ⟨a, b⟩ | ⟨a, b⟩ | ⟨a, b⟩ | ⟨a, b, c, e⟩ | ⟨a, b, c⟩
  · rw [a, b, if_neg (by decide), if_neg (by decide)]; exact zo_o0.1.symm
  · rw [a, b, if_neg (by decide), if_neg (by decide)]; exact zo_o0.2.1.symm
  · rw [a, b, if_pos (by decide), m8 (by omega) (by omega)]; exact (zo_ow _ c).symm
  · rw [a, b, if_neg (by decide), if_neg (by decide)]; exact zo_o0.2.2.1.symm
  · rw [a, b, if_neg (by decide), if_neg (by decide)]; exact zo_o0.2.2.2.1.symm
  · rw [a, b, if_neg (by decide), if_neg (by decide)]; exact zo_o0.2.2.2.2.symm
  · rw [a, e, if_neg (by decide), if_pos (by decide), m8 (by omega) (by omega)]
    exact (zo_o2 _ (by simp only [List.mem_cons, List.not_mem_nil, or_false]; omega)).symm
  · rw [a, c, if_neg (by decide), if_pos (by decide), m8 (by omega) (by omega)]
    exact (zo_os _ b).symm
theorem zk_opr (H : zk_L h0 g0 T n K LC h g LM j d s m o q) : f_Ps_operator h = -1 ∨ ∃ sg, sg < 14 ∧ f_Ps_operator h = nI sg ∧ ¬ (h.1 19 5) = 6 := by
  have htk := H.2.2.2.1.2.2.1
  have hlt := (zl_ckA (zk_F H)).2.2.2.2.2.2.2.2.1
  have ec : f_Ps_operator h = zo_opc (zl_ck (zl_at T n j)) := by
    unfold f_Ps_operator zo_opc
    rw [htk]
  rcases zo_or _ hlt with z | ⟨sg, z1, z2⟩
  · exact Or.inl (ec.trans z)
  · refine Or.inr ⟨sg, z1, ec.trans z2, fun z => ?_⟩
    rw [htk] at z
    have := (zc_eq (k := 6) (by decide) (by omega)).mp z
    rw [this, zo_o0.1] at z2
    exact absurd z2.symm (zc_m1 (by omega))
abbrev zo_fs : List (Nat × Nat) := [(68, 12), (68, 13), (68, 14), (68, 25)]
abbrev zo_ms : List Nat := [72, 73, 74, 75, 76, 77, 78, 81, 82, 83]
/-- changes between two tokens -/
theorem zk_hg (H : zk_L h0 g0 T n K LC h g LM j d s m o q) {h' g' : zs_H} {d' m' o' q' : Nat} (fh : zfr [(19, 7)] [] [] h h') (fg : zfr zo_fs zo_ms [] g g') (e1 : (h'.1 19 7) = nI d') (e2 : (g'.1 68 12) = nI d') (hd : d' ≤ 60) (e3 : (g'.1 68 14) = nI m') (hW : zx_W g' m') (e4 : (g'.1 68 25) = nI o') (e5 : (g'.1 68 13) = nI q') : zk_L h0 g0 T n K LC h' g' LM j d' s m' o' q' := by
  obtain ⟨a1, a2, a3, a4, a5, a6⟩ := H
  obtain ⟨c1, c2, c3, c4, c5, c6, c7⟩ := a4
  obtain ⟨m1, m2, m3, m4, m5, m6, m7, m8, m9, m10, m11, m12, m13, m14, m15, m16, m17⟩ := a6
  have ff : zq_f h h' := zfr_w fh (by decide) (by decide) (by decide)
  refine ⟨zfr_trans a1 ff, zfr_trans a2 (zfr_w fg (by decide) (by decide) (by decide)), zq_S_f ff a3, ⟨(fh.1 _ _ (by decide)).trans c1, (fh.1 _ _ (by decide)).trans c2, (fh.1 _ _ (by decide)).trans c3, (fh.1 _ _ (by decide)).trans c4, e1, (fh.1 _ _ (by decide)).trans c6, c7⟩, a5, ⟨(fg.1 _ _ (by decide)).trans m1.1, m1.2.1, fun i hi => ?_⟩, (fg.1 _ _ (by decide)).trans m2, m3, (fg.1 _ _ (by decide)).trans m4, (fg.1 _ _ (by decide)).trans m5, (fg.1 _ _ (by decide)).trans m6, fun z => ⟨(fg.1 _ _ (by decide)).trans (m7 z).1, (m7 z).2⟩, fun z y => (fg.1 _ _ (by decide)).trans (m8 z y), zn_fr fg (by decide) (by decide) (by decide) m9, m10, m11, e2, hd, e3, hW, e4, e5⟩
  rw [fg.2.1 _ (by decide)]; exact m1.2.2 i hi
theorem zk_dd (H : zk_L h0 g0 T n K LC h g LM j d s m o q) : (h.1 19 7) = nI d ∧ (g.1 68 12) = nI d ∧ d ≤ 60 ∧ (g.1 68 14) = nI m ∧ zx_W g m ∧ (g.1 68 25) = nI o ∧ (g.1 68 13) = nI q := by
  obtain ⟨a1, a2, a3, a4, a5, a6⟩ := H
  obtain ⟨m1, m2, m3, m4, m5, m6, m7, m8, m9, m10, m11, m12, m13, m14, m15, m16, m17⟩ := a6
  exact ⟨a4.2.2.2.2.1, m12, m13, m14, m15, m16, m17⟩
/-- the token here is opened -/
theorem zk_deep (H : zk_L h0 g0 T n K LC h g LM j d s m o q) : ∃ h' g', f_Ps_deepen h = some h' ∧ f_Mo_open g = some g' ∧ ((d < 60 ∧ zk_L h0 g0 T n K LC h' g' LM j (d + 1) s m o q ∧ zfr [(19, 7)] [] [] h h' ∧ zfr [(68, 12)] [] [] g g') ∨ zk_B h0 g0 T n K LC m o h' g') := by
  obtain ⟨x1, x2, x3, x4, x5, x6, x7⟩ := zk_dd H
  have m2 := H.2.2.2.2.2.2.1
  have c1 := H.2.2.2.1.1
  unfold f_Ps_deepen f_Mo_open f_Ps_deepen_35 f_Mo_open_26
  rw [x1, x2, if_pos m2]
  by_cases c : d < 60
  · rw [if_pos ((zc_tl (k := 60) (by decide) (by omega)).mpr c), if_neg (fun z => by have := (zc_eq (k := 60) (by decide) (by omega)).mp z; omega), nI_1]
    have fh : zfr [(19, 7)] [] [] h (zs_uF h 19 7 (nI (d + 1))) := zfr_F (by decide) zfr_rfl
    have fg : zfr [(68, 12)] [] [] g (zs_uF g 68 12 (nI (d + 1))) := zfr_F (by decide) zfr_rfl
    exact ⟨_, _, rfl, rfl, Or.inl ⟨c, zk_hg H fh (zfr_w fg (by decide) (by decide) (by decide)) rfl rfl (by omega) x4 x5 x6 x7, fh, fg⟩⟩
  · have e60 : d = 60 := by omega
    rw [if_neg (mt (zc_tl (k := 60) (by decide) (by omega)).mp c), if_pos c1, if_pos (by rw [e60]; rfl)]
    obtain ⟨a1, a2, a3, a4, a5, a6⟩ := H
    obtain ⟨m1, _, m3, m4, m5, m6, m7, m8, m9, m10, m11, m12, m13, m14, m15, m16, m17⟩ := a6
    have hT := a3.2.2.2.2.2.2.2.2.1
    have hbs := zq_bs hT j (fun i hi => a3.2.2.2.1 i (by omega))
    have hkd := zl_tok_kd (n := n) (b := zl_bs T n j) hT hbs
    have hbn : (zl_at T n j).2.2.1 ≤ n := by
      by_cases c0 : (zl_at T n j).1 = 0
      · have := zl_tok_0 (b := zl_bs T n j) c0
        unfold zl_at; omega
      · exact (hkd.2.2.2.1 (fun z => z.elim c0 m3)).2
    have f := zl_ftf (g := g) (w := 7) (a := (zl_at T n j).2.1)
    have e : zl_ft g 7 (zl_at T n j).2.1 = zs_uF (zs_uF g 68 10 7) 68 11 (nI (zl_at T n j).2.1) := if_pos m2
    have ef : f_Mo_fail g 7 ((g.1 68 7)) = some (zl_ft g 7 (zl_at T n j).2.1) := zl_fail m4
    rw [ef, Option.bind_some]
    refine ⟨_, _, rfl, rfl, Or.inr ⟨7, (zl_at T n j).2.1, ?_, ?_⟩⟩
    · have fc : zq_f h (zs_uF (zs_uF (zs_uF (zs_uF h 19 3 7) 19 0 ((h.1 19 6))) 19 5 0) 19 7 ((h.1 19 7) + 1)) := zfr_F (by decide) (zfr_F (by decide) (zfr_F (by decide) (zfr_F (by decide) zfr_rfl)))
      exact ⟨zfr_trans a1 fc, zq_S_f fc a3, Or.inl ⟨rfl, a4.2.2.2.1, rfl, j, a5, a4.2.1⟩, by decide, by decide, s, a4.2.2.2.2.2.1, a4.2.2.2.2.2.2⟩
    · refine zx_uF ?_ (Or.inl rfl)
      refine ⟨zfr_trans a2 (zfr_w f (by decide) (by decide) (by decide)), ⟨(f.1 _ _ (by decide)).trans m1.1, m1.2.1, fun i hi => ?_⟩, a3.2.2.1, hT, by rw [e]; rfl, by rw [e]; rfl, by decide, ⟨LM, (zl_at T n j).2.2.1, zn_fr f (by decide) (by decide) (by decide) m9, (f.1 _ _ (by decide)).trans m5, hbn, m11⟩, (f.1 _ _ (by decide)).trans m14, ?_, o, (f.1 _ _ (by decide)).trans m16, Nat.le_refl o⟩
      · rw [f.2.1 _ (by decide)]; exact m1.2.2 i hi
      · unfold zx_W
        rw [f.2.1 _ (by decide), f.2.1 _ (by decide)]; exact m15
/-- it is closed -/
theorem zk_close (H : zk_L h0 g0 T n K LC h g LM j (d + 1) s m o q) : zk_L h0 g0 T n K LC (zs_uF h 19 7 ((h.1 19 7) - 1)) (zs_uF g 68 12 ((g.1 68 12) - 1)) LM j d s m o q := by
  obtain ⟨x1, x2, x3, x4, x5, x6, x7⟩ := zk_dd H
  have e : nI (d + 1) - 1 = nI d := by rw [show (1 : Int32) = nI 1 from rfl, zi_sub (by omega)]; rfl
  refine zk_hg H (zfr_F (by decide) zfr_rfl) (zfr_F (by decide) zfr_rfl) ?_ ?_ (by omega) x4 x5 x6 x7
  · rw [x1]; exact e
  · rw [x2]; exact e
/-- the model keeps an operand -/
theorem zk_keep (H : zk_L h0 g0 T n K LC h g LM j d s m o q) (ho : o < 200) (x : Int32) : ∃ g', f_Mo_keep g x = some g' ∧ zk_L h0 g0 T n K LC h g' LM j d s m (o + 1) q ∧ (g'.2.1 81) o = x ∧ zo_fr o g g' ∧ zfr [(68, 25)] [81] [] g g' := by
  obtain ⟨x1, x2, x3, x4, x5, x6, x7⟩ := zk_dd H
  unfold f_Mo_keep
  rw [x6, if_pos (zi_in (by omega) ho), nI_clamp (by omega), nI_1]
  have fg : zfr [(68, 25)] [81] [] g (zs_uF (zs_uM g 81 o x) 68 25 (nI (o + 1))) := zfr_F (by decide) (zfr_M (by decide) zfr_rfl)
  have ep : ∀ i, (zs_uF (zs_uM g 81 o x) 68 25 (nI (o + 1))).2.1 81 i = if i = o then x else (g.2.1 81) i := fun i => by simp [zu_FM, zu_MM]
  refine ⟨_, rfl, zk_hg H zfr_rfl (zfr_w fg (by decide) (by decide) (by decide)) x1 x2 x3 x4 x5 rfl x7, by rw [ep, if_pos rfl], fun i hi => ⟨by rw [ep, if_neg (by omega)], rfl, rfl⟩, fg⟩
/-- the model makes a node that hangs nowhere -/
theorem zk_mnode (H : zk_L h0 g0 T n K LC h g LM j d s m o q) {kn : Nat} {kd : Int32} (p v : Int32) (hm : m < 33500) (hk : kd = nI kn) : ∃ g', f_Mo_node g kd p v = some (nI m, g') ∧ zk_L h0 g0 T n K LC h g' LM j d s (m + 1) o q ∧ zx_N m kn p v g g' := by
  obtain ⟨x1, x2, x3, x4, x5, x6, x7⟩ := zk_dd H
  obtain ⟨g', e, q1⟩ := zx_node (p := p) (v := v) x4 hm hk
  have f := q1.2.2.2.2.2.2.2.2
  exact ⟨g', e, zk_hg H zfr_rfl (zfr_w f (by decide) (by decide) (by decide)) x1 ((f.1 _ _ (by decide)).trans x2) x3 q1.1 (zx_W_N x5 q1) ((f.1 _ _ (by decide)).trans x6) ((f.1 _ _ (by decide)).trans x7), q1⟩
end ZM
end
section
/-! Both readers in step: where an expression ends. -/
theorem zx_AP_h {LC LM LM' : List (List Int32)} {g g1 g2 : zs_H} {a b m m' kd : Nat} {p v : Int32} {l : zt_T} {Q : Nat → Prop} (hp : LM <+: LM') (ka : zx_ka m g g1) (hH : zx_H a b g1 g2) (ht : zt_M LC LM' g1 (zt_n kd p v l) Q (-1) (nI a) (nI a)) (hQ : ∀ i, Q i → m ≤ i ∧ i < m') (hb : b < m) (ha : a < 40000) : zx_AP LC LM LM' b m m' (zt_n kd p v l) g g2 := by
  intro P u hP H
  obtain ⟨x1, x2, x3, x4, x5, Q0, x6, x7⟩ := zo_root ha ht
  have ham := hQ a x4
  have f2 := hH.2.2.2
  have hH' := hH
  obtain ⟨H1, H2, H3, H4⟩ := hH'
  obtain ⟨_, _, _, _, k5, k6, _⟩ := ka b hb
  constructor
  · refine zx_kp_t (zx_ka_kp ka hb) ?_
    have hbs : ∀ i, i ≤ b → (g2.2.1 78) i = (g1.2.1 78) i ∧ (i < b → (g2.2.1 76) i = (g1.2.1 76) i) := by
      intro i hi
      rcases H3 with ⟨e3, e4, e5⟩ | ⟨e3, e4, c, c1, c2, e5⟩
      · exact ⟨e5 i, fun z => by rw [e4, if_neg (by omega)]⟩
      · have hc : b < c := by
          rcases zt_last u P _ _ _ H with ⟨_, z, _⟩ | ⟨_, j, _, _, _, j1, j2, j3⟩
          · rw [← k5] at z; exact absurd z e3
          · rw [← k6, c2] at j3
            have := (nI_eq (by omega) (by omega)).mp j3
            have := hP j j1
            omega
        exact ⟨by rw [e5, if_neg (by omega)], fun _ => e4 i⟩
    exact ⟨fun i hi => ⟨congrFun (f2.2.1 _ (by decide)) i, congrFun (f2.2.1 _ (by decide)) i, congrFun (f2.2.1 _ (by decide)) i, by rw [H1, if_neg (by omega)], (hbs i (by omega)).2 hi, by rw [H2, if_neg (by omega)], (hbs i (by omega)).1⟩, congrFun (f2.2.1 _ (by decide)) b, congrFun (f2.2.1 _ (by decide)) b, congrFun (f2.2.1 _ (by decide)) b, by rw [H1, if_neg (by omega)], (hbs b (Nat.le_refl b)).1⟩
  · have H1' := zt_Mk hp ka (fun i hi => (hP i hi).2) H
    rw [← k5, ← k6] at H1'
    have r := zx_hangM ha hH H1' x1 x3 x7 (fun i hi => ⟨fun z => by have := (hQ i (x6 i z).1).1; have := (hP i hi).2; omega, fun z => by have := (hP i hi).2; omega⟩) (fun z => by have := (hP b z).1; omega) (fun z => by have := (hQ b (x6 b z).1).1; omega) (by omega) (fun z => (x6 a z).2 rfl)
    refine zt_Mm (fun i hi => ?_) r
    rcases hi with z | z | z
    · exact Or.inl z
    · exact Or.inr (by rw [z]; exact ham)
    · exact Or.inr (hQ i (x6 i z).1)
abbrev zg_E : List Nat := [6, 30, 31, 32, 33, 34, 35, 36]
section ZN
variable (h0 g0 : zs_H) (T : Nat → Int32) (n K : Nat) (LC : List (List Int32))
/-- operands and signs have been read: k signs that bind at least as close as lv -/
def zk_X (LM : List (List Int32)) (j d s m o q lv k : Nat) (h g : zs_H) (x : Int32) (h' g' : zs_H) : Prop := ∃ (t : zt_T) (LM' : List (List Int32)) (j' d' s' m' a : Nat), (zg_T zg_E ((60 - d) + (d' - d) + 2) t ∧ zg_c t = 0) ∧ LM <+: LM' ∧ zk_L h0 g0 T n K LC h' g' LM' j' d' s' m' (o + k + 1) q ∧ (j < j' ∧ d + k ≤ d' ∧ s < s' ∧ s' ≤ s + 2 * (j' - j) ∧ m ≤ m' ∧ m' + k ≤ m + 2 * (j' - j)) ∧ (x = nI a ∧ s ≤ a ∧ a < s') ∧ zt_C h' t (fun i => s ≤ i ∧ i < s') (nI a) (nI a) ∧ zq_kp s h h' ∧ zo_S LC LM' g' k o k t (fun i => m ≤ i ∧ i < m') lv ∧ zx_ka m g g' ∧ zo_fr o g g'
/-- an expression has been read, in the model below b -/
def zk_E (LM : List (List Int32)) (j d s m o q b : Nat) (h g : zs_H) (x : Int32) (h' g' : zs_H) : Prop := ∃ (t : zt_T) (LM' : List (List Int32)) (j' d' s' m' a : Nat), (zg_T zg_E ((60 - d) + (d' - d) + 2) t ∧ zg_c t = 0) ∧ LM <+: LM' ∧ zk_L h0 g0 T n K LC h' g' LM' j' d' s' m' o q ∧ (j < j' ∧ d ≤ d' ∧ s < s' ∧ s' ≤ s + 2 * (j' - j) ∧ m < m' ∧ m' ≤ m + 2 * (j' - j)) ∧ (x = nI a ∧ s ≤ a ∧ a < s') ∧ zt_C h' t (fun i => s ≤ i ∧ i < s') (nI a) (nI a) ∧ zq_kp s h h' ∧ zx_AP LC LM LM' b m m' t g g' ∧ zo_fr o g g'
end ZN
section ZN2
variable {h0 g0 h g : zs_H} {T : Nat → Int32} {n K : Nat} {LC LM : List (List Int32)} {j d s m o q : Nat}
/-- the model hangs what it has split; df: how many are open behind it -/
theorem zk_xend {h1 g1 : zs_H} {LM' : List (List Int32)} {j' d' s' m' k b lv df : Nat} {t : zt_T} {y0 : Int32} (L : zk_L h0 g0 T n K LC h1 g1 LM' j' d' s' m' (o + k + 1) (q + 1)) (hp : LM <+: LM') (hS : zo_S LC LM' g1 k o k t (fun i => m ≤ i ∧ i < m') lv) (ka : zx_ka m g g1) (fr : zo_fr o g g1) (hmm : m ≤ m') (hm : m' + k ≤ 33500) (hok : o + k < 200) (hk : k < 300) (hb : b < m) (hq2 : q < 1000) (hy : y0 = nI df) : ∃ g2, f_Mo_expression_118 (zs_uF g1 68 13 (nI q)) (nI b) (nI o) y0 = some g2 ∧ zx_AP LC LM LM' b m (m' + k) t g g2 ∧ zo_fr o g g2 ∧ (∀ h2, zfr [(19, 7)] [] [] h1 h2 → (h2.1 19 7) = nI df → df ≤ 60 → zk_L h0 g0 T n K LC h2 g2 LM' j' df s' (m' + k) o q) := by
  obtain ⟨x1, x2, x3, x4, x5, x6, x7⟩ := zk_dd L
  have m2 := L.2.2.2.2.2.2.1
  unfold f_Mo_expression_118 f_Mo_expression_144
  rw [if_pos (show (zs_uF g1 68 13 (nI q)).1 68 10 = 0 from m2)]
  have eo : (zs_uF g1 68 13 (nI q)).1 68 25 - 1 = nI (o + k) := by
    rw [show (zs_uF g1 68 13 (nI q)).1 68 25 = (g1.1 68 25) from rfl, x6, show (1 : Int32) = nI 1 from rfl, zi_sub (by omega)]; rfl
  rw [eo]
  have fB : zfr [(68, 13), (68, 12)] [] [] g1 (zs_uF (zs_uF g1 68 13 (nI q)) 68 12 y0) := zfr_F (by decide) (zfr_F (by decide) zfr_rfl)
  obtain ⟨gB, hgB⟩ : ∃ gB, gB = zs_uF (zs_uF g1 68 13 (nI q)) 68 12 y0 := ⟨_, rfl⟩
  rw [← hgB] at fB ⊢
  have hdB : (gB.1 68 12) = y0 := by rw [hgB]; rfl
  have hnB : (gB.1 68 13) = nI q := by rw [hgB]; rfl
  have eA : ∀ k, gB.2.1 k = g1.2.1 k := fun k => fB.2.1 k List.not_mem_nil
  have SB : zo_S LC LM' gB k o k t (fun i => m ≤ i ∧ i < m') lv := zo_Sk (List.prefix_refl _) k hS (fun i _ => by rw [eA, eA, eA, eA, eA, eA, eA]; exact ⟨rfl, rfl, rfl, rfl, rfl, rfl, rfl⟩) (fun i _ _ => by rw [eA]) (fun i _ _ => by rw [eA, eA]; exact ⟨rfl, rfl⟩)
  have WB : zx_W gB m' := by unfold zx_W; rw [eA, eA]; exact x5
  obtain ⟨a, gC, e1, r1, r2, r3, r4, r5, r6⟩ := zo_split k (F := 400) SB (fun i hi => hi.2) ((fB.1 _ _ (by decide)).trans x4) WB (by omega) hok (by omega)
  have ha : a < m' + k := by rcases r1 with z | z <;> omega
  have ham : m ≤ a := by rcases r1 with z | z <;> omega
  obtain ⟨gD, e2, H1, H2⟩ := zx_hang (g := gC) (m := m' + k) (a := a) (b := b) (by omega) ha (by omega) r3
  rw [e1, zo_B, e2, Option.bind_some]
  obtain ⟨kd, p, v, l, et⟩ := zo_St k hS
  subst et
  have kaC : zx_ka m g gC := fun i hi => by
    obtain ⟨a1, a2, a3, a4, a5, a6, a7⟩ := ka i hi
    obtain ⟨c1, c2, c3, c4, c5, c6, c7⟩ := r5 i ⟨by omega, by omega⟩
    rw [eA] at c1 c2 c3 c4 c5 c6 c7
    exact ⟨c1.trans a1, c2.trans a2, c3.trans a3, c4.trans a4, c5.trans a5, c6.trans a6, c7.trans a7⟩
  have AP := zx_AP_h (m' := m' + k) hp kaC H1 r4 (fun i hi => by rcases hi with z | z <;> omega) hb (by omega)
  have fD : zfr [(68, 13), (68, 12), (68, 14)] zo_nd [] g1 gD := zfr_trans (zfr_trans (zfr_w fB (by decide) (by decide) (by decide)) (zfr_w r6 (by decide) (by decide) (by decide))) (zfr_w H1.2.2.2 (by decide) (by decide) (by decide))
  refine ⟨zs_uF gD 68 25 (nI o), rfl, AP, zo_fr_t fr (show zo_fr o g1 gD from zo_fr_f fD (by decide) (by decide) (by decide)) (Nat.le_refl o), fun h2 fh eo2 hdf => ?_⟩
  have fE : zfr zo_fs zo_ms [] g1 (zs_uF gD 68 25 (nI o)) := zfr_F (by decide) (zfr_w fD (by decide) (by decide) (by decide))
  refine zk_hg L fh fE eo2 ?_ hdf ?_ H2 rfl ?_
  · show (gD.1 68 12) = nI df
    rw [H1.2.2.2.1 _ _ (by decide), r6.1 _ _ (by decide), hdB, hy]
  · show (gD.1 68 14) = nI (m' + k)
    rw [H1.2.2.2.1 _ _ (by decide)]; exact r2
  · show (gD.1 68 13) = nI q
    rw [H1.2.2.2.1 _ _ (by decide), r6.1 _ _ (by decide), hnB]
end ZN2
end
