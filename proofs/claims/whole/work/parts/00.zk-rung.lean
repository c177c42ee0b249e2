/-! Both readers in step: rows, rungs, ladders. -/
section ZK
variable {h0 g0 h g g1 h' g' : zs_H} {T : Nat → Int32} {n K : Nat} {LC LM LM' : List (List Int32)} {j d s m o q b kd j' d' s' m' e st D f M0 M : Nat} {p v y : Int32} {u : zt_T} {X : Int32 → zs_H → zs_H → Prop}
theorem zk_rowL : ∀ (r N N' : Nat) {c : Nat} {y : Int32} {u : zt_T} {LM' : List (List Int32)} {j' s' m' e f : Nat} {h' g' : zs_H}, zk_I h0 g0 T n K LC LM j s m o q b 24 p v h g g1 u y LM' j' d' s' m' e 1 3 f h' g' → K ≤ j' + r → r + 2 ≤ N → r + 2 ≤ N' → j < j' → 1 ≤ f → c ≤ j' → zq_v y → s ≤ 2 * j + 11 → m ≤ 2 * j + 11 → zk_G h0 g0 T n K LC m 20710 o (zk_T h0 g0 T n K LC LM (zg_T [24] 4) j d' s m o q b h g) (f_Ps_row_L31 N h' (nI s) y (nI c)) (f_Mo_row_L18 N' g' (nI m)) := by
  intro r
  induction r with
  | zero =>
    intro N N' c y u LM' j' s' m' e f h' g' I hr hN hN' hj hf hc vy hs hm
    have b1 := zk_Ib I
    have v0 := zk_Iv I
    obtain ⟨N, rfl⟩ : ∃ k, N = k + 1 := ⟨N - 1, by omega⟩
    obtain ⟨N', rfl⟩ : ∃ k, N' = k + 2 := ⟨N' - 2, by omega⟩
    have t6 : (h'.1 19 5) = 6 := Classical.byContradiction fun z => by
      have := zk_lt I.1 (zk_notE I.1 z)
      omega
    have hC : f_Ps_isCell h' = 0 := zk_isC2 (by rw [t6]; decide)
    show zk_G h0 g0 T n K LC m 20710 o _ (f_Ps_row_31 (f_Ps_row_L31 N) h' (nI s) y (nI c)) (f_Mo_row_18 (f_Mo_row_L18 (N' + 1)) g' (nI m))
    unfold f_Ps_row_31 f_Mo_row_18
    rw [if_neg (mt (zc_le (k := 16384) (by decide) (by omega)).mp (by omega)), if_neg (show ¬ (h'.1 19 5) = 124 by rw [t6]; decide), if_pos hC, if_pos I.1.2.2.2.2.2.2.1]
    rw [show f_Mo_isSign g' 59 = if (h'.1 19 5) = nI 59 then 1 else 0 from zk_sign I.1 (c := 59) (k := 59) (by decide), show f_Mo_isSign g' 124 = if (h'.1 19 5) = nI 124 then 1 else 0 from zk_sign I.1 (c := 124) (k := 124) (by decide), if_neg (show ¬ (h'.1 19 5) = nI 59 by rw [t6]; decide), if_neg (show ¬ (h'.1 19 5) = nI 124 by rw [t6]; decide), if_pos rfl, if_pos rfl]
    unfold f_Mo_row_60 f_Ps_row_113
    obtain ⟨h2, g2, φ, w, e1, e2, z1, z2⟩ := zk_cellX I.1 (b := m) (x := 59) (by omega) (by omega) (by rw [t6]; decide) hC
    rw [e1, e2, Option.bind_some, Option.bind_some]
    refine zk_Gf (φ := φ) (w := w) (zw_some.mpr ⟨v0, z1⟩) ?_
    exact zw_mono (zxb_row_L z2) fun g' z => ⟨m' + 2, by omega, z⟩
  | succ r ih =>
    intro N N' c y u LM' j' s' m' e f h' g' I hr hN hN' hj hf hc vy hs hm
    have b1 := zk_Ib I
    have v0 := zk_Iv I
    obtain ⟨N, rfl⟩ : ∃ k, N = k + 2 := ⟨N - 2, by omega⟩
    obtain ⟨N', rfl⟩ : ∃ k, N' = k + 2 := ⟨N' - 2, by omega⟩
    -- a cell, then on
    have cell : ∀ {y : Int32} {u : zt_T} {LM' : List (List Int32)} {j2 s2 m2 e st f : Nat} {h2 g2 : zs_H}, zk_I h0 g0 T n K LC LM j s m o q b 24 p v h g g1 u y LM' j2 d' s2 m2 e st 3 f h2 g2 → j' ≤ j2 → (st = 1 ∨ st = 2) → 1 ≤ f → s2 ≤ 2 * j2 + 12 → m2 ≤ 2 * j2 + 12 → zq_v y → zk_G h0 g0 T n K LC m 20710 o (zk_T h0 g0 T n K LC LM (zg_T [24] 4) j d' s m o q b h g) (f_Ps_row_93 (f_Ps_row_L31 (N + 1)) h2 (nI s) y (nI c)) (f_Mo_row_60 (f_Mo_row_L18 (N' + 1)) g2 (nI m)) := by
      intro y u LM' j2 s2 m2 e st f h2 g2 I2 hj2 hst hf2 hs2 hm2 vy2
      have b2 := zk_Ib I2
      unfold f_Ps_row_93 f_Mo_row_60
      refine zk_sK (st' := 1) I2 (zk_cell I2.1 (by omega) hs2 hm2) (by rcases hst with z | z <;> subst z <;> decide) ?_ fun x3 h3 g3 u3 LM3 j3 s3 m3 v3 l3 I3 => ?_
      · intro φ w mz xz hz gz w1 w2 vz z1 z2
        refine zk_Gf (φ := φ) (w := w) ?_ ?_
        · repeat' first
            | with_reducible exact zw_some.mpr ⟨by assumption, by assumption⟩
            | (rw [zw_bind]; with_reducible refine zw_mono (zz_take (by assumption)) ?_; intro _ _)
            | (rw [zw_B]; with_reducible refine zw_mono (zz_constant (by assumption)) ?_; rintro _ ⟨_, _⟩)
            | (rw [zw_B]; with_reducible refine zw_mono (zz_simpleType (by assumption)) ?_; rintro _ ⟨_, _⟩)
            | (rw [zw_B]; with_reducible refine zw_mono (zz_type (by assumption)) ?_; rintro _ ⟨_, _⟩)
            | (rw [zw_B]; with_reducible refine zw_mono (zz_whole (by assumption)) ?_; rintro _ ⟨_, _⟩)
            | (rw [zw_B]; with_reducible refine zw_mono (zz_add (by assumption)) ?_; rintro _ ⟨_, _⟩)
            | (rw [zw_B]; with_reducible refine zw_mono (zz_hang (by assumption) (by assumption) (by first | assumption | exact zq_vl_n | exact zq_vl_v (by assumption)) (by assumption)) ?_; rintro _ ⟨_, _⟩)
            | rw [if_pos (zq_at (by assumption))]
            | rw [zz_isCell (by assumption), if_pos rfl]
            | rw [if_neg (zq_ne (by assumption) (by decide) (by decide))]
          exact zz_row_L (by assumption) (by assumption)
        · exact zw_mono (zxb_row_L z2) fun g' z => ⟨mz, by omega, z⟩
      rw [nI_1]
      exact ih (N + 1) (N' + 1) (c := c + 1) I3 (by omega) (by omega) (by omega) (by omega) hf2 (by omega) v3 hs hm
    show zk_G h0 g0 T n K LC m 20710 o _ (f_Ps_row_31 (f_Ps_row_L31 (N + 1)) h' (nI s) y (nI c)) (f_Mo_row_18 (f_Mo_row_L18 (N' + 1)) g' (nI m))
    unfold f_Ps_row_31 f_Mo_row_18
    rw [if_neg (mt (zc_le (k := 16384) (by decide) (by omega)).mp (by omega)), if_pos I.1.2.2.2.2.2.2.1]
    rw [show f_Mo_isSign g' 59 = if (h'.1 19 5) = nI 59 then 1 else 0 from zk_sign I.1 (c := 59) (k := 59) (by decide), show f_Mo_isSign g' 124 = if (h'.1 19 5) = nI 124 then 1 else 0 from zk_sign I.1 (c := 124) (k := 124) (by decide)]
    by_cases t124 : (h'.1 19 5) = 124
    · rw [if_pos t124, if_neg (show ¬ (h'.1 19 5) = nI 59 by rw [t124]; decide), if_pos rfl, if_pos (show (h'.1 19 5) = nI 124 from t124), if_neg (show ¬ (1 : Int32) = 0 by decide)]
      unfold f_Ps_row_54
      rw [if_pos t124]
      refine zk_sLf (k2 := 29) (st' := 2) (f' := f + 1) (yy := 1) (FB := fun h10 => f_Mo_row_60 (f_Mo_row_L18 (N' + 1)) h10 (nI m)) (x := 124) (FA := fun v6 h9 => f_Ps_row_93 (f_Ps_row_L31 (N + 1)) h9 (nI s) v6 (nI c)) I (by decide) rfl rfl ⟨fun _ => t124, fun _ => by decide⟩ (by decide) (fun _ => ⟨by rw [if_neg (by decide)], Or.inl rfl⟩) (by decide) rfl (by decide) (by rw [if_neg (by decide)]; omega) (by omega) (by omega) ?_ ?_ fun h3 g3 u3 LM3 I3 => ?_
      · intro x gx _ hx
        show _ = (f_Mo_want gx 1).bind _
        unfold f_Mo_want
        rw [if_pos hx, if_neg (by decide)]
        cases f_Mo_next gx <;> rfl
      · intro φ w xz hz gz vz z1 z2
        refine zk_Gf (φ := φ) (w := w) ?_ ?_
        · unfold f_Ps_row_93
          rw [zw_B]
          refine zw_mono (zz_ladderCell z1) ?_
          rintro _ ⟨_, _⟩
          repeat' first
            | with_reducible exact zw_some.mpr ⟨by assumption, by assumption⟩
            | (rw [zw_bind]; with_reducible refine zw_mono (zz_take (by assumption)) ?_; intro _ _)
            | (rw [zw_B]; with_reducible refine zw_mono (zz_constant (by assumption)) ?_; rintro _ ⟨_, _⟩)
            | (rw [zw_B]; with_reducible refine zw_mono (zz_simpleType (by assumption)) ?_; rintro _ ⟨_, _⟩)
            | (rw [zw_B]; with_reducible refine zw_mono (zz_type (by assumption)) ?_; rintro _ ⟨_, _⟩)
            | (rw [zw_B]; with_reducible refine zw_mono (zz_whole (by assumption)) ?_; rintro _ ⟨_, _⟩)
            | (rw [zw_B]; with_reducible refine zw_mono (zz_add (by assumption)) ?_; rintro _ ⟨_, _⟩)
            | (rw [zw_B]; with_reducible refine zw_mono (zz_hang (by assumption) (by assumption) (by first | assumption | exact zq_vl_n | exact zq_vl_v (by assumption)) (by assumption)) ?_; rintro _ ⟨_, _⟩)
            | rw [if_pos (zq_at (by assumption))]
            | rw [zz_isCell (by assumption), if_pos rfl]
            | rw [if_neg (zq_ne (by assumption) (by decide) (by decide))]
          exact zz_row_L (by assumption) (by assumption)
        · unfold f_Mo_row_60
          rw [zw_bind]
          exact zw_mono (zxb_readCell z2) fun g' z => zw_mono (zxb_row_L z) fun g' z => ⟨m' + 1, by omega, z⟩
      have b3 := zk_Ib I3
      exact cell I3 (by omega) (Or.inr rfl) (by omega) (by omega) (by omega) ⟨s', by omega, rfl⟩
    · rw [if_neg t124, if_neg (show ¬ (h'.1 19 5) = nI 124 from t124), if_pos (show (0 : Int32) = 0 from rfl)]
      by_cases hC : f_Ps_isCell h' = 0
      · rw [if_pos hC]
        by_cases t59 : (h'.1 19 5) = 59
        · rw [if_pos (show (h'.1 19 5) = nI 59 from t59), if_neg (show ¬ (1 : Int32) = 0 by decide)]
          unfold f_Ps_row_113 f_Mo_row_68
          refine zk_sA I (zk_wantS I.1 (c := 59) (k := 59) (by decide) (by decide)) ?_ fun h2 g2 LM2 I2 => ?_
          · intro φ w hz gz z1 z2
            refine zk_Gf (φ := φ) (w := w) ?_ ?_
            · repeat' first
                | with_reducible exact zw_some.mpr ⟨by assumption, by assumption⟩
                | (rw [zw_bind]; with_reducible refine zw_mono (zz_take (by assumption)) ?_; intro _ _)
                | (rw [zw_B]; with_reducible refine zw_mono (zz_constant (by assumption)) ?_; rintro _ ⟨_, _⟩)
                | (rw [zw_B]; with_reducible refine zw_mono (zz_simpleType (by assumption)) ?_; rintro _ ⟨_, _⟩)
                | (rw [zw_B]; with_reducible refine zw_mono (zz_type (by assumption)) ?_; rintro _ ⟨_, _⟩)
                | (rw [zw_B]; with_reducible refine zw_mono (zz_whole (by assumption)) ?_; rintro _ ⟨_, _⟩)
                | (rw [zw_B]; with_reducible refine zw_mono (zz_add (by assumption)) ?_; rintro _ ⟨_, _⟩)
                | (rw [zw_B]; with_reducible refine zw_mono (zz_hang (by assumption) (by assumption) (by first | assumption | exact zq_vl_n | exact zq_vl_v (by assumption)) (by assumption)) ?_; rintro _ ⟨_, _⟩)
                | rw [if_pos (zq_at (by assumption))]
                | rw [zz_isCell (by assumption), if_pos rfl]
                | rw [if_neg (zq_ne (by assumption) (by decide) (by decide))]
            · repeat' first
                | (with_reducible refine zw_some.mpr ⟨_, ⟨?_, ?_⟩, by assumption⟩ <;> omega)
                | (rw [zw_bind]; with_reducible refine zw_mono (zxw_wantSign (by assumption)) ?_; intro _ _)
                | (rw [zw_bind]; with_reducible refine zw_mono (zxw_wantWord (by assumption)) ?_; intro _ _)
                | (rw [zw_bind]; with_reducible refine zw_mono (zxw_want (by assumption)) ?_; intro _ _)
                | (rw [zw_bind]; with_reducible refine zw_mono (zx_next (by assumption)) ?_; intro _ _)
                | (rw [zw_bind]; with_reducible refine zw_mono (zxb_constant (by assumption) (by omega) (by omega)) ?_; intro _ _)
                | (rw [zw_bind]; with_reducible refine zw_mono (zxw_simple (by assumption) (by omega) (by omega)) ?_; rintro _ ⟨_, _, _, _⟩)
                | (rw [zw_B]; with_reducible refine zw_mono (zxb_add (by assumption) (by omega) rfl (by omega)) ?_; rintro _ ⟨e1, _⟩; try rw [e1])
                | rw [zx_isSign (by assumption), if_pos rfl]
                | rw [zx_isWord (by assumption), if_pos rfl]
                | rw [if_neg (zx_ne (by assumption))]
                | rw [if_neg (zx_pos (by assumption))]
                | rw [if_pos (show (0 : Int32) ≤ 0 by decide)]
          have b2 := zk_Ib I2
          exact ⟨nI s, h2, g2, rfl, rfl, Or.inl (zk_Id I2 (by omega) (by omega) rfl (Or.inl rfl) (by decide) (by omega) (by decide))⟩
        · rw [if_neg (show ¬ (h'.1 19 5) = nI 59 from t59), if_pos (show (0 : Int32) = 0 from rfl)]
          unfold f_Mo_row_60 f_Ps_row_113
          obtain ⟨h2, g2, φ, w, e1, e2, z1, z2⟩ := zk_cellX I.1 (b := m) (x := 59) (by omega) (by omega) t59 hC
          rw [e1, e2, Option.bind_some, Option.bind_some]
          refine zk_Gf (φ := φ) (w := w) (zw_some.mpr ⟨v0, z1⟩) ?_
          exact zw_mono (zxb_row_L z2) fun g' z => ⟨m' + 2, by omega, z⟩
      · have hn59 : ¬ (h'.1 19 5) = nI 59 := fun z => hC (zk_isC2 (by rw [z]; decide))
        rw [if_neg hC, if_neg hn59, if_pos (show (0 : Int32) = 0 from rfl)]
        unfold f_Ps_row_54
        rw [if_neg t124]
        exact cell I (Nat.le_refl _) (Or.inl rfl) hf (by omega) (by omega) vy
theorem zk_row (H : zk_L h0 g0 T n K LC h g LM j d s m o q) {b : Nat} (hb : b < m) (hs : s ≤ 2 * j + 11) (hm : m ≤ 2 * j + 11) : zk_G h0 g0 T n K LC m 20710 o (zk_T h0 g0 T n K LC LM (zg_T [24] 4) j d s m o q b h g) (f_Ps_row h) (f_Mo_row g (nI b)) := by
  have hK := zk_bK H
  unfold f_Ps_row f_Mo_row
  obtain ⟨h1, g1, e1, e2, I⟩ := zk_I0 H (b := b) (kd := 24) (kc := 24) (km := 24) (D := 3) (v := 0) (w := 0) (by omega) (by omega) hb (by decide) rfl rfl (by rw [if_neg (by decide)])
  rw [e1, e2, zo_B, zo_B, zF_9]
  have v0 := zk_Iv I
  refine zk_sK (st' := 1) I (zk_cell I.1 (by omega) (by omega) (by omega)) (by decide) ?_ fun x3 h3 g3 u3 LM3 j3 s3 m3 v3 l3 I3 => ?_
  · intro φ w mz xz hz gz w1 w2 vz z1 z2
    refine zk_Gf (φ := φ) (w := w) ?_ ?_
    · repeat' first
        | with_reducible exact zw_some.mpr ⟨by assumption, by assumption⟩
        | (rw [zw_bind]; with_reducible refine zw_mono (zz_take (by assumption)) ?_; intro _ _)
        | (rw [zw_B]; with_reducible refine zw_mono (zz_constant (by assumption)) ?_; rintro _ ⟨_, _⟩)
        | (rw [zw_B]; with_reducible refine zw_mono (zz_simpleType (by assumption)) ?_; rintro _ ⟨_, _⟩)
        | (rw [zw_B]; with_reducible refine zw_mono (zz_type (by assumption)) ?_; rintro _ ⟨_, _⟩)
        | (rw [zw_B]; with_reducible refine zw_mono (zz_whole (by assumption)) ?_; rintro _ ⟨_, _⟩)
        | (rw [zw_B]; with_reducible refine zw_mono (zz_add (by assumption)) ?_; rintro _ ⟨_, _⟩)
        | (rw [zw_B]; with_reducible refine zw_mono (zz_hang (by assumption) (by assumption) (by first | assumption | exact zq_vl_n | exact zq_vl_v (by assumption)) (by assumption)) ?_; rintro _ ⟨_, _⟩)
        | rw [if_pos (zq_at (by assumption))]
        | rw [zz_isCell (by assumption), if_pos rfl]
        | rw [if_neg (zq_ne (by assumption) (by decide) (by decide))]
      exact zz_row_L (N := 18446744073709551607 + 8) (by assumption) (by assumption)
    · exact zw_mono (zxb_row_L (N := 18446744073709551607 + 8) z2) fun g' z => ⟨mz, by omega, z⟩
  exact zk_rowL 10240 _ _ (c := 0) I3 (by omega) (by omega) (by omega) (by omega) (by omega) (by omega) v3 hs hm
/-- the rows of a rung, and what follows -/
theorem zk_rngL {sl ml N0 N0' : Nat} {yl x3 : Int32} (vl : zq_v (nI sl)) (vyl : zq_vl yl) (good : ∀ h2 g2, zk_T h0 g0 T n K LC LM (zg_T [23] 5) j d' s m o q b h g (nI s) h2 g2 → zk_G h0 g0 T n K LC M0 20800 o X (zd_B (f_Tr_hang h2 (nI sl) yl (nI s)) fun v4 h5 => f_Ps_ladder_L26 (N0 + 1) h5 (nI sl) v4 (x3 + 1)) (f_Mo_ladder_L17 (N0' + 1) g2 (nI ml))) : ∀ (r N N' : Nat) {c : Nat} {y : Int32} {u : zt_T} {LM' : List (List Int32)} {j' s' m' e f : Nat} {h' g' : zs_H}, zk_I h0 g0 T n K LC LM j s m o q b 23 p v h g g1 u y LM' j' d' s' m' e 1 4 f h' g' → K ≤ j' + r → r + 2 ≤ N → r + 2 ≤ N' → 2 ≤ e → 1 ≤ f → c ≤ j' → zq_v y → s ≤ 2 * j + 12 → m ≤ 2 * j + 12 → M0 ≤ m → zk_G h0 g0 T n K LC M0 20800 o X (f_Ps_ladder_L85 (f_Ps_ladder_L26 (N0 + 1)) N h' (nI sl) yl x3 (nI s) y (nI c)) (f_Mo_ladder_L48 (f_Mo_ladder_L17 (N0' + 1)) N' g' (nI ml) (nI m)) := by
  intro r
  induction r with
  | zero =>
    intro N N' c y u LM' j' s' m' e f h' g' I hr hN hN' he hf hc vy hs hm hM
    have b1 := zk_Ib I
    have v0 := zk_Iv I
    obtain ⟨N, rfl⟩ : ∃ k, N = k + 2 := ⟨N - 2, by omega⟩
    obtain ⟨N', rfl⟩ : ∃ k, N' = k + 2 := ⟨N' - 2, by omega⟩
    have t6 : (h'.1 19 5) = 6 := Classical.byContradiction fun z => by
      have := zk_lt I.1 (zk_notE I.1 z)
      omega
    have hC : f_Ps_isCell h' = 0 := zk_isC2 (by rw [t6]; decide)
    show zk_G h0 g0 T n K LC M0 20800 o X (f_Ps_ladder_85 (f_Ps_ladder_L26 (N0 + 1)) (f_Ps_ladder_L85 (f_Ps_ladder_L26 (N0 + 1)) (N + 1)) h' (nI sl) yl x3 (nI s) y (nI c)) (f_Mo_ladder_48 (f_Mo_ladder_L17 (N0' + 1)) (f_Mo_ladder_L48 (f_Mo_ladder_L17 (N0' + 1)) (N' + 1)) g' (nI ml) (nI m))
    unfold f_Ps_ladder_85 f_Mo_ladder_48
    rw [if_neg (mt (zc_le (k := 16384) (by decide) (by omega)).mp (by omega)), if_pos hC, if_pos I.1.2.2.2.2.2.2.1, show f_Mo_isWord g' 40 = if (h'.1 19 5) = nI 168 then 1 else 0 from zk_word I.1 (c := 40) (by decide), if_neg (show ¬ (h'.1 19 5) = nI 168 by rw [t6]; decide), if_pos rfl]
    unfold f_Ps_ladder_123 f_Mo_row
    obtain ⟨ga, ea, La, _⟩ := zk_madd0 I.1 (b := m) (kn := 24) (kv := 24) (p := (g'.1 68 7)) (v := 0) (by omega) (by omega) rfl
    obtain ⟨h2, g2, φ, w, e1, e2, z1, z2⟩ := zk_cellX La (b := m') (x := 168) (by omega) (by omega) (by rw [t6]; decide) hC
    rw [e1, ea, zo_B, e2, zF_9, Option.bind_some, Option.bind_some]
    refine zk_Gf (φ := φ) (w := w) ?_ ?_
    · repeat' first
        | with_reducible exact zw_some.mpr ⟨by assumption, by assumption⟩
        | (rw [zw_bind]; with_reducible refine zw_mono (zz_take (by assumption)) ?_; intro _ _)
        | (rw [zw_B]; with_reducible refine zw_mono (zz_constant (by assumption)) ?_; rintro _ ⟨_, _⟩)
        | (rw [zw_B]; with_reducible refine zw_mono (zz_simpleType (by assumption)) ?_; rintro _ ⟨_, _⟩)
        | (rw [zw_B]; with_reducible refine zw_mono (zz_type (by assumption)) ?_; rintro _ ⟨_, _⟩)
        | (rw [zw_B]; with_reducible refine zw_mono (zz_whole (by assumption)) ?_; rintro _ ⟨_, _⟩)
        | (rw [zw_B]; with_reducible refine zw_mono (zz_add (by assumption)) ?_; rintro _ ⟨_, _⟩)
        | (rw [zw_B]; with_reducible refine zw_mono (zz_hang (by assumption) (by assumption) (by first | assumption | exact zq_vl_n | exact zq_vl_v (by assumption)) (by assumption)) ?_; rintro _ ⟨_, _⟩)
        | rw [if_pos (zq_at (by assumption))]
        | rw [zz_isCell (by assumption), if_pos rfl]
        | rw [if_neg (zq_ne (by assumption) (by decide) (by decide))]
      exact zz_ladder_L26 (by assumption) (by assumption)
    · rw [zw_bind]
      exact zw_mono (zxb_row_L (N := 18446744073709551607 + 8) z2) fun g' z => zw_mono (zxb_ladder_L48 z) fun g' z => ⟨m' + 1 + 2, by omega, z⟩
  | succ r ih =>
    intro N N' c y u LM' j' s' m' e f h' g' I hr hN hN' he hf hc vy hs hm hM
    have b1 := zk_Ib I
    have v0 := zk_Iv I
    obtain ⟨N, rfl⟩ : ∃ k, N = k + 2 := ⟨N - 2, by omega⟩
    obtain ⟨N', rfl⟩ : ∃ k, N' = k + 2 := ⟨N' - 2, by omega⟩
    show zk_G h0 g0 T n K LC M0 20800 o X (f_Ps_ladder_85 (f_Ps_ladder_L26 (N0 + 1)) (f_Ps_ladder_L85 (f_Ps_ladder_L26 (N0 + 1)) (N + 1)) h' (nI sl) yl x3 (nI s) y (nI c)) (f_Mo_ladder_48 (f_Mo_ladder_L17 (N0' + 1)) (f_Mo_ladder_L48 (f_Mo_ladder_L17 (N0' + 1)) (N' + 1)) g' (nI ml) (nI m))
    unfold f_Ps_ladder_85 f_Mo_ladder_48
    rw [if_neg (mt (zc_le (k := 16384) (by decide) (by omega)).mp (by omega)), if_pos I.1.2.2.2.2.2.2.1, show f_Mo_isWord g' 40 = if (h'.1 19 5) = nI 168 then 1 else 0 from zk_word I.1 (c := 40) (by decide)]
    by_cases hC : f_Ps_isCell h' = 0
    · rw [if_pos hC]
      unfold f_Ps_ladder_123
      by_cases t168 : (h'.1 19 5) = 168
      · rw [if_pos (show (h'.1 19 5) = nI 168 from t168), if_neg (show ¬ (1 : Int32) = 0 by decide)]
        unfold f_Mo_ladder_72
        refine zk_sA I (zk_wantW I.1 (c := 40) (by decide)) ?_ fun h2 g2 LM2 I2 => ?_
        · intro φ w hz gz z1 z2
          refine zk_Gf (φ := φ) (w := w) ?_ ?_
          · repeat' first
              | with_reducible exact zw_some.mpr ⟨by assumption, by assumption⟩
              | (rw [zw_bind]; with_reducible refine zw_mono (zz_take (by assumption)) ?_; intro _ _)
              | (rw [zw_B]; with_reducible refine zw_mono (zz_constant (by assumption)) ?_; rintro _ ⟨_, _⟩)
              | (rw [zw_B]; with_reducible refine zw_mono (zz_simpleType (by assumption)) ?_; rintro _ ⟨_, _⟩)
              | (rw [zw_B]; with_reducible refine zw_mono (zz_type (by assumption)) ?_; rintro _ ⟨_, _⟩)
              | (rw [zw_B]; with_reducible refine zw_mono (zz_whole (by assumption)) ?_; rintro _ ⟨_, _⟩)
              | (rw [zw_B]; with_reducible refine zw_mono (zz_add (by assumption)) ?_; rintro _ ⟨_, _⟩)
              | (rw [zw_B]; with_reducible refine zw_mono (zz_hang (by assumption) (by assumption) (by first | assumption | exact zq_vl_n | exact zq_vl_v (by assumption)) (by assumption)) ?_; rintro _ ⟨_, _⟩)
              | rw [if_pos (zq_at (by assumption))]
              | rw [zz_isCell (by assumption), if_pos rfl]
              | rw [if_neg (zq_ne (by assumption) (by decide) (by decide))]
            exact zz_ladder_L26 (by assumption) (by assumption)
          · exact zw_mono (zxb_ladder_L17 z2) fun g' z => ⟨m', by omega, z⟩
        have b2 := zk_Ib I2
        exact good h2 g2 (zk_Id I2 (by omega) (by omega) rfl (Or.inl rfl) (by decide) (by omega) (by decide))
      · rw [if_neg (show ¬ (h'.1 19 5) = nI 168 from t168), if_pos (show (0 : Int32) = 0 from rfl)]
        unfold f_Mo_row
        obtain ⟨ga, ea, La, _⟩ := zk_madd0 I.1 (b := m) (kn := 24) (kv := 24) (p := (g'.1 68 7)) (v := 0) (by omega) (by omega) rfl
        obtain ⟨h2, g2, φ, w, e1, e2, z1, z2⟩ := zk_cellX La (b := m') (x := 168) (by omega) (by omega) t168 hC
        rw [e1, ea, zo_B, e2, zF_9, Option.bind_some, Option.bind_some]
        refine zk_Gf (φ := φ) (w := w) ?_ ?_
        · repeat' first
            | with_reducible exact zw_some.mpr ⟨by assumption, by assumption⟩
            | (rw [zw_bind]; with_reducible refine zw_mono (zz_take (by assumption)) ?_; intro _ _)
            | (rw [zw_B]; with_reducible refine zw_mono (zz_constant (by assumption)) ?_; rintro _ ⟨_, _⟩)
            | (rw [zw_B]; with_reducible refine zw_mono (zz_simpleType (by assumption)) ?_; rintro _ ⟨_, _⟩)
            | (rw [zw_B]; with_reducible refine zw_mono (zz_type (by assumption)) ?_; rintro _ ⟨_, _⟩)
            | (rw [zw_B]; with_reducible refine zw_mono (zz_whole (by assumption)) ?_; rintro _ ⟨_, _⟩)
            | (rw [zw_B]; with_reducible refine zw_mono (zz_add (by assumption)) ?_; rintro _ ⟨_, _⟩)
            | (rw [zw_B]; with_reducible refine zw_mono (zz_hang (by assumption) (by assumption) (by first | assumption | exact zq_vl_n | exact zq_vl_v (by assumption)) (by assumption)) ?_; rintro _ ⟨_, _⟩)
            | rw [if_pos (zq_at (by assumption))]
            | rw [zz_isCell (by assumption), if_pos rfl]
            | rw [if_neg (zq_ne (by assumption) (by decide) (by decide))]
          exact zz_ladder_L26 (by assumption) (by assumption)
        · rw [zw_bind]
          exact zw_mono (zxb_row_L (N := 18446744073709551607 + 8) z2) fun g' z => zw_mono (zxb_ladder_L48 z) fun g' z => ⟨m' + 1 + 2, by omega, z⟩
    · have hn : ¬ (h'.1 19 5) = nI 168 := fun z => hC (zk_isC2 (by rw [z]; decide))
      rw [if_neg hC, if_neg hn, if_pos (show (0 : Int32) = 0 from rfl)]
      refine zk_sK (st' := 1) I (zk_row I.1 (by omega) (by omega) (by omega)) (by decide) ?_ fun x4 h3 g3 u3 LM3 j3 s3 m3 v3 l3 I3 => ?_
      · intro φ w mz xz hz gz w1 w2 vz z1 z2
        refine zk_Gf (φ := φ) (w := w) ?_ ?_
        · repeat' first
            | with_reducible exact zw_some.mpr ⟨by assumption, by assumption⟩
            | (rw [zw_bind]; with_reducible refine zw_mono (zz_take (by assumption)) ?_; intro _ _)
            | (rw [zw_B]; with_reducible refine zw_mono (zz_constant (by assumption)) ?_; rintro _ ⟨_, _⟩)
            | (rw [zw_B]; with_reducible refine zw_mono (zz_simpleType (by assumption)) ?_; rintro _ ⟨_, _⟩)
            | (rw [zw_B]; with_reducible refine zw_mono (zz_type (by assumption)) ?_; rintro _ ⟨_, _⟩)
            | (rw [zw_B]; with_reducible refine zw_mono (zz_whole (by assumption)) ?_; rintro _ ⟨_, _⟩)
            | (rw [zw_B]; with_reducible refine zw_mono (zz_add (by assumption)) ?_; rintro _ ⟨_, _⟩)
            | (rw [zw_B]; with_reducible refine zw_mono (zz_hang (by assumption) (by assumption) (by first | assumption | exact zq_vl_n | exact zq_vl_v (by assumption)) (by assumption)) ?_; rintro _ ⟨_, _⟩)
            | rw [if_pos (zq_at (by assumption))]
            | rw [zz_isCell (by assumption), if_pos rfl]
            | rw [if_neg (zq_ne (by assumption) (by decide) (by decide))]
          exact zz_ladder_L85 (by assumption) (by assumption) (by assumption) (by assumption)
        · exact zw_mono (zxb_ladder_L48 z2) fun g' z => ⟨mz, by omega, z⟩
      rw [nI_1]
      exact ih (N + 1) (N' + 1) (c := c + 1) I3 (by omega) (by omega) (by omega) he hf (by omega) v3 hs hm hM
theorem zk_ladL : ∀ (r N N' : Nat) {c : Nat} {y : Int32} {u : zt_T} {LM' : List (List Int32)} {j' s' m' e f : Nat} {h' g' : zs_H}, zk_I h0 g0 T n K LC LM j s m o q b 22 p v h g g1 u y LM' j' d' s' m' e 0 5 f h' g' → K ≤ j' + r → r + 3 ≤ N → r + 3 ≤ N' → 2 ≤ e → 1 ≤ f → c ≤ j' → zq_vl y → s ≤ 2 * j + 12 → m ≤ 2 * j + 12 → zk_G h0 g0 T n K LC m 20800 o (zk_T h0 g0 T n K LC LM (zg_T [22] 6) j d' s m o q b h g) (f_Ps_ladder_L26 N h' (nI s) y (nI c)) (f_Mo_ladder_L17 N' g' (nI m)) := by
  intro r
  have fin : ∀ {y : Int32} {u : zt_T} {LM' : List (List Int32)} {j' s' m' e f : Nat} {h' g' : zs_H}, zk_I h0 g0 T n K LC LM j s m o q b 22 p v h g g1 u y LM' j' d' s' m' e 0 5 f h' g' → s ≤ 2 * j + 12 → m ≤ 2 * j + 12 → zk_G h0 g0 T n K LC m 20800 o (zk_T h0 g0 T n K LC LM (zg_T [22] 6) j d' s m o q b h g) (f_Ps_ladder_148 h' (nI s)) ((f_Mo_wantWord g' 38).bind fun h4 => some h4) := by
    intro y u LM' j' s' m' e f h' g' I hs hm
    have b1 := zk_Ib I
    have v0 := zk_Iv I
    unfold f_Ps_ladder_148
    refine zk_sA I (zk_wantW I.1 (c := 38) (by decide)) ?_ fun h2 g2 LM2 I2 => ?_
    · intro φ w hz gz z1 z2
      refine zk_Gf (φ := φ) (w := w) ?_ ?_
      · repeat' first
          | with_reducible exact zw_some.mpr ⟨by assumption, by assumption⟩
          | (rw [zw_bind]; with_reducible refine zw_mono (zz_take (by assumption)) ?_; intro _ _)
          | (rw [zw_B]; with_reducible refine zw_mono (zz_constant (by assumption)) ?_; rintro _ ⟨_, _⟩)
          | (rw [zw_B]; with_reducible refine zw_mono (zz_simpleType (by assumption)) ?_; rintro _ ⟨_, _⟩)
          | (rw [zw_B]; with_reducible refine zw_mono (zz_type (by assumption)) ?_; rintro _ ⟨_, _⟩)
          | (rw [zw_B]; with_reducible refine zw_mono (zz_whole (by assumption)) ?_; rintro _ ⟨_, _⟩)
          | (rw [zw_B]; with_reducible refine zw_mono (zz_add (by assumption)) ?_; rintro _ ⟨_, _⟩)
          | (rw [zw_B]; with_reducible refine zw_mono (zz_hang (by assumption) (by assumption) (by first | assumption | exact zq_vl_n | exact zq_vl_v (by assumption)) (by assumption)) ?_; rintro _ ⟨_, _⟩)
          | rw [if_pos (zq_at (by assumption))]
          | rw [zz_isCell (by assumption), if_pos rfl]
          | rw [if_neg (zq_ne (by assumption) (by decide) (by decide))]
      · repeat' first
          | (with_reducible refine zw_some.mpr ⟨_, ⟨?_, ?_⟩, by assumption⟩ <;> omega)
          | (rw [zw_bind]; with_reducible refine zw_mono (zxw_wantSign (by assumption)) ?_; intro _ _)
          | (rw [zw_bind]; with_reducible refine zw_mono (zxw_wantWord (by assumption)) ?_; intro _ _)
          | (rw [zw_bind]; with_reducible refine zw_mono (zxw_want (by assumption)) ?_; intro _ _)
          | (rw [zw_bind]; with_reducible refine zw_mono (zx_next (by assumption)) ?_; intro _ _)
          | (rw [zw_bind]; with_reducible refine zw_mono (zxb_constant (by assumption) (by omega) (by omega)) ?_; intro _ _)
          | (rw [zw_bind]; with_reducible refine zw_mono (zxw_simple (by assumption) (by omega) (by omega)) ?_; rintro _ ⟨_, _, _, _⟩)
          | (rw [zw_B]; with_reducible refine zw_mono (zxb_add (by assumption) (by omega) rfl (by omega)) ?_; rintro _ ⟨e1, _⟩; try rw [e1])
          | rw [zx_isSign (by assumption), if_pos rfl]
          | rw [zx_isWord (by assumption), if_pos rfl]
          | rw [if_neg (zx_ne (by assumption))]
          | rw [if_neg (zx_pos (by assumption))]
          | rw [if_pos (show (0 : Int32) ≤ 0 by decide)]
    have b2 := zk_Ib I2
    exact ⟨nI s, h2, g2, rfl, rfl, Or.inl (zk_Id I2 (by omega) (by omega) rfl (Or.inl rfl) (by decide) (by omega) (by decide))⟩
  induction r with
  | zero =>
    intro N N' c y u LM' j' s' m' e f h' g' I hr hN hN' he hf hc vy hs hm
    have b1 := zk_Ib I
    obtain ⟨N, rfl⟩ : ∃ k, N = k + 1 := ⟨N - 1, by omega⟩
    obtain ⟨N', rfl⟩ : ∃ k, N' = k + 1 := ⟨N' - 1, by omega⟩
    have t6 : (h'.1 19 5) = 6 := Classical.byContradiction fun z => by
      have := zk_lt I.1 (zk_notE I.1 z)
      omega
    show zk_G h0 g0 T n K LC m 20800 o _ (f_Ps_ladder_26 (f_Ps_ladder_L26 N) h' (nI s) y (nI c)) (f_Mo_ladder_17 (f_Mo_ladder_L17 N') g' (nI m))
    unfold f_Ps_ladder_26 f_Mo_ladder_17
    rw [if_neg (mt (zc_le (k := 16384) (by decide) (by omega)).mp (by omega)), if_neg (show ¬ (h'.1 19 5) = 167 by rw [t6]; decide), show f_Mo_isWord g' 39 = if (h'.1 19 5) = nI 167 then 1 else 0 from zk_word I.1 (c := 39) (by decide), if_neg (show ¬ (h'.1 19 5) = nI 167 by rw [t6]; decide), if_pos rfl]
    exact fin I hs hm
  | succ r ih =>
    intro N N' c y u LM' j' s' m' e f h' g' I hr hN hN' he hf hc vy hs hm
    have b1 := zk_Ib I
    have v0 := zk_Iv I
    obtain ⟨N, rfl⟩ : ∃ k, N = k + 2 := ⟨N - 2, by omega⟩
    obtain ⟨N', rfl⟩ : ∃ k, N' = k + 2 := ⟨N' - 2, by omega⟩
    show zk_G h0 g0 T n K LC m 20800 o _ (f_Ps_ladder_26 (f_Ps_ladder_L26 (N + 1)) h' (nI s) y (nI c)) (f_Mo_ladder_17 (f_Mo_ladder_L17 (N' + 1)) g' (nI m))
    unfold f_Ps_ladder_26 f_Mo_ladder_17
    rw [if_neg (mt (zc_le (k := 16384) (by decide) (by omega)).mp (by omega)), show f_Mo_isWord g' 39 = if (h'.1 19 5) = nI 167 then 1 else 0 from zk_word I.1 (c := 39) (by decide)]
    by_cases t167 : (h'.1 19 5) = 167
    · rw [if_pos t167, if_pos (show (h'.1 19 5) = nI 167 from t167), if_neg (show ¬ (1 : Int32) = 0 by decide)]
      obtain ⟨h1, g1', e1, e2, J⟩ := zk_I0 I.1 (b := m) (kd := 23) (kc := 23) (km := 23) (D := 4) (v := 0) (w := 0) (by omega) (by omega) (by omega) (by decide) rfl rfl (by rw [if_neg (by decide)])
      rw [e1, e2, zo_B, zo_B, zF_9]
      have v1 := zk_Iv J
      refine zk_sN J (by rw [J.1.2.2.2.1.2.2.1, ← I.1.2.2.2.1.2.2.1]; exact t167) (by decide) ?_ fun h2 g2 LM2 J2 => ?_
      · intro φ w hz gz z1 z2
        refine zk_Gf (φ := φ) (w := w) ?_ ?_
        · rw [zw_B]
          refine zw_mono (zz_row z1) ?_
          rintro _ ⟨_, _⟩
          repeat' first
            | with_reducible exact zw_some.mpr ⟨by assumption, by assumption⟩
            | (rw [zw_bind]; with_reducible refine zw_mono (zz_take (by assumption)) ?_; intro _ _)
            | (rw [zw_B]; with_reducible refine zw_mono (zz_constant (by assumption)) ?_; rintro _ ⟨_, _⟩)
            | (rw [zw_B]; with_reducible refine zw_mono (zz_simpleType (by assumption)) ?_; rintro _ ⟨_, _⟩)
            | (rw [zw_B]; with_reducible refine zw_mono (zz_type (by assumption)) ?_; rintro _ ⟨_, _⟩)
            | (rw [zw_B]; with_reducible refine zw_mono (zz_whole (by assumption)) ?_; rintro _ ⟨_, _⟩)
            | (rw [zw_B]; with_reducible refine zw_mono (zz_add (by assumption)) ?_; rintro _ ⟨_, _⟩)
            | (rw [zw_B]; with_reducible refine zw_mono (zz_hang (by assumption) (by assumption) (by first | assumption | exact zq_vl_n | exact zq_vl_v (by assumption)) (by assumption)) ?_; rintro _ ⟨_, _⟩)
            | rw [if_pos (zq_at (by assumption))]
            | rw [zz_isCell (by assumption), if_pos rfl]
            | rw [if_neg (zq_ne (by assumption) (by decide) (by decide))]
          exact zz_ladder_L85 (N := 18446744073709551607 + 8) (by assumption) (by assumption) (by assumption) (by assumption)
        · rw [zw_bind]
          exact zw_mono (zxb_row z2 (by omega) (by omega)) fun g' z => zw_mono (zxb_ladder_L48 (N := 18446744073709551607 + 8) z) fun g' z => ⟨m' + 1 + 1, by omega, z⟩
      have b2 := zk_Ib J2
      refine zk_sK (st' := 1) J2 (zk_row J2.1 (by omega) (by omega) (by omega)) (by decide) ?_ fun x4 h3 g3 u3 LM3 j3 s3 m3 v3 l3 J3 => ?_
      · intro φ w mz xz hz gz w1 w2 vz z1 z2
        refine zk_Gf (φ := φ) (w := w) ?_ ?_
        · repeat' first
            | with_reducible exact zw_some.mpr ⟨by assumption, by assumption⟩
            | (rw [zw_bind]; with_reducible refine zw_mono (zz_take (by assumption)) ?_; intro _ _)
            | (rw [zw_B]; with_reducible refine zw_mono (zz_constant (by assumption)) ?_; rintro _ ⟨_, _⟩)
            | (rw [zw_B]; with_reducible refine zw_mono (zz_simpleType (by assumption)) ?_; rintro _ ⟨_, _⟩)
            | (rw [zw_B]; with_reducible refine zw_mono (zz_type (by assumption)) ?_; rintro _ ⟨_, _⟩)
            | (rw [zw_B]; with_reducible refine zw_mono (zz_whole (by assumption)) ?_; rintro _ ⟨_, _⟩)
            | (rw [zw_B]; with_reducible refine zw_mono (zz_add (by assumption)) ?_; rintro _ ⟨_, _⟩)
            | (rw [zw_B]; with_reducible refine zw_mono (zz_hang (by assumption) (by assumption) (by first | assumption | exact zq_vl_n | exact zq_vl_v (by assumption)) (by assumption)) ?_; rintro _ ⟨_, _⟩)
            | rw [if_pos (zq_at (by assumption))]
            | rw [zz_isCell (by assumption), if_pos rfl]
            | rw [if_neg (zq_ne (by assumption) (by decide) (by decide))]
          exact zz_ladder_L85 (N := 18446744073709551607 + 8) (by assumption) (by assumption) (by assumption) (by assumption)
        · exact zw_mono (zxb_ladder_L48 (N := 18446744073709551607 + 8) z2) fun g' z => ⟨mz, by omega, z⟩
      refine zk_rngL (sl := s) (ml := m) v0 vy ?_ 10240 _ _ (c := 0) J3 (by omega) (by omega) (by omega) (by omega) (by omega) (by omega) v3 (by omega) (by omega) (by omega)
      intro h4 g4 R
      have vR := zk_Tv R
      obtain ⟨h5, u5, LM5, j5, s5, m5, e5, l5, I5⟩ := zk_Ic (st' := 0) I R (by decide)
      rw [e5, zo_B, nI_1]
      exact ih (N + 1) (N' + 1) (c := c + 1) I5 (by omega) (by omega) (by omega) he hf (by omega) (zq_vl_v vR) hs hm
    · rw [if_neg t167, if_neg (show ¬ (h'.1 19 5) = nI 167 from t167), if_pos rfl]
      exact fin I hs hm
theorem zk_ladder (H : zk_L h0 g0 T n K LC h g LM j d s m o q) {b : Nat} (hb : b < m) (ht : (h.1 19 5) = 165) (hs : s ≤ 2 * j + 12) (hm : m ≤ 2 * j + 12) : zk_G h0 g0 T n K LC m 20800 o (zk_T h0 g0 T n K LC LM (zg_T [22] 6) j d s m o q b h g) (f_Ps_ladder h) (f_Mo_ladder g (nI b)) := by
  have hK := zk_bK H
  unfold f_Ps_ladder f_Mo_ladder
  obtain ⟨h1, g1, e1, e2, I⟩ := zk_I0 H (b := b) (kd := 22) (kc := 22) (km := 22) (D := 5) (v := 0) (w := 0) (by omega) (by omega) hb (by decide) rfl rfl (by rw [if_neg (by decide)])
  rw [e1, e2, zo_B, zo_B, zF_9]
  have v0 := zk_Iv I
  refine zk_sN I (by rw [I.1.2.2.2.1.2.2.1, ← H.2.2.2.1.2.2.1]; exact ht) (by decide) ?_ fun h2 g2 LM2 I2 => ?_
  · intro φ w hz gz z1 z2
    refine zk_Gf (φ := φ) (w := w) (zz_ladder_L26 (N := 18446744073709551607 + 8) z1 v0) ?_
    exact zw_mono (zxb_ladder_L17 (N := 18446744073709551607 + 8) z2) fun g' z => ⟨m + 1, by omega, z⟩
  exact zk_ladL 10240 _ _ (c := 0) I2 (by omega) (by omega) (by omega) (by omega) (by omega) (by omega) zq_vl_n hs hm
end ZK
