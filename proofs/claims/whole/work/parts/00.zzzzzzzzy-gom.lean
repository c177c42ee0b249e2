/-! The machine: the model's calls; straight code of a unit. -/
/-- the model runs units below b -/
def yN_U (X : Nat → Nat) (kb : Nat → yK) (pl : Nat → Nat) (b : Nat) (U : Nat → Nat → yE → yE × Nat) (R : zs_H → Int32 → Int32 → Option zs_H) (g0 : zs_H) : Prop := ∀ (u base : Nat) (s : yE) (g : zs_H), u < b → zfr yN_F yN_M [] g0 g → yN_s g s → s.2.1.length + 64 * (u + 1) ≤ 1088 → base + X u ≤ 8192 → yE_dj X kb pl u base → yS_g kb u base s.1 → ∃ g', R g (nI u) (nI base) = some g' ∧ zfr yN_F yN_M [] g g' ∧ yN_o g' (U u base s)
/-- and standard blocks -/
def yN_t (tm : Nat → Nat → (Nat → Int32) → Nat → Int32) (g0 : zs_H) : Prop := ∀ (k at_ : Nat) (c : Nat → Int32) (g : zs_H), zfr yN_F yN_M [] g0 g → k < 9 → at_ + (zt_2.getD k 0).toNatClampNeg ≤ 8192 → (k = 2 → c (at_ + 2) = 0 ∨ c (at_ + 2) = 1) → (∀ j, j < 8192 → (g.2.1 114) j = c j) → ∃ g', f_Mo_timers g (nI k) (nI at_) = some g' ∧ (∀ j, j < 8192 → (g'.2.1 114) j = tm k at_ c j) ∧ zfr [] [114] [] g g'
section YNG
variable {X Y : Nat → Nat} {kb : Nat → yK} {pl : Nat → Nat} {tm : Nat → Nat → (Nat → Int32) → Nat → Int32} {U : Nat → Nat → yE → yE × Nat} {R : zs_H → Int32 → Int32 → Option zs_H} {b base lo j s0 lv n : Nat} {g g0 : zs_H} {i : yI} {c : Nat → Int32} {S : List Int32}
theorem yN_gs (hc : ∀ j, j < 8192 → (g.2.1 114) j = c j) (hk : yE_k ((g.2.1 115)) S) (h0 : (g.1 68 75) = 0) : yN_s (yN_g g (n + 1) S.length) (c, S, n + 1) ∧ zfr yN_F yN_M [] g (yN_g g (n + 1) S.length) := ⟨⟨hc, rfl, hk, rfl, h0⟩, zfr_F (by decide) (zfr_F (by decide) zfr_rfl)⟩
theorem yN_15 (H : yN_b g b s0 j lv i c S) (e : i.1 = 15) {u x : Nat} (e1 : i.2.1 = nI u) (e2 : i.2.2.1 = nI x) (hu : u < 100) (hx : x < 100000) (r : ∃ g', R (yN_g g (n + 1) S.length) (nI u) (nI (base + x)) = some g' ∧ zfr yN_F yN_M [] (yN_g g (n + 1) S.length) g' ∧ yN_o g' (U u (base + x) (c, S, n + 1))) : yN_D R pl tm U g b base j n S.length i c S := by
  obtain ⟨⟨h1, h2, h3, h4⟩, h5, h6, h7, h8⟩ := H
  obtain ⟨m1, m2, m3, m4⟩ := yN_as h4 (by omega)
  obtain ⟨p1, p2, p3, p4, p5, p6, p7, p8, p9, p10, p11, p12, p13, p14, p15, p16, p17, p18⟩ := yN_in (n := n + 1) (k := S.length) h1 h2 h3 (by omega) m1 m2 m3 m4
  rw [e] at p15
  rw [e1] at p16
  rw [e2] at p17
  obtain ⟨g', a1, a2, a3⟩ := r
  refine ⟨g', ?_, zfr_trans (yN_gs (n := n) h5 h6 h7).2 a2, ?_⟩
  · unfold g_Mo_step
    rw [if_pos p1, p2, p3, if_pos p4, p5, p6, if_pos p7, p9, if_pos p10, p12, if_pos p13, p15, if_neg (by decide), if_neg (by decide), if_neg (by decide), if_neg (by decide), if_neg (by decide), if_neg (by decide), if_neg (by decide), if_neg (by decide), if_neg (by decide), if_neg (by decide), if_neg (by decide), if_neg (by decide), if_neg (by decide), if_neg (by decide), if_neg (by decide), if_pos (by decide), p16, p17, nI_add, a1, Option.bind_some, yN_551]
  · unfold yE_1
    simp (config := { decide := true }) only [e, if_false, if_true, e1, e2, nI_clamp (show x < 2147483648 by omega), nI_clamp (show u < 2147483648 by omega)]
    exact a3
theorem yN_16 (H : yN_b g b s0 j lv i c S) (e : i.1 = 16) {u : Nat} (e1 : i.2.1 = nI u) (hu : u < 100) (ep : (g.2.1 89) u = nI (pl u)) (r : ∃ g', R (yN_g g (n + 1) S.length) (nI u) (nI (pl u)) = some g' ∧ zfr yN_F yN_M [] (yN_g g (n + 1) S.length) g' ∧ yN_o g' (U u (pl u) (c, S, n + 1))) : yN_D R pl tm U g b base j n S.length i c S := by
  obtain ⟨⟨h1, h2, h3, h4⟩, h5, h6, h7, h8⟩ := H
  obtain ⟨m1, m2, m3, m4⟩ := yN_as h4 (by omega)
  obtain ⟨p1, p2, p3, p4, p5, p6, p7, p8, p9, p10, p11, p12, p13, p14, p15, p16, p17, p18⟩ := yN_in (n := n + 1) (k := S.length) h1 h2 h3 (by omega) m1 m2 m3 m4
  rw [e] at p15
  rw [e1] at p16
  obtain ⟨g', a1, a2, a3⟩ := r
  refine ⟨g', ?_, zfr_trans (yN_gs (n := n) h5 h6 h7).2 a2, ?_⟩
  · unfold g_Mo_step
    rw [if_pos p1, p2, p3, if_pos p4, p5, p6, if_pos p7, p9, if_pos p10, p12, if_pos p13, p15, if_neg (by decide), if_neg (by decide), if_neg (by decide), if_neg (by decide), if_neg (by decide), if_neg (by decide), if_neg (by decide), if_neg (by decide), if_neg (by decide), if_neg (by decide), if_neg (by decide), if_neg (by decide), if_neg (by decide), if_neg (by decide), if_neg (by decide), if_neg (by decide), if_pos (by decide), p16, if_pos (zi_in (by omega) (by omega)), nI_clamp (n := u) (by omega), show ((yN_g g (n + 1) S.length).2.1 89) u = nI (pl u) from ep, a1, Option.bind_some, yN_551]
  · unfold yE_1
    simp (config := { decide := true }) only [e, if_false, if_true, e1, nI_clamp (show u < 2147483648 by omega)]
    exact a3
theorem yN_17 (H : yN_b g b s0 j lv i c S) (e : i.1 = 17) (ht : yN_t tm g0) (f : zfr yN_F yN_M [] g0 g) {k x : Nat} (e1 : i.2.1 = nI k) (e2 : i.2.2.1 = nI x) (hk : k < 9) (hx : base + x + (zt_2.getD k 0).toNatClampNeg ≤ 8192) (h2' : k = 2 → c (base + x + 2) = 0 ∨ c (base + x + 2) = 1) : yN_D R pl tm U g b base j n S.length i c S := by
  obtain ⟨⟨h1, h2, h3, h4⟩, h5, h6, h7, h8⟩ := H
  obtain ⟨m1, m2, m3, m4⟩ := yN_as h4 (by omega)
  obtain ⟨p1, p2, p3, p4, p5, p6, p7, p8, p9, p10, p11, p12, p13, p14, p15, p16, p17, p18⟩ := yN_in (n := n + 1) (k := S.length) h1 h2 h3 (by omega) m1 m2 m3 m4
  rw [e] at p15
  rw [e1] at p16
  rw [e2] at p17
  obtain ⟨q1, q2⟩ := yN_gs (n := n) h5 h6 h7
  obtain ⟨g', a1, a2, a3⟩ := ht k (base + x) c (yN_g g (n + 1) S.length) (zfr_trans f q2) hk hx h2' h5
  refine ⟨g', ?_, zfr_trans q2 (zfr_w a3 (by decide) (by decide) (by decide)), ?_⟩
  · unfold g_Mo_step
    rw [if_pos p1, p2, p3, if_pos p4, p5, p6, if_pos p7, p9, if_pos p10, p12, if_pos p13, p15, if_neg (by decide), if_neg (by decide), if_neg (by decide), if_neg (by decide), if_neg (by decide), if_neg (by decide), if_neg (by decide), if_neg (by decide), if_neg (by decide), if_neg (by decide), if_neg (by decide), if_neg (by decide), if_neg (by decide), if_neg (by decide), if_neg (by decide), if_neg (by decide), if_neg (by decide), if_pos (by decide), p16, p17, nI_add, a1, Option.bind_some, yN_551]
  · unfold yE_1
    simp (config := { decide := true }) only [e, if_false, if_true, e1, e2, nI_clamp (show x < 2147483648 by omega), nI_clamp (show k < 2147483648 by omega)]
    refine yN_so ⟨a2, (a3.1 _ _ (by decide)).trans rfl, ?_, (a3.1 _ _ (by decide)).trans rfl, (a3.1 _ _ (by decide)).trans h7⟩
    rw [a3.2.1 _ (by decide)]
    exact h6
/-- the hypotheses of a block -/
def yN_h (X Y : Nat → Nat) (kb : Nat → yK) (pl : Nat → Nat) (tm : Nat → Nat → (Nat → Int32) → Nat → Int32) (b base : Nat) (U : Nat → Nat → yE → yE × Nat) (R : zs_H → Int32 → Int32 → Option zs_H) (g0 : zs_H) : Prop := b < 16 ∧ (Y b ≤ X b ∧ base + X b ≤ 8192) ∧ yN_U X kb pl b U R g0 ∧ yN_t tm g0 ∧ (∀ u, u < b → (kb u).1 = 1 → yE_dj X kb pl u (pl u) ∧ (0 < X u ∧ pl u + X u ≤ 8192) ∧ (g0.2.1 89) u = nI (pl u)) ∧ yE_dj X kb pl b base ∧ yS_h X Y kb pl tm b base U
theorem yN_any (H : yN_h X Y kb pl tm b base U R g0) (f : zfr yN_F yN_M [] g0 g) (hb : yN_b g b s0 j lv i c S) (W : yw_i X Y kb b lo i) (ht : yo_t i.1 ≤ S.length) (hl : S.length + 64 * b ≤ 1088) (G : yS_g kb b base c) : yN_D R pl tm U g b base j n (S.length - yo_t i.1) i c S := by
  obtain ⟨H1, ⟨H2, H3⟩, H4, H5, H6, H7, H8⟩ := H
  have bp : ∀ u, u < b → (kb u).1 = 1 → (g.2.1 89) u = nI (pl u) := fun u h1 h2 => by rw [f.2.1 _ (by decide)]; exact (H6 u h1 h2).2.2
  have gs := yN_gs (n := n) hb.2.1 hb.2.2.1 hb.2.2.2.1
  have cut : ∀ k, i.1 = k → k ≤ 19 → yo_t k = 0 → S.length - yo_t i.1 = S.length := fun k h1 _ h2 => by rw [h1, h2]; rfl
  rcases W with W | ⟨e, x, e1, W⟩ | ⟨e, x, s, e1, e2, W⟩ | ⟨e, u, x, e1, e2, W1, W2, W3⟩ | ⟨e, B', x, e1, e2, W1, W2⟩
  · rcases W with e | e | ⟨e, x, e1, W⟩ | ⟨e, x, s, e1, e2, W⟩ | ⟨e, e2, u, e1, W1, W2⟩ | ⟨e, u, x, e1, e2, W1, W2, W3⟩ | ⟨e, _⟩ | ⟨e, _⟩ | ⟨e, u, e1, W1, W2⟩
    · rw [cut 0 e (by decide) rfl]; exact yN_0 hb e
    · rw [e] at ht ⊢
      obtain ⟨x1, A1, rfl, l1⟩ := yG_c1 (A := S) (Nat.le_trans (by decide) ht)
      have ht1 : 3 ≤ A1.length + 1 := ht
      obtain ⟨x2, A2, rfl, l2⟩ := yG_c1 (A := A1) (by omega)
      have ht2 : 3 ≤ A2.length + 1 + 1 := ht
      obtain ⟨x3, A3, rfl, l3⟩ := yG_c1 (A := A2) (by omega)
      exact yN_9 hb e
    · rw [cut 1 e (by decide) rfl]; exact yN_1 hb e e1 (by omega)
    · rw [e] at ht ⊢
      obtain ⟨x1, A1, rfl, l1⟩ := yG_c1 (A := S) ht
      exact yN_3 hb e e1 e2 (by omega)
    · rw [cut 5 e (by decide) rfl]
      exact yN_5 (x := 0) hb e e1 (by rw [e2]; rfl) (by omega) (bp u W1 W2) (by have := (H6 u W1 W2).2.1; omega)
    · rw [e] at ht ⊢
      obtain ⟨x1, A1, rfl, l1⟩ := yG_c1 (A := S) ht
      exact yN_6 hb e e1 e2 (by omega) (bp u W1 W2) (by have := (H6 u W1 W2).2.1; omega)
    · rw [e] at ht ⊢
      obtain ⟨x1, A1, rfl, l1⟩ := yG_c1 (A := S) (Nat.le_trans (by decide) ht)
      have ht1 : 2 ≤ A1.length + 1 := ht
      obtain ⟨x2, A2, rfl, l2⟩ := yG_c1 (A := A1) (by omega)
      exact yN_7 hb e
    · rw [e] at ht ⊢
      obtain ⟨x1, A1, rfl, l1⟩ := yG_c1 (A := S) ht
      exact yN_8 hb e
    · rw [cut 16 e (by decide) rfl]
      obtain ⟨d1, d2, d3⟩ := H6 u W1 W2
      exact yN_16 hb e e1 (by omega) (bp u W1 W2) (H4 u (pl u) (c, S, n + 1) (yN_g g (n + 1) S.length) W1 (zfr_trans f gs.2) gs.1 (by show S.length + _ ≤ _; omega) d2.2 d1 (yS_16 H8 W1 W2 (s := (c, S, n + 1)) G).1)
  · rw [e] at ht ⊢
    obtain ⟨x1, A1, rfl, l1⟩ := yG_c1 (A := S) ht
    exact yN_2 hb e e1 (by omega)
  · rw [e] at ht ⊢
    obtain ⟨x1, A1, rfl, l1⟩ := yG_c1 (A := S) (Nat.le_trans (by decide) ht)
    have ht1 : 2 ≤ A1.length + 1 := ht
    obtain ⟨x2, A2, rfl, l2⟩ := yG_c1 (A := A1) (by omega)
    exact yN_4 hb e e1 e2 (by omega)
  · rw [cut 15 e (by decide) rfl]
    exact yN_15 hb e e1 e2 (by omega) (by omega) (H4 u (base + x) (c, S, n + 1) (yN_g g (n + 1) S.length) W1 (zfr_trans f gs.2) gs.1 (by show S.length + _ ≤ _; omega) (by omega) (fun w hw hk => by
      rcases H7 w (by omega) hk with z | z
      · exact .inl (by omega)
      · exact .inr (by omega)) (yS_15 H8 W1 W3.1 W3.2 (s := (c, S, n + 1)) G).1)
  · rw [cut 17 e (by decide) rfl]
    exact yN_17 hb e H5 f e1 e2 W1 (by omega) (yS_17 H8 W1 W2.1 W2.2 G).1
end YNG
