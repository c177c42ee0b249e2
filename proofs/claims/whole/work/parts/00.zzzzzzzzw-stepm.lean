/-! The machine: one instruction of the model. -/
def yN_s (g : zs_H) (s : yE) : Prop := (∀ j, j < 8192 → (g.2.1 114) j = s.1 j) ∧ (g.1 68 76) = nI s.2.1.length ∧ yE_k ((g.2.1 115)) s.2.1 ∧ (g.1 68 74) = nI s.2.2 ∧ (g.1 68 75) = 0
abbrev yN_F : List (Nat × Nat) := [(68, 74), (68, 76), (68, 75)]
abbrev yN_M : List Nat := [114, 115]
/-- how a run ends -/
def yN_o (g' : zs_H) (r : yE × Nat) : Prop := (r.2 = 0 → yN_s g' r.1) ∧ (r.2 = 3 ∨ r.2 = 4 → (g'.1 68 75) = (if r.2 = 3 then -3 else -4) ∧ (∀ j, j < 8192 → (g'.2.1 114) j = r.1.1 j) ∧ (g'.1 68 74) = nI r.1.2.2)
section YNS
variable {X Y : Nat → Nat} {kb : Nat → yK} {pl : Nat → Nat} {tm : Nat → Nat → (Nat → Int32) → Nat → Int32} {U : Nat → Nat → yE → yE × Nat} {R : zs_H → Int32 → Int32 → Option zs_H} {b base lo j s0 lv n : Nat} {g : zs_H} {i : yI} {c : Nat → Int32} {S : List Int32}
/-- behind the count of steps and what is taken -/
def yN_g (g : zs_H) (n k : Nat) : zs_H := zs_uF (zs_uF g 68 74 (nI n)) 68 76 (nI k)
theorem yN_push {S1 : List Int32} {v : Int32} (hc : ∀ j, j < 8192 → (g.2.1 114) j = c j) (hk : yE_k ((g.2.1 115)) S1) (h0 : (g.1 68 75) = 0) (hl : S1.length < 1200) : ∃ g', f_Mo_lay (yN_g g (n + 1) S1.length) v = some g' ∧ zfr yN_F yN_M [] g g' ∧ yN_s g' (c, v :: S1, n + 1) := by
  unfold f_Mo_lay
  rw [show ((yN_g g (n + 1) S1.length).1 68 76) = nI S1.length from rfl, if_pos (zi_in (by omega) hl), nI_clamp (by omega), show nI S1.length + 1 = nI (S1.length + 1) from zc_ad 1 _]
  refine ⟨_, rfl, zfr_F (by decide) (zfr_M (by decide) (zfr_F (by decide) (zfr_F (by decide) zfr_rfl))), ?_, rfl, ?_, rfl, h0⟩
  · intro j hj
    exact (zu_MM.trans (if_neg fun z => absurd z.1 (by decide))).trans (hc j hj)
  · refine yE_kp hk (zu_MM.trans (if_pos ⟨rfl, rfl⟩)) (fun j hj => zu_MM.trans (if_neg fun z => hj z.2))
theorem yN_cell {S1 : List Int32} {v : Int32} {p : Nat} (hc : ∀ j, j < 8192 → (g.2.1 114) j = c j) (hk : yE_k ((g.2.1 115)) S1) (h0 : (g.1 68 75) = 0) : zfr yN_F yN_M [] g (zs_uM (yN_g g (n + 1) S1.length) 114 p v) ∧ yN_s (zs_uM (yN_g g (n + 1) S1.length) 114 p v) (yE_u c p v, S1, n + 1) := by
  refine ⟨zfr_M (by decide) (zfr_F (by decide) (zfr_F (by decide) zfr_rfl)), fun j hj => ?_, rfl, yE_kf (fun j _ => zu_MM.trans (if_neg fun z => absurd z.1 (by decide))) hk, rfl, h0⟩
  show (zs_uM (yN_g g (n + 1) S1.length) 114 p v).2.1 114 j = if j = p then v else c j
  refine zu_MM.trans ?_
  by_cases z : j = p
  · rw [if_pos ⟨rfl, z⟩, if_pos z]
  · rw [if_neg (fun w => z w.2), if_neg z]; exact hc j hj
theorem yN_stop {S1 : List Int32} {v : Int32} {o : Nat} (ho : o = 3 ∨ o = 4) (hv : v = if o = 3 then -3 else -4) (hc : ∀ j, j < 8192 → (g.2.1 114) j = c j) : zfr yN_F yN_M [] g (zs_uF (yN_g g (n + 1) S1.length) 68 75 v) ∧ yN_o (zs_uF (yN_g g (n + 1) S1.length) 68 75 v) ((c, S1, n + 1), o) :=
  ⟨zfr_F (by decide) (zfr_F (by decide) (zfr_F (by decide) zfr_rfl)), fun z => (by have z' : o = 0 := z; omega), fun _ => ⟨hv, hc, rfl⟩⟩
theorem yN_so {s : yE} (h : yN_s g s) : yN_o g (s, 0) := ⟨fun _ => h, fun z => absurd z (show ¬ ((0 : Nat) = 3 ∨ (0 : Nat) = 4) by decide)⟩
/-- the beginning of a step -/
theorem yN_in {op a bb cc : Int32} {k : Nat} (hb : b < 17) (hbg : (g.2.1 103) b = nI s0) (hs : s0 + j < 4000) (hk : k + 2 < 1200) (e1 : (g.2.1 104) (s0 + j) = op) (e2 : (g.2.1 105) (s0 + j) = a) (e3 : (g.2.1 106) (s0 + j) = bb) (e4 : (g.2.1 107) (s0 + j) = cc) : zd_in (nI b) 17 ∧ (nI b).toNatClampNeg = b ∧ ((yN_g g n k).2.1 103) b + nI j = nI (s0 + j) ∧ zd_in (nI (s0 + j)) 4000 ∧ (nI (s0 + j)).toNatClampNeg = s0 + j ∧ ((yN_g g n k).1 68 76) = nI k ∧ zd_in (nI k) 1200 ∧ (nI k).toNatClampNeg = k ∧ nI k + 1 = nI (k + 1) ∧ zd_in (nI (k + 1)) 1200 ∧ (nI (k + 1)).toNatClampNeg = k + 1 ∧ nI k + 2 = nI (k + 2) ∧ zd_in (nI (k + 2)) 1200 ∧ (nI (k + 2)).toNatClampNeg = k + 2 ∧ ((yN_g g n k).2.1 104) (s0 + j) = op ∧ ((yN_g g n k).2.1 105) (s0 + j) = a ∧ ((yN_g g n k).2.1 106) (s0 + j) = bb ∧ ((yN_g g n k).2.1 107) (s0 + j) = cc :=
  ⟨zi_in (by omega) hb, nI_clamp (by omega), by show (g.2.1 103) b + nI j = _; rw [hbg, nI_add], zi_in (by omega) hs, nI_clamp (by omega), rfl, zi_in (by omega) (by omega), nI_clamp (by omega), zc_ad 1 k, zi_in (by omega) (by omega), nI_clamp (by omega), zc_ad 2 k, zi_in (by omega) (by omega), nI_clamp (by omega), e1, e2, e3, e4⟩
theorem yN_551 (g' : zs_H) : f_Mo_step_551 g' (nI j) = some (nI (j + 1), g') := by
  unfold f_Mo_step_551; rw [show nI j + 1 = nI (j + 1) from zc_ad 1 j]
/-- what is known when a step begins -/
def yN_b (g : zs_H) (b s0 j lv : Nat) (i : yI) (c : Nat → Int32) (S : List Int32) : Prop := (b < 17 ∧ (g.2.1 103) b = nI s0 ∧ s0 + j < 4000 ∧ yM_m s0 g (s0 + j) (i, lv)) ∧ (∀ j, j < 8192 → (g.2.1 114) j = c j) ∧ yE_k ((g.2.1 115)) S ∧ (g.1 68 75) = 0 ∧ S.length < 1100
theorem yN_as (m : yM_m s0 g (s0 + j) (i, lv)) (h : ¬ i.1 = 10 ∧ ¬ i.1 = 11 ∧ ¬ i.1 = 13 ∧ ¬ i.1 = 14) : (g.2.1 104) (s0 + j) = nI i.1 ∧ (g.2.1 105) (s0 + j) = i.2.1 ∧ (g.2.1 106) (s0 + j) = i.2.2.1 ∧ (g.2.1 107) (s0 + j) = i.2.2.2 := by
  refine ⟨m.1, ?_, ?_, m.2.2.2.1⟩
  · rw [show (g.2.1 105) (s0 + j) = yM_A s0 i from m.2.1]; unfold yM_A; rw [if_neg (by omega), if_neg h.2.2.1]
  · rw [show (g.2.1 106) (s0 + j) = yM_B s0 i from m.2.2.1]; unfold yM_B; rw [if_neg h.2.2.1]
def yN_D (R : zs_H → Int32 → Int32 → Option zs_H) (pl : Nat → Nat) (tm : Nat → Nat → (Nat → Int32) → Nat → Int32) (U : Nat → Nat → yE → yE × Nat) (g : zs_H) (b base j n k : Nat) (i : yI) (c : Nat → Int32) (S : List Int32) : Prop := ∃ g', g_Mo_step R (yN_g g (n + 1) k) (nI b) (nI j) (nI base) = some (nI (j + 1), g') ∧ zfr yN_F yN_M [] g g' ∧ yN_o g' (yE_1 pl tm U base i (c, S, n))
theorem yN_0 (H : yN_b g b s0 j lv i c S) (e : i.1 = 0) : yN_D R pl tm U g b base j n S.length i c S := by
  obtain ⟨⟨h1, h2, h3, h4⟩, h5, h6, h7, h8⟩ := H
  obtain ⟨m1, m2, m3, m4⟩ := yN_as h4 (by omega)
  obtain ⟨p1, p2, p3, p4, p5, p6, p7, p8, p9, p10, p11, p12, p13, p14, p15, p16, p17, p18⟩ := yN_in (n := n + 1) (k := S.length) h1 h2 h3 (by omega) m1 m2 m3 m4
  rw [e] at p15
  obtain ⟨g', a1, a2, a3⟩ := yN_push (n := n) (v := i.2.1) h5 h6 h7 (by omega)
  refine ⟨g', ?_, a2, ?_⟩
  · unfold g_Mo_step
    rw [if_pos p1, p2, p3, if_pos p4, p5, p6, if_pos p7, p9, if_pos p10, p12, if_pos p13, p15, if_pos (by decide), p16, a1, Option.bind_some, yN_551]
  · unfold yE_1
    rw [if_pos e]
    exact yN_so a3
theorem yN_1 (H : yN_b g b s0 j lv i c S) (e : i.1 = 1) {x : Nat} (e1 : i.2.1 = nI x) (hx : base + x < 8192) : yN_D R pl tm U g b base j n S.length i c S := by
  obtain ⟨⟨h1, h2, h3, h4⟩, h5, h6, h7, h8⟩ := H
  obtain ⟨m1, m2, m3, m4⟩ := yN_as h4 (by omega)
  obtain ⟨p1, p2, p3, p4, p5, p6, p7, p8, p9, p10, p11, p12, p13, p14, p15, p16, p17, p18⟩ := yN_in (n := n + 1) (k := S.length) h1 h2 h3 (by omega) m1 m2 m3 m4
  rw [e] at p15
  rw [e1] at p16
  obtain ⟨g', a1, a2, a3⟩ := yN_push (n := n) (v := c (base + x)) h5 h6 h7 (by omega)
  refine ⟨g', ?_, a2, ?_⟩
  · unfold g_Mo_step
    rw [if_pos p1, p2, p3, if_pos p4, p5, p6, if_pos p7, p9, if_pos p10, p12, if_pos p13, p15, if_neg (by decide), if_pos (by decide), p16, nI_add, if_pos (zi_in (by omega) hx), nI_clamp (n := base + x) (by omega), show ((yN_g g (n + 1) S.length).2.1 114) (base + x) = c (base + x) from h5 _ hx, a1, Option.bind_some, yN_551]
  · unfold yE_1
    simp (config := { decide := true }) only [e, if_false, if_true, e1, nI_clamp (show x < 2147483648 by omega)]
    exact yN_so a3
theorem yN_2 {v : Int32} {S1 : List Int32} (H : yN_b g b s0 j lv i c (v :: S1)) (e : i.1 = 2) {x : Nat} (e1 : i.2.1 = nI x) (hx : base + x < 8192) : yN_D R pl tm U g b base j n S1.length i c (v :: S1) := by
  obtain ⟨⟨h1, h2, h3, h4⟩, h5, ⟨h6, h6'⟩, h7, h8⟩ := H
  have h8' : S1.length + 1 < 1100 := h8
  obtain ⟨m1, m2, m3, m4⟩ := yN_as h4 (by omega)
  obtain ⟨p1, p2, p3, p4, p5, p6, p7, p8, p9, p10, p11, p12, p13, p14, p15, p16, p17, p18⟩ := yN_in (n := n + 1) (k := S1.length) h1 h2 h3 (by omega) m1 m2 m3 m4
  rw [e] at p15
  rw [e1] at p16
  obtain ⟨a1, a2⟩ := yN_cell (n := n) (v := v) (p := base + x) h5 h6' h7
  refine ⟨_, ?_, a1, ?_⟩
  · unfold g_Mo_step
    rw [if_pos p1, p2, p3, if_pos p4, p5, p6, if_pos p7, p9, if_pos p10, p12, if_pos p13, p15, if_neg (by decide), if_neg (by decide), if_pos (by decide), p16, nI_add, if_pos (zi_in (by omega) hx), nI_clamp (n := base + x) (by omega), p8, show ((yN_g g (n + 1) S1.length).2.1 115) S1.length = v from h6, yN_551]
  · unfold yE_1
    simp (config := { decide := true }) only [e, if_false, if_true, e1, nI_clamp (show x < 2147483648 by omega)]
    exact yN_so a2
end YNS
