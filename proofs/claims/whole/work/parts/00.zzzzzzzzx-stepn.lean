/-! The machine: one instruction of the model, the rest of straight code. -/
theorem yE_ixn {i : yI} {x : Int32} {s : Nat} (hs : i.2.2.2 = nI s) (h2 : s ≤ 100000) (h : ¬ yE_bad i x) : (x.toInt64 - i.2.2.1.toInt64).toInt32 = nI (yE_ix i x) := by
  unfold yE_bad at h
  rw [not_or, Classical.not_not, hs, zj_32 (by omega)] at h
  obtain ⟨h3, h4⟩ := h
  unfold yE_ix
  generalize x.toInt64 - i.2.2.1.toInt64 = v at h3 h4
  have h0 : 0 ≤ v.toInt := Int64.le_iff_toInt_le.mp (Int64.not_lt.mp h3)
  have h5 : v ≤ 1000000 := Int64.le_of_lt (Int64.lt_of_lt_of_le h4 ((zj_el (k := 1000000) (by decide) (by omega)).mpr (by omega)))
  obtain ⟨n, n1, n2⟩ := yc_ofN h0 h5
  have n2' : v = lN n := n2
  rw [n2', lN_i, nI_clamp (by omega)]
section YNR
variable {X Y : Nat → Nat} {kb : Nat → yK} {pl : Nat → Nat} {tm : Nat → Nat → (Nat → Int32) → Nat → Int32} {U : Nat → Nat → yE → yE × Nat} {R : zs_H → Int32 → Int32 → Option zs_H} {b base lo j s0 lv n : Nat} {g : zs_H} {i : yI} {c : Nat → Int32} {S : List Int32}
theorem yN_3 {v : Int32} {S1 : List Int32} (H : yN_b g b s0 j lv i c (v :: S1)) (e : i.1 = 3) {x s : Nat} (e1 : i.2.1 = nI x) (e2 : i.2.2.2 = nI s) (hx : base + x + s ≤ 8192) : yN_D R pl tm U g b base j n S1.length i c (v :: S1) := by
  obtain ⟨⟨h1, h2, h3, h4⟩, h5, ⟨h6, h6'⟩, h7, h8⟩ := H
  have h8' : S1.length + 1 < 1100 := h8
  obtain ⟨m1, m2, m3, m4⟩ := yN_as h4 (by omega)
  obtain ⟨p1, p2, p3, p4, p5, p6, p7, p8, p9, p10, p11, p12, p13, p14, p15, p16, p17, p18⟩ := yN_in (n := n + 1) (k := S1.length) h1 h2 h3 (by omega) m1 m2 m3 m4
  rw [e] at p15
  rw [e1] at p16
  have q6 : ((yN_g g (n + 1) S1.length).2.1 115) S1.length = v := h6
  unfold yN_D g_Mo_step yE_1
  simp (config := { decide := true }) only [e, if_false, if_true]
  rw [if_pos p1, p2, p3, if_pos p4, p5, p6, if_pos p7, p9, if_pos p10, p12, if_pos p13, p15, if_neg (by decide), if_neg (by decide), if_neg (by decide), if_pos (by decide), p8, q6, p17, p18, p16]
  by_cases z1 : v.toInt64 - i.2.2.1.toInt64 < 0
  · rw [if_pos z1, if_pos (show yE_bad i v from .inl z1)]
    obtain ⟨a1, a2⟩ := yN_stop (S1 := S1) (n := n) (o := 4) (v := -4) (.inr rfl) rfl h5
    exact ⟨_, by unfold f_Mo_step_222; rw [yN_551], a1, a2⟩
  rw [if_neg z1]
  by_cases z2 : v.toInt64 - i.2.2.1.toInt64 < i.2.2.2.toInt64
  · have nb : ¬ yE_bad i v := fun q => q.elim z1 (fun q => q z2)
    have il := yE_ixl e2 (by omega) nb
    rw [if_pos z2, if_neg nb, yE_ixn e2 (by omega) nb, nI_add, nI_add, if_pos (show (nI 3 : Int32) = 3 from rfl), if_pos (zi_in (by omega) (by omega)), nI_clamp (n := base + x + yE_ix i v) (by omega), show ((yN_g g (n + 1) S1.length).2.1 114) (base + x + yE_ix i v) = c (base + x + yE_ix i v) from h5 _ (by omega)]
    obtain ⟨g', a1, a2, a3⟩ := yN_push (n := n) (v := c (base + x + yE_ix i v)) h5 h6' h7 (by omega)
    exact ⟨g', by rw [a1, Option.bind_some, yN_551], a2, by rw [e1, nI_clamp (n := x) (by omega)]; exact yN_so a3⟩
  · rw [if_neg z2, if_pos (show yE_bad i v from .inr z2)]
    obtain ⟨a1, a2⟩ := yN_stop (S1 := S1) (n := n) (o := 4) (v := -4) (.inr rfl) rfl h5
    exact ⟨_, by unfold f_Mo_step_222; rw [yN_551], a1, a2⟩
theorem yN_4 {v y : Int32} {S1 : List Int32} (H : yN_b g b s0 j lv i c (y :: v :: S1)) (e : i.1 = 4) {x s : Nat} (e1 : i.2.1 = nI x) (e2 : i.2.2.2 = nI s) (hx : base + x + s ≤ 8192) : yN_D R pl tm U g b base j n S1.length i c (y :: v :: S1) := by
  obtain ⟨⟨h1, h2, h3, h4⟩, h5, ⟨h6y, h6, h6'⟩, h7, h8⟩ := H
  have h8' : S1.length + 1 + 1 < 1100 := h8
  obtain ⟨m1, m2, m3, m4⟩ := yN_as h4 (by omega)
  obtain ⟨p1, p2, p3, p4, p5, p6, p7, p8, p9, p10, p11, p12, p13, p14, p15, p16, p17, p18⟩ := yN_in (n := n + 1) (k := S1.length) h1 h2 h3 (by omega) m1 m2 m3 m4
  rw [e] at p15
  rw [e1] at p16
  have q6 : ((yN_g g (n + 1) S1.length).2.1 115) S1.length = v := h6
  have q7 : ((yN_g g (n + 1) S1.length).2.1 115) (S1.length + 1) = y := h6y
  unfold yN_D g_Mo_step yE_1
  simp (config := { decide := true }) only [e, if_false, if_true]
  rw [if_pos p1, p2, p3, if_pos p4, p5, p6, if_pos p7, p9, if_pos p10, p12, if_pos p13, p15, if_neg (by decide), if_neg (by decide), if_neg (by decide), if_neg (by decide), if_pos (by decide), p8, p11, q6, q7, p17, p18, p16]
  by_cases z1 : v.toInt64 - i.2.2.1.toInt64 < 0
  · rw [if_pos z1, if_pos (show yE_bad i v from .inl z1)]
    obtain ⟨a1, a2⟩ := yN_stop (S1 := S1) (n := n) (o := 4) (v := -4) (.inr rfl) rfl h5
    exact ⟨_, by unfold f_Mo_step_222; rw [yN_551], a1, a2⟩
  rw [if_neg z1]
  by_cases z2 : v.toInt64 - i.2.2.1.toInt64 < i.2.2.2.toInt64
  · have nb : ¬ yE_bad i v := fun q => q.elim z1 (fun q => q z2)
    have il := yE_ixl e2 (by omega) nb
    rw [if_pos z2, if_neg nb, yE_ixn e2 (by omega) nb, nI_add, nI_add, if_neg (show ¬ (nI 4 : Int32) = 3 by decide), if_pos (zi_in (by omega) (by omega)), nI_clamp (n := base + x + yE_ix i v) (by omega)]
    obtain ⟨a1, a2⟩ := yN_cell (n := n) (v := y) (p := base + x + yE_ix i v) h5 h6' h7
    exact ⟨_, by rw [yN_551], a1, by rw [e1, nI_clamp (n := x) (by omega)]; exact yN_so a2⟩
  · rw [if_neg z2, if_pos (show yE_bad i v from .inr z2)]
    obtain ⟨a1, a2⟩ := yN_stop (S1 := S1) (n := n) (o := 4) (v := -4) (.inr rfl) rfl h5
    exact ⟨_, by unfold f_Mo_step_222; rw [yN_551], a1, a2⟩
theorem yN_5 (H : yN_b g b s0 j lv i c S) (e : i.1 = 5) {u x : Nat} (e1 : i.2.1 = nI u) (e2 : i.2.2.1 = nI x) (hu : u < 2100) (ep : (g.2.1 89) u = nI (pl u)) (hx : pl u + x < 8192) : yN_D R pl tm U g b base j n S.length i c S := by
  obtain ⟨⟨h1, h2, h3, h4⟩, h5, h6, h7, h8⟩ := H
  obtain ⟨m1, m2, m3, m4⟩ := yN_as h4 (by omega)
  obtain ⟨p1, p2, p3, p4, p5, p6, p7, p8, p9, p10, p11, p12, p13, p14, p15, p16, p17, p18⟩ := yN_in (n := n + 1) (k := S.length) h1 h2 h3 (by omega) m1 m2 m3 m4
  rw [e] at p15
  rw [e1] at p16
  rw [e2] at p17
  obtain ⟨g', a1, a2, a3⟩ := yN_push (n := n) (v := c (pl u + x)) h5 h6 h7 (by omega)
  refine ⟨g', ?_, a2, ?_⟩
  · unfold g_Mo_step
    rw [if_pos p1, p2, p3, if_pos p4, p5, p6, if_pos p7, p9, if_pos p10, p12, if_pos p13, p15, if_neg (by decide), if_neg (by decide), if_neg (by decide), if_neg (by decide), if_neg (by decide), if_pos (by decide), p16, if_pos (zi_in (by omega) hu), nI_clamp (n := u) (by omega), p17, show ((yN_g g (n + 1) S.length).2.1 89) u = nI (pl u) from ep, nI_add, if_pos (zi_in (by omega) hx), nI_clamp (n := pl u + x) (by omega), show ((yN_g g (n + 1) S.length).2.1 114) (pl u + x) = c (pl u + x) from h5 _ hx, a1, Option.bind_some, yN_551]
  · unfold yE_1
    simp (config := { decide := true }) only [e, if_false, if_true, e1, e2, nI_clamp (show u < 2147483648 by omega), nI_clamp (show x < 2147483648 by omega)]
    exact yN_so a3
theorem yN_6 {v : Int32} {S1 : List Int32} (H : yN_b g b s0 j lv i c (v :: S1)) (e : i.1 = 6) {u x : Nat} (e1 : i.2.1 = nI u) (e2 : i.2.2.1 = nI x) (hu : u < 2100) (ep : (g.2.1 89) u = nI (pl u)) (hx : pl u + x < 8192) : yN_D R pl tm U g b base j n S1.length i c (v :: S1) := by
  obtain ⟨⟨h1, h2, h3, h4⟩, h5, ⟨h6, h6'⟩, h7, h8⟩ := H
  have h8' : S1.length + 1 < 1100 := h8
  obtain ⟨m1, m2, m3, m4⟩ := yN_as h4 (by omega)
  obtain ⟨p1, p2, p3, p4, p5, p6, p7, p8, p9, p10, p11, p12, p13, p14, p15, p16, p17, p18⟩ := yN_in (n := n + 1) (k := S1.length) h1 h2 h3 (by omega) m1 m2 m3 m4
  rw [e] at p15
  rw [e1] at p16
  rw [e2] at p17
  obtain ⟨a1, a2⟩ := yN_cell (n := n) (v := v) (p := pl u + x) h5 h6' h7
  refine ⟨_, ?_, a1, ?_⟩
  · unfold g_Mo_step
    rw [if_pos p1, p2, p3, if_pos p4, p5, p6, if_pos p7, p9, if_pos p10, p12, if_pos p13, p15, if_neg (by decide), if_neg (by decide), if_neg (by decide), if_neg (by decide), if_neg (by decide), if_neg (by decide), if_pos (by decide), p16, if_pos (zi_in (by omega) hu), nI_clamp (n := u) (by omega), p17, show ((yN_g g (n + 1) S1.length).2.1 89) u = nI (pl u) from ep, nI_add, if_pos (zi_in (by omega) hx), nI_clamp (n := pl u + x) (by omega), p8, show ((yN_g g (n + 1) S1.length).2.1 115) S1.length = v from h6, yN_551]
  · unfold yE_1
    simp (config := { decide := true }) only [e, if_false, if_true, e1, e2, nI_clamp (show u < 2147483648 by omega), nI_clamp (show x < 2147483648 by omega)]
    exact yN_so a2
theorem yN_7 {x y : Int32} {S1 : List Int32} (H : yN_b g b s0 j lv i c (y :: x :: S1)) (e : i.1 = 7) : yN_D R pl tm U g b base j n S1.length i c (y :: x :: S1) := by
  obtain ⟨⟨h1, h2, h3, h4⟩, h5, ⟨h6y, h6, h6'⟩, h7, h8⟩ := H
  have h8' : S1.length + 1 + 1 < 1100 := h8
  obtain ⟨m1, m2, m3, m4⟩ := yN_as h4 (by omega)
  obtain ⟨p1, p2, p3, p4, p5, p6, p7, p8, p9, p10, p11, p12, p13, p14, p15, p16, p17, p18⟩ := yN_in (n := n + 1) (k := S1.length) h1 h2 h3 (by omega) m1 m2 m3 m4
  rw [e] at p15
  have q6 : ((yN_g g (n + 1) S1.length).2.1 115) S1.length = x := h6
  have q7 : ((yN_g g (n + 1) S1.length).2.1 115) (S1.length + 1) = y := h6y
  unfold yN_D g_Mo_step yE_1
  simp (config := { decide := true }) only [e, if_false, if_true]
  rw [if_pos p1, p2, p3, if_pos p4, p5, p6, if_pos p7, p9, if_pos p10, p12, if_pos p13, p15, if_neg (by decide), if_neg (by decide), if_neg (by decide), if_neg (by decide), if_neg (by decide), if_neg (by decide), if_neg (by decide), if_pos (by decide), p8, p11, q6, q7, p16]
  have stop : f_Cd_isByZero i.2.1 y = 1 → ∃ g', f_Mo_step_363 (yN_g g (n + 1) S1.length) (nI j) = some (nI (j + 1), g') ∧ zfr yN_F yN_M [] g g' ∧ yN_o g' ((c, S1, n + 1), 3) := fun _ => by
    obtain ⟨a1, a2⟩ := yN_stop (S1 := S1) (n := n) (o := 3) (v := -3) (.inl rfl) rfl h5
    exact ⟨_, by unfold f_Mo_step_363; rw [yN_551], a1, a2⟩
  have go : f_Cd_isByZero i.2.1 y = 0 → ∃ g', f_Mo_step_372 (yN_g g (n + 1) S1.length) (nI j) i.2.1 x y = some (nI (j + 1), g') ∧ zfr yN_F yN_M [] g g' ∧ yN_o g' (match f_Cd_two i.2.1 x y with
      | some v => ((c, v :: S1, n + 1), 0)
      | none => ((c, y :: x :: S1, n), 5)) := fun hz => by
    obtain ⟨v, ev⟩ := yG_two (x := x) hz
    obtain ⟨g', a1, a2, a3⟩ := yN_push (n := n) (v := v) h5 h6' h7 (by omega)
    refine ⟨g', ?_, a2, by rw [ev]; exact yN_so a3⟩
    unfold f_Mo_step_372
    rw [yi_twoA (fun ⟨q1, q2⟩ => by
      unfold f_Cd_isByZero at hz
      rw [if_pos q1] at hz
      rcases q2 with q | q | q | q <;> rw [q] at hz <;> exact absurd hz (by decide)), ev, Option.bind_some, a1, Option.bind_some, yN_551]
  unfold f_Cd_isByZero at stop go ⊢
  by_cases hy : y = 0
  · rw [if_pos hy] at stop go ⊢
    rw [if_pos hy]
    by_cases k3 : i.2.1 = 3
    · rw [if_pos k3] at stop go ⊢; rw [if_pos k3, if_neg (by decide)]; exact stop rfl
    rw [if_neg k3] at stop go ⊢
    rw [if_neg k3]
    by_cases k4 : i.2.1 = 4
    · rw [if_pos k4] at stop go ⊢; rw [if_pos k4, if_neg (by decide)]; exact stop rfl
    rw [if_neg k4] at stop go ⊢
    rw [if_neg k4]
    by_cases k8 : i.2.1 = 8
    · rw [if_pos k8] at stop go ⊢; rw [if_pos k8, if_neg (by decide)]; exact stop rfl
    rw [if_neg k8] at stop go ⊢
    rw [if_neg k8]
    by_cases k9 : i.2.1 = 9
    · rw [if_pos k9] at stop go ⊢; rw [if_pos k9, if_neg (by decide)]; exact stop rfl
    · rw [if_neg k9] at stop go ⊢; rw [if_neg k9, if_pos rfl]; exact go rfl
  · rw [if_neg hy] at stop go ⊢
    rw [if_neg hy, if_pos rfl]
    exact go rfl
theorem yN_8 {v : Int32} {S1 : List Int32} (H : yN_b g b s0 j lv i c (v :: S1)) (e : i.1 = 8) : yN_D R pl tm U g b base j n S1.length i c (v :: S1) := by
  obtain ⟨⟨h1, h2, h3, h4⟩, h5, ⟨h6, h6'⟩, h7, h8⟩ := H
  have h8' : S1.length + 1 < 1100 := h8
  obtain ⟨m1, m2, m3, m4⟩ := yN_as h4 (by omega)
  obtain ⟨p1, p2, p3, p4, p5, p6, p7, p8, p9, p10, p11, p12, p13, p14, p15, p16, p17, p18⟩ := yN_in (n := n + 1) (k := S1.length) h1 h2 h3 (by omega) m1 m2 m3 m4
  rw [e] at p15
  obtain ⟨g', a1, a2, a3⟩ := yN_push (n := n) (v := f_Cd_one i.2.1 v) h5 h6' h7 (by omega)
  refine ⟨g', ?_, a2, ?_⟩
  · unfold g_Mo_step
    rw [if_pos p1, p2, p3, if_pos p4, p5, p6, if_pos p7, p9, if_pos p10, p12, if_pos p13, p15, if_neg (by decide), if_neg (by decide), if_neg (by decide), if_neg (by decide), if_neg (by decide), if_neg (by decide), if_neg (by decide), if_neg (by decide), if_pos (by decide), p16, p8, show ((yN_g g (n + 1) S1.length).2.1 115) S1.length = v from h6, yi_one, a1, Option.bind_some, yN_551]
  · unfold yE_1
    simp (config := { decide := true }) only [e, if_false, if_true]
    exact yN_so a3
theorem yN_9 {x y z : Int32} {S1 : List Int32} (H : yN_b g b s0 j lv i c (y :: x :: z :: S1)) (e : i.1 = 9) : yN_D R pl tm U g b base j n S1.length i c (y :: x :: z :: S1) := by
  obtain ⟨⟨h1, h2, h3, h4⟩, h5, ⟨h6y, h6x, h6z, h6'⟩, h7, h8⟩ := H
  have h8' : S1.length + 1 + 1 + 1 < 1100 := h8
  obtain ⟨m1, m2, m3, m4⟩ := yN_as h4 (by omega)
  obtain ⟨p1, p2, p3, p4, p5, p6, p7, p8, p9, p10, p11, p12, p13, p14, p15, p16, p17, p18⟩ := yN_in (n := n + 1) (k := S1.length) h1 h2 h3 (by omega) m1 m2 m3 m4
  rw [e] at p15
  obtain ⟨g', a1, a2, a3⟩ := yN_push (n := n) (v := if z = 0 then x else y) h5 h6' h7 (by omega)
  refine ⟨g', ?_, a2, ?_⟩
  · unfold g_Mo_step f_Mo_step_415
    rw [if_pos p1, p2, p3, if_pos p4, p5, p6, if_pos p7, p9, if_pos p10, p12, if_pos p13, p15, if_neg (by decide), if_neg (by decide), if_neg (by decide), if_neg (by decide), if_neg (by decide), if_neg (by decide), if_neg (by decide), if_neg (by decide), if_neg (by decide), if_pos (by decide), p8, p11, p14, show ((yN_g g (n + 1) S1.length).2.1 115) S1.length = z from h6z, show ((yN_g g (n + 1) S1.length).2.1 115) (S1.length + 1) = x from h6x, show ((yN_g g (n + 1) S1.length).2.1 115) (S1.length + 2) = y from h6y]
    by_cases q : z = 0
    · rw [if_pos q] at a1 ⊢; rw [a1, Option.bind_some, yN_551]
    · rw [if_neg q] at a1 ⊢; rw [a1, Option.bind_some, yN_551]
  · unfold yE_1
    simp (config := { decide := true }) only [e, if_false, if_true]
    exact yN_so a3
theorem yN_12 (H : yN_b g b s0 j lv i c S) (e : i.1 = 12) {x : Nat} (e1 : i.2.1 = nI x) (hx : base + x < 8192) : yN_D R pl tm U g b base j n S.length i c S := by
  obtain ⟨⟨h1, h2, h3, h4⟩, h5, h6, h7, h8⟩ := H
  obtain ⟨m1, m2, m3, m4⟩ := yN_as h4 (by omega)
  obtain ⟨p1, p2, p3, p4, p5, p6, p7, p8, p9, p10, p11, p12, p13, p14, p15, p16, p17, p18⟩ := yN_in (n := n + 1) (k := S.length) h1 h2 h3 (by omega) m1 m2 m3 m4
  rw [e] at p15
  rw [e1] at p16
  obtain ⟨a1, a2⟩ := yN_cell (n := n) (v := i.2.2.1) (p := base + x) h5 h6 h7
  refine ⟨_, ?_, a1, ?_⟩
  · unfold g_Mo_step
    rw [if_pos p1, p2, p3, if_pos p4, p5, p6, if_pos p7, p9, if_pos p10, p12, if_pos p13, p15, if_neg (by decide), if_neg (by decide), if_neg (by decide), if_neg (by decide), if_neg (by decide), if_neg (by decide), if_neg (by decide), if_neg (by decide), if_neg (by decide), if_neg (by decide), if_neg (by decide), if_neg (by decide), if_pos (by decide), p16, nI_add, if_pos (zi_in (by omega) hx), nI_clamp (n := base + x) (by omega), p17, yN_551]
  · unfold yE_1
    simp (config := { decide := true }) only [e, if_false, if_true, e1, nI_clamp (show x < 2147483648 by omega)]
    exact yN_so a2
end YNR
