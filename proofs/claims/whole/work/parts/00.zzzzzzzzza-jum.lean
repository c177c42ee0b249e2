/-! The machine: the model's jumps. -/
section YNJ
variable {R : zs_H → Int32 → Int32 → Option zs_H} {b base j s0 sz lv n N : Nat} {g : zs_H} {i : yI} {c : Nat → Int32} {S S1 : List Int32} {y : Int32}
theorem yN_jgo {t : Nat} (C : yD_c b s0 sz g) (hj : j < sz) (m : yM_m s0 g (s0 + j) (i, lv)) (e : i.1 = 10 ∨ i.1 = 14) (ea : i.2.1 = nI t) (ht : s0 ≤ t) (hs : yN_s g (c, S, n)) (hl : S.length < 1100) : f_Mo_go_L2 (g_Mo_step R) (N + 1) g (nI b) (nI base) (nI j) = f_Mo_go_L2 (g_Mo_step R) N (yN_g g (n + 1) S.length) (nI b) (nI base) (nI (t - s0)) := by
  have c1 := C.1
  have c2 := C.2.1
  have m1 : (g.2.1 104) (s0 + j) = nI i.1 := m.1
  have m2 : (g.2.1 105) (s0 + j) = nI (t - s0) := by
    rw [show (g.2.1 105) (s0 + j) = yM_A s0 i from m.2.1]
    unfold yM_A
    rw [if_pos (by omega), ea, zi_sub ht]
  obtain ⟨p1, p2, p3, p4, p5, p6, p7, p8, p9, p10, p11, p12, p13, p14, p15, p16, p17, p18⟩ := yN_in (n := n + 1) (k := S.length) (show b < 17 by omega) C.2.2.1 (show s0 + j < 4000 by omega) (by omega) m1 m2 rfl rfl
  have t0 : yo_t i.1 = 0 := by rcases e with e | e <;> rw [e] <;> rfl
  rw [yN_go C hj m (by omega) hs (by rw [t0]; exact Nat.zero_le _), t0, Nat.sub_zero]
  have st : g_Mo_step R (yN_g g (n + 1) S.length) (nI b) (nI j) (nI base) = some (nI (t - s0), yN_g g (n + 1) S.length) := by
    unfold g_Mo_step
    rcases e with e | e
    · rw [e] at p15
      rw [if_pos p1, p2, p3, if_pos p4, p5, p6, if_pos p7, p9, if_pos p10, p12, if_pos p13, p15, if_neg (by decide), if_neg (by decide), if_neg (by decide), if_neg (by decide), if_neg (by decide), if_neg (by decide), if_neg (by decide), if_neg (by decide), if_neg (by decide), if_neg (by decide), if_pos (by decide), p16]
    · rw [e] at p15
      rw [if_pos p1, p2, p3, if_pos p4, p5, p6, if_pos p7, p9, if_pos p10, p12, if_pos p13, p15, if_neg (by decide), if_neg (by decide), if_neg (by decide), if_neg (by decide), if_neg (by decide), if_neg (by decide), if_neg (by decide), if_neg (by decide), if_neg (by decide), if_neg (by decide), if_neg (by decide), if_neg (by decide), if_neg (by decide), if_neg (by decide), if_pos (by decide), p16]
  rw [st]
  rfl
theorem yN_jlv (C : yD_c b s0 sz g) (hj : j < sz) (m : yM_m s0 g (s0 + j) (i, lv)) (e : i.1 = 18) (hs : yN_s g (c, S, n)) (hl : S.length < 1100) : f_Mo_go_L2 (g_Mo_step R) (N + 1) g (nI b) (nI base) (nI j) = f_Mo_go_L2 (g_Mo_step R) N (yN_g g (n + 1) S.length) (nI b) (nI base) (nI sz) := by
  have c1 := C.1
  have c2 := C.2.1
  have m1 : (g.2.1 104) (s0 + j) = nI i.1 := m.1
  obtain ⟨p1, p2, p3, p4, p5, p6, p7, p8, p9, p10, p11, p12, p13, p14, p15, p16, p17, p18⟩ := yN_in (n := n + 1) (k := S.length) (show b < 17 by omega) C.2.2.1 (show s0 + j < 4000 by omega) (by omega) m1 rfl rfl rfl
  have t0 : yo_t i.1 = 0 := by rw [e]; rfl
  rw [yN_go C hj m (by omega) hs (by rw [t0]; exact Nat.zero_le _), t0, Nat.sub_zero]
  have C2 : yD_c b s0 sz (yN_g g (n + 1) S.length) := C
  have st : g_Mo_step R (yN_g g (n + 1) S.length) (nI b) (nI j) (nI base) = some (nI sz, yN_g g (n + 1) S.length) := by
    unfold g_Mo_step
    rw [e] at p15
    rw [if_pos p1, p2, p3, if_pos p4, p5, p6, if_pos p7, p9, if_pos p10, p12, if_pos p13, p15, if_neg (by decide), if_neg (by decide), if_neg (by decide), if_neg (by decide), if_neg (by decide), if_neg (by decide), if_neg (by decide), if_neg (by decide), if_neg (by decide), if_neg (by decide), if_neg (by decide), if_neg (by decide), if_neg (by decide), if_neg (by decide), if_neg (by decide), if_neg (by decide), if_neg (by decide), if_neg (by decide), yV_sz C2, Option.bind_some]
  rw [st]
  rfl
theorem yN_jun {t : Nat} (C : yD_c b s0 sz g) (hj : j < sz) (m : yM_m s0 g (s0 + j) (i, lv)) (e : i.1 = 11) (ea : i.2.1 = nI t) (ht : s0 ≤ t) (hs : yN_s g (c, y :: S1, n)) (hl : S1.length < 1100) : f_Mo_go_L2 (g_Mo_step R) (N + 1) g (nI b) (nI base) (nI j) = f_Mo_go_L2 (g_Mo_step R) N (yN_g g (n + 1) S1.length) (nI b) (nI base) (if y = 0 then nI (t - s0) else nI (j + 1)) := by
  have c1 := C.1
  have c2 := C.2.1
  have m1 : (g.2.1 104) (s0 + j) = nI i.1 := m.1
  have m2 : (g.2.1 105) (s0 + j) = nI (t - s0) := by
    rw [show (g.2.1 105) (s0 + j) = yM_A s0 i from m.2.1]
    unfold yM_A
    rw [if_pos (by omega), ea, zi_sub ht]
  obtain ⟨p1, p2, p3, p4, p5, p6, p7, p8, p9, p10, p11, p12, p13, p14, p15, p16, p17, p18⟩ := yN_in (n := n + 1) (k := S1.length) (show b < 17 by omega) C.2.2.1 (show s0 + j < 4000 by omega) (by omega) m1 m2 rfl rfl
  have t1 : yo_t i.1 = 1 := by rw [e]; rfl
  rw [yN_go C hj m (by omega) hs (by rw [t1, List.length_cons]; omega), t1, show (y :: S1).length - 1 = S1.length from rfl]
  have q6 : ((yN_g g (n + 1) S1.length).2.1 115) S1.length = y := hs.2.2.1.1
  have st : g_Mo_step R (yN_g g (n + 1) S1.length) (nI b) (nI j) (nI base) = some (if y = 0 then nI (t - s0) else nI (j + 1), yN_g g (n + 1) S1.length) := by
    unfold g_Mo_step
    rw [e] at p15
    rw [if_pos p1, p2, p3, if_pos p4, p5, p6, if_pos p7, p9, if_pos p10, p12, if_pos p13, p15, if_neg (by decide), if_neg (by decide), if_neg (by decide), if_neg (by decide), if_neg (by decide), if_neg (by decide), if_neg (by decide), if_neg (by decide), if_neg (by decide), if_neg (by decide), if_neg (by decide), if_pos (by decide), p8, q6, p16, show nI j + 1 = nI (j + 1) from zc_ad 1 j]
    by_cases z : y = 0
    · rw [if_pos z, if_pos z]
    · rw [if_neg z, if_neg z]
  rw [st]
  rfl
theorem yN_jnx {t x : Nat} (C : yD_c b s0 sz g) (hj : j < sz) (m : yM_m s0 g (s0 + j) (i, lv)) (e : i.1 = 13) (ea : i.2.1 = nI t) (eb : i.2.2.1 = nI x) (ht : s0 ≤ t) (hx : base + x < 8192) (hs : yN_s g (c, S, n)) (hl : S.length < 1100) : f_Mo_go_L2 (g_Mo_step R) (N + 1) g (nI b) (nI base) (nI j) = (if c (base + x) = 0 then f_Mo_go_L2 (g_Mo_step R) N (yN_g g (n + 1) S.length) (nI b) (nI base) (nI (t - s0)) else f_Mo_go_L2 (g_Mo_step R) N (zs_uM (yN_g g (n + 1) S.length) 114 (base + x) (c (base + x) - 1)) (nI b) (nI base) (nI (j + 1))) := by
  have c1 := C.1
  have c2 := C.2.1
  have m1 : (g.2.1 104) (s0 + j) = nI i.1 := m.1
  have m2 : (g.2.1 105) (s0 + j) = nI x := by
    rw [show (g.2.1 105) (s0 + j) = yM_A s0 i from m.2.1]
    unfold yM_A
    rw [if_neg (by omega), if_pos e, eb]
  have m3 : (g.2.1 106) (s0 + j) = nI (t - s0) := by
    rw [show (g.2.1 106) (s0 + j) = yM_B s0 i from m.2.2.1]
    unfold yM_B
    rw [if_pos e, ea, zi_sub ht]
  obtain ⟨p1, p2, p3, p4, p5, p6, p7, p8, p9, p10, p11, p12, p13, p14, p15, p16, p17, p18⟩ := yN_in (n := n + 1) (k := S.length) (show b < 17 by omega) C.2.2.1 (show s0 + j < 4000 by omega) (by omega) m1 m2 m3 rfl
  have t0 : yo_t i.1 = 0 := by rw [e]; rfl
  rw [yN_go C hj m (by omega) hs (by rw [t0]; exact Nat.zero_le _), t0, Nat.sub_zero]
  have q : ((yN_g g (n + 1) S.length).2.1 114) (base + x) = c (base + x) := hs.1 _ hx
  have st : g_Mo_step R (yN_g g (n + 1) S.length) (nI b) (nI j) (nI base) = (if c (base + x) = 0 then some (nI (t - s0), yN_g g (n + 1) S.length) else some (nI (j + 1), zs_uM (yN_g g (n + 1) S.length) 114 (base + x) (c (base + x) - 1))) := by
    unfold g_Mo_step
    rw [e] at p15
    rw [if_pos p1, p2, p3, if_pos p4, p5, p6, if_pos p7, p9, if_pos p10, p12, if_pos p13, p15, if_neg (by decide), if_neg (by decide), if_neg (by decide), if_neg (by decide), if_neg (by decide), if_neg (by decide), if_neg (by decide), if_neg (by decide), if_neg (by decide), if_neg (by decide), if_neg (by decide), if_neg (by decide), if_neg (by decide), if_pos (by decide), p16, nI_add, if_pos (zi_in (by omega) hx), nI_clamp (n := base + x) (by omega), q, p17, yN_551]
  rw [st]
  by_cases z : c (base + x) = 0
  · rw [if_pos z, if_pos z]; rfl
  · rw [if_neg z, if_neg z]; rfl
end YNJ
