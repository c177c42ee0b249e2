section
/-! A scan: inputs, outputs. -/
def yY_in (i : Nat) : Nat := if i < 256 then i else 512 + i
def yY_ou (i : Nat) : Nat := if i < 256 then 256 + i else 576 + i
/-- what is in and out -/
def yY_io (h g : zs_H) : Prop := ∀ i, i < 320 → ((h.2.1 59) (yY_in i) = (g.2.1 118) i ∧ (h.2.1 60) (yY_ou i) = (g.2.1 119) i ∧ (h.2.1 61) (yY_ou i) = (g.2.1 120) i) ∧ (i < 256 → yJ_01 ((g.2.1 118) i) ∧ yJ_01 ((g.2.1 119) i) ∧ yJ_01 ((g.2.1 120) i))
section YYS
variable {h g : zs_H}
theorem yY_c39 : ∀ (m x N : Nat) (h : zs_H), x + m = 832 → m < N → ∃ h', f_Mc_takeInputs_L39 N h (nI x) = some h' ∧ zfr [] [62] [] h h' ∧ ∀ j, (h'.2.1 62) j = if x ≤ j ∧ j < 832 then (h.2.1 59) j else (h.2.1 62) j := by
  intro m
  induction m with
  | zero =>
    intro x N h e hN
    obtain ⟨N, rfl⟩ : ∃ z, N = z + 1 := ⟨N - 1, by omega⟩
    refine ⟨h, ?_, zfr_rfl, fun j => by rw [if_neg (by omega)]⟩
    show f_Mc_takeInputs_39 (f_Mc_takeInputs_L39 N) h (nI x) = _
    unfold f_Mc_takeInputs_39
    rw [if_pos ((zc_le (k := 832) (by decide) (by omega)).mpr (by omega))]
  | succ m ih =>
    intro x N h e hN
    obtain ⟨N, rfl⟩ : ∃ z, N = z + 1 := ⟨N - 1, by omega⟩
    obtain ⟨h', a1, a2, a3⟩ := ih (x + 1) N (zs_uM h 62 x ((h.2.1 59) x)) (by omega) (by omega)
    refine ⟨h', ?_, zfr_trans (zfr_M (by decide) zfr_rfl) a2, fun j => ?_⟩
    · show f_Mc_takeInputs_39 (f_Mc_takeInputs_L39 N) h (nI x) = _
      unfold f_Mc_takeInputs_39
      rw [if_neg (mt (zc_le (k := 832) (by decide) (by omega)).mp (by omega)), if_pos (zi_in (by omega) (by omega)), if_pos (zi_in (by omega) (by omega)), nI_clamp (by omega), show nI x + 1 = nI (x + 1) from zc_ad 1 x]
      exact a1
    · have g1 : ((zs_uM h 62 x ((h.2.1 59) x)).2.1 59) j = (h.2.1 59) j := zu_MM.trans (if_neg fun z => absurd z.1 (by decide))
      have g2 : ((zs_uM h 62 x ((h.2.1 59) x)).2.1 62) j = if j = x then (h.2.1 59) x else (h.2.1 62) j := zu_MM.trans (by
        by_cases z : j = x
        · rw [if_pos ⟨rfl, z⟩, if_pos z]
        · rw [if_neg (fun w => z w.2), if_neg z])
      rw [a3 j, g1, g2]
      by_cases z : j = x
      · subst z
        rw [if_neg (by omega), if_pos rfl, if_pos (by omega)]
      · by_cases y : x + 1 ≤ j ∧ j < 832
        · rw [if_pos y, if_pos (by omega)]
        · rw [if_neg y, if_neg z, if_neg (by omega)]
theorem yY_c6 : ∀ (m x N : Nat) (h : zs_H), x + m = 256 → m < N → ∃ h', f_Mc_takeInputs_L6 N h (nI x) = some h' ∧ zfr [] [62] [] h h' ∧ ∀ j, (h'.2.1 62) j = if (x ≤ j ∧ j < 256) ∨ (768 ≤ j ∧ j < 832) then (h.2.1 59) j else (h.2.1 62) j := by
  have hz := zF_big
  intro m
  induction m with
  | zero =>
    intro x N h e hN
    obtain ⟨N, rfl⟩ : ∃ z, N = z + 1 := ⟨N - 1, by omega⟩
    obtain ⟨h', a1, a2, a3⟩ := yY_c39 64 768 zF h (by omega) (by omega)
    refine ⟨h', ?_, a2, fun j => ?_⟩
    · show f_Mc_takeInputs_6 (f_Mc_takeInputs_L6 N) h (nI x) = _
      unfold f_Mc_takeInputs_6
      rw [if_pos ((zc_le (k := 256) (by decide) (by omega)).mpr (by omega))]
      exact a1
    · rw [a3 j]
      by_cases y : 768 ≤ j ∧ j < 832
      · rw [if_pos y, if_pos (.inr y)]
      · rw [if_neg y, if_neg (by omega)]
  | succ m ih =>
    intro x N h e hN
    obtain ⟨N, rfl⟩ : ∃ z, N = z + 1 := ⟨N - 1, by omega⟩
    obtain ⟨h', a1, a2, a3⟩ := ih (x + 1) N (zs_uM h 62 x ((h.2.1 59) x)) (by omega) (by omega)
    refine ⟨h', ?_, zfr_trans (zfr_M (by decide) zfr_rfl) a2, fun j => ?_⟩
    · show f_Mc_takeInputs_6 (f_Mc_takeInputs_L6 N) h (nI x) = _
      unfold f_Mc_takeInputs_6
      rw [if_neg (mt (zc_le (k := 256) (by decide) (by omega)).mp (by omega)), if_pos (zi_in (by omega) (by omega)), if_pos (zi_in (by omega) (by omega)), nI_clamp (by omega), show nI x + 1 = nI (x + 1) from zc_ad 1 x]
      exact a1
    · have g1 : ((zs_uM h 62 x ((h.2.1 59) x)).2.1 59) j = (h.2.1 59) j := zu_MM.trans (if_neg fun z => absurd z.1 (by decide))
      have g2 : ((zs_uM h 62 x ((h.2.1 59) x)).2.1 62) j = if j = x then (h.2.1 59) x else (h.2.1 62) j := zu_MM.trans (by
        by_cases z : j = x
        · rw [if_pos ⟨rfl, z⟩, if_pos z]
        · rw [if_neg (fun w => z w.2), if_neg z])
      rw [a3 j, g1, g2]
      by_cases z : j = x
      · subst z
        rw [if_neg (by omega), if_pos rfl, if_pos (by omega)]
      · by_cases y : (x + 1 ≤ j ∧ j < 256) ∨ (768 ≤ j ∧ j < 832)
        · rw [if_pos y, if_pos (by omega)]
        · rw [if_neg y, if_neg z, if_neg (by omega)]
theorem yY_m45 : ∀ (m x : Nat) (g : zs_H), x + m = 320 → ∃ g', (∀ N, f_Mo_scan_L45 (N + m) g (nI x) = f_Mo_scan_L45 N g' (nI 320)) ∧ zfr [] [114] [] g g' ∧ ∀ j, (g'.2.1 114) j = if (x ≤ j ∧ j < 256) ∨ (768 ≤ j ∧ j < 832 ∧ x + 512 ≤ j) then (g.2.1 118) (if j < 256 then j else j - 512) else (g.2.1 114) j := by
  intro m
  induction m with
  | zero =>
    intro x g e
    have : x = 320 := by omega
    subst this
    exact ⟨g, fun N => rfl, zfr_rfl, fun j => by rw [if_neg (by omega)]⟩
  | succ m ih =>
    intro x g e
    obtain ⟨g', a1, a2, a3⟩ := ih (x + 1) (zs_uM g 114 (yY_in x) ((g.2.1 118) x)) (by omega)
    have hin : yY_in x < 832 ∧ (x < 256 → yY_in x = x) ∧ (256 ≤ x → yY_in x = 512 + x) := by
      unfold yY_in
      split <;> omega
    refine ⟨g', fun N => ?_, zfr_trans (zfr_M (by decide) zfr_rfl) a2, fun j => ?_⟩
    · rw [← a1 N]
      show f_Mo_scan_45 (f_Mo_scan_L45 (N + m)) g (nI x) = _
      unfold f_Mo_scan_45 f_Mo_scan_76
      rw [if_neg (mt (zc_le (k := 320) (by decide) (by omega)).mp (by omega))]
      by_cases z : 256 ≤ x
      · rw [if_pos ((zc_le (k := 256) (by decide) (by omega)).mpr z), if_pos (zi_in (by omega) (by omega)), nI_clamp (n := x) (by omega), show (768 : Int32) + nI x - 256 = nI (512 + x) by
          rw [show (768 : Int32) + nI x = nI (768 + x) from zc_da 768 x]
          have := zi_sub (a := 768 + x) (b := 256) (by omega)
          rw [show 768 + x - 256 = 512 + x by omega] at this
          exact this, if_pos (zi_in (by omega) (by omega)), nI_clamp (n := 512 + x) (by omega), hin.2.2 z, show nI x + 1 = nI (x + 1) from zc_ad 1 x]
      · rw [if_neg (mt (zc_le (k := 256) (by decide) (by omega)).mp z), if_pos (zi_in (by omega) (by omega)), if_pos (zi_in (by omega) (by omega)), nI_clamp (n := x) (by omega), hin.2.1 (by omega), show nI x + 1 = nI (x + 1) from zc_ad 1 x]
    · have g1 : ∀ k, ((zs_uM g 114 (yY_in x) ((g.2.1 118) x)).2.1 118) k = (g.2.1 118) k := fun k => zu_MM.trans (if_neg fun z => absurd z.1 (by decide))
      have g2 : ((zs_uM g 114 (yY_in x) ((g.2.1 118) x)).2.1 114) j = if j = yY_in x then (g.2.1 118) x else (g.2.1 114) j := zu_MM.trans (by
        by_cases z : j = yY_in x
        · rw [if_pos ⟨rfl, z⟩, if_pos z]
        · rw [if_neg (fun w => z w.2), if_neg z])
      rw [a3 j, g1, g2]
      by_cases z : j = yY_in x
      · have key : (if j < 256 then j else j - 512) = x ∧ (¬ ((x + 1 ≤ j ∧ j < 256) ∨ (768 ≤ j ∧ j < 832 ∧ x + 1 + 512 ≤ j))) ∧ ((x ≤ j ∧ j < 256) ∨ (768 ≤ j ∧ j < 832 ∧ x + 512 ≤ j)) := by
          rcases Nat.lt_or_ge x 256 with q | q
          · have := hin.2.1 q
            rw [if_pos (show j < 256 by omega)]
            omega
          · have := hin.2.2 q
            rw [if_neg (show ¬ j < 256 by omega)]
            omega
        rw [if_neg key.2.1, if_pos z, if_pos key.2.2, key.1]
      · have key : ((x ≤ j ∧ j < 256) ∨ (768 ≤ j ∧ j < 832 ∧ x + 512 ≤ j)) ↔ ((x + 1 ≤ j ∧ j < 256) ∨ (768 ≤ j ∧ j < 832 ∧ x + 1 + 512 ≤ j)) := by
          rcases Nat.lt_or_ge x 256 with q | q
          · have := hin.2.1 q
            omega
          · have := hin.2.2 q
            omega
        by_cases y : (x + 1 ≤ j ∧ j < 256) ∨ (768 ≤ j ∧ j < 832 ∧ x + 1 + 512 ≤ j)
        · rw [if_pos y, if_pos (key.mpr y)]
        · rw [if_neg y, if_neg z, if_neg (mt key.mp y)]
/-- inputs, on both sides -/
theorem yY_take (io : yY_io h g) {c : Nat → Int32} (c1 : ∀ j, j < 8192 → (h.2.1 62) j = c j) (c2 : ∀ j, j < 8192 → (g.2.1 114) j = c j) : ∃ (h' g' : zs_H) (c' : Nat → Int32), f_Mc_takeInputs h = some h' ∧ (∀ N, f_Mo_scan_L45 (N + 320) g (nI 0) = f_Mo_scan_L45 N g' (nI 320)) ∧ zfr [] [62] [] h h' ∧ zfr [] [114] [] g g' ∧ (∀ j, j < 8192 → (h'.2.1 62) j = c' j) ∧ (∀ j, j < 8192 → (g'.2.1 114) j = c' j) ∧ yJ_9 c c' := by
  have hz := zF_big
  obtain ⟨h', a1, a2, a3⟩ := yY_c6 256 0 zF h (by omega) (by omega)
  obtain ⟨g', b1, b2, b3⟩ := yY_m45 320 0 g (by omega)
  refine ⟨h', g', fun j => if (0 ≤ j ∧ j < 256) ∨ (768 ≤ j ∧ j < 832) then (h.2.1 59) j else c j, a1, b1, a2, b2, fun j hj => ?_, fun j hj => ?_, fun j hj => by
    show (if (0 ≤ j ∧ j < 256) ∨ (768 ≤ j ∧ j < 832) then _ else _) = _
    rw [if_neg (by omega)], fun j hj => by
    show (if (0 ≤ j ∧ j < 256) ∨ (768 ≤ j ∧ j < 832) then (h.2.1 59) j else c j) = c j ∨ yJ_01 (if (0 ≤ j ∧ j < 256) ∨ (768 ≤ j ∧ j < 832) then (h.2.1 59) j else c j)
    by_cases z : j < 256
    · have q := io j (by omega)
      rw [if_pos (by omega), show (h.2.1 59) j = (g.2.1 118) j from (by have := q.1.1; rwa [show yY_in j = j from if_pos z] at this)]
      exact .inr (q.2 z).1
    · rw [if_neg (by omega)]; exact .inl rfl⟩
  · rw [a3 j, c1 j hj]
  · rw [b3 j, c2 j hj]
    by_cases z : (0 ≤ j ∧ j < 256) ∨ (768 ≤ j ∧ j < 832)
    · rw [if_pos (by omega)]
      show _ = if _ then _ else _
      rw [if_pos z]
      by_cases y : j < 256
      · have := (io j (by omega)).1.1
        rw [if_pos y, ← this]
        unfold yY_in
        rw [if_pos y]
      · have := (io (j - 512) (by omega)).1.1
        rw [if_neg y, ← this]
        unfold yY_in
        rw [if_neg (by omega), show 512 + (j - 512) = j by omega]
    · rw [if_neg (by omega)]
      show _ = if _ then _ else _
      rw [if_neg z]
theorem yY_p2 : ∀ (m x N : Nat) (h : zs_H), x + m = 896 → 832 ≤ x → m < N → ∃ h', f_Mc_publish_c62_L36 N h (nI x) = some h' ∧ zfr [] [60] [] h h' ∧ ∀ j, (h'.2.1 60) j = if x ≤ j ∧ j < 896 then (h.2.1 62) j else (h.2.1 60) j := by
  intro m
  induction m with
  | zero =>
    intro x N h e hx hN
    obtain ⟨N, rfl⟩ : ∃ z, N = z + 1 := ⟨N - 1, by omega⟩
    refine ⟨h, ?_, zfr_rfl, fun j => by rw [if_neg (by omega)]⟩
    show f_Mc_publish_c62_36 (f_Mc_publish_c62_L36 N) h (nI x) = _
    unfold f_Mc_publish_c62_36
    rw [if_pos ((zc_le (k := 896) (by decide) (by omega)).mpr (by omega))]
  | succ m ih =>
    intro x N h e hx hN
    obtain ⟨N, rfl⟩ : ∃ z, N = z + 1 := ⟨N - 1, by omega⟩
    obtain ⟨h', a1, a2, a3⟩ := ih (x + 1) N (zs_uM h 60 x ((h.2.1 62) x)) (by omega) (by omega) (by omega)
    refine ⟨h', ?_, zfr_trans (zfr_M (by decide) zfr_rfl) a2, fun j => ?_⟩
    · show f_Mc_publish_c62_36 (f_Mc_publish_c62_L36 N) h (nI x) = _
      unfold f_Mc_publish_c62_36
      rw [if_neg (mt (zc_le (k := 896) (by decide) (by omega)).mp (by omega)), if_pos (zi_in (by omega) (by omega)), if_pos (zi_in (by omega) (by omega)), nI_clamp (by omega), show nI x + 1 = nI (x + 1) from zc_ad 1 x]
      exact a1
    · have g1 : ((zs_uM h 60 x ((h.2.1 62) x)).2.1 62) j = (h.2.1 62) j := zu_MM.trans (if_neg fun z => absurd z.1 (by decide))
      have g2 : ((zs_uM h 60 x ((h.2.1 62) x)).2.1 60) j = if j = x then (h.2.1 62) x else (h.2.1 60) j := zu_MM.trans (by
        by_cases z : j = x
        · rw [if_pos ⟨rfl, z⟩, if_pos z]
        · rw [if_neg (fun w => z w.2), if_neg z])
      rw [a3 j, g1, g2]
      by_cases z : j = x
      · subst z
        rw [if_neg (by omega), if_pos rfl, if_pos (by omega)]
      · by_cases y : x + 1 ≤ j ∧ j < 896
        · rw [if_pos y, if_pos (by omega)]
        · rw [if_neg y, if_neg z, if_neg (by omega)]
theorem yY_q2 : ∀ (m x N : Nat) (h : zs_H), x + m = 512 → 256 ≤ x → m < N → ∃ h', f_Mc_publish_c62_L6 N h (nI x) = some h' ∧ zfr [] [60] [] h h' ∧ ∀ j, (h'.2.1 60) j = if (x ≤ j ∧ j < 512) ∨ (832 ≤ j ∧ j < 896) then (h.2.1 62) j else (h.2.1 60) j := by
  have hz := zF_big
  intro m
  induction m with
  | zero =>
    intro x N h e hx hN
    obtain ⟨N, rfl⟩ : ∃ z, N = z + 1 := ⟨N - 1, by omega⟩
    obtain ⟨h', a1, a2, a3⟩ := yY_p2 64 832 zF h (by omega) (by omega) (by omega)
    refine ⟨h', ?_, a2, fun j => ?_⟩
    · show f_Mc_publish_c62_6 (f_Mc_publish_c62_L6 N) h (nI x) = _
      unfold f_Mc_publish_c62_6
      rw [if_pos ((zc_le (k := 512) (by decide) (by omega)).mpr (by omega))]
      exact a1
    · rw [a3 j]
      by_cases y : 832 ≤ j ∧ j < 896
      · rw [if_pos y, if_pos (.inr y)]
      · rw [if_neg y, if_neg (by omega)]
  | succ m ih =>
    intro x N h e hx hN
    obtain ⟨N, rfl⟩ : ∃ z, N = z + 1 := ⟨N - 1, by omega⟩
    obtain ⟨h', a1, a2, a3⟩ := ih (x + 1) N (zs_uM h 60 x ((h.2.1 62) x)) (by omega) (by omega) (by omega)
    refine ⟨h', ?_, zfr_trans (zfr_M (by decide) zfr_rfl) a2, fun j => ?_⟩
    · show f_Mc_publish_c62_6 (f_Mc_publish_c62_L6 N) h (nI x) = _
      unfold f_Mc_publish_c62_6
      rw [if_neg (mt (zc_le (k := 512) (by decide) (by omega)).mp (by omega)), if_pos (zi_in (by omega) (by omega)), if_pos (zi_in (by omega) (by omega)), nI_clamp (by omega), show nI x + 1 = nI (x + 1) from zc_ad 1 x]
      exact a1
    · have g1 : ((zs_uM h 60 x ((h.2.1 62) x)).2.1 62) j = (h.2.1 62) j := zu_MM.trans (if_neg fun z => absurd z.1 (by decide))
      have g2 : ((zs_uM h 60 x ((h.2.1 62) x)).2.1 60) j = if j = x then (h.2.1 62) x else (h.2.1 60) j := zu_MM.trans (by
        by_cases z : j = x
        · rw [if_pos ⟨rfl, z⟩, if_pos z]
        · rw [if_neg (fun w => z w.2), if_neg z])
      rw [a3 j, g1, g2]
      by_cases z : j = x
      · subst z
        rw [if_neg (by omega), if_pos rfl, if_pos (by omega)]
      · by_cases y : (x + 1 ≤ j ∧ j < 512) ∨ (832 ≤ j ∧ j < 896)
        · rw [if_pos y, if_pos (by omega)]
        · rw [if_neg y, if_neg z, if_neg (by omega)]
theorem yY_p1 : ∀ (m x N : Nat) (h : zs_H), x + m = 896 → 832 ≤ x → m < N → ∃ h', f_Mc_publish_c61_L36 N h (nI x) = some h' ∧ zfr [] [60] [] h h' ∧ ∀ j, (h'.2.1 60) j = if x ≤ j ∧ j < 896 then (h.2.1 61) j else (h.2.1 60) j := by
  intro m
  induction m with
  | zero =>
    intro x N h e hx hN
    obtain ⟨N, rfl⟩ : ∃ z, N = z + 1 := ⟨N - 1, by omega⟩
    refine ⟨h, ?_, zfr_rfl, fun j => by rw [if_neg (by omega)]⟩
    show f_Mc_publish_c61_36 (f_Mc_publish_c61_L36 N) h (nI x) = _
    unfold f_Mc_publish_c61_36
    rw [if_pos ((zc_le (k := 896) (by decide) (by omega)).mpr (by omega))]
  | succ m ih =>
    intro x N h e hx hN
    obtain ⟨N, rfl⟩ : ∃ z, N = z + 1 := ⟨N - 1, by omega⟩
    obtain ⟨h', a1, a2, a3⟩ := ih (x + 1) N (zs_uM h 60 x ((h.2.1 61) x)) (by omega) (by omega) (by omega)
    refine ⟨h', ?_, zfr_trans (zfr_M (by decide) zfr_rfl) a2, fun j => ?_⟩
    · show f_Mc_publish_c61_36 (f_Mc_publish_c61_L36 N) h (nI x) = _
      unfold f_Mc_publish_c61_36
      rw [if_neg (mt (zc_le (k := 896) (by decide) (by omega)).mp (by omega)), if_pos (zi_in (by omega) (by omega)), nI_clamp (by omega), show nI x + 1 = nI (x + 1) from zc_ad 1 x]
      exact a1
    · have g1 : ((zs_uM h 60 x ((h.2.1 61) x)).2.1 61) j = (h.2.1 61) j := zu_MM.trans (if_neg fun z => absurd z.1 (by decide))
      have g2 : ((zs_uM h 60 x ((h.2.1 61) x)).2.1 60) j = if j = x then (h.2.1 61) x else (h.2.1 60) j := zu_MM.trans (by
        by_cases z : j = x
        · rw [if_pos ⟨rfl, z⟩, if_pos z]
        · rw [if_neg (fun w => z w.2), if_neg z])
      rw [a3 j, g1, g2]
      by_cases z : j = x
      · subst z
        rw [if_neg (by omega), if_pos rfl, if_pos (by omega)]
      · by_cases y : x + 1 ≤ j ∧ j < 896
        · rw [if_pos y, if_pos (by omega)]
        · rw [if_neg y, if_neg z, if_neg (by omega)]
theorem yY_q1 : ∀ (m x N : Nat) (h : zs_H), x + m = 512 → 256 ≤ x → m < N → ∃ h', f_Mc_publish_c61_L6 N h (nI x) = some h' ∧ zfr [] [60] [] h h' ∧ ∀ j, (h'.2.1 60) j = if (x ≤ j ∧ j < 512) ∨ (832 ≤ j ∧ j < 896) then (h.2.1 61) j else (h.2.1 60) j := by
  have hz := zF_big
  intro m
  induction m with
  | zero =>
    intro x N h e hx hN
    obtain ⟨N, rfl⟩ : ∃ z, N = z + 1 := ⟨N - 1, by omega⟩
    obtain ⟨h', a1, a2, a3⟩ := yY_p1 64 832 zF h (by omega) (by omega) (by omega)
    refine ⟨h', ?_, a2, fun j => ?_⟩
    · show f_Mc_publish_c61_6 (f_Mc_publish_c61_L6 N) h (nI x) = _
      unfold f_Mc_publish_c61_6
      rw [if_pos ((zc_le (k := 512) (by decide) (by omega)).mpr (by omega))]
      exact a1
    · rw [a3 j]
      by_cases y : 832 ≤ j ∧ j < 896
      · rw [if_pos y, if_pos (.inr y)]
      · rw [if_neg y, if_neg (by omega)]
  | succ m ih =>
    intro x N h e hx hN
    obtain ⟨N, rfl⟩ : ∃ z, N = z + 1 := ⟨N - 1, by omega⟩
    obtain ⟨h', a1, a2, a3⟩ := ih (x + 1) N (zs_uM h 60 x ((h.2.1 61) x)) (by omega) (by omega) (by omega)
    refine ⟨h', ?_, zfr_trans (zfr_M (by decide) zfr_rfl) a2, fun j => ?_⟩
    · show f_Mc_publish_c61_6 (f_Mc_publish_c61_L6 N) h (nI x) = _
      unfold f_Mc_publish_c61_6
      rw [if_neg (mt (zc_le (k := 512) (by decide) (by omega)).mp (by omega)), if_pos (zi_in (by omega) (by omega)), nI_clamp (by omega), show nI x + 1 = nI (x + 1) from zc_ad 1 x]
      exact a1
    · have g1 : ((zs_uM h 60 x ((h.2.1 61) x)).2.1 61) j = (h.2.1 61) j := zu_MM.trans (if_neg fun z => absurd z.1 (by decide))
      have g2 : ((zs_uM h 60 x ((h.2.1 61) x)).2.1 60) j = if j = x then (h.2.1 61) x else (h.2.1 60) j := zu_MM.trans (by
        by_cases z : j = x
        · rw [if_pos ⟨rfl, z⟩, if_pos z]
        · rw [if_neg (fun w => z w.2), if_neg z])
      rw [a3 j, g1, g2]
      by_cases z : j = x
      · subst z
        rw [if_neg (by omega), if_pos rfl, if_pos (by omega)]
      · by_cases y : (x + 1 ≤ j ∧ j < 512) ∨ (832 ≤ j ∧ j < 896)
        · rw [if_pos y, if_pos (by omega)]
        · rw [if_neg y, if_neg z, if_neg (by omega)]
theorem yY_m182 : ∀ (m x N : Nat) (g : zs_H), x + m = 320 → m < N → ∃ g', f_Mo_scan_L182 N g (nI x) = some ((g.1 68 74), g') ∧ zfr [] [119] [] g g' ∧ ∀ j, (g'.2.1 119) j = if x ≤ j ∧ j < 320 then (g.2.1 114) (yY_ou j) else (g.2.1 119) j := by
  intro m
  induction m with
  | zero =>
    intro x N g e hN
    obtain ⟨N, rfl⟩ : ∃ z, N = z + 1 := ⟨N - 1, by omega⟩
    refine ⟨g, ?_, zfr_rfl, fun j => by rw [if_neg (by omega)]⟩
    show f_Mo_scan_182 (f_Mo_scan_L182 N) g (nI x) = _
    unfold f_Mo_scan_182
    rw [if_pos ((zc_le (k := 320) (by decide) (by omega)).mpr (by omega))]
  | succ m ih =>
    intro x N g e hN
    obtain ⟨N, rfl⟩ : ∃ z, N = z + 1 := ⟨N - 1, by omega⟩
    obtain ⟨g', a1, a2, a3⟩ := ih (x + 1) N (zs_uM g 119 x ((g.2.1 114) (yY_ou x))) (by omega) (by omega)
    have hou : yY_ou x < 960 ∧ (x < 256 → yY_ou x = 256 + x) ∧ (256 ≤ x → yY_ou x = 576 + x) := by
      unfold yY_ou
      split <;> omega
    refine ⟨g', ?_, zfr_trans (zfr_M (by decide) zfr_rfl) a2, fun j => ?_⟩
    · refine Eq.trans ?_ a1
      show f_Mo_scan_182 (f_Mo_scan_L182 N) g (nI x) = _
      unfold f_Mo_scan_182 f_Mo_scan_222
      rw [if_neg (mt (zc_le (k := 320) (by decide) (by omega)).mp (by omega))]
      by_cases z : 256 ≤ x
      · rw [if_pos ((zc_le (k := 256) (by decide) (by omega)).mpr z), show (832 : Int32) + nI x - 256 = nI (576 + x) by
          rw [show (832 : Int32) + nI x = nI (832 + x) from zc_da 832 x]
          have := zi_sub (a := 832 + x) (b := 256) (by omega)
          rw [show 832 + x - 256 = 576 + x by omega] at this
          exact this, if_pos (zi_in (by omega) (by omega)), if_pos (zi_in (by omega) (by omega)), nI_clamp (n := x) (by omega), nI_clamp (n := 576 + x) (by omega), hou.2.2 z, show nI x + 1 = nI (x + 1) from zc_ad 1 x]
      · rw [if_neg (mt (zc_le (k := 256) (by decide) (by omega)).mp z), show (256 : Int32) + nI x = nI (256 + x) from zc_da 256 x, if_pos (zi_in (by omega) (by omega)), if_pos (zi_in (by omega) (by omega)), nI_clamp (n := x) (by omega), nI_clamp (n := 256 + x) (by omega), hou.2.1 (by omega), show nI x + 1 = nI (x + 1) from zc_ad 1 x]
    · have g1 : ∀ k, ((zs_uM g 119 x ((g.2.1 114) (yY_ou x))).2.1 114) k = (g.2.1 114) k := fun k => zu_MM.trans (if_neg fun z => absurd z.1 (by decide))
      have g2 : ((zs_uM g 119 x ((g.2.1 114) (yY_ou x))).2.1 119) j = if j = x then (g.2.1 114) (yY_ou x) else (g.2.1 119) j := zu_MM.trans (by
        by_cases z : j = x
        · rw [if_pos ⟨rfl, z⟩, if_pos z]
        · rw [if_neg (fun w => z w.2), if_neg z])
      rw [a3 j, g1, g2]
      by_cases z : j = x
      · subst z
        rw [if_neg (by omega), if_pos rfl, if_pos (by omega)]
      · by_cases y : x + 1 ≤ j ∧ j < 320
        · rw [if_pos y, if_pos (by omega)]
        · rw [if_neg y, if_neg z, if_neg (by omega)]
theorem yY_ps : ∀ (m x N : Nat) (g : zs_H), x + m = 320 → m < N → ∃ g', f_Mo_publishSafe_L2 N g (nI x) = some g' ∧ zfr [] [119] [] g g' ∧ ∀ j, (g'.2.1 119) j = if x ≤ j ∧ j < 320 then (g.2.1 120) j else (g.2.1 119) j := by
  intro m
  induction m with
  | zero =>
    intro x N g e hN
    obtain ⟨N, rfl⟩ : ∃ z, N = z + 1 := ⟨N - 1, by omega⟩
    refine ⟨g, ?_, zfr_rfl, fun j => by rw [if_neg (by omega)]⟩
    show f_Mo_publishSafe_2 (f_Mo_publishSafe_L2 N) g (nI x) = _
    unfold f_Mo_publishSafe_2
    rw [if_pos ((zc_le (k := 320) (by decide) (by omega)).mpr (by omega))]
  | succ m ih =>
    intro x N g e hN
    obtain ⟨N, rfl⟩ : ∃ z, N = z + 1 := ⟨N - 1, by omega⟩
    obtain ⟨g', a1, a2, a3⟩ := ih (x + 1) N (zs_uM g 119 x ((g.2.1 120) x)) (by omega) (by omega)
    refine ⟨g', ?_, zfr_trans (zfr_M (by decide) zfr_rfl) a2, fun j => ?_⟩
    · show f_Mo_publishSafe_2 (f_Mo_publishSafe_L2 N) g (nI x) = _
      unfold f_Mo_publishSafe_2
      rw [if_neg (mt (zc_le (k := 320) (by decide) (by omega)).mp (by omega)), if_pos (zi_in (by omega) (by omega)), nI_clamp (by omega), show nI x + 1 = nI (x + 1) from zc_ad 1 x]
      exact a1
    · have g1 : ((zs_uM g 119 x ((g.2.1 120) x)).2.1 120) j = (g.2.1 120) j := zu_MM.trans (if_neg fun z => absurd z.1 (by decide))
      have g2 : ((zs_uM g 119 x ((g.2.1 120) x)).2.1 119) j = if j = x then (g.2.1 120) x else (g.2.1 119) j := zu_MM.trans (by
        by_cases z : j = x
        · rw [if_pos ⟨rfl, z⟩, if_pos z]
        · rw [if_neg (fun w => z w.2), if_neg z])
      rw [a3 j, g1, g2]
      by_cases z : j = x
      · subst z
        rw [if_neg (by omega), if_pos rfl, if_pos (by omega)]
      · by_cases y : x + 1 ≤ j ∧ j < 320
        · rw [if_pos y, if_pos (by omega)]
        · rw [if_neg y, if_neg z, if_neg (by omega)]
theorem yY_ob {i : Nat} (hi : i < 320) : (256 ≤ yY_ou i ∧ yY_ou i < 512) ∨ (832 ≤ yY_ou i ∧ yY_ou i < 896) := by
  unfold yY_ou
  split <;> omega
/-- outputs, on both sides -/
theorem yY_pubC (io : yY_io h g) (hc : ∀ j, j < 8192 → (h.2.1 62) j = (g.2.1 114) j) (hb : ∀ j, j < 768 → yJ_01 ((g.2.1 114) j)) : ∃ h' g', f_Mc_publish_c62 h = some h' ∧ f_Mo_scan_L182 zF g (nI 0) = some ((g.1 68 74), g') ∧ zfr [] [60] [] h h' ∧ zfr [] [119] [] g g' ∧ yY_io h' g' := by
  have hz := zF_big
  obtain ⟨h', a1, a2, a3⟩ := yY_q2 256 256 zF h (by omega) (by omega) (by omega)
  obtain ⟨g', b1, b2, b3⟩ := yY_m182 320 0 zF g (by omega) (by omega)
  refine ⟨h', g', a1, b1, a2, b2, fun i hi => ⟨⟨?_, ?_, ?_⟩, fun h2 => ?_⟩⟩
  · rw [a2.2.1 _ (by decide), b2.2.1 _ (by decide)]; exact (io i hi).1.1
  · have := yY_ob hi
    rw [a3, b3, if_pos this, if_pos (by omega)]
    exact hc _ (by omega)
  · rw [a2.2.1 _ (by decide), b2.2.1 _ (by decide)]; exact (io i hi).1.2.2
  · rw [b2.2.1 118 (by decide), b2.2.1 120 (by decide), b3, if_pos (by omega), show yY_ou i = 256 + i from if_pos h2]
    exact ⟨((io i hi).2 h2).1, hb _ (by omega), ((io i hi).2 h2).2.2⟩
theorem yY_pubS (io : yY_io h g) : ∃ h' g', f_Mc_publish_c61 h = some h' ∧ f_Mo_publishSafe g = some g' ∧ zfr [] [60] [] h h' ∧ zfr [] [119] [] g g' ∧ yY_io h' g' := by
  have hz := zF_big
  obtain ⟨h', a1, a2, a3⟩ := yY_q1 256 256 zF h (by omega) (by omega) (by omega)
  obtain ⟨g', b1, b2, b3⟩ := yY_ps 320 0 zF g (by omega) (by omega)
  refine ⟨h', g', a1, b1, a2, b2, fun i hi => ⟨⟨?_, ?_, ?_⟩, fun h2 => ?_⟩⟩
  · rw [a2.2.1 _ (by decide), b2.2.1 _ (by decide)]; exact (io i hi).1.1
  · have := yY_ob hi
    rw [a3, b3, if_pos this, if_pos (by omega)]
    exact (io i hi).1.2.2
  · rw [a2.2.1 _ (by decide), b2.2.1 _ (by decide)]; exact (io i hi).1.2.2
  · rw [b2.2.1 118 (by decide), b2.2.1 120 (by decide), b3, if_pos (by omega)]
    exact ⟨((io i hi).2 h2).1, ((io i hi).2 h2).2.2, ((io i hi).2 h2).2.2⟩
end YYS
end
section
/-! A scan, on both sides. -/
/-- a text is loaded -/
def yY_L (h0 : zs_H) (nb : Nat) (T : Nat → ys) (X Y K : Nat → Nat) (w : Nat) (h g : zs_H) : Prop := yX_Z nb T X Y K h0 ∧ (yV_b T (nb - 1) = some w ∧ w ≤ 100000) ∧ ((∀ u, u < nb → (yq_k h0 u).1 = 1 → (h.2.1 27) (9 + u) = nI (yh_pl X K (X (nb - 1)) u)) ∧ ((∀ u, u ≤ nb → (h.2.1 46) u = nI (yx_S T u)) ∧ (h.1 41 6) = nI nb) ∧ yx_AC T nb h ∧ (h.1 20 19) = nI (8 + nb) ∧ (h.1 58 5) = nI w) ∧ ((∀ u, u < nb → (yq_k h0 u).1 = 1 → (g.2.1 89) u = nI (yh_pl X K (X (nb - 1)) u)) ∧ (∀ u, u ≤ nb → (g.2.1 103) u = nI (yx_S T u)) ∧ yx_AM T nb g ∧ (g.1 68 33) = nI nb ∧ g.2.2 109 (nb - 1) = lN w)
/-- the machines -/
def yY_M (J : (Nat → Int32) → Prop) (h g : zs_H) : Prop := (∀ j, j < 8192 → (h.2.1 62) j = (g.2.1 114) j) ∧ J ((g.2.1 114)) ∧ ((h.1 58 9) = (g.1 68 73) ∧ (h.1 58 7) = (g.1 68 84) ∧ (h.1 58 8) = (g.1 68 85) ∧ (h.1 58 6) = (g.1 68 74)) ∧ (h.1 58 4) = (g.1 68 86)
abbrev yY_cF : List (Nat × Nat) := [(58, 4), (58, 6), (58, 7), (58, 8), (58, 9), (58, 14), (58, 17), (58, 18), (58, 19), (58, 20)]
abbrev yY_cM : List Nat := [60, 62, 63, 64]
abbrev yY_mF : List (Nat × Nat) := [(68, 73), (68, 74), (68, 75), (68, 76), (68, 84), (68, 85), (68, 86)]
abbrev yY_mM : List Nat := [114, 115, 119]
section YYT
variable {h0 h g h' g' : zs_H} {nb w : Nat} {T : Nat → ys} {X Y K : Nat → Nat}
theorem yY_Lf (L : yY_L h0 nb T X Y K w h g) (f1 : zfr yY_cF yY_cM [] h h') (f2 : zfr yY_mF yY_mM [] g g') : yY_L h0 nb T X Y K w h' g' := by
  obtain ⟨L1, L2, ⟨c1, ⟨c2, c3⟩, c4, c5, c6⟩, ⟨m1, m2, m3, m4, m5⟩⟩ := L
  refine ⟨L1, L2, ⟨fun u hu hk => by rw [f1.2.1 _ (by decide)]; exact c1 u hu hk, ⟨fun u hu => by rw [f1.2.1 _ (by decide)]; exact c2 u hu, (f1.1 _ _ (by decide)).trans c3⟩, fun u hu k i e => ?_, (f1.1 _ _ (by decide)).trans c5, (f1.1 _ _ (by decide)).trans c6⟩, ⟨fun u hu hk => by rw [f2.2.1 _ (by decide)]; exact m1 u hu hk, fun u hu => by rw [f2.2.1 _ (by decide)]; exact m2 u hu, fun u hu k i e => ?_, (f2.1 _ _ (by decide)).trans m4, by rw [f2.2.2 _ (by decide)]; exact m5⟩⟩
  · have q := c4 u hu k i e
    unfold yC_m at q ⊢
    rw [f1.2.1 _ (by decide), f1.2.1 _ (by decide), f1.2.1 _ (by decide), f1.2.1 _ (by decide)]
    exact q
  · have q := m3 u hu k i e
    unfold yM_m at q ⊢
    rw [f2.2.1 _ (by decide), f2.2.1 _ (by decide), f2.2.1 _ (by decide), f2.2.1 _ (by decide), f2.2.1 _ (by decide)]
    exact q
theorem yY_iof (io : yY_io h g) (f1 : zfr yY_cF [62, 63, 64] [] h h') (f2 : zfr yY_mF [114, 115] [] g g') : yY_io h' g' := fun i hi => by
  rw [f1.2.1 _ (by decide), f1.2.1 _ (by decide), f1.2.1 _ (by decide), f2.2.1 _ (by decide), f2.2.1 _ (by decide), f2.2.1 _ (by decide)]
  exact io i hi
theorem yY_scan (L : yY_L h0 nb T X Y K w h g) (M : yY_M (yJ_J h0 nb T X K) h g) (io : yY_io h g) (x1 : Int32) (st : (h.1 58 4) = 0) : ∃ v h' g', f_Mc_scanBy h x1 = some (v, h') ∧ f_Mo_scan_L45 zF (zs_uF g 68 73 ((g.1 68 73) + x1)) 0 = some (v, g') ∧ zfr yY_cF yY_cM [] h h' ∧ zfr yY_mF yY_mM [] g g' ∧ yY_M (yJ_J h0 nb T X K) h' g' ∧ yY_io h' g' ∧ ((h'.1 58 4) = 0 ∨ (h'.1 58 4) = 1) := by
  have hz := zF_big
  obtain ⟨L1, ⟨L2, L2'⟩, ⟨c1, c2, c4, c5, c6⟩, ⟨m1, m2, m3, m4, m5⟩⟩ := id L
  obtain ⟨M1, M2, ⟨M3, M4, M5, M6⟩, M7⟩ := M
  obtain ⟨⟨n0, k3, p8, q9, _⟩, _, A⟩ := id L1
  have n16 := (A 0).1
  have hle : yV_le w (yV_b T (nb - 1)) = true := by rw [L2]; exact decide_eq_true (Nat.le_refl _)
  -- inputs
  obtain ⟨ha, ea⟩ : ∃ ha, ha = zs_uF h 58 9 ((h.1 58 9) + x1) := ⟨_, rfl⟩
  obtain ⟨ga, eb⟩ : ∃ ga, ga = zs_uF g 68 73 ((g.1 68 73) + x1) := ⟨_, rfl⟩
  have fa : zfr yY_cF [] [] h ha := by rw [ea]; exact zfr_F (by decide) zfr_rfl
  have fb : zfr yY_mF [] [] g ga := by rw [eb]; exact zfr_F (by decide) zfr_rfl
  have ioa : yY_io ha ga := by rw [ea, eb]; exact io
  obtain ⟨h1, g1, c, a1, a2, a3, a4, a5, a6, a7⟩ := yY_take (h := ha) (g := ga) (c := (g.2.1 114)) ioa (by rw [ea]; exact M1) (by rw [eb]; exact fun _ _ => rfl)
  have now1 : (h1.1 58 9) = (g.1 68 73) + x1 := by
    rw [a3.1 _ _ List.not_mem_nil, ea, ← M3]; rfl
  have f1 : zfr yY_cF yY_cM [] h h1 := zfr_trans (zfr_w fa (by decide) (by decide) (by decide)) (zfr_w a3 (by decide) (by decide) (by decide))
  obtain ⟨g2, eg2⟩ : ∃ g2, g2 = zs_uF (zs_uF (zs_uF (zs_uF g1 68 84 ((g1.1 68 84) + 1)) 68 74 0) 68 75 0) 68 76 0 := ⟨_, rfl⟩
  have f2a : zfr yY_mF [114, 115] [] g g1 := zfr_trans (zfr_w fb (by decide) (by decide) (by decide)) (zfr_w a4 (by decide) (by decide) (by decide))
  have f2b : zfr yY_mF [114, 115] [] g1 g2 := by rw [eg2]; exact zfr_F (by decide) (zfr_F (by decide) (zfr_F (by decide) (zfr_F (by decide) zfr_rfl)))
  have f2 : zfr yY_mF yY_mM [] g g2 := zfr_w (zfr_trans f2a f2b) (by decide) (by decide) (by decide)
  have Lb := yY_Lf L f1 f2
  obtain ⟨_, _, ⟨d1, d2, d4, d5, d6⟩, ⟨n1, n2, n3, n4, n5⟩⟩ := Lb
  have now2 : (g2.1 68 73) = (g.1 68 73) + x1 := by
    rw [eg2]
    show (g1.1 68 73) = _
    rw [a4.1 _ _ List.not_mem_nil, eb]; rfl
  have GJ : yJ_J h0 nb T X K c := yJ_J9 L1 M2 a7
  have G := GJ.1
  -- the run
  obtain ⟨h3, r1, r2, r3, r4⟩ := yX_C (nw := (g.1 68 73) + x1) (c := c) (h := h1) L1 hle (by omega) ⟨yX_tR now1, d1, d2, d4⟩ a5
  obtain ⟨g3, s1, s2, s3, s4, s5⟩ := yX_M (nw := (g.1 68 73) + x1) (c := c) (g := g2) L1 hle ⟨yX_tN now2, n1, n2, n3⟩ (by rw [eg2]; exact a6) (by rw [eg2]; rfl) (by rw [eg2]; rfl) (by rw [eg2]; rfl) G
  obtain ⟨o1, o2, _, o4, o5⟩ := yX_R (nw := (g.1 68 73) + x1) (c := c) L1 hle
  have G' : yJ_J h0 nb T X K (yX_r nb T X K ((g.1 68 73) + x1) c).1.1 := ⟨o4 G, o5 GJ.2⟩
  generalize yX_r nb T X K ((g.1 68 73) + x1) c = r at r1 r3 r4 s3 s4 s5 o1 o2 G'
  have ePr : (h1.1 20 19) - 9 = nI (nb - 1) := by
    rw [d5]
    have := zi_sub (a := 8 + nb) (b := 9) (by omega)
    rw [show 8 + nb - 9 = nb - 1 by omega] at this
    exact this
  have eBl : (g1.1 68 33) - 1 = nI (nb - 1) := by
    have : (g1.1 68 33) = nI nb := by rw [← n4, eg2]; rfl
    rw [this]
    exact zi_sub (a := nb) (b := 1) (by omega)
  have fh3 : zfr yY_cF yY_cM [] h1 h3 := zfr_w r2 (by decide) (by decide) (by decide)
  have fg3 : zfr yY_mF yY_mM [] g2 g3 := zfr_w s2 (by decide) (by decide) (by decide)
  have bd : (h3.1 58 5) = nI w := (fh3.1 _ _ (by decide)).trans d6
  have sc3 : (h3.1 58 7) = (g.1 68 84) := (r2.1 _ _ (by decide)).trans ((a3.1 _ _ List.not_mem_nil).trans (by rw [ea]; exact M4))
  have ab3 : (h3.1 58 8) = (g.1 68 85) := (r2.1 _ _ (by decide)).trans ((a3.1 _ _ List.not_mem_nil).trans (by rw [ea]; exact M5))
  have nw3 : (h3.1 58 9) = (g.1 68 73) + x1 := (r2.1 _ _ (by decide)).trans now1
  have sg3 : (g3.1 68 84) = (g.1 68 84) + 1 := (s2.1 _ _ (by decide)).trans (by
    rw [eg2]
    show (g1.1 68 84) + 1 = _
    rw [a4.1 _ _ List.not_mem_nil, eb]; rfl)
  have og3 : (g3.1 68 85) = (g.1 68 85) := (s2.1 _ _ (by decide)).trans (by
    rw [eg2]
    show (g1.1 68 85) = _
    rw [a4.1 _ _ List.not_mem_nil, eb]; rfl)
  have hg3 : (g3.1 68 86) = (g.1 68 86) := (s2.1 _ _ (by decide)).trans (by
    rw [eg2]
    show (g1.1 68 86) = _
    rw [a4.1 _ _ List.not_mem_nil, eb]; rfl)
  have ng3 : (g3.1 68 73) = (g.1 68 73) + x1 := (s2.1 _ _ (by decide)).trans now2
  have io3 : yY_io h3 g3 := yY_iof io (zfr_trans (zfr_w fa (by decide) (by decide) (by decide)) (zfr_trans (zfr_w a3 (by decide) (by decide) (by decide)) (zfr_w r2 (by decide) (by decide) (by decide)))) (zfr_trans f2a (zfr_trans f2b (zfr_w s2 (by decide) (by decide) (by decide))))
  -- the class behind the run
  have eC : f_Mc_scanBy h x1 = f_Mc_scanBy_60 (zs_uF h3 58 7 ((h3.1 58 7) + 1)) (if r.2 = 0 then 0 else if r.2 = 3 then -3 else -4) 0 ((h3.1 58 8)) := by
    unfold f_Mc_scanBy
    rw [← ea, a1, Option.bind_some, ePr, r1]
    show (if (h3.1 58 6) ≤ (h3.1 58 5) then _ else _) = _
    rw [if_pos (by rw [r4, bd]; exact (nI_leI (by omega) (by omega)).mpr o2)]
  have eM : f_Mo_scan_L45 zF (zs_uF g 68 73 ((g.1 68 73) + x1)) 0 = f_Mo_scan_155 g3 0 ((g3.1 68 85)) := by
    rw [← eb, show zF = (zF - 320 - 1 + 1) + 320 by omega, show (0 : Int32) = nI 0 from rfl, a2]
    show f_Mo_scan_45 (f_Mo_scan_L45 (zF - 320 - 1)) g1 (nI 320) = _
    unfold f_Mo_scan_45
    rw [if_pos (show (320 : Int32) ≤ nI 320 by decide), ← eg2, eBl, s1, Option.bind_some]
    have e3 : (g3.1 68 33) - 1 = nI (nb - 1) := by
      rw [(fg3.1 _ _ (by decide)).trans n4]
      exact zi_sub (a := nb) (b := 1) (by omega)
    rw [e3, if_pos (zi_in (by omega) (by omega)), nI_clamp (by omega), s4, zj_32 (by omega), show g3.2.2 109 (nb - 1) = lN w by rw [fg3.2.2 _ (by decide)]; exact n5, if_pos ((zj_le (by omega) (by omega)).mpr o2)]
    rfl
  rw [eC, eM]
  have a0 : ∀ x : Int32, x + 0 = x := fun x => Int32.add_zero x
  by_cases z : r.2 = 0
  · rw [if_pos z] at s5 ⊢
    obtain ⟨h4, eh4⟩ : ∃ h4, h4 = zs_uF (zs_uF (zs_uF h3 58 7 ((h3.1 58 7) + 1)) 58 8 ((h3.1 58 8))) 58 4 0 := ⟨_, rfl⟩
    obtain ⟨g4, eg4⟩ : ∃ g4, g4 = zs_uF g3 68 85 ((g3.1 68 85)) := ⟨_, rfl⟩
    have k4 : zfr yY_cF yY_cM [] h3 h4 := by rw [eh4]; exact zfr_F (by decide) (zfr_F (by decide) (zfr_F (by decide) zfr_rfl))
    have l4 : zfr yY_mF yY_mM [] g3 g4 := by rw [eg4]; exact zfr_F (by decide) zfr_rfl
    have cc : ∀ j, j < 8192 → (h4.2.1 62) j = (g4.2.1 114) j := fun j hj => by rw [eh4, eg4]; exact (r3 j hj).trans (s3 j hj).symm
    have io4 : yY_io h4 g4 := by rw [eh4, eg4]; exact io3
    obtain ⟨h5, g5, p1, p2, p3, p4, p5⟩ := yY_pubC io4 cc (fun j hj => yJ_J7 L1 (yJ_Jf L1 G' (fun j hj => by rw [eg4]; exact s3 j hj)) hj)
    have e4 : (h5.1 58 4) = 0 := (p3.1 _ _ List.not_mem_nil).trans (by rw [eh4]; rfl)
    have e5 : (h5.1 58 6) = nI r.1.2.2 := (p3.1 _ _ List.not_mem_nil).trans (by rw [eh4]; exact r4)
    have e6 : (g4.1 68 74) = nI r.1.2.2 := by rw [eg4]; exact s4
    refine ⟨nI r.1.2.2, h5, g5, ?_, ?_, zfr_trans f1 (zfr_trans fh3 (zfr_trans k4 (zfr_w p3 (by decide) (by decide) (by decide)))), zfr_trans f2 (zfr_trans fg3 (zfr_trans l4 (zfr_w p4 (by decide) (by decide) (by decide)))), ⟨fun j hj => ?_, ?_, ⟨?_, ?_, ?_, ?_⟩, ?_⟩, p5, .inl e4⟩
    · unfold f_Mc_scanBy_60 f_Mc_scanBy_74
      rw [if_pos rfl, a0, if_pos (Or.inl rfl), if_pos rfl, ← eh4, p1, Option.bind_some, if_pos e4, e5]
    · unfold f_Mo_scan_155
      rw [if_pos s5, a0, ← eg4, show (0 : Int32) = nI 0 from rfl, p2, e6]
    · rw [p3.2.1 _ (by decide), p4.2.1 _ (by decide)]; exact cc j hj
    · rw [p4.2.1 _ (by decide), eg4]
      exact yJ_Jf L1 G' s3
    · rw [p3.1 _ _ List.not_mem_nil, p4.1 _ _ List.not_mem_nil, eh4, eg4]; exact nw3.trans ng3.symm
    · rw [p3.1 _ _ List.not_mem_nil, p4.1 _ _ List.not_mem_nil, eh4, eg4]
      show (h3.1 58 7) + 1 = (g3.1 68 84)
      rw [sc3, sg3]
    · rw [p3.1 _ _ List.not_mem_nil, p4.1 _ _ List.not_mem_nil, eh4, eg4]
      show (h3.1 58 8) = (g3.1 68 85)
      rw [ab3, og3]
    · rw [e5, p4.1 _ _ List.not_mem_nil, e6]
    · rw [e4, p4.1 _ _ List.not_mem_nil, eg4]
      show (0 : Int32) = (g3.1 68 86)
      rw [hg3, ← M7, st]
  · rw [if_neg z] at s5 ⊢
    have vn : ¬ (if r.2 = 3 then (-3 : Int32) else -4) = 0 := by split <;> decide
    generalize (if r.2 = 3 then (-3 : Int32) else -4) = v at s5 vn
    obtain ⟨h4, eh4⟩ : ∃ h4, h4 = zs_uF (zs_uF (zs_uF h3 58 7 ((h3.1 58 7) + 1)) 58 8 ((h3.1 58 8))) 58 4 1 := ⟨_, rfl⟩
    obtain ⟨g4, eg4⟩ : ∃ g4, g4 = zs_uF (zs_uF g3 68 85 ((g3.1 68 85))) 68 86 1 := ⟨_, rfl⟩
    have k4 : zfr yY_cF yY_cM [] h3 h4 := by rw [eh4]; exact zfr_F (by decide) (zfr_F (by decide) (zfr_F (by decide) zfr_rfl))
    have l4 : zfr yY_mF yY_mM [] g3 g4 := by rw [eg4]; exact zfr_F (by decide) (zfr_F (by decide) zfr_rfl)
    have cc : ∀ j, j < 8192 → (h4.2.1 62) j = (g4.2.1 114) j := fun j hj => by rw [eh4, eg4]; exact (r3 j hj).trans (s3 j hj).symm
    have io4 : yY_io h4 g4 := by rw [eh4, eg4]; exact io3
    obtain ⟨h5, g5, p1, p2, p3, p4, p5⟩ := yY_pubS io4
    have e4 : (h5.1 58 4) = 1 := (p3.1 _ _ List.not_mem_nil).trans (by rw [eh4]; rfl)
    have e5 : (h5.1 58 6) = nI r.1.2.2 := (p3.1 _ _ List.not_mem_nil).trans (by rw [eh4]; exact r4)
    have e6 : (g4.1 68 74) = nI r.1.2.2 := by rw [eg4]; exact s4
    have e7 : (g5.1 68 75) = v := (p4.1 _ _ List.not_mem_nil).trans (by rw [eg4]; exact s5)
    refine ⟨v, h5, g5, ?_, ?_, zfr_trans f1 (zfr_trans fh3 (zfr_trans k4 (zfr_w p3 (by decide) (by decide) (by decide)))), zfr_trans f2 (zfr_trans fg3 (zfr_trans l4 (zfr_w p4 (by decide) (by decide) (by decide)))), ⟨fun j hj => ?_, ?_, ⟨?_, ?_, ?_, ?_⟩, ?_⟩, p5, .inr e4⟩
    · unfold f_Mc_scanBy_60 f_Mc_scanBy_74
      rw [if_neg vn, a0, if_pos (Or.inr rfl), if_neg (show ¬ (1 : Int32) = 0 by decide), ← eh4, p1, Option.bind_some, if_neg (by rw [e4]; decide)]
    · unfold f_Mo_scan_155
      rw [if_neg (by rw [s5]; exact vn), a0, ← eg4, p2, Option.bind_some, e7]
    · rw [p3.2.1 _ (by decide), p4.2.1 _ (by decide)]; exact cc j hj
    · rw [p4.2.1 _ (by decide), eg4]
      exact yJ_Jf L1 G' s3
    · rw [p3.1 _ _ List.not_mem_nil, p4.1 _ _ List.not_mem_nil, eh4, eg4]; exact nw3.trans ng3.symm
    · rw [p3.1 _ _ List.not_mem_nil, p4.1 _ _ List.not_mem_nil, eh4, eg4]
      show (h3.1 58 7) + 1 = (g3.1 68 84)
      rw [sc3, sg3]
    · rw [p3.1 _ _ List.not_mem_nil, p4.1 _ _ List.not_mem_nil, eh4, eg4]
      show (h3.1 58 8) = (g3.1 68 85)
      rw [ab3, og3]
    · rw [e5, p4.1 _ _ List.not_mem_nil, e6]
    · rw [e4, p4.1 _ _ List.not_mem_nil, eg4]; rfl
end YYT
end
section
/-! The cells of a text that begins: what they are; the model. -/
/-- one variable -/
def yB_v (fl : Nat → Nat → (Nat → Int32) → Nat → Int32) (h : zs_H) (base v : Nat) (c : Nat → Int32) : Nat → Int32 :=
  if (h.2.1 30) (32 + v) = -1 ∨ (h.2.1 30) (32 + v) = -2 then fun j => if base + ((h.2.1 32) (32 + v)).toNatClampNeg ≤ j ∧ j < base + ((h.2.1 32) (32 + v)).toNatClampNeg + ((h.2.1 34) (32 + v)).toNatClampNeg then (h.2.1 35) (32 + v) else c j
  else if ((h.2.1 30) (32 + v)).toNatClampNeg < 9 then c
  else fl (((h.2.1 30) (32 + v)).toNatClampNeg - 9) (base + ((h.2.1 32) (32 + v)).toNatClampNeg) c
def yB_r (fl : Nat → Nat → (Nat → Int32) → Nat → Int32) (h : zs_H) (base : Nat) : Nat → Nat → (Nat → Int32) → Nat → Int32
  | 0, _, c => c
  | m + 1, v, c => yB_r fl h base m (v + 1) (yB_v fl h base v c)
def yB_F (F : Nat → Nat) (h : zs_H) : Nat → Nat → Nat → (Nat → Int32) → Nat → Int32
  | 0, _, _, c => c
  | n + 1, b, base, c => yB_r (yB_F F h n) h base (F (b + 1) - F b) (F b) c
/-- the model's variables are as they were -/
def yB_e (g0 g : zs_H) : Prop := ((g.1 68 33) = (g0.1 68 33) ∧ (g.1 68 41) = (g0.1 68 41)) ∧ ∀ a, a ∈ [86, 89, 90, 92, 93, 94, 98, 99] → g.2.1 a = g0.2.1 a
theorem yB_ef {g0 g g' : zs_H} {ms : List Nat} (e : yB_e g0 g) (f : zfr [] ms [] g g') (d : ∀ a, a ∈ [86, 89, 90, 92, 93, 94, 98, 99] → ¬ a ∈ ms := by decide) : yB_e g0 g' := ⟨⟨(f.1 _ _ List.not_mem_nil).trans e.1.1, (f.1 _ _ List.not_mem_nil).trans e.1.2⟩, fun a ha => (f.2.1 a (d a ha)).trans (e.2 a ha)⟩
section YBM
variable {LC LM : List (List Int32)} {nb b : Nat} {F X Y : Nat → Nat} {h0 g0 g : zs_H} {fl : Nat → Nat → (Nat → Int32) → Nat → Int32} {r : zs_H → Int32 → Int32 → Option zs_H} {k7 : zs_H → Int32 → Int32 → Int32 → Option zs_H} {c : Nat → Int32}
/-- what one variable is, on both sides -/
theorem yB_var {v : Nat} (C : yk_cx LC LM nb F X Y h0 g0) (hb : b < nb) (h1 : F b ≤ v) (h2 : v < F (b + 1)) : ∃ x s, ((h0.2.1 32) (32 + v) = nI x ∧ (g0.2.1 94) v = nI x) ∧ ((h0.2.1 34) (32 + v) = nI s ∧ (g0.2.1 98) v = nI s) ∧ (g0.2.1 99) v = (h0.2.1 35) (32 + v) ∧ (x + s ≤ Y b ∧ Y b ≤ 4096 ∧ v < 5900) ∧ ((((h0.2.1 30) (32 + v) = -1 ∨ (h0.2.1 30) (32 + v) = -2) ∧ ¬ (g0.2.1 92) v = 2 ∧ ∀ base fl' c', yB_v fl' h0 base v c' = fun j => if base + x ≤ j ∧ j < base + x + s then (h0.2.1 35) (32 + v) else c' j) ∨ (∃ B, B < 9 ∧ (h0.2.1 30) (32 + v) = nI B ∧ (g0.2.1 92) v = 2 ∧ (g0.2.1 93) v = nI (100000 + B) ∧ ∀ base fl' c', yB_v fl' h0 base v c' = c') ∨ (∃ u, u < b ∧ (h0.2.1 30) (32 + v) = nI (9 + u) ∧ (g0.2.1 92) v = 2 ∧ (g0.2.1 93) v = nI u ∧ s = X u ∧ (h0.2.1 21) (9 + u) = 2 ∧ ∀ base fl' c', yB_v fl' h0 base v c' = fl' u (base + x) c')) := by
  obtain ⟨ty, x, s, _, q1, q2, _, q4, ⟨q5, q6⟩, q7⟩ := yk_Q C hb h1 h2
  have kB := (C.2.2 b hb).1
  have B3 : nb ≤ 568 := C.1.2.1.1.2.2
  have ex : ((h0.2.1 32) (32 + v)).toNatClampNeg = x := by rw [q1.1]; exact nI_clamp (by omega)
  have es : ((h0.2.1 34) (32 + v)).toNatClampNeg = s := by rw [q2.1]; exact nI_clamp (by omega)
  refine ⟨x, s, q1, q2, q4, ⟨q5, kB.2.2, q6⟩, ?_⟩
  have simple : ((h0.2.1 30) (32 + v) = -1 ∨ (h0.2.1 30) (32 + v) = -2) → ∀ base fl' c', yB_v fl' h0 base v c' = fun j => if base + x ≤ j ∧ j < base + x + s then (h0.2.1 35) (32 + v) else c' j := fun z base fl' c' => by
    unfold yB_v
    rw [if_pos z, ex, es]
  rcases q7 with ⟨z, z2, _⟩ | ⟨z, z2, _⟩ | ⟨B, z1, z2, z3, z4, z5, z6⟩
  · exact .inl ⟨.inl z, by rw [z2]; decide, simple (.inl z)⟩
  · exact .inl ⟨.inr z, by rw [z2]; decide, simple (.inr z)⟩
  · have n1 : ¬ ((h0.2.1 30) (32 + v) = -1 ∨ (h0.2.1 30) (32 + v) = -2) := fun w => by
      rcases w with w | w
      · exact zc_m1 (by omega) (z2.symm.trans w)
      · exact yq_m2 (by omega) (z2.symm.trans w)
    have eB : ((h0.2.1 30) (32 + v)).toNatClampNeg = B := by rw [z2]; exact nI_clamp (by omega)
    by_cases h9 : B < 9
    · refine .inr (.inl ⟨B, h9, z2, z3, by rw [z4, if_pos h9], fun base fl' c' => ?_⟩)
      unfold yB_v
      rw [if_neg n1, eB, if_pos h9]
    · obtain ⟨u, rfl⟩ : ∃ u, B = 9 + u := ⟨B - 9, by omega⟩
      have es2 : s = X u := (nI_eq (by have := (C.2.2 u (by omega)).1; omega) (by have := (C.2.2 u (by omega)).1; omega)).mp (z6.symm.trans (C.2.2 u (by omega)).2.1)
      refine .inr (.inr ⟨u, by omega, z2, z3, by rw [z4, if_neg h9, show 9 + u - 9 = u by omega], es2, z5 (by omega), fun base fl' c' => ?_⟩)
      unfold yB_v
      rw [if_neg n1, eB, if_neg h9, ex, show 9 + u - 9 = u by omega]
theorem yB_end {g : zs_H} (B : zv_B LC LM nb F h0 g0) (hb : b < nb) (f : yB_e g0 g) : f_Mo_endOf g (nI b) = some (nI (F (b + 1))) := by
  have hn := B.1.2.2
  have e1 : (g.1 68 33) = nI nb := f.1.1.trans B.1.2.1
  have e2 : (g.1 68 41) = nI (F nb) := f.1.2.trans B.2.1.2.1
  unfold f_Mo_endOf
  rw [e1, e2, show nI nb - 1 = nI (nb - 1) from zi_sub (b := 1) (by omega)]
  by_cases z : b = nb - 1
  · rw [if_pos (by rw [z]), show b + 1 = nb by omega]
  · rw [if_neg (mt (nI_eq (by omega) (by omega)).mp z), show nI b + 1 = nI (b + 1) from zc_ad 1 b, if_pos (zi_in (by omega) (by omega)), nI_clamp (by omega), f.2 90 (by decide), (B.2.2.2.2.2.1 (b + 1) (by omega)).2.1]
theorem yB_M76 {v p s base : Nat} {k : Int32} (hv : v < 8400) (hs : (g0.2.1 98) v = nI s) (hk : (g0.2.1 99) v = k) (hp : p + s ≤ 8192) : ∀ (m t N : Nat) (g : zs_H) (c : Nat → Int32), t + m = s → m < N → yB_e g0 g → (∀ j, j < 8192 → (g.2.1 114) j = c j) → (∀ j, p ≤ j → j < p + t → c j = k) → ∃ g', f_Mo_fill_L76 r k7 N g (nI b) (nI base) (nI v) (nI p) (nI t) = k7 g' (nI b) (nI base) (nI (v + 1)) ∧ zfr [] [114] [] g g' ∧ ∀ j, j < 8192 → (g'.2.1 114) j = if p ≤ j ∧ j < p + s then k else c j := by
  intro m
  induction m with
  | zero =>
    intro t N g c e hN f hc hd
    obtain ⟨N, rfl⟩ : ∃ z, N = z + 1 := ⟨N - 1, by omega⟩
    refine ⟨g, ?_, zfr_rfl, fun j hj => ?_⟩
    · show f_Mo_fill_76 r k7 (f_Mo_fill_L76 r k7 N) g (nI b) (nI base) (nI v) (nI p) (nI t) = _
      unfold f_Mo_fill_76 f_Mo_fill_109
      rw [if_pos (zi_in (by omega) hv), nI_clamp (by omega), f.2 98 (by decide), hs, if_pos ((nI_leI (by omega) (by omega)).mpr (by omega)), show nI v + 1 = nI (v + 1) from zc_ad 1 v]
    · rw [hc j hj]
      by_cases z : p ≤ j ∧ j < p + s
      · rw [if_pos z]; exact hd j z.1 (by omega)
      · rw [if_neg z]
  | succ m ih =>
    intro t N g c e hN f hc hd
    obtain ⟨N, rfl⟩ : ∃ z, N = z + 1 := ⟨N - 1, by omega⟩
    obtain ⟨g', a1, a2, a3⟩ := ih (t + 1) N (zs_uM g 114 (p + t) k) (yE_u c (p + t) k) (by omega) (by omega) (yB_ef (ms := [114]) f (zfr_M (by decide) zfr_rfl)) (fun j hj => zu_MM.trans (by
      show (if 114 = 114 ∧ j = p + t then k else (g.2.1 114) j) = if j = p + t then k else c j
      by_cases z : j = p + t
      · rw [if_pos ⟨rfl, z⟩, if_pos z]
      · rw [if_neg (fun w => z w.2), if_neg z]; exact hc j hj)) (fun j h1 h2 => by
      show (if j = p + t then k else c j) = k
      by_cases z : j = p + t
      · rw [if_pos z]
      · rw [if_neg z]; exact hd j h1 (by omega))
    refine ⟨g', ?_, zfr_trans (zfr_M (by decide) zfr_rfl) a2, fun j hj => (a3 j hj).trans ?_⟩
    · refine Eq.trans ?_ a1
      show f_Mo_fill_76 r k7 (f_Mo_fill_L76 r k7 N) g (nI b) (nI base) (nI v) (nI p) (nI t) = _
      unfold f_Mo_fill_76
      rw [if_pos (zi_in (by omega) hv), nI_clamp (n := v) (by omega), f.2 98 (by decide), f.2 99 (by decide), hs, hk, if_neg (mt (nI_leI (by omega) (by omega)).mp (by omega)), nI_add, if_pos (zi_in (by omega) (by omega)), nI_clamp (n := p + t) (by omega), show nI t + 1 = nI (t + 1) from zc_ad 1 t]
    · show (if p ≤ j ∧ j < p + s then k else if j = p + t then k else c j) = _
      by_cases z : p ≤ j ∧ j < p + s
      · rw [if_pos z, if_pos z]
      · rw [if_neg z, if_neg z, if_neg (by omega)]
/-- what a filler of blocks below b does -/
def yB_h (X : Nat → Nat) (b : Nat) (fl : Nat → Nat → (Nat → Int32) → Nat → Int32) (g0 : zs_H) (r : zs_H → Int32 → Int32 → Option zs_H) : Prop := ∀ (u base : Nat) (c : Nat → Int32) (g : zs_H), u < b → base + X u ≤ 8192 → yB_e g0 g → (∀ j, j < 8192 → (g.2.1 114) j = c j) → ∃ g', r g (nI u) (nI base) = some g' ∧ zfr [] [114] [] g g' ∧ ∀ j, j < 8192 → (g'.2.1 114) j = fl u base c j
theorem yB_M7 {base : Nat} (C : yk_cx LC LM nb F X Y h0 g0) (hb : b < nb) (hX : base + X b ≤ 8192) (R : yB_h X b fl g0 r) : ∀ (m v N : Nat) (c : Nat → Int32) (g : zs_H), v + m = F (b + 1) → F b ≤ v → m < N → yB_e g0 g → (∀ j, j < 8192 → (g.2.1 114) j = c j) → ∃ g', f_Mo_fill_L7 r N g (nI b) (nI base) (nI v) = some g' ∧ zfr [] [114] [] g g' ∧ ∀ j, j < 8192 → (g'.2.1 114) j = yB_r fl h0 base m v c j := by
  have hz := zF_big
  have kB := (C.2.2 b hb).1
  have V3 : F nb ≤ 5900 := C.1.2.1.2.1.2.2
  have hF := C.1.2.1.2.2.2.1 b hb
  have B3 : nb ≤ 568 := C.1.2.1.1.2.2
  have eE : ∀ g, yB_e g0 g → f_Mo_endOf g (nI b) = some (nI (F (b + 1))) := fun g f => yB_end C.1.2.1 hb f
  intro m
  induction m with
  | zero =>
    intro v N c g e hv hN f hc
    obtain ⟨N, rfl⟩ : ∃ z, N = z + 1 := ⟨N - 1, by omega⟩
    refine ⟨g, ?_, zfr_rfl, hc⟩
    show f_Mo_fill_7 r (f_Mo_fill_L7 r N) g (nI b) (nI base) (nI v) = _
    unfold f_Mo_fill_7
    rw [eE g f, Option.bind_some, if_pos ((nI_leI (by omega) (by omega)).mpr (by omega))]
  | succ m ih =>
    intro v N c g e hv hN f hc
    obtain ⟨N, rfl⟩ : ∃ z, N = z + 1 := ⟨N - 1, by omega⟩
    obtain ⟨x, s, ⟨_, q1⟩, ⟨_, q2⟩, q3, ⟨q4, q5, q6⟩, q7⟩ := yB_var C hb hv (show v < F (b + 1) by omega)
    have hin : zd_in (nI v) 8400 := zi_in (by omega) (by omega)
    have e0 : f_Mo_fill_L7 r (N + 1) g (nI b) (nI base) (nI v) = (if (g0.2.1 92) v = 2 then (if 100000 ≤ (g0.2.1 93) v then f_Mo_fill_109 r (f_Mo_fill_L7 r N) g (nI b) (nI base) (nI v) else ((r g ((g0.2.1 93) v) (nI (base + x))).bind fun h8 => f_Mo_fill_109 r (f_Mo_fill_L7 r N) h8 (nI b) (nI base) (nI v))) else f_Mo_fill_L76 r (f_Mo_fill_L7 r N) zF g (nI b) (nI base) (nI v) (nI (base + x)) 0) := by
      show f_Mo_fill_7 r (f_Mo_fill_L7 r N) g (nI b) (nI base) (nI v) = _
      unfold f_Mo_fill_7 f_Mo_fill_63
      rw [eE g f, Option.bind_some, if_neg (mt (nI_leI (by omega) (by omega)).mp (by omega)), if_pos hin, if_pos hin, nI_clamp (n := v) (by omega), f.2 92 (by decide), f.2 93 (by decide), f.2 94 (by decide), q1, nI_add]
      by_cases z : (g0.2.1 92) v = 2
      · rw [if_pos z, if_pos z, if_pos z]
      · rw [if_neg z, if_neg z, if_neg z]
    have e1 : ∀ h, f_Mo_fill_109 r (f_Mo_fill_L7 r N) h (nI b) (nI base) (nI v) = f_Mo_fill_L7 r N h (nI b) (nI base) (nI (v + 1)) := fun h => by
      unfold f_Mo_fill_109
      rw [show nI v + 1 = nI (v + 1) from zc_ad 1 v]
    rw [e0]
    show ∃ g' : zs_H, _ = some g' ∧ _ ∧ ∀ j, j < 8192 → (g'.2.1 114) j = yB_r fl h0 base m (v + 1) (yB_v fl h0 base v c) j
    rcases q7 with ⟨_, n2, ev⟩ | ⟨B, hB, _, n2, n3, ev⟩ | ⟨u, hu, _, n2, n3, es, _, ev⟩
    · rw [if_neg n2, ev]
      obtain ⟨g1, a1, a2, a3⟩ := yB_M76 (r := r) (k7 := f_Mo_fill_L7 r N) (b := b) (base := base) (g0 := g0) (v := v) (p := base + x) (s := s) (k := (h0.2.1 35) (32 + v)) (by omega) q2 q3 (by omega) s 0 zF g c (by omega) (by omega) f hc (fun j h1 h2 => by omega)
      rw [show (0 : Int32) = nI 0 from rfl, a1]
      obtain ⟨g2, b1, b2, b3⟩ := ih (v + 1) N _ g1 (by omega) (by omega) (by omega) (yB_ef f a2) a3
      exact ⟨g2, b1, zfr_trans a2 b2, b3⟩
    · rw [if_pos n2, n3, if_pos ((zc_le (k := 100000) (by decide) (by omega)).mpr (by omega)), e1, ev]
      exact ih (v + 1) N c g (by omega) (by omega) (by omega) f hc
    · have kU := (C.2.2 u (by omega)).1
      rw [if_pos n2, n3, if_neg (mt (zc_le (k := 100000) (by decide) (by omega)).mp (by omega)), ev]
      obtain ⟨g1, a1, a2, a3⟩ := R u (base + x) c g hu (by omega) f hc
      rw [a1, Option.bind_some, e1]
      obtain ⟨g2, b1, b2, b3⟩ := ih (v + 1) N _ g1 (by omega) (by omega) (by omega) (yB_ef f a2) a3
      exact ⟨g2, b1, zfr_trans a2 b2, b3⟩
theorem yB_Mf (C : yk_cx LC LM nb F X Y h0 g0) : ∀ (d b : Nat), b < nb → b < d → yB_h X (b + 1) (yB_F F h0 d) g0 (f_Mo_fill d) := by
  have hz := zF_big
  intro d
  induction d with
  | zero => intro b _ h; omega
  | succ d ih =>
    intro b hb hd u base c g hu hX f hc
    have hun : u < nb := by omega
    have V3 : F nb ≤ 5900 := C.1.2.1.2.1.2.2
    have B3 : nb ≤ 568 := C.1.2.1.1.2.2
    have hF := C.1.2.1.2.2.2.1 u hun
    have R : yB_h X u (yB_F F h0 d) g0 (f_Mo_fill d) := by
      intro w base c g hw
      exact ih w (by omega) (by omega) w base c g (by omega)
    obtain ⟨g', a1, a2, a3⟩ := yB_M7 C hun hX R (F (u + 1) - F u) (F u) zF c g (by omega) (Nat.le_refl _) (by omega) f hc
    refine ⟨g', ?_, a2, a3⟩
    show g_Mo_fill (f_Mo_fill d) g (nI u) (nI base) = _
    unfold g_Mo_fill
    rw [if_pos (zi_in (by omega) (by omega)), nI_clamp (by omega), f.2 90 (by decide), (C.1.2.1.2.2.2.2.2.1 u hun).2.1]
    exact a1
end YBM
end
section
/-! The cells of a text that begins: patterns. -/
section YBP
variable {LC LM : List (List Int32)} {nb b : Nat} {F X Y : Nat → Nat} {h0 g0 : zs_H}
/-- blocks below b are filled in their own cells alone -/
def yB_o (X : Nat → Nat) (b : Nat) (fl : Nat → Nat → (Nat → Int32) → Nat → Int32) : Prop := ∀ (u base : Nat) (c : Nat → Int32) (j : Nat), u < b → ¬ (base ≤ j ∧ j < base + X u) → fl u base c j = c j
def yB_s (X : Nat → Nat) (b : Nat) (fl : Nat → Nat → (Nat → Int32) → Nat → Int32) : Prop := ∀ (u base base' : Nat) (c c' : Nat → Int32), u < b → (∀ t, t < X u → c (base + t) = c' (base' + t)) → ∀ t, t < X u → fl u base c (base + t) = fl u base' c' (base' + t)
theorem yB_vo {fl : Nat → Nat → (Nat → Int32) → Nat → Int32} {v base j x s : Nat} {c : Nat → Int32} (C : yk_cx LC LM nb F X Y h0 g0) (hb : b < nb) (h1 : F b ≤ v) (h2 : v < F (b + 1)) (O : yB_o X b fl) (e1 : (h0.2.1 32) (32 + v) = nI x) (e2 : (h0.2.1 34) (32 + v) = nI s) (hx : x < 100000 ∧ s < 100000) (hj : ¬ (base + x ≤ j ∧ j < base + x + s)) : yB_v fl h0 base v c j = c j := by
  obtain ⟨x', s', ⟨q1, _⟩, ⟨q2, _⟩, _, ⟨q4, q5, _⟩, q7⟩ := yB_var C hb h1 h2
  have ex : x' = x := (nI_eq (by omega) (by omega)).mp (q1.symm.trans e1)
  have es : s' = s := (nI_eq (by omega) (by omega)).mp (q2.symm.trans e2)
  subst ex; subst es
  rcases q7 with ⟨_, _, ev⟩ | ⟨B, _, _, _, _, ev⟩ | ⟨u, hu, _, _, _, es, _, ev⟩
  · rw [ev]
    exact if_neg hj
  · rw [ev]
  · rw [ev]
    exact O u _ c j hu (by omega)
theorem yB_ro {fl : Nat → Nat → (Nat → Int32) → Nat → Int32} {base : Nat} (C : yk_cx LC LM nb F X Y h0 g0) (hb : b < nb) (O : yB_o X b fl) : ∀ (m v : Nat) (c : Nat → Int32) (j : Nat), v + m = F (b + 1) → F b ≤ v → ¬ (base ≤ j ∧ j < base + X b) → yB_r fl h0 base m v c j = c j := by
  intro m
  induction m with
  | zero => intro v c j _ _ _; rfl
  | succ m ih =>
    intro v c j e hv hj
    obtain ⟨x, s, ⟨q1, _⟩, ⟨q2, _⟩, _, ⟨q4, q5, _⟩, _⟩ := yB_var C hb hv (show v < F (b + 1) by omega)
    have kB := (C.2.2 b hb).1
    show yB_r fl h0 base m (v + 1) (yB_v fl h0 base v c) j = _
    rw [ih (v + 1) _ j (by omega) (by omega) hj]
    exact yB_vo C hb hv (by omega) O q1 q2 (by omega) (by omega)
theorem yB_rs {fl : Nat → Nat → (Nat → Int32) → Nat → Int32} {base base' : Nat} (C : yk_cx LC LM nb F X Y h0 g0) (hb : b < nb) (O : yB_o X b fl) (S : yB_s X b fl) : ∀ (m v : Nat) (c c' : Nat → Int32), v + m = F (b + 1) → F b ≤ v → (∀ t, t < X b → c (base + t) = c' (base' + t)) → ∀ t, t < X b → yB_r fl h0 base m v c (base + t) = yB_r fl h0 base' m v c' (base' + t) := by
  intro m
  induction m with
  | zero => intro v c c' _ _ h; exact h
  | succ m ih =>
    intro v c c' e hv h
    obtain ⟨x, s, ⟨q1, _⟩, ⟨q2, _⟩, _, ⟨q4, q5, _⟩, q7⟩ := yB_var C hb hv (show v < F (b + 1) by omega)
    have kB := (C.2.2 b hb).1
    refine ih (v + 1) _ _ (by omega) (by omega) (fun t ht => ?_)
    rcases q7 with ⟨_, _, ev⟩ | ⟨B, _, _, _, _, ev⟩ | ⟨u, hu, _, _, _, es, _, ev⟩
    · rw [ev, ev]
      show (if base + x ≤ base + t ∧ base + t < base + x + s then _ else _) = if base' + x ≤ base' + t ∧ base' + t < base' + x + s then _ else _
      by_cases z : x ≤ t ∧ t < x + s
      · rw [if_pos (by omega), if_pos (by omega)]
      · rw [if_neg (by omega), if_neg (by omega)]; exact h t ht
    · rw [ev, ev]; exact h t ht
    · rw [ev, ev]
      by_cases z : x ≤ t ∧ t < x + s
      · obtain ⟨t', rfl⟩ : ∃ t', t = x + t' := ⟨t - x, by omega⟩
        rw [← Nat.add_assoc, ← Nat.add_assoc]
        refine S u (base + x) (base' + x) c c' hu (fun w hw => ?_) t' (by omega)
        rw [Nat.add_assoc, Nat.add_assoc]
        exact h (x + w) (by omega)
      · rw [O u _ c _ hu (by omega), O u _ c' _ hu (by omega)]; exact h t ht
theorem yB_FO (C : yk_cx LC LM nb F X Y h0 g0) : ∀ (d b : Nat), b ≤ nb → b ≤ d → yB_o X b (yB_F F h0 d) ∧ yB_s X b (yB_F F h0 d) := by
  intro d
  induction d with
  | zero => intro b _ h; exact ⟨fun u base c j hu => by omega, fun u base base' c c' hu => by omega⟩
  | succ d ih =>
    intro b hb hd
    have key : ∀ u, u < b → yB_o X u (yB_F F h0 d) ∧ yB_s X u (yB_F F h0 d) := fun u hu => ih u (by omega) (by omega)
    have hF : ∀ u, u < b → F u ≤ F (u + 1) := fun u hu => (C.1.2.1.2.2.2.1 u (by omega)).1
    refine ⟨fun u base c j hu hj => ?_, fun u base base' c c' hu h t ht => ?_⟩
    · have := hF u hu
      exact yB_ro C (show u < nb by omega) (key u hu).1 (F (u + 1) - F u) (F u) c j (by omega) (Nat.le_refl _) hj
    · have := hF u hu
      exact yB_rs C (show u < nb by omega) (key u hu).1 (key u hu).2 (F (u + 1) - F u) (F u) c c' (by omega) (Nat.le_refl _) h t ht
theorem yB_rc {fl fl' : Nat → Nat → (Nat → Int32) → Nat → Int32} {base : Nat} (C : yk_cx LC LM nb F X Y h0 g0) (hb : b < nb) (E : ∀ u, u < b → fl u = fl' u) : ∀ (m v : Nat) (c : Nat → Int32), v + m = F (b + 1) → F b ≤ v → yB_r fl h0 base m v c = yB_r fl' h0 base m v c := by
  intro m
  induction m with
  | zero => intro v c _ _; rfl
  | succ m ih =>
    intro v c e hv
    obtain ⟨x, s, _, _, _, _, q7⟩ := yB_var C hb hv (show v < F (b + 1) by omega)
    show yB_r fl h0 base m (v + 1) (yB_v fl h0 base v c) = yB_r fl' h0 base m (v + 1) (yB_v fl' h0 base v c)
    have ev : yB_v fl h0 base v c = yB_v fl' h0 base v c := by
      rcases q7 with ⟨_, _, ev⟩ | ⟨B, _, _, _, _, ev⟩ | ⟨u, hu, _, _, _, es, _, ev⟩
      · rw [ev, ev]
      · rw [ev, ev]
      · rw [ev, ev, E u hu]
    rw [ev]
    exact ih (v + 1) _ (by omega) (by omega)
theorem yB_fu (C : yk_cx LC LM nb F X Y h0 g0) : ∀ (n m b : Nat), b < nb → b < n → b < m → yB_F F h0 n b = yB_F F h0 m b := by
  intro n
  induction n with
  | zero => intro m b _ h; omega
  | succ n ih =>
    intro m b hb h1 h2
    obtain ⟨m, rfl⟩ : ∃ z, m = z + 1 := ⟨m - 1, by omega⟩
    have hF := (C.1.2.1.2.2.2.1 b hb).1
    funext base c
    exact yB_rc C hb (fun u hu => ih m u (by omega) (by omega) (by omega)) (F (b + 1) - F b) (F b) c (by omega) (Nat.le_refl _)
/-- the pattern of a block -/
def yB_p (F : Nat → Nat) (h0 : zs_H) (u t : Nat) : Int32 := yB_F F h0 (u + 1) u 0 (fun _ => 0) t
theorem yB_pt {d u base t : Nat} {c : Nat → Int32} (C : yk_cx LC LM nb F X Y h0 g0) (hu : u < nb) (hd : u < d) (hz : ∀ t, t < X u → c (base + t) = 0) (ht : t < X u) : yB_F F h0 d u base c (base + t) = yB_p F h0 u t := by
  have := (yB_FO C (u + 1) (u + 1) (by omega) (Nat.le_refl _)).2 u base 0 c (fun _ => 0) (by omega) hz t ht
  rw [Nat.zero_add] at this
  rw [yB_fu C d (u + 1) u hu hd (by omega)]
  exact this
end YBP
end
section
/-! The cells of a text that begins: the class, that copies. -/
/-- where the first of each block lies -/
def yB_I (X F : Nat → Nat) (nb : Nat) (h0 h : zs_H) (c : Nat → Int32) (Q : Nat → Nat → Prop) : Prop := ∀ u, u < nb → (h.2.1 65) u = -1 ∨ ∃ a, (h.2.1 65) u = nI a ∧ a + X u ≤ 8192 ∧ (∀ t, t < X u → c (a + t) = yB_p F h0 u t) ∧ Q u a
/-- the class's plan is as it was -/
def yB_E (h0 h : zs_H) : Prop := ∀ a, 20 ≤ a → a ≤ 37 → h.2.1 a = h0.2.1 a
section YBC
variable {LC LM : List (List Int32)} {nb b : Nat} {F X Y : Nat → Nat} {h0 g0 : zs_H} {r : zs_H → Int32 → Int32 → Int32 → Option zs_H} {k18 : zs_H → Int32 → Int32 → Int32 → Int32 → Option zs_H}
theorem yB_Ef {h h' : zs_H} {ms : List Nat} (E : yB_E h0 h) (f : zfr [] ms [] h h') (d : ∀ a, a ∈ ms → 38 ≤ a := by decide) : yB_E h0 h' := fun a h1 h2 => (f.2.1 a (fun z => by have := d a z; omega)).trans (E a h1 h2)
theorem yB_C87 {v p s base x3 : Nat} {k : Int32} (hv : 32 + v < 6000) (hs : (h0.2.1 34) (32 + v) = nI s) (hk : (h0.2.1 35) (32 + v) = k) (hp : p + s ≤ 8192) : ∀ (m t N : Nat) (h : zs_H) (c : Nat → Int32), t + m = s → m < N → yB_E h0 h → (∀ j, j < 8192 → (h.2.1 62) j = c j) → (∀ j, p ≤ j → j < p + t → c j = k) → ∃ h', f_Mc_setConstants_L87 r k18 N h (nI (9 + b)) (nI base) (nI x3) (nI (32 + v)) (nI p) (nI t) = k18 h' (nI (9 + b)) (nI base) (nI x3) (nI (32 + (v + 1))) ∧ zfr [] [62] [] h h' ∧ ∀ j, j < 8192 → (h'.2.1 62) j = if p ≤ j ∧ j < p + s then k else c j := by
  intro m
  induction m with
  | zero =>
    intro t N h c e hN f hc hd
    obtain ⟨N, rfl⟩ : ∃ z, N = z + 1 := ⟨N - 1, by omega⟩
    refine ⟨h, ?_, zfr_rfl, fun j hj => ?_⟩
    · show f_Mc_setConstants_87 r k18 (f_Mc_setConstants_L87 r k18 N) h (nI (9 + b)) (nI base) (nI x3) (nI (32 + v)) (nI p) (nI t) = _
      unfold f_Mc_setConstants_87 f_Mc_setConstants_127
      rw [if_pos (zi_in (by omega) hv), nI_clamp (n := 32 + v) (by omega), f 34 (by decide) (by decide), hs, if_pos ((nI_leI (by omega) (by omega)).mpr (by omega)), show nI (32 + v) + 1 = nI (32 + (v + 1)) from zc_ad 1 (32 + v)]
    · rw [hc j hj]
      by_cases z : p ≤ j ∧ j < p + s
      · rw [if_pos z]; exact hd j z.1 (by omega)
      · rw [if_neg z]
  | succ m ih =>
    intro t N h c e hN f hc hd
    obtain ⟨N, rfl⟩ : ∃ z, N = z + 1 := ⟨N - 1, by omega⟩
    have H : yT_S 62 h h c := ⟨zfr_rfl, hc⟩
    obtain ⟨h1, a1, a2, a3⟩ := yT_cbe (v := k) H (show p + t < 8192 by omega)
    obtain ⟨h', b1, b2, b3⟩ := ih (t + 1) N h1 (yE_u c (p + t) k) (by omega) (by omega) (yB_Ef f a2) a3 (fun j h1 h2 => by
      show (if j = p + t then k else c j) = k
      by_cases z : j = p + t
      · rw [if_pos z]
      · rw [if_neg z]; exact hd j h1 (by omega))
    refine ⟨h', ?_, zfr_trans a2 b2, fun j hj => (b3 j hj).trans ?_⟩
    · refine Eq.trans ?_ b1
      show f_Mc_setConstants_87 r k18 (f_Mc_setConstants_L87 r k18 N) h (nI (9 + b)) (nI base) (nI x3) (nI (32 + v)) (nI p) (nI t) = _
      unfold f_Mc_setConstants_87
      rw [if_pos (zi_in (by omega) hv), nI_clamp (n := 32 + v) (by omega), f 34 (by decide) (by decide), f 35 (by decide) (by decide), hs, hk, if_neg (mt (nI_leI (by omega) (by omega)).mp (by omega)), nI_add, a1, Option.bind_some, show nI t + 1 = nI (t + 1) from zc_ad 1 t]
    · show (if p ≤ j ∧ j < p + s then k else if j = p + t then k else c j) = _
      by_cases z : p ≤ j ∧ j < p + s
      · rw [if_pos z, if_pos z]
      · rw [if_neg z, if_neg z, if_neg (by omega)]
/-- a part is begun: blocks below b -/
def yB_H (nb b : Nat) (F X : Nat → Nat) (h0 : zs_H) (r : zs_H → Int32 → Int32 → Int32 → Option zs_H) : Prop := ∀ (u base x3 : Nat) (c : Nat → Int32) (h : zs_H), u < b → base + X u ≤ 8192 → x3 + u ≤ 16 → yB_E h0 h → (∀ j, j < 8192 → (h.2.1 62) j = c j) → (∀ t, t < X u → c (base + t) = 0) → yB_I X F nb h0 h c (fun w a => ∀ t, t < X w → ¬ (base ≤ a + t ∧ a + t < base + X u)) → ∃ h', r h (nI (9 + u)) (nI base) (nI x3) = some h' ∧ zfr [] [62, 65] [] h h' ∧ (∀ j, j < 8192 → (h'.2.1 62) j = yB_F F h0 (u + 1) u base c j) ∧ yB_I X F nb h0 h' (yB_F F h0 (u + 1) u base c) (fun w a => (h.2.1 65) w = nI a ∨ (base ≤ a ∧ a + X w ≤ base + X u))
theorem yB_C18 {base x3 : Nat} (C : yk_cx LC LM nb F X Y h0 g0) (n16 : nb ≤ 16) (hb : b < nb) (hX : base + X b ≤ 8192) (h3 : x3 + b ≤ 16) (R : yB_H nb b F X h0 r) : ∀ (m v N : Nat) (c : Nat → Int32) (h : zs_H), v + m = F (b + 1) → F b ≤ v → m < N → yB_E h0 h → (∀ j, j < 8192 → (h.2.1 62) j = c j) → (∀ w x s, v ≤ w → w < F (b + 1) → ¬ (h0.2.1 30) (32 + w) = -1 → ¬ (h0.2.1 30) (32 + w) = -2 → (h0.2.1 32) (32 + w) = nI x → (h0.2.1 34) (32 + w) = nI s → x + s ≤ 5000 → ∀ t, t < s → c (base + x + t) = 0) → yB_I X F nb h0 h c (fun u a => (∀ t, t < X u → ¬ (base ≤ a + t ∧ a + t < base + X b)) ∨ ∃ w x s, (F b ≤ w ∧ w < v) ∧ ¬ (h0.2.1 30) (32 + w) = -1 ∧ (h0.2.1 32) (32 + w) = nI x ∧ (h0.2.1 34) (32 + w) = nI s ∧ x + s ≤ 5000 ∧ base + x ≤ a ∧ a + X u ≤ base + x + s) → ∃ h', f_Mc_setConstants_L18 r N h (nI (9 + b)) (nI base) (nI x3) (nI (32 + v)) = some h' ∧ zfr [] [62, 65] [] h h' ∧ (∀ j, j < 8192 → (h'.2.1 62) j = yB_r (fun u => yB_F F h0 (u + 1) u) h0 base m v c j) ∧ yB_I X F nb h0 h' (yB_r (fun u => yB_F F h0 (u + 1) u) h0 base m v c) (fun u a => (h.2.1 65) u = nI a ∨ (base ≤ a ∧ a + X u ≤ base + X b)) := by
  have hz := zF_big
  have kB := (C.2.2 b hb).1
  have V3 : F nb ≤ 5900 := C.1.2.1.2.1.2.2
  have hF := C.1.2.1.2.2.2.1 b hb
  have O : yB_o X b (fun u => yB_F F h0 (u + 1) u) := fun u base c j hu hj => (yB_FO C (u + 1) (u + 1) (by omega) (Nat.le_refl _)).1 u base c j (by omega) hj
  intro m
  induction m with
  | zero =>
    intro v N c h e hv hN f hc _ hI
    obtain ⟨N, rfl⟩ : ∃ z, N = z + 1 := ⟨N - 1, by omega⟩
    refine ⟨h, ?_, zfr_rfl, hc, fun u hu => (hI u hu).imp id (fun ⟨a, a1, a2, a3, _⟩ => ⟨a, a1, a2, a3, .inl a1⟩)⟩
    show f_Mc_setConstants_18 r (f_Mc_setConstants_L18 r N) h (nI (9 + b)) (nI base) (nI x3) (nI (32 + v)) = _
    unfold f_Mc_setConstants_18
    rw [if_pos (zi_in (by omega) (by omega)), nI_clamp (by omega), f 24 (by decide) (by decide), (C.1.2.1.2.2.2.2.2.1 b hb).2.2, if_pos ((nI_leI (by omega) (by omega)).mpr (by omega))]
  | succ m ih =>
    intro v N c h e hv hN f hc hZ hI
    obtain ⟨N, rfl⟩ : ∃ z, N = z + 1 := ⟨N - 1, by omega⟩
    have hv2 : v < F (b + 1) := by omega
    obtain ⟨x, s, ⟨q1, _⟩, ⟨q2, _⟩, _, ⟨q4, q5, q6⟩, q7⟩ := yB_var C hb hv hv2
    obtain ⟨x0, s0, y1, y2, _, y4, _⟩ := yq_var C hb hv hv2
    have exx : x0 = x := (nI_eq (by omega) (by omega)).mp (y1.symm.trans q1)
    have ess : s0 = s := (nI_eq (by omega) (by omega)).mp (y2.symm.trans q2)
    subst exx; subst ess
    have hZ' : ∀ c2 : Nat → Int32, (∀ j, ¬ (base + x0 ≤ j ∧ j < base + x0 + s0) → c2 j = c j) → ∀ w x s, v + 1 ≤ w → w < F (b + 1) → ¬ (h0.2.1 30) (32 + w) = -1 → ¬ (h0.2.1 30) (32 + w) = -2 → (h0.2.1 32) (32 + w) = nI x → (h0.2.1 34) (32 + w) = nI s → x + s ≤ 5000 → ∀ t, t < s → c2 (base + x + t) = 0 := by
      intro c2 hc2 w x s w1 w2 w3 w4 w5 w6 w7 t ht
      rw [hc2 (base + x + t) (fun z => ?_)]
      · exact hZ w x s (by omega) w2 w3 w4 w5 w6 w7 t ht
      · exact yq_ap (u := v) (v := w) (x := x0) (s := s0) (x' := x) (s' := s) (j := x + t - x0) (t := t) C hb ⟨hv, hv2⟩ ⟨by omega, w2⟩ (by omega) q1 q2 w5 w6 (by omega) y4 w3 (by omega) ht (by omega)
    have e0 : f_Mc_setConstants_L18 r (N + 1) h (nI (9 + b)) (nI base) (nI x3) (nI (32 + v)) = (if (h0.2.1 30) (32 + v) < 9 then (if 0 ≤ (h0.2.1 30) (32 + v) then f_Mc_setConstants_L18 r N h (nI (9 + b)) (nI base) (nI x3) (nI (32 + (v + 1))) else f_Mc_setConstants_L87 r (f_Mc_setConstants_L18 r N) zF h (nI (9 + b)) (nI base) (nI x3) (nI (32 + v)) (nI (base + x0)) 0) else ((r h ((h0.2.1 30) (32 + v)) (nI (base + x0)) (nI (x3 + 1))).bind fun h7 => f_Mc_setConstants_L18 r N h7 (nI (9 + b)) (nI base) (nI x3) (nI (32 + (v + 1))))) := by
      show f_Mc_setConstants_18 r (f_Mc_setConstants_L18 r N) h (nI (9 + b)) (nI base) (nI x3) (nI (32 + v)) = _
      unfold f_Mc_setConstants_18 f_Mc_setConstants_127
      rw [if_pos (zi_in (by omega) (by omega)), nI_clamp (n := 9 + b) (by omega), f 24 (by decide) (by decide), (C.1.2.1.2.2.2.2.2.1 b hb).2.2, if_neg (mt (nI_leI (by omega) (by omega)).mp (by omega)), if_pos (zi_in (by omega) (by omega)), nI_clamp (n := 32 + v) (by omega), f 30 (by decide) (by decide), f 32 (by decide) (by decide), q1, nI_add, show nI (32 + v) + 1 = nI (32 + (v + 1)) from zc_ad 1 (32 + v), show nI x3 + 1 = nI (x3 + 1) from zc_ad 1 x3]
    rw [e0]
    show ∃ h' : zs_H, _ = some h' ∧ _ ∧ (∀ j, j < 8192 → (h'.2.1 62) j = yB_r (fun u => yB_F F h0 (u + 1) u) h0 base m (v + 1) (yB_v (fun u => yB_F F h0 (u + 1) u) h0 base v c) j) ∧ yB_I X F nb h0 h' (yB_r (fun u => yB_F F h0 (u + 1) u) h0 base m (v + 1) (yB_v (fun u => yB_F F h0 (u + 1) u) h0 base v c)) _
    have vo : ∀ j, ¬ (base + x0 ≤ j ∧ j < base + x0 + s0) → yB_v (fun u => yB_F F h0 (u + 1) u) h0 base v c j = c j := fun j hj => yB_vo C hb hv hv2 O q1 q2 (by omega) hj
    have apart : ∀ a l, ((∀ t, t < l → ¬ (base ≤ a + t ∧ a + t < base + X b)) ∨ ∃ w x s, (F b ≤ w ∧ w < v) ∧ ¬ (h0.2.1 30) (32 + w) = -1 ∧ (h0.2.1 32) (32 + w) = nI x ∧ (h0.2.1 34) (32 + w) = nI s ∧ x + s ≤ 5000 ∧ base + x ≤ a ∧ a + l ≤ base + x + s) → ∀ t, t < l → ¬ (base + x0 ≤ a + t ∧ a + t < base + x0 + s0) := by
      rintro a l (z | ⟨w, x, s, ⟨w1, w2⟩, w3, w4, w5, w6, w7, w8⟩) t ht y
      · exact z t ht (by omega)
      · exact yq_ap (u := v) (v := w) (x := x0) (s := s0) (x' := x) (s' := s) (j := a + t - base - x0) (t := a + t - base - x) C hb ⟨hv, hv2⟩ ⟨w1, by omega⟩ (by omega) q1 q2 w4 w5 (by omega) y4 w3 (by omega) (by omega) (by omega)
    have keep : ∀ h2 : zs_H, (∀ u, u < nb → (h2.2.1 65) u = (h.2.1 65) u) → yB_I X F nb h0 h2 (yB_v (fun u => yB_F F h0 (u + 1) u) h0 base v c) (fun u a => (∀ t, t < X u → ¬ (base ≤ a + t ∧ a + t < base + X b)) ∨ ∃ w x s, (F b ≤ w ∧ w < v + 1) ∧ ¬ (h0.2.1 30) (32 + w) = -1 ∧ (h0.2.1 32) (32 + w) = nI x ∧ (h0.2.1 34) (32 + w) = nI s ∧ x + s ≤ 5000 ∧ base + x ≤ a ∧ a + X u ≤ base + x + s) := by
      intro h2 e2 u hu
      rw [e2 u hu]
      refine (hI u hu).imp id ?_
      rintro ⟨a, a1, a2, a3, a4⟩
      refine ⟨a, a1, a2, fun t ht => (vo _ (apart a _ a4 t ht)).trans (a3 t ht), a4.imp id ?_⟩
      rintro ⟨w, x, s, ⟨w1, w2⟩, w3⟩
      exact ⟨w, x, s, ⟨w1, by omega⟩, w3⟩
    rcases q7 with ⟨i1, _, ev⟩ | ⟨B, hB, i1, _, _, ev⟩ | ⟨u, hu, i1, _, _, es, k2, ev⟩
    · have i0 : (h0.2.1 30) (32 + v) < 9 ∧ ¬ 0 ≤ (h0.2.1 30) (32 + v) := by
        rcases i1 with z | z <;> rw [z] <;> decide
      rw [if_pos i0.1, if_neg i0.2, show (0 : Int32) = nI 0 from rfl]
      obtain ⟨h1, a1, a2, a3⟩ := yB_C87 (r := r) (k18 := f_Mc_setConstants_L18 r N) (b := b) (base := base) (x3 := x3) (h0 := h0) (v := v) (p := base + x0) (s := s0) (k := (h0.2.1 35) (32 + v)) (by omega) q2 rfl (by omega) s0 0 zF h c (by omega) (by omega) f hc (fun j h1 h2 => by omega)
      rw [a1]
      have a3' : ∀ j, j < 8192 → (h1.2.1 62) j = yB_v (fun u => yB_F F h0 (u + 1) u) h0 base v c j := by rw [ev]; exact a3
      have fi : ∀ u, (h1.2.1 65) u = (h.2.1 65) u := fun u => by rw [a2.2.1 _ (by decide)]
      obtain ⟨h', b1, b2, b3, b4⟩ := ih (v + 1) N _ h1 (by omega) (by omega) (by omega) (yB_Ef f a2) a3' (hZ' _ vo) (keep h1 (fun u _ => fi u))
      refine ⟨h', b1, zfr_trans (zfr_w a2 (by decide) (by decide) (by decide)) b2, b3, fun u hu => (b4 u hu).imp id ?_⟩
      rintro ⟨a, p1, p2, p3, p4⟩
      exact ⟨a, p1, p2, p3, p4.imp (fun z => (fi u).symm.trans z) id⟩
    · rw [if_pos (by rw [i1]; exact (zc_tl (k := 9) (by decide) (by omega)).mpr hB), if_pos (by rw [i1]; exact (zc_le (k := 0) (by decide) (by omega)).mpr (by omega))]
      have ek := keep h (fun _ _ => rfl)
      rw [ev] at ek ⊢
      exact ih (v + 1) N c h (by omega) (by omega) (by omega) f hc (hZ' c (fun _ _ => rfl)) ek
    · have ni : ¬ (h0.2.1 30) (32 + v) = -1 := fun z => zc_m1 (by omega) (i1.symm.trans z)
      have ni2 : ¬ (h0.2.1 30) (32 + v) = -2 := fun z => yq_m2 (by omega) (i1.symm.trans z)
      rw [if_neg (by rw [i1]; exact mt (zc_tl (k := 9) (by decide) (by omega)).mp (by omega)), i1]
      obtain ⟨h1, a1, a2, a3, a4⟩ := R u (base + x0) (x3 + 1) c h hu (by omega) (by omega) f hc (fun t ht => hZ v x0 s0 (Nat.le_refl _) hv2 ni ni2 q1 q2 (by omega) t (by omega)) (fun w hw => (hI w hw).imp id (fun ⟨a, p1, p2, p3, p4⟩ => ⟨a, p1, p2, p3, fun t ht y => apart a _ p4 t ht (by omega)⟩))
      rw [a1, Option.bind_some]
      have ev' : yB_v (fun u => yB_F F h0 (u + 1) u) h0 base v c = yB_F F h0 (u + 1) u (base + x0) c := ev base _ c
      rw [ev'] at vo ⊢
      have I2 : yB_I X F nb h0 h1 (yB_F F h0 (u + 1) u (base + x0) c) (fun u a => (∀ t, t < X u → ¬ (base ≤ a + t ∧ a + t < base + X b)) ∨ ∃ w x s, (F b ≤ w ∧ w < v + 1) ∧ ¬ (h0.2.1 30) (32 + w) = -1 ∧ (h0.2.1 32) (32 + w) = nI x ∧ (h0.2.1 34) (32 + w) = nI s ∧ x + s ≤ 5000 ∧ base + x ≤ a ∧ a + X u ≤ base + x + s) := by
        intro w hw
        refine (a4 w hw).imp id ?_
        rintro ⟨a, p1, p2, p3, p4⟩
        refine ⟨a, p1, p2, p3, ?_⟩
        rcases p4 with z | z
        · rcases hI w hw with y | ⟨a', y1, y2, y3, y4⟩
          · exact absurd (z.symm.trans y) (zc_m1 (by omega))
          · have ea : a' = a := (nI_eq (by omega) (by omega)).mp (y1.symm.trans z)
            subst ea
            refine y4.imp id ?_
            rintro ⟨w', x, s, ⟨w1, w2⟩, w3⟩
            exact ⟨w', x, s, ⟨w1, by omega⟩, w3⟩
        · exact .inr ⟨v, x0, s0, ⟨hv, by omega⟩, ni, q1, q2, by omega, by omega, by omega⟩
      obtain ⟨h', b1, b2, b3, b4⟩ := ih (v + 1) N _ h1 (by omega) (by omega) (by omega) (yB_Ef f a2) a3 (hZ' _ vo) I2
      refine ⟨h', b1, zfr_trans a2 b2, b3, fun w hw => (b4 w hw).imp id ?_⟩
      rintro ⟨a, p1, p2, p3, p4⟩
      refine ⟨a, p1, p2, p3, ?_⟩
      rcases p4 with z | z
      · rcases a4 w hw with y | ⟨a', y1, y2, y3, y4⟩
        · exact absurd (z.symm.trans y) (zc_m1 (by omega))
        · have ea : a' = a := (nI_eq (by omega) (by omega)).mp (y1.symm.trans z)
          subst ea
          exact y4.imp id (fun y => ⟨by omega, by omega⟩)
      · exact .inr z
theorem yB_CB {r : zs_H → Int32 → Int32 → Int32 → Option zs_H} (C : yk_cx LC LM nb F X Y h0 g0) (n16 : nb ≤ 16) (hb : b ≤ nb) (S : yB_H nb b F X h0 r) : yB_H nb b F X h0 (g_Mc_beginInstance r) := by
  intro u base x3 c h hu hX h3 f hc hZ hI
  have hun : u < nb := by omega
  have kU := (C.2.2 u hun).1
  have eX : (h.2.1 26) (9 + u) = nI (X u) := by rw [f 26 (by decide) (by decide)]; exact (C.2.2 u hun).2.1
  have e0 : g_Mc_beginInstance r h (nI (9 + u)) (nI base) (nI x3) = (if (h.2.1 65) u = -1 then ((r h (nI (9 + u)) (nI base) (nI x3)).bind fun h10 => some (zs_uM h10 65 u (nI base))) else (if zs_cpok ((h.2.1 65) u) (nI base) (nI (X u)) 8192 then some (zs_cp h 62 ((h.2.1 65) u).toNatClampNeg base (X u)) else none)) := by
    unfold g_Mc_beginInstance
    rw [if_pos (zi_in (by omega) (by omega)), show nI (9 + u) - 9 = nI u by
      have := zi_sub (a := 9 + u) (b := 9) (by omega)
      rw [show 9 + u - 9 = u by omega] at this
      exact this, if_neg (mt (zc_tl (k := 0) (by decide) (by omega)).mp (by omega)), if_neg (mt (zc_le (k := 16) (by decide) (by omega)).mp (by omega)), if_neg (mt (zc_tl (k := 0) (by decide) (by omega)).mp (by omega)), nI_clamp (n := 9 + u) (by omega), eX, nI_add, if_pos ((zc_el (k := 8192) (by decide) (by omega)).mpr hX)]
    simp only [if_pos (zi_in (show u < 2147483648 by omega) (show u < 16 by omega)), nI_clamp (show u < 2147483648 by omega), nI_clamp (show base < 2147483648 by omega), nI_clamp (show X u < 2147483648 by omega)]
  rw [e0]
  by_cases z : (h.2.1 65) u = -1
  · rw [if_pos z]
    obtain ⟨h1, a1, a2, a3, a4⟩ := S u base x3 c h hu hX h3 f hc hZ hI
    rw [a1, Option.bind_some]
    have fi : ∀ w, ((zs_uM h1 65 u (nI base)).2.1 65) w = if w = u then nI base else (h1.2.1 65) w := fun w => zu_MM.trans (by
      by_cases y : w = u
      · rw [if_pos ⟨rfl, y⟩, if_pos y]
      · rw [if_neg (fun q => y q.2), if_neg y])
    refine ⟨_, rfl, zfr_M (by decide) a2, fun j hj => (zu_MM.trans (if_neg fun q => absurd q.1 (by decide))).trans (a3 j hj), fun w hw => ?_⟩
    rw [fi w]
    by_cases y : w = u
    · subst y
      rw [if_pos rfl]
      exact .inr ⟨base, rfl, hX, fun t ht => yB_pt C hun (by omega) hZ ht, .inr ⟨Nat.le_refl _, Nat.le_refl _⟩⟩
    · rw [if_neg y]
      exact a4 w hw
  · rw [if_neg z]
    obtain ⟨a, p1, p2, p3, p4⟩ := (hI u hun).resolve_left z
    rw [p1, if_pos ⟨nI_pos (by omega), nI_pos (by omega), nI_pos (by omega), by rw [nI_clamp (by omega), nI_clamp (by omega)]; exact p2, by rw [nI_clamp (by omega), nI_clamp (by omega)]; exact hX⟩, nI_clamp (n := a) (by omega)]
    have cp : ∀ j, ((zs_cp h 62 a base (X u)).2.1 62) j = if base ≤ j ∧ j < base + X u then (h.2.1 62) (a + (j - base)) else (h.2.1 62) j := fun j => rfl
    have O := (yB_FO C (u + 1) (u + 1) (by omega) (Nat.le_refl _)).1
    refine ⟨_, rfl, ⟨fun _ _ _ => rfl, fun k hk => ?_, fun _ _ => rfl⟩, fun j hj => ?_, fun w hw => (hI w hw).imp id ?_⟩
    · have nk : ¬ k = 62 := fun e => hk (by rw [e]; decide)
      funext j
      exact if_neg nk
    · rw [cp j]
      by_cases y : base ≤ j ∧ j < base + X u
      · obtain ⟨t, rfl⟩ : ∃ t, j = base + t := ⟨j - base, by omega⟩
        rw [if_pos y, Nat.add_sub_cancel_left, hc (a + t) (by omega), p3 t (by omega), yB_pt C hun (by omega) hZ (by omega)]
      · rw [if_neg y, hc j hj, O u base c j (by omega) y]
    · rintro ⟨a', y1, y2, y3, y4⟩
      exact ⟨a', y1, y2, fun t ht => (O u base c _ (by omega) (y4 t ht)).trans (y3 t ht), .inl y1⟩
theorem yB_CS (C : yk_cx LC LM nb F X Y h0 g0) (n16 : nb ≤ 16) : ∀ (b d : Nat), b ≤ nb → 2 * b ≤ d → yB_H nb b F X h0 (f_Mc_setConstants d) := by
  have hz := zF_big
  intro b
  induction b with
  | zero => intro d _ _ u base x3 c h hu; omega
  | succ b ih =>
    intro d hb hd u base x3 c h hu hX h3 f hc hZ hI
    by_cases y : u = b
    · subst y
      have hun : u < nb := by omega
      obtain ⟨d, rfl⟩ : ∃ z, d = z + 2 := ⟨d - 2, by omega⟩
      have kU := (C.2.2 u hun).1
      have V3 : F nb ≤ 5900 := C.1.2.1.2.1.2.2
      have hF := C.1.2.1.2.2.2.1 u hun
      obtain ⟨h', a1, a2, a3, a4⟩ := yB_C18 (r := g_Mc_beginInstance (f_Mc_setConstants d)) (base := base) (x3 := x3) C n16 hun hX h3 (yB_CB C n16 (by omega) (ih d (by omega) (by omega))) (F (u + 1) - F u) (F u) zF c h (by omega) (Nat.le_refl _) (by omega) f hc (fun w x s w1 w2 _ _ w3 w4 w5 t ht => by
        obtain ⟨x', s', ⟨q1, _⟩, ⟨q2, _⟩, _, ⟨q4, _, _⟩, _⟩ := yB_var C hun w1 w2
        have ex : x' = x := (nI_eq (by omega) (by omega)).mp (q1.symm.trans w3)
        have es : s' = s := (nI_eq (by omega) (by omega)).mp (q2.symm.trans w4)
        rw [Nat.add_assoc]
        exact hZ (x + t) (by omega)) (fun w hw => (hI w hw).imp id (fun ⟨a, p1, p2, p3, p4⟩ => ⟨a, p1, p2, p3, .inl p4⟩))
      have eF : yB_F F h0 (u + 1) u base c = yB_r (fun u => yB_F F h0 (u + 1) u) h0 base (F (u + 1) - F u) (F u) c := yB_rc C hun (fun w hw => yB_fu C u (w + 1) w (by omega) hw (by omega)) (F (u + 1) - F u) (F u) c (by omega) (Nat.le_refl _)
      refine ⟨h', ?_, a2, by rw [eF]; exact a3, by rw [eF]; exact a4⟩
      show g_Mc_setConstants (g_Mc_beginInstance (f_Mc_setConstants d)) h (nI (9 + u)) (nI base) (nI x3) = _
      unfold g_Mc_setConstants
      rw [if_pos ((zc_el (k := 16) (by decide) (by omega)).mpr (by omega)), if_pos (zi_in (by omega) (by omega)), nI_clamp (by omega), f 23 (by decide) (by decide), (C.1.2.1.2.2.2.2.2.1 u hun).1]
      exact a1
    · exact ih d (by omega) (by omega) u base x3 c h (by omega) hX h3 f hc hZ hI
end YBC
end
