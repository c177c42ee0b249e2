/-! A scan: inputs, outputs. -/
def yY_in (i : Nat) : Nat := if i < 256 then i else 512 + i
def yY_ou (i : Nat) : Nat := if i < 256 then 256 + i else 576 + i
/-- what is in and out -/
def yY_io (h g : zs_H) : Prop := ∀ i, i < 320 → ((h.2.1 59) (yY_in i) = (g.2.1 118) i ∧ (h.2.1 60) (yY_ou i) = (g.2.1 119) i ∧ (h.2.1 61) (yY_ou i) = (g.2.1 120) i) ∧ (i < 256 → yJ_01 ((g.2.1 118) i) ∧ yJ_01 ((g.2.1 119) i) ∧ yJ_01 ((g.2.1 120) i))
section YYS
variable {h g : zs_H}
theorem yY_c39 : ∀ (m x N : Nat) (h : zs_H), x + m = 832 → m < N → ∃ h', f_Mc_takeInputs_L39 N h (nI x) = some h' ∧ zfr [] [62] [] h h' ∧ ∀ j, (h'.2.1 62) j = if x ≤ j ∧ j < 832 then (h.2.1 59) j else (h.2.1 62) j := by
  intro m
  induction m with
  | zero =>
    intro x N h e hN
    obtain ⟨N, rfl⟩ : ∃ z, N = z + 1 := ⟨N - 1, by omega⟩
    refine ⟨h, ?_, zfr_rfl, fun j => by rw [if_neg (by omega)]⟩
    show f_Mc_takeInputs_39 (f_Mc_takeInputs_L39 N) h (nI x) = _
    unfold f_Mc_takeInputs_39
    rw [if_pos ((zc_le (k := 832) (by decide) (by omega)).mpr (by omega))]
  | succ m ih =>
    intro x N h e hN
    obtain ⟨N, rfl⟩ : ∃ z, N = z + 1 := ⟨N - 1, by omega⟩
    obtain ⟨h', a1, a2, a3⟩ := ih (x + 1) N (zs_uM h 62 x ((h.2.1 59) x)) (by omega) (by omega)
    refine ⟨h', ?_, zfr_trans (zfr_M (by decide) zfr_rfl) a2, fun j => ?_⟩
    · show f_Mc_takeInputs_39 (f_Mc_takeInputs_L39 N) h (nI x) = _
      unfold f_Mc_takeInputs_39
      rw [if_neg (mt (zc_le (k := 832) (by decide) (by omega)).mp (by omega)), if_pos (zi_in (by omega) (by omega)), if_pos (zi_in (by omega) (by omega)), nI_clamp (by omega), show nI x + 1 = nI (x + 1) from zc_ad 1 x]
      exact a1
    · have g1 : ((zs_uM h 62 x ((h.2.1 59) x)).2.1 59) j = (h.2.1 59) j := zu_MM.trans (if_neg fun z => absurd z.1 (by decide))
      have g2 : ((zs_uM h 62 x ((h.2.1 59) x)).2.1 62) j = if j = x then (h.2.1 59) x else (h.2.1 62) j := zu_MM.trans (by
        by_cases z : j = x
        · rw [if_pos ⟨rfl, z⟩, if_pos z]
        · rw [if_neg (fun w => z w.2), if_neg z])
      rw [a3 j, g1, g2]
      by_cases z : j = x
      · subst z
        rw [if_neg (by omega), if_pos rfl, if_pos (by omega)]
      · by_cases y : x + 1 ≤ j ∧ j < 832
        · rw [if_pos y, if_pos (by omega)]
        · rw [if_neg y, if_neg z, if_neg (by omega)]
theorem yY_c6 : ∀ (m x N : Nat) (h : zs_H), x + m = 256 → m < N → ∃ h', f_Mc_takeInputs_L6 N h (nI x) = some h' ∧ zfr [] [62] [] h h' ∧ ∀ j, (h'.2.1 62) j = if (x ≤ j ∧ j < 256) ∨ (768 ≤ j ∧ j < 832) then (h.2.1 59) j else (h.2.1 62) j := by
  have hz := zF_big
  intro m
  induction m with
  | zero =>
    intro x N h e hN
    obtain ⟨N, rfl⟩ : ∃ z, N = z + 1 := ⟨N - 1, by omega⟩
    obtain ⟨h', a1, a2, a3⟩ := yY_c39 64 768 zF h (by omega) (by omega)
    refine ⟨h', ?_, a2, fun j => ?_⟩
    · show f_Mc_takeInputs_6 (f_Mc_takeInputs_L6 N) h (nI x) = _
      unfold f_Mc_takeInputs_6
      rw [if_pos ((zc_le (k := 256) (by decide) (by omega)).mpr (by omega))]
      exact a1
    · rw [a3 j]
      by_cases y : 768 ≤ j ∧ j < 832
      · rw [if_pos y, if_pos (.inr y)]
      · rw [if_neg y, if_neg (by omega)]
  | succ m ih =>
    intro x N h e hN
    obtain ⟨N, rfl⟩ : ∃ z, N = z + 1 := ⟨N - 1, by omega⟩
    obtain ⟨h', a1, a2, a3⟩ := ih (x + 1) N (zs_uM h 62 x ((h.2.1 59) x)) (by omega) (by omega)
    refine ⟨h', ?_, zfr_trans (zfr_M (by decide) zfr_rfl) a2, fun j => ?_⟩
    · show f_Mc_takeInputs_6 (f_Mc_takeInputs_L6 N) h (nI x) = _
      unfold f_Mc_takeInputs_6
      rw [if_neg (mt (zc_le (k := 256) (by decide) (by omega)).mp (by omega)), if_pos (zi_in (by omega) (by omega)), if_pos (zi_in (by omega) (by omega)), nI_clamp (by omega), show nI x + 1 = nI (x + 1) from zc_ad 1 x]
      exact a1
    · have g1 : ((zs_uM h 62 x ((h.2.1 59) x)).2.1 59) j = (h.2.1 59) j := zu_MM.trans (if_neg fun z => absurd z.1 (by decide))
      have g2 : ((zs_uM h 62 x ((h.2.1 59) x)).2.1 62) j = if j = x then (h.2.1 59) x else (h.2.1 62) j := zu_MM.trans (by
        by_cases z : j = x
        · rw [if_pos ⟨rfl, z⟩, if_pos z]
        · rw [if_neg (fun w => z w.2), if_neg z])
      rw [a3 j, g1, g2]
      by_cases z : j = x
      · subst z
        rw [if_neg (by omega), if_pos rfl, if_pos (by omega)]
      · by_cases y : (x + 1 ≤ j ∧ j < 256) ∨ (768 ≤ j ∧ j < 832)
        · rw [if_pos y, if_pos (by omega)]
        · rw [if_neg y, if_neg z, if_neg (by omega)]
theorem yY_m45 : ∀ (m x : Nat) (g : zs_H), x + m = 320 → ∃ g', (∀ N, f_Mo_scan_L45 (N + m) g (nI x) = f_Mo_scan_L45 N g' (nI 320)) ∧ zfr [] [114] [] g g' ∧ ∀ j, (g'.2.1 114) j = if (x ≤ j ∧ j < 256) ∨ (768 ≤ j ∧ j < 832 ∧ x + 512 ≤ j) then (g.2.1 118) (if j < 256 then j else j - 512) else (g.2.1 114) j := by
  intro m
  induction m with
  | zero =>
    intro x g e
    have : x = 320 := by omega
    subst this
    exact ⟨g, fun N => rfl, zfr_rfl, fun j => by rw [if_neg (by omega)]⟩
  | succ m ih =>
    intro x g e
    obtain ⟨g', a1, a2, a3⟩ := ih (x + 1) (zs_uM g 114 (yY_in x) ((g.2.1 118) x)) (by omega)
    have hin : yY_in x < 832 ∧ (x < 256 → yY_in x = x) ∧ (256 ≤ x → yY_in x = 512 + x) := by
      unfold yY_in
      split <;> omega
    refine ⟨g', fun N => ?_, zfr_trans (zfr_M (by decide) zfr_rfl) a2, fun j => ?_⟩
    · rw [← a1 N]
      show f_Mo_scan_45 (f_Mo_scan_L45 (N + m)) g (nI x) = _
      unfold f_Mo_scan_45 f_Mo_scan_76
      rw [if_neg (mt (zc_le (k := 320) (by decide) (by omega)).mp (by omega))]
      by_cases z : 256 ≤ x
      · rw [if_pos ((zc_le (k := 256) (by decide) (by omega)).mpr z), if_pos (zi_in (by omega) (by omega)), nI_clamp (n := x) (by omega), show (768 : Int32) + nI x - 256 = nI (512 + x) by
          rw [show (768 : Int32) + nI x = nI (768 + x) from zc_da 768 x]
          have := zi_sub (a := 768 + x) (b := 256) (by omega)
          rw [show 768 + x - 256 = 512 + x by omega] at this
          exact this, if_pos (zi_in (by omega) (by omega)), nI_clamp (n := 512 + x) (by omega), hin.2.2 z, show nI x + 1 = nI (x + 1) from zc_ad 1 x]
      · rw [if_neg (mt (zc_le (k := 256) (by decide) (by omega)).mp z), if_pos (zi_in (by omega) (by omega)), if_pos (zi_in (by omega) (by omega)), nI_clamp (n := x) (by omega), hin.2.1 (by omega), show nI x + 1 = nI (x + 1) from zc_ad 1 x]
    · have g1 : ∀ k, ((zs_uM g 114 (yY_in x) ((g.2.1 118) x)).2.1 118) k = (g.2.1 118) k := fun k => zu_MM.trans (if_neg fun z => absurd z.1 (by decide))
      have g2 : ((zs_uM g 114 (yY_in x) ((g.2.1 118) x)).2.1 114) j = if j = yY_in x then (g.2.1 118) x else (g.2.1 114) j := zu_MM.trans (by
        by_cases z : j = yY_in x
        · rw [if_pos ⟨rfl, z⟩, if_pos z]
        · rw [if_neg (fun w => z w.2), if_neg z])
      rw [a3 j, g1, g2]
      by_cases z : j = yY_in x
      · have key : (if j < 256 then j else j - 512) = x ∧ (¬ ((x + 1 ≤ j ∧ j < 256) ∨ (768 ≤ j ∧ j < 832 ∧ x + 1 + 512 ≤ j))) ∧ ((x ≤ j ∧ j < 256) ∨ (768 ≤ j ∧ j < 832 ∧ x + 512 ≤ j)) := by
          rcases Nat.lt_or_ge x 256 with q | q
          · have := hin.2.1 q
            rw [if_pos (show j < 256 by omega)]
            omega
          · have := hin.2.2 q
            rw [if_neg (show ¬ j < 256 by omega)]
            omega
        rw [if_neg key.2.1, if_pos z, if_pos key.2.2, key.1]
      · have key : ((x ≤ j ∧ j < 256) ∨ (768 ≤ j ∧ j < 832 ∧ x + 512 ≤ j)) ↔ ((x + 1 ≤ j ∧ j < 256) ∨ (768 ≤ j ∧ j < 832 ∧ x + 1 + 512 ≤ j)) := by
          rcases Nat.lt_or_ge x 256 with q | q
          · have := hin.2.1 q
            omega
          · have := hin.2.2 q
            omega
        by_cases y : (x + 1 ≤ j ∧ j < 256) ∨ (768 ≤ j ∧ j < 832 ∧ x + 1 + 512 ≤ j)
        · rw [if_pos y, if_pos (key.mpr y)]
        · rw [if_neg y, if_neg z, if_neg (mt key.mp y)]
/-- inputs, on both sides -/
theorem yY_take (io : yY_io h g) {c : Nat → Int32} (c1 : ∀ j, j < 8192 → (h.2.1 62) j = c j) (c2 : ∀ j, j < 8192 → (g.2.1 114) j = c j) : ∃ (h' g' : zs_H) (c' : Nat → Int32), f_Mc_takeInputs h = some h' ∧ (∀ N, f_Mo_scan_L45 (N + 320) g (nI 0) = f_Mo_scan_L45 N g' (nI 320)) ∧ zfr [] [62] [] h h' ∧ zfr [] [114] [] g g' ∧ (∀ j, j < 8192 → (h'.2.1 62) j = c' j) ∧ (∀ j, j < 8192 → (g'.2.1 114) j = c' j) ∧ yJ_9 c c' := by
  have hz := zF_big
  obtain ⟨h', a1, a2, a3⟩ := yY_c6 256 0 zF h (by omega) (by omega)
  obtain ⟨g', b1, b2, b3⟩ := yY_m45 320 0 g (by omega)
  refine ⟨h', g', fun j => if (0 ≤ j ∧ j < 256) ∨ (768 ≤ j ∧ j < 832) then (h.2.1 59) j else c j, a1, b1, a2, b2, fun j hj => ?_, fun j hj => ?_, fun j hj => by
    show (if (0 ≤ j ∧ j < 256) ∨ (768 ≤ j ∧ j < 832) then _ else _) = _
    rw [if_neg (by omega)], fun j hj => by
    show (if (0 ≤ j ∧ j < 256) ∨ (768 ≤ j ∧ j < 832) then (h.2.1 59) j else c j) = c j ∨ yJ_01 (if (0 ≤ j ∧ j < 256) ∨ (768 ≤ j ∧ j < 832) then (h.2.1 59) j else c j)
    by_cases z : j < 256
    · have q := io j (by omega)
      rw [if_pos (by omega), show (h.2.1 59) j = (g.2.1 118) j from (by have := q.1.1; rwa [show yY_in j = j from if_pos z] at this)]
      exact .inr (q.2 z).1
    · rw [if_neg (by omega)]; exact .inl rfl⟩
  · rw [a3 j, c1 j hj]
  · rw [b3 j, c2 j hj]
    by_cases z : (0 ≤ j ∧ j < 256) ∨ (768 ≤ j ∧ j < 832)
    · rw [if_pos (by omega)]
      show _ = if _ then _ else _
      rw [if_pos z]
      by_cases y : j < 256
      · have := (io j (by omega)).1.1
        rw [if_pos y, ← this]
        unfold yY_in
        rw [if_pos y]
      · have := (io (j - 512) (by omega)).1.1
        rw [if_neg y, ← this]
        unfold yY_in
        rw [if_neg (by omega), show 512 + (j - 512) = j by omega]
    · rw [if_neg (by omega)]
      show _ = if _ then _ else _
      rw [if_neg z]
theorem yY_p2 : ∀ (m x N : Nat) (h : zs_H), x + m = 896 → 832 ≤ x → m < N → ∃ h', f_Mc_publish_c62_L36 N h (nI x) = some h' ∧ zfr [] [60] [] h h' ∧ ∀ j, (h'.2.1 60) j = if x ≤ j ∧ j < 896 then (h.2.1 62) j else (h.2.1 60) j := by
  intro m
  induction m with
  | zero =>
    intro x N h e hx hN
    obtain ⟨N, rfl⟩ : ∃ z, N = z + 1 := ⟨N - 1, by omega⟩
    refine ⟨h, ?_, zfr_rfl, fun j => by rw [if_neg (by omega)]⟩
    show f_Mc_publish_c62_36 (f_Mc_publish_c62_L36 N) h (nI x) = _
    unfold f_Mc_publish_c62_36
    rw [if_pos ((zc_le (k := 896) (by decide) (by omega)).mpr (by omega))]
  | succ m ih =>
    intro x N h e hx hN
    obtain ⟨N, rfl⟩ : ∃ z, N = z + 1 := ⟨N - 1, by omega⟩
    obtain ⟨h', a1, a2, a3⟩ := ih (x + 1) N (zs_uM h 60 x ((h.2.1 62) x)) (by omega) (by omega) (by omega)
    refine ⟨h', ?_, zfr_trans (zfr_M (by decide) zfr_rfl) a2, fun j => ?_⟩
    · show f_Mc_publish_c62_36 (f_Mc_publish_c62_L36 N) h (nI x) = _
      unfold f_Mc_publish_c62_36
      rw [if_neg (mt (zc_le (k := 896) (by decide) (by omega)).mp (by omega)), if_pos (zi_in (by omega) (by omega)), if_pos (zi_in (by omega) (by omega)), nI_clamp (by omega), show nI x + 1 = nI (x + 1) from zc_ad 1 x]
      exact a1
    · have g1 : ((zs_uM h 60 x ((h.2.1 62) x)).2.1 62) j = (h.2.1 62) j := zu_MM.trans (if_neg fun z => absurd z.1 (by decide))
      have g2 : ((zs_uM h 60 x ((h.2.1 62) x)).2.1 60) j = if j = x then (h.2.1 62) x else (h.2.1 60) j := zu_MM.trans (by
        by_cases z : j = x
        · rw [if_pos ⟨rfl, z⟩, if_pos z]
        · rw [if_neg (fun w => z w.2), if_neg z])
      rw [a3 j, g1, g2]
      by_cases z : j = x
      · subst z
        rw [if_neg (by omega), if_pos rfl, if_pos (by omega)]
      · by_cases y : x + 1 ≤ j ∧ j < 896
        · rw [if_pos y, if_pos (by omega)]
        · rw [if_neg y, if_neg z, if_neg (by omega)]
theorem yY_q2 : ∀ (m x N : Nat) (h : zs_H), x + m = 512 → 256 ≤ x → m < N → ∃ h', f_Mc_publish_c62_L6 N h (nI x) = some h' ∧ zfr [] [60] [] h h' ∧ ∀ j, (h'.2.1 60) j = if (x ≤ j ∧ j < 512) ∨ (832 ≤ j ∧ j < 896) then (h.2.1 62) j else (h.2.1 60) j := by
  have hz := zF_big
  intro m
  induction m with
  | zero =>
    intro x N h e hx hN
    obtain ⟨N, rfl⟩ : ∃ z, N = z + 1 := ⟨N - 1, by omega⟩
    obtain ⟨h', a1, a2, a3⟩ := yY_p2 64 832 zF h (by omega) (by omega) (by omega)
    refine ⟨h', ?_, a2, fun j => ?_⟩
    · show f_Mc_publish_c62_6 (f_Mc_publish_c62_L6 N) h (nI x) = _
      unfold f_Mc_publish_c62_6
      rw [if_pos ((zc_le (k := 512) (by decide) (by omega)).mpr (by omega))]
      exact a1
    · rw [a3 j]
      by_cases y : 832 ≤ j ∧ j < 896
      · rw [if_pos y, if_pos (.inr y)]
      · rw [if_neg y, if_neg (by omega)]
  | succ m ih =>
    intro x N h e hx hN
    obtain ⟨N, rfl⟩ : ∃ z, N = z + 1 := ⟨N - 1, by omega⟩
    obtain ⟨h', a1, a2, a3⟩ := ih (x + 1) N (zs_uM h 60 x ((h.2.1 62) x)) (by omega) (by omega) (by omega)
    refine ⟨h', ?_, zfr_trans (zfr_M (by decide) zfr_rfl) a2, fun j => ?_⟩
    · show f_Mc_publish_c62_6 (f_Mc_publish_c62_L6 N) h (nI x) = _
      unfold f_Mc_publish_c62_6
      rw [if_neg (mt (zc_le (k := 512) (by decide) (by omega)).mp (by omega)), if_pos (zi_in (by omega) (by omega)), if_pos (zi_in (by omega) (by omega)), nI_clamp (by omega), show nI x + 1 = nI (x + 1) from zc_ad 1 x]
      exact a1
    · have g1 : ((zs_uM h 60 x ((h.2.1 62) x)).2.1 62) j = (h.2.1 62) j := zu_MM.trans (if_neg fun z => absurd z.1 (by decide))
      have g2 : ((zs_uM h 60 x ((h.2.1 62) x)).2.1 60) j = if j = x then (h.2.1 62) x else (h.2.1 60) j := zu_MM.trans (by
        by_cases z : j = x
        · rw [if_pos ⟨rfl, z⟩, if_pos z]
        · rw [if_neg (fun w => z w.2), if_neg z])
      rw [a3 j, g1, g2]
      by_cases z : j = x
      · subst z
        rw [if_neg (by omega), if_pos rfl, if_pos (by omega)]
      · by_cases y : (x + 1 ≤ j ∧ j < 512) ∨ (832 ≤ j ∧ j < 896)
        · rw [if_pos y, if_pos (by omega)]
        · rw [if_neg y, if_neg z, if_neg (by omega)]
theorem yY_p1 : ∀ (m x N : Nat) (h : zs_H), x + m = 896 → 832 ≤ x → m < N → ∃ h', f_Mc_publish_c61_L36 N h (nI x) = some h' ∧ zfr [] [60] [] h h' ∧ ∀ j, (h'.2.1 60) j = if x ≤ j ∧ j < 896 then (h.2.1 61) j else (h.2.1 60) j := by
  intro m
  induction m with
  | zero =>
    intro x N h e hx hN
    obtain ⟨N, rfl⟩ : ∃ z, N = z + 1 := ⟨N - 1, by omega⟩
    refine ⟨h, ?_, zfr_rfl, fun j => by rw [if_neg (by omega)]⟩
    show f_Mc_publish_c61_36 (f_Mc_publish_c61_L36 N) h (nI x) = _
    unfold f_Mc_publish_c61_36
    rw [if_pos ((zc_le (k := 896) (by decide) (by omega)).mpr (by omega))]
  | succ m ih =>
    intro x N h e hx hN
    obtain ⟨N, rfl⟩ : ∃ z, N = z + 1 := ⟨N - 1, by omega⟩
    obtain ⟨h', a1, a2, a3⟩ := ih (x + 1) N (zs_uM h 60 x ((h.2.1 61) x)) (by omega) (by omega) (by omega)
    refine ⟨h', ?_, zfr_trans (zfr_M (by decide) zfr_rfl) a2, fun j => ?_⟩
    · show f_Mc_publish_c61_36 (f_Mc_publish_c61_L36 N) h (nI x) = _
      unfold f_Mc_publish_c61_36
      rw [if_neg (mt (zc_le (k := 896) (by decide) (by omega)).mp (by omega)), if_pos (zi_in (by omega) (by omega)), nI_clamp (by omega), show nI x + 1 = nI (x + 1) from zc_ad 1 x]
      exact a1
    · have g1 : ((zs_uM h 60 x ((h.2.1 61) x)).2.1 61) j = (h.2.1 61) j := zu_MM.trans (if_neg fun z => absurd z.1 (by decide))
      have g2 : ((zs_uM h 60 x ((h.2.1 61) x)).2.1 60) j = if j = x then (h.2.1 61) x else (h.2.1 60) j := zu_MM.trans (by
        by_cases z : j = x
        · rw [if_pos ⟨rfl, z⟩, if_pos z]
        · rw [if_neg (fun w => z w.2), if_neg z])
      rw [a3 j, g1, g2]
      by_cases z : j = x
      · subst z
        rw [if_neg (by omega), if_pos rfl, if_pos (by omega)]
      · by_cases y : x + 1 ≤ j ∧ j < 896
        · rw [if_pos y, if_pos (by omega)]
        · rw [if_neg y, if_neg z, if_neg (by omega)]
theorem yY_q1 : ∀ (m x N : Nat) (h : zs_H), x + m = 512 → 256 ≤ x → m < N → ∃ h', f_Mc_publish_c61_L6 N h (nI x) = some h' ∧ zfr [] [60] [] h h' ∧ ∀ j, (h'.2.1 60) j = if (x ≤ j ∧ j < 512) ∨ (832 ≤ j ∧ j < 896) then (h.2.1 61) j else (h.2.1 60) j := by
  have hz := zF_big
  intro m
  induction m with
  | zero =>
    intro x N h e hx hN
    obtain ⟨N, rfl⟩ : ∃ z, N = z + 1 := ⟨N - 1, by omega⟩
    obtain ⟨h', a1, a2, a3⟩ := yY_p1 64 832 zF h (by omega) (by omega) (by omega)
    refine ⟨h', ?_, a2, fun j => ?_⟩
    · show f_Mc_publish_c61_6 (f_Mc_publish_c61_L6 N) h (nI x) = _
      unfold f_Mc_publish_c61_6
      rw [if_pos ((zc_le (k := 512) (by decide) (by omega)).mpr (by omega))]
      exact a1
    · rw [a3 j]
      by_cases y : 832 ≤ j ∧ j < 896
      · rw [if_pos y, if_pos (.inr y)]
      · rw [if_neg y, if_neg (by omega)]
  | succ m ih =>
    intro x N h e hx hN
    obtain ⟨N, rfl⟩ : ∃ z, N = z + 1 := ⟨N - 1, by omega⟩
    obtain ⟨h', a1, a2, a3⟩ := ih (x + 1) N (zs_uM h 60 x ((h.2.1 61) x)) (by omega) (by omega) (by omega)
    refine ⟨h', ?_, zfr_trans (zfr_M (by decide) zfr_rfl) a2, fun j => ?_⟩
    · show f_Mc_publish_c61_6 (f_Mc_publish_c61_L6 N) h (nI x) = _
      unfold f_Mc_publish_c61_6
      rw [if_neg (mt (zc_le (k := 512) (by decide) (by omega)).mp (by omega)), if_pos (zi_in (by omega) (by omega)), nI_clamp (by omega), show nI x + 1 = nI (x + 1) from zc_ad 1 x]
      exact a1
    · have g1 : ((zs_uM h 60 x ((h.2.1 61) x)).2.1 61) j = (h.2.1 61) j := zu_MM.trans (if_neg fun z => absurd z.1 (by decide))
      have g2 : ((zs_uM h 60 x ((h.2.1 61) x)).2.1 60) j = if j = x then (h.2.1 61) x else (h.2.1 60) j := zu_MM.trans (by
        by_cases z : j = x
        · rw [if_pos ⟨rfl, z⟩, if_pos z]
        · rw [if_neg (fun w => z w.2), if_neg z])
      rw [a3 j, g1, g2]
      by_cases z : j = x
      · subst z
        rw [if_neg (by omega), if_pos rfl, if_pos (by omega)]
      · by_cases y : (x + 1 ≤ j ∧ j < 512) ∨ (832 ≤ j ∧ j < 896)
        · rw [if_pos y, if_pos (by omega)]
        · rw [if_neg y, if_neg z, if_neg (by omega)]
theorem yY_m182 : ∀ (m x N : Nat) (g : zs_H), x + m = 320 → m < N → ∃ g', f_Mo_scan_L182 N g (nI x) = some ((g.1 68 74), g') ∧ zfr [] [119] [] g g' ∧ ∀ j, (g'.2.1 119) j = if x ≤ j ∧ j < 320 then (g.2.1 114) (yY_ou j) else (g.2.1 119) j := by
  intro m
  induction m with
  | zero =>
    intro x N g e hN
    obtain ⟨N, rfl⟩ : ∃ z, N = z + 1 := ⟨N - 1, by omega⟩
    refine ⟨g, ?_, zfr_rfl, fun j => by rw [if_neg (by omega)]⟩
    show f_Mo_scan_182 (f_Mo_scan_L182 N) g (nI x) = _
    unfold f_Mo_scan_182
    rw [if_pos ((zc_le (k := 320) (by decide) (by omega)).mpr (by omega))]
  | succ m ih =>
    intro x N g e hN
    obtain ⟨N, rfl⟩ : ∃ z, N = z + 1 := ⟨N - 1, by omega⟩
    obtain ⟨g', a1, a2, a3⟩ := ih (x + 1) N (zs_uM g 119 x ((g.2.1 114) (yY_ou x))) (by omega) (by omega)
    have hou : yY_ou x < 960 ∧ (x < 256 → yY_ou x = 256 + x) ∧ (256 ≤ x → yY_ou x = 576 + x) := by
      unfold yY_ou
      split <;> omega
    refine ⟨g', ?_, zfr_trans (zfr_M (by decide) zfr_rfl) a2, fun j => ?_⟩
    · refine Eq.trans ?_ a1
      show f_Mo_scan_182 (f_Mo_scan_L182 N) g (nI x) = _
      unfold f_Mo_scan_182 f_Mo_scan_222
      rw [if_neg (mt (zc_le (k := 320) (by decide) (by omega)).mp (by omega))]
      by_cases z : 256 ≤ x
      · rw [if_pos ((zc_le (k := 256) (by decide) (by omega)).mpr z), show (832 : Int32) + nI x - 256 = nI (576 + x) by
          rw [show (832 : Int32) + nI x = nI (832 + x) from zc_da 832 x]
          have := zi_sub (a := 832 + x) (b := 256) (by omega)
          rw [show 832 + x - 256 = 576 + x by omega] at this
          exact this, if_pos (zi_in (by omega) (by omega)), if_pos (zi_in (by omega) (by omega)), nI_clamp (n := x) (by omega), nI_clamp (n := 576 + x) (by omega), hou.2.2 z, show nI x + 1 = nI (x + 1) from zc_ad 1 x]
      · rw [if_neg (mt (zc_le (k := 256) (by decide) (by omega)).mp z), show (256 : Int32) + nI x = nI (256 + x) from zc_da 256 x, if_pos (zi_in (by omega) (by omega)), if_pos (zi_in (by omega) (by omega)), nI_clamp (n := x) (by omega), nI_clamp (n := 256 + x) (by omega), hou.2.1 (by omega), show nI x + 1 = nI (x + 1) from zc_ad 1 x]
    · have g1 : ∀ k, ((zs_uM g 119 x ((g.2.1 114) (yY_ou x))).2.1 114) k = (g.2.1 114) k := fun k => zu_MM.trans (if_neg fun z => absurd z.1 (by decide))
      have g2 : ((zs_uM g 119 x ((g.2.1 114) (yY_ou x))).2.1 119) j = if j = x then (g.2.1 114) (yY_ou x) else (g.2.1 119) j := zu_MM.trans (by
        by_cases z : j = x
        · rw [if_pos ⟨rfl, z⟩, if_pos z]
        · rw [if_neg (fun w => z w.2), if_neg z])
      rw [a3 j, g1, g2]
      by_cases z : j = x
      · subst z
        rw [if_neg (by omega), if_pos rfl, if_pos (by omega)]
      · by_cases y : x + 1 ≤ j ∧ j < 320
        · rw [if_pos y, if_pos (by omega)]
        · rw [if_neg y, if_neg z, if_neg (by omega)]
theorem yY_ps : ∀ (m x N : Nat) (g : zs_H), x + m = 320 → m < N → ∃ g', f_Mo_publishSafe_L2 N g (nI x) = some g' ∧ zfr [] [119] [] g g' ∧ ∀ j, (g'.2.1 119) j = if x ≤ j ∧ j < 320 then (g.2.1 120) j else (g.2.1 119) j := by
  intro m
  induction m with
  | zero =>
    intro x N g e hN
    obtain ⟨N, rfl⟩ : ∃ z, N = z + 1 := ⟨N - 1, by omega⟩
    refine ⟨g, ?_, zfr_rfl, fun j => by rw [if_neg (by omega)]⟩
    show f_Mo_publishSafe_2 (f_Mo_publishSafe_L2 N) g (nI x) = _
    unfold f_Mo_publishSafe_2
    rw [if_pos ((zc_le (k := 320) (by decide) (by omega)).mpr (by omega))]
  | succ m ih =>
    intro x N g e hN
    obtain ⟨N, rfl⟩ : ∃ z, N = z + 1 := ⟨N - 1, by omega⟩
    obtain ⟨g', a1, a2, a3⟩ := ih (x + 1) N (zs_uM g 119 x ((g.2.1 120) x)) (by omega) (by omega)
    refine ⟨g', ?_, zfr_trans (zfr_M (by decide) zfr_rfl) a2, fun j => ?_⟩
    · show f_Mo_publishSafe_2 (f_Mo_publishSafe_L2 N) g (nI x) = _
      unfold f_Mo_publishSafe_2
      rw [if_neg (mt (zc_le (k := 320) (by decide) (by omega)).mp (by omega)), if_pos (zi_in (by omega) (by omega)), nI_clamp (by omega), show nI x + 1 = nI (x + 1) from zc_ad 1 x]
      exact a1
    · have g1 : ((zs_uM g 119 x ((g.2.1 120) x)).2.1 120) j = (g.2.1 120) j := zu_MM.trans (if_neg fun z => absurd z.1 (by decide))
      have g2 : ((zs_uM g 119 x ((g.2.1 120) x)).2.1 119) j = if j = x then (g.2.1 120) x else (g.2.1 119) j := zu_MM.trans (by
        by_cases z : j = x
        · rw [if_pos ⟨rfl, z⟩, if_pos z]
        · rw [if_neg (fun w => z w.2), if_neg z])
      rw [a3 j, g1, g2]
      by_cases z : j = x
      · subst z
        rw [if_neg (by omega), if_pos rfl, if_pos (by omega)]
      · by_cases y : x + 1 ≤ j ∧ j < 320
        · rw [if_pos y, if_pos (by omega)]
        · rw [if_neg y, if_neg z, if_neg (by omega)]
theorem yY_ob {i : Nat} (hi : i < 320) : (256 ≤ yY_ou i ∧ yY_ou i < 512) ∨ (832 ≤ yY_ou i ∧ yY_ou i < 896) := by
  unfold yY_ou
  split <;> omega
/-- outputs, on both sides -/
theorem yY_pubC (io : yY_io h g) (hc : ∀ j, j < 8192 → (h.2.1 62) j = (g.2.1 114) j) (hb : ∀ j, j < 768 → yJ_01 ((g.2.1 114) j)) : ∃ h' g', f_Mc_publish_c62 h = some h' ∧ f_Mo_scan_L182 zF g (nI 0) = some ((g.1 68 74), g') ∧ zfr [] [60] [] h h' ∧ zfr [] [119] [] g g' ∧ yY_io h' g' := by
  have hz := zF_big
  obtain ⟨h', a1, a2, a3⟩ := yY_q2 256 256 zF h (by omega) (by omega) (by omega)
  obtain ⟨g', b1, b2, b3⟩ := yY_m182 320 0 zF g (by omega) (by omega)
  refine ⟨h', g', a1, b1, a2, b2, fun i hi => ⟨⟨?_, ?_, ?_⟩, fun h2 => ?_⟩⟩
  · rw [a2.2.1 _ (by decide), b2.2.1 _ (by decide)]; exact (io i hi).1.1
  · have := yY_ob hi
    rw [a3, b3, if_pos this, if_pos (by omega)]
    exact hc _ (by omega)
  · rw [a2.2.1 _ (by decide), b2.2.1 _ (by decide)]; exact (io i hi).1.2.2
  · rw [b2.2.1 118 (by decide), b2.2.1 120 (by decide), b3, if_pos (by omega), show yY_ou i = 256 + i from if_pos h2]
    exact ⟨((io i hi).2 h2).1, hb _ (by omega), ((io i hi).2 h2).2.2⟩
theorem yY_pubS (io : yY_io h g) : ∃ h' g', f_Mc_publish_c61 h = some h' ∧ f_Mo_publishSafe g = some g' ∧ zfr [] [60] [] h h' ∧ zfr [] [119] [] g g' ∧ yY_io h' g' := by
  have hz := zF_big
  obtain ⟨h', a1, a2, a3⟩ := yY_q1 256 256 zF h (by omega) (by omega) (by omega)
  obtain ⟨g', b1, b2, b3⟩ := yY_ps 320 0 zF g (by omega) (by omega)
  refine ⟨h', g', a1, b1, a2, b2, fun i hi => ⟨⟨?_, ?_, ?_⟩, fun h2 => ?_⟩⟩
  · rw [a2.2.1 _ (by decide), b2.2.1 _ (by decide)]; exact (io i hi).1.1
  · have := yY_ob hi
    rw [a3, b3, if_pos this, if_pos (by omega)]
    exact (io i hi).1.2.2
  · rw [a2.2.1 _ (by decide), b2.2.1 _ (by decide)]; exact (io i hi).1.2.2
  · rw [b2.2.1 118 (by decide), b2.2.1 120 (by decide), b3, if_pos (by omega)]
    exact ⟨((io i hi).2 h2).1, ((io i hi).2 h2).2.2, ((io i hi).2 h2).2.2⟩
end YYS
