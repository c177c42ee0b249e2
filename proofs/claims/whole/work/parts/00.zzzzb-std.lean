/-! The judge: calls of standard functions (25, 26): both sides. -/
def ya_ar (s : Nat) : Nat := [1, 2, 2, 3, 3, 2, 2, 1, 1, 1].getD s 0
def ya_bM (s : Nat) (fl : Int32) : Int32 := if s = 7 then 0 else if s = 8 then 0 else if fl = 0 then 1 else 0
def ya_tM (s t1 : Nat) (wd : Int32) : Int32 := if 4 ≤ s then (if 7 ≤ s then (if s = 9 then 0 else nI s - 6) else nI t1) else wd
def ya_chk (s t1 : Nat) (l : List Nat) : Bool := (decide (ya_bM s (ya_fl 1 l) = 1) && decide (f_Jd_standardType (nI s) (nI t1) (nI (l.getD 1 1)) (nI (l.getD 2 1)) = -1)) || (decide (ya_bM s (ya_fl 1 l) = 0) && decide (f_Jd_standardType (nI s) (nI t1) (nI (l.getD 1 1)) (nI (l.getD 2 1)) = ya_tM s t1 (ya_wd (-1) l)) && decide (¬ ya_tM s t1 (ya_wd (-1) l) = -1))
theorem ya_T3 : ∀ s, s < 10 → ¬ s = 4 → ∀ t1, t1 < 3 → ∀ t2, t2 < 3 → ∀ t3, t3 < 3 → ya_chk s t1 ([t1, t2, t3].take (ya_ar s)) = true := by decide +kernel
theorem ya_T4 : ∀ t1, t1 < 3 → ∀ t2, t2 < 3 → ∀ t3, t3 < 3 → f_Jd_standardType (nI 4) (nI t1) (nI t2) (nI t3) = if t1 = 0 ∧ (t2 = 0 ↔ t3 = 0) then nI (max t2 t3) else -1 := by decide +kernel
theorem ya_T5 : ∀ s, s < 10 → 1 ≤ ya_ar s ∧ ya_ar s ≤ 3 := by decide +kernel
section YD
variable {g : zs_H} {k ka s t1 : Nat} {fl wd : Int32}
theorem ya_206 (J2 : (g.1 68 29) = 0) (hk : k < 33500) (hs : s < 10) (h4 : ¬ s = 4) (m3 : (g.2.1 76) k = nI ka) (hka : ka < 33500) (m4 : (g.2.1 100) ka = nI t1) : f_Mo_lookAtCall_206 g (nI k) (nI s) fl wd 0 = (f_Mo_rule (zs_uM g 102 k (nI (100 + s))) (ya_bM s fl) 26 (nI k)).bind fun h2 => some (zs_uM h2 100 k (ya_tM s t1 wd)) := by
  have e4 : (nI s = 4) ↔ s = 4 := zc_eq (k := 4) (by decide) (by omega)
  have e7 : (nI s = 7) ↔ s = 7 := zc_eq (k := 7) (by decide) (by omega)
  have e8 : (nI s = 8) ↔ s = 8 := zc_eq (k := 8) (by decide) (by omega)
  have e9 : (nI s = 9) ↔ s = 9 := zc_eq (k := 9) (by decide) (by omega)
  have l4 : (4 ≤ nI s) ↔ 4 ≤ s := zc_le (k := 4) (by decide) (by omega)
  have l7 : (7 ≤ nI s) ↔ 7 ≤ s := zc_le (k := 7) (by decide) (by omega)
  have e100 : (100 : Int32) + nI s = nI (100 + s) := (Int32.ofNat_add 100 s).symm
  have g424 : ∀ (x : Int32) (h2 : zs_H), f_Mo_lookAtCall_424 h2 x (nI k) = some (zs_uM h2 100 k x) := by
    intro x h2
    unfold f_Mo_lookAtCall_424
    rw [if_pos (zi_in (by omega) hk), nI_clamp (show k < 2147483648 by omega)]
  have g369 : ∀ y, f_Mo_lookAtCall_369 (zs_uM g 102 k (nI (100 + s))) (nI k) (nI s) wd y = (f_Mo_rule (zs_uM g 102 k (nI (100 + s))) y 26 (nI k)).bind fun h2 => some (zs_uM h2 100 k (ya_tM s t1 wd)) := by
    intro y
    unfold f_Mo_lookAtCall_369 ya_tM
    simp only [g424, l4, l7, e9, if_pos (zi_in (show k < 2147483648 by omega) hk), nI_clamp (show k < 2147483648 by omega)]
    have key : ∀ h2 : zs_H, f_Mo_rule (zs_uM g 102 k (nI (100 + s))) y 26 (nI k) = some h2 → (h2.2.1 76) k = nI ka ∧ (h2.2.1 100) ka = nI t1 := by
      intro h2 e
      have J2' : ((zs_uM g 102 k (nI (100 + s))).1 68 29) = 0 := J2
      by_cases zy : y = 0
      · rw [zy, zv_rule0] at e
        rw [← Option.some.inj e]
        exact ⟨by rw [zu_MM, if_neg (fun z => absurd z.1 (by decide))]; exact m3, by rw [zu_MM, if_neg (fun z => absurd z.1 (by decide))]; exact m4⟩
      · rw [show (26 : Int32) = nI 26 from rfl, zv_rule1 zy J2' hk] at e
        rw [← Option.some.inj e]
        exact ⟨by show ((zs_uM g 102 k (nI (100 + s))).2.1 76) k = _; rw [zu_MM, if_neg (fun z => absurd z.1 (by decide))]; exact m3, by show ((zs_uM g 102 k (nI (100 + s))).2.1 100) ka = _; rw [zu_MM, if_neg (fun z => absurd z.1 (by decide))]; exact m4⟩
    cases e : f_Mo_rule (zs_uM g 102 k (nI (100 + s))) y 26 (nI k) with
    | none => rfl
    | some h2 =>
      obtain ⟨k1, k2⟩ := key h2 e
      rw [Option.bind_some, Option.bind_some, k1, if_pos (zi_in (by omega) hka), nI_clamp (show ka < 2147483648 by omega), k2]
      by_cases z4 : 4 ≤ s
      · by_cases z7 : 7 ≤ s
        · by_cases z9 : s = 9
          · rw [if_pos z4, if_pos z7, if_pos z9, if_pos z4, if_pos z7, if_pos z9]
          · simp only [z4, z7, z9, if_true, if_false]
        · simp only [z4, z7, if_true, if_false]
      · simp only [z4, if_false]
  unfold f_Mo_lookAtCall_206 f_Mo_lookAtCall_368 ya_bM
  rw [zv_rule0, Option.bind_some, J2, if_pos (by decide), if_pos (zi_in (by omega) hk), nI_clamp (show k < 2147483648 by omega), e100, g369, g369, if_neg (mt e4.mp h4)]
  simp only [e7, e8]
  by_cases z7 : s = 7
  · simp only [z7, if_true]
  · by_cases z8 : s = 8
    · rw [if_neg z7, if_pos z8, if_neg z7, if_pos z8]
    · by_cases zf : fl = 0
      · simp only [z7, z8, zf, if_true, if_false]
      · simp only [z7, z8, zf, if_false]
theorem ya_206s {kb kc t2 t3 : Nat} (J2 : (g.1 68 29) = 0) (hk : k < 33500) (m3 : (g.2.1 76) k = nI ka) (hka : ka < 33500) (m4 : (g.2.1 100) ka = nI t1) (m5 : (g.2.1 78) ka = nI kb) (hkb : kb < 33500) (m6 : (g.2.1 100) kb = nI t2) (m7 : (g.2.1 77) k = nI kc) (hkc : kc < 33500) (m8 : (g.2.1 100) kc = nI t3) (h1 : t1 < 3) (h2 : t2 < 3) (h3 : t3 < 3) : f_Mo_lookAtCall_206 g (nI k) (nI 4) fl wd 0 = (f_Mo_rule (zs_uM g 102 k (nI 104)) (if t1 = 0 ∧ (t2 = 0 ↔ t3 = 0) then 0 else 1) 26 (nI k)).bind fun h2 => some (zs_uM h2 100 k (nI (max t2 t3))) := by
  have A : ∀ z j, ¬ z = 102 → (zs_uM g 102 k (nI 104)).2.1 z j = g.2.1 z j := fun z j hz => by rw [zu_MM, if_neg (fun u => hz u.1)]
  have g324 : ∀ y, f_Mo_lookAtCall_324 (zs_uM g 102 k (nI 104)) (nI k) (nI t2) (nI t3) y = (f_Mo_rule (zs_uM g 102 k (nI 104)) y 26 (nI k)).bind fun h2 => some (zs_uM h2 100 k (nI (max t2 t3))) := by
    intro y
    unfold f_Mo_lookAtCall_324
    simp only [if_pos (zi_in (show k < 2147483648 by omega) hk), nI_clamp (show k < 2147483648 by omega), zv_widM h2 h3]
  have g297 : ∀ y, f_Mo_lookAtCall_297 (zs_uM g 102 k (nI 104)) (nI k) (nI t2) (nI t3) y = if t1 = 0 ∧ ¬ y = 0 then f_Mo_lookAtCall_324 (zs_uM g 102 k (nI 104)) (nI k) (nI t2) (nI t3) 0 else f_Mo_lookAtCall_324 (zs_uM g 102 k (nI 104)) (nI k) (nI t2) (nI t3) 1 := by
    intro y
    unfold f_Mo_lookAtCall_297 f_Mo_lookAtCall_319
    simp only [if_pos (zi_in (show k < 2147483648 by omega) hk), nI_clamp (show k < 2147483648 by omega), A _ _ (show ¬ (76 : Nat) = 102 by decide), m3, if_pos (zi_in (show ka < 2147483648 by omega) hka), nI_clamp (show ka < 2147483648 by omega), A _ _ (show ¬ (100 : Nat) = 102 by decide), m4, zv_t0 h1]
    by_cases z1 : t1 = 0
    · by_cases z2 : y = 0
      · simp only [z1, z2, if_true, not_true, and_false, if_false]
      · simp only [z1, z2, if_true, not_false_iff, and_self, if_false]
    · simp only [z1, if_false, false_and]
  have g276 : f_Mo_lookAtCall_276 (zs_uM g 102 k (nI 104)) (nI k) (nI t2) (nI t3) = f_Mo_lookAtCall_297 (zs_uM g 102 k (nI 104)) (nI k) (nI t2) (nI t3) (if t2 = 0 then 0 else if t3 = 0 then 0 else 1) := by
    unfold f_Mo_lookAtCall_276 f_Mo_lookAtCall_296 f_Mo_lookAtCall_292
    rw [zv_isn h2, zv_isn h3]
    by_cases z2 : t2 = 0
    · simp (config := { decide := true }) only [z2, if_true]
    · by_cases z3 : t3 = 0
      · simp (config := { decide := true }) only [z2, z3, if_true, if_false]
      · simp (config := { decide := true }) only [z2, z3, if_false]
  unfold f_Mo_lookAtCall_206 f_Mo_lookAtCall_292
  rw [zv_rule0, Option.bind_some, J2, if_pos (by decide), if_pos (zi_in (by omega) hk), if_pos (show nI 4 = 4 from rfl), nI_clamp (show k < 2147483648 by omega), m3, if_pos (zi_in (by omega) hka), nI_clamp (show ka < 2147483648 by omega), m5, if_pos (zi_in (by omega) hkb), m7, if_pos (zi_in (by omega) hkc), nI_clamp (show kb < 2147483648 by omega), nI_clamp (show kc < 2147483648 by omega), m6, m8, show (100 : Int32) + nI 4 = nI 104 from rfl, g276, g297, g297, g324, g324]
  simp only [zv_t0 h2, zv_t0 h3]
  by_cases z1 : t1 = 0
  · by_cases z2 : t2 = 0
    · by_cases z3 : t3 = 0
      · simp (config := { decide := true }) only [z1, z2, z3, if_true, and_self]
      · simp (config := { decide := true }) only [z1, z2, z3, if_true, if_false]
    · by_cases z3 : t3 = 0
      · simp (config := { decide := true }) only [z1, z2, z3, if_true, if_false]
      · simp (config := { decide := true }) only [z1, z2, z3, if_true, if_false]
  · by_cases z2 : t2 = 0
    · by_cases z3 : t3 = 0
      · simp (config := { decide := true }) only [z1, z2, z3, if_true, if_false, false_and]
      · simp (config := { decide := true }) only [z1, z2, z3, if_true, if_false, false_and]
    · simp (config := { decide := true }) only [z1, z2, if_false, false_and]
end YD
