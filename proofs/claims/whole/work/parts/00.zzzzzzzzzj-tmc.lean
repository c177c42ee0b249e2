/-! The machine: standard blocks on the class. -/
section YTC
variable {p : Nat} {h0 h : zs_H} {c : Nat → Int32} {nw v : Int32}
theorem yT_lt {a b : Int32} : a.toInt64 < b.toInt64 ↔ a < b := by
  rw [Int64.lt_iff_toInt_lt, Int32.lt_iff_toInt_lt, Int32.toInt_toInt64, Int32.toInt_toInt64]
theorem yT_le {a b : Int32} : a.toInt64 ≤ b.toInt64 ↔ a ≤ b := by
  rw [Int64.le_iff_toInt_le, Int32.le_iff_toInt_le, Int32.toInt_toInt64, Int32.toInt_toInt64]
theorem yT_l0 {a : Int32} : a.toInt64 ≤ 0 ↔ a ≤ 0 := yT_le (b := 0)
theorem yT_mx {a : Int32} : zd_max 0 a = yT_pt a := by
  unfold zd_max yT_pt
  by_cases z : a ≤ 0
  · rw [if_pos z, if_neg (Int32.not_lt.mpr z)]
  · rw [if_neg z, if_pos (Int32.not_le.mp z)]
theorem yT_mn {pt e l : Int32} : (zd_minl pt.toInt64 (e.toInt64 + (nw.toInt64 - l.toInt64))).toInt32 = yT_gr nw pt e l := by
  unfold zd_minl yT_gr
  have a : e.toInt64 + (nw.toInt64 - l.toInt64) = e.toInt64 + nw.toInt64 - l.toInt64 := by
    rw [Int64.sub_eq_add_neg, Int64.sub_eq_add_neg, Int64.add_assoc]
  rw [a]
  by_cases z : pt.toInt64 ≤ e.toInt64 + nw.toInt64 - l.toInt64
  · rw [if_pos z, if_neg (Int64.not_lt.mpr z)]
  · rw [if_neg z, if_pos (Int64.not_le.mp z)]
theorem yT_cat (H : yT_S 62 h0 h c) {x : Nat} (hx : x < 8192) : f_Mc_cellAt h (nI x) = some (c x) := by
  unfold f_Mc_cellAt
  rw [if_neg (mt (zc_tl (k := 0) (by decide) (by omega)).mp (by omega)), if_neg (mt (zc_le (k := 8192) (by decide) (by omega)).mp (by omega)), if_pos (zi_in (by omega) hx), nI_clamp (by omega), H.2 x hx]
theorem yT_cbe (H : yT_S 62 h0 h c) {x : Nat} (hx : x < 8192) : ∃ h', f_Mc_become h (nI x) v = some h' ∧ yT_S 62 h0 h' (yE_u c x v) := by
  unfold f_Mc_become
  rw [if_neg (mt (zc_tl (k := 0) (by decide) (by omega)).mp (by omega)), if_neg (mt (zc_le (k := 8192) (by decide) (by omega)).mp (by omega)), if_pos (zi_in (by omega) hx), nI_clamp (by omega)]
  exact ⟨_, rfl, yT_w H⟩
theorem yT_if {x3 : Int32} {r : Int32 → Option zs_H} : (if yT_on x3 = 0 then r 0 else r 1) = r (yT_on x3) := by
  unfold yT_on
  by_cases z : x3 = 0
  · rw [if_pos z, if_pos rfl]
  · rw [if_neg z, if_neg (by decide)]
theorem yT_if2 {x3 : Int32} {r : Int32 → Option zs_H} : (if x3 = 0 then r 0 else r 1) = r (yT_on x3) := by
  unfold yT_on
  by_cases z : x3 = 0
  · rw [if_pos z, if_pos z]
  · rw [if_neg z, if_neg z]
theorem yT_be1 (H : yT_S 62 h0 h c) {x : Nat} (hx : x < 8192) : yT_E 62 h0 ((f_Mc_become h (nI x) v).bind fun h2 => some h2) (yE_u c x v) := by
  obtain ⟨h', a1, a2⟩ := yT_cbe (v := v) H hx
  rw [a1]
  exact ⟨h', rfl, a2⟩
theorem yT_283 (H : yT_S 62 h0 h c) (hn : (h0.1 58 9) = nw) (hp : p + 6 ≤ 8192) (x3 et q : Int32) : yT_E 62 h0 (f_Mc_runTimer_283 h (nI p) (yT_on x3) et q) (yE_u (yE_u (yE_u (yE_u c (p + 3) et) (p + 2) (yT_on q)) (p + 4) (yT_on x3)) (p + 5) nw) := by
  unfold f_Mc_runTimer_283
  rw [yT_if2 (r := fun y => f_Mc_runTimer_297 h (nI p) (yT_on x3) et y (nI p + 2))]
  unfold f_Mc_runTimer_297 f_Mc_runTimer_322
  obtain ⟨h1, a1, a2⟩ := yT_cbe (v := yT_on q) H (show p + 2 < 8192 by omega)
  obtain ⟨h2, b1, b2⟩ := yT_cbe (v := et) a2 (show p + 3 < 8192 by omega)
  rw [show nI p + 2 = nI (p + 2) from zc_ad 2 p, show nI p + 3 = nI (p + 3) from zc_ad 3 p, show nI p + 4 = nI (p + 4) from zc_ad 4 p, show nI p + 5 = nI (p + 5) from zc_ad 5 p, a1, Option.bind_some, b1, Option.bind_some, yT_if (r := fun y => (f_Mc_become h2 (nI (p + 4)) y).bind fun h2 => (f_Mc_become h2 (nI (p + 5)) ((h2.1 58 9))).bind fun h4 => some h4)]
  obtain ⟨h3, d1, d2⟩ := yT_cbe (v := yT_on x3) b2 (show p + 4 < 8192 by omega)
  rw [d1, Option.bind_some, show (h3.1 58 9) = nw from (d2.1.1 _ _ List.not_mem_nil).trans hn]
  refine yT_Ec (fun j hj => ?_) (yT_be1 (v := nw) d2 (show p + 5 < 8192 by omega))
  unfold yE_u
  by_cases j5 : j = p + 5
  · rw [if_pos j5, if_pos j5]
  rw [if_neg j5, if_neg j5]
  by_cases j4 : j = p + 4
  · rw [if_pos j4, if_pos j4]
  rw [if_neg j4, if_neg j4]
  by_cases j2 : j = p + 2
  · rw [if_pos j2, if_neg (by omega), if_pos j2]
  rw [if_neg j2, if_neg j2]
theorem yT_81 {k : Nat} (hk : k < 3) (H : yT_S 62 h0 h c) (hn : (h0.1 58 9) = nw) (hp : p + 6 ≤ 8192) : f_Mc_runTimer h (nI k) (nI p) (yT_on (c p)) = f_Mc_runTimer_81 h (nI k) (nI p) (yT_on (c p)) (yT_on (c (p + 4))) (yT_pt (c (p + 1))).toInt64 (c (p + 3)) (yT_gr nw (yT_pt (c (p + 1))) (c (p + 3)) (c (p + 5))) (yT_on (c (p + 2))) := by
  have en : (h.1 58 9) = nw := (H.1.1 _ _ List.not_mem_nil).trans hn
  unfold f_Mc_runTimer
  rw [show nI p + 4 = nI (p + 4) from zc_ad 4 p, yT_cat H (show p + 4 < 8192 by omega), Option.bind_some, yT_if2 (r := fun y => f_Mc_runTimer_15 h (nI k) (nI p) (yT_on (c p)) y)]
  unfold f_Mc_runTimer_15
  rw [show nI p + 1 = nI (p + 1) from zc_ad 1 p, show nI p + 3 = nI (p + 3) from zc_ad 3 p, show nI p + 5 = nI (p + 5) from zc_ad 5 p, show nI p + 2 = nI (p + 2) from zc_ad 2 p, yT_cat H (show p + 1 < 8192 by omega), Option.bind_some, yT_cat H (show p + 3 < 8192 by omega), Option.bind_some, yT_cat H (show p + 5 < 8192 by omega), Option.bind_some, yT_cat H (show p + 2 < 8192 by omega), Option.bind_some, en, yT_mx, yT_mn]
  exact yT_if2 (r := fun y => f_Mc_runTimer_81 h (nI k) (nI p) (yT_on (c p)) (yT_on (c (p + 4))) (yT_pt (c (p + 1))).toInt64 (c (p + 3)) (yT_gr nw (yT_pt (c (p + 1))) (c (p + 3)) (c (p + 5))) y)
theorem yT_C012 {k : Nat} (hk : k < 3) (H : yT_S 62 h0 h c) (hn : (h0.1 58 9) = nw) (hp : p + 6 ≤ 8192) : yT_E 62 h0 (f_Mc_runTimer h (nI k) (nI p) (yT_on (c p))) (yT_m nw k p c) := by
  rw [yT_81 hk H hn hp]
  have G := fun et q => yT_283 H hn hp (c p) et q
  unfold yT_m yT_et yT_q yT_et
  rw [if_pos hk]
  generalize yT_gr nw (yT_pt (c (p + 1))) (c (p + 3)) (c (p + 5)) = gr
  generalize yT_pt (c (p + 1)) = pt
  unfold f_Mc_runTimer_81 f_Mc_runTimer_101 f_Mc_runTimer_102 f_Mc_runTimer_121 f_Mc_runTimer_122 f_Mc_runTimer_150 f_Mc_runTimer_151 f_Mc_runTimer_172 f_Mc_runTimer_178 f_Mc_runTimer_213 f_Mc_runTimer_217 f_Mc_runTimer_218 f_Mc_runTimer_246 f_Mc_runTimer_248 f_Mc_runTimer_262 f_Mc_runTimer_280 f_Mc_runTimer_281
  simp only [yT_o0, yT_lt, yT_le, yT_l0]
  have hk' : k = 0 ∨ k = 1 ∨ k = 2 := by omega
  rcases hk' with e | e | e
  · subst e
    simp (config := { decide := true }) only [if_pos (show (nI 0 : Int32) = 0 from rfl), if_true, if_false]
    by_cases z : c p = 0
    · simp only [if_pos z, if_pos (show c p = 0 ∨ c (p + 4) = 0 from .inl z), if_pos (show c p = 0 ∨ (0 : Int32) < pt from .inl z)]; exact G 0 0
    · by_cases y : c (p + 4) = 0
      · simp only [if_neg z, if_pos y, if_pos (show c p = 0 ∨ c (p + 4) = 0 from .inr y)]
        by_cases w : 0 < pt
        · rw [if_pos w, if_pos (show c p = 0 ∨ 0 < pt from .inr w)]; exact G 0 0
        · rw [if_neg w, if_neg (show ¬ (c p = 0 ∨ 0 < pt) from fun q => q.elim z w)]; exact G 0 1
      · simp only [if_neg z, if_neg y, if_neg (show ¬ (c p = 0 ∨ c (p + 4) = 0) from fun q => q.elim z y)]
        by_cases w : gr < pt
        · rw [if_pos w, if_pos (show c p = 0 ∨ gr < pt from .inr w)]; exact G gr 0
        · rw [if_neg w, if_neg (show ¬ (c p = 0 ∨ gr < pt) from fun q => q.elim z w)]; exact G gr 1
  · subst e
    simp (config := { decide := true }) only [if_neg (show ¬ (nI 1 : Int32) = 0 by decide), if_pos (show (nI 1 : Int32) = 1 from rfl), if_true, if_false]
    by_cases z : c p = 0
    · by_cases y : c (p + 4) = 0
      · by_cases w : c (p + 2) = 0
        · simp (config := { decide := true }) only [if_pos z, if_pos y, if_pos w, if_pos (show c p = 0 ∧ c (p + 4) = 0 from ⟨z, y⟩), if_neg (show ¬ ¬ c p = 0 from fun q => q z), if_neg (show ¬ ¬ c (p + 4) = 0 from fun q => q y), if_true, if_pos (show c (p + 2) = 0 ∨ pt ≤ gr from .inl w)]
          exact G _ 0
        · simp (config := { decide := true }) only [if_pos z, if_pos y, if_neg w, if_pos (show c p = 0 ∧ c (p + 4) = 0 from ⟨z, y⟩), if_neg (show ¬ ¬ c p = 0 from fun q => q z), if_neg (show ¬ ¬ c (p + 4) = 0 from fun q => q y), if_false, w, false_or]
          split
          · exact G _ 0
          · exact G _ 1
      · have e0 : ((0 : Int32) < pt) ↔ ¬ pt ≤ 0 := Int32.not_le.symm
        simp (config := { decide := true }) only [if_pos z, if_neg y, if_neg (show ¬ (c p = 0 ∧ c (p + 4) = 0) from fun q => y q.2), if_neg (show ¬ ¬ c p = 0 from fun q => q z), if_pos (show ¬ c (p + 4) = 0 from y), if_true, e0]
        by_cases w : pt ≤ 0
        · rw [if_pos w, if_neg (fun q => q w)]; exact G _ 0
        · rw [if_neg w, if_pos w]; exact G _ 1
    · simp (config := { decide := true }) only [if_neg z, if_neg (show ¬ (c p = 0 ∧ c (p + 4) = 0) from fun q => z q.1), if_pos (show ¬ c p = 0 from z), if_true]
      exact G _ 1
  · subst e
    simp (config := { decide := true }) only [if_neg (show ¬ (nI 2 : Int32) = 0 by decide), if_neg (show ¬ (nI 2 : Int32) = 1 by decide), if_true, if_false]
    have fin : ∀ et, yT_E 62 h0 (if c p = 0 then f_Mc_runTimer_283 h (nI p) (yT_on (c p)) 0 0 else if c (p + 4) = 0 then (if c p = 0 then f_Mc_runTimer_283 h (nI p) (yT_on (c p)) 0 0 else if pt ≤ 0 then f_Mc_runTimer_283 h (nI p) (yT_on (c p)) 0 0 else f_Mc_runTimer_283 h (nI p) (yT_on (c p)) 0 1) else f_Mc_runTimer_283 h (nI p) (yT_on (c p)) et 0) (yE_u (yE_u (yE_u (yE_u c (p + 3) (if c p = 0 ∨ c (p + 4) = 0 then 0 else et)) (p + 2) (if c p = 0 then 0 else if c (p + 4) = 0 then (if pt ≤ 0 then 0 else 1) else 0)) (p + 4) (yT_on (c p))) (p + 5) nw) := by
      intro et
      by_cases z : c p = 0
      · simp only [if_pos z, if_pos (show c p = 0 ∨ c (p + 4) = 0 from .inl z)]; exact G 0 0
      · by_cases y : c (p + 4) = 0
        · simp only [if_neg z, if_pos y, if_pos (show c p = 0 ∨ c (p + 4) = 0 from .inr y)]
          by_cases w : pt ≤ 0
          · rw [if_pos w, if_pos w]; exact G 0 0
          · rw [if_neg w, if_neg w]; exact G 0 1
        · simp only [if_neg z, if_neg y, if_neg (show ¬ (c p = 0 ∨ c (p + 4) = 0) from fun q => q.elim z y)]; exact G et 0
    have e00 : f_Mc_runTimer_283 h (nI p) (yT_on (c p)) (c (p + 3)) (yT_on (c (p + 2))) = f_Mc_runTimer_283 h (nI p) (yT_on (c p)) (c (p + 3)) (yT_on (c (p + 2))) := rfl
    by_cases w : c (p + 2) = 0
    · have ew : yT_on (c (p + 2)) = 0 := yT_o0.mpr w
      rw [if_pos w, if_pos w, if_neg (show ¬ (¬ c (p + 2) = 0 ∧ gr < pt) from fun q => q.1 w), if_neg (show ¬ (¬ c (p + 2) = 0 ∧ gr < pt) from fun q => q.1 w), if_pos w, ew]
      have := fin (c (p + 3))
      by_cases z : c p = 0
      · simp only [if_pos z] at this ⊢; exact this
      · simp only [if_neg z] at this ⊢; exact this
    · rw [if_neg w]
      by_cases y : pt ≤ gr
      · rw [if_pos y, if_neg (show ¬ (¬ c (p + 2) = 0 ∧ gr < pt) from fun q => Int32.not_lt.mpr y q.2), if_neg (show ¬ (¬ c (p + 2) = 0 ∧ gr < pt) from fun q => Int32.not_lt.mpr y q.2), if_neg w]
        have := fin gr
        by_cases z : c p = 0
        · simp only [if_pos z] at this ⊢; exact this
        · simp only [if_neg z] at this ⊢; exact this
      · rw [if_neg y, if_pos (show ¬ c (p + 2) = 0 ∧ gr < pt from ⟨w, Int32.not_le.mp y⟩), if_pos (show ¬ c (p + 2) = 0 ∧ gr < pt from ⟨w, Int32.not_le.mp y⟩)]
        exact G gr 1
theorem yT_145 (H : yT_S 62 h0 h c) (hp : p + 6 ≤ 8192) (x3 cv q : Int32) : yT_E 62 h0 (f_Mc_runCounter_145 h (nI p) (yT_on x3) cv q (nI (p + 3))) (yE_u (yE_u (yE_u c (p + 4) cv) (p + 3) q) (p + 5) (yT_on x3)) := by
  unfold f_Mc_runCounter_145 f_Mc_runCounter_170
  obtain ⟨h1, a1, a2⟩ := yT_cbe (v := q) H (show p + 3 < 8192 by omega)
  obtain ⟨h2, b1, b2⟩ := yT_cbe (v := cv) a2 (show p + 4 < 8192 by omega)
  rw [show nI p + 4 = nI (p + 4) from zc_ad 4 p, show nI p + 5 = nI (p + 5) from zc_ad 5 p, a1, Option.bind_some, b1, Option.bind_some, yT_if (r := fun y => (f_Mc_become h2 (nI (p + 5)) y).bind fun h2 => some h2)]
  refine yT_Ec (fun j hj => ?_) (yT_be1 (v := yT_on x3) b2 (show p + 5 < 8192 by omega))
  unfold yE_u
  by_cases j5 : j = p + 5
  · rw [if_pos j5, if_pos j5]
  rw [if_neg j5, if_neg j5]
  by_cases j3 : j = p + 3
  · rw [if_pos j3, if_neg (by omega), if_pos j3]
  rw [if_neg j3, if_neg j3]
theorem yT_C34 {k : Nat} (hk : k = 3 ∨ k = 4) (H : yT_S 62 h0 h c) (hp : p + 6 ≤ 8192) : yT_E 62 h0 (f_Mc_runCounter h (nI k) (nI p) (yT_on (c p)) (yT_on (c (p + 1)))) (yT_m nw k p c) := by
  have G := fun cv q => yT_145 H hp (c p) cv q
  unfold yT_m yT_cv f_Mc_runCounter f_Mc_runCounter_18 f_Mc_runCounter_19 f_Mc_runCounter_49 f_Mc_runCounter_67 f_Mc_runCounter_101 f_Mc_runCounter_113 f_Mc_runCounter_116 f_Mc_runCounter_140 f_Mc_runCounter_144
  rw [if_neg (show ¬ k < 3 by omega), if_pos (show k < 5 by omega)]
  simp only [yT_o0, show nI p + 2 = nI (p + 2) from zc_ad 2 p, show nI p + 3 = nI (p + 3) from zc_ad 3 p, show nI p + 4 = nI (p + 4) from zc_ad 4 p, show nI p + 5 = nI (p + 5) from zc_ad 5 p, yT_cat H (show p + 2 < 8192 by omega), yT_cat H (show p + 4 < 8192 by omega), yT_cat H (show p + 5 < 8192 by omega), Option.bind_some]
  have s1 : ∀ x : Int32, x + -1 = x - 1 := fun x => (Int32.sub_eq_add_neg x 1).symm
  rcases hk with e | e
  · subst e
    simp (config := { decide := true }) only [if_pos (show (nI 3 : Int32) = 3 from rfl), if_true, if_false]
    have R : ∀ cv, yT_E 62 h0 (if cv < c (p + 2) then f_Mc_runCounter_145 h (nI p) (yT_on (c p)) cv 0 (nI (p + 3)) else f_Mc_runCounter_145 h (nI p) (yT_on (c p)) cv 1 (nI (p + 3))) (yE_u (yE_u (yE_u c (p + 4) cv) (p + 3) (if cv < c (p + 2) then 0 else 1)) (p + 5) (yT_on (c p))) := fun cv => by
      split
      · exact G cv 0
      · exact G cv 1
    by_cases z1 : c (p + 1) = 0
    · simp only [if_pos z1, if_neg (show ¬ ¬ c (p + 1) = 0 from fun q => q z1)]
      by_cases z : c p = 0
      · rw [if_pos z, if_neg (show ¬ (¬ c p = 0 ∧ _) from fun q => q.1 z)]; exact R _
      · rw [if_neg z]
        by_cases y : c (p + 5) = 0
        · rw [if_pos y]
          by_cases w : (32767 : Int32) ≤ c (p + 4)
          · rw [if_pos w, if_neg (show ¬ (¬ c p = 0 ∧ c (p + 5) = 0 ∧ ¬ (32767 : Int32) ≤ c (p + 4)) from fun q => q.2.2 w)]; exact R _
          · rw [if_neg w, if_pos (show ¬ c p = 0 ∧ c (p + 5) = 0 ∧ ¬ (32767 : Int32) ≤ c (p + 4) from ⟨z, y, w⟩)]; exact R _
        · rw [if_neg y, if_neg (show ¬ (¬ c p = 0 ∧ c (p + 5) = 0 ∧ _) from fun q => y q.2.1)]; exact R _
    · simp only [if_neg z1, if_pos (show ¬ c (p + 1) = 0 from z1), ite_self]
      exact R 0
  · subst e
    simp (config := { decide := true }) only [if_neg (show ¬ (nI 4 : Int32) = 3 by decide), if_true, if_false, s1]
    have R : ∀ cv, yT_E 62 h0 (if 0 < cv then f_Mc_runCounter_145 h (nI p) (yT_on (c p)) cv 0 (nI (p + 3)) else f_Mc_runCounter_145 h (nI p) (yT_on (c p)) cv 1 (nI (p + 3))) (yE_u (yE_u (yE_u c (p + 4) cv) (p + 3) (if 0 < cv then 0 else 1)) (p + 5) (yT_on (c p))) := fun cv => by
      split
      · exact G cv 0
      · exact G cv 1
    by_cases z1 : c (p + 1) = 0
    · simp only [if_pos z1, if_neg (show ¬ ¬ c (p + 1) = 0 from fun q => q z1)]
      by_cases z : c p = 0
      · rw [if_pos z, if_neg (show ¬ (¬ c p = 0 ∧ _) from fun q => q.1 z)]; exact R _
      · rw [if_neg z]
        by_cases y : c (p + 5) = 0
        · rw [if_pos y]
          by_cases w : c (p + 4) ≤ (-32768 : Int32)
          · rw [if_pos w, if_neg (show ¬ (¬ c p = 0 ∧ c (p + 5) = 0 ∧ ¬ c (p + 4) ≤ (-32768 : Int32)) from fun q => q.2.2 w)]; exact R _
          · rw [if_neg w, if_pos (show ¬ c p = 0 ∧ c (p + 5) = 0 ∧ ¬ c (p + 4) ≤ (-32768 : Int32) from ⟨z, y, w⟩)]; exact R _
        · rw [if_neg y, if_neg (show ¬ (¬ c p = 0 ∧ c (p + 5) = 0 ∧ _) from fun q => y q.2.1)]; exact R _
    · simp only [if_neg z1, if_pos (show ¬ c (p + 1) = 0 from z1), ite_self]
      exact R _
theorem yT_138 (H : yT_S 62 h0 h c) (hp : p + 3 ≤ 8192) (x3 q : Int32) : yT_E 62 h0 (f_Mc_runStandard_122 h (nI p) (yT_on x3) q) (yE_u (yE_u c (p + 1) (yT_on q)) (p + 2) (yT_on x3)) := by
  unfold f_Mc_runStandard_122
  rw [yT_if2 (r := fun y => f_Mc_runStandard_138 h (nI p) (yT_on x3) y (nI p + 1))]
  unfold f_Mc_runStandard_138 f_Mc_runStandard_154
  obtain ⟨h1, a1, a2⟩ := yT_cbe (v := yT_on q) H (show p + 1 < 8192 by omega)
  rw [show nI p + 1 = nI (p + 1) from zc_ad 1 p, show nI p + 2 = nI (p + 2) from zc_ad 2 p, a1, Option.bind_some, yT_if (r := fun y => (f_Mc_become h1 (nI (p + 2)) y).bind fun h2 => some h2)]
  exact yT_be1 a2 (by omega)
theorem yT_224 (H : yT_S 62 h0 h c) (hp : p + 3 ≤ 8192) (q : Int32) : yT_E 62 h0 (f_Mc_runStandard_224 h (nI p) q) (yE_u c (p + 2) (yT_on q)) := by
  unfold f_Mc_runStandard_224
  rw [yT_if2 (r := fun y => f_Mc_runStandard_240 h y (nI p + 2))]
  unfold f_Mc_runStandard_240
  rw [show nI p + 2 = nI (p + 2) from zc_ad 2 p]
  exact yT_be1 H (by omega)
theorem yT_C {k : Nat} (hk : k < 9) (H : yT_S 62 h0 h c) (hn : (h0.1 58 9) = nw) (hp : p + (zt_2.getD k 0).toNatClampNeg ≤ 8192) : yT_E 62 h0 (f_Mc_runStandard h (nI k) (nI p)) (yT_m nw k p c) := by
  have z6 : ∀ k, k < 5 → (zt_2.getD k 0).toNatClampNeg = 6 := by decide
  have z3 : ∀ k, k < 9 → 3 ≤ (zt_2.getD k 0).toNatClampNeg := by decide
  have q3 := z3 k hk
  have e2 : ((2 : Int32) < nI k) ↔ 2 < k := zc_lt (k := 2) (by decide) (by omega)
  have e4 : ((4 : Int32) < nI k) ↔ 4 < k := zc_lt (k := 4) (by decide) (by omega)
  have e6 : ((6 : Int32) < nI k) ↔ 6 < k := zc_lt (k := 6) (by decide) (by omega)
  have E : ∀ {r : Option zs_H} {c'}, yT_E 62 h0 r c' → yT_E 62 h0 (r.bind fun h11 => some h11) c' := fun {r c'} q => by
    obtain ⟨h', a1, a2⟩ := q
    exact ⟨h', by rw [a1]; rfl, a2⟩
  unfold f_Mc_runStandard
  rw [yT_cat H (show p < 8192 by omega), Option.bind_some, yT_if2 (r := fun y => f_Mc_runStandard_13 h (nI k) (nI p) y)]
  unfold f_Mc_runStandard_13
  rw [show nI p + 1 = nI (p + 1) from zc_ad 1 p, yT_cat H (show p + 1 < 8192 by omega), Option.bind_some, yT_if2 (r := fun y => f_Mc_runStandard_29 h (nI k) (nI p) (yT_on (c p)) y)]
  unfold f_Mc_runStandard_29
  simp only [e2, e4, e6]
  by_cases k2 : 2 < k
  · rw [if_pos k2]
    by_cases k4 : 4 < k
    · rw [if_pos k4, show nI p + 2 = nI (p + 2) from zc_ad 2 p, yT_cat H (show p + 2 < 8192 by omega), Option.bind_some, Option.bind_some, yT_if2 (r := fun y => f_Mc_runStandard_175 h (nI k) (nI p) (yT_on (c p)) (yT_on (c (p + 1))) y), yT_if2 (r := fun y => f_Mc_runStandard_84 h (nI k) (nI p) (yT_on (c p)) y)]
      by_cases k6 : 6 < k
      · rw [if_pos k6]
        have G := fun q => yT_224 H (show p + 3 ≤ 8192 by omega) q
        unfold yT_m f_Mc_runStandard_175 f_Mc_runStandard_197 f_Mc_runStandard_201 f_Mc_runStandard_219 f_Mc_runStandard_223
        rw [if_neg (show ¬ k < 3 by omega), if_neg (show ¬ k < 5 by omega), if_neg (show ¬ k < 7 by omega)]
        simp only [yT_o0]
        have hk' : k = 7 ∨ k = 8 := by omega
        rcases hk' with e | e
        · subst e
          rw [if_pos (show (nI 7 : Int32) = 7 from rfl), if_pos rfl]
          by_cases z : c p = 0
          · rw [if_pos z]
            by_cases y : c (p + 1) = 0
            · rw [if_pos y]
              by_cases w : c (p + 2) = 0
              · rw [if_pos w, if_neg (show ¬ (¬ c p = 0 ∨ (c (p + 1) = 0 ∧ ¬ c (p + 2) = 0)) from fun q => q.elim (fun q => q z) (fun q => q.2 w))]; exact G 0
              · rw [if_neg w, if_pos (show ¬ c p = 0 ∨ (c (p + 1) = 0 ∧ ¬ c (p + 2) = 0) from .inr ⟨y, w⟩)]; exact G 1
            · rw [if_neg y, if_neg (show ¬ (¬ c p = 0 ∨ (c (p + 1) = 0 ∧ ¬ c (p + 2) = 0)) from fun q => q.elim (fun q => q z) (fun q => y q.1))]; exact G 0
          · rw [if_neg z, if_pos (show ¬ c p = 0 ∨ (c (p + 1) = 0 ∧ ¬ c (p + 2) = 0) from .inl z)]; exact G 1
        · subst e
          rw [if_neg (show ¬ (nI 8 : Int32) = 7 by decide), if_neg (show ¬ (8 : Nat) = 7 by decide)]
          by_cases y : c (p + 1) = 0
          · rw [if_pos y]
            by_cases z : c p = 0
            · rw [if_pos z]
              by_cases w : c (p + 2) = 0
              · rw [if_pos w, if_neg (show ¬ (c (p + 1) = 0 ∧ (¬ c p = 0 ∨ ¬ c (p + 2) = 0)) from fun q => q.2.elim (fun q => q z) (fun q => q w))]; exact G 0
              · rw [if_neg w, if_pos (show c (p + 1) = 0 ∧ (¬ c p = 0 ∨ ¬ c (p + 2) = 0) from ⟨y, .inr w⟩)]; exact G 1
            · rw [if_neg z, if_pos (show c (p + 1) = 0 ∧ (¬ c p = 0 ∨ ¬ c (p + 2) = 0) from ⟨y, .inl z⟩)]; exact G 1
          · rw [if_neg y, if_neg (show ¬ (c (p + 1) = 0 ∧ (¬ c p = 0 ∨ ¬ c (p + 2) = 0)) from fun q => y q.1)]; exact G 0
      · rw [if_neg k6]
        have G := fun q => yT_138 H (show p + 3 ≤ 8192 by omega) (c p) q
        unfold yT_m f_Mc_runStandard_84 f_Mc_runStandard_104 f_Mc_runStandard_121
        rw [if_neg (show ¬ k < 3 by omega), if_neg (show ¬ k < 5 by omega), if_pos (show k < 7 by omega)]
        simp only [yT_o0]
        have hk' : k = 5 ∨ k = 6 := by omega
        rcases hk' with e | e
        · subst e
          rw [if_pos (show (nI 5 : Int32) = 5 from rfl), if_pos rfl]
          by_cases z : c p = 0
          · rw [if_pos z, if_neg (show ¬ (¬ c p = 0 ∧ c (p + 2) = 0) from fun q => q.1 z)]; exact G 0
          · rw [if_neg z]
            by_cases y : c (p + 2) = 0
            · rw [if_pos y, if_pos (show ¬ c p = 0 ∧ c (p + 2) = 0 from ⟨z, y⟩)]; exact G 1
            · rw [if_neg y, if_neg (show ¬ (¬ c p = 0 ∧ c (p + 2) = 0) from fun q => y q.2)]; exact G 0
        · subst e
          rw [if_neg (show ¬ (nI 6 : Int32) = 5 by decide), if_neg (show ¬ (6 : Nat) = 5 by decide)]
          by_cases z : c p = 0
          · rw [if_pos z]
            by_cases y : c (p + 2) = 0
            · rw [if_pos y, if_neg (show ¬ (c p = 0 ∧ ¬ c (p + 2) = 0) from fun q => q.2 y)]; exact G 0
            · rw [if_neg y, if_pos (show c p = 0 ∧ ¬ c (p + 2) = 0 from ⟨z, y⟩)]; exact G 1
          · rw [if_neg z, if_neg (show ¬ (c p = 0 ∧ ¬ c (p + 2) = 0) from fun q => z q.1)]; exact G 0
    · rw [if_neg k4]
      have := z6 k (by omega)
      exact E (yT_C34 (by omega) H (by omega))
  · rw [if_neg k2]
    have := z6 k (by omega)
    exact E (yT_C012 (by omega) H hn (by omega))
end YTC
