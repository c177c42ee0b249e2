/-! The judge: signs between two (27). -/
def zv_bad2 (ta tb s : Nat) : Prop := (ta = 0 ∨ tb = 0) ∧ (¬ (ta = 0 ∧ tb = 0) ∨ 4 < s)
def zv_ty2 (ta tb s : Nat) : Nat := if 2 < s ∧ s < 9 then 0 else max ta tb
theorem zv_ty2lt {ta tb s : Nat} (h1 : ta < 3) (h2 : tb < 3) : zv_ty2 ta tb s < 3 := by
  unfold zv_ty2
  split <;> omega
theorem zv_alike {ta tb : Nat} (h1 : ta < 3) (h2 : tb < 3) : f_Jd_alike (nI ta) (nI tb) = if (ta = 0 ↔ tb = 0) then nI (max ta tb) else -1 := by
  have a1 : ta = 0 ∨ ta = 1 ∨ ta = 2 := by omega
  have a2 : tb = 0 ∨ tb = 1 ∨ tb = 2 := by omega
  rcases a1 with e | e | e <;> subst e <;> rcases a2 with e | e | e <;> subst e <;> rfl
theorem zv_wider {ta tb : Nat} (h1 : ta < 3) (h2 : tb < 3) : f_Jd_wider (nI ta) (nI tb) = if ta = 0 ∨ tb = 0 then -1 else nI (max ta tb) := by
  have a1 : ta = 0 ∨ ta = 1 ∨ ta = 2 := by omega
  have a2 : tb = 0 ∨ tb = 1 ∨ tb = 2 := by omega
  rcases a1 with e | e | e <;> subst e <;> rcases a2 with e | e | e <;> subst e <;> rfl
theorem zv_widM {ta tb : Nat} (h1 : ta < 3) (h2 : tb < 3) : f_Mo_wider (nI ta) (nI tb) = nI (max ta tb) := by
  have a1 : ta = 0 ∨ ta = 1 ∨ ta = 2 := by omega
  have a2 : tb = 0 ∨ tb = 1 ∨ tb = 2 := by omega
  rcases a1 with e | e | e <;> subst e <;> rcases a2 with e | e | e <;> subst e <;> rfl
section ZVTW
variable {i k a b ka kb ta tb s : Nat} {p : Int32} {h g : zs_H}
theorem zv_twC (hi : i < 32784) (hs : s < 14) (c1 : (h.2.1 16) i = nI s) (c3 : (h.2.1 17) i = nI a) (ha : a < 32784) (c5 : (h.2.1 18) a = nI b) (hb : b < 32784) (c4 : (h.2.1 14) a = nI ta) (hta : ta < 3) (c6 : (h.2.1 14) b = nI tb) (htb : tb < 3) :
    (zv_bad2 ta tb s → f_Jd_judgeTwo h (nI i) = (f_Jd_refuse h 27 (nI i)).bind fun h5 => some h5) ∧ (¬ zv_bad2 ta tb s → f_Jd_judgeTwo h (nI i) = f_Jd_judgeTwo_149 h (nI i) (nI a) (nI b) (nI s) (nI (zv_ty2 ta tb s)) (nI i)) := by
  have e4 : (nI s ≤ 4) ↔ s ≤ 4 := zc_el (k := 4) (by decide) (by omega)
  have e3 : (nI s < 3) ↔ s < 3 := zc_tl (k := 3) (by decide) (by omega)
  have e8 : (8 < nI s) ↔ 8 < s := zc_lt (k := 8) (by decide) (by omega)
  have m1 : ¬ nI (max ta tb) = -1 := zc_m1 (by omega)
  have go : f_Jd_judgeTwo h (nI i) = f_Jd_judgeTwo_94 h (nI i) (nI a) (nI b) (nI s) (if s ≤ 4 then (if (ta = 0 ↔ tb = 0) then nI (max ta tb) else -1) else (if ta = 0 ∨ tb = 0 then -1 else nI (max ta tb))) := by
    unfold f_Jd_judgeTwo f_Jd_judgeTwo_42
    simp only [if_pos (zi_in (show i < 2147483648 by omega) hi), nI_clamp (show i < 2147483648 by omega), c3, if_pos (zi_in (show a < 2147483648 by omega) ha), nI_clamp (show a < 2147483648 by omega), c5, c1, e4, if_pos (zi_in (show b < 2147483648 by omega) hb), nI_clamp (show b < 2147483648 by omega), c4, c6, zv_alike hta htb, zv_wider hta htb, if_true]
    by_cases z : s ≤ 4
    · simp only [z, if_true]
    · simp (config := { decide := true }) only [z, if_false]
  rw [go]
  unfold f_Jd_judgeTwo_94 f_Jd_judgeTwo_127 f_Jd_judgeTwo_128 zv_bad2 zv_ty2
  simp only [e3, e8, if_true, show ¬ (1 : Int32) = 0 by decide, if_false]
  constructor
  · intro ⟨z1, z2⟩
    by_cases y1 : s ≤ 4
    · have y2 : ¬ (ta = 0 ↔ tb = 0) := by omega
      simp only [y1, y2, if_true, if_false]
    · simp only [y1, z1, if_true, if_false]
  · intro z
    by_cases y1 : s ≤ 4
    · have y2 : (ta = 0 ↔ tb = 0) := by omega
      simp only [y1, if_pos y2, if_true, m1, if_false]
      by_cases y3 : s < 3
      · simp only [y3, if_true, show ¬ (2 < s ∧ s < 9) by omega, if_false]
      · simp only [y3, if_false, show ¬ 8 < s by omega, show (2 < s ∧ s < 9) by omega, and_self, if_true]; rfl
    · have y2 : ¬ (ta = 0 ∨ tb = 0) := by omega
      simp only [y1, y2, if_false, m1, show ¬ s < 3 by omega]
      by_cases y3 : 8 < s
      · simp only [y3, if_true, show ¬ (2 < s ∧ s < 9) by omega, if_false]
      · simp only [y3, if_false, show (2 < s ∧ s < 9) by omega, and_self, if_true]; rfl
theorem zv_twM (hk : k < 33500) (hs : s < 14) (m0 : (g.2.1 72) k = 35) (m1 : (g.2.1 74) k = nI s) (m3 : (g.2.1 76) k = nI ka) (hka : ka < 33500) (m5 : (g.2.1 77) k = nI kb) (hkb : kb < 33500) (m4 : (g.2.1 100) ka = nI ta) (hta : ta < 3) (m6 : (g.2.1 100) kb = nI tb) (htb : tb < 3) :
    (zv_bad2 ta tb s → f_Mo_lookAtExpressions g (nI k) = (f_Mo_rule g 1 27 (nI k)).bind fun h2 => some (zs_uM h2 100 k (nI (zv_ty2 ta tb s)))) ∧ (¬ zv_bad2 ta tb s → f_Mo_lookAtExpressions g (nI k) = (f_Mo_rule g 0 27 (nI k)).bind fun h2 => some (zs_uM h2 100 k (nI (zv_ty2 ta tb s)))) := by
  have e4 : (nI s ≤ 4) ↔ s ≤ 4 := zc_el (k := 4) (by decide) (by omega)
  have e2 : (nI s ≤ 2) ↔ s ≤ 2 := zc_el (k := 2) (by decide) (by omega)
  have e9 : (9 ≤ nI s) ↔ 9 ≤ s := zc_le (k := 9) (by decide) (by omega)
  have g132 : ∀ (x : Int32) (h2 : zs_H), f_Mo_lookAtTwo_132 h2 x (nI k) = some (zs_uM h2 100 k x) := by
    intro x h2
    unfold f_Mo_lookAtTwo_132
    rw [if_pos (zi_in (by omega) hk), nI_clamp (show k < 2147483648 by omega)]
  have go : ∀ y : Int32, f_Mo_lookAtTwo_90 g (nI k) (nI ta) (nI tb) (nI s) (if ta = 0 ∧ tb = 0 then 1 else 0) y = (f_Mo_rule g y 27 (nI k)).bind fun h2 => some (zs_uM h2 100 k (nI (zv_ty2 ta tb s))) := by
    intro y
    unfold f_Mo_lookAtTwo_90 f_Mo_lookAtTwo_118 zv_ty2
    simp only [g132, e2, e9, zv_widM hta htb]
    refine congrArg _ (funext fun h2 => ?_)
    by_cases y1 : s ≤ 2
    · simp only [y1, if_true, show ¬ (2 < s ∧ s < 9) by omega, if_false]
      by_cases y2 : ta = 0 ∧ tb = 0
      · simp only [y2, and_self, if_true, show ¬ (1 : Int32) = 0 by decide, if_false]; rfl
      · simp only [y2, if_false, if_true]
    · by_cases y3 : 9 ≤ s
      · simp only [y1, y3, if_true, if_false, show ¬ (2 < s ∧ s < 9) by omega]
        by_cases y2 : ta = 0 ∧ tb = 0
        · simp only [y2, and_self, if_true, show ¬ (1 : Int32) = 0 by decide, if_false]; rfl
        · simp only [y2, if_false, if_true]
      · simp only [y1, y3, if_false, show (2 < s ∧ s < 9) by omega, and_self, if_true]; rfl
  have eM : f_Mo_lookAtExpressions g (nI k) = f_Mo_lookAtTwo_90 g (nI k) (nI ta) (nI tb) (nI s) (if ta = 0 ∧ tb = 0 then 1 else 0) (if (ta = 0 ∨ tb = 0) ∧ (¬ (ta = 0 ∧ tb = 0) ∨ 4 < s) then 1 else 0) := by
    unfold f_Mo_lookAtExpressions f_Mo_lookAtTwo f_Mo_lookAtTwo_50 f_Mo_lookAtTwo_51 f_Mo_lookAtTwo_65 f_Mo_lookAtTwo_66 f_Mo_lookAtTwo_85 f_Mo_lookAtTwo_89
    simp (config := { decide := true }) only [if_pos (zi_in (show k < 2147483648 by omega) hk), nI_clamp (show k < 2147483648 by omega), m0, if_false, if_true, Option.bind_fun_some, m1, m3, m5, if_pos (zi_in (show ka < 2147483648 by omega) hka), nI_clamp (show ka < 2147483648 by omega), if_pos (zi_in (show kb < 2147483648 by omega) hkb), nI_clamp (show kb < 2147483648 by omega), m4, m6, zv_isn hta, zv_isn htb, e4, zv_t0 hta, zv_t0 htb]
    by_cases y1 : ta = 0
    · by_cases y2 : tb = 0
      · by_cases y3 : s ≤ 4
        · have y4 : ¬ 4 < s := by omega
          simp (config := { decide := true }) only [y1, y2, y3, y4, if_true, if_false, and_self, or_self, not_true, false_or, and_false]
        · have y4 : 4 < s := by omega
          simp (config := { decide := true }) only [y1, y2, y3, y4, if_true, if_false, and_self, or_self, not_true, false_or, and_true]
      · simp (config := { decide := true }) only [y1, y2, if_true, if_false, and_false, not_false_iff, true_or, and_self]
    · by_cases y2 : tb = 0
      · simp (config := { decide := true }) only [y1, y2, if_true, if_false, false_and, and_false, not_false_iff, true_or, or_true, and_self]
      · simp (config := { decide := true }) only [y1, y2, if_true, if_false, false_and, and_false, not_false_iff, or_self, true_or, or_true]
  constructor
  · intro z
    unfold zv_bad2 at z
    rw [eM, go, if_pos z]
  · intro z
    unfold zv_bad2 at z
    rw [eM, go, if_neg z]
/-- a sign between two (27) -/
theorem zv_twoE (J1 : (h.1 38 3) = 0) (J2 : (g.1 68 29) = 0) (hi : i < 32784) (hk : k < 33500) (hs : s < 14) (c1 : (h.2.1 16) i = nI s) (c2 : (h.2.1 15) i = p) (c3 : (h.2.1 17) i = nI a) (ha : a < 32784) (c5 : (h.2.1 18) a = nI b) (hb : b < 32784) (c4 : (h.2.1 14) a = nI ta) (hta : ta < 3) (c6 : (h.2.1 14) b = nI tb) (htb : tb < 3) (m0 : (g.2.1 72) k = 35) (m1 : (g.2.1 74) k = nI s) (m2 : (g.2.1 73) k = p) (m3 : (g.2.1 76) k = nI ka) (hka : ka < 33500) (m5 : (g.2.1 77) k = nI kb) (hkb : kb < 33500) (m4 : (g.2.1 100) ka = nI ta) (m6 : (g.2.1 100) kb = nI tb) :
    ∃ h' g', f_Jd_judgeTwo h (nI i) = some h' ∧ f_Mo_lookAtExpressions g (nI k) = some g' ∧ (zv_Fb h g h' g' ∨ ((g' = zs_uM g 100 k (nI (zv_ty2 ta tb s)) ∧ ¬ zv_bad2 ta tb s) ∧ ((∃ v, (zv_kc h a ∧ zv_kc h b ∧ f_Cd_isByZero (f_Cd_operation (nI s) (nI (zv_ty2 ta tb s))) ((h.2.1 16) b) = 0) ∧ f_Cd_two (f_Cd_operation (nI s) (nI (zv_ty2 ta tb s))) ((h.2.1 16) a) ((h.2.1 16) b) = some v ∧ h' = zv_fo i v (zs_uM h 14 i (nI (zv_ty2 ta tb s)))) ∨ (¬ (zv_kc h a ∧ zv_kc h b ∧ f_Cd_isByZero (f_Cd_operation (nI s) (nI (zv_ty2 ta tb s))) ((h.2.1 16) b) = 0) ∧ h' = zs_uM h 14 i (nI (zv_ty2 ta tb s)))))) := by
  obtain ⟨C1, C2⟩ := zv_twC hi hs c1 c3 ha c5 hb c4 hta c6 htb
  obtain ⟨M1, M2⟩ := zv_twM hk hs m0 m1 m3 hka m5 hkb m4 hta m6 htb
  have ht := zv_ty2lt (s := s) hta htb
  by_cases z : zv_bad2 ta tb s
  · rw [C1 z, M1 z, show (27 : Int32) = nI 27 from rfl, zv_refu J1 hi, zv_rule1 (by decide) J2 hk, Option.bind_some, Option.bind_some]
    exact ⟨_, _, rfl, rfl, .inl (zv_mkF (φ := 27) (by decide) (by decide) c2 m2 zfr_rfl zfr_rfl zfr_rfl (zfr_M (by decide) zfr_rfl))⟩
  · rw [C2 z, M2 z, zv_rule0, Option.bind_some]
    have kk : ∀ j, ((zs_uM h 14 i (nI (zv_ty2 ta tb s))).2.1 13) j = (h.2.1 13) j := fun j => by rw [zu_MM, if_neg (fun z => absurd z.1 (by decide))]
    have vv : ∀ j, ((zs_uM h 14 i (nI (zv_ty2 ta tb s))).2.1 16) j = (h.2.1 16) j := fun j => by rw [zu_MM, if_neg (fun z => absurd z.1 (by decide))]
    have tt : ((zs_uM h 14 i (nI (zv_ty2 ta tb s))).2.1 14) i = nI (zv_ty2 ta tb s) := by rw [zu_MM, if_pos ⟨rfl, rfl⟩]
    unfold f_Jd_judgeTwo_149 f_Jd_judgeTwo_193 f_Jd_judgeTwo_194
    simp only [if_pos (zi_in (show i < 2147483648 by omega) hi), zv_nar3 ht, nI_clamp (show i < 2147483648 by omega), tt, nI_clamp (show b < 2147483648 by omega), nI_clamp (show a < 2147483648 by omega), vv, if_pos (zi_in (show b < 2147483648 by omega) hb), if_pos (zi_in (show a < 2147483648 by omega) ha), if_true, show ¬ (1 : Int32) = 0 by decide, if_false]
    by_cases za : zv_kc h a
    · rw [zv_isC1 ha (by unfold zv_kc; rw [kk]; exact za), Option.bind_some, if_neg (by decide)]
      by_cases zb : zv_kc h b
      · rw [zv_isC1 hb (by unfold zv_kc; rw [kk]; exact zb), Option.bind_some, if_neg (by decide)]
        obtain ⟨v, ev⟩ := zv_two (f_Cd_operation (nI s) (nI (zv_ty2 ta tb s))) ((h.2.1 16) a) ((h.2.1 16) b)
        by_cases z0 : f_Cd_isByZero (f_Cd_operation (nI s) (nI (zv_ty2 ta tb s))) ((h.2.1 16) b) = 0
        · rw [if_pos z0, ev, Option.bind_some, zv_fold1 hi, Option.bind_some]
          exact ⟨_, _, rfl, rfl, .inr ⟨⟨rfl, z⟩, .inl ⟨v, ⟨za, zb, z0⟩, rfl, rfl⟩⟩⟩
        · rw [if_neg z0]
          exact ⟨_, _, rfl, rfl, .inr ⟨⟨rfl, z⟩, .inr ⟨fun u => z0 u.2.2, rfl⟩⟩⟩
      · rw [zv_isC0 hb (by unfold zv_kc; rw [kk]; exact zb), Option.bind_some, if_pos rfl]
        exact ⟨_, _, rfl, rfl, .inr ⟨⟨rfl, z⟩, .inr ⟨fun u => zb u.2.1, rfl⟩⟩⟩
    · rw [zv_isC0 ha (by unfold zv_kc; rw [kk]; exact za), Option.bind_some, if_pos rfl]
      exact ⟨_, _, rfl, rfl, .inr ⟨⟨rfl, z⟩, .inr ⟨fun u => za u.1, rfl⟩⟩⟩
end ZVTW
