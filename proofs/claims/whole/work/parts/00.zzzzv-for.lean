/-! The judge: the constants of a FOR (36): the model. -/
section YFV
variable {g : zs_H} {k u ty : Nat}
theorem yc_u125 {N : Nat} {x1 x2 x3 : Int32} (x : Int32) : f_Mo_lookAtLoop_L125 (N + 1) g x1 x2 x3 x = f_Mo_lookAtLoop_125 (f_Mo_lookAtLoop_L125 N) g x1 x2 x3 x := rfl
theorem yc_125 {N x : Nat} {q : Bool} (hx : x < 33500) (hu : u < 5900) (hty : ty < 3) (hk : (g.2.1 72) x = 30 ∨ (g.2.1 72) x = 31) (ht : (g.2.1 93) u = nI ty) : f_Mo_lookAtLoop_L125 (N + 1) g (nI k) (nI u) (if q = true then 1 else 0) (nI x) = f_Mo_lookAtLoop_L125 N g (nI k) (nI u) (if (q || yc_b ty ((g.2.1 72) x) ((g.2.1 74) x)) = true then 1 else 0) ((g.2.1 78) x) := by
  rw [yc_u125]
  have e194 : ∀ y : Int32, f_Mo_lookAtLoop_194 (f_Mo_lookAtLoop_L125 N) g (nI k) (nI u) (nI x) y = f_Mo_lookAtLoop_L125 N g (nI k) (nI u) y ((g.2.1 78) x) := by
    intro y
    unfold f_Mo_lookAtLoop_194
    rw [if_pos (zi_in (by omega) hx), nI_clamp (show x < 2147483648 by omega)]
  have n29 : ¬ (g.2.1 72) x ≤ 29 := by rcases hk with e | e <;> rw [e] <;> decide
  unfold f_Mo_lookAtLoop_125 f_Mo_lookAtLoop_189 f_Mo_lookAtLoop_193
  simp only [if_pos (zi_in (show x < 2147483648 by omega) hx), nI_clamp (show x < 2147483648 by omega), n29, if_false, e194, if_pos (zi_in (show u < 2147483648 by omega) (show u < 8400 by omega)), nI_clamp (show u < 2147483648 by omega), ht, show (nI ty = 1) ↔ ty = 1 from zc_eq (k := 1) (by decide) (by omega)]
  cases q with
  | true => rw [if_neg (by decide)]; rfl
  | false =>
    rw [if_pos (by decide), Bool.false_or]
    unfold yc_b
    have e67 : ((g.2.1 74) x ≤ 32767) ↔ ¬ 32767 < (g.2.1 74) x := Int32.not_lt.symm
    by_cases z1 : (g.2.1 72) x = 31
    · rw [if_pos z1]; simp only [z1, decide_true, Bool.true_or, if_true]
    · rw [if_neg z1]
      by_cases z2 : ty = 1
      · rw [if_pos z2]
        by_cases z3 : (g.2.1 74) x < -32768
        · rw [if_pos z3]; simp only [z1, z2, z3, decide_true, decide_false, Bool.true_or, Bool.or_true, Bool.true_and, Bool.false_or, if_true]
        · rw [if_neg z3]
          by_cases z4 : 32767 < (g.2.1 74) x
          · rw [if_neg (fun z => (e67.mp z) z4)]; simp only [z1, z2, z3, z4, decide_true, decide_false, Bool.or_true, Bool.true_and, Bool.false_or, if_true]
          · rw [if_pos (e67.mpr z4)]; simp (config := { decide := true }) only [z1, z2, z3, z4, decide_true, decide_false, Bool.or_self, Bool.true_and, if_false]
      · rw [if_neg z2]; simp (config := { decide := true }) only [z1, z2, decide_false, Bool.false_and, Bool.or_self, if_false]
/-- the number of times -/
theorem yc_258 {a b : Nat} {q : Bool} {S : Int64} (ha : a < 33500) (hb : b < 33500) : f_Mo_lookAtLoop_258 g (nI k) (if q = true then 1 else 0) (nI a) (nI b) S = f_Mo_rule g (if (q || decide (S = 0) || decide (¬ (if ((g.2.1 74) b).toInt64 - ((g.2.1 74) a).toInt64 = 0 ∨ (0 < ((g.2.1 74) b).toInt64 - ((g.2.1 74) a).toInt64 ↔ 0 < S) then (((g.2.1 74) b).toInt64 - ((g.2.1 74) a).toInt64) / S + 1 else 0) ≤ 1000000)) = true then 1 else 0) 36 (nI k) := by
  unfold f_Mo_lookAtLoop_258
  rw [if_pos (zi_in (by omega) hb), if_pos (zi_in (by omega) ha), nI_clamp (show a < 2147483648 by omega), nI_clamp (show b < 2147483648 by omega)]
  obtain ⟨w, hw⟩ : ∃ w, w = ((g.2.1 74) b).toInt64 - ((g.2.1 74) a).toInt64 := ⟨_, rfl⟩
  rw [← hw]
  have e290 : f_Mo_lookAtLoop_290 g (nI k) S w = f_Mo_rule g 1 36 (nI k) := by
    unfold f_Mo_lookAtLoop_290 f_Mo_lookAtLoop_295 f_Mo_lookAtLoop_334 f_Mo_lookAtLoop_345 f_Mo_lookAtLoop_361 f_Mo_lookAtLoop_366
    rw [if_neg (by decide), if_neg (by decide), Option.bind_fun_some]
  cases q with
  | true => rw [if_pos rfl, if_neg (by decide), e290]; rfl
  | false =>
    rw [if_pos (show (if false = true then (1 : Int32) else 0) = 0 from rfl)]
    by_cases zS : S = 0
    · rw [if_pos zS, e290]; simp only [zS, decide_true, Bool.or_true, Bool.true_or, Bool.false_or, if_true]
    · rw [if_neg zS]
      have e345 : ∀ T : Int64, f_Mo_lookAtLoop_345 g (nI k) 0 T = f_Mo_rule g (if decide (¬ T ≤ 1000000) = true then 1 else 0) 36 (nI k) := by
        intro T
        unfold f_Mo_lookAtLoop_345 f_Mo_lookAtLoop_361 f_Mo_lookAtLoop_366
        rw [if_pos rfl, Option.bind_fun_some, Option.bind_fun_some]
        by_cases z : T ≤ 1000000
        · rw [if_pos z, if_neg (by simp only [decide_eq_true_eq]; exact fun n => n z)]
        · rw [if_neg z, if_pos (by simp only [decide_eq_true_eq]; exact z)]
      have e338 : f_Mo_lookAtLoop_338 g (nI k) 0 S w = f_Mo_rule g (if decide (¬ w / S + 1 ≤ 1000000) = true then 1 else 0) 36 (nI k) := by
        unfold f_Mo_lookAtLoop_338
        rw [if_neg zS, e345]
      have e334 : f_Mo_lookAtLoop_334 g (nI k) 0 = f_Mo_rule g (if decide (¬ (0 : Int64) ≤ 1000000) = true then 1 else 0) 36 (nI k) := by
        unfold f_Mo_lookAtLoop_334
        rw [e345]
      have lS : (S ≤ 0) ↔ ¬ 0 < S := Int64.not_lt.symm
      have lw : (w ≤ 0) ↔ ¬ 0 < w := Int64.not_lt.symm
      unfold f_Mo_lookAtLoop_295 f_Mo_lookAtLoop_319 f_Mo_lookAtLoop_331
      simp only [if_true, e338, e334, zS, decide_false, Bool.false_or, lS, lw]
      by_cases y0 : w = 0
      · simp only [y0, true_or, if_true]
      · by_cases y1 : 0 < w
        · by_cases y2 : 0 < S
          · simp only [y0, y1, y2, not_true, if_false, if_true, false_or]
          · simp (config := { decide := true }) only [y0, y1, y2, not_true, not_false_iff, if_false, if_true, false_or, iff_false]
        · by_cases y2 : 0 < S
          · simp (config := { decide := true }) only [y0, y1, y2, not_true, not_false_iff, if_false, if_true, false_or, false_iff]
          · simp only [y0, y1, y2, not_false_iff, if_false, if_true, false_or]
theorem yc_forM {a b c : Nat} {st : Int32} {T : Int64} (hk : k < 33500) (hu : u < 5900) (hty : ty < 3) (ht : (g.2.1 93) u = nI ty) (m1 : (g.2.1 76) k = nI a) (ha : a < 33500) (m2 : (g.2.1 78) a = nI b) (hb : b < 33500) (m3 : (g.2.1 78) b = nI c) (hc : c < 33500) (ka : (g.2.1 72) a = 30 ∨ (g.2.1 72) a = 31) (kb : (g.2.1 72) b = 30 ∨ (g.2.1 72) b = 31) (hst : (((g.2.1 72) c = 30 ∨ (g.2.1 72) c = 31) ∧ st = (g.2.1 74) c ∧ ∃ e, e < 33500 ∧ (g.2.1 78) c = nI e ∧ (g.2.1 72) e = 11) ∨ ((g.2.1 72) c = 11 ∧ st = 1)) (hT : f_Cd_times ((g.2.1 74) a) ((g.2.1 74) b) st = some T) : f_Mo_lookAtLoop_L125 zF g (nI k) (nI u) 0 (nI a) = f_Mo_rule g (if (yc_b ty ((g.2.1 72) a) ((g.2.1 74) a) || yc_b ty ((g.2.1 72) b) ((g.2.1 74) b) || (decide ((g.2.1 72) c = 30 ∨ (g.2.1 72) c = 31) && yc_b ty ((g.2.1 72) c) ((g.2.1 74) c)) || decide (st = 0) || decide (¬ T ≤ 1000000)) = true then 1 else 0) 36 (nI k) := by
  have hz : zF = 18446744073709551612 + 1 + 1 + 1 + 1 := rfl
  have i64 : (st.toInt64 = 0) ↔ st = 0 := by
    rw [← Int64.toInt_inj, Int32.toInt_toInt64, ← Int32.toInt_inj]; rfl
  -- behind the constants
  have fin : ∀ (N x : Nat) (q : Bool), x < 33500 → (g.2.1 72) x = 11 → f_Mo_lookAtLoop_L125 (N + 1) g (nI k) (nI u) (if q = true then 1 else 0) (nI x) = f_Mo_lookAtLoop_258 g (nI k) (if q = true then 1 else 0) (nI a) (nI b) st.toInt64 := by
    intro N x q hx hk11
    rw [yc_u125]
    unfold f_Mo_lookAtLoop_125
    simp only [if_pos (zi_in (show x < 2147483648 by omega) hx), nI_clamp (show x < 2147483648 by omega), hk11, show ((11 : Int32) ≤ 29) by decide, if_true, if_pos (zi_in (show k < 2147483648 by omega) hk), nI_clamp (show k < 2147483648 by omega), m1, if_pos (zi_in (show a < 2147483648 by omega) ha), nI_clamp (show a < 2147483648 by omega), m2, if_pos (zi_in (show b < 2147483648 by omega) hb), nI_clamp (show b < 2147483648 by omega), m3, if_pos (zi_in (show c < 2147483648 by omega) hc), nI_clamp (show c < 2147483648 by omega)]
    rcases hst with ⟨z1, z2, _⟩ | ⟨z1, z2⟩
    · have : ¬ (g.2.1 72) c = 11 := by rcases z1 with e | e <;> rw [e] <;> decide
      rw [if_neg this, z2]
    · rw [if_pos z1, z2]; rfl
  have last : ∀ q : Bool, f_Mo_lookAtLoop_258 g (nI k) (if q = true then 1 else 0) (nI a) (nI b) st.toInt64 = f_Mo_rule g (if (q || decide (st = 0) || decide (¬ T ≤ 1000000)) = true then 1 else 0) 36 (nI k) := by
    intro q
    rw [yc_258 ha hb]
    by_cases z : st = 0
    · have zz : decide (st.toInt64 = 0) = true := by rw [decide_eq_true_eq]; exact i64.mpr z
      have z2 : decide (st = 0) = true := by rw [decide_eq_true_eq]; exact z
      rw [zz, z2]
      simp only [Bool.or_true, Bool.true_or]
    · obtain ⟨T', t1, t2, t3⟩ := yc_tm (a := (g.2.1 74) a) (b := (g.2.1 74) b) z
      have eT : T' = T := Option.some.inj (t1.symm.trans hT)
      rw [← t3, eT]
      simp only [i64]
  have e1 := yc_125 (k := k) (N := 18446744073709551612 + 1 + 1 + 1) (q := false) ha hu hty ka ht
  rw [m2, Bool.false_or] at e1
  rw [hz]
  refine Eq.trans e1 ?_
  rw [yc_125 hb hu hty kb ht, m3]
  rcases hst with ⟨z1, z2, e, e1, e2, e3⟩ | ⟨z1, z2⟩
  · rw [yc_125 hc hu hty z1 ht, e2, fin _ e _ e1 e3, last]
    simp only [z1, decide_true, Bool.true_and]
  · have n1 : ¬ ((g.2.1 72) c = 30 ∨ (g.2.1 72) c = 31) := by rw [z1]; decide
    rw [fin _ c _ hc z1, last]
    simp only [n1, decide_false, Bool.false_and, Bool.or_false]
end YFV
