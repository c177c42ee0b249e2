/-! The prover: the most steps of a way; none: there is no way. -/
def yp_p : Option Nat → Option Nat → Option Nat
  | some x, some y => some (x + y)
  | none, _ => none
  | some _, none => none
def yp_m : Option Nat → Option Nat → Option Nat
  | none, b => b
  | some x, none => some x
  | some x, some y => some (max x y)
abbrev yp3 : Type := Option Nat × Option Nat × Option Nat
def yp_a (w : Nat) (c : yp3) : yp3 := (yp_p (some w) c.1, yp_p (some w) c.2.1, yp_p (some w) c.2.2)
def yp_x (c d : yp3) : yp3 := (yp_m c.1 d.1, yp_m c.2.1 d.2.1, yp_m c.2.2 d.2.2)
/-- the rounds before the last one -/
def yp_b (N : Nat) : Option Nat → Nat
  | none => 0
  | some x => (N - 1) * x
/-- a loop up to what is behind it -/
def yp_ps (N : Nat) (t : yp3) : Option Nat := yp_m (yp_p (yp_p (some (yp_b N (yp_p (some 1) t.1))) (yp_p (some 1) t.1)) (some 1)) (yp_p (some (yp_b N (yp_p (some 1) t.1) + 1)) t.2.1)
def yp_N (N : Nat) (t c : yp3) : yp3 := if N = 0 then yp_a 1 c else (yp_p (yp_ps N t) c.1, yp_p (yp_ps N t) c.2.1, yp_m (yp_p (some (yp_b N (yp_p (some 1) t.1) + 1)) t.2.2) (yp_p (yp_ps N t) c.2.2))
/-- the same, as the model says it -/
def yp_g (N : Nat) : Option Nat → Option Nat → Option Nat → Option Nat
  | none, i, _ => i
  | some O, i, a => yp_m (yp_p (some ((N - 1) * O)) i) (yp_p (some (N * O)) a)
def yp_R (v : Nat) (Q : Nat → Option Nat) (c : yp3) (k : Nat) : Option Nat := if v < k then none else if k = v then (if v = 0 then yp_m c.1 c.2.2 else c.1) else if k = 0 then yp_m (yp_p c.2.1 (Q 0)) c.2.2 else yp_p c.2.1 (Q k)
theorem yp_pa (a b c : Option Nat) : yp_p (yp_p a b) c = yp_p a (yp_p b c) := by
  cases a <;> cases b <;> cases c <;> simp only [yp_p, Option.some.injEq] ; omega
theorem yp_pm (a b c : Option Nat) : yp_p a (yp_m b c) = yp_m (yp_p a b) (yp_p a c) := by
  cases a <;> cases b <;> cases c <;> simp only [yp_p, yp_m, Option.some.injEq] ; omega
theorem yp_mp (a b c : Option Nat) : yp_p (yp_m b c) a = yp_m (yp_p b a) (yp_p c a) := by
  cases a <;> cases b <;> cases c <;> simp only [yp_p, yp_m, Option.some.injEq] ; omega
theorem yp_ma (a b c : Option Nat) : yp_m (yp_m a b) c = yp_m a (yp_m b c) := by
  cases a <;> cases b <;> cases c <;> simp only [yp_m, Option.some.injEq] ; omega
theorem yp_mc (a b : Option Nat) : yp_m a b = yp_m b a := by
  cases a <;> cases b <;> simp only [yp_m, Option.some.injEq] ; omega
theorem yp_m4 (a b c d : Option Nat) : yp_m (yp_m a b) (yp_m c d) = yp_m (yp_m a c) (yp_m b d) := by
  rw [yp_ma, yp_ma, ← yp_ma b, yp_mc b c, yp_ma c]
theorem yp_Ra {v k w : Nat} {Q : Nat → Option Nat} {c : yp3} : yp_p (some w) (yp_R v Q c k) = yp_R v Q (yp_a w c) k := by
  unfold yp_R yp_a
  by_cases h1 : v < k
  · rw [if_pos h1, if_pos h1]; rfl
  rw [if_neg h1, if_neg h1]
  by_cases h2 : k = v
  · rw [if_pos h2, if_pos h2]
    by_cases h3 : v = 0
    · rw [if_pos h3, if_pos h3, yp_pm]
    · rw [if_neg h3, if_neg h3]
  rw [if_neg h2, if_neg h2]
  by_cases h3 : k = 0
  · rw [if_pos h3, if_pos h3, yp_pm, yp_pa]
  · rw [if_neg h3, if_neg h3, yp_pa]
theorem yp_Rx {v k : Nat} {Q : Nat → Option Nat} {c d : yp3} : yp_m (yp_R v Q c k) (yp_R v Q d k) = yp_R v Q (yp_x c d) k := by
  unfold yp_R yp_x
  by_cases h1 : v < k
  · rw [if_pos h1, if_pos h1, if_pos h1]; rfl
  rw [if_neg h1, if_neg h1, if_neg h1]
  by_cases h2 : k = v
  · rw [if_pos h2, if_pos h2, if_pos h2]
    by_cases h3 : v = 0
    · rw [if_pos h3, if_pos h3, if_pos h3, yp_m4]
    · rw [if_neg h3, if_neg h3, if_neg h3]
  rw [if_neg h2, if_neg h2, if_neg h2]
  by_cases h3 : k = 0
  · rw [if_pos h3, if_pos h3, if_pos h3, yp_m4, yp_mp]
  · rw [if_neg h3, if_neg h3, if_neg h3, yp_mp]
theorem yp_N1 {N : Nat} (hN : ¬ N = 0) (O : Nat) : N * O = (N - 1) * O + O := by
  obtain ⟨m, rfl⟩ : ∃ m, N = m + 1 := ⟨N - 1, by omega⟩
  rw [Nat.add_sub_cancel, Nat.succ_mul]
theorem yp_A1 {N : Nat} (hN : ¬ N = 0) (t : yp3) (X : Option Nat) : yp_g N (yp_p (some 1) t.1) (yp_p (some 1) (yp_p t.2.1 X)) (yp_p (some 1) X) = yp_p (yp_ps N t) X := by
  obtain ⟨a, b, d⟩ := t
  have h := yp_N1 hN
  unfold yp_ps
  cases a with
  | none =>
    cases b <;> cases X <;> simp only [yp_p, yp_m, yp_g, yp_b, Option.some.injEq] ; omega
  | some a =>
    have h1 := h (1 + a)
    generalize (N - 1) * (1 + a) = m at h1
    cases b <;> cases X <;> simp only [yp_p, yp_m, yp_g, yp_b, Option.some.injEq, h1] <;> omega
theorem yp_A2 {N : Nat} (hN : ¬ N = 0) (t : yp3) (X : Option Nat) : yp_g N (yp_p (some 1) t.1) (yp_p (some 1) (yp_m (yp_p t.2.1 X) t.2.2)) (yp_p (some 1) X) = yp_m (yp_p (some (yp_b N (yp_p (some 1) t.1) + 1)) t.2.2) (yp_p (yp_ps N t) X) := by
  obtain ⟨a, b, d⟩ := t
  have h := yp_N1 hN
  unfold yp_ps
  cases a with
  | none =>
    cases b <;> cases d <;> cases X <;> simp only [yp_p, yp_m, yp_g, yp_b, Option.some.injEq] <;> omega
  | some a =>
    have h1 := h (1 + a)
    generalize (N - 1) * (1 + a) = m at h1
    cases b <;> cases d <;> cases X <;> simp only [yp_p, yp_m, yp_g, yp_b, Option.some.injEq, h1] <;> omega
theorem yp_RN {N v k : Nat} {Q : Nat → Option Nat} {t c : yp3} (hN : ¬ N = 0) (hk : k ≤ v) : yp_g N (yp_p (some 1) (yp_R (v + 1) (yp_R v Q c) t (v + 1))) (yp_p (some 1) (yp_R (v + 1) (yp_R v Q c) t k)) (yp_p (some 1) (yp_R v Q c k)) = yp_R v Q (yp_N N t c) k := by
  have e1 : yp_R (v + 1) (yp_R v Q c) t (v + 1) = t.1 := by
    unfold yp_R
    rw [if_neg (Nat.lt_irrefl _), if_pos rfl, if_neg (by omega)]
  rw [e1]
  by_cases h0 : k = 0
  · subst h0
    have e2 : yp_R (v + 1) (yp_R v Q c) t 0 = yp_m (yp_p t.2.1 (yp_R v Q c 0)) t.2.2 := by
      rw [yp_R, if_neg (by omega), if_neg (by omega), if_pos rfl]
    rw [e2, yp_A2 hN]
    unfold yp_R yp_N
    rw [if_neg hN, if_neg (by omega), if_neg (by omega)]
    by_cases hv : v = 0
    · rw [if_pos hv.symm, if_pos hv, if_pos hv.symm, if_pos hv, yp_pm, ← yp_ma, yp_mc (yp_p _ t.2.2), yp_ma]
    · rw [if_neg (Ne.symm hv), if_pos rfl, if_neg (Ne.symm hv), if_pos rfl, yp_pm, ← yp_ma, yp_mc (yp_p _ t.2.2), yp_ma, yp_pa]
  · have e2 : yp_R (v + 1) (yp_R v Q c) t k = yp_p t.2.1 (yp_R v Q c k) := by
      rw [yp_R, if_neg (by omega), if_neg (by omega), if_neg h0]
    rw [e2, yp_A1 hN]
    unfold yp_R yp_N
    rw [if_neg hN, if_neg (by omega), if_neg (by omega)]
    by_cases hv : k = v
    · rw [if_pos hv, if_neg (by omega), if_pos hv, if_neg (by omega)]
    · rw [if_neg hv, if_neg h0, if_neg hv, if_neg h0, yp_pa]
/-- as a number -/
def yp_s (M : Nat) : Option Nat → Int64
  | none => -1
  | some x => lN (min x M)
abbrev yp_C : Nat := 1099511627776
abbrev yp_G : Nat := 1000000000000
theorem zj_m1 {a : Nat} (ha : a < 9223372036854775808) : ¬ lN a = -1 := fun z => zj_nn ha (by rw [z]; decide)
theorem zj_ml {a : Nat} (ha : a < 9223372036854775808) : (-1 : Int64) < lN a := by
  rcases Int64.lt_or_ge (-1) (lN a) with z | z
  · exact z
  · exfalso
    exact zj_nn ha (Int64.lt_of_le_of_lt z (by decide))
theorem yp_sum (x y : Option Nat) : f_Pv_sum (yp_s yp_C x) (yp_s yp_C y) = yp_s yp_C (yp_p x y) := by
  unfold f_Pv_sum f_Pv_sum_16
  cases x with
  | none => exact if_pos rfl
  | some x =>
    have hx : min x yp_C < 9223372036854775808 := by have : min x yp_C ≤ yp_C := Nat.min_le_right _ _; omega
    rw [if_neg (show ¬ yp_s yp_C (some x) = -1 from zj_m1 hx)]
    cases y with
    | none => exact if_pos rfl
    | some y =>
      have hy : min y yp_C < 9223372036854775808 := by have : min y yp_C ≤ yp_C := Nat.min_le_right _ _; omega
      rw [if_neg (show ¬ yp_s yp_C (some y) = -1 from zj_m1 hy)]
      show zd_minl (lN (min x yp_C) + lN (min y yp_C)) (1099511627776 : Int64) = lN (min (x + y) yp_C)
      unfold zd_minl
      rw [← Int64.ofNat_add]
      by_cases z : yp_C < min x yp_C + min y yp_C
      · rw [if_pos ((zj_gt (k := 1099511627776) (by decide) (by omega)).mpr z), show min (x + y) yp_C = yp_C by omega]; rfl
      · rw [if_neg (mt (zj_gt (k := 1099511627776) (by decide) (by omega)).mp z), show min (x + y) yp_C = min x yp_C + min y yp_C by omega]
theorem yp_mx {M : Nat} (hM : M < 9223372036854775808) (x y : Option Nat) : zd_maxl (yp_s M x) (yp_s M y) = yp_s M (yp_m x y) := by
  have hb : ∀ x, min x M < 9223372036854775808 := fun x => Nat.lt_of_le_of_lt (Nat.min_le_right _ _) hM
  unfold zd_maxl
  cases x with
  | none =>
    cases y with
    | none => exact ite_self _
    | some y => exact if_neg (show ¬ lN (min y M) < -1 from fun z => zj_nn (hb y) (Int64.lt_trans z (by decide)))
  | some x =>
    cases y with
    | none => exact if_pos (zj_ml (hb x))
    | some y =>
      show (if lN (min y M) < lN (min x M) then lN (min x M) else lN (min y M)) = lN (min (max x y) M)
      by_cases z : min y M < min x M
      · rw [if_pos ((zj_lt (hb y) (hb x)).mpr z), show min (max x y) M = min x M by omega]
      · rw [if_neg (mt (zj_lt (hb y) (hb x)).mp z), show min (max x y) M = min y M by omega]
theorem yp_minG (a : Nat) (ha : a < 9223372036854775808) : zd_minl (1000000000000 : Int64) (lN a) = lN (min a yp_G) := by
  unfold zd_minl
  by_cases z : a < yp_G
  · rw [if_pos ((zj_lt (b := 1000000000000) ha (by decide)).mpr z), show min a yp_G = a by omega]
  · rw [if_neg (mt (zj_lt (b := 1000000000000) ha (by decide)).mp z), show min a yp_G = yp_G by omega]; rfl
theorem yp_more {w : Nat} (hw : w ≤ 2000000000) (y : Option Nat) : f_Mo_more (lN w) (yp_s yp_G y) = yp_s yp_G (yp_p (some w) y) := by
  unfold f_Mo_more
  cases y with
  | none => exact if_neg (show ¬ (0 : Int64) ≤ -1 by decide)
  | some y =>
    have hy : min y yp_G ≤ yp_G := Nat.min_le_right _ _
    rw [if_pos (show (0 : Int64) ≤ lN (min y yp_G) from (zj_le (a := 0) (by decide) (by omega)).mpr (Nat.zero_le _))]
    show zd_minl (1000000000000 : Int64) (lN w + lN (min y yp_G)) = lN (min (w + y) yp_G)
    rw [← Int64.ofNat_add, yp_minG _ (by omega), show min (w + min y yp_G) yp_G = min (w + y) yp_G by omega]
theorem yp_sat (k O I G : Nat) : min (k * min O G + min I G) G = min (k * O + I) G := by
  by_cases hk : k = 0
  · subst hk; rw [Nat.zero_mul, Nat.zero_mul]; omega
  by_cases hO : O ≤ G
  · rw [Nat.min_eq_left hO]; omega
  · have h1 : G ≤ k * G := Nat.le_mul_of_pos_left G (by omega)
    have h2 : O ≤ k * O := Nat.le_mul_of_pos_left O (by omega)
    rw [Nat.min_eq_right (show G ≤ O by omega)]
    omega
