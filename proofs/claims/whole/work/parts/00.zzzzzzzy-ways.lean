/-! The prover: the most steps of a way; none: there is no way. -/
def yP_p : Option Nat → Option Nat → Option Nat
  | some x, some y => some (x + y)
  | none, _ => none
  | some _, none => none
def yP_m : Option Nat → Option Nat → Option Nat
  | none, b => b
  | some x, none => some x
  | some x, some y => some (max x y)
abbrev yP3 : Type := Option Nat × Option Nat × Option Nat
def yP_a (w : Nat) (c : yP3) : yP3 := (yP_p (some w) c.1, yP_p (some w) c.2.1, yP_p (some w) c.2.2)
def yP_x (c d : yP3) : yP3 := (yP_m c.1 d.1, yP_m c.2.1 d.2.1, yP_m c.2.2 d.2.2)
/-- the rounds before the last one -/
def yP_b (N : Nat) : Option Nat → Nat
  | none => 0
  | some x => (N - 1) * x
/-- a loop up to what is behind it -/
def yP_ps (N : Nat) (t : yP3) : Option Nat := yP_m (yP_p (yP_p (some (yP_b N (yP_p (some 1) t.1))) (yP_p (some 1) t.1)) (some 1)) (yP_p (some (yP_b N (yP_p (some 1) t.1) + 1)) t.2.1)
def yP_N (N : Nat) (t c : yP3) : yP3 := if N = 0 then yP_a 1 c else (yP_p (yP_ps N t) c.1, yP_p (yP_ps N t) c.2.1, yP_m (yP_p (some (yP_b N (yP_p (some 1) t.1) + 1)) t.2.2) (yP_p (yP_ps N t) c.2.2))
/-- the same, as the model says it -/
def yP_g (N : Nat) : Option Nat → Option Nat → Option Nat → Option Nat
  | none, i, _ => i
  | some O, i, a => yP_m (yP_p (some ((N - 1) * O)) i) (yP_p (some (N * O)) a)
def yP_R (v : Nat) (Q : Nat → Option Nat) (c : yP3) (k : Nat) : Option Nat := if v < k then none else if k = v then (if v = 0 then yP_m c.1 c.2.2 else c.1) else if k = 0 then yP_m (yP_p c.2.1 (Q 0)) c.2.2 else yP_p c.2.1 (Q k)
theorem yP_pa (a b c : Option Nat) : yP_p (yP_p a b) c = yP_p a (yP_p b c) := by
  cases a <;> cases b <;> cases c <;> simp only [yP_p, Option.some.injEq] ; omega
theorem yP_pm (a b c : Option Nat) : yP_p a (yP_m b c) = yP_m (yP_p a b) (yP_p a c) := by
  cases a <;> cases b <;> cases c <;> simp only [yP_p, yP_m, Option.some.injEq] ; omega
theorem yP_mp (a b c : Option Nat) : yP_p (yP_m b c) a = yP_m (yP_p b a) (yP_p c a) := by
  cases a <;> cases b <;> cases c <;> simp only [yP_p, yP_m, Option.some.injEq] ; omega
theorem yP_ma (a b c : Option Nat) : yP_m (yP_m a b) c = yP_m a (yP_m b c) := by
  cases a <;> cases b <;> cases c <;> simp only [yP_m, Option.some.injEq] ; omega
theorem yP_mc (a b : Option Nat) : yP_m a b = yP_m b a := by
  cases a <;> cases b <;> simp only [yP_m, Option.some.injEq] ; omega
theorem yP_m4 (a b c d : Option Nat) : yP_m (yP_m a b) (yP_m c d) = yP_m (yP_m a c) (yP_m b d) := by
  rw [yP_ma, yP_ma, ← yP_ma b, yP_mc b c, yP_ma c]
theorem yP_Ra {v k w : Nat} {Q : Nat → Option Nat} {c : yP3} : yP_p (some w) (yP_R v Q c k) = yP_R v Q (yP_a w c) k := by
  unfold yP_R yP_a
  by_cases h1 : v < k
  · rw [if_pos h1, if_pos h1]; rfl
  rw [if_neg h1, if_neg h1]
  by_cases h2 : k = v
  · rw [if_pos h2, if_pos h2]
    by_cases h3 : v = 0
    · rw [if_pos h3, if_pos h3, yP_pm]
    · rw [if_neg h3, if_neg h3]
  rw [if_neg h2, if_neg h2]
  by_cases h3 : k = 0
  · rw [if_pos h3, if_pos h3, yP_pm, yP_pa]
  · rw [if_neg h3, if_neg h3, yP_pa]
theorem yP_Rx {v k : Nat} {Q : Nat → Option Nat} {c d : yP3} : yP_m (yP_R v Q c k) (yP_R v Q d k) = yP_R v Q (yP_x c d) k := by
  unfold yP_R yP_x
  by_cases h1 : v < k
  · rw [if_pos h1, if_pos h1, if_pos h1]; rfl
  rw [if_neg h1, if_neg h1, if_neg h1]
  by_cases h2 : k = v
  · rw [if_pos h2, if_pos h2, if_pos h2]
    by_cases h3 : v = 0
    · rw [if_pos h3, if_pos h3, if_pos h3, yP_m4]
    · rw [if_neg h3, if_neg h3, if_neg h3]
  rw [if_neg h2, if_neg h2, if_neg h2]
  by_cases h3 : k = 0
  · rw [if_pos h3, if_pos h3, if_pos h3, yP_m4, yP_mp]
  · rw [if_neg h3, if_neg h3, if_neg h3, yP_mp]
theorem yP_N1 {N : Nat} (hN : ¬ N = 0) (O : Nat) : N * O = (N - 1) * O + O := by
  obtain ⟨m, rfl⟩ : ∃ m, N = m + 1 := ⟨N - 1, by omega⟩
  rw [Nat.add_sub_cancel, Nat.succ_mul]
theorem yP_A1 {N : Nat} (hN : ¬ N = 0) (t : yP3) (X : Option Nat) : yP_g N (yP_p (some 1) t.1) (yP_p (some 1) (yP_p t.2.1 X)) (yP_p (some 1) X) = yP_p (yP_ps N t) X := by
  obtain ⟨a, b, d⟩ := t
  have h := yP_N1 hN
  unfold yP_ps
  cases a with
  | none =>
    cases b <;> cases X <;> simp only [yP_p, yP_m, yP_g, yP_b, Option.some.injEq] ; omega
  | some a =>
    have h1 := h (1 + a)
    cases b <;> cases X <;> simp only [yP_p, yP_m, yP_g, yP_b, Option.some.injEq, h1] <;> (clear h1 h; generalize (N - 1) * (1 + a) = m) <;> omega
theorem yP_A2 {N : Nat} (hN : ¬ N = 0) (t : yP3) (X : Option Nat) : yP_g N (yP_p (some 1) t.1) (yP_p (some 1) (yP_m (yP_p t.2.1 X) t.2.2)) (yP_p (some 1) X) = yP_m (yP_p (some (yP_b N (yP_p (some 1) t.1) + 1)) t.2.2) (yP_p (yP_ps N t) X) := by
  obtain ⟨a, b, d⟩ := t
  have h := yP_N1 hN
  unfold yP_ps
  cases a with
  | none =>
    cases b <;> cases d <;> cases X <;> simp only [yP_p, yP_m, yP_g, yP_b, Option.some.injEq] <;> omega
  | some a =>
    have h1 := h (1 + a)
    cases b <;> cases d <;> cases X <;> simp only [yP_p, yP_m, yP_g, yP_b, Option.some.injEq, h1] <;> (clear h1 h; generalize (N - 1) * (1 + a) = m) <;> omega
theorem yP_RN {N v k : Nat} {Q : Nat → Option Nat} {t c : yP3} (hN : ¬ N = 0) (hk : k ≤ v) : yP_g N (yP_p (some 1) (yP_R (v + 1) (yP_R v Q c) t (v + 1))) (yP_p (some 1) (yP_R (v + 1) (yP_R v Q c) t k)) (yP_p (some 1) (yP_R v Q c k)) = yP_R v Q (yP_N N t c) k := by
  have e1 : yP_R (v + 1) (yP_R v Q c) t (v + 1) = t.1 := by
    unfold yP_R
    rw [if_neg (Nat.lt_irrefl _), if_pos rfl, if_neg (by omega)]
  have eN : yP_N N t c = (yP_p (yP_ps N t) c.1, yP_p (yP_ps N t) c.2.1, yP_m (yP_p (some (yP_b N (yP_p (some 1) t.1) + 1)) t.2.2) (yP_p (yP_ps N t) c.2.2)) := if_neg hN
  rw [e1]
  by_cases h0 : k = 0
  · subst h0
    have e2 : yP_R (v + 1) (yP_R v Q c) t 0 = yP_m (yP_p t.2.1 (yP_R v Q c 0)) t.2.2 := by
      rw [yP_R, if_neg (Nat.not_lt_zero _), if_neg (show ¬ 0 = v + 1 by omega), if_pos rfl]
    rw [e2, yP_A2 hN, eN]
    unfold yP_R
    simp only [if_neg (Nat.not_lt_zero v)]
    by_cases hv : v = 0
    · simp only [if_pos hv.symm, if_pos hv]
      rw [yP_pm, ← yP_ma, yP_mc (yP_p _ t.2.2), yP_ma]
    · simp only [if_neg (Ne.symm hv), if_true]
      rw [yP_pm, ← yP_ma, yP_mc (yP_p _ t.2.2), yP_ma, yP_pa]
  · have e2 : yP_R (v + 1) (yP_R v Q c) t k = yP_p t.2.1 (yP_R v Q c k) := by
      rw [yP_R, if_neg (show ¬ v + 1 < k by omega), if_neg (show ¬ k = v + 1 by omega), if_neg h0]
    rw [e2, yP_A1 hN, eN]
    unfold yP_R
    simp only [if_neg (show ¬ v < k by omega)]
    by_cases hv : k = v
    · simp only [if_pos hv, if_neg (show ¬ v = 0 by omega)]
    · simp only [if_neg hv, if_neg h0, yP_pa]
/-- as a number -/
def yP_s (M : Nat) : Option Nat → Int64
  | none => -1
  | some x => lN (min x M)
theorem zj_m1 {a : Nat} (ha : a < 9223372036854775808) : ¬ lN a = -1 := fun z => zj_nn ha (by rw [z]; decide)
theorem zj_ml {a : Nat} (ha : a < 9223372036854775808) : (-1 : Int64) < lN a := Int64.lt_of_lt_of_le (show (-1 : Int64) < 0 by decide) ((zj_le (a := 0) (by decide) ha).mpr (Nat.zero_le _))
theorem yP_sum (x y : Option Nat) : f_Pv_sum (yP_s 1099511627776 x) (yP_s 1099511627776 y) = yP_s 1099511627776 (yP_p x y) := by
  unfold f_Pv_sum f_Pv_sum_16
  cases x with
  | none => exact if_pos rfl
  | some x =>
    have hx : min x 1099511627776 < 9223372036854775808 := by have : min x 1099511627776 ≤ 1099511627776 := Nat.min_le_right _ _; omega
    rw [if_neg (show ¬ yP_s 1099511627776 (some x) = -1 from zj_m1 hx)]
    cases y with
    | none => exact if_pos rfl
    | some y =>
      have hy : min y 1099511627776 < 9223372036854775808 := by have : min y 1099511627776 ≤ 1099511627776 := Nat.min_le_right _ _; omega
      rw [if_neg (show ¬ yP_s 1099511627776 (some y) = -1 from zj_m1 hy)]
      show zd_minl (lN (min x 1099511627776) + lN (min y 1099511627776)) (1099511627776 : Int64) = lN (min (x + y) 1099511627776)
      unfold zd_minl
      rw [lN_add]
      by_cases z : 1099511627776 < min x 1099511627776 + min y 1099511627776
      · rw [if_pos ((zj_gt (k := 1099511627776) (by decide) (by omega)).mpr z), show min (x + y) 1099511627776 = 1099511627776 by omega]; rfl
      · rw [if_neg (mt (zj_gt (k := 1099511627776) (by decide) (by omega)).mp z), show min (x + y) 1099511627776 = min x 1099511627776 + min y 1099511627776 by omega]
theorem yP_mx {M : Nat} (hM : M < 9223372036854775808) (x y : Option Nat) : zd_maxl (yP_s M x) (yP_s M y) = yP_s M (yP_m x y) := by
  have hb : ∀ x, min x M < 9223372036854775808 := fun x => Nat.lt_of_le_of_lt (Nat.min_le_right _ _) hM
  unfold zd_maxl
  cases x with
  | none =>
    cases y with
    | none => exact ite_self _
    | some y => exact if_neg (show ¬ lN (min y M) < -1 from fun z => zj_nn (hb y) (Int64.lt_trans z (by decide)))
  | some x =>
    cases y with
    | none => exact if_pos (zj_ml (hb x))
    | some y =>
      show (if lN (min y M) < lN (min x M) then lN (min x M) else lN (min y M)) = lN (min (max x y) M)
      by_cases z : min y M < min x M
      · rw [if_pos ((zj_lt (hb y) (hb x)).mpr z), show min (max x y) M = min x M by omega]
      · rw [if_neg (mt (zj_lt (hb y) (hb x)).mp z), show min (max x y) M = min y M by omega]
theorem zj_tl {k t : Nat} (hk : k < 9223372036854775808) (ht : t < 9223372036854775808) : lN t < (OfNat.ofNat k : Int64) ↔ t < k := zj_lt ht hk
theorem yP_minG (a : Nat) (ha : a < 9223372036854775808) : zd_minl (1000000000000 : Int64) (lN a) = lN (min a 1000000000000) := by
  unfold zd_minl
  by_cases z : a < 1000000000000
  · rw [if_pos ((zj_tl (k := 1000000000000) (by decide) ha).mpr z), show min a 1000000000000 = a by omega]
  · rw [if_neg (mt (zj_tl (k := 1000000000000) (by decide) ha).mp z), show min a 1000000000000 = 1000000000000 by omega]; rfl
theorem yP_more {w : Nat} (hw : w ≤ 2000000000) (y : Option Nat) : f_Mo_more (lN w) (yP_s 1000000000000 y) = yP_s 1000000000000 (yP_p (some w) y) := by
  unfold f_Mo_more
  cases y with
  | none => exact if_neg (show ¬ (0 : Int64) ≤ -1 by decide)
  | some y =>
    have hy : min y 1000000000000 ≤ 1000000000000 := Nat.min_le_right _ _
    rw [if_pos (show (0 : Int64) ≤ yP_s 1000000000000 (some y) from (zj_le (a := 0) (by decide) (by omega)).mpr (Nat.zero_le _))]
    show zd_minl (1000000000000 : Int64) (lN w + lN (min y 1000000000000)) = lN (min (w + y) 1000000000000)
    rw [lN_add, yP_minG _ (by omega), show min (w + min y 1000000000000) 1000000000000 = min (w + y) 1000000000000 by omega]
theorem yP_sat (k O I G : Nat) : min (k * min O G + min I G) G = min (k * O + I) G := by
  by_cases hk : k = 0
  · subst hk; rw [Nat.zero_mul, Nat.zero_mul]; omega
  by_cases hO : O ≤ G
  · rw [Nat.min_eq_left hO]; omega
  · have h1 : G ≤ k * G := Nat.le_mul_of_pos_left G (by omega)
    have h2 : O ≤ k * O := Nat.le_mul_of_pos_left O (by omega)
    rw [Nat.min_eq_right (show G ≤ O by omega)]
    omega
