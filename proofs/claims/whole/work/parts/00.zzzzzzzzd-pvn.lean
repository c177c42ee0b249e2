/-! The prover: the model's sums of loops; of all statements. -/
section YQN
variable {g g' : zs_H} {B X Y : Nat → Nat} {kb : Nat → yK} {R R2 : Nat → Option Nat} {n j s u v sz lo hi k b : Nat}
theorem yQ_137 {O M : Nat} {y a : Option Nat} (hM : M ≤ 1000000) : f_Mo_greatestFrom_137 g (lN M) (yP_s 1000000000000 a) (yP_s 1000000000000 (some O)) (yP_s 1000000000000 y) = some (yP_s 1000000000000 (yP_m y (yP_p (some (M * O)) a))) := by
  unfold f_Mo_greatestFrom_137 f_Mo_greatestFrom_168
  cases a with
  | none =>
    rw [if_neg (show ¬ (0 : Int64) ≤ yP_s 1000000000000 none by decide)]
    exact congrArg some (yP_mx (M := 1000000000000) (by decide) y none)
  | some a =>
    have h1 : min O 1000000000000 ≤ 1000000000000 := Nat.min_le_right _ _
    have h2 : M * min O 1000000000000 ≤ 1000000 * 1000000000000 := Nat.mul_le_mul hM h1
    have h3 : min a 1000000000000 ≤ 1000000000000 := Nat.min_le_right _ _
    rw [if_pos (show (0 : Int64) ≤ yP_s 1000000000000 (some a) from (zj_le (a := 0) (by decide) (by omega)).mpr (Nat.zero_le _))]
    show some (zd_maxl (yP_s 1000000000000 y) (zd_minl (1000000000000 : Int64) (lN M * lN (min O 1000000000000) + lN (min a 1000000000000)))) = _
    rw [lN_mul, lN_add, yP_minG _ (by omega), yP_sat]
    exact congrArg some (yP_mx (M := 1000000000000) (by decide) y (some (M * O + a)))
theorem yQ_gf {M : Nat} (hM : M ≤ 1000000) (h0 : ¬ M = 0) (o i a : Option Nat) : (if (0 : Int64) ≤ yP_s 1000000000000 o then (if (0 : Int64) ≤ yP_s 1000000000000 i then f_Mo_greatestFrom_137 g (lN M) (yP_s 1000000000000 a) (yP_s 1000000000000 o) (zd_minl (1000000000000 : Int64) ((lN M - 1) * yP_s 1000000000000 o + yP_s 1000000000000 i)) else f_Mo_greatestFrom_137 g (lN M) (yP_s 1000000000000 a) (yP_s 1000000000000 o) (-1)) else some (yP_s 1000000000000 i)) = some (yP_s 1000000000000 (yP_g M o i a)) := by
  cases o with
  | none => exact if_neg (by decide)
  | some O =>
    have h1 : min O 1000000000000 ≤ 1000000000000 := Nat.min_le_right _ _
    have h2 : (M - 1) * min O 1000000000000 ≤ 1000000 * 1000000000000 := Nat.mul_le_mul (by omega) h1
    rw [if_pos (show (0 : Int64) ≤ yP_s 1000000000000 (some O) from (zj_le (a := 0) (by decide) (by omega)).mpr (Nat.zero_le _))]
    cases i with
    | none =>
      rw [if_neg (show ¬ (0 : Int64) ≤ yP_s 1000000000000 none by decide)]
      exact yQ_137 (y := none) hM
    | some i =>
      have h3 : min i 1000000000000 ≤ 1000000000000 := Nat.min_le_right _ _
      rw [if_pos (show (0 : Int64) ≤ yP_s 1000000000000 (some i) from (zj_le (a := 0) (by decide) (by omega)).mpr (Nat.zero_le _))]
      have e1 : lN M - 1 = lN (M - 1) := lN_sub (b := 1) (by omega)
      have e2 : zd_minl (1000000000000 : Int64) ((lN M - 1) * yP_s 1000000000000 (some O) + yP_s 1000000000000 (some i)) = yP_s 1000000000000 (some ((M - 1) * O + i)) := by
        rw [e1]
        show zd_minl (1000000000000 : Int64) (lN (M - 1) * lN (min O 1000000000000) + lN (min i 1000000000000)) = lN (min ((M - 1) * O + i) 1000000000000)
        rw [lN_mul, lN_add, yP_minG _ (by omega), yP_sat]
      rw [e2]
      exact yQ_137 hM
theorem yQ_next {i i0 : yI} {lv lv0 t M : Nat} (hu : u < 17) (hb : (g.2.1 103) u = nI s) (hs : s + (j + 1) < 4000) (hk : k ≤ v) (hv : v < 61) (m0 : yM_m s g (s + j) (i0, lv0)) (m : yM_m s g (s + (j + 1)) (i, lv)) (h0 : i0.1 = 12) (hb0 : i0.2.2.1 = nI M) (hM : M ≤ 1000000) (hi : i.1 = 13) (ha : i.2.1 = nI t) (ht : s ≤ t ∧ t ≤ 4000) (a : yQ_at g (j + 2) R) (a2 : yQ_at g (t - s) R2) : f_Mo_greatest g (nI u) (nI (j + 1)) (nI k) (nI v) = some (yP_s 1000000000000 (if M = 0 then yP_p (some 1) (R2 k) else yP_g M (yP_p (some 1) (R (v + 1))) (yP_p (some 1) (R k)) (yP_p (some 1) (R2 k)))) := by
  have m1 : (g.2.1 104) (s + (j + 1)) = 13 := by rw [show (g.2.1 104) (s + (j + 1)) = nI i.1 from m.1, hi]; rfl
  have m2 : (g.2.1 106) (s + (j + 1)) = nI (t - s) := by
    rw [show (g.2.1 106) (s + (j + 1)) = yM_B s i from m.2.2.1]
    unfold yM_B
    rw [if_pos hi, ha, zi_sub ht.1]
  have m3 : (g.2.1 106) (s + j) = nI M := by
    rw [show (g.2.1 106) (s + j) = yM_B s i0 from m0.2.2.1]
    unfold yM_B
    rw [if_neg (by omega), hb0]
  have a1 := a k (by omega)
  have a3 := a (v + 1) (by omega)
  have a4 := a2 k (by omega)
  have n10 : ¬ (13 : Int32) = 10 := by decide
  have n11 : ¬ (13 : Int32) = 11 := by decide
  have one : ∀ x : Option Nat, f_Mo_more 1 (yP_s 1000000000000 x) = yP_s 1000000000000 (yP_p (some 1) x) := fun x => yP_more (w := 1) (by omega) x
  unfold f_Mo_greatest f_Mo_greatestFrom
  simp only [if_pos (zi_in (show u < 2147483648 by omega) hu), nI_clamp (show u < 2147483648 by omega), hb, nI_add, if_pos (zi_in (show s + (j + 1) < 2147483648 by omega) hs), nI_clamp (show s + (j + 1) < 2147483648 by omega), m1, if_neg n10, if_neg n11, if_true, show nI (s + (j + 1)) - 1 = nI (s + j) from zi_sub (a := s + (j + 1)) (b := 1) (by omega), if_pos (zi_in (show s + j < 2147483648 by omega) (show s + j < 4000 by omega)), nI_clamp (show s + j < 2147483648 by omega), m2, m3, zj_32 (show M < 2147483648 by omega), show nI (j + 1) + 1 = nI (j + 2) from zc_ad 1 (j + 1), yQ_ix, if_pos (zi_in (show 62 * (t - s) + k < 2147483648 by omega) (show 62 * (t - s) + k < 248100 by omega)), nI_clamp (show 62 * (t - s) + k < 2147483648 by omega), if_pos (zi_in (show 62 * (j + 2) + k < 2147483648 by omega) (show 62 * (j + 2) + k < 248100 by omega)), nI_clamp (show 62 * (j + 2) + k < 2147483648 by omega), show nI (62 * (j + 2) + v) + 1 = nI (62 * (j + 2) + (v + 1)) from zc_ad 1 (62 * (j + 2) + v), if_pos (zi_in (show 62 * (j + 2) + (v + 1) < 2147483648 by omega) (show 62 * (j + 2) + (v + 1) < 248100 by omega)), nI_clamp (show 62 * (j + 2) + (v + 1) < 2147483648 by omega), a1, a3, a4, one, Option.bind_fun_some]
  by_cases z : M = 0
  · rw [if_pos (by rw [z]; rfl), if_pos z]
  · rw [if_neg (show ¬ lN M = (0 : Int64) from mt (zj_eq (b := 0) (by omega) (by decide)).mp z), if_neg z]
    exact yQ_gf hM z _ _ _
def yQ_sc (g g' : zs_H) (u sz s n m : Nat) : Prop := ∀ N, f_Mo_sumOf_L8 (N + m) g (nI u) (nI sz) (nI (n + m - s) - 1) = f_Mo_sumOf_L8 N g' (nI u) (nI sz) (nI (n - s) - 1)
theorem yQ_sct {g g1 g2 : zs_H} {m1 m2 m : Nat} (a : yQ_sc g g1 u sz s (n + m1) m2) (b : yQ_sc g1 g2 u sz s n m1) (e : m = m1 + m2) : yQ_sc g g2 u sz s n m := by
  intro N
  rw [e, show N + (m1 + m2) = (N + m1) + m2 by omega, show n + (m1 + m2) - s = n + m1 + m2 - s by omega, a (N + m1), b N]
/-- one instruction of a unit -/
theorem yQ_do {i : yI} (hsn : s ≤ n) (hn : n < s + sz) (hsz : s + sz ≤ 4000) (hu : u < 16) (hv : v < 62) (hb : (g.2.1 103) u = nI s) (m : yM_m s g n (i, v)) (hR : ∀ k, v < k → R k = none) (H : ∀ k g', k ≤ v → yQ_fr (n - s) (n - s + 1) g g' → f_Mo_greatest g' (nI u) (nI (n - s)) (nI k) (nI v) = some (yP_s 1000000000000 (R k))) : ∃ g', yQ_sc g g' u sz s n 1 ∧ yQ_at g' (n - s) R ∧ yQ_fr (n - s) (n + 1 - s) g g' := by
  obtain ⟨g', e1, e2, e3⟩ := yQ_step (g := g) (s := s) (u := u) (j := n - s) (n := sz) (v := v) (R := R) (by omega) (by omega) hv (by omega) hR (.inr ⟨by omega, hb, hsz, by rw [show s + (n - s) = n by omega]; exact m.2.2.2.2⟩) (fun k g' h1 h2 => by rw [if_neg (by omega)]; exact H k g' h1 h2)
  refine ⟨g', fun N => ?_, e2, by rw [show n + 1 - s = n - s + 1 by omega]; exact e3⟩
  rw [show n + 1 - s = n - s + 1 by omega]
  exact e1 N
theorem yP_Rn {Q : Nat → Option Nat} {c : yP3} (h : v < k) : yP_R v Q c k = none := by unfold yP_R; rw [if_pos h]
end YQN
