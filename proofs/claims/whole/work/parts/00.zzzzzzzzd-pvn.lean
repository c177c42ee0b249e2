/-! The prover: the model's sums of loops; of all statements. -/
section YQN
variable {g g' : zs_H} {B X Y : Nat → Nat} {kb : Nat → Int32} {R R2 : Nat → Option Nat} {n j s u v sz lo hi k b : Nat}
theorem yq_137 {O M : Nat} {y a : Option Nat} (hM : M ≤ 1000000) : f_Mo_greatestFrom_137 g (lN M) (yp_s yp_G a) (yp_s yp_G (some O)) (yp_s yp_G y) = some (yp_s yp_G (yp_m y (yp_p (some (M * O)) a))) := by
  unfold f_Mo_greatestFrom_137 f_Mo_greatestFrom_168
  cases a with
  | none =>
    rw [if_neg (show ¬ (0 : Int64) ≤ yp_s yp_G none by decide)]
    exact congrArg some (yp_mx (M := yp_G) (by decide) y none)
  | some a =>
    have h1 : min O yp_G ≤ yp_G := Nat.min_le_right _ _
    have h2 : M * min O yp_G ≤ 1000000 * yp_G := Nat.mul_le_mul hM h1
    have h3 : min a yp_G ≤ yp_G := Nat.min_le_right _ _
    rw [if_pos (show (0 : Int64) ≤ lN (min a yp_G) from (zj_le (a := 0) (by decide) (by omega)).mpr (Nat.zero_le _))]
    show some (zd_maxl (yp_s yp_G y) (zd_minl (1000000000000 : Int64) (lN M * lN (min O yp_G) + lN (min a yp_G)))) = _
    rw [← Int64.ofNat_mul, ← Int64.ofNat_add, yp_minG _ (by omega), yp_sat]
    exact congrArg some (yp_mx (M := yp_G) (by decide) y (some (M * O + a)))
theorem yq_gf {M : Nat} (hM : M ≤ 1000000) (h0 : ¬ M = 0) (o i a : Option Nat) : (if (0 : Int64) ≤ yp_s yp_G o then (if (0 : Int64) ≤ yp_s yp_G i then f_Mo_greatestFrom_137 g (lN M) (yp_s yp_G a) (yp_s yp_G o) (zd_minl (1000000000000 : Int64) ((lN M - 1) * yp_s yp_G o + yp_s yp_G i)) else f_Mo_greatestFrom_137 g (lN M) (yp_s yp_G a) (yp_s yp_G o) (-1)) else some (yp_s yp_G i)) = some (yp_s yp_G (yp_g M o i a)) := by
  cases o with
  | none => exact if_neg (by decide)
  | some O =>
    have h1 : min O yp_G ≤ yp_G := Nat.min_le_right _ _
    have h2 : (M - 1) * min O yp_G ≤ 1000000 * yp_G := Nat.mul_le_mul (by omega) h1
    rw [if_pos (show (0 : Int64) ≤ lN (min O yp_G) from (zj_le (a := 0) (by decide) (by omega)).mpr (Nat.zero_le _))]
    cases i with
    | none =>
      rw [if_neg (show ¬ (0 : Int64) ≤ yp_s yp_G none by decide)]
      exact yq_137 (y := none) hM
    | some i =>
      have h3 : min i yp_G ≤ yp_G := Nat.min_le_right _ _
      rw [if_pos (show (0 : Int64) ≤ lN (min i yp_G) from (zj_le (a := 0) (by decide) (by omega)).mpr (Nat.zero_le _))]
      have e1 : lN M - 1 = lN (M - 1) := (Int64.ofNat_sub M 1 (by omega)).symm
      have e2 : zd_minl (1000000000000 : Int64) ((lN M - 1) * yp_s yp_G (some O) + yp_s yp_G (some i)) = yp_s yp_G (some ((M - 1) * O + i)) := by
        rw [e1]
        show zd_minl (1000000000000 : Int64) (lN (M - 1) * lN (min O yp_G) + lN (min i yp_G)) = lN (min ((M - 1) * O + i) yp_G)
        rw [← Int64.ofNat_mul, ← Int64.ofNat_add, yp_minG _ (by omega), yp_sat]
      rw [e2]
      exact yq_137 hM
theorem yq_next {i i0 : yI} {lv lv0 t M : Nat} (hu : u < 17) (hb : (g.2.1 103) u = nI s) (hs : s + (j + 1) < 4000) (hk : k ≤ v) (hv : v < 61) (m0 : yM_m s g (s + j) (i0, lv0)) (m : yM_m s g (s + (j + 1)) (i, lv)) (h0 : i0.1 = 12) (hb0 : i0.2.2.1 = nI M) (hM : M ≤ 1000000) (hi : i.1 = 13) (ha : i.2.1 = nI t) (ht : s ≤ t ∧ t ≤ 4000) (a : yq_at g (j + 2) R) (a2 : yq_at g (t - s) R2) : f_Mo_greatest g (nI u) (nI (j + 1)) (nI k) (nI v) = some (yp_s yp_G (if M = 0 then yp_p (some 1) (R2 k) else yp_g M (yp_p (some 1) (R (v + 1))) (yp_p (some 1) (R k)) (yp_p (some 1) (R2 k)))) := by
  have m1 : (g.2.1 104) (s + (j + 1)) = 13 := by rw [show (g.2.1 104) (s + (j + 1)) = nI i.1 from m.1, hi]; rfl
  have m2 : (g.2.1 106) (s + (j + 1)) = nI (t - s) := by
    rw [show (g.2.1 106) (s + (j + 1)) = yM_B s i from m.2.2.1]
    unfold yM_B
    rw [if_pos hi, ha, zi_sub ht.1]
  have m3 : (g.2.1 106) (s + j) = nI M := by
    rw [show (g.2.1 106) (s + j) = yM_B s i0 from m0.2.2.1]
    unfold yM_B
    rw [if_neg (by omega), hb0]
  have a1 := a k (by omega)
  have a3 := a (v + 1) (by omega)
  have a4 := a2 k (by omega)
  have n10 : ¬ (13 : Int32) = 10 := by decide
  have n11 : ¬ (13 : Int32) = 11 := by decide
  have one : ∀ x : Option Nat, f_Mo_more 1 (yp_s yp_G x) = yp_s yp_G (yp_p (some 1) x) := fun x => yp_more (w := 1) (by omega) x
  unfold f_Mo_greatest f_Mo_greatestFrom
  simp only [if_pos (zi_in (show u < 2147483648 by omega) hu), nI_clamp (show u < 2147483648 by omega), hb, nI_add, if_pos (zi_in (show s + (j + 1) < 2147483648 by omega) hs), nI_clamp (show s + (j + 1) < 2147483648 by omega), m1, if_neg n10, if_neg n11, if_true, show nI (s + (j + 1)) - 1 = nI (s + j) from zi_sub (a := s + (j + 1)) (b := 1) (by omega), if_pos (zi_in (show s + j < 2147483648 by omega) (show s + j < 4000 by omega)), nI_clamp (show s + j < 2147483648 by omega), m2, m3, zj_32 (show M < 2147483648 by omega), show nI (j + 1) + 1 = nI (j + 2) from zc_ad 1 (j + 1), yq_ix, if_pos (zi_in (show 62 * (t - s) + k < 2147483648 by omega) (show 62 * (t - s) + k < 248100 by omega)), nI_clamp (show 62 * (t - s) + k < 2147483648 by omega), if_pos (zi_in (show 62 * (j + 2) + k < 2147483648 by omega) (show 62 * (j + 2) + k < 248100 by omega)), nI_clamp (show 62 * (j + 2) + k < 2147483648 by omega), show nI (62 * (j + 2) + v) + 1 = nI (62 * (j + 2) + (v + 1)) from zc_ad 1 (62 * (j + 2) + v), if_pos (zi_in (show 62 * (j + 2) + (v + 1) < 2147483648 by omega) (show 62 * (j + 2) + (v + 1) < 248100 by omega)), nI_clamp (show 62 * (j + 2) + (v + 1) < 2147483648 by omega), a1, a3, a4, one, Option.bind_fun_some]
  by_cases z : M = 0
  · rw [if_pos (by rw [z]; rfl), if_pos z]
  · rw [if_neg (mt (zj_eq (b := 0) (by omega) (by decide)).mp z), if_neg z]
    exact yq_gf hM z _ _ _
def yq_sc (g g' : zs_H) (u sz s n m : Nat) : Prop := ∀ N, f_Mo_sumOf_L8 (N + m) g (nI u) (nI sz) (nI (n + m - s) - 1) = f_Mo_sumOf_L8 N g' (nI u) (nI sz) (nI (n - s) - 1)
theorem yq_sct {g g1 g2 : zs_H} {m1 m2 m : Nat} (a : yq_sc g g1 u sz s (n + m1) m2) (b : yq_sc g1 g2 u sz s n m1) (e : m = m1 + m2) : yq_sc g g2 u sz s n m := by
  intro N
  rw [e, show N + (m1 + m2) = (N + m1) + m2 by omega, show n + (m1 + m2) - s = n + m1 + m2 - s by omega, a (N + m1), b N]
/-- one instruction of a unit -/
theorem yq_do {i : yI} (hsn : s ≤ n) (hn : n < s + sz) (hsz : s + sz ≤ 4000) (hu : u < 16) (hv : v < 62) (hb : (g.2.1 103) u = nI s) (m : yM_m s g n (i, v)) (hR : ∀ k, v < k → R k = none) (H : ∀ k g', k ≤ v → yq_fr (n - s) (n - s + 1) g g' → f_Mo_greatest g' (nI u) (nI (n - s)) (nI k) (nI v) = some (yp_s yp_G (R k))) : ∃ g', yq_sc g g' u sz s n 1 ∧ yq_at g' (n - s) R ∧ yq_fr (n - s) (n + 1 - s) g g' := by
  obtain ⟨g', e1, e2, e3⟩ := yq_step (g := g) (s := s) (u := u) (j := n - s) (n := sz) (v := v) (R := R) (by omega) (by omega) hv (by omega) hR (.inr ⟨by omega, hb, hsz, by rw [show s + (n - s) = n by omega]; exact m.2.2.2.2⟩) (fun k g' h1 h2 => by rw [if_neg (by omega)]; exact H k g' h1 h2)
  refine ⟨g', fun N => ?_, e2, by rw [show n + 1 - s = n - s + 1 by omega]; exact e3⟩
  rw [show n + 1 - s = n - s + 1 by omega]
  exact e1 N
theorem yp_Rn {Q : Nat → Option Nat} {c : yp3} (h : v < k) : yp_R v Q c k = none := by unfold yp_R; rw [if_pos h]
end YQN
