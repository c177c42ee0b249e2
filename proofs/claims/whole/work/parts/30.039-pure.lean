section
/-! The prover: the model's sums of loops; of all statements. -/
section YQN
variable {g g' : zs_H} {B X Y : Nat → Nat} {kb : Nat → yK} {R R2 : Nat → Option Nat} {n j s u v sz lo hi k b : Nat}
theorem yQ_137 {O M : Nat} {y a : Option Nat} (hM : M ≤ 1000000) : f_Mo_greatestFrom_137 g (lN M) (yP_s 1000000000000 a) (yP_s 1000000000000 (some O)) (yP_s 1000000000000 y) = some (yP_s 1000000000000 (yP_m y (yP_p (some (M * O)) a))) := by
  unfold f_Mo_greatestFrom_137 f_Mo_greatestFrom_168
  cases a with
  | none =>
    rw [if_neg (show ¬ (0 : Int64) ≤ yP_s 1000000000000 none by decide)]
    exact congrArg some (yP_mx (M := 1000000000000) (by decide) y none)
  | some a =>
    have h1 : min O 1000000000000 ≤ 1000000000000 := Nat.min_le_right _ _
    have h2 : M * min O 1000000000000 ≤ 1000000 * 1000000000000 := Nat.mul_le_mul hM h1
    have h3 : min a 1000000000000 ≤ 1000000000000 := Nat.min_le_right _ _
    rw [if_pos (show (0 : Int64) ≤ yP_s 1000000000000 (some a) from (zj_le (a := 0) (by decide) (by omega)).mpr (Nat.zero_le _))]
    show some (zd_maxl (yP_s 1000000000000 y) (zd_minl (1000000000000 : Int64) (lN M * lN (min O 1000000000000) + lN (min a 1000000000000)))) = _
    rw [lN_mul, lN_add, yP_minG _ (by omega), yP_sat]
    exact congrArg some (yP_mx (M := 1000000000000) (by decide) y (some (M * O + a)))
theorem yQ_gf {M : Nat} (hM : M ≤ 1000000) (h0 : ¬ M = 0) (o i a : Option Nat) : (if (0 : Int64) ≤ yP_s 1000000000000 o then (if (0 : Int64) ≤ yP_s 1000000000000 i then f_Mo_greatestFrom_137 g (lN M) (yP_s 1000000000000 a) (yP_s 1000000000000 o) (zd_minl (1000000000000 : Int64) ((lN M - 1) * yP_s 1000000000000 o + yP_s 1000000000000 i)) else f_Mo_greatestFrom_137 g (lN M) (yP_s 1000000000000 a) (yP_s 1000000000000 o) (-1)) else some (yP_s 1000000000000 i)) = some (yP_s 1000000000000 (yP_g M o i a)) := by
  cases o with
  | none => exact if_neg (by decide)
  | some O =>
    have h1 : min O 1000000000000 ≤ 1000000000000 := Nat.min_le_right _ _
    have h2 : (M - 1) * min O 1000000000000 ≤ 1000000 * 1000000000000 := Nat.mul_le_mul (by omega) h1
    rw [if_pos (show (0 : Int64) ≤ yP_s 1000000000000 (some O) from (zj_le (a := 0) (by decide) (by omega)).mpr (Nat.zero_le _))]
    cases i with
    | none =>
      rw [if_neg (show ¬ (0 : Int64) ≤ yP_s 1000000000000 none by decide)]
      exact yQ_137 (y := none) hM
    | some i =>
      have h3 : min i 1000000000000 ≤ 1000000000000 := Nat.min_le_right _ _
      rw [if_pos (show (0 : Int64) ≤ yP_s 1000000000000 (some i) from (zj_le (a := 0) (by decide) (by omega)).mpr (Nat.zero_le _))]
      have e1 : lN M - 1 = lN (M - 1) := lN_sub (b := 1) (by omega)
      have e2 : zd_minl (1000000000000 : Int64) ((lN M - 1) * yP_s 1000000000000 (some O) + yP_s 1000000000000 (some i)) = yP_s 1000000000000 (some ((M - 1) * O + i)) := by
        rw [e1]
        show zd_minl (1000000000000 : Int64) (lN (M - 1) * lN (min O 1000000000000) + lN (min i 1000000000000)) = lN (min ((M - 1) * O + i) 1000000000000)
        rw [lN_mul, lN_add, yP_minG _ (by omega), yP_sat]
      rw [e2]
      exact yQ_137 hM
theorem yQ_next {i i0 : yI} {lv lv0 t M : Nat} (hu : u < 17) (hb : (g.2.1 103) u = nI s) (hs : s + (j + 1) < 4000) (hk : k ≤ v) (hv : v < 61) (m0 : yM_m s g (s + j) (i0, lv0)) (m : yM_m s g (s + (j + 1)) (i, lv)) (h0 : i0.1 = 12) (hb0 : i0.2.2.1 = nI M) (hM : M ≤ 1000000) (hi : i.1 = 13) (ha : i.2.1 = nI t) (ht : s ≤ t ∧ t ≤ 4000) (a : yQ_at g (j + 2) R) (a2 : yQ_at g (t - s) R2) : f_Mo_greatest g (nI u) (nI (j + 1)) (nI k) (nI v) = some (yP_s 1000000000000 (if M = 0 then yP_p (some 1) (R2 k) else yP_g M (yP_p (some 1) (R (v + 1))) (yP_p (some 1) (R k)) (yP_p (some 1) (R2 k)))) := by
  have m1 : (g.2.1 104) (s + (j + 1)) = 13 := by rw [show (g.2.1 104) (s + (j + 1)) = nI i.1 from m.1, hi]; rfl
  have m2 : (g.2.1 106) (s + (j + 1)) = nI (t - s) := by
    rw [show (g.2.1 106) (s + (j + 1)) = yM_B s i from m.2.2.1]
    unfold yM_B
    rw [if_pos hi, ha, zi_sub ht.1]
  have m3 : (g.2.1 106) (s + j) = nI M := by
    rw [show (g.2.1 106) (s + j) = yM_B s i0 from m0.2.2.1]
    unfold yM_B
    rw [if_neg (by omega), hb0]
  have a1 := a k (by omega)
  have a3 := a (v + 1) (by omega)
  have a4 := a2 k (by omega)
  have n10 : ¬ (13 : Int32) = 10 := by decide
  have n11 : ¬ (13 : Int32) = 11 := by decide
  have one : ∀ x : Option Nat, f_Mo_more 1 (yP_s 1000000000000 x) = yP_s 1000000000000 (yP_p (some 1) x) := fun x => yP_more (w := 1) (by omega) x
  unfold f_Mo_greatest f_Mo_greatestFrom
  simp only [if_pos (zi_in (show u < 2147483648 by omega) hu), nI_clamp (show u < 2147483648 by omega), hb, nI_add, if_pos (zi_in (show s + (j + 1) < 2147483648 by omega) hs), nI_clamp (show s + (j + 1) < 2147483648 by omega), m1, if_neg n10, if_neg n11, if_true, show nI (s + (j + 1)) - 1 = nI (s + j) from zi_sub (a := s + (j + 1)) (b := 1) (by omega), if_pos (zi_in (show s + j < 2147483648 by omega) (show s + j < 4000 by omega)), nI_clamp (show s + j < 2147483648 by omega), m2, m3, zj_32 (show M < 2147483648 by omega), show nI (j + 1) + 1 = nI (j + 2) from zc_ad 1 (j + 1), yQ_ix, if_pos (zi_in (show 62 * (t - s) + k < 2147483648 by omega) (show 62 * (t - s) + k < 248100 by omega)), nI_clamp (show 62 * (t - s) + k < 2147483648 by omega), if_pos (zi_in (show 62 * (j + 2) + k < 2147483648 by omega) (show 62 * (j + 2) + k < 248100 by omega)), nI_clamp (show 62 * (j + 2) + k < 2147483648 by omega), show nI (62 * (j + 2) + v) + 1 = nI (62 * (j + 2) + (v + 1)) from zc_ad 1 (62 * (j + 2) + v), if_pos (zi_in (show 62 * (j + 2) + (v + 1) < 2147483648 by omega) (show 62 * (j + 2) + (v + 1) < 248100 by omega)), nI_clamp (show 62 * (j + 2) + (v + 1) < 2147483648 by omega), a1, a3, a4, one, Option.bind_fun_some]
  by_cases z : M = 0
  · rw [if_pos (by rw [z]; rfl), if_pos z]
  · rw [if_neg (show ¬ lN M = (0 : Int64) from mt (zj_eq (b := 0) (by omega) (by decide)).mp z), if_neg z]
    exact yQ_gf hM z _ _ _
def yQ_sc (g g' : zs_H) (u sz s n m : Nat) : Prop := ∀ N, f_Mo_sumOf_L8 (N + m) g (nI u) (nI sz) (nI (n + m - s) - 1) = f_Mo_sumOf_L8 N g' (nI u) (nI sz) (nI (n - s) - 1)
theorem yQ_sct {g g1 g2 : zs_H} {m1 m2 m : Nat} (a : yQ_sc g g1 u sz s (n + m1) m2) (b : yQ_sc g1 g2 u sz s n m1) (e : m = m1 + m2) : yQ_sc g g2 u sz s n m := by
  intro N
  rw [e, show N + (m1 + m2) = (N + m1) + m2 by omega, show n + (m1 + m2) - s = n + m1 + m2 - s by omega, a (N + m1), b N]
/-- one instruction of a unit -/
theorem yQ_do {i : yI} (hsn : s ≤ n) (hn : n < s + sz) (hsz : s + sz ≤ 4000) (hu : u < 16) (hv : v < 62) (hb : (g.2.1 103) u = nI s) (m : yM_m s g n (i, v)) (hR : ∀ k, v < k → R k = none) (H : ∀ k g', k ≤ v → yQ_fr (n - s) (n - s + 1) g g' → f_Mo_greatest g' (nI u) (nI (n - s)) (nI k) (nI v) = some (yP_s 1000000000000 (R k))) : ∃ g', yQ_sc g g' u sz s n 1 ∧ yQ_at g' (n - s) R ∧ yQ_fr (n - s) (n + 1 - s) g g' := by
  obtain ⟨g', e1, e2, e3⟩ := yQ_step (g := g) (s := s) (u := u) (j := n - s) (n := sz) (v := v) (R := R) (by omega) (by omega) hv (by omega) hR (.inr ⟨by omega, hb, hsz, by rw [show s + (n - s) = n by omega]; exact m.2.2.2.2⟩) (fun k g' h1 h2 => by rw [if_neg (by omega)]; exact H k g' h1 h2)
  refine ⟨g', fun N => ?_, e2, by rw [show n + 1 - s = n - s + 1 by omega]; exact e3⟩
  rw [show n + 1 - s = n - s + 1 by omega]
  exact e1 N
theorem yP_Rn {Q : Nat → Option Nat} {c : yP3} (h : v < k) : yP_R v Q c k = none := by unfold yP_R; rw [if_pos h]
end YQN
end
section
/-! The prover: the model's sums of all statements. -/
section YQO
variable {g g' : zs_H} {B X Y : Nat → Nat} {kb : Nat → yK} {Q R : Nat → Option Nat} {n j s u v sz lo hi k b : Nat} {c d : yP3}
def yQ_c (B : Nat → Nat) (b u s sz : Nat) (g : zs_H) : Prop := ((g.2.1 103) u = nI s ∧ (g.2.1 103) (u + 1) = nI (s + sz)) ∧ yQ_B B b g
theorem yQ_cf (f : yQ_fr lo hi g g') (c : yQ_c B b u s sz g) : yQ_c B b u s sz g' := ⟨by rw [f.2.1]; exact c.1, yQ_Bf c.2 f⟩
theorem yQ_mf {i : yJ} (f : yQ_fr lo hi g g') (m : yM_m s g n i) : yM_m s g' n i := by
  unfold yM_m at m ⊢
  rw [f.2.1]
  exact m
theorem yP_mn (x : Option Nat) : yP_m x none = x := by cases x <;> rfl
theorem yQ_dOne {i : yI} (hbb : b ≤ 16) (hsn : s ≤ n) (hn : n < s + sz) (hsz : s + sz ≤ 4000) (hu : u < 16) (hv : v < 62) (C : yQ_c B b u s sz g) (m : yM_m s g n (i, v)) (o : yP_o b i) (a : yQ_at g (n + 1 - s) (yP_R v Q c)) : ∃ g', yQ_sc g g' u sz s n 1 ∧ yQ_at g' (n - s) (yP_R v Q (yP_a (yP_w B i) c)) ∧ yQ_fr (n - s) (n + 1 - s) g g' := by
  refine yQ_do hsn hn hsz hu hv C.1.1 m (fun k hk => yP_Rn hk) (fun k g' hk f => ?_)
  have C' := yQ_cf f C
  rw [← yP_Ra]
  exact yQ_one hbb (by omega) C'.1.1 (by omega) (by omega) C'.2 (by rw [show s + (n - s) = n by omega]; exact yQ_mf f m) o (by rw [show n - s + 1 = n + 1 - s by omega]; exact yQ_atf f (.inr (by omega)) a)
theorem yQ_dGo {i : yI} {t : Nat} (hsn : s ≤ n) (hn : n < s + sz) (hsz : s + sz ≤ 4000) (hu : u < 16) (hv : v < 62) (C : yQ_c B b u s sz g) (m : yM_m s g n (i, v)) (hi : i.1 = 10) (ha : i.2.1 = nI t) (ht : n < t ∧ t ≤ 4000) (hR : ∀ k, v < k → yP_p (some 1) (R k) = none) (a : yQ_at g (t - s) R) : ∃ g', yQ_sc g g' u sz s n 1 ∧ yQ_at g' (n - s) (fun k => yP_p (some 1) (R k)) ∧ yQ_fr (n - s) (n + 1 - s) g g' := by
  refine yQ_do hsn hn hsz hu hv C.1.1 m (fun k hk => hR k hk) (fun k g' hk f => ?_)
  have C' := yQ_cf f C
  exact yQ_go (by omega) C'.1.1 (by omega) (by omega) (by rw [show s + (n - s) = n by omega]; exact yQ_mf f m) hi ha (by omega) (yQ_atf f (.inr (by omega)) a)
theorem yQ_dLeave {i : yI} (hsn : s ≤ n) (hn : n < s + sz) (hsz : s + sz ≤ 4000) (hu : u < 16) (hv : v < 62) (C : yQ_c B b u s sz g) (m : yM_m s g n (i, v)) (hi : i.1 = 18) (a : yQ_at g sz (fun k => if k = 0 then some 0 else none)) : ∃ g', yQ_sc g g' u sz s n 1 ∧ yQ_at g' (n - s) (yP_R v Q (none, none, some 1)) ∧ yQ_fr (n - s) (n + 1 - s) g g' := by
  refine yQ_do hsn hn hsz hu hv C.1.1 m (fun k hk => yP_Rn hk) (fun k g' hk f => ?_)
  have C' := yQ_cf f C
  rw [yQ_leave (R := fun k => if k = 0 then some 0 else none) hu C'.1.1 C'.1.2 hsz (by omega) (by omega) (by rw [show s + (n - s) = n by omega]; exact yQ_mf f m) hi (yQ_atf f (.inr (by omega)) a)]
  have e : yP_p (some 1) (if k = 0 then some 0 else none) = yP_R v Q (none, none, some 1) k := by
    unfold yP_R
    rw [if_neg (show ¬ v < k by omega)]
    by_cases z : k = 0
    · rw [if_pos z]
      by_cases y : k = v
      · rw [if_pos y, if_pos (by omega)]; rfl
      · rw [if_neg y, if_pos z]; rfl
    · rw [if_neg z]
      by_cases y : k = v
      · rw [if_pos y, if_neg (by omega)]; rfl
      · rw [if_neg y, if_neg z]; rfl
  rw [← e]
theorem yQ_dBack {i : yI} (hsn : s ≤ n) (hn : n < s + sz) (hsz : s + sz ≤ 4000) (hu : u < 16) (hv : v + 1 < 62) (C : yQ_c B b u s sz g) (m : yM_m s g n (i, v + 1)) (hi : i.1 = 14) : ∃ g', yQ_sc g g' u sz s n 1 ∧ yQ_at g' (n - s) (yP_R (v + 1) Q (some 1, none, none)) ∧ yQ_fr (n - s) (n + 1 - s) g g' := by
  refine yQ_do hsn hn hsz hu hv C.1.1 m (fun k hk => yP_Rn hk) (fun k g' hk f => ?_)
  have C' := yQ_cf f C
  rw [yQ_back (by omega) C'.1.1 (by omega) (by omega) (by omega) (by rw [show s + (n - s) = n by omega]; exact yQ_mf f m) hi]
  have e : (if k = v + 1 then some 1 else none) = yP_R (v + 1) Q (some 1, none, none) k := by
    unfold yP_R
    rw [if_neg (show ¬ v + 1 < k by omega)]
    by_cases y : k = v + 1
    · rw [if_pos y, if_pos y, if_neg (by omega)]
    · rw [if_neg y, if_neg y]
      by_cases z : k = 0
      · rw [if_pos z]; rfl
      · rw [if_neg z]; rfl
  rw [← e]
theorem yQ_dUnl {i : yI} {t : Nat} (hsn : s ≤ n) (hn : n < s + sz) (hsz : s + sz ≤ 4000) (hu : u < 16) (hv : v < 62) (C : yQ_c B b u s sz g) (m : yM_m s g n (i, v)) (hi : i.1 = 11) (ha : i.2.1 = nI t) (ht : n < t ∧ t ≤ 4000) (a : yQ_at g (n + 1 - s) (yP_R v Q c)) (a2 : yQ_at g (t - s) (yP_R v Q d)) : ∃ g', yQ_sc g g' u sz s n 1 ∧ yQ_at g' (n - s) (yP_R v Q (yP_a 1 (yP_x c d))) ∧ yQ_fr (n - s) (n + 1 - s) g g' := by
  refine yQ_do hsn hn hsz hu hv C.1.1 m (fun k hk => yP_Rn hk) (fun k g' hk f => ?_)
  have C' := yQ_cf f C
  rw [← yP_Ra, ← yP_Rx]
  exact yQ_unl (by omega) C'.1.1 (by omega) (by omega) (by rw [show s + (n - s) = n by omega]; exact yQ_mf f m) hi ha (by omega) (by rw [show n - s + 1 = n + 1 - s by omega]; exact yQ_atf f (.inr (by omega)) a) (yQ_atf f (.inr (by omega)) a2)
theorem yQ_dNext {i i0 : yI} {t M : Nat} (hsn : s ≤ n) (hn : n + 1 < s + sz) (hsz : s + sz ≤ 4000) (hu : u < 16) (hv : v < 61) (C : yQ_c B b u s sz g) (m0 : yM_m s g n (i0, v)) (m : yM_m s g (n + 1) (i, v)) (h0 : i0.1 = 12) (hb0 : i0.2.2.1 = nI M) (hM : M ≤ 1000000) (hi : i.1 = 13) (ha : i.2.1 = nI t) (ht : n + 1 < t ∧ t ≤ 4000) (a : yQ_at g (n + 2 - s) (yP_R (v + 1) (yP_R v Q d) c)) (a2 : yQ_at g (t - s) (yP_R v Q d)) : ∃ g', yQ_sc g g' u sz s (n + 1) 1 ∧ yQ_at g' (n + 1 - s) (yP_R v Q (yP_N M c d)) ∧ yQ_fr (n + 1 - s) (n + 2 - s) g g' := by
  refine yQ_do (n := n + 1) (by omega) hn hsz hu (by omega) C.1.1 m (fun k hk => yP_Rn hk) (fun k g' hk f => ?_)
  have C' := yQ_cf f C
  have h := yQ_next (g := g') (s := s) (u := u) (v := v) (k := k) (j := n - s) (M := M) (t := t) (R := yP_R (v + 1) (yP_R v Q d) c) (R2 := yP_R v Q d) (i0 := i0) (i := i) (lv0 := v) (lv := v) (by omega) C'.1.1 (by omega) hk hv (by rw [show s + (n - s) = n by omega]; exact yQ_mf f m0) (by rw [show s + (n - s + 1) = n + 1 by omega]; exact yQ_mf f m) h0 hb0 hM hi ha (by omega) (by rw [show n - s + 2 = n + 2 - s by omega]; exact yQ_atf f (.inr (by omega)) a) (yQ_atf f (.inr (by omega)) a2)
  rw [show n + 1 - s = n - s + 1 by omega, h]
  by_cases z : M = 0
  · rw [if_pos z, show yP_N M c d = yP_a 1 d from if_pos z, yP_Ra]
  · rw [if_neg z, yP_RN z hk]
theorem yQ_str (hbb : b ≤ 16) (hsz : s + sz ≤ 4000) (hu : u < 16) (hv : v < 62) : ∀ (L : List yI) (n : Nat) (g : zs_H), s ≤ n → n + L.length ≤ s + sz → (∀ i, i ∈ L → yP_o b i) → yQ_c B b u s sz g → yQ_K g s n (yv v L) → yQ_at g (n + L.length - s) (yP_R v Q c) → ∃ g', yQ_sc g g' u sz s n L.length ∧ yQ_at g' (n - s) (yP_R v Q (yP_L B L c)) ∧ yQ_fr (n - s) (n + L.length - s) g g' := by
  intro L
  induction L with
  | nil => intro n g _ _ _ _ _ a; exact ⟨g, fun _ => rfl, a, yQ_fr0⟩
  | cons i L ih =>
    intro n g hs hn ho C K a
    have el : n + (i :: L).length = n + 1 + L.length := by rw [List.length_cons]; omega
    rw [el] at hn a
    obtain ⟨g1, e1, e2, e3⟩ := ih (n + 1) g (by omega) hn (fun j hj => ho j (List.mem_cons_of_mem _ hj)) C (yQ_Kr (L1 := [(i, v)]) K) a
    obtain ⟨g2, d1, d2, d3⟩ := yQ_dOne hbb (Q := Q) (c := yP_L B L c) hs (by omega) hsz hu hv (yQ_cf e3 C) (yQ_Kf e3 K 0 (i, v) rfl) (ho i (List.mem_cons_self ..)) e2
    refine ⟨g2, yQ_sct e1 d1 (by rw [List.length_cons]; omega), d2, ?_⟩
    rw [el]
    exact yQ_frt e3 d3 (by omega) (by omega) (by omega) (by omega)
end YQO
end
section
/-! The prover: the model's sums of all statements, by T. -/
section YQP
variable {B X Y : Nat → Nat} {kb : Nat → yK} {b u s sz : Nat}
def yQ_e : Nat → Option Nat := fun k => if k = 0 then some 0 else none
/-- what is behind the loop around -/
def yQ_q (g : zs_H) (s sz v q n : Nat) (Q : Nat → Option Nat) : Prop := 0 < v → (n ≤ q ∧ q ≤ s + sz) ∧ yQ_at g (q - s) Q ∧ ∀ k, v ≤ k → Q k = none
theorem yQ_qf {g g' : zs_H} {v q n n' lo hi : Nat} {Q : Nat → Option Nat} (f : yQ_fr lo hi g g') (a : yQ_q g s sz v q n Q) (h1 : hi ≤ n - s) (h2 : n' ≤ n) : yQ_q g' s sz v q n' Q := by
  intro hv
  obtain ⟨⟨a1, a2⟩, a3, a4⟩ := a hv
  exact ⟨⟨by omega, a2⟩, yQ_atf f (.inr (by omega)) a3, a4⟩
/-- the sums of T -/
def yQ_V (B X Y : Nat → Nat) (kb : Nat → yK) (b u s sz : Nat) (T : ys) : Prop := ∀ (m n v q e lo : Nat) (Q : Nat → Option Nat) (E c : yP3) (g : zs_H), ((m = 0 ∧ yz_st T) ∨ (m = 1 ∧ yz_br T)) → yz_W X Y kb b T lo → s ≤ n → n + yz_l T ≤ s + sz → v + yz_v T ≤ 61 → yQ_c B b u s sz g → yQ_K g s n (yz_c T n v q e) → (v = 0 → yz_x T n = []) → yQ_q g s sz v q (n + yz_l T) Q → (m = 1 → n + yz_l T ≤ e ∧ e ≤ s + sz ∧ yQ_at g (e - s) (yP_R v Q E)) → yQ_at g sz yQ_e → yQ_at g (n + yz_l T - s) (yP_R v Q c) → ∃ g', yQ_sc g g' u sz s n (yz_l T) ∧ yQ_at g' (n - s) (yP_R v Q (yP_T B T E c)) ∧ yQ_fr (n - s) (n + yz_l T - s) g g'
theorem yQ_rest {T r : ys} {m n v q e lo : Nat} {Q : Nat → Option Nat} {E c : yP3} {g : zs_H} (ihr : yQ_V B X Y kb b u s sz r) (hr : (m = 0 ∧ yz_st r) ∨ (m = 1 ∧ yz_br r)) (W2 : yz_W X Y kb b r lo) (hs : s ≤ n) (hn : n + yz_l T ≤ s + sz) (hvr : v + yz_v r ≤ 61) (C : yQ_c B b u s sz g) (hq : yQ_q g s sz v q (n + yz_l T) Q) (hE : m = 1 → n + yz_l T ≤ e ∧ e ≤ s + sz ∧ yQ_at g (e - s) (yP_R v Q E)) (a0 : yQ_at g sz yQ_e) (a : yQ_at g (n + yz_l T - s) (yP_R v Q c)) (hd : Nat) (e1 : yz_l T = hd + yz_l r) (K1 : yQ_K g s (n + hd) (yz_c r (n + hd) v q e)) (x1 : v = 0 → yz_x r (n + hd) = []) : ∃ g1, yQ_sc g g1 u sz s (n + hd) (yz_l r) ∧ yQ_at g1 (n + hd - s) (yP_R v Q (yP_T B r E c)) ∧ yQ_fr (n + hd - s) (n + hd + yz_l r - s) g g1 ∧ yQ_q g1 s sz v q (n + hd) Q ∧ (m = 1 → yQ_at g1 (e - s) (yP_R v Q E)) ∧ yQ_at g1 sz yQ_e := by
  have e2 : n + yz_l T = n + hd + yz_l r := by rw [e1]; omega
  rw [e2] at hn hq hE a
  obtain ⟨g1, r1, r2, r3⟩ := ihr m (n + hd) v q e lo Q E c g hr W2 (by omega) hn hvr C K1 x1 hq hE a0 a
  exact ⟨g1, r1, r2, r3, yQ_qf r3 hq (by omega) (by omega), fun z => yQ_atf r3 (.inr (by have := (hE z).1; omega)) (hE z).2.2, yQ_atf r3 (.inr (by omega)) a0⟩
variable {p : List yI × Int32 × Int32} {o : Unit} {l r : ys}
theorem yQ_V0 (hb : b ≤ 16) (hu : u < 16) (hsz : s + sz ≤ 4000) (ihl : yQ_V B X Y kb b u s sz l) (ihr : yQ_V B X Y kb b u s sz r) : yQ_V B X Y kb b u s sz (.inner 0 p o l r) := by
  intro m n v q e lo Q E c g hm ⟨W1, W2⟩ hs hn hv C K hx hq hE a0 a
  have hr : ((m = 0 ∧ yz_st r) ∨ (m = 1 ∧ yz_br r)) := hm.elim (fun z => .inl ⟨z.1, z.2.2⟩) (fun z => .inr ⟨z.1, z.2.2⟩)
  have hv2 : v + max (if 0 = 2 then yz_v l + 1 else yz_v l) (yz_v r) ≤ 61 := hv
  have hvr : v + yz_v r ≤ 61 := by omega
  have rest := yQ_rest ihr hr W2 hs hn hvr C hq hE a0 a
  have eL : yz_l (.inner 0 p o l r) = p.1.length + yz_l r := rfl
  have K' : yQ_K g s n (yv v p.1 ++ yz_c r (n + p.1.length) v q e) := K
  have Kr := yQ_Kr K'
  rw [yv_len] at Kr
  obtain ⟨g1, r1, r2, r3, _, _, _⟩ := rest p.1.length eL Kr hx
  rw [eL] at hn ⊢
  obtain ⟨g2, d1, d2, d3⟩ := yQ_str hb (B := B) (Q := Q) (c := yP_T B r E c) hsz hu (show v < 62 by omega) p.1 n g1 hs (by omega) (fun i hi => yP_wo hb (W1.2 i hi)) (yQ_cf r3 C) (yQ_Kf r3 (yQ_Kl K')) r2
  exact ⟨g2, yQ_sct r1 d1 rfl, d2, yQ_frt r3 d3 (by omega) (by omega) (by omega) (by omega)⟩
theorem yQ_V1 (hb : b ≤ 16) (hu : u < 16) (hsz : s + sz ≤ 4000) (ihl : yQ_V B X Y kb b u s sz l) (ihr : yQ_V B X Y kb b u s sz r) : yQ_V B X Y kb b u s sz (.inner 1 p o l r) := by
  intro m n v q e lo Q E c g hm ⟨W1, W2⟩ hs hn hv C K hx hq hE a0 a
  have hr : ((m = 0 ∧ yz_st r) ∨ (m = 1 ∧ yz_br r)) := hm.elim (fun z => .inl ⟨z.1, z.2.2⟩) (fun z => .inr ⟨z.1, z.2.2⟩)
  have hv2 : v + max (if 1 = 2 then yz_v l + 1 else yz_v l) (yz_v r) ≤ 61 := hv
  have hvr : v + yz_v r ≤ 61 := by omega
  have rest := yQ_rest ihr hr W2 hs hn hvr C hq hE a0 a
  have eL : yz_l (.inner 1 p o l r) = yz_l l + yz_l r := rfl
  have eT : yP_T B (.inner 1 p o l r) E c = yP_T B l (yP_T B r E c) (yP_T B r E c) := rfl
  have K' : yQ_K g s n (yz_c l n v q (n + yz_l l) ++ yz_c r (n + yz_l l) v q e) := K
  have Kr := yQ_Kr K'
  rw [yz_len] at Kr
  have hx' : v = 0 → yz_x r (n + yz_l l) = [] ∧ yz_x l n = [] := fun z => List.append_eq_nil_iff.mp (hx z)
  obtain ⟨g1, r1, r2, r3, r4, _, r6⟩ := rest (yz_l l) eL Kr (fun z => (hx' z).1)
  rw [eL] at hn ⊢
  have W1' : yz_br l ∧ yz_W X Y kb b l lo := W1
  have hvl : v + yz_v l ≤ 61 := by
    rw [if_neg (by decide)] at hv2; omega
  obtain ⟨g2, d1, d2, d3⟩ := ihl 1 n v q (n + yz_l l) lo Q (yP_T B r E c) (yP_T B r E c) g1 (.inr ⟨rfl, W1'.1⟩) W1'.2 hs (by omega) hvl (yQ_cf r3 C) (yQ_Kf r3 (yQ_Kl K')) (fun z => (hx' z).2) r4 (fun _ => ⟨Nat.le_refl _, by omega, r2⟩) r6 r2
  rw [eT]
  exact ⟨g2, yQ_sct r1 d1 rfl, d2, yQ_frt r3 d3 (by omega) (by omega) (by omega) (by omega)⟩
theorem yQ_V2 (hb : b ≤ 16) (hu : u < 16) (hsz : s + sz ≤ 4000) (ihl : yQ_V B X Y kb b u s sz l) (ihr : yQ_V B X Y kb b u s sz r) : yQ_V B X Y kb b u s sz (.inner 2 p o l r) := by
  intro m n v q e lo Q E c g hm ⟨W1, W2⟩ hs hn hv C K hx hq hE a0 a
  have hr : ((m = 0 ∧ yz_st r) ∨ (m = 1 ∧ yz_br r)) := hm.elim (fun z => .inl ⟨z.1, z.2.2⟩) (fun z => .inr ⟨z.1, z.2.2⟩)
  have hv2 : v + max (if 2 = 2 then yz_v l + 1 else yz_v l) (yz_v r) ≤ 61 := hv
  have hvr : v + yz_v r ≤ 61 := by omega
  have rest := yQ_rest ihr hr W2 hs hn hvr C hq hE a0 a
  have eL : yz_l (.inner 2 p o l r) = (3 + yz_l l) + yz_l r := rfl
  have eT : yP_T B (.inner 2 p o l r) E c = yP_a 1 (yP_N p.2.2.toNatClampNeg (yP_T B l (none, none, none) (some 1, none, none)) (yP_T B r E c)) := rfl
  obtain ⟨cc, M, w1, w2, w3, w4, w5, w6, w7⟩ := (show ∃ c N, p.2.1 = nI c ∧ p.2.2 = nI N ∧ lo ≤ c ∧ c < X b ∧ N ≤ 1000000 ∧ yz_st l ∧ yz_W X Y kb b l (c + 1) from W1)
  have K' : yQ_K g s n ([((12, p.2.1, p.2.2, 0), v)] ++ ([((13, nI (n + (3 + yz_l l)), p.2.1, 0), v)] ++ (yz_c l (n + 2) (v + 1) (n + (3 + yz_l l)) 0 ++ ([((14, nI (n + 1), 0, 0), v + 1)] ++ yz_c r (n + (3 + yz_l l)) v q e)))) := K
  have pieces : ∀ g : zs_H, yQ_K g s n ([((12, p.2.1, p.2.2, 0), v)] ++ ([((13, nI (n + (3 + yz_l l)), p.2.1, 0), v)] ++ (yz_c l (n + 2) (v + 1) (n + (3 + yz_l l)) 0 ++ ([((14, nI (n + 1), 0, 0), v + 1)] ++ yz_c r (n + (3 + yz_l l)) v q e)))) → yM_m s g n ((12, p.2.1, p.2.2, 0), v) ∧ yM_m s g (n + 1) ((13, nI (n + (3 + yz_l l)), p.2.1, 0), v) ∧ yQ_K g s (n + 2) (yz_c l (n + 2) (v + 1) (n + (3 + yz_l l)) 0) ∧ yM_m s g (n + 2 + yz_l l) ((14, nI (n + 1), 0, 0), v + 1) ∧ yQ_K g s (n + 2 + yz_l l + 1) (yz_c r (n + (3 + yz_l l)) v q e) := by
    intro g K
    have Ka := yQ_Kr (L1 := [_]) (yQ_Kr (L1 := [_]) K)
    have Kb := yQ_Kr Ka
    rw [yz_len] at Kb
    exact ⟨K 0 _ rfl, K 1 _ rfl, yQ_Kl Ka, Kb 0 _ rfl, yQ_Kr (L1 := [_]) Kb⟩
  have e3 : n + 2 + yz_l l + 1 = n + (3 + yz_l l) := by omega
  obtain ⟨g1, r1, r2, r3, r4, _, r6⟩ := rest (3 + yz_l l) eL (by have := (pieces g K').2.2.2.2; rw [e3] at this; exact this) hx
  rw [eL] at hn ⊢
  have hv3 : v + (yz_v l + 1) ≤ 61 := by
    rw [if_pos rfl] at hv2; omega
  have K1 := yQ_Kf r3 K'
  obtain ⟨g2, b1, b2, b3⟩ := yQ_dBack (Q := yP_R v Q (yP_T B r E c)) (show s ≤ n + 2 + yz_l l by omega) (by omega) hsz hu (by omega) (yQ_cf r3 C) (pieces g1 K1).2.2.2.1 rfl
  have K2 := yQ_Kf b3 K1
  have q2 : yQ_at g2 (n + (3 + yz_l l) - s) (yP_R v Q (yP_T B r E c)) := yQ_atf b3 (.inr (by omega)) r2
  obtain ⟨g3, d1, d2, d3⟩ := ihl 0 (n + 2) (v + 1) (n + (3 + yz_l l)) 0 (cc + 1) (yP_R v Q (yP_T B r E c)) (none, none, none) (some 1, none, none) g2 (.inl ⟨rfl, w6⟩) w7 (by omega) (by omega) (by omega) (yQ_cf b3 (yQ_cf r3 C)) (pieces g2 K2).2.2.1 (fun z => absurd z (Nat.succ_ne_zero v)) (fun _ => ⟨⟨by omega, by omega⟩, q2, fun k hk => yP_Rn (by omega)⟩) (fun z => absurd z (by decide)) (yQ_atf b3 (.inr (by omega)) r6) b2
  have K3 := yQ_Kf d3 K2
  obtain ⟨g4, f1, f2, f3⟩ := yQ_dNext (Q := Q) (M := M) (t := n + (3 + yz_l l)) (d := yP_T B r E c) hs (show n + 1 < s + sz by omega) hsz hu (show v < 61 by omega) (yQ_cf d3 (yQ_cf b3 (yQ_cf r3 C))) (pieces g3 K3).1 (pieces g3 K3).2.1 rfl w2 w5 rfl rfl (by omega) d2 (yQ_atf d3 (.inr (by omega)) q2)
  have K4 := yQ_Kf f3 K3
  obtain ⟨g5, h1, h2, h3⟩ := yQ_dOne hb (Q := Q) hs (by omega) hsz hu (show v < 62 by omega) (yQ_cf f3 (yQ_cf d3 (yQ_cf b3 (yQ_cf r3 C)))) (pieces g4 K4).1 ⟨.inr (.inl rfl), fun z => absurd z (show ¬ ((12 : Nat) = 15 ∨ (12 : Nat) = 16) by decide)⟩ f2
  have s1 : yQ_sc g g2 u sz s (n + 2 + yz_l l) (1 + yz_l r) := yQ_sct (by rw [e3]; exact r1) b1 rfl
  have s2 : yQ_sc g g3 u sz s (n + 2) (yz_l l + (1 + yz_l r)) := yQ_sct s1 d1 rfl
  have s3 : yQ_sc g g4 u sz s (n + 1) (1 + (yz_l l + (1 + yz_l r))) := yQ_sct (m1 := 1) (m2 := yz_l l + (1 + yz_l r)) s2 f1 rfl
  have F1 : yQ_fr (n - s) (n + (3 + yz_l l + yz_l r) - s) g g2 := yQ_frt r3 b3 (by omega) (by omega) (by omega) (by omega)
  have F2 : yQ_fr (n - s) (n + (3 + yz_l l + yz_l r) - s) g g3 := yQ_frt F1 d3 (by omega) (by omega) (by omega) (by omega)
  have F3 : yQ_fr (n - s) (n + (3 + yz_l l + yz_l r) - s) g g4 := yQ_frt F2 f3 (by omega) (by omega) (by omega) (by omega)
  rw [eT, w2, nI_clamp (by omega)]
  exact ⟨g5, yQ_sct s3 h1 (by omega), h2, yQ_frt F3 h3 (by omega) (by omega) (by omega) (by omega)⟩
theorem yQ_V3 (hb : b ≤ 16) (hu : u < 16) (hsz : s + sz ≤ 4000) (ihl : yQ_V B X Y kb b u s sz l) (ihr : yQ_V B X Y kb b u s sz r) : yQ_V B X Y kb b u s sz (.inner 3 p o l r) := by
  intro m n v q e lo Q E c g hm ⟨W1, W2⟩ hs hn hv C K hx hq hE a0 a
  have hr : ((m = 0 ∧ yz_st r) ∨ (m = 1 ∧ yz_br r)) := hm.elim (fun z => .inl ⟨z.1, z.2.2⟩) (fun z => .inr ⟨z.1, z.2.2⟩)
  have hv2 : v + max (if 3 = 2 then yz_v l + 1 else yz_v l) (yz_v r) ≤ 61 := hv
  have hvr : v + yz_v r ≤ 61 := by omega
  have rest := yQ_rest ihr hr W2 hs hn hvr C hq hE a0 a
  have eL : yz_l (.inner 3 p o l r) = 1 + yz_l r := rfl
  have K' : yQ_K g s n ([((10, nI q, 0, 0), v)] ++ yz_c r (n + 1) v q e) := K
  have hx' : v = 0 → yz_x r (n + 1) ++ [n] = [] := hx
  have hv0 : 0 < v := by
    rcases Nat.eq_zero_or_pos v with z | z
    · exact absurd (List.append_eq_nil_iff.mp (hx' z)).2 (by intro y; cases y)
    · exact z
  obtain ⟨g1, r1, r2, r3, r4, _, _⟩ := rest 1 eL (yQ_Kr (L1 := [_]) K') (fun z => by omega)
  rw [eL] at hn ⊢
  obtain ⟨⟨q1, q2⟩, q3, q4⟩ := r4 hv0
  obtain ⟨g2, d1, d2, d3⟩ := yQ_dGo (R := Q) (t := q) hs (by omega) hsz hu (show v < 62 by omega) (yQ_cf r3 C) (yQ_Kf r3 K' 0 _ rfl) rfl rfl (by omega) (fun k hk => by rw [q4 k (by omega)]; rfl) q3
  refine ⟨g2, yQ_sct r1 d1 rfl, fun k hk => ?_, yQ_frt r3 d3 (by omega) (by omega) (by omega) (by omega)⟩
  rw [d2 k hk]
  have ee : yP_p (some 1) (Q k) = yP_R v Q (none, some 1, none) k := by
    unfold yP_R
    by_cases z1 : v < k
    · rw [if_pos z1, q4 k (by omega)]; rfl
    rw [if_neg z1]
    by_cases z2 : k = v
    · rw [if_pos z2, if_neg (by omega), q4 k (by omega)]; rfl
    rw [if_neg z2]
    by_cases z3 : k = 0
    · rw [if_pos z3, yP_mn, z3]
    · rw [if_neg z3]
  exact congrArg (yP_s 1000000000000) ee
theorem yQ_V4 (hb : b ≤ 16) (hu : u < 16) (hsz : s + sz ≤ 4000) (ihl : yQ_V B X Y kb b u s sz l) (ihr : yQ_V B X Y kb b u s sz r) : yQ_V B X Y kb b u s sz (.inner 4 p o l r) := by
  intro m n v q e lo Q E c g hm ⟨W1, W2⟩ hs hn hv C K hx hq hE a0 a
  have hr : ((m = 0 ∧ yz_st r) ∨ (m = 1 ∧ yz_br r)) := hm.elim (fun z => .inl ⟨z.1, z.2.2⟩) (fun z => .inr ⟨z.1, z.2.2⟩)
  have hv2 : v + max (if 4 = 2 then yz_v l + 1 else yz_v l) (yz_v r) ≤ 61 := hv
  have hvr : v + yz_v r ≤ 61 := by omega
  have rest := yQ_rest ihr hr W2 hs hn hvr C hq hE a0 a
  have eL : yz_l (.inner 4 p o l r) = 1 + yz_l r := rfl
  have K' : yQ_K g s n ([((18, 0, 0, 0), v)] ++ yz_c r (n + 1) v q e) := K
  obtain ⟨g1, r1, r2, r3, r4, _, r6⟩ := rest 1 eL (yQ_Kr (L1 := [_]) K') hx
  rw [eL] at hn ⊢
  obtain ⟨g2, d1, d2, d3⟩ := yQ_dLeave (Q := Q) hs (by omega) hsz hu (show v < 62 by omega) (yQ_cf r3 C) (yQ_Kf r3 K' 0 _ rfl) rfl r6
  exact ⟨g2, yQ_sct r1 d1 rfl, d2, yQ_frt r3 d3 (by omega) (by omega) (by omega) (by omega)⟩
theorem yQ_V5 (hb : b ≤ 16) (hu : u < 16) (hsz : s + sz ≤ 4000) (ihl : yQ_V B X Y kb b u s sz l) (ihr : yQ_V B X Y kb b u s sz r) : yQ_V B X Y kb b u s sz (.inner 5 p o l r) := by
  intro m n v q e lo Q E c g hm ⟨W1, W2⟩ hs hn hv C K hx hq hE a0 a
  have hr : ((m = 0 ∧ yz_st r) ∨ (m = 1 ∧ yz_br r)) := hm.elim (fun z => .inl ⟨z.1, z.2.2⟩) (fun z => .inr ⟨z.1, z.2.2⟩)
  have hv2 : v + max (if 5 = 2 then yz_v l + 1 else yz_v l) (yz_v r) ≤ 61 := hv
  have hvr : v + yz_v r ≤ 61 := by omega
  have rest := yQ_rest ihr hr W2 hs hn hvr C hq hE a0 a
  have m1 : m = 1 := by
    rcases hm with ⟨_, z, _⟩ | ⟨z1, _⟩
    · exact absurd z (by decide)
    · exact z1
  subst m1
  have hvl : v + yz_v l ≤ 61 := by
    rw [if_neg (by decide)] at hv2; omega
  obtain ⟨w, hw⟩ : ∃ w : Nat, w = if yz_f r = true then 0 else 1 := ⟨_, rfl⟩
  have eL : yz_l (.inner 5 p o l r) = (p.1.length + 1 + yz_l l + w) + yz_l r := by rw [hw]; rfl
  have eT : yP_T B (.inner 5 p o l r) E c = yP_L B p.1 (yP_a 1 (yP_x (yP_T B l (none, none, none) (if yz_f r = true then yP_T B r E c else yP_a 1 E)) (yP_T B r E c))) := rfl
  have W1' : yo_h 0 p.1 = some 1 ∧ (∀ i, i ∈ p.1 → yo_i X (fun u => (kb u).1 = 1) b i) ∧ yz_st l ∧ yz_W X Y kb b l lo := W1
  have K' : yQ_K g s n (yv v p.1 ++ ([((11, nI (n + (p.1.length + 1 + yz_l l + w)), 0, 0), v)] ++ (yz_c l (n + p.1.length + 1) v q 0 ++ ((if yz_f r = true then [] else [((10, nI e, 0, 0), v)]) ++ yz_c r (n + (p.1.length + 1 + yz_l l + w)) v q e)))) := by
    rw [hw]; exact K
  have lg : (if yz_f r = true then [] else [(((10, nI e, 0, 0), v) : yJ)]).length = w := by
    rw [hw]; split <;> rfl
  have pieces : ∀ g : zs_H, yQ_K g s n (yv v p.1 ++ ([((11, nI (n + (p.1.length + 1 + yz_l l + w)), 0, 0), v)] ++ (yz_c l (n + p.1.length + 1) v q 0 ++ ((if yz_f r = true then [] else [((10, nI e, 0, 0), v)]) ++ yz_c r (n + (p.1.length + 1 + yz_l l + w)) v q e)))) → yQ_K g s n (yv v p.1) ∧ yM_m s g (n + p.1.length) ((11, nI (n + (p.1.length + 1 + yz_l l + w)), 0, 0), v) ∧ yQ_K g s (n + p.1.length + 1) (yz_c l (n + p.1.length + 1) v q 0) ∧ (¬ yz_f r = true → yM_m s g (n + p.1.length + 1 + yz_l l) ((10, nI e, 0, 0), v)) ∧ yQ_K g s (n + p.1.length + 1 + yz_l l + w) (yz_c r (n + (p.1.length + 1 + yz_l l + w)) v q e) := by
    intro g K
    have Ka := yQ_Kr K
    rw [yv_len] at Ka
    have Kb := yQ_Kr (L1 := [_]) Ka
    have Kc := yQ_Kr Kb
    rw [yz_len] at Kc
    have Kd := yQ_Kr Kc
    rw [lg] at Kd
    refine ⟨yQ_Kl K, Ka 0 _ rfl, yQ_Kl Kb, fun z => ?_, Kd⟩
    rw [if_neg z] at Kc
    exact Kc 0 _ rfl
  have e3 : n + p.1.length + 1 + yz_l l + w = n + (p.1.length + 1 + yz_l l + w) := by omega
  have hx' : v = 0 → yz_x r (n + (p.1.length + 1 + yz_l l + w)) = [] ∧ yz_x l (n + p.1.length + 1) = [] := fun z => by
    have := hx z
    rw [hw]
    exact List.append_eq_nil_iff.mp this
  obtain ⟨g1, r1, r2, r3, r4, r5, r6⟩ := rest (p.1.length + 1 + yz_l l + w) eL (by have := (pieces g K').2.2.2.2; rw [e3] at this; exact this) (fun z => (hx' z).1)
  have hE' := hE rfl
  rw [eL] at hn hE' ⊢
  have K1 := yQ_Kf r3 K'
  have go : ∃ g2, yQ_sc g g2 u sz s (n + p.1.length + 1 + yz_l l) (w + yz_l r) ∧ yQ_at g2 (n + p.1.length + 1 + yz_l l - s) (yP_R v Q (if yz_f r = true then yP_T B r E c else yP_a 1 E)) ∧ yQ_fr (n + p.1.length + 1 + yz_l l - s) (n + p.1.length + 1 + yz_l l + w - s) g1 g2 := by
    by_cases z : yz_f r = true
    · rw [if_pos z]
      have g0 : w = 0 := by rw [hw, if_pos z]
      subst g0
      refine ⟨g1, ?_, ?_, yQ_fr0⟩
      · rw [Nat.zero_add]
        rw [show n + (p.1.length + 1 + yz_l l + 0) = n + p.1.length + 1 + yz_l l by omega] at r1
        exact r1
      · rw [show n + p.1.length + 1 + yz_l l = n + (p.1.length + 1 + yz_l l + 0) by omega]; exact r2
    · rw [if_neg z]
      have g0 : w = 1 := by rw [hw, if_neg z]
      subst g0
      obtain ⟨g2, d1, d2, d3⟩ := yQ_dGo (R := yP_R v Q E) (t := e) (show s ≤ n + p.1.length + 1 + yz_l l by omega) (by omega) hsz hu (show v < 62 by omega) (yQ_cf r3 C) ((pieces g1 K1).2.2.2.1 z) rfl rfl (by omega) (fun k hk => by rw [yP_Rn hk]; rfl) (r5 rfl)
      refine ⟨g2, yQ_sct (by rw [e3]; exact r1) d1 rfl, fun k hk => ?_, d3⟩
      rw [d2 k hk]; exact congrArg (yP_s 1000000000000) yP_Ra
  obtain ⟨g2, s1, a2, f2⟩ := go
  have K2 := yQ_Kf f2 K1
  obtain ⟨g3, d1, d2, d3⟩ := ihl 0 (n + p.1.length + 1) v q 0 lo Q (none, none, none) _ g2 (.inl ⟨rfl, W1'.2.2.1⟩) W1'.2.2.2 (by omega) (by omega) hvl (yQ_cf f2 (yQ_cf r3 C)) (pieces g2 K2).2.2.1 (fun z => (hx' z).2) (yQ_qf f2 r4 (by omega) (by omega)) (fun z => absurd z (by decide)) (yQ_atf f2 (.inr (by omega)) r6) a2
  have K3 := yQ_Kf d3 K2
  have a3 : yQ_at g3 (n + (p.1.length + 1 + yz_l l + w) - s) (yP_R v Q (yP_T B r E c)) := yQ_atf d3 (.inr (by omega)) (yQ_atf f2 (.inr (by omega)) r2)
  obtain ⟨g4, f1, f3, f4⟩ := yQ_dUnl (Q := Q) (t := n + (p.1.length + 1 + yz_l l + w)) (show s ≤ n + p.1.length by omega) (by omega) hsz hu (show v < 62 by omega) (yQ_cf d3 (yQ_cf f2 (yQ_cf r3 C))) (pieces g3 K3).2.1 rfl rfl (by omega) d2 a3
  have K4 := yQ_Kf f4 K3
  obtain ⟨g5, h1, h2, h3⟩ := yQ_str hb (B := B) (Q := Q) hsz hu (show v < 62 by omega) p.1 n g4 hs (by omega) (fun i hi => yP_io hb (W1'.2.1 i hi)) (yQ_cf f4 (yQ_cf d3 (yQ_cf f2 (yQ_cf r3 C)))) (pieces g4 K4).1 f3
  have s2 : yQ_sc g g3 u sz s (n + p.1.length + 1) (yz_l l + (w + yz_l r)) := yQ_sct s1 d1 rfl
  have s3 : yQ_sc g g4 u sz s (n + p.1.length) (1 + (yz_l l + (w + yz_l r))) := yQ_sct (m1 := 1) (m2 := yz_l l + (w + yz_l r)) s2 f1 rfl
  have F1 : yQ_fr (n - s) (n + (p.1.length + 1 + yz_l l + w + yz_l r) - s) g g2 := yQ_frt r3 f2 (by omega) (by omega) (by omega) (by omega)
  have F2 : yQ_fr (n - s) (n + (p.1.length + 1 + yz_l l + w + yz_l r) - s) g g3 := yQ_frt F1 d3 (by omega) (by omega) (by omega) (by omega)
  have F3 : yQ_fr (n - s) (n + (p.1.length + 1 + yz_l l + w + yz_l r) - s) g g4 := yQ_frt F2 f4 (by omega) (by omega) (by omega) (by omega)
  rw [eT]
  exact ⟨g5, yQ_sct s3 h1 (by omega), h2, yQ_frt F3 h3 (by omega) (by omega) (by omega) (by omega)⟩
theorem yQ_V6 (hb : b ≤ 16) (hu : u < 16) (hsz : s + sz ≤ 4000) (ihl : yQ_V B X Y kb b u s sz l) (ihr : yQ_V B X Y kb b u s sz r) : yQ_V B X Y kb b u s sz (.inner 6 p o l r) := by
  intro m n v q e lo Q E c g hm ⟨W1, W2⟩ hs hn hv C K hx hq hE a0 a
  have hr : ((m = 0 ∧ yz_st r) ∨ (m = 1 ∧ yz_br r)) := hm.elim (fun z => .inl ⟨z.1, z.2.2⟩) (fun z => .inr ⟨z.1, z.2.2⟩)
  have hv2 : v + max (if 6 = 2 then yz_v l + 1 else yz_v l) (yz_v r) ≤ 61 := hv
  have hvr : v + yz_v r ≤ 61 := by omega
  have rest := yQ_rest ihr hr W2 hs hn hvr C hq hE a0 a
  have m1 : m = 1 := by
    rcases hm with ⟨_, z, _⟩ | ⟨z1, _⟩
    · exact absurd z (by decide)
    · exact z1
  subst m1
  have hvl : v + yz_v l ≤ 61 := by
    rw [if_neg (by decide)] at hv2; omega
  have eL : yz_l (.inner 6 p o l r) = yz_l l + yz_l r := rfl
  have eT : yP_T B (.inner 6 p o l r) E c = yP_T B l (none, none, none) (yP_T B r E c) := rfl
  have W1' : yz_st l ∧ yz_W X Y kb b l lo := W1
  have K' : yQ_K g s n (yz_c l n v q 0 ++ yz_c r (n + yz_l l) v q e) := K
  have Kr := yQ_Kr K'
  rw [yz_len] at Kr
  have hx' : v = 0 → yz_x r (n + yz_l l) = [] ∧ yz_x l n = [] := fun z => List.append_eq_nil_iff.mp (hx z)
  obtain ⟨g1, r1, r2, r3, r4, _, r6⟩ := rest (yz_l l) eL Kr (fun z => (hx' z).1)
  rw [eL] at hn ⊢
  obtain ⟨g2, d1, d2, d3⟩ := ihl 0 n v q 0 lo Q (none, none, none) (yP_T B r E c) g1 (.inl ⟨rfl, W1'.1⟩) W1'.2 hs (by omega) hvl (yQ_cf r3 C) (yQ_Kf r3 (yQ_Kl K')) (fun z => (hx' z).2) r4 (fun z => absurd z (by decide)) r6 r2
  rw [eT]
  exact ⟨g2, yQ_sct r1 d1 rfl, d2, yQ_frt r3 d3 (by omega) (by omega) (by omega) (by omega)⟩
theorem yQ_V7 {k : Nat} (h : ¬ k < 7) : yQ_V B X Y kb b u s sz (.inner k p o l r) := by
  intro m n v q e lo Q E c g hm
  exfalso
  rcases hm with ⟨_, z, _⟩ | ⟨_, z, _⟩
  · omega
  · omega
theorem yQ_TM (hb : b ≤ 16) (hu : u < 16) (hsz : s + sz ≤ 4000) : ∀ T : ys, yQ_V B X Y kb b u s sz T := by
  intro T
  induction T with
  | leaf => intro m n v q e lo Q E c g _ _ _ _ _ _ _ _ _ _ _ a; exact ⟨g, fun _ => rfl, a, yQ_fr0⟩
  | inner k p o l r ihl ihr =>
    by_cases h : k < 7
    · have : k = 0 ∨ k = 1 ∨ k = 2 ∨ k = 3 ∨ k = 4 ∨ k = 5 ∨ k = 6 := by omega
      rcases this with e | e | e | e | e | e | e <;> subst e
      · exact yQ_V0 hb hu hsz ihl ihr
      · exact yQ_V1 hb hu hsz ihl ihr
      · exact yQ_V2 hb hu hsz ihl ihr
      · exact yQ_V3 hb hu hsz ihl ihr
      · exact yQ_V4 hb hu hsz ihl ihr
      · exact yQ_V5 hb hu hsz ihl ihr
      · exact yQ_V6 hb hu hsz ihl ihr
    · exact yQ_V7 h
end YQP
end
section
/-! The prover: how high the stack is: the class. -/
/-- straight code from height d on: is it ever above 64 -/
def yH_d : Nat → List yI → Bool
  | _, [] => false
  | d, i :: L => decide (64 < d - yo_t i.1 + yo_l i.1) || yH_d (d - yo_t i.1 + yo_l i.1) L
/-- is the end of T come to -/
def yH_r : ys → Bool → Bool
  | .leaf, x => x
  | .inner k _ _ l r, x => if k = 1 ∨ k = 6 then yH_r r (yH_r l x) else if k = 3 ∨ k = 4 then yH_r r false else if k = 5 then (yH_r l x || yH_r r x) else yH_r r x
/-- is it ever above 64 -/
def yH_D : ys → Bool → Bool
  | .leaf, _ => false
  | .inner k p _ l r, x => if k = 0 then (x && yH_d 0 p.1) || yH_D r x else if k = 1 ∨ k = 6 then yH_D l x || yH_D r (yH_r l x) else if k = 3 ∨ k = 4 then yH_D r false else if k = 5 then (x && yH_d 0 p.1) || (yH_D l x || yH_D r x) else yH_D l x || yH_D r x
def yH_v (b : Bool) : Int32 := if b = true then 1 else 0
theorem yH_f : ∀ T : ys, yH_r T false = false ∧ yH_D T false = false := by
  intro T
  induction T with
  | leaf => exact ⟨rfl, rfl⟩
  | inner k p o l r ihl ihr =>
    refine ⟨?_, ?_⟩
    · show (if k = 1 ∨ k = 6 then yH_r r (yH_r l false) else if k = 3 ∨ k = 4 then yH_r r false else if k = 5 then (yH_r l false || yH_r r false) else yH_r r false) = false
      rw [ihl.1, ihr.1]
      split
      · rfl
      split
      · rfl
      split <;> rfl
    · show (if k = 0 then (false && yH_d 0 p.1) || yH_D r false else if k = 1 ∨ k = 6 then yH_D l false || yH_D r (yH_r l false) else if k = 3 ∨ k = 4 then yH_D r false else if k = 5 then (false && yH_d 0 p.1) || (yH_D l false || yH_D r false) else yH_D l false || yH_D r false) = false
      rw [ihl.1, ihl.2, ihr.2, Bool.false_and]
      split
      · rfl
      split
      · rfl
      split
      · rfl
      split <;> rfl
theorem yH_ri {o d : Nat} (ho : o < 19) (h : yo_t o ≤ d) : nI d + zt_5.getD o 0 = nI (d - yo_t o + yo_l o) := by
  have key : ∀ o : Fin 19, zt_5.getD o.1 0 = nI (yo_l o.1) - nI (yo_t o.1) := by decide
  rw [key ⟨o, ho⟩, ← nI_add, ← zi_sub h, Int32.sub_eq_add_neg, Int32.sub_eq_add_neg, Int32.add_assoc, Int32.add_comm (-nI (yo_t o))]
theorem yH_mx (a b : Nat) (ha : a < 2147483648) (hb : b < 2147483648) : zd_max (nI a) (nI b) = nI (max a b) := by
  unfold zd_max
  by_cases z : a < b
  · rw [if_pos ((nI_ltI ha hb).mpr z), Nat.max_eq_right (by omega)]
  · rw [if_neg (mt (nI_ltI ha hb).mp z), Nat.max_eq_left (by omega)]
/-- only what has been come to changes -/
def yH_fr (lo hi q : Nat) (h h' : zs_H) : Prop := h'.1 = h.1 ∧ h'.2.2 = h.2.2 ∧ ∀ a j, ¬ a = 53 ∨ ((j < lo ∨ hi < j) ∧ ¬ j = q) → h'.2.1 a j = h.2.1 a j
theorem yH_fr0 {lo hi q : Nat} {h : zs_H} : yH_fr lo hi q h h := ⟨rfl, rfl, fun _ _ _ => rfl⟩
theorem yH_frt {lo hi q lo1 hi1 q1 lo2 hi2 q2 : Nat} {h h1 h2 : zs_H} (a : yH_fr lo1 hi1 q1 h h1) (b : yH_fr lo2 hi2 q2 h1 h2) (l1 : lo ≤ lo1 ∧ hi1 ≤ hi) (l2 : lo ≤ lo2 ∧ hi2 ≤ hi) (l3 : q1 = q ∨ (lo ≤ q1 ∧ q1 ≤ hi)) (l4 : q2 = q ∨ (lo ≤ q2 ∧ q2 ≤ hi)) : yH_fr lo hi q h h2 := by
  refine ⟨b.1.trans a.1, b.2.1.trans a.2.1, fun x j z => ?_⟩
  have z1 : ¬ x = 53 ∨ ((j < lo1 ∨ hi1 < j) ∧ ¬ j = q1) := z.imp id (fun z => ⟨by omega, by omega⟩)
  have z2 : ¬ x = 53 ∨ ((j < lo2 ∨ hi2 < j) ∧ ¬ j = q2) := z.imp id (fun z => ⟨by omega, by omega⟩)
  exact (b.2.2 x j z2).trans (a.2.2 x j z1)
theorem yH_lm {a b c : Nat} : a < max b c ↔ a < b ∨ a < c := by omega
section YHC
variable {h h' : zs_H} {j n d mo bh lo hi q N : Nat} {i : yI}
theorem yH_Kf {L : List yI} (f : yH_fr lo hi q h h') (K : yP_K h n L) : yP_K h' n L := by
  intro k i e
  have z := K k i e
  unfold yC_m at z ⊢
  rw [f.2.2 _ _ (.inl (by decide)), f.2.2 _ _ (.inl (by decide)), f.2.2 _ _ (.inl (by decide)), f.2.2 _ _ (.inl (by decide))]
  exact z
theorem yH_set {t : Nat} (h1 : lo ≤ t ∧ t ≤ hi ∨ t = q) : yH_fr lo hi q h (zs_uM h 53 t 1) := ⟨rfl, rfl, fun a j z => zu_MM.trans (if_neg fun y => by rcases z with z | z; exact z y.1; omega)⟩
/-- an instruction that has not been come to -/
theorem yH_s0 (hj : j < bh) (hb : bh ≤ 4000) (m : yC_m h j i) (ho : i.1 < 19) (ht : yo_t i.1 ≤ d) (r : h.2.1 53 j = 0) : f_Pv_highest_L37 (N + 1) h (nI bh) (nI mo) (nI d) (nI j) = f_Pv_highest_L37 N h (nI bh) (nI mo) (nI (d - yo_t i.1 + yo_l i.1)) (nI (j + 1)) := by
  show f_Pv_highest_37 (f_Pv_highest_L37 N) h (nI bh) (nI mo) (nI d) (nI j) = _
  unfold f_Pv_highest_37 f_Pv_highest_151
  have m1 : (h.2.1 42) j = nI i.1 := m.1
  simp only [if_neg (mt (nI_leI (show bh < 2147483648 by omega) (show j < 2147483648 by omega)).mp (by omega)), if_pos (zi_in (show j < 2147483648 by omega) (show j < 4000 by omega)), if_pos (zi_in (show j < 2147483648 by omega) (show j < 4001 by omega)), nI_clamp (show j < 2147483648 by omega), m1, if_pos (zi_in (show i.1 < 2147483648 by omega) ho), nI_clamp (show i.1 < 2147483648 by omega), r, if_true, yH_ri ho ht, show nI j + 1 = nI (j + 1) from zc_ad 1 j]
/-- one that has -/
theorem yH_s1 {h1 : zs_H} (hj : j < bh) (hb : bh ≤ 4000) (hd : d < 100000 ∧ mo < 100000) (m : yC_m h j i) (ho : i.1 < 19) (ht : yo_t i.1 ≤ d) (r : h.2.1 53 j = 1) (e : h1 = (if i.1 = 10 ∨ i.1 = 14 ∨ i.1 = 18 then (if i.1 = 10 then zs_uM h 53 (i.2.1).toNatClampNeg 1 else h) else zs_uM (if i.1 = 11 ∨ i.1 = 13 then zs_uM h 53 (i.2.1).toNatClampNeg 1 else h) 53 (j + 1) 1)) (ha : i.1 = 10 ∨ i.1 = 11 ∨ i.1 = 13 → zd_in i.2.1 4001) : f_Pv_highest_L37 (N + 1) h (nI bh) (nI mo) (nI d) (nI j) = f_Pv_highest_L37 N h1 (nI bh) (nI (max mo (d - yo_t i.1 + yo_l i.1))) (nI (d - yo_t i.1 + yo_l i.1)) (nI (j + 1)) := by
  have vb1 : vp_nar .boolean 1 = (1 : Int32) := by decide
  have hl : yo_l i.1 ≤ 1 := by
    have key : ∀ o : Fin 19, yo_l o.1 ≤ 1 := by decide
    exact key ⟨i.1, ho⟩
  show f_Pv_highest_37 (f_Pv_highest_L37 N) h (nI bh) (nI mo) (nI d) (nI j) = _
  have m1 : (h.2.1 42) j = nI i.1 := m.1
  have m2 : (h.2.1 43) j = i.2.1 := m.2.1
  have hi : i.1 < 2147483648 := by omega
  unfold f_Pv_highest_37
  simp only [if_neg (mt (nI_leI (show bh < 2147483648 by omega) (show j < 2147483648 by omega)).mp (by omega)), if_pos (zi_in (show j < 2147483648 by omega) (show j < 4000 by omega)), if_pos (zi_in (show j < 2147483648 by omega) (show j < 4001 by omega)), nI_clamp (show j < 2147483648 by omega), m1, if_pos (zi_in (show i.1 < 2147483648 by omega) ho), nI_clamp (show i.1 < 2147483648 by omega), r, show ¬ (1 : Int32) = 0 by decide, if_false, yH_ri ho ht, yH_mx mo (d - yo_t i.1 + yo_l i.1) (by omega) (by omega)]
  have e120 : ∀ (g : zs_H) (x3 x4 : Int32), f_Pv_highest_120 (f_Pv_highest_L37 N) g (nI bh) x3 x4 (nI j) (nI i.1) = f_Pv_highest_L37 N (if i.1 = 10 ∨ i.1 = 14 ∨ i.1 = 18 then g else zs_uM g 53 (j + 1) 1) (nI bh) x3 x4 (nI (j + 1)) := by
    intro g x3 x4
    unfold f_Pv_highest_120 f_Pv_highest_151
    rw [show nI j + 1 = nI (j + 1) from zc_ad 1 j, vb1, if_pos (zi_in (show j + 1 < 2147483648 by omega) (by omega)), nI_clamp (show j + 1 < 2147483648 by omega)]
    by_cases z10 : i.1 = 10
    · rw [if_pos (by rw [z10]; rfl), if_pos (.inl z10)]
    rw [if_neg (mt (zc_eq (k := 10) (by decide) hi).mp z10)]
    by_cases z18 : i.1 = 18
    · rw [if_pos (by rw [z18]; rfl), if_pos (.inr (.inr z18))]
    rw [if_neg (mt (zc_eq (k := 18) (by decide) hi).mp z18)]
    by_cases z14 : i.1 = 14
    · rw [if_pos (by rw [z14]; rfl), if_pos (.inr (.inl z14))]
    rw [if_neg (mt (zc_eq (k := 14) (by decide) hi).mp z14), if_neg (by omega)]
  have e104 : i.1 = 10 ∨ i.1 = 11 ∨ i.1 = 13 → ∀ (x3 x4 : Int32), f_Pv_highest_104 (f_Pv_highest_L37 N) h (nI bh) x3 x4 (nI j) (nI i.1) = f_Pv_highest_120 (f_Pv_highest_L37 N) (zs_uM h 53 (i.2.1).toNatClampNeg 1) (nI bh) x3 x4 (nI j) (nI i.1) := by
    intro z x3 x4
    unfold f_Pv_highest_104
    rw [if_pos (zi_in (by omega) (by omega)), nI_clamp (n := j) (by omega), m2, if_pos (ha z), vb1]
  by_cases z10 : i.1 = 10
  · rw [if_pos (by rw [z10]; rfl), e104 (.inl z10), e120, if_pos (.inl z10), e, if_pos (.inl z10), if_pos z10]
  rw [if_neg (mt (zc_eq (k := 10) (by decide) hi).mp z10)]
  by_cases z11 : i.1 = 11
  · rw [if_pos (by rw [z11]; rfl), e104 (.inr (.inl z11)), e120, if_neg (by omega), e, if_neg (by omega), if_pos (.inl z11)]
  rw [if_neg (mt (zc_eq (k := 11) (by decide) hi).mp z11)]
  by_cases z13 : i.1 = 13
  · rw [if_pos (by rw [z13]; rfl), e104 (.inr (.inr z13)), e120, if_neg (by omega), e, if_neg (by omega), if_pos (.inr z13)]
  rw [if_neg (mt (zc_eq (k := 13) (by decide) hi).mp z13), e120, e, if_neg z10, if_neg (show ¬ (i.1 = 11 ∨ i.1 = 13) by omega)]
/-- straight code -/
theorem yH_str {bb : Nat} (hb : bh ≤ 4000) : ∀ (L : List yI) (n d d2 mo : Nat) (x : Bool) (h : zs_H), n + L.length ≤ bh → d + L.length ≤ 5000 → mo ≤ 6000 → yo_h d L = some d2 → (∀ i, i ∈ L → yP_o bb i) → yP_K h n L → h.2.1 53 n = yH_v x → (∀ j, n < j → j < n + L.length → h.2.1 53 j = 0) → ∃ h' mo', (∀ N, f_Pv_highest_L37 (N + L.length) h (nI bh) (nI mo) (nI d) (nI n) = f_Pv_highest_L37 N h' (nI bh) (nI mo') (nI d2) (nI (n + L.length))) ∧ mo' ≤ 6000 ∧ (64 < mo' ↔ 64 < mo ∨ (x && yH_d d L) = true) ∧ (∀ y, h.2.1 53 (n + L.length) = yH_v y → h'.2.1 53 (n + L.length) = yH_v (y || x)) ∧ yH_fr n (n + L.length) (n + L.length) h h' := by
  intro L
  induction L with
  | nil =>
    intro n d d2 mo x h _ _ hm e _ _ r _
    have e' : d = d2 := Option.some.inj e
    subst e'
    refine ⟨h, mo, fun _ => rfl, hm, ⟨fun z => .inl z, fun z => z.elim id (fun z => by rw [yH_d, Bool.and_false] at z; cases z)⟩, fun y hy => ?_, yH_fr0⟩
    show h.2.1 53 n = _
    rw [r]
    have : yH_v x = yH_v y := r.symm.trans hy
    cases x <;> cases y <;> first | rfl | exact absurd this (by decide)
  | cons i L ih =>
    intro n d d2 mo x h hn hd hm e ho K r r0
    have el : n + (i :: L).length = n + 1 + L.length := by rw [List.length_cons]; omega
    have ll : (i :: L).length = L.length + 1 := rfl
    rw [el] at hn r0 ⊢
    have oi := ho i (List.mem_cons_self ..)
    have o19 : i.1 < 19 := by have := oi.1; omega
    have ht : yo_t i.1 ≤ d := by
      rcases Nat.lt_or_ge d (yo_t i.1) with z | z
      · rw [yo_h, if_neg (by omega)] at e; cases e
      · exact z
    have e' : yo_h (d - yo_t i.1 + yo_l i.1) L = some d2 := by rw [yo_h, if_pos ht] at e; exact e
    have hl : yo_l i.1 ≤ 1 := by
      have key : ∀ o : Fin 19, yo_l o.1 ≤ 1 := by decide
      exact key ⟨i.1, o19⟩
    have m : yC_m h n i := K 0 i rfl
    have Kr : yP_K h (n + 1) L := yP_Kr (L1 := [i]) K
    cases x with
    | false =>
      have r' : h.2.1 53 (n + 1) = yH_v false ∨ L = [] := by
        cases L with
        | nil => exact .inr rfl
        | cons a L => exact .inl (r0 (n + 1) (by omega) (by rw [List.length_cons]; omega))
      rcases r' with r' | r'
      · obtain ⟨h', mo', a1, a2, a3, a4, a5⟩ := ih (n + 1) _ d2 mo false h hn (by omega) hm e' (fun j hj => ho j (List.mem_cons_of_mem _ hj)) Kr r' (fun j h1 h2 => r0 j (by omega) h2)
        refine ⟨h', mo', fun N => ?_, a2, by rw [Bool.false_and] at a3 ⊢; exact a3, a4, yH_frt a5 yH_fr0 (lo2 := n) (hi2 := n) (q2 := n + 1 + L.length) (by omega) (by omega) (by omega) (by omega)⟩
        rw [ll, show N + (L.length + 1) = (N + L.length) + 1 by omega, yH_s0 (by omega) hb m o19 ht r]
        exact a1 N
      · subst r'
        have e2 : d - yo_t i.1 + yo_l i.1 = d2 := Option.some.inj e'
        refine ⟨h, mo, fun N => ?_, hm, by rw [Bool.false_and]; exact ⟨fun z => .inl z, fun z => z.elim id (fun z => by cases z)⟩, fun y hy => by rw [Bool.or_false]; exact hy, yH_fr0⟩
        rw [← e2]
        exact yH_s0 (by omega) hb m o19 ht r
    | true =>
      obtain ⟨h1, e1⟩ : ∃ h1, h1 = zs_uM h 53 (n + 1) 1 := ⟨_, rfl⟩
      have f1 : yH_fr n (n + 1 + L.length) (n + 1 + L.length) h h1 := by rw [e1]; exact yH_set (.inl (by omega))
      have st : ∀ N, f_Pv_highest_L37 (N + 1) h (nI bh) (nI mo) (nI d) (nI n) = f_Pv_highest_L37 N h1 (nI bh) (nI (max mo (d - yo_t i.1 + yo_l i.1))) (nI (d - yo_t i.1 + yo_l i.1)) (nI (n + 1)) := fun N => yH_s1 (by omega) hb (by omega) m o19 ht r (by
        rw [e1, if_neg (by have := oi.1; omega), if_neg (by have := oi.1; omega)]) (fun z => by have := oi.1; omega)
      have r1 : h1.2.1 53 (n + 1) = yH_v true := by rw [e1]; exact zu_MM.trans (if_pos ⟨rfl, rfl⟩)
      obtain ⟨h', mo', a1, a2, a3, a4, a5⟩ := ih (n + 1) _ d2 (max mo (d - yo_t i.1 + yo_l i.1)) true h1 hn (by omega) (by omega) e' (fun j hj => ho j (List.mem_cons_of_mem _ hj)) (yH_Kf f1 Kr) r1 (fun j h1' h2 => by
        rw [e1]
        exact (zu_MM.trans (if_neg fun z => by omega)).trans (r0 j (by omega) h2))
      refine ⟨h', mo', fun N => ?_, a2, ?_, fun y hy => ?_, yH_frt f1 a5 (by omega) (by omega) (by omega) (by omega)⟩
      · rw [ll, show N + (L.length + 1) = (N + L.length) + 1 by omega, st]
        exact a1 N
      · rw [a3, yH_d, Bool.true_and, Bool.true_and, Bool.or_eq_true, decide_eq_true_eq, yH_lm, or_assoc]
      · by_cases z : L.length = 0
        · rw [z, Nat.add_zero] at hy a4 ⊢
          have := a4 true r1
          rw [Bool.or_true]
          exact this
        · refine a4 y ?_
          rw [e1]
          exact (zu_MM.trans (if_neg fun w => by omega)).trans hy
end YHC
end
section
/-! The prover: how high the stack is: the class, by T. -/
theorem yH_z : ∀ (T : ys) (x : Bool), yz_l T = 0 → yH_r T x = x ∧ yH_D T x = false := by
  intro T
  induction T with
  | leaf => intro x _; exact ⟨rfl, rfl⟩
  | inner k p o l r ihl ihr =>
    intro x e
    have e' : (if k = 0 then p.1.length else if k = 1 then yz_l l else if k = 2 then 3 + yz_l l else if k = 3 then 1 else if k = 4 then 1 else if k = 5 then p.1.length + 1 + yz_l l + (if yz_f r = true then 0 else 1) else yz_l l) + yz_l r = 0 := e
    have er : yz_l r = 0 := by omega
    have e1 : (if k = 0 then p.1.length else if k = 1 then yz_l l else if k = 2 then 3 + yz_l l else if k = 3 then 1 else if k = 4 then 1 else if k = 5 then p.1.length + 1 + yz_l l + (if yz_f r = true then 0 else 1) else yz_l l) = 0 := by omega
    clear e e'
    show (if k = 1 ∨ k = 6 then yH_r r (yH_r l x) else if k = 3 ∨ k = 4 then yH_r r false else if k = 5 then (yH_r l x || yH_r r x) else yH_r r x) = x ∧ (if k = 0 then (x && yH_d 0 p.1) || yH_D r x else if k = 1 ∨ k = 6 then yH_D l x || yH_D r (yH_r l x) else if k = 3 ∨ k = 4 then yH_D r false else if k = 5 then (x && yH_d 0 p.1) || (yH_D l x || yH_D r x) else yH_D l x || yH_D r x) = false
    by_cases k0 : k = 0
    · rw [if_pos k0] at e1
      rw [if_neg (by omega), if_neg (by omega), if_neg (by omega), if_pos k0, (ihr x er).1, (ihr x er).2, List.eq_nil_of_length_eq_zero e1]
      exact ⟨rfl, by rw [yH_d, Bool.and_false]; rfl⟩
    rw [if_neg k0] at e1 ⊢
    by_cases k1 : k = 1
    · rw [if_pos k1] at e1
      rw [if_pos (.inl k1), if_pos (.inl k1), (ihl x e1).1, (ihl x e1).2, (ihr x er).1, (ihr x er).2]
      exact ⟨rfl, rfl⟩
    rw [if_neg k1] at e1
    by_cases k2 : k = 2
    · rw [if_pos k2] at e1; omega
    rw [if_neg k2] at e1
    by_cases k3 : k = 3
    · rw [if_pos k3] at e1; omega
    rw [if_neg k3] at e1
    by_cases k4 : k = 4
    · rw [if_pos k4] at e1; omega
    rw [if_neg k4] at e1
    by_cases k5 : k = 5
    · rw [if_pos k5] at e1; omega
    rw [if_neg k5] at e1
    by_cases k6 : k = 6
    · rw [if_pos (.inr k6), if_pos (.inr k6), (ihl x e1).1, (ihl x e1).2, (ihr x er).1, (ihr x er).2]
      exact ⟨rfl, rfl⟩
    · rw [if_neg (by omega), if_neg (by omega), if_neg k5, if_neg (by omega), if_neg (by omega), if_neg k5, (ihr x er).1, (ihr x er).2, (ihl x e1).2]
      exact ⟨rfl, rfl⟩
theorem yH_rx {T : ys} {x : Bool} (h : yH_r T x = true) : x = true := by
  cases x with
  | true => rfl
  | false => rw [(yH_f T).1] at h; exact h
/-- a part of a unit: D: above 64; R: its end is come to -/
def yH_O (bh : Nat) (h : zs_H) (n len v q qf mo : Nat) (x D R : Bool) : Prop := ∃ h' mo', (∀ N, f_Pv_highest_L37 (N + len) h (nI bh) (nI mo) (nI 0) (nI n) = f_Pv_highest_L37 N h' (nI bh) (nI mo') (nI 0) (nI (n + len))) ∧ mo' ≤ 6000 ∧ (64 < mo' ↔ 64 < mo ∨ D = true) ∧ (∀ y, h.2.1 53 (n + len) = yH_v y → h'.2.1 53 (n + len) = yH_v (y || R)) ∧ (0 < v → ∀ y, h.2.1 53 q = yH_v y → ∃ z, (z = true → x = true) ∧ h'.2.1 53 q = yH_v (y || z)) ∧ yH_fr n (n + len) qf h h'
def yH_V (X Y : Nat → Nat) (kb : Nat → yK) (b bh : Nat) (T : ys) : Prop := ∀ (m n v q qf e lo mo : Nat) (x : Bool) (h : zs_H), ((m = 0 ∧ yz_st T) ∨ (m = 1 ∧ yz_br T)) → yz_W X Y kb b T lo → n + yz_l T ≤ bh → yP_K h n ((yz_c T n v q e).map Prod.fst) → (v = 0 → yz_x T n = []) → ((0 < v ∧ qf = q ∧ n + yz_l T < q ∧ q ≤ 4000) ∨ (v = 0 ∧ qf ≤ n)) → (m = 1 → e = n + yz_l T) → mo ≤ 6000 → h.2.1 53 n = yH_v x → (∀ j, n < j → j < n + yz_l T → h.2.1 53 j = 0) → yH_O bh h n (yz_l T) v q qf mo x (yH_D T x) (yH_r T x)
section YHD
variable {X Y : Nat → Nat} {kb : Nat → yK} {b bh : Nat} {h : zs_H} {m n hd v q qf e lo mo : Nat} {x D R : Bool} {p : List yI × Int32 × Int32} {o : Unit} {l r : ys}
theorem yH_seq (ihr : yH_V X Y kb b bh r) (A : yH_O bh h n hd v q qf mo x D R) (hr : (m = 0 ∧ yz_st r) ∨ (m = 1 ∧ yz_br r)) (W : yz_W X Y kb b r lo) (hn : n + (hd + yz_l r) ≤ bh) (K : yP_K h (n + hd) ((yz_c r (n + hd) v q e).map Prod.fst)) (hx : v = 0 → yz_x r (n + hd) = []) (hq : (0 < v ∧ qf = q ∧ n + (hd + yz_l r) < q ∧ q ≤ 4000) ∨ (v = 0 ∧ qf ≤ n)) (he : m = 1 → e = n + (hd + yz_l r)) (rn : h.2.1 53 n = yH_v x) (z0 : ∀ j, n < j → j < n + (hd + yz_l r) → h.2.1 53 j = 0) (hR : R = true → x = true) (h0 : hd = 0 → R = x) : yH_O bh h n (hd + yz_l r) v q qf mo x (D || yH_D r R) (yH_r r R) := by
  obtain ⟨h1, mo1, a1, a2, a3, a4, a5, a6⟩ := A
  by_cases lz : yz_l r = 0
  · obtain ⟨i1, i2⟩ := yH_z r R lz
    rw [lz, Nat.add_zero, i1, i2, Bool.or_false]
    exact ⟨h1, mo1, a1, a2, a3, a4, a5, a6⟩
  · have r1 : h1.2.1 53 (n + hd) = yH_v R := by
      by_cases z : hd = 0
      · subst z
        have := a4 x rn
        rw [h0 rfl, Bool.or_self] at this
        rw [h0 rfl]; exact this
      · have := a4 false (z0 (n + hd) (by omega) (by omega))
        rwa [Bool.false_or] at this
    have z1 : ∀ j, n + hd < j → j < n + hd + yz_l r → h1.2.1 53 j = 0 := fun j j1 j2 => (a6.2.2 53 j (.inr ⟨by omega, by omega⟩)).trans (z0 j (by omega) (by omega))
    obtain ⟨h2, mo2, b1, b2, b3, b4, b5, b6⟩ := ihr m (n + hd) v q qf e lo mo1 R h1 hr W (by omega) (yH_Kf a6 K) hx (by omega) (fun z => by have := he z; omega) a2 r1 z1
    refine ⟨h2, mo2, fun N => ?_, b2, ?_, fun y hy => ?_, fun hv y hy => ?_, yH_frt a6 b6 (by omega) (by omega) (.inl rfl) (.inl rfl)⟩
    · rw [show N + (hd + yz_l r) = (N + yz_l r) + hd by omega, a1, b1, show n + hd + yz_l r = n + (hd + yz_l r) by omega]
    · rw [b3, a3, Bool.or_eq_true, or_assoc]
    · rw [show n + (hd + yz_l r) = n + hd + yz_l r by omega] at hy ⊢
      refine b4 y ?_
      rw [a6.2.2 53 _ (.inr ⟨by omega, by omega⟩)]; exact hy
    · obtain ⟨w1, c1, c2⟩ := a5 hv y hy
      obtain ⟨w2, c3, c4⟩ := b5 hv _ c2
      exact ⟨w1 || w2, fun z => by rw [Bool.or_eq_true] at z; exact z.elim c1 (fun z => hR (c3 z)), by rw [← Bool.or_assoc]; exact c4⟩
/-- one instruction -/
theorem yH_one {i : yI} {d : Nat} (hj : n < bh) (hb : bh ≤ 4000) (hmo : mo ≤ 6000) (hd : d ≤ 5000) (mm : yC_m h n i) (ho : i.1 < 19) (ht : yo_t i.1 ≤ d) (hl : d - yo_t i.1 + yo_l i.1 ≤ 64) (r : h.2.1 53 n = yH_v x) (ha : i.1 = 10 ∨ i.1 = 11 ∨ i.1 = 13 → ∃ t, i.2.1 = nI t ∧ t ≤ 4000) : ∃ h' mo', (∀ N, f_Pv_highest_L37 (N + 1) h (nI bh) (nI mo) (nI d) (nI n) = f_Pv_highest_L37 N h' (nI bh) (nI mo') (nI (d - yo_t i.1 + yo_l i.1)) (nI (n + 1))) ∧ mo' ≤ 6000 ∧ (64 < mo' ↔ 64 < mo) ∧ h' = (if x = true then (if i.1 = 10 ∨ i.1 = 14 ∨ i.1 = 18 then (if i.1 = 10 then zs_uM h 53 (i.2.1).toNatClampNeg 1 else h) else zs_uM (if i.1 = 11 ∨ i.1 = 13 then zs_uM h 53 (i.2.1).toNatClampNeg 1 else h) 53 (n + 1) 1) else h) := by
  cases x with
  | false => exact ⟨h, mo, fun N => yH_s0 hj hb mm ho ht r, hmo, Iff.rfl, rfl⟩
  | true =>
    refine ⟨_, max mo (d - yo_t i.1 + yo_l i.1), fun N => yH_s1 hj hb (by omega) mm ho ht r rfl (fun z => ?_), by omega, by omega, rfl⟩
    obtain ⟨t, t1, t2⟩ := ha z
    rw [t1]
    exact zi_in (by omega) (by omega)
theorem yH_V0 (hb : b ≤ 16) (hbh : bh ≤ 4000) (ihr : yH_V X Y kb b bh r) : yH_V X Y kb b bh (.inner 0 p o l r) := by
  intro m n v q qf e lo mo x h hm ⟨W1, W2⟩ hn K hx hq he hmo rn z0
  have hr : ((m = 0 ∧ yz_st r) ∨ (m = 1 ∧ yz_br r)) := hm.elim (fun z => .inl ⟨z.1, z.2.2⟩) (fun z => .inr ⟨z.1, z.2.2⟩)
  have K' : yP_K h n (p.1 ++ (yz_c r (n + p.1.length) v q e).map Prod.fst) := by
    have : (yz_c (.inner 0 p o l r) n v q e).map Prod.fst = p.1 ++ (yz_c r (n + p.1.length) v q e).map Prod.fst := by
      show (yv v p.1 ++ yz_c r (n + p.1.length) v q e).map Prod.fst = _
      rw [List.map_append, yv_m]
    rw [← this]; exact K
  have hn' : n + (p.1.length + yz_l r) ≤ bh := hn
  have hq' : (0 < v ∧ qf = q ∧ n + (p.1.length + yz_l r) < q ∧ q ≤ 4000) ∨ (v = 0 ∧ qf ≤ n) := hq
  have z0' : ∀ j, n < j → j < n + (p.1.length + yz_l r) → h.2.1 53 j = 0 := z0
  obtain ⟨h1, mo1, a1, a2, a3, a4, a5⟩ := yH_str hbh p.1 n 0 0 mo x h (by omega) (by omega) hmo W1.1 (fun i hi => yP_wo hb (W1.2 i hi)) (yP_Kl K') rn (fun j j1 j2 => z0' j j1 (by omega))
  have A : yH_O bh h n p.1.length v q qf mo x (x && yH_d 0 p.1) x := ⟨h1, mo1, a1, a2, a3, a4, fun hv y hy => ⟨false, fun z => (by cases z), by rw [Bool.or_false, a5.2.2 53 q (.inr ⟨by omega, by omega⟩)]; exact hy⟩, yH_frt a5 (yH_fr0 (lo := n) (hi := n) (q := n)) (by omega) (by omega) (by omega) (by omega)⟩
  exact yH_seq ihr A hr W2 hn' (yP_Kr K') hx hq' he rn z0' id (fun _ => rfl)
theorem yH_V1 (ihl : yH_V X Y kb b bh l) (ihr : yH_V X Y kb b bh r) : yH_V X Y kb b bh (.inner 1 p o l r) := by
  intro m n v q qf e lo mo x h hm ⟨W1, W2⟩ hn K hx hq he hmo rn z0
  have hr : ((m = 0 ∧ yz_st r) ∨ (m = 1 ∧ yz_br r)) := hm.elim (fun z => .inl ⟨z.1, z.2.2⟩) (fun z => .inr ⟨z.1, z.2.2⟩)
  have W1' : yz_br l ∧ yz_W X Y kb b l lo := W1
  have K' : yP_K h n ((yz_c l n v q (n + yz_l l)).map Prod.fst ++ (yz_c r (n + yz_l l) v q e).map Prod.fst) := by
    rw [← List.map_append]; exact K
  have Kr := yP_Kr K'
  rw [List.length_map, yz_len] at Kr
  have hx' : v = 0 → yz_x r (n + yz_l l) = [] ∧ yz_x l n = [] := fun z => List.append_eq_nil_iff.mp (hx z)
  have hn' : n + (yz_l l + yz_l r) ≤ bh := hn
  have hq' : (0 < v ∧ qf = q ∧ n + (yz_l l + yz_l r) < q ∧ q ≤ 4000) ∨ (v = 0 ∧ qf ≤ n) := hq
  have z0' : ∀ j, n < j → j < n + (yz_l l + yz_l r) → h.2.1 53 j = 0 := z0
  have A := ihl 1 n v q qf (n + yz_l l) lo mo x h (.inr ⟨rfl, W1'.1⟩) W1'.2 (by omega) (yP_Kl K') (fun z => (hx' z).2) (by omega) (fun _ => rfl) hmo rn (fun j j1 j2 => z0' j j1 (by omega))
  exact yH_seq ihr A hr W2 hn' Kr (fun z => (hx' z).1) hq' he rn z0' yH_rx (fun z => (yH_z l x z).1)
theorem yH_V6 (ihl : yH_V X Y kb b bh l) (ihr : yH_V X Y kb b bh r) : yH_V X Y kb b bh (.inner 6 p o l r) := by
  intro m n v q qf e lo mo x h hm ⟨W1, W2⟩ hn K hx hq he hmo rn z0
  have hr : ((m = 0 ∧ yz_st r) ∨ (m = 1 ∧ yz_br r)) := hm.elim (fun z => .inl ⟨z.1, z.2.2⟩) (fun z => .inr ⟨z.1, z.2.2⟩)
  have W1' : yz_st l ∧ yz_W X Y kb b l lo := W1
  have K' : yP_K h n ((yz_c l n v q 0).map Prod.fst ++ (yz_c r (n + yz_l l) v q e).map Prod.fst) := by
    rw [← List.map_append]; exact K
  have Kr := yP_Kr K'
  rw [List.length_map, yz_len] at Kr
  have hx' : v = 0 → yz_x r (n + yz_l l) = [] ∧ yz_x l n = [] := fun z => List.append_eq_nil_iff.mp (hx z)
  have hn' : n + (yz_l l + yz_l r) ≤ bh := hn
  have hq' : (0 < v ∧ qf = q ∧ n + (yz_l l + yz_l r) < q ∧ q ≤ 4000) ∨ (v = 0 ∧ qf ≤ n) := hq
  have z0' : ∀ j, n < j → j < n + (yz_l l + yz_l r) → h.2.1 53 j = 0 := z0
  have A := ihl 0 n v q qf 0 lo mo x h (.inl ⟨rfl, W1'.1⟩) W1'.2 (by omega) (yP_Kl K') (fun z => (hx' z).2) (by omega) (fun z => absurd z (by decide)) hmo rn (fun j j1 j2 => z0' j j1 (by omega))
  exact yH_seq ihr A hr W2 hn' Kr (fun z => (hx' z).1) hq' he rn z0' yH_rx (fun z => (yH_z l x z).1)
theorem yH_V3 (hbh : bh ≤ 4000) (ihr : yH_V X Y kb b bh r) : yH_V X Y kb b bh (.inner 3 p o l r) := by
  intro m n v q qf e lo mo x h hm ⟨W1, W2⟩ hn K hx hq he hmo rn z0
  have hr : ((m = 0 ∧ yz_st r) ∨ (m = 1 ∧ yz_br r)) := hm.elim (fun z => .inl ⟨z.1, z.2.2⟩) (fun z => .inr ⟨z.1, z.2.2⟩)
  have K' : yP_K h n ([(10, nI q, 0, 0)] ++ (yz_c r (n + 1) v q e).map Prod.fst) := by
    have : (yz_c (.inner 3 p o l r) n v q e).map Prod.fst = [(10, nI q, 0, 0)] ++ (yz_c r (n + 1) v q e).map Prod.fst := by
      show ([((10, nI q, 0, 0), v)] ++ yz_c r (n + 1) v q e).map Prod.fst = _
      rw [List.map_append]; rfl
    rw [← this]; exact K
  have hx' : v = 0 → yz_x r (n + 1) ++ [n] = [] := hx
  have hv0 : 0 < v := by
    rcases Nat.eq_zero_or_pos v with z | z
    · exact absurd (List.append_eq_nil_iff.mp (hx' z)).2 (by intro y; cases y)
    · exact z
  have hn' : n + (1 + yz_l r) ≤ bh := hn
  have hq' : (0 < v ∧ qf = q ∧ n + (1 + yz_l r) < q ∧ q ≤ 4000) ∨ (v = 0 ∧ qf ≤ n) := hq
  have z0' : ∀ j, n < j → j < n + (1 + yz_l r) → h.2.1 53 j = 0 := z0
  obtain ⟨h1, mo1, a1, a2, a3, a4⟩ := yH_one (d := 0) (x := x) (show n < bh by omega) hbh hmo (by omega) (K' 0 _ rfl) (show (10 : Nat) < 19 by decide) (show yo_t 10 ≤ 0 by decide) (show 0 - yo_t 10 + yo_l 10 ≤ 64 by decide) rn (fun _ => ⟨q, rfl, by omega⟩)
  have e1 : h1 = if x = true then zs_uM h 53 q 1 else h := by
    rw [a4]
    show (if x = true then zs_uM h 53 (nI q).toNatClampNeg 1 else h) = _
    rw [nI_clamp (by omega)]
  have A : yH_O bh h n 1 v q qf mo x false false := by
    refine ⟨h1, mo1, a1, a2, ⟨fun z => .inl (a3.mp z), fun z => z.elim a3.mpr (fun z => by cases z)⟩, fun y hy => ?_, fun _ y hy => ⟨x, id, ?_⟩, ?_⟩
    · rw [Bool.or_false, e1]
      split
      · exact (zu_MM.trans (if_neg fun z => by omega)).trans hy
      · exact hy
    · rw [e1]
      cases x with
      | true => rw [if_pos rfl, Bool.or_true]; exact zu_MM.trans (if_pos ⟨rfl, rfl⟩)
      | false => rw [if_neg (by decide), Bool.or_false]; exact hy
    · rw [e1]
      split
      · exact yH_set (.inr (by omega))
      · exact yH_fr0
  exact yH_seq ihr A hr W2 hn' (yP_Kr (L1 := [_]) K') (fun z => by omega) hq' he rn z0' (fun z => by cases z) (fun z => by cases z)
theorem yH_V4 (hbh : bh ≤ 4000) (ihr : yH_V X Y kb b bh r) : yH_V X Y kb b bh (.inner 4 p o l r) := by
  intro m n v q qf e lo mo x h hm ⟨W1, W2⟩ hn K hx hq he hmo rn z0
  have hr : ((m = 0 ∧ yz_st r) ∨ (m = 1 ∧ yz_br r)) := hm.elim (fun z => .inl ⟨z.1, z.2.2⟩) (fun z => .inr ⟨z.1, z.2.2⟩)
  have K' : yP_K h n ([(18, 0, 0, 0)] ++ (yz_c r (n + 1) v q e).map Prod.fst) := by
    have : (yz_c (.inner 4 p o l r) n v q e).map Prod.fst = [(18, 0, 0, 0)] ++ (yz_c r (n + 1) v q e).map Prod.fst := by
      show ([((18, 0, 0, 0), v)] ++ yz_c r (n + 1) v q e).map Prod.fst = _
      rw [List.map_append]; rfl
    rw [← this]; exact K
  have hn' : n + (1 + yz_l r) ≤ bh := hn
  have hq' : (0 < v ∧ qf = q ∧ n + (1 + yz_l r) < q ∧ q ≤ 4000) ∨ (v = 0 ∧ qf ≤ n) := hq
  have z0' : ∀ j, n < j → j < n + (1 + yz_l r) → h.2.1 53 j = 0 := z0
  obtain ⟨h1, mo1, a1, a2, a3, a4⟩ := yH_one (d := 0) (x := x) (show n < bh by omega) hbh hmo (by omega) (K' 0 _ rfl) (show (18 : Nat) < 19 by decide) (show yo_t 18 ≤ 0 by decide) (show 0 - yo_t 18 + yo_l 18 ≤ 64 by decide) rn (fun z => absurd z (show ¬ ((18 : Nat) = 10 ∨ (18 : Nat) = 11 ∨ (18 : Nat) = 13) by decide))
  have e1 : h1 = h := by
    rw [a4]
    show (if x = true then h else h) = h
    exact ite_self _
  have A : yH_O bh h n 1 v q qf mo x false false := ⟨h1, mo1, a1, a2, ⟨fun z => .inl (a3.mp z), fun z => z.elim a3.mpr (fun z => by cases z)⟩, fun y hy => by rw [Bool.or_false, e1]; exact hy, fun _ y hy => ⟨false, fun z => (by cases z), by rw [Bool.or_false, e1]; exact hy⟩, by rw [e1]; exact yH_fr0⟩
  exact yH_seq ihr A hr W2 hn' (yP_Kr (L1 := [_]) K') hx hq' he rn z0' (fun z => by cases z) (fun z => by cases z)
end YHD
end
section
/-! The prover: how high the stack is: the class, loops and branches. -/
section YHE
variable {X Y : Nat → Nat} {kb : Nat → yK} {b bh : Nat} {p : List yI × Int32 × Int32} {o : Unit} {l r : ys}
theorem yH_vi {x y : Bool} (h : x = true → y = true) (z : Bool) : yH_v (z || y || x) = yH_v (z || y) := by
  cases x <;> cases y <;> cases z <;> first | rfl | exact absurd (h rfl) (by decide)
theorem yH_V2 (hbh : bh ≤ 4000) (ihl : yH_V X Y kb b bh l) (ihr : yH_V X Y kb b bh r) : yH_V X Y kb b bh (.inner 2 p o l r) := by
  intro m n v q qf e lo mo x h hm ⟨W1, W2⟩ hn K hx hq he hmo rn z0
  have hr : ((m = 0 ∧ yz_st r) ∨ (m = 1 ∧ yz_br r)) := hm.elim (fun z => .inl ⟨z.1, z.2.2⟩) (fun z => .inr ⟨z.1, z.2.2⟩)
  obtain ⟨cc, M, w1, w2, w3, w4, w5, w6, w7⟩ := (show ∃ c N, p.2.1 = nI c ∧ p.2.2 = nI N ∧ lo ≤ c ∧ c < X b ∧ N ≤ 1000000 ∧ yz_st l ∧ yz_W X Y kb b l (c + 1) from W1)
  have K' : yP_K h n ([(12, p.2.1, p.2.2, 0)] ++ ([(13, nI (n + (3 + yz_l l)), p.2.1, 0)] ++ ((yz_c l (n + 2) (v + 1) (n + (3 + yz_l l)) 0).map Prod.fst ++ ([(14, nI (n + 1), 0, 0)] ++ (yz_c r (n + (3 + yz_l l)) v q e).map Prod.fst)))) := by
    have : (yz_c (.inner 2 p o l r) n v q e).map Prod.fst = [(12, p.2.1, p.2.2, 0)] ++ ([(13, nI (n + (3 + yz_l l)), p.2.1, 0)] ++ ((yz_c l (n + 2) (v + 1) (n + (3 + yz_l l)) 0).map Prod.fst ++ ([(14, nI (n + 1), 0, 0)] ++ (yz_c r (n + (3 + yz_l l)) v q e).map Prod.fst))) := by
      show ([((12, p.2.1, p.2.2, 0), v)] ++ ([((13, nI (n + (3 + yz_l l)), p.2.1, 0), v)] ++ (yz_c l (n + 2) (v + 1) (n + (3 + yz_l l)) 0 ++ ([((14, nI (n + 1), 0, 0), v + 1)] ++ yz_c r (n + (3 + yz_l l)) v q e)))).map Prod.fst = _
      rw [List.map_append, List.map_append, List.map_append, List.map_append]; rfl
    rw [← this]; exact K
  have pieces : ∀ h : zs_H, yP_K h n ([(12, p.2.1, p.2.2, 0)] ++ ([(13, nI (n + (3 + yz_l l)), p.2.1, 0)] ++ ((yz_c l (n + 2) (v + 1) (n + (3 + yz_l l)) 0).map Prod.fst ++ ([(14, nI (n + 1), 0, 0)] ++ (yz_c r (n + (3 + yz_l l)) v q e).map Prod.fst)))) → yC_m h n (12, p.2.1, p.2.2, 0) ∧ yC_m h (n + 1) (13, nI (n + (3 + yz_l l)), p.2.1, 0) ∧ yP_K h (n + 2) ((yz_c l (n + 2) (v + 1) (n + (3 + yz_l l)) 0).map Prod.fst) ∧ yC_m h (n + 2 + yz_l l) (14, nI (n + 1), 0, 0) ∧ yP_K h (n + 2 + yz_l l + 1) ((yz_c r (n + (3 + yz_l l)) v q e).map Prod.fst) := by
    intro h K
    have Ka := yP_Kr (L1 := [_]) (yP_Kr (L1 := [_]) K)
    have Kb := yP_Kr Ka
    rw [List.length_map, yz_len] at Kb
    exact ⟨K 0 _ rfl, K 1 _ rfl, yP_Kl Ka, Kb 0 _ rfl, yP_Kr (L1 := [_]) Kb⟩
  have e3 : n + 2 + yz_l l + 1 = n + (3 + yz_l l) := by omega
  have hn' : n + ((3 + yz_l l) + yz_l r) ≤ bh := hn
  have hq' : (0 < v ∧ qf = q ∧ n + ((3 + yz_l l) + yz_l r) < q ∧ q ≤ 4000) ∨ (v = 0 ∧ qf ≤ n) := hq
  have z0' : ∀ j, n < j → j < n + ((3 + yz_l l) + yz_l r) → h.2.1 53 j = 0 := z0
  -- COUNT
  obtain ⟨h1, mo1, a1, a2, a3, a4⟩ := yH_one (d := 0) (x := x) (show n < bh by omega) hbh hmo (by omega) (pieces h K').1 (show (12 : Nat) < 19 by decide) (show yo_t 12 ≤ 0 by decide) (show 0 - yo_t 12 + yo_l 12 ≤ 64 by decide) rn (fun z => absurd z (show ¬ ((12 : Nat) = 10 ∨ (12 : Nat) = 11 ∨ (12 : Nat) = 13) by decide))
  replace a4 : h1 = if x = true then zs_uM h 53 (n + 1) 1 else h := a4
  have f1 : yH_fr n (n + (3 + yz_l l)) (n + 1) h h1 := by
    rw [a4]; split
    · exact yH_set (.inl (by omega))
    · exact yH_fr0
  have v1 : ∀ j, ¬ j = n + 1 → h1.2.1 53 j = h.2.1 53 j := fun j hj => by
    rw [a4]; split
    · exact zu_MM.trans (if_neg fun z => hj z.2)
    · rfl
  have r1 : h1.2.1 53 (n + 1) = yH_v x := by
    rw [a4]
    cases x with
    | true => exact zu_MM.trans (if_pos ⟨rfl, rfl⟩)
    | false => exact z0' (n + 1) (by omega) (by omega)
  have K1 := yH_Kf f1 K'
  -- NEXT
  obtain ⟨h2, mo2, b1, b2, b3, b4⟩ := yH_one (d := 0) (x := x) (show n + 1 < bh by omega) hbh a2 (by omega) (pieces h1 K1).2.1 (show (13 : Nat) < 19 by decide) (show yo_t 13 ≤ 0 by decide) (show 0 - yo_t 13 + yo_l 13 ≤ 64 by decide) r1 (fun _ => ⟨n + (3 + yz_l l), rfl, by omega⟩)
  replace b4 : h2 = if x = true then zs_uM (zs_uM h1 53 (n + (3 + yz_l l)) 1) 53 (n + 2) 1 else h1 := by
    rw [b4]
    show (if x = true then zs_uM (zs_uM h1 53 (nI (n + (3 + yz_l l))).toNatClampNeg 1) 53 (n + 1 + 1) 1 else h1) = _
    rw [nI_clamp (by omega)]
  have f2 : yH_fr n (n + (3 + yz_l l)) (n + 1) h1 h2 := by
    rw [b4]; split
    · exact yH_frt (yH_set (h := h1) (t := n + (3 + yz_l l)) (lo := n) (hi := n + (3 + yz_l l)) (q := n + 1) (.inl (by omega))) (yH_set (t := n + 2) (lo := n) (hi := n + (3 + yz_l l)) (q := n + 1) (.inl (by omega))) (by omega) (by omega) (by omega) (by omega)
    · exact yH_fr0
  have v2 : ∀ j, ¬ j = n + 1 → ¬ j = n + 2 → ¬ j = n + (3 + yz_l l) → h2.2.1 53 j = h.2.1 53 j := fun j j1 j2 j3 => by
    refine Eq.trans ?_ (v1 j j1)
    rw [b4]; split
    · exact zu_MM.trans ((if_neg fun z => j2 z.2).trans (zu_MM.trans (if_neg fun z => j3 z.2)))
    · rfl
  have r2 : h2.2.1 53 (n + 2) = yH_v x := by
    rw [b4]
    cases x with
    | true => exact zu_MM.trans (if_pos ⟨rfl, rfl⟩)
    | false => exact (v1 (n + 2) (by omega)).trans (z0' (n + 2) (by omega) (by omega))
  have rt : ∀ y, h.2.1 53 (n + (3 + yz_l l)) = yH_v y → h2.2.1 53 (n + (3 + yz_l l)) = yH_v (y || x) := fun y hy => by
    rw [b4]
    cases x with
    | true =>
      rw [Bool.or_true]
      exact zu_MM.trans ((if_neg fun z => by omega).trans (zu_MM.trans (if_pos ⟨rfl, rfl⟩)))
    | false =>
      rw [Bool.or_false]
      exact (v1 _ (by omega)).trans hy
  have K2 := yH_Kf f2 K1
  -- the body
  obtain ⟨h3, mo3, c1, c2, c3, c4, c5, c6⟩ := ihl 0 (n + 2) (v + 1) (n + (3 + yz_l l)) (n + (3 + yz_l l)) 0 (cc + 1) mo2 x h2 (.inl ⟨rfl, w6⟩) w7 (by omega) (pieces h2 K2).2.2.1 (fun z => absurd z (Nat.succ_ne_zero v)) (.inl ⟨by omega, rfl, by omega, by omega⟩) (fun z => absurd z (by decide)) b2 r2 (fun j j1 j2 => (v2 j (by omega) (by omega) (by omega)).trans (z0' j (by omega) (by omega)))
  have r3 : h3.2.1 53 (n + 2 + yz_l l) = yH_v (yH_r l x) := by
    by_cases z : yz_l l = 0
    · have := c4 x (by rw [z, Nat.add_zero]; exact r2)
      rw [(yH_z l x z).1, Bool.or_self] at this
      rw [(yH_z l x z).1]; exact this
    · have := c4 false ((v2 (n + 2 + yz_l l) (by omega) (by omega) (by omega)).trans (z0' _ (by omega) (by omega)))
      rwa [Bool.false_or] at this
  have K3 := yH_Kf c6 K2
  -- BACK
  obtain ⟨h4, mo4, d1, d2, d3, d4⟩ := yH_one (d := 0) (x := yH_r l x) (show n + 2 + yz_l l < bh by omega) hbh c2 (by omega) (pieces h3 K3).2.2.2.1 (show (14 : Nat) < 19 by decide) (show yo_t 14 ≤ 0 by decide) (show 0 - yo_t 14 + yo_l 14 ≤ 64 by decide) r3 (fun z => absurd z (show ¬ ((14 : Nat) = 10 ∨ (14 : Nat) = 11 ∨ (14 : Nat) = 13) by decide))
  have e4 : h4 = h3 := by
    rw [d4]
    show (if yH_r l x = true then h3 else h3) = h3
    exact ite_self _
  subst e4
  have FA : yH_fr n (n + (3 + yz_l l)) qf h h4 := yH_frt (yH_frt f1 f2 (lo := n) (hi := n + (3 + yz_l l)) (q := n + 1) (by omega) (by omega) (by omega) (by omega)) c6 (by omega) (by omega) (by omega) (by omega)
  have A : yH_O bh h n (3 + yz_l l) v q qf mo x (yH_D l x) x := by
    refine ⟨h4, mo4, fun N => ?_, d2, ?_, fun y hy => ?_, fun hv y hy => ⟨false, fun z => (by cases z), ?_⟩, FA⟩
    · rw [show N + (3 + yz_l l) = (N + 1 + yz_l l + 1) + 1 by omega, a1]
      show f_Pv_highest_L37 (N + 1 + yz_l l + 1) h1 (nI bh) (nI mo1) (nI 0) (nI (n + 1)) = _
      rw [b1]
      show f_Pv_highest_L37 (N + 1 + yz_l l) h2 (nI bh) (nI mo2) (nI 0) (nI (n + 2)) = _
      rw [c1, d1, e3]
      rfl
    · rw [d3, c3, b3, a3]
    · obtain ⟨z, g1, g2⟩ := c5 (by omega) _ (rt y hy)
      rw [g2, yH_vi g1]
    · rw [Bool.or_false, c6.2.2 53 q (.inr ⟨by omega, by omega⟩), v2 q (by omega) (by omega) (by omega)]; exact hy
  exact yH_seq ihr A hr W2 hn' (by have := (pieces h K').2.2.2.2; rw [e3] at this; exact this) hx hq' he rn z0' id (fun _ => rfl)
theorem yH_V5 (hb : b ≤ 16) (hbh : bh ≤ 4000) (ihl : yH_V X Y kb b bh l) (ihr : yH_V X Y kb b bh r) : yH_V X Y kb b bh (.inner 5 p o l r) := by
  intro m n v q qf e lo mo x h hm ⟨W1, W2⟩ hn K hx hq he hmo rn z0
  have hr : ((m = 0 ∧ yz_st r) ∨ (m = 1 ∧ yz_br r)) := hm.elim (fun z => .inl ⟨z.1, z.2.2⟩) (fun z => .inr ⟨z.1, z.2.2⟩)
  have m1 : m = 1 := by
    rcases hm with ⟨_, z, _⟩ | ⟨z1, _⟩
    · exact absurd z (by decide)
    · exact z1
  subst m1
  obtain ⟨w, hw⟩ : ∃ w : Nat, w = if yz_f r = true then 0 else 1 := ⟨_, rfl⟩
  have W1' : yo_h 0 p.1 = some 1 ∧ (∀ i, i ∈ p.1 → yo_i X (fun u => (kb u).1 = 1) b i) ∧ yz_st l ∧ yz_W X Y kb b l lo := W1
  have p0 : 0 < p.1.length := by
    rcases Nat.eq_zero_or_pos p.1.length with z | z
    · have := W1'.1
      rw [List.eq_nil_of_length_eq_zero z] at this
      exact absurd this (by decide)
    · exact z
  have K' : yP_K h n (p.1 ++ ([(11, nI (n + (p.1.length + 1 + yz_l l + w)), 0, 0)] ++ ((yz_c l (n + p.1.length + 1) v q 0).map Prod.fst ++ ((if yz_f r = true then [] else [(10, nI e, 0, 0)]) ++ (yz_c r (n + (p.1.length + 1 + yz_l l + w)) v q e).map Prod.fst)))) := by
    have : (yz_c (.inner 5 p o l r) n v q e).map Prod.fst = p.1 ++ ([(11, nI (n + (p.1.length + 1 + yz_l l + w)), 0, 0)] ++ ((yz_c l (n + p.1.length + 1) v q 0).map Prod.fst ++ ((if yz_f r = true then [] else [(10, nI e, 0, 0)]) ++ (yz_c r (n + (p.1.length + 1 + yz_l l + w)) v q e).map Prod.fst))) := by
      rw [hw]
      show (yv v p.1 ++ ([((11, nI (n + (p.1.length + 1 + yz_l l + (if yz_f r = true then 0 else 1))), 0, 0), v)] ++ (yz_c l (n + p.1.length + 1) v q 0 ++ ((if yz_f r = true then [] else [((10, nI e, 0, 0), v)]) ++ yz_c r (n + (p.1.length + 1 + yz_l l + (if yz_f r = true then 0 else 1))) v q e)))).map Prod.fst = _
      rw [List.map_append, List.map_append, List.map_append, List.map_append, yv_m]
      by_cases z : yz_f r = true
      · simp only [if_pos z]; rfl
      · simp only [if_neg z]; rfl
    rw [← this]; exact K
  have lg : (if yz_f r = true then [] else [((10, nI e, 0, 0) : yI)]).length = w := by
    rw [hw]; split <;> rfl
  have pieces : ∀ h : zs_H, yP_K h n (p.1 ++ ([(11, nI (n + (p.1.length + 1 + yz_l l + w)), 0, 0)] ++ ((yz_c l (n + p.1.length + 1) v q 0).map Prod.fst ++ ((if yz_f r = true then [] else [(10, nI e, 0, 0)]) ++ (yz_c r (n + (p.1.length + 1 + yz_l l + w)) v q e).map Prod.fst)))) → yP_K h n p.1 ∧ yC_m h (n + p.1.length) (11, nI (n + (p.1.length + 1 + yz_l l + w)), 0, 0) ∧ yP_K h (n + p.1.length + 1) ((yz_c l (n + p.1.length + 1) v q 0).map Prod.fst) ∧ (¬ yz_f r = true → yC_m h (n + p.1.length + 1 + yz_l l) (10, nI e, 0, 0)) ∧ yP_K h (n + p.1.length + 1 + yz_l l + w) ((yz_c r (n + (p.1.length + 1 + yz_l l + w)) v q e).map Prod.fst) := by
    intro h K
    have Ka := yP_Kr K
    have Kb := yP_Kr (L1 := [_]) Ka
    have Kc := yP_Kr Kb
    rw [List.length_map, yz_len] at Kc
    have Kd := yP_Kr Kc
    rw [lg] at Kd
    refine ⟨yP_Kl K, Ka 0 _ rfl, yP_Kl Kb, fun z => ?_, Kd⟩
    rw [if_neg z] at Kc
    exact Kc 0 _ rfl
  have e3 : n + p.1.length + 1 + yz_l l + w = n + (p.1.length + 1 + yz_l l + w) := by omega
  have hx' : v = 0 → yz_x r (n + (p.1.length + 1 + yz_l l + w)) = [] ∧ yz_x l (n + p.1.length + 1) = [] := fun z => by
    have := hx z
    rw [hw]
    exact List.append_eq_nil_iff.mp this
  have eL : yz_l (.inner 5 p o l r) = (p.1.length + 1 + yz_l l + w) + yz_l r := by rw [hw]; rfl
  have he' := he rfl
  have w01 : w ≤ 1 := by rw [hw]; split <;> omega
  have wr : w = 0 → yz_l r = 0 := fun z => by
    cases r with
    | leaf => rfl
    | inner => rw [hw] at z; exact absurd z (show ¬ (1 : Nat) = 0 by decide)
  have eD : yH_D (.inner 5 p o l r) x = ((x && yH_d 0 p.1) || (yH_D l x || yH_D r x)) := rfl
  have eR : yH_r (.inner 5 p o l r) x = (yH_r l x || yH_r r x) := rfl
  rw [eL] at hn hq he' z0 ⊢
  rw [eD, eR]
  obtain ⟨P, hP⟩ : ∃ P, P = p.1.length := ⟨_, rfl⟩
  obtain ⟨Ll, hLl⟩ : ∃ Ll, Ll = yz_l l := ⟨_, rfl⟩
  obtain ⟨Lr, hLr⟩ : ∃ Lr, Lr = yz_l r := ⟨_, rfl⟩
  -- the question
  obtain ⟨h1, mo1, a1, a2, a3, a4, a5⟩ := yH_str hbh p.1 n 0 1 mo x h (by omega) (by omega) hmo W1'.1 (fun i hi => yP_io hb (W1'.2.1 i hi)) (yP_Kl K') rn (fun j j1 j2 => z0 j j1 (by omega))
  have r1 : h1.2.1 53 (n + p.1.length) = yH_v x := by
    have := a4 false (z0 _ (by omega) (by omega))
    rwa [Bool.false_or] at this
  have K1 := yH_Kf a5 K'
  have v1 : ∀ j, n + p.1.length < j → h1.2.1 53 j = h.2.1 53 j := fun j hj => a5.2.2 53 j (.inr ⟨by omega, by omega⟩)
  -- UNLESS
  obtain ⟨h2, mo2, b1, b2, b3, b4⟩ := yH_one (d := 1) (x := x) (show n + p.1.length < bh by omega) hbh a2 (by omega) (pieces h1 K1).2.1 (show (11 : Nat) < 19 by decide) (show yo_t 11 ≤ 1 by decide) (show 1 - yo_t 11 + yo_l 11 ≤ 64 by decide) r1 (fun _ => ⟨n + (p.1.length + 1 + yz_l l + w), rfl, by omega⟩)
  replace b4 : h2 = if x = true then zs_uM (zs_uM h1 53 (n + (p.1.length + 1 + yz_l l + w)) 1) 53 (n + p.1.length + 1) 1 else h1 := by
    rw [b4]
    show (if x = true then zs_uM (zs_uM h1 53 (nI (n + (p.1.length + 1 + yz_l l + w))).toNatClampNeg 1) 53 (n + p.1.length + 1) 1 else h1) = _
    rw [nI_clamp (by omega)]
  have f2 : yH_fr n (n + (p.1.length + 1 + yz_l l + w)) n h1 h2 := by
    rw [b4]; split
    · exact yH_frt (yH_set (h := h1) (t := n + (p.1.length + 1 + yz_l l + w)) (lo := n) (hi := n + (p.1.length + 1 + yz_l l + w)) (q := n) (.inl (by omega))) (yH_set (t := n + p.1.length + 1) (lo := n) (hi := n + (p.1.length + 1 + yz_l l + w)) (q := n) (.inl (by omega))) (by omega) (by omega) (by omega) (by omega)
    · exact yH_fr0
  have v2 : ∀ j, n + p.1.length + 1 < j → ¬ j = n + (p.1.length + 1 + yz_l l + w) → h2.2.1 53 j = h.2.1 53 j := fun j j1 j2 => by
    refine Eq.trans ?_ (v1 j (by omega))
    rw [b4]; split
    · exact zu_MM.trans ((if_neg fun z => by omega).trans (zu_MM.trans (if_neg fun z => j2 z.2)))
    · rfl
  have rt : ∀ y, h.2.1 53 (n + (p.1.length + 1 + yz_l l + w)) = yH_v y → h2.2.1 53 (n + (p.1.length + 1 + yz_l l + w)) = yH_v (y || x) := fun y hy => by
    rw [b4]
    cases x with
    | true =>
      rw [Bool.or_true]
      refine zu_MM.trans ?_
      split
      · rfl
      · exact zu_MM.trans (if_pos ⟨rfl, rfl⟩)
    | false =>
      rw [Bool.or_false]
      exact (v1 _ (by omega)).trans hy
  have K2 := yH_Kf f2 K1
  -- the body
  have body : ∃ h3 mo3, (∀ N, f_Pv_highest_L37 (N + yz_l l) h2 (nI bh) (nI mo2) (nI 0) (nI (n + p.1.length + 1)) = f_Pv_highest_L37 N h3 (nI bh) (nI mo3) (nI 0) (nI (n + p.1.length + 1 + yz_l l))) ∧ mo3 ≤ 6000 ∧ (64 < mo3 ↔ 64 < mo2 ∨ yH_D l x = true) ∧ (w = 1 → h3.2.1 53 (n + p.1.length + 1 + yz_l l) = yH_v (yH_r l x)) ∧ (∀ y, h.2.1 53 (n + (p.1.length + 1 + yz_l l + w)) = yH_v y → h3.2.1 53 (n + (p.1.length + 1 + yz_l l + w)) = yH_v (y || x)) ∧ (0 < v → ∀ y, h.2.1 53 q = yH_v y → ∃ z, (z = true → x = true) ∧ h3.2.1 53 q = yH_v (y || z)) ∧ (∀ j, n + p.1.length + 1 + yz_l l < j → ¬ j = n + (p.1.length + 1 + yz_l l + w) → ¬ j = qf → h3.2.1 53 j = h.2.1 53 j) ∧ yH_fr n (n + (p.1.length + 1 + yz_l l + w)) qf h2 h3 := by
    by_cases lz : yz_l l = 0
    · obtain ⟨i1, i2⟩ := yH_z l x lz
      refine ⟨h2, mo2, fun N => by rw [lz]; rfl, b2, by rw [i2]; exact ⟨fun z => .inl z, fun z => z.elim id (fun z => by cases z)⟩, fun z => ?_, rt, fun hv y hy => ⟨false, fun z => (by cases z), by rw [Bool.or_false, v2 q (by omega) (by omega)]; exact hy⟩, fun j j1 j2 _ => v2 j (by omega) j2, yH_fr0⟩
      rw [i1, lz, Nat.add_zero, b4]
      cases x with
      | true => exact zu_MM.trans (if_pos ⟨rfl, rfl⟩)
      | false => exact (v1 _ (by omega)).trans (z0 _ (by omega) (by omega))
    · have r2 : h2.2.1 53 (n + p.1.length + 1) = yH_v x := by
        rw [b4]
        cases x with
        | true => exact zu_MM.trans (if_pos ⟨rfl, rfl⟩)
        | false => exact (v1 _ (by omega)).trans (z0 _ (by omega) (by omega))
      obtain ⟨h3, mo3, c1, c2, c3, c4, c5, c6⟩ := ihl 0 (n + p.1.length + 1) v q qf 0 lo mo2 x h2 (.inl ⟨rfl, W1'.2.2.1⟩) W1'.2.2.2 (by omega) (pieces h2 K2).2.2.1 (fun z => (hx' z).2) (by omega) (fun z => absurd z (by decide)) b2 r2 (fun j j1 j2 => (v2 j (by omega) (by omega)).trans (z0 j (by omega) (by omega)))
      refine ⟨h3, mo3, c1, c2, c3, fun z => ?_, fun y hy => ?_, fun hv y hy => ?_, fun j j1 j2 j3 => (c6.2.2 53 j (.inr ⟨by omega, j3⟩)).trans (v2 j (by omega) j2), yH_frt c6 (yH_fr0 (lo := n) (hi := n) (q := n)) (by omega) (by omega) (.inl rfl) (by omega)⟩
      · have := c4 false ((v2 _ (by omega) (by omega)).trans (z0 _ (by omega) (by omega)))
        rwa [Bool.false_or] at this
      · by_cases z : w = 0
        · have q1 := rt y hy
          rw [show n + (p.1.length + 1 + yz_l l + w) = n + p.1.length + 1 + yz_l l by omega] at q1 ⊢
          have := c4 _ q1
          rw [yH_vi yH_rx] at this
          exact this
        · rw [c6.2.2 53 _ (.inr ⟨by omega, by omega⟩)]
          exact rt y hy
      · exact c5 hv y (by rw [v2 q (by omega) (by omega)]; exact hy)
  obtain ⟨h3, mo3, c1, c2, c3, c4, c5, c6, c7, c8⟩ := body
  have K3 := yH_Kf c8 K2
  -- the jump behind the choice
  have jump : ∃ h4 mo4, (∀ N, f_Pv_highest_L37 (N + w) h3 (nI bh) (nI mo3) (nI 0) (nI (n + p.1.length + 1 + yz_l l)) = f_Pv_highest_L37 N h4 (nI bh) (nI mo4) (nI 0) (nI (n + (p.1.length + 1 + yz_l l + w)))) ∧ mo4 ≤ 6000 ∧ (64 < mo4 ↔ 64 < mo3) ∧ (h4 = h3 ∧ w = 0 ∨ w = 1 ∧ h4 = if yH_r l x = true then zs_uM h3 53 e 1 else h3) := by
    by_cases z : yz_f r = true
    · have g0 : w = 0 := by rw [hw, if_pos z]
      exact ⟨h3, mo3, fun N => by rw [g0, Nat.add_zero, show n + (p.1.length + 1 + yz_l l + 0) = n + p.1.length + 1 + yz_l l by omega], c2, Iff.rfl, .inl ⟨rfl, g0⟩⟩
    · have g0 : w = 1 := by rw [hw, if_neg z]
      obtain ⟨h4, mo4, d1, d2, d3, d4⟩ := yH_one (d := 0) (x := yH_r l x) (show n + p.1.length + 1 + yz_l l < bh by omega) hbh c2 (by omega) ((pieces h3 K3).2.2.2.1 z) (show (10 : Nat) < 19 by decide) (show yo_t 10 ≤ 0 by decide) (show 0 - yo_t 10 + yo_l 10 ≤ 64 by decide) (c4 g0) (fun _ => ⟨e, rfl, by omega⟩)
      refine ⟨h4, mo4, fun N => ?_, d2, d3, .inr ⟨g0, ?_⟩⟩
      · rw [g0, d1, show n + (p.1.length + 1 + yz_l l + 1) = n + p.1.length + 1 + yz_l l + 1 by omega]; rfl
      · rw [d4]
        show (if yH_r l x = true then zs_uM h3 53 (nI e).toNatClampNeg 1 else h3) = _
        rw [nI_clamp (by omega)]
  obtain ⟨h4, mo4, d1, d2, d3, d4⟩ := jump
  have v4 : ∀ j, ¬ j = e → h4.2.1 53 j = h3.2.1 53 j := fun j hj => by
    rcases d4 with ⟨d4, _⟩ | ⟨_, d4⟩
    · rw [d4]
    · rw [d4]; split
      · exact zu_MM.trans (if_neg fun z => hj z.2)
      · rfl
  have f4 : yH_fr n (n + (p.1.length + 1 + yz_l l + w + yz_l r)) qf h3 h4 := by
    rcases d4 with ⟨d4, _⟩ | ⟨_, d4⟩
    · rw [d4]; exact yH_fr0
    · rw [d4]; split
      · exact yH_set (.inl (by omega))
      · exact yH_fr0
  have re : ∀ y, h3.2.1 53 e = yH_v y → w = 1 → h4.2.1 53 e = yH_v (y || yH_r l x) := fun y hy z => by
    rcases d4 with ⟨_, d4⟩ | ⟨_, d4⟩
    · omega
    · rw [d4]
      cases yH_r l x with
      | true => rw [if_pos rfl, Bool.or_true]; exact zu_MM.trans (if_pos ⟨rfl, rfl⟩)
      | false => rw [if_neg (by decide), Bool.or_false]; exact hy
  have FA : yH_fr n (n + (p.1.length + 1 + yz_l l + w + yz_l r)) qf h h4 := yH_frt (yH_frt (yH_frt a5 f2 (lo := n) (hi := n + (p.1.length + 1 + yz_l l + w + yz_l r)) (q := qf) (by omega) (by omega) (by omega) (by omega)) c8 (lo := n) (hi := n + (p.1.length + 1 + yz_l l + w + yz_l r)) (q := qf) (by omega) (by omega) (by omega) (by omega)) f4 (by omega) (by omega) (by omega) (by omega)
  have qc : 0 < v → ∀ y, h.2.1 53 q = yH_v y → ∃ z, (z = true → x = true) ∧ h4.2.1 53 q = yH_v (y || z) := fun hv y hy => by
    obtain ⟨z, g1, g2⟩ := c6 hv y hy
    exact ⟨z, g1, by rw [v4 q (by omega)]; exact g2⟩
  have run : ∀ N, f_Pv_highest_L37 (N + (p.1.length + 1 + yz_l l + w)) h (nI bh) (nI mo) (nI 0) (nI n) = f_Pv_highest_L37 N h4 (nI bh) (nI mo4) (nI 0) (nI (n + (p.1.length + 1 + yz_l l + w))) := fun N => by
    rw [show N + (p.1.length + 1 + yz_l l + w) = (N + w + yz_l l + 1) + p.1.length by omega, a1, b1]
    show f_Pv_highest_L37 (N + w + yz_l l) h2 (nI bh) (nI mo2) (nI 0) (nI (n + p.1.length + 1)) = _
    rw [c1, d1]
  have deep : 64 < mo4 ↔ 64 < mo ∨ ((x && yH_d 0 p.1) = true ∨ yH_D l x = true) := by
    rw [d3, c3, b3, a3, or_assoc]
  by_cases lz : yz_l r = 0
  · obtain ⟨i1, i2⟩ := yH_z r x lz
    rw [i1, i2, Bool.or_false, lz, Nat.add_zero]
    rw [lz, Nat.add_zero] at he' FA
    refine ⟨h4, mo4, run, d2, by rw [deep, Bool.or_eq_true], fun y hy => ?_, qc, FA⟩
    have q1 := c5 y hy
    have q2 : h4.2.1 53 (n + (p.1.length + 1 + yz_l l + w)) = yH_v (y || x) := by
      rcases Nat.eq_zero_or_pos w with z | z
      · rcases d4 with ⟨d4, _⟩ | ⟨d4, _⟩
        · rw [d4]; exact q1
        · omega
      · have := re _ (by rw [he']; exact q1) (by omega)
        rw [yH_vi yH_rx] at this
        rw [← he']; exact this
    rw [q2, Bool.or_comm (yH_r l x), ← Bool.or_assoc, yH_vi yH_rx]
  · have w1 : w = 1 := by
      rcases Nat.eq_zero_or_pos w with z | z
      · exact absurd (wr z) lz
      · omega
    have r4 : h4.2.1 53 (n + (p.1.length + 1 + yz_l l + w)) = yH_v x := by
      rw [v4 _ (by omega)]
      have := c5 false (z0 _ (by omega) (by omega))
      rwa [Bool.false_or] at this
    obtain ⟨h5, mo5, g1, g2, g3, g4, g5, g6⟩ := ihr 1 (n + (p.1.length + 1 + yz_l l + w)) v q qf e lo mo4 x h4 hr W2 (by omega) (by have := (pieces h4 (yH_Kf f4 K3)).2.2.2.2; rw [e3] at this; exact this) (fun z => (hx' z).1) (by omega) (fun _ => by omega) d2 r4 (fun j j1 j2 => by
      rw [v4 j (by omega), c7 j (by omega) (by omega) (by omega)]
      exact z0 j (by omega) (by omega))
    refine ⟨h5, mo5, fun N => ?_, g2, by rw [g3, deep, Bool.or_eq_true, Bool.or_eq_true, or_assoc, or_assoc], fun y hy => ?_, fun hv y hy => ?_, yH_frt FA g6 (by omega) (by omega) (.inl rfl) (.inl rfl)⟩
    · rw [show N + (p.1.length + 1 + yz_l l + w + yz_l r) = (N + yz_l r) + (p.1.length + 1 + yz_l l + w) by omega, run, g1, show n + (p.1.length + 1 + yz_l l + w) + yz_l r = n + (p.1.length + 1 + yz_l l + w + yz_l r) by omega]
    · rw [← Bool.or_assoc]
      rw [show n + (p.1.length + 1 + yz_l l + w + yz_l r) = n + (p.1.length + 1 + yz_l l + w) + yz_l r by omega] at hy ⊢
      refine g4 _ ?_
      rw [show n + (p.1.length + 1 + yz_l l + w) + yz_l r = e by omega] at hy ⊢
      refine re y ?_ w1
      rw [c7 e (by omega) (by omega) (by omega)]
      exact hy
    · obtain ⟨y1, k1, k2⟩ := qc hv y hy
      obtain ⟨y2, k3, k4⟩ := g5 hv _ k2
      exact ⟨y1 || y2, fun z => by rw [Bool.or_eq_true] at z; exact z.elim k1 k3, by rw [← Bool.or_assoc]; exact k4⟩
theorem yH_TC (hb : b ≤ 16) (hbh : bh ≤ 4000) : ∀ T : ys, yH_V X Y kb b bh T := by
  intro T
  induction T with
  | leaf =>
    intro m n v q qf e lo mo x h _ _ _ _ _ hq _ hmo rn _
    refine ⟨h, mo, fun _ => rfl, hmo, ⟨fun z => .inl z, fun z => z.elim id (fun z => by cases z)⟩, fun y hy => ?_, fun _ y hy => ⟨false, fun z => (by cases z), by rw [Bool.or_false]; exact hy⟩, yH_fr0⟩
    have hy' : h.2.1 53 n = yH_v y := hy
    show h.2.1 53 n = yH_v (y || x)
    have : yH_v x = yH_v y := rn.symm.trans hy'
    rw [rn]
    cases x <;> cases y <;> first | rfl | exact absurd this (by decide)
  | inner k p o l r ihl ihr =>
    by_cases h : k < 7
    · have : k = 0 ∨ k = 1 ∨ k = 2 ∨ k = 3 ∨ k = 4 ∨ k = 5 ∨ k = 6 := by omega
      rcases this with e | e | e | e | e | e | e <;> subst e
      · exact yH_V0 hb hbh ihr
      · exact yH_V1 ihl ihr
      · exact yH_V2 hbh ihl ihr
      · exact yH_V3 hbh ihr
      · exact yH_V4 hbh ihr
      · exact yH_V5 hb hbh ihl ihr
      · exact yH_V6 ihl ihr
    · intro m n v q qf e lo mo x h hm
      exfalso
      rcases hm with ⟨_, z, _⟩ | ⟨_, z, _⟩
      · omega
      · omega
end YHE
end
