/-! The prover: the model's sums. -/
def yQ_at (g : zs_H) (j : Nat) (R : Nat → Option Nat) : Prop := ∀ k, k < 62 → g.2.2 113 (62 * j + k) = yP_s 1000000000000 (R k)
/-- what stays -/
def yQ_fr (lo hi : Nat) (g g' : zs_H) : Prop := g'.1 = g.1 ∧ g'.2.1 = g.2.1 ∧ ∀ a x, ¬ a = 113 ∨ x < 62 * lo ∨ 62 * hi ≤ x → g'.2.2 a x = g.2.2 a x
theorem yQ_fr0 {lo hi : Nat} {g : zs_H} : yQ_fr lo hi g g := ⟨rfl, rfl, fun _ _ _ => rfl⟩
theorem yQ_frt {lo hi lo1 hi1 lo2 hi2 : Nat} {g g1 g2 : zs_H} (a : yQ_fr lo1 hi1 g g1) (b : yQ_fr lo2 hi2 g1 g2) (l1 : lo ≤ lo1) (l2 : hi1 ≤ hi) (m1 : lo ≤ lo2) (m2 : hi2 ≤ hi) : yQ_fr lo hi g g2 := by
  refine ⟨b.1.trans a.1, b.2.1.trans a.2.1, fun x j q => ?_⟩
  have q1 : ¬ x = 113 ∨ j < 62 * lo1 ∨ 62 * hi1 ≤ j := by rcases q with q | q | q; exact .inl q; exact .inr (.inl (by omega)); exact .inr (.inr (by omega))
  have q2 : ¬ x = 113 ∨ j < 62 * lo2 ∨ 62 * hi2 ≤ j := by rcases q with q | q | q; exact .inl q; exact .inr (.inl (by omega)); exact .inr (.inr (by omega))
  exact (b.2.2 x j q2).trans (a.2.2 x j q1)
def yQ_K (g : zs_H) (s n : Nat) (L : List yJ) : Prop := ∀ k i, L[k]? = some i → yM_m s g (n + k) i
section YQM
variable {g g' : zs_H} {B : Nat → Nat} {R : Nat → Option Nat} {n j s u v sz lo hi k : Nat} {L L1 L2 : List yJ}
theorem yQ_atf (f : yQ_fr lo hi g g') (q : j < lo ∨ hi ≤ j) (a : yQ_at g j R) : yQ_at g' j R := by
  intro k hk
  rw [f.2.2 _ _ (.inr (by rcases q with q | q; exact .inl (by omega); exact .inr (by omega)))]
  exact a k hk
theorem yQ_Kf (f : yQ_fr lo hi g g') (K : yQ_K g s n L) : yQ_K g' s n L := by
  intro k i e
  have q := K k i e
  unfold yM_m at q ⊢
  rw [f.2.1]
  exact q
theorem yQ_Kl (K : yQ_K g s n (L1 ++ L2)) : yQ_K g s n L1 := by
  intro k i e
  refine K k i ?_
  rw [List.getElem?_append_left (by
    rcases Nat.lt_or_ge k L1.length with z | z
    · exact z
    · rw [List.getElem?_eq_none z] at e; cases e)]
  exact e
theorem yQ_Kr (K : yQ_K g s n (L1 ++ L2)) : yQ_K g s (n + L1.length) L2 := by
  intro k i e
  have := K (L1.length + k) i (by rw [List.getElem?_append_right (Nat.le_add_right _ _), Nat.add_sub_cancel_left]; exact e)
  rwa [← Nat.add_assoc] at this
theorem yQ_ix (j k : Nat) : (62 : Int32) * nI j + nI k = nI (62 * j + k) := by
  rw [show (62 : Int32) * nI j = nI (62 * j) from zi_mul 62 j, nI_add]
theorem yQ_39 (hj : j ≤ 4000) (hv : v < 62) (hn : n ≤ 4000) (hR : ∀ k, v < k → R k = none) : ∀ (m k N : Nat) (g : zs_H), k + m = 62 → m < N → (∀ k' g', k ≤ k' → k' ≤ v → yQ_fr j (j + 1) g g' → (if nI j = nI n then some 0 else f_Mo_greatest g' (nI u) (nI j) (nI k') (nI v)) = some (yP_s 1000000000000 (R k'))) → ∃ g', (∀ k8, f_Mo_sumOf_L39 k8 N g (nI u) (nI n) (nI j) (nI v) (nI k) = k8 g' (nI u) (nI n) (nI j - 1)) ∧ (∀ k', k ≤ k' → k' < 62 → g'.2.2 113 (62 * j + k') = yP_s 1000000000000 (R k')) ∧ (∀ x, x < 62 * j + k → g'.2.2 113 x = g.2.2 113 x) ∧ yQ_fr j (j + 1) g g' := by
  intro m
  induction m with
  | zero =>
    intro k N g hk hN H
    obtain ⟨N, rfl⟩ : ∃ z, N = z + 1 := ⟨N - 1, by omega⟩
    refine ⟨g, fun k8 => ?_, fun k' h1 h2 => by omega, fun _ _ => rfl, yQ_fr0⟩
    show f_Mo_sumOf_39 k8 (f_Mo_sumOf_L39 k8 N) g _ _ _ _ (nI k) = _
    unfold f_Mo_sumOf_39
    rw [if_pos ((zc_le (k := 62) (by decide) (by omega)).mpr (by omega)), show nI j + (-1) = nI j - 1 from (Int32.sub_eq_add_neg _ _).symm]
  | succ m ih =>
    intro k N g hk hN H
    obtain ⟨N, rfl⟩ : ∃ z, N = z + 1 := ⟨N - 1, by omega⟩
    obtain ⟨g1, hg1⟩ : ∃ g1, g1 = zs_uL g 113 (62 * j + k) (yP_s 1000000000000 (R k)) := ⟨_, rfl⟩
    have f1 : yQ_fr j (j + 1) g g1 := by
      rw [hg1]
      refine ⟨rfl, rfl, fun a x q => ?_⟩
      exact zu_LL.trans (if_neg fun z => by rcases q with q | q | q; exact q z.1; omega; omega)
    obtain ⟨g', e1, e2, e3, e4⟩ := ih (k + 1) N g1 (by omega) (by omega) (fun k' g' h1 h2 h3 => H k' g' (by omega) h2 (yQ_frt f1 h3 (Nat.le_refl _) (Nat.le_refl _) (Nat.le_refl _) (Nat.le_refl _)))
    refine ⟨g', fun k8 => ?_, fun k' h1 h2 => ?_, fun x hx => ?_, yQ_frt f1 e4 (Nat.le_refl _) (Nat.le_refl _) (Nat.le_refl _) (Nat.le_refl _)⟩
    · show f_Mo_sumOf_39 k8 (f_Mo_sumOf_L39 k8 N) g _ _ _ _ (nI k) = _
      have e89 : f_Mo_sumOf_89 k8 (f_Mo_sumOf_L39 k8 N) g (nI u) (nI n) (nI j) (nI v) (nI k) (yP_s 1000000000000 (R k)) (nI (62 * j + k)) = k8 g' (nI u) (nI n) (nI j - 1) := by
        unfold f_Mo_sumOf_89
        rw [if_pos (zi_in (by omega) (by omega)), nI_clamp (by omega), ← hg1, show nI k + 1 = nI (k + 1) from zc_ad 1 k]
        exact e1 k8
      unfold f_Mo_sumOf_39
      rw [if_neg (mt (zc_le (k := 62) (by decide) (by omega)).mp (by omega)), yQ_ix]
      by_cases z : k ≤ v
      · rw [if_pos ((nI_leI (by omega) (by omega)).mpr z)]
        have h := H k g (Nat.le_refl _) z yQ_fr0
        by_cases y : nI j = nI n
        · rw [if_pos y] at h ⊢
          rw [Option.some.inj h]
          exact e89
        · rw [if_neg y] at h ⊢
          rw [h, Option.bind_some]
          exact e89
      · rw [if_neg (mt (nI_leI (by omega) (by omega)).mp z)]
        rw [hR k (by omega)] at e89
        exact e89
    · by_cases z : k' = k
      · subst z
        rw [e3 _ (by omega), hg1]
        exact zu_LL.trans (if_pos ⟨rfl, rfl⟩)
      · exact e2 k' (by omega) h2
    · rw [e3 x (by omega), hg1]
      exact zu_LL.trans (if_neg fun z => by have := z.2; omega)
/-- a row of the sums -/
theorem yQ_step (hj : j ≤ n) (hn : n ≤ 4000) (hv : v < 62) (hu : u < 17) (hR : ∀ k, v < k → R k = none) (hl : j = n ∧ v = 0 ∨ (j < n ∧ (g.2.1 103) u = nI s ∧ s + n ≤ 4000 ∧ (g.2.1 108) (s + j) = nI v)) (H : ∀ k g', k ≤ v → yQ_fr j (j + 1) g g' → (if j = n then some 0 else f_Mo_greatest g' (nI u) (nI j) (nI k) (nI v)) = some (yP_s 1000000000000 (R k))) : ∃ g', (∀ N, f_Mo_sumOf_L8 (N + 1) g (nI u) (nI n) (nI (j + 1) - 1) = f_Mo_sumOf_L8 N g' (nI u) (nI n) (nI j - 1)) ∧ yQ_at g' j R ∧ yQ_fr j (j + 1) g g' := by
  have hz := zF_big
  obtain ⟨g', e1, e2, _, e4⟩ := yQ_39 (u := u) (R := R) (show j ≤ 4000 by omega) hv hn hR 62 0 zF g rfl (by omega) (fun k' g' _ h2 h3 => by
    have h := H k' g' h2 h3
    by_cases y : j = n
    · rw [if_pos y] at h
      rw [if_pos (by rw [y])]; exact h
    · rw [if_neg y] at h
      rw [if_neg (mt (nI_eq (by omega) (by omega)).mp y)]; exact h)
  refine ⟨g', fun N => ?_, fun k hk => e2 k (Nat.zero_le _) hk, e4⟩
  show f_Mo_sumOf_8 (f_Mo_sumOf_L8 N) g (nI u) (nI n) (nI (j + 1) - 1) = _
  unfold f_Mo_sumOf_8 f_Mo_sumOf_34
  rw [show nI (j + 1) - 1 = nI j from zi_sub (b := 1) (by omega), if_neg (mt (zc_tl (k := 0) (by decide) (by omega)).mp (by omega))]
  rcases hl with ⟨z1, z2⟩ | ⟨z1, z2, z3, z4⟩
  · rw [if_pos (by rw [z1])]
    have := e1 (f_Mo_sumOf_L8 N)
    rw [z2] at this
    exact this
  · rw [if_neg (mt (nI_eq (by omega) (by omega)).mp (by omega)), if_pos (zi_in (by omega) hu), nI_clamp (n := u) (by omega), z2, nI_add, if_pos (zi_in (by omega) (by omega)), nI_clamp (n := s + j) (by omega), z4]
    exact e1 (f_Mo_sumOf_L8 N)
def yQ_B (B : Nat → Nat) (b : Nat) (g : zs_H) : Prop := ∀ u, u < b → B u ≤ 1000000001 ∧ (1 : Int64) + g.2.2 109 u = lN (B u)
theorem yQ_Bf {bb : Nat} (b : yQ_B B bb g) (f : yQ_fr lo hi g g') : yQ_B B bb g' := by
  intro w hw
  rw [f.2.2 _ _ (.inl (by decide))]
  exact b w hw
/-- what the model does at an instruction -/
theorem yQ_one {i : yI} {lv bb : Nat} (hbb : bb ≤ 16) (hu : u < 17) (hb : (g.2.1 103) u = nI s) (hs : s + j < 4000) (hk : k < 62) (b : yQ_B B bb g) (m : yM_m s g (s + j) (i, lv)) (o : yP_o bb i) (a : yQ_at g (j + 1) R) : f_Mo_greatest g (nI u) (nI j) (nI k) (nI v) = some (yP_s 1000000000000 (yP_p (some (yP_w B i)) (R k))) := by
  obtain ⟨m1, m2, _⟩ := m
  obtain ⟨o1, o2⟩ := o
  have hi : i.1 < 2147483648 := by omega
  have ne : ∀ k : Nat, k < 19 → ¬ i.1 = k → ¬ nI i.1 = (OfNat.ofNat k : Int32) := fun k hk z q => z ((zc_eq (k := k) (by omega) hi).mp q)
  have m1' : (g.2.1 104) (s + j) = nI i.1 := m1
  have a' := a k hk
  unfold f_Mo_greatest
  simp only [if_pos (zi_in (show u < 2147483648 by omega) hu), nI_clamp (show u < 2147483648 by omega), hb, nI_add, if_pos (zi_in (show s + j < 2147483648 by omega) hs), nI_clamp (show s + j < 2147483648 by omega), m1', if_neg (ne 10 (by decide) (by omega)), if_neg (ne 11 (by decide) (by omega)), if_neg (ne 13 (by decide) (by omega)), if_neg (ne 14 (by decide) (by omega)), show nI j + 1 = nI (j + 1) from zc_ad 1 j, yQ_ix, if_pos (zi_in (show 62 * (j + 1) + k < 2147483648 by omega) (show 62 * (j + 1) + k < 248100 by omega)), nI_clamp (show 62 * (j + 1) + k < 2147483648 by omega), a', if_neg (ne 18 (by decide) (by omega))]
  by_cases z : i.1 = 15 ∨ i.1 = 16
  · obtain ⟨w, u1, u2⟩ := o2 z
    have ew : yP_w B i = B w := by
      unfold yP_w
      rw [if_pos z, u1, nI_clamp (by omega)]
    have ea : (g.2.1 105) (s + j) = nI w := by
      have : (g.2.1 105) (s + j) = yM_A s i := m2
      rw [this]
      unfold yM_A
      rw [if_neg (by omega), if_neg (by omega), u1]
    have fin : some (f_Mo_more ((1 : Int64) + g.2.2 109 w) (yP_s 1000000000000 (R k))) = some (yP_s 1000000000000 (yP_p (some (yP_w B i)) (R k))) := by
      rw [(b w u2).2, ew, yP_more (by have := (b w u2).1; omega)]
    rw [ea, if_pos (zi_in (by omega) (by omega)), nI_clamp (by omega)]
    rcases z with z | z
    · rw [if_pos (by rw [z]; rfl)]; exact fin
    · rw [if_neg (ne 15 (by decide) (by omega)), if_pos (by rw [z]; rfl)]; exact fin
  · have ew : yP_w B i = 1 := by unfold yP_w; rw [if_neg z]
    rw [if_neg (ne 15 (by decide) (fun y => z (.inl y))), if_neg (ne 16 (by decide) (fun y => z (.inr y))), ew]
    exact congrArg some (yP_more (w := 1) (by omega) (R k))
theorem yQ_go {i : yI} {lv t : Nat} (hu : u < 17) (hb : (g.2.1 103) u = nI s) (hs : s + j < 4000) (hk : k < 62) (m : yM_m s g (s + j) (i, lv)) (hi : i.1 = 10) (ha : i.2.1 = nI t) (ht : s ≤ t ∧ t ≤ 4000) (a : yQ_at g (t - s) R) : f_Mo_greatest g (nI u) (nI j) (nI k) (nI v) = some (yP_s 1000000000000 (yP_p (some 1) (R k))) := by
  have m1 : (g.2.1 104) (s + j) = 10 := by rw [show (g.2.1 104) (s + j) = nI i.1 from m.1, hi]; rfl
  have m2 : (g.2.1 105) (s + j) = nI (t - s) := by
    rw [show (g.2.1 105) (s + j) = yM_A s i from m.2.1]
    unfold yM_A
    rw [if_pos (.inl hi), ha, zi_sub ht.1]
  have a' := a k hk
  unfold f_Mo_greatest f_Mo_target
  simp only [if_pos (zi_in (show u < 2147483648 by omega) hu), nI_clamp (show u < 2147483648 by omega), hb, nI_add, if_pos (zi_in (show s + j < 2147483648 by omega) hs), nI_clamp (show s + j < 2147483648 by omega), m1, if_true, m2, Option.bind_some, yQ_ix, if_pos (zi_in (show 62 * (t - s) + k < 2147483648 by omega) (show 62 * (t - s) + k < 248100 by omega)), nI_clamp (show 62 * (t - s) + k < 2147483648 by omega), a']
  exact congrArg some (yP_more (w := 1) (by omega) (R k))
theorem yQ_leave {i : yI} {lv : Nat} (hu : u < 16) (hb : (g.2.1 103) u = nI s) (hb2 : (g.2.1 103) (u + 1) = nI (s + sz)) (hsz : s + sz ≤ 4000) (hs : s + j < 4000) (hk : k < 62) (m : yM_m s g (s + j) (i, lv)) (hi : i.1 = 18) (a : yQ_at g sz R) : f_Mo_greatest g (nI u) (nI j) (nI k) (nI v) = some (yP_s 1000000000000 (yP_p (some 1) (R k))) := by
  have m1 : (g.2.1 104) (s + j) = 18 := by rw [show (g.2.1 104) (s + j) = nI i.1 from m.1, hi]; rfl
  have a' := a k hk
  have n10 : ¬ (18 : Int32) = 10 := by decide
  have n11 : ¬ (18 : Int32) = 11 := by decide
  have n13 : ¬ (18 : Int32) = 13 := by decide
  have n14 : ¬ (18 : Int32) = 14 := by decide
  have n15 : ¬ (18 : Int32) = 15 := by decide
  have n16 : ¬ (18 : Int32) = 16 := by decide
  unfold f_Mo_greatest f_Mo_target f_Mo_sizeOf
  simp only [if_pos (zi_in (show u < 2147483648 by omega) (show u < 17 by omega)), nI_clamp (show u < 2147483648 by omega), hb, nI_add, if_pos (zi_in (show s + j < 2147483648 by omega) hs), nI_clamp (show s + j < 2147483648 by omega), m1, if_neg n10, if_neg n11, if_neg n13, if_neg n14, if_neg n15, if_neg n16, if_true, show nI u + 1 = nI (u + 1) from zc_ad 1 u, if_pos (zi_in (show u + 1 < 2147483648 by omega) (show u + 1 < 17 by omega)), nI_clamp (show u + 1 < 2147483648 by omega), hb2, show nI (s + sz) - nI s = nI sz by rw [zi_sub (by omega), Nat.add_sub_cancel_left], Option.bind_some, yQ_ix, if_pos (zi_in (show 62 * sz + k < 2147483648 by omega) (show 62 * sz + k < 248100 by omega)), nI_clamp (show 62 * sz + k < 2147483648 by omega), a']
  exact congrArg some (yP_more (w := 1) (by omega) (R k))
theorem yQ_unl {i : yI} {lv t : Nat} {R2 : Nat → Option Nat} (hu : u < 17) (hb : (g.2.1 103) u = nI s) (hs : s + j < 4000) (hk : k < 62) (m : yM_m s g (s + j) (i, lv)) (hi : i.1 = 11) (ha : i.2.1 = nI t) (ht : s ≤ t ∧ t ≤ 4000) (a : yQ_at g (j + 1) R) (a2 : yQ_at g (t - s) R2) : f_Mo_greatest g (nI u) (nI j) (nI k) (nI v) = some (yP_s 1000000000000 (yP_p (some 1) (yP_m (R k) (R2 k)))) := by
  have m1 : (g.2.1 104) (s + j) = 11 := by rw [show (g.2.1 104) (s + j) = nI i.1 from m.1, hi]; rfl
  have m2 : (g.2.1 105) (s + j) = nI (t - s) := by
    rw [show (g.2.1 105) (s + j) = yM_A s i from m.2.1]
    unfold yM_A
    rw [if_pos (.inr (.inl hi)), ha, zi_sub ht.1]
  have a' := a k hk
  have a2' := a2 k hk
  have n10 : ¬ (11 : Int32) = 10 := by decide
  unfold f_Mo_greatest
  simp only [if_pos (zi_in (show u < 2147483648 by omega) hu), nI_clamp (show u < 2147483648 by omega), hb, nI_add, if_pos (zi_in (show s + j < 2147483648 by omega) hs), nI_clamp (show s + j < 2147483648 by omega), m1, if_neg n10, if_true, m2, show nI j + 1 = nI (j + 1) from zc_ad 1 j, yQ_ix, if_pos (zi_in (show 62 * (j + 1) + k < 2147483648 by omega) (show 62 * (j + 1) + k < 248100 by omega)), nI_clamp (show 62 * (j + 1) + k < 2147483648 by omega), a', if_pos (zi_in (show 62 * (t - s) + k < 2147483648 by omega) (show 62 * (t - s) + k < 248100 by omega)), nI_clamp (show 62 * (t - s) + k < 2147483648 by omega), a2']
  rw [show (1 : Int64) = lN 1 from rfl, yP_more (w := 1) (by omega), yP_more (w := 1) (by omega), yP_mx (by decide), yP_pm]
theorem yQ_back {i : yI} {lv : Nat} (hu : u < 17) (hb : (g.2.1 103) u = nI s) (hs : s + j < 4000) (hk : k < 62) (hv : v < 62) (m : yM_m s g (s + j) (i, lv)) (hi : i.1 = 14) : f_Mo_greatest g (nI u) (nI j) (nI k) (nI v) = some (yP_s 1000000000000 (if k = v then some 1 else none)) := by
  have m1 : (g.2.1 104) (s + j) = 14 := by rw [show (g.2.1 104) (s + j) = nI i.1 from m.1, hi]; rfl
  have n10 : ¬ (14 : Int32) = 10 := by decide
  have n11 : ¬ (14 : Int32) = 11 := by decide
  have n13 : ¬ (14 : Int32) = 13 := by decide
  unfold f_Mo_greatest
  simp only [if_pos (zi_in (show u < 2147483648 by omega) hu), nI_clamp (show u < 2147483648 by omega), hb, nI_add, if_pos (zi_in (show s + j < 2147483648 by omega) hs), nI_clamp (show s + j < 2147483648 by omega), m1, if_neg n10, if_neg n11, if_neg n13, if_true]
  by_cases z : k = v
  · rw [if_pos (by rw [z]), if_pos z]; rfl
  · rw [if_neg (mt (nI_eq (by omega) (by omega)).mp z), if_neg z]; rfl
end YQM
