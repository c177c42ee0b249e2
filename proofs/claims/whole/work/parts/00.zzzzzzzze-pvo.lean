/-! The prover: the model's sums of all statements. -/
section YQO
variable {g g' : zs_H} {B X Y : Nat → Nat} {kb : Nat → yK} {Q R : Nat → Option Nat} {n j s u v sz lo hi k b : Nat} {c d : yP3}
def yQ_c (B : Nat → Nat) (b u s sz : Nat) (g : zs_H) : Prop := ((g.2.1 103) u = nI s ∧ (g.2.1 103) (u + 1) = nI (s + sz)) ∧ yQ_B B b g
theorem yQ_cf (f : yQ_fr lo hi g g') (c : yQ_c B b u s sz g) : yQ_c B b u s sz g' := ⟨by rw [f.2.1]; exact c.1, yQ_Bf c.2 f⟩
theorem yQ_mf {i : yJ} (f : yQ_fr lo hi g g') (m : yM_m s g n i) : yM_m s g' n i := by
  unfold yM_m at m ⊢
  rw [f.2.1]
  exact m
theorem yP_mn (x : Option Nat) : yP_m x none = x := by cases x <;> rfl
theorem yQ_dOne {i : yI} (hbb : b ≤ 16) (hsn : s ≤ n) (hn : n < s + sz) (hsz : s + sz ≤ 4000) (hu : u < 16) (hv : v < 62) (C : yQ_c B b u s sz g) (m : yM_m s g n (i, v)) (o : yP_o b i) (a : yQ_at g (n + 1 - s) (yP_R v Q c)) : ∃ g', yQ_sc g g' u sz s n 1 ∧ yQ_at g' (n - s) (yP_R v Q (yP_a (yP_w B i) c)) ∧ yQ_fr (n - s) (n + 1 - s) g g' := by
  refine yQ_do hsn hn hsz hu hv C.1.1 m (fun k hk => yP_Rn hk) (fun k g' hk f => ?_)
  have C' := yQ_cf f C
  rw [← yP_Ra]
  exact yQ_one hbb (by omega) C'.1.1 (by omega) (by omega) C'.2 (by rw [show s + (n - s) = n by omega]; exact yQ_mf f m) o (by rw [show n - s + 1 = n + 1 - s by omega]; exact yQ_atf f (.inr (by omega)) a)
theorem yQ_dGo {i : yI} {t : Nat} (hsn : s ≤ n) (hn : n < s + sz) (hsz : s + sz ≤ 4000) (hu : u < 16) (hv : v < 62) (C : yQ_c B b u s sz g) (m : yM_m s g n (i, v)) (hi : i.1 = 10) (ha : i.2.1 = nI t) (ht : n < t ∧ t ≤ 4000) (hR : ∀ k, v < k → yP_p (some 1) (R k) = none) (a : yQ_at g (t - s) R) : ∃ g', yQ_sc g g' u sz s n 1 ∧ yQ_at g' (n - s) (fun k => yP_p (some 1) (R k)) ∧ yQ_fr (n - s) (n + 1 - s) g g' := by
  refine yQ_do hsn hn hsz hu hv C.1.1 m (fun k hk => hR k hk) (fun k g' hk f => ?_)
  have C' := yQ_cf f C
  exact yQ_go (by omega) C'.1.1 (by omega) (by omega) (by rw [show s + (n - s) = n by omega]; exact yQ_mf f m) hi ha (by omega) (yQ_atf f (.inr (by omega)) a)
theorem yQ_dLeave {i : yI} (hsn : s ≤ n) (hn : n < s + sz) (hsz : s + sz ≤ 4000) (hu : u < 16) (hv : v < 62) (C : yQ_c B b u s sz g) (m : yM_m s g n (i, v)) (hi : i.1 = 18) (a : yQ_at g sz (fun k => if k = 0 then some 0 else none)) : ∃ g', yQ_sc g g' u sz s n 1 ∧ yQ_at g' (n - s) (yP_R v Q (none, none, some 1)) ∧ yQ_fr (n - s) (n + 1 - s) g g' := by
  refine yQ_do hsn hn hsz hu hv C.1.1 m (fun k hk => yP_Rn hk) (fun k g' hk f => ?_)
  have C' := yQ_cf f C
  rw [yQ_leave (R := fun k => if k = 0 then some 0 else none) hu C'.1.1 C'.1.2 hsz (by omega) (by omega) (by rw [show s + (n - s) = n by omega]; exact yQ_mf f m) hi (yQ_atf f (.inr (by omega)) a)]
  have e : yP_p (some 1) (if k = 0 then some 0 else none) = yP_R v Q (none, none, some 1) k := by
    unfold yP_R
    rw [if_neg (show ¬ v < k by omega)]
    by_cases z : k = 0
    · rw [if_pos z]
      by_cases y : k = v
      · rw [if_pos y, if_pos (by omega)]; rfl
      · rw [if_neg y, if_pos z]; rfl
    · rw [if_neg z]
      by_cases y : k = v
      · rw [if_pos y, if_neg (by omega)]; rfl
      · rw [if_neg y, if_neg z]; rfl
  rw [← e]
theorem yQ_dBack {i : yI} (hsn : s ≤ n) (hn : n < s + sz) (hsz : s + sz ≤ 4000) (hu : u < 16) (hv : v + 1 < 62) (C : yQ_c B b u s sz g) (m : yM_m s g n (i, v + 1)) (hi : i.1 = 14) : ∃ g', yQ_sc g g' u sz s n 1 ∧ yQ_at g' (n - s) (yP_R (v + 1) Q (some 1, none, none)) ∧ yQ_fr (n - s) (n + 1 - s) g g' := by
  refine yQ_do hsn hn hsz hu hv C.1.1 m (fun k hk => yP_Rn hk) (fun k g' hk f => ?_)
  have C' := yQ_cf f C
  rw [yQ_back (by omega) C'.1.1 (by omega) (by omega) (by omega) (by rw [show s + (n - s) = n by omega]; exact yQ_mf f m) hi]
  have e : (if k = v + 1 then some 1 else none) = yP_R (v + 1) Q (some 1, none, none) k := by
    unfold yP_R
    rw [if_neg (show ¬ v + 1 < k by omega)]
    by_cases y : k = v + 1
    · rw [if_pos y, if_pos y, if_neg (by omega)]
    · rw [if_neg y, if_neg y]
      by_cases z : k = 0
      · rw [if_pos z]; rfl
      · rw [if_neg z]; rfl
  rw [← e]
theorem yQ_dUnl {i : yI} {t : Nat} (hsn : s ≤ n) (hn : n < s + sz) (hsz : s + sz ≤ 4000) (hu : u < 16) (hv : v < 62) (C : yQ_c B b u s sz g) (m : yM_m s g n (i, v)) (hi : i.1 = 11) (ha : i.2.1 = nI t) (ht : n < t ∧ t ≤ 4000) (a : yQ_at g (n + 1 - s) (yP_R v Q c)) (a2 : yQ_at g (t - s) (yP_R v Q d)) : ∃ g', yQ_sc g g' u sz s n 1 ∧ yQ_at g' (n - s) (yP_R v Q (yP_a 1 (yP_x c d))) ∧ yQ_fr (n - s) (n + 1 - s) g g' := by
  refine yQ_do hsn hn hsz hu hv C.1.1 m (fun k hk => yP_Rn hk) (fun k g' hk f => ?_)
  have C' := yQ_cf f C
  rw [← yP_Ra, ← yP_Rx]
  exact yQ_unl (by omega) C'.1.1 (by omega) (by omega) (by rw [show s + (n - s) = n by omega]; exact yQ_mf f m) hi ha (by omega) (by rw [show n - s + 1 = n + 1 - s by omega]; exact yQ_atf f (.inr (by omega)) a) (yQ_atf f (.inr (by omega)) a2)
theorem yQ_dNext {i i0 : yI} {t M : Nat} (hsn : s ≤ n) (hn : n + 1 < s + sz) (hsz : s + sz ≤ 4000) (hu : u < 16) (hv : v < 61) (C : yQ_c B b u s sz g) (m0 : yM_m s g n (i0, v)) (m : yM_m s g (n + 1) (i, v)) (h0 : i0.1 = 12) (hb0 : i0.2.2.1 = nI M) (hM : M ≤ 1000000) (hi : i.1 = 13) (ha : i.2.1 = nI t) (ht : n + 1 < t ∧ t ≤ 4000) (a : yQ_at g (n + 2 - s) (yP_R (v + 1) (yP_R v Q d) c)) (a2 : yQ_at g (t - s) (yP_R v Q d)) : ∃ g', yQ_sc g g' u sz s (n + 1) 1 ∧ yQ_at g' (n + 1 - s) (yP_R v Q (yP_N M c d)) ∧ yQ_fr (n + 1 - s) (n + 2 - s) g g' := by
  refine yQ_do (n := n + 1) (by omega) hn hsz hu (by omega) C.1.1 m (fun k hk => yP_Rn hk) (fun k g' hk f => ?_)
  have C' := yQ_cf f C
  have h := yQ_next (g := g') (s := s) (u := u) (v := v) (k := k) (j := n - s) (M := M) (t := t) (R := yP_R (v + 1) (yP_R v Q d) c) (R2 := yP_R v Q d) (i0 := i0) (i := i) (lv0 := v) (lv := v) (by omega) C'.1.1 (by omega) hk hv (by rw [show s + (n - s) = n by omega]; exact yQ_mf f m0) (by rw [show s + (n - s + 1) = n + 1 by omega]; exact yQ_mf f m) h0 hb0 hM hi ha (by omega) (by rw [show n - s + 2 = n + 2 - s by omega]; exact yQ_atf f (.inr (by omega)) a) (yQ_atf f (.inr (by omega)) a2)
  rw [show n + 1 - s = n - s + 1 by omega, h]
  by_cases z : M = 0
  · rw [if_pos z, show yP_N M c d = yP_a 1 d from if_pos z, yP_Ra]
  · rw [if_neg z, yP_RN z hk]
theorem yQ_str (hbb : b ≤ 16) (hsz : s + sz ≤ 4000) (hu : u < 16) (hv : v < 62) : ∀ (L : List yI) (n : Nat) (g : zs_H), s ≤ n → n + L.length ≤ s + sz → (∀ i, i ∈ L → yP_o b i) → yQ_c B b u s sz g → yQ_K g s n (yv v L) → yQ_at g (n + L.length - s) (yP_R v Q c) → ∃ g', yQ_sc g g' u sz s n L.length ∧ yQ_at g' (n - s) (yP_R v Q (yP_L B L c)) ∧ yQ_fr (n - s) (n + L.length - s) g g' := by
  intro L
  induction L with
  | nil => intro n g _ _ _ _ _ a; exact ⟨g, fun _ => rfl, a, yQ_fr0⟩
  | cons i L ih =>
    intro n g hs hn ho C K a
    have el : n + (i :: L).length = n + 1 + L.length := by rw [List.length_cons]; omega
    rw [el] at hn a
    obtain ⟨g1, e1, e2, e3⟩ := ih (n + 1) g (by omega) hn (fun j hj => ho j (List.mem_cons_of_mem _ hj)) C (yQ_Kr (L1 := [(i, v)]) K) a
    obtain ⟨g2, d1, d2, d3⟩ := yQ_dOne hbb (Q := Q) (c := yP_L B L c) hs (by omega) hsz hu hv (yQ_cf e3 C) (yQ_Kf e3 K 0 (i, v) rfl) (ho i (List.mem_cons_self ..)) e2
    refine ⟨g2, yQ_sct e1 d1 (by rw [List.length_cons]; omega), d2, ?_⟩
    rw [el]
    exact yQ_frt e3 d3 (by omega) (by omega) (by omega) (by omega)
end YQO
