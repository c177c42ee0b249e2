/-! The prover: the class's sums. -/
/-- how many steps an instruction takes: B u of unit u's beginning -/
def yP_w (B : Nat → Nat) (i : yI) : Nat := if i.1 = 15 ∨ i.1 = 16 then B i.2.1.toNatClampNeg else 1
def yP_L (B : Nat → Nat) : List yI → yP3 → yP3
  | [], c => c
  | i :: L, c => yP_a (yP_w B i) (yP_L B L c)
/-- from the beginning of T on: c from its end on, E from behind a choice on -/
def yP_T (B : Nat → Nat) : ys → yP3 → yP3 → yP3
  | .leaf, _, c => c
  | .inner k p _ l r, E, c =>
    if k = 0 then yP_L B p.1 (yP_T B r E c)
    else if k = 1 then yP_T B l (yP_T B r E c) (yP_T B r E c)
    else if k = 2 then yP_a 1 (yP_N p.2.2.toNatClampNeg (yP_T B l (none, none, none) (some 1, none, none)) (yP_T B r E c))
    else if k = 3 then (none, some 1, none)
    else if k = 4 then (none, none, some 1)
    else if k = 5 then yP_L B p.1 (yP_a 1 (yP_x (yP_T B l (none, none, none) (if yz_f r = true then yP_T B r E c else yP_a 1 E)) (yP_T B r E c)))
    else yP_T B l (none, none, none) (yP_T B r E c)
/-- code lies at n -/
def yP_K (h : zs_H) (n : Nat) (L : List yI) : Prop := ∀ k i, L[k]? = some i → yC_m h (n + k) i
def yP_at (h : zs_H) (j : Nat) (c : yP3) : Prop := h.2.2 54 j = yP_s 1099511627776 c.1 ∧ h.2.2 55 j = yP_s 1099511627776 c.2.1 ∧ h.2.2 56 j = yP_s 1099511627776 c.2.2
/-- what stays -/
def yP_fr (lo hi v : Nat) (h h' : zs_H) : Prop := (∀ a b, h'.1 a b = h.1 a b) ∧ (∀ a j, (a = 57 → j < v) → h'.2.1 a j = h.2.1 a j) ∧ (∀ a j, ¬ a ∈ [54, 55, 56] ∨ j < lo ∨ hi ≤ j → h'.2.2 a j = h.2.2 a j)
theorem yP_fr0 {lo hi v : Nat} {h : zs_H} : yP_fr lo hi v h h := ⟨fun _ _ => rfl, fun _ _ _ => rfl, fun _ _ _ => rfl⟩
theorem yP_frt {lo hi v lo1 hi1 v1 lo2 hi2 v2 : Nat} {h h1 h2 : zs_H} (a : yP_fr lo1 hi1 v1 h h1) (b : yP_fr lo2 hi2 v2 h1 h2) (l1 : lo ≤ lo1) (l2 : hi1 ≤ hi) (l3 : v ≤ v1) (m1 : lo ≤ lo2) (m2 : hi2 ≤ hi) (m3 : v ≤ v2) : yP_fr lo hi v h h2 := by
  refine ⟨fun x y => (b.1 x y).trans (a.1 x y), fun x j q => (b.2.1 x j (fun z => by have := q z; omega)).trans (a.2.1 x j (fun z => by have := q z; omega)), fun x j q => ?_⟩
  have q1 : ¬ x ∈ [54, 55, 56] ∨ j < lo1 ∨ hi1 ≤ j := by rcases q with q | q | q; exact .inl q; exact .inr (.inl (by omega)); exact .inr (.inr (by omega))
  have q2 : ¬ x ∈ [54, 55, 56] ∨ j < lo2 ∨ hi2 ≤ j := by rcases q with q | q | q; exact .inl q; exact .inr (.inl (by omega)); exact .inr (.inr (by omega))
  exact (b.2.2 x j q2).trans (a.2.2 x j q1)
section YPC
variable {h h' : zs_H} {B : Nat → Nat} {n j s N v lo hi : Nat} {c d : yP3} {L L1 L2 : List yI}
theorem yP_Kf (f : yP_fr lo hi v h h') (K : yP_K h n L) : yP_K h' n L := by
  intro k i e
  have q := K k i e
  unfold yC_m at q ⊢
  rw [f.2.1 _ _ (by intro z; cases z), f.2.1 _ _ (by intro z; cases z), f.2.1 _ _ (by intro z; cases z), f.2.1 _ _ (by intro z; cases z)]
  exact q
theorem yP_Kl (K : yP_K h n (L1 ++ L2)) : yP_K h n L1 := by
  intro k i e
  refine K k i ?_
  rw [List.getElem?_append_left (by
    rcases Nat.lt_or_ge k L1.length with z | z
    · exact z
    · rw [List.getElem?_eq_none z] at e; cases e)]
  exact e
theorem yP_Kr (K : yP_K h n (L1 ++ L2)) : yP_K h (n + L1.length) L2 := by
  intro k i e
  have := K (L1.length + k) i (by rw [List.getElem?_append_right (Nat.le_add_right _ _), Nat.add_sub_cancel_left]; exact e)
  rwa [← Nat.add_assoc] at this
theorem yP_atf (f : yP_fr lo hi v h h') (q : j < lo ∨ hi ≤ j) (a : yP_at h j c) : yP_at h' j c := by
  unfold yP_at at a ⊢
  rw [f.2.2 _ _ (.inr q), f.2.2 _ _ (.inr q), f.2.2 _ _ (.inr q)]
  exact a
theorem yP_tell (hj : j < 4001) : ∃ h', f_Pv_tell h (nI j) (yP_s 1099511627776 c.1) (yP_s 1099511627776 c.2.1) (yP_s 1099511627776 c.2.2) = some h' ∧ yP_at h' j c ∧ yP_fr j (j + 1) v h h' := by
  unfold f_Pv_tell
  rw [if_pos (zi_in (by omega) hj), nI_clamp (by omega)]
  refine ⟨_, rfl, ⟨?_, ?_, ?_⟩, fun _ _ => rfl, fun _ _ _ => rfl, fun a k q => ?_⟩
  · rw [zu_LL, if_neg (fun z => absurd z.1 (by decide)), zu_LL, if_neg (fun z => absurd z.1 (by decide)), zu_LL, if_pos ⟨rfl, rfl⟩]
  · rw [zu_LL, if_neg (fun z => absurd z.1 (by decide)), zu_LL, if_pos ⟨rfl, rfl⟩]
  · rw [zu_LL, if_pos ⟨rfl, rfl⟩]
  · have q' : ∀ x, x ∈ [54, 55, 56] → ¬ (a = x ∧ k = j) := fun x hx z => by
      rcases q with q | q
      · exact q (by rw [z.1]; exact hx)
      · omega
    rw [zu_LL, if_neg (q' 56 (by decide)), zu_LL, if_neg (q' 55 (by decide)), zu_LL, if_neg (q' 54 (by decide))]
theorem yP_aft {w t : Nat} (hj : j < 4001) (ht : t < 4001) (hw : w ≤ 2000000000) (a : yP_at h t c) : ∃ h', f_Pv_proveAfter h (nI j) (lN w) (nI t) = some h' ∧ yP_at h' j (yP_a w c) ∧ yP_fr j (j + 1) v h h' := by
  obtain ⟨h', e1, e2, e3⟩ := yP_tell (h := h) (v := v) (c := yP_a w c) hj
  refine ⟨h', ?_, e2, e3⟩
  have ew : lN w = yP_s 1099511627776 (some w) := by show lN w = lN (min w 1099511627776); rw [Nat.min_eq_left (by omega)]
  unfold f_Pv_proveAfter
  rw [if_pos (zi_in (by omega) ht), nI_clamp (by omega), a.1, a.2.1, a.2.2, ew, yP_sum, yP_sum, yP_sum, Option.bind_fun_some]
  exact e1
/-- what the class does at an instruction -/
def yP_d (h : zs_H) (j : Nat) : Option zs_H := if (h.2.1 42) j = 10 then f_Pv_proveGo h (nI j) else if (h.2.1 42) j = 11 then f_Pv_proveUnless h (nI j) else if (h.2.1 42) j = 13 then f_Pv_proveNext h (nI j) else if (h.2.1 42) j = 14 then f_Pv_proveBack h (nI j) else if (h.2.1 42) j = 15 ∨ (h.2.1 42) j = 16 then (if zd_in ((h.2.1 43) j) 16 then f_Pv_proveAfter h (nI j) ((1 : Int64) + (h.2.1 52 ((h.2.1 43) j).toNatClampNeg).toInt64) (nI (j + 1)) else none) else if (h.2.1 42) j = 18 then f_Pv_tell h (nI j) (-1) (-1) 1 else f_Pv_proveAfter h (nI j) 1 (nI (j + 1))
theorem yP_step (hs : s ≤ j) (hj : j < 4000) (e : yP_d h j = some h') : f_Pv_longest_L21 (N + 1) h (nI s) (nI (j + 1) - 1) = f_Pv_longest_L21 N h' (nI s) (nI j - 1) := by
  show f_Pv_longest_21 (f_Pv_longest_L21 N) h (nI s) (nI (j + 1) - 1) = _
  have e1 : nI (j + 1) - 1 = nI j := zi_sub (b := 1) (by omega)
  have e2 : nI j + (-1) = nI j - 1 := (Int32.sub_eq_add_neg _ _).symm
  unfold yP_d at e
  unfold f_Pv_longest_21 f_Pv_longest_168
  rw [e1, if_neg (mt (nI_ltI (by omega) (by omega)).mp (by omega)), if_pos (zi_in (by omega) hj), nI_clamp (by omega), e2, show nI j + 1 = nI (j + 1) from zc_ad 1 j]
  by_cases a : (h.2.1 42) j = 10
  · rw [if_pos a] at e ⊢; rw [e]; rfl
  rw [if_neg a] at e ⊢
  by_cases a : (h.2.1 42) j = 11
  · rw [if_pos a] at e ⊢; rw [e]; rfl
  rw [if_neg a] at e ⊢
  by_cases a : (h.2.1 42) j = 13
  · rw [if_pos a] at e ⊢; rw [e]; rfl
  rw [if_neg a] at e ⊢
  by_cases a : (h.2.1 42) j = 14
  · rw [if_pos a] at e ⊢; rw [e]; rfl
  rw [if_neg a] at e ⊢
  by_cases a : (h.2.1 42) j = 15
  · rw [if_pos (.inl a)] at e
    rw [if_pos a]
    by_cases z : zd_in ((h.2.1 43) j) 16
    · rw [if_pos z] at e ⊢; rw [e]; rfl
    · rw [if_neg z] at e; cases e
  rw [if_neg a]
  by_cases a' : (h.2.1 42) j = 16
  · rw [if_pos (.inr a')] at e
    rw [if_pos a']
    by_cases z : zd_in ((h.2.1 43) j) 16
    · rw [if_pos z] at e ⊢; rw [e]; rfl
    · rw [if_neg z] at e; cases e
  rw [if_neg (fun z => z.elim a a')] at e
  rw [if_neg a']
  by_cases a : (h.2.1 42) j = 18
  · rw [if_pos a] at e ⊢; rw [e]; rfl
  rw [if_neg a] at e ⊢
  rw [e]; rfl
/-- instructions of straight code -/
def yP_o (b : Nat) (i : yI) : Prop := (i.1 < 10 ∨ i.1 = 12 ∨ i.1 = 15 ∨ i.1 = 16 ∨ i.1 = 17) ∧ (i.1 = 15 ∨ i.1 = 16 → ∃ u, i.2.1 = nI u ∧ u < b)
def yP_B (B : Nat → Nat) (b : Nat) (h : zs_H) : Prop := ∀ u, u < b → B u ≤ 1000000001 ∧ (1 : Int64) + (h.2.1 52 u).toInt64 = lN (B u)
theorem yP_Bf {bb : Nat} (b : yP_B B bb h) (f : yP_fr lo hi v h h') : yP_B B bb h' := by
  intro u hu
  rw [f.2.1 _ _ (by intro z; cases z)]
  exact b u hu
theorem yP_one {i : yI} {bb : Nat} (hbb : bb ≤ 16) (hj : j < 4000) (b : yP_B B bb h) (m : yC_m h j i) (o : yP_o bb i) (a : yP_at h (j + 1) c) : ∃ h', yP_d h j = some h' ∧ yP_at h' j (yP_a (yP_w B i) c) ∧ yP_fr j (j + 1) v h h' := by
  obtain ⟨m1, m2, _, _⟩ := m
  obtain ⟨o1, o2⟩ := o
  have hi : i.1 < 2147483648 := by omega
  have ne : ∀ k : Nat, k < 19 → ¬ i.1 = k → ¬ (h.2.1 42) j = (OfNat.ofNat k : Int32) := fun k hk z q => z ((zc_eq (k := k) (by omega) hi).mp (by rw [← m1]; exact q))
  unfold yP_d
  rw [if_neg (ne 10 (by decide) (by omega)), if_neg (ne 11 (by decide) (by omega)), if_neg (ne 13 (by decide) (by omega)), if_neg (ne 14 (by decide) (by omega))]
  by_cases z : i.1 = 15 ∨ i.1 = 16
  · obtain ⟨u, u1, u2⟩ := o2 z
    have z' : (h.2.1 42) j = 15 ∨ (h.2.1 42) j = 16 := by
      rcases z with z | z
      · left; rw [m1, z]; rfl
      · right; rw [m1, z]; rfl
    have ew : yP_w B i = B u := by
      unfold yP_w
      rw [if_pos z, u1, nI_clamp (by omega)]
    rw [if_pos z', m2, u1, if_pos (zi_in (by omega) (by omega)), nI_clamp (by omega), (b u u2).2, ew]
    exact yP_aft (by omega) (by omega) (by have := (b u u2).1; omega) a
  · have ew : yP_w B i = 1 := by unfold yP_w; rw [if_neg z]
    rw [if_neg (fun q => q.elim (ne 15 (by decide) (fun y => z (.inl y))) (ne 16 (by decide) (fun y => z (.inr y)))), if_neg (ne 18 (by decide) (by omega)), ew]
    exact yP_aft (w := 1) (by omega) (by omega) (by omega) a
theorem yP_str {bb : Nat} (hbb : bb ≤ 16) : ∀ (L : List yI) (n : Nat) (h : zs_H), s ≤ n → n + L.length ≤ 4000 → (∀ i, i ∈ L → yP_o bb i) → yP_B B bb h → yP_K h n L → yP_at h (n + L.length) c → ∃ h', (∀ N, f_Pv_longest_L21 (N + L.length) h (nI s) (nI (n + L.length) - 1) = f_Pv_longest_L21 N h' (nI s) (nI n - 1)) ∧ yP_at h' n (yP_L B L c) ∧ yP_fr n (n + L.length) v h h' := by
  intro L
  induction L with
  | nil => intro n h _ _ _ _ _ a; exact ⟨h, fun _ => rfl, a, yP_fr0⟩
  | cons i L ih =>
    intro n h hs hn ho b K a
    have el : n + (i :: L).length = n + 1 + L.length := by rw [List.length_cons]; omega
    rw [el] at hn a
    obtain ⟨h1, e1, e2, e3⟩ := ih (n + 1) h (by omega) hn (fun j hj => ho j (List.mem_cons_of_mem _ hj)) b (yP_Kr (L1 := [i]) K) a
    have m := yP_Kf e3 K 0 i rfl
    obtain ⟨h2, d1, d2, d3⟩ := yP_one hbb (B := B) (c := yP_L B L c) (v := v) (by omega) (yP_Bf b e3) m (ho i (List.mem_cons_self ..)) e2
    refine ⟨h2, fun N => ?_, d2, ?_⟩
    · rw [el, show N + (i :: L).length = (N + 1) + L.length by rw [List.length_cons]; omega, e1 (N + 1)]
      exact yP_step hs (by omega) d1
    · rw [el]
      exact yP_frt e3 d3 (by omega) (by omega) (Nat.le_refl _) (by omega) (by omega) (Nat.le_refl _)
end YPC
