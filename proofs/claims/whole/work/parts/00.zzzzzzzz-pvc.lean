/-! The prover: the class's sums. -/
/-- how many steps an instruction takes: B u of unit u's beginning -/
def yp_w (B : Nat → Nat) (i : yI) : Nat := if i.1 = 15 ∨ i.1 = 16 then B i.2.1.toNatClampNeg else 1
def yp_L (B : Nat → Nat) : List yI → yp3 → yp3
  | [], c => c
  | i :: L, c => yp_a (yp_w B i) (yp_L B L c)
/-- from the beginning of T on: c from its end on, E from behind a choice on -/
def yp_T (B : Nat → Nat) : ys → yp3 → yp3 → yp3
  | .leaf, _, c => c
  | .inner k p _ l r, E, c =>
    if k = 0 then yp_L B p.1 (yp_T B r E c)
    else if k = 1 then yp_T B l (yp_T B r E c) (yp_T B r E c)
    else if k = 2 then yp_a 1 (yp_N p.2.2.toNatClampNeg (yp_T B l (none, none, none) (some 1, none, none)) (yp_T B r E c))
    else if k = 3 then (none, some 1, none)
    else if k = 4 then (none, none, some 1)
    else if k = 5 then yp_L B p.1 (yp_a 1 (yp_x (yp_T B l (none, none, none) (if yz_f r = true then yp_T B r E c else yp_a 1 E)) (yp_T B r E c)))
    else yp_T B l (none, none, none) (yp_T B r E c)
/-- code lies at n -/
def yp_K (h : zs_H) (n : Nat) (L : List yI) : Prop := ∀ k i, L[k]? = some i → yC_m h (n + k) i
def yp_at (h : zs_H) (j : Nat) (c : yp3) : Prop := h.2.2 54 j = yp_s yp_C c.1 ∧ h.2.2 55 j = yp_s yp_C c.2.1 ∧ h.2.2 56 j = yp_s yp_C c.2.2
/-- what stays -/
def yp_fr (lo hi v : Nat) (h h' : zs_H) : Prop := (∀ a b, h'.1 a b = h.1 a b) ∧ (∀ a j, (a = 57 → j < v) → h'.2.1 a j = h.2.1 a j) ∧ (∀ a j, ¬ a ∈ [54, 55, 56] ∨ j < lo ∨ hi ≤ j → h'.2.2 a j = h.2.2 a j)
theorem yp_fr0 {lo hi v : Nat} {h : zs_H} : yp_fr lo hi v h h := ⟨fun _ _ => rfl, fun _ _ _ => rfl, fun _ _ _ => rfl⟩
theorem yp_frt {lo hi v lo1 hi1 v1 lo2 hi2 v2 : Nat} {h h1 h2 : zs_H} (a : yp_fr lo1 hi1 v1 h h1) (b : yp_fr lo2 hi2 v2 h1 h2) (l1 : lo ≤ lo1) (l2 : hi1 ≤ hi) (l3 : v ≤ v1) (m1 : lo ≤ lo2) (m2 : hi2 ≤ hi) (m3 : v ≤ v2) : yp_fr lo hi v h h2 := by
  refine ⟨fun x y => (b.1 x y).trans (a.1 x y), fun x j q => (b.2.1 x j (fun z => by have := q z; omega)).trans (a.2.1 x j (fun z => by have := q z; omega)), fun x j q => ?_⟩
  have q1 : ¬ x ∈ [54, 55, 56] ∨ j < lo1 ∨ hi1 ≤ j := by rcases q with q | q | q; exact .inl q; exact .inr (.inl (by omega)); exact .inr (.inr (by omega))
  have q2 : ¬ x ∈ [54, 55, 56] ∨ j < lo2 ∨ hi2 ≤ j := by rcases q with q | q | q; exact .inl q; exact .inr (.inl (by omega)); exact .inr (.inr (by omega))
  exact (b.2.2 x j q2).trans (a.2.2 x j q1)
section YPC
variable {h h' : zs_H} {B : Nat → Nat} {n j s N v lo hi : Nat} {c d : yp3} {L L1 L2 : List yI}
theorem yp_Kf (f : yp_fr lo hi v h h') (K : yp_K h n L) : yp_K h' n L := by
  intro k i e
  have q := K k i e
  unfold yC_m at q ⊢
  rw [f.2.1 _ _ (by intro z; cases z), f.2.1 _ _ (by intro z; cases z), f.2.1 _ _ (by intro z; cases z), f.2.1 _ _ (by intro z; cases z)]
  exact q
theorem yp_Kl (K : yp_K h n (L1 ++ L2)) : yp_K h n L1 := by
  intro k i e
  refine K k i ?_
  rw [List.getElem?_append_left (by
    rcases Nat.lt_or_ge k L1.length with z | z
    · exact z
    · rw [List.getElem?_eq_none z] at e; cases e)]
  exact e
theorem yp_Kr (K : yp_K h n (L1 ++ L2)) : yp_K h (n + L1.length) L2 := by
  intro k i e
  have := K (L1.length + k) i (by rw [List.getElem?_append_right (Nat.le_add_right _ _), Nat.add_sub_cancel_left]; exact e)
  rwa [← Nat.add_assoc] at this
theorem yp_atf (f : yp_fr lo hi v h h') (q : j < lo ∨ hi ≤ j) (a : yp_at h j c) : yp_at h' j c := by
  unfold yp_at at a ⊢
  rw [f.2.2 _ _ (.inr q), f.2.2 _ _ (.inr q), f.2.2 _ _ (.inr q)]
  exact a
theorem yp_tell (hj : j < 4001) : ∃ h', f_Pv_tell h (nI j) (yp_s yp_C c.1) (yp_s yp_C c.2.1) (yp_s yp_C c.2.2) = some h' ∧ yp_at h' j c ∧ yp_fr j (j + 1) v h h' := by
  unfold f_Pv_tell
  rw [if_pos (zi_in (by omega) hj), nI_clamp (by omega)]
  refine ⟨_, rfl, ⟨?_, ?_, ?_⟩, fun _ _ => rfl, fun _ _ _ => rfl, fun a k q => ?_⟩
  · rw [zu_LL, if_neg (by decide), zu_LL, if_neg (by decide), zu_LL, if_pos ⟨rfl, rfl⟩]
  · rw [zu_LL, if_neg (by decide), zu_LL, if_pos ⟨rfl, rfl⟩]
  · rw [zu_LL, if_pos ⟨rfl, rfl⟩]
  · have q' : ∀ x, x ∈ [54, 55, 56] → ¬ (a = x ∧ k = j) := fun x hx z => by
      rcases q with q | q
      · exact q (by rw [z.1]; exact hx)
      · omega
    rw [zu_LL, if_neg (q' 56 (by decide)), zu_LL, if_neg (q' 55 (by decide)), zu_LL, if_neg (q' 54 (by decide))]
theorem yp_aft {w t : Nat} (hj : j < 4001) (ht : t < 4001) (hw : w ≤ 2000000000) (a : yp_at h t c) : ∃ h', f_Pv_proveAfter h (nI j) (lN w) (nI t) = some h' ∧ yp_at h' j (yp_a w c) ∧ yp_fr j (j + 1) v h h' := by
  obtain ⟨h', e1, e2, e3⟩ := yp_tell (h := h) (v := v) (c := yp_a w c) hj
  refine ⟨h', ?_, e2, e3⟩
  have ew : lN w = yp_s yp_C (some w) := by show lN w = lN (min w yp_C); rw [Nat.min_eq_left (by omega)]
  unfold f_Pv_proveAfter
  rw [if_pos (zi_in (by omega) ht), nI_clamp (by omega), a.1, a.2.1, a.2.2, ew, yp_sum, yp_sum, yp_sum, Option.bind_fun_some]
  exact e1
/-- what the class does at an instruction -/
def yp_d (h : zs_H) (j : Nat) : Option zs_H := if (h.2.1 42) j = 10 then f_Pv_proveGo h (nI j) else if (h.2.1 42) j = 11 then f_Pv_proveUnless h (nI j) else if (h.2.1 42) j = 13 then f_Pv_proveNext h (nI j) else if (h.2.1 42) j = 14 then f_Pv_proveBack h (nI j) else if (h.2.1 42) j = 15 ∨ (h.2.1 42) j = 16 then (if zd_in ((h.2.1 43) j) 16 then f_Pv_proveAfter h (nI j) ((1 : Int64) + (h.2.1 52 ((h.2.1 43) j).toNatClampNeg).toInt64) (nI (j + 1)) else none) else if (h.2.1 42) j = 18 then f_Pv_tell h (nI j) (-1) (-1) 1 else f_Pv_proveAfter h (nI j) 1 (nI (j + 1))
theorem yp_step (hs : s ≤ j) (hj : j < 4000) (e : yp_d h j = some h') : f_Pv_longest_L21 (N + 1) h (nI s) (nI (j + 1) - 1) = f_Pv_longest_L21 N h' (nI s) (nI j - 1) := by
  show f_Pv_longest_21 (f_Pv_longest_L21 N) h (nI s) (nI (j + 1) - 1) = _
  have e1 : nI (j + 1) - 1 = nI j := zi_sub (b := 1) (by omega)
  have e2 : nI j + (-1) = nI j - 1 := (Int32.sub_eq_add_neg _ _).symm
  unfold yp_d at e
  unfold f_Pv_longest_21 f_Pv_longest_168
  rw [e1, if_neg (mt (nI_ltI (by omega) (by omega)).mp (by omega)), if_pos (zi_in (by omega) hj), nI_clamp (by omega), e2, show nI j + 1 = nI (j + 1) from zc_ad 1 j]
  by_cases a : (h.2.1 42) j = 10
  · rw [if_pos a] at e ⊢; rw [e]; rfl
  rw [if_neg a] at e ⊢
  by_cases a : (h.2.1 42) j = 11
  · rw [if_pos a] at e ⊢; rw [e]; rfl
  rw [if_neg a] at e ⊢
  by_cases a : (h.2.1 42) j = 13
  · rw [if_pos a] at e ⊢; rw [e]; rfl
  rw [if_neg a] at e ⊢
  by_cases a : (h.2.1 42) j = 14
  · rw [if_pos a] at e ⊢; rw [e]; rfl
  rw [if_neg a] at e ⊢
  by_cases a : (h.2.1 42) j = 15
  · rw [if_pos (.inl a)] at e
    rw [if_pos a]
    by_cases z : zd_in ((h.2.1 43) j) 16
    · rw [if_pos z] at e ⊢; rw [e]; rfl
    · rw [if_neg z] at e; cases e
  rw [if_neg a]
  by_cases a' : (h.2.1 42) j = 16
  · rw [if_pos (.inr a')] at e
    rw [if_pos a']
    by_cases z : zd_in ((h.2.1 43) j) 16
    · rw [if_pos z] at e ⊢; rw [e]; rfl
    · rw [if_neg z] at e; cases e
  rw [if_neg (fun z => z.elim a a')] at e
  rw [if_neg a']
  by_cases a : (h.2.1 42) j = 18
  · rw [if_pos a] at e ⊢; rw [e]; rfl
  rw [if_neg a] at e ⊢
  rw [e]; rfl
/-- instructions of straight code -/
def yp_o (i : yI) : Prop := (i.1 < 10 ∨ i.1 = 12 ∨ i.1 = 15 ∨ i.1 = 16 ∨ i.1 = 17) ∧ (i.1 = 15 ∨ i.1 = 16 → ∃ u, i.2.1 = nI u ∧ u < 16)
def yp_B (B : Nat → Nat) (h : zs_H) : Prop := ∀ u, u < 16 → B u ≤ 1000000001 ∧ (1 : Int64) + (h.2.1 52 u).toInt64 = lN (B u)
theorem yp_Bf (b : yp_B B h) (f : yp_fr lo hi v h h') : yp_B B h' := by
  intro u hu
  rw [f.2.1 _ _ (by intro z; cases z)]
  exact b u hu
theorem yp_one {i : yI} (hj : j < 4000) (b : yp_B B h) (m : yC_m h j i) (o : yp_o i) (a : yp_at h (j + 1) c) : ∃ h', yp_d h j = some h' ∧ yp_at h' j (yp_a (yp_w B i) c) ∧ yp_fr j (j + 1) v h h' := by
  obtain ⟨m1, m2, _, _⟩ := m
  obtain ⟨o1, o2⟩ := o
  have hi : i.1 < 2147483648 := by omega
  have ne : ∀ k : Nat, k < 19 → ¬ i.1 = k → ¬ (h.2.1 42) j = (OfNat.ofNat k : Int32) := fun k hk z q => z ((zc_eq (k := k) (by omega) hi).mp (by rw [← m1]; exact q))
  unfold yp_d
  rw [if_neg (ne 10 (by decide) (by omega)), if_neg (ne 11 (by decide) (by omega)), if_neg (ne 13 (by decide) (by omega)), if_neg (ne 14 (by decide) (by omega))]
  by_cases z : i.1 = 15 ∨ i.1 = 16
  · obtain ⟨u, u1, u2⟩ := o2 z
    have z' : (h.2.1 42) j = 15 ∨ (h.2.1 42) j = 16 := by
      rcases z with z | z
      · left; rw [m1, z]; rfl
      · right; rw [m1, z]; rfl
    have ew : yp_w B i = B u := by
      unfold yp_w
      rw [if_pos z, u1, nI_clamp (by omega)]
    rw [if_pos z', m2, u1, if_pos (zi_in (by omega) u2), nI_clamp (by omega), (b u u2).2, ew]
    exact yp_aft (by omega) (by omega) (by have := (b u u2).1; omega) a
  · have ew : yp_w B i = 1 := by unfold yp_w; rw [if_neg z]
    rw [if_neg (fun q => q.elim (ne 15 (by decide) (fun y => z (.inl y))) (ne 16 (by decide) (fun y => z (.inr y)))), if_neg (ne 18 (by decide) (by omega)), ew]
    exact yp_aft (w := 1) (by omega) (by omega) (by omega) a
theorem yp_str : ∀ (L : List yI) (n : Nat) (h : zs_H), s ≤ n → n + L.length ≤ 4000 → (∀ i, i ∈ L → yp_o i) → yp_B B h → yp_K h n L → yp_at h (n + L.length) c → ∃ h', (∀ N, f_Pv_longest_L21 (N + L.length) h (nI s) (nI (n + L.length) - 1) = f_Pv_longest_L21 N h' (nI s) (nI n - 1)) ∧ yp_at h' n (yp_L B L c) ∧ yp_fr n (n + L.length) v h h' := by
  intro L
  induction L with
  | nil => intro n h _ _ _ _ _ a; exact ⟨h, fun _ => rfl, a, yp_fr0⟩
  | cons i L ih =>
    intro n h hs hn ho b K a
    have el : n + (i :: L).length = n + 1 + L.length := by rw [List.length_cons]; omega
    rw [el] at hn a
    obtain ⟨h1, e1, e2, e3⟩ := ih (n + 1) h (by omega) hn (fun j hj => ho j (List.mem_cons_of_mem _ hj)) b (yp_Kr (L1 := [i]) K) a
    have m := yp_Kf e3 K 0 i rfl
    obtain ⟨h2, d1, d2, d3⟩ := yp_one (B := B) (c := yp_L B L c) (v := v) (by omega) (yp_Bf b e3) m (ho i (List.mem_cons_self ..)) e2
    refine ⟨h2, fun N => ?_, d2, ?_⟩
    · rw [el, show N + (i :: L).length = (N + 1) + L.length by rw [List.length_cons]; omega, e1 (N + 1)]
      exact yp_step hs (by omega) d1
    · rw [el]
      exact yp_frt e3 d3 (by omega) (by omega) (Nat.le_refl _) (by omega) (by omega) (Nat.le_refl _)
end YPC
