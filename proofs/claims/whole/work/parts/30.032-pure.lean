section
/-! The coder: what statements mean for the code. -/
/-- 0: instructions, 1: a choice (its branches on the left), 2: a loop (its body on the left), 3: out of the loop, 4: out of the unit; 5: a branch (its condition, its body, the next ones), 6: the last branch (no condition) -/
abbrev ys : Type := Std.DTreeMap.Internal.Impl (List yI × Int32 × Int32) (fun _ => Unit)
def yz_f : ys → Bool
  | .leaf => true
  | .inner _ _ _ _ _ => false
def yz_l : ys → Nat
  | .leaf => 0
  | .inner k p _ l r => (if k = 0 then p.1.length else if k = 1 then yz_l l else if k = 2 then 3 + yz_l l else if k = 3 then 1 else if k = 4 then 1 else if k = 5 then p.1.length + 1 + yz_l l + (if yz_f r = true then 0 else 1) else yz_l l) + yz_l r
/-- the code, from n on, in v loops; q: behind the loop, e: behind the choice -/
def yz_c : ys → Nat → Nat → Nat → Nat → List yJ
  | .leaf, _, _, _, _ => []
  | .inner k p _ l r, n, v, q, e =>
    if k = 0 then yv v p.1 ++ yz_c r (n + p.1.length) v q e
    else if k = 1 then yz_c l n v q (n + yz_l l) ++ yz_c r (n + yz_l l) v q e
    else if k = 2 then [((12, p.2.1, p.2.2, 0), v)] ++ ([((13, nI (n + (3 + yz_l l)), p.2.1, 0), v)] ++ (yz_c l (n + 2) (v + 1) (n + (3 + yz_l l)) 0 ++ ([((14, nI (n + 1), 0, 0), v + 1)] ++ yz_c r (n + (3 + yz_l l)) v q e)))
    else if k = 3 then [((10, nI q, 0, 0), v)] ++ yz_c r (n + 1) v q e
    else if k = 4 then [((18, 0, 0, 0), v)] ++ yz_c r (n + 1) v q e
    else if k = 5 then yv v p.1 ++ ([((11, nI (n + (p.1.length + 1 + yz_l l + (if yz_f r = true then 0 else 1))), 0, 0), v)] ++ (yz_c l (n + p.1.length + 1) v q 0 ++ ((if yz_f r = true then [] else [((10, nI e, 0, 0), v)]) ++ yz_c r (n + (p.1.length + 1 + yz_l l + (if yz_f r = true then 0 else 1))) v q e)))
    else yz_c l n v q 0 ++ yz_c r (n + yz_l l) v q e
/-- where it leaves the loop, the last place first -/
def yz_x : ys → Nat → List Nat
  | .leaf, _ => []
  | .inner k p _ l r, n =>
    if k = 0 then yz_x r (n + p.1.length)
    else if k = 1 then yz_x r (n + yz_l l) ++ yz_x l n
    else if k = 2 then yz_x r (n + (3 + yz_l l))
    else if k = 3 then yz_x r (n + 1) ++ [n]
    else if k = 4 then yz_x r (n + 1)
    else if k = 5 then yz_x r (n + (p.1.length + 1 + yz_l l + (if yz_f r = true then 0 else 1))) ++ yz_x l (n + p.1.length + 1)
    else yz_x r (n + yz_l l) ++ yz_x l n
/-- where a branch goes behind the choice, the last place first -/
def yz_g : ys → Nat → List Nat
  | .leaf, _ => []
  | .inner k p _ l r, n =>
    if k = 5 then yz_g r (n + (p.1.length + 1 + yz_l l + (if yz_f r = true then 0 else 1))) ++ (if yz_f r = true then [] else [n + p.1.length + 1 + yz_l l])
    else []
theorem yz_len : ∀ (t : ys) (n v q e : Nat), (yz_c t n v q e).length = yz_l t := by
  intro t
  induction t with
  | leaf => intro n v q e; rfl
  | inner k p o l r ihl ihr =>
    intro n v q e
    show (if k = 0 then _ else if k = 1 then _ else if k = 2 then _ else if k = 3 then _ else if k = 4 then _ else if k = 5 then _ else _ : List yJ).length = (if k = 0 then p.1.length else if k = 1 then yz_l l else if k = 2 then 3 + yz_l l else if k = 3 then 1 else if k = 4 then 1 else if k = 5 then p.1.length + 1 + yz_l l + (if yz_f r = true then 0 else 1) else yz_l l) + yz_l r
    by_cases k0 : k = 0
    · rw [if_pos k0, if_pos k0, List.length_append, yv_len, ihr]
    rw [if_neg k0, if_neg k0]
    by_cases k1 : k = 1
    · rw [if_pos k1, if_pos k1, List.length_append, ihl, ihr]
    rw [if_neg k1, if_neg k1]
    by_cases k2 : k = 2
    · rw [if_pos k2, if_pos k2, List.length_append, List.length_append, List.length_append, List.length_append, ihl, ihr]
      show 1 + (1 + (yz_l l + (1 + yz_l r))) = _
      omega
    rw [if_neg k2, if_neg k2]
    by_cases k3 : k = 3
    · rw [if_pos k3, if_pos k3, List.length_append, ihr]; rfl
    rw [if_neg k3, if_neg k3]
    by_cases k4 : k = 4
    · rw [if_pos k4, if_pos k4, List.length_append, ihr]; rfl
    rw [if_neg k4, if_neg k4]
    by_cases k5 : k = 5
    · rw [if_pos k5, if_pos k5, List.length_append, List.length_append, List.length_append, List.length_append, ihl, ihr, yv_len]
      have : (if yz_f r = true then ([] : List yJ) else [((10, nI e, 0, 0), v)]).length = if yz_f r = true then 0 else 1 := by split <;> rfl
      rw [this]
      show p.1.length + (1 + (yz_l l + ((if yz_f r = true then 0 else 1) + yz_l r))) = _
      omega
    rw [if_neg k5, if_neg k5, List.length_append, ihl, ihr]
theorem yz_xr : ∀ (t : ys) (n j : Nat), j ∈ yz_x t n → n ≤ j ∧ j < n + yz_l t := by
  intro t
  induction t with
  | leaf => intro n j hj; cases hj
  | inner k p o l r ihl ihr =>
    intro n j hj
    have hj' : j ∈ (if k = 0 then yz_x r (n + p.1.length) else if k = 1 then yz_x r (n + yz_l l) ++ yz_x l n else if k = 2 then yz_x r (n + (3 + yz_l l)) else if k = 3 then yz_x r (n + 1) ++ [n] else if k = 4 then yz_x r (n + 1) else if k = 5 then yz_x r (n + (p.1.length + 1 + yz_l l + (if yz_f r = true then 0 else 1))) ++ yz_x l (n + p.1.length + 1) else yz_x r (n + yz_l l) ++ yz_x l n) := hj
    show n ≤ j ∧ j < n + ((if k = 0 then p.1.length else if k = 1 then yz_l l else if k = 2 then 3 + yz_l l else if k = 3 then 1 else if k = 4 then 1 else if k = 5 then p.1.length + 1 + yz_l l + (if yz_f r = true then 0 else 1) else yz_l l) + yz_l r)
    by_cases k0 : k = 0
    · rw [if_pos k0] at hj' ⊢; have := ihr _ _ hj'; omega
    rw [if_neg k0] at hj' ⊢
    by_cases k1 : k = 1
    · rw [if_pos k1] at hj' ⊢
      rcases List.mem_append.mp hj' with z | z
      · have := ihr _ _ z; omega
      · have := ihl _ _ z; omega
    rw [if_neg k1] at hj' ⊢
    by_cases k2 : k = 2
    · rw [if_pos k2] at hj' ⊢; have := ihr _ _ hj'; omega
    rw [if_neg k2] at hj' ⊢
    by_cases k3 : k = 3
    · rw [if_pos k3] at hj' ⊢
      rcases List.mem_append.mp hj' with z | z
      · have := ihr _ _ z; omega
      · have := List.mem_singleton.mp z; omega
    rw [if_neg k3] at hj' ⊢
    by_cases k4 : k = 4
    · rw [if_pos k4] at hj' ⊢; have := ihr _ _ hj'; omega
    rw [if_neg k4] at hj' ⊢
    by_cases k5 : k = 5
    · rw [if_pos k5] at hj' ⊢
      rcases List.mem_append.mp hj' with z | z
      · have := ihr _ _ z; omega
      · have := ihl _ _ z; omega
    rw [if_neg k5] at hj' ⊢
    rcases List.mem_append.mp hj' with z | z
    · have := ihr _ _ z; omega
    · have := ihl _ _ z; omega
theorem yz_gr : ∀ (t : ys) (n j : Nat), j ∈ yz_g t n → n ≤ j ∧ j < n + yz_l t := by
  intro t
  induction t with
  | leaf => intro n j hj; cases hj
  | inner k p o l r ihl ihr =>
    intro n j hj
    have hj' : j ∈ (if k = 5 then yz_g r (n + (p.1.length + 1 + yz_l l + (if yz_f r = true then 0 else 1))) ++ (if yz_f r = true then [] else [n + p.1.length + 1 + yz_l l]) else []) := hj
    by_cases k5 : k = 5
    · subst k5
      rw [if_pos rfl] at hj'
      have el : yz_l (.inner 5 p o l r) = p.1.length + 1 + yz_l l + (if yz_f r = true then 0 else 1) + yz_l r := rfl
      rw [el]
      rcases List.mem_append.mp hj' with z | z
      · have := ihr _ _ z; omega
      · by_cases w : yz_f r = true
        · rw [if_pos w] at z; cases z
        · rw [if_neg w] at z ⊢
          have := List.mem_singleton.mp z; omega
    · rw [if_neg k5] at hj'; cases hj'
/-- of what stands at these places of a row -/
def yz_P (n : Nat) (L : List yJ) (js : List Nat) (φ : yJ → Prop) : Prop := ∀ k i, L[k]? = some i → n + k ∈ js → φ i
theorem yz_Pa {n : Nat} {A B : List yJ} {js : List Nat} {φ : yJ → Prop} (a : yz_P n A js φ) (b : yz_P (n + A.length) B js φ) : yz_P n (A ++ B) js φ := by
  intro k i e hk
  rw [List.getElem?_append] at e
  by_cases z : k < A.length
  · rw [if_pos z] at e; exact a k i e hk
  · rw [if_neg z] at e
    exact b _ i e (by rw [show n + A.length + (k - A.length) = n + k by omega]; exact hk)
theorem yz_Pn {n : Nat} {A : List yJ} {js : List Nat} {φ : yJ → Prop} (h : ∀ j, j ∈ js → ¬ (n ≤ j ∧ j < n + A.length)) : yz_P n A js φ := by
  intro k i e hk
  obtain ⟨z, _⟩ := List.getElem?_eq_some_iff.mp e
  exact absurd ⟨by omega, by omega⟩ (h _ hk)
theorem yz_Pj {n : Nat} {A : List yJ} {js ks : List Nat} {φ : yJ → Prop} (a : yz_P n A js φ) (b : yz_P n A ks φ) : yz_P n A (js ++ ks) φ := fun k i e hk => (List.mem_append.mp hk).elim (a k i e) (b k i e)
theorem yz_Ps {n : Nat} {i : yJ} {js : List Nat} {φ : yJ → Prop} (h : φ i) : yz_P n [i] js φ := fun k j e _ => by
  obtain ⟨_, e2⟩ := yI_one e
  rw [e2]; exact h
/-- the EXITs are jumps to behind the loop -/
theorem yz_xP : ∀ (t : ys) (n v q e : Nat), yz_P n (yz_c t n v q e) (yz_x t n) (fun i => i.1.1 = 10 ∧ i.1.2.1 = nI q) := by
  intro t
  induction t with
  | leaf => intro n v q e; exact fun k i h _ => by cases h
  | inner k p o l r ihl ihr =>
    intro n v q e
    show yz_P n (if k = 0 then _ else if k = 1 then _ else if k = 2 then _ else if k = 3 then _ else if k = 4 then _ else if k = 5 then _ else _) (if k = 0 then _ else if k = 1 then _ else if k = 2 then _ else if k = 3 then _ else if k = 4 then _ else if k = 5 then _ else _) _
    have R := fun m j (h : j ∈ yz_x r m) => yz_xr r m j h
    have Lr := fun m j (h : j ∈ yz_x l m) => yz_xr l m j h
    by_cases k0 : k = 0
    · rw [if_pos k0, if_pos k0]
      exact yz_Pa (yz_Pn (fun j hj w => by have := R _ j hj; rw [yv_len] at w; omega)) (by rw [yv_len]; exact ihr _ _ _ _)
    rw [if_neg k0, if_neg k0]
    by_cases k1 : k = 1
    · rw [if_pos k1, if_pos k1]
      refine yz_Pj ?_ ?_
      · exact yz_Pa (yz_Pn (fun j hj w => by have := R _ j hj; rw [yz_len] at w; omega)) (by rw [yz_len]; exact ihr _ _ _ _)
      · exact yz_Pa (ihl _ _ _ _) (yz_Pn (fun j hj w => by have := Lr _ j hj; rw [yz_len] at w; omega))
    rw [if_neg k1, if_neg k1]
    by_cases k2 : k = 2
    · rw [if_pos k2, if_pos k2]
      refine yz_Pa (yz_Pn (fun j hj w => by have := R _ j hj; have w2 : j < n + 1 := w.2; omega)) (yz_Pa (yz_Pn (fun j hj w => by have := R _ j hj; have w2 : j < n + 1 + 1 := w.2; omega)) (yz_Pa (yz_Pn (fun j hj w => by have := R _ j hj; rw [yz_len] at w; have w2 : j < n + 1 + 1 + yz_l l := w.2; omega)) (yz_Pa (yz_Pn (fun j hj w => by have := R _ j hj; rw [yz_len] at w; have w2 : j < n + 1 + 1 + yz_l l + 1 := w.2; omega)) ?_)))
      rw [yz_len]
      have : n + 1 + 1 + yz_l l + 1 = n + (3 + yz_l l) := by omega
      show yz_P (n + 1 + 1 + yz_l l + 1) _ _ _
      rw [this]
      exact ihr _ _ _ _
    rw [if_neg k2, if_neg k2]
    by_cases k3 : k = 3
    · rw [if_pos k3, if_pos k3]
      refine yz_Pj ?_ ?_
      · exact yz_Pa (yz_Ps ⟨rfl, rfl⟩) (ihr _ _ _ _)
      · exact yz_Pa (yz_Ps ⟨rfl, rfl⟩) (yz_Pn (fun j hj w => by have := List.mem_singleton.mp hj; have w1 : n + 1 ≤ j := w.1; omega))
    rw [if_neg k3, if_neg k3]
    by_cases k4 : k = 4
    · rw [if_pos k4, if_pos k4]
      exact yz_Pa (yz_Pn (fun j hj w => by have := R _ j hj; have w2 : j < n + 1 := w.2; omega)) (ihr _ _ _ _)
    rw [if_neg k4, if_neg k4]
    by_cases k5 : k = 5
    · rw [if_pos k5, if_pos k5]
      have h5 : (if yz_f r = true then ([] : List yJ) else [((10, nI e, 0, 0), v)]).length = if yz_f r = true then 0 else 1 := by split <;> rfl
      refine yz_Pj ?_ ?_
      · refine yz_Pa (yz_Pn (fun j hj w => by have := R _ j hj; rw [yv_len] at w; omega)) ?_
        rw [yv_len]
        refine yz_Pa (yz_Pn (fun j hj w => by have := R _ j hj; have w2 : j < n + p.1.length + 1 := w.2; omega)) ?_
        show yz_P (n + p.1.length + 1) _ _ _
        refine yz_Pa (yz_Pn (fun j hj w => by have := R _ j hj; rw [yz_len] at w; omega)) ?_
        rw [yz_len]
        refine yz_Pa (yz_Pn (fun j hj w => by have := R _ j hj; rw [h5] at w; omega)) ?_
        rw [h5, show n + p.1.length + 1 + yz_l l + (if yz_f r = true then 0 else 1) = n + (p.1.length + 1 + yz_l l + (if yz_f r = true then 0 else 1)) by omega]
        exact ihr _ _ _ _
      · refine yz_Pa (yz_Pn (fun j hj w => by have := Lr _ j hj; rw [yv_len] at w; omega)) ?_
        rw [yv_len]
        refine yz_Pa (yz_Pn (fun j hj w => by have := Lr _ j hj; have w2 : j < n + p.1.length + 1 := w.2; omega)) ?_
        show yz_P (n + p.1.length + 1) _ _ _
        exact yz_Pa (ihl _ _ _ _) (yz_Pn (fun j hj w => by have := Lr _ j hj; rw [yz_len] at w; omega))
    rw [if_neg k5, if_neg k5]
    refine yz_Pj ?_ ?_
    · exact yz_Pa (yz_Pn (fun j hj w => by have := R _ j hj; rw [yz_len] at w; omega)) (by rw [yz_len]; exact ihr _ _ _ _)
    · exact yz_Pa (ihl _ _ _ _) (yz_Pn (fun j hj w => by have := Lr _ j hj; rw [yz_len] at w; omega))
/-- and the other ones are jumps to behind the choice -/
theorem yz_gP : ∀ (t : ys) (n v q e : Nat), yz_P n (yz_c t n v q e) (yz_g t n) (fun i => i.1.1 = 10 ∧ i.1.2.1 = nI e) := by
  intro t
  induction t with
  | leaf => intro n v q e; exact fun k i h _ => by cases h
  | inner k p o l r ihl ihr =>
    intro n v q e
    by_cases k5 : k = 5
    · subst k5
      show yz_P n (yv v p.1 ++ ([((11, nI (n + (p.1.length + 1 + yz_l l + (if yz_f r = true then 0 else 1))), 0, 0), v)] ++ (yz_c l (n + p.1.length + 1) v q 0 ++ ((if yz_f r = true then [] else [((10, nI e, 0, 0), v)]) ++ yz_c r (n + (p.1.length + 1 + yz_l l + (if yz_f r = true then 0 else 1))) v q e)))) (yz_g r (n + (p.1.length + 1 + yz_l l + (if yz_f r = true then 0 else 1))) ++ (if yz_f r = true then [] else [n + p.1.length + 1 + yz_l l])) _
      have R := fun m j (h : j ∈ yz_g r m) => yz_gr r m j h
      have h5 : (if yz_f r = true then ([] : List yJ) else [((10, nI e, 0, 0), v)]).length = if yz_f r = true then 0 else 1 := by split <;> rfl
      refine yz_Pj ?_ ?_
      · refine yz_Pa (yz_Pn (fun j hj w => by have := R _ j hj; rw [yv_len] at w; omega)) ?_
        rw [yv_len]
        refine yz_Pa (yz_Pn (fun j hj w => by have := R _ j hj; have w2 : j < n + p.1.length + 1 := w.2; omega)) ?_
        show yz_P (n + p.1.length + 1) _ _ _
        refine yz_Pa (yz_Pn (fun j hj w => by have := R _ j hj; rw [yz_len] at w; omega)) ?_
        rw [yz_len]
        refine yz_Pa (yz_Pn (fun j hj w => by have := R _ j hj; rw [h5] at w; omega)) ?_
        rw [h5, show n + p.1.length + 1 + yz_l l + (if yz_f r = true then 0 else 1) = n + (p.1.length + 1 + yz_l l + (if yz_f r = true then 0 else 1)) by omega]
        exact ihr _ _ _ _
      · by_cases w : yz_f r = true
        · rw [show (if yz_f r = true then ([] : List Nat) else [n + p.1.length + 1 + yz_l l]) = [] from if_pos w]
          exact fun k i _ h => by cases h
        · simp only [if_neg w]
          refine yz_Pa (yz_Pn (fun j hj q => by have := List.mem_singleton.mp hj; rw [yv_len] at q; omega)) ?_
          rw [yv_len]
          refine yz_Pa (yz_Pn (fun j hj q => by have := List.mem_singleton.mp hj; have w2 : j < n + p.1.length + 1 := q.2; omega)) ?_
          show yz_P (n + p.1.length + 1) _ _ _
          refine yz_Pa (yz_Pn (fun j hj q => by have := List.mem_singleton.mp hj; rw [yz_len] at q; omega)) ?_
          rw [yz_len]
          refine yz_Pa (yz_Ps ⟨rfl, rfl⟩) (yz_Pn (fun j hj q => by have := List.mem_singleton.mp hj; have w1 : n + p.1.length + 1 + yz_l l + 1 ≤ j := q.1; omega))
    · have : yz_g (.inner k p o l r) n = [] := if_neg k5
      rw [this]
      exact fun k i _ h => by cases h
end
section
/-! The coder: statements one after the other. -/
def yz_ap : ys → ys → ys
  | .leaf, u => u
  | .inner k p o l r, u => .inner k p o l (yz_ap r u)
def yz_br : ys → Prop
  | .leaf => True
  | .inner k _ _ _ r => (k = 5 ∨ (k = 6 ∧ yz_f r = true)) ∧ yz_br r
def yz_st : ys → Prop
  | .leaf => True
  | .inner k _ _ _ r => k ≤ 4 ∧ yz_st r
theorem yz_stap : ∀ t u : ys, yz_st t → yz_st u → yz_st (yz_ap t u) := by
  intro t
  induction t with
  | leaf => intro u _ h; exact h
  | inner k p o l r _ ih => intro u h1 h2; exact ⟨h1.1, ih u h1.2 h2⟩
theorem yz_apl : ∀ t u : ys, yz_st t → yz_l (yz_ap t u) = yz_l t + yz_l u := by
  intro t
  induction t with
  | leaf => intro u _; show yz_l u = 0 + yz_l u; omega
  | inner k p o l r _ ih =>
    intro u ⟨h1, h2⟩
    have e := ih u h2
    show (if k = 0 then p.1.length else if k = 1 then yz_l l else if k = 2 then 3 + yz_l l else if k = 3 then 1 else if k = 4 then 1 else if k = 5 then p.1.length + 1 + yz_l l + (if yz_f (yz_ap r u) = true then 0 else 1) else yz_l l) + yz_l (yz_ap r u) = (if k = 0 then p.1.length else if k = 1 then yz_l l else if k = 2 then 3 + yz_l l else if k = 3 then 1 else if k = 4 then 1 else if k = 5 then p.1.length + 1 + yz_l l + (if yz_f r = true then 0 else 1) else yz_l l) + yz_l r + yz_l u
    rw [if_neg (show ¬ k = 5 by omega), if_neg (show ¬ k = 5 by omega), e]
    omega
theorem yz_apc : ∀ (t u : ys) (n v q e : Nat), yz_st t → yz_c (yz_ap t u) n v q e = yz_c t n v q e ++ yz_c u (n + yz_l t) v q e := by
  intro t
  induction t with
  | leaf => intro u n v q e _; rfl
  | inner k p o l r _ ih =>
    intro u n v q e ⟨h1, h2⟩
    have E : ∀ T : ys, yz_c (.inner k p o l T) n v q e = if k = 0 then yv v p.1 ++ yz_c T (n + p.1.length) v q e else if k = 1 then yz_c l n v q (n + yz_l l) ++ yz_c T (n + yz_l l) v q e else if k = 2 then [((12, p.2.1, p.2.2, 0), v)] ++ ([((13, nI (n + (3 + yz_l l)), p.2.1, 0), v)] ++ (yz_c l (n + 2) (v + 1) (n + (3 + yz_l l)) 0 ++ ([((14, nI (n + 1), 0, 0), v + 1)] ++ yz_c T (n + (3 + yz_l l)) v q e))) else if k = 3 then [((10, nI q, 0, 0), v)] ++ yz_c T (n + 1) v q e else [((18, 0, 0, 0), v)] ++ yz_c T (n + 1) v q e := by
      intro T
      show (if k = 0 then _ else if k = 1 then _ else if k = 2 then _ else if k = 3 then _ else if k = 4 then _ else _) = _
      by_cases k4 : k = 4
      · rw [if_pos k4]
      · rw [if_neg k4]
        have : k = 0 ∨ k = 1 ∨ k = 2 ∨ k = 3 := by omega
        rcases this with e | e | e | e <;> subst e <;> rfl
    have El : yz_l (.inner k p o l r) = (if k = 0 then p.1.length else if k = 1 then yz_l l else if k = 2 then 3 + yz_l l else 1) + yz_l r := by
      show (if k = 0 then _ else if k = 1 then _ else if k = 2 then _ else if k = 3 then _ else if k = 4 then _ else _) + _ = _
      have : k = 0 ∨ k = 1 ∨ k = 2 ∨ k = 3 ∨ k = 4 := by omega
      rcases this with e | e | e | e | e <;> subst e <;> rfl
    show yz_c (.inner k p o l (yz_ap r u)) n v q e = _
    rw [E, E, El]
    by_cases k0 : k = 0
    · rw [if_pos k0, if_pos k0, if_pos k0, ih u _ _ _ _ h2, List.append_assoc, Nat.add_assoc]
    rw [if_neg k0, if_neg k0, if_neg k0]
    by_cases k1 : k = 1
    · rw [if_pos k1, if_pos k1, if_pos k1, ih u _ _ _ _ h2, List.append_assoc, Nat.add_assoc]
    rw [if_neg k1, if_neg k1, if_neg k1]
    by_cases k2 : k = 2
    · rw [if_pos k2, if_pos k2, if_pos k2, ih u _ _ _ _ h2, List.append_assoc, List.append_assoc, List.append_assoc, List.append_assoc, Nat.add_assoc n]
    rw [if_neg k2, if_neg k2, if_neg k2]
    by_cases k3 : k = 3
    · rw [if_pos k3, if_pos k3, ih u _ _ _ _ h2, List.append_assoc, Nat.add_assoc]
    rw [if_neg k3, if_neg k3, ih u _ _ _ _ h2, List.append_assoc, Nat.add_assoc]
theorem yz_apx : ∀ (t u : ys) (n : Nat), yz_st t → yz_x (yz_ap t u) n = yz_x u (n + yz_l t) ++ yz_x t n := by
  intro t
  induction t with
  | leaf => intro u n _; show yz_x u n = yz_x u (n + 0) ++ []; rw [List.append_nil]; rfl
  | inner k p o l r _ ih =>
    intro u n ⟨h1, h2⟩
    have E : ∀ T : ys, yz_x (.inner k p o l T) n = if k = 0 then yz_x T (n + p.1.length) else if k = 1 then yz_x T (n + yz_l l) ++ yz_x l n else if k = 2 then yz_x T (n + (3 + yz_l l)) else if k = 3 then yz_x T (n + 1) ++ [n] else yz_x T (n + 1) := by
      intro T
      show (if k = 0 then _ else if k = 1 then _ else if k = 2 then _ else if k = 3 then _ else if k = 4 then _ else _) = _
      have : k = 0 ∨ k = 1 ∨ k = 2 ∨ k = 3 ∨ k = 4 := by omega
      rcases this with e | e | e | e | e <;> subst e <;> rfl
    have El : yz_l (.inner k p o l r) = (if k = 0 then p.1.length else if k = 1 then yz_l l else if k = 2 then 3 + yz_l l else 1) + yz_l r := by
      show (if k = 0 then _ else if k = 1 then _ else if k = 2 then _ else if k = 3 then _ else if k = 4 then _ else _) + _ = _
      have : k = 0 ∨ k = 1 ∨ k = 2 ∨ k = 3 ∨ k = 4 := by omega
      rcases this with e | e | e | e | e <;> subst e <;> rfl
    show yz_x (.inner k p o l (yz_ap r u)) n = _
    rw [E, E, El]
    by_cases k0 : k = 0
    · rw [if_pos k0, if_pos k0, if_pos k0, ih u _ h2, Nat.add_assoc]
    rw [if_neg k0, if_neg k0, if_neg k0]
    by_cases k1 : k = 1
    · rw [if_pos k1, if_pos k1, if_pos k1, ih u _ h2, List.append_assoc, Nat.add_assoc]
    rw [if_neg k1, if_neg k1, if_neg k1]
    by_cases k2 : k = 2
    · rw [if_pos k2, if_pos k2, if_pos k2, ih u _ h2, Nat.add_assoc n]
    rw [if_neg k2, if_neg k2, if_neg k2]
    by_cases k3 : k = 3
    · rw [if_pos k3, if_pos k3, ih u _ h2, List.append_assoc, Nat.add_assoc]
    rw [if_neg k3, if_neg k3, ih u _ h2, Nat.add_assoc]
theorem yz_xn : ∀ (t : ys) (n : Nat), (yz_x t n).Nodup := by
  intro t
  induction t with
  | leaf => intro n; exact List.nodup_nil
  | inner k p o l r ihl ihr =>
    intro n
    have ap : ∀ a c, (∀ j i, j ∈ yz_x r a → i ∈ yz_x l c → ¬ j = i) → (yz_x r a ++ yz_x l c).Nodup := fun a c h => List.nodup_append.mpr ⟨ihr a, ihl c, fun j hj i hi => h j i hj hi⟩
    show (if k = 0 then _ else if k = 1 then _ else if k = 2 then _ else if k = 3 then _ else if k = 4 then _ else if k = 5 then _ else _ : List Nat).Nodup
    by_cases k0 : k = 0
    · rw [if_pos k0]; exact ihr _
    rw [if_neg k0]
    by_cases k1 : k = 1
    · rw [if_pos k1]; exact ap _ _ (fun j i hj hi e => by have := yz_xr _ _ _ hj; have := yz_xr _ _ _ hi; omega)
    rw [if_neg k1]
    by_cases k2 : k = 2
    · rw [if_pos k2]; exact ihr _
    rw [if_neg k2]
    by_cases k3 : k = 3
    · rw [if_pos k3]
      exact List.nodup_append.mpr ⟨ihr _, List.nodup_cons.mpr ⟨List.not_mem_nil, List.nodup_nil⟩, fun j hj i hi e => by have := yz_xr _ _ _ hj; have := List.mem_singleton.mp hi; omega⟩
    rw [if_neg k3]
    by_cases k4 : k = 4
    · rw [if_pos k4]; exact ihr _
    rw [if_neg k4]
    by_cases k5 : k = 5
    · rw [if_pos k5]; exact ap _ _ (fun j i hj hi e => by have := yz_xr _ _ _ hj; have := yz_xr _ _ _ hi; omega)
    rw [if_neg k5]
    exact ap _ _ (fun j i hj hi e => by have := yz_xr _ _ _ hj; have := yz_xr _ _ _ hi; omega)
theorem yz_gn : ∀ (t : ys) (n : Nat), (yz_g t n).Nodup := by
  intro t
  induction t with
  | leaf => intro n; exact List.nodup_nil
  | inner k p o l r ihl ihr =>
    intro n
    show (if k = 5 then _ else [] : List Nat).Nodup
    by_cases k5 : k = 5
    · rw [if_pos k5]
      refine List.nodup_append.mpr ⟨ihr _, ?_, fun j hj i hi e => ?_⟩
      · split
        · exact List.nodup_nil
        · exact List.nodup_cons.mpr ⟨List.not_mem_nil, List.nodup_nil⟩
      · by_cases w : yz_f r = true
        · rw [if_pos w] at hi; cases hi
        · rw [if_neg w] at hi hj
          have := yz_gr _ _ _ hj
          have := List.mem_singleton.mp hi
          omega
    · rw [if_neg k5]; exact List.nodup_nil
/-- what a row of statements leaves in the class, and in the model -/
def yC_R (n v q : Nat) (T : ys) (ow : Nat) (h h' : zs_H) : Prop := yC_H n ((yz_c T n v q 0).map Prod.fst) (yz_x T n) h h' ∧ (h'.1 47 4) = nI ow ∧ (n + yz_l T ≤ 4000 → yC_ch h' ((h.1 47 6)) (n + yz_l T) (yz_x T n) ((h'.1 47 6)))
def yM_R (s n v q : Nat) (T : ys) (w ww : Nat) (g g' : zs_H) : Prop := yM_H s n (yz_c T n v q 0) (yz_x T n) g g' ∧ (g'.1 68 64) = (g.1 68 64) ∧ (g'.1 68 66) = (g.1 68 66) ∧ (g'.1 68 68) = nI (w + (yz_x T n).length) ∧ yM_st ((g'.2.1 111)) s w (yz_x T n) ∧ (∀ k, k < w → (g'.2.1 111) k = (g.2.1 111) k) ∧ (∀ k, k < ww → (g'.2.1 110) k = (g.2.1 110) k)
section YR
variable {n v q s w ww ow ow2 u : Nat} {T U : ys} {h h1 h2 h' g g1 g2 g' h0 g0 : zs_H} {L : List yI}
theorem yz_ml : ((yz_c T n v q 0).map Prod.fst).length = yz_l T := by rw [List.length_map, yz_len]
theorem yC_Rap (hT : yz_st T) (A : yC_R n v q T ow h h1) (B : yC_R (n + yz_l T) v q U ow2 h1 h2) : yC_R n v q (yz_ap T U) ow2 h h2 := by
  obtain ⟨a1, a2, a3⟩ := A
  obtain ⟨b1, b2, b3⟩ := B
  have hl := yz_apl T U hT
  refine ⟨?_, b2, fun hn => ?_⟩
  · rw [yz_apc _ _ _ _ _ _ hT, List.map_append, yz_apx _ _ _ hT]
    refine yC_Hm (yC_Hap a1 (by rw [yz_ml]; exact b1)) (fun j hj => ?_)
    rcases List.mem_append.mp hj with z | z
    · exact List.mem_append.mpr (.inr z)
    · exact List.mem_append.mpr (.inl z)
  · rw [hl] at hn ⊢
    rw [yz_apx _ _ _ hT, show n + (yz_l T + yz_l U) = n + yz_l T + yz_l U by omega]
    have c1 := a3 (by omega)
    have c2 := b3 (by omega)
    have e : ∀ j, j < n + yz_l T → (h2.2.1 43) j = (h1.2.1 43) j := fun j hj => (b1.2.2 (by rw [yz_ml]; omega)).1 j hj _ (by decide)
    exact yC_cha _ _ _ _ _ _ (fun j hj => (yz_xr _ _ _ hj).1) c2 (yC_chf _ _ _ e c1) (by omega)
theorem yM_Rap (hT : yz_st T) (hw : (g.1 68 66) = nI ww) (A : yM_R s n v q T w ww g g1) (B : yM_R s (n + yz_l T) v q U (w + (yz_x T n).length) ww g1 g2) : yM_R s n v q (yz_ap T U) w ww g g2 := by
  obtain ⟨a1, a2, a3, a4, a5, a6, a7⟩ := A
  obtain ⟨b1, b2, b3, b4, b5, b6, b7⟩ := B
  refine ⟨?_, b2.trans a2, b3.trans a3, ?_, ?_, fun k hk => (b6 k (by omega)).trans (a6 k hk), fun k hk => (b7 k hk).trans (a7 k hk)⟩
  · rw [yz_apc _ _ _ _ _ _ hT, yz_apx _ _ _ hT]
    refine yM_Hm (yM_Hap a1 (by rw [yz_len]; exact b1)) (fun j hj => ?_)
    rcases List.mem_append.mp hj with z | z
    · exact List.mem_append.mpr (.inr z)
    · exact List.mem_append.mpr (.inl z)
  · rw [yz_apx _ _ _ hT, b4, List.length_append]
    congr 1
    omega
  · rw [yz_apx _ _ _ hT]
    refine yM_sta _ _ b5 (yM_stf _ (fun k hk => b6 k hk) a5)
/-- instructions alone -/
def yz_i (L : List yI) : ys := .inner 0 (L, 0, 0) () .leaf .leaf
theorem yC_R0 (ho : (h.1 47 4) = nI ow) (E : yC_E n L h h') : yC_R n v q (yz_i L) ow h h' := by
  have e : (yz_c (yz_i L) n v q 0).map Prod.fst = L := by
    show (yv v L ++ []).map Prod.fst = L
    rw [List.append_nil]
    unfold yv
    rw [List.map_map]
    exact List.map_id L
  refine ⟨by rw [e]; exact yC_EH E, (E.2.1.1 _ _ (by decide)).trans ho, fun _ => ?_⟩
  exact E.2.1.1 _ _ (by decide)
theorem yM_R0 (hl : (g.1 68 68) = nI w) (E : yM_E s n (yv v L) g g') : yM_R s n v q (yz_i L) w ww g g' := by
  have e : yz_c (yz_i L) n v q 0 = yv v L := List.append_nil _
  refine ⟨by rw [e]; exact yM_EH E, E.2.1.1 _ _ (by decide), E.2.1.1 _ _ (by decide), (E.2.1.1 _ _ (by decide)).trans hl, trivial, fun k _ => by rw [E.2.1.2.1 _ (by decide)], fun k _ => by rw [E.2.1.2.1 _ (by decide)]⟩
theorem yC_Rn (ho : (h.1 47 4) = nI ow) (e : (h.1 41 5) = nI n) : yC_R n v q .leaf ow h h := ⟨⟨e, zfr_rfl, fun _ => ⟨fun _ _ _ _ => rfl, fun k i z => by cases z⟩⟩, ho, fun _ => rfl⟩
theorem yM_Rn (hl : (g.1 68 68) = nI w) (e : (g.1 68 56) = nI n) : yM_R s n v q .leaf w ww g g := ⟨⟨e, zfr_rfl, fun _ => ⟨fun _ _ _ _ => rfl, fun k i z => by cases z⟩⟩, rfl, rfl, hl, trivial, fun _ _ => rfl, fun _ _ => rfl⟩
theorem yC_Rf (f : yC_f h0 h) (R : yC_R n v q T ow h h') : yC_f h0 h' ∧ (h'.1 41 5) = nI (n + yz_l T) ∧ (h'.1 47 4) = nI ow := ⟨zfr_trans f (zfr_w R.1.2.1 (by decide) (by decide) (by decide)), by have := R.1.1; rw [yz_ml] at this; exact this, R.2.1⟩
theorem yM_Rf (f : yM_f g0 g) (c : yM_c g n s u v) (R : yM_R s n v q T w ww g g') : yM_f g0 g' ∧ yM_c g' (n + yz_l T) s u v ∧ (g'.1 68 68) = nI (w + (yz_x T n).length) ∧ (g'.1 68 66) = (g.1 68 66) := by
  obtain ⟨⟨c1, c2⟩, ⟨c3, c4, c5⟩, c6, c7⟩ := c
  obtain ⟨r1, r2, r3, r4, _⟩ := R
  have e := r1.1
  rw [yz_len] at e
  exact ⟨zfr_trans f (zfr_w r1.2.1 (by decide) (by decide) (by decide)), ⟨⟨e, by omega⟩, ⟨(r1.2.1.1 _ _ (by decide)).trans c3, c4, by rw [r1.2.1.2.1 _ (by decide)]; exact c5⟩, r2.trans c6, (r1.2.1.1 _ _ (by decide)).trans c7⟩, r4, r3⟩
end YR
end
section
/-! The coder: single statements. -/
/-- what the class does with a statement -/
def yk_do (kd D d : Nat) (h : zs_H) (i : Nat) : Option zs_H := if kd = 12 then f_Cr_codeAssignment h (nI i) else if kd = 13 then f_Cr_codeInvocation h (nI i) else if kd = 15 then f_Cr_codeIf D h (nI i) (nI (d + 1)) else if kd = 16 then f_Cr_codeCase D h (nI i) (nI (d + 1)) else if kd = 19 then f_Cr_codeFor D h (nI i) (nI (d + 1)) else if kd = 20 then zd_B (f_Cd_emit h 10 ((h.1 47 6))) fun v h' => some (zs_uF h' 47 6 v) else zd_B (f_Cd_emit h 18 0) fun _ h' => some h'
def yk_SC (h0 : zs_H) (dl kd i ow oc : Nat) (T : ys) : Prop := ∀ (D d n v q : Nat) (h : zs_H), yC_f h0 h → (h.1 41 5) = nI n → (h.1 47 4) = nI ow → n + yz_l T ≤ 90000000 → 2 * dl + 2 ≤ D → d + dl ≤ 239 → ∃ h', yk_do kd D d h i = some h' ∧ yC_R n v q T (ow + oc) h h'
def yk_SM (g0 : zs_H) (b dl k : Nat) (T : ys) (c20 c11 : Nat) : Prop := ∀ (D n s v q w ww : Nat) (g : zs_H), yM_f g0 g → yM_c g n s b v → (g.1 68 68) = nI w → (g.1 68 66) = nI ww → n + yz_l T ≤ 90000000 → w + c20 ≤ 4000 → ww + c11 ≤ 8400 → 2 * dl + 2 ≤ D → ∃ g', f_Mo_statementCode D g (nI k) = some g' ∧ yM_R s n v q T w ww g g'
section YKS
variable {h0 h g0 g : zs_H} {dl i k ow b c20 c11 : Nat} {L L1 L2 : List yI}
theorem yz_il : yz_l (yz_i L) = L.length := rfl
theorem yk_S12 {a c w x dl1 : Nat} (hi : i < 32784) (ec : (h0.2.1 17) i = nI a) (ha : a < 32784) (ka : (h0.2.1 13) a = 6) (hw : w < 6000) (ew : (h0.2.1 16) a = nI w) (ex : (h0.2.1 32) w = nI x) (en : (h0.2.1 18) a = nI c) (hd : dl1 ≤ 190) (A : yk_C h0 dl1 (nI c) L) : yk_SC h0 dl 12 i ow 0 (yz_i (L ++ [(2, nI x, 0, 0)])) := by
  intro D d n v q h f e ho hn _ _
  have hn' : n + (L.length + 1) ≤ 90000000 := by
    rw [yz_il, List.length_append] at hn; exact hn
  have f' : ∀ a, ¬ a ∈ yC_M → h.2.1 a = h0.2.1 a := fun a ha => f.2.1 a ha
  obtain ⟨h1, a1, a2⟩ := A 400 0 n h f e (by omega) (by omega) (by omega)
  have f1 := yC_fE f a2
  obtain ⟨h2, b1, b2⟩ := yC_emit a2.1 (by omega) 2 (by decide) (nI x)
  refine ⟨h2, ?_, yC_R0 ho (yC_ap a2 b2)⟩
  show f_Cr_codeAssignment h (nI i) = _
  unfold f_Cr_codeAssignment
  simp only [if_pos (zi_in (show i < 2147483648 by omega) hi), nI_clamp (show i < 2147483648 by omega), f' 17 (by decide), f' 13 (by decide), f' 18 (by decide), f' 16 (by decide), ec, if_pos (zi_in (show a < 2147483648 by omega) ha), nI_clamp (show a < 2147483648 by omega), ew, if_pos (zi_in (show w < 2147483648 by omega) hw), nI_clamp (show w < 2147483648 by omega), en]
  rw [ka, if_pos rfl, show (0 : Int32) = nI 0 from rfl, a1, Option.bind_some, f1.2.1 32 (by decide), ex]
  exact (congrArg (fun z => zd_B z _) b1).trans rfl
theorem yk_S12e {a c w x dl1 dl2 : Nat} {xe : Int32} (hi : i < 32784) (ec : (h0.2.1 17) i = nI a) (ha : a < 32784) (ka : (h0.2.1 13) a = 32) (hw : w < 6000) (ew : (h0.2.1 16) a = nI w) (ex : (h0.2.1 32) w = nI x) (en : (h0.2.1 18) a = nI c) (ee : (h0.2.1 17) a = xe) (hd : dl1 ≤ 190) (hd2 : dl2 ≤ 190) (A : yk_C h0 dl1 xe L1) (B : yk_C h0 dl2 (nI c) L2) : yk_SC h0 dl 12 i ow 0 (yz_i (L1 ++ (L2 ++ [(4, nI x, (h0.2.1 33) w, (h0.2.1 34) w)]))) := by
  intro D d n v q h f e ho hn _ _
  have hn' : n + (L1.length + (L2.length + 1)) ≤ 90000000 := by
    rw [yz_il, List.length_append, List.length_append] at hn; exact hn
  have f' : ∀ a, ¬ a ∈ yC_M → h.2.1 a = h0.2.1 a := fun a ha => f.2.1 a ha
  obtain ⟨h1, a1, a2⟩ := A 400 0 n h f e (by omega) (by omega) (by omega)
  have f1 := yC_fE f a2
  obtain ⟨h2, b1, b2⟩ := B 400 0 _ h1 f1 a2.1 (by omega) (by omega) (by omega)
  have f2 := yC_fE f1 b2
  obtain ⟨h3, c1, c2⟩ := yC_emit b2.1 (by omega) 4 (by decide) (nI x)
  have f3 := yC_fE f2 c2
  obtain ⟨h4, d1, d2⟩ := yC_with (by omega) c2 ((h0.2.1 33) w) ((h0.2.1 34) w)
  refine ⟨h4, ?_, yC_R0 ho (yC_ap a2 (yC_ap b2 d2))⟩
  show f_Cr_codeAssignment h (nI i) = _
  unfold f_Cr_codeAssignment
  simp only [if_pos (zi_in (show i < 2147483648 by omega) hi), nI_clamp (show i < 2147483648 by omega), f' 17 (by decide), f' 13 (by decide), f' 18 (by decide), f' 16 (by decide), ec, if_pos (zi_in (show a < 2147483648 by omega) ha), nI_clamp (show a < 2147483648 by omega), ew, if_pos (zi_in (show w < 2147483648 by omega) hw), nI_clamp (show w < 2147483648 by omega), ee]
  rw [ka, if_neg (by decide), show (0 : Int32) = nI 0 from rfl, a1, Option.bind_some, f1.2.1 18 (by decide), en, b1, Option.bind_some, f2.2.1 32 (by decide), ex]
  refine (congrArg (fun z => zd_B z _) c1).trans ?_
  show (f_Cd_with h3 ((h3.2.1 33) w) ((h3.2.1 34) w)).bind _ = _
  rw [f3.2.1 33 (by decide), f3.2.1 34 (by decide), d1, Option.bind_some]
theorem yk_S20 : yk_SC h0 dl 20 i ow 0 (.inner 3 ([], 0, 0) () .leaf .leaf) := by
  intro D d n v q h f e ho hn _ _
  have hn' : n + 1 ≤ 90000000 := hn
  obtain ⟨h1, b1, b2⟩ := yC_emit e (by omega) 10 (by decide) ((h.1 47 6))
  refine ⟨zs_uF h1 47 6 (nI n), show zd_B (f_Cd_emit h 10 ((h.1 47 6))) (fun v h' => some (zs_uF h' 47 6 v)) = _ from (congrArg (fun z => zd_B z _) b1).trans rfl, ?_, ?_, fun h4 => ?_⟩
  · obtain ⟨e1, e2, e3⟩ := b2
    refine ⟨e1, zfr_F (by decide) (zfr_w e2 (by decide) (by decide) (by decide)), fun hn4 => ⟨(e3 hn4).1, fun k j ej => ?_⟩⟩
    obtain ⟨rfl, rfl⟩ := yI_one (show [((10, nI q, 0, 0) : yI)][k]? = some j from ej)
    obtain ⟨m1, m2, m3, m4⟩ := (e3 hn4).2 0 _ rfl
    exact ⟨⟨m1, m3, m4⟩, fun w => absurd (show n + 0 ∈ [n] from List.mem_singleton.mpr rfl) w⟩
  · exact (b2.2.1.1 _ _ (by decide)).trans ho
  · obtain ⟨_, m2, _, _⟩ := (b2.2.2 h4).2 0 _ rfl
    exact ⟨by show n < n + 1; omega, rfl, m2⟩
theorem yk_S21 (hk : i < 32784) : yk_SC h0 dl 21 i ow 0 (.inner 4 ([], 0, 0) () .leaf .leaf) := by
  intro D d n v q h f e ho hn _ _
  have hn' : n + 1 ≤ 90000000 := hn
  obtain ⟨h1, b1, b2⟩ := yC_emit e (by omega) 18 (by decide) 0
  exact ⟨h1, show zd_B (f_Cd_emit h 18 0) (fun _ h' => some h') = _ from (congrArg (fun z => zd_B z _) b1).trans rfl, yC_EH b2, (b2.2.1.1 _ _ (by decide)).trans ho, fun _ => b2.2.1.1 _ _ (by decide)⟩
theorem yk_sS (D : Nat) : f_Mo_statementCode (D + 1) g (nI k) = g_Mo_statementCode (f_Mo_choiceCode D) (f_Mo_loopCode D) g (nI k) := rfl
theorem yk_T12 {ka kc dl1 x : Nat} {Q1 : Nat → Prop} (hk : k < 33500) (m0 : (g0.2.1 72) k = 12) (m1 : (g0.2.1 76) k = nI ka) (hka : ka < 33500) (m2 : (g0.2.1 72) ka = 6) (m3 : (g0.2.1 77) k = nI kc) (hkc : kc < 33500) (m4 : (g0.2.1 101) ka = nI x) (hd : dl1 ≤ 190) (hQ : ¬ Q1 kc) (A : yk_M g0 b Q1 dl1 kc L) : yk_SM g0 b dl k (yz_i (L ++ [(2, nI x, 0, 0)])) c20 c11 := by
  intro D n s v q w ww g f c hl hw hn _ _ hD
  obtain ⟨D, rfl⟩ : ∃ z, D = z + 1 := ⟨D - 1, by omega⟩
  have hn' : n + (L.length + 1) ≤ 90000000 := by
    rw [yz_il, List.length_append] at hn; exact hn
  have f' : ∀ a, ¬ a ∈ yM_M → g.2.1 a = g0.2.1 a := fun a ha => f.2.1 a ha
  obtain ⟨g1, a1, a2⟩ := yk_M1 (D := 600) (by omega) hkc hQ A f c (by omega) (by omega)
  have f1 := yM_fE f a2
  obtain ⟨g2, b1, b2⟩ := yM_e (yM_cL c a2) (by omega) 2 (nI x) 0 0 (by decide)
  refine ⟨g2, ?_, yM_R0 hl (yM_aL a2 b2)⟩
  have ea : f_Mo_assignmentCode g (nI k) = some g2 := by
    unfold f_Mo_assignmentCode
    simp only [if_pos (zi_in (show k < 2147483648 by omega) hk), nI_clamp (show k < 2147483648 by omega), f' 76 (by decide), f' 72 (by decide), f' 77 (by decide), m1, if_pos (zi_in (show ka < 2147483648 by omega) hka), nI_clamp (show ka < 2147483648 by omega), m3]
    rw [m2, if_pos rfl, a1, Option.bind_some, f1.2.1 101 (by decide), m4]
    exact (congrArg (fun z => zd_B z _) b1).trans rfl
  rw [yk_sS]
  unfold g_Mo_statementCode
  simp only [if_pos (zi_in (show k < 2147483648 by omega) hk), nI_clamp (show k < 2147483648 by omega), f' 72 (by decide)]
  rw [m0, if_pos rfl, ea]
  rfl
theorem yk_T12e {ka kc ke dl1 dl2 x wv : Nat} {Q1 Q2 : Nat → Prop} (hk : k < 33500) (m0 : (g0.2.1 72) k = 12) (m1 : (g0.2.1 76) k = nI ka) (hka : ka < 33500) (m2 : (g0.2.1 72) ka = 32) (m3 : (g0.2.1 77) k = nI kc) (hkc : kc < 33500) (m4 : (g0.2.1 101) ka = nI x) (m5 : (g0.2.1 76) ka = nI ke) (hke : ke < 33500) (hv : f_Mo_variable g0 (nI b) ((g0.2.1 74) ka) = some (nI wv)) (hwv : wv < 8400) (hd : dl1 ≤ 190) (hd2 : dl2 ≤ 190) (hQ : ¬ Q1 ke) (hQ2 : ¬ Q2 kc) (A : yk_M g0 b Q1 dl1 ke L1) (B : yk_M g0 b Q2 dl2 kc L2) : yk_SM g0 b dl k (yz_i (L1 ++ (L2 ++ [(4, nI x, (g0.2.1 97) wv, (g0.2.1 98) wv)]))) c20 c11 := by
  intro D n s v q w ww g f c hl hw hn _ _ hD
  obtain ⟨D, rfl⟩ : ∃ z, D = z + 1 := ⟨D - 1, by omega⟩
  have hn' : n + (L1.length + (L2.length + 1)) ≤ 90000000 := by
    rw [yz_il, List.length_append, List.length_append] at hn; exact hn
  have f' : ∀ a, ¬ a ∈ yM_M → g.2.1 a = g0.2.1 a := fun a ha => f.2.1 a ha
  obtain ⟨g1, a1, a2⟩ := yk_M1 (D := 600) (by omega) hke hQ A f c (by omega) (by omega)
  have f1 := yM_fE f a2
  obtain ⟨g2, b1, b2⟩ := yk_M1 (D := 600) (by omega) hkc hQ2 B f1 (yM_cL c a2) (by omega) (by omega)
  have f2 := yM_fE f1 b2
  have f2' : ∀ a, ¬ a ∈ yM_M → g2.2.1 a = g0.2.1 a := fun a ha => f2.2.1 a ha
  obtain ⟨g3, d1, d2⟩ := yM_e (yM_cL (yM_cL c a2) b2) (by omega) 4 (nI x) ((g0.2.1 97) wv) ((g0.2.1 98) wv) (by decide)
  refine ⟨g3, ?_, yM_R0 hl (yM_aL a2 (yM_aL b2 d2))⟩
  have ea : f_Mo_assignmentCode g (nI k) = some g3 := by
    unfold f_Mo_assignmentCode
    simp only [if_pos (zi_in (show k < 2147483648 by omega) hk), nI_clamp (show k < 2147483648 by omega), f' 76 (by decide), f' 72 (by decide), f' 77 (by decide), f' 74 (by decide), m1, if_pos (zi_in (show ka < 2147483648 by omega) hka), nI_clamp (show ka < 2147483648 by omega), m5, c.2.2.2, yk_fva f, hv]
    rw [m2, if_neg (by decide), Option.bind_some, a1, Option.bind_some, f1.2.1 77 (by decide), m3, b1, Option.bind_some, if_pos (zi_in (by omega) hwv), nI_clamp (show wv < 2147483648 by omega), f2' 101 (by decide), m4, f2' 97 (by decide), f2' 98 (by decide)]
    exact (congrArg (fun z => zd_B z _) d1).trans rfl
  rw [yk_sS]
  unfold g_Mo_statementCode
  simp only [if_pos (zi_in (show k < 2147483648 by omega) hk), nI_clamp (show k < 2147483648 by omega), f' 72 (by decide)]
  rw [m0, if_pos rfl, ea]
  rfl
theorem yk_T21 (hk : k < 33500) (m0 : (g0.2.1 72) k = 21) : yk_SM g0 b dl k (.inner 4 ([], 0, 0) () .leaf .leaf) c20 c11 := by
  intro D n s v q w ww g f c hl hw hn _ _ hD
  obtain ⟨D, rfl⟩ : ∃ z, D = z + 1 := ⟨D - 1, by omega⟩
  have hn' : n + 1 ≤ 90000000 := hn
  obtain ⟨g1, b1, b2⟩ := yM_e c (by omega) 18 0 0 0 (by decide)
  refine ⟨g1, ?_, yM_EH b2, b2.2.1.1 _ _ (by decide), b2.2.1.1 _ _ (by decide), (b2.2.1.1 _ _ (by decide)).trans hl, trivial, fun j _ => by rw [b2.2.1.2.1 _ (by decide)], fun j _ => by rw [b2.2.1.2.1 _ (by decide)]⟩
  rw [yk_sS]
  unfold g_Mo_statementCode
  simp only [if_pos (zi_in (show k < 2147483648 by omega) hk), nI_clamp (show k < 2147483648 by omega), f.2.1 72 (by decide)]
  rw [m0, if_neg (by decide), if_neg (by decide), if_neg (by decide), if_neg (by decide), if_neg (by decide), if_neg (by decide)]
  exact (congrArg (fun z => zd_B z _) b1).trans rfl
theorem yk_T20 (hk : k < 33500) (m0 : (g0.2.1 72) k = 20) (hc : 1 ≤ c20) : yk_SM g0 b dl k (.inner 3 ([], 0, 0) () .leaf .leaf) c20 c11 := by
  intro D n s v q w ww g f c hl hw hn hc20 _ hD
  obtain ⟨D, rfl⟩ : ∃ z, D = z + 1 := ⟨D - 1, by omega⟩
  have hn' : n + 1 ≤ 90000000 := hn
  obtain ⟨⟨c1, c2⟩, ⟨c3, c4, c5⟩, c6, c7⟩ := id c
  -- the jump's end is not known yet
  obtain ⟨g1, b1, b2⟩ := yM_emit c1 (by omega) c3 (by omega) c5 c2 c6 (10, nI s, 0, 0)
  have eA : yM_A s (10, nI s, 0, 0) = 0 := by
    unfold yM_A
    rw [if_pos (.inl rfl)]
    show nI s - nI s = 0
    rw [zi_sub (Nat.le_refl s), Nat.sub_self]; rfl
  rw [eA] at b1
  refine ⟨zs_uF (zs_uM g1 111 w (nI (n - s))) 68 68 (nI (w + 1)), ?_, ?_, b2.2.1.1 _ _ (by decide), b2.2.1.1 _ _ (by decide), rfl, ?_, fun j hj => ?_, fun j _ => ?_⟩
  · rw [yk_sS]
    unfold g_Mo_statementCode
    simp only [if_pos (zi_in (show k < 2147483648 by omega) hk), nI_clamp (show k < 2147483648 by omega), f.2.1 72 (by decide)]
    rw [m0, if_neg (by decide), if_neg (by decide), if_neg (by decide), if_neg (by decide), if_neg (by decide), if_pos rfl]
    refine (congrArg (fun z => zd_B z _) b1).trans ?_
    show (if zd_in ((g.1 68 68)) 4000 then some (zs_uF (zs_uM g1 111 ((g.1 68 68)).toNatClampNeg (nI (n - s))) 68 68 ((g1.1 68 68) + 1)) else none) = _
    rw [show (g1.1 68 68) = nI w from (b2.2.1.1 _ _ (by decide)).trans hl, hl, if_pos (zi_in (by omega) (by omega)), nI_clamp (show w < 2147483648 by omega), nI_1]
  · obtain ⟨e1, e2, e3⟩ := b2
    refine ⟨e1, zfr_F (by decide) (zfr_M (by decide) (zfr_w e2 (by decide) (by decide) (by decide))), fun hn4 => ⟨fun j hj a ha => ?_, fun kk j ej => ?_⟩⟩
    · rw [← (e3 hn4).1 j hj a ha, zu_FM, zu_MM, if_neg (fun q => by rw [q.1] at ha; exact absurd ha (by decide))]
    · obtain ⟨rfl, rfl⟩ := yI_one (show [(((10, nI q, 0, 0), v) : yJ)][kk]? = some j from ej)
      obtain ⟨m1, m2, m3, m4, m5⟩ := (e3 hn4).2 0 _ rfl
      refine ⟨⟨?_, ?_, ?_, ?_⟩, fun w => absurd (show n + 0 ∈ [n] from List.mem_singleton.mpr rfl) w⟩
      · rw [zu_FM, zu_MM, if_neg (fun q => absurd q.1 (by decide))]; exact m1
      · rw [zu_FM, zu_MM, if_neg (fun q => absurd q.1 (by decide))]; exact m4
      · rw [zu_FM, zu_MM, if_neg (fun q => absurd q.1 (by decide))]; exact m5
      · rw [if_neg (show ¬ (10 : Nat) = 13 by decide), zu_FM, zu_MM, if_neg (fun q => absurd q.1 (by decide))]; exact m3
  · refine ⟨⟨?_, c2, by omega⟩, trivial⟩
    rw [zu_FM, zu_MM, if_pos ⟨rfl, rfl⟩]
  · rw [zu_FM, zu_MM, if_neg (fun q => by have : j = w := q.2; omega), b2.2.1.2.1 _ (by decide)]
  · rw [zu_FM, zu_MM, if_neg (fun q => absurd q.1 (by decide)), b2.2.1.2.1 _ (by decide)]
end YKS
end
section
/-! The coder: invocations; the statements of a body. -/
/-- the parameters of an invocation -/
def yz_p (x : Nat) : List (List yI × Nat) → List yI
  | [] => []
  | (L, off) :: r => L ++ ([(2, nI (x + off), 0, 0)] ++ yz_p x r)
def yk_PC (h0 : zs_H) (x : Nat) : List (List yI × Nat) → Int32 → Prop
  | [], y => y = -1
  | (L, off) :: r, y => ∃ a cv dl, a < 32784 ∧ y = nI a ∧ dl ≤ 190 ∧ yk_C h0 dl ((h0.2.1 17) a) L ∧ cv < 6000 ∧ (h0.2.1 16) a = nI cv ∧ (h0.2.1 32) cv = nI off ∧ yk_PC h0 x r ((h0.2.1 18) a)
def yk_PM (g0 : zs_H) (b x : Nat) : List (List yI × Nat) → Int32 → Prop
  | [], y => y = -1
  | (L, off) :: r, y => ∃ a ke dl, ∃ Q : Nat → Prop, a < 33500 ∧ y = nI a ∧ dl ≤ 190 ∧ ke < 33500 ∧ ¬ Q ke ∧ (g0.2.1 76) a = nI ke ∧ yk_M g0 b Q dl ke L ∧ (g0.2.1 101) a = nI (x + off) ∧ yk_PM g0 b x r ((g0.2.1 78) a)
section YKI
variable {h0 h g0 g : zs_H} {dl i k ow b c20 c11 : Nat}
theorem yk_ui {N : Nat} {x2 x3 x4 x5 : Int32} : f_Cr_codeInvocation_L34 (N + 1) h x2 x3 x4 x5 = f_Cr_codeInvocation_34 (f_Cr_codeInvocation_L34 N) h x2 x3 x4 x5 := rfl
theorem yk_um {N : Nat} {x1 x3 : Int32} : f_Mo_statementCode_L75 (N + 1) g x1 x3 = f_Mo_statementCode_75 (f_Mo_statementCode_L75 N) g x1 x3 := rfl
theorem yk_ip {sz x : Nat} {x2 : Int32} (hsz : (h0.1 12 6) = nI sz) (hs2 : sz < 100000) : ∀ (ps : List (List yI × Nat)) (y : Int32) (h : zs_H) (n t N : Nat), yk_PC h0 x ps y → yC_f h0 h → (h.1 41 5) = nI n → n + (yz_p x ps).length ≤ 90000000 → t + ps.length ≤ sz → ps.length < N → ∃ h', f_Cr_codeInvocation_L34 N h x2 (nI x) y (nI t) = f_Cr_codeInvocation_114 h' x2 (nI x) ∧ yC_E n (yz_p x ps) h h' := by
  intro ps
  induction ps with
  | nil =>
    intro y h n t N P f e hn ht hN
    obtain ⟨N, rfl⟩ : ∃ z, N = z + 1 := ⟨N - 1, by omega⟩
    refine ⟨h, ?_, yC_nil e⟩
    rw [yk_ui, show y = -1 from P]
    unfold f_Cr_codeInvocation_34
    rw [if_pos (show (-1 : Int32) = -1 from rfl), ite_self]
  | cons p ps ih =>
    obtain ⟨L, off⟩ := p
    intro y h n t N ⟨a, cv, dl, a1, a2, a3, A, c1, c2, c3, P⟩ f e hn ht hN
    have hn' : n + (L ++ ([((2, nI (x + off), 0, 0) : yI)] ++ yz_p x ps)).length ≤ 90000000 := hn
    rw [List.length_append, List.length_append] at hn'
    have hn2 : n + (L.length + (1 + (yz_p x ps).length)) ≤ 90000000 := hn'
    have ht' : t + (ps.length + 1) ≤ sz := ht
    have hN' : ps.length + 1 < N := hN
    obtain ⟨N, rfl⟩ : ∃ z, N = z + 1 := ⟨N - 1, by omega⟩
    have f' : ∀ a, ¬ a ∈ yC_M → h.2.1 a = h0.2.1 a := fun a ha => f.2.1 a ha
    obtain ⟨h1, b1, b2⟩ := A 400 0 n h f e (by omega) (by omega) (by omega)
    have f1 := yC_fE f b2
    have f1' : ∀ a, ¬ a ∈ yC_M → h1.2.1 a = h0.2.1 a := fun a ha => f1.2.1 a ha
    obtain ⟨h2, d1, d2⟩ := yC_emit b2.1 (by omega) 2 (by decide) (nI (x + off))
    have f2 := yC_fE f1 d2
    have e2 := d2.1
    obtain ⟨h3, g1, g2⟩ := ih _ h2 _ (t + 1) N P f2 e2 (by show n + L.length + 1 + _ ≤ _; omega) (by omega) (by omega)
    refine ⟨h3, ?_, yC_ap b2 (yC_ap d2 g2)⟩
    rw [yk_ui, a2]
    unfold f_Cr_codeInvocation_34
    rw [f.1 _ _ (by decide), hsz, if_neg (mt (nI_leI (by omega) (by omega)).mp (by omega)), if_neg (zc_m1 (by omega))]
    simp only [if_pos (zi_in (show a < 2147483648 by omega) a1), nI_clamp (show a < 2147483648 by omega), f' 17 (by decide)]
    rw [show f_Cr_codeExpression 400 h ((h0.2.1 17) a) 0 = some h1 from b1, Option.bind_some]
    simp only [f1' 16 (by decide), c2, if_pos (zi_in (show cv < 2147483648 by omega) c1), nI_clamp (show cv < 2147483648 by omega), f1' 32 (by decide), c3, nI_add]
    refine (congrArg (fun z => zd_B z _) d1).trans ?_
    show f_Cr_codeInvocation_L34 N h2 x2 (nI x) ((h2.2.1 18) a) (nI t + nI 1) = _
    rw [f2.2.1 18 (by decide), nI_add]
    exact g1
theorem yk_S13 {u x B sz : Nat} {ps : List (List yI × Nat)} (hi : i < 32784) (hu : u < 5950) (ev : (h0.2.1 16) i = nI (32 + u)) (ex : (h0.2.1 32) (32 + u) = nI x) (eB : (h0.2.1 30) (32 + u) = nI B) (hB : B < 600) (hsz : (h0.1 12 6) = nI sz) (hs2 : sz < 100000) (hl : ps.length ≤ sz) (P : yk_PC h0 x ps ((h0.2.1 17) i)) : yk_SC h0 dl 13 i ow 0 (yz_i (yz_p x ps ++ [if 9 ≤ B then (15, nI (B - 9), nI x, 0) else (17, nI B, nI x, 0)])) := by
  have hz := zF_big
  intro D d n v q h f e ho hn _ _
  have hn' : n + ((yz_p x ps).length + 1) ≤ 90000000 := by
    rw [yz_il, List.length_append] at hn; exact hn
  have f' : ∀ a, ¬ a ∈ yC_M → h.2.1 a = h0.2.1 a := fun a ha => f.2.1 a ha
  obtain ⟨h1, a1, a2⟩ := yk_ip (x2 := nI (32 + u)) hsz hs2 ps _ h n 0 zF P f e (by omega) (by omega) (by omega)
  have f1 := yC_fE f a2
  have e0 : f_Cr_codeInvocation h (nI i) = f_Cr_codeInvocation_114 h1 (nI (32 + u)) (nI x) := by
    unfold f_Cr_codeInvocation
    simp only [if_pos (zi_in (show i < 2147483648 by omega) hi), nI_clamp (show i < 2147483648 by omega), f' 16 (by decide), f' 17 (by decide), f' 32 (by decide), ev, if_pos (zi_in (show 32 + u < 2147483648 by omega) (show 32 + u < 6000 by omega)), nI_clamp (show 32 + u < 2147483648 by omega), ex]
    exact a1
  by_cases z : 9 ≤ B
  · obtain ⟨h2, b1, b2⟩ := yC_emit a2.1 (by omega) 15 (by decide) (nI (B - 9))
    obtain ⟨h3, c1, c2⟩ := yC_with (by omega) b2 (nI x) 0
    rw [if_pos z]
    refine ⟨h3, ?_, yC_R0 ho (yC_ap a2 c2)⟩
    show f_Cr_codeInvocation h (nI i) = _
    rw [e0]
    unfold f_Cr_codeInvocation_114
    rw [if_pos (zi_in (by omega) (by omega)), nI_clamp (show 32 + u < 2147483648 by omega), f1.2.1 30 (by decide), eB, if_pos ((zc_le (k := 9) (by decide) (by omega)).mpr z), zc_sb (k := 9) z]
    refine (congrArg (fun z => zd_B z _) b1).trans ?_
    show f_Cr_codeInvocation_162 h2 (nI x) = _
    unfold f_Cr_codeInvocation_162
    rw [c1, Option.bind_some]
  · obtain ⟨h2, b1, b2⟩ := yC_emit a2.1 (by omega) 17 (by decide) (nI B)
    obtain ⟨h3, c1, c2⟩ := yC_with (by omega) b2 (nI x) 0
    rw [if_neg z]
    refine ⟨h3, ?_, yC_R0 ho (yC_ap a2 c2)⟩
    show f_Cr_codeInvocation h (nI i) = _
    rw [e0]
    unfold f_Cr_codeInvocation_114
    rw [if_pos (zi_in (by omega) (by omega)), nI_clamp (show 32 + u < 2147483648 by omega), f1.2.1 30 (by decide), eB, if_neg (mt (zc_le (k := 9) (by decide) (by omega)).mp z)]
    refine (congrArg (fun z => zd_B z _) b1).trans ?_
    show f_Cr_codeInvocation_162 h2 (nI x) = _
    unfold f_Cr_codeInvocation_162
    rw [c1, Option.bind_some]
theorem yk_tp {x : Nat} {x1 : Int32} : ∀ (ps : List (List yI × Nat)) (y : Int32) (g : zs_H) (n s v N : Nat), yk_PM g0 b x ps y → yM_f g0 g → yM_c g n s b v → n + (yz_p x ps).length ≤ 90000000 → ps.length < N → ∃ g', f_Mo_statementCode_L75 N g x1 y = f_Mo_statementCode_75 (fun _ _ _ => none) g' x1 (-1) ∧ yM_E s n (yv v (yz_p x ps)) g g' := by
  intro ps
  induction ps with
  | nil =>
    intro y g n s v N P f c hn hN
    obtain ⟨N, rfl⟩ : ∃ z, N = z + 1 := ⟨N - 1, by omega⟩
    refine ⟨g, ?_, yM_nil c.1.1⟩
    rw [yk_um, show y = -1 from P]
    unfold f_Mo_statementCode_75
    rw [if_pos (show (-1 : Int32) < 0 by decide), if_pos (show (-1 : Int32) < 0 by decide)]
  | cons p ps ih =>
    obtain ⟨L, off⟩ := p
    intro y g n s v N ⟨a, ke, dl, Q, a1, a2, a3, k1, k2, k3, A, k4, P⟩ f c hn hN
    have hn' : n + (L ++ ([((2, nI (x + off), 0, 0) : yI)] ++ yz_p x ps)).length ≤ 90000000 := hn
    rw [List.length_append, List.length_append] at hn'
    have hn2 : n + (L.length + (1 + (yz_p x ps).length)) ≤ 90000000 := hn'
    have hN' : ps.length + 1 < N := hN
    obtain ⟨N, rfl⟩ : ∃ z, N = z + 1 := ⟨N - 1, by omega⟩
    have f' : ∀ a, ¬ a ∈ yM_M → g.2.1 a = g0.2.1 a := fun a ha => f.2.1 a ha
    obtain ⟨g1, b1, b2⟩ := yk_M1 (D := 600) (by omega) k1 k2 A f c (by omega) (by omega)
    have f1 := yM_fE f b2
    have c1 := yM_cL c b2
    obtain ⟨g2, d1, d2⟩ := yM_e c1 (by omega) 2 (nI (x + off)) 0 0 (by decide)
    have f2 := yM_fE f1 d2
    obtain ⟨g3, q1, q2⟩ := ih _ g2 _ s v N P f2 (yM_cL c1 d2) (by show n + L.length + 1 + _ ≤ _; omega) (by omega)
    refine ⟨g3, ?_, yM_aL b2 (yM_aL d2 q2)⟩
    rw [yk_um, a2]
    unfold f_Mo_statementCode_75
    rw [if_neg (nI_pos (by omega))]
    simp only [if_pos (zi_in (show a < 2147483648 by omega) a1), nI_clamp (show a < 2147483648 by omega), f' 76 (by decide), k3]
    rw [b1, Option.bind_some]
    simp only [f1.2.1 101 (by decide), k4]
    refine (congrArg (fun z => zd_B z _) d1).trans ?_
    show f_Mo_statementCode_L75 N g2 x1 ((g2.2.1 78) a) = _
    rw [f2.2.1 78 (by decide), q1]
    unfold f_Mo_statementCode_75
    rw [if_pos (show (-1 : Int32) < 0 by decide)]
theorem yk_T13 {u x B : Nat} {ps : List (List yI × Nat)} (hk : k < 33500) (m0 : (g0.2.1 72) k = 13) (hu : u < 8400) (hv : f_Mo_variable g0 (nI b) ((g0.2.1 74) k) = some (nI u)) (ty : (g0.2.1 93) u = nI (if B < 9 then 100000 + B else B - 9)) (hB : B < 600) (m1 : (g0.2.1 101) k = nI x) (m2 : (g0.2.1 102) k = nI (if B < 9 then 100 + B else B - 9)) (hl : ps.length < 40000) (P : yk_PM g0 b x ps ((g0.2.1 76) k)) : yk_SM g0 b dl k (yz_i (yz_p x ps ++ [if 9 ≤ B then (15, nI (B - 9), nI x, 0) else (17, nI B, nI x, 0)])) c20 c11 := by
  have hz := zF_big
  intro D n s v q w ww g f c hlv hw hn _ _ hD
  obtain ⟨D, rfl⟩ : ∃ z, D = z + 1 := ⟨D - 1, by omega⟩
  have hn' : n + ((yz_p x ps).length + 1) ≤ 90000000 := by
    rw [yz_il, List.length_append] at hn; exact hn
  have f' : ∀ a, ¬ a ∈ yM_M → g.2.1 a = g0.2.1 a := fun a ha => f.2.1 a ha
  obtain ⟨g1, a1, a2⟩ := yk_tp (x1 := nI k) ps _ g n s v zF P f c (by omega) (by omega)
  have f1 := yM_fE f a2
  have f1' : ∀ a, ¬ a ∈ yM_M → g1.2.1 a = g0.2.1 a := fun a ha => f1.2.1 a ha
  have c1 := yM_cL c a2
  have e0 : f_Mo_statementCode (D + 1) g (nI k) = f_Mo_statementCode_75 (fun _ _ _ => none) g1 (nI k) (-1) := by
    rw [yk_sS]
    unfold g_Mo_statementCode
    simp only [if_pos (zi_in (show k < 2147483648 by omega) hk), nI_clamp (show k < 2147483648 by omega), f' 72 (by decide), f' 76 (by decide)]
    rw [m0, if_neg (by decide), if_pos rfl, a1]
  have eo : f_Mo_isOwn g1 (nI k) = some (if B < 9 then 1 else 0) := by
    unfold f_Mo_isOwn
    simp only [if_pos (zi_in (show k < 2147483648 by omega) hk), nI_clamp (show k < 2147483648 by omega), f1' 74 (by decide), c1.2.2.2, yk_fva f1, hv, Option.bind_some, if_pos (zi_in (show u < 2147483648 by omega) hu), nI_clamp (show u < 2147483648 by omega), f1' 93 (by decide), ty]
    by_cases z : B < 9
    · rw [if_pos z, if_neg (mt (zc_tl (k := 100000) (by decide) (by omega)).mp (by omega)), if_pos z]
    · rw [if_neg z, if_pos ((zc_tl (k := 100000) (by decide) (by omega)).mpr (by omega)), if_neg z]
  by_cases z : 9 ≤ B
  · obtain ⟨g2, b1, b2⟩ := yM_e c1 (by omega) 15 (nI (B - 9)) (nI x) 0 (by decide)
    rw [if_pos z]
    refine ⟨g2, ?_, yM_R0 hlv (yM_aL a2 b2)⟩
    rw [e0]
    unfold f_Mo_statementCode_75 f_Mo_statementCode_165
    rw [if_pos (show (-1 : Int32) < 0 by decide), eo, if_neg (by omega), Option.bind_some, if_pos rfl]
    simp only [if_pos (zi_in (show k < 2147483648 by omega) hk), nI_clamp (show k < 2147483648 by omega), f1' 102 (by decide), f1' 101 (by decide), m1, m2, if_neg (show ¬ B < 9 by omega)]
    exact (congrArg (fun z => zd_B z _) b1).trans rfl
  · obtain ⟨g2, b1, b2⟩ := yM_e c1 (by omega) 17 (nI B) (nI x) 0 (by decide)
    rw [if_neg z]
    refine ⟨g2, ?_, yM_R0 hlv (yM_aL a2 b2)⟩
    rw [e0]
    unfold f_Mo_statementCode_75 f_Mo_statementCode_165
    rw [if_pos (show (-1 : Int32) < 0 by decide), eo, if_pos (by omega), Option.bind_some, if_neg (by decide)]
    simp only [if_pos (zi_in (show k < 2147483648 by omega) hk), nI_clamp (show k < 2147483648 by omega), f1' 102 (by decide), f1' 101 (by decide), m1, m2, if_pos (show B < 9 by omega), zc_sb (k := 100) (show 100 ≤ 100 + B by omega), show 100 + B - OfNat.ofNat 100 = B from Nat.add_sub_cancel_left 100 B]
    exact (congrArg (fun z => zd_B z _) b1).trans rfl
end YKI
end
section
/-! The coder: the statements of a body. -/
def yk_SL (h0 g0 : zs_H) (b : Nat) : zt_T → Int32 → Int32 → Nat → ys → Prop
  | .leaf, x, x', _, T => x = -1 ∧ x' = -1 ∧ T = .leaf
  | .inner kd kv o l r, x, x', ow, T => ∃ (i k : Nat) (T1 Tr : ys), T = yz_ap T1 Tr ∧ yz_st T1 ∧ (i < 32784 ∧ x = nI i ∧ (h0.2.1 13) i = nI kd) ∧ (k < 33500 ∧ x' = nI k) ∧ (kd = 12 ∨ kd = 13 ∨ kd = 15 ∨ kd = 16 ∨ kd = 19 ∨ kd = 20 ∨ kd = 21) ∧ (yk_SC h0 (zg_d l) kd i ow (yg_c 0 (.inner kd kv o l .leaf)) T1 ∧ yk_SM g0 b (zg_d l) k T1 (zg_ct 20 (.inner kd kv o l .leaf)) (zg_ct 11 (.inner kd kv o l .leaf))) ∧ ((∀ n, (yz_x T1 n).length ≤ zg_ct 20 (.inner kd kv o l .leaf)) ∧ yz_l T1 ≤ 6 * zt_sz (.inner kd kv o l .leaf)) ∧ yk_SL h0 g0 b r ((h0.2.1 18) i) ((g0.2.1 78) k) (ow + yg_c 0 (.inner kd kv o l .leaf)) Tr
/-- a body that has been coded: the class's node i, the model's node k -/
def yk_BC (h0 : zs_H) (dl i ow oc : Nat) (T : ys) : Prop := ∀ (D d n v q : Nat) (h : zs_H), yC_f h0 h → (h.1 41 5) = nI n → (h.1 47 4) = nI ow → n + yz_l T ≤ 90000000 → 2 * dl + 1 ≤ D → d + dl ≤ 240 → ∃ h', f_Cr_codeBody D h (nI i) (nI d) = some h' ∧ yC_R n v q T (ow + oc) h h'
def yk_BM (g0 : zs_H) (b dl k : Nat) (T : ys) (c20 c11 : Nat) : Prop := ∀ (D n s v q w ww : Nat) (g : zs_H), yM_f g0 g → yM_c g n s b v → (g.1 68 68) = nI w → (g.1 68 66) = nI ww → n + yz_l T ≤ 90000000 → w + c20 ≤ 4000 → ww + c11 ≤ 8400 → 2 * dl + 1 ≤ D → ∃ g', f_Mo_bodyCode D g (nI k) = some g' ∧ yM_R s n v q T w ww g g'
section YKB
variable {h0 h g0 g : zs_H} {b : Nat}
theorem yk_uB {D N : Nat} {x2 x3 x4 : Int32} : f_Cr_codeBody_L21 (f_Cr_codeCase D) (f_Cr_codeFor D) (f_Cr_codeIf D) (N + 1) h x2 x3 x4 = f_Cr_codeBody_21 (f_Cr_codeCase D) (f_Cr_codeFor D) (f_Cr_codeIf D) (f_Cr_codeBody_L21 (f_Cr_codeCase D) (f_Cr_codeFor D) (f_Cr_codeIf D) N) h x2 x3 x4 := rfl
theorem yk_ub {D N : Nat} {x2 : Int32} : f_Mo_bodyCode_L7 (f_Mo_statementCode D) (N + 1) g x2 = f_Mo_bodyCode_7 (f_Mo_statementCode D) (f_Mo_bodyCode_L7 (f_Mo_statementCode D) N) g x2 := rfl
/-- one statement, and the next ones -/
theorem yk_do1 {sz kd i d t D N : Nat} {h' : zs_H} (hsz : (h0.1 12 6) = nI sz) (hs2 : sz < 100000) (f : yC_f h0 h) (f1 : yC_f h0 h') (hi : i < 32784) (hk : (h0.2.1 13) i = nI kd) (hkd : kd = 12 ∨ kd = 13 ∨ kd = 15 ∨ kd = 16 ∨ kd = 19 ∨ kd = 20 ∨ kd = 21) (ht : t < sz) (e : yk_do kd D d h i = some h') : f_Cr_codeBody_L21 (f_Cr_codeCase D) (f_Cr_codeFor D) (f_Cr_codeIf D) (N + 1) h (nI d) (nI i) (nI t) = f_Cr_codeBody_L21 (f_Cr_codeCase D) (f_Cr_codeFor D) (f_Cr_codeIf D) N h' (nI d) ((h0.2.1 18) i) (nI (t + 1)) := by
  have f' : ∀ a, ¬ a ∈ yC_M → h.2.1 a = h0.2.1 a := fun a ha => f.2.1 a ha
  have e176 : f_Cr_codeBody_176 (f_Cr_codeCase D) (f_Cr_codeFor D) (f_Cr_codeIf D) (f_Cr_codeBody_L21 (f_Cr_codeCase D) (f_Cr_codeFor D) (f_Cr_codeIf D) N) h' (nI d) (nI i) (nI t) = f_Cr_codeBody_L21 (f_Cr_codeCase D) (f_Cr_codeFor D) (f_Cr_codeIf D) N h' (nI d) ((h0.2.1 18) i) (nI (t + 1)) := by
    unfold f_Cr_codeBody_176
    rw [if_pos (zi_in (by omega) hi), nI_clamp (show i < 2147483648 by omega), f1.2.1 18 (by decide), nI_1]
  rw [yk_uB]
  unfold f_Cr_codeBody_21
  rw [f.1 _ _ (by decide), hsz, if_neg (mt (nI_leI (by omega) (by omega)).mp (by omega)), if_neg (zc_m1 (by omega)), if_pos (zi_in (by omega) hi), nI_clamp (show i < 2147483648 by omega), f' 13 (by decide), hk, nI_1]
  unfold yk_do at e
  rcases hkd with rfl | rfl | rfl | rfl | rfl | rfl | rfl
  · rw [if_pos rfl] at e
    rw [if_pos (by decide), e, Option.bind_some, e176]
  · rw [if_neg (by decide), if_pos rfl] at e
    rw [if_neg (by decide), if_pos (by decide), e, Option.bind_some, e176]
  · rw [if_neg (by decide), if_neg (by decide), if_pos rfl] at e
    rw [if_neg (by decide), if_neg (by decide), if_pos (by decide), e, Option.bind_some, e176]
  · rw [if_neg (by decide), if_neg (by decide), if_neg (by decide), if_pos rfl] at e
    rw [if_neg (by decide), if_neg (by decide), if_neg (by decide), if_pos (by decide), e, Option.bind_some, e176]
  · rw [if_neg (by decide), if_neg (by decide), if_neg (by decide), if_neg (by decide), if_pos rfl] at e
    rw [if_neg (by decide), if_neg (by decide), if_neg (by decide), if_neg (by decide), if_pos (by decide), e, Option.bind_some, e176]
  · rw [if_neg (by decide), if_neg (by decide), if_neg (by decide), if_neg (by decide), if_neg (by decide), if_pos rfl] at e
    rw [if_neg (by decide), if_neg (by decide), if_neg (by decide), if_neg (by decide), if_neg (by decide), if_pos (by decide)]
    obtain ⟨v, h1, e1, e2⟩ := zd_Be e
    cases e2
    rw [e1]
    exact e176
  · rw [if_neg (by decide), if_neg (by decide), if_neg (by decide), if_neg (by decide), if_neg (by decide), if_neg (by decide)] at e
    rw [if_neg (by decide), if_neg (by decide), if_neg (by decide), if_neg (by decide), if_neg (by decide), if_neg (by decide)]
    obtain ⟨v, h1, e1, e2⟩ := zd_Be e
    cases e2
    rw [e1]
    exact e176
theorem yg_c1 {p kd : Nat} {kv : Int32 × Int32} {o : Unit} {l r : zt_T} : yg_c p (.inner kd kv o l r) = yg_c p (.inner kd kv o l .leaf) + yg_c p r := rfl
theorem zg_c1 {c kd : Nat} {kv : Int32 × Int32} {o : Unit} {l r : zt_T} : zg_ct c (.inner kd kv o l r) = zg_ct c (.inner kd kv o l .leaf) + zg_ct c r := rfl
theorem zt_s1 {kd : Nat} {kv : Int32 × Int32} {o : Unit} {l r : zt_T} : zt_sz (.inner kd kv o l r) = zt_sz (.inner kd kv o l .leaf) + zt_sz r := rfl
theorem yk_list {sz : Nat} (hsz : (h0.1 12 6) = nI sz) (hs2 : sz < 100000) : ∀ (t : zt_T) (x x' : Int32) (ow : Nat) (T : ys), yk_SL h0 g0 b t x x' ow T → yz_st T ∧ (∀ n, (yz_x T n).length ≤ zg_ct 20 t) ∧ yz_l T ≤ 6 * zt_sz t ∧ (∀ (D d n v q tt N : Nat) (h : zs_H), yC_f h0 h → (h.1 41 5) = nI n → (h.1 47 4) = nI ow → n + yz_l T ≤ 90000000 → 2 * zg_d t ≤ D → d + zg_d t ≤ 240 → tt + zt_ln t ≤ sz → zt_ln t < N → ∃ h', f_Cr_codeBody_L21 (f_Cr_codeCase D) (f_Cr_codeFor D) (f_Cr_codeIf D) N h (nI d) x (nI tt) = some h' ∧ yC_R n v q T (ow + yg_c 0 t) h h') ∧ (∀ (D n s v q w ww N : Nat) (g : zs_H), yM_f g0 g → yM_c g n s b v → (g.1 68 68) = nI w → (g.1 68 66) = nI ww → n + yz_l T ≤ 90000000 → w + zg_ct 20 t ≤ 4000 → ww + zg_ct 11 t ≤ 8400 → 2 * zg_d t ≤ D → zt_ln t < N → ∃ g', f_Mo_bodyCode_L7 (f_Mo_statementCode D) N g x' = some g' ∧ yM_R s n v q T w ww g g') := by
  intro t
  induction t with
  | leaf =>
    intro x x' ow T ⟨e1, e2, e3⟩
    subst e3
    refine ⟨trivial, fun n => Nat.zero_le _, Nat.zero_le _, fun D d n v q tt N h f e ho hn hD hd ht hN => ?_, fun D n s v q w ww N g f c hl hw hn _ _ hD hN => ?_⟩
    · obtain ⟨N, rfl⟩ : ∃ z, N = z + 1 := ⟨N - 1, by have : zt_ln .leaf = 0 := rfl; omega⟩
      refine ⟨h, ?_, yC_Rn ho e⟩
      rw [yk_uB, e1]
      unfold f_Cr_codeBody_21
      rw [if_pos (show (-1 : Int32) = -1 from rfl), ite_self]
    · obtain ⟨N, rfl⟩ : ∃ z, N = z + 1 := ⟨N - 1, by have : zt_ln .leaf = 0 := rfl; omega⟩
      refine ⟨g, ?_, yM_Rn hl c.1.1⟩
      rw [yk_ub, e2]
      unfold f_Mo_bodyCode_7
      rw [if_pos (by decide)]
  | inner kd kv o l r _ ihr =>
    intro x x' ow T ⟨i, k, T1, Tr, eT, sT, ⟨i1, i2, i3⟩, ⟨k1, k2⟩, hkd, ⟨SC, SM⟩, ⟨nx, nl⟩, R⟩
    have hd0 : max (zg_d l + 1) (zg_d r) ≤ zg_d (.inner kd kv o l r) := zg_d1
    have hl0 : zt_ln (.inner kd kv o l r) = 1 + zt_ln r := rfl
    obtain ⟨r1, r2, r3, r4, r5⟩ := ihr _ _ _ _ R
    subst eT
    have hL := yz_apl T1 Tr sT
    refine ⟨yz_stap _ _ sT r1, fun n => ?_, ?_, fun D d n v q tt N h f e ho hn hD hd ht hN => ?_, fun D n s v q w ww N g f c hl hw hn h20 h11 hD hN => ?_⟩
    · rw [yz_apx _ _ _ sT, List.length_append, zg_c1]
      have := nx n
      have := r2 (n + yz_l T1)
      omega
    · rw [hL, zt_s1]; omega
    · rw [hL] at hn
      obtain ⟨N, rfl⟩ : ∃ z, N = z + 1 := ⟨N - 1, by omega⟩
      obtain ⟨h1, a1, a2⟩ := SC D d n v q h f e ho (by omega) (by omega) (by omega)
      obtain ⟨f1, e1, o1⟩ := yC_Rf f a2
      obtain ⟨h2, b1, b2⟩ := r4 D d _ v q (tt + 1) N h1 f1 e1 o1 (by omega) (by omega) (by omega) (by omega) (by omega)
      refine ⟨h2, ?_, ?_⟩
      · rw [i2, yk_do1 hsz hs2 f f1 i1 i3 hkd (by omega) a1, b1]
      · rw [yg_c1, ← Nat.add_assoc]
        exact yC_Rap sT a2 b2
    · rw [hL] at hn
      rw [zg_c1] at h20 h11
      obtain ⟨N, rfl⟩ : ∃ z, N = z + 1 := ⟨N - 1, by omega⟩
      obtain ⟨g1, a1, a2⟩ := SM D n s v q w ww g f c hl hw (by omega) (by omega) (by omega) (by omega)
      obtain ⟨f1, c1, l1, w1⟩ := yM_Rf f c a2
      have nx1 := nx n
      obtain ⟨g2, b1, b2⟩ := r5 D _ s v q _ ww N g1 f1 c1 l1 (w1.trans hw) (by omega) (by omega) (by omega) (by omega) (by omega)
      refine ⟨g2, ?_, yM_Rap sT hw a2 b2⟩
      rw [yk_ub, k2]
      unfold f_Mo_bodyCode_7
      rw [if_neg (nI_pos (by omega)), a1, Option.bind_some, if_pos (zi_in (by omega) k1), nI_clamp (show k < 2147483648 by omega), f1.2.1 78 (by decide)]
      exact b1
/-- a body -/
theorem yk_body {sz i k ow : Nat} {t : zt_T} {T : ys} (hsz : (h0.1 12 6) = nI sz) (hs2 : sz < 100000) (hi : i < 32784) (hk : k < 33500) (hln : zt_ln t ≤ sz) (H : yk_SL h0 g0 b t ((h0.2.1 17) i) ((g0.2.1 76) k) ow T) : yk_BC h0 (zg_d t) i ow (yg_c 0 t) T ∧ yk_BM g0 b (zg_d t) k T (zg_ct 20 t) (zg_ct 11 t) ∧ yz_st T ∧ (∀ n, (yz_x T n).length ≤ zg_ct 20 t) ∧ yz_l T ≤ 6 * zt_sz t := by
  have hz := zF_big
  obtain ⟨r1, r2, r3, r4, r5⟩ := yk_list hsz hs2 t _ _ ow T H
  refine ⟨fun D d n v q h f e ho hn hD hd => ?_, fun D n s v q w ww g f c hl hw hn h20 h11 hD => ?_, r1, r2, r3⟩
  · obtain ⟨D, rfl⟩ : ∃ z, D = z + 1 := ⟨D - 1, by omega⟩
    obtain ⟨h', a1, a2⟩ := r4 D d n v q 0 zF h f e ho hn (by omega) hd (by omega) (by omega)
    refine ⟨h', ?_, a2⟩
    show g_Cr_codeBody (f_Cr_codeCase D) (f_Cr_codeFor D) (f_Cr_codeIf D) h (nI i) (nI d) = _
    unfold g_Cr_codeBody
    rw [if_pos ((zc_el (k := 240) (by decide) (by omega)).mpr (by omega)), if_pos (zi_in (by omega) hi), nI_clamp (show i < 2147483648 by omega), f.2.1 17 (by decide)]
    exact a1
  · obtain ⟨D, rfl⟩ : ∃ z, D = z + 1 := ⟨D - 1, by omega⟩
    obtain ⟨g', a1, a2⟩ := r5 D n s v q w ww zF g f c hl hw hn h20 h11 (by omega) (by omega)
    refine ⟨g', ?_, a2⟩
    show g_Mo_bodyCode (f_Mo_statementCode D) g (nI k) = _
    unfold g_Mo_bodyCode
    rw [if_pos (zi_in (by omega) hk), nI_clamp (show k < 2147483648 by omega), f.2.1 76 (by decide)]
    exact a1
end YKB
end
section
/-! The coder: one branch of a choice. -/
/-- a row of branches -/
def yC_B (n v q e : Nat) (B : ys) (ow : Nat) (c0 c1 : Int32) (h h' : zs_H) : Prop := yC_H n ((yz_c B n v q e).map Prod.fst) (yz_x B n ++ yz_g B n) h h' ∧ (h'.1 47 4) = nI ow ∧ (n + yz_l B ≤ 4000 → yC_ch h' ((h.1 47 6)) (n + yz_l B) (yz_x B n) ((h'.1 47 6)) ∧ yC_ch h' c0 (n + yz_l B) (yz_g B n) c1)
def yM_Bx (s n v q e : Nat) (B : ys) (w ww : Nat) (g g' : zs_H) : Prop := yM_H s n (yz_c B n v q e) (yz_x B n ++ yz_g B n) g g' ∧ (g'.1 68 64) = (g.1 68 64) ∧ (g'.1 68 66) = nI (ww + (yz_g B n).length) ∧ yM_st ((g'.2.1 110)) s ww (yz_g B n) ∧ ((g'.1 68 68) = nI (w + (yz_x B n).length) ∧ yM_st ((g'.2.1 111)) s w (yz_x B n) ∧ ∀ k, k < w → (g'.2.1 111) k = (g.2.1 111) k) ∧ (∀ k, k < ww → (g'.2.1 110) k = (g.2.1 110) k)
section YBR
variable {h0 h g0 g : zs_H} {b : Nat}
/-- what a branch's body and what stands around it leaves; m: the jump over it -/
theorem yC_br {D d m v q e ow oc bi dl : Nat} {la : Bool} {T : ys} {c0 : Int32} (f : yC_f h0 h) (es : (h.1 41 5) = nI m) (ho : (h.1 47 4) = nI ow) (hn : m + 1 + yz_l T + 1 ≤ 90000001) (hD : 2 * dl + 2 ≤ D) (hd : d + 1 + dl ≤ 240) (B : yk_BC h0 dl bi ow oc T) : ∃ c1 h', f_Cr_codeBranch D h (nI bi) (if la = true then 1 else 0) c0 (nI d) = some (c1, h') ∧ yC_H m ([(11, nI (m + (1 + yz_l T + (if la = true then 0 else 1))), 0, 0)] ++ ((yz_c T (m + 1) v q 0).map Prod.fst ++ (if la = true then [] else [(10, nI e, 0, 0)]))) (yz_x T (m + 1) ++ (if la = true then [] else [m + 1 + yz_l T])) h h' ∧ (h'.1 47 4) = nI (ow + oc) ∧ (m + (1 + yz_l T + (if la = true then 0 else 1)) ≤ 4000 → yC_ch h' ((h.1 47 6)) (m + 1 + yz_l T) (yz_x T (m + 1)) ((h'.1 47 6)) ∧ yC_ch h' c0 (m + (1 + yz_l T + (if la = true then 0 else 1))) (if la = true then [] else [m + 1 + yz_l T]) c1) := by
  obtain ⟨D, rfl⟩ : ∃ z, D = z + 1 := ⟨D - 1, by omega⟩
  obtain ⟨h1, a1, a2⟩ := yC_emit es (by omega) 11 (by decide) (-1)
  have f1 := yC_fE f a2
  obtain ⟨h2, b1, b2⟩ := B D (d + 1) (m + 1) v q h1 f1 a2.1 ((a2.2.1.1 _ _ (by decide)).trans ho) (by omega) (by omega) (by omega)
  obtain ⟨f2, e2, o2⟩ := yC_Rf f1 b2
  have x1 : (h1.1 47 6) = (h.1 47 6) := a2.2.1.1 _ _ (by decide)
  have ml : ((yz_c T (m + 1) v q 0).map Prod.fst).length = yz_l T := yz_ml
  have hm : ∀ j, j ∈ yz_x T (m + 1) → m + 1 ≤ j ∧ j < m + 1 + yz_l T := fun j hj => yz_xr _ _ _ hj
  have eB : f_Cr_codeBranch (D + 1) h (nI bi) (if la = true then 1 else 0) c0 (nI d) = (if (if la = true then (1 : Int32) else 0) = 0 then (zd_B (f_Cd_emit h2 10 c0) fun v8 h9 => f_Cr_codeBranch_39 h9 (nI m) v8) else f_Cr_codeBranch_39 h2 (nI m) c0) := by
    show g_Cr_codeBranch (f_Cr_codeBody D) h (nI bi) (if la = true then 1 else 0) c0 (nI d) = _
    unfold g_Cr_codeBranch
    refine (congrArg (fun z => zd_B z _) a1).trans ?_
    show (f_Cr_codeBody D h1 (nI bi) (nI d + 1)).bind _ = _
    rw [nI_1, b1, Option.bind_some]
  rw [eB]
  cases la with
  | true =>
    have A : yC_H m ([(11, nI (m + (1 + yz_l T + 0)), 0, 0)] ++ ((yz_c T (m + 1) v q 0).map Prod.fst ++ [])) ([m] ++ (yz_x T (m + 1) ++ [])) h h2 := by
      rw [List.append_nil, List.append_nil]
      exact yC_Hap (yC_EHh a2) b2.1
    have Al : ([((11, nI (m + (1 + yz_l T + 0)), 0, 0) : yI)] ++ ((yz_c T (m + 1) v q 0).map Prod.fst ++ [])).length = 1 + yz_l T + 0 := by
      rw [List.append_nil, List.length_append, ml]; rfl
    obtain ⟨h3, j1, j2, j3, j4⟩ := yC_join (js := [m]) (x := nI m) (by rw [Al]; omega) A (fun h4 => by
      rw [Al] at h4 ⊢
      refine ⟨⟨by omega, rfl, ?_⟩, fun j hj => by rw [List.mem_singleton.mp hj]; exact Nat.le_refl _, fun k i ei hk => ?_⟩
      · rw [(b2.1.2.2 (by rw [ml]; omega)).1 m (by omega) _ (by decide)]
        exact ((a2.2.2 (show m + 1 ≤ 4000 by omega)).2 0 _ rfl).2.1
      · have : k = 0 := by have := List.mem_singleton.mp hk; omega
        subst this
        cases (show some ((11, nI (m + (1 + yz_l T + 0)), 0, 0) : yI) = some i from ei)
        rfl)
    refine ⟨c0, h3, ?_, j4 _ (fun j hj => ?_), (j2.1 _ _ List.not_mem_nil).trans o2, fun h4 => ⟨?_, rfl⟩⟩
    · rw [if_pos rfl, if_neg (by decide)]
      unfold f_Cr_codeBranch_39
      rw [j1, Option.bind_some]
    · rcases List.mem_append.mp hj with z | z
      · exact .inl z
      · exact .inr z
    · have h4' : m + (1 + yz_l T + 0) ≤ 4000 := h4
      have c := b2.2.2 (by omega)
      rw [x1] at c
      rw [show (h3.1 47 6) = (h2.1 47 6) from j2.1 _ _ List.not_mem_nil]
      exact yC_chg _ _ _ (fun j hj => j3 (by rw [Al]; omega) j (fun z => by have := List.mem_singleton.mp z; have := hm j hj; omega)) c
  | false =>
    obtain ⟨h3, d1, d2⟩ := yC_emit e2 (by omega) 10 (by decide) c0
    have A : yC_H m ([(11, nI (m + (1 + yz_l T + 1)), 0, 0)] ++ ((yz_c T (m + 1) v q 0).map Prod.fst ++ [(10, nI e, 0, 0)])) ([m] ++ (yz_x T (m + 1) ++ [m + 1 + yz_l T])) h h3 := yC_Hap (yC_EHh a2) (yC_Hap b2.1 (by rw [ml]; exact yC_EHh d2))
    have Al : ([((11, nI (m + (1 + yz_l T + 1)), 0, 0) : yI)] ++ ((yz_c T (m + 1) v q 0).map Prod.fst ++ [((10, nI e, 0, 0) : yI)])).length = 1 + yz_l T + 1 := by
      rw [List.length_append, List.length_append, ml]; show 1 + (yz_l T + 1) = _; omega
    obtain ⟨h4, j1, j2, j3, j4⟩ := yC_join (js := [m]) (x := nI m) (by rw [Al]; omega) A (fun h4 => by
      rw [Al] at h4 ⊢
      refine ⟨⟨by omega, rfl, ?_⟩, fun j hj => by rw [List.mem_singleton.mp hj]; exact Nat.le_refl _, fun k i ei hk => ?_⟩
      · rw [(d2.2.2 (show m + 1 + yz_l T + 1 ≤ 4000 by omega)).1 m (by omega) _ (by decide), (b2.1.2.2 (by rw [ml]; omega)).1 m (by omega) _ (by decide)]
        exact ((a2.2.2 (show m + 1 ≤ 4000 by omega)).2 0 _ rfl).2.1
      · have : k = 0 := by have := List.mem_singleton.mp hk; omega
        subst this
        cases (show some ((11, nI (m + (1 + yz_l T + 1)), 0, 0) : yI) = some i from ei)
        rfl)
    have x3 : (h3.1 47 6) = (h2.1 47 6) := d2.2.1.1 _ _ (by decide)
    refine ⟨nI (m + 1 + yz_l T), h4, ?_, j4 _ (fun j hj => ?_), (j2.1 _ _ List.not_mem_nil).trans ((d2.2.1.1 _ _ (by decide)).trans o2), fun h5 => ⟨?_, ?_⟩⟩
    · rw [if_pos (show (if false = true then (1 : Int32) else 0) = 0 by decide)]
      refine (congrArg (fun z => zd_B z _) d1).trans ?_
      show f_Cr_codeBranch_39 h3 (nI m) (nI (m + 1 + yz_l T)) = _
      unfold f_Cr_codeBranch_39
      rw [j1, Option.bind_some]
    · rcases List.mem_append.mp hj with z | z
      · exact .inl z
      · exact .inr z
    · have h4' : m + (1 + yz_l T + 1) ≤ 4000 := h5
      have c := b2.2.2 (by omega)
      rw [x1] at c
      rw [show (h4.1 47 6) = (h3.1 47 6) from j2.1 _ _ List.not_mem_nil, x3]
      refine yC_chg (h := h2) _ _ _ (fun j hj => ?_) c
      have := hm j hj
      rw [j3 (by rw [Al]; omega) j (fun z => by have := List.mem_singleton.mp z; omega)]
      exact (d2.2.2 (show m + 1 + yz_l T + 1 ≤ 4000 by omega)).1 j (by omega) _ (by decide)
    · have h4' : m + (1 + yz_l T + 1) ≤ 4000 := h5
      refine ⟨by show m + 1 + yz_l T < m + (1 + yz_l T + 1); omega, rfl, ?_⟩
      show (h4.2.1 43) (m + 1 + yz_l T) = c0
      rw [j3 (by rw [Al]; omega) _ (fun z => by have := List.mem_singleton.mp z; omega)]
      exact ((d2.2.2 (show m + 1 + yz_l T + 1 ≤ 4000 by omega)).2 0 _ rfl).2.1
theorem yM_aj1 {T : Int32} {j : Nat} {g g' : zs_H} (A : yM_am T j g g') : yM_aj T [j] g g' := by
  obtain ⟨a1, a2, a3⟩ := A
  refine ⟨fun a ha => a1.2.1 a ha, funext fun a => a1.2.2 a List.not_mem_nil, fun i hi => a2 i (fun z => hi (List.mem_singleton.mpr z)), fun i hi h4 => ?_⟩
  have := List.mem_singleton.mp hi
  subst this
  exact a3 h4
/-- a jump whose end is not known -/
theorem yM_eh {g : zs_H} {n s u v : Nat} (C : yM_c g n s u v) (hn : n < 100000000) (o : Nat) (ho : o = 10 ∨ o = 11) : ∃ g', f_Mo_emit g (nI o) 0 0 0 = some (nI (n - s), g') ∧ yM_E s n [((o, nI s, 0, 0), v)] g g' := by
  obtain ⟨⟨c1, c2⟩, ⟨c3, c4, c5⟩, c6, c7⟩ := C
  obtain ⟨g', e1, e2⟩ := yM_emit c1 hn c3 (by omega) c5 c2 c6 (o, nI s, 0, 0)
  have eA : yM_A s (o, nI s, 0, 0) = 0 := by
    unfold yM_A
    rw [if_pos (show o = 10 ∨ o = 11 ∨ o = 14 by omega)]
    show nI s - nI s = 0
    rw [zi_sub (Nat.le_refl s), Nat.sub_self]; rfl
  have eB : yM_B s (o, nI s, 0, 0) = 0 := by
    unfold yM_B
    rw [if_neg (show ¬ o = 13 by omega)]
  rw [eA, eB] at e1
  exact ⟨g', e1, e2⟩
theorem yM_br {D m s v q e w ww bi xn dl c20 c11 : Nat} {la : Bool} {T : ys} (f : yM_f g0 g) (c : yM_c g m s b v) (hl : (g.1 68 68) = nI w) (hw : (g.1 68 66) = nI ww) (hn : m + 1 + yz_l T + 1 ≤ 90000001) (h20 : w + c20 ≤ 4000) (h11 : ww + c11 ≤ 8400) (h11' : ww < 8400) (hD : 2 * dl + 1 ≤ D) (B : yk_BM g0 b dl bi T c20 c11) (hx : xn < 33500) (hla : if la = true then (g0.2.1 78) xn = -1 else ∃ y, y < 33500 ∧ (g0.2.1 78) xn = nI y) : ∃ g1, f_Mo_emit g (nI 11) 0 0 0 = some (nI (m - s), g1) ∧ yM_f g0 g1 ∧ ∃ g', (∀ K x3 x4, f_Mo_choiceCode_108 (f_Mo_bodyCode D) K g1 x3 x4 (nI xn) (nI bi) (nI (m - s)) = K g' x3 x4 ((g0.2.1 78) xn)) ∧ yM_H s m ([((11, nI (m + (1 + yz_l T + (if la = true then 0 else 1))), 0, 0), v)] ++ (yz_c T (m + 1) v q 0 ++ (if la = true then [] else [((10, nI e, 0, 0), v)]))) (yz_x T (m + 1) ++ (if la = true then [] else [m + 1 + yz_l T])) g g' ∧ (g'.1 68 64) = (g.1 68 64) ∧ (g'.1 68 66) = nI (ww + (if la = true then ([] : List Nat) else [m + 1 + yz_l T]).length) ∧ yM_st ((g'.2.1 110)) s ww (if la = true then [] else [m + 1 + yz_l T]) ∧ ((g'.1 68 68) = nI (w + (yz_x T (m + 1)).length) ∧ yM_st ((g'.2.1 111)) s w (yz_x T (m + 1)) ∧ ∀ k, k < w → (g'.2.1 111) k = (g.2.1 111) k) ∧ (∀ k, k < ww → (g'.2.1 110) k = (g.2.1 110) k) := by
  obtain ⟨g1, a1, a2⟩ := yM_eh c (by omega) 11 (.inr rfl)
  have f1 := yM_fE f a2
  have c1 : yM_c g1 (m + 1) s b v := yM_cE c a2
  have hl1 : (g1.1 68 68) = nI w := (a2.2.1.1 _ _ (by decide)).trans hl
  have hw1 : (g1.1 68 66) = nI ww := (a2.2.1.1 _ _ (by decide)).trans hw
  obtain ⟨g2, b1, b2⟩ := B D (m + 1) s v q w ww g1 f1 c1 hl1 hw1 (by omega) h20 h11 hD
  obtain ⟨f2, c2, l2, w2⟩ := yM_Rf f1 c1 b2
  obtain ⟨r1, r2, r3, r4, r5, r6, r7⟩ := b2
  have hsm : s ≤ m := c.1.2
  have hxs : ∀ a, ¬ a ∈ yM_M → g2.2.1 a = g0.2.1 a := fun a ha => f2.2.1 a ha
  refine ⟨g1, a1, f1, ?_⟩
  have x8 : ¬ nI (m - s) < 0 := nI_pos (by omega)
  cases la with
  | true =>
    have hb : (g0.2.1 78) xn = -1 := hla
    obtain ⟨g3, d1, d2⟩ := yM_aim (nI (m + 1 + yz_l T - s)) c2 hsm (by omega)
    have A : yM_H s m ([((11, nI (m + (1 + yz_l T + 0)), 0, 0), v)] ++ (yz_c T (m + 1) v q 0 ++ [])) ([m] ++ (yz_x T (m + 1) ++ [])) g g2 := by
      rw [List.append_nil, List.append_nil]
      exact yM_Hap (yM_EHh (by decide) a2) r1
    have Al : ([(((11, nI (m + (1 + yz_l T + 0)), 0, 0), v) : yJ)] ++ (yz_c T (m + 1) v q 0 ++ [])).length = 1 + yz_l T + 0 := by
      rw [List.append_nil, List.length_append, yz_len]; rfl
    have F : ∀ a b, g3.1 a b = g2.1 a b := fun a b => d2.1.1 a b List.not_mem_nil
    have J := yM_join (fs := []) (fun x hx => by cases hx) A (J := by rw [Al, show m + (1 + yz_l T + 0) - s = m + 1 + yz_l T - s by omega]; exact yM_aj1 d2) (fun a b _ => F a b) (F _ _) hsm (fun h4 => ⟨fun j hj => by rw [List.mem_singleton.mp hj]; exact Nat.le_refl _, fun k i ei hk => by
      have : k = 0 := by have := List.mem_singleton.mp hk; omega
      subst this
      cases (show some (((11, nI (m + (1 + yz_l T + 0)), 0, 0), v) : yJ) = some i from ei)
      exact ⟨by rw [Al], .inr (.inl rfl)⟩⟩)
    refine ⟨g3, fun K x3 x4 => ?_, J _ (fun j hj => (List.mem_append.mp hj).elim .inl .inr), ?_, ?_, trivial, ⟨?_, ?_, fun k hk => ?_⟩, fun k hk => ?_⟩
    · unfold f_Mo_choiceCode_108 f_Mo_choiceCode_156 f_Mo_choiceCode_171
      rw [b1, Option.bind_some, if_pos (zi_in (by omega) hx), nI_clamp (show xn < 2147483648 by omega), hxs 78 (by decide), hb, if_pos (show (-1 : Int32) < 0 by decide), if_neg x8, yM_here c2, Option.bind_some, d1, Option.bind_some]
    · rw [F, r2]; exact a2.2.1.1 _ _ (by decide)
    · rw [F, r3, hw1]; rfl
    · rw [F]; exact r4
    · rw [d2.1.2.1 _ (by decide)]; exact r5
    · rw [d2.1.2.1 _ (by decide), r6 k hk, a2.2.1.2.1 _ (by decide)]
    · rw [d2.1.2.1 _ (by decide), r7 k hk, a2.2.1.2.1 _ (by decide)]
  | false =>
    obtain ⟨y, y1, y2⟩ : ∃ y, y < 33500 ∧ (g0.2.1 78) xn = nI y := hla
    obtain ⟨g3, p1, p2⟩ := yM_eh c2 (by omega) 10 (.inl rfl)
    have hw2 : (g2.1 68 66) = nI ww := r3.trans hw1
    have hw3 : (g3.1 68 66) = nI ww := (p2.2.1.1 _ _ (by decide)).trans hw2
    have c3 : yM_c g3 (m + 1 + yz_l T + 1) s b v := yM_cE c2 p2
    obtain ⟨g4, hg4⟩ : ∃ g4, g4 = zs_uF (zs_uM g3 110 ww (nI (m + 1 + yz_l T - s))) 68 66 (nI (ww + 1)) := ⟨_, rfl⟩
    have c4 : yM_c g4 (m + 1 + yz_l T + 1) s b v := by
      rw [hg4]
      obtain ⟨⟨q1, q2⟩, ⟨q3, q4, q5⟩, q6, q7⟩ := c3
      exact ⟨⟨q1, q2⟩, ⟨q3, q4, by rw [zu_FM, zu_MM, if_neg (fun z => absurd z.1 (by decide))]; exact q5⟩, q6, q7⟩
    obtain ⟨g5, d1, d2⟩ := yM_aim (nI (m + 1 + yz_l T + 1 - s)) c4 hsm (by omega)
    have A0 : yM_H s (m + 1 + yz_l T) [((10, nI e, 0, 0), v)] [m + 1 + yz_l T] g2 g4 := by
      have A1 : yM_H s (m + 1 + yz_l T) [((10, nI e, 0, 0), v)] [m + 1 + yz_l T] g2 g3 := yM_EHh (by decide) p2
      rw [hg4]
      refine ⟨A1.1, zfr_F (by decide) (zfr_M (by decide) A1.2.1), fun h4 => ⟨fun j hj a ha => ?_, fun k i ei => ?_⟩⟩
      · rw [← (A1.2.2 h4).1 j hj a ha, zu_FM, zu_MM, if_neg (fun z => by rw [z.1] at ha; exact absurd ha (by decide))]
      · obtain ⟨x1, x2⟩ := (A1.2.2 h4).2 k i ei
        have ee : ∀ a, a ∈ yM_w → (zs_uF (zs_uM g3 110 ww (nI (m + 1 + yz_l T - s))) 68 66 (nI (ww + 1))).2.1 a (m + 1 + yz_l T + k) = g3.2.1 a (m + 1 + yz_l T + k) := fun a ha => by
          rw [zu_FM, zu_MM, if_neg (fun z => by rw [z.1] at ha; exact absurd ha (by decide))]
        exact ⟨yM_m0f ee x1, fun z => yM_tf ee (x2 z)⟩
    have A : yM_H s m ([((11, nI (m + (1 + yz_l T + 1)), 0, 0), v)] ++ (yz_c T (m + 1) v q 0 ++ [((10, nI e, 0, 0), v)])) ([m] ++ (yz_x T (m + 1) ++ [m + 1 + yz_l T])) g g4 := yM_Hap (yM_EHh (by decide) a2) (yM_Hap r1 (by rw [yz_len]; exact A0))
    have Al : ([(((11, nI (m + (1 + yz_l T + 1)), 0, 0), v) : yJ)] ++ (yz_c T (m + 1) v q 0 ++ [((10, nI e, 0, 0), v)])).length = 1 + yz_l T + 1 := by
      rw [List.length_append, List.length_append, yz_len]; show 1 + (yz_l T + 1) = _; omega
    have F : ∀ a b, g5.1 a b = g4.1 a b := fun a b => d2.1.1 a b List.not_mem_nil
    have J := yM_join (fs := []) (fun x hx => by cases hx) A (J := by rw [Al, show m + (1 + yz_l T + 1) - s = m + 1 + yz_l T + 1 - s by omega]; exact yM_aj1 d2) (fun a b _ => F a b) (F _ _) hsm (fun h4 => ⟨fun j hj => by rw [List.mem_singleton.mp hj]; exact Nat.le_refl _, fun k i ei hk => by
      have : k = 0 := by have := List.mem_singleton.mp hk; omega
      subst this
      cases (show some (((11, nI (m + (1 + yz_l T + 1)), 0, 0), v) : yJ) = some i from ei)
      exact ⟨by rw [Al], .inr (.inl rfl)⟩⟩)
    have e110 : (g5.2.1 110) = (g4.2.1 110) := d2.1.2.1 _ (by decide)
    have e111 : (g5.2.1 111) = (g3.2.1 111) := by
      rw [d2.1.2.1 _ (by decide), hg4]
      funext j
      rw [zu_FM, zu_MM, if_neg (fun z => absurd z.1 (by decide))]
    refine ⟨g5, fun K x3 x4 => ?_, J _ (fun j hj => (List.mem_append.mp hj).elim .inl .inr), ?_, ?_, ⟨⟨?_, by omega, by omega⟩, trivial⟩, ⟨?_, ?_, fun k hk => ?_⟩, fun k hk => ?_⟩
    · unfold f_Mo_choiceCode_108 f_Mo_choiceCode_156 f_Mo_choiceCode_171
      rw [b1, Option.bind_some, if_pos (zi_in (by omega) hx), nI_clamp (show xn < 2147483648 by omega), hxs 78 (by decide), y2, if_neg (nI_pos (by omega))]
      refine (congrArg (fun z => zd_B z _) p1).trans ?_
      show (if zd_in ((g2.1 68 66)) 8400 then (if nI (m - s) < 0 then K (zs_uF (zs_uM g3 110 ((g2.1 68 66)).toNatClampNeg (nI (m + 1 + yz_l T - s))) 68 66 ((g3.1 68 66) + 1)) x3 x4 (nI y) else (f_Mo_here (zs_uF (zs_uM g3 110 ((g2.1 68 66)).toNatClampNeg (nI (m + 1 + yz_l T - s))) 68 66 ((g3.1 68 66) + 1))).bind fun v3 => (f_Mo_aim (zs_uF (zs_uM g3 110 ((g2.1 68 66)).toNatClampNeg (nI (m + 1 + yz_l T - s))) 68 66 ((g3.1 68 66) + 1)) (nI (m - s)) v3).bind fun h5 => K h5 x3 x4 (nI y)) else none) = _
      rw [hw2, hw3, if_pos (zi_in (by omega) h11'), nI_clamp (show ww < 2147483648 by omega), nI_1, ← hg4, if_neg x8, yM_here c4, Option.bind_some, d1, Option.bind_some]
    · rw [F, hg4]
      show (g3.1 68 64) = _
      rw [p2.2.1.1 _ _ (by decide), r2]; exact a2.2.1.1 _ _ (by decide)
    · rw [F, hg4]; rfl
    · rw [e110, hg4]
      show (zs_uF (zs_uM g3 110 ww (nI (m + 1 + yz_l T - s))) 68 66 (nI (ww + 1))).2.1 110 (ww + 0) = _
      rw [zu_FM, zu_MM, if_pos ⟨rfl, rfl⟩]
    · rw [F, hg4]
      show (g3.1 68 68) = _
      rw [p2.2.1.1 _ _ (by decide)]; exact r4
    · rw [e111, p2.2.1.2.1 _ (by decide)]; exact r5
    · rw [e111, p2.2.1.2.1 _ (by decide), r6 k hk, a2.2.1.2.1 _ (by decide)]
    · rw [e110, hg4, zu_FM, zu_MM, if_neg (fun z => by have : k = ww := z.2; omega), p2.2.1.2.1 _ (by decide), r7 k hk, a2.2.1.2.1 _ (by decide)]
end YBR
end
