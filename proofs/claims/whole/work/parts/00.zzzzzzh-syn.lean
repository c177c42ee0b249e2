/-! The coder: what statements mean for the code. -/
/-- 0: instructions, 1: a choice (its branches on the left), 2: a loop (its body on the left), 3: out of the loop, 4: out of the unit; 5: a branch (its condition, its body, the next ones), 6: the last branch (no condition) -/
abbrev ys : Type := Std.DTreeMap.Internal.Impl (List yI × Int32 × Int32) (fun _ => Unit)
def yz_f : ys → Bool
  | .leaf => true
  | .inner _ _ _ _ _ => false
def yz_l : ys → Nat
  | .leaf => 0
  | .inner k p _ l r => (if k = 0 then p.1.length else if k = 1 then yz_l l else if k = 2 then 3 + yz_l l else if k = 3 then 1 else if k = 4 then 1 else if k = 5 then p.1.length + 1 + yz_l l + (if yz_f r = true then 0 else 1) else yz_l l) + yz_l r
/-- the code, from n on, in v loops; q: behind the loop, e: behind the choice -/
def yz_c : ys → Nat → Nat → Nat → Nat → List yJ
  | .leaf, _, _, _, _ => []
  | .inner k p _ l r, n, v, q, e =>
    if k = 0 then yv v p.1 ++ yz_c r (n + p.1.length) v q e
    else if k = 1 then yz_c l n v q (n + yz_l l) ++ yz_c r (n + yz_l l) v q e
    else if k = 2 then [((12, p.2.1, p.2.2, 0), v)] ++ ([((13, nI (n + (3 + yz_l l)), p.2.1, 0), v)] ++ (yz_c l (n + 2) (v + 1) (n + (3 + yz_l l)) 0 ++ ([((14, nI (n + 1), 0, 0), v + 1)] ++ yz_c r (n + (3 + yz_l l)) v q e)))
    else if k = 3 then [((10, nI q, 0, 0), v)] ++ yz_c r (n + 1) v q e
    else if k = 4 then [((18, 0, 0, 0), v)] ++ yz_c r (n + 1) v q e
    else if k = 5 then yv v p.1 ++ ([((11, nI (n + (p.1.length + 1 + yz_l l + (if yz_f r = true then 0 else 1))), 0, 0), v)] ++ (yz_c l (n + p.1.length + 1) v q 0 ++ ((if yz_f r = true then [] else [((10, nI e, 0, 0), v)]) ++ yz_c r (n + (p.1.length + 1 + yz_l l + (if yz_f r = true then 0 else 1))) v q e)))
    else yz_c l n v q 0 ++ yz_c r (n + yz_l l) v q e
/-- where it leaves the loop, the last place first -/
def yz_x : ys → Nat → List Nat
  | .leaf, _ => []
  | .inner k p _ l r, n =>
    if k = 0 then yz_x r (n + p.1.length)
    else if k = 1 then yz_x r (n + yz_l l) ++ yz_x l n
    else if k = 2 then yz_x r (n + (3 + yz_l l))
    else if k = 3 then yz_x r (n + 1) ++ [n]
    else if k = 4 then yz_x r (n + 1)
    else if k = 5 then yz_x r (n + (p.1.length + 1 + yz_l l + (if yz_f r = true then 0 else 1))) ++ yz_x l (n + p.1.length + 1)
    else yz_x r (n + yz_l l) ++ yz_x l n
/-- where a branch goes behind the choice, the last place first -/
def yz_g : ys → Nat → List Nat
  | .leaf, _ => []
  | .inner k p _ l r, n =>
    if k = 5 then yz_g r (n + (p.1.length + 1 + yz_l l + (if yz_f r = true then 0 else 1))) ++ (if yz_f r = true then [] else [n + p.1.length + 1 + yz_l l])
    else []
theorem yz_len : ∀ (t : ys) (n v q e : Nat), (yz_c t n v q e).length = yz_l t := by
  intro t
  induction t with
  | leaf => intro n v q e; rfl
  | inner k p o l r ihl ihr =>
    intro n v q e
    show (if k = 0 then _ else if k = 1 then _ else if k = 2 then _ else if k = 3 then _ else if k = 4 then _ else if k = 5 then _ else _ : List yJ).length = (if k = 0 then p.1.length else if k = 1 then yz_l l else if k = 2 then 3 + yz_l l else if k = 3 then 1 else if k = 4 then 1 else if k = 5 then p.1.length + 1 + yz_l l + (if yz_f r = true then 0 else 1) else yz_l l) + yz_l r
    by_cases k0 : k = 0
    · rw [if_pos k0, if_pos k0, List.length_append, yv_len, ihr]
    rw [if_neg k0, if_neg k0]
    by_cases k1 : k = 1
    · rw [if_pos k1, if_pos k1, List.length_append, ihl, ihr]
    rw [if_neg k1, if_neg k1]
    by_cases k2 : k = 2
    · rw [if_pos k2, if_pos k2, List.length_append, List.length_append, List.length_append, List.length_append, ihl, ihr]
      show 1 + (1 + (yz_l l + (1 + yz_l r))) = _
      omega
    rw [if_neg k2, if_neg k2]
    by_cases k3 : k = 3
    · rw [if_pos k3, if_pos k3, List.length_append, ihr]; rfl
    rw [if_neg k3, if_neg k3]
    by_cases k4 : k = 4
    · rw [if_pos k4, if_pos k4, List.length_append, ihr]; rfl
    rw [if_neg k4, if_neg k4]
    by_cases k5 : k = 5
    · rw [if_pos k5, if_pos k5, List.length_append, List.length_append, List.length_append, List.length_append, ihl, ihr, yv_len]
      have : (if yz_f r = true then ([] : List yJ) else [((10, nI e, 0, 0), v)]).length = if yz_f r = true then 0 else 1 := by split <;> rfl
      rw [this]
      show p.1.length + (1 + (yz_l l + ((if yz_f r = true then 0 else 1) + yz_l r))) = _
      omega
    rw [if_neg k5, if_neg k5, List.length_append, ihl, ihr]
theorem yz_xr : ∀ (t : ys) (n j : Nat), j ∈ yz_x t n → n ≤ j ∧ j < n + yz_l t := by
  intro t
  induction t with
  | leaf => intro n j hj; cases hj
  | inner k p o l r ihl ihr =>
    intro n j hj
    have hj' : j ∈ (if k = 0 then yz_x r (n + p.1.length) else if k = 1 then yz_x r (n + yz_l l) ++ yz_x l n else if k = 2 then yz_x r (n + (3 + yz_l l)) else if k = 3 then yz_x r (n + 1) ++ [n] else if k = 4 then yz_x r (n + 1) else if k = 5 then yz_x r (n + (p.1.length + 1 + yz_l l + (if yz_f r = true then 0 else 1))) ++ yz_x l (n + p.1.length + 1) else yz_x r (n + yz_l l) ++ yz_x l n) := hj
    show n ≤ j ∧ j < n + ((if k = 0 then p.1.length else if k = 1 then yz_l l else if k = 2 then 3 + yz_l l else if k = 3 then 1 else if k = 4 then 1 else if k = 5 then p.1.length + 1 + yz_l l + (if yz_f r = true then 0 else 1) else yz_l l) + yz_l r)
    by_cases k0 : k = 0
    · rw [if_pos k0] at hj' ⊢; have := ihr _ _ hj'; omega
    rw [if_neg k0] at hj' ⊢
    by_cases k1 : k = 1
    · rw [if_pos k1] at hj' ⊢
      rcases List.mem_append.mp hj' with z | z
      · have := ihr _ _ z; omega
      · have := ihl _ _ z; omega
    rw [if_neg k1] at hj' ⊢
    by_cases k2 : k = 2
    · rw [if_pos k2] at hj' ⊢; have := ihr _ _ hj'; omega
    rw [if_neg k2] at hj' ⊢
    by_cases k3 : k = 3
    · rw [if_pos k3] at hj' ⊢
      rcases List.mem_append.mp hj' with z | z
      · have := ihr _ _ z; omega
      · have := List.mem_singleton.mp z; omega
    rw [if_neg k3] at hj' ⊢
    by_cases k4 : k = 4
    · rw [if_pos k4] at hj' ⊢; have := ihr _ _ hj'; omega
    rw [if_neg k4] at hj' ⊢
    by_cases k5 : k = 5
    · rw [if_pos k5] at hj' ⊢
      rcases List.mem_append.mp hj' with z | z
      · have := ihr _ _ z; omega
      · have := ihl _ _ z; omega
    rw [if_neg k5] at hj' ⊢
    rcases List.mem_append.mp hj' with z | z
    · have := ihr _ _ z; omega
    · have := ihl _ _ z; omega
theorem yz_gr : ∀ (t : ys) (n j : Nat), j ∈ yz_g t n → n ≤ j ∧ j < n + yz_l t := by
  intro t
  induction t with
  | leaf => intro n j hj; cases hj
  | inner k p o l r ihl ihr =>
    intro n j hj
    have hj' : j ∈ (if k = 5 then yz_g r (n + (p.1.length + 1 + yz_l l + (if yz_f r = true then 0 else 1))) ++ (if yz_f r = true then [] else [n + p.1.length + 1 + yz_l l]) else []) := hj
    by_cases k5 : k = 5
    · subst k5
      rw [if_pos rfl] at hj'
      have el : yz_l (.inner 5 p o l r) = p.1.length + 1 + yz_l l + (if yz_f r = true then 0 else 1) + yz_l r := rfl
      rw [el]
      rcases List.mem_append.mp hj' with z | z
      · have := ihr _ _ z; omega
      · by_cases w : yz_f r = true
        · rw [if_pos w] at z; cases z
        · rw [if_neg w] at z ⊢
          have := List.mem_singleton.mp z; omega
    · rw [if_neg k5] at hj'; cases hj'
/-- of what stands at these places of a row -/
def yz_P (n : Nat) (L : List yJ) (js : List Nat) (φ : yJ → Prop) : Prop := ∀ k i, L[k]? = some i → n + k ∈ js → φ i
theorem yz_Pa {n : Nat} {A B : List yJ} {js : List Nat} {φ : yJ → Prop} (a : yz_P n A js φ) (b : yz_P (n + A.length) B js φ) : yz_P n (A ++ B) js φ := by
  intro k i e hk
  rw [List.getElem?_append] at e
  by_cases z : k < A.length
  · rw [if_pos z] at e; exact a k i e hk
  · rw [if_neg z] at e
    exact b _ i e (by rw [show n + A.length + (k - A.length) = n + k by omega]; exact hk)
theorem yz_Pn {n : Nat} {A : List yJ} {js : List Nat} {φ : yJ → Prop} (h : ∀ j, j ∈ js → ¬ (n ≤ j ∧ j < n + A.length)) : yz_P n A js φ := by
  intro k i e hk
  obtain ⟨z, _⟩ := List.getElem?_eq_some_iff.mp e
  exact absurd ⟨by omega, by omega⟩ (h _ hk)
theorem yz_Pj {n : Nat} {A : List yJ} {js ks : List Nat} {φ : yJ → Prop} (a : yz_P n A js φ) (b : yz_P n A ks φ) : yz_P n A (js ++ ks) φ := fun k i e hk => (List.mem_append.mp hk).elim (a k i e) (b k i e)
theorem yz_Ps {n : Nat} {i : yJ} {js : List Nat} {φ : yJ → Prop} (h : φ i) : yz_P n [i] js φ := fun k j e _ => by
  obtain ⟨_, e2⟩ := yI_one e
  rw [e2]; exact h
/-- the EXITs are jumps to behind the loop -/
theorem yz_xP : ∀ (t : ys) (n v q e : Nat), yz_P n (yz_c t n v q e) (yz_x t n) (fun i => i.1.1 = 10 ∧ i.1.2.1 = nI q) := by
  intro t
  induction t with
  | leaf => intro n v q e; exact fun k i h _ => by cases h
  | inner k p o l r ihl ihr =>
    intro n v q e
    show yz_P n (if k = 0 then _ else if k = 1 then _ else if k = 2 then _ else if k = 3 then _ else if k = 4 then _ else if k = 5 then _ else _) (if k = 0 then _ else if k = 1 then _ else if k = 2 then _ else if k = 3 then _ else if k = 4 then _ else if k = 5 then _ else _) _
    have R := fun m j (h : j ∈ yz_x r m) => yz_xr r m j h
    have Lr := fun m j (h : j ∈ yz_x l m) => yz_xr l m j h
    by_cases k0 : k = 0
    · rw [if_pos k0, if_pos k0]
      exact yz_Pa (yz_Pn (fun j hj w => by have := R _ j hj; rw [yv_len] at w; omega)) (by rw [yv_len]; exact ihr _ _ _ _)
    rw [if_neg k0, if_neg k0]
    by_cases k1 : k = 1
    · rw [if_pos k1, if_pos k1]
      refine yz_Pj ?_ ?_
      · exact yz_Pa (yz_Pn (fun j hj w => by have := R _ j hj; rw [yz_len] at w; omega)) (by rw [yz_len]; exact ihr _ _ _ _)
      · exact yz_Pa (ihl _ _ _ _) (yz_Pn (fun j hj w => by have := Lr _ j hj; rw [yz_len] at w; omega))
    rw [if_neg k1, if_neg k1]
    by_cases k2 : k = 2
    · rw [if_pos k2, if_pos k2]
      refine yz_Pa (yz_Pn (fun j hj w => by have := R _ j hj; have w2 : j < n + 1 := w.2; omega)) (yz_Pa (yz_Pn (fun j hj w => by have := R _ j hj; have w2 : j < n + 1 + 1 := w.2; omega)) (yz_Pa (yz_Pn (fun j hj w => by have := R _ j hj; rw [yz_len] at w; have w2 : j < n + 1 + 1 + yz_l l := w.2; omega)) (yz_Pa (yz_Pn (fun j hj w => by have := R _ j hj; rw [yz_len] at w; have w2 : j < n + 1 + 1 + yz_l l + 1 := w.2; omega)) ?_)))
      rw [yz_len]
      have : n + 1 + 1 + yz_l l + 1 = n + (3 + yz_l l) := by omega
      show yz_P (n + 1 + 1 + yz_l l + 1) _ _ _
      rw [this]
      exact ihr _ _ _ _
    rw [if_neg k2, if_neg k2]
    by_cases k3 : k = 3
    · rw [if_pos k3, if_pos k3]
      refine yz_Pj ?_ ?_
      · exact yz_Pa (yz_Ps ⟨rfl, rfl⟩) (ihr _ _ _ _)
      · exact yz_Pa (yz_Ps ⟨rfl, rfl⟩) (yz_Pn (fun j hj w => by have := List.mem_singleton.mp hj; have w1 : n + 1 ≤ j := w.1; omega))
    rw [if_neg k3, if_neg k3]
    by_cases k4 : k = 4
    · rw [if_pos k4, if_pos k4]
      exact yz_Pa (yz_Pn (fun j hj w => by have := R _ j hj; have w2 : j < n + 1 := w.2; omega)) (ihr _ _ _ _)
    rw [if_neg k4, if_neg k4]
    by_cases k5 : k = 5
    · rw [if_pos k5, if_pos k5]
      have h5 : (if yz_f r = true then ([] : List yJ) else [((10, nI e, 0, 0), v)]).length = if yz_f r = true then 0 else 1 := by split <;> rfl
      refine yz_Pj ?_ ?_
      · refine yz_Pa (yz_Pn (fun j hj w => by have := R _ j hj; rw [yv_len] at w; omega)) ?_
        rw [yv_len]
        refine yz_Pa (yz_Pn (fun j hj w => by have := R _ j hj; have w2 : j < n + p.1.length + 1 := w.2; omega)) ?_
        show yz_P (n + p.1.length + 1) _ _ _
        refine yz_Pa (yz_Pn (fun j hj w => by have := R _ j hj; rw [yz_len] at w; omega)) ?_
        rw [yz_len]
        refine yz_Pa (yz_Pn (fun j hj w => by have := R _ j hj; rw [h5] at w; omega)) ?_
        rw [h5, show n + p.1.length + 1 + yz_l l + (if yz_f r = true then 0 else 1) = n + (p.1.length + 1 + yz_l l + (if yz_f r = true then 0 else 1)) by omega]
        exact ihr _ _ _ _
      · refine yz_Pa (yz_Pn (fun j hj w => by have := Lr _ j hj; rw [yv_len] at w; omega)) ?_
        rw [yv_len]
        refine yz_Pa (yz_Pn (fun j hj w => by have := Lr _ j hj; have w2 : j < n + p.1.length + 1 := w.2; omega)) ?_
        show yz_P (n + p.1.length + 1) _ _ _
        exact yz_Pa (ihl _ _ _ _) (yz_Pn (fun j hj w => by have := Lr _ j hj; rw [yz_len] at w; omega))
    rw [if_neg k5, if_neg k5]
    refine yz_Pj ?_ ?_
    · exact yz_Pa (yz_Pn (fun j hj w => by have := R _ j hj; rw [yz_len] at w; omega)) (by rw [yz_len]; exact ihr _ _ _ _)
    · exact yz_Pa (ihl _ _ _ _) (yz_Pn (fun j hj w => by have := Lr _ j hj; rw [yz_len] at w; omega))
/-- and the other ones are jumps to behind the choice -/
theorem yz_gP : ∀ (t : ys) (n v q e : Nat), yz_P n (yz_c t n v q e) (yz_g t n) (fun i => i.1.1 = 10 ∧ i.1.2.1 = nI e) := by
  intro t
  induction t with
  | leaf => intro n v q e; exact fun k i h _ => by cases h
  | inner k p o l r ihl ihr =>
    intro n v q e
    by_cases k5 : k = 5
    · subst k5
      show yz_P n (yv v p.1 ++ ([((11, nI (n + (p.1.length + 1 + yz_l l + (if yz_f r = true then 0 else 1))), 0, 0), v)] ++ (yz_c l (n + p.1.length + 1) v q 0 ++ ((if yz_f r = true then [] else [((10, nI e, 0, 0), v)]) ++ yz_c r (n + (p.1.length + 1 + yz_l l + (if yz_f r = true then 0 else 1))) v q e)))) (yz_g r (n + (p.1.length + 1 + yz_l l + (if yz_f r = true then 0 else 1))) ++ (if yz_f r = true then [] else [n + p.1.length + 1 + yz_l l])) _
      have R := fun m j (h : j ∈ yz_g r m) => yz_gr r m j h
      have h5 : (if yz_f r = true then ([] : List yJ) else [((10, nI e, 0, 0), v)]).length = if yz_f r = true then 0 else 1 := by split <;> rfl
      refine yz_Pj ?_ ?_
      · refine yz_Pa (yz_Pn (fun j hj w => by have := R _ j hj; rw [yv_len] at w; omega)) ?_
        rw [yv_len]
        refine yz_Pa (yz_Pn (fun j hj w => by have := R _ j hj; have w2 : j < n + p.1.length + 1 := w.2; omega)) ?_
        show yz_P (n + p.1.length + 1) _ _ _
        refine yz_Pa (yz_Pn (fun j hj w => by have := R _ j hj; rw [yz_len] at w; omega)) ?_
        rw [yz_len]
        refine yz_Pa (yz_Pn (fun j hj w => by have := R _ j hj; rw [h5] at w; omega)) ?_
        rw [h5, show n + p.1.length + 1 + yz_l l + (if yz_f r = true then 0 else 1) = n + (p.1.length + 1 + yz_l l + (if yz_f r = true then 0 else 1)) by omega]
        exact ihr _ _ _ _
      · by_cases w : yz_f r = true
        · rw [show (if yz_f r = true then ([] : List Nat) else [n + p.1.length + 1 + yz_l l]) = [] from if_pos w]
          exact fun k i _ h => by cases h
        · simp only [if_neg w]
          refine yz_Pa (yz_Pn (fun j hj q => by have := List.mem_singleton.mp hj; rw [yv_len] at q; omega)) ?_
          rw [yv_len]
          refine yz_Pa (yz_Pn (fun j hj q => by have := List.mem_singleton.mp hj; have w2 : j < n + p.1.length + 1 := q.2; omega)) ?_
          show yz_P (n + p.1.length + 1) _ _ _
          refine yz_Pa (yz_Pn (fun j hj q => by have := List.mem_singleton.mp hj; rw [yz_len] at q; omega)) ?_
          rw [yz_len]
          refine yz_Pa (yz_Ps ⟨rfl, rfl⟩) (yz_Pn (fun j hj q => by have := List.mem_singleton.mp hj; have w1 : n + p.1.length + 1 + yz_l l + 1 ≤ j := q.1; omega))
    · have : yz_g (.inner k p o l r) n = [] := if_neg k5
      rw [this]
      exact fun k i _ h => by cases h
