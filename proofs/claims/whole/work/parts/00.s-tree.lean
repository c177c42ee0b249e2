/-! Trees in arrays. -/
abbrev zt_T : Type := Std.DTreeMap.Internal.Impl (Int32 × Int32) (fun _ => Unit)
/-- one node, with what is below it -/
def zt_n (kd : Nat) (p v : Int32) (l : zt_T) : zt_T := .inner kd (p, v) () l .leaf
def zt_ap : zt_T → zt_T → zt_T
  | .leaf, u => u
  | .inner s k v l r, u => .inner s k v l (zt_ap r u)
theorem zt_ap_leaf : ∀ t : zt_T, zt_ap t .leaf = t := by
  intro t
  induction t with
  | leaf => rfl
  | inner s k v l r ihl ihr => show Std.DTreeMap.Internal.Impl.inner s k v l (zt_ap r .leaf) = _; rw [ihr]
theorem zt_ap_as : ∀ t u w : zt_T, zt_ap (zt_ap t u) w = zt_ap t (zt_ap u w) := by
  intro t u w
  induction t with
  | leaf => rfl
  | inner s k v l r ihl ihr => show Std.DTreeMap.Internal.Impl.inner s k v l (zt_ap (zt_ap r u) w) = Std.DTreeMap.Internal.Impl.inner s k v l (zt_ap r (zt_ap u w)); rw [ihr]
/-- a forest: N says what a node's own fields are, A is the first below, B the one beside -/
def zt_G (N : Nat → Nat → Int32 × Int32 → Int32 → Int32 → Prop) (A B : Nat → Int32) : zt_T → (Nat → Prop) → Int32 → Int32 → Int32 → Prop
  | .leaf, _, _, x, y => x = -1 ∧ y = -1
  | .inner kd k _ l r, P, up, x, y => ∃ (i : Nat) (P1 P2 : Nat → Prop) (z1 z2 : Int32), P i ∧ i < 40000 ∧ x = nI i ∧ N i kd k up z1 ∧ (∀ j, P1 j → P j ∧ ¬ j = i ∧ ¬ P2 j) ∧ (∀ j, P2 j → P j ∧ ¬ j = i) ∧ zt_G N A B l P1 (nI i) (A i) z1 ∧ zt_G N A B r P2 up (B i) z2 ∧ y = if z2 = -1 then x else z2
theorem zt_fr {N N' : Nat → Nat → Int32 × Int32 → Int32 → Int32 → Prop} {A A' B B' : Nat → Int32} : ∀ (t : zt_T) (P P' : Nat → Prop) (up x y : Int32), (∀ i, P i → (∀ kd k up z, N i kd k up z → N' i kd k up z) ∧ A' i = A i ∧ B' i = B i) → (∀ i, P i → P' i) → zt_G N A B t P up x y → zt_G N' A' B' t P' up x y := by
  intro t
  induction t with
  | leaf => intro P P' up x y _ _ h; exact h
  | inner kd k v l r ihl ihr =>
    intro P P' up x y h hP q
    obtain ⟨i, P1, P2, z1, z2, q1, q2, q3, q4, q5, q6, q7, q8, q9⟩ := q
    obtain ⟨a1, a2, a3⟩ := h i q1
    refine ⟨i, P1, P2, z1, z2, hP i q1, q2, q3, a1 _ _ _ _ q4, fun j hj => ⟨hP j (q5 j hj).1, (q5 j hj).2⟩, fun j hj => ⟨hP j (q6 j hj).1, (q6 j hj).2⟩, ?_, ?_, q9⟩
    · rw [a2]; exact ihl P1 P1 _ _ _ (fun j hj => h j (q5 j hj).1) (fun _ z => z) q7
    · rw [a3]; exact ihr P2 P2 _ _ _ (fun j hj => h j (q6 j hj).1) (fun _ z => z) q8
theorem zt_last {N : Nat → Nat → Int32 × Int32 → Int32 → Int32 → Prop} {A B : Nat → Int32} : ∀ (t : zt_T) (P : Nat → Prop) (up x y : Int32), zt_G N A B t P up x y → (t = .leaf ∧ x = -1 ∧ y = -1) ∨ (∃ i j, P i ∧ i < 40000 ∧ x = nI i ∧ P j ∧ j < 40000 ∧ y = nI j) := by
  intro t
  induction t with
  | leaf => intro P up x y q; exact Or.inl ⟨rfl, q.1, q.2⟩
  | inner kd k v l r ihl ihr =>
    intro P up x y q
    obtain ⟨i, P1, P2, z1, z2, q1, q2, q3, q4, q5, q6, q7, q8, q9⟩ := q
    refine Or.inr ⟨i, ?_⟩
    rcases ihr P2 up _ _ q8 with ⟨_, _, e⟩ | ⟨i2, j, _, _, _, j1, j2, j3⟩
    · rw [if_pos e] at q9
      exact ⟨i, q1, q2, q3, q1, q2, q9.trans q3⟩
    · rw [if_neg (by rw [j3]; exact zc_m1 (by omega))] at q9
      exact ⟨j, q1, q2, q3, (q6 j j1).1, j2, q9.trans j3⟩
/-- a forest is hung behind another one -/
theorem zt_app {N N' : Nat → Nat → Int32 × Int32 → Int32 → Int32 → Prop} {A A' B B' : Nat → Int32} {j : Nat} {x2 y2 up : Int32} {u : zt_T} {Q : Nat → Prop} (hj : j < 40000) (hB : B' j = x2) (hA : ∀ i, A' i = A i) (hBo : ∀ i, ¬ i = j → B' i = B i) (hN : ∀ i kd k up z, N i kd k up z → N' i kd k up z) (hu : zt_G N A B u Q up x2 y2) (hy : ¬ y2 = -1) (hQ : ¬ Q j) : ∀ (t : zt_T) (P : Nat → Prop) (x : Int32), (∀ i, P i → ¬ Q i) → zt_G N A B t P up x (nI j) → zt_G N' A' B' (zt_ap t u) (fun i => P i ∨ Q i) up x y2 := by
  intro t
  induction t with
  | leaf => intro P x _ q; exact absurd q.2 (zc_m1 (by omega))
  | inner kd k v l r ihl ihr =>
    intro P x hPQ q
    obtain ⟨i, P1, P2, z1, z2, q1, q2, q3, q4, q5, q6, q7, q8, q9⟩ := q
    by_cases e : z2 = -1
    · rw [if_pos e, q3] at q9
      have eij : j = i := (nI_eq (by omega) (by omega)).mp q9
      have er : r = .leaf := by
        rcases zt_last r P2 up _ _ q8 with ⟨w, _, _⟩ | ⟨_, j', _, _, _, _, w2, w3⟩
        · exact w
        · rw [e] at w3; exact absurd w3.symm (zc_m1 (by omega))
      subst er
      refine ⟨i, P1, Q, z1, y2, Or.inl q1, q2, q3, hN _ _ _ _ _ q4, fun a ha => ⟨Or.inl (q5 a ha).1, (q5 a ha).2.1, fun z => hPQ a (q5 a ha).1 z⟩, fun a ha => ⟨Or.inr ha, fun z => hPQ i q1 (z ▸ ha)⟩, ?_, ?_, by rw [if_neg hy]⟩
      · rw [hA]; exact zt_fr l P1 P1 _ _ _ (fun a ha => ⟨fun _ _ _ _ z => hN _ _ _ _ _ z, hA a, hBo a (fun z => (q5 a ha).2.1 (z.trans eij))⟩) (fun _ z => z) q7
      · rw [← eij, hB]; exact zt_fr u Q Q _ _ _ (fun a ha => ⟨fun _ _ _ _ z => hN _ _ _ _ _ z, hA a, hBo a (fun z => hQ (z ▸ ha))⟩) (fun _ z => z) hu
    · rw [if_neg e] at q9
      have hr := ihr P2 (B i) (fun a ha => hPQ a (q6 a ha).1) (by rw [q9]; exact q8)
      have hjP : P2 j := by
        rcases zt_last r P2 up _ _ q8 with ⟨_, _, w⟩ | ⟨_, j', _, _, _, w1, w2, w3⟩
        · exact absurd w e
        · rw [← q9] at w3
          have := (nI_eq (by omega) (by omega)).mp w3
          rw [this]; exact w1
      have hij : ¬ i = j := fun z => (q6 j hjP).2 z.symm
      refine ⟨i, P1, fun a => P2 a ∨ Q a, z1, y2, Or.inl q1, q2, q3, hN _ _ _ _ _ q4, fun a ha => ⟨Or.inl (q5 a ha).1, (q5 a ha).2.1, fun z => z.elim (q5 a ha).2.2 (hPQ a (q5 a ha).1)⟩, fun a ha => ha.elim (fun z => ⟨Or.inl (q6 a z).1, (q6 a z).2⟩) (fun z => ⟨Or.inr z, fun w => hPQ i q1 (w ▸ z)⟩), ?_, ?_, by rw [if_neg hy]⟩
      · rw [hA]; exact zt_fr l P1 P1 _ _ _ (fun a ha => ⟨fun _ _ _ _ z => hN _ _ _ _ _ z, hA a, hBo a (fun z => (q5 a ha).2.2 (z ▸ hjP))⟩) (fun _ z => z) q7
      · rw [hBo i hij]; exact hr
theorem zt_app0 (u : zt_T) : zt_ap .leaf u = u := rfl
/-- the class's nodes, the model's nodes -/
def zt_NC (h : zs_H) (i kd : Nat) (k : Int32 × Int32) (_up _z : Int32) : Prop := (h.2.1 13) i = nI kd ∧ (h.2.1 15) i = k.1 ∧ (h.2.1 16) i = k.2
def zt_km (kd : Nat) : Nat := if kd = 37 then 6 else if kd = 38 then 6 else kd
def zt_nk (kd : Nat) : Bool := [1, 2, 3, 6, 37, 38, 10, 13, 14, 19, 32, 33, 34].elem kd
/-- a name's numbers in the class and in the model -/
def zt_nr (LC LM : List (List Int32)) (v w : Int32) : Prop := ∃ c k : Nat, v = nI c ∧ w = nI k ∧ 41 ≤ c ∧ c < LC.length ∧ k < LM.length ∧ LC.getD c [] = LM.getD k []
def zt_NM (LC LM : List (List Int32)) (g : zs_H) (i kd : Nat) (k : Int32 × Int32) (up z : Int32) : Prop := (g.2.1 72) i = nI (zt_km kd) ∧ (¬ kd = 11 → (g.2.1 73) i = k.1) ∧ (if zt_nk kd = true then zt_nr LC LM k.2 ((g.2.1 74) i) else (g.2.1 74) i = k.2) ∧ (g.2.1 75) i = up ∧ (g.2.1 77) i = z
def zt_C (h : zs_H) (t : zt_T) (P : Nat → Prop) (x y : Int32) : Prop := zt_G (zt_NC h) ((h.2.1 17)) ((h.2.1 18)) t P 0 x y
def zt_M (LC LM : List (List Int32)) (g : zs_H) (t : zt_T) (P : Nat → Prop) (up x y : Int32) : Prop := zt_G (zt_NM LC LM g) ((g.2.1 76)) ((g.2.1 78)) t P up x y
