/-! The machine: a run of straight code: its outcomes, its stack, its steps. -/
/-- a frame of block b at base lies apart from FUNCTIONs below b -/
def yE_dj (X : Nat → Nat) (kb : Nat → yK) (pl : Nat → Nat) (b base : Nat) : Prop := ∀ w, w < b → (kb w).1 = 1 → pl w + X w ≤ base ∨ base + X b ≤ pl w
def yG_r (B : Nat → Nat) (u : Nat) (s : yE) (r : yE × Nat) : Prop := (r.2 = 0 ∨ r.2 = 3 ∨ r.2 = 4) ∧ (r.2 = 0 → r.1.2.1 = s.2.1) ∧ s.2.2 ≤ r.1.2.2 ∧ r.1.2.2 + 1 ≤ s.2.2 + B u
def yG_U (X : Nat → Nat) (kb : Nat → yK) (pl : Nat → Nat) (B : Nat → Nat) (b : Nat) (U : Nat → Nat → yE → yE × Nat) : Prop := ∀ (u base : Nat) (s : yE), u < b → yE_dj X kb pl u base → yG_r B u s (U u base s)
theorem yG_ite {p : Prop} [Decidable p] {a b : Option Int32} (ha : ¬ a = none) (hb : ¬ b = none) : ¬ (if p then a else b) = none := by
  by_cases h : p
  · rw [if_pos h]; exact ha
  · rw [if_neg h]; exact hb
theorem yG_two {k x y : Int32} (h : f_Cd_isByZero k y = 0) : ∃ v, f_Cd_two k x y = some v := by
  have hz : ¬ (y = 0 ∧ (k = 3 ∨ k = 4 ∨ k = 8 ∨ k = 9)) := fun ⟨h1, h2⟩ => by
    unfold f_Cd_isByZero at h
    rw [if_pos h1] at h
    rcases h2 with e | e | e | e <;> rw [e] at h <;> exact absurd h (by decide)
  rw [← yi_twoA (x := x) hz]
  have key : ∀ o : Option Int32, ¬ o = none → ∃ v, o = some v := fun o ho => by
    cases o with
    | none => exact absurd rfl ho
    | some v => exact ⟨v, rfl⟩
  apply key
  unfold f_Mo_two
  by_cases hy : y = 0
  · have n3 : ¬ k = 3 := fun e => hz ⟨hy, .inl e⟩
    have n4 : ¬ k = 4 := fun e => hz ⟨hy, .inr (.inl e)⟩
    have n8 : ¬ k = 8 := fun e => hz ⟨hy, .inr (.inr (.inl e))⟩
    have n9 : ¬ k = 9 := fun e => hz ⟨hy, .inr (.inr (.inr e))⟩
    simp only [if_neg n3, if_neg n4, if_neg n8, if_neg n9]
    repeat' refine yG_ite ?_ ?_
    all_goals exact Option.some_ne_none _
  · simp only [if_neg hy]
    repeat' refine yG_ite ?_ ?_
    all_goals exact Option.some_ne_none _
section YGT
variable {X Y : Nat → Nat} {kb : Nat → yK} {pl : Nat → Nat} {tm : Nat → Nat → (Nat → Int32) → Nat → Int32} {U : Nat → Nat → yE → yE × Nat} {B : Nat → Nat} {b base lo : Nat}
theorem yG_c1 {A : List Int32} (h : 1 ≤ A.length) : ∃ x A1, A = x :: A1 ∧ A1.length = A.length - 1 := by
  cases A with
  | nil => exact absurd h (by decide)
  | cons x A => exact ⟨x, A, rfl, rfl⟩
def yG_o (B : Nat → Nat) (i : yI) (A S0 : List Int32) (s : yE) (r : yE × Nat) : Prop := (r.2 = 0 ∨ r.2 = 3 ∨ r.2 = 4) ∧ (r.2 = 0 → ∃ A', r.1.2.1 = A' ++ S0 ∧ A'.length = A.length - yo_t i.1 + yo_l i.1) ∧ s.2.2 + 1 ≤ r.1.2.2 ∧ r.1.2.2 ≤ s.2.2 + yP_w B i
theorem yG_1 (hb : b ≤ 16) (hX : Y b ≤ X b ∧ X b ≤ 100000) (hU : yG_U X kb pl B b U) (hP : ∀ u, u < b → (kb u).1 = 1 → yE_dj X kb pl u (pl u)) (dj : yE_dj X kb pl b base) {i : yI} (W : yw_i X Y kb b lo i) (A S0 : List Int32) (c : Nat → Int32) (n : Nat) (ht : yo_t i.1 ≤ A.length) : yG_o B i A S0 (c, A ++ S0, n) (yE_1 pl tm U base i (c, A ++ S0, n)) := by
  have one : ¬ (i.1 = 15 ∨ i.1 = 16) → yP_w B i = 1 := fun z => if_neg z
  have t0 : ∀ {c' : Nat → Int32} {A' : List Int32}, ¬ (i.1 = 15 ∨ i.1 = 16) → A'.length = A.length - yo_t i.1 + yo_l i.1 → yG_o B i A S0 (c, A ++ S0, n) ((c', A' ++ S0, n + 1), 0) := fun z e => ⟨.inl rfl, fun _ => ⟨_, rfl, e⟩, Nat.le_refl _, by rw [one z]; exact Nat.le_refl _⟩
  have tf : ∀ {c' : Nat → Int32} {S : List Int32} {o : Nat}, ¬ (i.1 = 15 ∨ i.1 = 16) → o = 3 ∨ o = 4 → yG_o B i A S0 (c, A ++ S0, n) ((c', S, n + 1), o) := fun z e => ⟨.inr e, fun q => by have q' : _ = 0 := q; omega, Nat.le_refl _, by rw [one z]; exact Nat.le_refl _⟩
  unfold yE_1
  rcases W with W | ⟨e, x, e1, W⟩ | ⟨e, x, s, e1, e2, W⟩ | ⟨e, u, x, e1, e2, W1, W2, W3⟩ | ⟨e, B', x, e1, e2, W1, W2⟩
  · rcases W with e | e | ⟨e, _⟩ | ⟨e, _⟩ | ⟨e, _⟩ | ⟨e, _⟩ | ⟨e, _⟩ | ⟨e, _⟩ | ⟨e, u, e1, W1, W2⟩
    · rw [if_pos e]
      exact t0 (A' := i.2.1 :: A) (by omega) (by rw [e, List.length_cons]; rfl)
    · rw [e] at ht
      obtain ⟨x1, A1, rfl, l1⟩ := yG_c1 (A := A) (Nat.le_trans (by decide) ht)
      have ht1 : 3 ≤ A1.length + 1 := ht
      obtain ⟨x2, A2, rfl, l2⟩ := yG_c1 (A := A1) (by omega)
      have ht2 : 3 ≤ A2.length + 1 + 1 := ht
      obtain ⟨x3, A3, rfl, l3⟩ := yG_c1 (A := A2) (by omega)
      simp (config := { decide := true }) only [e, if_false, if_true, List.cons_append]
      exact t0 (A' := (if x3 = 0 then x2 else x1) :: A3) (by omega) (by rw [e]; show A3.length + 1 = A3.length + 1 + 1 + 1 - 3 + 1; omega)
    · simp (config := { decide := true }) only [e, if_false, if_true]
      exact t0 (A' := c (base + i.2.1.toNatClampNeg) :: A) (by omega) (by rw [e]; rfl)
    · rw [e] at ht
      obtain ⟨x1, A1, rfl, l1⟩ := yG_c1 (A := A) ht
      simp (config := { decide := true }) only [e, if_false, if_true, List.cons_append]
      split
      · exact tf (by omega) (.inr rfl)
      · exact t0 (A' := c (base + i.2.1.toNatClampNeg + yE_ix i x1) :: A1) (by omega) (by rw [e]; show A1.length + 1 = A1.length + 1 - 1 + 1; omega)
    · simp (config := { decide := true }) only [e, if_false, if_true]
      exact t0 (A' := c (pl i.2.1.toNatClampNeg + i.2.2.1.toNatClampNeg) :: A) (by omega) (by rw [e]; rfl)
    · rw [e] at ht
      obtain ⟨x1, A1, rfl, l1⟩ := yG_c1 (A := A) ht
      simp (config := { decide := true }) only [e, if_false, if_true, List.cons_append]
      exact t0 (A' := A1) (by omega) (by rw [e]; show A1.length = A1.length + 1 - 1 + 0; omega)
    · rw [e] at ht
      obtain ⟨x1, A1, rfl, l1⟩ := yG_c1 (A := A) (Nat.le_trans (by decide) ht)
      have ht1 : 2 ≤ A1.length + 1 := ht
      obtain ⟨x2, A2, rfl, l2⟩ := yG_c1 (A := A1) (by omega)
      simp (config := { decide := true }) only [e, if_false, if_true, List.cons_append]
      split
      · rename_i hz
        obtain ⟨v, ev⟩ := yG_two (x := x2) hz
        rw [ev]
        exact t0 (A' := v :: A2) (by omega) (by rw [e]; show A2.length + 1 = A2.length + 1 + 1 - 2 + 1; omega)
      · exact tf (by omega) (.inl rfl)
    · rw [e] at ht
      obtain ⟨x1, A1, rfl, l1⟩ := yG_c1 (A := A) ht
      simp (config := { decide := true }) only [e, if_false, if_true, List.cons_append]
      exact t0 (A' := f_Cd_one i.2.1 x1 :: A1) (by omega) (by rw [e]; show A1.length + 1 = A1.length + 1 - 1 + 1; omega)
    · simp (config := { decide := true }) only [e, if_false, if_true, e1]
      rw [nI_clamp (show u < 2147483648 by omega)]
      obtain ⟨h1, h2, h3, h4⟩ := hU u (pl u) (c, A ++ S0, n + 1) W1 (hP u W1 W2)
      have ew : yP_w B i = B u := by unfold yP_w; rw [if_pos (.inr e), e1, nI_clamp (by omega)]
      refine ⟨h1, fun z => ⟨A, h2 z, by rw [e]; rfl⟩, h3, ?_⟩
      rw [ew]
      have : (U u (pl u) (c, A ++ S0, n + 1)).1.2.2 + 1 ≤ n + 1 + B u := h4
      show _ ≤ n + B u
      omega
  · rw [e] at ht
    obtain ⟨x1, A1, rfl, l1⟩ := yG_c1 (A := A) ht
    simp (config := { decide := true }) only [e, if_false, if_true, List.cons_append]
    exact t0 (A' := A1) (by omega) (by rw [e]; show A1.length = A1.length + 1 - 1 + 0; omega)
  · rw [e] at ht
    obtain ⟨x1, A1, rfl, l1⟩ := yG_c1 (A := A) (Nat.le_trans (by decide) ht)
    have ht1 : 2 ≤ A1.length + 1 := ht
    obtain ⟨x2, A2, rfl, l2⟩ := yG_c1 (A := A1) (by omega)
    simp (config := { decide := true }) only [e, if_false, if_true, List.cons_append]
    split
    · exact tf (by omega) (.inr rfl)
    · exact t0 (A' := A2) (by omega) (by rw [e]; show A2.length = A2.length + 1 + 1 - 2 + 0; omega)
  · simp (config := { decide := true }) only [e, if_false, if_true, e1, e2]
    rw [nI_clamp (show u < 2147483648 by omega), nI_clamp (show x < 2147483648 by omega)]
    obtain ⟨h1, h2, h3, h4⟩ := hU u (base + x) (c, A ++ S0, n + 1) W1 (fun w hw hk => by
      rcases dj w (by omega) hk with z | z
      · exact .inl (by omega)
      · exact .inr (by omega))
    have ew : yP_w B i = B u := by unfold yP_w; rw [if_pos (.inl e), e1, nI_clamp (by omega)]
    refine ⟨h1, fun z => ⟨A, h2 z, by rw [e]; rfl⟩, h3, ?_⟩
    rw [ew]
    have : (U u (base + x) (c, A ++ S0, n + 1)).1.2.2 + 1 ≤ n + 1 + B u := h4
    show _ ≤ n + B u
    omega
  · simp (config := { decide := true }) only [e, if_false, if_true]
    exact t0 (A' := A) (by omega) (by rw [e]; rfl)
theorem yG_L (hb : b ≤ 16) (hX : Y b ≤ X b ∧ X b ≤ 100000) (hU : yG_U X kb pl B b U) (hP : ∀ u, u < b → (kb u).1 = 1 → yE_dj X kb pl u (pl u)) (dj : yE_dj X kb pl b base) (S0 : List Int32) (c3 : yP3) (hc : ¬ yF_M c3 = none) : ∀ (L : List yI) (A : List Int32) (d2 : Nat) (c : Nat → Int32) (n : Nat), (∀ i, i ∈ L → yw_i X Y kb b lo i) → yo_h A.length L = some d2 → ((yE_L pl tm U base L (c, A ++ S0, n)).2 = 0 ∨ (yE_L pl tm U base L (c, A ++ S0, n)).2 = 3 ∨ (yE_L pl tm U base L (c, A ++ S0, n)).2 = 4) ∧ ((yE_L pl tm U base L (c, A ++ S0, n)).2 = 0 → ∃ A', (yE_L pl tm U base L (c, A ++ S0, n)).1.2.1 = A' ++ S0 ∧ A'.length = d2) ∧ n ≤ (yE_L pl tm U base L (c, A ++ S0, n)).1.2.2 ∧ yF c3 (yP_L B L c3) ((yE_L pl tm U base L (c, A ++ S0, n)).1.2.2 - n) (yE_L pl tm U base L (c, A ++ S0, n)).2 := by
  intro L
  induction L with
  | nil =>
    intro A d2 c n _ e
    refine ⟨.inl rfl, fun _ => ⟨A, rfl, Option.some.inj e⟩, Nat.le_refl _, fun _ => ?_, fun z => absurd z (show ¬ (0 : Nat) = 1 by decide), fun z => absurd z (show ¬ (0 : Nat) = 2 by decide), fun z => absurd z (show ¬ ((0 : Nat) = 3 ∨ (0 : Nat) = 4) by decide)⟩
    show yF_sh (n - n) c3 c3
    rw [Nat.sub_self]
    have key : ∀ a : Option Nat, yF_le (yP_p (some 0) a) a := fun a x ex => by
      cases a with
      | none => cases ex
      | some a =>
        have : 0 + a = x := Option.some.inj ex
        exact ⟨a, rfl, by omega⟩
    exact ⟨key _, key _, key _⟩
  | cons i L ih =>
    intro A d2 c n W e
    have ht : yo_t i.1 ≤ A.length := by
      rcases Nat.lt_or_ge A.length (yo_t i.1) with z | z
      · rw [yo_h, if_neg (by omega)] at e; cases e
      · exact z
    rw [yo_h, if_pos ht] at e
    obtain ⟨h1, h2, h3, h4⟩ := yG_1 (tm := tm) hb hX hU hP dj (W i (List.mem_cons_self ..)) A S0 c n ht
    have h3' : n ≤ (yE_1 pl tm U base i (c, A ++ S0, n)).1.2.2 := Nat.le_of_succ_le h3
    have h4' : (yE_1 pl tm U base i (c, A ++ S0, n)).1.2.2 ≤ n + yP_w B i := h4
    rw [yE_L, yP_L]
    by_cases z : (yE_1 pl tm U base i (c, A ++ S0, n)).2 = 0
    · rw [if_pos z]
      obtain ⟨A', a1, a2⟩ := h2 z
      rw [← a2] at e
      have es : (yE_1 pl tm U base i (c, A ++ S0, n)).1 = ((yE_1 pl tm U base i (c, A ++ S0, n)).1.1, A' ++ S0, (yE_1 pl tm U base i (c, A ++ S0, n)).1.2.2) := by rw [← a1]
      rw [es]
      obtain ⟨b1, b2, b3, b4⟩ := ih A' d2 (yE_1 pl tm U base i (c, A ++ S0, n)).1.1 (yE_1 pl tm U base i (c, A ++ S0, n)).1.2.2 (fun i hi => W i (List.mem_cons_of_mem _ hi)) e
      refine ⟨b1, b2, Nat.le_trans h3' b3, ?_⟩
      have := yF_seq (yF_a (d := (yE_1 pl tm U base i (c, A ++ S0, n)).1.2.2 - n) (w := yP_w B i) (c := yP_L B L c3) (by omega)) b4
      rw [show ((yE_1 pl tm U base i (c, A ++ S0, n)).1.2.2 - n) + ((yE_L pl tm U base L ((yE_1 pl tm U base i (c, A ++ S0, n)).1.1, A' ++ S0, (yE_1 pl tm U base i (c, A ++ S0, n)).1.2.2)).1.2.2 - (yE_1 pl tm U base i (c, A ++ S0, n)).1.2.2) = (yE_L pl tm U base L ((yE_1 pl tm U base i (c, A ++ S0, n)).1.1, A' ++ S0, (yE_1 pl tm U base i (c, A ++ S0, n)).1.2.2)).1.2.2 - n by omega] at this
      exact this
    · rw [if_neg z]
      exact ⟨h1, fun q => absurd q z, h3', fun q => absurd q z, fun q => by rw [q] at h1; omega, fun q => by rw [q] at h1; omega, fun _ => yF_aM (by omega) (yF_LM L hc)⟩
end YGT
