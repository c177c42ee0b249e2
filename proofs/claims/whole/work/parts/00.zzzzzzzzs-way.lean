/-! The machine: steps and bounds: the algebra; every T has a way. -/
def yF_le (a b : Option Nat) : Prop := ∀ x, a = some x → ∃ y, b = some y ∧ x ≤ y
def yF_M (t : yP3) : Option Nat := yP_m t.1 (yP_m t.2.1 t.2.2)
def yF_sh (d : Nat) (c t : yP3) : Prop := yF_le (yP_p (some d) c.1) t.1 ∧ yF_le (yP_p (some d) c.2.1) t.2.1 ∧ yF_le (yP_p (some d) c.2.2) t.2.2
/-- d steps with outcome o: within t, if c is behind -/
def yF (c t : yP3) (d o : Nat) : Prop := (o = 0 → yF_sh d c t) ∧ (o = 1 → yF_le (some d) t.2.1) ∧ (o = 2 → yF_le (some d) t.2.2) ∧ (o = 3 ∨ o = 4 → yF_le (some d) (yF_M t))
theorem yF_lt {a b c : Option Nat} (h1 : yF_le a b) (h2 : yF_le b c) : yF_le a c := fun x e => by
  obtain ⟨y, e1, l1⟩ := h1 x e
  obtain ⟨z, e2, l2⟩ := h2 y e1
  exact ⟨z, e2, Nat.le_trans l1 l2⟩
theorem yF_l0 {a : Option Nat} : yF_le a a := fun x e => ⟨x, e, Nat.le_refl _⟩
theorem yF_lp {d : Nat} {a b : Option Nat} (h : yF_le a b) : yF_le (yP_p (some d) a) (yP_p (some d) b) := fun x e => by
  cases a with
  | none => cases e
  | some a =>
    obtain ⟨y, e1, l1⟩ := h a rfl
    have : d + a = x := Option.some.inj e
    exact ⟨d + y, by rw [e1]; rfl, by omega⟩
theorem yF_lm {a b c : Option Nat} : yF_le a (yP_m a b) ∧ yF_le b (yP_m a b) ∧ (yF_le a c → yF_le b c → yF_le (yP_m a b) c) := by
  refine ⟨fun x e => ?_, fun x e => ?_, fun h1 h2 x e => ?_⟩
  · subst e
    cases b with
    | none => exact ⟨x, rfl, Nat.le_refl _⟩
    | some b => exact ⟨max x b, rfl, Nat.le_max_left _ _⟩
  · subst e
    cases a with
    | none => exact ⟨x, rfl, Nat.le_refl _⟩
    | some a => exact ⟨max a x, rfl, Nat.le_max_right _ _⟩
  · cases a with
    | none => exact h2 x e
    | some a =>
      cases b with
      | none => exact h1 x e
      | some b =>
        have e' : max a b = x := Option.some.inj e
        obtain ⟨y1, f1, l1⟩ := h1 a rfl
        obtain ⟨y2, f2, l2⟩ := h2 b rfl
        have : y1 = y2 := Option.some.inj (f1.symm.trans f2)
        exact ⟨y1, f1, by omega⟩
theorem yF_Mc {t : yP3} : yF_le t.1 (yF_M t) ∧ yF_le t.2.1 (yF_M t) ∧ yF_le t.2.2 (yF_M t) := ⟨(yF_lm (c := none)).1, yF_lt (yF_lm (c := none)).1 (yF_lm (c := none)).2.1, yF_lt (yF_lm (c := none)).2.1 (yF_lm (c := none)).2.1⟩
theorem yF_shM {d : Nat} {c t : yP3} (h : yF_sh d c t) : yF_le (yP_p (some d) (yF_M c)) (yF_M t) := by
  unfold yF_M
  rw [yP_pm, yP_pm]
  exact yF_lm.2.2 (yF_lt h.1 yF_Mc.1) (yF_lm.2.2 (yF_lt h.2.1 yF_Mc.2.1) (yF_lt h.2.2 yF_Mc.2.2))
theorem yF_pp {d e : Nat} {a : Option Nat} : yP_p (some (d + e)) a = yP_p (some d) (yP_p (some e) a) := by
  cases a with
  | none => rfl
  | some a => show some (d + e + a) = some (d + (e + a)); rw [Nat.add_assoc]
theorem yF_sht {d e : Nat} {a c t : yP3} (h1 : yF_sh d c t) (h2 : yF_sh e a c) : yF_sh (d + e) a t := ⟨by rw [yF_pp]; exact yF_lt (yF_lp h2.1) h1.1, by rw [yF_pp]; exact yF_lt (yF_lp h2.2.1) h1.2.1, by rw [yF_pp]; exact yF_lt (yF_lp h2.2.2) h1.2.2⟩
theorem yF_seq {d e o : Nat} {a c t : yP3} (h1 : yF_sh d c t) (h2 : yF a c e o) : yF a t (d + e) o :=
  ⟨fun z => yF_sht h1 (h2.1 z), fun z => yF_lt (yF_lp (d := d) (h2.2.1 z)) h1.2.1, fun z => yF_lt (yF_lp (d := d) (h2.2.2.1 z)) h1.2.2, fun z => yF_lt (yF_lp (d := d) (h2.2.2.2 z)) (yF_shM h1)⟩
theorem yF_a {d w : Nat} {c : yP3} (h : d ≤ w) : yF_sh d c (yP_a w c) := by
  have key : ∀ a : Option Nat, yF_le (yP_p (some d) a) (yP_p (some w) a) := fun a x e => by
    cases a with
    | none => cases e
    | some a =>
      have : d + a = x := Option.some.inj e
      exact ⟨w + a, rfl, by omega⟩
  exact ⟨key _, key _, key _⟩
theorem yF_aM {d w : Nat} {c : yP3} (h : d ≤ w) (hc : ¬ yF_M c = none) : yF_le (some d) (yF_M (yP_a w c)) := by
  have h1 := yF_shM (yF_a (c := c) h)
  cases e : yF_M c with
  | none => exact absurd e hc
  | some m =>
    rw [e] at h1
    intro x ex
    have : d = x := Option.some.inj ex
    obtain ⟨y, y1, y2⟩ := h1 (d + m) rfl
    exact ⟨y, y1, by omega⟩
theorem yF_ne {d : Nat} {c t : yP3} (h : yF_sh d c t) (hc : ¬ yF_M c = none) : ¬ yF_M t = none := fun z => by
  have h1 := yF_shM h
  cases e : yF_M c with
  | none => exact absurd e hc
  | some m =>
    rw [e] at h1
    obtain ⟨y, y1, _⟩ := h1 (d + m) rfl
    rw [z] at y1; cases y1
theorem yF_n3 {t : yP3} (h : ¬ yF_M t = none) : (∃ x, t.1 = some x) ∨ (∃ x, t.2.1 = some x) ∨ ∃ x, t.2.2 = some x := by
  obtain ⟨a, b, c⟩ := t
  cases a with
  | some x => exact .inl ⟨x, rfl⟩
  | none =>
    cases b with
    | some x => exact .inr (.inl ⟨x, rfl⟩)
    | none =>
      cases c with
      | some x => exact .inr (.inr ⟨x, rfl⟩)
      | none => exact absurd rfl h
theorem yF_nM {t : yP3} {x : Nat} (h : t.1 = some x ∨ t.2.1 = some x ∨ t.2.2 = some x) : ¬ yF_M t = none := fun z => by
  rcases h with h | h | h
  · obtain ⟨y, y1, _⟩ := (yF_Mc (t := t)).1 x h
    rw [z] at y1; cases y1
  · obtain ⟨y, y1, _⟩ := (yF_Mc (t := t)).2.1 x h
    rw [z] at y1; cases y1
  · obtain ⟨y, y1, _⟩ := (yF_Mc (t := t)).2.2 x h
    rw [z] at y1; cases y1
/-- a loop's way up to what is behind it -/
theorem yF_ps {N : Nat} {t : yP3} : (∀ x, t.1 = some x → ∃ y, yP_ps N t = some y ∧ yP_b N (some (1 + x)) + (1 + x) + 1 ≤ y) ∧ (∀ x, t.2.1 = some x → ∃ y, yP_ps N t = some y ∧ yP_b N (yP_p (some 1) t.1) + 1 + x ≤ y) := by
  refine ⟨fun x e => ?_, fun x e => ?_⟩
  · unfold yP_ps
    rw [e]
    exact (yF_lm (c := none)).1 (yP_b N (some (1 + x)) + (1 + x) + 1) rfl
  · unfold yP_ps
    rw [e]
    exact (yF_lm (c := none)).2.1 (yP_b N (yP_p (some 1) t.1) + 1 + x) rfl
theorem yF_N0 {t c : yP3} : yP_N 0 t c = yP_a 1 c := if_pos rfl
theorem yF_Nn {N : Nat} {t c : yP3} (h : ¬ N = 0) : yP_N N t c = (yP_p (yP_ps N t) c.1, yP_p (yP_ps N t) c.2.1, yP_m (yP_p (some (yP_b N (yP_p (some 1) t.1) + 1)) t.2.2) (yP_p (yP_ps N t) c.2.2)) := if_neg h
/-- behind a loop, d steps, if its way is at least that -/
theorem yF_pc {N d y : Nat} {t c : yP3} (h : ¬ N = 0) (e : yP_ps N t = some y) (l : d ≤ y) : yF_sh d c (yP_N N t c) := by
  rw [yF_Nn h, e]
  have key : ∀ a : Option Nat, yF_le (yP_p (some d) a) (yP_p (some y) a) := fun a x e => by
    cases a with
    | none => cases e
    | some a =>
      have : d + a = x := Option.some.inj e
      exact ⟨y + a, rfl, by omega⟩
  exact ⟨key _, key _, yF_lt (key _) (yF_lm (c := none)).2.1⟩
theorem yF_NM {N : Nat} {t c : yP3} (ht : ¬ yF_M t = none) (hc : ¬ yF_M c = none) : ¬ yF_M (yP_N N t c) = none := by
  by_cases h : N = 0
  · rw [h, yF_N0]; exact yF_ne (yF_a (d := 0) (Nat.zero_le _)) hc
  · rcases yF_n3 ht with ⟨x, e⟩ | ⟨x, e⟩ | ⟨x, e⟩
    · obtain ⟨y, y1, _⟩ := (yF_ps (N := N) (t := t)).1 x e
      exact yF_ne (yF_pc (d := 0) h y1 (Nat.zero_le _)) hc
    · obtain ⟨y, y1, _⟩ := (yF_ps (N := N) (t := t)).2 x e
      exact yF_ne (yF_pc (d := 0) h y1 (Nat.zero_le _)) hc
    · rw [yF_Nn h, e]
      obtain ⟨y, y1, _⟩ := (yF_lm (a := yP_p (some (yP_b N (yP_p (some 1) t.1) + 1)) (some x)) (b := yP_p (yP_ps N t) c.2.2) (c := none)).1 _ rfl
      exact yF_nM (x := y) (.inr (.inr y1))
theorem yF_LM {B : Nat → Nat} : ∀ (L : List yI) {c : yP3}, ¬ yF_M c = none → ¬ yF_M (yP_L B L c) = none := by
  intro L
  induction L with
  | nil => intro c h; exact h
  | cons i L ih => intro c h; exact yF_ne (yF_a (d := 0) (Nat.zero_le _)) (ih h)
/-- every T has a way -/
theorem yF_way {B : Nat → Nat} : ∀ (T : ys) (E c : yP3), ¬ yF_M c = none → ¬ yF_M (yP_T B T E c) = none := by
  intro T
  induction T with
  | leaf => intro E c h; exact h
  | inner k p o l r ihl ihr =>
    intro E c h
    have hr := ihr E c h
    rw [yP_T]
    split
    · exact yF_LM p.1 hr
    split
    · exact ihl _ _ hr
    split
    · exact yF_ne (yF_a (d := 0) (Nat.zero_le _)) (yF_NM (ihl _ _ (yF_nM (x := 1) (.inl rfl))) hr)
    split
    · exact yF_nM (x := 1) (.inr (.inl rfl))
    split
    · exact yF_nM (x := 1) (.inr (.inr rfl))
    split
    · refine yF_LM p.1 (yF_ne (yF_a (d := 0) (Nat.zero_le _)) ?_)
      rcases yF_n3 hr with ⟨x, e⟩ | ⟨x, e⟩ | ⟨x, e⟩
      · obtain ⟨y, y1, _⟩ := (yF_lm (a := (yP_T B l (none, none, none) (if yz_f r = true then yP_T B r E c else yP_a 1 E)).1) (b := (yP_T B r E c).1) (c := none)).2.1 x e
        exact yF_nM (x := y) (.inl y1)
      · obtain ⟨y, y1, _⟩ := (yF_lm (a := (yP_T B l (none, none, none) (if yz_f r = true then yP_T B r E c else yP_a 1 E)).2.1) (b := (yP_T B r E c).2.1) (c := none)).2.1 x e
        exact yF_nM (x := y) (.inr (.inl y1))
      · obtain ⟨y, y1, _⟩ := (yF_lm (a := (yP_T B l (none, none, none) (if yz_f r = true then yP_T B r E c else yP_a 1 E)).2.2) (b := (yP_T B r E c).2.2) (c := none)).2.1 x e
        exact yF_nM (x := y) (.inr (.inr y1))
    · exact ihl _ _ hr
/-- without EXITs outside loops nothing goes out -/
theorem yF_out {B : Nat → Nat} : ∀ (T : ys) (E c : yP3) (n : Nat), yz_x T n = [] → c.2.1 = none → E.2.1 = none → (yP_T B T E c).2.1 = none := by
  have hL : ∀ (L : List yI) (c : yP3), c.2.1 = none → (yP_L B L c).2.1 = none := by
    intro L
    induction L with
    | nil => intro c h; exact h
    | cons i L ih => intro c h; show yP_p (some _) (yP_L B L c).2.1 = none; rw [ih c h]; rfl
  intro T
  induction T with
  | leaf => intro E c n _ h _; exact h
  | inner k p o l r ihl ihr =>
    intro E c n hx h hE
    rw [yP_T]
    rw [yz_x] at hx
    by_cases k0 : k = 0
    · rw [if_pos k0] at hx ⊢
      exact hL _ _ (ihr E c _ hx h hE)
    rw [if_neg k0] at hx ⊢
    by_cases k1 : k = 1
    · rw [if_pos k1] at hx ⊢
      obtain ⟨x1, x2⟩ := List.append_eq_nil_iff.mp hx
      have hr := ihr E c _ x1 h hE
      exact ihl _ _ _ x2 hr hr
    rw [if_neg k1] at hx ⊢
    by_cases k2 : k = 2
    · rw [if_pos k2] at hx ⊢
      have hr := ihr E c _ hx h hE
      show yP_p (some 1) (yP_N _ _ (yP_T B r E c)).2.1 = none
      by_cases hN : p.2.2.toNatClampNeg = 0
      · rw [hN, yF_N0]
        show yP_p (some 1) (yP_p (some 1) (yP_T B r E c).2.1) = none
        rw [hr]; rfl
      · rw [yF_Nn hN]
        show yP_p (some 1) (yP_p _ (yP_T B r E c).2.1) = none
        rw [hr]
        cases yP_ps p.2.2.toNatClampNeg (yP_T B l (none, none, none) (some 1, none, none)) <;> rfl
    rw [if_neg k2] at hx ⊢
    by_cases k3 : k = 3
    · rw [if_pos k3] at hx
      exact absurd (List.append_eq_nil_iff.mp hx).2 (by intro q; cases q)
    rw [if_neg k3] at hx ⊢
    by_cases k4 : k = 4
    · rw [if_pos k4]
    rw [if_neg k4] at hx ⊢
    by_cases k5 : k = 5
    · rw [if_pos k5] at hx ⊢
      obtain ⟨x1, x2⟩ := List.append_eq_nil_iff.mp hx
      have hr := ihr E c _ x1 h hE
      refine hL _ _ ?_
      show yP_p (some 1) (yP_m _ (yP_T B r E c).2.1) = none
      rw [hr, ihl (none, none, none) _ _ x2 (by
        split
        · exact hr
        · show yP_p (some 1) E.2.1 = none; rw [hE]; rfl) rfl]
      rfl
    · rw [if_neg k5] at hx ⊢
      obtain ⟨x1, x2⟩ := List.append_eq_nil_iff.mp hx
      exact ihl _ _ _ x2 (ihr E c _ x1 h hE) rfl
