/-! The machine: a run of statements: its outcomes, its stack, its steps. -/
theorem yF_Mx {t : yP3} {y : Nat} (h : yF_M t = some y) : t.1 = some y ∨ t.2.1 = some y ∨ t.2.2 = some y := by
  obtain ⟨a, b, c⟩ := t
  have key : ∀ (a b : Option Nat) (y : Nat), yP_m a b = some y → a = some y ∨ b = some y := by
    intro a b y h
    cases a with
    | none => exact .inr h
    | some a =>
      cases b with
      | none => exact .inl h
      | some b =>
        have h' : max a b = y := Option.some.inj h
        rcases Nat.le_total a b with z | z
        · right; rw [← h', Nat.max_eq_right z]
        · left; rw [← h', Nat.max_eq_left z]
  rcases key _ _ _ h with z | z
  · exact .inl z
  · rcases key _ _ _ z with z | z
    · exact .inr (.inl z)
    · exact .inr (.inr z)
theorem yF_psn {m x : Nat} {t : yP3} (hm : ¬ m = 0) (e : t.1 = some x) : yP_ps (m + 1) t = yP_p (some (1 + x)) (yP_ps m t) ∧ yP_b (m + 1) (yP_p (some 1) t.1) = yP_b m (yP_p (some 1) t.1) + (1 + x) := by
  have h1 : (m + 1 - 1) * (1 + x) = (m - 1) * (1 + x) + (1 + x) := by
    rw [Nat.add_sub_cancel]; exact yP_N1 hm (1 + x)
  have e2 : yP_b (m + 1) (yP_p (some 1) t.1) = yP_b m (yP_p (some 1) t.1) + (1 + x) := by rw [e]; exact h1
  refine ⟨?_, e2⟩
  unfold yP_ps
  rw [e2, e]
  show yP_m (some (yP_b m (yP_p (some 1) (some x)) + (1 + x) + (1 + x) + 1)) (yP_p (some (yP_b m (yP_p (some 1) (some x)) + (1 + x) + 1)) t.2.1) = yP_p (some (1 + x)) (yP_m (some (yP_b m (yP_p (some 1) (some x)) + (1 + x) + 1)) (yP_p (some (yP_b m (yP_p (some 1) (some x)) + 1)) t.2.1))
  generalize yP_b m (yP_p (some 1) (some x)) = w
  cases t.2.1 with
  | none => show some _ = some _; congr 1; omega
  | some z =>
    show some (max (w + (1 + x) + (1 + x) + 1) (w + (1 + x) + 1 + z)) = some (1 + x + max (w + (1 + x) + 1) (w + 1 + z))
    congr 1; omega
theorem yF_le2 {e y : Nat} {a : Option Nat} (l : e ≤ y) : yF_le (yP_p (some e) a) (yP_p (some y) a) := fun x ex => by
  cases a with
  | none => cases ex
  | some a =>
    have : e + a = x := Option.some.inj ex
    exact ⟨y + a, rfl, by omega⟩
/-- one more round -/
theorem yF_Ns {m x e : Nat} {t c : yP3} (h : t.1 = some x) (l : e ≤ 1 + x) : yF_sh e (yP_N m t c) (yP_N (m + 1) t c) := by
  by_cases hm : m = 0
  · subst hm
    rw [yF_N0]
    obtain ⟨y, y1, y2⟩ := (yF_ps (N := 0 + 1) (t := t)).1 x h
    have q := yF_pc (N := 0 + 1) (d := e + 1) (c := c) (by omega) y1 (by omega)
    refine ⟨?_, ?_, ?_⟩
    · show yF_le (yP_p (some e) (yP_p (some 1) c.1)) _
      rw [← yF_pp]; exact q.1
    · show yF_le (yP_p (some e) (yP_p (some 1) c.2.1)) _
      rw [← yF_pp]; exact q.2.1
    · show yF_le (yP_p (some e) (yP_p (some 1) c.2.2)) _
      rw [← yF_pp]; exact q.2.2
  · obtain ⟨p1, p2⟩ := yF_psn hm h
    rw [yF_Nn hm, yF_Nn (show ¬ m + 1 = 0 by omega), p1, p2]
    have k1 : ∀ a : Option Nat, yF_le (yP_p (some e) (yP_p (yP_ps m t) a)) (yP_p (yP_p (some (1 + x)) (yP_ps m t)) a) := fun a => by
      rw [yP_pa]; exact yF_le2 l
    refine ⟨k1 _, k1 _, ?_⟩
    rw [yP_pm]
    refine yF_lm.2.2 (yF_lt ?_ (yF_lm (c := none)).1) (yF_lt (k1 _) (yF_lm (c := none)).2.1)
    have : yP_p (some (yP_b m (yP_p (some 1) t.1) + (1 + x) + 1)) t.2.2 = yP_p (some (1 + x)) (yP_p (some (yP_b m (yP_p (some 1) t.1) + 1)) t.2.2) := by
      rw [← yF_pp]; congr 2; omega
    rw [this]
    exact yF_le2 l
section YGR
variable {X Y : Nat → Nat} {kb : Nat → yK} {pl : Nat → Nat} {tm : Nat → Nat → (Nat → Int32) → Nat → Int32} {U : Nat → Nat → yE → yE × Nat} {B : Nat → Nat} {b base : Nat}
/-- what holds of a run -/
def yG_R (c t : yP3) (s : yE) (r : yE × Nat) : Prop := r.2 ≤ 4 ∧ (r.2 ≤ 2 → r.1.2.1 = s.2.1) ∧ s.2.2 ≤ r.1.2.2 ∧ yF c t (r.1.2.2 - s.2.2) r.2
theorem yG_0 {c : yP3} {s : yE} : yG_R c c s (s, 0) := by
  refine ⟨by show 0 ≤ 4; omega, fun _ => rfl, Nat.le_refl _, fun _ => ?_, fun z => absurd z (show ¬ (0 : Nat) = 1 by decide), fun z => absurd z (show ¬ (0 : Nat) = 2 by decide), fun z => absurd z (show ¬ ((0 : Nat) = 3 ∨ (0 : Nat) = 4) by decide)⟩
  show yF_sh (s.2.2 - s.2.2) c c
  rw [Nat.sub_self]
  have key : ∀ a : Option Nat, yF_le (yP_p (some 0) a) a := fun a x ex => by
    cases a with
    | none => cases ex
    | some a =>
      have : 0 + a = x := Option.some.inj ex
      exact ⟨a, rfl, by omega⟩
  exact ⟨key _, key _, key _⟩
/-- one run behind the other -/
theorem yG_sq {a c t : yP3} {s : yE} {r q : yE × Nat} (R1 : yG_R c t s r) (h0 : r.2 = 0) (R2 : yG_R a c r.1 q) : yG_R a t s q := by
  refine ⟨R2.1, fun z => (R2.2.1 z).trans (R1.2.1 (by omega)), Nat.le_trans R1.2.2.1 R2.2.2.1, ?_⟩
  have := yF_seq (R1.2.2.2.1 h0) R2.2.2.2
  have e1 := R1.2.2.1
  have e2 := R2.2.2.1
  rw [show (r.1.2.2 - s.2.2) + (q.1.2.2 - r.1.2.2) = q.1.2.2 - s.2.2 by omega] at this
  exact this
/-- a run that does not go on -/
theorem yG_st {a c t : yP3} {s : yE} {r : yE × Nat} (R1 : yG_R c t s r) (h0 : ¬ r.2 = 0) : yG_R a t s r := ⟨R1.1, R1.2.1, R1.2.2.1, fun z => absurd z h0, R1.2.2.2.2⟩
/-- one more step before -/
theorem yG_pre {a c t : yP3} {s s' : yE} {q : yE × Nat} (h1 : s'.2.1 = s.2.1) (h2 : s'.2.2 = s.2.2 + 1) (h3 : yF_sh 1 c t) (R2 : yG_R a c s' q) : yG_R a t s q := by
  refine ⟨R2.1, fun z => (R2.2.1 z).trans h1, by have := R2.2.2.1; omega, ?_⟩
  have := yF_seq h3 R2.2.2.2
  have e2 := R2.2.2.1
  rw [show 1 + (q.1.2.2 - s'.2.2) = q.1.2.2 - s.2.2 by omega] at this
  exact this
/-- rounds of a loop -/
theorem yG_lp {body : yE → yE × Nat} {cell : Nat} {t c : yP3} (hc : ¬ yF_M c = none) (Hb : ∀ s, yG_R (some 1, none, none) t s (body s)) (Hc : ∀ s, (body s).1.1 cell = s.1 cell) : ∀ (m f : Nat) (s : yE), s.1 cell = nI m → m < f → m ≤ 1000000 → yG_R c (yP_N m t c) s (yE_l body cell f s) ∧ ¬ (yE_l body cell f s).2 = 1 := by
  intro m
  induction m with
  | zero =>
    intro f s e hf _
    obtain ⟨f, rfl⟩ : ∃ z, f = z + 1 := ⟨f - 1, by omega⟩
    rw [yE_l, if_pos (by rw [e]; rfl), yF_N0]
    exact ⟨yG_pre (s' := (s.1, s.2.1, s.2.2 + 1)) rfl rfl (yF_a (Nat.le_refl _)) yG_0, by show ¬ (0 : Nat) = 1; decide⟩
  | succ m ih =>
    intro f s e hf hm
    obtain ⟨f, rfl⟩ : ∃ z, f = z + 1 := ⟨f - 1, by omega⟩
    have e1 : s.1 cell - 1 = nI m := by rw [e]; exact zi_sub (a := m + 1) (b := 1) (by omega)
    rw [yE_l, if_neg (by rw [e]; exact mt (zc_eq (k := 0) (by decide) (by omega)).mp (by omega)), e1]
    have R := Hb (yE_u s.1 cell (nI m), s.2.1, s.2.2 + 1)
    have cl : (body (yE_u s.1 cell (nI m), s.2.1, s.2.2 + 1)).1.1 cell = nI m := (Hc _).trans (if_pos rfl)
    generalize hq : body (yE_u s.1 cell (nI m), s.2.1, s.2.2 + 1) = q at R cl
    obtain ⟨r1, r2, r3, r4⟩ := R
    have r2' : q.2 ≤ 2 → q.1.2.1 = s.2.1 := r2
    have r3' : s.2.2 + 1 ≤ q.1.2.2 := r3
    have r4' : yF (some 1, none, none) t (q.1.2.2 - (s.2.2 + 1)) q.2 := r4
    have mono : ∀ {d y : Nat}, yP_ps (m + 1) t = some y → d ≤ y → yF_sh d c (yP_N (m + 1) t c) := fun h1 h2 => yF_pc (by omega) h1 h2
    by_cases z0 : q.2 = 0
    · rw [if_pos z0]
      obtain ⟨x, x1, x2⟩ := (r4'.1 z0).1 (q.1.2.2 - (s.2.2 + 1) + 1) rfl
      obtain ⟨Rl, nl⟩ := ih f (q.1.1, q.1.2.1, q.1.2.2 + 1) cl (by omega) (by omega)
      refine ⟨⟨Rl.1, fun w => (Rl.2.1 w).trans (r2' (by omega)), by have : q.1.2.2 + 1 ≤ _ := Rl.2.2.1; omega, ?_⟩, nl⟩
      have := yF_seq (yF_Ns (m := m) (c := c) (e := 1 + (q.1.2.2 - (s.2.2 + 1) + 1)) x1 (by omega)) Rl.2.2.2
      have l3 : q.1.2.2 + 1 ≤ (yE_l body cell f (q.1.1, q.1.2.1, q.1.2.2 + 1)).1.2.2 := Rl.2.2.1
      rw [show 1 + (q.1.2.2 - (s.2.2 + 1) + 1) + ((yE_l body cell f (q.1.1, q.1.2.1, q.1.2.2 + 1)).1.2.2 - (q.1.1, q.1.2.1, q.1.2.2 + 1).2.2) = (yE_l body cell f (q.1.1, q.1.2.1, q.1.2.2 + 1)).1.2.2 - s.2.2 by
        show 1 + (q.1.2.2 - (s.2.2 + 1) + 1) + ((yE_l body cell f (q.1.1, q.1.2.1, q.1.2.2 + 1)).1.2.2 - (q.1.2.2 + 1)) = _
        omega] at this
      exact this
    rw [if_neg z0]
    by_cases z1 : q.2 = 1
    · rw [if_pos z1]
      obtain ⟨x, x1, x2⟩ := r4'.2.1 z1 _ rfl
      obtain ⟨y, y1, y2⟩ := (yF_ps (N := m + 1) (t := t)).2 x x1
      refine ⟨⟨by show 0 ≤ 4; omega, fun _ => r2' (by omega), by show s.2.2 ≤ q.1.2.2; omega, fun _ => mono y1 (by show q.1.2.2 - s.2.2 ≤ y; omega), fun w => absurd w (show ¬ (0 : Nat) = 1 by decide), fun w => absurd w (show ¬ (0 : Nat) = 2 by decide), fun w => absurd w (show ¬ ((0 : Nat) = 3 ∨ (0 : Nat) = 4) by decide)⟩, by show ¬ (0 : Nat) = 1; decide⟩
    rw [if_neg z1]
    refine ⟨⟨r1, r2', by omega, fun w => absurd w z0, fun w => absurd w z1, fun w => ?_, fun w => ?_⟩, z1⟩
    · obtain ⟨x, x1, x2⟩ := r4'.2.2.1 w _ rfl
      rw [yF_Nn (show ¬ m + 1 = 0 by omega), x1]
      intro d ed
      have : q.1.2.2 - s.2.2 = d := Option.some.inj ed
      obtain ⟨y, y1, y2⟩ := (yF_lm (a := yP_p (some (yP_b (m + 1) (yP_p (some 1) t.1) + 1)) (some x)) (b := yP_p (yP_ps (m + 1) t) c.2.2) (c := none)).1 _ rfl
      exact ⟨y, y1, by omega⟩
    · obtain ⟨x, x1, x2⟩ := r4'.2.2.2 w _ rfl
      have fin : ∀ {y : Nat}, yP_ps (m + 1) t = some y → q.1.2.2 - s.2.2 ≤ y → yF_le (some (q.1.2.2 - s.2.2)) (yF_M (yP_N (m + 1) t c)) := fun {y} h1 h2 => by
        have k := yF_shM (mono h1 h2)
        cases hm2 : yF_M c with
        | none => exact absurd hm2 hc
        | some mc =>
          rw [hm2] at k
          intro d ed
          have : q.1.2.2 - s.2.2 = d := Option.some.inj ed
          obtain ⟨y', k1, k2⟩ := k _ rfl
          exact ⟨y', k1, by omega⟩
      rcases yF_Mx x1 with e | e | e
      · obtain ⟨y, y1, y2⟩ := (yF_ps (N := m + 1) (t := t)).1 x e
        exact fin y1 (by omega)
      · obtain ⟨y, y1, y2⟩ := (yF_ps (N := m + 1) (t := t)).2 x e
        exact fin y1 (by omega)
      · refine yF_lt ?_ yF_Mc.2.2
        rw [yF_Nn (show ¬ m + 1 = 0 by omega), e]
        intro d ed
        have : q.1.2.2 - s.2.2 = d := Option.some.inj ed
        obtain ⟨y, y1, y2⟩ := (yF_lm (a := yP_p (some (yP_b (m + 1) (yP_p (some 1) t.1) + 1)) (some x)) (b := yP_p (yP_ps (m + 1) t) c.2.2) (c := none)).1 _ rfl
        exact ⟨y, y1, by omega⟩
end YGR
