/-! The cells of a text that begins: patterns. -/
section YBP
variable {LC LM : List (List Int32)} {nb b : Nat} {F X Y : Nat → Nat} {h0 g0 : zs_H}
/-- blocks below b are filled in their own cells alone -/
def yB_o (X : Nat → Nat) (b : Nat) (fl : Nat → Nat → (Nat → Int32) → Nat → Int32) : Prop := ∀ (u base : Nat) (c : Nat → Int32) (j : Nat), u < b → ¬ (base ≤ j ∧ j < base + X u) → fl u base c j = c j
def yB_s (X : Nat → Nat) (b : Nat) (fl : Nat → Nat → (Nat → Int32) → Nat → Int32) : Prop := ∀ (u base base' : Nat) (c c' : Nat → Int32), u < b → (∀ t, t < X u → c (base + t) = c' (base' + t)) → ∀ t, t < X u → fl u base c (base + t) = fl u base' c' (base' + t)
theorem yB_vo {fl : Nat → Nat → (Nat → Int32) → Nat → Int32} {v base j x s : Nat} {c : Nat → Int32} (C : yk_cx LC LM nb F X Y h0 g0) (hb : b < nb) (h1 : F b ≤ v) (h2 : v < F (b + 1)) (O : yB_o X b fl) (e1 : (h0.2.1 32) (32 + v) = nI x) (e2 : (h0.2.1 34) (32 + v) = nI s) (hx : x < 100000 ∧ s < 100000) (hj : ¬ (base + x ≤ j ∧ j < base + x + s)) : yB_v fl h0 base v c j = c j := by
  obtain ⟨x', s', ⟨q1, _⟩, ⟨q2, _⟩, _, ⟨q4, q5, _⟩, q7⟩ := yB_var C hb h1 h2
  have ex : x' = x := (nI_eq (by omega) (by omega)).mp (q1.symm.trans e1)
  have es : s' = s := (nI_eq (by omega) (by omega)).mp (q2.symm.trans e2)
  subst ex; subst es
  rcases q7 with ⟨_, _, ev⟩ | ⟨B, _, _, _, _, ev⟩ | ⟨u, hu, _, _, _, es, _, ev⟩
  · rw [ev]
    exact if_neg hj
  · rw [ev]
  · rw [ev]
    exact O u _ c j hu (by omega)
theorem yB_ro {fl : Nat → Nat → (Nat → Int32) → Nat → Int32} {base : Nat} (C : yk_cx LC LM nb F X Y h0 g0) (hb : b < nb) (O : yB_o X b fl) : ∀ (m v : Nat) (c : Nat → Int32) (j : Nat), v + m = F (b + 1) → F b ≤ v → ¬ (base ≤ j ∧ j < base + X b) → yB_r fl h0 base m v c j = c j := by
  intro m
  induction m with
  | zero => intro v c j _ _ _; rfl
  | succ m ih =>
    intro v c j e hv hj
    obtain ⟨x, s, ⟨q1, _⟩, ⟨q2, _⟩, _, ⟨q4, q5, _⟩, _⟩ := yB_var C hb hv (show v < F (b + 1) by omega)
    have kB := (C.2.2 b hb).1
    show yB_r fl h0 base m (v + 1) (yB_v fl h0 base v c) j = _
    rw [ih (v + 1) _ j (by omega) (by omega) hj]
    exact yB_vo C hb hv (by omega) O q1 q2 (by omega) (by omega)
theorem yB_rs {fl : Nat → Nat → (Nat → Int32) → Nat → Int32} {base base' : Nat} (C : yk_cx LC LM nb F X Y h0 g0) (hb : b < nb) (O : yB_o X b fl) (S : yB_s X b fl) : ∀ (m v : Nat) (c c' : Nat → Int32), v + m = F (b + 1) → F b ≤ v → (∀ t, t < X b → c (base + t) = c' (base' + t)) → ∀ t, t < X b → yB_r fl h0 base m v c (base + t) = yB_r fl h0 base' m v c' (base' + t) := by
  intro m
  induction m with
  | zero => intro v c c' _ _ h; exact h
  | succ m ih =>
    intro v c c' e hv h
    obtain ⟨x, s, ⟨q1, _⟩, ⟨q2, _⟩, _, ⟨q4, q5, _⟩, q7⟩ := yB_var C hb hv (show v < F (b + 1) by omega)
    have kB := (C.2.2 b hb).1
    refine ih (v + 1) _ _ (by omega) (by omega) (fun t ht => ?_)
    rcases q7 with ⟨_, _, ev⟩ | ⟨B, _, _, _, _, ev⟩ | ⟨u, hu, _, _, _, es, _, ev⟩
    · rw [ev, ev]
      show (if base + x ≤ base + t ∧ base + t < base + x + s then _ else _) = if base' + x ≤ base' + t ∧ base' + t < base' + x + s then _ else _
      by_cases z : x ≤ t ∧ t < x + s
      · rw [if_pos (by omega), if_pos (by omega)]
      · rw [if_neg (by omega), if_neg (by omega)]; exact h t ht
    · rw [ev, ev]; exact h t ht
    · rw [ev, ev]
      by_cases z : x ≤ t ∧ t < x + s
      · obtain ⟨t', rfl⟩ : ∃ t', t = x + t' := ⟨t - x, by omega⟩
        rw [← Nat.add_assoc, ← Nat.add_assoc]
        refine S u (base + x) (base' + x) c c' hu (fun w hw => ?_) t' (by omega)
        rw [Nat.add_assoc, Nat.add_assoc]
        exact h (x + w) (by omega)
      · rw [O u _ c _ hu (by omega), O u _ c' _ hu (by omega)]; exact h t ht
theorem yB_FO (C : yk_cx LC LM nb F X Y h0 g0) : ∀ (d b : Nat), b ≤ nb → b ≤ d → yB_o X b (yB_F F h0 d) ∧ yB_s X b (yB_F F h0 d) := by
  intro d
  induction d with
  | zero => intro b _ h; exact ⟨fun u base c j hu => by omega, fun u base base' c c' hu => by omega⟩
  | succ d ih =>
    intro b hb hd
    have key : ∀ u, u < b → yB_o X u (yB_F F h0 d) ∧ yB_s X u (yB_F F h0 d) := fun u hu => ih u (by omega) (by omega)
    have hF : ∀ u, u < b → F u ≤ F (u + 1) := fun u hu => (C.1.2.1.2.2.2.1 u (by omega)).1
    refine ⟨fun u base c j hu hj => ?_, fun u base base' c c' hu h t ht => ?_⟩
    · have := hF u hu
      exact yB_ro C (show u < nb by omega) (key u hu).1 (F (u + 1) - F u) (F u) c j (by omega) (Nat.le_refl _) hj
    · have := hF u hu
      exact yB_rs C (show u < nb by omega) (key u hu).1 (key u hu).2 (F (u + 1) - F u) (F u) c c' (by omega) (Nat.le_refl _) h t ht
theorem yB_rc {fl fl' : Nat → Nat → (Nat → Int32) → Nat → Int32} {base : Nat} (C : yk_cx LC LM nb F X Y h0 g0) (hb : b < nb) (E : ∀ u, u < b → fl u = fl' u) : ∀ (m v : Nat) (c : Nat → Int32), v + m = F (b + 1) → F b ≤ v → yB_r fl h0 base m v c = yB_r fl' h0 base m v c := by
  intro m
  induction m with
  | zero => intro v c _ _; rfl
  | succ m ih =>
    intro v c e hv
    obtain ⟨x, s, _, _, _, _, q7⟩ := yB_var C hb hv (show v < F (b + 1) by omega)
    show yB_r fl h0 base m (v + 1) (yB_v fl h0 base v c) = yB_r fl' h0 base m (v + 1) (yB_v fl' h0 base v c)
    have ev : yB_v fl h0 base v c = yB_v fl' h0 base v c := by
      rcases q7 with ⟨_, _, ev⟩ | ⟨B, _, _, _, _, ev⟩ | ⟨u, hu, _, _, _, es, _, ev⟩
      · rw [ev, ev]
      · rw [ev, ev]
      · rw [ev, ev, E u hu]
    rw [ev]
    exact ih (v + 1) _ (by omega) (by omega)
theorem yB_fu (C : yk_cx LC LM nb F X Y h0 g0) : ∀ (n m b : Nat), b < nb → b < n → b < m → yB_F F h0 n b = yB_F F h0 m b := by
  intro n
  induction n with
  | zero => intro m b _ h; omega
  | succ n ih =>
    intro m b hb h1 h2
    obtain ⟨m, rfl⟩ : ∃ z, m = z + 1 := ⟨m - 1, by omega⟩
    have hF := (C.1.2.1.2.2.2.1 b hb).1
    funext base c
    exact yB_rc C hb (fun u hu => ih m u (by omega) (by omega) (by omega)) (F (b + 1) - F b) (F b) c (by omega) (Nat.le_refl _)
/-- the pattern of a block -/
def yB_p (F : Nat → Nat) (h0 : zs_H) (u t : Nat) : Int32 := yB_F F h0 (u + 1) u 0 (fun _ => 0) t
theorem yB_pt {d u base t : Nat} {c : Nat → Int32} (C : yk_cx LC LM nb F X Y h0 g0) (hu : u < nb) (hd : u < d) (hz : ∀ t, t < X u → c (base + t) = 0) (ht : t < X u) : yB_F F h0 d u base c (base + t) = yB_p F h0 u t := by
  have := (yB_FO C (u + 1) (u + 1) (by omega) (Nat.le_refl _)).2 u base 0 c (fun _ => 0) (by omega) hz t ht
  rw [Nat.zero_add] at this
  rw [yB_fu C d (u + 1) u hu hd (by omega)]
  exact this
end YBP
