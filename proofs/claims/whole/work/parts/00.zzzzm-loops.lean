/-! The judge: the loops around a node; what may be assigned to (29, 30). -/
/-- the names of the FORs from a node upwards -/
def yc_A (g : zs_H) : Nat → Nat → List Int32 → Prop
  | 0, k, L => k < 33500 ∧ (g.2.1 75) k = -1 ∧ L = (if (g.2.1 72) k = 19 then [(g.2.1 74) k] else [])
  | m + 1, k, L => k < 33500 ∧ ∃ p L', (g.2.1 75) k = nI p ∧ yc_A g m p L' ∧ L = (if (g.2.1 72) k = 19 then (g.2.1 74) k :: L' else L')
theorem yc_Alt {g : zs_H} : ∀ m k L, yc_A g m k L → k < 33500 := by
  intro m
  cases m with
  | zero => intro k L h; exact h.1
  | succ m => intro k L h; exact h.1
def yc_L (LC LM : List (List Int32)) (h g : zs_H) (p d : Nat) : Prop := ∃ m L, m ≤ d ∧ yc_A g m p L ∧ (h.1 38 12) = nI L.length ∧ L.length ≤ d ∧ ∀ j, j < L.length → zt_nr LC LM ((h.2.1 39) (L.length - 1 - j)) (L.getD j 0)
section YC
variable {g : zs_H} {w : Int32}
theorem yc_47 {N p : Nat} {y : Int32} (hp : p < 33500) : f_Mo_isLoops_47 g (f_Mo_isLoops_L10 g N) w (nI p) y = f_Mo_isLoops_L10 g N w y ((g.2.1 75) p) := by
  unfold f_Mo_isLoops_47
  rw [if_pos (zi_in (by omega) hp), nI_clamp (show p < 2147483648 by omega)]
theorem yc_uL {N : Nat} {y : Int32} (x : Int32) : f_Mo_isLoops_L10 g (N + 1) w y x = f_Mo_isLoops_10 g (f_Mo_isLoops_L10 g N) w y x := rfl
theorem yc_end {N : Nat} {y : Int32} (hy : y = 0 ∨ y = 1) : f_Mo_isLoops_L10 g (N + 1) w y (-1) = some y := by
  rw [yc_uL]
  unfold f_Mo_isLoops_10
  rw [if_pos (by decide), if_pos hy]
theorem yc_one {N p : Nat} {y : Int32} (hp : p < 33500) (hy : y = 0 ∨ y = 1) : f_Mo_isLoops_L10 g (N + 1) w y (nI p) = f_Mo_isLoops_L10 g N w (if y = 1 ∨ ((g.2.1 72) p = 19 ∧ (g.2.1 74) p = w) then 1 else 0) ((g.2.1 75) p) := by
  rw [yc_uL]
  unfold f_Mo_isLoops_10 f_Mo_isLoops_42 f_Mo_isLoops_46
  rw [if_neg (zv_neg (show p < 2147483648 by omega)).2, yc_47 hp, yc_47 hp, if_pos (zi_in (by omega) hp), nI_clamp (show p < 2147483648 by omega)]
  rcases hy with e | e <;> subst e
  · rw [if_pos rfl]
    by_cases z1 : (g.2.1 72) p = 19
    · by_cases z2 : (g.2.1 74) p = w
      · rw [if_pos z1, if_pos z2, if_pos (.inr ⟨z1, z2⟩)]
      · rw [if_pos z1, if_neg z2, if_neg (fun u => u.elim (by decide) (fun u => z2 u.2))]
    · rw [if_neg z1, if_neg (fun u => u.elim (by decide) (fun u => z1 u.1))]
  · rw [if_neg (by decide), if_pos (.inl rfl)]
theorem yc_isL : ∀ m p L N y, yc_A g m p L → m + 1 < N → (y = 0 ∨ y = 1) → f_Mo_isLoops_L10 g N w y (nI p) = some (if y = 1 ∨ w ∈ L then 1 else 0) := by
  intro m
  induction m with
  | zero =>
    intro p L N y hA hN hy
    obtain ⟨N, rfl⟩ : ∃ z, N = z + 1 + 1 := ⟨N - 2, by omega⟩
    obtain ⟨hp, a1, a2⟩ := hA
    rw [yc_one hp hy, a1, yc_end (by split; exact .inr rfl; exact .inl rfl)]
    have : (y = 1 ∨ ((g.2.1 72) p = 19 ∧ (g.2.1 74) p = w)) ↔ (y = 1 ∨ w ∈ L) := by
      rw [a2]
      by_cases z : (g.2.1 72) p = 19
      · rw [if_pos z, List.mem_singleton]
        exact ⟨fun u => u.imp id (fun u => u.2.symm), fun u => u.imp id (fun u => ⟨z, u.symm⟩)⟩
      · rw [if_neg z]
        exact ⟨fun u => u.imp id (fun u => absurd u.1 z), fun u => u.imp id (fun u => absurd u List.not_mem_nil)⟩
    simp only [this]
  | succ m ih =>
    intro p L N y hA hN hy
    obtain ⟨N, rfl⟩ : ∃ z, N = z + 1 := ⟨N - 1, by omega⟩
    obtain ⟨hp, p', L', a1, a2, a3⟩ := hA
    rw [yc_one hp hy, a1, ih p' L' N _ a2 (by omega) (by split; exact .inr rfl; exact .inl rfl)]
    have : ((if y = 1 ∨ ((g.2.1 72) p = 19 ∧ (g.2.1 74) p = w) then (1 : Int32) else 0) = 1 ∨ w ∈ L') ↔ (y = 1 ∨ w ∈ L) := by
      rw [a3]
      by_cases zy : y = 1
      · simp only [zy, true_or, if_true]
      · by_cases z : (g.2.1 72) p = 19
        · by_cases z2 : (g.2.1 74) p = w
          · simp only [zy, z, z2, and_self, or_true, if_true, List.mem_cons, true_or]
          · have z3 : ¬ w = (g.2.1 74) p := fun u => z2 u.symm
            simp only [zy, z, z2, z3, and_false, or_false, if_false, if_true, List.mem_cons, false_or]
            exact ⟨fun u => u.elim (fun u => absurd u (by decide)) id, .inr⟩
        · simp only [zy, z, false_and, or_false, if_false, false_or]
          exact ⟨fun u => u.elim (fun u => absurd u (by decide)) id, .inr⟩
    simp only [this]
theorem yc_isLoops {m p k : Nat} {L : List Int32} (hA : yc_A g m p L) (hm : m < 1000) (hk : k < 33500) (e : (g.2.1 75) k = nI p) : f_Mo_isLoops g w (nI k) = some (if w ∈ L then 1 else 0) := by
  have hz := zF_big
  unfold f_Mo_isLoops
  rw [if_pos (zi_in (by omega) hk), nI_clamp (show k < 2147483648 by omega), e, yc_isL m p L zF 0 hA (by omega) (.inl rfl)]
  simp only [show ¬ (0 : Int32) = 1 by decide, false_or]
/-- whether there is a FOR above -/
theorem yc_413 {N p k : Nat} {y : Int32} (hp : p < 33500) : f_Mo_lookAtStatements_413 (f_Mo_lookAtStatements_L389 N) g (nI k) (nI p) y = f_Mo_lookAtStatements_L389 N g (nI k) y ((g.2.1 75) p) := by
  unfold f_Mo_lookAtStatements_413
  rw [if_pos (zi_in (by omega) hp), nI_clamp (show p < 2147483648 by omega)]
theorem yc_uX {N : Nat} {x1 y : Int32} (x : Int32) : f_Mo_lookAtStatements_L389 (N + 1) g x1 y x = f_Mo_lookAtStatements_389 (f_Mo_lookAtStatements_L389 N) g x1 y x := rfl
theorem yc_oneX {N p k : Nat} {y : Int32} (hp : p < 33500) (hy : y = 0 ∨ y = 1) : f_Mo_lookAtStatements_L389 (N + 1) g (nI k) y (nI p) = f_Mo_lookAtStatements_L389 N g (nI k) (if y = 1 ∨ (g.2.1 72) p = 19 then 1 else 0) ((g.2.1 75) p) := by
  rw [yc_uX]
  unfold f_Mo_lookAtStatements_389 f_Mo_lookAtStatements_408
  rw [if_neg (zv_neg (show p < 2147483648 by omega)).2, yc_413 hp, yc_413 hp, if_pos (zi_in (by omega) hp), nI_clamp (show p < 2147483648 by omega)]
  rcases hy with e | e <;> subst e
  · rw [if_pos rfl]
    by_cases z1 : (g.2.1 72) p = 19
    · rw [if_pos z1, if_pos (.inr z1)]
    · rw [if_neg z1, if_neg (fun u => u.elim (by decide) z1)]
  · rw [if_neg (by decide), if_pos (.inl rfl)]
theorem yc_exit {k : Nat} : ∀ m p L N y, yc_A g m p L → m + 1 < N → (y = 0 ∨ y = 1) → f_Mo_lookAtStatements_L389 N g (nI k) y (nI p) = f_Mo_lookAtStatements_434 g (nI k) (if y = 1 ∨ ¬ L = [] then 0 else 1) := by
  have fin : ∀ (N : Nat) (y : Int32), (y = 0 ∨ y = 1) → f_Mo_lookAtStatements_L389 (N + 1) g (nI k) y (-1) = f_Mo_lookAtStatements_434 g (nI k) (if y = 1 then 0 else 1) := by
    intro N y hy
    rw [yc_uX]
    unfold f_Mo_lookAtStatements_389
    rw [if_pos (by decide)]
    rcases hy with e | e <;> subst e <;> rfl
  intro m
  induction m with
  | zero =>
    intro p L N y hA hN hy
    obtain ⟨N, rfl⟩ : ∃ z, N = z + 1 + 1 := ⟨N - 2, by omega⟩
    obtain ⟨hp, a1, a2⟩ := hA
    rw [yc_oneX hp hy, a1, fin N _ (by split; exact .inr rfl; exact .inl rfl), a2]
    rcases hy with e | e <;> subst e
    · by_cases z : (g.2.1 72) p = 19
      · simp (config := { decide := true }) only [z, or_true, if_true]
        rw [if_pos (.inr (List.cons_ne_nil _ _))]
      · simp (config := { decide := true }) only [z, or_false, if_false]
    · simp (config := { decide := true }) only [true_or, if_true]
  | succ m ih =>
    intro p L N y hA hN hy
    obtain ⟨N, rfl⟩ : ∃ z, N = z + 1 := ⟨N - 1, by omega⟩
    obtain ⟨hp, p', L', a1, a2, a3⟩ := hA
    rw [yc_oneX hp hy, a1, ih p' L' N _ a2 (by omega) (by split; exact .inr rfl; exact .inl rfl), a3]
    rcases hy with e | e <;> subst e
    · by_cases z : (g.2.1 72) p = 19
      · simp (config := { decide := true }) only [z, or_true, if_true, true_or]
        rw [if_pos (.inr (List.cons_ne_nil _ _))]
      · simp (config := { decide := true }) only [z, or_false, if_false, false_or]
    · simp (config := { decide := true }) only [true_or, if_true]
end YC
section YCL
variable {h g : zs_H} {i u c n : Nat}
theorem yc_uA {N : Nat} {x1 x2 : Int32} (x : Int32) : f_Jd_judgeAssigned_L117 (N + 1) h x1 x2 x = f_Jd_judgeAssigned_117 (f_Jd_judgeAssigned_L117 N) h x1 x2 x := rfl
/-- behind a fault nothing more happens -/
theorem yc_lpF (hf : ¬ (h.1 38 3) = 0) (hl : (h.1 38 12) = nI n) (hn : n ≤ 240) (hu : u < 5900) : ∀ r j N, j + r = n → r < N → f_Jd_judgeAssigned_L117 N h (nI (32 + u)) (nI i) (nI j) = some h := by
  intro r
  induction r with
  | zero =>
    intro j N hj hN
    obtain ⟨N, rfl⟩ : ∃ z, N = z + 1 := ⟨N - 1, by omega⟩
    rw [yc_uA]
    unfold f_Jd_judgeAssigned_117
    rw [hl, if_pos ((nI_leI (by omega) (by omega)).mpr (by omega))]
  | succ r ih =>
    intro j N hj hN
    obtain ⟨N, rfl⟩ : ∃ z, N = z + 1 := ⟨N - 1, by omega⟩
    rw [yc_uA]
    unfold f_Jd_judgeAssigned_117 f_Jd_judgeAssigned_151
    rw [hl, if_neg (mt (nI_leI (by omega) (by omega)).mp (by omega)), if_pos (zi_in (by omega) (by omega)), if_pos (zi_in (by omega) (by omega)), zv_refF hf, zv_refF hf, ite_self, Option.bind_some, nI_1]
    exact ih (j + 1) N (by omega) (by omega)
theorem yc_lp (J1 : (h.1 38 3) = 0) (hi : i < 32784) (hl : (h.1 38 12) = nI n) (hn : n ≤ 240) (hu : u < 5900) (hc : (h.2.1 28) (32 + u) = nI c) : ∀ r j N, j + r = n → r < N →
    ((∀ a, j ≤ a → a < n → ¬ (h.2.1 39) a = nI c) → f_Jd_judgeAssigned_L117 N h (nI (32 + u)) (nI i) (nI j) = some h) ∧ ((∃ a, j ≤ a ∧ a < n ∧ (h.2.1 39) a = nI c) → f_Jd_judgeAssigned_L117 N h (nI (32 + u)) (nI i) (nI j) = some (zv_rf 30 i h)) := by
  intro r
  induction r with
  | zero =>
    intro j N hj hN
    obtain ⟨N, rfl⟩ : ∃ z, N = z + 1 := ⟨N - 1, by omega⟩
    refine ⟨fun _ => ?_, fun ⟨a, a1, a2, _⟩ => by omega⟩
    rw [yc_uA]
    unfold f_Jd_judgeAssigned_117
    rw [hl, if_pos ((nI_leI (by omega) (by omega)).mpr (by omega))]
  | succ r ih =>
    intro j N hj hN
    obtain ⟨N, rfl⟩ : ∃ z, N = z + 1 := ⟨N - 1, by omega⟩
    have e : f_Jd_judgeAssigned_L117 (N + 1) h (nI (32 + u)) (nI i) (nI j) = if (h.2.1 39) j = nI c then f_Jd_judgeAssigned_L117 N (zv_rf 30 i h) (nI (32 + u)) (nI i) (nI (j + 1)) else f_Jd_judgeAssigned_L117 N h (nI (32 + u)) (nI i) (nI (j + 1)) := by
      rw [yc_uA]
      unfold f_Jd_judgeAssigned_117 f_Jd_judgeAssigned_151
      rw [hl, if_neg (mt (nI_leI (by omega) (by omega)).mp (by omega)), if_pos (zi_in (by omega) (by omega)), if_pos (zi_in (by omega) (by omega)), show (30 : Int32) = nI 30 from rfl, zv_ref1 (by decide) J1 hi, zv_ref0, Option.bind_some, Option.bind_some, nI_1, nI_clamp (show j < 2147483648 by omega), nI_clamp (show 32 + u < 2147483648 by omega), hc]
      rfl
    obtain ⟨i1, i2⟩ := ih (j + 1) N (by omega) (by omega)
    by_cases z : (h.2.1 39) j = nI c
    · refine ⟨fun H => absurd z (H j (Nat.le_refl _) (by omega)), fun _ => ?_⟩
      rw [e, if_pos z]
      exact yc_lpF (h := zv_rf 30 i h) (n := n) (zv_rff (by decide) (by decide)) hl hn hu r (j + 1) N (by omega) (by omega)
    · refine ⟨fun H => ?_, fun ⟨a, a1, a2, a3⟩ => ?_⟩
      · rw [e, if_neg z]; exact i1 (fun a a1 a2 => H a (by omega) a2)
      · rw [e, if_neg z]
        have : ¬ a = j := fun q => z (by rw [← q]; exact a3)
        exact i2 ⟨a, by omega, a2, a3⟩
end YCL
