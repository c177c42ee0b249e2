/-! The coder: rungs: what they mean; the class. -/
/-- a cell of a rung: its kind, its value, the cell it sees or writes, its own cell; linked to the row below; its nodes -/
abbrev yT : Type := Nat × Nat × Nat × Nat × Bool × Nat × Nat
/-- the least row of a group -/
def yu_ls (q : Nat → Nat → yT) : Nat → Nat → Nat
  | 0, _ => 0
  | r + 1, c => if (q r c).2.2.2.2.1 = true then yu_ls q r c else r + 1
/-- how many rows a group has, from its row r on, if k rows are behind it -/
def yu_le (q : Nat → Nat → yT) (c : Nat) : Nat → Nat → Nat
  | 0, _ => 1
  | k + 1, r => if (q r c).2.2.2.2.1 = true then 1 + yu_le q c k (r + 1) else 1
def yu_pw (pw : Nat) (q : Nat → Nat → yT) (r c : Nat) : Nat := pw + 12 * c + yu_ls q r c
def yu_ct (t : yT) : List yI := if t.1 = 25 then (if t.2.1 = 0 then [(1, nI t.2.2.1, 0, 0), (7, 10, 0, 0)] else if t.2.1 = 1 then [(1, nI t.2.2.1, 0, 0), (8, 2, 0, 0), (7, 10, 0, 0)] else if t.2.1 = 2 then [(1, nI t.2.2.1, 0, 0), (1, nI t.2.2.2.1, 0, 0), (8, 2, 0, 0), (7, 10, 0, 0), (7, 10, 0, 0), (1, nI t.2.2.1, 0, 0), (2, nI t.2.2.2.1, 0, 0)] else [(1, nI t.2.2.2.1, 0, 0), (1, nI t.2.2.1, 0, 0), (8, 2, 0, 0), (7, 10, 0, 0), (7, 10, 0, 0), (1, nI t.2.2.1, 0, 0), (2, nI t.2.2.2.1, 0, 0)]) else []
def yu_wy (pw : Nat) (q : Nat → Nat → yT) (r c : Nat) : List yI := (if c = 0 then [(0, 1, 0, 0)] else [(1, nI (yu_pw pw q r (c - 1)), 0, 0)]) ++ yu_ct (q r c)
/-- the ways of a group, k rows from r on, w ways before -/
def yu_gr (pw : Nat) (q : Nat → Nat → yT) (c : Nat) : Nat → Nat → Nat → List yI
  | 0, _, w => if w = 0 then [(0, 0, 0, 0)] else []
  | k + 1, r, w => if (q r c).1 = 27 then yu_gr pw q c k (r + 1) w else yu_wy pw q r c ++ ((if w = 0 then [] else [(7, 11, 0, 0)]) ++ yu_gr pw q c k (r + 1) (w + 1))
def yu_gp (pw : Nat) (q : Nat → Nat → yT) (n c r : Nat) : List yI := yu_gr pw q c (yu_le q c (n - 1 - r) r) r 0 ++ [(2, nI (yu_pw pw q r c), 0, 0)]
/-- the groups of a column, the last k rows -/
def yu_co (pw : Nat) (q : Nat → Nat → yT) (n c : Nat) : Nat → List yI
  | 0 => []
  | k + 1 => (if yu_ls q (n - (k + 1)) c = n - (k + 1) ∧ ¬ (q (n - (k + 1)) c).1 = 28 then yu_gp pw q n c (n - (k + 1)) else []) ++ yu_co pw q n c k
/-- the last k columns -/
def yu_cs (pw : Nat) (q : Nat → Nat → yT) (n m : Nat) : Nat → List yI
  | 0 => []
  | k + 1 => yu_co pw q n (m - (k + 1)) n ++ yu_cs pw q n m k
def yu_cc (pw : Nat) (q : Nat → Nat → yT) (m r : Nat) (t : yT) : List yI := (if t.2.1 < 2 then [] else [(1, nI t.2.2.1, 0, 0)]) ++ ((if m = 1 then [(0, 1, 0, 0)] else [(1, nI (yu_pw pw q r (m - 2)), 0, 0)]) ++ ((if t.2.1 = 1 ∨ t.2.1 = 3 then [(8, 2, 0, 0)] else []) ++ ((if t.2.1 < 2 then [] else if t.2.1 = 2 then [(7, 11, 0, 0)] else [(7, 10, 0, 0)]) ++ [(2, nI t.2.2.1, 0, 0)])))
/-- the coils, the last k rows -/
def yu_cl (pw : Nat) (q : Nat → Nat → yT) (n m : Nat) : Nat → List yI
  | 0 => []
  | k + 1 => (if (q (n - (k + 1)) (m - 1)).1 = 28 then yu_cc pw q m (n - (k + 1)) (q (n - (k + 1)) (m - 1)) else []) ++ yu_cl pw q n m k
def yu_rg (pw : Nat) (q : Nat → Nat → yT) (n m : Nat) : List yI := yu_cs pw q n m m ++ yu_cl pw q n m n
theorem yu_lsl (q : Nat → Nat → yT) (c : Nat) : ∀ r, yu_ls q r c ≤ r := by
  intro r
  induction r with
  | zero => exact Nat.le_refl _
  | succ r ih =>
    show (if (q r c).2.2.2.2.1 = true then yu_ls q r c else r + 1) ≤ r + 1
    split <;> omega
/-- the class has laid its grid -/
def yu_S (pw n m : Nat) (q : Nat → Nat → yT) (h : zs_H) : Prop := ((h.1 47 10) = nI n ∧ (h.1 47 11) = nI m ∧ (h.1 47 5) = nI pw) ∧ (1 ≤ n ∧ n ≤ 12 ∧ 1 ≤ m ∧ m ≤ 12 ∧ pw < 100000) ∧ ∀ r c, r < n → c < m → (h.2.1 48) (r * 12 + c) = nI (q r c).2.2.2.2.2.1 ∧ (h.2.1 50) (r * 12 + c) = (if (q r c).2.2.2.2.1 = true then 1 else 0) ∧ ((q r c).1 = 25 → 2 ≤ (q r c).2.1 → (h.2.1 49) (r * 12 + c) = nI (q r c).2.2.2.1)
/-- a cell's node in the class -/
def yu_N (h0 : zs_H) (t : yT) : Prop := (t.1 < 100 ∧ t.2.1 < 4 ∧ t.2.2.2.2.2.1 < 32784 ∧ (h0.2.1 13) t.2.2.2.2.2.1 = nI t.1) ∧ (t.1 = 25 → (h0.2.1 16) t.2.2.2.2.2.1 = nI t.2.1 ∧ f_Cr_cellOf h0 ((h0.2.1 17) t.2.2.2.2.2.1) = some (nI t.2.2.1)) ∧ (t.1 = 28 → (h0.2.1 16) t.2.2.2.2.2.1 = nI t.2.1 ∧ ∃ a w, (h0.2.1 17) t.2.2.2.2.2.1 = nI a ∧ a < 32784 ∧ (h0.2.1 16) a = nI w ∧ w < 6000 ∧ (h0.2.1 32) w = nI t.2.2.1)
section YLC
variable {pw n m : Nat} {q : Nat → Nat → yT} {h0 h h' : zs_H}
theorem yu_Sf {k : Nat} {L : List yI} (S : yu_S pw n m q h) (E : yC_E k L h h') : yu_S pw n m q h' := by
  obtain ⟨⟨s1, s2, s3⟩, s4, s5⟩ := S
  refine ⟨⟨(E.2.1.1 _ _ (by decide)).trans s1, (E.2.1.1 _ _ (by decide)).trans s2, (E.2.1.1 _ _ (by decide)).trans s3⟩, s4, fun r c hr hc => ?_⟩
  rw [E.2.1.2.1 _ (by decide), E.2.1.2.1 _ (by decide), E.2.1.2.1 _ (by decide)]
  exact s5 r c hr hc
theorem yu_pC {N : Nat} (S : yu_S pw n m q h) {c : Nat} (hc : c < m) : ∀ r, r < n → r < N → f_Cr_power_L2 h N (nI c) (nI r) = some (nI (yu_pw pw q r c)) := by
  obtain ⟨⟨s1, s2, s3⟩, ⟨_, s4, _, s5, s6⟩, s7⟩ := S
  have e28 : ∀ r, r < n → f_Cr_power_28 h (nI c) (nI r) = some (nI (pw + 12 * c + r)) := by
    intro r hr
    unfold f_Cr_power_28
    rw [s3, zc_ml, nI_add, nI_add]
  intro r
  induction r generalizing N with
  | zero =>
    intro hr hN
    obtain ⟨N, rfl⟩ : ∃ z, N = z + 1 := ⟨N - 1, by omega⟩
    show f_Cr_power_2 h (f_Cr_power_L2 h N) (nI c) (nI 0) = _
    unfold f_Cr_power_2
    rw [if_pos (by decide), e28 0 hr]; rfl
  | succ r ih =>
    intro hr hN
    obtain ⟨N, rfl⟩ : ∃ z, N = z + 1 := ⟨N - 1, by omega⟩
    show f_Cr_power_2 h (f_Cr_power_L2 h N) (nI c) (nI (r + 1)) = _
    unfold f_Cr_power_2
    rw [if_neg (mt (zc_el (k := 0) (by decide) (by omega)).mp (by omega)), show nI (r + 1) - 1 = nI r from zi_sub (b := 1) (by omega), show nI r * 12 + nI c = nI (r * 12 + c) by rw [show (12 : Int32) = nI 12 from rfl, zi_mul, nI_add], if_pos (zi_in (by omega) (by omega)), nI_clamp (show r * 12 + c < 2147483648 by omega), (s7 r c (by omega) hc).2.1, zi_dec (by omega)]
    show (if (if (q r c).2.2.2.2.1 = true then (1 : Int32) else 0) = 0 then f_Cr_power_28 h (nI c) (nI (r + 1)) else f_Cr_power_L2 h N (nI c) (nI (r + 1 - 1))) = _
    have el : yu_pw pw q (r + 1) c = pw + 12 * c + (if (q r c).2.2.2.2.1 = true then yu_ls q r c else r + 1) := rfl
    rw [el]
    by_cases z : (q r c).2.2.2.2.1 = true
    · rw [if_pos z, if_neg (by decide), if_pos z]
      exact ih (by omega) (by omega)
    · rw [if_neg z, if_pos rfl, if_neg z, e28 _ hr]
theorem yu_p (S : yu_S pw n m q h) {r c : Nat} (hr : r < n) (hc : c < m) : f_Cr_power h (nI r) (nI c) = some (nI (yu_pw pw q r c)) := by
  have hz := zF_big
  have := S.2.1.2.1
  exact yu_pC S hc r hr (by omega)
/-- the last row of a group -/
theorem yu_l (S : yu_S pw n m q h) {c : Nat} (hc : c < m) : ∀ (k r N : Nat), r + k + 1 = n → k < N → f_Cr_lastOfGroup_L2 h N (nI c) (nI r) = some (nI (r + yu_le q c k r - 1)) := by
  obtain ⟨⟨s1, s2, s3⟩, ⟨_, s4, _, s5, s6⟩, s7⟩ := S
  intro k
  induction k with
  | zero =>
    intro r N hr hN
    obtain ⟨N, rfl⟩ : ∃ z, N = z + 1 := ⟨N - 1, by omega⟩
    show f_Cr_lastOfGroup_2 h (f_Cr_lastOfGroup_L2 h N) (nI c) (nI r) = _
    unfold f_Cr_lastOfGroup_2
    rw [s1, show nI n - 1 = nI (n - 1) from zi_sub (b := 1) (by omega), if_pos ((nI_leI (by omega) (by omega)).mpr (by omega))]
    exact congrArg some (congrArg nI (show r = r + 1 - 1 by omega))
  | succ k ih =>
    intro r N hr hN
    obtain ⟨N, rfl⟩ : ∃ z, N = z + 1 := ⟨N - 1, by omega⟩
    show f_Cr_lastOfGroup_2 h (f_Cr_lastOfGroup_L2 h N) (nI c) (nI r) = _
    unfold f_Cr_lastOfGroup_2
    rw [s1, show nI n - 1 = nI (n - 1) from zi_sub (b := 1) (by omega), if_neg (mt (nI_leI (by omega) (by omega)).mp (by omega)), show nI r * 12 + nI c = nI (r * 12 + c) by rw [show (12 : Int32) = nI 12 from rfl, zi_mul, nI_add], if_pos (zi_in (by omega) (by omega)), nI_clamp (show r * 12 + c < 2147483648 by omega), (s7 r c (by omega) hc).2.1, nI_1]
    have el : yu_le q c (k + 1) r = if (q r c).2.2.2.2.1 = true then 1 + yu_le q c k (r + 1) else 1 := rfl
    rw [el]
    by_cases z : (q r c).2.2.2.2.1 = true
    · rw [if_pos z, if_neg (by decide), if_pos z, ih (r + 1) N (by omega) (by omega)]
      exact congrArg some (congrArg nI (by omega))
    · rw [if_neg z, if_pos rfl, if_neg z]
      exact congrArg some (congrArg nI (show r = r + 1 - 1 by omega))
end YLC
