/-! The coder: the rows of a rung; how the model finds their cells. -/
def yu_fl : zt_T → Bool
  | .leaf => false
  | .inner kd _ _ _ _ => decide (kd = 29)
/-- the cells of a row -/
def yu_R (h0 g0 : zs_H) : zt_T → Int32 → Int32 → Nat → List yT → Prop
  | .leaf, x, x', _, cs => x = -1 ∧ x' = -1 ∧ cs = []
  | .inner kd _ _ _ r, x, x', ow, cs => ∃ (i k : Nat), (i < 32784 ∧ x = nI i ∧ (h0.2.1 13) i = nI kd) ∧ (k < 33500 ∧ x' = nI k ∧ (g0.2.1 72) k = nI kd) ∧ kd < 100 ∧ (if kd = 29 then yu_R h0 g0 r ((h0.2.1 18) i) ((g0.2.1 78) k) ow cs else ∃ (v S E : Nat) (cs' : List yT), cs = (kd, v, S, E, yu_fl r, i, k) :: cs' ∧ (yu_N h0 (kd, v, S, E, yu_fl r, i, k) ∧ yu_O g0 (kd, v, S, E, yu_fl r, i, k)) ∧ (kd = 25 → 2 ≤ v → E = ow) ∧ yu_R h0 g0 r ((h0.2.1 18) i) ((g0.2.1 78) k) (ow + (if kd = 25 ∧ 2 ≤ v then 1 else 0)) cs')
/-- is the cell col linked, if cnt cells are before -/
def yu_lb (col : Nat) : Nat → zt_T → Bool
  | _, .leaf => false
  | cnt, .inner kd _ _ _ r => if kd = 29 then (if cnt = col then true else yu_lb col cnt r) else yu_lb col (cnt + 1) r
theorem yu_lb0 {col : Nat} : ∀ (l : zt_T) (cnt : Nat), col < cnt → yu_lb col cnt l = false := by
  intro l
  induction l with
  | leaf => intro cnt _; rfl
  | inner kd kv o lc r _ ihr =>
    intro cnt h
    show (if kd = 29 then (if cnt = col then true else yu_lb col cnt r) else yu_lb col (cnt + 1) r) = false
    split
    · rw [if_neg (by omega)]; exact ihr cnt h
    · exact ihr (cnt + 1) (by omega)
theorem yu_lb1 {col : Nat} (l : zt_T) : yu_lb col col l = yu_fl l := by
  cases l with
  | leaf => rfl
  | inner kd kv o lc r =>
    show (if kd = 29 then (if col = col then true else yu_lb col col r) else yu_lb col (col + 1) r) = decide (kd = 29)
    by_cases z : kd = 29
    · rw [if_pos z, if_pos rfl, decide_eq_true z]
    · rw [if_neg z, decide_eq_false z]; exact yu_lb0 r _ (by omega)
section YUI
variable {h0 g0 : zs_H}
theorem yu_Rl : ∀ (l : zt_T) (x x' : Int32) (ow : Nat) (cs : List yT), yu_R h0 g0 l x x' ow cs → cs.length = yl_n l ∧ ∀ t, t ∈ cs → yu_N h0 t ∧ yu_O g0 t := by
  intro l
  induction l with
  | leaf => intro x x' ow cs ⟨_, _, e⟩; rw [e]; exact ⟨rfl, fun t ht => (by cases ht)⟩
  | inner kd kv o lc r _ ihr =>
    intro x x' ow cs ⟨i, k, _, _, _, H⟩
    show cs.length = (if kd = 29 then 0 else 1) + yl_n r ∧ _
    by_cases z : kd = 29
    · rw [if_pos z] at H ⊢
      obtain ⟨a1, a2⟩ := ihr _ _ _ _ H
      exact ⟨by omega, a2⟩
    · rw [if_neg z] at H ⊢
      obtain ⟨v, S, E, cs', e, NO, _, R⟩ := H
      obtain ⟨a1, a2⟩ := ihr _ _ _ _ R
      rw [e]
      refine ⟨by show cs'.length + 1 = _; omega, fun t ht => ?_⟩
      rcases List.mem_cons.mp ht with q | q
      · rw [q]; exact NO
      · exact a2 t q
theorem yu_lbR : ∀ (l : zt_T) (x x' : Int32) (ow : Nat) (cs : List yT) (cnt j : Nat) (t : yT), yu_R h0 g0 l x x' ow cs → cs[j]? = some t → yu_lb (cnt + 1 + j) cnt l = t.2.2.2.2.1 := by
  intro l
  induction l with
  | leaf => intro x x' ow cs cnt j t ⟨_, _, e⟩ h; rw [e] at h; cases h
  | inner kd kv o lc r _ ihr =>
    intro x x' ow cs cnt j t ⟨i, k, _, _, _, H⟩ h
    show (if kd = 29 then (if cnt = cnt + 1 + j then true else yu_lb (cnt + 1 + j) cnt r) else yu_lb (cnt + 1 + j) (cnt + 1) r) = _
    by_cases z : kd = 29
    · rw [if_pos z] at H ⊢
      rw [if_neg (by omega)]
      exact ihr _ _ _ _ cnt j t H h
    · rw [if_neg z] at H ⊢
      obtain ⟨v, S, E, cs', e, _, _, R⟩ := H
      rw [e] at h
      cases j with
      | zero =>
        have h' : some ((kd, v, S, E, yu_fl r, i, k) : yT) = some t := h
        cases h'
        exact yu_lb1 r
      | succ j =>
        have := ihr _ _ _ _ (cnt + 1) j t R h
        rw [show cnt + 1 + 1 + j = cnt + 1 + (j + 1) by omega] at this
        exact this
theorem yu_liM {col : Nat} (hcol : col < 1000) : ∀ (l : zt_T) (x x' : Int32) (ow : Nat) (cs : List yT) (cnt N : Nat), yu_R h0 g0 l x x' ow cs → cnt + zt_ln l < 100000000 → zt_ln l < N → f_Mo_isLinked_L10 g0 N (nI col) (nI cnt) x' = some (if yu_lb col cnt l = true then 1 else 0) := by
  intro l
  induction l with
  | leaf =>
    intro x x' ow cs cnt N ⟨_, e, _⟩ _ hN
    obtain ⟨N, rfl⟩ : ∃ z, N = z + 1 := ⟨N - 1, by omega⟩
    show f_Mo_isLinked_10 g0 (f_Mo_isLinked_L10 g0 N) (nI col) (nI cnt) x' = _
    unfold f_Mo_isLinked_10
    rw [e, if_pos (by decide)]; rfl
  | inner kd kv o lc r _ ihr =>
    intro x x' ow cs cnt N ⟨i, k, _, ⟨k1, k2, k3⟩, hkd, H⟩ hc hN
    have hl : zt_ln (.inner kd kv o lc r) = 1 + zt_ln r := rfl
    obtain ⟨N, rfl⟩ : ∃ z, N = z + 1 := ⟨N - 1, by omega⟩
    show f_Mo_isLinked_10 g0 (f_Mo_isLinked_L10 g0 N) (nI col) (nI cnt) x' = some (if (if kd = 29 then (if cnt = col then true else yu_lb col cnt r) else yu_lb col (cnt + 1) r) = true then 1 else 0)
    unfold f_Mo_isLinked_10 f_Mo_isLinked_34 f_Mo_isLinked_52
    rw [k2, if_neg (nI_pos (by omega))]
    simp only [if_pos (zi_in (show k < 2147483648 by omega) k1), nI_clamp (show k < 2147483648 by omega), k3]
    by_cases z : kd = 29
    · rw [if_pos z] at H ⊢
      rw [if_pos (show nI kd = 29 by rw [z]; rfl), if_pos (show nI kd = 29 by rw [z]; rfl)]
      by_cases zc : cnt = col
      · rw [if_pos (by rw [zc]), if_pos zc]; rfl
      · rw [if_neg (fun e => zc ((nI_eq (by omega) (by omega)).mp e)), if_neg zc, Int32.add_zero]
        exact ihr _ _ _ _ cnt N H (by omega) (by omega)
    · rw [if_neg z] at H ⊢
      obtain ⟨v, S, E, cs', e, _, _, R⟩ := H
      have z' : ¬ nI kd = 29 := fun e => z ((zc_eq (k := 29) (by decide) (by omega)).mp e)
      rw [if_neg z', if_neg z', nI_1]
      exact ihr _ _ _ _ (cnt + 1) N R (by omega) (by omega)
theorem yu_ceM : ∀ (l : zt_T) (x x' : Int32) (ow : Nat) (cs : List yT) (j N : Nat) (t : yT), yu_R h0 g0 l x x' ow cs → cs[j]? = some t → j < 1000 → zt_ln l < N → f_Mo_cellOf_L10 g0 N (nI j) x' = some (nI t.2.2.2.2.2.2) := by
  intro l
  induction l with
  | leaf => intro x x' ow cs j N t ⟨_, _, e⟩ h _ _; rw [e] at h; cases h
  | inner kd kv o lc r _ ihr =>
    intro x x' ow cs j N t ⟨i, k, _, ⟨k1, k2, k3⟩, hkd, H⟩ h hj hN
    have hl : zt_ln (.inner kd kv o lc r) = 1 + zt_ln r := rfl
    obtain ⟨N, rfl⟩ : ∃ z, N = z + 1 := ⟨N - 1, by omega⟩
    show f_Mo_cellOf_10 g0 (f_Mo_cellOf_L10 g0 N) (nI j) x' = _
    unfold f_Mo_cellOf_10 f_Mo_cellOf_26 f_Mo_cellOf_44
    rw [k2]
    simp only [if_pos (zi_in (show k < 2147483648 by omega) k1), nI_clamp (show k < 2147483648 by omega), k3]
    by_cases z : kd = 29
    · rw [if_pos z] at H
      rw [if_pos (show nI kd = 29 by rw [z]; rfl), if_pos (show nI kd = 29 by rw [z]; rfl), Int32.sub_zero]
      exact ihr _ _ _ _ j N t H h hj (by omega)
    · rw [if_neg z] at H
      obtain ⟨v, S, E, cs', e, _, _, R⟩ := H
      have z' : ¬ nI kd = 29 := fun e => z ((zc_eq (k := 29) (by decide) (by omega)).mp e)
      rw [if_neg z', if_neg z']
      rw [e] at h
      cases j with
      | zero =>
        have h' : some ((kd, v, S, E, yu_fl r, i, k) : yT) = some t := h
        cases h'
        rw [if_pos (by decide)]
      | succ j =>
        rw [if_neg (mt (zc_el (k := 0) (by decide) (by omega)).mp (by omega)), show nI (j + 1) - 1 = nI j from zi_sub (b := 1) (by omega)]
        exact ihr _ _ _ _ j N t R h (by omega) (by omega)
end YUI
