section
/-! The coder: rungs, the model's code. -/
/-- a rung in the model: node k, its rows' nodes -/
def yu_Z (g0 : zs_H) (k n m : Nat) (rk : Nat → Nat) (q : Nat → Nat → yT) : Prop := (k < 33500 ∧ 1 ≤ n ∧ n ≤ 12 ∧ 1 ≤ m ∧ m ≤ 12) ∧ (∀ r, r < n → f_Mo_rowOf g0 (nI k) (nI r) = some (nI (rk r)) ∧ rk r < 33500) ∧ (∃ x, f_Mo_rowOf g0 (nI k) (nI n) = some x ∧ x < 0) ∧ ∀ r c, r < n → c < m → f_Mo_cellOf g0 (nI (rk r)) (nI c) = some (nI (q r c).2.2.2.2.2.2) ∧ f_Mo_isLinked g0 (nI (rk r)) (nI (c + 1)) = some (if (q r c).2.2.2.2.1 = true then 1 else 0)
/-- a cell's node in the model -/
def yu_O (g0 : zs_H) (t : yT) : Prop := (t.1 < 100 ∧ t.2.1 < 4 ∧ t.2.2.2.2.2.2 < 33500 ∧ (g0.2.1 72) t.2.2.2.2.2.2 = nI t.1) ∧ (t.1 = 25 ∨ t.1 = 28 → (g0.2.1 74) t.2.2.2.2.2.2 = nI t.2.1 ∧ ∃ a, (g0.2.1 76) t.2.2.2.2.2.2 = nI a ∧ a < 33500 ∧ (g0.2.1 101) a = nI t.2.2.1) ∧ (t.1 = 25 → 2 ≤ t.2.1 → (g0.2.1 101) t.2.2.2.2.2.2 = nI t.2.2.2.1)
section YUF
variable {pw n m k b : Nat} {rk : Nat → Nat} {q : Nat → Nat → yT} {g0 g g' : zs_H}
theorem yu_fr (f : yM_f g0 g) : f_Mo_rowOf g = f_Mo_rowOf g0 ∧ f_Mo_cellOf g = f_Mo_cellOf g0 ∧ f_Mo_isLinked g = f_Mo_isLinked g0 := by
  have e : ∀ a, ¬ a ∈ yM_M → g.2.1 a = g0.2.1 a := fun a ha => f.2.1 a ha
  have r10 : f_Mo_rowOf_10 g = f_Mo_rowOf_10 g0 := by
    funext k10 x2 x3 x4
    unfold f_Mo_rowOf_10
    rw [e 78 (by decide)]
  have rL : f_Mo_rowOf_L10 g = f_Mo_rowOf_L10 g0 := by
    unfold f_Mo_rowOf_L10; rw [r10]
  have c44 : f_Mo_cellOf_44 g = f_Mo_cellOf_44 g0 := by
    funext k10 x4 y0 y1
    unfold f_Mo_cellOf_44
    rw [e 78 (by decide)]
  have c26 : f_Mo_cellOf_26 g = f_Mo_cellOf_26 g0 := by
    funext k10 x3 x4
    unfold f_Mo_cellOf_26
    rw [c44, e 72 (by decide)]
  have c10 : f_Mo_cellOf_10 g = f_Mo_cellOf_10 g0 := by
    funext k10 x3 x4
    unfold f_Mo_cellOf_10
    rw [c26, e 72 (by decide)]
  have cL : f_Mo_cellOf_L10 g = f_Mo_cellOf_L10 g0 := by
    unfold f_Mo_cellOf_L10; rw [c10]
  have i52 : f_Mo_isLinked_52 g = f_Mo_isLinked_52 g0 := by
    funext k10 x2 x4 y0 y1
    unfold f_Mo_isLinked_52
    rw [e 78 (by decide)]
  have i34 : f_Mo_isLinked_34 g = f_Mo_isLinked_34 g0 := by
    funext k10 x2 x3 x4
    unfold f_Mo_isLinked_34
    rw [i52, e 72 (by decide)]
  have i10 : f_Mo_isLinked_10 g = f_Mo_isLinked_10 g0 := by
    funext k10 x2 x3 x4
    unfold f_Mo_isLinked_10
    rw [i34, e 72 (by decide)]
  have iL : f_Mo_isLinked_L10 g = f_Mo_isLinked_L10 g0 := by
    unfold f_Mo_isLinked_L10; rw [i10]
  refine ⟨?_, ?_, ?_⟩
  · funext x1 x2
    unfold f_Mo_rowOf
    rw [rL, e 76 (by decide)]
  · funext x1 x2
    unfold f_Mo_cellOf
    rw [cL, e 76 (by decide)]
  · funext x1 x2
    unfold f_Mo_isLinked
    rw [iL, e 76 (by decide)]
theorem yu_lM {N : Nat} (f : yM_f g0 g) (Z : yu_Z g0 k n m rk q) {c : Nat} (hc : c < m) : ∀ r, r < n → r < N → f_Mo_leastRow_L3 g N (nI k) (nI (c + 1)) (nI r) = some (nI (yu_ls q r c)) := by
  obtain ⟨z1, z2, z3, z4⟩ := Z
  obtain ⟨e1, e2, e3⟩ := yu_fr f
  intro r
  induction r generalizing N with
  | zero =>
    intro hr hN
    obtain ⟨N, rfl⟩ : ∃ z, N = z + 1 := ⟨N - 1, by omega⟩
    show f_Mo_leastRow_3 g (f_Mo_leastRow_L3 g N) (nI k) (nI (c + 1)) (nI 0) = _
    unfold f_Mo_leastRow_3
    rw [if_pos (by decide)]; rfl
  | succ r ih =>
    intro hr hN
    obtain ⟨N, rfl⟩ : ∃ z, N = z + 1 := ⟨N - 1, by omega⟩
    show f_Mo_leastRow_3 g (f_Mo_leastRow_L3 g N) (nI k) (nI (c + 1)) (nI (r + 1)) = _
    unfold f_Mo_leastRow_3
    rw [if_neg (mt (zc_el (k := 0) (by decide) (by omega)).mp (by omega)), show nI (r + 1) - 1 = nI r from zi_sub (b := 1) (by omega), e1, (z2 r (by omega)).1, Option.bind_some, e3, (z4 r c (by omega) hc).2, Option.bind_some, zi_dec (by omega)]
    show (if (if (q r c).2.2.2.2.1 = true then (1 : Int32) else 0) = 0 then some (nI (r + 1)) else f_Mo_leastRow_L3 g N (nI k) (nI (c + 1)) (nI (r + 1 - 1))) = some (nI (if (q r c).2.2.2.2.1 = true then yu_ls q r c else r + 1))
    by_cases z : (q r c).2.2.2.2.1 = true
    · rw [if_pos z, if_neg (by decide), if_pos z]
      exact ih (by omega) (by omega)
    · rw [if_neg z, if_pos rfl, if_neg z]
theorem yu_lr (f : yM_f g0 g) (Z : yu_Z g0 k n m rk q) {r c : Nat} (hr : r < n) (hc : c < m) : f_Mo_leastRow g (nI k) (nI r) (nI (c + 1)) = some (nI (yu_ls q r c)) := by
  have hz := zF_big
  have := Z.1.2.2.1
  exact yu_lM f Z hc r hr (by omega)
theorem yu_pcM {kk s v : Nat} (f : yM_f g0 g) (C : yM_c g kk s b v) (Z : yu_Z g0 k n m rk q) (ex : (g0.2.1 88) b = nI (pw + 156)) {r c : Nat} (hr : r < n) (hc : c < m) : f_Mo_powerCell g (nI k) (nI r) (nI (c + 1)) = some (nI (yu_pw pw q r c)) := by
  unfold f_Mo_powerCell
  rw [C.2.1.1, if_pos (zi_in (by have := C.2.1.2.1; omega) (by have := C.2.1.2.1; omega)), nI_clamp (by have := C.2.1.2.1; omega), yu_lr f Z hr hc, Option.bind_some, f.2.1 88 (by decide), ex, show nI (pw + 156) - 156 = nI pw by rw [show (156 : Int32) = nI 156 from rfl, zi_sub (by omega), Nat.add_sub_cancel], show nI (c + 1) - 1 = nI c from zi_sub (b := 1) (by omega), zc_ml, nI_add, nI_add]
  rfl
/-- a contact -/
theorem yu_ctM {kk s v : Nat} {t : yT} (f : yM_f g0 g) (C : yM_c g kk s b v) (O : yu_O g0 t) (h25 : t.1 = 25) (hk : kk + 7 ≤ 90000000) : ∃ g', f_Mo_contactCode g (nI t.2.2.2.2.2.2) = some g' ∧ yM_E s kk (yv v (yu_ct t)) g g' := by
  obtain ⟨⟨n1, n2, n3, n4⟩, n5, n6⟩ := O
  obtain ⟨m1, a, a1, a2, a3⟩ := n5 (.inl h25)
  have f' : ∀ a, ¬ a ∈ yM_M → g.2.1 a = g0.2.1 a := fun a ha => f.2.1 a ha
  -- behind the cells that are seen
  have e107 : ∀ (g1 : zs_H) (k1 : Nat) (ow : Int32), yM_c g1 k1 s b v → k1 + 3 ≤ 90000000 → ∃ g', f_Mo_contactCode_107 g1 (nI t.2.2.1) ow (nI t.2.1) = some g' ∧ yM_E s k1 (yv v ([(7, 10, 0, 0)] ++ (if t.2.1 ≤ 1 then [] else [(1, nI t.2.2.1, 0, 0), (2, ow, 0, 0)]))) g1 g' := by
    intro g1 k1 ow c1 hk1
    obtain ⟨g2, p1, p2⟩ := yM_e c1 (by omega) 7 10 0 0 (by decide)
    unfold f_Mo_contactCode_107
    by_cases z : t.2.1 ≤ 1
    · rw [if_pos z]
      refine ⟨g2, ?_, p2⟩
      refine (congrArg (fun z => zd_B z _) p1).trans ?_
      show (if nI t.2.1 ≤ 1 then some g2 else _) = _
      rw [if_pos ((zc_el (k := 1) (by decide) (by omega)).mpr z)]
    · rw [if_neg z]
      have c2 := yM_cL c1 p2
      obtain ⟨g3, q1, q2⟩ := yM_e c2 (by show k1 + 1 < _; omega) 1 (nI t.2.2.1) 0 0 (by decide)
      have c3 := yM_cL c2 q2
      obtain ⟨g4, r1, r2⟩ := yM_e c3 (by show k1 + 1 + 1 < _; omega) 2 ow 0 0 (by decide)
      refine ⟨g4, ?_, yM_aL p2 (yM_aL q2 r2)⟩
      refine (congrArg (fun z => zd_B z _) p1).trans ?_
      show (if nI t.2.1 ≤ 1 then some g2 else zd_B (f_Mo_emit g2 1 (nI t.2.2.1) 0 0) fun v6 h7 => zd_B (f_Mo_emit h7 2 ow 0 0) fun v9 h10 => some h10) = _
      rw [if_neg (mt (zc_el (k := 1) (by decide) (by omega)).mp z)]
      refine (congrArg (fun z => zd_B z _) q1).trans ?_
      exact (show zd_B (f_Mo_emit g3 2 ow 0 0) _ = _ from (congrArg (fun z => zd_B z _) r1).trans rfl)
  have e89 : ∀ (g1 : zs_H) (k1 : Nat) (ow : Int32), yM_c g1 k1 s b v → k1 + 4 ≤ 90000000 → ∃ g', f_Mo_contactCode_89 g1 (nI t.2.2.1) ow (nI t.2.1) = some g' ∧ yM_E s k1 (yv v ((if t.2.1 ≤ 1 then [] else [(7, 10, 0, 0)]) ++ ([(7, 10, 0, 0)] ++ (if t.2.1 ≤ 1 then [] else [(1, nI t.2.2.1, 0, 0), (2, ow, 0, 0)])))) g1 g' := by
    intro g1 k1 ow c1 hk1
    unfold f_Mo_contactCode_89
    by_cases z : t.2.1 ≤ 1
    · obtain ⟨g2, p1, p2⟩ := e107 g1 k1 ow c1 (by omega)
      rw [if_pos ((zc_el (k := 1) (by decide) (by omega)).mpr z), show (if t.2.1 ≤ 1 then ([] : List yI) else [(7, 10, 0, 0)]) = [] from if_pos z, List.nil_append]
      exact ⟨g2, p1, p2⟩
    · obtain ⟨g2, p1, p2⟩ := yM_e c1 (by omega) 7 10 0 0 (by decide)
      obtain ⟨g3, q1, q2⟩ := e107 g2 _ ow (yM_cL c1 p2) (by show k1 + 1 + 3 ≤ _; omega)
      rw [if_neg (mt (zc_el (k := 1) (by decide) (by omega)).mp z), show (if t.2.1 ≤ 1 then ([] : List yI) else [(7, 10, 0, 0)]) = [(7, 10, 0, 0)] from if_neg z]
      exact ⟨g3, (congrArg (fun z => zd_B z _) p1).trans q1, yM_aL p2 q2⟩
  have e73 : ∀ (g1 : zs_H) (k1 : Nat) (ow : Int32), yM_c g1 k1 s b v → k1 + 5 ≤ 90000000 → ∃ g', f_Mo_contactCode_73 g1 (nI t.2.2.1) ow (nI t.2.1) = some g' ∧ yM_E s k1 (yv v ((if t.2.1 = 0 then [] else [(8, 2, 0, 0)]) ++ ((if t.2.1 ≤ 1 then [] else [(7, 10, 0, 0)]) ++ ([(7, 10, 0, 0)] ++ (if t.2.1 ≤ 1 then [] else [(1, nI t.2.2.1, 0, 0), (2, ow, 0, 0)]))))) g1 g' := by
    intro g1 k1 ow c1 hk1
    unfold f_Mo_contactCode_73
    by_cases z : t.2.1 = 0
    · obtain ⟨g2, p1, p2⟩ := e89 g1 k1 ow c1 (by omega)
      rw [if_pos ((zc_el (k := 0) (by decide) (by omega)).mpr (by omega)), show (if t.2.1 = 0 then ([] : List yI) else [(8, 2, 0, 0)]) = [] from if_pos z, List.nil_append]
      exact ⟨g2, p1, p2⟩
    · obtain ⟨g2, p1, p2⟩ := yM_e c1 (by omega) 8 2 0 0 (by decide)
      obtain ⟨g3, q1, q2⟩ := e89 g2 _ ow (yM_cL c1 p2) (by show k1 + 1 + 4 ≤ _; omega)
      rw [if_neg (mt (zc_el (k := 0) (by decide) (by omega)).mp (by omega)), show (if t.2.1 = 0 then ([] : List yI) else [(8, 2, 0, 0)]) = [(8, 2, 0, 0)] from if_neg z]
      exact ⟨g3, (congrArg (fun z => zd_B z _) p1).trans q1, yM_aL p2 q2⟩
  have e40 : ∀ (ow y0 : Int32), (2 ≤ t.2.1 → ow = nI t.2.2.2.1) → ∃ g', f_Mo_contactCode_40 g (nI t.2.2.1) ow (nI t.2.1) y0 1 = some g' ∧ yM_E s kk (yv v ([(1, y0, 0, 0)] ++ ((if t.2.1 ≤ 1 then [] else if t.2.1 = 3 then [(1, nI t.2.2.1, 0, 0)] else [(1, ow, 0, 0)]) ++ ((if t.2.1 = 0 then [] else [(8, 2, 0, 0)]) ++ ((if t.2.1 ≤ 1 then [] else [(7, 10, 0, 0)]) ++ ([(7, 10, 0, 0)] ++ (if t.2.1 ≤ 1 then [] else [(1, nI t.2.2.1, 0, 0), (2, ow, 0, 0)]))))))) g g' := by
    intro ow y0 _
    obtain ⟨g1, p1, p2⟩ := yM_e C (by omega) 1 y0 0 0 (by decide)
    have c1 := yM_cL C p2
    have h2 : ∃ g', (if nI t.2.1 ≤ 1 then f_Mo_contactCode_73 g1 (nI t.2.2.1) ow (nI t.2.1) else (if nI t.2.1 = 3 then f_Mo_contactCode_66 g1 (nI t.2.2.1) ow (nI t.2.1) (nI t.2.2.1) 1 else f_Mo_contactCode_66 g1 (nI t.2.2.1) ow (nI t.2.1) ow 1)) = some g' ∧ yM_E s (kk + 1) (yv v ((if t.2.1 ≤ 1 then [] else if t.2.1 = 3 then [(1, nI t.2.2.1, 0, 0)] else [(1, ow, 0, 0)]) ++ ((if t.2.1 = 0 then [] else [(8, 2, 0, 0)]) ++ ((if t.2.1 ≤ 1 then [] else [(7, 10, 0, 0)]) ++ ([(7, 10, 0, 0)] ++ (if t.2.1 ≤ 1 then [] else [(1, nI t.2.2.1, 0, 0), (2, ow, 0, 0)])))))) g1 g' := by
      have e66 : ∀ y : Int32, ∃ g', f_Mo_contactCode_66 g1 (nI t.2.2.1) ow (nI t.2.1) y 1 = some g' ∧ yM_E s (kk + 1) (yv v ([(1, y, 0, 0)] ++ ((if t.2.1 = 0 then [] else [(8, 2, 0, 0)]) ++ ((if t.2.1 ≤ 1 then [] else [(7, 10, 0, 0)]) ++ ([(7, 10, 0, 0)] ++ (if t.2.1 ≤ 1 then [] else [(1, nI t.2.2.1, 0, 0), (2, ow, 0, 0)])))))) g1 g' := by
        intro y
        obtain ⟨g2, q1, q2⟩ := yM_e c1 (by show kk + 1 < _; omega) 1 y 0 0 (by decide)
        obtain ⟨g3, r1, r2⟩ := e73 g2 _ ow (yM_cL c1 q2) (by show kk + 1 + 1 + 5 ≤ _; omega)
        refine ⟨g3, ?_, yM_aL q2 r2⟩
        unfold f_Mo_contactCode_66
        exact (congrArg (fun z => zd_B z _) q1).trans r1
      by_cases z : t.2.1 ≤ 1
      · obtain ⟨g2, q1, q2⟩ := e73 g1 _ ow c1 (by show kk + 1 + 5 ≤ _; omega)
        rw [if_pos ((zc_el (k := 1) (by decide) (by omega)).mpr z)]
        refine ⟨g2, q1, ?_⟩
        rw [show (if t.2.1 ≤ 1 then ([] : List yI) else if t.2.1 = 3 then [(1, nI t.2.2.1, 0, 0)] else [(1, ow, 0, 0)]) = [] from if_pos z, List.nil_append]
        exact q2
      · rw [if_neg (mt (zc_el (k := 1) (by decide) (by omega)).mp z), show (if t.2.1 ≤ 1 then ([] : List yI) else if t.2.1 = 3 then [(1, nI t.2.2.1, 0, 0)] else [(1, ow, 0, 0)]) = if t.2.1 = 3 then [(1, nI t.2.2.1, 0, 0)] else [(1, ow, 0, 0)] from if_neg z]
        by_cases z3 : t.2.1 = 3
        · rw [if_pos (show nI t.2.1 = 3 by rw [z3]; rfl), if_pos z3]
          exact e66 _
        · rw [if_neg (show ¬ nI t.2.1 = 3 from fun e => z3 ((zc_eq (k := 3) (by decide) (by omega)).mp e)), if_neg z3]
          exact e66 _
    obtain ⟨g2, q1, q2⟩ := h2
    refine ⟨g2, ?_, yM_aL p2 q2⟩
    unfold f_Mo_contactCode_40
    exact (congrArg (fun z => zd_B z _) p1).trans q1
  have ec : f_Mo_contactCode g (nI t.2.2.2.2.2.2) = if nI t.2.1 = 3 then f_Mo_contactCode_40 g (nI t.2.2.1) ((g0.2.1 101) t.2.2.2.2.2.2) (nI t.2.1) ((g0.2.1 101) t.2.2.2.2.2.2) 1 else f_Mo_contactCode_40 g (nI t.2.2.1) ((g0.2.1 101) t.2.2.2.2.2.2) (nI t.2.1) (nI t.2.2.1) 1 := by
    unfold f_Mo_contactCode
    simp only [if_pos (zi_in (show t.2.2.2.2.2.2 < 2147483648 by omega) n3), nI_clamp (show t.2.2.2.2.2.2 < 2147483648 by omega), f' 76 (by decide), a1, if_pos (zi_in (show a < 2147483648 by omega) a2), nI_clamp (show a < 2147483648 by omega), f' 74 (by decide), m1, f' 101 (by decide), a3]
  rw [ec]
  have yc : yu_ct t = if t.2.1 = 0 then [(1, nI t.2.2.1, 0, 0), (7, 10, 0, 0)] else if t.2.1 = 1 then [(1, nI t.2.2.1, 0, 0), (8, 2, 0, 0), (7, 10, 0, 0)] else if t.2.1 = 2 then [(1, nI t.2.2.1, 0, 0), (1, nI t.2.2.2.1, 0, 0), (8, 2, 0, 0), (7, 10, 0, 0), (7, 10, 0, 0), (1, nI t.2.2.1, 0, 0), (2, nI t.2.2.2.1, 0, 0)] else [(1, nI t.2.2.2.1, 0, 0), (1, nI t.2.2.1, 0, 0), (8, 2, 0, 0), (7, 10, 0, 0), (7, 10, 0, 0), (1, nI t.2.2.1, 0, 0), (2, nI t.2.2.2.1, 0, 0)] := if_pos h25
  rw [yc]
  have hv : t.2.1 = 0 ∨ t.2.1 = 1 ∨ t.2.1 = 2 ∨ t.2.1 = 3 := by omega
  rcases hv with e | e | e | e
  · obtain ⟨g1, p1, p2⟩ := e40 ((g0.2.1 101) t.2.2.2.2.2.2) (nI t.2.2.1) (fun z => n6 h25 z)
    simp (config := { decide := true }) only [e, if_true, if_false, List.cons_append, List.nil_append] at p1 p2 ⊢
    exact ⟨g1, p1, p2⟩
  · obtain ⟨g1, p1, p2⟩ := e40 ((g0.2.1 101) t.2.2.2.2.2.2) (nI t.2.2.1) (fun z => n6 h25 z)
    simp (config := { decide := true }) only [e, if_true, if_false, List.cons_append, List.nil_append] at p1 p2 ⊢
    exact ⟨g1, p1, p2⟩
  · have ho := n6 h25 (by omega)
    rw [ho]
    obtain ⟨g1, p1, p2⟩ := e40 (nI t.2.2.2.1) (nI t.2.2.1) (fun _ => rfl)
    simp (config := { decide := true }) only [e, if_true, if_false, List.cons_append, List.nil_append] at p1 p2 ⊢
    exact ⟨g1, p1, p2⟩
  · have ho := n6 h25 (by omega)
    rw [ho]
    obtain ⟨g1, p1, p2⟩ := e40 (nI t.2.2.2.1) (nI t.2.2.2.1) (fun _ => rfl)
    simp (config := { decide := true }) only [e, if_true, if_false, List.cons_append, List.nil_append] at p1 p2 ⊢
    exact ⟨g1, p1, p2⟩
end YUF
end
section
/-! The coder: rungs, the model's groups, coils and columns. -/
section YUG
variable {pw n m k b s v : Nat} {rk : Nat → Nat} {q : Nat → Nat → yT} {g0 g g' : zs_H}
theorem yu_grM {c fr : Nat} (Z : yu_Z g0 k n m rk q) (ex : (g0.2.1 88) b = nI (pw + 156)) (hc : c < m) (hf : fr < n) (hn : ∀ r, r < n → yu_O g0 (q r c)) : ∀ (j r w kk N : Nat) (g : zs_H), yM_f g0 g → yM_c g kk s b v → r + j ≤ n → (∀ i, r ≤ i → i < r + j → yu_ls q i c = fr) → (r + j < n → ¬ yu_ls q (r + j) c = fr) → kk + 9 * j + 2 ≤ 90000000 → j < N → w ≤ r → ∃ g', f_Mo_groupCode_L9 N g (nI k) (nI n) (nI fr) (nI (c + 1)) (nI w) (nI r) = some g' ∧ yM_E s kk (yv v (yu_gr pw q c j r w ++ [(2, nI (yu_pw pw q fr c), 0, 0)])) g g' := by
  have zn := Z.1
  intro j
  induction j with
  | zero =>
    intro r w kk N g f C hr _ hend hk hN hw
    obtain ⟨N, rfl⟩ : ∃ z, N = z + 1 := ⟨N - 1, by omega⟩
    have e153 : ∀ (g1 : zs_H) (k1 : Nat), yM_f g0 g1 → yM_c g1 k1 s b v → k1 < 90000000 → ∃ g', f_Mo_groupCode_153 g1 (nI k) (nI fr) (nI (c + 1)) = some g' ∧ yM_E s k1 (yv v [(2, nI (yu_pw pw q fr c), 0, 0)]) g1 g' := by
      intro g1 k1 f1 c1 hk1
      obtain ⟨g2, b1, b2⟩ := yM_e c1 (by omega) 2 (nI (yu_pw pw q fr c)) 0 0 (by decide)
      refine ⟨g2, ?_, b2⟩
      unfold f_Mo_groupCode_153
      rw [yu_pcM f1 c1 Z ex hf hc, Option.bind_some]
      exact (congrArg (fun z => zd_B z _) b1).trans rfl
    have e138 : ∃ g', f_Mo_groupCode_138 g (nI k) (nI fr) (nI (c + 1)) (nI w) = some g' ∧ yM_E s kk (yv v ((if w = 0 then [(0, 0, 0, 0)] else []) ++ [(2, nI (yu_pw pw q fr c), 0, 0)])) g g' := by
      unfold f_Mo_groupCode_138
      by_cases z : w = 0
      · obtain ⟨g1, a1, a2⟩ := yM_e C (by omega) 0 0 0 0 (by decide)
        obtain ⟨g2, b1, b2⟩ := e153 g1 _ (yM_fE f a2) (yM_cL C a2) (by show kk + 1 < _; omega)
        rw [if_pos (show nI w = 0 by rw [z]; rfl), if_pos z]
        exact ⟨g2, (congrArg (fun z => zd_B z _) a1).trans b1, yM_aL a2 b2⟩
      · obtain ⟨g2, b1, b2⟩ := e153 g kk f C (by omega)
        rw [if_neg (show ¬ nI w = 0 from fun e => z ((zc_eq (k := 0) (by decide) (by omega)).mp e)), if_neg z]
        exact ⟨g2, b1, b2⟩
    obtain ⟨g1, a1, a2⟩ := e138
    refine ⟨g1, ?_, a2⟩
    show f_Mo_groupCode_9 (f_Mo_groupCode_L9 N) g (nI k) (nI n) (nI fr) (nI (c + 1)) (nI w) (nI r) = _
    unfold f_Mo_groupCode_9
    by_cases z : n ≤ r
    · rw [if_pos ((nI_leI (by omega) (by omega)).mpr z)]
      exact a1
    · have hl := yu_lsl q c r
      rw [if_neg (mt (nI_leI (by omega) (by omega)).mp z), yu_lr f Z (by omega) hc, Option.bind_some, if_neg (show ¬ nI (yu_ls q r c) = nI fr from fun e => hend (by omega) (show yu_ls q r c = fr from (nI_eq (by omega) (by omega)).mp e))]
      exact a1
  | succ j ih =>
    intro r w kk N g f C hr hg hend hk hN hw
    obtain ⟨N, rfl⟩ : ∃ z, N = z + 1 := ⟨N - 1, by omega⟩
    obtain ⟨e1, e2, _⟩ := yu_fr f
    have hrn : r < n := by omega
    have Or := hn r hrn
    obtain ⟨o1, o2, o3, o4⟩ := Or.1
    have fin : ∀ g1 k1 w1, yM_f g0 g1 → yM_c g1 k1 s b v → k1 + 9 * j + 2 ≤ 90000000 → w1 ≤ r + 1 → ∃ g', f_Mo_groupCode_132 (f_Mo_groupCode_L9 N) g1 (nI k) (nI n) (nI fr) (nI (c + 1)) (nI w1) (nI r) = some g' ∧ yM_E s k1 (yv v (yu_gr pw q c j (r + 1) w1 ++ [(2, nI (yu_pw pw q fr c), 0, 0)])) g1 g' := by
      intro g1 k1 w1 f1 c1 hk1 hw1
      unfold f_Mo_groupCode_132
      rw [nI_1]
      exact ih (r + 1) w1 k1 N g1 f1 c1 (by omega) (fun i h1 h2 => hg i (by omega) (by omega)) (fun h => by rw [show r + 1 + j = r + (j + 1) by omega]; exact hend (by omega)) hk1 (by omega) hw1
    show ∃ g', f_Mo_groupCode_9 (f_Mo_groupCode_L9 N) g (nI k) (nI n) (nI fr) (nI (c + 1)) (nI w) (nI r) = some g' ∧ yM_E s kk (yv v ((if (q r c).1 = 27 then yu_gr pw q c j (r + 1) w else yu_wy pw q r c ++ ((if w = 0 then [] else [(7, 11, 0, 0)]) ++ yu_gr pw q c j (r + 1) (w + 1))) ++ [(2, nI (yu_pw pw q fr c), 0, 0)])) g g'
    unfold f_Mo_groupCode_9
    rw [if_neg (mt (nI_leI (by omega) (by omega)).mp (by omega)), yu_lr f Z hrn hc, Option.bind_some, if_pos (by rw [hg r (Nat.le_refl _) (by omega)]), e1, (Z.2.1 r hrn).1, Option.bind_some, show nI (c + 1) - 1 = nI c from zi_sub (b := 1) (by omega), e2, (Z.2.2.2 r c hrn hc).1, Option.bind_some, if_pos (zi_in (by omega) o3), nI_clamp (show (q r c).2.2.2.2.2.2 < 2147483648 by omega), f.2.1 72 (by decide), o4]
    by_cases z : (q r c).1 = 27
    · rw [if_pos (show nI (q r c).1 = 27 by rw [z]; rfl), if_pos z]
      exact fin g kk w f C (by omega) (by omega)
    · rw [if_neg (show ¬ nI (q r c).1 = 27 from fun e => z ((zc_eq (k := 27) (by decide) (by omega)).mp e)), if_neg z]
      have e129 : ∀ g1 k1, yM_f g0 g1 → yM_c g1 k1 s b v → k1 + 9 * j + 2 ≤ 90000000 → ∃ g', f_Mo_groupCode_129 (f_Mo_groupCode_L9 N) g1 (nI k) (nI n) (nI fr) (nI (c + 1)) (nI w) (nI r) = some g' ∧ yM_E s k1 (yv v (yu_gr pw q c j (r + 1) (w + 1) ++ [(2, nI (yu_pw pw q fr c), 0, 0)])) g1 g' := by
        intro g1 k1 f1 c1 hk1
        unfold f_Mo_groupCode_129
        rw [nI_1]
        exact fin g1 k1 (w + 1) f1 c1 hk1 (by omega)
      have e112 : ∀ g1 k1, yM_f g0 g1 → yM_c g1 k1 s b v → k1 + 1 + 9 * j + 2 ≤ 90000000 → ∃ g', f_Mo_groupCode_112 (f_Mo_groupCode_L9 N) g1 (nI k) (nI n) (nI fr) (nI (c + 1)) (nI w) (nI r) = some g' ∧ yM_E s k1 (yv v ((if w = 0 then [] else [(7, 11, 0, 0)]) ++ (yu_gr pw q c j (r + 1) (w + 1) ++ [(2, nI (yu_pw pw q fr c), 0, 0)]))) g1 g' := by
        intro g1 k1 f1 c1 hk1
        unfold f_Mo_groupCode_112
        by_cases zw : w = 0
        · rw [if_pos ((zc_el (k := 0) (by decide) (by omega)).mpr (by omega)), if_pos zw, List.nil_append]
          exact e129 g1 k1 f1 c1 (by omega)
        · rw [if_neg (mt (zc_el (k := 0) (by decide) (by omega)).mp (by omega)), if_neg zw]
          obtain ⟨g2, b1, b2⟩ := yM_e c1 (by omega) 7 11 0 0 (by decide)
          obtain ⟨g3, d1, d2⟩ := e129 g2 _ (yM_fE f1 b2) (yM_cL c1 b2) (by show k1 + 1 + 9 * j + 2 ≤ _; omega)
          exact ⟨g3, (congrArg (fun z => zd_B z _) b1).trans d1, yM_aL b2 d2⟩
      have e92 : ∀ g1 k1 y, yM_f g0 g1 → yM_c g1 k1 s b v → k1 + 8 + 9 * j + 2 ≤ 90000000 → ∃ g', f_Mo_groupCode_92 (f_Mo_groupCode_L9 N) g1 (nI k) (nI n) (nI fr) (nI (c + 1)) (nI w) (nI r) (nI (q r c).2.2.2.2.2.2) y = some g' ∧ yM_E s k1 (yv v (yu_ct (q r c) ++ ((if w = 0 then [] else [(7, 11, 0, 0)]) ++ (yu_gr pw q c j (r + 1) (w + 1) ++ [(2, nI (yu_pw pw q fr c), 0, 0)])))) g1 g' := by
        intro g1 k1 y f1 c1 hk1
        unfold f_Mo_groupCode_92
        rw [if_pos (zi_in (by omega) o3), nI_clamp (show (q r c).2.2.2.2.2.2 < 2147483648 by omega), f1.2.1 72 (by decide), o4]
        by_cases z5 : (q r c).1 = 25
        · rw [if_pos (show nI (q r c).1 = 25 by rw [z5]; rfl)]
          obtain ⟨g2, b1, b2⟩ := yu_ctM f1 c1 Or z5 (by omega)
          have l7 := yu_ctl (t := q r c)
          obtain ⟨g3, d1, d2⟩ := e112 g2 _ (yM_fE f1 b2) (yM_cL c1 b2) (by omega)
          exact ⟨g3, by rw [b1, Option.bind_some]; exact d1, yM_aL b2 d2⟩
        · rw [if_neg (show ¬ nI (q r c).1 = 25 from fun e => z5 ((zc_eq (k := 25) (by decide) (by omega)).mp e)), show yu_ct (q r c) = [] from if_neg z5, List.nil_append]
          exact e112 g1 k1 f1 c1 (by omega)
      rw [List.append_assoc, List.append_assoc]
      unfold yu_wy
      rw [List.append_assoc]
      by_cases z0 : c = 0
      · rw [if_pos (show nI (c + 1) = 1 by rw [z0]; rfl), if_pos z0]
        obtain ⟨g1, b1, b2⟩ := yM_e C (by omega) 0 1 0 0 (by decide)
        obtain ⟨g2, d1, d2⟩ := e92 g1 _ (nI (kk - s)) (yM_fE f b2) (yM_cL C b2) (by show kk + 1 + 8 + 9 * j + 2 ≤ _; omega)
        exact ⟨g2, (congrArg (fun z => zd_B z _) b1).trans d1, yM_aL b2 d2⟩
      · rw [if_neg (show ¬ nI (c + 1) = 1 from fun e => by have := (zc_eq (k := 1) (by decide) (by omega)).mp e; omega), if_neg z0]
        have epc : f_Mo_powerCell g (nI k) (nI r) (nI c) = some (nI (yu_pw pw q r (c - 1))) := by
          have := yu_pcM f C Z ex hrn (show c - 1 < m by omega)
          rw [show c - 1 + 1 = c by omega] at this
          exact this
        rw [epc, Option.bind_some]
        obtain ⟨g1, b1, b2⟩ := yM_e C (by omega) 1 (nI (yu_pw pw q r (c - 1))) 0 0 (by decide)
        obtain ⟨g2, d1, d2⟩ := e92 g1 _ (nI (kk - s)) (yM_fE f b2) (yM_cL C b2) (by show kk + 1 + 8 + 9 * j + 2 ≤ _; omega)
        exact ⟨g2, (congrArg (fun z => zd_B z _) b1).trans d1, yM_aL b2 d2⟩
theorem yu_coilM {kk r : Nat} {t : yT} {y : Int32} (f : yM_f g0 g) (C : yM_c g kk s b v) (O : yu_O g0 t) (h28 : t.1 = 28) (hk : kk + 5 ≤ 90000000) (hp : pw < 100000) (hm : 1 ≤ m ∧ m ≤ 12) (hr : r < 12) (hy : y = if m = 1 then -1 else nI (yu_pw pw q r (m - 2))) : ∃ g', f_Mo_coilCode g (nI t.2.2.2.2.2.2) y = some g' ∧ yM_E s kk (yv v (yu_cc pw q m r t)) g g' := by
  obtain ⟨⟨n1, n2, n3, n4⟩, n5, _⟩ := O
  obtain ⟨m1, a, a1, a2, a3⟩ := n5 (.inr h28)
  have f' : ∀ a, ¬ a ∈ yM_M → g.2.1 a = g0.2.1 a := fun a ha => f.2.1 a ha
  have e116 : ∀ (g1 : zs_H) (k1 : Nat), yM_c g1 k1 s b v → k1 < 90000000 → ∃ g', f_Mo_coilCode_116 g1 (nI t.2.2.1) = some g' ∧ yM_E s k1 (yv v [(2, nI t.2.2.1, 0, 0)]) g1 g' := by
    intro g1 k1 c1 hk1
    obtain ⟨g2, b1, b2⟩ := yM_e c1 (by omega) 2 (nI t.2.2.1) 0 0 (by decide)
    refine ⟨g2, ?_, b2⟩
    unfold f_Mo_coilCode_116
    exact (congrArg (fun z => zd_B z _) b1).trans rfl
  have e87 : ∀ (g1 : zs_H) (k1 : Nat), yM_c g1 k1 s b v → k1 + 1 < 90000000 → ∃ g', f_Mo_coilCode_87 g1 (nI t.2.2.1) (nI t.2.1) = some g' ∧ yM_E s k1 (yv v ((if t.2.1 < 2 then [] else if t.2.1 = 2 then [(7, 11, 0, 0)] else [(7, 10, 0, 0)]) ++ [(2, nI t.2.2.1, 0, 0)])) g1 g' := by
    intro g1 k1 c1 hk1
    unfold f_Mo_coilCode_87
    by_cases z : t.2.1 < 2
    · rw [if_pos ((zc_el (k := 1) (by decide) (by omega)).mpr (by omega)), if_pos z]
      exact e116 g1 k1 c1 (by omega)
    · rw [if_neg (mt (zc_el (k := 1) (by decide) (by omega)).mp (by omega)), if_neg z]
      by_cases z2 : t.2.1 = 2
      · rw [if_pos (show nI t.2.1 = 2 by rw [z2]; rfl), if_pos z2]
        obtain ⟨g2, b1, b2⟩ := yM_e c1 (by omega) 7 11 0 0 (by decide)
        obtain ⟨g3, d1, d2⟩ := e116 g2 _ (yM_cL c1 b2) (by show k1 + 1 < _; omega)
        refine ⟨g3, ?_, yM_aL b2 d2⟩
        unfold f_Mo_coilCode_109
        exact (congrArg (fun z => zd_B z _) b1).trans d1
      · rw [if_neg (show ¬ nI t.2.1 = 2 from fun e => z2 ((zc_eq (k := 2) (by decide) (by omega)).mp e)), if_neg z2]
        obtain ⟨g2, b1, b2⟩ := yM_e c1 (by omega) 7 10 0 0 (by decide)
        obtain ⟨g3, d1, d2⟩ := e116 g2 _ (yM_cL c1 b2) (by show k1 + 1 < _; omega)
        refine ⟨g3, ?_, yM_aL b2 d2⟩
        unfold f_Mo_coilCode_109
        exact (congrArg (fun z => zd_B z _) b1).trans d1
  have e62 : ∀ (g1 : zs_H) (k1 : Nat) (y1 : Int32), yM_c g1 k1 s b v → k1 + 2 < 90000000 → ∃ g', f_Mo_coilCode_62 g1 (nI t.2.2.1) (nI t.2.1) y1 = some g' ∧ yM_E s k1 (yv v ((if t.2.1 = 1 ∨ t.2.1 = 3 then [(8, 2, 0, 0)] else []) ++ ((if t.2.1 < 2 then [] else if t.2.1 = 2 then [(7, 11, 0, 0)] else [(7, 10, 0, 0)]) ++ [(2, nI t.2.2.1, 0, 0)]))) g1 g' := by
    intro g1 k1 y1 c1 hk1
    have i1 : (nI t.2.1 = 1) ↔ t.2.1 = 1 := zc_eq (k := 1) (by decide) (by omega)
    have i3 : (nI t.2.1 = 3) ↔ t.2.1 = 3 := zc_eq (k := 3) (by decide) (by omega)
    unfold f_Mo_coilCode_62
    by_cases z : t.2.1 = 1 ∨ t.2.1 = 3
    · rw [if_pos z]
      obtain ⟨g2, b1, b2⟩ := yM_e c1 (by omega) 8 2 0 0 (by decide)
      obtain ⟨g3, d1, d2⟩ := e87 g2 _ (yM_cL c1 b2) (by show k1 + 1 + 1 < _; omega)
      refine ⟨g3, ?_, yM_aL b2 d2⟩
      have e76 : f_Mo_coilCode_76 g1 (nI t.2.2.1) (nI t.2.1) = some g3 := by
        unfold f_Mo_coilCode_76
        exact (congrArg (fun z => zd_B z _) b1).trans d1
      rcases z with z | z
      · rw [if_pos (i1.mpr z)]; exact e76
      · rw [if_neg (fun e => by have := i1.mp e; omega), if_pos (i3.mpr z)]; exact e76
    · rw [if_neg z, if_neg (fun e => z (.inl (i1.mp e))), if_neg (fun e => z (.inr (i3.mp e)))]
      exact e87 g1 k1 c1 (by omega)
  have e39 : ∀ (g1 : zs_H) (k1 : Nat), yM_c g1 k1 s b v → k1 + 3 < 90000000 → ∃ g', f_Mo_coilCode_39 g1 y (nI t.2.2.1) (nI t.2.1) = some g' ∧ yM_E s k1 (yv v ((if m = 1 then [(0, 1, 0, 0)] else [(1, nI (yu_pw pw q r (m - 2)), 0, 0)]) ++ ((if t.2.1 = 1 ∨ t.2.1 = 3 then [(8, 2, 0, 0)] else []) ++ ((if t.2.1 < 2 then [] else if t.2.1 = 2 then [(7, 11, 0, 0)] else [(7, 10, 0, 0)]) ++ [(2, nI t.2.2.1, 0, 0)])))) g1 g' := by
    intro g1 k1 c1 hk1
    unfold f_Mo_coilCode_39
    by_cases z : m = 1
    · rw [hy, if_pos z, if_neg (by decide), if_pos z]
      obtain ⟨g2, b1, b2⟩ := yM_e c1 (by omega) 0 1 0 0 (by decide)
      obtain ⟨g3, d1, d2⟩ := e62 g2 _ (nI (k1 - s)) (yM_cL c1 b2) (by show k1 + 1 + 2 < _; omega)
      exact ⟨g3, (congrArg (fun z => zd_B z _) b1).trans d1, yM_aL b2 d2⟩
    · have hl := yu_lsl q (m - 2) r
      have hpw : yu_pw pw q r (m - 2) < 2147483648 := by unfold yu_pw; omega
      rw [hy, if_neg z, if_pos (nI_pos' hpw), if_neg z]
      obtain ⟨g2, b1, b2⟩ := yM_e c1 (by omega) 1 (nI (yu_pw pw q r (m - 2))) 0 0 (by decide)
      obtain ⟨g3, d1, d2⟩ := e62 g2 _ (nI (k1 - s)) (yM_cL c1 b2) (by show k1 + 1 + 2 < _; omega)
      exact ⟨g3, (congrArg (fun z => zd_B z _) b1).trans d1, yM_aL b2 d2⟩
  unfold f_Mo_coilCode yu_cc
  simp only [if_pos (zi_in (show t.2.2.2.2.2.2 < 2147483648 by omega) n3), nI_clamp (show t.2.2.2.2.2.2 < 2147483648 by omega), f' 76 (by decide), a1, if_pos (zi_in (show a < 2147483648 by omega) a2), nI_clamp (show a < 2147483648 by omega), f' 74 (by decide), m1, f' 101 (by decide), a3]
  by_cases z : t.2.1 < 2
  · rw [if_pos ((zc_el (k := 1) (by decide) (by omega)).mpr (by omega)), show (if t.2.1 < 2 then [] else [((1, nI t.2.2.1, 0, 0) : yI)]) = [] from if_pos z, List.nil_append]
    exact e39 g kk C (by omega)
  · rw [if_neg (mt (zc_el (k := 1) (by decide) (by omega)).mp (by omega)), show (if t.2.1 < 2 then [] else [((1, nI t.2.2.1, 0, 0) : yI)]) = [(1, nI t.2.2.1, 0, 0)] from if_neg z]
    obtain ⟨g2, b1, b2⟩ := yM_e C (by omega) 1 (nI t.2.2.1) 0 0 (by decide)
    obtain ⟨g3, d1, d2⟩ := e39 g2 _ (yM_cL C b2) (by show kk + 1 + 3 < _; omega)
    exact ⟨g3, (congrArg (fun z => zd_B z _) b1).trans d1, yM_aL b2 d2⟩
end YUG
end
section
/-! The coder: a whole rung, the model. -/
section YUH
variable {pw n m k b s v : Nat} {rk : Nat → Nat} {q : Nat → Nat → yT} {g0 g g' : zs_H}
theorem yu_clM (Z : yu_Z g0 k n m rk q) (ex : (g0.2.1 88) b = nI (pw + 156)) (hp : pw < 100000) (hn : ∀ r, r < n → yu_O g0 (q r (m - 1))) : ∀ (j kk N : Nat) (g : zs_H), j ≤ n → yM_f g0 g → yM_c g kk s b v → kk + 5 * j ≤ 90000000 → j < N → ∃ g', f_Mo_rungCode_L128 N g (nI k) (nI m) (nI n) (nI (n - j)) = some g' ∧ yM_E s kk (yv v (yu_cl pw q n m j)) g g' := by
  have zn := Z.1
  intro j
  induction j with
  | zero =>
    intro kk N g _ f C _ hN
    obtain ⟨N, rfl⟩ : ∃ z, N = z + 1 := ⟨N - 1, by omega⟩
    refine ⟨g, ?_, yM_nil C.1.1⟩
    show f_Mo_rungCode_128 (f_Mo_rungCode_L128 N) g (nI k) (nI m) (nI n) (nI (n - 0)) = _
    unfold f_Mo_rungCode_128
    rw [if_pos ((nI_leI (by omega) (by omega)).mpr (by omega))]
  | succ j ih =>
    intro kk N g hj f C hk hN
    obtain ⟨N, rfl⟩ : ∃ z, N = z + 1 := ⟨N - 1, by omega⟩
    obtain ⟨e1, e2, _⟩ := yu_fr f
    have hr : n - (j + 1) < n := by omega
    have Or := hn _ hr
    obtain ⟨o1, o2, o3, o4⟩ := Or.1
    have en : n - (j + 1) + 1 = n - j := by omega
    show ∃ g', f_Mo_rungCode_128 (f_Mo_rungCode_L128 N) g (nI k) (nI m) (nI n) (nI (n - (j + 1))) = some g' ∧ yM_E s kk (yv v ((if (q (n - (j + 1)) (m - 1)).1 = 28 then yu_cc pw q m (n - (j + 1)) (q (n - (j + 1)) (m - 1)) else []) ++ yu_cl pw q n m j)) g g'
    unfold f_Mo_rungCode_128
    rw [if_neg (mt (nI_leI (by omega) (by omega)).mp (by omega)), e1, (Z.2.1 _ hr).1, Option.bind_some, show nI m - 1 = nI (m - 1) from zi_sub (b := 1) (by omega), e2, (Z.2.2.2 _ (m - 1) hr (by omega)).1, Option.bind_some, if_pos (zi_in (by omega) o3), nI_clamp (show (q (n - (j + 1)) (m - 1)).2.2.2.2.2.2 < 2147483648 by omega), f.2.1 72 (by decide), o4]
    by_cases z : (q (n - (j + 1)) (m - 1)).1 = 28
    · rw [if_pos (show nI (q (n - (j + 1)) (m - 1)).1 = 28 by rw [z]; rfl), if_pos z]
      obtain ⟨g1, a1, a2⟩ := yu_coilM (pw := pw) (q := q) (m := m) (r := n - (j + 1)) (y := if m = 1 then -1 else nI (yu_pw pw q (n - (j + 1)) (m - 2))) f C Or z (by omega) hp (by omega) (by omega) rfl
      have cl := yu_ccl (pw := pw) (q := q) (m := m) (r := n - (j + 1)) (t := q (n - (j + 1)) (m - 1))
      obtain ⟨g2, b1, b2⟩ := ih _ N g1 (by omega) (yM_fE f a2) (yM_cL C a2) (by omega) (by omega)
      have e184 : ∀ y : Int32, y = (if m = 1 then -1 else nI (yu_pw pw q (n - (j + 1)) (m - 2))) → f_Mo_rungCode_184 (f_Mo_rungCode_L128 N) g (nI k) (nI m) (nI n) (nI (n - (j + 1))) y (nI (q (n - (j + 1)) (m - 1)).2.2.2.2.2.2) = some g2 := by
        intro y hy
        rw [← hy] at a1
        unfold f_Mo_rungCode_184 f_Mo_rungCode_187
        rw [a1, Option.bind_some, nI_1, en]
        exact b1
      refine ⟨g2, ?_, yM_aL a2 b2⟩
      by_cases zm : m = 1
      · rw [if_pos ((zc_el (k := 1) (by decide) (by omega)).mpr (by omega))]
        exact e184 _ (by rw [if_pos zm])
      · rw [if_neg (mt (zc_el (k := 1) (by decide) (by omega)).mp (by omega))]
        have := yu_pcM f C Z ex hr (show m - 2 < m by omega)
        rw [show m - 2 + 1 = m - 1 by omega] at this
        rw [this, Option.bind_some]
        exact e184 _ (by rw [if_neg zm])
    · rw [if_neg (show ¬ nI (q (n - (j + 1)) (m - 1)).1 = 28 from fun e => z ((zc_eq (k := 28) (by decide) (by omega)).mp e)), if_neg z, List.nil_append]
      unfold f_Mo_rungCode_187
      rw [nI_1, en]
      exact ih kk N g (by omega) f C (by omega) (by omega)
/-- a column -/
theorem yu_colM {c : Nat} (Z : yu_Z g0 k n m rk q) (ex : (g0.2.1 88) b = nI (pw + 156)) (hc : c < m) (hn : ∀ r, r < n → yu_O g0 (q r c)) (h28 : ∀ r, r < n → (q r c).1 = 28 → c = m - 1) {k31 : zs_H → Int32 → Int32 → Int32 → Int32 → Option zs_H} : ∀ (j kk N : Nat) (g : zs_H), j ≤ n → yM_f g0 g → yM_c g kk s b v → kk + (yu_co pw q n c j).length ≤ 80000000 → j < N → ∃ g', f_Mo_rungCode_L40 k31 N g (nI k) (nI m) (nI n) (nI (c + 1)) (nI (n - j)) = k31 g' (nI k) (nI m) (nI n) (nI (c + 1 + 1)) ∧ yM_E s kk (yv v (yu_co pw q n c j)) g g' := by
  have hz := zF_big
  have zn := Z.1
  intro j
  induction j with
  | zero =>
    intro kk N g _ f C _ hN
    obtain ⟨N, rfl⟩ : ∃ z, N = z + 1 := ⟨N - 1, by omega⟩
    refine ⟨g, ?_, yM_nil C.1.1⟩
    show f_Mo_rungCode_40 k31 (f_Mo_rungCode_L40 k31 N) g (nI k) (nI m) (nI n) (nI (c + 1)) (nI (n - 0)) = _
    unfold f_Mo_rungCode_40
    rw [if_pos ((nI_leI (by omega) (by omega)).mpr (by omega)), nI_1]
  | succ j ih =>
    intro kk N g hj f C hk hN
    obtain ⟨N, rfl⟩ : ∃ z, N = z + 1 := ⟨N - 1, by omega⟩
    obtain ⟨e1, e2, _⟩ := yu_fr f
    obtain ⟨r, er⟩ : ∃ r, r = n - (j + 1) := ⟨_, rfl⟩
    have hr : r < n := by omega
    have Or := hn _ hr
    obtain ⟨o1, o2, o3, o4⟩ := Or.1
    have en : r + 1 = n - j := by omega
    have hk' : kk + ((if yu_ls q (n - (j + 1)) c = n - (j + 1) ∧ ¬ (q (n - (j + 1)) c).1 = 28 then yu_gp pw q n c (n - (j + 1)) else []) ++ yu_co pw q n c j).length ≤ 80000000 := hk
    show ∃ g', f_Mo_rungCode_40 k31 (f_Mo_rungCode_L40 k31 N) g (nI k) (nI m) (nI n) (nI (c + 1)) (nI (n - (j + 1))) = _ ∧ yM_E s kk (yv v ((if yu_ls q (n - (j + 1)) c = n - (j + 1) ∧ ¬ (q (n - (j + 1)) c).1 = 28 then yu_gp pw q n c (n - (j + 1)) else []) ++ yu_co pw q n c j)) g g'
    rw [← er] at hk' ⊢
    rw [List.length_append] at hk'
    have hl := yu_lsl q c r
    have e82 : ∀ y : Nat, y < 2 → (y = 1 ↔ (q r c).1 = 28) → ∃ g', f_Mo_rungCode_82 k31 (f_Mo_rungCode_L40 k31 N) g (nI k) (nI m) (nI n) (nI (c + 1)) (nI r) (nI y) = k31 g' (nI k) (nI m) (nI n) (nI (c + 1 + 1)) ∧ yM_E s kk (yv v ((if yu_ls q r c = r ∧ ¬ (q r c).1 = 28 then yu_gp pw q n c r else []) ++ yu_co pw q n c j)) g g' := by
      intro y hy hy8
      unfold f_Mo_rungCode_82 f_Mo_rungCode_113
      rw [yu_lr f Z hr hc, Option.bind_some, nI_1, en]
      by_cases z1 : yu_ls q r c = r
      · rw [if_pos (show nI (yu_ls q r c) = nI r by rw [z1])]
        by_cases z8 : (q r c).1 = 28
        · rw [if_neg (show ¬ nI y = 0 from fun e => by have := (zc_eq (k := 0) (by decide) (by omega)).mp e; have := hy8.mpr z8; omega)]
          rw [if_neg (fun w => w.2 z8)] at hk' ⊢
          have : ([] : List yI).length = 0 := rfl
          exact ih kk N g (by omega) f C (by omega) (by omega)
        · rw [if_pos (show nI y = 0 by rw [show y = 0 by have := mt hy8.mp z8; omega]; rfl)]
          rw [if_pos ⟨z1, z8⟩] at hk' ⊢
          obtain ⟨l1, l2, l3, l4⟩ := yu_lef (q := q) (c := c) (n - 1 - r) r
          have gl : 9 * 0 ≤ 1 := by omega
          obtain ⟨g1, b1, b2⟩ := yu_grM (pw := pw) (fr := r) (s := s) (v := v) Z ex hc hr hn (yu_le q c (n - 1 - r) r) r 0 kk zF g f C (by omega) (fun i h1 h2 => by
            have := l3 (i - r) (by omega)
            rw [show r + (i - r) = i by omega, z1] at this
            exact this) (fun h => by rw [l4 (by omega)]; omega) (by omega) (by omega) (Nat.zero_le _)
          have b1' : f_Mo_groupCode g (nI k) (nI n) (nI r) (nI (c + 1)) = some g1 := b1
          have b2' : yM_E s kk (yv v (yu_gp pw q n c r)) g g1 := b2
          rw [b1', Option.bind_some]
          obtain ⟨g2, d1, d2⟩ := ih _ N g1 (by omega) (yM_fE f b2') (yM_cL C b2') (by omega) (by omega)
          exact ⟨g2, d1, yM_aL b2' d2⟩
      · rw [if_neg (show ¬ nI (yu_ls q r c) = nI r from fun e => z1 ((nI_eq (by omega) (by omega)).mp e))]
        rw [if_neg (fun w => z1 w.1)] at hk' ⊢
        have : ([] : List yI).length = 0 := rfl
        exact ih kk N g (by omega) f C (by omega) (by omega)
    have e81 : ¬ (q r c).1 = 28 → ∃ g', f_Mo_rungCode_81 k31 (f_Mo_rungCode_L40 k31 N) g (nI k) (nI m) (nI n) (nI (c + 1)) (nI r) = k31 g' (nI k) (nI m) (nI n) (nI (c + 1 + 1)) ∧ yM_E s kk (yv v ((if yu_ls q r c = r ∧ ¬ (q r c).1 = 28 then yu_gp pw q n c r else []) ++ yu_co pw q n c j)) g g' := by
      intro z8
      exact e82 0 (by decide) ⟨fun z => absurd z (by decide), fun z => absurd z z8⟩
    unfold f_Mo_rungCode_40
    rw [if_neg (mt (nI_leI (by omega) (by omega)).mp (by omega))]
    by_cases zc : c + 1 = m
    · rw [if_pos (show nI (c + 1) = nI m by rw [zc]), e1, (Z.2.1 _ hr).1, Option.bind_some, show nI (c + 1) - 1 = nI c from zi_sub (b := 1) (by omega), e2, (Z.2.2.2 _ c hr hc).1, Option.bind_some, if_pos (zi_in (by omega) o3), nI_clamp (show (q r c).2.2.2.2.2.2 < 2147483648 by omega), f.2.1 72 (by decide), o4]
      by_cases z8 : (q r c).1 = 28
      · rw [if_pos (show nI (q r c).1 = 28 by rw [z8]; rfl)]
        exact e82 1 (by decide) ⟨fun _ => z8, fun _ => rfl⟩
      · rw [if_neg (show ¬ nI (q r c).1 = 28 from fun e => z8 ((zc_eq (k := 28) (by decide) (by omega)).mp e))]
        exact e81 z8
    · rw [if_neg (show ¬ nI (c + 1) = nI m from fun e => zc ((nI_eq (by omega) (by omega)).mp e))]
      exact e81 (fun z => by have := h28 r hr z; omega)
/-- all columns, then the coils -/
theorem yu_csM (Z : yu_Z g0 k n m rk q) (ex : (g0.2.1 88) b = nI (pw + 156)) (hp : pw < 100000) (hn : ∀ r c, r < n → c < m → yu_O g0 (q r c)) (h28 : ∀ r c, r < n → c < m → (q r c).1 = 28 → c = m - 1) : ∀ (j kk N : Nat) (g : zs_H), j ≤ m → yM_f g0 g → yM_c g kk s b v → kk + (yu_cs pw q n m j).length + 60 ≤ 80000000 → j < N → ∃ g', f_Mo_rungCode_L31 N g (nI k) (nI m) (nI n) (nI (m - j + 1)) = some g' ∧ yM_E s kk (yv v (yu_cs pw q n m j ++ yu_cl pw q n m n)) g g' := by
  have hz := zF_big
  have zn := Z.1
  intro j
  induction j with
  | zero =>
    intro kk N g _ f C hk hN
    obtain ⟨N, rfl⟩ : ∃ z, N = z + 1 := ⟨N - 1, by omega⟩
    obtain ⟨g1, b1, b2⟩ := yu_clM (s := s) (v := v) Z ex hp (fun r hr => hn r (m - 1) hr (by omega)) n kk zF g (Nat.le_refl _) f C (by omega) (by omega)
    refine ⟨g1, ?_, b2⟩
    show f_Mo_rungCode_31 (f_Mo_rungCode_L31 N) g (nI k) (nI m) (nI n) (nI (m - 0 + 1)) = _
    unfold f_Mo_rungCode_31
    rw [if_pos ((nI_ltI (by omega) (by omega)).mpr (by omega))]
    rw [Nat.sub_self] at b1
    exact b1
  | succ j ih =>
    intro kk N g hj f C hk hN
    obtain ⟨N, rfl⟩ : ∃ z, N = z + 1 := ⟨N - 1, by omega⟩
    have hc : m - (j + 1) < m := by omega
    have hk' : kk + (yu_co pw q n (m - (j + 1)) n ++ yu_cs pw q n m j).length + 60 ≤ 80000000 := hk
    rw [List.length_append] at hk'
    obtain ⟨g1, a1, a2⟩ := yu_colM (s := s) (v := v) (k31 := f_Mo_rungCode_L31 N) Z ex hc (fun r hr => hn r _ hr hc) (fun r hr => h28 r _ hr hc) n kk zF g (Nat.le_refl _) f C (by omega) (by omega)
    obtain ⟨g2, b1, b2⟩ := ih _ N g1 (by omega) (yM_fE f a2) (yM_cL C a2) (by omega) (by omega)
    refine ⟨g2, ?_, ?_⟩
    · show f_Mo_rungCode_31 (f_Mo_rungCode_L31 N) g (nI k) (nI m) (nI n) (nI (m - (j + 1) + 1)) = _
      unfold f_Mo_rungCode_31
      rw [if_neg (mt (nI_ltI (by omega) (by omega)).mp (by omega))]
      rw [Nat.sub_self] at a1
      refine Eq.trans a1 ?_
      rw [show m - (j + 1) + 1 + 1 = m - j + 1 by omega]
      exact b1
    · show yM_E s kk (yv v ((yu_co pw q n (m - (j + 1)) n ++ yu_cs pw q n m j) ++ yu_cl pw q n m n)) g g2
      rw [List.append_assoc]
      exact yM_aL a2 b2
/-- a rung -/
theorem yu_rgM {kk : Nat} (Z : yu_Z g0 k n m rk q) (em : f_Mo_cellsIn g ((g0.2.1 76) k) = some (nI m)) (ex : (g0.2.1 88) b = nI (pw + 156)) (hp : pw < 100000) (hn : ∀ r c, r < n → c < m → yu_O g0 (q r c)) (h28 : ∀ r c, r < n → c < m → (q r c).1 = 28 → c = m - 1) (f : yM_f g0 g) (C : yM_c g kk s b v) (hk : kk + (yu_cs pw q n m m).length + 60 ≤ 80000000) : ∃ g', f_Mo_rungCode g (nI k) = some g' ∧ yM_E s kk (yv v (yu_rg pw q n m)) g g' := by
  have hz := zF_big
  have zn := Z.1
  obtain ⟨e1, _, _⟩ := yu_fr f
  obtain ⟨g1, a1, a2⟩ := yu_csM (s := s) (v := v) Z ex hp hn h28 m kk zF g (Nat.le_refl _) f C hk (by omega)
  rw [Nat.sub_self] at a1
  have e13 : ∀ (j N : Nat), j ≤ n → j < N → f_Mo_rungCode_L13 N g (nI k) (nI m) (nI (n - j)) = some g1 := by
    intro j
    induction j with
    | zero =>
      intro N _ hN
      obtain ⟨N, rfl⟩ : ∃ z, N = z + 1 := ⟨N - 1, by omega⟩
      show f_Mo_rungCode_13 (f_Mo_rungCode_L13 N) g (nI k) (nI m) (nI (n - 0)) = _
      unfold f_Mo_rungCode_13
      obtain ⟨x, x1, x2⟩ := Z.2.2.1
      rw [e1, Nat.sub_zero, x1, Option.bind_some, if_pos x2]
      exact a1
    | succ j ih =>
      intro N hj hN
      obtain ⟨N, rfl⟩ : ∃ z, N = z + 1 := ⟨N - 1, by omega⟩
      show f_Mo_rungCode_13 (f_Mo_rungCode_L13 N) g (nI k) (nI m) (nI (n - (j + 1))) = _
      unfold f_Mo_rungCode_13
      obtain ⟨x1, x2⟩ := Z.2.1 (n - (j + 1)) (by omega)
      rw [e1, x1, Option.bind_some, if_neg (nI_pos (by omega)), nI_1, show n - (j + 1) + 1 = n - j by omega]
      exact ih N (by omega) (by omega)
  refine ⟨g1, ?_, a2⟩
  unfold f_Mo_rungCode
  rw [if_pos (zi_in (by omega) zn.1), nI_clamp (show k < 2147483648 by omega), f.2.1 76 (by decide), em, Option.bind_some]
  have := e13 n zF (Nat.le_refl _) (by omega)
  rw [Nat.sub_self] at this
  exact this
end YUH
end
section
/-! The coder: the rows of a rung; how the model finds their cells. -/
def yu_fl : zt_T → Bool
  | .leaf => false
  | .inner kd _ _ _ _ => decide (kd = 29)
/-- the cells of a row -/
def yu_R (h0 g0 : zs_H) : zt_T → Int32 → Int32 → Nat → List yT → Prop
  | .leaf, x, x', _, cs => x = -1 ∧ x' = -1 ∧ cs = []
  | .inner kd _ _ _ r, x, x', ow, cs => ∃ (i k : Nat), (i < 32784 ∧ x = nI i ∧ (h0.2.1 13) i = nI kd) ∧ (k < 33500 ∧ x' = nI k ∧ (g0.2.1 72) k = nI kd) ∧ kd < 100 ∧ (if kd = 29 then yu_R h0 g0 r ((h0.2.1 18) i) ((g0.2.1 78) k) ow cs else ∃ (v S E : Nat) (cs' : List yT), cs = (kd, v, S, E, yu_fl r, i, k) :: cs' ∧ (yu_N h0 (kd, v, S, E, yu_fl r, i, k) ∧ yu_O g0 (kd, v, S, E, yu_fl r, i, k)) ∧ (kd = 25 → 2 ≤ v → E = ow) ∧ yu_R h0 g0 r ((h0.2.1 18) i) ((g0.2.1 78) k) (ow + (if kd = 25 ∧ 2 ≤ v then 1 else 0)) cs')
/-- is the cell col linked, if cnt cells are before -/
def yu_lb (col : Nat) : Nat → zt_T → Bool
  | _, .leaf => false
  | cnt, .inner kd _ _ _ r => if kd = 29 then (if cnt = col then true else yu_lb col cnt r) else yu_lb col (cnt + 1) r
theorem yu_lb0 {col : Nat} : ∀ (l : zt_T) (cnt : Nat), col < cnt → yu_lb col cnt l = false := by
  intro l
  induction l with
  | leaf => intro cnt _; rfl
  | inner kd kv o lc r _ ihr =>
    intro cnt h
    show (if kd = 29 then (if cnt = col then true else yu_lb col cnt r) else yu_lb col (cnt + 1) r) = false
    split
    · rw [if_neg (by omega)]; exact ihr cnt h
    · exact ihr (cnt + 1) (by omega)
theorem yu_lb1 {col : Nat} (l : zt_T) : yu_lb col col l = yu_fl l := by
  cases l with
  | leaf => rfl
  | inner kd kv o lc r =>
    show (if kd = 29 then (if col = col then true else yu_lb col col r) else yu_lb col (col + 1) r) = decide (kd = 29)
    by_cases z : kd = 29
    · rw [if_pos z, if_pos rfl, decide_eq_true z]
    · rw [if_neg z, decide_eq_false z]; exact yu_lb0 r _ (by omega)
section YUI
variable {h0 g0 : zs_H}
theorem yu_Rl : ∀ (l : zt_T) (x x' : Int32) (ow : Nat) (cs : List yT), yu_R h0 g0 l x x' ow cs → cs.length = yl_n l ∧ ∀ t, t ∈ cs → yu_N h0 t ∧ yu_O g0 t := by
  intro l
  induction l with
  | leaf => intro x x' ow cs ⟨_, _, e⟩; rw [e]; exact ⟨rfl, fun t ht => (by cases ht)⟩
  | inner kd kv o lc r _ ihr =>
    intro x x' ow cs ⟨i, k, _, _, _, H⟩
    show cs.length = (if kd = 29 then 0 else 1) + yl_n r ∧ _
    by_cases z : kd = 29
    · rw [if_pos z] at H ⊢
      obtain ⟨a1, a2⟩ := ihr _ _ _ _ H
      exact ⟨by omega, a2⟩
    · rw [if_neg z] at H ⊢
      obtain ⟨v, S, E, cs', e, NO, _, R⟩ := H
      obtain ⟨a1, a2⟩ := ihr _ _ _ _ R
      rw [e]
      refine ⟨by show cs'.length + 1 = _; omega, fun t ht => ?_⟩
      rcases List.mem_cons.mp ht with q | q
      · rw [q]; exact NO
      · exact a2 t q
theorem yu_lbR : ∀ (l : zt_T) (x x' : Int32) (ow : Nat) (cs : List yT) (cnt j : Nat) (t : yT), yu_R h0 g0 l x x' ow cs → cs[j]? = some t → yu_lb (cnt + 1 + j) cnt l = t.2.2.2.2.1 := by
  intro l
  induction l with
  | leaf => intro x x' ow cs cnt j t ⟨_, _, e⟩ h; rw [e] at h; cases h
  | inner kd kv o lc r _ ihr =>
    intro x x' ow cs cnt j t ⟨i, k, _, _, _, H⟩ h
    show (if kd = 29 then (if cnt = cnt + 1 + j then true else yu_lb (cnt + 1 + j) cnt r) else yu_lb (cnt + 1 + j) (cnt + 1) r) = _
    by_cases z : kd = 29
    · rw [if_pos z] at H ⊢
      rw [if_neg (by omega)]
      exact ihr _ _ _ _ cnt j t H h
    · rw [if_neg z] at H ⊢
      obtain ⟨v, S, E, cs', e, _, _, R⟩ := H
      rw [e] at h
      cases j with
      | zero =>
        have h' : some ((kd, v, S, E, yu_fl r, i, k) : yT) = some t := h
        cases h'
        exact yu_lb1 r
      | succ j =>
        have := ihr _ _ _ _ (cnt + 1) j t R h
        rw [show cnt + 1 + 1 + j = cnt + 1 + (j + 1) by omega] at this
        exact this
theorem yu_liM {col : Nat} (hcol : col < 1000) : ∀ (l : zt_T) (x x' : Int32) (ow : Nat) (cs : List yT) (cnt N : Nat), yu_R h0 g0 l x x' ow cs → cnt + zt_ln l < 100000000 → zt_ln l < N → f_Mo_isLinked_L10 g0 N (nI col) (nI cnt) x' = some (if yu_lb col cnt l = true then 1 else 0) := by
  intro l
  induction l with
  | leaf =>
    intro x x' ow cs cnt N ⟨_, e, _⟩ _ hN
    obtain ⟨N, rfl⟩ : ∃ z, N = z + 1 := ⟨N - 1, by omega⟩
    show f_Mo_isLinked_10 g0 (f_Mo_isLinked_L10 g0 N) (nI col) (nI cnt) x' = _
    unfold f_Mo_isLinked_10
    rw [e, if_pos (by decide)]; rfl
  | inner kd kv o lc r _ ihr =>
    intro x x' ow cs cnt N ⟨i, k, _, ⟨k1, k2, k3⟩, hkd, H⟩ hc hN
    have hl : zt_ln (.inner kd kv o lc r) = 1 + zt_ln r := rfl
    obtain ⟨N, rfl⟩ : ∃ z, N = z + 1 := ⟨N - 1, by omega⟩
    show f_Mo_isLinked_10 g0 (f_Mo_isLinked_L10 g0 N) (nI col) (nI cnt) x' = some (if (if kd = 29 then (if cnt = col then true else yu_lb col cnt r) else yu_lb col (cnt + 1) r) = true then 1 else 0)
    unfold f_Mo_isLinked_10 f_Mo_isLinked_34 f_Mo_isLinked_52
    rw [k2, if_neg (nI_pos (by omega))]
    simp only [if_pos (zi_in (show k < 2147483648 by omega) k1), nI_clamp (show k < 2147483648 by omega), k3]
    by_cases z : kd = 29
    · rw [if_pos z] at H ⊢
      rw [if_pos (show nI kd = 29 by rw [z]; rfl), if_pos (show nI kd = 29 by rw [z]; rfl)]
      by_cases zc : cnt = col
      · rw [if_pos (by rw [zc]), if_pos zc]; rfl
      · rw [if_neg (fun e => zc ((nI_eq (by omega) (by omega)).mp e)), if_neg zc, Int32.add_zero]
        exact ihr _ _ _ _ cnt N H (by omega) (by omega)
    · rw [if_neg z] at H ⊢
      obtain ⟨v, S, E, cs', e, _, _, R⟩ := H
      have z' : ¬ nI kd = 29 := fun e => z ((zc_eq (k := 29) (by decide) (by omega)).mp e)
      rw [if_neg z', if_neg z', nI_1]
      exact ihr _ _ _ _ (cnt + 1) N R (by omega) (by omega)
theorem yu_ceM : ∀ (l : zt_T) (x x' : Int32) (ow : Nat) (cs : List yT) (j N : Nat) (t : yT), yu_R h0 g0 l x x' ow cs → cs[j]? = some t → j < 1000 → zt_ln l < N → f_Mo_cellOf_L10 g0 N (nI j) x' = some (nI t.2.2.2.2.2.2) := by
  intro l
  induction l with
  | leaf => intro x x' ow cs j N t ⟨_, _, e⟩ h _ _; rw [e] at h; cases h
  | inner kd kv o lc r _ ihr =>
    intro x x' ow cs j N t ⟨i, k, _, ⟨k1, k2, k3⟩, hkd, H⟩ h hj hN
    have hl : zt_ln (.inner kd kv o lc r) = 1 + zt_ln r := rfl
    obtain ⟨N, rfl⟩ : ∃ z, N = z + 1 := ⟨N - 1, by omega⟩
    show f_Mo_cellOf_10 g0 (f_Mo_cellOf_L10 g0 N) (nI j) x' = _
    unfold f_Mo_cellOf_10 f_Mo_cellOf_26 f_Mo_cellOf_44
    rw [k2]
    simp only [if_pos (zi_in (show k < 2147483648 by omega) k1), nI_clamp (show k < 2147483648 by omega), k3]
    by_cases z : kd = 29
    · rw [if_pos z] at H
      rw [if_pos (show nI kd = 29 by rw [z]; rfl), if_pos (show nI kd = 29 by rw [z]; rfl), Int32.sub_zero]
      exact ihr _ _ _ _ j N t H h hj (by omega)
    · rw [if_neg z] at H
      obtain ⟨v, S, E, cs', e, _, _, R⟩ := H
      have z' : ¬ nI kd = 29 := fun e => z ((zc_eq (k := 29) (by decide) (by omega)).mp e)
      rw [if_neg z', if_neg z']
      rw [e] at h
      cases j with
      | zero =>
        have h' : some ((kd, v, S, E, yu_fl r, i, k) : yT) = some t := h
        cases h'
        rw [if_pos (by decide)]
      | succ j =>
        rw [if_neg (mt (zc_el (k := 0) (by decide) (by omega)).mp (by omega)), show nI (j + 1) - 1 = nI j from zi_sub (b := 1) (by omega)]
        exact ihr _ _ _ _ j N t R h (by omega) (by omega)
end YUI
end
section
/-! The coder: how the class lays a row of a rung. -/
/-- how many own cells they have -/
def yu_ec : List yT → Nat
  | [] => 0
  | t :: cs => (if t.1 = 25 ∧ 2 ≤ t.2.1 then 1 else 0) + yu_ec cs
/-- from the place p on the cells cs lie in the grid; fl: the one before is linked -/
def yu_L (p : Nat) (fl : Bool) (cs : List yT) (h h' : zs_H) : Prop := (∀ j, j < p → (h'.2.1 48) j = (h.2.1 48) j ∧ (h'.2.1 49) j = (h.2.1 49) j ∧ (¬ j + 1 = p → (h'.2.1 50) j = (h.2.1 50) j) ∧ (j + 1 = p → (h'.2.1 50) j = if fl = true then 1 else (h.2.1 50) j)) ∧ ∀ j t, cs[j]? = some t → (h'.2.1 48) (p + j) = nI t.2.2.2.2.2.1 ∧ (h'.2.1 50) (p + j) = (if t.2.2.2.2.1 = true then 1 else 0) ∧ (t.1 = 25 → 2 ≤ t.2.1 → (h'.2.1 49) (p + j) = nI t.2.2.2.1)
abbrev yu_g : List (Nat × Nat) := [(47, 4), (47, 11)]
abbrev yu_m : List Nat := [48, 49, 50]
section YUJ
variable {h0 g0 : zs_H}
theorem yu_lay {k17 : zs_H → Int32 → Int32 → Option zs_H} {x2 x3 : Int32} {rr : Nat} (hrr : rr < 12) : ∀ (l : zt_T) (x x' : Int32) (ow c st N : Nat) (cs : List yT) (h : zs_H), yu_R h0 g0 l x x' ow cs → yC_f h0 h → (h.1 47 10) = nI rr → (h.1 47 11) = nI c → (h.1 47 4) = nI ow → (yu_fl l = true → 1 ≤ c) → c + cs.length ≤ 12 → st + zt_ln l ≤ 24 → zt_ln l < N → ∃ h', f_Cr_layGrid_L47 k17 N h x2 x3 x (nI st) = f_Cr_layGrid_84 k17 h' x2 x3 ∧ zfr yu_g yu_m [] h h' ∧ (h'.1 47 11) = nI (c + cs.length) ∧ (h'.1 47 4) = nI (ow + yu_ec cs) ∧ yu_L (rr * 12 + c) (yu_fl l) cs h h' := by
  have vb0 : vp_nar .boolean 0 = (0 : Int32) := by decide
  have vb1 : vp_nar .boolean 1 = (1 : Int32) := by decide
  intro l
  induction l with
  | leaf =>
    intro x x' ow c st N cs h ⟨e1, _, e3⟩ f hr hc ho _ _ hs hN
    obtain ⟨N, rfl⟩ : ∃ z, N = z + 1 := ⟨N - 1, by omega⟩
    subst e3
    refine ⟨h, ?_, zfr_rfl, hc, ho, fun j hj => ⟨rfl, rfl, fun _ => rfl, fun _ => (if_neg (by decide)).symm⟩, fun j t e => by cases e⟩
    show f_Cr_layGrid_47 k17 (f_Cr_layGrid_L47 k17 N) h x2 x3 x (nI st) = _
    unfold f_Cr_layGrid_47
    rw [e1, if_pos (show (-1 : Int32) = -1 from rfl), ite_self]
  | inner kd kv o lc r _ ihr =>
    intro x x' ow c st N cs h ⟨i, k, ⟨i1, i2, i3⟩, _, hkd, H⟩ f hr hc ho hfl hcs hs hN
    have hl : zt_ln (.inner kd kv o lc r) = 1 + zt_ln r := rfl
    obtain ⟨N, rfl⟩ : ∃ z, N = z + 1 := ⟨N - 1, by omega⟩
    have f' : ∀ a, ¬ a ∈ yC_M → h.2.1 a = h0.2.1 a := fun a ha => f.2.1 a ha
    -- one cell, and the next ones
    have stp : ∀ h1 : zs_H, f_Cr_layCell h (nI i) = some h1 → h1.2.1 18 = h0.2.1 18 → f_Cr_layGrid_L47 k17 (N + 1) h x2 x3 x (nI st) = f_Cr_layGrid_L47 k17 N h1 x2 x3 ((h0.2.1 18) i) (nI (st + 1)) := by
      intro h1 e1 e2
      show f_Cr_layGrid_47 k17 (f_Cr_layGrid_L47 k17 N) h x2 x3 x (nI st) = _
      unfold f_Cr_layGrid_47
      rw [i2, if_neg (mt (zc_le (k := 24) (by decide) (by omega)).mp (by omega)), if_neg (zc_m1 (by omega)), e1, Option.bind_some, if_pos (zi_in (by omega) i1), nI_clamp (show i < 2147483648 by omega), nI_1, e2]
    by_cases z : kd = 29
    · rw [if_pos z] at H
      have hc1 := hfl (by show decide (kd = 29) = true; rw [decide_eq_true z])
      obtain ⟨h1, hh1⟩ : ∃ h1, h1 = zs_uM h 50 (rr * 12 + c - 1) 1 := ⟨_, rfl⟩
      have e1 : f_Cr_layCell h (nI i) = some h1 := by
        unfold f_Cr_layCell
        simp only [if_pos (zi_in (show i < 2147483648 by omega) i1), nI_clamp (show i < 2147483648 by omega), f' 13 (by decide), i3]
        rw [if_pos (show nI kd = 29 by rw [z]; rfl), hr, hc, show nI rr * 12 + nI c - 1 = nI (rr * 12 + c - 1) by rw [show (12 : Int32) = nI 12 from rfl, zi_mul, nI_add, show (1 : Int32) = nI 1 from rfl, zi_sub (by omega)], if_pos (zi_in (by omega) (by omega)), nI_clamp (show rr * 12 + c - 1 < 2147483648 by omega), vb1, hh1]
      have fr1 : zfr yu_g yu_m [] h h1 := by rw [hh1]; exact zfr_M (by decide) zfr_rfl
      have f1 : yC_f h0 h1 := zfr_trans f (zfr_w fr1 (by decide) (by decide) (by decide))
      obtain ⟨h2, b1, b2, b3, b4, b5, b6⟩ := ihr _ _ ow c (st + 1) N cs h1 H f1 (by rw [hh1]; exact hr) (by rw [hh1]; exact hc) (by rw [hh1]; exact ho) (fun _ => hc1) hcs (by omega) (by omega)
      refine ⟨h2, ?_, zfr_trans fr1 b2, b3, b4, fun j hj => ?_, b6⟩
      · rw [stp h1 e1 (f1.2.1 18 (by decide))]; exact b1
      · obtain ⟨d1, d2, d3, d4⟩ := b5 j hj
        have g1 : (h1.2.1 48) j = (h.2.1 48) j := by rw [hh1, zu_MM, if_neg (fun w => absurd w.1 (by decide))]
        have g2 : (h1.2.1 49) j = (h.2.1 49) j := by rw [hh1, zu_MM, if_neg (fun w => absurd w.1 (by decide))]
        refine ⟨d1.trans g1, d2.trans g2, fun w => ?_, fun w => ?_⟩
        · rw [d3 w, hh1, zu_MM, if_neg (fun w2 => by have : j = rr * 12 + c - 1 := w2.2; omega)]
        · have : (h1.2.1 50) j = 1 := by rw [hh1, zu_MM, if_pos ⟨rfl, by omega⟩]
          rw [d4 w, this, ite_self]
          have ef : yu_fl (.inner kd kv o lc r) = true := by show decide (kd = 29) = true; rw [decide_eq_true z]
          rw [if_pos ef]
    · rw [if_neg z] at H
      obtain ⟨v, S, E, cs', ecs, ⟨NN, OO⟩, hE, R⟩ := H
      have z' : ¬ nI kd = 29 := fun e => z ((zc_eq (k := 29) (by decide) (by omega)).mp e)
      have ef : yu_fl (.inner kd kv o lc r) = false := by show decide (kd = 29) = false; rw [decide_eq_false z]
      subst ecs
      have hcs' : c + (cs'.length + 1) ≤ 12 := hcs
      obtain ⟨hA, hhA⟩ : ∃ hA, hA = zs_uM (zs_uM h 48 (rr * 12 + c) (nI i)) 50 (rr * 12 + c) 0 := ⟨_, rfl⟩
      obtain ⟨hB, hhB⟩ : ∃ hB, hB = if kd = 25 ∧ 2 ≤ v then zs_uF (zs_uM hA 49 (rr * 12 + c) (nI ow)) 47 4 (nI (ow + 1)) else hA := ⟨_, rfl⟩
      obtain ⟨h1, hh1⟩ : ∃ h1, h1 = zs_uF hB 47 11 (nI (c + 1)) := ⟨_, rfl⟩
      have eat : nI rr * 12 + nI c = nI (rr * 12 + c) := by rw [show (12 : Int32) = nI 12 from rfl, zi_mul, nI_add]
      have cB : (hB.1 47 11) = nI c := by rw [hhB]; split <;> (rw [hhA]; exact hc)
      have e1 : f_Cr_layCell h (nI i) = some h1 := by
        unfold f_Cr_layCell
        simp only [if_pos (zi_in (show i < 2147483648 by omega) i1), nI_clamp (show i < 2147483648 by omega), f' 13 (by decide), i3, f' 16 (by decide)]
        rw [if_neg z', hr, hc, eat, if_pos (zi_in (by omega) (by omega)), nI_clamp (show rr * 12 + c < 2147483648 by omega), vb0, ← hhA]
        have fin : f_Cr_layCell_98 hB = some h1 := by
          unfold f_Cr_layCell_98
          rw [cB, nI_1, hh1]
        by_cases z5 : kd = 25
        · have ev := (NN.2.1 z5).1
          have ev' : (h0.2.1 16) i = nI v := ev
          have v4 : v < 4 := NN.1.2.1
          rw [if_pos (show nI kd = 25 by rw [z5]; rfl), ev']
          by_cases z2 : v < 2
          · rw [if_pos ((zc_tl (k := 2) (by decide) (by omega)).mpr z2)]
            rw [if_neg (fun w => by omega)] at hhB
            rw [← hhB]; exact fin
          · rw [if_neg (mt (zc_tl (k := 2) (by decide) (by omega)).mp z2)]
            rw [if_pos ⟨z5, by omega⟩] at hhB
            rw [ho, nI_1, ← hhB]; exact fin
        · rw [if_neg (show ¬ nI kd = 25 from fun e => z5 ((zc_eq (k := 25) (by decide) (by omega)).mp e))]
          rw [if_neg (fun w => z5 w.1)] at hhB
          rw [← hhB]; exact fin
      have frA : zfr yu_g yu_m [] h hA := by rw [hhA]; exact zfr_M (by decide) (zfr_M (by decide) zfr_rfl)
      have frB : zfr yu_g yu_m [] h hB := by
        rw [hhB]; split
        · exact zfr_F (by decide) (zfr_M (by decide) frA)
        · exact frA
      have fr1 : zfr yu_g yu_m [] h h1 := by rw [hh1]; exact zfr_F (by decide) frB
      have f1 : yC_f h0 h1 := zfr_trans f (zfr_w fr1 (by decide) (by decide) (by decide))
      have o1 : (h1.1 47 4) = nI (ow + (if kd = 25 ∧ 2 ≤ v then 1 else 0)) := by
        rw [hh1]
        show (hB.1 47 4) = _
        rw [hhB]
        split
        · rfl
        · rw [hhA]; exact ho
      obtain ⟨h2, b1, b2, b3, b4, b5, b6⟩ := ihr _ _ _ (c + 1) (st + 1) N cs' h1 R f1 ((fr1.1 _ _ (by decide)).trans hr) (by rw [hh1]; rfl) o1 (fun _ => by omega) (by omega) (by omega) (by omega)
      have g1 : ∀ j, (h1.2.1 48) j = if j = rr * 12 + c then nI i else (h.2.1 48) j := by
        intro j
        rw [hh1]
        show (hB.2.1 48) j = _
        have : (hB.2.1 48) j = (hA.2.1 48) j := by
          rw [hhB]; split
          · rw [zu_FM, zu_MM, if_neg (fun w => absurd w.1 (by decide))]
          · rfl
        rw [this, hhA, zu_MM, if_neg (fun w => absurd w.1 (by decide)), zu_MM]
        by_cases w : j = rr * 12 + c
        · rw [if_pos ⟨rfl, w⟩, if_pos w]
        · rw [if_neg (fun u => w u.2), if_neg w]
      have g2 : ∀ j, (h1.2.1 50) j = if j = rr * 12 + c then 0 else (h.2.1 50) j := by
        intro j
        rw [hh1]
        show (hB.2.1 50) j = _
        have : (hB.2.1 50) j = (hA.2.1 50) j := by
          rw [hhB]; split
          · rw [zu_FM, zu_MM, if_neg (fun w => absurd w.1 (by decide))]
          · rfl
        rw [this, hhA, zu_MM]
        by_cases w : j = rr * 12 + c
        · rw [if_pos ⟨rfl, w⟩, if_pos w]
        · rw [if_neg (fun u => w u.2), if_neg w, zu_MM, if_neg (fun w => absurd w.1 (by decide))]
      have g3 : ∀ j, (h1.2.1 49) j = if j = rr * 12 + c ∧ (kd = 25 ∧ 2 ≤ v) then nI ow else (h.2.1 49) j := by
        intro j
        rw [hh1]
        show (hB.2.1 49) j = _
        have eA : (hA.2.1 49) j = (h.2.1 49) j := by rw [hhA, zu_MM, if_neg (fun w => absurd w.1 (by decide)), zu_MM, if_neg (fun w => absurd w.1 (by decide))]
        rw [hhB]
        by_cases w : kd = 25 ∧ 2 ≤ v
        · rw [if_pos w, zu_FM, zu_MM]
          by_cases w2 : j = rr * 12 + c
          · rw [if_pos ⟨rfl, w2⟩, if_pos ⟨w2, w⟩]
          · rw [if_neg (fun u => w2 u.2), if_neg (fun u => w2 u.1), eA]
        · rw [if_neg w, if_neg (fun u => w u.2), eA]
      refine ⟨h2, ?_, zfr_trans fr1 b2, ?_, ?_, fun j hj => ?_, fun j t et => ?_⟩
      · rw [stp h1 e1 (f1.2.1 18 (by decide))]; exact b1
      · rw [b3]; exact congrArg nI (show c + 1 + cs'.length = c + (cs'.length + 1) by omega)
      · rw [b4]; exact congrArg nI (show ow + (if kd = 25 ∧ 2 ≤ v then 1 else 0) + yu_ec cs' = ow + ((if kd = 25 ∧ 2 ≤ v then 1 else 0) + yu_ec cs') by omega)
      · obtain ⟨d1, d2, d3, _⟩ := b5 j (by omega)
        rw [ef]
        rw [d1, d2, d3 (by omega), g1, g2, g3, if_neg (by omega), if_neg (by omega), if_neg (by omega)]
        exact ⟨rfl, rfl, fun _ => rfl, fun _ => (if_neg (by decide)).symm⟩
      · cases j with
        | zero =>
          have et' : some ((kd, v, S, E, yu_fl r, i, k) : yT) = some t := et
          cases et'
          obtain ⟨d1, d2, _, d4⟩ := b5 (rr * 12 + c) (by omega)
          rw [Nat.add_zero, d1, d2, d4 (by omega), g1, g2, g3, if_pos rfl, if_pos rfl]
          refine ⟨rfl, rfl, fun w1 w2 => ?_⟩
          rw [if_pos ⟨rfl, w1, w2⟩, hE w1 w2]
        | succ j =>
          have := b6 j t et
          rw [show rr * 12 + (c + 1) + j = rr * 12 + c + (j + 1) by omega] at this
          exact this
end YUJ
end
section
/-! The coder: the grid of a rung, on both sides. -/
def yu_Q (h0 g0 : zs_H) : zt_T → Int32 → Int32 → Nat → List (List yT) → Prop
  | .leaf, x, x', _, rows => x = -1 ∧ x' = -1 ∧ rows = []
  | .inner _ _ _ lc r, x, x', ow, rows => ∃ (i k : Nat) (cs : List yT) (rows' : List (List yT)), rows = cs :: rows' ∧ (i < 32784 ∧ x = nI i) ∧ (k < 33500 ∧ x' = nI k) ∧ (yu_R h0 g0 lc ((h0.2.1 17) i) ((g0.2.1 76) k) ow cs ∧ yu_fl lc = false ∧ zt_ln lc ≤ 24) ∧ yu_Q h0 g0 r ((h0.2.1 18) i) ((g0.2.1 78) k) (ow + yu_ec cs) rows'
def yu_er : List (List yT) → Nat
  | [] => 0
  | cs :: rows => yu_ec cs + yu_er rows
def yu_q (rows : List (List yT)) (r c : Nat) : yT := (rows.getD r []).getD c (27, 0, 0, 0, false, 0, 0)
theorem yu_qg {rows : List (List yT)} {r c : Nat} {cs : List yT} {t : yT} (h1 : rows[r]? = some cs) (h2 : cs[c]? = some t) : yu_q rows r c = t := by
  unfold yu_q
  rw [List.getD_eq_getElem?_getD, List.getD_eq_getElem?_getD, h1]
  show (cs[c]?).getD _ = t
  rw [h2]; rfl
section YUK
variable {h0 g0 : zs_H}
theorem yu_Ql : ∀ (t : zt_T) (x x' : Int32) (ow : Nat) (rows : List (List yT)), yu_Q h0 g0 t x x' ow rows → rows.length = zt_ln t := by
  intro t
  induction t with
  | leaf => intro x x' ow rows ⟨_, _, e⟩; rw [e]; rfl
  | inner kd kv o lc r _ ihr =>
    intro x x' ow rows ⟨i, k, cs, rows', e, _, _, _, Q⟩
    rw [e]
    have := ihr _ _ _ _ Q
    show rows'.length + 1 = 1 + zt_ln r
    omega
/-- the class lays the grid -/
theorem yu_grd {m : Nat} (hm : m ≤ 12) : ∀ (t : zt_T) (x x' : Int32) (ow rr N : Nat) (rows : List (List yT)) (h : zs_H), yu_Q h0 g0 t x x' ow rows → (∀ cs, cs ∈ rows → cs.length = m) → yC_f h0 h → (h.1 47 10) = nI rr → (h.1 47 4) = nI ow → rr + zt_ln t ≤ 12 → zt_ln t < N → ∃ h', f_Cr_layGrid_L17 N h x (nI rr) = some h' ∧ zfr ((47, 10) :: yu_g) yu_m [] h h' ∧ (h'.1 47 10) = nI (rr + rows.length) ∧ (¬ rows = [] → (h'.1 47 11) = nI m) ∧ (h'.1 47 4) = nI (ow + yu_er rows) ∧ (∀ j, j < rr * 12 → (h'.2.1 48) j = (h.2.1 48) j ∧ (h'.2.1 50) j = (h.2.1 50) j ∧ (h'.2.1 49) j = (h.2.1 49) j) ∧ ∀ r cs c t, rows[r]? = some cs → cs[c]? = some t → (h'.2.1 48) ((rr + r) * 12 + c) = nI t.2.2.2.2.2.1 ∧ (h'.2.1 50) ((rr + r) * 12 + c) = (if t.2.2.2.2.1 = true then 1 else 0) ∧ (t.1 = 25 → 2 ≤ t.2.1 → (h'.2.1 49) ((rr + r) * 12 + c) = nI t.2.2.2.1) := by
  have hz := zF_big
  intro t
  induction t with
  | leaf =>
    intro x x' ow rr N rows h ⟨e1, _, e3⟩ _ f hr ho hs hN
    obtain ⟨N, rfl⟩ : ∃ z, N = z + 1 := ⟨N - 1, by omega⟩
    subst e3
    refine ⟨h, ?_, zfr_rfl, hr, fun w => absurd rfl w, ho, fun j _ => ⟨rfl, rfl, rfl⟩, fun r cs c t e => by cases e⟩
    show f_Cr_layGrid_17 (f_Cr_layGrid_L17 N) h x (nI rr) = _
    unfold f_Cr_layGrid_17
    rw [e1, if_pos (show (-1 : Int32) = -1 from rfl), ite_self]
  | inner kd kv o lc r _ ihr =>
    intro x x' ow rr N rows h ⟨i, k, cs, rows', e, ⟨i1, i2⟩, _, ⟨R, fl, l24⟩, Q⟩ hl f hr ho hs hN
    have hln : zt_ln (.inner kd kv o lc r) = 1 + zt_ln r := rfl
    obtain ⟨N, rfl⟩ : ∃ z, N = z + 1 := ⟨N - 1, by omega⟩
    subst e
    have hcl := hl cs List.mem_cons_self
    obtain ⟨hA, hhA⟩ : ∃ hA, hA = zs_uF h 47 11 0 := ⟨_, rfl⟩
    have fA : yC_f h0 hA := by rw [hhA]; exact zfr_F (by decide) f
    obtain ⟨h1, a1, a2, a3, a4, a5, a6⟩ := yu_lay (k17 := f_Cr_layGrid_L17 N) (x2 := nI i) (x3 := nI rr) (show rr < 12 by omega) lc _ _ ow 0 0 zF cs hA R fA (by rw [hhA]; exact hr) (by rw [hhA]; rfl) (by rw [hhA]; exact ho) (fun w => by rw [fl] at w; cases w) (by omega) (by omega) (by omega)
    have frA : zfr yu_g yu_m [] h hA := by rw [hhA]; exact zfr_F (by decide) zfr_rfl
    have fr1 : zfr yu_g yu_m [] h h1 := zfr_trans frA a2
    have f1 : yC_f h0 h1 := zfr_trans f (zfr_w fr1 (by decide) (by decide) (by decide))
    have r1 : (h1.1 47 10) = nI rr := (fr1.1 _ _ (by decide)).trans hr
    obtain ⟨h2, hh2⟩ : ∃ h2, h2 = zs_uF h1 47 10 (nI (rr + 1)) := ⟨_, rfl⟩
    have f2 : yC_f h0 h2 := by rw [hh2]; exact zfr_F (by decide) f1
    obtain ⟨h3, b1, b2, b3, b4, b5, b6, b7⟩ := ihr _ _ (ow + yu_ec cs) (rr + 1) N rows' h2 Q (fun c hc => hl c (List.mem_cons_of_mem _ hc)) f2 (by rw [hh2]; rfl) (by rw [hh2]; exact a4) (by omega) (by omega)
    refine ⟨h3, ?_, ?_, ?_, fun _ => ?_, ?_, fun j hj => ?_, fun r' cs' c t e1 e2 => ?_⟩
    · show f_Cr_layGrid_17 (f_Cr_layGrid_L17 N) h x (nI rr) = _
      unfold f_Cr_layGrid_17
      rw [i2, if_neg (mt (zc_le (k := 12) (by decide) (by omega)).mp (by omega)), if_neg (zc_m1 (by omega)), if_pos (zi_in (by omega) i1), nI_clamp (show i < 2147483648 by omega), f.2.1 17 (by decide), ← hhA]
      refine Eq.trans a1 ?_
      unfold f_Cr_layGrid_84
      rw [if_pos (zi_in (by omega) i1), nI_clamp (show i < 2147483648 by omega), r1, nI_1, ← hh2, f1.2.1 18 (by decide)]
      exact b1
    · refine zfr_trans (zfr_w fr1 (by decide) (by decide) (by decide)) (zfr_trans ?_ b2)
      rw [hh2]; exact zfr_F (by decide) zfr_rfl
    · rw [b3]; exact congrArg nI (show rr + 1 + rows'.length = rr + (rows'.length + 1) by omega)
    · by_cases w : rows' = []
      · subst w
        have en : r = .leaf := by
          have := yu_Ql _ _ _ _ _ Q
          cases r with
          | leaf => rfl
          | inner => exact absurd this (by show ¬ 0 = 1 + _; omega)
        subst en
        obtain ⟨N, rfl⟩ : ∃ z, N = z + 1 := ⟨N - 1, by omega⟩
        have : h3 = h2 := by
          have q1 : f_Cr_layGrid_L17 (N + 1) h2 ((h0.2.1 18) i) (nI (rr + 1)) = some h2 := by
            show f_Cr_layGrid_17 (f_Cr_layGrid_L17 N) h2 ((h0.2.1 18) i) (nI (rr + 1)) = _
            unfold f_Cr_layGrid_17
            rw [Q.1, if_pos (show (-1 : Int32) = -1 from rfl), ite_self]
          exact Option.some.inj (b1.symm.trans q1)
        rw [this, hh2]
        show (h1.1 47 11) = _
        rw [a3, hcl, Nat.zero_add]
      · exact b4 w
    · rw [b5]; exact congrArg nI (show ow + yu_ec cs + yu_er rows' = ow + (yu_ec cs + yu_er rows') by omega)
    · obtain ⟨d1, d2, d3⟩ := b6 j (by omega)
      obtain ⟨c1, c2, c3, c4⟩ := a5 j (by omega)
      have el : (h1.2.1 50) j = (hA.2.1 50) j := by
        by_cases w : j + 1 = rr * 12 + 0
        · rw [c4 w, fl]; exact if_neg (by decide)
        · exact c3 w
      rw [d1, d2, d3, hh2]
      show (h1.2.1 48) j = _ ∧ (h1.2.1 50) j = _ ∧ (h1.2.1 49) j = _
      rw [c1, c2, el, hhA]
      exact ⟨rfl, rfl, rfl⟩
    · cases r' with
      | zero =>
        have e1' : some cs = some cs' := e1
        cases e1'
        have hc : c < 12 := by
          have := (List.getElem?_eq_some_iff.mp e2).1
          omega
        obtain ⟨d1, d2, d3⟩ := b6 (rr * 12 + c) (by omega)
        have := a6 c t e2
        rw [show (rr + 0) * 12 + c = rr * 12 + c from rfl, d1, d2, d3, hh2]
        exact this
      | succ r' =>
        have := b7 r' cs' c t e1 e2
        rw [show rr + 1 + r' = rr + (r' + 1) by omega] at this
        exact this
/-- where the model finds the rows -/
theorem yu_roM : ∀ (t : zt_T) (x x' : Int32) (ow : Nat) (rows : List (List yT)) (cnt tg N : Nat), yu_Q h0 g0 t x x' ow rows → cnt ≤ tg → tg < 1000 → zt_ln t < N → (tg - cnt < rows.length → ∃ k cs l y ow', k < 33500 ∧ rows[tg - cnt]? = some cs ∧ f_Mo_rowOf_L10 g0 N (nI tg) x' (nI cnt) = some (nI k) ∧ yu_R h0 g0 l y ((g0.2.1 76) k) ow' cs ∧ zt_ln l ≤ 24) ∧ (rows.length ≤ tg - cnt → ∃ y, y < 0 ∧ f_Mo_rowOf_L10 g0 N (nI tg) x' (nI cnt) = some y) := by
  intro t
  induction t with
  | leaf =>
    intro x x' ow rows cnt tg N ⟨_, e2, e3⟩ h1 h2 hN
    obtain ⟨N, rfl⟩ : ∃ z, N = z + 1 := ⟨N - 1, by omega⟩
    subst e3
    refine ⟨fun w => absurd w (Nat.not_lt_zero _), fun _ => ⟨-1, by decide, ?_⟩⟩
    show f_Mo_rowOf_10 g0 (f_Mo_rowOf_L10 g0 N) (nI tg) x' (nI cnt) = _
    unfold f_Mo_rowOf_10
    rw [e2, if_pos (show (-1 : Int32) < 0 by decide), ite_self]
  | inner kd kv o lc r _ ihr =>
    intro x x' ow rows cnt tg N ⟨i, k, cs, rows', e, _, ⟨k1, k2⟩, ⟨R, _, l24⟩, Q⟩ h1 h2 hN
    have hln : zt_ln (.inner kd kv o lc r) = 1 + zt_ln r := rfl
    obtain ⟨N, rfl⟩ : ∃ z, N = z + 1 := ⟨N - 1, by omega⟩
    subst e
    have hlen : (cs :: rows').length = rows'.length + 1 := rfl
    by_cases z : cnt = tg
    · subst z
      refine ⟨fun _ => ⟨k, cs, lc, _, ow, k1, by rw [Nat.sub_self]; rfl, ?_, R, l24⟩, fun w => absurd w (by rw [Nat.sub_self]; omega)⟩
      show f_Mo_rowOf_10 g0 (f_Mo_rowOf_L10 g0 N) (nI cnt) x' (nI cnt) = _
      unfold f_Mo_rowOf_10
      rw [if_pos ((nI_leI (by omega) (by omega)).mpr (Nat.le_refl _)), k2]
    · have es : f_Mo_rowOf_L10 g0 (N + 1) (nI tg) x' (nI cnt) = f_Mo_rowOf_L10 g0 N (nI tg) ((g0.2.1 78) k) (nI (cnt + 1)) := by
        show f_Mo_rowOf_10 g0 (f_Mo_rowOf_L10 g0 N) (nI tg) x' (nI cnt) = _
        unfold f_Mo_rowOf_10
        rw [if_neg (mt (nI_leI (by omega) (by omega)).mp (by omega)), k2, if_neg (nI_pos (by omega)), if_pos (zi_in (by omega) k1), nI_clamp (show k < 2147483648 by omega), nI_1]
      have ee : tg - cnt = tg - (cnt + 1) + 1 := by omega
      have w1 : tg - cnt < (cs :: rows').length → tg - (cnt + 1) < rows'.length := by omega
      have w2 : (cs :: rows').length ≤ tg - cnt → rows'.length ≤ tg - (cnt + 1) := by omega
      obtain ⟨q1, q2⟩ := ihr _ _ _ _ (cnt + 1) tg N Q (by omega) h2 (by omega)
      rw [es]
      refine ⟨fun w => ?_, fun w => q2 (w2 w)⟩
      obtain ⟨k', cs', l, y, ow', b1, b2, b3⟩ := q1 (w1 w)
      refine ⟨k', cs', l, y, ow', b1, ?_, b3⟩
      rw [ee]
      exact b2
end YUK
end
section
/-! The coder: a rung, on both sides. -/
abbrev yU_F : List (Nat × Nat) := [(41, 5), (47, 4), (47, 6), (47, 10), (47, 11)]
abbrev yU_M : List Nat := [42, 43, 44, 45, 48, 49, 50]
/-- a part of a unit has been coded -/
def yC_U (n : Nat) (L : List yI) (h h' : zs_H) : Prop := (h'.1 41 5) = nI (n + L.length) ∧ zfr yU_F yU_M [] h h' ∧ (n + L.length ≤ 4000 → (∀ j, j < n → ∀ a, a ∈ yC_w → h'.2.1 a j = h.2.1 a j) ∧ ∀ k i, L[k]? = some i → yC_m h' (n + k) i)
section YUL
variable {n : Nat} {L L1 L2 : List yI} {h h1 h2 h' : zs_H}
theorem yC_UE (E : yC_E n L h h') : yC_U n L h h' := ⟨E.1, zfr_w E.2.1 (by decide) (by decide) (by decide), E.2.2⟩
theorem yC_U0 (es : (h.1 41 5) = nI n) (f : zfr yU_F yU_M [] h h') (e1 : (h'.1 41 5) = (h.1 41 5)) (e2 : ∀ a, a ∈ yC_w → h'.2.1 a = h.2.1 a) : yC_U n [] h h' := ⟨e1.trans es, f, fun _ => ⟨fun j _ a ha => by rw [e2 a ha], fun k i e => by cases e⟩⟩
theorem yC_Uap (A : yC_U n L1 h h1) (B : yC_U (n + L1.length) L2 h1 h2) : yC_U n (L1 ++ L2) h h2 := by
  obtain ⟨a1, a2, a3⟩ := A
  obtain ⟨b1, b2, b3⟩ := B
  have el : n + (L1 ++ L2).length = n + L1.length + L2.length := by rw [List.length_append]; omega
  refine ⟨by rw [el]; exact b1, zfr_trans a2 b2, fun h4 => ?_⟩
  rw [el] at h4
  obtain ⟨c1, c2⟩ := a3 (by omega)
  obtain ⟨d1, d2⟩ := b3 h4
  refine ⟨fun j hj a ha => (d1 j (by omega) a ha).trans (c1 j hj a ha), fun k i e => ?_⟩
  rw [List.getElem?_append] at e
  by_cases z : k < L1.length
  · rw [if_pos z] at e
    have m0 := c2 k i e
    have hd := fun a ha => d1 (n + k) (by omega) a ha
    unfold yC_m at m0 ⊢
    rw [hd _ (by decide), hd _ (by decide), hd _ (by decide), hd _ (by decide)]
    exact m0
  · rw [if_neg z] at e
    have := d2 _ i e
    rw [show n + L1.length + (k - L1.length) = n + k by omega] at this
    exact this
end YUL
section YUM
variable {h0 g0 h g : zs_H} {m pw ow i k b s v kk : Nat} {l : zt_T} {rows : List (List yT)}
/-- the form of the rows -/
def yu_F (m : Nat) (rows : List (List yT)) : Prop := (1 ≤ rows.length ∧ rows.length ≤ 12 ∧ 1 ≤ m ∧ m ≤ 12) ∧ (∀ cs, cs ∈ rows → cs.length = m) ∧ ∀ r c, r < rows.length → c < m → (yu_q rows r c).1 = 28 → c = m - 1
theorem yu_Fg {r c : Nat} (F : yu_F m rows) (hr : r < rows.length) (hc : c < m) : ∃ cs, rows[r]? = some cs ∧ cs[c]? = some (yu_q rows r c) ∧ cs.length = m := by
  have e1 : rows[r]? = some rows[r] := List.getElem?_eq_getElem hr
  have hl := F.2.1 rows[r] (List.getElem_mem hr)
  have e2 : (rows[r])[c]? = some (rows[r])[c] := List.getElem?_eq_getElem (by omega)
  exact ⟨_, e1, by rw [yu_qg e1 e2]; exact e2, hl⟩
theorem yu_Qn : ∀ (l : zt_T) (x x' : Int32) (ow : Nat) (rows : List (List yT)), yu_Q h0 g0 l x x' ow rows → ∀ cs, cs ∈ rows → ∀ t, t ∈ cs → yu_N h0 t ∧ yu_O g0 t := by
  intro l
  induction l with
  | leaf => intro x x' ow rows ⟨_, _, e⟩ cs hc; rw [e] at hc; cases hc
  | inner kd kv o lc r _ ihr =>
    intro x x' ow rows ⟨i, k, cs0, rows', e, _, _, ⟨R, _, _⟩, Q⟩ cs hc t ht
    rw [e] at hc
    rcases List.mem_cons.mp hc with z | z
    · rw [z] at ht; exact (yu_Rl _ _ _ _ _ R).2 t ht
    · exact ihr _ _ _ _ Q cs z t ht
theorem yu_no {x x' : Int32} (Q : yu_Q h0 g0 l x x' ow rows) (F : yu_F m rows) {r c : Nat} (hr : r < rows.length) (hc : c < m) : yu_N h0 (yu_q rows r c) ∧ yu_O g0 (yu_q rows r c) := by
  obtain ⟨cs, e1, e2, _⟩ := yu_Fg F hr hc
  exact yu_Qn l _ _ _ _ Q cs (List.mem_of_getElem? e1) _ (List.mem_of_getElem? e2)
/-- the class -/
theorem yu_rC (Q : yu_Q h0 g0 l ((h0.2.1 17) i) ((g0.2.1 76) k) ow rows) (F : yu_F m rows) (hi : i < 32784) (f : yC_f h0 h) (es : (h.1 41 5) = nI kk) (ho : (h.1 47 4) = nI ow) (hp : (h.1 47 5) = nI pw) (hpw : pw < 100000) (hk : kk + 1700 ≤ 90000000) : ∃ h', f_Cr_codeRung h (nI i) = some h' ∧ yC_U kk (yu_rg pw (yu_q rows) rows.length m) h h' ∧ (h'.1 47 4) = nI (ow + yu_er rows) ∧ (h'.1 47 6) = (h.1 47 6) ∧ (yu_cs pw (yu_q rows) rows.length m m).length ≤ 1584 ∧ (yu_rg pw (yu_q rows) rows.length m).length ≤ 11 * rows.length * m + 5 * rows.length := by
  have hz := zF_big
  have fn := F.1
  have hn := yu_Ql _ _ _ _ _ Q
  obtain ⟨hA, hhA⟩ : ∃ hA, hA = zs_uF h 47 10 0 := ⟨_, rfl⟩
  have fA : yC_f h0 hA := by rw [hhA]; exact zfr_F (by decide) f
  obtain ⟨h1, a1, a2, a3, a4, a5, _, a7⟩ := yu_grd (m := m) (by omega) l _ _ ow 0 zF rows hA Q F.2.1 fA (by rw [hhA]; rfl) (by rw [hhA]; exact ho) (by omega) (by omega)
  have f1 : yC_f h0 h1 := zfr_trans fA (zfr_w a2 (by decide) (by decide) (by decide))
  have S1 : yu_S pw rows.length m (yu_q rows) h1 := by
    refine ⟨⟨by rw [a3, Nat.zero_add], a4 (fun z => by rw [z] at fn; exact absurd fn.1 (by decide)), (a2.1 _ _ (by decide)).trans (by rw [hhA]; exact hp)⟩, ⟨fn.1, fn.2.1, fn.2.2.1, fn.2.2.2, hpw⟩, fun r c hr hc => ?_⟩
    obtain ⟨cs, e1, e2, _⟩ := yu_Fg F hr hc
    have := a7 r cs c _ e1 e2
    rw [Nat.zero_add] at this
    exact this
  have s1 : (h1.1 41 5) = nI kk := (a2.1 _ _ (by decide)).trans (by rw [hhA]; exact es)
  have hb : 11 * rows.length * m ≤ 1584 := by
    have : rows.length * m ≤ 12 * 12 := Nat.mul_le_mul fn.2.1 fn.2.2.2
    rw [Nat.mul_assoc]
    omega
  obtain ⟨b0, h2, b1, b2⟩ := yu_csC (pw := pw) (fun r c hr hc => (yu_no Q F hr hc).1) m kk zF h1 (Nat.le_refl _) f1 S1 s1 (by omega) (by omega)
  rw [Nat.sub_self] at b1
  obtain ⟨c0, _⟩ := yu_clC (pw := pw) (fun r hr => (yu_no Q F hr (show m - 1 < m by omega)).1) rows.length kk zF h1 (Nat.le_refl _) f1 S1 s1 (by omega) (by omega)
  refine ⟨h2, ?_, ?_, ?_, ?_, by omega, by unfold yu_rg; rw [List.length_append]; omega⟩
  · unfold f_Cr_codeRung f_Cr_layGrid
    rw [if_pos (zi_in (by omega) hi), nI_clamp (show i < 2147483648 by omega), f.2.1 17 (by decide), ← hhA]
    rw [show f_Cr_layGrid_L17 zF hA ((h0.2.1 17) i) 0 = some h1 from a1, Option.bind_some]
    exact b1
  · have u1 : yC_U kk [] h h1 := yC_U0 es (zfr_trans (show zfr yU_F yU_M [] h hA by rw [hhA]; exact zfr_F (by decide) zfr_rfl) (zfr_w a2 (by decide) (by decide) (by decide))) (s1.trans es.symm) (fun a ha => by
      have ha' : a = 42 ∨ a = 43 ∨ a = 44 ∨ a = 45 := by simpa using ha
      have : ¬ a ∈ yu_m := by rcases ha' with e | e | e | e <;> subst e <;> decide
      rw [a2.2.1 a this, hhA]; rfl)
    exact (show yC_U kk ([] ++ yu_rg pw (yu_q rows) rows.length m) h h2 from yC_Uap u1 (yC_UE b2))
  · exact (b2.2.1.1 _ _ (by decide)).trans a5
  · rw [b2.2.1.1 _ _ (by decide), a2.1 _ _ (by decide), hhA]; rfl
/-- the model -/
theorem yu_rM (Q : yu_Q h0 g0 l ((h0.2.1 17) i) ((g0.2.1 76) k) ow rows) (F : yu_F m rows) (hk : k < 33500) (em : f_Mo_cellsIn g ((g0.2.1 76) k) = some (nI m)) (ex : (g0.2.1 88) b = nI (pw + 156)) (hpw : pw < 100000) (f : yM_f g0 g) (C : yM_c g kk s b v) (hkk : kk + (yu_cs pw (yu_q rows) rows.length m m).length + 60 ≤ 80000000) : ∃ g', f_Mo_rungCode g (nI k) = some g' ∧ yM_E s kk (yv v (yu_rg pw (yu_q rows) rows.length m)) g g' := by
  have hz := zF_big
  have fn := F.1
  have hn := yu_Ql _ _ _ _ _ Q
  have ro : ∀ tg, tg < 1000 → f_Mo_rowOf g0 (nI k) (nI tg) = f_Mo_rowOf_L10 g0 zF (nI tg) ((g0.2.1 76) k) (nI 0) := by
    intro tg _
    unfold f_Mo_rowOf
    rw [if_pos (zi_in (by omega) hk), nI_clamp (show k < 2147483648 by omega)]; rfl
  have key : ∀ r, r < rows.length → ∃ kr cs l' y ow', kr < 33500 ∧ rows[r]? = some cs ∧ f_Mo_rowOf g0 (nI k) (nI r) = some (nI kr) ∧ yu_R h0 g0 l' y ((g0.2.1 76) kr) ow' cs ∧ zt_ln l' ≤ 24 := by
    intro r hr
    obtain ⟨kr, cs, l', y, ow', b1, b2, b3, b4⟩ := (yu_roM l _ _ ow rows 0 r zF Q (Nat.zero_le _) (by omega) (by omega)).1 hr
    exact ⟨kr, cs, l', y, ow', b1, b2, by rw [ro r (by omega)]; exact b3, b4⟩
  obtain ⟨rk, hrk⟩ : ∃ rk : Nat → Nat, ∀ r, r < rows.length → ∃ cs l' y ow', rk r < 33500 ∧ rows[r]? = some cs ∧ f_Mo_rowOf g0 (nI k) (nI r) = some (nI (rk r)) ∧ yu_R h0 g0 l' y ((g0.2.1 76) (rk r)) ow' cs ∧ zt_ln l' ≤ 24 := by
    refine ⟨fun r => if h : r < rows.length then (key r h).choose else 0, fun r hr => ?_⟩
    simp only [dif_pos hr]
    exact (key r hr).choose_spec
  have Z : yu_Z g0 k rows.length m rk (yu_q rows) := by
    refine ⟨⟨hk, fn.1, fn.2.1, fn.2.2.1, fn.2.2.2⟩, fun r hr => ?_, ?_, fun r c hr hc => ?_⟩
    · obtain ⟨cs, l', y, ow', b1, _, b3, _⟩ := hrk r hr
      exact ⟨b3, b1⟩
    · obtain ⟨y, y1, y2⟩ := (yu_roM l _ _ ow rows 0 rows.length zF Q (Nat.zero_le _) (by omega) (by omega)).2 (Nat.le_refl _)
      exact ⟨y, by rw [ro _ (by omega)]; exact y2, y1⟩
    · obtain ⟨cs, l', y, ow', b1, b2, _, b4, b5⟩ := hrk r hr
      obtain ⟨cs', e1, e2, _⟩ := yu_Fg F hr hc
      have ec : cs = cs' := Option.some.inj (b2.symm.trans e1)
      subst ec
      refine ⟨?_, ?_⟩
      · unfold f_Mo_cellOf
        rw [if_pos (zi_in (by omega) b1), nI_clamp (show rk r < 2147483648 by omega)]
        exact yu_ceM l' _ _ _ _ c zF _ b4 e2 (by omega) (by omega)
      · unfold f_Mo_isLinked
        rw [if_pos (zi_in (by omega) b1), nI_clamp (show rk r < 2147483648 by omega)]
        have := yu_liM (col := c + 1) (by omega) l' _ _ _ _ 0 zF b4 (by omega) (by omega)
        have lb := yu_lbR l' _ _ _ _ 0 c _ b4 e2
        rw [show 0 + 1 + c = c + 1 by omega] at lb
        rw [lb] at this
        exact this
  exact yu_rgM Z em ex hpw (fun r c hr hc => (yu_no Q F hr hc).2) F.2.2 f C hkk
end YUM
end
section
/-! The coder: the rows of a rung out of the tree. -/
section YUN
variable {LC LM : List (List Int32)} {nb b sz ow : Nat} {F Fb X Y : Nat → Nat} {h0 g0 : zs_H} {P Q Qm : Nat → Prop} {up x x' y : Int32} {kd : Nat} {kv : Int32 × Int32} {o : Unit} {l r : zt_T}
/-- the cell that a contact sees, a coil writes -/
theorem yu_see (C : yj_cx LC LM nb b sz F Fb X Y h0 g0 P) {c : Nat} {xl xm : Int32} {lc : zt_T} (hc : c = 6 ∨ c = 33) (ok : zg_ok (.inner c kv o lc .leaf)) (A : yb_F Fb b h0 g0 P Q (.inner c kv o lc .leaf) xl xm (-1) (-1)) : ∃ (a ka S : Nat), (xl = nI a ∧ a < 32784) ∧ (xm = nI ka ∧ ka < 33500) ∧ f_Cr_cellOf h0 xl = some (nI S) ∧ (g0.2.1 101) ka = nI S ∧ S < Y b ∧ (c = 6 → ∃ w, (h0.2.1 16) a = nI w ∧ w < 6000 ∧ (h0.2.1 32) w = nI S ∧ ¬ (yq_k h0 b).2 S) ∧ ((h0.2.1 14) a = 0 → ∀ LD : Nat → Prop, yq_b LD h0 b S) := by
  obtain ⟨a, ka, xa, ⟨pa, ha, ea⟩, ⟨qa, hka, eka, _⟩, N, _, _⟩ := A
  have kB := (C.1.2.2 b C.2.1).1
  rcases hc with e | e
  · subst e
    obtain ⟨k6, u, xx, V, a1, a2, a3, a3t⟩ := yj_6 N
    obtain ⟨x0, s, ty, ⟨v1, v2⟩, ⟨v3, _⟩, _, ⟨v5, v6⟩, _, v8, _⟩ := yj_var C V
    have s1 := (v8 a3).1
    refine ⟨a, ka, x0, ⟨ea, ha⟩, ⟨eka, hka⟩, ?_, a2.trans v1, by omega, fun _ => ⟨32 + u, a1, by omega, v2, yj_ni C V a3 v2 (by omega)⟩, fun z LD => yq_bv (j := 0) C.1 C.2.1 (yj_ra C V).1 (.inl a3) (a3t.symm.trans z) v2 (by omega) v3 (by omega) (by omega)⟩
    unfold f_Cr_cellOf
    simp only [ea, if_pos (zi_in (show a < 2147483648 by omega) ha), nI_clamp (show a < 2147483648 by omega), a1, if_pos (zi_in (show 32 + u < 2147483648 by omega) (show 32 + u < 6000 by omega)), nI_clamp (show 32 + u < 2147483648 by omega), v2]
    rw [k6, if_neg (by decide)]
  · subst e
    rcases N with N | ⟨ty, _, t2, _, N⟩
    · exact absurd (yb_SE N) (fun z => z (by decide))
    · rcases N with ⟨e, _⟩ | ⟨e, _⟩ | ⟨e, _⟩ | ⟨_, k33, ech, e', u, xx, off, n3, n4, V, n6, n7, n8, n9, B, cv, d1, d2, d3, d4, d5, d6, d6t⟩ | ⟨e, _⟩ | ⟨e, _⟩ | ⟨e, _⟩ | ⟨e, _⟩
      · exact absurd e (by decide)
      · rcases e with e | e <;> exact absurd e (by decide)
      · exact absurd e (by decide)
      · have B3 : nb ≤ 568 := C.1.1.2.1.1.2.2
        have hbn := C.2.1
        have he := C.2.2.2.1 e' n4
        obtain ⟨x0, s, ty', ⟨v1, v2⟩, ⟨v3, _⟩, _, ⟨v5, v6⟩, _, _, v9⟩ := yj_var C V
        obtain ⟨_, _, w3⟩ := v9 B (by omega) d1
        obtain ⟨off', f1, f2, f3⟩ := yk_pin C.1 C.2.1 C.2.2.1 d2 d3 d6 w3 (by omega)
        have eo : off = off' := (nI_eq (by omega) (by omega)).mp (d5.symm.trans f1)
        subst eo
        refine ⟨a, ka, x0 + off, ⟨ea, ha⟩, ⟨eka, hka⟩, ?_, ?_, by omega, fun z => absurd z (by decide), fun z LD => (yq_bp C.1 C.2.1 C.2.2.1 (yj_ra C V).1 d1 d2 v2 (by omega) v3 (by omega) d3 d6 f1 f2).mpr (d6t.trans (t2.symm.trans z))⟩
        · unfold f_Cr_cellOf
          simp only [ea, if_pos (zi_in (show a < 2147483648 by omega) ha), nI_clamp (show a < 2147483648 by omega), n6, if_pos (zi_in (show 32 + u < 2147483648 by omega) (show 32 + u < 6000 by omega)), nI_clamp (show 32 + u < 2147483648 by omega), v2, ech, n3, if_pos (zi_in (show e' < 2147483648 by omega) he), nI_clamp (show e' < 2147483648 by omega), n7, nI_add]
          rw [k33, if_pos rfl]
        · rw [n8, ← nI_add, v1, nI_add]
      all_goals exact absurd e (by decide)
end YUN
end
