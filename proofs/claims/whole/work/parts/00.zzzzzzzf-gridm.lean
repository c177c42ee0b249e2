/-! The coder: rungs, the model's code. -/
/-- a rung in the model: node k, its rows' nodes -/
def yu_Z (g0 : zs_H) (k n m : Nat) (rk : Nat → Nat) (q : Nat → Nat → yT) : Prop := (k < 33500 ∧ 1 ≤ n ∧ n ≤ 12 ∧ 1 ≤ m ∧ m ≤ 12) ∧ (∀ r, r < n → f_Mo_rowOf g0 (nI k) (nI r) = some (nI (rk r)) ∧ rk r < 33500) ∧ (∃ x, f_Mo_rowOf g0 (nI k) (nI n) = some x ∧ x < 0) ∧ ∀ r c, r < n → c < m → f_Mo_cellOf g0 (nI (rk r)) (nI c) = some (nI (q r c).2.2.2.2.2.2) ∧ f_Mo_isLinked g0 (nI (rk r)) (nI (c + 1)) = some (if (q r c).2.2.2.2.1 = true then 1 else 0)
/-- a cell's node in the model -/
def yu_O (g0 : zs_H) (t : yT) : Prop := (t.1 < 100 ∧ t.2.1 < 4 ∧ t.2.2.2.2.2.2 < 33500 ∧ (g0.2.1 72) t.2.2.2.2.2.2 = nI t.1) ∧ (t.1 = 25 ∨ t.1 = 28 → (g0.2.1 74) t.2.2.2.2.2.2 = nI t.2.1 ∧ ∃ a, (g0.2.1 76) t.2.2.2.2.2.2 = nI a ∧ a < 33500 ∧ (g0.2.1 101) a = nI t.2.2.1) ∧ (t.1 = 25 → 2 ≤ t.2.1 → (g0.2.1 101) t.2.2.2.2.2.2 = nI t.2.2.2.1)
section YUF
variable {pw n m k b : Nat} {rk : Nat → Nat} {q : Nat → Nat → yT} {g0 g g' : zs_H}
theorem yu_fr (f : yM_f g0 g) : f_Mo_rowOf g = f_Mo_rowOf g0 ∧ f_Mo_cellOf g = f_Mo_cellOf g0 ∧ f_Mo_isLinked g = f_Mo_isLinked g0 := by
  have e : ∀ a, ¬ a ∈ yM_M → g.2.1 a = g0.2.1 a := fun a ha => f.2.1 a ha
  have r10 : f_Mo_rowOf_10 g = f_Mo_rowOf_10 g0 := by
    funext k10 x2 x3 x4
    unfold f_Mo_rowOf_10
    rw [e 78 (by decide)]
  have rL : f_Mo_rowOf_L10 g = f_Mo_rowOf_L10 g0 := by
    unfold f_Mo_rowOf_L10; rw [r10]
  have c44 : f_Mo_cellOf_44 g = f_Mo_cellOf_44 g0 := by
    funext k10 x4 y0 y1
    unfold f_Mo_cellOf_44
    rw [e 78 (by decide)]
  have c26 : f_Mo_cellOf_26 g = f_Mo_cellOf_26 g0 := by
    funext k10 x3 x4
    unfold f_Mo_cellOf_26
    rw [c44, e 72 (by decide)]
  have c10 : f_Mo_cellOf_10 g = f_Mo_cellOf_10 g0 := by
    funext k10 x3 x4
    unfold f_Mo_cellOf_10
    rw [c26, e 72 (by decide)]
  have cL : f_Mo_cellOf_L10 g = f_Mo_cellOf_L10 g0 := by
    unfold f_Mo_cellOf_L10; rw [c10]
  have i52 : f_Mo_isLinked_52 g = f_Mo_isLinked_52 g0 := by
    funext k10 x2 x4 y0 y1
    unfold f_Mo_isLinked_52
    rw [e 78 (by decide)]
  have i34 : f_Mo_isLinked_34 g = f_Mo_isLinked_34 g0 := by
    funext k10 x2 x3 x4
    unfold f_Mo_isLinked_34
    rw [i52, e 72 (by decide)]
  have i10 : f_Mo_isLinked_10 g = f_Mo_isLinked_10 g0 := by
    funext k10 x2 x3 x4
    unfold f_Mo_isLinked_10
    rw [i34, e 72 (by decide)]
  have iL : f_Mo_isLinked_L10 g = f_Mo_isLinked_L10 g0 := by
    unfold f_Mo_isLinked_L10; rw [i10]
  refine ⟨?_, ?_, ?_⟩
  · funext x1 x2
    unfold f_Mo_rowOf
    rw [rL, e 76 (by decide)]
  · funext x1 x2
    unfold f_Mo_cellOf
    rw [cL, e 76 (by decide)]
  · funext x1 x2
    unfold f_Mo_isLinked
    rw [iL, e 76 (by decide)]
theorem yu_lM {N : Nat} (f : yM_f g0 g) (Z : yu_Z g0 k n m rk q) {c : Nat} (hc : c < m) : ∀ r, r < n → r < N → f_Mo_leastRow_L3 g N (nI k) (nI (c + 1)) (nI r) = some (nI (yu_ls q r c)) := by
  obtain ⟨z1, z2, z3, z4⟩ := Z
  obtain ⟨e1, e2, e3⟩ := yu_fr f
  intro r
  induction r generalizing N with
  | zero =>
    intro hr hN
    obtain ⟨N, rfl⟩ : ∃ z, N = z + 1 := ⟨N - 1, by omega⟩
    show f_Mo_leastRow_3 g (f_Mo_leastRow_L3 g N) (nI k) (nI (c + 1)) (nI 0) = _
    unfold f_Mo_leastRow_3
    rw [if_pos (by decide)]; rfl
  | succ r ih =>
    intro hr hN
    obtain ⟨N, rfl⟩ : ∃ z, N = z + 1 := ⟨N - 1, by omega⟩
    show f_Mo_leastRow_3 g (f_Mo_leastRow_L3 g N) (nI k) (nI (c + 1)) (nI (r + 1)) = _
    unfold f_Mo_leastRow_3
    rw [if_neg (mt (zc_el (k := 0) (by decide) (by omega)).mp (by omega)), show nI (r + 1) - 1 = nI r from zi_sub (b := 1) (by omega), e1, (z2 r (by omega)).1, Option.bind_some, e3, (z4 r c (by omega) hc).2, Option.bind_some, zi_dec (by omega)]
    show (if (if (q r c).2.2.2.2.1 = true then (1 : Int32) else 0) = 0 then some (nI (r + 1)) else f_Mo_leastRow_L3 g N (nI k) (nI (c + 1)) (nI (r + 1 - 1))) = some (nI (if (q r c).2.2.2.2.1 = true then yu_ls q r c else r + 1))
    by_cases z : (q r c).2.2.2.2.1 = true
    · rw [if_pos z, if_neg (by decide), if_pos z]
      exact ih (by omega) (by omega)
    · rw [if_neg z, if_pos rfl, if_neg z]
theorem yu_lr (f : yM_f g0 g) (Z : yu_Z g0 k n m rk q) {r c : Nat} (hr : r < n) (hc : c < m) : f_Mo_leastRow g (nI k) (nI r) (nI (c + 1)) = some (nI (yu_ls q r c)) := by
  have hz := zF_big
  have := Z.1.2.2.1
  exact yu_lM f Z hc r hr (by omega)
theorem yu_pcM {kk s v : Nat} (f : yM_f g0 g) (C : yM_c g kk s b v) (Z : yu_Z g0 k n m rk q) (ex : (g0.2.1 88) b = nI (pw + 156)) {r c : Nat} (hr : r < n) (hc : c < m) : f_Mo_powerCell g (nI k) (nI r) (nI (c + 1)) = some (nI (yu_pw pw q r c)) := by
  unfold f_Mo_powerCell
  rw [C.2.1.1, if_pos (zi_in (by have := C.2.1.2.1; omega) (by have := C.2.1.2.1; omega)), nI_clamp (by have := C.2.1.2.1; omega), yu_lr f Z hr hc, Option.bind_some, f.2.1 88 (by decide), ex, show nI (pw + 156) - 156 = nI pw by rw [show (156 : Int32) = nI 156 from rfl, zi_sub (by omega), Nat.add_sub_cancel], show nI (c + 1) - 1 = nI c from zi_sub (b := 1) (by omega), zc_ml, nI_add, nI_add]
  rfl
/-- a contact -/
theorem yu_ctM {kk s v : Nat} {t : yT} (f : yM_f g0 g) (C : yM_c g kk s b v) (O : yu_O g0 t) (h25 : t.1 = 25) (hk : kk + 7 ≤ 90000000) : ∃ g', f_Mo_contactCode g (nI t.2.2.2.2.2.2) = some g' ∧ yM_E s kk (yv v (yu_ct t)) g g' := by
  obtain ⟨⟨n1, n2, n3, n4⟩, n5, n6⟩ := O
  obtain ⟨m1, a, a1, a2, a3⟩ := n5 (.inl h25)
  have f' : ∀ a, ¬ a ∈ yM_M → g.2.1 a = g0.2.1 a := fun a ha => f.2.1 a ha
  -- behind the cells that are seen
  have e107 : ∀ (g1 : zs_H) (k1 : Nat) (ow : Int32), yM_c g1 k1 s b v → k1 + 3 ≤ 90000000 → ∃ g', f_Mo_contactCode_107 g1 (nI t.2.2.1) ow (nI t.2.1) = some g' ∧ yM_E s k1 (yv v ([(7, 10, 0, 0)] ++ (if t.2.1 ≤ 1 then [] else [(1, nI t.2.2.1, 0, 0), (2, ow, 0, 0)]))) g1 g' := by
    intro g1 k1 ow c1 hk1
    obtain ⟨g2, p1, p2⟩ := yM_e c1 (by omega) 7 10 0 0 (by decide)
    unfold f_Mo_contactCode_107
    by_cases z : t.2.1 ≤ 1
    · rw [if_pos z]
      refine ⟨g2, ?_, p2⟩
      refine (congrArg (fun z => zd_B z _) p1).trans ?_
      show (if nI t.2.1 ≤ 1 then some g2 else _) = _
      rw [if_pos ((zc_el (k := 1) (by decide) (by omega)).mpr z)]
    · rw [if_neg z]
      have c2 := yM_cL c1 p2
      obtain ⟨g3, q1, q2⟩ := yM_e c2 (by show k1 + 1 < _; omega) 1 (nI t.2.2.1) 0 0 (by decide)
      have c3 := yM_cL c2 q2
      obtain ⟨g4, r1, r2⟩ := yM_e c3 (by show k1 + 1 + 1 < _; omega) 2 ow 0 0 (by decide)
      refine ⟨g4, ?_, yM_aL p2 (yM_aL q2 r2)⟩
      refine (congrArg (fun z => zd_B z _) p1).trans ?_
      show (if nI t.2.1 ≤ 1 then some g2 else zd_B (f_Mo_emit g2 1 (nI t.2.2.1) 0 0) fun v6 h7 => zd_B (f_Mo_emit h7 2 ow 0 0) fun v9 h10 => some h10) = _
      rw [if_neg (mt (zc_el (k := 1) (by decide) (by omega)).mp z)]
      refine (congrArg (fun z => zd_B z _) q1).trans ?_
      exact (show zd_B (f_Mo_emit g3 2 ow 0 0) _ = _ from (congrArg (fun z => zd_B z _) r1).trans rfl)
  have e89 : ∀ (g1 : zs_H) (k1 : Nat) (ow : Int32), yM_c g1 k1 s b v → k1 + 4 ≤ 90000000 → ∃ g', f_Mo_contactCode_89 g1 (nI t.2.2.1) ow (nI t.2.1) = some g' ∧ yM_E s k1 (yv v ((if t.2.1 ≤ 1 then [] else [(7, 10, 0, 0)]) ++ ([(7, 10, 0, 0)] ++ (if t.2.1 ≤ 1 then [] else [(1, nI t.2.2.1, 0, 0), (2, ow, 0, 0)])))) g1 g' := by
    intro g1 k1 ow c1 hk1
    unfold f_Mo_contactCode_89
    by_cases z : t.2.1 ≤ 1
    · obtain ⟨g2, p1, p2⟩ := e107 g1 k1 ow c1 (by omega)
      rw [if_pos ((zc_el (k := 1) (by decide) (by omega)).mpr z), show (if t.2.1 ≤ 1 then ([] : List yI) else [(7, 10, 0, 0)]) = [] from if_pos z, List.nil_append]
      exact ⟨g2, p1, p2⟩
    · obtain ⟨g2, p1, p2⟩ := yM_e c1 (by omega) 7 10 0 0 (by decide)
      obtain ⟨g3, q1, q2⟩ := e107 g2 _ ow (yM_cL c1 p2) (by show k1 + 1 + 3 ≤ _; omega)
      rw [if_neg (mt (zc_el (k := 1) (by decide) (by omega)).mp z), show (if t.2.1 ≤ 1 then ([] : List yI) else [(7, 10, 0, 0)]) = [(7, 10, 0, 0)] from if_neg z]
      exact ⟨g3, (congrArg (fun z => zd_B z _) p1).trans q1, yM_aL p2 q2⟩
  have e73 : ∀ (g1 : zs_H) (k1 : Nat) (ow : Int32), yM_c g1 k1 s b v → k1 + 5 ≤ 90000000 → ∃ g', f_Mo_contactCode_73 g1 (nI t.2.2.1) ow (nI t.2.1) = some g' ∧ yM_E s k1 (yv v ((if t.2.1 = 0 then [] else [(8, 2, 0, 0)]) ++ ((if t.2.1 ≤ 1 then [] else [(7, 10, 0, 0)]) ++ ([(7, 10, 0, 0)] ++ (if t.2.1 ≤ 1 then [] else [(1, nI t.2.2.1, 0, 0), (2, ow, 0, 0)]))))) g1 g' := by
    intro g1 k1 ow c1 hk1
    unfold f_Mo_contactCode_73
    by_cases z : t.2.1 = 0
    · obtain ⟨g2, p1, p2⟩ := e89 g1 k1 ow c1 (by omega)
      rw [if_pos ((zc_el (k := 0) (by decide) (by omega)).mpr (by omega)), show (if t.2.1 = 0 then ([] : List yI) else [(8, 2, 0, 0)]) = [] from if_pos z, List.nil_append]
      exact ⟨g2, p1, p2⟩
    · obtain ⟨g2, p1, p2⟩ := yM_e c1 (by omega) 8 2 0 0 (by decide)
      obtain ⟨g3, q1, q2⟩ := e89 g2 _ ow (yM_cL c1 p2) (by show k1 + 1 + 4 ≤ _; omega)
      rw [if_neg (mt (zc_el (k := 0) (by decide) (by omega)).mp (by omega)), show (if t.2.1 = 0 then ([] : List yI) else [(8, 2, 0, 0)]) = [(8, 2, 0, 0)] from if_neg z]
      exact ⟨g3, (congrArg (fun z => zd_B z _) p1).trans q1, yM_aL p2 q2⟩
  have e40 : ∀ (ow y0 : Int32), (2 ≤ t.2.1 → ow = nI t.2.2.2.1) → ∃ g', f_Mo_contactCode_40 g (nI t.2.2.1) ow (nI t.2.1) y0 1 = some g' ∧ yM_E s kk (yv v ([(1, y0, 0, 0)] ++ ((if t.2.1 ≤ 1 then [] else if t.2.1 = 3 then [(1, nI t.2.2.1, 0, 0)] else [(1, ow, 0, 0)]) ++ ((if t.2.1 = 0 then [] else [(8, 2, 0, 0)]) ++ ((if t.2.1 ≤ 1 then [] else [(7, 10, 0, 0)]) ++ ([(7, 10, 0, 0)] ++ (if t.2.1 ≤ 1 then [] else [(1, nI t.2.2.1, 0, 0), (2, ow, 0, 0)]))))))) g g' := by
    intro ow y0 _
    obtain ⟨g1, p1, p2⟩ := yM_e C (by omega) 1 y0 0 0 (by decide)
    have c1 := yM_cL C p2
    have h2 : ∃ g', (if nI t.2.1 ≤ 1 then f_Mo_contactCode_73 g1 (nI t.2.2.1) ow (nI t.2.1) else (if nI t.2.1 = 3 then f_Mo_contactCode_66 g1 (nI t.2.2.1) ow (nI t.2.1) (nI t.2.2.1) 1 else f_Mo_contactCode_66 g1 (nI t.2.2.1) ow (nI t.2.1) ow 1)) = some g' ∧ yM_E s (kk + 1) (yv v ((if t.2.1 ≤ 1 then [] else if t.2.1 = 3 then [(1, nI t.2.2.1, 0, 0)] else [(1, ow, 0, 0)]) ++ ((if t.2.1 = 0 then [] else [(8, 2, 0, 0)]) ++ ((if t.2.1 ≤ 1 then [] else [(7, 10, 0, 0)]) ++ ([(7, 10, 0, 0)] ++ (if t.2.1 ≤ 1 then [] else [(1, nI t.2.2.1, 0, 0), (2, ow, 0, 0)])))))) g1 g' := by
      have e66 : ∀ y : Int32, ∃ g', f_Mo_contactCode_66 g1 (nI t.2.2.1) ow (nI t.2.1) y 1 = some g' ∧ yM_E s (kk + 1) (yv v ([(1, y, 0, 0)] ++ ((if t.2.1 = 0 then [] else [(8, 2, 0, 0)]) ++ ((if t.2.1 ≤ 1 then [] else [(7, 10, 0, 0)]) ++ ([(7, 10, 0, 0)] ++ (if t.2.1 ≤ 1 then [] else [(1, nI t.2.2.1, 0, 0), (2, ow, 0, 0)])))))) g1 g' := by
        intro y
        obtain ⟨g2, q1, q2⟩ := yM_e c1 (by show kk + 1 < _; omega) 1 y 0 0 (by decide)
        obtain ⟨g3, r1, r2⟩ := e73 g2 _ ow (yM_cL c1 q2) (by show kk + 1 + 1 + 5 ≤ _; omega)
        refine ⟨g3, ?_, yM_aL q2 r2⟩
        unfold f_Mo_contactCode_66
        exact (congrArg (fun z => zd_B z _) q1).trans r1
      by_cases z : t.2.1 ≤ 1
      · obtain ⟨g2, q1, q2⟩ := e73 g1 _ ow c1 (by show kk + 1 + 5 ≤ _; omega)
        rw [if_pos ((zc_el (k := 1) (by decide) (by omega)).mpr z)]
        refine ⟨g2, q1, ?_⟩
        rw [show (if t.2.1 ≤ 1 then ([] : List yI) else if t.2.1 = 3 then [(1, nI t.2.2.1, 0, 0)] else [(1, ow, 0, 0)]) = [] from if_pos z, List.nil_append]
        exact q2
      · rw [if_neg (mt (zc_el (k := 1) (by decide) (by omega)).mp z), show (if t.2.1 ≤ 1 then ([] : List yI) else if t.2.1 = 3 then [(1, nI t.2.2.1, 0, 0)] else [(1, ow, 0, 0)]) = if t.2.1 = 3 then [(1, nI t.2.2.1, 0, 0)] else [(1, ow, 0, 0)] from if_neg z]
        by_cases z3 : t.2.1 = 3
        · rw [if_pos (show nI t.2.1 = 3 by rw [z3]; rfl), if_pos z3]
          exact e66 _
        · rw [if_neg (show ¬ nI t.2.1 = 3 from fun e => z3 ((zc_eq (k := 3) (by decide) (by omega)).mp e)), if_neg z3]
          exact e66 _
    obtain ⟨g2, q1, q2⟩ := h2
    refine ⟨g2, ?_, yM_aL p2 q2⟩
    unfold f_Mo_contactCode_40
    exact (congrArg (fun z => zd_B z _) p1).trans q1
  have ec : f_Mo_contactCode g (nI t.2.2.2.2.2.2) = if nI t.2.1 = 3 then f_Mo_contactCode_40 g (nI t.2.2.1) ((g0.2.1 101) t.2.2.2.2.2.2) (nI t.2.1) ((g0.2.1 101) t.2.2.2.2.2.2) 1 else f_Mo_contactCode_40 g (nI t.2.2.1) ((g0.2.1 101) t.2.2.2.2.2.2) (nI t.2.1) (nI t.2.2.1) 1 := by
    unfold f_Mo_contactCode
    simp only [if_pos (zi_in (show t.2.2.2.2.2.2 < 2147483648 by omega) n3), nI_clamp (show t.2.2.2.2.2.2 < 2147483648 by omega), f' 76 (by decide), a1, if_pos (zi_in (show a < 2147483648 by omega) a2), nI_clamp (show a < 2147483648 by omega), f' 74 (by decide), m1, f' 101 (by decide), a3]
  rw [ec]
  have yc : yu_ct t = if t.2.1 = 0 then [(1, nI t.2.2.1, 0, 0), (7, 10, 0, 0)] else if t.2.1 = 1 then [(1, nI t.2.2.1, 0, 0), (8, 2, 0, 0), (7, 10, 0, 0)] else if t.2.1 = 2 then [(1, nI t.2.2.1, 0, 0), (1, nI t.2.2.2.1, 0, 0), (8, 2, 0, 0), (7, 10, 0, 0), (7, 10, 0, 0), (1, nI t.2.2.1, 0, 0), (2, nI t.2.2.2.1, 0, 0)] else [(1, nI t.2.2.2.1, 0, 0), (1, nI t.2.2.1, 0, 0), (8, 2, 0, 0), (7, 10, 0, 0), (7, 10, 0, 0), (1, nI t.2.2.1, 0, 0), (2, nI t.2.2.2.1, 0, 0)] := if_pos h25
  rw [yc]
  have hv : t.2.1 = 0 ∨ t.2.1 = 1 ∨ t.2.1 = 2 ∨ t.2.1 = 3 := by omega
  rcases hv with e | e | e | e
  · obtain ⟨g1, p1, p2⟩ := e40 ((g0.2.1 101) t.2.2.2.2.2.2) (nI t.2.2.1) (fun z => n6 h25 z)
    simp (config := { decide := true }) only [e, if_true, if_false, List.cons_append, List.nil_append] at p1 p2 ⊢
    exact ⟨g1, p1, p2⟩
  · obtain ⟨g1, p1, p2⟩ := e40 ((g0.2.1 101) t.2.2.2.2.2.2) (nI t.2.2.1) (fun z => n6 h25 z)
    simp (config := { decide := true }) only [e, if_true, if_false, List.cons_append, List.nil_append] at p1 p2 ⊢
    exact ⟨g1, p1, p2⟩
  · have ho := n6 h25 (by omega)
    rw [ho]
    obtain ⟨g1, p1, p2⟩ := e40 (nI t.2.2.2.1) (nI t.2.2.1) (fun _ => rfl)
    simp (config := { decide := true }) only [e, if_true, if_false, List.cons_append, List.nil_append] at p1 p2 ⊢
    exact ⟨g1, p1, p2⟩
  · have ho := n6 h25 (by omega)
    rw [ho]
    obtain ⟨g1, p1, p2⟩ := e40 (nI t.2.2.2.1) (nI t.2.2.2.1) (fun _ => rfl)
    simp (config := { decide := true }) only [e, if_true, if_false, List.cons_append, List.nil_append] at p1 p2 ⊢
    exact ⟨g1, p1, p2⟩
end YUF
