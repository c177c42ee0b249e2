/-! The coder: rungs, the model's groups, coils and columns. -/
section YUG
variable {pw n m k b s v : Nat} {rk : Nat → Nat} {q : Nat → Nat → yT} {g0 g g' : zs_H}
theorem yu_grM {c fr : Nat} (Z : yu_Z g0 k n m rk q) (ex : (g0.2.1 88) b = nI (pw + 156)) (hc : c < m) (hf : fr < n) (hn : ∀ r, r < n → yu_O g0 (q r c)) : ∀ (j r w kk N : Nat) (g : zs_H), yM_f g0 g → yM_c g kk s b v → r + j ≤ n → (∀ i, r ≤ i → i < r + j → yu_ls q i c = fr) → (r + j < n → ¬ yu_ls q (r + j) c = fr) → kk + 9 * j + 2 ≤ 90000000 → j < N → w ≤ r → ∃ g', f_Mo_groupCode_L9 N g (nI k) (nI n) (nI fr) (nI (c + 1)) (nI w) (nI r) = some g' ∧ yM_E s kk (yv v (yu_gr pw q c j r w ++ [(2, nI (yu_pw pw q fr c), 0, 0)])) g g' := by
  have zn := Z.1
  intro j
  induction j with
  | zero =>
    intro r w kk N g f C hr _ hend hk hN hw
    obtain ⟨N, rfl⟩ : ∃ z, N = z + 1 := ⟨N - 1, by omega⟩
    have e153 : ∀ (g1 : zs_H) (k1 : Nat), yM_f g0 g1 → yM_c g1 k1 s b v → k1 < 90000000 → ∃ g', f_Mo_groupCode_153 g1 (nI k) (nI fr) (nI (c + 1)) = some g' ∧ yM_E s k1 (yv v [(2, nI (yu_pw pw q fr c), 0, 0)]) g1 g' := by
      intro g1 k1 f1 c1 hk1
      obtain ⟨g2, b1, b2⟩ := yM_e c1 (by omega) 2 (nI (yu_pw pw q fr c)) 0 0 (by decide)
      refine ⟨g2, ?_, b2⟩
      unfold f_Mo_groupCode_153
      rw [yu_pcM f1 c1 Z ex hf hc, Option.bind_some]
      exact (congrArg (fun z => zd_B z _) b1).trans rfl
    have e138 : ∃ g', f_Mo_groupCode_138 g (nI k) (nI fr) (nI (c + 1)) (nI w) = some g' ∧ yM_E s kk (yv v ((if w = 0 then [(0, 0, 0, 0)] else []) ++ [(2, nI (yu_pw pw q fr c), 0, 0)])) g g' := by
      unfold f_Mo_groupCode_138
      by_cases z : w = 0
      · obtain ⟨g1, a1, a2⟩ := yM_e C (by omega) 0 0 0 0 (by decide)
        obtain ⟨g2, b1, b2⟩ := e153 g1 _ (yM_fE f a2) (yM_cL C a2) (by show kk + 1 < _; omega)
        rw [if_pos (show nI w = 0 by rw [z]; rfl), if_pos z]
        exact ⟨g2, (congrArg (fun z => zd_B z _) a1).trans b1, yM_aL a2 b2⟩
      · obtain ⟨g2, b1, b2⟩ := e153 g kk f C (by omega)
        rw [if_neg (show ¬ nI w = 0 from fun e => z ((zc_eq (k := 0) (by decide) (by omega)).mp e)), if_neg z]
        exact ⟨g2, b1, b2⟩
    obtain ⟨g1, a1, a2⟩ := e138
    refine ⟨g1, ?_, a2⟩
    show f_Mo_groupCode_9 (f_Mo_groupCode_L9 N) g (nI k) (nI n) (nI fr) (nI (c + 1)) (nI w) (nI r) = _
    unfold f_Mo_groupCode_9
    by_cases z : n ≤ r
    · rw [if_pos ((nI_leI (by omega) (by omega)).mpr z)]
      exact a1
    · have hl := yu_lsl q c r
      rw [if_neg (mt (nI_leI (by omega) (by omega)).mp z), yu_lr f Z (by omega) hc, Option.bind_some, if_neg (show ¬ nI (yu_ls q r c) = nI fr from fun e => hend (by omega) (show yu_ls q r c = fr from (nI_eq (by omega) (by omega)).mp e))]
      exact a1
  | succ j ih =>
    intro r w kk N g f C hr hg hend hk hN hw
    obtain ⟨N, rfl⟩ : ∃ z, N = z + 1 := ⟨N - 1, by omega⟩
    obtain ⟨e1, e2, _⟩ := yu_fr f
    have hrn : r < n := by omega
    have Or := hn r hrn
    obtain ⟨o1, o2, o3, o4⟩ := Or.1
    have fin : ∀ g1 k1 w1, yM_f g0 g1 → yM_c g1 k1 s b v → k1 + 9 * j + 2 ≤ 90000000 → w1 ≤ r + 1 → ∃ g', f_Mo_groupCode_132 (f_Mo_groupCode_L9 N) g1 (nI k) (nI n) (nI fr) (nI (c + 1)) (nI w1) (nI r) = some g' ∧ yM_E s k1 (yv v (yu_gr pw q c j (r + 1) w1 ++ [(2, nI (yu_pw pw q fr c), 0, 0)])) g1 g' := by
      intro g1 k1 w1 f1 c1 hk1 hw1
      unfold f_Mo_groupCode_132
      rw [nI_1]
      exact ih (r + 1) w1 k1 N g1 f1 c1 (by omega) (fun i h1 h2 => hg i (by omega) (by omega)) (fun h => by rw [show r + 1 + j = r + (j + 1) by omega]; exact hend (by omega)) hk1 (by omega) hw1
    show ∃ g', f_Mo_groupCode_9 (f_Mo_groupCode_L9 N) g (nI k) (nI n) (nI fr) (nI (c + 1)) (nI w) (nI r) = some g' ∧ yM_E s kk (yv v ((if (q r c).1 = 27 then yu_gr pw q c j (r + 1) w else yu_wy pw q r c ++ ((if w = 0 then [] else [(7, 11, 0, 0)]) ++ yu_gr pw q c j (r + 1) (w + 1))) ++ [(2, nI (yu_pw pw q fr c), 0, 0)])) g g'
    unfold f_Mo_groupCode_9
    rw [if_neg (mt (nI_leI (by omega) (by omega)).mp (by omega)), yu_lr f Z hrn hc, Option.bind_some, if_pos (by rw [hg r (Nat.le_refl _) (by omega)]), e1, (Z.2.1 r hrn).1, Option.bind_some, show nI (c + 1) - 1 = nI c from zi_sub (b := 1) (by omega), e2, (Z.2.2.2 r c hrn hc).1, Option.bind_some, if_pos (zi_in (by omega) o3), nI_clamp (show (q r c).2.2.2.2.2.2 < 2147483648 by omega), f.2.1 72 (by decide), o4]
    by_cases z : (q r c).1 = 27
    · rw [if_pos (show nI (q r c).1 = 27 by rw [z]; rfl), if_pos z]
      exact fin g kk w f C (by omega) (by omega)
    · rw [if_neg (show ¬ nI (q r c).1 = 27 from fun e => z ((zc_eq (k := 27) (by decide) (by omega)).mp e)), if_neg z]
      have e129 : ∀ g1 k1, yM_f g0 g1 → yM_c g1 k1 s b v → k1 + 9 * j + 2 ≤ 90000000 → ∃ g', f_Mo_groupCode_129 (f_Mo_groupCode_L9 N) g1 (nI k) (nI n) (nI fr) (nI (c + 1)) (nI w) (nI r) = some g' ∧ yM_E s k1 (yv v (yu_gr pw q c j (r + 1) (w + 1) ++ [(2, nI (yu_pw pw q fr c), 0, 0)])) g1 g' := by
        intro g1 k1 f1 c1 hk1
        unfold f_Mo_groupCode_129
        rw [nI_1]
        exact fin g1 k1 (w + 1) f1 c1 hk1 (by omega)
      have e112 : ∀ g1 k1, yM_f g0 g1 → yM_c g1 k1 s b v → k1 + 1 + 9 * j + 2 ≤ 90000000 → ∃ g', f_Mo_groupCode_112 (f_Mo_groupCode_L9 N) g1 (nI k) (nI n) (nI fr) (nI (c + 1)) (nI w) (nI r) = some g' ∧ yM_E s k1 (yv v ((if w = 0 then [] else [(7, 11, 0, 0)]) ++ (yu_gr pw q c j (r + 1) (w + 1) ++ [(2, nI (yu_pw pw q fr c), 0, 0)]))) g1 g' := by
        intro g1 k1 f1 c1 hk1
        unfold f_Mo_groupCode_112
        by_cases zw : w = 0
        · rw [if_pos ((zc_el (k := 0) (by decide) (by omega)).mpr (by omega)), if_pos zw, List.nil_append]
          exact e129 g1 k1 f1 c1 (by omega)
        · rw [if_neg (mt (zc_el (k := 0) (by decide) (by omega)).mp (by omega)), if_neg zw]
          obtain ⟨g2, b1, b2⟩ := yM_e c1 (by omega) 7 11 0 0 (by decide)
          obtain ⟨g3, d1, d2⟩ := e129 g2 _ (yM_fE f1 b2) (yM_cL c1 b2) (by show k1 + 1 + 9 * j + 2 ≤ _; omega)
          exact ⟨g3, (congrArg (fun z => zd_B z _) b1).trans d1, yM_aL b2 d2⟩
      have e92 : ∀ g1 k1 y, yM_f g0 g1 → yM_c g1 k1 s b v → k1 + 8 + 9 * j + 2 ≤ 90000000 → ∃ g', f_Mo_groupCode_92 (f_Mo_groupCode_L9 N) g1 (nI k) (nI n) (nI fr) (nI (c + 1)) (nI w) (nI r) (nI (q r c).2.2.2.2.2.2) y = some g' ∧ yM_E s k1 (yv v (yu_ct (q r c) ++ ((if w = 0 then [] else [(7, 11, 0, 0)]) ++ (yu_gr pw q c j (r + 1) (w + 1) ++ [(2, nI (yu_pw pw q fr c), 0, 0)])))) g1 g' := by
        intro g1 k1 y f1 c1 hk1
        unfold f_Mo_groupCode_92
        rw [if_pos (zi_in (by omega) o3), nI_clamp (show (q r c).2.2.2.2.2.2 < 2147483648 by omega), f1.2.1 72 (by decide), o4]
        by_cases z5 : (q r c).1 = 25
        · rw [if_pos (show nI (q r c).1 = 25 by rw [z5]; rfl)]
          obtain ⟨g2, b1, b2⟩ := yu_ctM f1 c1 Or z5 (by omega)
          have l7 := yu_ctl (t := q r c)
          obtain ⟨g3, d1, d2⟩ := e112 g2 _ (yM_fE f1 b2) (yM_cL c1 b2) (by omega)
          exact ⟨g3, by rw [b1, Option.bind_some]; exact d1, yM_aL b2 d2⟩
        · rw [if_neg (show ¬ nI (q r c).1 = 25 from fun e => z5 ((zc_eq (k := 25) (by decide) (by omega)).mp e)), show yu_ct (q r c) = [] from if_neg z5, List.nil_append]
          exact e112 g1 k1 f1 c1 (by omega)
      rw [List.append_assoc, List.append_assoc]
      unfold yu_wy
      rw [List.append_assoc]
      by_cases z0 : c = 0
      · rw [if_pos (show nI (c + 1) = 1 by rw [z0]; rfl), if_pos z0]
        obtain ⟨g1, b1, b2⟩ := yM_e C (by omega) 0 1 0 0 (by decide)
        obtain ⟨g2, d1, d2⟩ := e92 g1 _ (nI (kk - s)) (yM_fE f b2) (yM_cL C b2) (by show kk + 1 + 8 + 9 * j + 2 ≤ _; omega)
        exact ⟨g2, (congrArg (fun z => zd_B z _) b1).trans d1, yM_aL b2 d2⟩
      · rw [if_neg (show ¬ nI (c + 1) = 1 from fun e => by have := (zc_eq (k := 1) (by decide) (by omega)).mp e; omega), if_neg z0]
        have epc : f_Mo_powerCell g (nI k) (nI r) (nI c) = some (nI (yu_pw pw q r (c - 1))) := by
          have := yu_pcM f C Z ex hrn (show c - 1 < m by omega)
          rw [show c - 1 + 1 = c by omega] at this
          exact this
        rw [epc, Option.bind_some]
        obtain ⟨g1, b1, b2⟩ := yM_e C (by omega) 1 (nI (yu_pw pw q r (c - 1))) 0 0 (by decide)
        obtain ⟨g2, d1, d2⟩ := e92 g1 _ (nI (kk - s)) (yM_fE f b2) (yM_cL C b2) (by show kk + 1 + 8 + 9 * j + 2 ≤ _; omega)
        exact ⟨g2, (congrArg (fun z => zd_B z _) b1).trans d1, yM_aL b2 d2⟩
theorem yu_coilM {kk r : Nat} {t : yT} {y : Int32} (f : yM_f g0 g) (C : yM_c g kk s b v) (O : yu_O g0 t) (h28 : t.1 = 28) (hk : kk + 5 ≤ 90000000) (hp : pw < 100000) (hm : 1 ≤ m ∧ m ≤ 12) (hr : r < 12) (hy : y = if m = 1 then -1 else nI (yu_pw pw q r (m - 2))) : ∃ g', f_Mo_coilCode g (nI t.2.2.2.2.2.2) y = some g' ∧ yM_E s kk (yv v (yu_cc pw q m r t)) g g' := by
  obtain ⟨⟨n1, n2, n3, n4⟩, n5, _⟩ := O
  obtain ⟨m1, a, a1, a2, a3⟩ := n5 (.inr h28)
  have f' : ∀ a, ¬ a ∈ yM_M → g.2.1 a = g0.2.1 a := fun a ha => f.2.1 a ha
  have e116 : ∀ (g1 : zs_H) (k1 : Nat), yM_c g1 k1 s b v → k1 < 90000000 → ∃ g', f_Mo_coilCode_116 g1 (nI t.2.2.1) = some g' ∧ yM_E s k1 (yv v [(2, nI t.2.2.1, 0, 0)]) g1 g' := by
    intro g1 k1 c1 hk1
    obtain ⟨g2, b1, b2⟩ := yM_e c1 (by omega) 2 (nI t.2.2.1) 0 0 (by decide)
    refine ⟨g2, ?_, b2⟩
    unfold f_Mo_coilCode_116
    exact (congrArg (fun z => zd_B z _) b1).trans rfl
  have e87 : ∀ (g1 : zs_H) (k1 : Nat), yM_c g1 k1 s b v → k1 + 1 < 90000000 → ∃ g', f_Mo_coilCode_87 g1 (nI t.2.2.1) (nI t.2.1) = some g' ∧ yM_E s k1 (yv v ((if t.2.1 < 2 then [] else if t.2.1 = 2 then [(7, 11, 0, 0)] else [(7, 10, 0, 0)]) ++ [(2, nI t.2.2.1, 0, 0)])) g1 g' := by
    intro g1 k1 c1 hk1
    unfold f_Mo_coilCode_87
    by_cases z : t.2.1 < 2
    · rw [if_pos ((zc_el (k := 1) (by decide) (by omega)).mpr (by omega)), if_pos z]
      exact e116 g1 k1 c1 (by omega)
    · rw [if_neg (mt (zc_el (k := 1) (by decide) (by omega)).mp (by omega)), if_neg z]
      by_cases z2 : t.2.1 = 2
      · rw [if_pos (show nI t.2.1 = 2 by rw [z2]; rfl), if_pos z2]
        obtain ⟨g2, b1, b2⟩ := yM_e c1 (by omega) 7 11 0 0 (by decide)
        obtain ⟨g3, d1, d2⟩ := e116 g2 _ (yM_cL c1 b2) (by show k1 + 1 < _; omega)
        refine ⟨g3, ?_, yM_aL b2 d2⟩
        unfold f_Mo_coilCode_109
        exact (congrArg (fun z => zd_B z _) b1).trans d1
      · rw [if_neg (show ¬ nI t.2.1 = 2 from fun e => z2 ((zc_eq (k := 2) (by decide) (by omega)).mp e)), if_neg z2]
        obtain ⟨g2, b1, b2⟩ := yM_e c1 (by omega) 7 10 0 0 (by decide)
        obtain ⟨g3, d1, d2⟩ := e116 g2 _ (yM_cL c1 b2) (by show k1 + 1 < _; omega)
        refine ⟨g3, ?_, yM_aL b2 d2⟩
        unfold f_Mo_coilCode_109
        exact (congrArg (fun z => zd_B z _) b1).trans d1
  have e62 : ∀ (g1 : zs_H) (k1 : Nat) (y1 : Int32), yM_c g1 k1 s b v → k1 + 2 < 90000000 → ∃ g', f_Mo_coilCode_62 g1 (nI t.2.2.1) (nI t.2.1) y1 = some g' ∧ yM_E s k1 (yv v ((if t.2.1 = 1 ∨ t.2.1 = 3 then [(8, 2, 0, 0)] else []) ++ ((if t.2.1 < 2 then [] else if t.2.1 = 2 then [(7, 11, 0, 0)] else [(7, 10, 0, 0)]) ++ [(2, nI t.2.2.1, 0, 0)]))) g1 g' := by
    intro g1 k1 y1 c1 hk1
    have i1 : (nI t.2.1 = 1) ↔ t.2.1 = 1 := zc_eq (k := 1) (by decide) (by omega)
    have i3 : (nI t.2.1 = 3) ↔ t.2.1 = 3 := zc_eq (k := 3) (by decide) (by omega)
    unfold f_Mo_coilCode_62
    by_cases z : t.2.1 = 1 ∨ t.2.1 = 3
    · rw [if_pos z]
      obtain ⟨g2, b1, b2⟩ := yM_e c1 (by omega) 8 2 0 0 (by decide)
      obtain ⟨g3, d1, d2⟩ := e87 g2 _ (yM_cL c1 b2) (by show k1 + 1 + 1 < _; omega)
      refine ⟨g3, ?_, yM_aL b2 d2⟩
      have e76 : f_Mo_coilCode_76 g1 (nI t.2.2.1) (nI t.2.1) = some g3 := by
        unfold f_Mo_coilCode_76
        exact (congrArg (fun z => zd_B z _) b1).trans d1
      rcases z with z | z
      · rw [if_pos (i1.mpr z)]; exact e76
      · rw [if_neg (fun e => by have := i1.mp e; omega), if_pos (i3.mpr z)]; exact e76
    · rw [if_neg z, if_neg (fun e => z (.inl (i1.mp e))), if_neg (fun e => z (.inr (i3.mp e)))]
      exact e87 g1 k1 c1 (by omega)
  have e39 : ∀ (g1 : zs_H) (k1 : Nat), yM_c g1 k1 s b v → k1 + 3 < 90000000 → ∃ g', f_Mo_coilCode_39 g1 y (nI t.2.2.1) (nI t.2.1) = some g' ∧ yM_E s k1 (yv v ((if m = 1 then [(0, 1, 0, 0)] else [(1, nI (yu_pw pw q r (m - 2)), 0, 0)]) ++ ((if t.2.1 = 1 ∨ t.2.1 = 3 then [(8, 2, 0, 0)] else []) ++ ((if t.2.1 < 2 then [] else if t.2.1 = 2 then [(7, 11, 0, 0)] else [(7, 10, 0, 0)]) ++ [(2, nI t.2.2.1, 0, 0)])))) g1 g' := by
    intro g1 k1 c1 hk1
    unfold f_Mo_coilCode_39
    by_cases z : m = 1
    · rw [hy, if_pos z, if_neg (by decide), if_pos z]
      obtain ⟨g2, b1, b2⟩ := yM_e c1 (by omega) 0 1 0 0 (by decide)
      obtain ⟨g3, d1, d2⟩ := e62 g2 _ (nI (k1 - s)) (yM_cL c1 b2) (by show k1 + 1 + 2 < _; omega)
      exact ⟨g3, (congrArg (fun z => zd_B z _) b1).trans d1, yM_aL b2 d2⟩
    · have hl := yu_lsl q (m - 2) r
      have hpw : yu_pw pw q r (m - 2) < 2147483648 := by unfold yu_pw; omega
      rw [hy, if_neg z, if_pos (nI_pos' hpw), if_neg z]
      obtain ⟨g2, b1, b2⟩ := yM_e c1 (by omega) 1 (nI (yu_pw pw q r (m - 2))) 0 0 (by decide)
      obtain ⟨g3, d1, d2⟩ := e62 g2 _ (nI (k1 - s)) (yM_cL c1 b2) (by show k1 + 1 + 2 < _; omega)
      exact ⟨g3, (congrArg (fun z => zd_B z _) b1).trans d1, yM_aL b2 d2⟩
  unfold f_Mo_coilCode yu_cc
  simp only [if_pos (zi_in (show t.2.2.2.2.2.2 < 2147483648 by omega) n3), nI_clamp (show t.2.2.2.2.2.2 < 2147483648 by omega), f' 76 (by decide), a1, if_pos (zi_in (show a < 2147483648 by omega) a2), nI_clamp (show a < 2147483648 by omega), f' 74 (by decide), m1, f' 101 (by decide), a3]
  by_cases z : t.2.1 < 2
  · rw [if_pos ((zc_el (k := 1) (by decide) (by omega)).mpr (by omega)), show (if t.2.1 < 2 then [] else [((1, nI t.2.2.1, 0, 0) : yI)]) = [] from if_pos z, List.nil_append]
    exact e39 g kk C (by omega)
  · rw [if_neg (mt (zc_el (k := 1) (by decide) (by omega)).mp (by omega)), show (if t.2.1 < 2 then [] else [((1, nI t.2.2.1, 0, 0) : yI)]) = [(1, nI t.2.2.1, 0, 0)] from if_neg z]
    obtain ⟨g2, b1, b2⟩ := yM_e C (by omega) 1 (nI t.2.2.1) 0 0 (by decide)
    obtain ⟨g3, d1, d2⟩ := e39 g2 _ (yM_cL C b2) (by show kk + 1 + 3 < _; omega)
    exact ⟨g3, (congrArg (fun z => zd_B z _) b1).trans d1, yM_aL b2 d2⟩
end YUG
