/-! The coder: a whole rung, the model. -/
section YUH
variable {pw n m k b s v : Nat} {rk : Nat → Nat} {q : Nat → Nat → yT} {g0 g g' : zs_H}
theorem yu_clM (Z : yu_Z g0 k n m rk q) (ex : (g0.2.1 88) b = nI (pw + 156)) (hp : pw < 100000) (hn : ∀ r, r < n → yu_O g0 (q r (m - 1))) : ∀ (j kk N : Nat) (g : zs_H), j ≤ n → yM_f g0 g → yM_c g kk s b v → kk + 5 * j ≤ 90000000 → j < N → ∃ g', f_Mo_rungCode_L128 N g (nI k) (nI m) (nI n) (nI (n - j)) = some g' ∧ yM_E s kk (yv v (yu_cl pw q n m j)) g g' := by
  have zn := Z.1
  intro j
  induction j with
  | zero =>
    intro kk N g _ f C _ hN
    obtain ⟨N, rfl⟩ : ∃ z, N = z + 1 := ⟨N - 1, by omega⟩
    refine ⟨g, ?_, yM_nil C.1.1⟩
    show f_Mo_rungCode_128 (f_Mo_rungCode_L128 N) g (nI k) (nI m) (nI n) (nI (n - 0)) = _
    unfold f_Mo_rungCode_128
    rw [if_pos ((nI_leI (by omega) (by omega)).mpr (by omega))]
  | succ j ih =>
    intro kk N g hj f C hk hN
    obtain ⟨N, rfl⟩ : ∃ z, N = z + 1 := ⟨N - 1, by omega⟩
    obtain ⟨e1, e2, _⟩ := yu_fr f
    have hr : n - (j + 1) < n := by omega
    have Or := hn _ hr
    obtain ⟨o1, o2, o3, o4⟩ := Or.1
    have en : n - (j + 1) + 1 = n - j := by omega
    show ∃ g', f_Mo_rungCode_128 (f_Mo_rungCode_L128 N) g (nI k) (nI m) (nI n) (nI (n - (j + 1))) = some g' ∧ yM_E s kk (yv v ((if (q (n - (j + 1)) (m - 1)).1 = 28 then yu_cc pw q m (n - (j + 1)) (q (n - (j + 1)) (m - 1)) else []) ++ yu_cl pw q n m j)) g g'
    unfold f_Mo_rungCode_128
    rw [if_neg (mt (nI_leI (by omega) (by omega)).mp (by omega)), e1, (Z.2.1 _ hr).1, Option.bind_some, show nI m - 1 = nI (m - 1) from zi_sub (b := 1) (by omega), e2, (Z.2.2.2 _ (m - 1) hr (by omega)).1, Option.bind_some, if_pos (zi_in (by omega) o3), nI_clamp (show (q (n - (j + 1)) (m - 1)).2.2.2.2.2.2 < 2147483648 by omega), f.2.1 72 (by decide), o4]
    by_cases z : (q (n - (j + 1)) (m - 1)).1 = 28
    · rw [if_pos (show nI (q (n - (j + 1)) (m - 1)).1 = 28 by rw [z]; rfl), if_pos z]
      obtain ⟨g1, a1, a2⟩ := yu_coilM (pw := pw) (q := q) (m := m) (r := n - (j + 1)) (y := if m = 1 then -1 else nI (yu_pw pw q (n - (j + 1)) (m - 2))) f C Or z (by omega) hp (by omega) (by omega) rfl
      have cl := yu_ccl (pw := pw) (q := q) (m := m) (r := n - (j + 1)) (t := q (n - (j + 1)) (m - 1))
      obtain ⟨g2, b1, b2⟩ := ih _ N g1 (by omega) (yM_fE f a2) (yM_cL C a2) (by omega) (by omega)
      have e184 : ∀ y : Int32, y = (if m = 1 then -1 else nI (yu_pw pw q (n - (j + 1)) (m - 2))) → f_Mo_rungCode_184 (f_Mo_rungCode_L128 N) g (nI k) (nI m) (nI n) (nI (n - (j + 1))) y (nI (q (n - (j + 1)) (m - 1)).2.2.2.2.2.2) = some g2 := by
        intro y hy
        rw [← hy] at a1
        unfold f_Mo_rungCode_184 f_Mo_rungCode_187
        rw [a1, Option.bind_some, nI_1, en]
        exact b1
      refine ⟨g2, ?_, yM_aL a2 b2⟩
      by_cases zm : m = 1
      · rw [if_pos ((zc_el (k := 1) (by decide) (by omega)).mpr (by omega))]
        exact e184 _ (by rw [if_pos zm])
      · rw [if_neg (mt (zc_el (k := 1) (by decide) (by omega)).mp (by omega))]
        have := yu_pcM f C Z ex hr (show m - 2 < m by omega)
        rw [show m - 2 + 1 = m - 1 by omega] at this
        rw [this, Option.bind_some]
        exact e184 _ (by rw [if_neg zm])
    · rw [if_neg (show ¬ nI (q (n - (j + 1)) (m - 1)).1 = 28 from fun e => z ((zc_eq (k := 28) (by decide) (by omega)).mp e)), if_neg z, List.nil_append]
      unfold f_Mo_rungCode_187
      rw [nI_1, en]
      exact ih kk N g (by omega) f C (by omega) (by omega)
/-- a column -/
theorem yu_colM {c : Nat} (Z : yu_Z g0 k n m rk q) (ex : (g0.2.1 88) b = nI (pw + 156)) (hc : c < m) (hn : ∀ r, r < n → yu_O g0 (q r c)) (h28 : ∀ r, r < n → (q r c).1 = 28 → c = m - 1) {k31 : zs_H → Int32 → Int32 → Int32 → Int32 → Option zs_H} : ∀ (j kk N : Nat) (g : zs_H), j ≤ n → yM_f g0 g → yM_c g kk s b v → kk + (yu_co pw q n c j).length ≤ 80000000 → j < N → ∃ g', f_Mo_rungCode_L40 k31 N g (nI k) (nI m) (nI n) (nI (c + 1)) (nI (n - j)) = k31 g' (nI k) (nI m) (nI n) (nI (c + 1 + 1)) ∧ yM_E s kk (yv v (yu_co pw q n c j)) g g' := by
  have hz := zF_big
  have zn := Z.1
  intro j
  induction j with
  | zero =>
    intro kk N g _ f C _ hN
    obtain ⟨N, rfl⟩ : ∃ z, N = z + 1 := ⟨N - 1, by omega⟩
    refine ⟨g, ?_, yM_nil C.1.1⟩
    show f_Mo_rungCode_40 k31 (f_Mo_rungCode_L40 k31 N) g (nI k) (nI m) (nI n) (nI (c + 1)) (nI (n - 0)) = _
    unfold f_Mo_rungCode_40
    rw [if_pos ((nI_leI (by omega) (by omega)).mpr (by omega)), nI_1]
  | succ j ih =>
    intro kk N g hj f C hk hN
    obtain ⟨N, rfl⟩ : ∃ z, N = z + 1 := ⟨N - 1, by omega⟩
    obtain ⟨e1, e2, _⟩ := yu_fr f
    obtain ⟨r, er⟩ : ∃ r, r = n - (j + 1) := ⟨_, rfl⟩
    have hr : r < n := by omega
    have Or := hn _ hr
    obtain ⟨o1, o2, o3, o4⟩ := Or.1
    have en : r + 1 = n - j := by omega
    have hk' : kk + ((if yu_ls q (n - (j + 1)) c = n - (j + 1) ∧ ¬ (q (n - (j + 1)) c).1 = 28 then yu_gp pw q n c (n - (j + 1)) else []) ++ yu_co pw q n c j).length ≤ 80000000 := hk
    show ∃ g', f_Mo_rungCode_40 k31 (f_Mo_rungCode_L40 k31 N) g (nI k) (nI m) (nI n) (nI (c + 1)) (nI (n - (j + 1))) = _ ∧ yM_E s kk (yv v ((if yu_ls q (n - (j + 1)) c = n - (j + 1) ∧ ¬ (q (n - (j + 1)) c).1 = 28 then yu_gp pw q n c (n - (j + 1)) else []) ++ yu_co pw q n c j)) g g'
    rw [← er] at hk' ⊢
    rw [List.length_append] at hk'
    have hl := yu_lsl q c r
    have e82 : ∀ y : Nat, y < 2 → (y = 1 ↔ (q r c).1 = 28) → ∃ g', f_Mo_rungCode_82 k31 (f_Mo_rungCode_L40 k31 N) g (nI k) (nI m) (nI n) (nI (c + 1)) (nI r) (nI y) = k31 g' (nI k) (nI m) (nI n) (nI (c + 1 + 1)) ∧ yM_E s kk (yv v ((if yu_ls q r c = r ∧ ¬ (q r c).1 = 28 then yu_gp pw q n c r else []) ++ yu_co pw q n c j)) g g' := by
      intro y hy hy8
      unfold f_Mo_rungCode_82 f_Mo_rungCode_113
      rw [yu_lr f Z hr hc, Option.bind_some, nI_1, en]
      by_cases z1 : yu_ls q r c = r
      · rw [if_pos (show nI (yu_ls q r c) = nI r by rw [z1])]
        by_cases z8 : (q r c).1 = 28
        · rw [if_neg (show ¬ nI y = 0 from fun e => by have := (zc_eq (k := 0) (by decide) (by omega)).mp e; have := hy8.mpr z8; omega)]
          rw [if_neg (fun w => w.2 z8)] at hk' ⊢
          have : ([] : List yI).length = 0 := rfl
          exact ih kk N g (by omega) f C (by omega) (by omega)
        · rw [if_pos (show nI y = 0 by rw [show y = 0 by have := mt hy8.mp z8; omega]; rfl)]
          rw [if_pos ⟨z1, z8⟩] at hk' ⊢
          obtain ⟨l1, l2, l3, l4⟩ := yu_lef (q := q) (c := c) (n - 1 - r) r
          have gl : 9 * 0 ≤ 1 := by omega
          obtain ⟨g1, b1, b2⟩ := yu_grM (pw := pw) (fr := r) (s := s) (v := v) Z ex hc hr hn (yu_le q c (n - 1 - r) r) r 0 kk zF g f C (by omega) (fun i h1 h2 => by
            have := l3 (i - r) (by omega)
            rw [show r + (i - r) = i by omega, z1] at this
            exact this) (fun h => by rw [l4 (by omega)]; omega) (by omega) (by omega) (Nat.zero_le _)
          have b1' : f_Mo_groupCode g (nI k) (nI n) (nI r) (nI (c + 1)) = some g1 := b1
          have b2' : yM_E s kk (yv v (yu_gp pw q n c r)) g g1 := b2
          rw [b1', Option.bind_some]
          obtain ⟨g2, d1, d2⟩ := ih _ N g1 (by omega) (yM_fE f b2') (yM_cL C b2') (by omega) (by omega)
          exact ⟨g2, d1, yM_aL b2' d2⟩
      · rw [if_neg (show ¬ nI (yu_ls q r c) = nI r from fun e => z1 ((nI_eq (by omega) (by omega)).mp e))]
        rw [if_neg (fun w => z1 w.1)] at hk' ⊢
        have : ([] : List yI).length = 0 := rfl
        exact ih kk N g (by omega) f C (by omega) (by omega)
    have e81 : ¬ (q r c).1 = 28 → ∃ g', f_Mo_rungCode_81 k31 (f_Mo_rungCode_L40 k31 N) g (nI k) (nI m) (nI n) (nI (c + 1)) (nI r) = k31 g' (nI k) (nI m) (nI n) (nI (c + 1 + 1)) ∧ yM_E s kk (yv v ((if yu_ls q r c = r ∧ ¬ (q r c).1 = 28 then yu_gp pw q n c r else []) ++ yu_co pw q n c j)) g g' := by
      intro z8
      exact e82 0 (by decide) ⟨fun z => absurd z (by decide), fun z => absurd z z8⟩
    unfold f_Mo_rungCode_40
    rw [if_neg (mt (nI_leI (by omega) (by omega)).mp (by omega))]
    by_cases zc : c + 1 = m
    · rw [if_pos (show nI (c + 1) = nI m by rw [zc]), e1, (Z.2.1 _ hr).1, Option.bind_some, show nI (c + 1) - 1 = nI c from zi_sub (b := 1) (by omega), e2, (Z.2.2.2 _ c hr hc).1, Option.bind_some, if_pos (zi_in (by omega) o3), nI_clamp (show (q r c).2.2.2.2.2.2 < 2147483648 by omega), f.2.1 72 (by decide), o4]
      by_cases z8 : (q r c).1 = 28
      · rw [if_pos (show nI (q r c).1 = 28 by rw [z8]; rfl)]
        exact e82 1 (by decide) ⟨fun _ => z8, fun _ => rfl⟩
      · rw [if_neg (show ¬ nI (q r c).1 = 28 from fun e => z8 ((zc_eq (k := 28) (by decide) (by omega)).mp e))]
        exact e81 z8
    · rw [if_neg (show ¬ nI (c + 1) = nI m from fun e => zc ((nI_eq (by omega) (by omega)).mp e))]
      exact e81 (fun z => by have := h28 r hr z; omega)
/-- all columns, then the coils -/
theorem yu_csM (Z : yu_Z g0 k n m rk q) (ex : (g0.2.1 88) b = nI (pw + 156)) (hp : pw < 100000) (hn : ∀ r c, r < n → c < m → yu_O g0 (q r c)) (h28 : ∀ r c, r < n → c < m → (q r c).1 = 28 → c = m - 1) : ∀ (j kk N : Nat) (g : zs_H), j ≤ m → yM_f g0 g → yM_c g kk s b v → kk + (yu_cs pw q n m j).length + 60 ≤ 80000000 → j < N → ∃ g', f_Mo_rungCode_L31 N g (nI k) (nI m) (nI n) (nI (m - j + 1)) = some g' ∧ yM_E s kk (yv v (yu_cs pw q n m j ++ yu_cl pw q n m n)) g g' := by
  have hz := zF_big
  have zn := Z.1
  intro j
  induction j with
  | zero =>
    intro kk N g _ f C hk hN
    obtain ⟨N, rfl⟩ : ∃ z, N = z + 1 := ⟨N - 1, by omega⟩
    obtain ⟨g1, b1, b2⟩ := yu_clM (s := s) (v := v) Z ex hp (fun r hr => hn r (m - 1) hr (by omega)) n kk zF g (Nat.le_refl _) f C (by omega) (by omega)
    refine ⟨g1, ?_, b2⟩
    show f_Mo_rungCode_31 (f_Mo_rungCode_L31 N) g (nI k) (nI m) (nI n) (nI (m - 0 + 1)) = _
    unfold f_Mo_rungCode_31
    rw [if_pos ((nI_ltI (by omega) (by omega)).mpr (by omega))]
    rw [Nat.sub_self] at b1
    exact b1
  | succ j ih =>
    intro kk N g hj f C hk hN
    obtain ⟨N, rfl⟩ : ∃ z, N = z + 1 := ⟨N - 1, by omega⟩
    have hc : m - (j + 1) < m := by omega
    have hk' : kk + (yu_co pw q n (m - (j + 1)) n ++ yu_cs pw q n m j).length + 60 ≤ 80000000 := hk
    rw [List.length_append] at hk'
    obtain ⟨g1, a1, a2⟩ := yu_colM (s := s) (v := v) (k31 := f_Mo_rungCode_L31 N) Z ex hc (fun r hr => hn r _ hr hc) (fun r hr => h28 r _ hr hc) n kk zF g (Nat.le_refl _) f C (by omega) (by omega)
    obtain ⟨g2, b1, b2⟩ := ih _ N g1 (by omega) (yM_fE f a2) (yM_cL C a2) (by omega) (by omega)
    refine ⟨g2, ?_, ?_⟩
    · show f_Mo_rungCode_31 (f_Mo_rungCode_L31 N) g (nI k) (nI m) (nI n) (nI (m - (j + 1) + 1)) = _
      unfold f_Mo_rungCode_31
      rw [if_neg (mt (nI_ltI (by omega) (by omega)).mp (by omega))]
      rw [Nat.sub_self] at a1
      refine Eq.trans a1 ?_
      rw [show m - (j + 1) + 1 + 1 = m - j + 1 by omega]
      exact b1
    · show yM_E s kk (yv v ((yu_co pw q n (m - (j + 1)) n ++ yu_cs pw q n m j) ++ yu_cl pw q n m n)) g g2
      rw [List.append_assoc]
      exact yM_aL a2 b2
/-- a rung -/
theorem yu_rgM {kk : Nat} (Z : yu_Z g0 k n m rk q) (em : f_Mo_cellsIn g ((g0.2.1 76) k) = some (nI m)) (ex : (g0.2.1 88) b = nI (pw + 156)) (hp : pw < 100000) (hn : ∀ r c, r < n → c < m → yu_O g0 (q r c)) (h28 : ∀ r c, r < n → c < m → (q r c).1 = 28 → c = m - 1) (f : yM_f g0 g) (C : yM_c g kk s b v) (hk : kk + (yu_cs pw q n m m).length + 60 ≤ 80000000) : ∃ g', f_Mo_rungCode g (nI k) = some g' ∧ yM_E s kk (yv v (yu_rg pw q n m)) g g' := by
  have hz := zF_big
  have zn := Z.1
  obtain ⟨e1, _, _⟩ := yu_fr f
  obtain ⟨g1, a1, a2⟩ := yu_csM (s := s) (v := v) Z ex hp hn h28 m kk zF g (Nat.le_refl _) f C hk (by omega)
  rw [Nat.sub_self] at a1
  have e13 : ∀ (j N : Nat), j ≤ n → j < N → f_Mo_rungCode_L13 N g (nI k) (nI m) (nI (n - j)) = some g1 := by
    intro j
    induction j with
    | zero =>
      intro N _ hN
      obtain ⟨N, rfl⟩ : ∃ z, N = z + 1 := ⟨N - 1, by omega⟩
      show f_Mo_rungCode_13 (f_Mo_rungCode_L13 N) g (nI k) (nI m) (nI (n - 0)) = _
      unfold f_Mo_rungCode_13
      obtain ⟨x, x1, x2⟩ := Z.2.2.1
      rw [e1, Nat.sub_zero, x1, Option.bind_some, if_pos x2]
      exact a1
    | succ j ih =>
      intro N hj hN
      obtain ⟨N, rfl⟩ : ∃ z, N = z + 1 := ⟨N - 1, by omega⟩
      show f_Mo_rungCode_13 (f_Mo_rungCode_L13 N) g (nI k) (nI m) (nI (n - (j + 1))) = _
      unfold f_Mo_rungCode_13
      obtain ⟨x1, x2⟩ := Z.2.1 (n - (j + 1)) (by omega)
      rw [e1, x1, Option.bind_some, if_neg (nI_pos (by omega)), nI_1, show n - (j + 1) + 1 = n - j by omega]
      exact ih N (by omega) (by omega)
  refine ⟨g1, ?_, a2⟩
  unfold f_Mo_rungCode
  rw [if_pos (zi_in (by omega) zn.1), nI_clamp (show k < 2147483648 by omega), f.2.1 76 (by decide), em, Option.bind_some]
  have := e13 n zF (Nat.le_refl _) (by omega)
  rw [Nat.sub_self] at this
  exact this
end YUH
