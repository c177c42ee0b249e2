/-! The coder: rungs, the class's coils; a whole rung. -/
section YUE
variable {pw n m : Nat} {q : Nat → Nat → yT} {h0 h h' : zs_H}
theorem yu_ccl {r : Nat} {t : yT} : (yu_cc pw q m r t).length ≤ 5 := by
  unfold yu_cc
  rw [List.length_append, List.length_append, List.length_append, List.length_append]
  have e1 : (if t.2.1 < 2 then [] else [((1, nI t.2.2.1, 0, 0) : yI)]).length ≤ 1 := by
    split
    · exact Nat.zero_le _
    · exact Nat.le_refl _
  have e2 : (if m = 1 then [((0, 1, 0, 0) : yI)] else [(1, nI (yu_pw pw q r (m - 2)), 0, 0)]).length = 1 := by split <;> rfl
  have e3 : (if t.2.1 = 1 ∨ t.2.1 = 3 then [((8, 2, 0, 0) : yI)] else []).length ≤ 1 := by split <;> decide
  have e4 : (if t.2.1 < 2 then [] else if t.2.1 = 2 then [((7, 11, 0, 0) : yI)] else [(7, 10, 0, 0)]).length ≤ 1 := by split <;> (try split) <;> decide
  show _ + (_ + (_ + (_ + 1))) ≤ 5
  omega
theorem yu_coilC {k r : Nat} {t : yT} (f : yC_f h0 h) (S : yu_S pw n m q h) (hr : r < n) (N : yu_N h0 t) (h28 : t.1 = 28) (es : (h.1 41 5) = nI k) (hk : k + 5 ≤ 90000000) : ∃ h', f_Cr_codeCoil h (nI t.2.2.2.2.2.1) (nI r) = some h' ∧ yC_E k (yu_cc pw q m r t) h h' := by
  obtain ⟨⟨n1, n2, n3, n4⟩, _, n5⟩ := N
  obtain ⟨v1, a, w, a1, a2, a3, a4, a5⟩ := n5 h28
  have sn := S.2.1
  have f' : ∀ a, ¬ a ∈ yC_M → h.2.1 a = h0.2.1 a := fun a ha => f.2.1 a ha
  -- the end
  have e142 : ∀ (h1 : zs_H) (k1 : Nat), (h1.1 41 5) = nI k1 → k1 < 90000000 → ∃ h', f_Cr_codeCoil_142 h1 (nI t.2.2.1) = some h' ∧ yC_E k1 [(2, nI t.2.2.1, 0, 0)] h1 h' := by
    intro h1 k1 e1 hk1
    obtain ⟨h2, b1, b2⟩ := yC_emit e1 (by omega) 2 (by decide) (nI t.2.2.1)
    refine ⟨h2, ?_, b2⟩
    unfold f_Cr_codeCoil_142
    exact (congrArg (fun z => zd_B z _) b1).trans rfl
  have e115 : ∀ (h1 : zs_H) (k1 : Nat), (h1.1 41 5) = nI k1 → k1 + 1 < 90000000 → ∃ h', f_Cr_codeCoil_115 h1 (nI t.2.1) (nI t.2.2.1) = some h' ∧ yC_E k1 ((if t.2.1 < 2 then [] else if t.2.1 = 2 then [(7, 11, 0, 0)] else [(7, 10, 0, 0)]) ++ [(2, nI t.2.2.1, 0, 0)]) h1 h' := by
    intro h1 k1 e1 hk1
    unfold f_Cr_codeCoil_115
    by_cases z : t.2.1 < 2
    · rw [if_pos ((zc_tl (k := 2) (by decide) (by omega)).mpr z), if_pos z]
      exact e142 h1 k1 e1 (by omega)
    · rw [if_neg (mt (zc_tl (k := 2) (by decide) (by omega)).mp z), if_neg z]
      by_cases z2 : t.2.1 = 2
      · rw [if_pos (show nI t.2.1 = 2 by rw [z2]; rfl), if_pos z2]
        obtain ⟨h2, b1, b2⟩ := yC_emit e1 (by omega) 7 (by decide) 11
        obtain ⟨h3, d1, d2⟩ := e142 h2 _ b2.1 (by show k1 + 1 < _; omega)
        refine ⟨h3, ?_, yC_ap b2 d2⟩
        unfold f_Cr_codeCoil_138
        exact (congrArg (fun z => zd_B z _) b1).trans d1
      · rw [if_neg (show ¬ nI t.2.1 = 2 from fun e => z2 ((zc_eq (k := 2) (by decide) (by omega)).mp e)), if_neg z2]
        obtain ⟨h2, b1, b2⟩ := yC_emit e1 (by omega) 7 (by decide) 10
        obtain ⟨h3, d1, d2⟩ := e142 h2 _ b2.1 (by show k1 + 1 < _; omega)
        refine ⟨h3, ?_, yC_ap b2 d2⟩
        unfold f_Cr_codeCoil_138
        exact (congrArg (fun z => zd_B z _) b1).trans d1
  have e94 : ∀ (h1 : zs_H) (k1 : Nat), (h1.1 41 5) = nI k1 → k1 + 2 < 90000000 → ∃ h', f_Cr_codeCoil_94 h1 (nI t.2.1) (nI t.2.2.1) = some h' ∧ yC_E k1 ((if t.2.1 = 1 ∨ t.2.1 = 3 then [(8, 2, 0, 0)] else []) ++ ((if t.2.1 < 2 then [] else if t.2.1 = 2 then [(7, 11, 0, 0)] else [(7, 10, 0, 0)]) ++ [(2, nI t.2.2.1, 0, 0)])) h1 h' := by
    intro h1 k1 e1 hk1
    have i1 : (nI t.2.1 = 1) ↔ t.2.1 = 1 := zc_eq (k := 1) (by decide) (by omega)
    have i3 : (nI t.2.1 = 3) ↔ t.2.1 = 3 := zc_eq (k := 3) (by decide) (by omega)
    unfold f_Cr_codeCoil_94
    by_cases z : t.2.1 = 1 ∨ t.2.1 = 3
    · rw [if_pos z]
      obtain ⟨h2, b1, b2⟩ := yC_emit e1 (by omega) 8 (by decide) 2
      obtain ⟨h3, d1, d2⟩ := e115 h2 _ b2.1 (by show k1 + 1 + 1 < _; omega)
      refine ⟨h3, ?_, yC_ap b2 d2⟩
      have e104 : f_Cr_codeCoil_104 h1 (nI t.2.1) (nI t.2.2.1) = some h3 := by
        unfold f_Cr_codeCoil_104
        exact (congrArg (fun z => zd_B z _) b1).trans d1
      rcases z with z | z
      · rw [if_pos (i1.mpr z)]; exact e104
      · rw [if_neg (fun e => by have := i1.mp e; omega), if_pos (i3.mpr z)]; exact e104
    · rw [if_neg z, if_neg (fun e => z (.inl (i1.mp e))), if_neg (fun e => z (.inr (i3.mp e)))]
      exact e115 h1 k1 e1 (by omega)
  have e53 : ∀ (h1 : zs_H) (k1 : Nat), yu_S pw n m q h1 → (h1.1 41 5) = nI k1 → k1 + 3 < 90000000 → ∃ h', f_Cr_codeCoil_53 h1 (nI r) (nI t.2.1) (nI t.2.2.1) = some h' ∧ yC_E k1 ((if m = 1 then [(0, 1, 0, 0)] else [(1, nI (yu_pw pw q r (m - 2)), 0, 0)]) ++ ((if t.2.1 = 1 ∨ t.2.1 = 3 then [(8, 2, 0, 0)] else []) ++ ((if t.2.1 < 2 then [] else if t.2.1 = 2 then [(7, 11, 0, 0)] else [(7, 10, 0, 0)]) ++ [(2, nI t.2.2.1, 0, 0)]))) h1 h' := by
    intro h1 k1 S1 e1 hk1
    unfold f_Cr_codeCoil_53
    rw [S1.1.2.1]
    by_cases z : m = 1
    · rw [if_pos (show nI m = 1 by rw [z]; rfl), if_pos z]
      obtain ⟨h2, b1, b2⟩ := yC_emit e1 (by omega) 0 (by decide) 1
      obtain ⟨h3, d1, d2⟩ := e94 h2 _ b2.1 (by show k1 + 1 + 2 < _; omega)
      exact ⟨h3, (congrArg (fun z => zd_B z _) b1).trans d1, yC_ap b2 d2⟩
    · rw [if_neg (show ¬ nI m = 1 from fun e => z ((zc_eq (k := 1) (by decide) (by omega)).mp e)), if_neg z, show nI m - 2 = nI (m - 2) from zi_sub (b := 2) (by omega), yu_p S1 hr (by omega), Option.bind_some]
      obtain ⟨h2, b1, b2⟩ := yC_emit e1 (by omega) 1 (by decide) (nI (yu_pw pw q r (m - 2)))
      obtain ⟨h3, d1, d2⟩ := e94 h2 _ b2.1 (by show k1 + 1 + 2 < _; omega)
      exact ⟨h3, (congrArg (fun z => zd_B z _) b1).trans d1, yC_ap b2 d2⟩
  unfold f_Cr_codeCoil yu_cc
  simp only [if_pos (zi_in (show t.2.2.2.2.2.1 < 2147483648 by omega) n3), nI_clamp (show t.2.2.2.2.2.1 < 2147483648 by omega), f' 17 (by decide), a1, if_pos (zi_in (show a < 2147483648 by omega) a2), nI_clamp (show a < 2147483648 by omega), f' 16 (by decide), a3, if_pos (zi_in (show w < 2147483648 by omega) a4), nI_clamp (show w < 2147483648 by omega), v1, f' 32 (by decide), a5]
  by_cases z : t.2.1 < 2
  · rw [if_pos ((zc_tl (k := 2) (by decide) (by omega)).mpr z), if_pos z, if_pos z]
    have := e53 h k S es (by omega)
    rw [if_pos z] at this
    exact this
  · rw [if_neg (mt (zc_tl (k := 2) (by decide) (by omega)).mp z)]
    obtain ⟨h2, b1, b2⟩ := yC_emit es (by omega) 1 (by decide) (nI t.2.2.1)
    obtain ⟨h3, d1, d2⟩ := e53 h2 _ (yu_Sf S b2) b2.1 (by show k + 1 + 3 < _; omega)
    refine ⟨h3, (congrArg (fun z => zd_B z _) b1).trans d1, ?_⟩
    have := yC_ap b2 d2
    rw [show (if t.2.1 < 2 then [] else [((1, nI t.2.2.1, 0, 0) : yI)]) = [(1, nI t.2.2.1, 0, 0)] from if_neg z]
    exact this
/-- all coils -/
theorem yu_clC (hn : ∀ r, r < n → yu_N h0 (q r (m - 1))) : ∀ (k kk N : Nat) (h : zs_H), k ≤ n → yC_f h0 h → yu_S pw n m q h → (h.1 41 5) = nI kk → kk + 5 * k ≤ 90000000 → k < N → (yu_cl pw q n m k).length ≤ 5 * k ∧ ∃ h', f_Cr_codeRung_L94 N h (nI (n - k)) = some h' ∧ yC_E kk (yu_cl pw q n m k) h h' := by
  intro k
  induction k with
  | zero =>
    intro kk N h _ f S es _ hN
    obtain ⟨N, rfl⟩ : ∃ z, N = z + 1 := ⟨N - 1, by omega⟩
    have sn := S.2.1
    refine ⟨Nat.le_refl _, h, ?_, yC_nil es⟩
    show f_Cr_codeRung_94 (f_Cr_codeRung_L94 N) h (nI (n - 0)) = _
    unfold f_Cr_codeRung_94
    rw [S.1.1, if_pos ((nI_leI (by omega) (by omega)).mpr (by omega))]
  | succ k ih =>
    intro kk N h hkn f S es hkk hN
    obtain ⟨N, rfl⟩ : ∃ z, N = z + 1 := ⟨N - 1, by omega⟩
    have sn := S.2.1
    have hr : n - (k + 1) < n := by omega
    have Nr := hn _ hr
    obtain ⟨g1, _, _⟩ := S.2.2 (n - (k + 1)) (m - 1) hr (by omega)
    have e1 : n - (k + 1) + 1 = n - k := by omega
    show ((if (q (n - (k + 1)) (m - 1)).1 = 28 then yu_cc pw q m (n - (k + 1)) (q (n - (k + 1)) (m - 1)) else []) ++ yu_cl pw q n m k).length ≤ _ ∧ ∃ h', f_Cr_codeRung_94 (f_Cr_codeRung_L94 N) h (nI (n - (k + 1))) = some h' ∧ yC_E kk ((if (q (n - (k + 1)) (m - 1)).1 = 28 then yu_cc pw q m (n - (k + 1)) (q (n - (k + 1)) (m - 1)) else []) ++ yu_cl pw q n m k) h h'
    unfold f_Cr_codeRung_94
    rw [S.1.1, S.1.2.1, if_neg (mt (nI_leI (by omega) (by omega)).mp (by omega)), show nI (n - (k + 1)) * 12 + nI m - 1 = nI ((n - (k + 1)) * 12 + (m - 1)) by rw [show (12 : Int32) = nI 12 from rfl, zi_mul, nI_add, show (1 : Int32) = nI 1 from rfl, zi_sub (by omega)]; exact congrArg nI (by omega), if_pos (zi_in (by omega) (by omega)), nI_clamp (show (n - (k + 1)) * 12 + (m - 1) < 2147483648 by omega), g1, if_pos (zi_in (by have := Nr.1.2.2.1; omega) Nr.1.2.2.1), nI_clamp (by have := Nr.1.2.2.1; omega), f.2.1 13 (by decide), Nr.1.2.2.2]
    by_cases z : (q (n - (k + 1)) (m - 1)).1 = 28
    · rw [if_pos z, if_pos (show nI (q (n - (k + 1)) (m - 1)).1 = 28 by rw [z]; rfl)]
      obtain ⟨h1, a1, a2⟩ := yu_coilC f S hr Nr z es (by omega)
      have cl := yu_ccl (pw := pw) (q := q) (m := m) (r := n - (k + 1)) (t := q (n - (k + 1)) (m - 1))
      obtain ⟨b0, h2, b1, b2⟩ := ih _ N h1 (by omega) (yC_fE f a2) (yu_Sf S a2) a2.1 (by omega) (by omega)
      rw [a1, Option.bind_some]
      unfold f_Cr_codeRung_139
      rw [nI_1, e1]
      exact ⟨by rw [List.length_append]; omega, h2, b1, yC_ap a2 b2⟩
    · rw [if_neg z, if_neg (show ¬ nI (q (n - (k + 1)) (m - 1)).1 = 28 from fun e => z ((zc_eq (k := 28) (by decide) (by have := Nr.1.1; omega)).mp e)), List.nil_append]
      unfold f_Cr_codeRung_139
      rw [nI_1, e1]
      obtain ⟨b0, h2, b1, b2⟩ := ih kk N h (by omega) f S es (by omega) (by omega)
      exact ⟨by omega, h2, b1, b2⟩
/-- all columns, then the coils -/
theorem yu_csC (hn : ∀ r c, r < n → c < m → yu_N h0 (q r c)) : ∀ (k kk N : Nat) (h : zs_H), k ≤ m → yC_f h0 h → yu_S pw n m q h → (h.1 41 5) = nI kk → kk + 11 * n * k + 5 * n ≤ 90000000 → k < N → (yu_cs pw q n m k).length ≤ 11 * n * k ∧ ∃ h', f_Cr_codeRung_L7 N h (nI (m - k)) = some h' ∧ yC_E kk (yu_cs pw q n m k ++ yu_cl pw q n m n) h h' := by
  have hz := zF_big
  intro k
  induction k with
  | zero =>
    intro kk N h _ f S es hkk hN
    obtain ⟨N, rfl⟩ : ∃ z, N = z + 1 := ⟨N - 1, by omega⟩
    have sn := S.2.1
    obtain ⟨_, h1, b1, b2⟩ := yu_clC (pw := pw) (fun r hr => hn r (m - 1) hr (by omega)) n kk zF h (Nat.le_refl _) f S es (by omega) (by omega)
    refine ⟨Nat.zero_le _, h1, ?_, b2⟩
    show f_Cr_codeRung_7 (f_Cr_codeRung_L7 N) h (nI (m - 0)) = _
    unfold f_Cr_codeRung_7
    rw [S.1.2.1, if_pos ((nI_leI (by omega) (by omega)).mpr (by omega))]
    rw [Nat.sub_self] at b1
    exact b1
  | succ k ih =>
    intro kk N h hkm f S es hkk hN
    obtain ⟨N, rfl⟩ : ∃ z, N = z + 1 := ⟨N - 1, by omega⟩
    have sn := S.2.1
    have em : 11 * n * (k + 1) = 11 * n * k + 11 * n := Nat.mul_succ _ _
    have hc : m - (k + 1) < m := by omega
    obtain ⟨a0, h1, a1, a2⟩ := yu_colC (pw := pw) (k7 := f_Cr_codeRung_L7 N) hc (fun r hr => hn r _ hr hc) n 0 0 kk zF h (by omega) (by omega) (fun _ => rfl) (Nat.le_refl _) f S es (by omega) (by omega)
    rw [Nat.sub_zero] at a0 a2
    obtain ⟨b0, h2, b1, b2⟩ := ih _ N h1 (by omega) (yC_fE f a2) (yu_Sf S a2) a2.1 (by omega) (by omega)
    refine ⟨?_, h2, ?_, ?_⟩
    · show (yu_co pw q n (m - (k + 1)) n ++ yu_cs pw q n m k).length ≤ _
      rw [List.length_append]; omega
    · show f_Cr_codeRung_7 (f_Cr_codeRung_L7 N) h (nI (m - (k + 1))) = _
      unfold f_Cr_codeRung_7
      rw [S.1.2.1, if_neg (mt (nI_leI (by omega) (by omega)).mp (by omega))]
      refine Eq.trans a1 ?_
      rw [show m - (k + 1) + 1 = m - k by omega]
      exact b1
    · show yC_E kk ((yu_co pw q n (m - (k + 1)) n ++ yu_cs pw q n m k) ++ yu_cl pw q n m n) h h2
      rw [List.append_assoc]
      exact yC_ap a2 b2
end YUE
