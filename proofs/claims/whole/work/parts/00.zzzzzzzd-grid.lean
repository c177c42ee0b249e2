/-! The coder: rungs, the class's columns and coils. -/
section YUD
variable {pw n m : Nat} {q : Nat → Nat → yT} {h0 h h' : zs_H}
theorem yu_lef {c : Nat} : ∀ (k r : Nat), 1 ≤ yu_le q c k r ∧ yu_le q c k r ≤ k + 1 ∧ (∀ j, j < yu_le q c k r → yu_ls q (r + j) c = yu_ls q r c) ∧ (yu_le q c k r ≤ k → yu_ls q (r + yu_le q c k r) c = r + yu_le q c k r) := by
  intro k
  induction k with
  | zero => intro r; exact ⟨Nat.le_refl _, Nat.le_refl _, fun j hj => (show yu_ls q (r + j) c = yu_ls q r c by rw [show j = 0 from Nat.lt_one_iff.mp hj]; rfl), fun h => absurd h (by show ¬ 1 ≤ 0; omega)⟩
  | succ k ih =>
    intro r
    have el : yu_le q c (k + 1) r = if (q r c).2.2.2.2.1 = true then 1 + yu_le q c k (r + 1) else 1 := rfl
    have es : yu_ls q (r + 1) c = if (q r c).2.2.2.2.1 = true then yu_ls q r c else r + 1 := rfl
    rw [el]
    by_cases z : (q r c).2.2.2.2.1 = true
    · rw [if_pos z] at es ⊢
      obtain ⟨a1, a2, a3, a4⟩ := ih (r + 1)
      refine ⟨by omega, by omega, fun j hj => ?_, fun hk => ?_⟩
      · by_cases j0 : j = 0
        · rw [j0]; rfl
        · have := a3 (j - 1) (by omega)
          rw [show r + 1 + (j - 1) = r + j by omega, es] at this
          exact this
      · have := a4 (by omega)
        rw [show r + 1 + yu_le q c k (r + 1) = r + (1 + yu_le q c k (r + 1)) by omega] at this
        exact this
    · rw [if_neg z] at es ⊢
      exact ⟨Nat.le_refl _, by omega, fun j hj => (show yu_ls q (r + j) c = yu_ls q r c by rw [show j = 0 from Nat.lt_one_iff.mp hj]; rfl), fun _ => es⟩
/-- rows that are no first ones -/
theorem yu_skip {c r : Nat} : ∀ j : Nat, r + 1 + j ≤ n → (∀ i, i < j → ¬ yu_ls q (r + 1 + i) c = r + 1 + i) → yu_co pw q n c (n - (r + 1)) = yu_co pw q n c (n - (r + 1 + j)) := by
  intro j
  induction j with
  | zero => intro _ _; rfl
  | succ j ih =>
    intro h1 h2
    rw [ih (by omega) (fun i hi => h2 i (by omega))]
    obtain ⟨k, hk⟩ : ∃ k, n - (r + 1 + j) = k + 1 := ⟨n - (r + 1 + j) - 1, by omega⟩
    rw [hk, show n - (r + 1 + (j + 1)) = k by omega]
    show (if yu_ls q (n - (k + 1)) c = n - (k + 1) ∧ ¬ (q (n - (k + 1)) c).1 = 28 then yu_gp pw q n c (n - (k + 1)) else []) ++ yu_co pw q n c k = _
    rw [show n - (k + 1) = r + 1 + j by omega, if_neg (fun z => h2 j (by omega) z.1), List.nil_append]
theorem yu_stp {c r : Nat} (hr : r < n) (h1 : yu_ls q r c = r) : yu_co pw q n c (n - r) = (if (q r c).1 = 28 then [] else yu_gp pw q n c r) ++ yu_co pw q n c (n - (r + yu_le q c (n - 1 - r) r)) ∧ r + yu_le q c (n - 1 - r) r ≤ n ∧ (r + yu_le q c (n - 1 - r) r < n → yu_ls q (r + yu_le q c (n - 1 - r) r) c = r + yu_le q c (n - 1 - r) r) := by
  obtain ⟨a1, a2, a3, a4⟩ := yu_lef (q := q) (c := c) (n - 1 - r) r
  refine ⟨?_, by omega, fun h => a4 (by omega)⟩
  obtain ⟨k, hk⟩ : ∃ k, n - r = k + 1 := ⟨n - r - 1, by omega⟩
  have e := yu_skip (pw := pw) (q := q) (n := n) (c := c) (r := r) (yu_le q c (n - 1 - r) r - 1) (by omega) (fun i hi z => by
    have := a3 (1 + i) (by omega)
    rw [show r + (1 + i) = r + 1 + i by omega, z, h1] at this
    omega)
  rw [show r + 1 + (yu_le q c (n - 1 - r) r - 1) = r + yu_le q c (n - 1 - r) r by omega, show n - (r + 1) = k by omega] at e
  rw [hk]
  show (if yu_ls q (n - (k + 1)) c = n - (k + 1) ∧ ¬ (q (n - (k + 1)) c).1 = 28 then yu_gp pw q n c (n - (k + 1)) else []) ++ yu_co pw q n c k = _
  rw [show n - (k + 1) = r by omega, e]
  by_cases z : (q r c).1 = 28
  · rw [if_neg (fun w => w.2 z), if_pos z]
  · rw [if_pos ⟨h1, z⟩, if_neg z]
theorem yu_grl {c : Nat} : ∀ (k r w : Nat), (yu_gr pw q c k r w).length ≤ 9 * k + 1 := by
  intro k
  induction k with
  | zero => intro r w; show (if w = 0 then [((0, 0, 0, 0) : yI)] else []).length ≤ 1; split <;> decide
  | succ k ih =>
    intro r w
    show (if (q r c).1 = 27 then yu_gr pw q c k (r + 1) w else yu_wy pw q r c ++ ((if w = 0 then [] else [((7, 11, 0, 0) : yI)]) ++ yu_gr pw q c k (r + 1) (w + 1))).length ≤ _
    split
    · have := ih (r + 1) w; omega
    · rw [List.length_append, List.length_append]
      have a := yu_wyl (pw := pw) (q := q) (r := r) (c := c)
      have b := ih (r + 1) (w + 1)
      have e : (if w = 0 then [] else [((7, 11, 0, 0) : yI)]).length ≤ 1 := by split <;> decide
      omega
theorem yu_colC {c : Nat} (hc : c < m) (hn : ∀ r, r < n → yu_N h0 (q r c)) {k7 : zs_H → Int32 → Option zs_H} : ∀ (k r t kk N : Nat) (h : zs_H), n - r ≤ k → r ≤ n → (r < n → yu_ls q r c = r) → t ≤ r → yC_f h0 h → yu_S pw n m q h → (h.1 41 5) = nI kk → kk + 11 * (n - r) ≤ 90000000 → k < N → (yu_co pw q n c (n - r)).length ≤ 11 * (n - r) ∧ ∃ h', f_Cr_codeRung_L20 k7 N h (nI c) (nI r) (nI t) = k7 h' (nI (c + 1)) ∧ yC_E kk (yu_co pw q n c (n - r)) h h' := by
  have hz := zF_big
  intro k
  induction k with
  | zero =>
    intro r t kk N h hk hr _ ht f S es hkk hN
    obtain ⟨N, rfl⟩ : ∃ z, N = z + 1 := ⟨N - 1, by omega⟩
    have sn := S.2.1
    have e0 : n - r = 0 := by omega
    rw [e0]
    refine ⟨Nat.le_refl _, h, ?_, yC_nil es⟩
    show f_Cr_codeRung_20 k7 (f_Cr_codeRung_L20 k7 N) h (nI c) (nI r) (nI t) = _
    unfold f_Cr_codeRung_20 f_Cr_codeRung_86
    rw [S.1.1, if_pos (show nI n ≤ nI r from (nI_leI (by omega) (by omega)).mpr (by omega)), ite_self, nI_1]
  | succ k ih =>
    intro r t kk N h hk hr hls ht f S es hkk hN
    obtain ⟨N, rfl⟩ : ∃ z, N = z + 1 := ⟨N - 1, by omega⟩
    have sn := S.2.1
    by_cases er : r = n
    · have e0 : n - r = 0 := by omega
      rw [e0]
      refine ⟨Nat.le_refl _, h, ?_, yC_nil es⟩
      show f_Cr_codeRung_20 k7 (f_Cr_codeRung_L20 k7 N) h (nI c) (nI r) (nI t) = _
      unfold f_Cr_codeRung_20 f_Cr_codeRung_86
      rw [S.1.1, if_pos (show nI n ≤ nI r from (nI_leI (by omega) (by omega)).mpr (by omega)), ite_self, nI_1]
    · have hrn : r < n := by omega
      obtain ⟨s1, s2, s3⟩ := yu_stp (pw := pw) (q := q) (n := n) (c := c) hrn (hls hrn)
      obtain ⟨a1, a2, a3, _⟩ := yu_lef (q := q) (c := c) (n - 1 - r) r
      have Nr := hn r hrn
      obtain ⟨g1, _, _⟩ := S.2.2 r c hrn hc
      have el : f_Cr_lastOfGroup h (nI r) (nI c) = some (nI (r + yu_le q c (n - 1 - r) r - 1)) := yu_l S hc (n - 1 - r) r zF (by omega) (by omega)
      rw [s1]
      have e20 : ∀ h1 : zs_H, f_Cr_codeRung_75 k7 (f_Cr_codeRung_L20 k7 N) h1 (nI c) (nI t) (nI (r + yu_le q c (n - 1 - r) r - 1)) = f_Cr_codeRung_L20 k7 N h1 (nI c) (nI (r + yu_le q c (n - 1 - r) r)) (nI (t + 1)) := by
        intro h1
        unfold f_Cr_codeRung_75
        rw [nI_1, nI_1, show r + yu_le q c (n - 1 - r) r - 1 + 1 = r + yu_le q c (n - 1 - r) r by omega]
      have e0 : f_Cr_codeRung_L20 k7 (N + 1) h (nI c) (nI r) (nI t) = if nI (q r c).1 = 28 then f_Cr_codeRung_75 k7 (f_Cr_codeRung_L20 k7 N) h (nI c) (nI t) (nI (r + yu_le q c (n - 1 - r) r - 1)) else (f_Cr_codeGroup h (nI r) (nI (r + yu_le q c (n - 1 - r) r - 1)) (nI c)).bind fun h9 => f_Cr_codeRung_75 k7 (f_Cr_codeRung_L20 k7 N) h9 (nI c) (nI t) (nI (r + yu_le q c (n - 1 - r) r - 1)) := by
        show f_Cr_codeRung_20 k7 (f_Cr_codeRung_L20 k7 N) h (nI c) (nI r) (nI t) = _
        unfold f_Cr_codeRung_20
        rw [if_neg (mt (zc_le (k := 12) (by decide) (by omega)).mp (by omega)), S.1.1, if_neg (mt (nI_leI (by omega) (by omega)).mp (by omega)), el, Option.bind_some, show nI r * 12 + nI c = nI (r * 12 + c) by rw [show (12 : Int32) = nI 12 from rfl, zi_mul, nI_add], if_pos (zi_in (by omega) (by omega)), nI_clamp (show r * 12 + c < 2147483648 by omega), g1, if_pos (zi_in (by have := Nr.1.2.2.1; omega) Nr.1.2.2.1), nI_clamp (by have := Nr.1.2.2.1; omega), f.2.1 13 (by decide), Nr.1.2.2.2]
      by_cases z : (q r c).1 = 28
      · rw [e0, if_pos z, if_pos (show nI (q r c).1 = 28 by rw [z]; rfl), e20, List.nil_append]
        obtain ⟨b0, h1, b1, b2⟩ := ih (r + yu_le q c (n - 1 - r) r) (t + 1) kk N h (by omega) s2 s3 (by omega) f S es (by omega) (by omega)
        exact ⟨by omega, h1, b1, b2⟩
      · rw [e0, if_neg z, if_neg (show ¬ nI (q r c).1 = 28 from fun e => z ((zc_eq (k := 28) (by decide) (by have := Nr.1.1; omega)).mp e))]
        obtain ⟨h1, b1, b2⟩ := yu_grC (la := r + yu_le q c (n - 1 - r) r - 1) hc hrn hn (yu_le q c (n - 1 - r) r) r 0 kk zF h f S (by omega) (by omega) es (by omega) (by omega) (by omega)
        have b1' : f_Cr_codeGroup h (nI r) (nI (r + yu_le q c (n - 1 - r) r - 1)) (nI c) = some h1 := b1
        have b2' : yC_E kk (yu_gp pw q n c r) h h1 := b2
        have gl : (yu_gp pw q n c r).length ≤ 9 * yu_le q c (n - 1 - r) r + 2 := by
          unfold yu_gp
          rw [List.length_append]
          have := yu_grl (pw := pw) (q := q) (c := c) (yu_le q c (n - 1 - r) r) r 0
          show _ + 1 ≤ _
          omega
        rw [b1', Option.bind_some, e20]
        obtain ⟨d0, h2, d1, d2⟩ := ih (r + yu_le q c (n - 1 - r) r) (t + 1) _ N h1 (by omega) s2 s3 (by omega) (yC_fE f b2') (yu_Sf S b2') b2'.1 (by omega) (by omega)
        exact ⟨by rw [List.length_append]; omega, h2, d1, yC_ap b2' d2⟩
end YUD
