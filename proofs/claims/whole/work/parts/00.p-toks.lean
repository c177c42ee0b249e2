/-! What is known of tokens. -/
def zl_kd (t : zl_T) (n b : Nat) : Prop := b ≤ t.2.1 ∧ t.2.1 ≤ n ∧ (t.1 = 0 ∨ t.1 = 1 ∨ t.1 = 2 ∨ t.1 = 3 ∨ t.1 = 4 ∨ t.1 = 5 ∨ t.1 = 9) ∧ (¬ (t.1 = 0 ∨ t.1 = 9) → t.2.1 < t.2.2.1 ∧ t.2.2.1 ≤ n) ∧ t.2.2.2 < 2147483648
theorem zl_fin_kd {T : Nat → Int32} {n a e : Nat} {v : Option Nat} (ha : a < n) (h1 : a < e) (h2 : ¬ v = none → e ≤ n) : zl_kd (zl_fin T n a v e) n a := by
  unfold zl_fin
  cases v with
  | none => exact ⟨Nat.le_refl a, by show a ≤ n; omega, by simp, fun q => absurd (Or.inr rfl) q, by show 4 < _; decide⟩
  | some x =>
    dsimp only
    by_cases c : x ≤ 2147483647 ∧ zl_pt T n e = false
    · rw [if_pos c]
      exact ⟨Nat.le_refl a, by show a ≤ n; omega, by simp, fun _ => ⟨h1, h2 (by simp)⟩, by show x < _; omega⟩
    · rw [if_neg c]
      exact ⟨Nat.le_refl a, by show a ≤ n; omega, by simp, fun q => absurd (Or.inr rfl) q, by show 4 < _; decide⟩
theorem zl_nb_kd {T : Nat → Int32} {n a : Nat} (ha : a < n) (hd : zl_dp T n 10 a = true) : zl_kd (zl_nb T n a) n a := by
  have hr1 : a + 1 ≤ zl_dr T n 10 a := by
    unfold zl_dr
    rw [zl_run_1 _ _ _ hd ha]
    exact zl_run_ge _ _ _
  have hr2 := zl_dr_n (T := T) (n := n) (base := 10) (s := a) (by decide) (by omega)
  unfold zl_nb
  by_cases c1 : zl_b T n (zl_dr T n 10 a) = 35
  · rw [if_pos c1]
    by_cases c2 : zl_vl T n 10 a (zl_dr T n 10 a - a) = 16 ∨ zl_vl T n 10 a (zl_dr T n 10 a - a) = 2
    · rw [if_pos c2]
      generalize zl_vl T n 10 a (zl_dr T n 10 a - a) = v at c2 ⊢
      have he : zl_dr T n 10 a < n := zl_b_lt (by rw [c1]; decide)
      generalize zl_dr T n 10 a = e1 at hr1 hr2 he ⊢
      have hr3 := zl_dr_le (T := T) (n := n) (base := v) (s := e1 + 1) (by omega)
      refine zl_fin_kd ha (by omega) fun q => ?_
      by_cases c3 : zl_dr T n v (e1 + 1) - (e1 + 1) = 0
      · rw [if_pos c3] at q; exact absurd rfl q
      · exact zl_dr_n (by omega) (by omega)
    · rw [if_neg c2]
      exact ⟨Nat.le_refl a, by show a ≤ n; omega, by simp, fun q => absurd (Or.inr rfl) q, by show 4 < _; decide⟩
  · rw [if_neg c1]
    exact zl_fin_kd ha (by omega) fun _ => hr2
theorem zl_un_lt {T : Nat → Int32} {n e : Nat} (h : ¬ zl_un T n e = 0) : e + (if zl_un T n e = 1 then 2 else if zl_un T n e = 0 then 0 else 1) ≤ n := by
  rw [if_neg h]
  unfold zl_un at h ⊢
  by_cases c1 : zl_g T n e = 77 ∧ zl_g T n (e + 1) = 83
  · have := zl_g_lt (T := T) (n := n) (i := e + 1) (by rw [c1.2]; decide)
    rw [if_pos c1, if_pos rfl]; omega
  · rw [if_neg c1] at h ⊢
    have he : e < n := by
      apply zl_g_lt (T := T)
      intro q
      rw [q] at h
      exact h (by decide)
    have hne : ¬ (if zl_g T n e = 83 then 1000 else if zl_g T n e = 77 then 60000 else if zl_g T n e = 72 then 3600000 else 0) = 1 := by
      repeat' split
      all_goals decide
    rw [if_neg hne]; omega
theorem zl_tm_kd {T : Nat → Int32} {n a : Nat} (ha : a < n) : zl_kd (zl_tm T n a) n a := by
  have hr := zl_dr_le (T := T) (n := n) (base := 10) (s := a + 2) (by omega)
  unfold zl_tm
  refine zl_fin_kd ha (by omega) fun q => ?_
  refine zl_un_lt fun z => q (if_pos (Or.inl z))
theorem zl_pl_kd {T : Nat → Int32} {n a : Nat} (ha : a < n) : zl_kd (zl_pl T n a) n a := by
  have w5 : zl_kd (9, a, a, 5) n a := ⟨Nat.le_refl a, by show a ≤ n; omega, by simp, fun q => absurd (Or.inr rfl) q, by show 5 < _; decide⟩
  have hr := zl_dr_le (T := T) (n := n) (base := 10) (s := a + 3) (by omega)
  unfold zl_pl
  cases hw : zl_wh T n a 6 with
  | none => exact w5
  | some k =>
    have hk := zl_wh_lt 6 k hw
    dsimp only
    by_cases c : zl_dr T n 10 (a + 3) - (a + 3) = 0 ∨ (if k < 3 then 255 else 63) < zl_vl T n 10 (a + 3) (zl_dr T n 10 (a + 3) - (a + 3)) ∨ zl_pt T n (zl_dr T n 10 (a + 3)) = true
    · rw [if_pos c]; exact w5
    · rw [if_neg c]
      have h1 : ¬ zl_dr T n 10 (a + 3) - (a + 3) = 0 := fun q => c (Or.inl q)
      have h2 : ¬ (if k < 3 then 255 else 63) < zl_vl T n 10 (a + 3) (zl_dr T n 10 (a + 3) - (a + 3)) := fun q => c (Or.inr (Or.inl q))
      have h3 : (if k < 3 then 255 else 63) ≤ 255 := by split <;> omega
      exact ⟨Nat.le_refl a, by show a ≤ n; omega, by simp, fun _ => ⟨by show a < zl_dr T n 10 (a + 3); omega, zl_dr_n (by decide) (by omega)⟩, by show 256 * k + _ < _; omega⟩
theorem zl_sn_kd {T : Nat → Int32} {n a : Nat} (hT : ∀ i, zb_ok (T i)) (ha : a < n) : zl_kd (zl_sn T n a) n a := by
  obtain ⟨k, hk, ek, -, -⟩ := zl_byte (hT a)
  have eb : zl_b T n a = nI k := by unfold zl_b; rw [if_pos ha, ek]
  unfold zl_sn
  by_cases c : zl_2 (zl_b T n a) (zl_b T n (a + 1)) = 0
  · rw [if_pos c]
    by_cases c2 : zl_b T n a ∈ zl_sg
    · rw [if_pos c2]
      exact ⟨Nat.le_refl a, by show a ≤ n; omega, by simp, fun _ => ⟨by show a < a + 1; omega, by show a + 1 ≤ n; omega⟩, Int32.toNatClampNeg_lt _⟩
    · rw [if_neg c2]
      exact ⟨Nat.le_refl a, by show a ≤ n; omega, by simp, fun q => absurd (Or.inr rfl) q, by show 1 < _; decide⟩
  · rw [if_neg c]
    have h2 : zl_2 (zl_b T n a) (zl_b T n (a + 1)) ≤ 260 := by
      unfold zl_2
      repeat' split
      all_goals decide
    have h3 : a + 1 < n := by
      apply zl_b_lt (T := T)
      intro q
      rw [q] at c
      apply c
      unfold zl_2
      have hq : ∀ x : Int32, (x = 61 ∨ x = 46 ∨ x = 62) → ¬ (-1 : Int32) = x := by
        rintro x (rfl | rfl | rfl) <;> decide
      rw [if_neg (fun z => hq _ (Or.inl rfl) z.2), if_neg (fun z => hq _ (Or.inr (Or.inl rfl)) z.2), if_neg (fun z => hq _ (Or.inl rfl) z.2), if_neg (fun z => hq _ (Or.inl rfl) z.2), if_neg (fun z => hq _ (Or.inr (Or.inr rfl)) z.2)]
    exact ⟨Nat.le_refl a, by show a ≤ n; omega, by simp, fun _ => ⟨by show a < a + 2; omega, by show a + 2 ≤ n; omega⟩, by show zl_2 _ _ < _; omega⟩
theorem zl_isLet (c : Int32) (h : ¬ f_Mo_isLetter (f_Nm_great c) = 0) : ¬ f_Nm_isPart c = 0 := by
  grind [f_Mo_isLetter, f_Mo_isLetter_12, f_Nm_great, f_Nm_isPart, f_Nm_isLetter, f_Nm_isLetter_12, f_Nm_isLetter_24]
theorem zl_tn_kd {T : Nat → Int32} {n a : Nat} (ha : a < n) (hf : zl_pt T n a = true) : zl_kd (zl_tn T n a) n a := by
  obtain ⟨n1, n2, n3, n4⟩ := zl_ne_le (T := T) (n := n) (a := a) (by omega)
  have n5 : a + 1 ≤ zl_ne T n a := by
    unfold zl_ne
    rw [zl_run_1 _ _ _ hf ha]
    exact zl_run_ge _ _ _
  unfold zl_tn
  by_cases c1 : 32 < zl_ne T n a - a
  · rw [if_pos c1]
    exact ⟨Nat.le_refl a, by show a ≤ n; omega, by simp, fun q => absurd (Or.inr rfl) q, by show 3 < _; decide⟩
  · rw [if_neg c1]
    by_cases c2 : zl_nm T n a (zl_ne T n a) ∈ zl_W
    · have hw : zl_W.idxOf (zl_nm T n a (zl_ne T n a)) < 41 := List.idxOf_lt_length_of_mem c2
      rw [if_pos c2]
      exact ⟨Nat.le_refl a, by show a ≤ n; omega, by simp, fun _ => ⟨by show a < zl_ne T n a; omega, n2⟩, by show zl_W.idxOf _ < _; omega⟩
    · rw [if_neg c2]
      exact ⟨Nat.le_refl a, by show a ≤ n; omega, by simp, fun _ => ⟨by show a < zl_ne T n a; omega, n2⟩, by show 0 < _; decide⟩
theorem zl_tk_kd {T : Nat → Int32} {n a : Nat} (hT : ∀ i, zb_ok (T i)) (ha : a ≤ n) : zl_kd (zl_tk T n a) n a := by
  unfold zl_tk
  by_cases c0 : n ≤ a
  · rw [if_pos c0]
    exact ⟨by show a ≤ n; omega, Nat.le_refl n, by simp, fun q => absurd (Or.inl rfl) q, by show 0 < _; decide⟩
  rw [if_neg c0]
  by_cases c1 : zl_g T n a = 84 ∧ zl_b T n (a + 1) = 35
  · rw [if_pos c1]; exact zl_tm_kd (by omega)
  rw [if_neg c1]
  by_cases c2 : ¬ f_Mo_isLetter (zl_g T n a) = 0
  · rw [if_pos c2]; exact zl_tn_kd (by omega) (by unfold zl_pt; exact decide_eq_true (zl_isLet _ c2))
  rw [if_neg c2]
  by_cases c3 : ¬ f_Mo_isDigit (zl_g T n a) = 0
  · rw [if_pos c3]; exact zl_nb_kd (by omega) (by unfold zl_dp; exact decide_eq_true (zl_dp10 _ c3))
  rw [if_neg c3]
  by_cases c4 : zl_g T n a = 37
  · rw [if_pos c4]; exact zl_pl_kd (by omega)
  · rw [if_neg c4]; exact zl_sn_kd hT (by omega)
theorem zl_tok_kd {T : Nat → Int32} {n b : Nat} (hT : ∀ i, zb_ok (T i)) (hb : b ≤ n) : zl_kd (zl_tok T n b) n b := by
  have hs := zl_sk_le (T := T) (n := n) (n - b) b hb
  unfold zl_tok
  by_cases c : (zl_sk T n (n - b) b).2 = true
  · rw [if_pos c]
    have q := zl_tk_kd hT hs.1
    exact ⟨Nat.le_trans hs.2 q.1, q.2⟩
  · rw [if_neg c]
    exact ⟨hs.2, hs.1, by simp, fun q => absurd (Or.inr rfl) q, by show 2 < _; decide⟩
