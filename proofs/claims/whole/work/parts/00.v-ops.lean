/-! The model's reader: single steps. -/
theorem zl_J_up {T : Nat → Int32} {n b b' c : Nat} (h : zl_J T n b c) (hb : b ≤ b') : zl_J T n b' c := by
  by_cases e : b' = b
  · rw [e]; exact h
  · have := h.1
    exact ⟨by omega, Or.inl (by omega)⟩
theorem zl_J_nm {T : Nat → Int32} {n b c : Nat} (hT : ∀ i, zb_ok (T i)) (hb : b ≤ n) (h : zl_J T n b c) (h1 : (zl_tok T n b).1 = 1) : zl_J T n (zl_tok T n b).2.2.1 (c + 1) := by
  have hk := zl_tok_kd (n := n) (b := b) hT hb
  obtain ⟨t1, t2, t3, t4, t5, t6⟩ := zl_tok_nm (T := T) (n := n) (b := b) (Or.inl h1)
  have hne := zl_ne_le (T := T) (n := n) (a := (zl_tok T n b).2.1) (by omega)
  rw [← t1] at hne
  have k1 := hk.1
  have k2 := (hk.2.2.2.1 (by omega)).1
  have hJ := h.1
  refine ⟨?_, Or.inr hne.2.2.1⟩
  rcases h.2 with w | w
  · omega
  · have : ¬ (zl_tok T n b).2.1 = b := fun e5 => by rw [e5, w] at t3; exact absurd t3 (by decide)
    omega
theorem zl_tok_0 {T : Nat → Int32} {n b : Nat} (h : (zl_tok T n b).1 = 0) : (zl_tok T n b).2.2.1 = n := by
  have hfin : ∀ a v e, ¬ (zl_fin T n a v e).1 = 0 := by
    intro a v e
    unfold zl_fin
    repeat' split
    all_goals simp
  revert h
  unfold zl_tok
  by_cases c : (zl_sk T n (n - b) b).2 = true
  · rw [if_pos c]
    generalize (zl_sk T n (n - b) b).1 = a
    unfold zl_tk
    by_cases c0 : n ≤ a
    · rw [if_pos c0]; intro _; rfl
    rw [if_neg c0]
    intro h
    exfalso
    revert h
    unfold zl_tm zl_tn zl_nb zl_pl zl_sn
    repeat' split
    all_goals first | exact hfin _ _ _ | simp
  · rw [if_neg c]; intro h; simp at h
/-- what the reader of the model may change -/
abbrev zx_fs : List (Nat × Nat) := [(68, 3), (68, 6), (68, 7), (68, 8), (68, 9), (68, 10), (68, 11), (68, 12), (68, 13), (68, 14), (68, 25)]
abbrev zx_ms : List Nat := [70, 71, 72, 73, 74, 75, 76, 77, 78, 81, 82, 83]
abbrev zx_f (g g' : zs_H) : Prop := zfr zx_fs zx_ms [] g g'
/-- nodes are where they say -/
def zx_W (g : zs_H) (m : Nat) : Prop := ∀ i, i < m → (g.2.1 76) i = -1 ∨ ((∃ a, a < m ∧ (g.2.1 76) i = nI a) ∧ ∃ a, a < m ∧ (g.2.1 77) i = nI a)
/-- the model's reader behind a fault, with m nodes -/
def zx_B (g0 : zs_H) (T : Nat → Int32) (n φ w m O : Nat) (g : zs_H) : Prop := zx_f g0 g ∧ zl_X g T n ∧ n ≤ 10240 ∧ (∀ i, zb_ok (T i)) ∧ (g.1 68 10) = nI φ ∧ (g.1 68 11) = nI w ∧ (1 ≤ φ ∧ φ < 1000) ∧ (∃ LM b, zn_M g LM ∧ (g.1 68 8) = nI b ∧ b ≤ n ∧ zl_J T n b LM.length) ∧ (g.1 68 14) = nI m ∧ zx_W g m ∧ ∃ o, (g.1 68 25) = nI o ∧ o ≤ O
section ZV
variable {g0 g : zs_H} {T : Nat → Int32} {n φ w m O : Nat}
theorem zx_ne (H : zx_B g0 T n φ w m O g) : ¬ (g.1 68 10) = 0 := by
  obtain ⟨_, _, _, _, h5, _, h7, _⟩ := H
  rw [h5]
  exact fun q => by have := (zc_eq (k := 0) (by decide) (by omega)).mp q; omega
theorem zx_pos (H : zx_B g0 T n φ w m O g) : ¬ (g.1 68 10) ≤ 0 := by
  obtain ⟨_, _, _, _, h5, _, h7, _⟩ := H
  rw [h5]
  exact mt (zc_el (k := 0) (by decide) (by omega)).mp (by omega)
theorem zx_isSign (H : zx_B g0 T n φ w m O g) (x : Int32) : f_Mo_isSign g x = 0 := by
  unfold f_Mo_isSign; rw [if_neg (zx_ne H)]
theorem zx_isWord (H : zx_B g0 T n φ w m O g) (x : Int32) : f_Mo_isWord g x = 0 := by
  unfold f_Mo_isWord; rw [if_neg (zx_ne H)]
theorem zx_signAt (H : zx_B g0 T n φ w m O g) : f_Mo_signAt g = -1 := by
  unfold f_Mo_signAt; rw [if_neg (zx_pos H)]
theorem zx_want (H : zx_B g0 T n φ w m O g) (x : Int32) : f_Mo_want g x = some g := by
  unfold f_Mo_want; rw [if_neg (zx_ne H)]
theorem zx_wantSign (H : zx_B g0 T n φ w m O g) (x : Int32) : f_Mo_wantSign g x = some g := by
  unfold f_Mo_wantSign; rw [zx_want H]; rfl
theorem zx_wantWord (H : zx_B g0 T n φ w m O g) (x : Int32) : f_Mo_wantWord g x = some g := by
  unfold f_Mo_wantWord; rw [zx_want H]; rfl
theorem zx_name (H : zx_B g0 T n φ w m O g) : f_Mo_name g = some ((g.1 68 9), g) := by
  unfold f_Mo_name f_Mo_name_19
  rw [zx_want H, zx_want H]
  split <;> rfl
theorem zx_next2 (H : zx_B g0 T n φ w m O g) : f_Mo_next2 g = some g := by
  unfold f_Mo_next2; rw [if_neg (zx_ne H)]
theorem zx_uF {k j : Nat} {v : Int32} (H : zx_B g0 T n φ w m O g) (h1 : (k, j) = (68, 12) ∨ (k, j) = (68, 13)) : zx_B g0 T n φ w m O (zs_uF g k j v) := by
  obtain ⟨h2, h3, h4, h5, h6, h7, h8, ⟨LM, b, b1, b2, b3, b4⟩, h9, h10, o, h11, h12⟩ := H
  rcases h1 with e | e <;> cases e
  · exact ⟨zfr_F (by decide) h2, h3, h4, h5, h6, h7, h8, ⟨LM, b, b1, b2, b3, b4⟩, h9, h10, o, h11, h12⟩
  · exact ⟨zfr_F (by decide) h2, h3, h4, h5, h6, h7, h8, ⟨LM, b, b1, b2, b3, b4⟩, h9, h10, o, h11, h12⟩
theorem zx_open (H : zx_B g0 T n φ w m O g) : zw (f_Mo_open g) (zx_B g0 T n φ w m O) := by
  unfold f_Mo_open f_Mo_open_26
  rw [if_neg (zx_ne H), zw_some]
  exact zx_uF H (Or.inl rfl)
theorem zx_next (H : zx_B g0 T n φ w m O g) : zw (f_Mo_next g) (zx_B g0 T n φ w m O) := by
  have hne := zx_ne H
  obtain ⟨h2, h3, h4, h5, h6, h7, h8, ⟨LM, b, b1, b2, b3, b4⟩, h9, h10, o, h11, h12⟩ := H
  refine zw_mono (zl_next h3 h5 b2 b3 b1 (by have := b4.1; omega)) fun g' q => ?_
  obtain ⟨q1, q2, q3⟩ := q
  have hX : zl_X g' T n := by
    refine ⟨(q1.1 _ _ (by decide)).trans h3.1, h3.2.1, fun i hi => ?_⟩
    rw [q1.2.1 _ (by decide)]; exact h3.2.2 i hi
  have hW : zx_W g' m := by
    unfold zx_W
    rw [q1.2.1 _ (by decide), q1.2.1 _ (by decide)]; exact h10
  have fr : zx_f g0 g' := zfr_trans h2 (zfr_w q1 (by decide) (by decide) (by decide))
  have hkd := zl_tok_kd (n := n) (b := b) h5 b3
  by_cases c : (zl_tok T n b).1 = 9
  · obtain ⟨q4, q5, q6, b', q7, q8, q9⟩ := q2 c
    obtain ⟨q10, q11⟩ := q5 hne
    exact ⟨fr, hX, h4, h5, q10.trans h6, q11.trans h7, h8, ⟨LM, b', q6, q7, q8, zl_J_up b4 q9⟩, (q1.1 _ _ (by decide)).trans h9, hW, o, (q1.1 _ _ (by decide)).trans h11, h12⟩
  · obtain ⟨q4, q5, q6, q7, q8, q9, q10⟩ := q3 c
    have hb' : (zl_tok T n b).2.2.1 ≤ n ∧ b ≤ (zl_tok T n b).2.2.1 := by
      by_cases c0 : (zl_tok T n b).1 = 0
      · have := zl_tok_0 c0
        rw [this]; exact ⟨Nat.le_refl n, b3⟩
      · have := hkd.2.2.2.1 (by omega)
        have := hkd.1
        omega
    refine ⟨fr, hX, h4, h5, q4.trans h6, q5.trans h7, h8, ?_, (q1.1 _ _ (by decide)).trans h9, hW, o, (q1.1 _ _ (by decide)).trans h11, h12⟩
    by_cases c1 : (zl_tok T n b).1 = 1
    · obtain ⟨q11, q12⟩ := q9 c1
      refine ⟨_, _, q12, q7, hb'.1, ?_⟩
      split
      · exact zl_J_up b4 hb'.2
      · rw [List.length_append]; exact zl_J_nm h5 b3 b4 c1
    · exact ⟨LM, _, (q10 c1).1, q7, hb'.1, zl_J_up b4 hb'.2⟩
end ZV
