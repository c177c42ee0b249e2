/-! Both readers in step: what is wanted; hanging nodes. -/
def zk_cs (c k : Nat) : Bool := ([40, 41, 91, 93, 44, 59, 58, 46, 43, 45, 42, 47, 61, 60, 62, 38, 124].elem c && c == k) || (decide (256 ≤ c) && decide (c ≤ 260) && (k + 255 == c))
theorem zk_csf {c k : Nat} (h : zk_cs c k = true) : (zl_sv c ∧ k = c) ∨ (1 ≤ k ∧ k ≤ 5 ∧ c = 255 + k) := by
  unfold zk_cs at h
  rw [Bool.or_eq_true, Bool.and_eq_true, Bool.and_eq_true, Bool.and_eq_true] at h
  rcases h with ⟨h1, h2⟩ | ⟨⟨h1, h2⟩, h3⟩
  · exact Or.inl ⟨by unfold zl_sv; exact List.elem_iff.mp h1, (beq_iff_eq.mp h2).symm⟩
  · have h4 := of_decide_eq_true h1
    have h5 := of_decide_eq_true h2
    have h6 := beq_iff_eq.mp h3
    exact Or.inr ⟨by omega, by omega, by omega⟩
theorem zk_F' {h : zs_H} {T : Nat → Int32} {n K : Nat} {LC : List (List Int32)} (H : zq_S h T n K LC) (j : Nat) : zl_F (zl_at T n j) := zl_Ftok H.2.2.2.2.2.2.2.2.1
section ZA
variable {h0 g0 h g : zs_H} {T : Nat → Int32} {n K : Nat} {LC LM : List (List Int32)} {j d s m o q : Nat}
theorem zk_sign (H : zk_L h0 g0 T n K LC h g LM j d s m o q) {c k : Nat} (hc : zk_cs c k = true) : f_Mo_isSign g (nI c) = if (h.1 19 5) = nI k then 1 else 0 := by
  have hA := zl_ckA (zk_F H)
  have hk : k < 200 ∧ c < 2147483648 := by
    rcases zk_csf hc with ⟨a, b⟩ | ⟨a, b, e⟩
    · have := zl_svb a; omega
    · omega
  have ht := zk_tok H hk.1
  obtain ⟨a1, a2, a3, a4, a5, a6⟩ := H
  obtain ⟨m1, m2, m3, m4, m5, m6, m7, m8, m9⟩ := a6
  have key : zl_ck (zl_at T n j) = k ↔ (zl_at T n j).1 = 5 ∧ (zl_at T n j).2.2.2 = c := by
    rcases zk_csf hc with ⟨a, b⟩ | ⟨a, b, e⟩
    · rw [b]; exact hA.1 c a
    · rw [e]; exact hA.2.1 k a b
  have hb := zl_tok_kd (n := n) (b := zl_bs T n j) a3.2.2.2.2.2.2.2.2.1 (zq_bs a3.2.2.2.2.2.2.2.2.1 j (fun i hi => a3.2.2.2.1 i (by omega)))
  have hv : (zl_at T n j).2.2.2 < 2147483648 := hb.2.2.2.2
  unfold f_Mo_isSign
  rw [if_pos m2, m6]
  by_cases e : (zl_at T n j).1 = 5
  · rw [if_pos (by rw [e]; rfl), m8 (by omega) (by omega)]
    by_cases e2 : (zl_at T n j).2.2.2 = c
    · rw [if_pos (by rw [e2]), if_pos (ht.mpr (key.mpr ⟨e, e2⟩))]
    · rw [if_neg (fun z => e2 ((nI_eq hv hk.2).mp z)), if_neg (fun z => e2 (key.mp (ht.mp z)).2)]
  · rw [if_neg (fun z => e ((zc_eq (k := 5) (by decide) (by have := (zk_F' a3 j).1; omega)).mp z)), if_neg (fun z => e (key.mp (ht.mp z)).1)]
theorem zk_word (H : zk_L h0 g0 T n K LC h g LM j d s m o q) {c : Nat} (hc : c < 41) : f_Mo_isWord g (nI c) = if (h.1 19 5) = nI (128 + c) then 1 else 0 := by
  have hA := zl_ckA (zk_F H)
  have ht := zk_tok H (x := 128 + c) (by omega)
  have key := hA.2.2.1 c hc
  obtain ⟨a1, a2, a3, a4, a5, a6⟩ := H
  obtain ⟨m1, m2, m3, m4, m5, m6, m7, m8, m9⟩ := a6
  have hF := zk_F' a3 j
  unfold f_Mo_isWord
  rw [if_pos m2, m6]
  by_cases e : (zl_at T n j).1 = 2
  · rw [if_pos (by rw [e]; rfl), m8 (by omega) (by omega)]
    have hv := hF.2.1 e
    by_cases e2 : (zl_at T n j).2.2.2 = c
    · rw [if_pos (by rw [e2]), if_pos (ht.mpr (key.mpr ⟨e, e2⟩))]
    · rw [if_neg (fun z => e2 ((nI_eq (by omega) (by omega)).mp z)), if_neg (fun z => e2 (key.mp (ht.mp z)).2)]
  · rw [if_neg (fun z => e ((zc_eq (k := 2) (by decide) (by have := hF.1; omega)).mp z)), if_neg (fun z => e (key.mp (ht.mp z)).1)]
theorem zk_kind (H : zk_L h0 g0 T n K LC h g LM j d s m o q) : ((g.1 68 6) = 1 ↔ (h.1 19 5) = 8) ∧ ((g.1 68 6) = 3 ↔ (h.1 19 5) = 9) ∧ ((g.1 68 6) = 4 ↔ (h.1 19 5) = 10) ∧ ((g.1 68 6) = 0 ↔ (h.1 19 5) = 6) := by
  have hA := zl_ckA (zk_F H)
  have hF := zk_F H
  have h8 := zk_tok H (x := 8) (by decide)
  have h9 := zk_tok H (x := 9) (by decide)
  have h10 := zk_tok H (x := 10) (by decide)
  have h6 := zk_tok H (x := 6) (by decide)
  have m6 := H.2.2.2.2.2.2.2.2.2.2.1
  have hk : (zl_at T n j).1 < 2147483648 := by have := hF.1; omega
  rw [m6]
  exact ⟨(zc_eq (k := 1) (by decide) hk).trans (hA.2.2.2.2.2.1.symm.trans h8.symm), (zc_eq (k := 3) (by decide) hk).trans (hA.2.2.2.2.2.2.1.symm.trans h9.symm), (zc_eq (k := 4) (by decide) hk).trans (hA.2.2.2.2.2.2.2.1.symm.trans h10.symm), (zc_eq (k := 0) (by decide) hk).trans (hA.2.2.2.1.symm.trans h6.symm)⟩
/-- what goes on: in step at the next token, or both behind a fault -/
def zk_on (h0 g0 : zs_H) (T : Nat → Int32) (n K : Nat) (LC : List (List Int32)) (LM : List (List Int32)) (j d s m o q : Nat) (h g h' g' : zs_H) : Prop := (zfr [(19, 4), (19, 5), (19, 6)] [] [] h h' ∧ zfr zk_lx [70, 71] [] g g' ∧ ∃ LM', LM <+: LM' ∧ zk_L h0 g0 T n K LC h' g' LM' (j + 1) d s m o q) ∨ zk_B h0 g0 T n K LC m o h' g'
theorem zk_want (H : zk_L h0 g0 T n K LC h g LM j d s m o q) {x y : Int32} (hxy : ¬ y = 0 ↔ (h.1 19 5) = x) (hx6 : ¬ x = 6) : ∃ h' g', f_Ps_take h x = some h' ∧ f_Mo_want g y = some g' ∧ (zk_B h0 g0 T n K LC m o h' g' ∨ ((h.1 19 5) = x ∧ zk_on h0 g0 T n K LC LM j d s m o q h g h' g')) := by
  have m2 := H.2.2.2.2.2.2.1
  unfold f_Mo_want
  rw [if_pos m2]
  by_cases c : (h.1 19 5) = x
  · have hE : ¬ (zl_at T n j).1 = 0 := by
      intro z
      have h6 := ((zk_kind H).2.2.2).mp (by rw [H.2.2.2.2.2.2.2.2.2.2.1, z]; rfl)
      exact hx6 (c.symm.trans h6)
    obtain ⟨h', g', e1, e2, e3, e4, e5⟩ := zk_step H hE
    rw [c] at e1
    rw [if_neg (hxy.mpr c), e2]
    refine ⟨h', g', e1, rfl, Or.inr ⟨c, ?_⟩⟩
    rcases e5 with z | z
    · exact Or.inl ⟨e3, e4, z⟩
    · exact Or.inr z
  · obtain ⟨h', g', e1, e2, e3⟩ := zk_wrong H c
    have hy : y = 0 := Classical.byContradiction fun z => c (hxy.mp z)
    rw [if_pos hy, e2]
    exact ⟨h', g', e1, rfl, Or.inl e3⟩
theorem zk_wantS (H : zk_L h0 g0 T n K LC h g LM j d s m o q) {c k : Nat} (hc : zk_cs c k = true) (hk : ¬ nI k = 6) : ∃ h' g', f_Ps_take h (nI k) = some h' ∧ f_Mo_wantSign g (nI c) = some g' ∧ (zk_B h0 g0 T n K LC m o h' g' ∨ ((h.1 19 5) = nI k ∧ zk_on h0 g0 T n K LC LM j d s m o q h g h' g')) := by
  unfold f_Mo_wantSign
  rw [zk_sign H hc]
  obtain ⟨h', g', e1, e2, e3⟩ := zk_want H (x := nI k) (y := if (h.1 19 5) = nI k then 1 else 0) (by by_cases z : (h.1 19 5) = nI k <;> simp [z]) hk
  exact ⟨h', g', e1, by rw [e2]; rfl, e3⟩
theorem zk_wantW (H : zk_L h0 g0 T n K LC h g LM j d s m o q) {c : Nat} (hc : c < 41) : ∃ h' g', f_Ps_take h (nI (128 + c)) = some h' ∧ f_Mo_wantWord g (nI c) = some g' ∧ (zk_B h0 g0 T n K LC m o h' g' ∨ ((h.1 19 5) = nI (128 + c) ∧ zk_on h0 g0 T n K LC LM j d s m o q h g h' g')) := by
  unfold f_Mo_wantWord
  rw [zk_word H hc]
  obtain ⟨h', g', e1, e2, e3⟩ := zk_want H (x := nI (128 + c)) (y := if (h.1 19 5) = nI (128 + c) then 1 else 0) (by by_cases z : (h.1 19 5) = nI (128 + c) <;> simp [z]) (fun z => by have := (zc_eq (k := 6) (by decide) (by omega)).mp z; omega)
  exact ⟨h', g', e1, by rw [e2]; rfl, e3⟩
end ZA
