/-! The machine: which cells code writes. -/
/-- cells that block b may write -/
def yE_al (X Y : Nat → Nat) (kb : Nat → yK) (pl : Nat → Nat) (b base lo j : Nat) : Prop := (base ≤ j ∧ j < base + Y b) ∨ (base + lo ≤ j ∧ j < base + X b) ∨ ∃ u, u < b ∧ (kb u).1 = 1 ∧ pl u ≤ j ∧ j < pl u + X u
/-- what units below b write -/
def yE_hU (X : Nat → Nat) (kb : Nat → yK) (pl : Nat → Nat) (b : Nat) (U : Nat → Nat → yE → yE × Nat) : Prop := ∀ (u base : Nat) (s : yE) (j : Nat), u < b → ¬ (base ≤ j ∧ j < base + X u) → (∀ w, w < u → (kb w).1 = 1 → ¬ (pl w ≤ j ∧ j < pl w + X w)) → (U u base s).1.1 j = s.1 j
/-- what standard blocks write -/
def yE_ht (tm : Nat → Nat → (Nat → Int32) → Nat → Int32) : Prop := ∀ (B at_ : Nat) (c : Nat → Int32) (j : Nat), B < 9 → ¬ (at_ ≤ j ∧ j < at_ + (zt_2.getD B 0).toNatClampNeg) → tm B at_ c j = c j
theorem yE_ixl {i : yI} {x : Int32} {s : Nat} (hs : i.2.2.2 = nI s) (h2 : s ≤ 100000) (h : ¬ yE_bad i x) : yE_ix i x < s := by
  unfold yE_bad at h
  rw [not_or, Classical.not_not, hs, zj_32 (by omega)] at h
  obtain ⟨h3, h4⟩ := h
  unfold yE_ix
  generalize x.toInt64 - i.2.2.1.toInt64 = v at h3 h4
  have h0 : 0 ≤ v.toInt := by
    have := Int64.le_iff_toInt_le.mp (Int64.not_lt.mp h3)
    exact this
  have h5 : v ≤ 1000000 := Int64.le_of_lt (Int64.lt_of_lt_of_le h4 ((zj_el (k := 1000000) (by decide) (by omega)).mpr (by omega)))
  obtain ⟨n, n1, n2⟩ := yc_ofN h0 h5
  have n2' : v = lN n := n2
  rw [n2'] at h4 ⊢
  rw [lN_i, nI_clamp (by omega)]
  exact (zj_lt (by omega) (by omega)).mp h4
section YEW
variable {X Y : Nat → Nat} {kb : Nat → yK} {pl : Nat → Nat} {tm : Nat → Nat → (Nat → Int32) → Nat → Int32} {U : Nat → Nat → yE → yE × Nat} {b base lo : Nat}
theorem yE_uo {c : Nat → Int32} {k j : Nat} {v : Int32} (h : ¬ j = k) : yE_u c k v j = c j := if_neg h
theorem yE_1w (hb : b ≤ 16) (hX : Y b ≤ X b ∧ ∀ u, u ≤ b → X u ≤ 100000) (hU : yE_hU X kb pl b U) (ht : yE_ht tm) {i : yI} (W : yw_i X Y kb b lo i) (s : yE) (j : Nat) (nj : ¬ yE_al X Y kb pl b base lo j) : (yE_1 pl tm U base i s).1.1 j = s.1 j := by
  have n1 : ¬ (base ≤ j ∧ j < base + Y b) := fun z => nj (.inl z)
  have n2 : ¬ (base + lo ≤ j ∧ j < base + X b) := fun z => nj (.inr (.inl z))
  have n3 : ∀ u, u < b → (kb u).1 = 1 → ¬ (pl u ≤ j ∧ j < pl u + X u) := fun u h1 h2 z => nj (.inr (.inr ⟨u, h1, h2, z⟩))
  obtain ⟨c, S, n⟩ := s
  unfold yE_1
  rcases W with W | ⟨e, x, e1, W⟩ | ⟨e, x, s, e1, e2, W⟩ | ⟨e, u, x, e1, e2, W1, W2, W3⟩ | ⟨e, B, x, e1, e2, W1, W2⟩
  · rcases W with e | e | ⟨e, _⟩ | ⟨e, _⟩ | ⟨e, _⟩ | ⟨e, u, x, e1, e2, W1, W2, W3⟩ | ⟨e, _⟩ | ⟨e, _⟩ | ⟨e, u, e1, W1, W2⟩
    · rw [if_pos e]
    · simp (config := { decide := true }) only [e, if_false, if_true]
      split <;> rfl
    · simp (config := { decide := true }) only [e, if_false, if_true]
    · simp (config := { decide := true }) only [e, if_false, if_true]
      split
      · split <;> rfl
      · rfl
    · simp (config := { decide := true }) only [e, if_false, if_true]
    · simp (config := { decide := true }) only [e, if_false, if_true, e1, e2]
      split
      · show yE_u c _ _ j = c j
        have hx := n3 u W1 W2
        have := hX.2 u (by omega)
        rw [nI_clamp (show u < 2147483648 by omega), nI_clamp (show x < 2147483648 by omega)]
        exact yE_uo (by omega)
      · rfl
    · simp (config := { decide := true }) only [e, if_false, if_true]
      split
      · split
        · split <;> rfl
        · rfl
      · rfl
    · simp (config := { decide := true }) only [e, if_false, if_true]
      split <;> rfl
    · simp (config := { decide := true }) only [e, if_false, if_true, e1]
      rw [nI_clamp (show u < 2147483648 by omega)]
      exact hU u (pl u) _ j W1 (n3 u W1 W2) (fun w hw hk => n3 w (by omega) hk)
  · simp (config := { decide := true }) only [e, if_false, if_true, e1]
    have := hX.2 b (Nat.le_refl _)
    split
    · show yE_u c _ _ j = c j
      rw [nI_clamp (show x < 2147483648 by omega)]
      exact yE_uo (by omega)
    · rfl
  · simp (config := { decide := true }) only [e, if_false, if_true, e1]
    have := hX.2 b (Nat.le_refl _)
    split
    · split
      · rfl
      · rename_i y x' S' hS hbad
        have := yE_ixl e2 (by omega) hbad
        show yE_u c _ _ j = c j
        rw [nI_clamp (show x < 2147483648 by omega)]
        exact yE_uo (by omega)
    · rfl
  · simp (config := { decide := true }) only [e, if_false, if_true, e1, e2]
    have := hX.2 b (Nat.le_refl _)
    rw [nI_clamp (show u < 2147483648 by omega), nI_clamp (show x < 2147483648 by omega)]
    exact hU u (base + x) _ j W1 (by omega) (fun w hw hk => n3 w (by omega) hk)
  · simp (config := { decide := true }) only [e, if_false, if_true, e1, e2]
    have := hX.2 b (Nat.le_refl _)
    rw [nI_clamp (show B < 2147483648 by omega), nI_clamp (show x < 2147483648 by omega)]
    exact ht B (base + x) c j W1 (by omega)
theorem yE_Lw (hb : b ≤ 16) (hX : Y b ≤ X b ∧ ∀ u, u ≤ b → X u ≤ 100000) (hU : yE_hU X kb pl b U) (ht : yE_ht tm) (j : Nat) (nj : ¬ yE_al X Y kb pl b base lo j) : ∀ (L : List yI) (s : yE), (∀ i, i ∈ L → yw_i X Y kb b lo i) → (yE_L pl tm U base L s).1.1 j = s.1 j := by
  intro L
  induction L with
  | nil => intro s _; rfl
  | cons i L ih =>
    intro s W
    have h1 := yE_1w hb hX hU ht (W i (List.mem_cons_self ..)) s j nj
    rw [yE_L]
    split
    · exact (ih _ (fun i hi => W i (List.mem_cons_of_mem _ hi))).trans h1
    · exact h1
theorem yE_alm {lo lo' j : Nat} (h : lo ≤ lo') (nj : ¬ yE_al X Y kb pl b base lo j) : ¬ yE_al X Y kb pl b base lo' j := fun z => nj (by
  rcases z with z | z | z
  · exact .inl z
  · exact .inr (.inl ⟨by omega, z.2⟩)
  · exact .inr (.inr z))
theorem yE_lw {body : yE → yE × Nat} {cell j : Nat} (hj : ¬ j = cell) (hb : ∀ s, (body s).1.1 j = s.1 j) : ∀ (f : Nat) (s : yE), (yE_l body cell f s).1.1 j = s.1 j := by
  intro f
  induction f with
  | zero => intro s; rfl
  | succ f ih =>
    intro s
    have h1 : (body (yE_u s.1 cell (s.1 cell - 1), s.2.1, s.2.2 + 1)).1.1 j = s.1 j := (hb _).trans (yE_uo hj)
    rw [yE_l]
    split
    · rfl
    split
    · exact (ih _).trans h1
    split
    · exact h1
    · exact h1
theorem yE_Tw (hb : b ≤ 16) (hX : Y b ≤ X b ∧ ∀ u, u ≤ b → X u ≤ 100000) (hU : yE_hU X kb pl b U) (ht : yE_ht tm) : ∀ (T : ys) (lo : Nat) (s : yE) (j : Nat), yz_W X Y kb b T lo → ¬ yE_al X Y kb pl b base lo j → (yE_T pl tm U base T s).1.1 j = s.1 j := by
  have xb := hX.2 b (Nat.le_refl _)
  intro T
  induction T with
  | leaf => intro lo s j _ _; rfl
  | inner k p o l r ihl ihr =>
    intro lo s j ⟨W1, W2⟩ nj
    rw [yE_T]
    by_cases k0 : k = 0
    · rw [if_pos k0] at W1 ⊢
      have h1 := yE_Lw hb hX hU ht j nj p.1 s W1.2
      split
      · exact (ihr lo _ j W2 nj).trans h1
      · exact h1
    rw [if_neg k0] at W1 ⊢
    by_cases k2 : k = 2
    · rw [if_neg (show ¬ k = 1 by omega), if_pos k2]
      rw [if_pos k2] at W1
      obtain ⟨cc, N, w1, w2, w3, w4, w5, w6, w7⟩ := W1
      have hc : ¬ j = base + cc := fun z => nj (.inr (.inl (by omega)))
      rw [w1, nI_clamp (show cc < 2147483648 by omega)]
      have h1 : (yE_l (yE_T pl tm U base l) (base + cc) (p.2.2.toNatClampNeg + 1) (yE_u s.1 (base + cc) p.2.2, s.2.1, s.2.2 + 1)).1.1 j = s.1 j := (yE_lw hc (fun s => ihl (cc + 1) s j w7 (yE_alm (by omega) nj)) _ _).trans (yE_uo hc)
      split
      · exact (ihr lo _ j W2 nj).trans h1
      · exact h1
    rw [if_neg k2] at W1
    by_cases k5 : k = 5
    · rw [if_pos k5] at W1
      rw [if_neg (show ¬ k = 1 by omega), if_neg k2, if_neg (show ¬ k = 3 by omega), if_neg (show ¬ k = 4 by omega), if_pos k5]
      have h1 := yE_Lw hb hX hU ht j nj p.1 s (fun i hi => .inl (W1.2.1 i hi))
      split
      · split
        · split
          · exact (ihr lo _ j W2 nj).trans h1
          · split
            · split
              · exact (ihl lo _ j W1.2.2.2 nj).trans h1
              · exact (ihl lo _ j W1.2.2.2 nj).trans h1
            · exact (ihl lo _ j W1.2.2.2 nj).trans h1
        · rfl
      · exact h1
    rw [if_neg k5] at W1
    have h1 := ihl lo s j W1.2 nj
    by_cases k1 : k = 1
    · rw [if_pos k1]
      split
      · exact (ihr lo _ j W2 nj).trans h1
      · exact h1
    rw [if_neg k1, if_neg k2]
    rw [if_neg k5]
    split
    · rfl
    split
    · rfl
    split
    · exact (ihr lo _ j W2 nj).trans h1
    · exact h1
end YEW
/-- all units -/
theorem yE_Uw {X Y : Nat → Nat} {kb : Nat → yK} {pl : Nat → Nat} {tm : Nat → Nat → (Nat → Int32) → Nat → Int32} {T : Nat → ys} {nb : Nat} (hn : nb ≤ 16) (hX : ∀ u, u < nb → Y u ≤ X u ∧ X u ≤ 100000) (ht : yE_ht tm) (W : ∀ u, u < nb → yz_W X Y kb u (T u) (Y u)) : ∀ b, b ≤ nb → yE_hU X kb pl b (yE_U T pl tm b) := by
  intro b
  induction b with
  | zero => intro _ u base s j hu; omega
  | succ b ih =>
    intro hb u base s j hu n1 n2
    rw [yE_U]
    by_cases z : u = b
    · rw [if_pos z]
      subst z
      refine yE_Tw (by omega) ⟨(hX u (by omega)).1, fun w hw => (hX w (by omega)).2⟩ (ih (by omega)) ht (T u) (Y u) s j (W u (by omega)) (fun q => ?_)
      have := (hX u (by omega)).1
      rcases q with q | q | ⟨w, w1, w2, w3⟩
      · exact n1 ⟨q.1, by omega⟩
      · exact n1 ⟨by omega, q.2⟩
      · exact n2 w w1 w2 w3
    · rw [if_neg z]
      exact ih (by omega) u base s j (by omega) n1 n2
