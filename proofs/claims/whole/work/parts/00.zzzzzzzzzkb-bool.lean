/-! The machine: what holds of the cells between two scans. -/
def yJ_J (h0 : zs_H) (nb : Nat) (T : Nat → ys) (X K : Nat → Nat) (c : Nat → Int32) : Prop := yS_g (yq_k h0) (nb - 1) 0 c ∧ yJ_c h0 nb T X K c
/-- what may change below 960 -/
abbrev yJ_9 (c c' : Nat → Int32) : Prop := (∀ j, 960 ≤ j → c' j = c j) ∧ ∀ j, j < 768 → c' j = c j ∨ yJ_01 (c' j)
section YJJ
variable {nb : Nat} {X Y K : Nat → Nat} {T : Nat → ys} {h0 : zs_H} {c c' : Nat → Int32}
theorem yJ_pw (Z : yX_Z nb T X Y K h0) {w : Nat} (hw : w < nb) (hk : (yq_k h0 w).1 = 1) : X (nb - 1) ≤ yh_pl X K (X (nb - 1)) w ∧ yh_pl X K (X (nb - 1)) w + X w ≤ 8192 := by
  obtain ⟨⟨n0, k3, p8, _⟩, KK, _⟩ := Z
  have k1 : K w = 1 := by
    have e : nI (K w) = 1 := (KK w hw).2.symm.trans hk
    have := (KK w hw).1
    exact (zc_eq (k := 1) (by decide) (by omega)).mp e
  refine ⟨?_, Nat.le_trans (yX_p1 hw k1) p8⟩
  have := yX_pm (X := X) (K := K) (s0 := X (nb - 1)) w 0
  rw [Nat.zero_add] at this
  exact this
theorem yJ_px (Z : yX_Z nb T X Y K h0) : X (nb - 1) ≤ 8192 := by
  obtain ⟨⟨n0, k3, p8, _⟩, KK, _⟩ := Z
  have := yX_pm (X := X) (K := K) (s0 := X (nb - 1)) nb 0
  rw [Nat.zero_add] at this
  exact Nat.le_trans this p8
theorem yJ_Jf (Z : yX_Z nb T X Y K h0) (J : yJ_J h0 nb T X K c) (e : ∀ j, j < 8192 → c' j = c j) : yJ_J h0 nb T X K c' := by
  have px := yJ_px Z
  have pw := fun w hw hk => yJ_pw (w := w) Z hw hk
  obtain ⟨⟨n0, k3, p8, q9, Zt⟩, KK, A⟩ := id Z
  refine ⟨yS_f J.1 fun j hj => ?_, fun j hj => ?_, fun w hw hk j hj => ?_⟩
  · have := ((A 0).2.2.2.2.2.2.1 (nb - 1) (Nat.le_refl _)).2 j hj
    have b1 := ((A 0).2.1 (nb - 1) (by omega))
    exact e (0 + j) (by omega)
  · have := (Zt.1 (nb - 1) (Nat.le_refl _)).2.1 j hj
    rw [e (0 + j) (by omega)]
    exact J.2.1 j hj
  · have := (Zt.1 w (by omega)).2.1 j hj
    have := pw w (by omega) hk
    rw [e _ (by omega)]
    exact J.2.2 w hw hk j hj
theorem yJ_J9 (Z : yX_Z nb T X Y K h0) (J : yJ_J h0 nb T X K c) (e : yJ_9 c c') : yJ_J h0 nb T X K c' := by
  have pw := fun w hw hk => yJ_pw (w := w) Z hw hk
  obtain ⟨⟨n0, k3, p8, q9, Zt⟩, KK, A⟩ := id Z
  obtain ⟨z1, z2, z3, z4, z5⟩ := Zt
  refine ⟨fun j hj => ?_, fun j hj => ?_, fun w hw hk j hj => ?_⟩
  · have := q9 j hj
    rw [e.1 (0 + j) (by omega)]
    exact J.1 j hj
  · by_cases a : 960 ≤ j
    · rw [e.1 (0 + j) (by omega)]; exact J.2.1 j hj
    · by_cases b : j < 768
      · rcases e.2 (0 + j) (by omega) with q | q
        · rw [q]; exact J.2.1 j hj
        · exact q
      · exact absurd hj (z4 j (by omega) (by omega))
  · have := pw w (by omega) hk
    rw [e.1 _ (by omega)]
    exact J.2.2 w hw hk j hj
theorem yJ_J7 (Z : yX_Z nb T X Y K h0) (J : yJ_J h0 nb T X K c) {j : Nat} (hj : j < 768) : yJ_01 (c j) := by
  obtain ⟨⟨n0, k3, p8, q9, Zt⟩, KK, A⟩ := id Z
  have := J.2.1 j (Zt.2.2.1 j hj)
  rwa [Nat.zero_add] at this
end YJJ
