/-! The coder: what code is, and what it is to have laid it down. -/
/-- an instruction: what it is, its numbers (jumps: where to, counted from the first instruction of all) -/
abbrev yI : Type := Nat × Int32 × Int32 × Int32
/-- and in how many loops it is -/
abbrev yJ : Type := yI × Nat
def yv (v : Nat) (L : List yI) : List yJ := L.map (fun i => (i, v))
theorem yv_len {v : Nat} {L : List yI} : (yv v L).length = L.length := List.length_map _
theorem yv_ap {v : Nat} {L1 L2 : List yI} : yv v (L1 ++ L2) = yv v L1 ++ yv v L2 := List.map_append
def yC_m (h : zs_H) (j : Nat) (i : yI) : Prop := (h.2.1 42) j = nI i.1 ∧ (h.2.1 43) j = i.2.1 ∧ (h.2.1 44) j = i.2.2.1 ∧ (h.2.1 45) j = i.2.2.2
/-- the model counts jumps from the unit's start -/
def yM_A (s : Nat) (i : yI) : Int32 := if i.1 = 10 ∨ i.1 = 11 ∨ i.1 = 14 then i.2.1 - nI s else if i.1 = 13 then i.2.2.1 else i.2.1
def yM_B (s : Nat) (i : yI) : Int32 := if i.1 = 13 then i.2.1 - nI s else i.2.2.1
def yM_m (s : Nat) (g : zs_H) (j : Nat) (i : yJ) : Prop := (g.2.1 104) j = nI i.1.1 ∧ (g.2.1 105) j = yM_A s i.1 ∧ (g.2.1 106) j = yM_B s i.1 ∧ (g.2.1 107) j = i.1.2.2.2 ∧ (g.2.1 108) j = nI i.2
abbrev yC_w : List Nat := [42, 43, 44, 45]
abbrev yM_w : List Nat := [104, 105, 106, 107, 108]
/-- the instructions L have been laid down from n on -/
def yC_E (n : Nat) (L : List yI) (h h' : zs_H) : Prop := (h'.1 41 5) = nI (n + L.length) ∧ zfr [(41, 5)] yC_w [] h h' ∧ (n + L.length ≤ 4000 → (∀ j, j < n → ∀ a, a ∈ yC_w → h'.2.1 a j = h.2.1 a j) ∧ ∀ k i, L[k]? = some i → yC_m h' (n + k) i)
def yM_E (s n : Nat) (L : List yJ) (g g' : zs_H) : Prop := (g'.1 68 56) = nI (n + L.length) ∧ zfr [(68, 56)] yM_w [] g g' ∧ (n + L.length ≤ 4000 → (∀ j, j < n → ∀ a, a ∈ yM_w → g'.2.1 a j = g.2.1 a j) ∧ ∀ k i, L[k]? = some i → yM_m s g' (n + k) i)
section YE
variable {n s : Nat} {L L1 L2 : List yI} {M M1 M2 : List yJ} {h h1 h2 h' g g1 g2 g' : zs_H}
theorem yC_nil (e : (h.1 41 5) = nI n) : yC_E n [] h h := ⟨e, zfr_rfl, fun _ => ⟨fun _ _ _ _ => rfl, fun k i z => by simp at z⟩⟩
theorem yM_nil (e : (g.1 68 56) = nI n) : yM_E s n [] g g := ⟨e, zfr_rfl, fun _ => ⟨fun _ _ _ _ => rfl, fun k i z => by simp at z⟩⟩
theorem yC_mf {j : Nat} {i : yI} (e : ∀ a, a ∈ yC_w → h'.2.1 a j = h.2.1 a j) (m : yC_m h j i) : yC_m h' j i := by
  obtain ⟨m1, m2, m3, m4⟩ := m
  exact ⟨by rw [e _ (by decide)]; exact m1, by rw [e _ (by decide)]; exact m2, by rw [e _ (by decide)]; exact m3, by rw [e _ (by decide)]; exact m4⟩
theorem yM_mf {j : Nat} {i : yJ} (e : ∀ a, a ∈ yM_w → g'.2.1 a j = g.2.1 a j) (m : yM_m s g j i) : yM_m s g' j i := by
  obtain ⟨m1, m2, m3, m4, m5⟩ := m
  exact ⟨by rw [e _ (by decide)]; exact m1, by rw [e _ (by decide)]; exact m2, by rw [e _ (by decide)]; exact m3, by rw [e _ (by decide)]; exact m4, by rw [e _ (by decide)]; exact m5⟩
theorem yC_ap (A : yC_E n L1 h h1) (B : yC_E (n + L1.length) L2 h1 h2) : yC_E n (L1 ++ L2) h h2 := by
  obtain ⟨a1, a2, a3⟩ := A
  obtain ⟨b1, b2, b3⟩ := B
  refine ⟨by rw [b1, List.length_append, Nat.add_assoc], zfr_trans a2 b2, fun hn => ?_⟩
  rw [List.length_append] at hn
  obtain ⟨c1, c2⟩ := a3 (by omega)
  obtain ⟨d1, d2⟩ := b3 (by omega)
  refine ⟨fun j hj a ha => (d1 j (by omega) a ha).trans (c1 j hj a ha), fun k i e => ?_⟩
  rw [List.getElem?_append] at e
  by_cases z : k < L1.length
  · rw [if_pos z] at e
    exact yC_mf (fun a ha => d1 _ (by omega) a ha) (c2 k i e)
  · rw [if_neg z] at e
    have := d2 _ i e
    rw [show n + L1.length + (k - L1.length) = n + k by omega] at this
    exact this
theorem yM_ap (A : yM_E s n M1 g g1) (B : yM_E s (n + M1.length) M2 g1 g2) : yM_E s n (M1 ++ M2) g g2 := by
  obtain ⟨a1, a2, a3⟩ := A
  obtain ⟨b1, b2, b3⟩ := B
  refine ⟨by rw [b1, List.length_append, Nat.add_assoc], zfr_trans a2 b2, fun hn => ?_⟩
  rw [List.length_append] at hn
  obtain ⟨c1, c2⟩ := a3 (by omega)
  obtain ⟨d1, d2⟩ := b3 (by omega)
  refine ⟨fun j hj a ha => (d1 j (by omega) a ha).trans (c1 j hj a ha), fun k i e => ?_⟩
  rw [List.getElem?_append] at e
  by_cases z : k < M1.length
  · rw [if_pos z] at e
    exact yM_mf (fun a ha => d1 _ (by omega) a ha) (c2 k i e)
  · rw [if_neg z] at e
    have := d2 _ i e
    rw [show n + M1.length + (k - M1.length) = n + k by omega] at this
    exact this
theorem yC_by : ∀ o, o < 19 → vp_nar .byte ((nI o).toInt8.toInt32) = nI o := by decide +kernel
theorem yI_one {α : Type} {i i' : α} {k : Nat} (e : [i][k]? = some i') : k = 0 ∧ i' = i := by
  cases k with
  | zero => exact ⟨rfl, by simpa using e.symm⟩
  | succ k => simp at e
/-- the class lays one down -/
theorem yC_emit (e : (h.1 41 5) = nI n) (hn : n < 100000000) (o : Nat) (ho : o < 19) (a : Int32) : ∃ h', f_Cd_emit h (nI o) a = some (nI n, h') ∧ yC_E n [(o, a, 0, 0)] h h' := by
  unfold f_Cd_emit f_Cd_emit_41
  rw [e, yC_by o ho]
  by_cases z : n < 4000
  · rw [if_neg (mt (zc_le (k := 4000) (by decide) (by omega)).mp (by omega)), if_pos (zi_in (by omega) z), nI_clamp (show n < 2147483648 by omega)]
    refine ⟨_, rfl, ?_, ?_, fun _ => ⟨fun j hj a ha => ?_, fun k i ei => ?_⟩⟩
    · rw [zu_S]
      show (h.1 41 5) + 1 = _
      rw [e, nI_1]; rfl
    · exact zfr_F (by decide) (zfr_M (by decide) (zfr_M (by decide) (zfr_M (by decide) (zfr_M (by decide) zfr_rfl))))
    · simp only [zu_FM, zu_MM, show ¬ j = n by omega, and_false, if_false]
    · obtain ⟨rfl, rfl⟩ := yI_one ei
      refine ⟨?_, ?_, ?_, ?_⟩ <;> simp only [zu_FM, zu_MM, Nat.add_zero] <;> simp
  · rw [if_pos ((zc_le (k := 4000) (by decide) (by omega)).mpr (by omega))]
    refine ⟨_, rfl, ?_, zfr_F (by decide) zfr_rfl, fun q => ?_⟩
    · rw [zu_S, nI_1]; rfl
    · have : n + 1 ≤ 4000 := q
      omega
/-- and gives it two numbers more -/
theorem yC_with {o : Nat} {a : Int32} (hn : n < 100000000) (E : yC_E n [(o, a, 0, 0)] h h1) (b c : Int32) : ∃ h', f_Cd_with h1 b c = some h' ∧ yC_E n [(o, a, b, c)] h h' := by
  obtain ⟨e1, e2, e3⟩ := E
  have e1' : (h1.1 41 5) = nI (n + 1) := e1
  unfold f_Cd_with
  rw [e1', if_neg (mt (zc_el (k := 0) (by decide) (by omega)).mp (by omega))]
  by_cases z : n < 4000
  · obtain ⟨c1, c2⟩ := e3 (show n + 1 ≤ 4000 by omega)
    rw [if_neg (mt (zc_lt (k := 4000) (by decide) (by omega)).mp (by omega)), zc_sb (k := 1) (by omega), show n + 1 - OfNat.ofNat 1 = n from Nat.add_sub_cancel n 1, if_pos (zi_in (by omega) z), nI_clamp (show n < 2147483648 by omega)]
    refine ⟨_, rfl, e1, zfr_M (by decide) (zfr_M (by decide) e2), fun _ => ⟨fun j hj a ha => ?_, fun k i ei => ?_⟩⟩
    · simp only [zu_MM, show ¬ j = n by omega, and_false, if_false]
      exact c1 j hj a ha
    · obtain ⟨rfl, rfl⟩ := yI_one ei
      obtain ⟨m1, m2, m3, m4⟩ := c2 0 (o, a, 0, 0) rfl
      refine ⟨?_, ?_, ?_, ?_⟩ <;> simp only [zu_MM, Nat.add_zero]
      · simpa using m1
      · simpa using m2
      · simp
      · simp
  · rw [if_pos ((zc_lt (k := 4000) (by decide) (by omega)).mpr (by omega))]
    refine ⟨_, rfl, e1, e2, fun q => ?_⟩
    have : n + 1 ≤ 4000 := q
    omega
/-- the model lays one down -/
theorem yM_emit {u lv : Nat} (e : (g.1 68 56) = nI n) (hn : n < 100000000) (e2 : (g.1 68 58) = nI u) (hu : u < 17) (e3 : (g.2.1 103) u = nI s) (hs : s ≤ n) (e4 : (g.1 68 64) = nI lv) (i : yI) : ∃ g', f_Mo_emit g (nI i.1) (yM_A s i) (yM_B s i) i.2.2.2 = some (nI (n - s), g') ∧ yM_E s n [(i, lv)] g g' := by
  unfold f_Mo_emit f_Mo_emit_64
  rw [e]
  by_cases z : n < 4000
  · rw [if_neg (mt (zc_le (k := 4000) (by decide) (by omega)).mp (by omega)), if_pos (zi_in (by omega) z), if_pos (zi_in (by omega) (show n < 4001 by omega)), nI_clamp (show n < 2147483648 by omega)]
    simp only [zu_MF, e2, e, if_pos (zi_in (show u < 2147483648 by omega) hu), nI_clamp (show u < 2147483648 by omega)]
    rw [show (zs_uM (zs_uM (zs_uM (zs_uM (zs_uM g 104 n (nI i.1)) 105 n (yM_A s i)) 106 n (yM_B s i)) 107 n i.2.2.2) 108 n ((g.1 68 64))).2.1 103 u = nI s by rw [zu_MM, if_neg (fun q => absurd q.1 (by decide)), zu_MM, if_neg (fun q => absurd q.1 (by decide)), zu_MM, if_neg (fun q => absurd q.1 (by decide)), zu_MM, if_neg (fun q => absurd q.1 (by decide)), zu_MM, if_neg (fun q => absurd q.1 (by decide))]; exact e3, Int32.add_sub_cancel, zi_sub hs]
    refine ⟨_, rfl, ?_, ?_, fun _ => ⟨fun j hj a ha => ?_, fun k i' ei => ?_⟩⟩
    · rw [zu_S, nI_1]; rfl
    · exact zfr_F (by decide) (zfr_M (by decide) (zfr_M (by decide) (zfr_M (by decide) (zfr_M (by decide) (zfr_M (by decide) zfr_rfl)))))
    · simp only [zu_FM, zu_MM, show ¬ j = n by omega, and_false, if_false]
    · obtain ⟨rfl, rfl⟩ := yI_one ei
      refine ⟨?_, ?_, ?_, ?_, ?_⟩ <;> simp only [zu_FM, zu_MM, Nat.add_zero] <;> simp [e4]
  · rw [if_pos ((zc_le (k := 4000) (by decide) (by omega)).mpr (by omega)), e2, if_pos (zi_in (show u < 2147483648 by omega) hu), nI_clamp (show u < 2147483648 by omega), e3, Int32.add_sub_cancel, zi_sub hs]
    refine ⟨_, rfl, ?_, zfr_F (by decide) zfr_rfl, fun q => ?_⟩
    · rw [zu_S, nI_1]; rfl
    · have : n + 1 ≤ 4000 := q
      omega
end YE
