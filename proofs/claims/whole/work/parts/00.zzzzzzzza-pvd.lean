/-! The prover: the class's sums of jumps and loops. -/
section YPD
variable {h h' : zs_H} {B X Y : Nat → Nat} {kb : Nat → yK} {n j s N v lo hi b : Nat} {c d : yP3} {L : List yI}
theorem yP_io {i : yI} (hb : b ≤ 16) (H : yo_i X (fun u => (kb u).1 = 1) b i) : yP_o b i := by
  rcases H with H | H | ⟨H, _⟩ | ⟨H, _⟩ | ⟨H, _⟩ | ⟨H, _⟩ | ⟨H, _⟩ | ⟨H, _⟩ | ⟨H, u, u1, u2, _⟩
  all_goals first | exact ⟨.inl (by omega), fun z => by omega⟩ | exact ⟨by omega, fun _ => ⟨u, u1, by omega⟩⟩
theorem yP_wo {i : yI} {lo : Nat} (hb : b ≤ 16) (H : yw_i X Y kb b lo i) : yP_o b i := by
  rcases H with H | ⟨H, _⟩ | ⟨H, _⟩ | ⟨H, u, x, u1, _, u2, _⟩ | ⟨H, _⟩
  · exact yP_io hb H
  · exact ⟨.inl (by omega), fun z => by omega⟩
  · exact ⟨.inl (by omega), fun z => by omega⟩
  · exact ⟨by omega, fun _ => ⟨u, u1, by omega⟩⟩
  · exact ⟨by omega, fun z => by omega⟩
theorem yP_leave {i : yI} (hj : j < 4000) (m : yC_m h j i) (hi : i.1 = 18) : ∃ h', yP_d h j = some h' ∧ yP_at h' j (none, none, some 1) ∧ yP_fr j (j + 1) v h h' := by
  have e : (h.2.1 42) j = 18 := by rw [m.1, hi]; rfl
  unfold yP_d
  rw [e, if_neg (by decide), if_neg (by decide), if_neg (by decide), if_neg (by decide), if_neg (by decide), if_pos rfl]
  exact yP_tell (c := (none, none, some 1)) (by omega)
theorem yP_go {i : yI} {e : Nat} (hj : j < 4000) (m : yC_m h j i) (hi : i.1 = 10) (ha : i.2.1 = nI e) (he : e ≤ 4000) (hl : (h.1 51 7) = nI v) (hv : v ≤ 200) (hb : 0 < v → ∃ bk, h.2.1 57 (v - 1) = nI bk ∧ e ≤ bk ∧ bk < 2147483648) (a : yP_at h e c) : ∃ h', yP_d h j = some h' ∧ yP_at h' j (yP_a 1 c) ∧ yP_fr j (j + 1) v h h' := by
  have eo : (h.2.1 42) j = 10 := by rw [m.1, hi]; rfl
  have ea : (h.2.1 43) j = nI e := m.2.1.trans ha
  obtain ⟨h', e1, e2, e3⟩ := yP_aft (h := h) (w := 1) (v := v) (show j < 4001 by omega) (show e < 4001 by omega) (by omega) a
  refine ⟨h', ?_, e2, e3⟩
  have e45 : f_Pv_proveGo_45 h (nI j) = some h' := by
    unfold f_Pv_proveGo_45
    rw [if_pos (zi_in (by omega) hj), nI_clamp (by omega), ea, Option.bind_fun_some]
    exact e1
  unfold yP_d f_Pv_proveGo
  rw [eo, if_pos rfl, hl]
  by_cases z : v = 0
  · rw [if_pos ((zc_el (k := 0) (by decide) (by omega)).mpr (by omega)), e45]
  · obtain ⟨bk, b1, b2, b3⟩ := hb (by omega)
    rw [if_neg (mt (zc_el (k := 0) (by decide) (by omega)).mp (by omega)), if_pos (zi_in (by omega) hj), show nI v - 1 = nI (v - 1) from zi_sub (b := 1) (by omega), if_pos (zi_in (by omega) (by omega)), nI_clamp (n := j) (by omega), nI_clamp (n := v - 1) (by omega), ea, b1, if_pos ((nI_leI (by omega) (by omega)).mpr b2), e45]
theorem yP_exit {i : yI} {q bk : Nat} (hj : j < 4000) (m : yC_m h j i) (hi : i.1 = 10) (ha : i.2.1 = nI q) (hl : (h.1 51 7) = nI v) (hv : v ≤ 200) (hv0 : 0 < v) (b1 : h.2.1 57 (v - 1) = nI bk) (b2 : bk < q) (hq : q < 2147483648) : ∃ h', yP_d h j = some h' ∧ yP_at h' j (none, some 1, none) ∧ yP_fr j (j + 1) v h h' := by
  have eo : (h.2.1 42) j = 10 := by rw [m.1, hi]; rfl
  have ea : (h.2.1 43) j = nI q := m.2.1.trans ha
  unfold yP_d f_Pv_proveGo
  rw [eo, if_pos rfl, hl, if_neg (mt (zc_el (k := 0) (by decide) (by omega)).mp (by omega)), if_pos (zi_in (by omega) hj), show nI v - 1 = nI (v - 1) from zi_sub (b := 1) (by omega), if_pos (zi_in (by omega) (by omega)), nI_clamp (n := j) (by omega), nI_clamp (n := v - 1) (by omega), ea, b1, if_neg (mt (nI_leI (by omega) (by omega)).mp (by omega)), Option.bind_fun_some]
  exact yP_tell (c := (none, some 1, none)) (by omega)
theorem yP_unl {i : yI} {t : Nat} (hj : j < 4000) (m : yC_m h j i) (hi : i.1 = 11) (ha : i.2.1 = nI t) (ht : t ≤ 4000) (a : yP_at h (j + 1) c) (a2 : yP_at h t d) : ∃ h', yP_d h j = some h' ∧ yP_at h' j (yP_a 1 (yP_x c d)) ∧ yP_fr j (j + 1) v h h' := by
  have eo : (h.2.1 42) j = 11 := by rw [m.1, hi]; rfl
  have ea : (h.2.1 43) j = nI t := m.2.1.trans ha
  obtain ⟨h', e1, e2, e3⟩ := yP_tell (h := h) (v := v) (c := yP_a 1 (yP_x c d)) (show j < 4001 by omega)
  refine ⟨h', ?_, e2, e3⟩
  unfold yP_d f_Pv_proveUnless
  rw [eo, if_neg (by decide), if_pos rfl, if_pos (zi_in (by omega) hj), show nI j + 1 = nI (j + 1) from zc_ad 1 j, if_pos (zi_in (by omega) (by omega)), nI_clamp (n := j) (by omega), ea, if_pos (zi_in (by omega) (by omega)), nI_clamp (n := j + 1) (by omega), nI_clamp (n := t) (by omega), a.1, a.2.1, a.2.2, a2.1, a2.2.1, a2.2.2, yP_mx (by decide), yP_mx (by decide), yP_mx (by decide), show (1 : Int64) = yP_s 1099511627776 (some 1) from rfl, yP_sum, yP_sum, yP_sum, Option.bind_fun_some]
  exact e1
theorem yP_back {i : yI} (hj : j < 4000) (m : yC_m h j i) (hi : i.1 = 14) (hl : (h.1 51 7) = nI v) (hv : v ≤ 200) : ∃ h1 h', yP_d h j = some h' ∧ h1 = zs_uF (zs_uM h 57 v (nI j)) 51 7 (nI (v + 1)) ∧ yP_at h' j (some 1, none, none) ∧ yP_fr j (j + 1) (v + 1) h1 h' := by
  have eo : (h.2.1 42) j = 14 := by rw [m.1, hi]; rfl
  obtain ⟨h', e1, e2, e3⟩ := yP_tell (h := zs_uF (zs_uM h 57 v (nI j)) 51 7 (nI (v + 1))) (v := v + 1) (c := (some 1, none, none)) (show j < 4001 by omega)
  refine ⟨_, h', ?_, rfl, e2, e3⟩
  unfold yP_d f_Pv_proveBack f_Pv_proveBack_32
  rw [eo, if_neg (by decide), if_neg (by decide), if_neg (by decide), if_pos rfl, hl, if_neg (mt (zc_le (k := 240) (by decide) (by omega)).mp (by omega)), if_pos (zi_in (by omega) (by omega)), nI_clamp (by omega), show nI v + 1 = nI (v + 1) from zc_ad 1 v, Option.bind_fun_some]
  exact e1
theorem zj_32 {a : Nat} (ha : a < 2147483648) : (nI a).toInt64 = lN a := by
  apply Int64.toInt.inj
  rw [Int32.toInt_toInt64]
  show (Int32.ofNat a).toInt = (Int64.ofNat a).toInt
  rw [Int32.toInt_ofNat_of_lt ha, Int64.toInt_ofNat_of_lt (by omega)]
theorem yP_bef {x : Option Nat} {M : Nat} (hN : ¬ M = 0) (hM : M ≤ 1000000) (hx : ¬ yP_s 1099511627776 x = -1) : zd_minl (((nI M - 1).toInt64) * yP_s 1099511627776 x) (1099511627776 : Int64) = yP_s 1099511627776 (some (yP_b M x)) := by
  cases x with
  | none => exact absurd rfl hx
  | some x =>
    have h1 : min x 1099511627776 ≤ 1099511627776 := Nat.min_le_right _ _
    have h2 : (M - 1) * min x 1099511627776 ≤ 1000000 * 1099511627776 := Nat.mul_le_mul (by omega) h1
    rw [show nI M - 1 = nI (M - 1) from zi_sub (b := 1) (by omega), zj_32 (by omega)]
    show zd_minl (lN (M - 1) * lN (min x 1099511627776)) (1099511627776 : Int64) = lN (min ((M - 1) * x) 1099511627776)
    have h3 := yP_sat (M - 1) x 0 1099511627776
    rw [Nat.zero_min, Nat.add_zero, Nat.add_zero] at h3
    unfold zd_minl
    rw [lN_mul, ← h3]
    by_cases z : 1099511627776 < (M - 1) * min x 1099511627776
    · rw [if_pos ((zj_gt (k := 1099511627776) (by decide) (by omega)).mpr z), show min ((M - 1) * min x 1099511627776) 1099511627776 = 1099511627776 by omega]; rfl
    · rw [if_neg (mt (zj_gt (k := 1099511627776) (by decide) (by omega)).mp z), Nat.min_eq_left (Nat.not_lt.mp z)]
theorem yP_next {i i0 : yI} {t M : Nat} (hj : j + 1 < 4000) (m0 : yC_m h j i0) (m : yC_m h (j + 1) i) (hi : i.1 = 13) (ha : i.2.1 = nI t) (hb : i0.2.2.1 = nI M) (hM : M ≤ 1000000) (ht : t ≤ 4000) (hl : (h.1 51 7) = nI (v + 1)) (hv : v ≤ 200) (a : yP_at h (j + 2) c) (a2 : yP_at h t d) : ∃ h1 h', yP_d h (j + 1) = some h' ∧ h1 = zs_uF h 51 7 (nI v) ∧ yP_at h' (j + 1) (yP_N M c d) ∧ yP_fr (j + 1) (j + 2) v h1 h' := by
  have eo : (h.2.1 42) (j + 1) = 13 := by rw [m.1, hi]; rfl
  have ea : (h.2.1 43) (j + 1) = nI t := m.2.1.trans ha
  have eb : (h.2.1 44) j = nI M := m0.2.2.1.trans hb
  have a' : yP_at (zs_uF h 51 7 (nI v)) t d := a2
  have s1 : ∀ x, f_Pv_sum 1 (yP_s 1099511627776 x) = yP_s 1099511627776 (yP_p (some 1) x) := fun x => yP_sum (some 1) x
  have s2 : ∀ x, f_Pv_sum (yP_s 1099511627776 x) 1 = yP_s 1099511627776 (yP_p x (some 1)) := fun x => yP_sum x (some 1)
  unfold yP_d f_Pv_proveNext
  rw [eo, if_neg (by decide), if_neg (by decide), if_pos rfl, if_pos (zi_in (by omega) hj), show nI (j + 1) - 1 = nI j from zi_sub (b := 1) (by omega), if_pos (zi_in (by omega) (by omega)), nI_clamp (n := j) (by omega), eb, hl, show nI (v + 1) - 1 = nI v from zi_sub (b := 1) (by omega), nI_clamp (n := j + 1) (by omega), ea]
  by_cases z : M = 0
  · obtain ⟨h', e1, e2, e3⟩ := yP_aft (h := zs_uF h 51 7 (nI v)) (w := 1) (v := v) (show j + 1 < 4001 by omega) (show t < 4001 by omega) (by omega) a'
    refine ⟨_, h', ?_, rfl, ?_, e3⟩
    · rw [if_pos (by rw [z]; rfl), Option.bind_fun_some]
      exact e1
    · unfold yP_N
      rw [if_pos z]; exact e2
  · obtain ⟨h', e1, e2, e3⟩ := yP_tell (h := zs_uF h 51 7 (nI v)) (v := v) (c := yP_N M c d) (show j + 1 < 4001 by omega)
    refine ⟨_, h', ?_, rfl, e2, e3⟩
    have e84 : f_Pv_proveNext_84 (zs_uF h 51 7 (nI v)) (nI (j + 1)) (nI t) (yP_s 1099511627776 (yP_p (some 1) c.1)) (yP_s 1099511627776 (some (yP_b M (yP_p (some 1) c.1)))) = some h' := by
      unfold f_Pv_proveNext_84
      have l1 : ∀ x : Nat, x < 1099511627776 → ∀ y, yP_p (some x) (some y) = some (x + y) := fun _ _ _ => rfl
      rw [show nI (j + 1) + 1 = nI (j + 2) from zc_ad 1 (j + 1), if_pos (zi_in (by omega) (by omega)), if_pos (zi_in (by omega) (by omega)), nI_clamp (n := j + 2) (by omega), nI_clamp (n := t) (by omega)]
      have b1 : (zs_uF h 51 7 (nI v)).2.2 55 (j + 2) = yP_s 1099511627776 c.2.1 := a.2.1
      have b2 : (zs_uF h 51 7 (nI v)).2.2 56 (j + 2) = yP_s 1099511627776 c.2.2 := a.2.2
      rw [b1, b2, a'.1, a'.2.1, a'.2.2]
      simp only [s2, yP_sum, yP_mx (M := 1099511627776) (by decide), Option.bind_fun_some]
      unfold yP_N at e1
      rw [if_neg z] at e1
      exact e1
    rw [if_neg (mt (zc_eq (k := 0) (by decide) (by omega)).mp z), show nI (j + 1) + 1 = nI (j + 2) from zc_ad 1 (j + 1), if_pos (zi_in (by omega) (by omega)), nI_clamp (n := j + 2) (by omega), a.1, s1]
    by_cases q : yP_s 1099511627776 (yP_p (some 1) c.1) = -1
    · rw [if_pos q]
      have : yP_s 1099511627776 (some (yP_b M (yP_p (some 1) c.1))) = 0 := by
        have : yP_p (some 1) c.1 = none := by
          cases hc : c.1 with
          | none => rfl
          | some x =>
            rw [hc] at q
            exact absurd q (zj_m1 (Nat.lt_of_le_of_lt (Nat.min_le_right _ _) (by decide)))
        rw [this]; rfl
      rw [this] at e84
      exact e84
    · rw [if_neg q, yP_bef z hM q]
      exact e84
end YPD
