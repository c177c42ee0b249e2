/-! The coder: what the operations do. -/
theorem yi_not (x : Int32) : (-1) - x = x ^^^ (-1) := by
  apply Int32.toBitVec_inj.mp
  rw [Int32.toBitVec_sub, Int32.toBitVec_xor, show (-1 : Int32).toBitVec = BitVec.allOnes 32 by decide, BitVec.xor_allOnes, BitVec.allOnes_sub_eq_not]
theorem yi_abs (x : Int32) : (if 0 ≤ x then x else -x) = zd_abs x := by
  unfold zd_abs
  split
  · rfl
  · exact (Int32.zero_sub x).symm
theorem yi_min (x y : Int32) : (if y ≤ x then some y else some x) = some (zd_min x y) := by
  unfold zd_min
  by_cases z : y < x
  · rw [if_pos z, if_pos (Int32.le_of_lt z)]
  · rw [if_neg z]
    split
    · rename_i q
      rcases Int32.lt_or_eq_of_le q with r | r
      · exact absurd r z
      · rw [r]
    · rfl
theorem yi_max (x y : Int32) : (if x ≤ y then some y else some x) = some (zd_max x y) := by
  unfold zd_max
  by_cases z : x < y
  · rw [if_pos z, if_pos (Int32.le_of_lt z)]
  · rw [if_neg z]
    split
    · rename_i q
      rcases Int32.lt_or_eq_of_le q with r | r
      · exact absurd r z
      · rw [r]
    · rfl
theorem yi_nar (x : Int32) : f_Mo_narrow x = x.toInt16.toInt32 := by
  have h1 : (x &&& 65535).toBitVec.toNat = x.toBitVec.toNat % 65536 := by
    rw [Int32.toBitVec_and, BitVec.toNat_and, show (65535 : Int32).toBitVec.toNat = 2 ^ 16 - 1 by decide, Nat.and_two_pow_sub_one_eq_mod]
  obtain ⟨m, hm⟩ : ∃ m, m = x.toBitVec.toNat % 65536 := ⟨_, rfl⟩
  have hm2 : m < 65536 := by rw [hm]; exact Nat.mod_lt _ (by decide)
  have h2 : (x &&& 65535) = nI m := by
    apply Int32.toBitVec_inj.mp
    apply BitVec.eq_of_toNat_eq
    rw [h1, ← hm]
    show m = m % 2 ^ 32
    rw [Nat.mod_eq_of_lt (by omega)]
  have h3 : x.toInt16.toInt32.toInt = x.toInt.bmod (2 ^ 16) := by rw [Int16.toInt_toInt32, Int32.toInt_toInt16]
  have h4 : x.toInt = (x.toBitVec.toNat : Int).bmod (2 ^ 32) := BitVec.toInt_eq_toNat_bmod x.toBitVec
  have h5 : x.toInt.bmod (2 ^ 16) = (x.toBitVec.toNat : Int).bmod (2 ^ 16) := by rw [h4]; exact Int.bmod_bmod_of_dvd (by decide)
  have h7 : (x.toBitVec.toNat : Int) % ((2 ^ 16 : Nat) : Int) = (m : Int) := by rw [hm]; rfl
  have h6 : (x.toBitVec.toNat : Int).bmod (2 ^ 16) = if m ≤ 32767 then (m : Int) else (m : Int) - 65536 := by
    rw [Int.bmod_def, h7]
    by_cases z : m ≤ 32767
    · rw [if_pos (by omega), if_pos z]
    · rw [if_neg (by omega), if_neg z]; rfl
  have hn : (nI m).toInt = (m : Int) := by
    show (BitVec.ofNat 32 m).toInt = m
    rw [BitVec.toInt_eq_toNat_bmod, BitVec.toNat_ofNat, Nat.mod_eq_of_lt (by omega), Int.bmod_def, if_pos (by omega)]
    omega
  apply Int32.toInt_inj.mp
  unfold f_Mo_narrow
  rw [h2, h3, h5, h6]
  by_cases z : m ≤ 32767
  · rw [if_pos ((zc_el (k := 32767) (by decide) (by omega)).mpr z), if_pos z, hn]
  · rw [if_neg (mt (zc_el (k := 32767) (by decide) (by omega)).mp z), if_neg z, Int32.toInt_sub, hn, show (65536 : Int32).toInt = 65536 by decide, Int.bmod_def]
    split <;> omega
theorem yi_one (c x : Int32) : f_Mo_one c x = f_Cd_one c x := by
  unfold f_Mo_one f_Cd_one f_Mo_one_77
  simp only [yi_nar, yi_not]
  have e : (if 0 ≤ x then x.toInt16.toInt32 else (-x).toInt16.toInt32) = (zd_abs x).toInt16.toInt32 := by
    rw [← yi_abs]
    split <;> rfl
  rw [e, yi_abs]
/-- all but a shift of a long number to the right -/
theorem yi_two {c x y : Int32} (hz : ¬ (y = 0 ∧ (c = 3 ∨ c = 4 ∨ c = 8 ∨ c = 9))) (h22 : ¬ c = 22) : f_Mo_two c x y = f_Cd_two c x y := by
  unfold f_Mo_two f_Cd_two
  by_cases hy : y = 0
  · have k3 : ¬ c = 3 := fun z => hz ⟨hy, .inl z⟩
    have k4 : ¬ c = 4 := fun z => hz ⟨hy, .inr (.inl z)⟩
    have k8 : ¬ c = 8 := fun z => hz ⟨hy, .inr (.inr (.inl z))⟩
    have k9 : ¬ c = 9 := fun z => hz ⟨hy, .inr (.inr (.inr z))⟩
    simp only [yi_nar, k3, k4, k8, k9, h22, if_false, yi_min, yi_max]
  · simp only [yi_nar, hy, h22, if_false, yi_min, yi_max]
theorem yi_shr (x : Int32) {k : Nat} (hk : k < 32) : (((x.toInt64) &&& (4294967295 : Int64)) >>> ((nI k).toInt64 &&& 63)).toInt32 = (x.toUInt32 >>> ((nI k).toUInt32 &&& Int32.toUInt32 31)).toInt32 := by
  have hb : ∀ k, k < 32 → ((nI k).toInt64 &&& 63).toBitVec.smod 64 = BitVec.ofNat 64 k := by decide +kernel
  have hc : ∀ k, k < 32 → ((nI k).toUInt32 &&& Int32.toUInt32 31).toNat % 32 = k := by decide +kernel
  have hx : x.toBitVec.toNat < 4294967296 := x.toBitVec.isLt
  have ha : (x.toInt64 &&& (4294967295 : Int64)).toBitVec.toNat = x.toBitVec.toNat := by
    rw [Int64.toBitVec_and, BitVec.toNat_and, show (4294967295 : Int64).toBitVec.toNat = 2 ^ 32 - 1 by decide, Nat.and_two_pow_sub_one_eq_mod, Int32.toBitVec_toInt64, BitVec.toNat_signExtend, BitVec.toNat_setWidth]
    split <;> omega
  have hm : (x.toInt64 &&& (4294967295 : Int64)).toBitVec.msb = false := by
    rw [BitVec.msb_eq_decide, ha]
    exact decide_eq_false (by omega)
  have hs : x.toBitVec.toNat >>> k < 4294967296 := Nat.lt_of_le_of_lt (Nat.shiftRight_le _ _) hx
  apply Int32.toBitVec_inj.mp
  apply BitVec.eq_of_toNat_eq
  rw [Int64.toBitVec_toInt32]
  first
  | rw [BitVec.signExtend_eq_setWidth_of_le _ (by decide)]
  | rw [BitVec.signExtend_eq_setWidth_of_lt _ (by decide)]
  rw [BitVec.toNat_setWidth, Int64.toBitVec_shiftRight, hb k hk, BitVec.sshiftRight_eq', BitVec.toNat_ofNat, Nat.mod_eq_of_lt (show k < 2 ^ 64 by omega), BitVec.sshiftRight_eq_of_msb_false hm, BitVec.toNat_ushiftRight, ha, Nat.mod_eq_of_lt hs]
  show _ = (x.toUInt32 >>> ((nI k).toUInt32 &&& Int32.toUInt32 31)).toNat
  rw [UInt32.toNat_shiftRight, hc k hk]
  rfl
theorem yi_twoA {c x y : Int32} (hz : ¬ (y = 0 ∧ (c = 3 ∨ c = 4 ∨ c = 8 ∨ c = 9))) : f_Mo_two c x y = f_Cd_two c x y := by
  by_cases h22 : c = 22
  · subst h22
    unfold f_Mo_two f_Cd_two
    simp (config := { decide := true }) only [if_false, if_true]
    by_cases h0 : y < 0
    · rw [if_pos h0, if_pos h0]
    · rw [if_neg h0, if_neg h0]
      by_cases h1 : y ≤ 31
      · rw [if_pos h1, if_pos h1]
        obtain ⟨k, k1, k2⟩ : ∃ k, k < 32 ∧ y = nI k := by
          have q0 : 0 ≤ y.toInt := by
            have := mt Int32.lt_iff_toInt_lt.mpr h0
            have e : (0 : Int32).toInt = 0 := by decide
            omega
          have q1 : y.toInt ≤ 31 := by
            have := Int32.le_iff_toInt_le.mp h1
            have e : (31 : Int32).toInt = 31 := by decide
            omega
          refine ⟨y.toInt.toNat, by omega, ?_⟩
          apply Int32.toInt_inj.mp
          show _ = (BitVec.ofNat 32 y.toInt.toNat).toInt
          rw [BitVec.toInt_eq_toNat_bmod, BitVec.toNat_ofNat, Nat.mod_eq_of_lt (by omega), Int.bmod_def, if_pos (by omega)]
          omega
        rw [k2, yi_shr x k1]
      · rw [if_neg h1, if_neg h1]
  · exact yi_two hz h22
theorem yi_sign {g : zs_H} {k s ty : Nat} (hk : k < 33500) (hs : s < 14) (ht : ty < 3) (e1 : (g.2.1 74) k = nI s) (e2 : (g.2.1 100) k = nI ty) : f_Mo_signCode g (nI k) = some (f_Cd_operation (nI s) (nI ty)) := by
  have key : ∀ s, s < 14 → ∀ ty, ty < 3 → (if (nI s) = 0 then (some 11) else (if (nI s) = 1 then (some 12) else (if (nI s) = 2 then (some 10) else (if 9 ≤ (nI s) then (if (nI ty) = 1 then (some ((nI s) - 9)) else (some ((nI s) - 4))) else (some (10 + (nI s))))))) = some (f_Cd_operation (nI s) (nI ty)) := by decide +kernel
  unfold f_Mo_signCode
  simp only [if_pos (zi_in (show k < 2147483648 by omega) hk), nI_clamp (show k < 2147483648 by omega), e1, e2]
  exact key s hs ty ht
theorem yi_turn {g : zs_H} {k s ty : Nat} (hk : k < 33500) (hs : s < 2) (ht : ty < 3) (e1 : (g.2.1 74) k = nI s) (e2 : (g.2.1 100) k = nI ty) : f_Mo_oneCode g (nI k) = some (f_Cd_turning (if s = 0 then 1 else 0) (nI ty)) := by
  have key : ∀ s, s < 2 → ∀ ty, ty < 3 → (if (nI s) = 0 then (if (nI ty) = 1 then (some 0) else (some 1)) else (if (nI ty) = 0 then (some 2) else (some 3))) = some (f_Cd_turning (if s = 0 then 1 else 0) (nI ty)) := by decide +kernel
  unfold f_Mo_oneCode
  simp only [if_pos (zi_in (show k < 2147483648 by omega) hk), nI_clamp (show k < 2147483648 by omega), e1, e2]
  exact key s hs ty ht
/-- the standard functions -/
theorem yi_std {g : zs_H} {k a s ty : Nat} {x y z : Int32} (hk : k < 33500) (ha : a < 33500) (hs : s < 10) (ht : ty < 3) (e1 : (g.2.1 76) k = nI a) (e2 : (g.2.1 102) k = nI (100 + s)) (e3 : s = 0 ∨ s = 5 ∨ s = 6 → (g.2.1 100) a = nI ty) : f_Mo_standard g (nI k) x y z = f_Cd_standard (nI s) (nI ty) x y z := by
  have t1 : (nI ty = 1) ↔ ty = 1 := zc_eq (k := 1) (by decide) (by omega)
  have es : nI (100 + s) - 100 = nI s := by rw [show (100 : Int32) = nI 100 from rfl, zi_sub (by omega), show 100 + s - 100 = s by omega]
  have tw : ∀ c : Int32, ¬ c = 3 → ¬ c = 4 → ¬ c = 8 → ¬ c = 9 → ∀ u v, f_Mo_two c u v = f_Cd_two c u v := fun c h3 h4 h8 h9 u v => yi_twoA (fun q => by rcases q.2 with e | e | e | e; exact h3 e; exact h4 e; exact h8 e; exact h9 e)
  unfold f_Mo_standard f_Mo_standard_83 f_Mo_standard_143 f_Mo_standard_162
  simp only [if_pos (zi_in (show k < 2147483648 by omega) hk), nI_clamp (show k < 2147483648 by omega), e1, if_pos (zi_in (show a < 2147483648 by omega) ha), nI_clamp (show a < 2147483648 by omega), e2, es, Option.bind_fun_some, yi_one, tw 23 (by decide) (by decide) (by decide) (by decide), tw 24 (by decide) (by decide) (by decide) (by decide), tw 19 (by decide) (by decide) (by decide) (by decide), tw 20 (by decide) (by decide) (by decide) (by decide), tw 21 (by decide) (by decide) (by decide) (by decide), tw 22 (by decide) (by decide) (by decide) (by decide)]
  have cs : s = 0 ∨ s = 1 ∨ s = 2 ∨ s = 3 ∨ s = 4 ∨ s = 5 ∨ s = 6 ∨ s = 7 ∨ s = 8 ∨ s = 9 := by omega
  have ty3 : ty = 0 ∨ ty = 1 ∨ ty = 2 := by omega
  rcases cs with e | e | e | e | e | e | e | e | e | e <;> subst e
  · rw [e3 (.inl rfl)]; rcases ty3 with e | e | e <;> subst e <;> (unfold f_Cd_standard f_Cd_standardKind; simp (config := { decide := true }) only [if_true, if_false, Option.bind_fun_some])
  · unfold f_Cd_standard f_Cd_standardKind; simp (config := { decide := true }) only [if_true, if_false, Option.bind_fun_some]
  · unfold f_Cd_standard f_Cd_standardKind; simp (config := { decide := true }) only [if_true, if_false, Option.bind_fun_some]
  · unfold f_Cd_standard f_Cd_standardKind; simp (config := { decide := true }) only [if_true, if_false, Option.bind_fun_some]
    unfold f_Cd_two
    simp (config := { decide := true }) only [if_true, if_false, Option.bind_some]
  · unfold f_Cd_standard f_Cd_standardKind; simp (config := { decide := true }) only [if_true, if_false, Option.bind_fun_some]
  · rw [e3 (.inr (.inl rfl))]; rcases ty3 with e | e | e <;> subst e <;> (unfold f_Cd_standard f_Cd_standardKind; simp (config := { decide := true }) only [if_true, if_false, Option.bind_fun_some])
  · rw [e3 (.inr (.inr rfl))]; rcases ty3 with e | e | e <;> subst e <;> (unfold f_Cd_standard f_Cd_standardKind; simp (config := { decide := true }) only [if_true, if_false, Option.bind_fun_some])
  · unfold f_Cd_standard f_Cd_standardKind; simp (config := { decide := true }) only [if_true, if_false, Option.bind_fun_some]
  · unfold f_Cd_standard f_Cd_standardKind; simp (config := { decide := true }) only [if_true, if_false, Option.bind_fun_some]
  · unfold f_Cd_standard f_Cd_standardKind; simp (config := { decide := true }) only [if_true, if_false, Option.bind_fun_some]
