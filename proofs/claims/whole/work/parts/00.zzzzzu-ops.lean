/-! The coder: what the operations do. -/
theorem yi_not (x : Int32) : (-1) - x = x ^^^ (-1) := by
  apply Int32.toBitVec_inj.mp
  rw [Int32.toBitVec_sub, Int32.toBitVec_xor, show (-1 : Int32).toBitVec = BitVec.allOnes 32 by decide, BitVec.xor_allOnes, BitVec.allOnes_sub_eq_not]
theorem yi_abs (x : Int32) : (if 0 ≤ x then x else -x) = zd_abs x := by
  unfold zd_abs
  split
  · rfl
  · exact (Int32.zero_sub x).symm
theorem yi_min (x y : Int32) : (if y ≤ x then some y else some x) = some (zd_min x y) := by
  unfold zd_min
  by_cases z : y < x
  · rw [if_pos z, if_pos (Int32.le_of_lt z)]
  · rw [if_neg z]
    split
    · rename_i q
      rcases Int32.lt_or_eq_of_le q with r | r
      · exact absurd r z
      · rw [r]
    · rfl
theorem yi_max (x y : Int32) : (if x ≤ y then some y else some x) = some (zd_max x y) := by
  unfold zd_max
  by_cases z : x < y
  · rw [if_pos z, if_pos (Int32.le_of_lt z)]
  · rw [if_neg z]
    split
    · rename_i q
      rcases Int32.lt_or_eq_of_le q with r | r
      · exact absurd r z
      · rw [r]
    · rfl
theorem yi_nar (x : Int32) : f_Mo_narrow x = x.toInt16.toInt32 := by
  have h1 : (x &&& 65535).toBitVec.toNat = x.toBitVec.toNat % 65536 := by
    rw [Int32.toBitVec_and, BitVec.toNat_and, show (65535 : Int32).toBitVec.toNat = 2 ^ 16 - 1 by decide, Nat.and_two_pow_sub_one_eq_mod]
  obtain ⟨m, hm⟩ : ∃ m, m = x.toBitVec.toNat % 65536 := ⟨_, rfl⟩
  have hm2 : m < 65536 := by rw [hm]; exact Nat.mod_lt _ (by decide)
  have h2 : (x &&& 65535) = nI m := by
    apply Int32.toBitVec_inj.mp
    apply BitVec.eq_of_toNat_eq
    rw [h1, ← hm]
    show m = m % 2 ^ 32
    rw [Nat.mod_eq_of_lt (by omega)]
  have h3 : x.toInt16.toInt32.toInt = x.toInt.bmod (2 ^ 16) := by rw [Int16.toInt_toInt32, Int32.toInt_toInt16]
  have h4 : x.toInt = (x.toBitVec.toNat : Int).bmod (2 ^ 32) := BitVec.toInt_eq_toNat_bmod x.toBitVec
  have h5 : x.toInt.bmod (2 ^ 16) = (x.toBitVec.toNat : Int).bmod (2 ^ 16) := by rw [h4]; exact Int.bmod_bmod_of_dvd (by decide)
  have h7 : (x.toBitVec.toNat : Int) % ((2 ^ 16 : Nat) : Int) = (m : Int) := by rw [hm]; rfl
  have h6 : (x.toBitVec.toNat : Int).bmod (2 ^ 16) = if m ≤ 32767 then (m : Int) else (m : Int) - 65536 := by
    rw [Int.bmod_def, h7]
    by_cases z : m ≤ 32767
    · rw [if_pos (by omega), if_pos z]
    · rw [if_neg (by omega), if_neg z]; rfl
  have hn : (nI m).toInt = (m : Int) := by
    show (BitVec.ofNat 32 m).toInt = m
    rw [BitVec.toInt_eq_toNat_bmod, BitVec.toNat_ofNat, Nat.mod_eq_of_lt (by omega), Int.bmod_def, if_pos (by omega)]
    omega
  apply Int32.toInt_inj.mp
  unfold f_Mo_narrow
  rw [h2, h3, h5, h6]
  by_cases z : m ≤ 32767
  · rw [if_pos ((zc_el (k := 32767) (by decide) (by omega)).mpr z), if_pos z, hn]
  · rw [if_neg (mt (zc_el (k := 32767) (by decide) (by omega)).mp z), if_neg z, Int32.toInt_sub, hn, show (65536 : Int32).toInt = 65536 by decide, Int.bmod_def]
    split <;> omega
theorem yi_one (c x : Int32) : f_Mo_one c x = f_Cd_one c x := by
  unfold f_Mo_one f_Cd_one f_Mo_one_77
  simp only [yi_nar, yi_not]
  have e : (if 0 ≤ x then x.toInt16.toInt32 else (-x).toInt16.toInt32) = (zd_abs x).toInt16.toInt32 := by
    rw [← yi_abs]
    split <;> rfl
  rw [e, yi_abs]
/-- all but a shift of a long number to the right -/
theorem yi_two {c x y : Int32} (hz : ¬ (y = 0 ∧ (c = 3 ∨ c = 4 ∨ c = 8 ∨ c = 9))) (h22 : ¬ c = 22) : f_Mo_two c x y = f_Cd_two c x y := by
  unfold f_Mo_two f_Cd_two
  by_cases hy : y = 0
  · have k3 : ¬ c = 3 := fun z => hz ⟨hy, .inl z⟩
    have k4 : ¬ c = 4 := fun z => hz ⟨hy, .inr (.inl z)⟩
    have k8 : ¬ c = 8 := fun z => hz ⟨hy, .inr (.inr (.inl z))⟩
    have k9 : ¬ c = 9 := fun z => hz ⟨hy, .inr (.inr (.inr z))⟩
    simp only [yi_nar, k3, k4, k8, k9, h22, if_false, yi_min, yi_max]
  · simp only [yi_nar, hy, h22, if_false, yi_min, yi_max]
