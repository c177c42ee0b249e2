/-! The coder: what the operations do. -/
theorem yi_not (x : Int32) : (-1) - x = x ^^^ (-1) := by
  apply Int32.toBitVec_inj.mp
  rw [Int32.toBitVec_sub, Int32.toBitVec_xor, show (-1 : Int32).toBitVec = BitVec.allOnes 32 by decide, BitVec.xor_allOnes, BitVec.allOnes_sub_eq_not]
theorem yi_abs (x : Int32) : (if 0 ≤ x then x else -x) = zd_abs x := by
  unfold zd_abs
  split
  · rfl
  · exact (Int32.zero_sub x).symm
theorem yi_min (x y : Int32) : (if y ≤ x then some y else some x) = some (zd_min x y) := by
  unfold zd_min
  by_cases z : y < x
  · rw [if_pos z, if_pos (Int32.le_of_lt z)]
  · rw [if_neg z]
    split
    · rename_i q
      rcases Int32.lt_or_eq_of_le q with r | r
      · exact absurd r z
      · rw [r]
    · rfl
theorem yi_max (x y : Int32) : (if x ≤ y then some y else some x) = some (zd_max x y) := by
  unfold zd_max
  by_cases z : x < y
  · rw [if_pos z, if_pos (Int32.le_of_lt z)]
  · rw [if_neg z]
    split
    · rename_i q
      rcases Int32.lt_or_eq_of_le q with r | r
      · exact absurd r z
      · rw [r]
    · rfl
