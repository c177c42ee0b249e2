/-! How often a FOR goes round. -/
theorem yc_div {x y : Int64} {X Y : Int} (hx : x.toInt = X) (hy : y.toInt = Y) (h1 : -8589934592 ≤ X) (h2 : X ≤ 8589934592) : (x / y + 1).toInt = X.tdiv Y + 1 ∧ (X.tdiv Y).natAbs ≤ X.natAbs := by
  have hb : (X.tdiv Y).natAbs ≤ X.natAbs := Int.natAbs_tdiv_le_natAbs X Y
  refine ⟨?_, hb⟩
  have e : (x / y).toInt = X.tdiv Y := by
    rw [Int64.toInt_div, hx, hy, zv_bmod (by omega) (by omega)]
  rw [Int64.toInt_add, e, show (1 : Int64).toInt = 1 from rfl, zv_bmod (by omega) (by omega)]
theorem yc_tm {a b st : Int32} (hs : ¬ st = 0) : ∃ T : Int64, f_Cd_times a b st = some T ∧ 0 ≤ T.toInt ∧ T = (if b.toInt64 - a.toInt64 = 0 ∨ (0 < b.toInt64 - a.toInt64 ↔ 0 < st.toInt64) then (b.toInt64 - a.toInt64) / st.toInt64 + 1 else 0) := by
  have a1 := Int32.le_toInt a
  have a2 := Int32.toInt_lt a
  have b1 := Int32.le_toInt b
  have b2 := Int32.toInt_lt b
  have s1 := Int32.le_toInt st
  have s2 := Int32.toInt_lt st
  have eS : st.toInt64.toInt = st.toInt := Int32.toInt_toInt64 st
  have hS : ¬ st.toInt = 0 := fun z => hs (Int32.toInt_inj.mp (by rw [z]; rfl))
  have eW := (zv_i64 a b).1
  have eV := (zv_i64 b a).1
  have z64 : (0 : Int64).toInt = 0 := rfl
  have iS : (0 < st.toInt64) ↔ 0 < st.toInt := by rw [Int64.lt_iff_toInt_lt, eS, z64]
  have iW : (0 < b.toInt64 - a.toInt64) ↔ 0 < b.toInt - a.toInt := by rw [Int64.lt_iff_toInt_lt, eW, z64]
  have iW0 : (b.toInt64 - a.toInt64 = 0) ↔ b.toInt - a.toInt = 0 := by rw [← Int64.toInt_inj, eW, z64]
  have nW : (b.toInt64 - a.toInt64 < 0) ↔ b.toInt - a.toInt < 0 := by rw [Int64.lt_iff_toInt_lt, eW, z64]
  have nV : (a.toInt64 - b.toInt64 < 0) ↔ a.toInt - b.toInt < 0 := by rw [Int64.lt_iff_toInt_lt, eV, z64]
  have c0 : (st ≤ 0) ↔ st.toInt ≤ 0 := by rw [Int32.le_iff_toInt_le]; rfl
  obtain ⟨d1, d2⟩ := yc_div (x := b.toInt64 - a.toInt64) (y := st.toInt64) eW eS (by omega) (by omega)
  unfold f_Cd_times f_Cd_times_17 zd_absl
  by_cases zp : 0 < st.toInt
  · rw [if_neg (mt c0.mp (by omega)), if_pos (iS.mpr zp)]
    have n0 : ¬ st.toInt64 = 0 := fun z => by rw [z, z64] at eS; omega
    by_cases zw : b.toInt - a.toInt < 0
    · rw [if_pos (nW.mpr zw)]
      refine ⟨_, rfl, by rw [z64]; omega, ?_⟩
      rw [if_neg (fun u => by
        rcases u with u | u
        · have := iW0.mp u; omega
        · have := iW.mp (u.mpr (iS.mpr zp)); omega)]
    · rw [if_neg (mt nW.mp zw), if_neg n0, if_neg n0]
      refine ⟨_, rfl, ?_, ?_⟩
      · rw [d1]
        have := Int.tdiv_nonneg (show 0 ≤ b.toInt - a.toInt by omega) (show 0 ≤ st.toInt by omega)
        omega
      · rw [if_pos]
        by_cases z0 : b.toInt - a.toInt = 0
        · exact .inl (iW0.mpr z0)
        · exact .inr ⟨fun _ => iS.mpr zp, fun _ => iW.mpr (by omega)⟩
  · have eN : (-st.toInt64).toInt = -st.toInt := by
      rw [Int64.toInt_neg, eS, zv_bmod (by omega) (by omega)]
    have n0 : ¬ -st.toInt64 = 0 := fun z => by rw [z, z64] at eN; omega
    rw [if_pos (c0.mpr (by omega)), if_neg (mt iS.mp zp)]
    obtain ⟨f1, f2⟩ := yc_div (x := a.toInt64 - b.toInt64) (y := -st.toInt64) eV eN (by omega) (by omega)
    by_cases zw : a.toInt - b.toInt < 0
    · rw [if_pos (nV.mpr zw)]
      refine ⟨_, rfl, by rw [z64]; omega, ?_⟩
      rw [if_neg (fun u => by
        rcases u with u | u
        · have := iW0.mp u; omega
        · have := iS.mp (u.mp (iW.mpr (by omega))); omega)]
    · rw [if_neg (mt nV.mp zw), if_neg n0, if_neg n0]
      refine ⟨_, rfl, ?_, ?_⟩
      · rw [f1]
        have := Int.tdiv_nonneg (show 0 ≤ a.toInt - b.toInt by omega) (show 0 ≤ -st.toInt by omega)
        omega
      · rw [if_pos]
        · apply Int64.toInt_inj.mp
          rw [f1, d1, show a.toInt - b.toInt = -(b.toInt - a.toInt) by omega, Int.neg_tdiv_neg]
        · by_cases z0 : b.toInt - a.toInt = 0
          · exact .inl (iW0.mpr z0)
          · exact .inr ⟨fun u => by have := iW.mp u; omega, fun u => by have := iS.mp u; omega⟩
theorem yc_ofN {T : Int64} (h1 : 0 ≤ T.toInt) (h2 : T ≤ 1000000) : ∃ n, n ≤ 1000000 ∧ T = Int64.ofNat n := by
  rw [Int64.le_iff_toInt_le, show (1000000 : Int64).toInt = 1000000 from rfl] at h2
  refine ⟨T.toInt.toNat, by omega, ?_⟩
  apply Int64.toInt_inj.mp
  rw [Int64.toInt_ofNat', zv_bmod (by omega) (by omega)]
  omega
