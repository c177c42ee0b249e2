section
/-! The coder: what the operations do. -/
theorem yi_not (x : Int32) : (-1) - x = x ^^^ (-1) := by
  apply Int32.toBitVec_inj.mp
  rw [Int32.toBitVec_sub, Int32.toBitVec_xor, show (-1 : Int32).toBitVec = BitVec.allOnes 32 by decide, BitVec.xor_allOnes, BitVec.allOnes_sub_eq_not]
theorem yi_abs (x : Int32) : (if 0 ≤ x then x else -x) = zd_abs x := by
  unfold zd_abs
  split
  · rfl
  · exact (Int32.zero_sub x).symm
theorem yi_min (x y : Int32) : (if y ≤ x then some y else some x) = some (zd_min x y) := by
  unfold zd_min
  by_cases z : y < x
  · rw [if_pos z, if_pos (Int32.le_of_lt z)]
  · rw [if_neg z]
    split
    · rename_i q
      rcases Int32.lt_or_eq_of_le q with r | r
      · exact absurd r z
      · rw [r]
    · rfl
theorem yi_max (x y : Int32) : (if x ≤ y then some y else some x) = some (zd_max x y) := by
  unfold zd_max
  by_cases z : x < y
  · rw [if_pos z, if_pos (Int32.le_of_lt z)]
  · rw [if_neg z]
    split
    · rename_i q
      rcases Int32.lt_or_eq_of_le q with r | r
      · exact absurd r z
      · rw [r]
    · rfl
theorem yi_nar (x : Int32) : f_Mo_narrow x = x.toInt16.toInt32 := by
  have h1 : (x &&& 65535).toBitVec.toNat = x.toBitVec.toNat % 65536 := by
    rw [Int32.toBitVec_and, BitVec.toNat_and, show (65535 : Int32).toBitVec.toNat = 2 ^ 16 - 1 by decide, Nat.and_two_pow_sub_one_eq_mod]
  obtain ⟨m, hm⟩ : ∃ m, m = x.toBitVec.toNat % 65536 := ⟨_, rfl⟩
  have hm2 : m < 65536 := by rw [hm]; exact Nat.mod_lt _ (by decide)
  have h2 : (x &&& 65535) = nI m := by
    apply Int32.toBitVec_inj.mp
    apply BitVec.eq_of_toNat_eq
    rw [h1, ← hm]
    show m = m % 2 ^ 32
    rw [Nat.mod_eq_of_lt (by omega)]
  have h3 : x.toInt16.toInt32.toInt = x.toInt.bmod (2 ^ 16) := by rw [Int16.toInt_toInt32, Int32.toInt_toInt16]
  have h4 : x.toInt = (x.toBitVec.toNat : Int).bmod (2 ^ 32) := BitVec.toInt_eq_toNat_bmod x.toBitVec
  have h5 : x.toInt.bmod (2 ^ 16) = (x.toBitVec.toNat : Int).bmod (2 ^ 16) := by rw [h4]; exact Int.bmod_bmod_of_dvd (by decide)
  have h7 : (x.toBitVec.toNat : Int) % ((2 ^ 16 : Nat) : Int) = (m : Int) := by rw [hm]; rfl
  have h6 : (x.toBitVec.toNat : Int).bmod (2 ^ 16) = if m ≤ 32767 then (m : Int) else (m : Int) - 65536 := by
    rw [Int.bmod_def, h7]
    by_cases z : m ≤ 32767
    · rw [if_pos (by omega), if_pos z]
    · rw [if_neg (by omega), if_neg z]; rfl
  have hn : (nI m).toInt = (m : Int) := by
    show (BitVec.ofNat 32 m).toInt = m
    rw [BitVec.toInt_eq_toNat_bmod, BitVec.toNat_ofNat, Nat.mod_eq_of_lt (by omega), Int.bmod_def, if_pos (by omega)]
    omega
  apply Int32.toInt_inj.mp
  unfold f_Mo_narrow
  rw [h2, h3, h5, h6]
  by_cases z : m ≤ 32767
  · rw [if_pos ((zc_el (k := 32767) (by decide) (by omega)).mpr z), if_pos z, hn]
  · rw [if_neg (mt (zc_el (k := 32767) (by decide) (by omega)).mp z), if_neg z, Int32.toInt_sub, hn, show (65536 : Int32).toInt = 65536 by decide, Int.bmod_def]
    split <;> omega
theorem yi_one (c x : Int32) : f_Mo_one c x = f_Cd_one c x := by
  unfold f_Mo_one f_Cd_one f_Mo_one_77
  simp only [yi_nar, yi_not]
  have e : (if 0 ≤ x then x.toInt16.toInt32 else (-x).toInt16.toInt32) = (zd_abs x).toInt16.toInt32 := by
    rw [← yi_abs]
    split <;> rfl
  rw [e, yi_abs]
/-- all but a shift of a long number to the right -/
theorem yi_two {c x y : Int32} (hz : ¬ (y = 0 ∧ (c = 3 ∨ c = 4 ∨ c = 8 ∨ c = 9))) (h22 : ¬ c = 22) : f_Mo_two c x y = f_Cd_two c x y := by
  unfold f_Mo_two f_Cd_two
  by_cases hy : y = 0
  · have k3 : ¬ c = 3 := fun z => hz ⟨hy, .inl z⟩
    have k4 : ¬ c = 4 := fun z => hz ⟨hy, .inr (.inl z)⟩
    have k8 : ¬ c = 8 := fun z => hz ⟨hy, .inr (.inr (.inl z))⟩
    have k9 : ¬ c = 9 := fun z => hz ⟨hy, .inr (.inr (.inr z))⟩
    simp only [yi_nar, k3, k4, k8, k9, h22, if_false, yi_min, yi_max]
  · simp only [yi_nar, hy, h22, if_false, yi_min, yi_max]
theorem yi_shr (x : Int32) {k : Nat} (hk : k < 32) : (((x.toInt64) &&& (4294967295 : Int64)) >>> ((nI k).toInt64 &&& 63)).toInt32 = (x.toUInt32 >>> ((nI k).toUInt32 &&& Int32.toUInt32 31)).toInt32 := by
  have hb : ∀ k, k < 32 → ((nI k).toInt64 &&& 63).toBitVec.smod 64 = BitVec.ofNat 64 k := by decide +kernel
  have hc : ∀ k, k < 32 → ((nI k).toUInt32 &&& Int32.toUInt32 31).toNat % 32 = k := by decide +kernel
  have hx : x.toBitVec.toNat < 4294967296 := x.toBitVec.isLt
  have ha : (x.toInt64 &&& (4294967295 : Int64)).toBitVec.toNat = x.toBitVec.toNat := by
    rw [Int64.toBitVec_and, BitVec.toNat_and, show (4294967295 : Int64).toBitVec.toNat = 2 ^ 32 - 1 by decide, Nat.and_two_pow_sub_one_eq_mod, Int32.toBitVec_toInt64, BitVec.toNat_signExtend, BitVec.toNat_setWidth]
    split <;> omega
  have hm : (x.toInt64 &&& (4294967295 : Int64)).toBitVec.msb = false := by
    rw [BitVec.msb_eq_decide, ha]
    exact decide_eq_false (by omega)
  have hs : x.toBitVec.toNat >>> k < 4294967296 := Nat.lt_of_le_of_lt (Nat.shiftRight_le _ _) hx
  apply Int32.toBitVec_inj.mp
  apply BitVec.eq_of_toNat_eq
  rw [Int64.toBitVec_toInt32]
  first
  | rw [BitVec.signExtend_eq_setWidth_of_le _ (by decide)]
  | rw [BitVec.signExtend_eq_setWidth_of_lt _ (by decide)]
  rw [BitVec.toNat_setWidth, Int64.toBitVec_shiftRight, hb k hk, BitVec.sshiftRight_eq', BitVec.toNat_ofNat, Nat.mod_eq_of_lt (show k < 2 ^ 64 by omega), BitVec.sshiftRight_eq_of_msb_false hm, BitVec.toNat_ushiftRight, ha, Nat.mod_eq_of_lt hs]
  show _ = (x.toUInt32 >>> ((nI k).toUInt32 &&& Int32.toUInt32 31)).toNat
  rw [UInt32.toNat_shiftRight, hc k hk]
  rfl
theorem yi_twoA {c x y : Int32} (hz : ¬ (y = 0 ∧ (c = 3 ∨ c = 4 ∨ c = 8 ∨ c = 9))) : f_Mo_two c x y = f_Cd_two c x y := by
  by_cases h22 : c = 22
  · subst h22
    unfold f_Mo_two f_Cd_two
    simp (config := { decide := true }) only [if_false, if_true]
    by_cases h0 : y < 0
    · rw [if_pos h0, if_pos h0]
    · rw [if_neg h0, if_neg h0]
      by_cases h1 : y ≤ 31
      · rw [if_pos h1, if_pos h1]
        obtain ⟨k, k1, k2⟩ : ∃ k, k < 32 ∧ y = nI k := by
          have q0 : 0 ≤ y.toInt := by
            have := mt Int32.lt_iff_toInt_lt.mpr h0
            have e : (0 : Int32).toInt = 0 := by decide
            omega
          have q1 : y.toInt ≤ 31 := by
            have := Int32.le_iff_toInt_le.mp h1
            have e : (31 : Int32).toInt = 31 := by decide
            omega
          refine ⟨y.toInt.toNat, by omega, ?_⟩
          apply Int32.toInt_inj.mp
          show _ = (BitVec.ofNat 32 y.toInt.toNat).toInt
          rw [BitVec.toInt_eq_toNat_bmod, BitVec.toNat_ofNat, Nat.mod_eq_of_lt (by omega), Int.bmod_def, if_pos (by omega)]
          omega
        rw [k2, yi_shr x k1]
      · rw [if_neg h1, if_neg h1]
  · exact yi_two hz h22
theorem yi_sign {g : zs_H} {k s ty : Nat} (hk : k < 33500) (hs : s < 14) (ht : ty < 3) (e1 : (g.2.1 74) k = nI s) (e2 : (g.2.1 100) k = nI ty) : f_Mo_signCode g (nI k) = some (f_Cd_operation (nI s) (nI ty)) := by
  have key : ∀ s, s < 14 → ∀ ty, ty < 3 → (if (nI s) = 0 then (some 11) else (if (nI s) = 1 then (some 12) else (if (nI s) = 2 then (some 10) else (if 9 ≤ (nI s) then (if (nI ty) = 1 then (some ((nI s) - 9)) else (some ((nI s) - 4))) else (some (10 + (nI s))))))) = some (f_Cd_operation (nI s) (nI ty)) := by decide +kernel
  unfold f_Mo_signCode
  simp only [if_pos (zi_in (show k < 2147483648 by omega) hk), nI_clamp (show k < 2147483648 by omega), e1, e2]
  exact key s hs ty ht
theorem yi_turn {g : zs_H} {k s ty : Nat} (hk : k < 33500) (hs : s < 2) (ht : ty < 3) (e1 : (g.2.1 74) k = nI s) (e2 : (g.2.1 100) k = nI ty) : f_Mo_oneCode g (nI k) = some (f_Cd_turning (if s = 0 then 1 else 0) (nI ty)) := by
  have key : ∀ s, s < 2 → ∀ ty, ty < 3 → (if (nI s) = 0 then (if (nI ty) = 1 then (some 0) else (some 1)) else (if (nI ty) = 0 then (some 2) else (some 3))) = some (f_Cd_turning (if s = 0 then 1 else 0) (nI ty)) := by decide +kernel
  unfold f_Mo_oneCode
  simp only [if_pos (zi_in (show k < 2147483648 by omega) hk), nI_clamp (show k < 2147483648 by omega), e1, e2]
  exact key s hs ty ht
/-- the standard functions -/
theorem yi_std {g : zs_H} {k a s ty : Nat} {x y z : Int32} (hk : k < 33500) (ha : a < 33500) (hs : s < 10) (ht : ty < 3) (e1 : (g.2.1 76) k = nI a) (e2 : (g.2.1 102) k = nI (100 + s)) (e3 : s = 0 ∨ s = 5 ∨ s = 6 → (g.2.1 100) a = nI ty) : f_Mo_standard g (nI k) x y z = f_Cd_standard (nI s) (nI ty) x y z := by
  have t1 : (nI ty = 1) ↔ ty = 1 := zc_eq (k := 1) (by decide) (by omega)
  have es : nI (100 + s) - 100 = nI s := by rw [show (100 : Int32) = nI 100 from rfl, zi_sub (by omega), show 100 + s - 100 = s by omega]
  have tw : ∀ c : Int32, ¬ c = 3 → ¬ c = 4 → ¬ c = 8 → ¬ c = 9 → ∀ u v, f_Mo_two c u v = f_Cd_two c u v := fun c h3 h4 h8 h9 u v => yi_twoA (fun q => by rcases q.2 with e | e | e | e; exact h3 e; exact h4 e; exact h8 e; exact h9 e)
  unfold f_Mo_standard f_Mo_standard_83 f_Mo_standard_143 f_Mo_standard_162
  simp only [if_pos (zi_in (show k < 2147483648 by omega) hk), nI_clamp (show k < 2147483648 by omega), e1, if_pos (zi_in (show a < 2147483648 by omega) ha), nI_clamp (show a < 2147483648 by omega), e2, es, Option.bind_fun_some, yi_one, tw 23 (by decide) (by decide) (by decide) (by decide), tw 24 (by decide) (by decide) (by decide) (by decide), tw 19 (by decide) (by decide) (by decide) (by decide), tw 20 (by decide) (by decide) (by decide) (by decide), tw 21 (by decide) (by decide) (by decide) (by decide), tw 22 (by decide) (by decide) (by decide) (by decide)]
  have cs : s = 0 ∨ s = 1 ∨ s = 2 ∨ s = 3 ∨ s = 4 ∨ s = 5 ∨ s = 6 ∨ s = 7 ∨ s = 8 ∨ s = 9 := by omega
  have ty3 : ty = 0 ∨ ty = 1 ∨ ty = 2 := by omega
  rcases cs with e | e | e | e | e | e | e | e | e | e <;> subst e
  · rw [e3 (.inl rfl)]; rcases ty3 with e | e | e <;> subst e <;> (unfold f_Cd_standard f_Cd_standardKind; simp (config := { decide := true }) only [if_true, if_false, Option.bind_fun_some])
  · unfold f_Cd_standard f_Cd_standardKind; simp (config := { decide := true }) only [if_true, if_false, Option.bind_fun_some]
  · unfold f_Cd_standard f_Cd_standardKind; simp (config := { decide := true }) only [if_true, if_false, Option.bind_fun_some]
  · unfold f_Cd_standard f_Cd_standardKind; simp (config := { decide := true }) only [if_true, if_false, Option.bind_fun_some]
    unfold f_Cd_two
    simp (config := { decide := true }) only [if_true, if_false, Option.bind_some]
  · unfold f_Cd_standard f_Cd_standardKind; simp (config := { decide := true }) only [if_true, if_false, Option.bind_fun_some]
  · rw [e3 (.inr (.inl rfl))]; rcases ty3 with e | e | e <;> subst e <;> (unfold f_Cd_standard f_Cd_standardKind; simp (config := { decide := true }) only [if_true, if_false, Option.bind_fun_some])
  · rw [e3 (.inr (.inr rfl))]; rcases ty3 with e | e | e <;> subst e <;> (unfold f_Cd_standard f_Cd_standardKind; simp (config := { decide := true }) only [if_true, if_false, Option.bind_fun_some])
  · unfold f_Cd_standard f_Cd_standardKind; simp (config := { decide := true }) only [if_true, if_false, Option.bind_fun_some]
  · unfold f_Cd_standard f_Cd_standardKind; simp (config := { decide := true }) only [if_true, if_false, Option.bind_fun_some]
  · unfold f_Cd_standard f_Cd_standardKind; simp (config := { decide := true }) only [if_true, if_false, Option.bind_fun_some]
end
section
/-! The coder: constants. The model finds them when it codes, the class has found them before. -/
/-- the value of a node, on the way up to n -/
def yk_v (g : zs_H) (Q : Nat → Prop) (dl k : Nat) (v : Int32) : Prop := ∀ D n N, 2 * dl + 1 ≤ D → n < 33500 → ¬ Q n → dl < N → ∃ N2, zF ≤ N2 + dl ∧ f_Mo_valueOf_L2 (f_Mo_valueAlone D) (f_Mo_valueOf D) g N (nI n) (nI k) = f_Mo_valueOf_L29 (f_Mo_valueOf D) g N2 (nI n) (nI k) v
def yk_k (g : zs_H) (dl k : Nat) (c : Int32) : Prop := ∀ D N, dl ≤ D → dl < N → f_Mo_isConstant_L2 (f_Mo_isConstant D) g N (nI k) = some c
def yk_n (h g : zs_H) (Q : Nat → Prop) (dl i k : Nat) : Prop := (zv_kc h i ∧ yk_k g dl k 1 ∧ yk_v g Q dl k ((h.2.1 16) i)) ∨ (¬ zv_kc h i ∧ yk_k g dl k 0)
/-- all nodes of a forest -/
def yk_T (h g : zs_H) : zt_T → (Nat → Prop) → Int32 → Int32 → Prop
  | .leaf, _, x, x' => x = -1 ∧ x' = -1
  | .inner _ _ _ l r, Q, x, x' => ∃ (i k : Nat) (Q1 Q2 : Nat → Prop), (i < 32784 ∧ x = nI i) ∧ (Q k ∧ k < 33500 ∧ x' = nI k) ∧ (∀ j, Q1 j → Q j ∧ ¬ j = k) ∧ (∀ j, Q2 j → Q j) ∧ yk_n h g Q1 (zg_d l) i k ∧ yk_T h g r Q2 ((h.2.1 18) i) ((g.2.1 78) k)
section YKC
variable {g h : zs_H} {Q Q1 : Nat → Prop} {dl k : Nat} {v c : Int32}
theorem yk_uc {D N : Nat} {x : Int32} : f_Mo_isConstant_L2 (f_Mo_isConstant D) g (N + 1) x = f_Mo_isConstant_2 (f_Mo_isConstant D) g (f_Mo_isConstant_L2 (f_Mo_isConstant D) g N) x := rfl
theorem yk_ul {D N : Nat} {x : Int32} : f_Mo_isConstant_L133 (f_Mo_isConstant D) g (N + 1) x = f_Mo_isConstant_133 (f_Mo_isConstant D) g (f_Mo_isConstant_L133 (f_Mo_isConstant D) g N) x := rfl
theorem yk_u2 {D N : Nat} {x y : Int32} : f_Mo_valueOf_L2 (f_Mo_valueAlone D) (f_Mo_valueOf D) g (N + 1) x y = f_Mo_valueOf_2 (f_Mo_valueAlone D) (f_Mo_valueOf D) g (f_Mo_valueOf_L2 (f_Mo_valueAlone D) (f_Mo_valueOf D) g N) x y := rfl
theorem yk_u29 {D N : Nat} {x y z : Int32} : f_Mo_valueOf_L29 (f_Mo_valueOf D) g (N + 1) x y z = f_Mo_valueOf_29 (f_Mo_valueOf D) g (f_Mo_valueOf_L29 (f_Mo_valueOf D) g N) x y z := rfl
theorem yk_ic (D : Nat) : f_Mo_isConstant (D + 1) = g_Mo_isConstant (f_Mo_isConstant D) := by
  unfold f_Mo_isConstant zy_Mo_isConstant
  rw [zd_s]
theorem yk_k1 (hd : dl < 100000) (H : yk_k g dl k c) {D : Nat} (hD : dl < D) : f_Mo_isConstant D g (nI k) = some c := by
  obtain ⟨D, rfl⟩ : ∃ z, D = z + 1 := ⟨D - 1, by omega⟩
  have hz := zF_big
  rw [yk_ic]
  unfold g_Mo_isConstant
  exact H D zF (by omega) (by omega)
theorem yk_v1 (hd : dl < 100000) (hk : k < 33500) (hQ : ¬ Q k) (H : yk_v g Q dl k v) {D : Nat} (hD : 2 * dl + 1 < D) : f_Mo_valueOf D g (nI k) = some v := by
  obtain ⟨D, rfl⟩ : ∃ z, D = z + 1 := ⟨D - 1, by omega⟩
  have hz := zF_big
  obtain ⟨N2, a1, a2⟩ := H D k zF (by omega) hk hQ (by omega)
  obtain ⟨N2, rfl⟩ : ∃ z, N2 = z + 1 := ⟨N2 - 1, by omega⟩
  show g_Mo_valueOf (f_Mo_valueAlone D) (f_Mo_valueOf D) g (nI k) = _
  unfold g_Mo_valueOf
  rw [a2, yk_u29]
  unfold f_Mo_valueOf_29
  rw [if_pos rfl]
/-- a node that is no 35: its own value -/
theorem yk_v0 {km : Nat} (hk : k < 33500) (hkm : km < 100) (h35 : ¬ km = 35) (m1 : (g.2.1 72) k = nI km) (e : ∀ D, 2 * dl + 1 ≤ D → f_Mo_valueAlone D g (nI k) = some v) : yk_v g Q dl k v := by
  intro D n N hD _ _ hN
  obtain ⟨N, rfl⟩ : ∃ z, N = z + 1 := ⟨N - 1, by omega⟩
  refine ⟨zF, by omega, ?_⟩
  rw [yk_u2]
  unfold f_Mo_valueOf_2
  rw [if_pos (zi_in (by omega) hk), nI_clamp (show k < 2147483648 by omega), m1, if_neg (fun z => h35 ((zc_eq (k := 35) (by decide) (by omega)).mp z)), e D hD, Option.bind_some]
theorem yk_v35 {k1 k2 dl1 dl2 : Nat} {va vb cd : Int32} (hk : k < 33500) (hk1 : k1 < 33500) (hk2 : k2 < 33500) (hd1 : dl1 < dl) (hd2 : dl2 < dl) (hs : dl < 10000) (m1 : (g.2.1 72) k = 35) (m2 : (g.2.1 76) k = nI k1) (m3 : (g.2.1 75) k1 = nI k) (m4 : (g.2.1 77) k = nI k2) (hQ : ∀ j, Q1 j → Q j) (hQ1 : Q k1) {Q2 : Nat → Prop} (hQ2 : ¬ Q2 k2) (A : yk_v g Q1 dl1 k1 va) (B : yk_v g Q2 dl2 k2 vb) (es : f_Mo_signCode g (nI k) = some cd) (et : f_Mo_two cd va vb = some v) : yk_v g Q dl k v := by
  have hz := zF_big
  intro D n N hD hn hQn hN
  obtain ⟨N, rfl⟩ : ∃ z, N = z + 1 := ⟨N - 1, by omega⟩
  obtain ⟨N2, b1, b2⟩ := A D n N (by omega) hn (fun z => hQn (hQ _ z)) (by omega)
  obtain ⟨N2, rfl⟩ : ∃ z, N2 = z + 1 + 1 := ⟨N2 - 2, by omega⟩
  have hne : ¬ nI k1 = nI n := fun z => hQn (by rw [← (nI_eq (by omega) (by omega)).mp z]; exact hQ1)
  refine ⟨N2 + 1, by omega, ?_⟩
  rw [yk_u2]
  unfold f_Mo_valueOf_2
  rw [if_pos (zi_in (by omega) hk), nI_clamp (show k < 2147483648 by omega), m1, if_pos rfl, m2, b2, yk_u29]
  unfold f_Mo_valueOf_29
  rw [if_neg hne, if_pos (zi_in (by omega) hk1), nI_clamp (show k1 < 2147483648 by omega), m3, es, Option.bind_some, if_pos (zi_in (by omega) hk), nI_clamp (show k < 2147483648 by omega), m4, yk_v1 (by omega) hk2 hQ2 B (show 2 * dl2 + 1 < D by omega), Option.bind_some, et, Option.bind_some]
theorem yk_k35 {k1 k2 dl1 dl2 s : Nat} {vb c1 c2 : Int32} (hk : k < 33500) (hk2 : k2 < 33500) (hd1 : dl1 < dl) (hd2 : dl2 < dl) (hdl : dl < 199) (hs : s < 14) (m1 : (g.2.1 72) k = 35) (m2 : (g.2.1 76) k = nI k1) (m4 : (g.2.1 77) k = nI k2) (m5 : (g.2.1 74) k = nI s) (A : yk_k g dl1 k1 c1) (B : yk_k g dl2 k2 c2) {Q2 : Nat → Prop} (hQ2 : ¬ Q2 k2) (Bv : c2 = 0 ∨ yk_v g Q2 dl2 k2 vb) (ec : c = if c2 = 0 then 0 else if 12 ≤ s ∧ vb = 0 then 0 else c1) : yk_k g dl k c := by
  have hz := zF_big
  intro D N hD hN
  obtain ⟨N, rfl⟩ : ∃ z, N = z + 1 := ⟨N - 1, by omega⟩
  rw [yk_uc]
  unfold f_Mo_isConstant_2
  rw [if_pos (zi_in (by omega) hk), nI_clamp (show k < 2147483648 by omega), m1, if_pos rfl, m4, yk_k1 (by omega) B (show dl2 < D by omega), Option.bind_some, m5]
  have e52 : f_Mo_isConstant_52 (f_Mo_isConstant D) g (f_Mo_isConstant_L2 (f_Mo_isConstant D) g N) (nI k) = f_Mo_isConstant_L2 (f_Mo_isConstant D) g N (nI k1) := by
    unfold f_Mo_isConstant_52
    rw [if_pos (zi_in (by omega) hk), nI_clamp (show k < 2147483648 by omega), m2]
  rw [e52]
  by_cases z : c2 = 0
  · rw [if_pos z, ec, if_pos z]
  · rw [if_neg z, ec, if_neg z]
    have ea := A D N (by omega) (by omega)
    by_cases y : 12 ≤ s
    · rw [if_neg (mt (zc_el (k := 11) (by decide) (by omega)).mp (by omega)), yk_v1 (by omega) hk2 hQ2 (Bv.resolve_left z) (show 2 * dl2 + 1 < 400 by omega), Option.bind_some]
      by_cases w : vb = 0
      · rw [if_pos w, if_pos ⟨y, w⟩]
      · rw [if_neg w, if_neg (fun q => w q.2), ea]
    · rw [if_pos ((zc_el (k := 11) (by decide) (by omega)).mpr (by omega)), if_neg (fun q => y q.1), ea]
/-- leaves -/
theorem yk_kl {km : Nat} (hk : k < 33500) (hkm : km < 34) (m1 : (g.2.1 72) k = nI km) : yk_k g dl k (if km = 30 ∨ km = 31 then 1 else 0) := by
  intro D N hD hN
  obtain ⟨N, rfl⟩ : ∃ z, N = z + 1 := ⟨N - 1, by omega⟩
  rw [yk_uc]
  unfold f_Mo_isConstant_2
  rw [if_pos (zi_in (by omega) hk), nI_clamp (show k < 2147483648 by omega), m1, if_neg (mt (zc_eq (k := 35) (by decide) (by omega)).mp (by omega))]
  by_cases z : km = 30
  · rw [if_pos ((zc_eq (k := 30) (by decide) (by omega)).mpr z), if_pos (.inl z)]
  · rw [if_neg (mt (zc_eq (k := 30) (by decide) (by omega)).mp z)]
    by_cases y : km = 31
    · rw [if_pos ((zc_eq (k := 31) (by decide) (by omega)).mpr y), if_pos (.inr y)]
    · rw [if_neg (mt (zc_eq (k := 31) (by decide) (by omega)).mp y), if_neg (show ¬ (km = 30 ∨ km = 31) by omega), if_pos ((zc_tl (k := 34) (by decide) (by omega)).mpr hkm)]
/-- a call of another kind than a standard one -/
theorem yk_k34 (hk : k < 33500) (m1 : (g.2.1 72) k = 34) (m2 : f_Mo_wordOf_s11 g ((g.2.1 74) k) = some (-1)) : yk_k g dl k 0 := by
  intro D N hD hN
  obtain ⟨N, rfl⟩ : ∃ z, N = z + 1 := ⟨N - 1, by omega⟩
  rw [yk_uc]
  unfold f_Mo_isConstant_2
  rw [if_pos (zi_in (by omega) hk), nI_clamp (show k < 2147483648 by omega), m1, if_neg (by decide), if_neg (by decide), if_neg (by decide), if_neg (by decide), if_pos rfl, m2, Option.bind_some, if_neg (by decide)]
/-- one whose arguments are looked at -/
theorem yk_kL {km s : Nat} (hk : k < 33500) (hkm : km = 36 ∨ (km = 34 ∧ s < 10 ∧ f_Mo_wordOf_s11 g ((g.2.1 74) k) = some (nI s))) (m1 : (g.2.1 72) k = nI km) (H : ∀ D, dl ≤ D → f_Mo_isConstant_L133 (f_Mo_isConstant D) g zF ((g.2.1 76) k) = some c) : yk_k g dl k c := by
  intro D N hD hN
  obtain ⟨N, rfl⟩ : ∃ z, N = z + 1 := ⟨N - 1, by omega⟩
  rw [yk_uc]
  have e126 : f_Mo_isConstant_126 (f_Mo_isConstant D) g (nI k) = some c := by
    unfold f_Mo_isConstant_126
    rw [if_pos (zi_in (by omega) hk), nI_clamp (show k < 2147483648 by omega), H D hD]
  unfold f_Mo_isConstant_2
  rcases hkm with rfl | ⟨rfl, hs, ew⟩
  · rw [if_pos (zi_in (by omega) hk), nI_clamp (show k < 2147483648 by omega), m1, if_neg (by decide), if_neg (by decide), if_neg (by decide), if_neg (by decide), if_neg (by decide), e126]
  · rw [if_pos (zi_in (by omega) hk), nI_clamp (show k < 2147483648 by omega), m1, if_neg (by decide), if_neg (by decide), if_neg (by decide), if_neg (by decide), if_pos (by decide), ew, Option.bind_some, if_pos ((zc_le (k := 0) (by decide) (by omega)).mpr (by omega)), e126]
/-- all arguments are constants -/
def yk_co (h : zs_H) : zt_T → Int32 → Prop
  | .leaf, _ => True
  | .inner _ _ _ _ r, x => zv_kc h x.toNatClampNeg ∧ yk_co h r ((h.2.1 18) x.toNatClampNeg)
theorem yk_loop : ∀ (t : zt_T) (Q : Nat → Prop) (x x' : Int32) (D N : Nat), yk_T h g t Q x x' → zg_d t ≤ D → zg_d t < 1000 → zt_ln t < N → (yk_co h t x ∧ f_Mo_isConstant_L133 (f_Mo_isConstant D) g N x' = some 1) ∨ (¬ yk_co h t x ∧ f_Mo_isConstant_L133 (f_Mo_isConstant D) g N x' = some 0) := by
  intro t
  induction t with
  | leaf =>
    intro Q x x' D N ⟨_, e⟩ _ _ hN
    obtain ⟨N, rfl⟩ : ∃ z, N = z + 1 := ⟨N - 1, by have : zt_ln .leaf = 0 := rfl; omega⟩
    refine .inl ⟨trivial, ?_⟩
    rw [yk_ul, e]
    unfold f_Mo_isConstant_133
    rw [if_pos (by decide)]
  | inner kd kv o l r _ ihr =>
    intro Q x x' D N ⟨i, k, Q1, Q2, ⟨i1, i2⟩, ⟨k1, k2, k3⟩, q1, q2, A, B⟩ hD hD2 hN
    have hd : max (zg_d l + 1) (zg_d r) ≤ zg_d (.inner kd kv o l r) := zg_d1
    have hl : zt_ln (.inner kd kv o l r) = 1 + zt_ln r := rfl
    obtain ⟨N, rfl⟩ : ∃ z, N = z + 1 := ⟨N - 1, by omega⟩
    have hc : yk_co h (.inner kd kv o l r) x ↔ zv_kc h i ∧ yk_co h r ((h.2.1 18) i) := by
      show zv_kc h x.toNatClampNeg ∧ _ ↔ _
      rw [i2, nI_clamp (show i < 2147483648 by omega)]
    rw [hc, yk_ul, k3]
    unfold f_Mo_isConstant_133
    rw [if_neg (nI_pos (by omega))]
    rcases A with ⟨a1, a2, _⟩ | ⟨a1, a2⟩
    · rw [yk_k1 (by omega) a2 (show zg_d l < D by omega), Option.bind_some, if_neg (by decide), if_pos (zi_in (by omega) k2), nI_clamp (show k < 2147483648 by omega)]
      rcases ihr Q2 _ _ D N B (by omega) (by omega) (by omega) with ⟨b1, b2⟩ | ⟨b1, b2⟩
      · exact .inl ⟨⟨a1, b1⟩, b2⟩
      · exact .inr ⟨fun z => b1 z.2, b2⟩
    · rw [yk_k1 (by omega) a2 (show zg_d l < D by omega), Option.bind_some, if_pos rfl]
      exact .inr ⟨fun z => a1 z.1, rfl⟩
end YKC
end
section
/-! The coder: constants, all nodes of an expression. -/
section YKD
variable {g h : zs_H} {k : Nat}
theorem yk_val {x : Nat} (hx : x < 32784) : ya_val h (nI x) = (h.2.1 16) x := by
  unfold ya_val
  rw [if_neg (zc_m1 (by omega)), nI_clamp (show x < 2147483648 by omega)]
theorem yk_con {x : Nat} (hx : x < 32784) : ya_con h (nI x) ↔ zv_kc h x := by
  unfold ya_con
  rw [nI_clamp (show x < 2147483648 by omega)]
  exact ⟨fun z => z.resolve_left (zc_m1 (by omega)), .inr⟩
/-- the arguments' values -/
theorem yk_va {l : zt_T} {Q : Nat → Prop} {x : Int32} {dl D : Nat} (hk : k < 33500) (T : yk_T h g l Q x ((g.2.1 76) k)) (h1 : 1 ≤ zt_ln l) (h3 : zt_ln l ≤ 3) (hc : yk_co h l x) (hd : zg_d l ≤ dl) (hdl : dl < 1000) (hD : 2 * dl + 1 ≤ D) : ∃ a, x = nI a ∧ a < 32784 ∧ f_Mo_valueAlone D g (nI k) = f_Mo_valueAlone_81 g (nI k) ((h.2.1 16) a) (ya_val h ((h.2.1 18) a)) (ya_val h (if (h.2.1 18) a = -1 then -1 else (h.2.1 18) ((h.2.1 18) a).toNatClampNeg)) := by
  obtain ⟨D, rfl⟩ : ∃ z, D = z + 1 := ⟨D - 1, by omega⟩
  have key : ∀ (Q1 : Nat → Prop) (dl1 i b : Nat), yk_n h g Q1 dl1 i b → zv_kc h i → b < 33500 → ¬ Q1 b → dl1 < dl → f_Mo_valueOf D g (nI b) = some ((h.2.1 16) i) := by
    intro Q1 dl1 i b A c hb hQ hd1
    rcases A with ⟨_, _, A⟩ | ⟨z, _⟩
    · exact yk_v1 (by omega) hb hQ A (by omega)
    · exact absurd c z
  cases l with
  | leaf => exact absurd h1 (by decide)
  | inner kd kv o l r =>
    have d1 : max (zg_d l + 1) (zg_d r) ≤ zg_d (.inner kd kv o l r) := zg_d1
    have n1 : zt_ln (.inner kd kv o l r) = 1 + zt_ln r := rfl
    obtain ⟨i, b, Q1, Q2, ⟨i1, i2⟩, ⟨b1, b2, b3⟩, q1, q2, A, B⟩ := T
    have hc' : zv_kc h x.toNatClampNeg ∧ yk_co h r ((h.2.1 18) x.toNatClampNeg) := hc
    rw [i2, nI_clamp (show i < 2147483648 by omega)] at hc'
    have ea := key Q1 _ i b A hc'.1 b2 (fun z => (q1 b z).2 rfl) (by omega)
    refine ⟨i, i2, i1, ?_⟩
    show g_Mo_valueAlone (f_Mo_valueOf D) g (nI k) = _
    unfold g_Mo_valueAlone
    rw [if_pos (zi_in (by omega) hk), nI_clamp (show k < 2147483648 by omega), b3, if_pos ((zc_le (k := 0) (by decide) (by omega)).mpr (by omega)), ea, Option.bind_some, if_pos (zi_in (by omega) b2), nI_clamp (show b < 2147483648 by omega)]
    cases r with
    | leaf =>
      obtain ⟨e1, e2⟩ := B
      rw [e2, if_neg (by decide), e1]
      unfold f_Mo_valueAlone_52 f_Mo_valueAlone_67
      rw [if_pos (by decide)]
      rfl
    | inner kd2 kv2 o2 l2 r2 =>
      have d2 : max (zg_d l2 + 1) (zg_d r2) ≤ zg_d (.inner kd2 kv2 o2 l2 r2) := zg_d1
      have n2 : zt_ln (.inner kd2 kv2 o2 l2 r2) = 1 + zt_ln r2 := rfl
      obtain ⟨i', b', Q1', Q2', ⟨i1', i2'⟩, ⟨b1', b2', b3'⟩, q1', q2', A', B'⟩ := B
      have hc2 : zv_kc h ((h.2.1 18) i).toNatClampNeg ∧ yk_co h r2 ((h.2.1 18) ((h.2.1 18) i).toNatClampNeg) := hc'.2
      rw [i2', nI_clamp (show i' < 2147483648 by omega)] at hc2
      have ea' := key Q1' _ i' b' A' hc2.1 b2' (fun z => (q1' b' z).2 rfl) (by omega)
      rw [b3', if_pos ((zc_le (k := 0) (by decide) (by omega)).mpr (by omega)), ea', Option.bind_some]
      unfold f_Mo_valueAlone_52 f_Mo_valueAlone_67
      rw [if_neg (nI_pos (by omega)), if_pos (zi_in (by omega) b2'), nI_clamp (show b' < 2147483648 by omega), i2', yk_val i1', if_neg (zc_m1 (show i' < 2147483648 by omega)), nI_clamp (show i' < 2147483648 by omega)]
      cases r2 with
      | leaf =>
        obtain ⟨e1, e2⟩ := B'
        rw [e2, if_neg (by decide), e1]
        rfl
      | inner kd3 kv3 o3 l3 r3 =>
        have d3 : max (zg_d l3 + 1) (zg_d r3) ≤ zg_d (.inner kd3 kv3 o3 l3 r3) := zg_d1
        have n3 : zt_ln (.inner kd3 kv3 o3 l3 r3) = 1 + zt_ln r3 := rfl
        obtain ⟨i3, b3x, Q1x, Q2x, ⟨i1x, i2x⟩, ⟨b1x, b2x, b3y⟩, q1x, q2x, Ax, Bx⟩ := B'
        have hc3 : zv_kc h ((h.2.1 18) i').toNatClampNeg ∧ yk_co h r3 ((h.2.1 18) ((h.2.1 18) i').toNatClampNeg) := hc2.2
        rw [i2x, nI_clamp (show i3 < 2147483648 by omega)] at hc3
        have eax := key Q1x _ i3 b3x Ax hc3.1 b2x (fun z => (q1x b3x z).2 rfl) (by omega)
        rw [b3y, if_pos ((zc_le (k := 0) (by decide) (by omega)).mpr (by omega)), eax, Option.bind_some, i2x, yk_val i1x]
/-- which arguments are constants -/
theorem yk_cs {l : zt_T} {Q : Nat → Prop} {x x' x5 x6 : Int32} {a : Nat} (T : yk_T h g l Q x x') (h1 : 1 ≤ zt_ln l) (h3 : zt_ln l ≤ 3) (e : x = nI a) (ha : a < 32784) (e5 : x5 = (h.2.1 18) a) (e6 : x6 = (if x5 = -1 then -1 else (h.2.1 18) x5.toNatClampNeg)) : (ya_con h (nI a) ∧ ya_con h x5 ∧ ya_con h x6) ↔ yk_co h l x := by
  have cm : ya_con h (-1) ↔ True := ⟨fun _ => trivial, fun _ => .inl rfl⟩
  cases l with
  | leaf => exact absurd h1 (by decide)
  | inner kd kv o l r =>
    have n1 : zt_ln (.inner kd kv o l r) = 1 + zt_ln r := rfl
    obtain ⟨i, b, Q1, Q2, ⟨i1, i2⟩, _, _, _, _, B⟩ := T
    have ei : i = a := (nI_eq (by omega) (by omega)).mp (i2.symm.trans e)
    subst ei
    show _ ↔ zv_kc h x.toNatClampNeg ∧ yk_co h r ((h.2.1 18) x.toNatClampNeg)
    rw [i2, nI_clamp (show i < 2147483648 by omega), yk_con i1]
    cases r with
    | leaf =>
      obtain ⟨e1, _⟩ := B
      rw [e1] at e5
      rw [e5, if_pos rfl] at e6
      rw [e5, e6, cm]
      exact ⟨fun z => ⟨z.1, trivial⟩, fun z => ⟨z.1, trivial, trivial⟩⟩
    | inner kd2 kv2 o2 l2 r2 =>
      have n2 : zt_ln (.inner kd2 kv2 o2 l2 r2) = 1 + zt_ln r2 := rfl
      obtain ⟨i', b', Q1', Q2', ⟨i1', i2'⟩, _, _, _, _, B'⟩ := B
      rw [i2'] at e5
      rw [e5, if_neg (zc_m1 (show i' < 2147483648 by omega)), nI_clamp (show i' < 2147483648 by omega)] at e6
      show _ ↔ zv_kc h i ∧ (zv_kc h ((h.2.1 18) i).toNatClampNeg ∧ yk_co h r2 ((h.2.1 18) ((h.2.1 18) i).toNatClampNeg))
      rw [i2', nI_clamp (show i' < 2147483648 by omega), e5, yk_con i1', e6]
      cases r2 with
      | leaf =>
        obtain ⟨e1, _⟩ := B'
        rw [e1, cm]
        exact Iff.rfl
      | inner kd3 kv3 o3 l3 r3 =>
        have n3 : zt_ln (.inner kd3 kv3 o3 l3 r3) = 1 + zt_ln r3 := rfl
        obtain ⟨i3, _, _, _, ⟨i1x, i2x⟩, _, _, _, _, Bx⟩ := B'
        show _ ↔ zv_kc h i ∧ zv_kc h i' ∧ (zv_kc h ((h.2.1 18) i').toNatClampNeg ∧ yk_co h r3 ((h.2.1 18) ((h.2.1 18) i').toNatClampNeg))
        rw [i2x, nI_clamp (show i3 < 2147483648 by omega), yk_con i1x]
        cases r3 with
        | leaf => exact ⟨fun z => ⟨z.1, z.2.1, z.2.2, trivial⟩, fun z => ⟨z.1, z.2.1, z.2.2.1⟩⟩
        | inner kd4 kv4 o4 l4 r4 =>
          have n4 : zt_ln (.inner kd4 kv4 o4 l4 r4) = 1 + zt_ln r4 := rfl
          omega
theorem yk_bz : ∀ s, s < 14 → ∀ ty, ty < 3 → ((f_Cd_operation (nI s) (nI ty) = 3 ∨ f_Cd_operation (nI s) (nI ty) = 4 ∨ f_Cd_operation (nI s) (nI ty) = 8 ∨ f_Cd_operation (nI s) (nI ty) = 9) ↔ 12 ≤ s) := by decide +kernel
theorem yk_by {s ty : Nat} {y : Int32} (hs : s < 14) (ht : ty < 3) : f_Cd_isByZero (f_Cd_operation (nI s) (nI ty)) y = 0 ↔ ¬ (12 ≤ s ∧ y = 0) := by
  have e := yk_bz s hs ty ht
  unfold f_Cd_isByZero
  by_cases z : y = 0
  · rw [if_pos z]
    by_cases w : 12 ≤ s
    · refine ⟨fun q => ?_, fun q => absurd ⟨w, z⟩ q⟩
      rcases e.mpr w with c | c | c | c <;> rw [c] at q <;> exact absurd q (by decide)
    · refine ⟨fun _ q => w q.1, fun _ => ?_⟩
      rw [if_neg (fun c => w (e.mp (.inl c))), if_neg (fun c => w (e.mp (.inr (.inl c)))), if_neg (fun c => w (e.mp (.inr (.inr (.inl c))))), if_neg (fun c => w (e.mp (.inr (.inr (.inr c)))))]
  · rw [if_neg z]
    exact ⟨fun _ q => z q.2, fun _ => rfl⟩
end YKD
/-- the kinds of both sides agree on what is a constant -/
theorem yk_const1 {LC LM : List (List Int32)} {F : Nat → Nat} {bb : Nat} {h g : zs_H} {P Q : Nat → Prop} (HS : zv_S LC LM g) (hP : ∀ j, P j → j < 32784) {kd : Nat} {kv : Int32 × Int32} {o : Unit} {l r : zt_T} (ihl : zg_ok l → yb_top l → ∀ (Qm : Nat → Prop) (up x x' y : Int32), zt_M LC LM g l Qm up x' y → yb_F F bb h g P Q l x x' (-1) (-1) → zg_d l < 199 → yk_T h g l Qm x x') (hA : zg_A kd (zg_run kd 0 l) = true) (hv : zg_v kd kv.2) (okl : zg_ok l) (hE : kd ∈ yb_E) : ∀ (Qm : Nat → Prop) (up x x' y ea eb : Int32), zt_M LC LM g (.inner kd kv o l r) Qm up x' y → yb_F F bb h g P Q (.inner kd kv o l r) x x' ea eb → zg_d l + 1 < 199 → ∃ (i k : Nat) (Q1 Q2 : Nat → Prop) (z2 : Int32), (i < 32784 ∧ x = nI i) ∧ (Qm k ∧ k < 33500 ∧ x' = nI k) ∧ (∀ j, Q1 j → Qm j ∧ ¬ j = k) ∧ (∀ j, Q2 j → Qm j) ∧ yk_n h g Q1 (zg_d l) i k ∧ zt_M LC LM g r Q2 up ((g.2.1 78) k) z2 ∧ yb_F F bb h g P Q r ((h.2.1 18) i) ((g.2.1 78) k) ea eb := by
  have hz := zF_big
  intro Qm up x x' y ea eb ⟨k', P1, P2, z1, z2, qk, k40, ex', NM, hP1, hP2, Ml, Mr, ey⟩ ⟨i, k, xl, ⟨pi, i2, ix⟩, ⟨qk', k2, kx, km⟩, N, Al, Ar⟩ hd
  have ek : k' = k := (nI_eq (by omega) (by omega)).mp (ex'.symm.trans kx)
  subst ek
  refine ⟨i, k', P1, P2, z2, ⟨i2, ix⟩, ⟨qk, k2, kx⟩, fun j hj => ⟨(hP1 j hj).1, (hP1 j hj).2.1⟩, fun j hj => (hP2 j hj).1, ?_, Mr, Ar⟩
  obtain ⟨n1, n2, n3, n4, n5⟩ := NM
  rcases N with N | ⟨ty, t1, t2, t3, N⟩
  · exact absurd hE (yb_SE N)
  · rcases N with ⟨e, c1, _⟩ | ⟨e, c1, c2, _⟩ | ⟨e, c1, c2, _⟩ | ⟨e, c1, c2, _⟩ | ⟨e, c1, c2, b, _, _, _, _, _, _, c, ec, hc, hcF, _⟩ | ⟨e, s, a, x5, x6, s1, s2, ⟨s3, s3', _⟩, s4, ⟨y1, y2, y3, y4, y5, y6⟩, s6⟩ | ⟨e, s, a, b, s1, s2, s3, s4, s5, ⟨s6, _⟩, s7⟩ | ⟨e, s, a, s1, s2, s3, ⟨s4, _⟩, s5⟩
    · subst e
      exact .inr ⟨by rintro (z | z) <;> rw [c1] at z <;> exact absurd z (by decide), yk_kl (km := 6) k2 (by decide) km⟩
    · have el : l = .leaf := by
        rcases e with e | e <;> subst e
        · exact zv_nolf (kd := 30) (by decide +kernel) hA
        · exact zv_nolf (kd := 31) (by decide +kernel) hA
      have ekm : zt_km kd = kd := by rcases e with e | e <;> subst e <;> rfl
      have enk : zt_nk kd = false := by rcases e with e | e <;> subst e <;> rfl
      rw [enk, if_neg (by decide)] at n3
      rw [ekm] at km
      refine .inl ⟨?_, ?_, ?_⟩
      · rcases e with e | e <;> subst e
        · exact .inl c1
        · exact .inr c1
      · have := yk_kl (g := g) (dl := zg_d l) k2 (show kd < 34 by rcases e with e | e <;> omega) km
        rw [if_pos e] at this
        exact this
      · refine yk_v0 k2 (show kd < 100 by rcases e with e | e <;> omega) (by rcases e with e | e <;> omega) km ?_
        intro D hD
        obtain ⟨D, rfl⟩ : ∃ z, D = z + 1 := ⟨D - 1, by omega⟩
        rw [el] at Ml
        show g_Mo_valueAlone (f_Mo_valueOf D) g (nI k') = _
        unfold g_Mo_valueAlone
        rw [if_pos (zi_in (by omega) k2), nI_clamp (show k' < 2147483648 by omega), Ml.1, if_neg (by decide), n3, c2]
    · subst e
      exact .inr ⟨by rintro (z | z) <;> rw [c1] at z <;> exact absurd z (by decide), yk_kl (km := 32) k2 (by decide) km⟩
    · subst e
      exact .inr ⟨by rintro (z | z) <;> rw [c1] at z <;> exact absurd z (by decide), yk_kl (km := 33) k2 (by decide) km⟩
    · subst e
      rw [if_pos (by decide), ec] at n3
      have w := zv_wF HS n3 hc
      rw [if_neg hcF] at w
      exact .inr ⟨by rintro (z | z) <;> rw [c1] at z <;> exact absurd z (by decide), yk_k34 k2 km w⟩
    · subst e
      have T := ihl okl (yb_g34 hA) P1 _ _ _ _ Ml Al (by omega)
      rw [if_pos (by decide), s2] at n3
      have w := zv_wF HS n3 (show 50 + s < 6000 by omega)
      rw [if_pos (by omega), show 50 + s - 50 = s by omega] at w
      have hn1 : 1 ≤ zt_ln l ∧ zt_ln l ≤ 3 := by
        rw [s3]
        have : ∀ s, s < 10 → 1 ≤ ya_ar s ∧ ya_ar s ≤ 3 := by decide
        exact this s s1
      have ha : a < 32784 := hP a y2
      have cs := yk_cs T hn1.1 hn1.2 y1 ha y3 y4
      have lp : ∀ D, zg_d l ≤ D → _ := fun D hD => yk_loop l P1 xl _ D zF T hD (by omega) (by omega)
      rcases s6 with ⟨f1, f2, f3⟩ | ⟨f1, f2, _⟩
      · have hco := cs.mp f1
        refine .inl ⟨.inl f2, yk_kL (km := 34) k2 (.inr ⟨rfl, s1, w⟩) km (fun D hD => ((lp D hD).resolve_right (fun z => z.1 hco)).2), ?_⟩
        refine yk_v0 k2 (km := 34) (by decide) (by decide) km ?_
        intro D hD
        obtain ⟨a', q1, q2, q3⟩ := yk_va k2 T hn1.1 hn1.2 hco (Nat.le_refl _) (by omega) hD
        have ea : a' = a := (nI_eq (by omega) (by omega)).mp (q1.symm.trans y1)
        subst ea
        rw [q3]
        unfold f_Mo_valueAlone_81
        have hst : ∃ kk, kk < 33500 ∧ (g.2.1 76) k' = nI kk ∧ (s = 0 ∨ s = 5 ∨ s = 6 → (g.2.1 100) kk = nI ty) := by
          cases l with
          | leaf => exact absurd hn1.1 (by decide)
          | inner cd ckv co cl cr =>
            obtain ⟨ic, kc, xc, ⟨_, ic2, icx⟩, ⟨_, kc2, kcx, _⟩, Nc, _, _⟩ := Al
            refine ⟨kc, kc2, kcx, fun q => ?_⟩
            have : ic = a' := (nI_eq (by omega) (by omega)).mp (icx.symm.trans y1)
            subst this
            have hEc : cd ∈ yb_E := (yb_g34 hA).1
            rcases Nc with Nc | ⟨ty', _, w2, w3, _⟩
            · exact absurd hEc (yb_SE Nc)
            · rw [w3, ← w2]; exact s3' q
        obtain ⟨kk, kk1, kk2, kk3⟩ := hst
        rw [if_pos (zi_in (by omega) k2), nI_clamp (show k' < 2147483648 by omega), km, if_neg (by decide), yi_std k2 kk1 s1 t1 kk2 s4 kk3]
        rw [y3] at f3 y4
        rw [y4] at f3
        rw [f3]; rfl
      · refine .inr ⟨by rintro (z | z) <;> rw [f2] at z <;> exact absurd z (by decide), yk_kL (km := 34) k2 (.inr ⟨rfl, s1, w⟩) km (fun D hD => ((lp D hD).resolve_left (fun z => f1 (cs.mpr z.1))).2)⟩
    · subst e
      obtain ⟨cd, ckv, co, cl, cd2, ckv2, co2, cl2, el, hc, hc2⟩ := yb_g2 hA
      subst el
      have dl0 : max (zg_d cl + 1) (max (zg_d cl2 + 1) 0) ≤ zg_d (.inner cd ckv co cl (.inner cd2 ckv2 co2 cl2 .leaf)) := zg_d2 (r := .leaf)
      obtain ⟨i1, k1, Q1, Q2, ⟨w1, w2⟩, ⟨w3, w4, w5⟩, w6, w7, A1, i1', k1', Q1', Q2', ⟨v1, v2⟩, ⟨v3, v4, v5⟩, v6, v7, A2, _⟩ := ihl okl ⟨hc, hc2, trivial⟩ P1 _ _ _ _ Ml Al (by omega)
      have ea : i1 = a := (nI_eq (by omega) (by have := hP a s4; omega)).mp (w2.symm.trans s3)
      subst ea
      have eb : i1' = b := (nI_eq (by omega) (by have := hP b s6; omega)).mp (v2.symm.trans s5)
      subst eb
      have hl : (g.2.1 77) k' = nI k1' ∧ (g.2.1 75) k1 = nI k' := by
        obtain ⟨q, R1, R2, zz1, zz2, _, q40, qx, NQ, _, _, _, ⟨q', R1', R2', zz1', zz2', _, q40', qx', _, _, _, _, mr, ey2⟩, ey1⟩ := Ml
        rw [mr.2, if_pos rfl] at ey2
        rw [ey2, qx', if_neg (zc_m1 (by omega))] at ey1
        have eq : q = k1 := (nI_eq (by omega) (by omega)).mp (qx.symm.trans w5)
        subst eq
        refine ⟨?_, NQ.2.2.2.1⟩
        rw [n5, ey1, ← qx', v5]
      rw [if_neg (by decide), s2] at n3
      have hQ1 : ∀ j, Q1 j → P1 j := fun j hj => (w6 j hj).1
      have sg := yi_sign k2 s1 t1 n3 t3
      have by0 := yk_by (y := (h.2.1 16) i1') s1 t1
      have nz : ¬ (12 ≤ s ∧ (h.2.1 16) i1' = 0) → ¬ ((h.2.1 16) i1' = 0 ∧ (f_Cd_operation (nI s) (nI ty) = 3 ∨ f_Cd_operation (nI s) (nI ty) = 4 ∨ f_Cd_operation (nI s) (nI ty) = 8 ∨ f_Cd_operation (nI s) (nI ty) = 9)) := fun z q => z ⟨(yk_bz s s1 ty t1).mp q.2, q.1⟩
      have nq : ¬ Q1' k1' := fun z => (v6 k1' z).2 rfl
      rcases s7 with ⟨⟨f0, f1, f2⟩, f3, f4⟩ | ⟨f1, f2, _⟩
      · obtain ⟨_, a2, a3⟩ := A1.resolve_right (fun z => z.1 f0)
        obtain ⟨_, b2, b3⟩ := A2.resolve_right (fun z => z.1 f1)
        have nn := by0.mp f2
        refine .inl ⟨.inl f3, yk_k35 k2 v4 (show zg_d cl < _ by omega) (show zg_d cl2 < _ by omega) (by omega) s1 km w5 hl.1 n3 a2 b2 nq (.inr b3) (by rw [if_neg (by decide), if_neg nn]), ?_⟩
        exact yk_v35 k2 w4 v4 (show zg_d cl < _ by omega) (show zg_d cl2 < _ by omega) (by omega) km w5 hl.2 hl.1 hQ1 w3 nq a3 b3 sg (by rw [yi_twoA (nz nn)]; exact f4)
      · refine .inr ⟨by rintro (z | z) <;> rw [f2] at z <;> exact absurd z (by decide), ?_⟩
        rcases A2 with ⟨b1, b2, b3⟩ | ⟨b1, b2⟩
        · rcases A1 with ⟨a1, a2, a3⟩ | ⟨a1, a2⟩
          · refine yk_k35 k2 v4 (show zg_d cl < _ by omega) (show zg_d cl2 < _ by omega) (by omega) s1 km w5 hl.1 n3 a2 b2 nq (.inr b3) ?_
            rw [if_neg (by decide)]
            by_cases nn : 12 ≤ s ∧ (h.2.1 16) i1' = 0
            · rw [if_pos nn]
            · exact absurd ⟨a1, b1, by0.mpr nn⟩ f1
          · refine yk_k35 k2 v4 (show zg_d cl < _ by omega) (show zg_d cl2 < _ by omega) (by omega) s1 km w5 hl.1 n3 a2 b2 nq (.inr b3) ?_
            rw [if_neg (by decide), ite_self]
        · rcases A1 with ⟨a1, a2, a3⟩ | ⟨a1, a2⟩
          · exact yk_k35 (vb := 0) k2 v4 (show zg_d cl < _ by omega) (show zg_d cl2 < _ by omega) (by omega) s1 km w5 hl.1 n3 a2 b2 nq (.inl rfl) (by rw [if_pos rfl])
          · exact yk_k35 (vb := 0) k2 v4 (show zg_d cl < _ by omega) (show zg_d cl2 < _ by omega) (by omega) s1 km w5 hl.1 n3 a2 b2 nq (.inl rfl) (by rw [if_pos rfl])
    · subst e
      obtain ⟨cd, ckv, co, cl, el, hc⟩ := yb_g1 (.inr rfl) hA
      have T := ihl okl (by rw [el]; exact ⟨hc, trivial⟩) P1 _ _ _ _ Ml Al (by omega)
      have hn1 : zt_ln l = 1 := by rw [el]; rfl
      rw [if_neg (by decide), s2] at n3
      have lp : ∀ D, zg_d l ≤ D → _ := fun D hD => yk_loop l P1 xl _ D zF T hD (by omega) (by omega)
      have ha : a < 32784 := hP a s4
      have cs : zv_kc h a ↔ yk_co h l xl := by
        rw [el]
        show _ ↔ zv_kc h xl.toNatClampNeg ∧ True
        rw [s3, nI_clamp (show a < 2147483648 by omega)]
        exact ⟨fun z => ⟨z, trivial⟩, fun z => z.1⟩
      rcases s5 with ⟨f1, f2, f3⟩ | ⟨f1, f2, _⟩
      · have hco := cs.mp f1
        refine .inl ⟨.inl f2, yk_kL (km := 36) (s := 0) k2 (.inl rfl) km (fun D hD => ((lp D hD).resolve_right (fun z => z.1 hco)).2), ?_⟩
        refine yk_v0 k2 (km := 36) (by decide) (by decide) km ?_
        intro D hD
        obtain ⟨a', q1, q2, q3⟩ := yk_va k2 T (by omega) (by omega) hco (Nat.le_refl _) (by omega) hD
        have ea : a' = a := (nI_eq (by omega) (by omega)).mp (q1.symm.trans s3)
        subst ea
        rw [q3]
        unfold f_Mo_valueAlone_81
        rw [if_pos (zi_in (by omega) k2), nI_clamp (show k' < 2147483648 by omega), km, if_pos (by decide), yi_turn k2 s1 t1 n3 t3, Option.bind_some, yi_one, f3]
      · exact .inr ⟨by rintro (z | z) <;> rw [f2] at z <;> exact absurd z (by decide), yk_kL (km := 36) (s := 0) k2 (.inl rfl) km (fun D hD => ((lp D hD).resolve_left (fun z => f1 (cs.mpr z.1))).2)⟩
theorem yk_const {LC LM : List (List Int32)} {F : Nat → Nat} {bb : Nat} {h g : zs_H} {P Q : Nat → Prop} (HS : zv_S LC LM g) (hP : ∀ j, P j → j < 32784) : ∀ (t : zt_T), zg_ok t → yb_top t → ∀ (Qm : Nat → Prop) (up x x' y : Int32), zt_M LC LM g t Qm up x' y → yb_F F bb h g P Q t x x' (-1) (-1) → zg_d t < 199 → yk_T h g t Qm x x' := by
  intro t
  induction t with
  | leaf => intro _ _ Qm up x x' y _ A _; exact A
  | inner kd kv o l r ihl ihr =>
    intro ⟨⟨hA, hv⟩, okl, okr⟩ ⟨hE, tr⟩ Qm up x x' y HM HF hd
    have hd0 : max (zg_d l + 1) (zg_d r) ≤ zg_d (.inner kd kv o l r) := zg_d1
    obtain ⟨i, k, Q1, Q2, z2, a1, a2, a3, a4, a5, Mr, Ar⟩ := yk_const1 HS hP ihl hA hv okl hE Qm up x x' y (-1) (-1) HM HF (by omega)
    exact ⟨i, k, Q1, Q2, a1, a2, a3, a4, a5, ihr okr tr Q2 up _ _ z2 Mr Ar (by omega)⟩
end
section
/-! The coder: what code is, and what it is to have laid it down. -/
/-- an instruction: what it is, its numbers (jumps: where to, counted from the first instruction of all) -/
abbrev yI : Type := Nat × Int32 × Int32 × Int32
/-- and in how many loops it is -/
abbrev yJ : Type := yI × Nat
def yv (v : Nat) (L : List yI) : List yJ := L.map (fun i => (i, v))
theorem yv_len {v : Nat} {L : List yI} : (yv v L).length = L.length := List.length_map _
theorem yv_ap {v : Nat} {L1 L2 : List yI} : yv v (L1 ++ L2) = yv v L1 ++ yv v L2 := List.map_append
def yC_m (h : zs_H) (j : Nat) (i : yI) : Prop := (h.2.1 42) j = nI i.1 ∧ (h.2.1 43) j = i.2.1 ∧ (h.2.1 44) j = i.2.2.1 ∧ (h.2.1 45) j = i.2.2.2
/-- the model counts jumps from the unit's start -/
def yM_A (s : Nat) (i : yI) : Int32 := if i.1 = 10 ∨ i.1 = 11 ∨ i.1 = 14 then i.2.1 - nI s else if i.1 = 13 then i.2.2.1 else i.2.1
def yM_B (s : Nat) (i : yI) : Int32 := if i.1 = 13 then i.2.1 - nI s else i.2.2.1
def yM_m (s : Nat) (g : zs_H) (j : Nat) (i : yJ) : Prop := (g.2.1 104) j = nI i.1.1 ∧ (g.2.1 105) j = yM_A s i.1 ∧ (g.2.1 106) j = yM_B s i.1 ∧ (g.2.1 107) j = i.1.2.2.2 ∧ (g.2.1 108) j = nI i.2
abbrev yC_w : List Nat := [42, 43, 44, 45]
abbrev yM_w : List Nat := [104, 105, 106, 107, 108]
/-- the instructions L have been laid down from n on -/
def yC_E (n : Nat) (L : List yI) (h h' : zs_H) : Prop := (h'.1 41 5) = nI (n + L.length) ∧ zfr [(41, 5)] yC_w [] h h' ∧ (n + L.length ≤ 4000 → (∀ j, j < n → ∀ a, a ∈ yC_w → h'.2.1 a j = h.2.1 a j) ∧ ∀ k i, L[k]? = some i → yC_m h' (n + k) i)
def yM_E (s n : Nat) (L : List yJ) (g g' : zs_H) : Prop := (g'.1 68 56) = nI (n + L.length) ∧ zfr [(68, 56)] yM_w [] g g' ∧ (n + L.length ≤ 4000 → (∀ j, j < n → ∀ a, a ∈ yM_w → g'.2.1 a j = g.2.1 a j) ∧ ∀ k i, L[k]? = some i → yM_m s g' (n + k) i)
section YE
variable {n s : Nat} {L L1 L2 : List yI} {M M1 M2 : List yJ} {h h1 h2 h' g g1 g2 g' : zs_H}
theorem yC_nil (e : (h.1 41 5) = nI n) : yC_E n [] h h := ⟨e, zfr_rfl, fun _ => ⟨fun _ _ _ _ => rfl, fun k i z => by simp at z⟩⟩
theorem yM_nil (e : (g.1 68 56) = nI n) : yM_E s n [] g g := ⟨e, zfr_rfl, fun _ => ⟨fun _ _ _ _ => rfl, fun k i z => by simp at z⟩⟩
theorem yC_mf {j : Nat} {i : yI} (e : ∀ a, a ∈ yC_w → h'.2.1 a j = h.2.1 a j) (m : yC_m h j i) : yC_m h' j i := by
  obtain ⟨m1, m2, m3, m4⟩ := m
  exact ⟨by rw [e _ (by decide)]; exact m1, by rw [e _ (by decide)]; exact m2, by rw [e _ (by decide)]; exact m3, by rw [e _ (by decide)]; exact m4⟩
theorem yM_mf {j : Nat} {i : yJ} (e : ∀ a, a ∈ yM_w → g'.2.1 a j = g.2.1 a j) (m : yM_m s g j i) : yM_m s g' j i := by
  obtain ⟨m1, m2, m3, m4, m5⟩ := m
  exact ⟨by rw [e _ (by decide)]; exact m1, by rw [e _ (by decide)]; exact m2, by rw [e _ (by decide)]; exact m3, by rw [e _ (by decide)]; exact m4, by rw [e _ (by decide)]; exact m5⟩
theorem yC_ap (A : yC_E n L1 h h1) (B : yC_E (n + L1.length) L2 h1 h2) : yC_E n (L1 ++ L2) h h2 := by
  obtain ⟨a1, a2, a3⟩ := A
  obtain ⟨b1, b2, b3⟩ := B
  refine ⟨by rw [b1, List.length_append, Nat.add_assoc], zfr_trans a2 b2, fun hn => ?_⟩
  rw [List.length_append] at hn
  obtain ⟨c1, c2⟩ := a3 (by omega)
  obtain ⟨d1, d2⟩ := b3 (by omega)
  refine ⟨fun j hj a ha => (d1 j (by omega) a ha).trans (c1 j hj a ha), fun k i e => ?_⟩
  rw [List.getElem?_append] at e
  by_cases z : k < L1.length
  · rw [if_pos z] at e
    exact yC_mf (fun a ha => d1 _ (by omega) a ha) (c2 k i e)
  · rw [if_neg z] at e
    have := d2 _ i e
    rw [show n + L1.length + (k - L1.length) = n + k by omega] at this
    exact this
theorem yM_ap (A : yM_E s n M1 g g1) (B : yM_E s (n + M1.length) M2 g1 g2) : yM_E s n (M1 ++ M2) g g2 := by
  obtain ⟨a1, a2, a3⟩ := A
  obtain ⟨b1, b2, b3⟩ := B
  refine ⟨by rw [b1, List.length_append, Nat.add_assoc], zfr_trans a2 b2, fun hn => ?_⟩
  rw [List.length_append] at hn
  obtain ⟨c1, c2⟩ := a3 (by omega)
  obtain ⟨d1, d2⟩ := b3 (by omega)
  refine ⟨fun j hj a ha => (d1 j (by omega) a ha).trans (c1 j hj a ha), fun k i e => ?_⟩
  rw [List.getElem?_append] at e
  by_cases z : k < M1.length
  · rw [if_pos z] at e
    exact yM_mf (fun a ha => d1 _ (by omega) a ha) (c2 k i e)
  · rw [if_neg z] at e
    have := d2 _ i e
    rw [show n + M1.length + (k - M1.length) = n + k by omega] at this
    exact this
theorem yC_by : ∀ o, o < 19 → vp_nar .byte ((nI o).toInt8.toInt32) = nI o := by decide +kernel
theorem yI_one {α : Type} {i i' : α} {k : Nat} (e : [i][k]? = some i') : k = 0 ∧ i' = i := by
  cases k with
  | zero => exact ⟨rfl, by simpa using e.symm⟩
  | succ k => simp at e
/-- the class lays one down -/
theorem yC_emit (e : (h.1 41 5) = nI n) (hn : n < 100000000) (o : Nat) (ho : o < 19) (a : Int32) : ∃ h', f_Cd_emit h (nI o) a = some (nI n, h') ∧ yC_E n [(o, a, 0, 0)] h h' := by
  unfold f_Cd_emit f_Cd_emit_41
  rw [e, yC_by o ho]
  by_cases z : n < 4000
  · rw [if_neg (mt (zc_le (k := 4000) (by decide) (by omega)).mp (by omega)), if_pos (zi_in (by omega) z), nI_clamp (show n < 2147483648 by omega)]
    refine ⟨_, rfl, ?_, ?_, fun _ => ⟨fun j hj a ha => ?_, fun k i ei => ?_⟩⟩
    · rw [zu_S]
      show (h.1 41 5) + 1 = _
      rw [e, nI_1]; rfl
    · exact zfr_F (by decide) (zfr_M (by decide) (zfr_M (by decide) (zfr_M (by decide) (zfr_M (by decide) zfr_rfl))))
    · simp only [zu_FM, zu_MM, show ¬ j = n by omega, and_false, if_false]
    · obtain ⟨rfl, rfl⟩ := yI_one ei
      refine ⟨?_, ?_, ?_, ?_⟩ <;> simp only [zu_FM, zu_MM, Nat.add_zero] <;> simp
  · rw [if_pos ((zc_le (k := 4000) (by decide) (by omega)).mpr (by omega))]
    refine ⟨_, rfl, ?_, zfr_F (by decide) zfr_rfl, fun q => ?_⟩
    · rw [zu_S, nI_1]; rfl
    · have : n + 1 ≤ 4000 := q
      omega
/-- and gives it two numbers more -/
theorem yC_with {o : Nat} {a : Int32} (hn : n < 100000000) (E : yC_E n [(o, a, 0, 0)] h h1) (b c : Int32) : ∃ h', f_Cd_with h1 b c = some h' ∧ yC_E n [(o, a, b, c)] h h' := by
  obtain ⟨e1, e2, e3⟩ := E
  have e1' : (h1.1 41 5) = nI (n + 1) := e1
  unfold f_Cd_with
  rw [e1', if_neg (mt (zc_el (k := 0) (by decide) (by omega)).mp (by omega))]
  by_cases z : n < 4000
  · obtain ⟨c1, c2⟩ := e3 (show n + 1 ≤ 4000 by omega)
    rw [if_neg (mt (zc_lt (k := 4000) (by decide) (by omega)).mp (by omega)), zc_sb (k := 1) (by omega), show n + 1 - OfNat.ofNat 1 = n from Nat.add_sub_cancel n 1, if_pos (zi_in (by omega) z), nI_clamp (show n < 2147483648 by omega)]
    refine ⟨_, rfl, e1, zfr_M (by decide) (zfr_M (by decide) e2), fun _ => ⟨fun j hj a ha => ?_, fun k i ei => ?_⟩⟩
    · simp only [zu_MM, show ¬ j = n by omega, and_false, if_false]
      exact c1 j hj a ha
    · obtain ⟨rfl, rfl⟩ := yI_one ei
      obtain ⟨m1, m2, m3, m4⟩ := c2 0 (o, a, 0, 0) rfl
      refine ⟨?_, ?_, ?_, ?_⟩ <;> simp only [zu_MM, Nat.add_zero]
      · simpa using m1
      · simpa using m2
      · simp
      · simp
  · rw [if_pos ((zc_lt (k := 4000) (by decide) (by omega)).mpr (by omega))]
    refine ⟨_, rfl, e1, e2, fun q => ?_⟩
    have : n + 1 ≤ 4000 := q
    omega
/-- the model lays one down -/
theorem yM_emit {u lv : Nat} (e : (g.1 68 56) = nI n) (hn : n < 100000000) (e2 : (g.1 68 58) = nI u) (hu : u < 17) (e3 : (g.2.1 103) u = nI s) (hs : s ≤ n) (e4 : (g.1 68 64) = nI lv) (i : yI) : ∃ g', f_Mo_emit g (nI i.1) (yM_A s i) (yM_B s i) i.2.2.2 = some (nI (n - s), g') ∧ yM_E s n [(i, lv)] g g' := by
  unfold f_Mo_emit f_Mo_emit_64
  rw [e]
  by_cases z : n < 4000
  · rw [if_neg (mt (zc_le (k := 4000) (by decide) (by omega)).mp (by omega)), if_pos (zi_in (by omega) z), if_pos (zi_in (by omega) (show n < 4001 by omega)), nI_clamp (show n < 2147483648 by omega)]
    simp only [zu_MF, e2, e, if_pos (zi_in (show u < 2147483648 by omega) hu), nI_clamp (show u < 2147483648 by omega)]
    rw [show (zs_uM (zs_uM (zs_uM (zs_uM (zs_uM g 104 n (nI i.1)) 105 n (yM_A s i)) 106 n (yM_B s i)) 107 n i.2.2.2) 108 n ((g.1 68 64))).2.1 103 u = nI s by rw [zu_MM, if_neg (fun q => absurd q.1 (by decide)), zu_MM, if_neg (fun q => absurd q.1 (by decide)), zu_MM, if_neg (fun q => absurd q.1 (by decide)), zu_MM, if_neg (fun q => absurd q.1 (by decide)), zu_MM, if_neg (fun q => absurd q.1 (by decide))]; exact e3, Int32.add_sub_cancel, zi_sub hs]
    refine ⟨_, rfl, ?_, ?_, fun _ => ⟨fun j hj a ha => ?_, fun k i' ei => ?_⟩⟩
    · rw [zu_S, nI_1]; rfl
    · exact zfr_F (by decide) (zfr_M (by decide) (zfr_M (by decide) (zfr_M (by decide) (zfr_M (by decide) (zfr_M (by decide) zfr_rfl)))))
    · simp only [zu_FM, zu_MM, show ¬ j = n by omega, and_false, if_false]
    · obtain ⟨rfl, rfl⟩ := yI_one ei
      refine ⟨?_, ?_, ?_, ?_, ?_⟩ <;> simp only [zu_FM, zu_MM, Nat.add_zero] <;> simp [e4]
  · rw [if_pos ((zc_le (k := 4000) (by decide) (by omega)).mpr (by omega)), e2, if_pos (zi_in (show u < 2147483648 by omega) hu), nI_clamp (show u < 2147483648 by omega), e3, Int32.add_sub_cancel, zi_sub hs]
    refine ⟨_, rfl, ?_, zfr_F (by decide) zfr_rfl, fun q => ?_⟩
    · rw [zu_S, nI_1]; rfl
    · have : n + 1 ≤ 4000 := q
      omega
end YE
end
section
/-! The coder: expressions, and how the class lays them down. -/
/-- nothing but the code has changed -/
abbrev yC_F : List (Nat × Nat) := [(41, 5), (41, 6), (47, 3), (47, 4), (47, 5), (47, 6), (47, 10), (47, 11)]
abbrev yC_M : List Nat := [42, 43, 44, 45, 46, 48, 49, 50]
def yC_f (h0 h : zs_H) : Prop := zfr yC_F yC_M [] h0 h
theorem yC_fE {h0 h h' : zs_H} {n : Nat} {L : List yI} (f : yC_f h0 h) (E : yC_E n L h h') : yC_f h0 h' := zfr_trans f (zfr_w E.2.1 (by decide) (by decide) (by decide))
/-- the class codes the node x -/
def yk_C (h0 : zs_H) (dl : Nat) (x : Int32) (e : List yI) : Prop := ∀ (D d n : Nat) (h : zs_H), yC_f h0 h → (h.1 41 5) = nI n → n + e.length ≤ 90000000 → 2 * dl + 1 < D → d + dl ≤ 240 → ∃ h', f_Cr_codeExpression D h x (nI d) = some h' ∧ yC_E n e h h'
/-- nodes in a row -/
def yk_L (h0 : zs_H) (dl : Nat) : List (List yI) → Int32 → Prop
  | [], x => x = -1
  | e :: es, x => ∃ i, i < 32784 ∧ x = nI i ∧ yk_C h0 dl (nI i) e ∧ yk_L h0 dl es ((h0.2.1 18) i)
section YKE
variable {h0 h : zs_H} {dl i : Nat}
theorem yk_CS {D : Nat} {x : Int32} {d : Nat} (hi : i < 32784) (hd : d ≤ 240) (hx : x = nI i) : f_Cr_codeExpression (D + 1) h x (nI d) = g_Cr_codeExpression (f_Cr_codeCall D) (f_Cr_codeExpression D) (f_Cr_codeStandardCall D) h (nI i) (nI d) := by rw [hx]; rfl
theorem yk_C30 (hi : i < 32784) (k : zv_kc h0 i) : yk_C h0 dl (nI i) [(0, (h0.2.1 16) i, 0, 0)] := by
  intro D d n h f e hn hD hd
  obtain ⟨D, rfl⟩ : ∃ z, D = z + 1 := ⟨D - 1, by omega⟩
  have f' : ∀ a, ¬ a ∈ yC_M → h.2.1 a = h0.2.1 a := fun a ha => f.2.1 a ha
  obtain ⟨h', e1, e2⟩ := yC_emit e (show n < 100000000 by omega) 0 (by decide) ((h0.2.1 16) i)
  refine ⟨h', ?_, e2⟩
  rw [yk_CS hi (by omega) rfl]
  unfold g_Cr_codeExpression
  simp only [if_pos ((zc_el (k := 240) (by decide) (show d < 2147483648 by omega)).mpr (show d ≤ 240 by omega)), if_pos (zi_in (show i < 2147483648 by omega) hi), nI_clamp (show i < 2147483648 by omega), f' 13 (by decide), f' 16 (by decide)]
  rcases k with k | k <;> rw [k, if_neg (by decide), if_neg (by decide), if_neg (by decide), if_neg (by decide), if_neg (by decide), if_neg (by decide), if_neg (by decide)] <;> exact (congrArg (fun z => zd_B z _) e1).trans rfl
theorem yk_C6 {w x : Nat} (hi : i < 32784) (k : (h0.2.1 13) i = 6) (hw : w < 6000) (ew : (h0.2.1 16) i = nI w) (ex : (h0.2.1 32) w = nI x) : yk_C h0 dl (nI i) [(1, nI x, 0, 0)] := by
  intro D d n h f e hn hD hd
  obtain ⟨D, rfl⟩ : ∃ z, D = z + 1 := ⟨D - 1, by omega⟩
  have f' : ∀ a, ¬ a ∈ yC_M → h.2.1 a = h0.2.1 a := fun a ha => f.2.1 a ha
  obtain ⟨h', e1, e2⟩ := yC_emit e (show n < 100000000 by omega) 1 (by decide) (nI x)
  refine ⟨h', ?_, e2⟩
  rw [yk_CS hi (by omega) rfl]
  unfold g_Cr_codeExpression f_Cr_cellOf
  simp only [if_pos ((zc_el (k := 240) (by decide) (show d < 2147483648 by omega)).mpr (show d ≤ 240 by omega)), if_pos (zi_in (show i < 2147483648 by omega) hi), nI_clamp (show i < 2147483648 by omega), f' 13 (by decide), f' 16 (by decide), f' 32 (by decide), ew, if_pos (zi_in (show w < 2147483648 by omega) hw), nI_clamp (show w < 2147483648 by omega), ex]
  rw [k, if_pos rfl, if_neg (by decide), Option.bind_some]
  exact (congrArg (fun z => zd_B z _) e1).trans rfl
theorem yk_C33 {w x a y : Nat} (hi : i < 32784) (k : (h0.2.1 13) i = 33) (hw : w < 6000) (ew : (h0.2.1 16) i = nI w) (ex : (h0.2.1 32) w = nI x) (ec : (h0.2.1 17) i = nI a) (ha : a < 32784) (ey : (h0.2.1 16) a = nI y) : yk_C h0 dl (nI i) [(1, nI (x + y), 0, 0)] := by
  intro D d n h f e hn hD hd
  obtain ⟨D, rfl⟩ : ∃ z, D = z + 1 := ⟨D - 1, by omega⟩
  have f' : ∀ a, ¬ a ∈ yC_M → h.2.1 a = h0.2.1 a := fun a ha => f.2.1 a ha
  obtain ⟨h', e1, e2⟩ := yC_emit e (show n < 100000000 by omega) 1 (by decide) (nI (x + y))
  refine ⟨h', ?_, e2⟩
  rw [yk_CS hi (by omega) rfl]
  unfold g_Cr_codeExpression f_Cr_cellOf
  simp only [if_pos ((zc_el (k := 240) (by decide) (show d < 2147483648 by omega)).mpr (show d ≤ 240 by omega)), if_pos (zi_in (show i < 2147483648 by omega) hi), nI_clamp (show i < 2147483648 by omega), f' 13 (by decide), f' 16 (by decide), f' 32 (by decide), f' 17 (by decide), ew, if_pos (zi_in (show w < 2147483648 by omega) hw), ec, if_pos (zi_in (show a < 2147483648 by omega) ha), nI_clamp (show w < 2147483648 by omega), nI_clamp (show a < 2147483648 by omega), ex, ey, nI_add]
  rw [k, if_neg (by decide), if_neg (by decide), if_pos rfl, if_pos rfl, Option.bind_some]
  exact (congrArg (fun z => zd_B z _) e1).trans rfl
theorem yk_C32 {w x dl' : Nat} {L : List yI} (hi : i < 32784) (k : (h0.2.1 13) i = 32) (hw : w < 6000) (ew : (h0.2.1 16) i = nI w) (ex : (h0.2.1 32) w = nI x) (hdl : dl' < dl) (C : yk_C h0 dl' ((h0.2.1 17) i) L) : yk_C h0 dl (nI i) (L ++ [(3, nI x, (h0.2.1 33) w, (h0.2.1 34) w)]) := by
  intro D d n h f e hn hD hd
  rw [List.length_append] at hn
  have hn' : n + (L.length + 1) ≤ 90000000 := hn
  obtain ⟨D, rfl⟩ : ∃ z, D = z + 1 := ⟨D - 1, by omega⟩
  have f' : ∀ a, ¬ a ∈ yC_M → h.2.1 a = h0.2.1 a := fun a ha => f.2.1 a ha
  obtain ⟨h1, a1, a2⟩ := C D (d + 1) n h f e (by omega) (by omega) (by omega)
  have f1 := yC_fE f a2
  have f1' : ∀ a, ¬ a ∈ yC_M → h1.2.1 a = h0.2.1 a := fun a ha => f1.2.1 a ha
  have s1 := a2.1
  obtain ⟨h2, b1, b2⟩ := yC_emit s1 (by omega) 3 (by decide) (nI x)
  obtain ⟨h3, c1, c2⟩ := yC_with (by omega) b2 ((h0.2.1 33) w) ((h0.2.1 34) w)
  have f2 := yC_fE f1 b2
  have f2' : ∀ a, ¬ a ∈ yC_M → h2.2.1 a = h0.2.1 a := fun a ha => f2.2.1 a ha
  refine ⟨h3, ?_, yC_ap a2 c2⟩
  rw [yk_CS hi (by omega) rfl]
  unfold g_Cr_codeExpression
  simp only [if_pos ((zc_el (k := 240) (by decide) (show d < 2147483648 by omega)).mpr (show d ≤ 240 by omega)), if_pos (zi_in (show i < 2147483648 by omega) hi), nI_clamp (show i < 2147483648 by omega), f' 13 (by decide), f' 16 (by decide), f' 17 (by decide), ew, nI_1, if_pos (zi_in (show w < 2147483648 by omega) hw), nI_clamp (show w < 2147483648 by omega)]
  rw [k, if_neg (by decide), if_pos rfl, a1, Option.bind_some, f1' 32 (by decide), ex]
  refine (congrArg (fun z => zd_B z _) b1).trans ?_
  show (f_Cd_with h2 ((h2.2.1 33) w) ((h2.2.1 34) w)).bind _ = _
  rw [f2' 33 (by decide), f2' 34 (by decide), c1, Option.bind_some]
theorem yk_C35 {a b dl1 dl2 : Nat} {ea eb : List yI} (hi : i < 32784) (k : (h0.2.1 13) i = 35) (ec : (h0.2.1 17) i = nI a) (ha : a < 32784) (en : (h0.2.1 18) a = nI b) (h1 : dl1 < dl) (h2 : dl2 < dl) (A : yk_C h0 dl1 (nI a) ea) (B : yk_C h0 dl2 (nI b) eb) : yk_C h0 dl (nI i) (ea ++ (eb ++ [(7, f_Cd_operation ((h0.2.1 16) i) ((h0.2.1 14) i), 0, 0)])) := by
  intro D d n h f e hn hD hd
  rw [List.length_append, List.length_append] at hn
  have hn' : n + (ea.length + (eb.length + 1)) ≤ 90000000 := hn
  obtain ⟨D, rfl⟩ : ∃ z, D = z + 1 := ⟨D - 1, by omega⟩
  have f' : ∀ a, ¬ a ∈ yC_M → h.2.1 a = h0.2.1 a := fun a ha => f.2.1 a ha
  obtain ⟨h1, a1, a2⟩ := A D (d + 1) n h f e (by omega) (by omega) (by omega)
  have f1 := yC_fE f a2
  have f1' : ∀ a, ¬ a ∈ yC_M → h1.2.1 a = h0.2.1 a := fun a ha => f1.2.1 a ha
  have s1 := a2.1
  obtain ⟨h2, b1, b2⟩ := B D (d + 1) _ h1 f1 s1 (by omega) (by omega) (by omega)
  have f2 := yC_fE f1 b2
  have f2' : ∀ a, ¬ a ∈ yC_M → h2.2.1 a = h0.2.1 a := fun a ha => f2.2.1 a ha
  have s2 := b2.1
  obtain ⟨h3, c1, c2⟩ := yC_emit s2 (by omega) 7 (by decide) (f_Cd_operation ((h0.2.1 16) i) ((h0.2.1 14) i))
  refine ⟨h3, ?_, yC_ap a2 (yC_ap b2 c2)⟩
  rw [yk_CS hi (by omega) rfl]
  unfold g_Cr_codeExpression
  simp only [if_pos ((zc_el (k := 240) (by decide) (show d < 2147483648 by omega)).mpr (show d ≤ 240 by omega)), if_pos (zi_in (show i < 2147483648 by omega) hi), nI_clamp (show i < 2147483648 by omega), f' 13 (by decide), f' 16 (by decide), f' 17 (by decide), nI_1, ec, if_pos (zi_in (show a < 2147483648 by omega) ha), nI_clamp (show a < 2147483648 by omega)]
  rw [k, if_neg (by decide), if_neg (by decide), if_neg (by decide), if_neg (by decide), if_pos rfl, a1, Option.bind_some, f1' 18 (by decide), en, b1, Option.bind_some, f2' 14 (by decide)]
  exact (congrArg (fun z => zd_B z _) c1).trans rfl
theorem yk_C36 {dl1 : Nat} {ea : List yI} {x : Int32} (hi : i < 32784) (k : (h0.2.1 13) i = 36) (ec : (h0.2.1 17) i = x) (h1 : dl1 < dl) (A : yk_C h0 dl1 x ea) : yk_C h0 dl (nI i) (ea ++ [(8, f_Cd_turning (if (h0.2.1 16) i = 0 then 1 else 0) ((h0.2.1 14) i), 0, 0)]) := by
  intro D d n h f e hn hD hd
  rw [List.length_append] at hn
  have hn' : n + (ea.length + 1) ≤ 90000000 := hn
  obtain ⟨D, rfl⟩ : ∃ z, D = z + 1 := ⟨D - 1, by omega⟩
  have f' : ∀ a, ¬ a ∈ yC_M → h.2.1 a = h0.2.1 a := fun a ha => f.2.1 a ha
  obtain ⟨h1, a1, a2⟩ := A D (d + 1) n h f e (by omega) (by omega) (by omega)
  have f1 := yC_fE f a2
  have f1' : ∀ a, ¬ a ∈ yC_M → h1.2.1 a = h0.2.1 a := fun a ha => f1.2.1 a ha
  have s1 := a2.1
  obtain ⟨h3, c1, c2⟩ := yC_emit s1 (by omega) 8 (by decide) (f_Cd_turning (if (h0.2.1 16) i = 0 then 1 else 0) ((h0.2.1 14) i))
  refine ⟨h3, ?_, yC_ap a2 c2⟩
  rw [yk_CS hi (by omega) rfl]
  unfold g_Cr_codeExpression f_Cr_codeExpression_252
  simp only [if_pos ((zc_el (k := 240) (by decide) (show d < 2147483648 by omega)).mpr (show d ≤ 240 by omega)), if_pos (zi_in (show i < 2147483648 by omega) hi), nI_clamp (show i < 2147483648 by omega), f' 13 (by decide), f' 16 (by decide), f' 17 (by decide), nI_1, ec]
  rw [k, if_neg (by decide), if_neg (by decide), if_neg (by decide), if_neg (by decide), if_neg (by decide), if_pos rfl, a1, Option.bind_some, f1' 14 (by decide)]
  by_cases z : (h0.2.1 16) i = 0
  · rw [if_pos z] at c1 ⊢
    exact (congrArg (fun z => zd_B z _) c1).trans rfl
  · rw [if_neg z] at c1 ⊢
    exact (congrArg (fun z => zd_B z _) c1).trans rfl
end YKE
end
section
/-! The coder: calls, and how the class lays them down. -/
/-- the code of the arguments, one after the other -/
def yx_s : List (List yI) → List yI
  | [] => []
  | a :: r => a ++ yx_s r
/-- the code of a standard function -/
def yx_t (s : Nat) (k : Int32) : List (List yI) → List yI
  | [a] => if s = 8 then a else a ++ [(8, k, 0, 0)]
  | [a, b] => a ++ (b ++ [(7, k, 0, 0)])
  | [a, b, c] => if s = 3 then (a ++ (b ++ [(7, 24, 0, 0)])) ++ (c ++ [(7, 23, 0, 0)]) else a ++ (b ++ (c ++ [(9, 0, 0, 0)]))
  | _ => []
def yx_call (u : Nat) (ws : List Int32) (L : List yI) : List yI := L ++ (ws.map (fun w => ((6, nI u, w, 0) : yI)) ++ [(16, nI u, 0, 0), (5, nI u, 0, 0)])
theorem zv_ilb (h : zs_H) : ∀ m v, zv_il h (m + 1) v = zv_il h m v ++ (if (h.2.1 29) (32 + (v + m)) = 1 then [v + m] else []) := by
  intro m
  induction m with
  | zero => intro v; rfl
  | succ m ih =>
    intro v
    have e : zv_il h (m + 1 + 1) v = if (h.2.1 29) (32 + v) = 1 then v :: zv_il h (m + 1) (v + 1) else zv_il h (m + 1) (v + 1) := rfl
    have e2 : zv_il h (m + 1) v = if (h.2.1 29) (32 + v) = 1 then v :: zv_il h m (v + 1) else zv_il h m (v + 1) := rfl
    rw [e, e2, ih (v + 1), show v + 1 + m = v + (m + 1) by omega]
    split <;> rfl
theorem zi_dec {k : Nat} (h : 1 ≤ k) : nI k + (-1) = nI (k - 1) := (Int32.sub_eq_add_neg (nI k) 1).symm.trans (zi_sub (b := 1) h)
section YKG
variable {h0 h : zs_H} {dl i : Nat}
/-- the inputs of a function are written, the last one first -/
theorem yk_wr {b lo : Nat} (hb : b < 600) (hf : (h0.2.1 23) (9 + b) = nI (32 + lo)) : ∀ (m : Nat) (h : zs_H) (n N : Nat), lo + m < 5950 → yC_f h0 h → (h.1 41 5) = nI n → n + (zv_il h0 m lo).length + 2 ≤ 90000000 → m < N → ∃ h', f_Cr_codeCall_L88 N h (nI (9 + b)) (nI b) (nI (31 + lo + m)) = some h' ∧ yC_E n (((zv_il h0 m lo).reverse.map (fun w => ((6, nI b, (h0.2.1 32) (32 + w), 0) : yI))) ++ [(16, nI b, 0, 0), (5, nI b, 0, 0)]) h h' := by
  intro m
  induction m with
  | zero =>
    intro h n N hlo f e hn hN
    obtain ⟨N, rfl⟩ : ∃ z, N = z + 1 := ⟨N - 1, by omega⟩
    have hl : (zv_il h0 0 lo).length = 0 := rfl
    obtain ⟨h1, a1, a2⟩ := yC_emit e (by omega) 16 (by decide) (nI b)
    obtain ⟨h2, b1, b2⟩ := yC_emit a2.1 (show n + 1 < 100000000 by omega) 5 (by decide) (nI b)
    refine ⟨h2, ?_, show yC_E n ([(16, nI b, 0, 0)] ++ [(5, nI b, 0, 0)]) h h2 from yC_ap a2 b2⟩
    show f_Cr_codeCall_88 (f_Cr_codeCall_L88 N) h (nI (9 + b)) (nI b) (nI (31 + lo + 0)) = _
    unfold f_Cr_codeCall_88
    rw [if_pos (zi_in (by omega) (by omega)), nI_clamp (show 9 + b < 2147483648 by omega), f.2.1 23 (by decide), hf, if_pos ((nI_ltI (by omega) (by omega)).mpr (by omega))]
    refine (congrArg (fun z => zd_B z _) a1).trans ?_
    exact (show zd_B (f_Cd_emit h1 (nI 5) (nI b)) (fun _ h8 => some h8) = some h2 from (congrArg (fun z => zd_B z _) b1).trans rfl)
  | succ m ih =>
    intro h n N hlo f e hn hN
    obtain ⟨N, rfl⟩ : ∃ z, N = z + 1 := ⟨N - 1, by omega⟩
    have f' : ∀ a, ¬ a ∈ yC_M → h.2.1 a = h0.2.1 a := fun a ha => f.2.1 a ha
    show ∃ h', f_Cr_codeCall_88 (f_Cr_codeCall_L88 N) h (nI (9 + b)) (nI b) (nI (31 + lo + (m + 1))) = some h' ∧ _
    unfold f_Cr_codeCall_88 f_Cr_codeCall_146
    rw [if_pos (zi_in (by omega) (by omega)), nI_clamp (show 9 + b < 2147483648 by omega), f' 23 (by decide), hf, if_neg (mt (nI_ltI (by omega) (by omega)).mp (by omega)), show 31 + lo + (m + 1) = 32 + (lo + m) by omega]
    simp only [if_pos (zi_in (show 32 + (lo + m) < 2147483648 by omega) (show 32 + (lo + m) < 6000 by omega)), nI_clamp (show 32 + (lo + m) < 2147483648 by omega), zi_dec (show 1 ≤ 32 + (lo + m) by omega), show 32 + (lo + m) - 1 = 31 + lo + m by omega]
    rw [f' 29 (by decide)]
    rw [zv_ilb] at hn ⊢
    by_cases z : (h0.2.1 29) (32 + (lo + m)) = 1
    · rw [if_pos z] at hn ⊢
      rw [if_pos z]
      rw [List.length_append] at hn
      have hn' : n + ((zv_il h0 m lo).length + 1) + 2 ≤ 90000000 := hn
      obtain ⟨h1, a1, a2⟩ := yC_emit e (by omega) 6 (by decide) (nI b)
      obtain ⟨h2, b1, b2⟩ := yC_with (by omega) a2 ((h0.2.1 32) (32 + (lo + m))) 0
      have f1 := yC_fE f a2
      have f2 := yC_fE f b2
      obtain ⟨h3, c1, c2⟩ := ih h2 (n + 1) N (by omega) f2 b2.1 (by omega) (by omega)
      refine ⟨h3, ?_, ?_⟩
      · refine (congrArg (fun z => zd_B z _) a1).trans ?_
        show (f_Cd_with h1 ((h1.2.1 32) (32 + (lo + m))) 0).bind _ = _
        rw [f1.2.1 32 (by decide), b1, Option.bind_some, c1]
      · rw [List.reverse_append, List.map_append, List.append_assoc]
        exact (show yC_E n ([(6, nI b, (h0.2.1 32) (32 + (lo + m)), 0)] ++ _) h h3 from yC_ap b2 c2)
    · rw [if_neg z] at hn ⊢
      rw [if_neg z]
      rw [List.append_nil] at hn ⊢
      exact ih h n N (by omega) f e hn (by omega)
theorem yk_uS {D N : Nat} {x1 x2 x3 x4 x5 : Int32} : f_Cr_codeStandardCall_L24 (f_Cr_codeExpression D) (N + 1) h x1 x2 x3 x4 x5 = f_Cr_codeStandardCall_24 (f_Cr_codeExpression D) (f_Cr_codeStandardCall_L24 (f_Cr_codeExpression D) N) h x1 x2 x3 x4 x5 := rfl
theorem yk_uL {D N : Nat} {x2 x3 x4 x5 x6 : Int32} : f_Cr_codeCall_L30 (f_Cr_codeExpression D) (N + 1) h x2 x3 x4 x5 x6 = f_Cr_codeCall_30 (f_Cr_codeExpression D) (f_Cr_codeCall_L30 (f_Cr_codeExpression D) N) h x2 x3 x4 x5 x6 := rfl
/-- arguments one after the other -/
theorem yk_ar {dl' sz : Nat} {x3 x4 : Int32} (hsz : (h0.1 12 6) = nI sz) (hs2 : sz < 100000) : ∀ (es : List (List yI)) (x : Int32) (h : zs_H) (n d D t N : Nat), yk_L h0 dl' es x → yC_f h0 h → (h.1 41 5) = nI n → n + (yx_s es).length ≤ 90000000 → (es = [] ∨ (2 * dl' + 1 < D ∧ d + 1 + dl' ≤ 240)) → t + es.length ≤ sz → es.length < N → ∃ h', f_Cr_codeCall_L30 (f_Cr_codeExpression D) N h (nI d) x3 x4 x (nI t) = f_Cr_codeCall_75 h' x3 x4 ∧ yC_E n (yx_s es) h h' := by
  intro es
  induction es with
  | nil =>
    intro x h n d D t N L f e hn hD ht hN
    obtain ⟨N, rfl⟩ : ∃ z, N = z + 1 := ⟨N - 1, by omega⟩
    refine ⟨h, ?_, yC_nil e⟩
    rw [yk_uL, show x = -1 from L]
    unfold f_Cr_codeCall_30
    rw [if_pos (show (-1 : Int32) = -1 from rfl), ite_self]
  | cons a es ih =>
    intro x h n d D t N L f e hn hD ht hN
    obtain ⟨hD, hd⟩ := hD.resolve_left (fun z => by cases z)
    obtain ⟨i, i1, i2, C, L⟩ := L
    have hn' : n + (a ++ yx_s es).length ≤ 90000000 := hn
    rw [List.length_append] at hn'
    have ht' : t + (es.length + 1) ≤ sz := ht
    have hN' : es.length + 1 < N := hN
    obtain ⟨N, rfl⟩ : ∃ z, N = z + 1 := ⟨N - 1, by omega⟩
    obtain ⟨h1, a1, a2⟩ := C D (d + 1) n h f e (by omega) hD (by omega)
    have f1 := yC_fE f a2
    have s1 := a2.1
    obtain ⟨h2, b1, b2⟩ := ih _ h1 _ d D (t + 1) N L f1 s1 (by omega) (.inr ⟨hD, hd⟩) (by omega) (by omega)
    refine ⟨h2, ?_, yC_ap a2 b2⟩
    rw [yk_uL, i2]
    unfold f_Cr_codeCall_30
    rw [f.1 _ _ (by decide), hsz, if_neg (mt (nI_leI (by omega) (by omega)).mp (by omega)), if_neg (zc_m1 (by omega)), nI_1, a1, Option.bind_some, if_pos (zi_in (by omega) i1), nI_clamp (show i < 2147483648 by omega), f1.2.1 18 (by decide), nI_1, b1]
theorem yk_C34 {b lo m dl' sz : Nat} {es : List (List yI)} (hi : i < 32784) (k : (h0.2.1 13) i = 34) (hb : b < 600) (ev : (h0.2.1 16) i = nI (9 + b)) (hf : (h0.2.1 23) (9 + b) = nI (32 + lo)) (hh : (h0.2.1 24) (9 + b) = nI (32 + (lo + m))) (hlo : lo + m < 5950) (hsz : (h0.1 12 6) = nI sz) (hs2 : sz < 100000) (hl : es.length ≤ sz) (hdl : es = [] ∨ dl' < dl) (L : yk_L h0 dl' es ((h0.2.1 17) i)) : yk_C h0 dl (nI i) (yx_call b ((zv_il h0 m lo).reverse.map (fun w => (h0.2.1 32) (32 + w))) (yx_s es)) := by
  have hz := zF_big
  intro D d n h f e hn hD hd
  have hn' : n + (yx_s es).length + (zv_il h0 m lo).length + 2 ≤ 90000000 := by
    unfold yx_call at hn
    rw [List.length_append, List.length_append, List.length_map, List.length_map, List.length_reverse] at hn
    have : n + ((yx_s es).length + ((zv_il h0 m lo).length + 2)) ≤ 90000000 := hn
    omega
  obtain ⟨D, rfl⟩ : ∃ z, D = z + 1 + 1 := ⟨D - 2, by omega⟩
  have f' : ∀ a, ¬ a ∈ yC_M → h.2.1 a = h0.2.1 a := fun a ha => f.2.1 a ha
  obtain ⟨h1, a1, a2⟩ := yk_ar (x3 := nI (9 + b)) (x4 := nI b) hsz hs2 es _ h n d D 0 zF L f e (by omega) (hdl.imp id (fun z => ⟨by omega, by omega⟩)) (by omega) (by omega)
  have f1 := yC_fE f a2
  have s1 := a2.1
  obtain ⟨h2, b1, b2⟩ := yk_wr hb hf m h1 _ zF hlo f1 s1 (by omega) (by omega)
  refine ⟨h2, ?_, yC_ap a2 ?_⟩
  · rw [yk_CS hi (by omega) rfl]
    unfold g_Cr_codeExpression
    simp only [if_pos ((zc_el (k := 240) (by decide) (show d < 2147483648 by omega)).mpr (show d ≤ 240 by omega)), if_pos (zi_in (show i < 2147483648 by omega) hi), nI_clamp (show i < 2147483648 by omega), f' 13 (by decide)]
    rw [k, if_neg (by decide), if_neg (by decide), if_neg (by decide), if_pos rfl]
    show (g_Cr_codeCall (f_Cr_codeExpression D) h (nI i) (nI d)).bind _ = _
    unfold g_Cr_codeCall
    rw [if_pos (zi_in (by omega) hi), nI_clamp (show i < 2147483648 by omega), f' 16 (by decide), f' 17 (by decide), ev, zc_sb (k := 9) (by omega), show 9 + b - OfNat.ofNat 9 = b from Nat.add_sub_cancel_left 9 b, show (0 : Int32) = nI 0 from rfl, a1]
    unfold f_Cr_codeCall_75
    rw [if_pos (zi_in (by omega) (by omega)), nI_clamp (show 9 + b < 2147483648 by omega), f1.2.1 24 (by decide), hh, zc_sb (k := 1) (by omega), show 32 + (lo + m) - OfNat.ofNat 1 = 31 + lo + m from by show 32 + (lo + m) - 1 = _; omega, b1, Option.bind_some]
  · rw [List.map_map]
    exact b2
/-- a standard function's arguments -/
theorem yk_sa {D d s t a N : Nat} {h1 : zs_H} (f1 : yC_f h0 h1) (hs : s < 10) (h3 : ¬ s = 3) (ht : t < 3) (ha : a < 32784) (E : f_Cr_codeExpression D h (nI a) (nI (d + 1)) = some h1) : f_Cr_codeStandardCall_L24 (f_Cr_codeExpression D) (N + 1) h (nI i) (nI d) (nI s) (nI a) (nI t) = f_Cr_codeStandardCall_L24 (f_Cr_codeExpression D) N h1 (nI i) (nI d) (nI s) ((h0.2.1 18) a) (nI (t + 1)) := by
  rw [yk_uS]
  unfold f_Cr_codeStandardCall_24 f_Cr_codeStandardCall_78
  rw [if_neg (mt (zc_le (k := 3) (by decide) (by omega)).mp (by omega)), if_neg (zc_m1 (by omega)), nI_1, E, Option.bind_some, if_neg (mt (zc_eq (k := 3) (by decide) (by omega)).mp h3), if_pos (zi_in (by omega) ha), nI_clamp (show a < 2147483648 by omega), f1.2.1 18 (by decide), nI_1]
theorem yk_se {D d t N : Nat} {x3 x4 : Int32} (h : zs_H) (ht : t ≤ 3) (hx : t = 3 ∨ x4 = -1) : f_Cr_codeStandardCall_L24 (f_Cr_codeExpression D) (N + 1) h (nI i) (nI d) x3 x4 (nI t) = f_Cr_codeStandardCall_96 h (nI i) x3 := by
  rw [yk_uS]
  unfold f_Cr_codeStandardCall_24
  by_cases z : t = 3
  · rw [if_pos ((zc_le (k := 3) (by decide) (by omega)).mpr (by omega))]
  · rw [if_neg (mt (zc_le (k := 3) (by decide) (by omega)).mp (by omega)), if_pos (hx.resolve_left z)]
theorem yk_4 : ∀ s, s < 10 → zt_4.getD (nI s).toNatClampNeg 0 = nI (ya_ar s) := by decide +kernel
/-- what stands behind the arguments -/
theorem yk_96 {s n : Nat} (f : yC_f h0 h) (e : (h.1 41 5) = nI n) (hn : n < 100000000) (hi : i < 32784) (hs : s < 10) : ∃ h', f_Cr_codeStandardCall_96 h (nI i) (nI s) = some h' ∧ yC_E n (if s = 4 then [(9, 0, 0, 0)] else if s = 3 ∨ s = 8 then [] else [(if ya_ar s = 1 then 8 else 7, f_Cd_standardKind (nI s) ((h0.2.1 14) i), 0, 0)]) h h' := by
  unfold f_Cr_codeStandardCall_96 f_Cr_codeStandardCall_142
  by_cases h4 : s = 4
  · obtain ⟨h1, a1, a2⟩ := yC_emit e hn 9 (by decide) 0
    rw [if_pos ((zc_eq (k := 4) (by decide) (by omega)).mpr h4), if_pos h4]
    exact ⟨h1, (congrArg (fun z => zd_B z _) a1).trans rfl, a2⟩
  · rw [if_neg (mt (zc_eq (k := 4) (by decide) (by omega)).mp h4), if_neg h4]
    by_cases h3 : s = 3
    · rw [if_pos ((zc_eq (k := 3) (by decide) (by omega)).mpr h3), if_pos (.inl h3)]
      exact ⟨h, rfl, yC_nil e⟩
    · rw [if_neg (mt (zc_eq (k := 3) (by decide) (by omega)).mp h3)]
      by_cases h8 : s = 8
      · rw [if_pos ((zc_eq (k := 8) (by decide) (by omega)).mpr h8), if_pos (.inr h8)]
        exact ⟨h, rfl, yC_nil e⟩
      · rw [if_neg (mt (zc_eq (k := 8) (by decide) (by omega)).mp h8), if_neg (show ¬ (s = 3 ∨ s = 8) by omega), if_pos (zi_in (by omega) hs), yk_4 s hs]
        have ha : ya_ar s < 4 := by
          have : ∀ s, s < 10 → ya_ar s < 4 := by decide
          exact this s hs
        by_cases z : ya_ar s = 1
        · obtain ⟨h1, a1, a2⟩ := yC_emit e hn 8 (by decide) (f_Cd_standardKind (nI s) ((h0.2.1 14) i))
          rw [if_pos ((zc_eq (k := 1) (by decide) (by omega)).mpr z), if_pos z, if_pos (zi_in (by omega) hi), nI_clamp (show i < 2147483648 by omega), f.2.1 14 (by decide)]
          exact ⟨h1, (congrArg (fun z => zd_B z _) a1).trans rfl, a2⟩
        · obtain ⟨h1, a1, a2⟩ := yC_emit e hn 7 (by decide) (f_Cd_standardKind (nI s) ((h0.2.1 14) i))
          rw [if_neg (mt (zc_eq (k := 1) (by decide) (by omega)).mp z), if_neg z, if_pos (zi_in (by omega) hi), nI_clamp (show i < 2147483648 by omega), f.2.1 14 (by decide)]
          exact ⟨h1, (congrArg (fun z => zd_B z _) a1).trans rfl, a2⟩
end YKG
section YKH
variable {h0 h : zs_H} {dl i : Nat}
theorem yk_s0 {D d a N : Nat} {h1 : zs_H} (f1 : yC_f h0 h1) (ha : a < 32784) (E : f_Cr_codeExpression D h (nI a) (nI (d + 1)) = some h1) : f_Cr_codeStandardCall_L24 (f_Cr_codeExpression D) (N + 1) h (nI i) (nI d) (nI 3) (nI a) (nI 0) = f_Cr_codeStandardCall_L24 (f_Cr_codeExpression D) N h1 (nI i) (nI d) (nI 3) ((h0.2.1 18) a) (nI 1) := by
  rw [yk_uS]
  unfold f_Cr_codeStandardCall_24 f_Cr_codeStandardCall_78
  rw [if_neg (mt (zc_le (k := 3) (by decide) (by omega)).mp (by omega)), if_neg (zc_m1 (by omega)), nI_1, E, Option.bind_some, if_pos (show nI 3 = 3 from rfl), if_pos (by decide), if_pos (zi_in (by omega) ha), nI_clamp (show a < 2147483648 by omega), f1.2.1 18 (by decide), nI_1]
theorem yk_sb {D d t a N : Nat} {h1 h2 : zs_H} {w : Int32} (ht : t = 1 ∨ t = 2) (f2 : yC_f h0 h2) (ha : a < 32784) (E : f_Cr_codeExpression D h (nI a) (nI (d + 1)) = some h1) (E2 : f_Cd_emit h1 (nI 7) (if t = 1 then 24 else 23) = some (w, h2)) : f_Cr_codeStandardCall_L24 (f_Cr_codeExpression D) (N + 1) h (nI i) (nI d) (nI 3) (nI a) (nI t) = f_Cr_codeStandardCall_L24 (f_Cr_codeExpression D) N h2 (nI i) (nI d) (nI 3) ((h0.2.1 18) a) (nI (t + 1)) := by
  rw [yk_uS]
  unfold f_Cr_codeStandardCall_24 f_Cr_codeStandardCall_74 f_Cr_codeStandardCall_78
  rw [if_neg (mt (zc_le (k := 3) (by decide) (by omega)).mp (by omega)), if_neg (zc_m1 (by omega)), nI_1, E, Option.bind_some, if_pos (show nI 3 = 3 from rfl), if_neg (mt (zc_el (k := 0) (by decide) (by omega)).mp (by omega))]
  rcases ht with rfl | rfl
  · rw [if_pos rfl] at E2
    rw [if_pos (show nI 1 = 1 from rfl)]
    refine (congrArg (fun z => zd_B z _) E2).trans ?_
    show (if zd_in (nI a) 32784 then _ else none) = _
    rw [if_pos (zi_in (by omega) ha), nI_clamp (show a < 2147483648 by omega), f2.2.1 18 (by decide), nI_1]
  · rw [if_neg (by decide)] at E2
    rw [if_neg (by decide)]
    refine (congrArg (fun z => zd_B z _) E2).trans ?_
    show (if zd_in (nI a) 32784 then _ else none) = _
    rw [if_pos (zi_in (by omega) ha), nI_clamp (show a < 2147483648 by omega), f2.2.1 18 (by decide), nI_1]
theorem yk_C39 {s dl' : Nat} {es : List (List yI)} (hi : i < 32784) (k : (h0.2.1 13) i = 39) (hs : s < 10) (ev : (h0.2.1 16) i = nI s) (hl : es.length = ya_ar s) (hdl : dl' < dl) (L : yk_L h0 dl' es ((h0.2.1 17) i)) : yk_C h0 dl (nI i) (yx_t s (f_Cd_standardKind (nI s) ((h0.2.1 14) i)) es) := by
  have hz : zF = 18446744073709551612 + 1 + 1 + 1 + 1 := rfl
  intro D d n h f e hn hD hd
  obtain ⟨D, rfl⟩ : ∃ z, D = z + 1 + 1 := ⟨D - 2, by omega⟩
  have f' : ∀ a, ¬ a ∈ yC_M → h.2.1 a = h0.2.1 a := fun a ha => f.2.1 a ha
  have e0 : f_Cr_codeExpression (D + 1 + 1) h (nI i) (nI d) = (f_Cr_codeStandardCall_L24 (f_Cr_codeExpression D) zF h (nI i) (nI d) (nI s) ((h0.2.1 17) i) (nI 0)).bind some := by
    rw [yk_CS hi (by omega) rfl]
    unfold g_Cr_codeExpression
    simp only [if_pos ((zc_el (k := 240) (by decide) (show d < 2147483648 by omega)).mpr (show d ≤ 240 by omega)), if_pos (zi_in (show i < 2147483648 by omega) hi), nI_clamp (show i < 2147483648 by omega), f' 13 (by decide)]
    rw [k, if_neg (by decide), if_neg (by decide), if_neg (by decide), if_neg (by decide), if_neg (by decide), if_neg (by decide), if_pos rfl]
    show (g_Cr_codeStandardCall (f_Cr_codeExpression D) h (nI i) (nI d)).bind _ = _
    unfold g_Cr_codeStandardCall
    rw [if_pos (zi_in (by omega) hi), nI_clamp (show i < 2147483648 by omega), f' 16 (by decide), f' 17 (by decide), ev]
    rfl
  rw [e0]
  have hars : ∀ s, s < 10 → (ya_ar s = 1 → s = 0 ∨ s = 7 ∨ s = 8 ∨ s = 9) ∧ (ya_ar s = 2 → s = 1 ∨ s = 2 ∨ s = 5 ∨ s = 6) ∧ (ya_ar s = 3 → s = 3 ∨ s = 4) ∧ 1 ≤ ya_ar s ∧ ya_ar s ≤ 3 := by decide
  obtain ⟨r1, r2, r3, r4, r5⟩ := hars s hs
  match es, hl, L, hn with
  | [], hl, L, hn => exact absurd hl (by show ¬ 0 = _; omega)
  | [a], hl, L, hn =>
    obtain ⟨i1, j1, j2, C1, L1⟩ := L
    have q := r1 hl.symm
    have hn' : n + a.length ≤ 90000000 := by
      have : n + (if s = 8 then a else a ++ [(8, f_Cd_standardKind (nI s) ((h0.2.1 14) i), 0, 0)]).length ≤ 90000000 := hn
      split at this
      · omega
      · rw [List.length_append] at this; omega
    obtain ⟨h1, a1, a2⟩ := C1 D (d + 1) n h f e hn' (by omega) (by omega)
    have f1 := yC_fE f a2
    have s1 := a2.1
    obtain ⟨h2, b1, b2⟩ := yk_96 f1 s1 (by omega) hi hs
    refine ⟨h2, ?_, ?_⟩
    · rw [j2, hz, yk_sa f1 hs (by omega) (by omega) j1 a1, yk_se h1 (by omega) (.inr L1), b1]; rfl
    · rw [if_neg (by omega)] at b2
      show yC_E n (if s = 8 then a else a ++ [(8, f_Cd_standardKind (nI s) ((h0.2.1 14) i), 0, 0)]) h h2
      by_cases h8 : s = 8
      · rw [if_pos (.inr h8)] at b2
        rw [if_pos h8]
        have := yC_ap a2 b2
        rw [List.append_nil] at this
        exact this
      · rw [if_neg (by omega), if_pos (show ya_ar s = 1 from hl.symm)] at b2
        rw [if_neg h8]
        exact yC_ap a2 b2
  | [a, b], hl, L, hn =>
    obtain ⟨i1, j1, j2, C1, i2, w1, w2, C2, L1⟩ := L
    have q := r2 hl.symm
    have hn' : n + (a.length + (b.length + 1)) ≤ 90000000 := by
      have : n + (a ++ (b ++ [(7, f_Cd_standardKind (nI s) ((h0.2.1 14) i), 0, 0)])).length ≤ 90000000 := hn
      rw [List.length_append, List.length_append] at this; exact this
    obtain ⟨h1, a1, a2⟩ := C1 D (d + 1) n h f e (by omega) (by omega) (by omega)
    have f1 := yC_fE f a2
    have s1 := a2.1
    obtain ⟨h2, b1, b2⟩ := C2 D (d + 1) _ h1 f1 s1 (by omega) (by omega) (by omega)
    have f2 := yC_fE f1 b2
    have s2 := b2.1
    obtain ⟨h3, c1, c2⟩ := yk_96 f2 s2 (by omega) hi hs
    refine ⟨h3, ?_, ?_⟩
    · rw [j2, hz, yk_sa f1 hs (by omega) (by omega) j1 a1, w2, yk_sa f2 hs (by omega) (by omega) w1 b1, yk_se h2 (by omega) (.inr L1), c1]; rfl
    · rw [if_neg (by omega), if_neg (by omega), if_neg (by rw [← hl]; show ¬ 2 = 1; omega)] at c2
      exact yC_ap a2 (yC_ap b2 c2)
  | [a, b, c], hl, L, hn =>
    obtain ⟨i1, j1, j2, C1, i2, w1, w2, C2, i3, u1, u2, C3, L1⟩ := L
    have q := r3 hl.symm
    rcases q with rfl | rfl
    · have hn' : n + ((a ++ (b ++ [((7, 24, 0, 0) : yI)])).length + (c.length + 1)) ≤ 90000000 := by
        have : n + ((a ++ (b ++ [((7, 24, 0, 0) : yI)])) ++ (c ++ [((7, 23, 0, 0) : yI)])).length ≤ 90000000 := hn
        rw [List.length_append, List.length_append (as := c)] at this; exact this
      have hab : (a ++ (b ++ [((7, 24, 0, 0) : yI)])).length = a.length + (b.length + 1) := by rw [List.length_append, List.length_append]; rfl
      obtain ⟨h1, a1, a2⟩ := C1 D (d + 1) n h f e (by omega) (by omega) (by omega)
      have f1 := yC_fE f a2
      have s1 := a2.1
      obtain ⟨h2, b1, b2⟩ := C2 D (d + 1) _ h1 f1 s1 (by omega) (by omega) (by omega)
      have f2 := yC_fE f1 b2
      have s2 := b2.1
      obtain ⟨h3, c1, c2⟩ := yC_emit s2 (by omega) 7 (by decide) 24
      have f3 := yC_fE f2 c2
      obtain ⟨h4, d1, d2⟩ := C3 D (d + 1) _ h3 f3 (yC_ap a2 (yC_ap b2 c2)).1 (by omega) (by omega) (by omega)
      have f4 := yC_fE f3 d2
      have s4 := d2.1
      obtain ⟨h5, g1, g2⟩ := yC_emit s4 (by show n + (a ++ (b ++ [(7, 24, 0, 0)])).length + c.length < _; omega) 7 (by decide) 23
      have f5 := yC_fE f4 g2
      refine ⟨h5, ?_, ?_⟩
      · rw [j2, hz, yk_s0 f1 j1 a1, w2, yk_sb (.inl rfl) f3 w1 b1 c1, u2, yk_sb (.inr rfl) f5 u1 d1 g1, yk_se h5 (by omega) (.inl rfl)]
        unfold f_Cr_codeStandardCall_96
        rw [if_neg (by decide), if_pos (by decide)]; rfl
      · exact yC_ap (yC_ap a2 (yC_ap b2 c2)) (yC_ap d2 g2)
    · have hn' : n + (a.length + (b.length + (c.length + 1))) ≤ 90000000 := by
        have : n + (a ++ (b ++ (c ++ [((9, 0, 0, 0) : yI)]))).length ≤ 90000000 := hn
        rw [List.length_append, List.length_append, List.length_append] at this; exact this
      obtain ⟨h1, a1, a2⟩ := C1 D (d + 1) n h f e (by omega) (by omega) (by omega)
      have f1 := yC_fE f a2
      have s1 := a2.1
      obtain ⟨h2, b1, b2⟩ := C2 D (d + 1) _ h1 f1 s1 (by omega) (by omega) (by omega)
      have f2 := yC_fE f1 b2
      have s2 := b2.1
      obtain ⟨h3, c1, c2⟩ := C3 D (d + 1) _ h2 f2 s2 (by omega) (by omega) (by omega)
      have f3 := yC_fE f2 c2
      have s3 := c2.1
      obtain ⟨h4, d1, d2⟩ := yk_96 f3 s3 (by omega) hi (s := 4) (by decide)
      refine ⟨h4, ?_, ?_⟩
      · rw [j2, hz, yk_sa f1 (by decide) (by decide) (by omega) j1 a1, w2, yk_sa f2 (by decide) (by decide) (by omega) w1 b1, u2, yk_sa f3 (by decide) (by decide) (by omega) u1 c1, yk_se h3 (by omega) (.inl rfl), d1]; rfl
      · rw [if_pos rfl] at d2
        exact yC_ap a2 (yC_ap b2 (yC_ap c2 d2))
  | a :: b :: c :: d :: es, hl, L, hn => exact absurd hl (by show ¬ es.length + 1 + 1 + 1 + 1 = _; omega)
end YKH
end
