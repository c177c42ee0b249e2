/-! The line: check sums, on both sides. -/
theorem zln_x (a b : Nat) : nI a ^^^ nI b = nI (a ^^^ b) := by
  apply Int32.toBitVec_inj.mp
  show BitVec.ofNat 32 a ^^^ BitVec.ofNat 32 b = BitVec.ofNat 32 (a ^^^ b)
  apply BitVec.eq_of_toNat_eq
  rw [BitVec.toNat_xor, BitVec.toNat_ofNat, BitVec.toNat_ofNat, BitVec.toNat_ofNat, Nat.xor_mod_two_pow]
theorem zln_a (a b : Nat) : nI a &&& nI b = nI (a &&& b) := by
  apply Int32.toBitVec_inj.mp
  show BitVec.ofNat 32 a &&& BitVec.ofNat 32 b = BitVec.ofNat 32 (a &&& b)
  apply BitVec.eq_of_toNat_eq
  rw [BitVec.toNat_and, BitVec.toNat_ofNat, BitVec.toNat_ofNat, BitVec.toNat_ofNat, Nat.and_mod_two_pow]
theorem zln_ti {a : Nat} (h : a < 2147483648) : (nI a).toInt = (a : Int) := Int32.toInt_ofNat_of_lt h
theorem zln_d {a b : Nat} (ha : a < 2147483648) (hb : b < 2147483648) : nI a / nI b = nI (a / b) := by
  apply Int32.toInt_inj.mp
  have := Nat.div_le_self a b
  rw [Int32.toInt_div, zln_ti ha, zln_ti hb, zln_ti (show a / b < 2147483648 by omega), ← Int.ofNat_tdiv]
  generalize a / b = q at this
  exact Int.bmod_eq_of_le (by omega) (by omega)
theorem zln_s {a : Nat} (ha : a < 2147483648) : nI a >>> ((1 : Int32) &&& 31) = nI (a / 2) := by
  apply Int32.toBitVec_inj.mp
  show (BitVec.ofNat 32 a).sshiftRight 1 = BitVec.ofNat 32 (a / 2)
  have m : (BitVec.ofNat 32 a).msb = false := by
    rw [BitVec.msb_eq_decide, decide_eq_false_iff_not, BitVec.toNat_ofNat]
    omega
  apply BitVec.eq_of_toNat_eq
  rw [BitVec.sshiftRight_eq_of_msb_false m, BitVec.toNat_ushiftRight, BitVec.toNat_ofNat, BitVec.toNat_ofNat, Nat.shiftRight_eq_div_pow]
  omega
/-- one bit of a check sum -/
def zln_n (n : Nat) : Nat := if n % 2 = 1 then (n / 2) ^^^ 40961 else n / 2
theorem zln_nl {n : Nat} (h : n < 65536) : zln_n n < 65536 := by
  unfold zln_n
  split
  · exact Nat.xor_lt_two_pow (n := 16) (by omega) (by decide)
  · omega
def zln_k : Nat → Nat → Nat
  | 0, n => n
  | k + 1, n => zln_k k (zln_n n)
theorem zln_kl : ∀ (k n : Nat), n < 65536 → zln_k k n < 65536 := by
  intro k
  induction k with
  | zero => intro n h; exact h
  | succ k ih => intro n h; exact ih _ (zln_nl h)
/-- the check sum of the first i bytes -/
def zln_c (b : Nat → Nat) : Nat → Nat
  | 0 => 65535
  | i + 1 => zln_k 8 (zln_c b i ^^^ b i)
theorem zln_cl {b : Nat → Nat} (hb : ∀ i, b i < 256) : ∀ i, zln_c b i < 65536 := by
  intro i
  induction i with
  | zero => exact (show 65535 < 65536 by decide)
  | succ i ih => exact zln_kl 8 _ (Nat.xor_lt_two_pow (n := 16) ih (Nat.lt_trans (hb i) (by decide)))
theorem zln_M6 : ∀ (m i N n : Nat), i + m = 8 → m < N → n < 65536 → f_Mo_summed_L6 N (nI n) (nI i) = some (nI (zln_k m n)) := by
  intro m
  induction m with
  | zero =>
    intro i N n hi hN hn
    obtain ⟨N, rfl⟩ : ∃ z, N = z + 1 := ⟨N - 1, by omega⟩
    show f_Mo_summed_6 (f_Mo_summed_L6 N) (nI n) (nI i) = _
    unfold f_Mo_summed_6
    rw [if_pos ((zc_le (k := 8) (by decide) (by omega)).mpr (by omega))]
    rfl
  | succ m ih =>
    intro i N n hi hN hn
    obtain ⟨N, rfl⟩ : ∃ z, N = z + 1 := ⟨N - 1, by omega⟩
    show f_Mo_summed_6 (f_Mo_summed_L6 N) (nI n) (nI i) = _
    unfold f_Mo_summed_6 f_Mo_summed_32
    have e1 : nI n / 2 = nI (n / 2) := zln_d (b := 2) (by omega) (by decide)
    have e2 : nI n - nI (n / 2) * 2 = nI (n % 2) := by
      rw [show nI (n / 2) * 2 = nI (n / 2 * 2) from zi_mul (n / 2) 2, zi_sub (by omega)]
      congr 1; omega
    rw [if_neg (mt (zc_le (k := 8) (by decide) (by omega)).mp (by omega)), e1, e2, nI_1]
    have := ih (i + 1) N (zln_n n) (by omega) (by omega) (zln_nl hn)
    by_cases z : n % 2 = 1
    · rw [if_pos (by rw [z]; rfl), show nI (n / 2) ^^^ 40961 = nI (n / 2 ^^^ 40961) from zln_x _ 40961]
      rw [show zln_n n = n / 2 ^^^ 40961 from if_pos z] at this
      rw [this, show zln_k (m + 1) n = zln_k m (zln_n n) from rfl, show zln_n n = n / 2 ^^^ 40961 from if_pos z]
    · rw [if_neg (fun q => z ((zc_eq (k := 1) (by decide) (by omega)).mp q))]
      rw [show zln_n n = n / 2 from if_neg z] at this
      rw [this, show zln_k (m + 1) n = zln_k m (zln_n n) from rfl, show zln_n n = n / 2 from if_neg z]
theorem zln_sum {n b : Nat} (hn : n < 65536) (hb : b < 256) : f_Mo_summed (nI n) (nI b) = some (nI (zln_k 8 (n ^^^ b))) := by
  have := zF_big
  unfold f_Mo_summed
  rw [zln_x]
  exact zln_M6 8 0 zF _ (by omega) (by omega) (Nat.xor_lt_two_pow (n := 16) hn (by omega))
theorem zln_C29 {h : zs_H} {k5 : Int32 → Int32 → Int32 → Option Int32} {x1 x3 : Int32} : ∀ (m i N n : Nat), i + m = 8 → m < N → n < 65536 → f_Ln_checkSum_c1_L29 h k5 N x1 (nI n) x3 (nI i) = k5 x1 (nI (zln_k m n)) (x3 + 1) := by
  intro m
  induction m with
  | zero =>
    intro i N n hi hN hn
    obtain ⟨N, rfl⟩ : ∃ z, N = z + 1 := ⟨N - 1, by omega⟩
    show f_Ln_checkSum_c1_29 h k5 (f_Ln_checkSum_c1_L29 h k5 N) x1 (nI n) x3 (nI i) = _
    unfold f_Ln_checkSum_c1_29
    rw [if_pos ((zc_le (k := 8) (by decide) (by omega)).mpr (by omega))]
    rfl
  | succ m ih =>
    intro i N n hi hN hn
    obtain ⟨N, rfl⟩ : ∃ z, N = z + 1 := ⟨N - 1, by omega⟩
    show f_Ln_checkSum_c1_29 h k5 (f_Ln_checkSum_c1_L29 h k5 N) x1 (nI n) x3 (nI i) = _
    unfold f_Ln_checkSum_c1_29 f_Ln_checkSum_c1_54
    have e2 : nI n &&& 1 = nI (n % 2) := by rw [show nI n &&& 1 = nI (n &&& 1) from zln_a n 1, Nat.and_one_is_mod]
    rw [if_neg (mt (zc_le (k := 8) (by decide) (by omega)).mp (by omega)), e2, zln_s (by omega), nI_1]
    have := ih (i + 1) N (zln_n n) (by omega) (by omega) (zln_nl hn)
    by_cases z : n % 2 = 1
    · rw [if_neg (fun q => by have := (zc_eq (k := 0) (by decide) (by omega)).mp q; omega), show nI (n / 2) ^^^ 40961 = nI (n / 2 ^^^ 40961) from zln_x _ 40961]
      rw [show zln_n n = n / 2 ^^^ 40961 from if_pos z] at this
      rw [this, show zln_k (m + 1) n = zln_k m (zln_n n) from rfl, show zln_n n = n / 2 ^^^ 40961 from if_pos z]
    · rw [if_pos (by rw [show n % 2 = 0 by omega]; rfl)]
      rw [show zln_n n = n / 2 from if_neg z] at this
      rw [this, show zln_k (m + 1) n = zln_k m (zln_n n) from rfl, show zln_n n = n / 2 from if_neg z]
theorem zln_C5 {h : zs_H} {b : Nat → Nat} {n : Nat} (hn : n ≤ 256) (hb : ∀ i, b i < 256) (hT : ∀ i, i < n → (h.2.1 1) i &&& 255 = nI (b i)) : ∀ (m i N : Nat), i + m = n → m < N → f_Ln_checkSum_c1_L5 h N (nI n) (nI (zln_c b i)) (nI i) = some (nI (zln_c b n)) := by
  have hz := zF_big
  intro m
  induction m with
  | zero =>
    intro i N hi hN
    obtain ⟨N, rfl⟩ : ∃ z, N = z + 1 := ⟨N - 1, by omega⟩
    show f_Ln_checkSum_c1_5 h (f_Ln_checkSum_c1_L5 h N) (nI n) (nI (zln_c b i)) (nI i) = _
    unfold f_Ln_checkSum_c1_5
    have e : i = n := hi
    subst e
    rw [if_pos ((nI_leI (by omega) (by omega)).mpr (Nat.le_refl _))]
  | succ m ih =>
    intro i N hi hN
    obtain ⟨N, rfl⟩ : ∃ z, N = z + 1 := ⟨N - 1, by omega⟩
    show f_Ln_checkSum_c1_5 h (f_Ln_checkSum_c1_L5 h N) (nI n) (nI (zln_c b i)) (nI i) = _
    unfold f_Ln_checkSum_c1_5
    have hc := zln_cl hb i
    rw [if_neg (mt (nI_leI (by omega) (by omega)).mp (by omega)), if_neg (mt (zc_le (k := 16384) (by decide) (by omega)).mp (by omega)), if_pos (zi_in (by omega) (show i < 16384 by omega)), nI_clamp (by omega), hT i (by omega), zln_x]
    have := zln_C29 (h := h) (k5 := f_Ln_checkSum_c1_L5 h N) (x1 := nI n) (x3 := nI i) 8 0 zF (zln_c b i ^^^ b i) (by omega) (by omega) (Nat.xor_lt_two_pow (n := 16) hc (Nat.lt_trans (hb i) (by decide)))
    refine Eq.trans this ?_
    rw [nI_1]
    exact ih (i + 1) N (by omega) (by omega)
theorem zln_O29 {h : zs_H} {k5 : Int32 → Int32 → Int32 → Option Int32} {x1 x3 : Int32} : ∀ (m i N n : Nat), i + m = 8 → m < N → n < 65536 → f_Ln_checkSum_c67_L29 h k5 N x1 (nI n) x3 (nI i) = k5 x1 (nI (zln_k m n)) (x3 + 1) := by
  intro m
  induction m with
  | zero =>
    intro i N n hi hN hn
    obtain ⟨N, rfl⟩ : ∃ z, N = z + 1 := ⟨N - 1, by omega⟩
    show f_Ln_checkSum_c67_29 h k5 (f_Ln_checkSum_c67_L29 h k5 N) x1 (nI n) x3 (nI i) = _
    unfold f_Ln_checkSum_c67_29
    rw [if_pos ((zc_le (k := 8) (by decide) (by omega)).mpr (by omega))]
    rfl
  | succ m ih =>
    intro i N n hi hN hn
    obtain ⟨N, rfl⟩ : ∃ z, N = z + 1 := ⟨N - 1, by omega⟩
    show f_Ln_checkSum_c67_29 h k5 (f_Ln_checkSum_c67_L29 h k5 N) x1 (nI n) x3 (nI i) = _
    unfold f_Ln_checkSum_c67_29 f_Ln_checkSum_c67_54
    have e2 : nI n &&& 1 = nI (n % 2) := by rw [show nI n &&& 1 = nI (n &&& 1) from zln_a n 1, Nat.and_one_is_mod]
    rw [if_neg (mt (zc_le (k := 8) (by decide) (by omega)).mp (by omega)), e2, zln_s (by omega), nI_1]
    have := ih (i + 1) N (zln_n n) (by omega) (by omega) (zln_nl hn)
    by_cases z : n % 2 = 1
    · rw [if_neg (fun q => by have := (zc_eq (k := 0) (by decide) (by omega)).mp q; omega), show nI (n / 2) ^^^ 40961 = nI (n / 2 ^^^ 40961) from zln_x _ 40961]
      rw [show zln_n n = n / 2 ^^^ 40961 from if_pos z] at this
      rw [this, show zln_k (m + 1) n = zln_k m (zln_n n) from rfl, show zln_n n = n / 2 ^^^ 40961 from if_pos z]
    · rw [if_pos (by rw [show n % 2 = 0 by omega]; rfl)]
      rw [show zln_n n = n / 2 from if_neg z] at this
      rw [this, show zln_k (m + 1) n = zln_k m (zln_n n) from rfl, show zln_n n = n / 2 from if_neg z]
theorem zln_O5 {h : zs_H} {b : Nat → Nat} {n : Nat} (hn : n ≤ 256) (hb : ∀ i, b i < 256) (hT : ∀ i, i < n → (h.2.1 67) i &&& 255 = nI (b i)) : ∀ (m i N : Nat), i + m = n → m < N → f_Ln_checkSum_c67_L5 h N (nI n) (nI (zln_c b i)) (nI i) = some (nI (zln_c b n)) := by
  have hz := zF_big
  intro m
  induction m with
  | zero =>
    intro i N hi hN
    obtain ⟨N, rfl⟩ : ∃ z, N = z + 1 := ⟨N - 1, by omega⟩
    show f_Ln_checkSum_c67_5 h (f_Ln_checkSum_c67_L5 h N) (nI n) (nI (zln_c b i)) (nI i) = _
    unfold f_Ln_checkSum_c67_5
    have e : i = n := hi
    subst e
    rw [if_pos ((nI_leI (by omega) (by omega)).mpr (Nat.le_refl _))]
  | succ m ih =>
    intro i N hi hN
    obtain ⟨N, rfl⟩ : ∃ z, N = z + 1 := ⟨N - 1, by omega⟩
    show f_Ln_checkSum_c67_5 h (f_Ln_checkSum_c67_L5 h N) (nI n) (nI (zln_c b i)) (nI i) = _
    unfold f_Ln_checkSum_c67_5
    have hc := zln_cl hb i
    rw [if_neg (mt (nI_leI (by omega) (by omega)).mp (by omega)), if_neg (mt (zc_le (k := 256) (by decide) (by omega)).mp (by omega)), if_pos (zi_in (by omega) (show i < 256 by omega)), nI_clamp (by omega), hT i (by omega), zln_x]
    have := zln_O29 (h := h) (k5 := f_Ln_checkSum_c67_L5 h N) (x1 := nI n) (x3 := nI i) 8 0 zF (zln_c b i ^^^ b i) (by omega) (by omega) (Nat.xor_lt_two_pow (n := 16) hc (Nat.lt_trans (hb i) (by decide)))
    refine Eq.trans this ?_
    rw [nI_1]
    exact ih (i + 1) N (by omega) (by omega)
