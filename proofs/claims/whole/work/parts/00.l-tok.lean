/-! The class's tokens: bytes, blanks, digits. -/
theorem zm_char {k : Nat} (hk : k < 65536) : vp_nar .char (((nI k).toUInt32 % 65536).toInt32) = nI k := by
  rw [vp_nar_char]
  apply Int32.toBitVec_inj.mp
  apply BitVec.eq_of_toNat_eq
  have e1 : (nI k).toBitVec.toNat = k := by
    show (BitVec.ofNat 32 k).toNat = k
    rw [BitVec.toNat_ofNat, Nat.mod_eq_of_lt (by omega)]
  show ((((nI k).toBitVec % 65536#32).setWidth 16).setWidth 32).toNat = (nI k).toBitVec.toNat
  rw [BitVec.toNat_setWidth, BitVec.toNat_setWidth, BitVec.toNat_umod, e1]
  show k % 65536 % 2 ^ 16 % 2 ^ 32 = k
  rw [Nat.mod_eq_of_lt hk, Nat.mod_eq_of_lt (by omega), Nat.mod_eq_of_lt (by omega)]
theorem zl_raw {v : Int32} {m : Nat} (hv : zb_ok v) (hm : m < 128) : v = nI m ↔ v &&& 255 = nI m := by
  obtain ⟨k, hk, e1, e2, e3⟩ := zl_byte hv
  rw [e1]
  constructor
  · intro q
    have h0 : 0 ≤ v := by rw [q]; exact nI_pos' (by omega)
    rw [← e2 h0]; exact q
  · intro q
    have ek := (nI_eq (by omega) (by omega)).mp q
    by_cases c : v < 0
    · have := e3 c; omega
    · rw [e2 (Int32.not_lt.mp c), q]
theorem zl_rawP {v : Int32} (hv : zb_ok v) : f_Nm_isPart v = f_Nm_isPart (v &&& 255) := by
  obtain ⟨k, hk, e1, e2, e3⟩ := zl_byte hv
  by_cases c : v < 0
  · have h1 := e3 c
    have h2 : (128 : Int32) ≤ nI k := (zc_le (by decide) (by omega)).mpr h1
    rw [e1]
    grind [f_Nm_isPart, f_Nm_isLetter, f_Nm_isLetter_12, f_Nm_isLetter_24]
  · rw [e1, ← e2 (Int32.not_lt.mp c)]
theorem zl_rawG {v : Int32} (hv : zb_ok v) (hp : ¬ f_Nm_isPart v = 0) : f_Nm_great v = f_Nm_great (v &&& 255) := by
  obtain ⟨k, hk, e1, e2, e3⟩ := zl_byte hv
  by_cases c : v < 0
  · exfalso
    grind [f_Nm_isPart, f_Nm_isLetter, f_Nm_isLetter_12, f_Nm_isLetter_24]
  · rw [e1, ← e2 (Int32.not_lt.mp c)]
theorem zl_rawD {v : Int32} (hv : zb_ok v) : f_Tk_digit v = f_Mo_digit (f_Nm_great (v &&& 255)) := by
  have key : ∀ j, j < 256 → f_Tk_digit (nI j - 128) = f_Mo_digit (f_Nm_great ((nI j - 128) &&& 255)) := by decide +kernel
  have e : v = nI (v.toInt + 128).toNat - 128 := by
    apply Int32.toInt_inj.mp
    have h1 := hv.1
    have h2 := hv.2
    have e1 : (nI (v.toInt + 128).toNat).toInt = v.toInt + 128 := by rw [nI_toInt (by omega)]; omega
    rw [za_sub (by rw [e1]; show _ ≤ _ - (128 : Int); omega) (by rw [e1]; show _ - (128 : Int) < _; omega), e1]
    show _ = _ - (128 : Int)
    omega
  have h1 := hv.1
  have h2 := hv.2
  have q := key (v.toInt + 128).toNat (by omega)
  rwa [← e] at q
/-- the class's text -/
def zl_Y (h : zs_H) (T : Nat → Int32) (n : Nat) : Prop := (h.1 8 6) = nI n ∧ n ≤ 16384 ∧ ¬ (h.1 8 5) = 0 ∧ (∀ i, zb_ok (T i)) ∧ (h.2.1 1) = T
theorem zl_peek {h : zs_H} {T : Nat → Int32} {n i : Nat} (H : zl_Y h T n) (hi : i < 2147483648) : f_Tk_peek h (nI i) = some (zl_b T n i) := by
  obtain ⟨H1, hn, H3, H4, H5⟩ := H
  unfold f_Tk_peek zl_b
  rw [if_neg (nI_pos hi), H1, if_neg H3, H5]
  by_cases c : i < n
  · rw [if_neg (mt (nI_leI (by omega) hi).mp (by omega)), if_pos (zi_in hi (by omega)), nI_clamp hi, if_pos c]
  · rw [if_pos ((nI_leI (by omega) hi).mpr (by omega)), if_neg c]
theorem zl_bT {T : Nat → Int32} {n i : Nat} (h : i < n) : zl_b T n i = T i &&& 255 := if_pos h
theorem zl_re {h : zs_H} {T : Nat → Int32} {n : Nat} (H : zl_Y h T n) : ∀ m k fuel, n ≤ k + m → m < fuel → k < 20000 → f_Tk_remarkEnd_L2 h fuel (nI k) = some (if n ≤ zl_cm T n k then -1 else nI (zl_cm T n k + 2)) := by
  obtain ⟨H1, hn, H3, H4, H5⟩ := H
  intro m
  induction m with
  | zero =>
    intro k fuel h1 h2 h3
    obtain ⟨f, rfl⟩ : ∃ f, fuel = f + 1 := ⟨fuel - 1, by omega⟩
    show f_Tk_remarkEnd_2 h (f_Tk_remarkEnd_L2 h f) (nI k) = _
    unfold f_Tk_remarkEnd_2
    rw [H1, nI_1, if_pos ((nI_leI (by omega) (by omega)).mpr (by omega)), if_pos]
    unfold zl_cm
    rw [zl_run_0 _ _ _ (zl_cp_hi (by omega))]; omega
  | succ m ih =>
    intro k fuel h1 h2 h3
    obtain ⟨f, rfl⟩ : ∃ f, fuel = f + 1 := ⟨fuel - 1, by omega⟩
    show f_Tk_remarkEnd_2 h (f_Tk_remarkEnd_L2 h f) (nI k) = _
    unfold f_Tk_remarkEnd_2
    rw [H1, nI_1, H5]
    by_cases c : n ≤ k + 1
    · rw [if_pos ((nI_leI (by omega) (by omega)).mpr c), if_pos]
      unfold zl_cm
      by_cases c1 : n ≤ k
      · rw [zl_run_0 _ _ _ (zl_cp_hi c1)]; exact c1
      · have hc : zl_cp T n k = true := by
          unfold zl_cp
          rw [zl_b_hi (i := k + 1) (by omega), decide_eq_true (show k < n by omega)]
          simp
        rw [zl_run_1 _ _ _ hc (by omega), zl_run_0 _ _ _ (zl_cp_hi (by omega))]; omega
    · have b1 : T k = 42 ↔ zl_b T n k = 42 := by rw [zl_bT (by omega)]; exact zl_raw (m := 42) (H4 k) (by decide)
      have b2 : T (k + 1) = 41 ↔ zl_b T n (k + 1) = 41 := by rw [zl_bT (by omega)]; exact zl_raw (m := 41) (H4 (k + 1)) (by decide)
      rw [if_neg (mt (nI_leI (by omega) (by omega)).mp c), if_neg H3, if_pos (zi_in (by omega) (by omega)), if_pos (zi_in (by omega) (by omega)), nI_clamp (by omega), nI_clamp (by omega)]
      have hg : zl_cp T n k = true → f_Tk_remarkEnd_40 h (f_Tk_remarkEnd_L2 h f) (nI k) = some (if n ≤ zl_cm T n k then -1 else nI (zl_cm T n k + 2)) := by
        intro hc
        unfold f_Tk_remarkEnd_40
        rw [nI_1, ih (k + 1) f (by omega) (by omega) (by omega)]
        unfold zl_cm
        rw [zl_run_1 _ _ _ hc (by omega)]
      by_cases c1 : T k = 42
      · rw [if_pos c1]
        by_cases c2 : T (k + 1) = 41
        · have e : zl_cm T n k = k := zl_run_0 _ _ _ (by unfold zl_cp; rw [b1.mp c1, b2.mp c2]; simp)
          rw [if_pos c2, e, if_neg (by omega), show nI k + 2 = nI (k + 2) from nI_add k 2]
        · rw [if_neg c2, hg (by unfold zl_cp; simp [mt b2.mpr c2]; omega)]
      · rw [if_neg c1, hg (by unfold zl_cp; simp [mt b1.mpr c1]; omega)]
theorem zl_remark {h : zs_H} {T : Nat → Int32} {n k : Nat} (H : zl_Y h T n) (hk : k < 20000) : f_Tk_remarkEnd h (nI k) = some (if n ≤ zl_cm T n k then -1 else nI (zl_cm T n k + 2)) :=
  zl_re H 20000 k zF (by have := H.2.1; omega) (by have := zF_big; omega) hk
theorem zl_sb {h : zs_H} {T : Nat → Int32} {n : Nat} (H : zl_Y h T n) : ∀ f i t fuel, n ≤ i + f → f < fuel → t ≤ i → i ≤ n → f_Tk_skipBlanks_L2 fuel (zs_uF h 8 7 (nI i)) (nI t) = if (zl_sk T n f i).2 = true then some (1, zs_uF h 8 7 (nI (zl_sk T n f i).1)) else (zd_B (f_Tk_refuse (zs_uF h 8 7 (nI (zl_sk T n f i).1)) 2) fun v16 h17 => (some (v16, h17))) := by
  have hn := H.2.1
  intro f
  induction f with
  | zero =>
    intro i t fuel h1 h2 h3 h4
    obtain ⟨z, rfl⟩ : ∃ z, fuel = z + 1 := ⟨fuel - 1, by omega⟩
    show f_Tk_skipBlanks_2 (f_Tk_skipBlanks_L2 z) _ _ = _
    unfold f_Tk_skipBlanks_2 zl_sk
    rw [if_neg (mt (zc_lt (k := 16384) (t := t) (by decide) (by omega)).mp (by omega)), show (zs_uF h 8 7 (nI i)).1 8 7 = nI i from rfl, zl_peek (h := zs_uF h 8 7 (nI i)) (T := T) (n := n) H (by omega), zl_b_hi (by omega)]
    rfl
  | succ f ih =>
    intro i t fuel h1 h2 h3 h4
    obtain ⟨z, rfl⟩ : ∃ z, fuel = z + 1 := ⟨fuel - 1, by omega⟩
    show f_Tk_skipBlanks_2 (f_Tk_skipBlanks_L2 z) _ _ = _
    unfold f_Tk_skipBlanks_2
    rw [if_neg (mt (zc_lt (k := 16384) (t := t) (by decide) (by omega)).mp (by omega)), show (zs_uF h 8 7 (nI i)).1 8 7 = nI i from rfl, zl_peek (h := zs_uF h 8 7 (nI i)) (T := T) (n := n) H (by omega)]
    simp only [Option.bind_some]
    by_cases c : n ≤ i
    · rw [zl_sk_a c, zl_b_hi c]; rfl
    have h42 : f_Tk_skipBlanks_42 (f_Tk_skipBlanks_L2 z) (zs_uF h 8 7 (nI i)) (nI t) = f_Tk_skipBlanks_L2 z (zs_uF h 8 7 (nI (i + 1))) (nI (t + 1)) := by
      unfold f_Tk_skipBlanks_42 f_Tk_skipBlanks_108
      rw [show (zs_uF h 8 7 (nI i)).1 8 7 = nI i from rfl, nI_1, nI_1, zu_c]
    by_cases c2 : zl_bl (zl_b T n i) = true
    · rw [zl_sk_b c c2, h42, ih (i + 1) (t + 1) z (by omega) (by omega) (by omega) (by omega)]
      have c3 : zl_b T n i = 9 ∨ zl_b T n i = 10 ∨ zl_b T n i = 13 ∨ zl_b T n i = 32 := by simpa [zl_bl] using c2
      generalize (if (zl_sk T n f (i + 1)).2 = true then some (1, zs_uF h 8 7 (nI (zl_sk T n f (i + 1)).1)) else (zd_B (f_Tk_refuse (zs_uF h 8 7 (nI (zl_sk T n f (i + 1)).1)) 2) fun v16 h17 => (some (v16, h17)))) = Q
      rcases c3 with c3 | c3 | c3 | c3 <;> rw [c3] <;> rfl
    · have c3 : ¬ zl_b T n i = 9 ∧ ¬ zl_b T n i = 10 ∧ ¬ zl_b T n i = 13 ∧ ¬ zl_b T n i = 32 := by simpa [zl_bl] using c2
      rw [if_neg c3.1, if_neg c3.2.1, if_neg c3.2.2.1, if_neg c3.2.2.2]
      by_cases c4 : zl_b T n i = 40
      · rw [if_pos c4, nI_1, zl_peek (h := zs_uF h 8 7 (nI i)) (T := T) (n := n) H (by omega)]
        simp only [Option.bind_some]
        by_cases c5 : zl_b T n (i + 1) = 42
        · rw [if_pos c5, show nI i + 2 = nI (i + 2) from nI_add i 2, zl_remark (h := zs_uF h 8 7 (nI i)) (T := T) (n := n) H (by omega)]
          simp only [Option.bind_some]
          by_cases c6 : n ≤ zl_cm T n (i + 2)
          · rw [if_pos c6, if_pos rfl, zl_sk_c c c2 ⟨c4, c5⟩ c6]; rfl
          · have h7 := zl_cm_lt c6
            have h8 : i + 2 ≤ zl_cm T n (i + 2) := zl_run_ge _ _ _
            rw [if_neg c6, if_neg (zc_m1 (by omega)), zl_sk_d c c2 ⟨c4, c5⟩ c6]
            unfold f_Tk_skipBlanks_108
            rw [nI_1, zu_c]
            exact ih _ (t + 1) z (by omega) (by omega) (by omega) (by omega)
        · rw [if_neg c5, zl_sk_e c c2 (fun q => c5 q.2)]; rfl
      · rw [if_neg c4, zl_sk_e c c2 (fun q => c4 q.1)]; rfl
theorem zl_skipBlanks {h : zs_H} {T : Nat → Int32} {n i : Nat} (H : zl_Y h T n) (Hi : (h.1 8 7) = nI i) (hi : i ≤ n) : f_Tk_skipBlanks h = if (zl_sk T n (n - i) i).2 = true then some (1, zs_uF h 8 7 (nI (zl_sk T n (n - i) i).1)) else (zd_B (f_Tk_refuse (zs_uF h 8 7 (nI (zl_sk T n (n - i) i).1)) 2) fun v16 h17 => (some (v16, h17))) := by
  have q := zl_sb H (n - i) i 0 zF (by omega) (by have := zF_big; have := H.2.1; omega) (by omega) hi
  rw [zu_s Hi] at q
  exact q
theorem zl_de {h : zs_H} {T : Nat → Int32} {n base : Nat} (H : zl_Y h T n) (hb : base ≤ 16) : ∀ m i fuel, n ≤ i + m → m < fuel → i ≤ n + 3 → f_Tk_digitsEnd_L2 h fuel (nI base) (nI i) = some (nI (zl_run (zl_dp T n base) m i)) := by
  obtain ⟨H1, hn, H3, H4, H5⟩ := H
  intro m
  induction m with
  | zero =>
    intro i fuel h1 h2 h3
    obtain ⟨f, rfl⟩ : ∃ f, fuel = f + 1 := ⟨fuel - 1, by omega⟩
    show f_Tk_digitsEnd_2 h (f_Tk_digitsEnd_L2 h f) _ _ = _
    unfold f_Tk_digitsEnd_2
    rw [H1, if_pos ((nI_leI (by omega) (by omega)).mpr (by omega))]; rfl
  | succ m ih =>
    intro i fuel h1 h2 h3
    obtain ⟨f, rfl⟩ : ∃ f, fuel = f + 1 := ⟨fuel - 1, by omega⟩
    show f_Tk_digitsEnd_2 h (f_Tk_digitsEnd_L2 h f) _ _ = _
    unfold f_Tk_digitsEnd_2
    rw [H1, H5]
    by_cases c : n ≤ i
    · rw [if_pos ((nI_leI (by omega) (by omega)).mpr c), zl_run_0 _ _ _ (zl_dp_hi hb c)]
    · rw [if_neg (mt (nI_leI (by omega) (by omega)).mp c), if_neg H3, if_pos (zi_in (by omega) (by omega)), nI_clamp (by omega), zl_rawD (H4 i), nI_1]
      have e1 : f_Nm_great (T i &&& 255) = zl_g T n i := by unfold zl_g; rw [zl_bT (by omega)]
      rw [e1]
      by_cases c1 : zl_dp T n base i = true
      · rw [if_neg (Int32.not_le.mpr (of_decide_eq_true c1)), ih (i + 1) f (by omega) (by omega) (by omega)]
        congr 2
        show _ = if _ then _ else _
        rw [if_pos c1]
      · have c1' : zl_dp T n base i = false := by simpa using c1
        rw [if_pos (Int32.not_lt.mp (of_decide_eq_false c1')), zl_run_0 _ _ _ c1']
theorem zl_digitsEnd {h : zs_H} {T : Nat → Int32} {n base i : Nat} (H : zl_Y h T n) (hb : base ≤ 16) (hi : i ≤ n + 3) : f_Tk_digitsEnd h (nI i) (nI base) = some (nI (zl_dr T n base i)) :=
  zl_de H hb (n - i) i zF (by omega) (by have := zF_big; have := H.2.1; omega) hi
def zl_M3 : Nat := 8589934592
theorem zl_minl {a b : Nat} (ha : a < 9223372036854775808) (hb : b < 9223372036854775808) : zd_minl (lN a) (lN b) = lN (min a b) := by
  unfold zd_minl
  by_cases c : b < a
  · rw [if_pos ((zj_lt hb ha).mpr c), Nat.min_eq_right (by omega)]
  · rw [if_neg (mt (zj_lt hb ha).mp c), Nat.min_eq_left (by omega)]
theorem zl_min3 {v base d : Nat} (hb : 1 ≤ base) : min (min v zl_M3 * base + d) zl_M3 = min (v * base + d) zl_M3 := by
  by_cases c : v ≤ zl_M3
  · rw [Nat.min_eq_left c]
  · have h1 : min v zl_M3 = zl_M3 := Nat.min_eq_right (by omega)
    rw [h1]
    have h2 : zl_M3 ≤ zl_M3 * base := Nat.le_mul_of_pos_right _ hb
    have h3 : zl_M3 * base ≤ v * base := Nat.mul_le_mul_right _ (by omega)
    rw [Nat.min_eq_right (by omega), Nat.min_eq_right (by omega)]
theorem zl_me {h : zs_H} {T : Nat → Int32} {n base s e : Nat} (H : zl_Y h T n) (hb : 1 ≤ base) (hb' : base ≤ 16) (he : e ≤ n) : ∀ m k fuel, e - s = k + m → m < fuel → f_Tk_meaning_L6 h fuel (nI e) (nI base) (lN (min (zl_vl T n base s k) zl_M3)) (nI (s + k)) = some (lN (min (zl_vl T n base s (e - s)) zl_M3)) ∨ e < s + k := by
  obtain ⟨H1, hn, H3, H4, H5⟩ := H
  intro m
  induction m with
  | zero =>
    intro k fuel h1 h2
    obtain ⟨f, rfl⟩ : ∃ f, fuel = f + 1 := ⟨fuel - 1, by omega⟩
    by_cases c : e < s + k
    · exact Or.inr c
    · refine Or.inl ?_
      show f_Tk_meaning_6 h (f_Tk_meaning_L6 h f) _ _ _ _ = _
      unfold f_Tk_meaning_6
      rw [if_pos ((nI_leI (by omega) (by omega)).mpr (by omega)), show e - s = k by omega]
  | succ m ih =>
    intro k fuel h1 h2
    obtain ⟨f, rfl⟩ : ∃ f, fuel = f + 1 := ⟨fuel - 1, by omega⟩
    refine Or.inl ?_
    show f_Tk_meaning_6 h (f_Tk_meaning_L6 h f) _ _ _ _ = _
    unfold f_Tk_meaning_6
    have hd := zl_dn T n (s + k)
    have e1 : f_Nm_great (T (s + k) &&& 255) = zl_g T n (s + k) := by unfold zl_g; rw [zl_bT (by omega)]
    have hM : zl_M3 = 8589934592 := rfl
    have h5 := Nat.min_le_right (zl_vl T n base s k) zl_M3
    have h6 : min (zl_vl T n base s k) zl_M3 * base ≤ 8589934592 * 16 := Nat.mul_le_mul (by omega) hb'
    rw [if_neg (mt (nI_leI (by omega) (by omega)).mp (by omega)), H1, if_neg (mt (nI_leI (by omega) (by omega)).mp (by omega)), if_neg H3, if_pos (zi_in (a := s + k) (by omega) (by omega)), nI_clamp (by omega), H5, zl_rawD (H4 (s + k)), e1, hd.1, nI_l (by omega), nI_l (by omega), lN_mul, lN_add, nI_1, show (8589934592 : Int64) = lN zl_M3 from rfl, zl_minl (by omega) (by omega), zl_min3 hb]
    exact (ih (k + 1) f (by omega) (by omega)).resolve_right (by omega)
theorem zl_meaning {h : zs_H} {T : Nat → Int32} {n base s e : Nat} (H : zl_Y h T n) (hb : 1 ≤ base) (hb' : base ≤ 16) (he : e ≤ n) (hs : s ≤ e) : f_Tk_meaning h (nI s) (nI e) (nI base) = some (lN (min (zl_vl T n base s (e - s)) zl_M3)) := by
  have q := (zl_me (s := s) H hb hb' he (e - s) 0 zF (by omega) (by have := zF_big; have := H.2.1; omega)).resolve_right (by omega)
  exact q
