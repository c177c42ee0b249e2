section
/-! The class's tokens: bytes, blanks, digits. -/
theorem zm_char {k : Nat} (hk : k < 65536) : vp_nar .char (((nI k).toUInt32 % 65536).toInt32) = nI k := by
  rw [vp_nar_char]
  apply Int32.toBitVec_inj.mp
  apply BitVec.eq_of_toNat_eq
  have e1 : (nI k).toBitVec.toNat = k := by
    show (BitVec.ofNat 32 k).toNat = k
    rw [BitVec.toNat_ofNat, Nat.mod_eq_of_lt (by omega)]
  show ((((nI k).toBitVec % 65536#32).setWidth 16).setWidth 32).toNat = (nI k).toBitVec.toNat
  rw [BitVec.toNat_setWidth, BitVec.toNat_setWidth, BitVec.toNat_umod, e1]
  show k % 65536 % 2 ^ 16 % 2 ^ 32 = k
  rw [Nat.mod_eq_of_lt hk, Nat.mod_eq_of_lt (by omega), Nat.mod_eq_of_lt (by omega)]
theorem zl_raw {v : Int32} {m : Nat} (hv : zb_ok v) (hm : m < 128) : v = nI m ↔ v &&& 255 = nI m := by
  obtain ⟨k, hk, e1, e2, e3⟩ := zl_byte hv
  rw [e1]
  constructor
  · intro q
    have h0 : 0 ≤ v := by rw [q]; exact nI_pos' (by omega)
    rw [← e2 h0]; exact q
  · intro q
    have ek := (nI_eq (by omega) (by omega)).mp q
    by_cases c : v < 0
    · have := e3 c; omega
    · rw [e2 (Int32.not_lt.mp c), q]
theorem zl_rawP {v : Int32} (hv : zb_ok v) : f_Nm_isPart v = f_Nm_isPart (v &&& 255) := by
  obtain ⟨k, hk, e1, e2, e3⟩ := zl_byte hv
  by_cases c : v < 0
  · have h1 := e3 c
    have h2 : (128 : Int32) ≤ nI k := (zc_le (by decide) (by omega)).mpr h1
    rw [e1]
    grind [f_Nm_isPart, f_Nm_isLetter, f_Nm_isLetter_12, f_Nm_isLetter_24]
  · rw [e1, ← e2 (Int32.not_lt.mp c)]
theorem zl_rawG {v : Int32} (hv : zb_ok v) (hp : ¬ f_Nm_isPart v = 0) : f_Nm_great v = f_Nm_great (v &&& 255) := by
  obtain ⟨k, hk, e1, e2, e3⟩ := zl_byte hv
  by_cases c : v < 0
  · exfalso
    grind [f_Nm_isPart, f_Nm_isLetter, f_Nm_isLetter_12, f_Nm_isLetter_24]
  · rw [e1, ← e2 (Int32.not_lt.mp c)]
theorem zl_rawD {v : Int32} (hv : zb_ok v) : f_Tk_digit v = f_Mo_digit (f_Nm_great (v &&& 255)) := by
  have key : ∀ j, j < 256 → f_Tk_digit (nI j - 128) = f_Mo_digit (f_Nm_great ((nI j - 128) &&& 255)) := by decide +kernel
  have e : v = nI (v.toInt + 128).toNat - 128 := by
    apply Int32.toInt_inj.mp
    have h1 := hv.1
    have h2 := hv.2
    have e1 : (nI (v.toInt + 128).toNat).toInt = v.toInt + 128 := by rw [nI_toInt (by omega)]; omega
    rw [za_sub (by rw [e1]; show _ ≤ _ - (128 : Int); omega) (by rw [e1]; show _ - (128 : Int) < _; omega), e1]
    show _ = _ - (128 : Int)
    omega
  have h1 := hv.1
  have h2 := hv.2
  have q := key (v.toInt + 128).toNat (by omega)
  rwa [← e] at q
/-- the class's text -/
def zl_Y (h : zs_H) (T : Nat → Int32) (n : Nat) : Prop := (h.1 8 6) = nI n ∧ n ≤ 16384 ∧ ¬ (h.1 8 5) = 0 ∧ (∀ i, zb_ok (T i)) ∧ (h.2.1 1) = T
theorem zl_peek {h : zs_H} {T : Nat → Int32} {n i : Nat} (H : zl_Y h T n) (hi : i < 2147483648) : f_Tk_peek h (nI i) = some (zl_b T n i) := by
  obtain ⟨H1, hn, H3, H4, H5⟩ := H
  unfold f_Tk_peek zl_b
  rw [if_neg (nI_pos hi), H1, if_neg H3, H5]
  by_cases c : i < n
  · rw [if_neg (mt (nI_leI (by omega) hi).mp (by omega)), if_pos (zi_in hi (by omega)), nI_clamp hi, if_pos c]
  · rw [if_pos ((nI_leI (by omega) hi).mpr (by omega)), if_neg c]
theorem zl_bT {T : Nat → Int32} {n i : Nat} (h : i < n) : zl_b T n i = T i &&& 255 := if_pos h
theorem zl_re {h : zs_H} {T : Nat → Int32} {n : Nat} (H : zl_Y h T n) : ∀ m k fuel, n ≤ k + m → m < fuel → k < 20000 → f_Tk_remarkEnd_L2 h fuel (nI k) = some (if n ≤ zl_cm T n k then -1 else nI (zl_cm T n k + 2)) := by
  obtain ⟨H1, hn, H3, H4, H5⟩ := H
  intro m
  induction m with
  | zero =>
    intro k fuel h1 h2 h3
    obtain ⟨f, rfl⟩ : ∃ f, fuel = f + 1 := ⟨fuel - 1, by omega⟩
    show f_Tk_remarkEnd_2 h (f_Tk_remarkEnd_L2 h f) (nI k) = _
    unfold f_Tk_remarkEnd_2
    rw [H1, nI_1, if_pos ((nI_leI (by omega) (by omega)).mpr (by omega)), if_pos]
    unfold zl_cm
    rw [zl_run_0 _ _ _ (zl_cp_hi (by omega))]; omega
  | succ m ih =>
    intro k fuel h1 h2 h3
    obtain ⟨f, rfl⟩ : ∃ f, fuel = f + 1 := ⟨fuel - 1, by omega⟩
    show f_Tk_remarkEnd_2 h (f_Tk_remarkEnd_L2 h f) (nI k) = _
    unfold f_Tk_remarkEnd_2
    rw [H1, nI_1, H5]
    by_cases c : n ≤ k + 1
    · rw [if_pos ((nI_leI (by omega) (by omega)).mpr c), if_pos]
      unfold zl_cm
      by_cases c1 : n ≤ k
      · rw [zl_run_0 _ _ _ (zl_cp_hi c1)]; exact c1
      · have hc : zl_cp T n k = true := by
          unfold zl_cp
          rw [zl_b_hi (i := k + 1) (by omega), decide_eq_true (show k < n by omega)]
          simp
        rw [zl_run_1 _ _ _ hc (by omega), zl_run_0 _ _ _ (zl_cp_hi (by omega))]; omega
    · have b1 : T k = 42 ↔ zl_b T n k = 42 := by rw [zl_bT (by omega)]; exact zl_raw (m := 42) (H4 k) (by decide)
      have b2 : T (k + 1) = 41 ↔ zl_b T n (k + 1) = 41 := by rw [zl_bT (by omega)]; exact zl_raw (m := 41) (H4 (k + 1)) (by decide)
      rw [if_neg (mt (nI_leI (by omega) (by omega)).mp c), if_neg H3, if_pos (zi_in (by omega) (by omega)), if_pos (zi_in (by omega) (by omega)), nI_clamp (by omega), nI_clamp (by omega)]
      have hg : zl_cp T n k = true → f_Tk_remarkEnd_40 h (f_Tk_remarkEnd_L2 h f) (nI k) = some (if n ≤ zl_cm T n k then -1 else nI (zl_cm T n k + 2)) := by
        intro hc
        unfold f_Tk_remarkEnd_40
        rw [nI_1, ih (k + 1) f (by omega) (by omega) (by omega)]
        unfold zl_cm
        rw [zl_run_1 _ _ _ hc (by omega)]
      by_cases c1 : T k = 42
      · rw [if_pos c1]
        by_cases c2 : T (k + 1) = 41
        · have e : zl_cm T n k = k := zl_run_0 _ _ _ (by unfold zl_cp; rw [b1.mp c1, b2.mp c2]; simp)
          rw [if_pos c2, e, if_neg (by omega), show nI k + 2 = nI (k + 2) from nI_add k 2]
        · rw [if_neg c2, hg (by unfold zl_cp; simp [mt b2.mpr c2]; omega)]
      · rw [if_neg c1, hg (by unfold zl_cp; simp [mt b1.mpr c1]; omega)]
theorem zl_remark {h : zs_H} {T : Nat → Int32} {n k : Nat} (H : zl_Y h T n) (hk : k < 20000) : f_Tk_remarkEnd h (nI k) = some (if n ≤ zl_cm T n k then -1 else nI (zl_cm T n k + 2)) :=
  zl_re H 20000 k zF (by have := H.2.1; omega) (by have := zF_big; omega) hk
theorem zl_sb {h : zs_H} {T : Nat → Int32} {n : Nat} (H : zl_Y h T n) : ∀ f i t fuel, n ≤ i + f → f < fuel → t ≤ i → i ≤ n → f_Tk_skipBlanks_L2 fuel (zs_uF h 8 7 (nI i)) (nI t) = if (zl_sk T n f i).2 = true then some (1, zs_uF h 8 7 (nI (zl_sk T n f i).1)) else (zd_B (f_Tk_refuse (zs_uF h 8 7 (nI (zl_sk T n f i).1)) 2) fun v16 h17 => (some (v16, h17))) := by
  have hn := H.2.1
  intro f
  induction f with
  | zero =>
    intro i t fuel h1 h2 h3 h4
    obtain ⟨z, rfl⟩ : ∃ z, fuel = z + 1 := ⟨fuel - 1, by omega⟩
    show f_Tk_skipBlanks_2 (f_Tk_skipBlanks_L2 z) _ _ = _
    unfold f_Tk_skipBlanks_2 zl_sk
    rw [if_neg (mt (zc_lt (k := 16384) (t := t) (by decide) (by omega)).mp (by omega)), show (zs_uF h 8 7 (nI i)).1 8 7 = nI i from rfl, zl_peek (h := zs_uF h 8 7 (nI i)) (T := T) (n := n) H (by omega), zl_b_hi (by omega)]
    rfl
  | succ f ih =>
    intro i t fuel h1 h2 h3 h4
    obtain ⟨z, rfl⟩ : ∃ z, fuel = z + 1 := ⟨fuel - 1, by omega⟩
    show f_Tk_skipBlanks_2 (f_Tk_skipBlanks_L2 z) _ _ = _
    unfold f_Tk_skipBlanks_2
    rw [if_neg (mt (zc_lt (k := 16384) (t := t) (by decide) (by omega)).mp (by omega)), show (zs_uF h 8 7 (nI i)).1 8 7 = nI i from rfl, zl_peek (h := zs_uF h 8 7 (nI i)) (T := T) (n := n) H (by omega)]
    simp only [Option.bind_some]
    by_cases c : n ≤ i
    · rw [zl_sk_a c, zl_b_hi c]; rfl
    have h42 : f_Tk_skipBlanks_42 (f_Tk_skipBlanks_L2 z) (zs_uF h 8 7 (nI i)) (nI t) = f_Tk_skipBlanks_L2 z (zs_uF h 8 7 (nI (i + 1))) (nI (t + 1)) := by
      unfold f_Tk_skipBlanks_42 f_Tk_skipBlanks_108
      rw [show (zs_uF h 8 7 (nI i)).1 8 7 = nI i from rfl, nI_1, nI_1, zu_c]
    by_cases c2 : zl_bl (zl_b T n i) = true
    · rw [zl_sk_b c c2, h42, ih (i + 1) (t + 1) z (by omega) (by omega) (by omega) (by omega)]
      have c3 : zl_b T n i = 9 ∨ zl_b T n i = 10 ∨ zl_b T n i = 13 ∨ zl_b T n i = 32 := by simpa [zl_bl] using c2
      generalize (if (zl_sk T n f (i + 1)).2 = true then some (1, zs_uF h 8 7 (nI (zl_sk T n f (i + 1)).1)) else (zd_B (f_Tk_refuse (zs_uF h 8 7 (nI (zl_sk T n f (i + 1)).1)) 2) fun v16 h17 => (some (v16, h17)))) = Q
      rcases c3 with c3 | c3 | c3 | c3 <;> rw [c3] <;> rfl
    · have c3 : ¬ zl_b T n i = 9 ∧ ¬ zl_b T n i = 10 ∧ ¬ zl_b T n i = 13 ∧ ¬ zl_b T n i = 32 := by simpa [zl_bl] using c2
      rw [if_neg c3.1, if_neg c3.2.1, if_neg c3.2.2.1, if_neg c3.2.2.2]
      by_cases c4 : zl_b T n i = 40
      · rw [if_pos c4, nI_1, zl_peek (h := zs_uF h 8 7 (nI i)) (T := T) (n := n) H (by omega)]
        simp only [Option.bind_some]
        by_cases c5 : zl_b T n (i + 1) = 42
        · rw [if_pos c5, show nI i + 2 = nI (i + 2) from nI_add i 2, zl_remark (h := zs_uF h 8 7 (nI i)) (T := T) (n := n) H (by omega)]
          simp only [Option.bind_some]
          by_cases c6 : n ≤ zl_cm T n (i + 2)
          · rw [if_pos c6, if_pos rfl, zl_sk_c c c2 ⟨c4, c5⟩ c6]; rfl
          · have h7 := zl_cm_lt c6
            have h8 : i + 2 ≤ zl_cm T n (i + 2) := zl_run_ge _ _ _
            rw [if_neg c6, if_neg (zc_m1 (by omega)), zl_sk_d c c2 ⟨c4, c5⟩ c6]
            unfold f_Tk_skipBlanks_108
            rw [nI_1, zu_c]
            exact ih _ (t + 1) z (by omega) (by omega) (by omega) (by omega)
        · rw [if_neg c5, zl_sk_e c c2 (fun q => c5 q.2)]; rfl
      · rw [if_neg c4, zl_sk_e c c2 (fun q => c4 q.1)]; rfl
theorem zl_skipBlanks {h : zs_H} {T : Nat → Int32} {n i : Nat} (H : zl_Y h T n) (Hi : (h.1 8 7) = nI i) (hi : i ≤ n) : f_Tk_skipBlanks h = if (zl_sk T n (n - i) i).2 = true then some (1, zs_uF h 8 7 (nI (zl_sk T n (n - i) i).1)) else (zd_B (f_Tk_refuse (zs_uF h 8 7 (nI (zl_sk T n (n - i) i).1)) 2) fun v16 h17 => (some (v16, h17))) := by
  have q := zl_sb H (n - i) i 0 zF (by omega) (by have := zF_big; have := H.2.1; omega) (by omega) hi
  rw [zu_s Hi] at q
  exact q
theorem zl_de {h : zs_H} {T : Nat → Int32} {n base : Nat} (H : zl_Y h T n) (hb : base ≤ 16) : ∀ m i fuel, n ≤ i + m → m < fuel → i ≤ n + 3 → f_Tk_digitsEnd_L2 h fuel (nI base) (nI i) = some (nI (zl_run (zl_dp T n base) m i)) := by
  obtain ⟨H1, hn, H3, H4, H5⟩ := H
  intro m
  induction m with
  | zero =>
    intro i fuel h1 h2 h3
    obtain ⟨f, rfl⟩ : ∃ f, fuel = f + 1 := ⟨fuel - 1, by omega⟩
    show f_Tk_digitsEnd_2 h (f_Tk_digitsEnd_L2 h f) _ _ = _
    unfold f_Tk_digitsEnd_2
    rw [H1, if_pos ((nI_leI (by omega) (by omega)).mpr (by omega))]; rfl
  | succ m ih =>
    intro i fuel h1 h2 h3
    obtain ⟨f, rfl⟩ : ∃ f, fuel = f + 1 := ⟨fuel - 1, by omega⟩
    show f_Tk_digitsEnd_2 h (f_Tk_digitsEnd_L2 h f) _ _ = _
    unfold f_Tk_digitsEnd_2
    rw [H1, H5]
    by_cases c : n ≤ i
    · rw [if_pos ((nI_leI (by omega) (by omega)).mpr c), zl_run_0 _ _ _ (zl_dp_hi hb c)]
    · rw [if_neg (mt (nI_leI (by omega) (by omega)).mp c), if_neg H3, if_pos (zi_in (by omega) (by omega)), nI_clamp (by omega), zl_rawD (H4 i), nI_1]
      have e1 : f_Nm_great (T i &&& 255) = zl_g T n i := by unfold zl_g; rw [zl_bT (by omega)]
      rw [e1]
      by_cases c1 : zl_dp T n base i = true
      · rw [if_neg (Int32.not_le.mpr (of_decide_eq_true c1)), ih (i + 1) f (by omega) (by omega) (by omega)]
        congr 2
        show _ = if _ then _ else _
        rw [if_pos c1]
      · have c1' : zl_dp T n base i = false := by simpa using c1
        rw [if_pos (Int32.not_lt.mp (of_decide_eq_false c1')), zl_run_0 _ _ _ c1']
theorem zl_digitsEnd {h : zs_H} {T : Nat → Int32} {n base i : Nat} (H : zl_Y h T n) (hb : base ≤ 16) (hi : i ≤ n + 3) : f_Tk_digitsEnd h (nI i) (nI base) = some (nI (zl_dr T n base i)) :=
  zl_de H hb (n - i) i zF (by omega) (by have := zF_big; have := H.2.1; omega) hi
def zl_M3 : Nat := 8589934592
theorem zl_minl {a b : Nat} (ha : a < 9223372036854775808) (hb : b < 9223372036854775808) : zd_minl (lN a) (lN b) = lN (min a b) := by
  unfold zd_minl
  by_cases c : b < a
  · rw [if_pos ((zj_lt hb ha).mpr c), Nat.min_eq_right (by omega)]
  · rw [if_neg (mt (zj_lt hb ha).mp c), Nat.min_eq_left (by omega)]
theorem zl_min3 {v base d : Nat} (hb : 1 ≤ base) : min (min v zl_M3 * base + d) zl_M3 = min (v * base + d) zl_M3 := by
  by_cases c : v ≤ zl_M3
  · rw [Nat.min_eq_left c]
  · have h1 : min v zl_M3 = zl_M3 := Nat.min_eq_right (by omega)
    rw [h1]
    have h2 : zl_M3 ≤ zl_M3 * base := Nat.le_mul_of_pos_right _ hb
    have h3 : zl_M3 * base ≤ v * base := Nat.mul_le_mul_right _ (by omega)
    rw [Nat.min_eq_right (by omega), Nat.min_eq_right (by omega)]
theorem zl_me {h : zs_H} {T : Nat → Int32} {n base s e : Nat} (H : zl_Y h T n) (hb : 1 ≤ base) (hb' : base ≤ 16) (he : e ≤ n) : ∀ m k fuel, e - s = k + m → m < fuel → f_Tk_meaning_L6 h fuel (nI e) (nI base) (lN (min (zl_vl T n base s k) zl_M3)) (nI (s + k)) = some (lN (min (zl_vl T n base s (e - s)) zl_M3)) ∨ e < s + k := by
  obtain ⟨H1, hn, H3, H4, H5⟩ := H
  intro m
  induction m with
  | zero =>
    intro k fuel h1 h2
    obtain ⟨f, rfl⟩ : ∃ f, fuel = f + 1 := ⟨fuel - 1, by omega⟩
    by_cases c : e < s + k
    · exact Or.inr c
    · refine Or.inl ?_
      show f_Tk_meaning_6 h (f_Tk_meaning_L6 h f) _ _ _ _ = _
      unfold f_Tk_meaning_6
      rw [if_pos ((nI_leI (by omega) (by omega)).mpr (by omega)), show e - s = k by omega]
  | succ m ih =>
    intro k fuel h1 h2
    obtain ⟨f, rfl⟩ : ∃ f, fuel = f + 1 := ⟨fuel - 1, by omega⟩
    refine Or.inl ?_
    show f_Tk_meaning_6 h (f_Tk_meaning_L6 h f) _ _ _ _ = _
    unfold f_Tk_meaning_6
    have hd := zl_dn T n (s + k)
    have e1 : f_Nm_great (T (s + k) &&& 255) = zl_g T n (s + k) := by unfold zl_g; rw [zl_bT (by omega)]
    have hM : zl_M3 = 8589934592 := rfl
    have h5 := Nat.min_le_right (zl_vl T n base s k) zl_M3
    have h6 : min (zl_vl T n base s k) zl_M3 * base ≤ 8589934592 * 16 := Nat.mul_le_mul (by omega) hb'
    rw [if_neg (mt (nI_leI (by omega) (by omega)).mp (by omega)), H1, if_neg (mt (nI_leI (by omega) (by omega)).mp (by omega)), if_neg H3, if_pos (zi_in (a := s + k) (by omega) (by omega)), nI_clamp (by omega), H5, zl_rawD (H4 (s + k)), e1, hd.1, nI_l (by omega), nI_l (by omega), lN_mul, lN_add, nI_1, show (8589934592 : Int64) = lN zl_M3 from rfl, zl_minl (by omega) (by omega), zl_min3 hb]
    exact (ih (k + 1) f (by omega) (by omega)).resolve_right (by omega)
theorem zl_meaning {h : zs_H} {T : Nat → Int32} {n base s e : Nat} (H : zl_Y h T n) (hb : 1 ≤ base) (hb' : base ≤ 16) (he : e ≤ n) (hs : s ≤ e) : f_Tk_meaning h (nI s) (nI e) (nI base) = some (lN (min (zl_vl T n base s (e - s)) zl_M3)) := by
  have q := (zl_me (s := s) H hb hb' he (e - s) 0 zF (by omega) (by have := zF_big; have := H.2.1; omega)).resolve_right (by omega)
  exact q
end
section
/-! The class's tokens: each of them. -/
def zl_ad (h : zs_H) (s : Nat) (k a v : Int32) : zs_H := zs_uF (zs_uM (zs_uM (zs_uM h 9 s k) 10 s a) 11 s v) 8 3 (nI (s + 1))
theorem zl_add {h : zs_H} {s k a : Nat} {v : Int32} (Hs : (h.1 8 3) = nI s) (hs : s < 16385) (hk : k < 65536) (Ha : (h.1 8 7) = nI a) (ha : a < 65536) : f_Tk_add h (nI k) v = some (zl_ad h s (nI k) (nI a) v) := by
  unfold f_Tk_add
  rw [Hs, Ha, if_neg (mt (zc_le (k := 16385) (by decide) (by omega)).mp (by omega)), if_pos (zi_in (by omega) hs), nI_clamp (by omega), zm_char hk, zm_char ha, nI_1]
  rfl
/-- the kind of a token in the class -/
def zl_ck (t : zl_T) : Nat := if t.1 = 0 then 6 else if t.1 = 1 then 8 else if t.1 = 2 then 128 + t.2.2.2 else if t.1 = 3 then 9 else if t.1 = 4 then 10 else if t.1 = 9 then 7 else if t.2.2.2 = 256 then 1 else if t.2.2.2 = 257 then 2 else if t.2.2.2 = 258 then 3 else if t.2.2.2 = 259 then 4 else if t.2.2.2 = 260 then 5 else t.2.2.2
def zl_cv (t : zl_T) (x : Nat) : Nat := if t.1 = 1 ∨ t.1 = 2 then x else if t.1 = 0 ∨ t.1 = 5 then 0 else t.2.2.2
/-- what the class leaves when it has read a token -/
def zl_KT (L : List (List Int32)) (c : List Int32) (s : Nat) (h : zs_H) (t : zl_T) (p : Int32 × zs_H) : Prop :=
  p.1 = (if t.1 = 0 ∨ t.1 = 9 then 0 else 1) ∧ (p.2.1 8 3) = nI (s + 1) ∧ (∀ j, (p.2.2.1 9) j = if j = s then nI (zl_ck t) else (h.2.1 9) j) ∧ (∀ j, (p.2.2.1 10) j = if j = s then nI t.2.1 else (h.2.1 10) j) ∧ (∀ j, (p.2.2.1 11) j = if j = s then nI (zl_cv t (L.idxOf c)) else (h.2.1 11) j) ∧ (¬ (t.1 = 0 ∨ t.1 = 9) → (p.2.1 8 7) = nI t.2.2.1) ∧ zn_C p.2 (if (t.1 = 1 ∨ t.1 = 2) ∧ ¬ c ∈ L then L ++ [c] else L) ∧ zfr [(2, 5), (8, 3), (8, 7)] [4, 5, 6, 7, 9, 10, 11] [] h p.2
theorem zl_adf {h : zs_H} {s : Nat} {k a v : Int32} : zfr [(8, 3)] [9, 10, 11] [] h (zl_ad h s k a v) :=
  zfr_F (by decide) (zfr_M (by decide) (zfr_M (by decide) (zfr_M (by decide) zfr_rfl)))
theorem zl_ada {h : zs_H} {s : Nat} {k a v : Int32} : (∀ j, (zl_ad h s k a v).2.1 9 j = if j = s then k else (h.2.1 9) j) ∧ (∀ j, (zl_ad h s k a v).2.1 10 j = if j = s then a else (h.2.1 10) j) ∧ (∀ j, (zl_ad h s k a v).2.1 11 j = if j = s then v else (h.2.1 11) j) := by
  refine ⟨fun j => ?_, fun j => ?_, fun j => ?_⟩ <;> simp [zl_ad, zu_FM, zu_MM]
/-- a token that is no name -/
theorem zl_KTa {h : zs_H} {n s a : Nat} {t : zl_T} {L : List (List Int32)} {c : List Int32} {v : Int32} (Hs : (h.1 8 3) = nI s) (HL : zn_C h L) (h1 : ¬ (t.1 = 1 ∨ t.1 = 2)) (ha : t.2.1 = a) (hv : v = nI (zl_cv t 0)) :
    ((t.1 = 0 ∨ t.1 = 9) → zl_KT L c s h t (0, zl_ad h s (nI (zl_ck t)) (nI a) v)) ∧ (¬ (t.1 = 0 ∨ t.1 = 9) → zl_KT L c s h t (1, zs_uF (zl_ad h s (nI (zl_ck t)) (nI a) v) 8 7 (nI t.2.2.1))) := by
  have hc : ∀ x, zl_cv t x = zl_cv t 0 := fun x => by unfold zl_cv; rw [if_neg h1, if_neg h1]
  have hL2 : (if (t.1 = 1 ∨ t.1 = 2) ∧ ¬ c ∈ L then L ++ [c] else L) = L := if_neg (fun q => h1 q.1)
  subst ha
  constructor
  · intro q
    refine ⟨(if_pos q).symm, rfl, zl_ada.1, zl_ada.2.1, fun j => ?_, fun z => absurd q z, ?_, zfr_w zl_adf (by decide) (by decide) (by decide)⟩
    · rw [hc, ← hv]; exact zl_ada.2.2 j
    · rw [hL2]; exact zn_C_fr zl_adf (by decide) (by decide) (by decide) (by decide) (by decide) HL
  · intro q
    refine ⟨(if_neg q).symm, rfl, zl_ada.1, zl_ada.2.1, fun j => ?_, fun _ => rfl, ?_, zfr_F (by decide) (zfr_w zl_adf (by decide) (by decide) (by decide))⟩
    · rw [hc, ← hv]; exact zl_ada.2.2 j
    · rw [hL2]; exact zn_C_fr (zfr_F (fs := [(8, 3), (8, 7)]) (by decide) (zfr_w zl_adf (by decide) (fun x q => q) (fun x q => q))) (by decide) (by decide) (by decide) (by decide) (by decide) HL
theorem zl_refuse {h : zs_H} {s a w e : Nat} {L : List (List Int32)} {c : List Int32} (Hs : (h.1 8 3) = nI s) (hs : s < 16385) (Ha : (h.1 8 7) = nI a) (ha : a < 65536) (HL : zn_C h L) : zw (f_Tk_refuse h (nI w)) (zl_KT L c s h (9, a, e, w)) := by
  unfold f_Tk_refuse
  rw [show (7 : Int32) = nI 7 from rfl, zl_add Hs hs (by decide) Ha ha, zw_bind, zw_some, zw_some]
  exact (zl_KTa (n := 0) (t := (9, a, e, w)) Hs HL (by simp) rfl rfl).1 (Or.inr rfl)
theorem zl_finish {h : zs_H} {s a e k v : Nat} {t : zl_T} {L : List (List Int32)} {c : List Int32} (Hs : (h.1 8 3) = nI s) (hs : s < 16385) (Ha : (h.1 8 7) = nI a) (ha : a < 65536) (HL : zn_C h L) (h1 : ¬ (t.1 = 1 ∨ t.1 = 2)) (h2 : ¬ (t.1 = 0 ∨ t.1 = 9)) (ha2 : t.2.1 = a) (he : t.2.2.1 = e) (hk : zl_ck t = k) (hk2 : k < 65536) (hv : zl_cv t 0 = v) : zw (f_Tk_finish h (nI k) (nI e) (nI v)) (zl_KT L c s h t) := by
  unfold f_Tk_finish
  rw [zl_add Hs hs hk2 Ha ha, zw_bind, zw_some, zw_some, ← hk, ← he]
  exact (zl_KTa (n := 0) Hs HL h1 ha2 (by rw [hv])).2 h2
theorem zl_w2 {α : Type} {o : Option (α × zs_H)} {Q : α × zs_H → Prop} (h : zw o Q) : zw (zd_B o fun v g => some (v, g)) Q := by
  rw [zw_B]
  exact zw_mono h fun p q => zw_some.mpr q
theorem zl_finN {h : zs_H} {T : Nat → Int32} {n s a e : Nat} {x : Nat} {L : List (List Int32)} {c : List Int32} (H : zl_Y h T n) (Hs : (h.1 8 3) = nI s) (hs : s < 16385) (Ha : (h.1 8 7) = nI a) (ha : a < 65536) (HL : zn_C h L) (he : e < 65536) {y : Nat} (hy : y < 9223372036854775808) (h1 : x ≤ 2147483647 → y = x) (h2 : y ≤ 2147483647 → y = x) : zw (f_Tk_finishNumber h (nI e) (lN y)) (zl_KT L c s h (zl_fin T n a (some x) e)) := by
  unfold f_Tk_finishNumber f_Tk_finishNumber_19 zl_fin
  rw [zl_peek H (by omega), zw_bind, zw_some]
  show zw (if f_Nm_isPart (zl_b T n e) = 0 then _ else _) (zl_KT L c s h (if x ≤ 2147483647 ∧ zl_pt T n e = false then _ else _))
  by_cases c1 : f_Nm_isPart (zl_b T n e) = 0
  · have p1 : zl_pt T n e = false := by unfold zl_pt; simpa using c1
    rw [if_pos c1]
    by_cases c2 : y ≤ 2147483647
    · have e1 := h2 c2
      subst e1
      rw [if_pos ((zj_el (k := 2147483647) (t := y) (by decide) hy).mpr c2), if_pos (show y ≤ 2147483647 ∧ zl_pt T n e = false from ⟨c2, p1⟩), lN_i]
      exact zl_w2 (zl_finish (k := 9) Hs hs Ha ha HL (by simp) (by simp) rfl rfl rfl (by decide) rfl)
    · rw [if_neg (mt (zj_el (k := 2147483647) (t := y) (by decide) hy).mp c2), if_neg (show ¬ (x ≤ 2147483647 ∧ zl_pt T n e = false) from fun q => c2 (by rw [h1 q.1]; exact q.1))]
      exact zl_w2 (zl_refuse (w := 4) Hs hs Ha ha HL)
  · have p1 : ¬ zl_pt T n e = false := by unfold zl_pt; simpa using c1
    rw [if_neg c1, if_neg (fun q => p1 q.2)]
    exact zl_w2 (zl_refuse (w := 4) Hs hs Ha ha HL)
theorem zl_v3 {v : Nat} : (v ≤ 2147483647 → min v zl_M3 = v) ∧ (min v zl_M3 ≤ 2147483647 → min v zl_M3 = v) ∧ min v zl_M3 < 9223372036854775808 := by
  have hM : zl_M3 = 8589934592 := rfl
  refine ⟨fun h => Nat.min_eq_left (by omega), fun h => ?_, ?_⟩
  · by_cases c : v ≤ zl_M3
    · exact Nat.min_eq_left c
    · rw [Nat.min_eq_right (by omega)] at h; omega
  · have := Nat.min_le_right v zl_M3; omega
theorem zl_dr_n {T : Nat → Int32} {n base s : Nat} (hb : base ≤ 16) (h : s < zl_dr T n base s) : zl_dr T n base s ≤ n := by
  have h1 := zl_run_all (zl_dp T n base) (n - s) s (zl_dr T n base s - 1) (by omega) (by unfold zl_dr at h ⊢; omega)
  refine Nat.le_of_not_lt fun q => ?_
  rw [zl_dp_hi hb (by omega)] at h1
  exact absurd h1 (by decide)
theorem zl_cNumber {h : zs_H} {T : Nat → Int32} {n s a : Nat} {L : List (List Int32)} {c : List Int32} (H : zl_Y h T n) (Hs : (h.1 8 3) = nI s) (hs : s < 16385) (Ha : (h.1 8 7) = nI a) (ha : a < n) (hd : zl_dp T n 10 a = true) (HL : zn_C h L) : zw (f_Tk_readNumber h) (zl_KT L c s h (zl_nb T n a)) := by
  have hn := H.2.1
  have hr1 : a + 1 ≤ zl_dr T n 10 a := by
    unfold zl_dr
    rw [zl_run_1 _ _ _ hd ha]
    exact zl_run_ge _ _ _
  have hr2 := zl_dr_n (T := T) (n := n) (base := 10) (s := a) (by decide) (by omega)
  unfold f_Tk_readNumber zl_nb
  rw [Ha, show (10 : Int32) = nI 10 from rfl, zl_digitsEnd H (by decide) (by omega), zw_bind, zw_some, zl_meaning H (by decide) (by decide) hr2 (by omega), zw_bind, zw_some, zl_peek H (by omega), zw_bind, zw_some]
  generalize hK : zl_vl T n 10 a (zl_dr T n 10 a - a) = v
  generalize hE : zl_dr T n 10 a = e1 at hr1 hr2 ⊢
  have hv := zl_v3 (v := v)
  have hM : zl_M3 = 8589934592 := rfl
  by_cases c1 : zl_b T n e1 = 35
  · rw [if_pos c1, if_pos c1]
    have h16 : (lN (min v zl_M3) = 16 ↔ v = 16) ∧ (lN (min v zl_M3) = 2 ↔ v = 2) := by
      have q1 := zj_eq (a := min v zl_M3) (b := 16) hv.2.2 (by decide)
      have q2 := zj_eq (a := min v zl_M3) (b := 2) hv.2.2 (by decide)
      exact ⟨q1.trans ⟨fun z => by have := hv.2.1 (by omega); omega, fun z => by rw [z]; decide⟩, q2.trans ⟨fun z => by have := hv.2.1 (by omega); omega, fun z => by rw [z]; decide⟩⟩
    by_cases c2 : v = 16 ∨ v = 2
    · have e0 : min v zl_M3 = v := Nat.min_eq_left (by omega)
      have he1 : e1 < n := Nat.lt_of_not_le fun q => by rw [zl_b_hi q] at c1; exact absurd c1 (by decide)
      have h62 : zw (f_Tk_readNumber_62 h (nI e1) (lN v)) (zl_KT L c s h (zl_fin T n a (if zl_dr T n v (e1 + 1) - (e1 + 1) = 0 then none else some (zl_vl T n v (e1 + 1) (zl_dr T n v (e1 + 1) - (e1 + 1)))) (zl_dr T n v (e1 + 1)))) := by
        have hr3 := zl_dr_le (T := T) (n := n) (base := v) (s := e1 + 1) (by omega)
        unfold f_Tk_readNumber_62
        rw [lN_i, nI_1, zl_digitsEnd H (by omega) (by omega), zw_bind, zw_some]
        by_cases c3 : zl_dr T n v (e1 + 1) - (e1 + 1) = 0
        · rw [if_pos (by congr 1; omega), if_pos c3]
          exact zl_w2 (zl_refuse (w := 4) Hs hs Ha (by omega) HL)
        · have hr4 := zl_dr_n (T := T) (n := n) (base := v) (s := e1 + 1) (by omega) (by omega)
          have hv2 := zl_v3 (v := zl_vl T n v (e1 + 1) (zl_dr T n v (e1 + 1) - (e1 + 1)))
          rw [if_neg (fun q => c3 (by have := (nI_eq (by omega) (by omega)).mp q; omega)), if_neg c3, zl_meaning H (by omega) (by omega) hr4 (by omega), zw_bind, zw_some]
          exact zl_w2 (zl_finN H Hs hs Ha (by omega) HL (by omega) hv2.2.2 hv2.1 hv2.2.1)
      rw [if_pos c2, e0]
      rw [e0] at h16
      by_cases c3 : v = 16
      · rw [if_pos (h16.1.mpr c3)]; exact h62
      · rw [if_neg (mt h16.1.mp c3), if_pos (h16.2.mpr (c2.resolve_left c3))]; exact h62
    · rw [if_neg c2, if_neg (mt h16.1.mp (fun q => c2 (Or.inl q))), if_neg (mt h16.2.mp (fun q => c2 (Or.inr q)))]
      exact zl_w2 (zl_refuse (w := 4) Hs hs Ha (by omega) HL)
  · rw [if_neg c1, if_neg c1]
    exact zl_w2 (zl_finN H Hs hs Ha (by omega) HL (by omega) hv.2.2 hv.1 hv.2.1)
theorem zl_cTime {h : zs_H} {T : Nat → Int32} {n s a : Nat} {L : List (List Int32)} {c : List Int32} (H : zl_Y h T n) (Hs : (h.1 8 3) = nI s) (hs : s < 16385) (Ha : (h.1 8 7) = nI a) (ha : a < n) (HL : zn_C h L) : zw (f_Tk_readTime h) (zl_KT L c s h (zl_tm T n a)) := by
  have hn := H.2.1
  have hr := zl_dr_le (T := T) (n := n) (base := 10) (s := a + 2) (by omega)
  unfold f_Tk_readTime zl_tm
  rw [Ha, show nI a + 2 = nI (a + 2) from nI_add a 2, show (10 : Int32) = nI 10 from rfl, zl_digitsEnd H (by decide) (by omega), zw_bind, zw_some, zl_peek H (by omega), zw_bind, zw_some]
  have hr2 := zl_dr_n (T := T) (n := n) (base := 10) (s := a + 2) (by decide)
  generalize hE : zl_dr T n 10 (a + 2) = e1 at hr hr2 ⊢
  have h47 : zw (f_Tk_readTime_47 h) (zl_KT L c s h (zl_fin T n a none (e1 + (if zl_un T n e1 = 1 then 2 else if zl_un T n e1 = 0 then 0 else 1)))) := by
    unfold f_Tk_readTime_47
    exact zl_w2 (zl_refuse (w := 4) Hs hs Ha (by omega) HL)
  by_cases c1 : e1 - (a + 2) = 0
  · rw [if_pos (by congr 1; omega), if_pos (Or.inr c1)]
    exact h47
  · rw [if_neg (fun q => c1 (by have := (nI_eq (by omega) (by omega)).mp q; omega))]
    have he := hr2 (by omega)
    have h53 : ¬ zl_un T n e1 = 0 → zw (f_Tk_readTime_53 h (nI (a + 2)) (nI e1) (zl_g T n e1)) (zl_KT L c s h (zl_fin T n a (if zl_un T n e1 = 0 ∨ e1 - (a + 2) = 0 then none else some (zl_vl T n 10 (a + 2) (e1 - (a + 2)) * zl_un T n e1)) (e1 + (if zl_un T n e1 = 1 then 2 else if zl_un T n e1 = 0 then 0 else 1)))) := by
      intro hu
      rw [if_neg (fun q => q.elim hu c1)]
      unfold f_Tk_readTime_53
      rw [show (10 : Int32) = nI 10 from rfl, zl_meaning H (by decide) (by decide) he (by omega), zw_bind, zw_some]
      generalize zl_vl T n 10 (a + 2) (e1 - (a + 2)) = v
      have hv := zl_v3 (v := v)
      have hM : zl_M3 = 8589934592 := rfl
      have h5 := Nat.min_le_right v zl_M3
      have h125 : ∀ u e : Nat, 1 ≤ u → u ≤ 3600000 → e < 65536 → zw (f_Tk_finishNumber h (nI e) (lN (min v zl_M3 * u))) (zl_KT L c s h (zl_fin T n a (some (v * u)) e)) := by
        intro u e hu1 hu2 he2
        have h6 : min v zl_M3 * u ≤ 8589934592 * 3600000 := Nat.mul_le_mul (by omega) hu2
        refine zl_finN H Hs hs Ha (by omega) HL he2 (by omega) (fun q => ?_) (fun q => ?_)
        · have h7 : v ≤ v * u := Nat.le_mul_of_pos_right _ hu1
          rw [hv.1 (by omega)]
        · have h7 : min v zl_M3 ≤ min v zl_M3 * u := Nat.le_mul_of_pos_right _ hu1
          rw [hv.2.1 (by omega)]
      have h94 : ¬ (zl_g T n e1 = 77 ∧ zl_g T n (e1 + 1) = 83) → zw (f_Tk_readTime_94 h (nI e1) (zl_g T n e1) (lN (min v zl_M3))) (zl_KT L c s h (zl_fin T n a (some (v * zl_un T n e1)) (e1 + (if zl_un T n e1 = 1 then 2 else if zl_un T n e1 = 0 then 0 else 1)))) := by
        intro q
        unfold f_Tk_readTime_94 f_Tk_readTime_125
        rw [nI_1]
        by_cases d1 : zl_g T n e1 = 83
        · have eu : zl_un T n e1 = 1000 := by unfold zl_un; rw [if_neg q, if_pos d1]
          rw [if_pos d1, eu, show (1000 : Int32).toInt64 = lN 1000 from rfl, lN_mul]
          exact zl_w2 (h125 1000 (e1 + 1) (by decide) (by decide) (by omega))
        · rw [if_neg d1]
          by_cases d2 : zl_g T n e1 = 77
          · have eu : zl_un T n e1 = 60000 := by unfold zl_un; rw [if_neg q, if_neg d1, if_pos d2]
            rw [if_pos d2, eu, show (60000 : Int32).toInt64 = lN 60000 from rfl, lN_mul]
            exact zl_w2 (h125 60000 (e1 + 1) (by decide) (by decide) (by omega))
          · have eu : zl_un T n e1 = 3600000 := by
              unfold zl_un at hu ⊢
              rw [if_neg q, if_neg d1, if_neg d2] at hu ⊢
              by_cases d3 : zl_g T n e1 = 72
              · rw [if_pos d3]
              · rw [if_neg d3] at hu; exact absurd rfl hu
            rw [if_neg d2, eu, show (3600000 : Int32).toInt64 = lN 3600000 from rfl, lN_mul]
            exact zl_w2 (h125 3600000 (e1 + 1) (by decide) (by decide) (by omega))
      by_cases d1 : zl_g T n e1 = 77
      · rw [if_pos d1, nI_1, zl_peek H (by omega), zw_bind, zw_some]
        by_cases d2 : f_Nm_great (zl_b T n (e1 + 1)) = 83
        · have eu : zl_un T n e1 = 1 := if_pos ⟨d1, d2⟩
          rw [if_pos d2, eu, show nI e1 + 2 = nI (e1 + 2) from nI_add e1 2]
          have := h125 1 (e1 + 2) (by decide) (by decide) (by omega)
          rw [Nat.mul_one] at this
          exact zl_w2 this
        · rw [if_neg d2]; exact h94 (fun q => d2 q.2)
      · rw [if_neg d1]; exact h94 (fun q => d1 q.1)
    have hx : zl_un T n e1 = 0 ↔ ¬ zl_g T n e1 = 77 ∧ ¬ zl_g T n e1 = 83 ∧ ¬ zl_g T n e1 = 72 := by
      unfold zl_un
      constructor
      · intro q
        refine ⟨fun z => ?_, fun z => ?_, fun z => ?_⟩
        · rw [z] at q; revert q; split <;> decide
        · rw [z, if_neg (fun w => absurd w.1 (by decide))] at q; revert q; decide
        · rw [z, if_neg (fun w => absurd w.1 (by decide))] at q; revert q; decide
      · rintro ⟨q1, q2, q3⟩
        rw [if_neg (fun z => q1 z.1), if_neg q2, if_neg q1, if_neg q3]
    show zw (if zl_g T n e1 = 77 then _ else (if zl_g T n e1 = 83 then _ else (if zl_g T n e1 = 72 then _ else _))) _
    by_cases d1 : zl_g T n e1 = 77
    · rw [if_pos d1]; exact h53 (fun q => (hx.mp q).1 d1)
    · rw [if_neg d1]
      by_cases d2 : zl_g T n e1 = 83
      · rw [if_pos d2]; exact h53 (fun q => (hx.mp q).2.1 d2)
      · rw [if_neg d2]
        by_cases d3 : zl_g T n e1 = 72
        · rw [if_pos d3]; exact h53 (fun q => (hx.mp q).2.2 d3)
        · rw [if_neg d3, if_pos (Or.inl (hx.mpr ⟨d1, d2, d3⟩))]; exact h47
end
section
/-! The class's tokens: places, signs, names; all of them. -/
theorem zl_gm {T : Nat → Int32} {n i : Nat} (hT : ∀ i, zb_ok (T i)) : ∃ k : Nat, k < 256 ∧ f_Nm_great (zd_max 0 (zl_b T n i)) = nI k ∧ ∀ m, 1 ≤ m → m < 256 → (nI k = nI m ↔ zl_g T n i = nI m) := by
  have key : ∀ j, j < 256 → ∃ k, k < 256 ∧ f_Nm_great (nI j) = nI k := by decide +kernel
  unfold zl_g zl_b
  by_cases c : i < n
  · rw [if_pos c]
    obtain ⟨j, hj, e, -, -⟩ := zl_byte (hT i)
    rw [e]
    obtain ⟨k, hk, e2⟩ := key j hj
    have e3 : zd_max 0 (nI j) = nI j := by
      unfold zd_max
      by_cases c2 : (0 : Int32) < nI j
      · rw [if_pos c2]
      · rw [if_neg c2]
        have : j = 0 := by
          refine Nat.eq_zero_of_not_pos fun q => c2 ((zc_lt (k := 0) (by decide) (by omega)).mpr q)
        rw [this]; rfl
    exact ⟨k, hk, by rw [e3, e2], fun m _ _ => by rw [e2]⟩
  · rw [if_neg c]
    refine ⟨0, by decide, rfl, fun m h1 h2 => ?_⟩
    constructor
    · intro q
      have := (nI_eq (by omega) (by omega)).mp q
      omega
    · intro q
      exact absurd q.symm (zc_m1 (by omega))
theorem zl_cPlace {h : zs_H} {T : Nat → Int32} {n s a : Nat} {L : List (List Int32)} {c : List Int32} (H : zl_Y h T n) (Hs : (h.1 8 3) = nI s) (hs : s < 16385) (Ha : (h.1 8 7) = nI a) (ha : a < n) (HL : zn_C h L) : zw (f_Tk_readPlace h) (zl_KT L c s h (zl_pl T n a)) := by
  have hn := H.2.1
  have hr := zl_dr_le (T := T) (n := n) (base := 10) (s := a + 3) (by omega)
  have hr2 := zl_dr_n (T := T) (n := n) (base := 10) (s := a + 3) (by decide)
  obtain ⟨k1, hk1, e1, f1⟩ := zl_gm (n := n) (i := a + 1) H.2.2.2.1
  obtain ⟨k2, hk2, e2, f2⟩ := zl_gm (n := n) (i := a + 2) H.2.2.2.1
  have h90 : zw (f_Tk_readPlace_90 h) (zl_KT L c s h (9, a, a, 5)) := by
    unfold f_Tk_readPlace_90
    exact zl_w2 (zl_refuse (w := 5) Hs hs Ha (by omega) HL)
  unfold f_Tk_readPlace
  rw [Ha, nI_1, zl_peek H (by omega), zw_bind, zw_some, e1, zw_bind]
  refine zw_mono (zx_I4 hk1) fun v4 q4 => ?_
  rw [show nI a + 2 = nI (a + 2) from nI_add a 2, zl_peek H (by omega), zw_bind, zw_some, e2, zw_bind]
  refine zw_mono (zx_I5 hk2) fun v8 q8 => ?_
  rw [show nI a + 3 = nI (a + 3) from nI_add a 3, show (10 : Int32) = nI 10 from rfl, zl_digitsEnd H (by decide) (by omega), zw_bind, zw_some]
  unfold zl_pl
  have g1 : ∀ j, j < 3 → (ze_f 4 j = nI k1 ↔ zl_g T n (a + 1) = ze_f 4 j) := by
    intro j hj
    have key : ∀ j, j < 3 → ∃ m, m < 256 ∧ 1 ≤ m ∧ ze_f 4 j = nI m := by decide +kernel
    obtain ⟨m, m2, m1, m3⟩ := key j hj
    rw [m3, ← f1 m m1 m2]
    exact ⟨Eq.symm, Eq.symm⟩
  have g2 : ∀ j, j < 2 → (ze_f 5 j = nI k2 ↔ zl_g T n (a + 2) = ze_f 5 j) := by
    intro j hj
    have key : ∀ j, j < 2 → ∃ m, m < 256 ∧ 1 ≤ m ∧ ze_f 5 j = nI m := by decide +kernel
    obtain ⟨m, m2, m1, m3⟩ := key j hj
    rw [m3, ← f2 m m1 m2]
    exact ⟨Eq.symm, Eq.symm⟩
  have t4 : ∀ k, k < 6 → zl_P.getD (2 * k) 0 = ze_f 4 (k % 3) ∧ zl_P.getD (2 * k + 1) 0 = ze_f 5 (k / 3) := by decide +kernel
  have u4 : ∀ i, i < 3 → ∀ j, j < 3 → ze_f 4 i = ze_f 4 j → i = j := by decide +kernel
  have u5 : ∀ i, i < 2 → ∀ j, j < 2 → ze_f 5 i = ze_f 5 j → i = j := by decide +kernel
  have wn : (∀ k, k < 6 → ¬ (zl_g T n (a + 1) = ze_f 4 (k % 3) ∧ zl_g T n (a + 2) = ze_f 5 (k / 3))) → zl_wh T n a 6 = none := by
    intro q
    have key : ∀ m, m ≤ 6 → zl_wh T n a m = none := by
      intro m
      induction m with
      | zero => intro _; rfl
      | succ m ih =>
        intro hm
        unfold zl_wh
        rw [(t4 m (by omega)).1, (t4 m (by omega)).2, if_neg (q m (by omega)), ih (by omega)]
    exact key 6 (Nat.le_refl 6)
  have ws : ∀ j w, j < 3 → w < 2 → zl_g T n (a + 1) = ze_f 4 j → zl_g T n (a + 2) = ze_f 5 w → zl_wh T n a 6 = some (j + 3 * w) := by
    intro j w hj hw p1 p2
    have key : ∀ m, m ≤ 6 → zl_wh T n a m = if j + 3 * w < m then some (j + 3 * w) else none := by
      intro m
      induction m with
      | zero => intro _; rfl
      | succ m ih =>
        intro hm
        unfold zl_wh
        rw [(t4 m (by omega)).1, (t4 m (by omega)).2, ih (by omega)]
        by_cases em : m = j + 3 * w
        · have e3 : m % 3 = j := by omega
          have e4 : m / 3 = w := by omega
          rw [e3, e4, if_pos ⟨p1, p2⟩, if_pos (by omega), em]
        · rw [if_neg (fun z => em (by have q1 := u4 _ (by omega) _ hj (z.1.symm.trans p1); have q2 := u5 _ (by omega) _ hw (z.2.symm.trans p2); omega))]
          by_cases c9 : j + 3 * w < m
          · rw [if_pos c9, if_pos (by omega)]
          · rw [if_neg c9, if_neg (by omega)]
    rw [key 6 (Nat.le_refl 6), if_pos (by omega)]
  rcases q4 with ⟨j, j1, j2, j3⟩ | ⟨j1, j2⟩
  · rcases q8 with ⟨w, w1, w2, w3⟩ | ⟨w1, w2⟩
    · rw [ws j w j1 w1 ((g1 j j1).mp j3) ((g2 w w1).mp w3), j2, w2, if_neg (nI_pos (by omega)), if_neg (nI_pos (by omega))]
      dsimp only
      generalize hE : zl_dr T n 10 (a + 3) = ee at hr hr2 ⊢
      by_cases c1 : ee - (a + 3) = 0
      · rw [if_pos (by congr 1; omega), if_pos (Or.inl c1)]; exact h90
      · have he := hr2 (by omega)
        rw [if_neg (fun q => c1 (by have := (nI_eq (by omega) (by omega)).mp q; omega)), zl_peek H (by omega), zw_bind, zw_some]
        by_cases c2 : f_Nm_isPart (zl_b T n ee) = 0
        · have p1 : ¬ zl_pt T n ee = true := by unfold zl_pt; simpa using c2
          rw [if_pos c2, zl_meaning H (by decide) (by decide) he (by omega), zw_bind, zw_some]
          generalize zl_vl T n 10 (a + 3) (ee - (a + 3)) = v
          have hv := zl_v3 (v := v)
          have h125 : ∀ y : Nat, y ≤ 255 → zw (f_Tk_readPlace_125 h (nI j) (nI w) (nI ee) (lN (min v zl_M3)) (nI y) (lN (min v zl_M3))) (zl_KT L c s h (if ee - (a + 3) = 0 ∨ y < v ∨ zl_pt T n ee = true then (9, a, a, 5) else (4, a, ee, 256 * (j + 3 * w) + v))) := by
            intro y hy
            unfold f_Tk_readPlace_125
            have hM : zl_M3 = 8589934592 := rfl
            rw [nI_l (by omega)]
            by_cases c3 : y < v
            · rw [if_neg (mt (zj_le hv.2.2 (by omega)).mp (by have := Nat.lt_min (a := y) (b := v) (c := zl_M3); omega)), if_pos (Or.inr (Or.inl c3))]
              exact zl_w2 (zl_refuse (w := 5) Hs hs Ha (by omega) HL)
            · have e0 : min v zl_M3 = v := hv.1 (by omega)
              rw [e0, if_pos ((zj_le (by omega) (by omega)).mpr (by omega)), if_neg (fun q => q.elim c1 fun q => q.elim c3 p1), lN_i, zc_ml, nI_add, zc_ml, nI_add]
              exact zl_w2 (zl_finish (k := 10) Hs hs Ha (by omega) HL (by simp) (by simp) rfl rfl rfl (by decide) rfl)
          by_cases c4 : w = 0
          · have := h125 255 (by decide)
            rw [if_pos (by rw [c4]; rfl), show (if j + 3 * w < 3 then 255 else 63) = 255 from if_pos (by omega)]
            exact this
          · have := h125 63 (by decide)
            rw [if_neg (fun q => c4 ((zc_eq (k := 0) (by decide) (by omega)).mp q)), show (if j + 3 * w < 3 then 255 else 63) = 63 from if_neg (by omega)]
            exact this
        · have p1 : zl_pt T n ee = true := by unfold zl_pt; simpa using c2
          rw [if_neg c2, if_pos (Or.inr (Or.inr p1))]; exact h90
    · rw [wn (fun k hk q => w2 (k / 3) (by omega) ((g2 _ (by omega)).mpr q.2)), j2, w1, if_neg (nI_pos (by omega)), if_pos (by decide)]
      exact h90
  · rw [wn (fun k hk q => j2 (k % 3) (by omega) ((g1 _ (by omega)).mpr q.1)), j1, if_pos (by decide)]
    exact h90
theorem zl_ckS : ∀ c, c < 256 → nI c ∈ zl_sg → zl_ck (5, 0, 0, c) = c := by decide +kernel
theorem zl_cSign {h : zs_H} {T : Nat → Int32} {n s a : Nat} {L : List (List Int32)} {c : List Int32} (H : zl_Y h T n) (Hs : (h.1 8 3) = nI s) (hs : s < 16385) (Ha : (h.1 8 7) = nI a) (ha : a < n) (HL : zn_C h L) : zw (f_Tk_readSign h (zl_b T n a)) (zl_KT L c s h (zl_sn T n a)) := by
  have hn := H.2.1
  obtain ⟨k, hk, ek, -, -⟩ := zl_byte (H.2.2.2.1 a)
  have eb : zl_b T n a = nI k := by unfold zl_b; rw [if_pos ha, ek]
  unfold f_Tk_readSign zl_sn
  rw [Ha, nI_1, zl_peek H (by omega), zw_bind, zw_some, eb]
  generalize zl_b T n (a + 1) = d
  have ek2 : (nI k).toNatClampNeg = k := nI_clamp (by omega)
  rw [ek2]
  have two : ∀ t kk : Nat, zl_ck (5, a, a + 2, t) = kk → kk < 65536 → zl_2 (nI k) d = t → ¬ t = 0 → zw (zd_B (f_Tk_finish h (nI kk) (nI a + 2) 0) fun v6 h7 => some (v6, h7)) (zl_KT L c s h (if zl_2 (nI k) d = 0 then (if nI k ∈ zl_sg then (5, a, a + 1, k) else (9, a, a, 1)) else (5, a, a + 2, zl_2 (nI k) d))) := by
    intro t kk h1 h2 h3 h4
    rw [h3, if_neg h4, show nI a + 2 = nI (a + 2) from nI_add a 2]
    exact zl_w2 (zl_finish (v := 0) Hs hs Ha (by omega) HL (by simp) (by simp) rfl rfl h1 h2 rfl)
  have one : zl_2 (nI k) d = 0 → zw (f_Tk_readSign_136 h (nI k)) (zl_KT L c s h (if zl_2 (nI k) d = 0 then (if nI k ∈ zl_sg then (5, a, a + 1, k) else (9, a, a, 1)) else (5, a, a + 2, zl_2 (nI k) d))) := by
    intro h3
    have hsg : (∃ j, j < 17 ∧ ze_f 6 j = nI k) ↔ nI k ∈ zl_sg := (zl_sgf k hk).1
    unfold f_Tk_readSign_136
    rw [zw_bind, if_pos h3, Ha]
    refine zw_mono (zx_I6 hk) fun v q => ?_
    rcases q with ⟨j, j1, j2, j3⟩ | ⟨j1, j2⟩
    · have hm := hsg.mp ⟨j, j1, j3⟩
      rw [j2, if_pos (nI_pos' (by omega)), if_pos hm, nI_1]
      exact zl_w2 (zl_finish (v := 0) (k := k) Hs hs Ha (by omega) HL (by simp) (by simp) rfl rfl (zl_ckS k hk hm) (by omega) rfl)
    · rw [j1, if_neg (by decide), if_neg (fun q => by obtain ⟨j, h5, h6⟩ := hsg.mpr q; exact j2 j h5 h6)]
      exact zl_w2 (zl_refuse (w := 1) Hs hs Ha (by omega) HL)
  unfold f_Tk_readSign_36 f_Tk_readSign_61 f_Tk_readSign_86 f_Tk_readSign_111
  rw [Ha]
  by_cases a1 : nI k = 58 ∧ d = 61
  · rw [if_pos a1.1, if_pos a1.2]; exact two 256 1 rfl (by decide) (if_pos a1) (by decide)
  by_cases a2 : nI k = 46 ∧ d = 46
  · have n1 : ¬ nI k = 58 := by rw [a2.1]; decide
    rw [if_neg n1, if_pos a2.1, if_pos a2.2]
    exact two 257 2 rfl (by decide) (by unfold zl_2; rw [if_neg a1, if_pos a2]) (by decide)
  by_cases a3 : nI k = 60 ∧ d = 61
  · have n1 : ¬ nI k = 58 := by rw [a3.1]; decide
    have n2 : ¬ nI k = 46 := by rw [a3.1]; decide
    rw [if_neg n1, if_neg n2, if_pos a3.1, if_pos a3.2]
    exact two 258 3 rfl (by decide) (by unfold zl_2; rw [if_neg a1, if_neg a2, if_pos a3]) (by decide)
  by_cases a4 : nI k = 62 ∧ d = 61
  · have n1 : ¬ nI k = 58 := by rw [a4.1]; decide
    have n2 : ¬ nI k = 46 := by rw [a4.1]; decide
    have n3 : ¬ nI k = 60 := by rw [a4.1]; decide
    rw [if_neg n1, if_neg n2, if_neg n3, if_pos a4.1, if_pos a4.2]
    exact two 259 4 rfl (by decide) (by unfold zl_2; rw [if_neg a1, if_neg a2, if_neg a3, if_pos a4]) (by decide)
  by_cases a5 : nI k = 60 ∧ d = 62
  · have n1 : ¬ nI k = 58 := by rw [a5.1]; decide
    have n2 : ¬ nI k = 46 := by rw [a5.1]; decide
    have n4 : ¬ nI k = 62 := by rw [a5.1]; decide
    have n5 : ¬ d = 61 := by rw [a5.2]; decide
    rw [if_neg n1, if_neg n2, if_pos a5.1, if_neg n5, if_neg n4, if_pos a5.1, if_pos a5.2]
    exact two 260 5 rfl (by decide) (by unfold zl_2; rw [if_neg a1, if_neg a2, if_neg a3, if_neg a4, if_pos a5]) (by decide)
  have f0 := one (by unfold zl_2; rw [if_neg a1, if_neg a2, if_neg a3, if_neg a4, if_neg a5])
  generalize zl_KT L c s h _ = Q at f0 ⊢
  repeat' split
  all_goals first | exact f0 | exact absurd (And.intro (by assumption) (by assumption)) a1 | exact absurd (And.intro (by assumption) (by assumption)) a2 | exact absurd (And.intro (by assumption) (by assumption)) a3 | exact absurd (And.intro (by assumption) (by assumption)) a4 | exact absurd (And.intro (by assumption) (by assumption)) a5
end
section
/-! The class's tokens: names; the whole row of tokens. -/
theorem zl_cn5 {h : zs_H} {T : Nat → Int32} {n : Nat} (H : zl_Y h T n) : ∀ m i fuel, n ≤ i + m → m < fuel → i ≤ n → f_Tk_readName_L5 fuel h (nI i) = f_Tk_readName_31 h (nI (zl_run (zl_pt T n) m i)) := by
  obtain ⟨H1, hn, H3, H4, H5⟩ := H
  intro m
  induction m with
  | zero =>
    intro i fuel h1 h2 h3
    obtain ⟨f, rfl⟩ : ∃ f, fuel = f + 1 := ⟨fuel - 1, by omega⟩
    show f_Tk_readName_5 (f_Tk_readName_L5 f) h (nI i) = _
    unfold f_Tk_readName_5
    rw [H1, if_pos ((nI_leI (by omega) (by omega)).mpr (by omega))]; rfl
  | succ m ih =>
    intro i fuel h1 h2 h3
    obtain ⟨f, rfl⟩ : ∃ f, fuel = f + 1 := ⟨fuel - 1, by omega⟩
    show f_Tk_readName_5 (f_Tk_readName_L5 f) h (nI i) = _
    unfold f_Tk_readName_5
    rw [H1]
    by_cases c : n ≤ i
    · rw [if_pos ((nI_leI (by omega) (by omega)).mpr c), zl_run_0 _ _ _ (zl_pt_hi c)]
    · have e1 : f_Nm_isPart (T i) = f_Nm_isPart (zl_b T n i) := by rw [zl_rawP (H4 i), zl_bT (by omega)]
      rw [if_neg (mt (nI_leI (by omega) (by omega)).mp c), if_neg H3, if_pos (zi_in (by omega) (by omega)), nI_clamp (by omega), H5, e1, nI_1]
      by_cases c1 : f_Nm_isPart (zl_b T n i) = 0
      · have p1 : zl_pt T n i = false := by unfold zl_pt; simpa using c1
        rw [if_pos c1, zl_run_0 _ _ _ p1]
      · have p1 : zl_pt T n i = true := by unfold zl_pt; simpa using c1
        rw [if_neg c1, ih (i + 1) f (by omega) (by omega) (by omega)]
        congr 2
        show _ = if _ then _ else _
        rw [if_pos p1]
theorem zl_rcn {h : zs_H} {T : Nat → Int32} {n a e : Nat} (H : zl_Y h T n) (he : e ≤ n) (hp : ∀ i, a ≤ i → i < e → zl_pt T n i = true) : zn_rc T a (e - a) = zl_nm T n a e ∧ ∀ i, i < e - a → vp_nar .byte ((f_Nm_great (T (a + i))).toInt8.toInt32) = f_Nm_great (T (a + i)) := by
  have key : ∀ i, i < e - a → f_Nm_great (T (a + i)) = zl_g T n (a + i) := by
    intro i hi
    have p := hp (a + i) (by omega) (by omega)
    have p2 : ¬ f_Nm_isPart (zl_b T n (a + i)) = 0 := by unfold zl_pt at p; simpa using p
    unfold zl_g
    rw [zl_bT (by omega)] at p2 ⊢
    exact zl_rawG (H.2.2.2.1 _) (by rw [zl_rawP (H.2.2.2.1 _)]; exact p2)
  constructor
  · refine zn_rc_eq.mpr ⟨zl_nm_len, fun i hi => ?_⟩
    rw [key i hi, zl_nm_at hi]
  · intro i hi
    rw [key i hi]
    exact zl_nar (hp (a + i) (by omega) (by omega))
theorem zl_WK : zk_K.take 41 = zl_W := by decide +kernel
theorem zl_cName {h : zs_H} {T : Nat → Int32} {n s a : Nat} {L : List (List Int32)} (H : zl_Y h T n) (Hs : (h.1 8 3) = nI s) (hs : s < 16385) (Ha : (h.1 8 7) = nI a) (ha : a < n) (HL : zn_C h L) (hN : L.Nodup) (hK : L.take 75 = zk_K) (hL : L.length < 6000) (ho : zn_o L L.length + 32 ≤ 16789) (hf : zl_pt T n a = true) : zw (f_Tk_readName h) (zl_KT L (zl_nm T n a (zl_ne T n a)) s h (zl_tn T n a)) := by
  have hn := H.2.1
  obtain ⟨n1, n2, n3, n4⟩ := zl_ne_le (T := T) (n := n) (a := a) (by omega)
  have n5 : a + 1 ≤ zl_ne T n a := by
    unfold zl_ne
    rw [zl_run_1 _ _ _ hf ha]
    exact zl_run_ge _ _ _
  have h5 := zl_cn5 H (n - a) a zF (by omega) (by have := zF_big; omega) (by omega)
  have h5' : f_Tk_readName h = f_Tk_readName_31 h (nI (zl_ne T n a)) := by unfold f_Tk_readName; rw [Ha]; exact h5
  rw [h5']
  unfold f_Tk_readName_31 zl_tn
  rw [if_neg H.2.2.1, Ha, zi_sub n1, zw_B]
  generalize zl_ne T n a = e at n1 n2 n3 n4 n5 ⊢
  obtain ⟨r1, r2⟩ := zl_rcn H n2 n4
  by_cases c1 : 32 < e - a
  · rw [if_pos c1]
    have e0 : f_Nm_numberOf_c1 h (nI a) (nI (e - a)) = some (-1, h) := by
      unfold f_Nm_numberOf_c1 f_Nm_find_c1 f_Nm_numberOf_c1_36 f_Nm_numberOf_c1_37
      have q1 : ¬ nI (e - a) < 1 := mt (zc_tl (k := 1) (by decide) (by omega)).mp (by omega)
      have q2 : (32 : Int32) < nI (e - a) := (zc_lt (k := 32) (by decide) (by omega)).mpr c1
      rw [if_neg q1, if_pos q2]
      show (if _ then _ else _) = _
      rw [if_neg q1, if_pos q2, if_pos rfl, if_pos rfl]
    rw [e0, zw_some]
    dsimp only
    rw [if_pos rfl]
    exact zl_w2 (zl_refuse (w := 3) Hs hs Ha (by omega) HL)
  · rw [if_neg c1]
    refine zw_mono (zn_numberc1 HL hN (by omega) (by omega) (by omega) hL (by omega) (by rw [H.2.2.2.2]; exact r2)) fun p q => ?_
    obtain ⟨q1, q2, q3⟩ := q
    rw [H.2.2.2.2, r1] at q1 q2
    generalize hc : zl_nm T n a e = c at q1 q2 ⊢
    have hidx : L.idxOf c ≤ L.length := List.idxOf_le_length
    rw [q2, if_neg (zc_m1 (by omega))]
    have Hs2 : (p.2.1 8 3) = nI s := (q3.1 _ _ (by decide)).trans Hs
    have Ha2 : (p.2.1 8 7) = nI a := (q3.1 _ _ (by decide)).trans Ha
    have hLW : L = zl_W ++ L.drop 41 := by
      rw [← zl_WK, ← hK, List.take_take, show min 41 75 = 41 from rfl, List.take_append_drop]
    have hW : zl_W.length = 41 := rfl
    have hix : L.idxOf c = if c ∈ zl_W then zl_W.idxOf c else (L.drop 41).idxOf c + 41 := by
      conv => lhs; rw [hLW]
      rw [List.idxOf_append, hW]
    have fin : ∀ (t : zl_T) (k : Nat), zl_ck t = k → k < 65536 → (t.1 = 1 ∨ t.1 = 2) → t.2.1 = a → t.2.2.1 = e → zw (f_Tk_readName_91 p.2 (nI e) (nI (L.idxOf c)) (nI k)) (zl_KT L c s h t) := by
      intro t k h1 h2 h3 h4 h6
      unfold f_Tk_readName_91 f_Tk_finish
      rw [zl_add Hs2 hs h2 Ha2 (by omega)]
      refine zl_w2 (zw_bind.mpr (zw_some.mpr (zw_some.mpr ?_)))
      have h7 : ¬ (t.1 = 0 ∨ t.1 = 9) := by omega
      have g1 : zfr [(2, 5)] [4, 5, 6, 7] [] h p.2 := q3
      refine ⟨(if_neg h7).symm, rfl, fun j => ?_, fun j => ?_, fun j => ?_, fun _ => by rw [h6]; rfl, ?_, ?_⟩
      · refine Eq.trans (zl_ada.1 j) ?_
        rw [h1, g1.2.1 _ (by decide)]
      · refine Eq.trans (zl_ada.2.1 j) ?_
        rw [h4, g1.2.1 _ (by decide)]
      · refine Eq.trans (zl_ada.2.2 j) ?_
        rw [show zl_cv t (L.idxOf c) = L.idxOf c from if_pos h3, g1.2.1 _ (by decide)]
      · have e9 : (if (t.1 = 1 ∨ t.1 = 2) ∧ ¬ c ∈ L then L ++ [c] else L) = if c ∈ L then L else L ++ [c] := by
          by_cases z : c ∈ L
          · rw [if_pos z, if_neg (fun y => y.2 z)]
          · rw [if_neg z, if_pos ⟨h3, z⟩]
        rw [e9]
        exact zn_C_fr (zfr_F (fs := [(8, 3), (8, 7)]) (by decide) (zfr_w zl_adf (by decide) (fun x q => q) (fun x q => q))) (by decide) (by decide) (by decide) (by decide) (by decide) q1
      · exact zfr_trans (zfr_w g1 (by decide) (by decide) (by decide)) (zfr_F (by decide) (zfr_w zl_adf (by decide) (by decide) (by decide)))
    by_cases c2 : c ∈ zl_W
    · have hw : zl_W.idxOf c < 41 := by have := List.idxOf_lt_length_of_mem c2; omega
      rw [if_pos c2] at hix
      rw [if_neg (mt (zc_le (k := 41) (by decide) (by omega)).mp (by omega)), if_pos c2]
      unfold f_Tk_readName_75
      rw [if_neg (by decide), zc_da]
      exact fin (2, a, e, zl_W.idxOf c) (128 + L.idxOf c) (by rw [hix]; rfl) (by omega) (Or.inr rfl) rfl rfl
    · rw [if_neg c2] at hix
      rw [if_pos ((zc_le (k := 41) (by decide) (by omega)).mpr (by omega)), if_neg c2]
      unfold f_Tk_readName_75
      rw [if_pos rfl]
      exact fin (1, a, e, 0) 8 rfl (by decide) (Or.inl rfl) rfl rfl
end
section
/-! What is known of tokens. -/
def zl_kd (t : zl_T) (n b : Nat) : Prop := b ≤ t.2.1 ∧ t.2.1 ≤ n ∧ (t.1 = 0 ∨ t.1 = 1 ∨ t.1 = 2 ∨ t.1 = 3 ∨ t.1 = 4 ∨ t.1 = 5 ∨ t.1 = 9) ∧ (¬ (t.1 = 0 ∨ t.1 = 9) → t.2.1 < t.2.2.1 ∧ t.2.2.1 ≤ n) ∧ t.2.2.2 < 2147483648
theorem zl_fin_kd {T : Nat → Int32} {n a e : Nat} {v : Option Nat} (ha : a < n) (h1 : a < e) (h2 : ¬ v = none → e ≤ n) : zl_kd (zl_fin T n a v e) n a := by
  unfold zl_fin
  cases v with
  | none => exact ⟨Nat.le_refl a, by show a ≤ n; omega, by simp, fun q => absurd (Or.inr rfl) q, by show 4 < _; decide⟩
  | some x =>
    dsimp only
    by_cases c : x ≤ 2147483647 ∧ zl_pt T n e = false
    · rw [if_pos c]
      exact ⟨Nat.le_refl a, by show a ≤ n; omega, by simp, fun _ => ⟨h1, h2 (by simp)⟩, by show x < _; omega⟩
    · rw [if_neg c]
      exact ⟨Nat.le_refl a, by show a ≤ n; omega, by simp, fun q => absurd (Or.inr rfl) q, by show 4 < _; decide⟩
theorem zl_nb_kd {T : Nat → Int32} {n a : Nat} (ha : a < n) (hd : zl_dp T n 10 a = true) : zl_kd (zl_nb T n a) n a := by
  have hr1 : a + 1 ≤ zl_dr T n 10 a := by
    unfold zl_dr
    rw [zl_run_1 _ _ _ hd ha]
    exact zl_run_ge _ _ _
  have hr2 := zl_dr_n (T := T) (n := n) (base := 10) (s := a) (by decide) (by omega)
  unfold zl_nb
  by_cases c1 : zl_b T n (zl_dr T n 10 a) = 35
  · rw [if_pos c1]
    by_cases c2 : zl_vl T n 10 a (zl_dr T n 10 a - a) = 16 ∨ zl_vl T n 10 a (zl_dr T n 10 a - a) = 2
    · rw [if_pos c2]
      generalize zl_vl T n 10 a (zl_dr T n 10 a - a) = v at c2 ⊢
      have he : zl_dr T n 10 a < n := zl_b_lt (by rw [c1]; decide)
      generalize zl_dr T n 10 a = e1 at hr1 hr2 he ⊢
      have hr3 := zl_dr_le (T := T) (n := n) (base := v) (s := e1 + 1) (by omega)
      refine zl_fin_kd ha (by omega) fun q => ?_
      by_cases c3 : zl_dr T n v (e1 + 1) - (e1 + 1) = 0
      · rw [if_pos c3] at q; exact absurd rfl q
      · exact zl_dr_n (by omega) (by omega)
    · rw [if_neg c2]
      exact ⟨Nat.le_refl a, by show a ≤ n; omega, by simp, fun q => absurd (Or.inr rfl) q, by show 4 < _; decide⟩
  · rw [if_neg c1]
    exact zl_fin_kd ha (by omega) fun _ => hr2
theorem zl_un_lt {T : Nat → Int32} {n e : Nat} (h : ¬ zl_un T n e = 0) : e + (if zl_un T n e = 1 then 2 else if zl_un T n e = 0 then 0 else 1) ≤ n := by
  rw [if_neg h]
  unfold zl_un at h ⊢
  by_cases c1 : zl_g T n e = 77 ∧ zl_g T n (e + 1) = 83
  · have := zl_g_lt (T := T) (n := n) (i := e + 1) (by rw [c1.2]; decide)
    rw [if_pos c1, if_pos rfl]; omega
  · rw [if_neg c1] at h ⊢
    have he : e < n := by
      apply zl_g_lt (T := T)
      intro q
      rw [q] at h
      exact h (by decide)
    have hne : ¬ (if zl_g T n e = 83 then 1000 else if zl_g T n e = 77 then 60000 else if zl_g T n e = 72 then 3600000 else 0) = 1 := by
      repeat' split
      all_goals decide
    rw [if_neg hne]; omega
theorem zl_tm_kd {T : Nat → Int32} {n a : Nat} (ha : a < n) : zl_kd (zl_tm T n a) n a := by
  have hr := zl_dr_le (T := T) (n := n) (base := 10) (s := a + 2) (by omega)
  unfold zl_tm
  refine zl_fin_kd ha (by omega) fun q => ?_
  refine zl_un_lt fun z => q (if_pos (Or.inl z))
theorem zl_pl_kd {T : Nat → Int32} {n a : Nat} (ha : a < n) : zl_kd (zl_pl T n a) n a := by
  have w5 : zl_kd (9, a, a, 5) n a := ⟨Nat.le_refl a, by show a ≤ n; omega, by simp, fun q => absurd (Or.inr rfl) q, by show 5 < _; decide⟩
  have hr := zl_dr_le (T := T) (n := n) (base := 10) (s := a + 3) (by omega)
  unfold zl_pl
  cases hw : zl_wh T n a 6 with
  | none => exact w5
  | some k =>
    have hk := zl_wh_lt 6 k hw
    dsimp only
    by_cases c : zl_dr T n 10 (a + 3) - (a + 3) = 0 ∨ (if k < 3 then 255 else 63) < zl_vl T n 10 (a + 3) (zl_dr T n 10 (a + 3) - (a + 3)) ∨ zl_pt T n (zl_dr T n 10 (a + 3)) = true
    · rw [if_pos c]; exact w5
    · rw [if_neg c]
      have h1 : ¬ zl_dr T n 10 (a + 3) - (a + 3) = 0 := fun q => c (Or.inl q)
      have h2 : ¬ (if k < 3 then 255 else 63) < zl_vl T n 10 (a + 3) (zl_dr T n 10 (a + 3) - (a + 3)) := fun q => c (Or.inr (Or.inl q))
      have h3 : (if k < 3 then 255 else 63) ≤ 255 := by split <;> omega
      exact ⟨Nat.le_refl a, by show a ≤ n; omega, by simp, fun _ => ⟨by show a < zl_dr T n 10 (a + 3); omega, zl_dr_n (by decide) (by omega)⟩, by show 256 * k + _ < _; omega⟩
theorem zl_sn_kd {T : Nat → Int32} {n a : Nat} (hT : ∀ i, zb_ok (T i)) (ha : a < n) : zl_kd (zl_sn T n a) n a := by
  obtain ⟨k, hk, ek, -, -⟩ := zl_byte (hT a)
  have eb : zl_b T n a = nI k := by unfold zl_b; rw [if_pos ha, ek]
  unfold zl_sn
  by_cases c : zl_2 (zl_b T n a) (zl_b T n (a + 1)) = 0
  · rw [if_pos c]
    by_cases c2 : zl_b T n a ∈ zl_sg
    · rw [if_pos c2]
      exact ⟨Nat.le_refl a, by show a ≤ n; omega, by simp, fun _ => ⟨by show a < a + 1; omega, by show a + 1 ≤ n; omega⟩, Int32.toNatClampNeg_lt _⟩
    · rw [if_neg c2]
      exact ⟨Nat.le_refl a, by show a ≤ n; omega, by simp, fun q => absurd (Or.inr rfl) q, by show 1 < _; decide⟩
  · rw [if_neg c]
    have h2 : zl_2 (zl_b T n a) (zl_b T n (a + 1)) ≤ 260 := by
      unfold zl_2
      repeat' split
      all_goals decide
    have h3 : a + 1 < n := by
      apply zl_b_lt (T := T)
      intro q
      rw [q] at c
      apply c
      unfold zl_2
      have hq : ∀ x : Int32, (x = 61 ∨ x = 46 ∨ x = 62) → ¬ (-1 : Int32) = x := by
        rintro x (rfl | rfl | rfl) <;> decide
      rw [if_neg (fun z => hq _ (Or.inl rfl) z.2), if_neg (fun z => hq _ (Or.inr (Or.inl rfl)) z.2), if_neg (fun z => hq _ (Or.inl rfl) z.2), if_neg (fun z => hq _ (Or.inl rfl) z.2), if_neg (fun z => hq _ (Or.inr (Or.inr rfl)) z.2)]
    exact ⟨Nat.le_refl a, by show a ≤ n; omega, by simp, fun _ => ⟨by show a < a + 2; omega, by show a + 2 ≤ n; omega⟩, by show zl_2 _ _ < _; omega⟩
theorem zl_isLet (c : Int32) (h : ¬ f_Mo_isLetter (f_Nm_great c) = 0) : ¬ f_Nm_isPart c = 0 := by
  grind [f_Mo_isLetter, f_Mo_isLetter_12, f_Nm_great, f_Nm_isPart, f_Nm_isLetter, f_Nm_isLetter_12, f_Nm_isLetter_24]
theorem zl_tn_kd {T : Nat → Int32} {n a : Nat} (ha : a < n) (hf : zl_pt T n a = true) : zl_kd (zl_tn T n a) n a := by
  obtain ⟨n1, n2, n3, n4⟩ := zl_ne_le (T := T) (n := n) (a := a) (by omega)
  have n5 : a + 1 ≤ zl_ne T n a := by
    unfold zl_ne
    rw [zl_run_1 _ _ _ hf ha]
    exact zl_run_ge _ _ _
  unfold zl_tn
  by_cases c1 : 32 < zl_ne T n a - a
  · rw [if_pos c1]
    exact ⟨Nat.le_refl a, by show a ≤ n; omega, by simp, fun q => absurd (Or.inr rfl) q, by show 3 < _; decide⟩
  · rw [if_neg c1]
    by_cases c2 : zl_nm T n a (zl_ne T n a) ∈ zl_W
    · have hw : zl_W.idxOf (zl_nm T n a (zl_ne T n a)) < 41 := List.idxOf_lt_length_of_mem c2
      rw [if_pos c2]
      exact ⟨Nat.le_refl a, by show a ≤ n; omega, by simp, fun _ => ⟨by show a < zl_ne T n a; omega, n2⟩, by show zl_W.idxOf _ < _; omega⟩
    · rw [if_neg c2]
      exact ⟨Nat.le_refl a, by show a ≤ n; omega, by simp, fun _ => ⟨by show a < zl_ne T n a; omega, n2⟩, by show 0 < _; decide⟩
theorem zl_tk_kd {T : Nat → Int32} {n a : Nat} (hT : ∀ i, zb_ok (T i)) (ha : a ≤ n) : zl_kd (zl_tk T n a) n a := by
  unfold zl_tk
  by_cases c0 : n ≤ a
  · rw [if_pos c0]
    exact ⟨by show a ≤ n; omega, Nat.le_refl n, by simp, fun q => absurd (Or.inl rfl) q, by show 0 < _; decide⟩
  rw [if_neg c0]
  by_cases c1 : zl_g T n a = 84 ∧ zl_b T n (a + 1) = 35
  · rw [if_pos c1]; exact zl_tm_kd (by omega)
  rw [if_neg c1]
  by_cases c2 : ¬ f_Mo_isLetter (zl_g T n a) = 0
  · rw [if_pos c2]; exact zl_tn_kd (by omega) (by unfold zl_pt; exact decide_eq_true (zl_isLet _ c2))
  rw [if_neg c2]
  by_cases c3 : ¬ f_Mo_isDigit (zl_g T n a) = 0
  · rw [if_pos c3]; exact zl_nb_kd (by omega) (by unfold zl_dp; exact decide_eq_true (zl_dp10 _ c3))
  rw [if_neg c3]
  by_cases c4 : zl_g T n a = 37
  · rw [if_pos c4]; exact zl_pl_kd (by omega)
  · rw [if_neg c4]; exact zl_sn_kd hT (by omega)
theorem zl_tok_kd {T : Nat → Int32} {n b : Nat} (hT : ∀ i, zb_ok (T i)) (hb : b ≤ n) : zl_kd (zl_tok T n b) n b := by
  have hs := zl_sk_le (T := T) (n := n) (n - b) b hb
  unfold zl_tok
  by_cases c : (zl_sk T n (n - b) b).2 = true
  · rw [if_pos c]
    have q := zl_tk_kd hT hs.1
    exact ⟨Nat.le_trans hs.2 q.1, q.2⟩
  · rw [if_neg c]
    exact ⟨hs.2, hs.1, by simp, fun q => absurd (Or.inr rfl) q, by show 2 < _; decide⟩
end
section
/-! The class's row of tokens. -/
theorem zl_c84 (c : Int32) : f_Nm_great c = 84 ↔ c = 84 ∨ c = 116 := by grind [f_Nm_great]
theorem zl_cL (c : Int32) : f_Mo_isLetter (f_Nm_great c) = 0 ↔ f_Nm_isLetter c = 0 := by
  grind [f_Mo_isLetter, f_Mo_isLetter_12, f_Nm_great, f_Nm_isLetter, f_Nm_isLetter_12, f_Nm_isLetter_24]
theorem zl_cD (c : Int32) : f_Mo_isDigit (f_Nm_great c) = 0 ↔ (c < 48 ∨ 57 < c) := by grind [f_Nm_great, f_Mo_isDigit]
theorem zl_c37 (c : Int32) : f_Nm_great c = 37 ↔ c = 37 := by grind [f_Nm_great]
theorem zl_cTok {h : zs_H} {T : Nat → Int32} {n s a : Nat} {L : List (List Int32)} (H : zl_Y h T n) (Hs : (h.1 8 3) = nI s) (hs : s < 16385) (Ha : (h.1 8 7) = nI a) (ha : a ≤ n) (HL : zn_C h L) (hN : L.Nodup) (hK : L.take 75 = zk_K) (hL : L.length < 6000) (ho : zn_o L L.length + 32 ≤ 16789) :
    zw (f_Tk_readToken h) (zl_KT L (zl_nm T n (zl_tk T n a).2.1 (zl_tk T n a).2.2.1) s h (zl_tk T n a)) := by
  have hn := H.2.1
  unfold f_Tk_readToken
  rw [Ha, zl_peek H (by omega), zw_bind, zw_some]
  by_cases c0 : n ≤ a
  · rw [zl_b_hi c0, if_pos rfl, show (6 : Int32) = nI 6 from rfl, zl_add Hs hs (by decide) Ha (by omega), zw_bind, zw_some, zw_some]
    have e0 : zl_tk T n a = (0, n, n, 0) := by unfold zl_tk; rw [if_pos c0]
    rw [e0]
    exact (zl_KTa (n := 0) (t := (0, n, n, 0)) Hs HL (by simp) (show n = a by omega) rfl).1 (Or.inl rfl)
  · have hb : ¬ zl_b T n a = -1 := by
      obtain ⟨k, hk, ek, -, -⟩ := zl_byte (H.2.2.2.1 a)
      rw [zl_bT (by omega), ek]
      exact zc_m1 (by omega)
    rw [if_neg hb]
    have h55 : ¬ (zl_g T n a = 84 ∧ zl_b T n (a + 1) = 35) → zw (f_Tk_readToken_55 h (zl_b T n a)) (zl_KT L (zl_nm T n (zl_tk T n a).2.1 (zl_tk T n a).2.2.1) s h (zl_tk T n a)) := by
      intro q
      unfold f_Tk_readToken_55 f_Tk_readToken_84 zl_tk
      rw [if_neg c0, if_neg q]
      by_cases d1 : f_Nm_isLetter (zl_b T n a) = 0
      · rw [if_pos d1, if_neg (show ¬ ¬ f_Mo_isLetter (zl_g T n a) = 0 from not_not_intro ((zl_cL _).mpr d1))]
        by_cases d2 : f_Mo_isDigit (zl_g T n a) = 0
        · have d3 := (zl_cD _).mp d2
          rw [if_neg (not_not_intro d2)]
          have h84 : zw (if zl_b T n a = 37 then (zd_B (f_Tk_readPlace h) fun v7 h8 => (some (v7, h8))) else (zd_B (f_Tk_readSign h (zl_b T n a)) fun v3 h4 => (some (v3, h4)))) (zl_KT L (zl_nm T n (if zl_g T n a = 37 then zl_pl T n a else zl_sn T n a).2.1 (if zl_g T n a = 37 then zl_pl T n a else zl_sn T n a).2.2.1) s h (if zl_g T n a = 37 then zl_pl T n a else zl_sn T n a)) := by
            by_cases d4 : zl_b T n a = 37
            · rw [if_pos d4, if_pos (show zl_g T n a = 37 from (zl_c37 _).mpr d4)]
              exact zl_w2 (zl_cPlace H Hs hs Ha (by omega) HL)
            · rw [if_neg d4, if_neg (show ¬ zl_g T n a = 37 from fun z => d4 ((zl_c37 _).mp z))]
              exact zl_w2 (zl_cSign H Hs hs Ha (by omega) HL)
          by_cases d5 : zl_b T n a < 48
          · rw [if_pos d5]; exact h84
          · rw [if_neg d5, if_pos (d3.resolve_left d5)]; exact h84
        · have d3 : ¬ (zl_b T n a < 48 ∨ 57 < zl_b T n a) := fun z => d2 ((zl_cD _).mpr z)
          rw [if_pos d2, if_neg (show ¬ zl_b T n a < 48 from fun z => d3 (Or.inl z)), if_neg (show ¬ 57 < zl_b T n a from fun z => d3 (Or.inr z))]
          exact zl_w2 (zl_cNumber H Hs hs Ha (by omega) (by unfold zl_dp; exact decide_eq_true (zl_dp10 _ d2)) HL)
      · have d2 : ¬ f_Mo_isLetter (zl_g T n a) = 0 := fun z => d1 ((zl_cL _).mp z)
        rw [if_neg d1, if_pos d2]
        have e9 : (zl_tn T n a).2.1 = a ∧ (zl_tn T n a).2.2.1 = zl_ne T n a := by
          unfold zl_tn
          repeat' split
          all_goals exact ⟨rfl, rfl⟩
        rw [e9.1, e9.2]
        exact zl_w2 (zl_cName H Hs hs Ha (by omega) HL hN hK hL ho (by unfold zl_pt; exact decide_eq_true (zl_isLet _ d2)))
    have h35 : (zl_b T n a = 84 ∨ zl_b T n a = 116) → zw (f_Tk_readToken_35 h (zl_b T n a)) (zl_KT L (zl_nm T n (zl_tk T n a).2.1 (zl_tk T n a).2.2.1) s h (zl_tk T n a)) := by
      intro q
      unfold f_Tk_readToken_35
      rw [Ha, nI_1, zl_peek H (by omega), zw_bind, zw_some]
      by_cases c3 : zl_b T n (a + 1) = 35
      · rw [if_pos c3]
        have e98 : zl_tk T n a = zl_tm T n a := by unfold zl_tk; rw [if_neg c0, if_pos ⟨(zl_c84 _).mpr q, c3⟩]
        rw [e98]
        exact zl_w2 (zl_cTime H Hs hs Ha (by omega) HL)
      · rw [if_neg c3]; exact h55 (fun z => c3 z.2)
    by_cases c1 : zl_b T n a = 84
    · rw [if_pos c1]; exact h35 (Or.inl c1)
    · rw [if_neg c1]
      by_cases c2 : zl_b T n a = 116
      · rw [if_pos c2]; exact h35 (Or.inr c2)
      · rw [if_neg c2]; exact h55 (fun z => ((zl_c84 _).mp z.1).elim c1 c2)
/-- where the j-th token is looked for -/
def zl_bs (T : Nat → Int32) (n : Nat) : Nat → Nat
  | 0 => 0
  | j + 1 => (zl_tok T n (zl_bs T n j)).2.2.1
def zl_at (T : Nat → Int32) (n j : Nat) : zl_T := zl_tok T n (zl_bs T n j)
def zl_cn (T : Nat → Int32) (n j : Nat) : List Int32 := zl_nm T n (zl_at T n j).2.1 (zl_at T n j).2.2.1
/-- the class's first m tokens -/
def zl_CT (h : zs_H) (T : Nat → Int32) (n m : Nat) (L : List (List Int32)) : Prop :=
  (∀ j, j < m → (h.2.1 9) j = nI (zl_ck (zl_at T n j)) ∧ (h.2.1 10) j = nI (zl_at T n j).2.1 ∧ (h.2.1 11) j = nI (zl_cv (zl_at T n j) (L.idxOf (zl_cn T n j))) ∧ ((zl_at T n j).1 = 1 ∨ (zl_at T n j).1 = 2 → zl_cn T n j ∈ L)) ∧ (h.1 8 3) = nI m
def zl_J (T : Nat → Int32) (n b c : Nat) : Prop := 2 * c ≤ b + 1 ∧ (2 * c ≤ b ∨ zl_pt T n b = false)
theorem zl_idxa {L : List (List Int32)} {c d : List Int32} (h : d ∈ L) : (L ++ [c]).idxOf d = L.idxOf d := by
  rw [List.idxOf_append, if_pos h]
theorem zl_idxn {L : List (List Int32)} {c : List Int32} (h : ¬ c ∈ L) : (L ++ [c]).idxOf c = L.idxOf c := by
  rw [List.idxOf_append, if_neg h, List.idxOf_eq_length h]
  simp
theorem zl_tok_nm {T : Nat → Int32} {n b : Nat} (h : (zl_tok T n b).1 = 1 ∨ (zl_tok T n b).1 = 2) : (zl_tok T n b).2.2.1 = zl_ne T n (zl_tok T n b).2.1 ∧ (zl_tok T n b).2.1 < n ∧ zl_pt T n (zl_tok T n b).2.1 = true ∧ (zl_tok T n b).2.2.1 - (zl_tok T n b).2.1 ≤ 32 ∧ ((zl_tok T n b).1 = 2 ↔ zl_nm T n (zl_tok T n b).2.1 (zl_tok T n b).2.2.1 ∈ zl_W) ∧ ((zl_tok T n b).1 = 2 → (zl_tok T n b).2.2.2 = zl_W.idxOf (zl_nm T n (zl_tok T n b).2.1 (zl_tok T n b).2.2.1)) := by
  have hfin : ∀ a v e, ¬ ((zl_fin T n a v e).1 = 1 ∨ (zl_fin T n a v e).1 = 2) := by
    intro a v e
    unfold zl_fin
    repeat' split
    all_goals simp
  revert h
  unfold zl_tok
  by_cases c : (zl_sk T n (n - b) b).2 = true
  · rw [if_pos c]
    generalize (zl_sk T n (n - b) b).1 = a
    unfold zl_tk
    by_cases c0 : n ≤ a
    · rw [if_pos c0]; intro h; simp at h
    rw [if_neg c0]
    by_cases c1 : zl_g T n a = 84 ∧ zl_b T n (a + 1) = 35
    · rw [if_pos c1]; intro h; exact absurd h (by unfold zl_tm; exact hfin _ _ _)
    rw [if_neg c1]
    by_cases c2 : ¬ f_Mo_isLetter (zl_g T n a) = 0
    · rw [if_pos c2]
      intro h
      have hp : zl_pt T n a = true := by unfold zl_pt; exact decide_eq_true (zl_isLet _ c2)
      unfold zl_tn at h ⊢
      by_cases d1 : 32 < zl_ne T n a - a
      · rw [if_pos d1] at h; simp at h
      rw [if_neg d1] at h ⊢
      by_cases d2 : zl_nm T n a (zl_ne T n a) ∈ zl_W
      · rw [if_pos d2]; exact ⟨rfl, by show a < n; omega, hp, by show zl_ne T n a - a ≤ 32; omega, ⟨fun _ => d2, fun _ => rfl⟩, fun _ => rfl⟩
      · rw [if_neg d2]; exact ⟨rfl, by show a < n; omega, hp, by show zl_ne T n a - a ≤ 32; omega, ⟨fun q => absurd q (by simp), fun q => absurd q d2⟩, fun q => absurd q (by simp)⟩
    rw [if_neg c2]
    by_cases c3 : ¬ f_Mo_isDigit (zl_g T n a) = 0
    · rw [if_pos c3]
      intro h
      unfold zl_nb at h
      exfalso
      revert h
      repeat' split
      all_goals first | exact hfin _ _ _ | simp
    rw [if_neg c3]
    by_cases c4 : zl_g T n a = 37
    · rw [if_pos c4]
      intro h
      unfold zl_pl at h
      exfalso
      revert h
      repeat' split
      all_goals simp
    · rw [if_neg c4]
      intro h
      unfold zl_sn at h
      exfalso
      revert h
      repeat' split
      all_goals simp
  · rw [if_neg c]; intro h; simp at h
theorem zl_KT_pre {L : List (List Int32)} {c : List Int32} {s : Nat} {h h1 : zs_H} {t : zl_T} {p : Int32 × zs_H} (f : zfr [(8, 7)] [] [] h h1) (q : zl_KT L c s h1 t p) : zl_KT L c s h t p := by
  obtain ⟨q1, q2, q3, q4, q5, q6, q7, q8⟩ := q
  refine ⟨q1, q2, fun j => ?_, fun j => ?_, fun j => ?_, q6, q7, zfr_trans (zfr_w f (by decide) (by decide) (by decide)) q8⟩
  · rw [q3 j, f.2.1 _ (by decide)]
  · rw [q4 j, f.2.1 _ (by decide)]
  · rw [q5 j, f.2.1 _ (by decide)]
def zl_I (h : zs_H) (T : Nat → Int32) (n j : Nat) (L : List (List Int32)) : Prop :=
  zl_CT h T n j L ∧ zn_C h L ∧ L.Nodup ∧ L.take 75 = zk_K ∧ 75 ≤ L.length
theorem zl_I_s {h : zs_H} {T : Nat → Int32} {n j : Nat} {L : List (List Int32)} {p : Int32 × zs_H} (HI : zl_I h T n j L) (q : zl_KT L (zl_cn T n j) j h (zl_at T n j) p) : zl_I p.2 T n (j + 1) (if ((zl_at T n j).1 = 1 ∨ (zl_at T n j).1 = 2) ∧ ¬ zl_cn T n j ∈ L then L ++ [zl_cn T n j] else L) := by
  obtain ⟨q1, q2, q3, q4, q5, q6, q7, q8⟩ := q
  obtain ⟨i1, i2, i3, i4, i5⟩ := HI
  have hx : ∀ d, d ∈ L → (if ((zl_at T n j).1 = 1 ∨ (zl_at T n j).1 = 2) ∧ ¬ zl_cn T n j ∈ L then L ++ [zl_cn T n j] else L).idxOf d = L.idxOf d := by
    intro d hd
    split
    · exact zl_idxa hd
    · rfl
  refine ⟨⟨fun i hi => ?_, q2⟩, q7, ?_, ?_, ?_⟩
  · by_cases ei : i = j
    · subst ei
      refine ⟨by rw [q3, if_pos rfl], by rw [q4, if_pos rfl], ?_, fun z => ?_⟩
      · rw [q5, if_pos rfl]
        congr 1
        by_cases z : (zl_at T n i).1 = 1 ∨ (zl_at T n i).1 = 2
        · by_cases y : zl_cn T n i ∈ L
          · rw [hx _ y]
          · rw [if_pos ⟨z, y⟩, zl_idxn y]
        · rw [if_neg (fun w => z w.1)]
      · by_cases y : zl_cn T n i ∈ L
        · rw [if_neg (fun w => w.2 y)]; exact y
        · rw [if_pos ⟨z, y⟩]; exact List.mem_append_right _ (List.mem_singleton.mpr rfl)
    · obtain ⟨j1, j2, j3, j4⟩ := i1.1 i (by omega)
      refine ⟨by rw [q3, if_neg ei]; exact j1, by rw [q4, if_neg ei]; exact j2, ?_, fun z => ?_⟩
      · rw [q5, if_neg ei, j3]
        congr 1
        by_cases z : (zl_at T n i).1 = 1 ∨ (zl_at T n i).1 = 2
        · rw [hx _ (j4 z)]
        · unfold zl_cv; rw [if_neg z, if_neg z]
      · have := j4 z
        split
        · exact List.mem_append_left _ this
        · exact this
  · split
    · rename_i z
      refine List.nodup_append.mpr ⟨i3, List.nodup_cons.mpr ⟨List.not_mem_nil, List.nodup_nil⟩, fun a ha b hb e => ?_⟩
      rw [List.mem_singleton.mp hb] at e
      exact z.2 (e ▸ ha)
    · exact i3
  · split
    · rw [List.take_append_of_le_length i5]; exact i4
    · exact i4
  · split
    · rw [List.length_append]; omega
    · exact i5
theorem zl_rd {n : Nat} {T : Nat → Int32} (hn : n ≤ 10240) : ∀ m j fuel (h : zs_H) (L : List (List Int32)), n ≤ zl_bs T n j + m → m + 1 < fuel → zl_Y h T n → zl_I h T n j L → (h.1 8 7) = nI (zl_bs T n j) → zl_bs T n j ≤ n → zl_J T n (zl_bs T n j) (L.length - 75) → zn_o L L.length ≤ 330 + zl_bs T n j → j ≤ zl_bs T n j →
    zw (f_Tk_read_c1_L25 fuel h 1 (nI j)) (fun h' => ∃ k L', j ≤ k ∧ k ≤ n ∧ zl_I h' T n (k + 1) L' ∧ (∀ i, j ≤ i → i < k → ¬ ((zl_at T n i).1 = 0 ∨ (zl_at T n i).1 = 9)) ∧ ((zl_at T n k).1 = 0 ∨ (zl_at T n k).1 = 9) ∧ zfr [(2, 5), (8, 3), (8, 7)] [4, 5, 6, 7, 9, 10, 11] [] h h') := by
  intro m
  induction m using Nat.strongRecOn with
  | ind m ih =>
    intro j fuel h L h1 h2 H HI Ha hb HJ ho hj
    obtain ⟨f, rfl⟩ : ∃ f, fuel = f + 2 := ⟨fuel - 2, by omega⟩
    obtain ⟨i1, i2, i3, i4, i5⟩ := HI
    have hJ := HJ.1
    have hTok := zl_tok_kd (n := n) (b := zl_bs T n j) H.2.2.2.1 hb
    have hlast : ∀ (t : Int32) (g : zs_H), f_Tk_read_c1_L25 (f + 1) g 0 t = some g := by
      intro t g
      show f_Tk_read_c1_25 (f_Tk_read_c1_L25 f) g 0 t = _
      unfold f_Tk_read_c1_25
      rw [if_pos rfl]
      split <;> rfl
    have fin : ∀ p : Int32 × zs_H, zl_KT L (zl_cn T n j) j h (zl_at T n j) p → ((zl_at T n j).1 = 0 ∨ (zl_at T n j).1 = 9) → zw (f_Tk_read_c1_55 (f_Tk_read_c1_L25 (f + 1)) p.2 (nI j)) (fun h' => ∃ k L', j ≤ k ∧ k ≤ n ∧ zl_I h' T n (k + 1) L' ∧ (∀ i, j ≤ i → i < k → ¬ ((zl_at T n i).1 = 0 ∨ (zl_at T n i).1 = 9)) ∧ ((zl_at T n k).1 = 0 ∨ (zl_at T n k).1 = 9) ∧ zfr [(2, 5), (8, 3), (8, 7)] [4, 5, 6, 7, 9, 10, 11] [] h h') := by
      intro p q z
      unfold f_Tk_read_c1_55 f_Tk_read_c1_56
      rw [hlast, zw_some]
      exact ⟨j, _, Nat.le_refl j, by omega, zl_I_s ⟨i1, i2, i3, i4, i5⟩ q, fun i h3 h4 => by omega, z, q.2.2.2.2.2.2.2⟩
    show zw (f_Tk_read_c1_25 (f_Tk_read_c1_L25 (f + 1)) h 1 (nI j)) _
    unfold f_Tk_read_c1_25
    rw [if_neg (mt (zc_lt (k := 16384) (by decide) (by omega)).mp (by omega)), if_neg (by decide), zl_skipBlanks H Ha hb]
    have hs := zl_sk_le (T := T) (n := n) (n - zl_bs T n j) (zl_bs T n j) hb
    have hF : zfr [(8, 7)] [] [] h (zs_uF h 8 7 (nI (zl_sk T n (n - zl_bs T n j) (zl_bs T n j)).1)) := zfr_F (by decide) zfr_rfl
    have hC : zn_C (zs_uF h 8 7 (nI (zl_sk T n (n - zl_bs T n j) (zl_bs T n j)).1)) L := zn_C_fr hF (by decide) (by decide) (by decide) (by decide) (by decide) i2
    by_cases c0 : (zl_sk T n (n - zl_bs T n j) (zl_bs T n j)).2 = true
    · have et : zl_at T n j = zl_tk T n (zl_sk T n (n - zl_bs T n j) (zl_bs T n j)).1 := by
        unfold zl_at zl_tok; rw [if_pos c0]
      rw [if_pos c0, zw_B, zw_some]
      dsimp only
      rw [if_neg (by decide), zw_B]
      refine zw_mono (zl_cTok (h := zs_uF h 8 7 (nI (zl_sk T n (n - zl_bs T n j) (zl_bs T n j)).1)) (n := n) (s := j) (L := L) H i1.2 (by omega) rfl hs.1 hC i3 i4 (by omega) (by omega)) fun p q => ?_
      have q' : zl_KT L (zl_cn T n j) j h (zl_at T n j) p := by
        unfold zl_cn
        rw [et]
        exact zl_KT_pre hF q
      have qq := q'
      obtain ⟨q1, q2, q3, q4, q5, q6, q7, q8⟩ := q'
      by_cases z : (zl_at T n j).1 = 0 ∨ (zl_at T n j).1 = 9
      · rw [q1, if_pos z, if_pos rfl]; exact fin p qq z
      · rw [q1, if_neg z, if_neg (by decide)]
        unfold f_Tk_read_c1_56
        rw [nI_1]
        have hk := hTok.2.2.2.1 z
        have hk1 := hTok.1
        have hbs : zl_bs T n (j + 1) = (zl_at T n j).2.2.1 := rfl
        have hat : (zl_at T n j) = zl_tok T n (zl_bs T n j) := rfl
        rw [← hat] at hk hk1
        have hY : zl_Y p.2 T n := by
          obtain ⟨y1, y2, y3, y4, y5⟩ := H
          refine ⟨(q8.1 _ _ (by decide)).trans y1, y2, ?_, y4, ?_⟩
          · rw [q8.1 _ _ (by decide)]; exact y3
          · rw [q8.2.1 _ (by decide)]; exact y5
        have hI' := zl_I_s ⟨i1, i2, i3, i4, i5⟩ qq
        have hsub : ∀ L2 : List (List Int32), L2 = (if ((zl_at T n j).1 = 1 ∨ (zl_at T n j).1 = 2) ∧ ¬ zl_cn T n j ∈ L then L ++ [zl_cn T n j] else L) → zl_J T n (zl_bs T n (j + 1)) (L2.length - 75) ∧ zn_o L2 L2.length ≤ 330 + zl_bs T n (j + 1) := by
          intro L2 e2
          rw [hbs]
          by_cases y : ((zl_at T n j).1 = 1 ∨ (zl_at T n j).1 = 2) ∧ ¬ zl_cn T n j ∈ L
          · rw [if_pos y] at e2
            subst e2
            obtain ⟨t1, t2, t3, t4, t5, t6⟩ := zl_tok_nm (T := T) (n := n) (b := zl_bs T n j) y.1
            rw [← hat] at t1 t2 t3 t4
            have e3 : (L ++ [zl_cn T n j]).length = L.length + 1 := by rw [List.length_append]; rfl
            have e4 : ((L ++ [zl_cn T n j]).getD L.length []).length = (zl_at T n j).2.2.1 - (zl_at T n j).2.1 := by
              rw [List.getD_eq_getElem?_getD, List.getElem?_append_right (Nat.le_refl _), Nat.sub_self]
              show (zl_cn T n j).length = _
              unfold zl_cn; rw [zl_nm_len]
            have hne := zl_ne_le (T := T) (n := n) (a := (zl_at T n j).2.1) (by omega)
            rw [← t1] at hne
            rw [e3, zn_o_s (by rw [e3]; omega), zn_o_app (Nat.le_refl _), e4]
            refine ⟨⟨?_, Or.inr hne.2.2.1⟩, by omega⟩
            rcases HJ.2 with w | w
            · omega
            · have : ¬ (zl_at T n j).2.1 = zl_bs T n j := fun e5 => by rw [e5, w] at t3; exact absurd t3 (by decide)
              omega
          · rw [if_neg y] at e2
            subst e2
            exact ⟨⟨by omega, Or.inl (by omega)⟩, by omega⟩
        have hs2 := hsub _ rfl
        refine zw_mono (ih (m - 1) (by omega) (j + 1) (f + 1) p.2 _ (by rw [hbs]; omega) (by omega) hY hI' (q6 z) (by rw [hbs]; omega) hs2.1 hs2.2 (by rw [hbs]; omega)) fun h' w => ?_
        obtain ⟨k, L', w1, w2, w3, w4, w5, w6⟩ := w
        refine ⟨k, L', by omega, w2, w3, fun i h3 h4 => ?_, w5, zfr_trans q8 w6⟩
        by_cases ei : i = j
        · rw [ei]; exact z
        · exact w4 i (by omega) h4
    · have et : zl_at T n j = (9, (zl_sk T n (n - zl_bs T n j) (zl_bs T n j)).1, (zl_sk T n (n - zl_bs T n j) (zl_bs T n j)).1, 2) := by
        unfold zl_at zl_tok; rw [if_neg c0]
      rw [if_neg c0, zw_B]
      refine zw_mono (zl_w2 (zl_refuse (h := zs_uF h 8 7 (nI (zl_sk T n (n - zl_bs T n j) (zl_bs T n j)).1)) (w := 2) (e := (zl_sk T n (n - zl_bs T n j) (zl_bs T n j)).1) (c := zl_cn T n j) (s := j) i1.2 (by omega) rfl (by omega) hC)) fun p q => ?_
      rw [← et] at q
      have q' := zl_KT_pre hF q
      have z : (zl_at T n j).1 = 0 ∨ (zl_at T n j).1 = 9 := Or.inr (by rw [et])
      rw [q'.1, if_pos z, if_pos rfl]
      exact fin p q' z
end
section
/-! The class reads a text. -/
theorem zk_Ko2 : zn_o zk_K zk_K.length ≤ 330 := by decide +kernel
theorem zl_read {h : zs_H} {n : Nat} (hn : n ≤ 10240) (hT : ∀ i, zb_ok ((h.2.1 1) i)) (HC : zn_C h zk_K) : zw (f_Tk_read_c1 h (nI n)) (fun h' => ∃ k L, k ≤ n ∧ zl_I h' (h.2.1 1) n (k + 1) L ∧ (∀ i, i < k → ¬ ((zl_at (h.2.1 1) n i).1 = 0 ∨ (zl_at (h.2.1 1) n i).1 = 9)) ∧ ((zl_at (h.2.1 1) n k).1 = 0 ∨ (zl_at (h.2.1 1) n k).1 = 9) ∧ zfr [(2, 5), (8, 3), (8, 7), (8, 5), (8, 6)] [4, 5, 6, 7, 9, 10, 11] [] h h') := by
  unfold f_Tk_read_c1
  have f0 : zfr [(2, 5), (8, 3), (8, 7), (8, 5), (8, 6)] [4, 5, 6, 7, 9, 10, 11] [] h (zs_uF (zs_uF (zs_uF (zs_uF h 8 5 1) 8 6 (nI n)) 8 7 0) 8 3 0) := zfr_F (by decide) (zfr_F (by decide) (zfr_F (by decide) (zfr_F (by decide) zfr_rfl)))
  have hI : zl_I (zs_uF (zs_uF (zs_uF (zs_uF h 8 5 1) 8 6 (nI n)) 8 7 0) 8 3 0) (h.2.1 1) n 0 zk_K := by
    refine ⟨⟨fun j hj => absurd hj (Nat.not_lt_zero j), rfl⟩, ?_, zk_Kn, ?_, ?_⟩
    · exact zn_C_fr (zfr_F (fs := [(8, 3), (8, 7), (8, 5), (8, 6)]) (ms := []) (ls := []) (by decide) (zfr_F (by decide) (zfr_F (by decide) (zfr_F (by decide) zfr_rfl)))) (by decide) (by decide) (by decide) (by decide) (by decide) HC
    · exact List.take_of_length_le (by rw [zk_Kl]; exact Nat.le_refl _)
    · rw [zk_Kl]; exact Nat.le_refl _
  refine zw_mono (zl_rd (T := (h.2.1 1)) hn n 0 zF (zs_uF (zs_uF (zs_uF (zs_uF h 8 5 1) 8 6 (nI n)) 8 7 0) 8 3 0) zk_K (by omega) (by have := zF_big; omega) ⟨rfl, by omega, (show ¬ (1 : Int32) = 0 by decide), hT, rfl⟩ hI rfl (Nat.zero_le n) ?_ ?_ (Nat.le_refl 0)) fun h' q => ?_
  · rw [zk_Kl]; exact ⟨by omega, Or.inl (by omega)⟩
  · have := zk_Ko2; omega
  · obtain ⟨k, L, q1, q2, q3, q4, q5, q6⟩ := q
    exact ⟨k, L, q2, q3, fun i hi => q4 i (Nat.zero_le i) hi, q5, zfr_trans f0 (zfr_w q6 (by decide) (by decide) (by decide))⟩
end
section
/-! Trees in arrays. -/
abbrev zt_T : Type := Std.DTreeMap.Internal.Impl (Int32 × Int32) (fun _ => Unit)
/-- one node, with what is below it -/
def zt_n (kd : Nat) (p v : Int32) (l : zt_T) : zt_T := .inner kd (p, v) () l .leaf
def zt_ap : zt_T → zt_T → zt_T
  | .leaf, u => u
  | .inner s k v l r, u => .inner s k v l (zt_ap r u)
theorem zt_ap_leaf : ∀ t : zt_T, zt_ap t .leaf = t := by
  intro t
  induction t with
  | leaf => rfl
  | inner s k v l r ihl ihr => show Std.DTreeMap.Internal.Impl.inner s k v l (zt_ap r .leaf) = _; rw [ihr]
theorem zt_ap_as : ∀ t u w : zt_T, zt_ap (zt_ap t u) w = zt_ap t (zt_ap u w) := by
  intro t u w
  induction t with
  | leaf => rfl
  | inner s k v l r ihl ihr => show Std.DTreeMap.Internal.Impl.inner s k v l (zt_ap (zt_ap r u) w) = Std.DTreeMap.Internal.Impl.inner s k v l (zt_ap r (zt_ap u w)); rw [ihr]
/-- a forest: N says what a node's own fields are, A is the first below, B the one beside -/
def zt_G (N : Nat → Nat → Int32 × Int32 → Int32 → Int32 → Prop) (A B : Nat → Int32) : zt_T → (Nat → Prop) → Int32 → Int32 → Int32 → Prop
  | .leaf, _, _, x, y => x = -1 ∧ y = -1
  | .inner kd k _ l r, P, up, x, y => ∃ (i : Nat) (P1 P2 : Nat → Prop) (z1 z2 : Int32), P i ∧ i < 40000 ∧ x = nI i ∧ N i kd k up z1 ∧ (∀ j, P1 j → P j ∧ ¬ j = i ∧ ¬ P2 j) ∧ (∀ j, P2 j → P j ∧ ¬ j = i) ∧ zt_G N A B l P1 (nI i) (A i) z1 ∧ zt_G N A B r P2 up (B i) z2 ∧ y = if z2 = -1 then x else z2
theorem zt_fr {N N' : Nat → Nat → Int32 × Int32 → Int32 → Int32 → Prop} {A A' B B' : Nat → Int32} : ∀ (t : zt_T) (P P' : Nat → Prop) (up x y : Int32), (∀ i, P i → (∀ kd k up z, N i kd k up z → N' i kd k up z) ∧ A' i = A i ∧ B' i = B i) → (∀ i, P i → P' i) → zt_G N A B t P up x y → zt_G N' A' B' t P' up x y := by
  intro t
  induction t with
  | leaf => intro P P' up x y _ _ h; exact h
  | inner kd k v l r ihl ihr =>
    intro P P' up x y h hP q
    obtain ⟨i, P1, P2, z1, z2, q1, q2, q3, q4, q5, q6, q7, q8, q9⟩ := q
    obtain ⟨a1, a2, a3⟩ := h i q1
    refine ⟨i, P1, P2, z1, z2, hP i q1, q2, q3, a1 _ _ _ _ q4, fun j hj => ⟨hP j (q5 j hj).1, (q5 j hj).2⟩, fun j hj => ⟨hP j (q6 j hj).1, (q6 j hj).2⟩, ?_, ?_, q9⟩
    · rw [a2]; exact ihl P1 P1 _ _ _ (fun j hj => h j (q5 j hj).1) (fun _ z => z) q7
    · rw [a3]; exact ihr P2 P2 _ _ _ (fun j hj => h j (q6 j hj).1) (fun _ z => z) q8
theorem zt_last {N : Nat → Nat → Int32 × Int32 → Int32 → Int32 → Prop} {A B : Nat → Int32} : ∀ (t : zt_T) (P : Nat → Prop) (up x y : Int32), zt_G N A B t P up x y → (t = .leaf ∧ x = -1 ∧ y = -1) ∨ (∃ i j, P i ∧ i < 40000 ∧ x = nI i ∧ P j ∧ j < 40000 ∧ y = nI j) := by
  intro t
  induction t with
  | leaf => intro P up x y q; exact Or.inl ⟨rfl, q.1, q.2⟩
  | inner kd k v l r ihl ihr =>
    intro P up x y q
    obtain ⟨i, P1, P2, z1, z2, q1, q2, q3, q4, q5, q6, q7, q8, q9⟩ := q
    refine Or.inr ⟨i, ?_⟩
    rcases ihr P2 up _ _ q8 with ⟨_, _, e⟩ | ⟨i2, j, _, _, _, j1, j2, j3⟩
    · rw [if_pos e] at q9
      exact ⟨i, q1, q2, q3, q1, q2, q9.trans q3⟩
    · rw [if_neg (by rw [j3]; exact zc_m1 (by omega))] at q9
      exact ⟨j, q1, q2, q3, (q6 j j1).1, j2, q9.trans j3⟩
/-- a forest is hung behind another one -/
theorem zt_app {N N' : Nat → Nat → Int32 × Int32 → Int32 → Int32 → Prop} {A A' B B' : Nat → Int32} {j : Nat} {x2 y2 up : Int32} {u : zt_T} {Q : Nat → Prop} (hj : j < 40000) (hB : B' j = x2) (hA : ∀ i, A' i = A i) (hBo : ∀ i, ¬ i = j → B' i = B i) (hN : ∀ i kd k up z, N i kd k up z → N' i kd k up z) (hu : zt_G N A B u Q up x2 y2) (hy : ¬ y2 = -1) (hQ : ¬ Q j) : ∀ (t : zt_T) (P : Nat → Prop) (x : Int32), (∀ i, P i → ¬ Q i) → zt_G N A B t P up x (nI j) → zt_G N' A' B' (zt_ap t u) (fun i => P i ∨ Q i) up x y2 := by
  intro t
  induction t with
  | leaf => intro P x _ q; exact absurd q.2 (zc_m1 (by omega))
  | inner kd k v l r ihl ihr =>
    intro P x hPQ q
    obtain ⟨i, P1, P2, z1, z2, q1, q2, q3, q4, q5, q6, q7, q8, q9⟩ := q
    by_cases e : z2 = -1
    · rw [if_pos e, q3] at q9
      have eij : j = i := (nI_eq (by omega) (by omega)).mp q9
      have er : r = .leaf := by
        rcases zt_last r P2 up _ _ q8 with ⟨w, _, _⟩ | ⟨_, j', _, _, _, _, w2, w3⟩
        · exact w
        · rw [e] at w3; exact absurd w3.symm (zc_m1 (by omega))
      subst er
      refine ⟨i, P1, Q, z1, y2, Or.inl q1, q2, q3, hN _ _ _ _ _ q4, fun a ha => ⟨Or.inl (q5 a ha).1, (q5 a ha).2.1, fun z => hPQ a (q5 a ha).1 z⟩, fun a ha => ⟨Or.inr ha, fun z => hPQ i q1 (z ▸ ha)⟩, ?_, ?_, by rw [if_neg hy]⟩
      · rw [hA]; exact zt_fr l P1 P1 _ _ _ (fun a ha => ⟨fun _ _ _ _ z => hN _ _ _ _ _ z, hA a, hBo a (fun z => (q5 a ha).2.1 (z.trans eij))⟩) (fun _ z => z) q7
      · rw [← eij, hB]; exact zt_fr u Q Q _ _ _ (fun a ha => ⟨fun _ _ _ _ z => hN _ _ _ _ _ z, hA a, hBo a (fun z => hQ (z ▸ ha))⟩) (fun _ z => z) hu
    · rw [if_neg e] at q9
      have hr := ihr P2 (B i) (fun a ha => hPQ a (q6 a ha).1) (by rw [q9]; exact q8)
      have hjP : P2 j := by
        rcases zt_last r P2 up _ _ q8 with ⟨_, _, w⟩ | ⟨_, j', _, _, _, w1, w2, w3⟩
        · exact absurd w e
        · rw [← q9] at w3
          have := (nI_eq (by omega) (by omega)).mp w3
          rw [this]; exact w1
      have hij : ¬ i = j := fun z => (q6 j hjP).2 z.symm
      refine ⟨i, P1, fun a => P2 a ∨ Q a, z1, y2, Or.inl q1, q2, q3, hN _ _ _ _ _ q4, fun a ha => ⟨Or.inl (q5 a ha).1, (q5 a ha).2.1, fun z => z.elim (q5 a ha).2.2 (hPQ a (q5 a ha).1)⟩, fun a ha => ha.elim (fun z => ⟨Or.inl (q6 a z).1, (q6 a z).2⟩) (fun z => ⟨Or.inr z, fun w => hPQ i q1 (w ▸ z)⟩), ?_, ?_, by rw [if_neg hy]⟩
      · rw [hA]; exact zt_fr l P1 P1 _ _ _ (fun a ha => ⟨fun _ _ _ _ z => hN _ _ _ _ _ z, hA a, hBo a (fun z => (q5 a ha).2.2 (z ▸ hjP))⟩) (fun _ z => z) q7
      · rw [hBo i hij]; exact hr
theorem zt_app0 (u : zt_T) : zt_ap .leaf u = u := rfl
/-- the class's nodes, the model's nodes -/
def zt_NC (h : zs_H) (i kd : Nat) (k : Int32 × Int32) (_up _z : Int32) : Prop := (h.2.1 13) i = nI kd ∧ (h.2.1 15) i = k.1 ∧ (h.2.1 16) i = k.2
def zt_km (kd : Nat) : Nat := if kd = 37 then 6 else if kd = 38 then 6 else kd
def zt_nk (kd : Nat) : Bool := [1, 2, 3, 6, 37, 38, 10, 13, 14, 19, 32, 33, 34].elem kd
/-- a name's numbers in the class and in the model -/
def zt_nr (LC LM : List (List Int32)) (v w : Int32) : Prop := ∃ c k : Nat, v = nI c ∧ w = nI k ∧ 41 ≤ c ∧ c < LC.length ∧ k < LM.length ∧ LC.getD c [] = LM.getD k []
def zt_NM (LC LM : List (List Int32)) (g : zs_H) (i kd : Nat) (k : Int32 × Int32) (up z : Int32) : Prop := (g.2.1 72) i = nI (zt_km kd) ∧ (¬ kd = 11 → (g.2.1 73) i = k.1) ∧ (if zt_nk kd = true then zt_nr LC LM k.2 ((g.2.1 74) i) else (g.2.1 74) i = k.2) ∧ (g.2.1 75) i = up ∧ (g.2.1 77) i = z
def zt_C (h : zs_H) (t : zt_T) (P : Nat → Prop) (x y : Int32) : Prop := zt_G (zt_NC h) ((h.2.1 17)) ((h.2.1 18)) t P 0 x y
def zt_M (LC LM : List (List Int32)) (g : zs_H) (t : zt_T) (P : Nat → Prop) (up x y : Int32) : Prop := zt_G (zt_NM LC LM g) ((g.2.1 76)) ((g.2.1 78)) t P up x y
end
