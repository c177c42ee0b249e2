/-! The class's names. -/
theorem zm_1023 (x : Int32) : ∃ k : Nat, k < 1024 ∧ x &&& 1023 = nI k := by
  refine ⟨x.toBitVec.toNat % 1024, Nat.mod_lt _ (by decide), ?_⟩
  apply Int32.toBitVec_inj.mp
  show x.toBitVec &&& 1023#32 = BitVec.ofNat 32 (x.toBitVec.toNat % 1024)
  apply BitVec.eq_of_toNat_eq
  rw [BitVec.toNat_and]
  show x.toBitVec.toNat &&& (2 ^ 10 - 1) = _
  rw [Nat.and_two_pow_sub_one_eq_mod, BitVec.toNat_ofNat, Nat.mod_eq_of_lt (a := x.toBitVec.toNat % 1024)]
  have := Nat.mod_lt x.toBitVec.toNat (show 1024 > 0 by decide)
  omega
def zn_hl (c : List Int32) : Int32 := c.foldl (fun s x => s * 31 + x) (nI c.length)
def zn_hh (c : List Int32) : Int32 := (zn_hl c ^^^ (((zn_hl c).toUInt32 >>> ((11 : Int32).toUInt32 &&& Int32.toUInt32 31)).toInt32)) &&& 1023
def zn_h (c : List Int32) : Nat := (zn_hh c).toNatClampNeg
theorem zn_hf (c : List Int32) : zn_h c < 1024 ∧ zn_hh c = nI (zn_h c) := by
  obtain ⟨k, hk, e⟩ := zm_1023 (zn_hl c ^^^ (((zn_hl c).toUInt32 >>> ((11 : Int32).toUInt32 &&& Int32.toUInt32 31)).toInt32))
  have e' : zn_hh c = nI k := e
  have e2 : zn_h c = k := by unfold zn_h; rw [e']; exact nI_clamp (by omega)
  rw [e2]; exact ⟨hk, e'⟩
/-- the great letters of a stretch of an array -/
def zn_rc (T : Nat → Int32) (a len : Nat) : List Int32 := (List.range len).map fun i => f_Nm_great (T (a + i))
theorem zn_rc_len {T : Nat → Int32} {a len : Nat} : (zn_rc T a len).length = len := by unfold zn_rc; rw [List.length_map, List.length_range]
theorem zn_rc_at {T : Nat → Int32} {a len i : Nat} (h : i < len) : (zn_rc T a len).getD i 0 = f_Nm_great (T (a + i)) := by
  unfold zn_rc
  rw [List.getD_eq_getElem?_getD, List.getElem?_map, List.getElem?_range h]; rfl
theorem zn_rc_eq {T : Nat → Int32} {a len : Nat} {d : List Int32} : zn_rc T a len = d ↔ d.length = len ∧ ∀ i, i < len → f_Nm_great (T (a + i)) = d.getD i 0 := by
  constructor
  · rintro rfl
    exact ⟨zn_rc_len, fun i h => (zn_rc_at h).symm⟩
  · rintro ⟨h1, h2⟩
    refine zl_ext (by rw [zn_rc_len, h1]) fun i h => ?_
    rw [zn_rc_len] at h
    rw [zn_rc_at h, h2 i h]
def zn_hs (T : Nat → Int32) (a len : Nat) : Nat → Int32
  | 0 => nI len
  | i + 1 => zn_hs T a len i * 31 + f_Nm_great (T (a + i))
theorem zn_hs_hl (T : Nat → Int32) (a len : Nat) : zn_hs T a len len = zn_hl (zn_rc T a len) := by
  have key : ∀ i, zn_hs T a len i = ((List.range i).map fun i => f_Nm_great (T (a + i))).foldl (fun s x => s * 31 + x) (nI len) := by
    intro i
    induction i with
    | zero => rfl
    | succ i ih => rw [List.range_succ, List.map_append, List.foldl_append, ← ih]; rfl
  rw [key len]
  unfold zn_hl
  rw [zn_rc_len]; rfl
/-- where the letters of a name begin -/
def zn_o (L : List (List Int32)) (k : Nat) : Nat := ((L.take k).map List.length).sum
theorem zn_o_s {L : List (List Int32)} {k : Nat} (hk : k < L.length) : zn_o L (k + 1) = zn_o L k + (L.getD k []).length := by
  unfold zn_o
  rw [List.take_succ, List.getElem?_eq_getElem hk, List.map_append, List.sum_append, List.getD_eq_getElem?_getD, List.getElem?_eq_getElem hk]
  rfl
theorem zn_o_app {L : List (List Int32)} {c : List Int32} {k : Nat} (hk : k ≤ L.length) : zn_o (L ++ [c]) k = zn_o L k := by
  unfold zn_o
  rw [List.take_append_of_le_length hk]
theorem zn_o_mono {L : List (List Int32)} : ∀ d k, k + d ≤ L.length → zn_o L k ≤ zn_o L (k + d) := by
  intro d
  induction d with
  | zero => intro k _; exact Nat.le_refl _
  | succ d ih => intro k h; have h1 := ih k (by omega); have h2 := zn_o_s (L := L) (k := k + d) (by omega); rw [show k + (d + 1) = k + d + 1 by omega]; omega
/-- the last one before of those in a row of heads -/
def zn_pv (L : List (List Int32)) (b : Nat) : Nat → Int32
  | 0 => -1
  | k + 1 => if zn_h (L.getD k []) = b then nI k else zn_pv L b k
theorem zn_pv_ex {L : List (List Int32)} {b : Nat} : ∀ m, (zn_pv L b m = -1 ∧ ∀ j, j < m → ¬ zn_h (L.getD j []) = b) ∨ ∃ j, j < m ∧ zn_pv L b m = nI j ∧ zn_h (L.getD j []) = b ∧ ∀ i, j < i → i < m → ¬ zn_h (L.getD i []) = b := by
  intro m
  induction m with
  | zero => exact Or.inl ⟨rfl, fun j h => by omega⟩
  | succ m ih =>
    by_cases c : zn_h (L.getD m []) = b
    · exact Or.inr ⟨m, by omega, if_pos c, c, fun i h1 h2 => by omega⟩
    · have e : zn_pv L b (m + 1) = zn_pv L b m := if_neg c
      rcases ih with ⟨h1, h2⟩ | ⟨j, h1, h2, h3, h4⟩
      · refine Or.inl ⟨e.trans h1, fun j hj => ?_⟩
        by_cases ej : j = m
        · rw [ej]; exact c
        · exact h2 j (by omega)
      · refine Or.inr ⟨j, by omega, e.trans h2, h3, fun i h5 h6 => ?_⟩
        by_cases ei : i = m
        · rw [ei]; exact c
        · exact h4 i h5 (by omega)
theorem zn_pv_app {L : List (List Int32)} {c : List Int32} {b : Nat} : ∀ m, m ≤ L.length → zn_pv (L ++ [c]) b m = zn_pv L b m := by
  intro m
  induction m with
  | zero => intro _; rfl
  | succ m ih =>
    intro h
    have e : (L ++ [c]).getD m [] = L.getD m [] := by
      rw [List.getD_eq_getElem?_getD, List.getD_eq_getElem?_getD, List.getElem?_append_left (by omega)]
    unfold zn_pv
    rw [e, ih (by omega)]
def zn_C (h : zs_H) (L : List (List Int32)) : Prop :=
  (h.1 2 5) = nI L.length ∧ L.length ≤ 6000 ∧ zn_o L L.length ≤ 16789 ∧ (∀ k, k ≤ L.length → (h.2.1 5) k = nI (zn_o L k)) ∧ (∀ k, k < L.length → 1 ≤ (L.getD k []).length ∧ (L.getD k []).length ≤ 32 ∧ ∀ i, i < (L.getD k []).length → (h.2.1 4) (zn_o L k + i) = (L.getD k []).getD i 0) ∧ (∀ b, b < 1024 → (h.2.1 7) b = zn_pv L b L.length) ∧ (∀ k, k < L.length → (h.2.1 6) k = zn_pv L (zn_h (L.getD k [])) k)
theorem zn_C_fr {fs : List (Nat × Nat)} {ms ls : List Nat} {g g' : zs_H} {L : List (List Int32)} (f : zfr fs ms ls g g') (h1 : (2, 5) ∉ fs) (h2 : 5 ∉ ms) (h3 : 4 ∉ ms) (h4 : 7 ∉ ms) (h5 : 6 ∉ ms) (H : zn_C g L) : zn_C g' L := by
  unfold zn_C
  rw [f.1 _ _ h1, f.2.1 _ h2, f.2.1 _ h3, f.2.1 _ h4, f.2.1 _ h5]
  exact H
theorem zn_hdc1 {h : zs_H} {a len : Nat} (hr : a + len ≤ 16384) : ∀ m i fuel, len = i + m → m < fuel → f_Nm_headOf_c1_L5 h fuel (nI a) (nI len) (zn_hs (h.2.1 1) a len i) (nI i) = some (zn_hh (zn_rc (h.2.1 1) a len)) := by
  intro m
  induction m with
  | zero =>
    intro i fuel h1 h2
    obtain ⟨f, rfl⟩ : ∃ f, fuel = f + 1 := ⟨fuel - 1, by omega⟩
    have ei : i = len := by omega
    subst ei
    show f_Nm_headOf_c1_5 h (f_Nm_headOf_c1_L5 h f) _ _ _ _ = _
    unfold f_Nm_headOf_c1_5
    rw [if_pos (Int32.le_refl _), zn_hs_hl]
    rfl
  | succ m ih =>
    intro i fuel h1 h2
    obtain ⟨f, rfl⟩ : ∃ f, fuel = f + 1 := ⟨fuel - 1, by omega⟩
    show f_Nm_headOf_c1_5 h (f_Nm_headOf_c1_L5 h f) _ _ _ _ = _
    unfold f_Nm_headOf_c1_5
    rw [if_neg (mt (nI_leI (by omega) (by omega)).mp (by omega)), nI_add, if_pos (zi_in (by omega) (by omega)), nI_clamp (by omega), nI_1]
    exact ih (i + 1) f (by omega) (by omega)
theorem zn_headc1 {h : zs_H} {a len : Nat} (hr : a + len ≤ 16384) : f_Nm_headOf_c1 h (nI a) (nI len) = some (nI (zn_h (zn_rc (h.2.1 1) a len))) := by
  have q := zn_hdc1 (h := h) hr len 0 zF (by omega) (by have := zF_big; omega)
  rw [(zn_hf _).2] at q
  exact q
theorem zn_smc1 {h : zs_H} {a k : Nat} {L : List (List Int32)} (HL : zn_C h L) (hk : k < L.length) (hr : a + (L.getD k []).length ≤ 16384) : ∀ m i fuel, (L.getD k []).length = i + m → m < fuel → zw (f_Nm_isSame_c1_L25 h fuel (nI k) (nI a) (nI (L.getD k []).length) (nI i)) (fun v => (v = 1 ∧ ∀ j, i ≤ j → j < (L.getD k []).length → (L.getD k []).getD j 0 = f_Nm_great (h.2.1 1 (a + j))) ∨ (v = 0 ∧ ¬ ∀ j, i ≤ j → j < (L.getD k []).length → (L.getD k []).getD j 0 = f_Nm_great (h.2.1 1 (a + j)))) := by
  obtain ⟨l1, l2, l3, l4, l5, l6, l7⟩ := HL
  obtain ⟨k1, k2, k3⟩ := l5 k hk
  have ho := zn_o_s hk
  have hm := zn_o_mono (L := L) (L.length - (k + 1)) (k + 1) (by omega)
  rw [show k + 1 + (L.length - (k + 1)) = L.length by omega] at hm
  intro m
  induction m with
  | zero =>
    intro i fuel h1 h2
    obtain ⟨f, rfl⟩ : ∃ f, fuel = f + 1 := ⟨fuel - 1, by omega⟩
    show zw (f_Nm_isSame_c1_25 h (f_Nm_isSame_c1_L25 h f) _ _ _ _) _
    unfold f_Nm_isSame_c1_25
    rw [if_pos ((nI_leI (by omega) (by omega)).mpr (by omega)), zw_some]
    exact Or.inl ⟨rfl, fun j h3 h4 => by omega⟩
  | succ m ih =>
    intro i fuel h1 h2
    obtain ⟨f, rfl⟩ : ∃ f, fuel = f + 1 := ⟨fuel - 1, by omega⟩
    show zw (f_Nm_isSame_c1_25 h (f_Nm_isSame_c1_L25 h f) _ _ _ _) _
    unfold f_Nm_isSame_c1_25
    rw [if_neg (mt (nI_leI (by omega) (by omega)).mp (by omega)), if_pos (zi_in (a := k) (by omega) (by omega)), nI_clamp (n := k) (by omega), l4 k (by omega), nI_add, nI_add, if_pos (zi_in (a := zn_o L k + i) (by omega) (by omega)), if_pos (zi_in (a := a + i) (by omega) (by omega)), nI_clamp (by omega), nI_clamp (by omega), k3 i (by omega), nI_1]
    by_cases c : (L.getD k []).getD i 0 = f_Nm_great (h.2.1 1 (a + i))
    · rw [if_pos c]
      refine zw_mono (ih (i + 1) f (by omega) (by omega)) fun v q => ?_
      rcases q with ⟨q1, q2⟩ | ⟨q1, q2⟩
      · refine Or.inl ⟨q1, fun j h3 h4 => ?_⟩
        by_cases ej : j = i
        · rw [ej]; exact c
        · exact q2 j (by omega) h4
      · exact Or.inr ⟨q1, fun z => q2 fun j h3 h4 => z j (by omega) h4⟩
    · rw [if_neg c, zw_some]
      exact Or.inr ⟨rfl, fun z => c (z i (by omega) (by omega))⟩
theorem zn_samec1 {h : zs_H} {a k len : Nat} {L : List (List Int32)} (HL : zn_C h L) (hk : k < L.length) (hl : len ≤ 32) (hr : a + len ≤ 16384) : f_Nm_isSame_c1 h (nI k) (nI a) (nI len) = some (if L.getD k [] = zn_rc (h.2.1 1) a len then 1 else 0) := by
  obtain ⟨l1, l2, l3, l4, l5, l6, l7⟩ := HL
  obtain ⟨k1, k2, k3⟩ := l5 k hk
  have ho := zn_o_s hk
  have hm := zn_o_mono (L := L) (L.length - (k + 1)) (k + 1) (by omega)
  rw [show k + 1 + (L.length - (k + 1)) = L.length by omega] at hm
  unfold f_Nm_isSame_c1
  rw [nI_1, if_pos (zi_in (by omega) (by omega)), if_pos (zi_in (by omega) (by omega)), nI_clamp (by omega), nI_clamp (by omega), l4 k (by omega), l4 (k + 1) (by omega), zi_sub (by omega), show zn_o L (k + 1) - zn_o L k = (L.getD k []).length by omega]
  by_cases c : (L.getD k []).length = len
  · subst c
    rw [if_pos rfl]
    obtain ⟨v, e1, q⟩ := zn_smc1 (a := a) ⟨l1, l2, l3, l4, l5, l6, l7⟩ hk hr (L.getD k []).length 0 zF (by omega) (by have := zF_big; omega)
    rw [show (0 : Int32) = nI 0 from nI_0.symm, e1, nI_0]
    by_cases z : L.getD k [] = zn_rc (h.2.1 1) a (L.getD k []).length
    · rw [if_pos z]
      rcases q with ⟨q1, q2⟩ | ⟨q1, q2⟩
      · rw [q1]
      · exact absurd (fun j _ h4 => ((zn_rc_eq.mp z.symm).2 j h4).symm) q2
    · rw [if_neg z]
      rcases q with ⟨q1, q2⟩ | ⟨q1, q2⟩
      · exact absurd (zn_rc_eq.mpr ⟨rfl, fun i hi => (q2 i (by omega) hi).symm⟩).symm z
      · rw [q1]
  · rw [if_neg (show ¬ nI (L.getD k []).length = nI len from fun q => c ((nI_eq (by omega) (by omega)).mp q)), if_neg (show ¬ L.getD k [] = zn_rc (h.2.1 1) a len from fun q => c (by rw [q, zn_rc_len]))]
theorem zn_fdc1 {h : zs_H} {a len : Nat} {L : List (List Int32)} (HL : zn_C h L) (hl : len ≤ 32) (hr : a + len ≤ 16384) : ∀ m t fuel, m ≤ L.length → t + m ≤ L.length → m < fuel → (∀ j, m ≤ j → j < L.length → ¬ L.getD j [] = zn_rc (h.2.1 1) a len) →
    zw (f_Nm_find_c1_L41 h fuel (nI a) (nI len) (zn_pv L (zn_h (zn_rc (h.2.1 1) a len)) m) (nI t)) (fun v => (∃ j, j < L.length ∧ v = nI j ∧ L.getD j [] = zn_rc (h.2.1 1) a len) ∨ (v = -1 ∧ ∀ j, j < L.length → ¬ L.getD j [] = zn_rc (h.2.1 1) a len)) := by
  intro m
  induction m using Nat.strongRecOn with
  | ind m ih =>
    intro t fuel h1 h2 h3 h4
    have l2 := HL.2.1
    obtain ⟨f, rfl⟩ : ∃ f, fuel = f + 1 := ⟨fuel - 1, by omega⟩
    show zw (f_Nm_find_c1_41 h (f_Nm_find_c1_L41 h f) _ _ _ _) _
    unfold f_Nm_find_c1_41
    rcases zn_pv_ex (L := L) (b := zn_h (zn_rc (h.2.1 1) a len)) m with ⟨e1, e2⟩ | ⟨j, e1, e2, e3, e4⟩
    · rw [e1, if_pos (show (-1 : Int32) = -1 from rfl)]
      have fin : ∀ j, j < L.length → ¬ L.getD j [] = zn_rc (h.2.1 1) a len := by
        intro j hj q
        by_cases c : j < m
        · exact e2 j c (by rw [q])
        · exact h4 j (by omega) hj q
      split
      · exact zw_some.mpr (Or.inr ⟨rfl, fin⟩)
      · exact zw_some.mpr (Or.inr ⟨rfl, fin⟩)
    · rw [e2, if_neg (mt (zc_le (k := 6000) (by decide) (by omega)).mp (by omega)), if_neg (zc_m1 (by omega)), zn_samec1 HL (by omega) hl hr, zw_bind, zw_some]
      by_cases c : L.getD j [] = zn_rc (h.2.1 1) a len
      · rw [if_pos c, if_neg (by decide), zw_some]
        exact Or.inl ⟨j, by omega, rfl, c⟩
      · rw [if_neg c, if_pos rfl, if_pos (zi_in (by omega) (by omega)), nI_clamp (by omega), HL.2.2.2.2.2.2 j (by omega), e3, nI_1]
        refine ih j e1 (t + 1) f (by omega) (by omega) (by omega) fun i h5 h6 => ?_
        by_cases ei : i = j
        · rw [ei]; exact c
        · by_cases ci : i < m
          · exact fun q => e4 i (by omega) ci (by rw [q])
          · exact h4 i (by omega) h6
theorem zn_findc1 {h : zs_H} {a len : Nat} {L : List (List Int32)} (HL : zn_C h L) (h1 : 1 ≤ len) (hl : len ≤ 32) (hr : a + len ≤ 16384) : zw (f_Nm_find_c1 h (nI a) (nI len)) (fun v => (∃ j, j < L.length ∧ v = nI j ∧ L.getD j [] = zn_rc (h.2.1 1) a len) ∨ (v = -1 ∧ ∀ j, j < L.length → ¬ L.getD j [] = zn_rc (h.2.1 1) a len)) := by
  have hh := (zn_hf (zn_rc (h.2.1 1) a len)).1
  unfold f_Nm_find_c1
  rw [if_neg (mt (zc_tl (k := 1) (by decide) (by omega)).mp (by omega)), if_neg (mt (zc_lt (k := 32) (by decide) (by omega)).mp (by omega)), if_neg (nI_pos (by omega)), nI_add, if_pos ((zc_el (k := 16384) (by decide) (by omega)).mpr hr), zn_headc1 hr, zw_bind, zw_some, if_pos (zi_in (by omega) hh), nI_clamp (by omega), HL.2.2.2.2.2.1 _ hh]
  exact zn_fdc1 HL hl hr L.length 0 zF (Nat.le_refl _) (by omega) (by have := zF_big; have := HL.2.1; omega) (fun j h2 h3 => by omega)
theorem zn_apc1 {a len N o b : Nat} {c : List Int32} {T : Nat → Int32} (h1 : 1 ≤ len) (hl : len ≤ 32) (hr : a + len ≤ 16384) (hN : N < 6000) (ho : o + len ≤ 16789) : ∀ m i fuel (g : zs_H), len = i + m → m < fuel → g.2.1 1 = T → zn_rc T a len = c → zn_h c = b → (g.1 2 5) = nI N → (g.2.1 5) N = nI o →
    zw (f_Nm_numberOf_c1_L91 fuel g (nI a) (nI len) (nI N) (nI i)) (fun p => p.1 = nI N ∧ (p.2.1 2 5) = nI (N + 1) ∧ (∀ j, (p.2.2.1 5) j = if j = N + 1 then nI (o + len) else (g.2.1 5) j) ∧ (∀ j, (p.2.2.1 4) j = if o + i ≤ j ∧ j < o + len then vp_nar .byte ((f_Nm_great (T (a + (j - o)))).toInt8.toInt32) else (g.2.1 4) j) ∧ (∀ j, (p.2.2.1 7) j = if j = b then nI N else (g.2.1 7) j) ∧ (∀ j, (p.2.2.1 6) j = if j = N then (g.2.1 7) b else (g.2.1 6) j) ∧ zfr [(2, 5)] [4, 5, 6, 7] [] g p.2) := by
  intro m
  induction m with
  | zero =>
    intro i fuel g e1 e2 e0 e3 e4 e5 e6
    obtain ⟨f, rfl⟩ : ∃ f, fuel = f + 1 := ⟨fuel - 1, by omega⟩
    have hb := (zn_hf c).1
    rw [e4] at hb
    show zw (f_Nm_numberOf_c1_91 (f_Nm_numberOf_c1_L91 f) g _ _ _ _) _
    unfold f_Nm_numberOf_c1_91
    rw [if_pos ((nI_leI (by omega) (by omega)).mpr (by omega)), zn_headc1 hr, e0, e3, e4, zw_bind, zw_some, if_pos (zi_in (by omega) hb), if_pos (zi_in (by omega) hN), if_pos (zi_in (by omega) (by omega)), e5, nI_1, if_pos (zi_in (by omega) (by omega)), nI_clamp (by omega), nI_clamp (by omega), nI_clamp (by omega), e6, nI_add, zw_some]
    refine ⟨rfl, rfl, fun j => ?_, fun j => ?_, fun j => ?_, fun j => ?_, ?_⟩
    · simp only [zu_MM, zu_FM, true_and, reduceCtorEq, if_false]
      by_cases c1 : j = N + 1
      · rw [if_pos c1, if_pos c1]
      · rw [if_neg c1, if_neg c1]; simp
    · rw [if_neg (by omega)]; simp [zu_MM, zu_FM]
    · simp [zu_MM, zu_FM]
    · simp [zu_MM, zu_FM]
    · exact zfr_M (by decide) (zfr_F (by decide) (zfr_M (by decide) (zfr_M (by decide) zfr_rfl)))
  | succ m ih =>
    intro i fuel g e1 e2 e0 e3 e4 e5 e6
    obtain ⟨f, rfl⟩ : ∃ f, fuel = f + 1 := ⟨fuel - 1, by omega⟩
    show zw (f_Nm_numberOf_c1_91 (f_Nm_numberOf_c1_L91 f) g _ _ _ _) _
    unfold f_Nm_numberOf_c1_91
    rw [if_neg (mt (nI_leI (by omega) (by omega)).mp (by omega)), if_pos (zi_in (by omega) (by omega)), nI_clamp (n := N) (by omega), e6, nI_add, nI_add, if_pos (zi_in (by omega) (by omega)), if_pos (zi_in (by omega) (by omega)), nI_clamp (by omega), nI_clamp (by omega), nI_1, e0]
    refine zw_mono (ih (i + 1) f (zs_uM g 4 (o + i) (vp_nar .byte ((f_Nm_great (T (a + i))).toInt8.toInt32))) (by omega) (by omega) e0 e3 e4 e5 e6) fun p q => ?_
    obtain ⟨q1, q2, q3, q4, q5, q6, q7⟩ := q
    refine ⟨q1, q2, q3, fun j => ?_, q5, q6, zfr_trans (zfr_M (by decide) zfr_rfl) q7⟩
    rw [q4 j, zu_MM]
    by_cases c1 : j = o + i
    · subst c1
      rw [if_neg (by omega), if_pos ⟨rfl, rfl⟩, if_pos (by omega), show o + i - o = i by omega]
    · by_cases c2 : o + (i + 1) ≤ j ∧ j < o + len
      · rw [if_pos c2, if_pos (by omega)]
      · rw [if_neg c2, if_neg (fun q => c1 q.2), if_neg (by omega)]
theorem zn_numberc1 {h : zs_H} {a len : Nat} {L : List (List Int32)} (HL : zn_C h L) (hn : L.Nodup) (h1 : 1 ≤ len) (hl : len ≤ 32) (hr : a + len ≤ 16384) (hs : L.length < 6000) (ho : zn_o L L.length + len ≤ 16789) (hb : ∀ i, i < len → vp_nar .byte ((f_Nm_great (h.2.1 1 (a + i))).toInt8.toInt32) = f_Nm_great (h.2.1 1 (a + i))) :
    zw (f_Nm_numberOf_c1 h (nI a) (nI len)) (fun p => zn_C p.2 (if zn_rc (h.2.1 1) a len ∈ L then L else L ++ [zn_rc (h.2.1 1) a len]) ∧ p.1 = nI (L.idxOf (zn_rc (h.2.1 1) a len)) ∧ zfr [(2, 5)] [4, 5, 6, 7] [] h p.2) := by
  unfold f_Nm_numberOf_c1
  rw [zw_bind]
  refine zw_mono (zn_findc1 HL h1 hl hr) fun v q => ?_
  rw [if_neg (mt (zc_tl (k := 1) (by decide) (by omega)).mp (by omega)), if_neg (mt (zc_lt (k := 32) (by decide) (by omega)).mp (by omega)), if_neg (nI_pos (by omega)), nI_add, if_neg (mt (zc_lt (k := 16384) (by decide) (by omega)).mp (by omega))]
  unfold f_Nm_numberOf_c1_37
  generalize hc : zn_rc (h.2.1 1) a len = c at q ⊢
  rcases q with ⟨j, h3, h4, h5⟩ | ⟨h3, h4⟩
  · have hm : c ∈ L := by rw [← h5, List.getD_eq_getElem?_getD, List.getElem?_eq_getElem h3]; exact List.getElem_mem h3
    rw [h4, if_neg (zc_m1 (by omega)), zw_some, if_pos hm]
    refine ⟨HL, ?_, zfr_rfl⟩
    rw [zx_idx h3 h5 fun i hi z => ?_]
    have := (List.getD_inj (by omega) h3 hn).mp (z.trans h5.symm)
    omega
  · have hm : ¬ c ∈ L := by
      intro z
      obtain ⟨j, hj, e1⟩ := List.getElem_of_mem z
      exact h4 j hj (by rw [List.getD_eq_getElem?_getD, List.getElem?_eq_getElem hj]; exact e1)
    obtain ⟨l1, l2, l3, l4, l5, l6, l7⟩ := HL
    rw [h3, if_pos rfl, if_neg (by decide), l1, if_neg (mt (zc_le (k := 6000) (by decide) (by omega)).mp (by omega)), if_pos (zi_in (by omega) (by omega)), nI_clamp (by omega), l4 _ (Nat.le_refl _), nI_add, if_pos ((zc_el (k := 16789) (by decide) (by omega)).mpr ho), if_neg hm, show (0 : Int32) = nI 0 from nI_0.symm]
    refine zw_mono (zn_apc1 (c := c) (b := zn_h c) h1 hl hr hs ho len 0 zF h (by omega) (by have := zF_big; omega) rfl hc rfl l1 (l4 _ (Nat.le_refl _))) fun p q => ?_
    obtain ⟨q1, q2, q3, q4, q5, q6, q7⟩ := q
    have hcl : c.length = len := by rw [← hc, zn_rc_len]
    have e0 : ∀ k, k < L.length → (L ++ [c]).getD k [] = L.getD k [] := fun k hk => by
      rw [List.getD_eq_getElem?_getD, List.getD_eq_getElem?_getD, List.getElem?_append_left hk]
    have e1 : (L ++ [c]).getD L.length [] = c := by
      rw [List.getD_eq_getElem?_getD, List.getElem?_append_right (Nat.le_refl _), Nat.sub_self]; rfl
    have e2 : (L ++ [c]).length = L.length + 1 := by rw [List.length_append]; rfl
    have e3 : zn_o (L ++ [c]) (L.length + 1) = zn_o L L.length + len := by
      rw [zn_o_s (by rw [e2]; omega), zn_o_app (Nat.le_refl _), e1, hcl]
    refine ⟨⟨by rw [q2, e2], by rw [e2]; omega, by rw [e2, e3]; exact ho, fun k hk => ?_, fun k hk => ?_, fun b hb2 => ?_, fun k hk => ?_⟩, by rw [q1, List.idxOf_eq_length hm], q7⟩
    · rw [e2] at hk
      rw [q3 k]
      by_cases ck : k = L.length + 1
      · rw [if_pos ck, ck, e3]
      · rw [if_neg ck, zn_o_app (by omega)]; exact l4 k (by omega)
    · rw [e2] at hk
      have hm2 := zn_o_mono (L := L) (L.length - k) k (by omega)
      rw [show k + (L.length - k) = L.length by omega] at hm2
      rw [zn_o_app (by omega)]
      by_cases ck : k < L.length
      · rw [e0 k ck]
        obtain ⟨k1, k2, k3⟩ := l5 k ck
        refine ⟨k1, k2, fun i hi => ?_⟩
        have ho2 := zn_o_s ck
        have hm3 := zn_o_mono (L := L) (L.length - (k + 1)) (k + 1) (by omega)
        rw [show k + 1 + (L.length - (k + 1)) = L.length by omega] at hm3
        rw [q4, if_neg (by omega)]
        exact k3 i hi
      · have ek : k = L.length := by omega
        subst ek
        rw [e1, hcl]
        refine ⟨h1, hl, fun i hi => ?_⟩
        rw [q4, if_pos (by omega), show zn_o L L.length + i - zn_o L L.length = i by omega, hb i hi, ← hc, zn_rc_at hi]
    · rw [q5 b, e2]
      by_cases cb : b = zn_h c
      · rw [if_pos cb]
        exact (if_pos (by rw [e1, cb])).symm
      · rw [if_neg cb, l6 b hb2]
        refine Eq.trans ?_ (if_neg (by rw [e1]; exact fun z => cb z.symm)).symm
        exact (zn_pv_app _ (Nat.le_refl _)).symm
    · rw [e2] at hk
      rw [q6 k]
      by_cases ck : k = L.length
      · subst ck
        rw [if_pos rfl, e1, l6 _ (zn_hf c).1, zn_pv_app _ (Nat.le_refl _)]
      · rw [if_neg ck, e0 k (by omega), zn_pv_app _ (by omega)]
        exact l7 k (by omega)
theorem zn_hdc3 {h : zs_H} {a len : Nat} (hr : a + len ≤ 405) : ∀ m i fuel, len = i + m → m < fuel → f_Nm_headOf_c3_L5 h fuel (nI a) (nI len) (zn_hs (h.2.1 3) a len i) (nI i) = some (zn_hh (zn_rc (h.2.1 3) a len)) := by
  intro m
  induction m with
  | zero =>
    intro i fuel h1 h2
    obtain ⟨f, rfl⟩ : ∃ f, fuel = f + 1 := ⟨fuel - 1, by omega⟩
    have ei : i = len := by omega
    subst ei
    show f_Nm_headOf_c3_5 h (f_Nm_headOf_c3_L5 h f) _ _ _ _ = _
    unfold f_Nm_headOf_c3_5
    rw [if_pos (Int32.le_refl _), zn_hs_hl]
    rfl
  | succ m ih =>
    intro i fuel h1 h2
    obtain ⟨f, rfl⟩ : ∃ f, fuel = f + 1 := ⟨fuel - 1, by omega⟩
    show f_Nm_headOf_c3_5 h (f_Nm_headOf_c3_L5 h f) _ _ _ _ = _
    unfold f_Nm_headOf_c3_5
    rw [if_neg (mt (nI_leI (by omega) (by omega)).mp (by omega)), nI_add, if_pos (zi_in (by omega) (by omega)), nI_clamp (by omega), nI_1]
    exact ih (i + 1) f (by omega) (by omega)
theorem zn_headc3 {h : zs_H} {a len : Nat} (hr : a + len ≤ 405) : f_Nm_headOf_c3 h (nI a) (nI len) = some (nI (zn_h (zn_rc (h.2.1 3) a len))) := by
  have q := zn_hdc3 (h := h) hr len 0 zF (by omega) (by have := zF_big; omega)
  rw [(zn_hf _).2] at q
  exact q
theorem zn_smc3 {h : zs_H} {a k : Nat} {L : List (List Int32)} (HL : zn_C h L) (hk : k < L.length) (hr : a + (L.getD k []).length ≤ 405) : ∀ m i fuel, (L.getD k []).length = i + m → m < fuel → zw (f_Nm_isSame_c3_L25 h fuel (nI k) (nI a) (nI (L.getD k []).length) (nI i)) (fun v => (v = 1 ∧ ∀ j, i ≤ j → j < (L.getD k []).length → (L.getD k []).getD j 0 = f_Nm_great (h.2.1 3 (a + j))) ∨ (v = 0 ∧ ¬ ∀ j, i ≤ j → j < (L.getD k []).length → (L.getD k []).getD j 0 = f_Nm_great (h.2.1 3 (a + j)))) := by
  obtain ⟨l1, l2, l3, l4, l5, l6, l7⟩ := HL
  obtain ⟨k1, k2, k3⟩ := l5 k hk
  have ho := zn_o_s hk
  have hm := zn_o_mono (L := L) (L.length - (k + 1)) (k + 1) (by omega)
  rw [show k + 1 + (L.length - (k + 1)) = L.length by omega] at hm
  intro m
  induction m with
  | zero =>
    intro i fuel h1 h2
    obtain ⟨f, rfl⟩ : ∃ f, fuel = f + 1 := ⟨fuel - 1, by omega⟩
    show zw (f_Nm_isSame_c3_25 h (f_Nm_isSame_c3_L25 h f) _ _ _ _) _
    unfold f_Nm_isSame_c3_25
    rw [if_pos ((nI_leI (by omega) (by omega)).mpr (by omega)), zw_some]
    exact Or.inl ⟨rfl, fun j h3 h4 => by omega⟩
  | succ m ih =>
    intro i fuel h1 h2
    obtain ⟨f, rfl⟩ : ∃ f, fuel = f + 1 := ⟨fuel - 1, by omega⟩
    show zw (f_Nm_isSame_c3_25 h (f_Nm_isSame_c3_L25 h f) _ _ _ _) _
    unfold f_Nm_isSame_c3_25
    rw [if_neg (mt (nI_leI (by omega) (by omega)).mp (by omega)), if_pos (zi_in (a := k) (by omega) (by omega)), nI_clamp (n := k) (by omega), l4 k (by omega), nI_add, nI_add, if_pos (zi_in (a := zn_o L k + i) (by omega) (by omega)), if_pos (zi_in (a := a + i) (by omega) (by omega)), nI_clamp (by omega), nI_clamp (by omega), k3 i (by omega), nI_1]
    by_cases c : (L.getD k []).getD i 0 = f_Nm_great (h.2.1 3 (a + i))
    · rw [if_pos c]
      refine zw_mono (ih (i + 1) f (by omega) (by omega)) fun v q => ?_
      rcases q with ⟨q1, q2⟩ | ⟨q1, q2⟩
      · refine Or.inl ⟨q1, fun j h3 h4 => ?_⟩
        by_cases ej : j = i
        · rw [ej]; exact c
        · exact q2 j (by omega) h4
      · exact Or.inr ⟨q1, fun z => q2 fun j h3 h4 => z j (by omega) h4⟩
    · rw [if_neg c, zw_some]
      exact Or.inr ⟨rfl, fun z => c (z i (by omega) (by omega))⟩
theorem zn_samec3 {h : zs_H} {a k len : Nat} {L : List (List Int32)} (HL : zn_C h L) (hk : k < L.length) (hl : len ≤ 32) (hr : a + len ≤ 405) : f_Nm_isSame_c3 h (nI k) (nI a) (nI len) = some (if L.getD k [] = zn_rc (h.2.1 3) a len then 1 else 0) := by
  obtain ⟨l1, l2, l3, l4, l5, l6, l7⟩ := HL
  obtain ⟨k1, k2, k3⟩ := l5 k hk
  have ho := zn_o_s hk
  have hm := zn_o_mono (L := L) (L.length - (k + 1)) (k + 1) (by omega)
  rw [show k + 1 + (L.length - (k + 1)) = L.length by omega] at hm
  unfold f_Nm_isSame_c3
  rw [nI_1, if_pos (zi_in (by omega) (by omega)), if_pos (zi_in (by omega) (by omega)), nI_clamp (by omega), nI_clamp (by omega), l4 k (by omega), l4 (k + 1) (by omega), zi_sub (by omega), show zn_o L (k + 1) - zn_o L k = (L.getD k []).length by omega]
  by_cases c : (L.getD k []).length = len
  · subst c
    rw [if_pos rfl]
    obtain ⟨v, e1, q⟩ := zn_smc3 (a := a) ⟨l1, l2, l3, l4, l5, l6, l7⟩ hk hr (L.getD k []).length 0 zF (by omega) (by have := zF_big; omega)
    rw [show (0 : Int32) = nI 0 from nI_0.symm, e1, nI_0]
    by_cases z : L.getD k [] = zn_rc (h.2.1 3) a (L.getD k []).length
    · rw [if_pos z]
      rcases q with ⟨q1, q2⟩ | ⟨q1, q2⟩
      · rw [q1]
      · exact absurd (fun j _ h4 => ((zn_rc_eq.mp z.symm).2 j h4).symm) q2
    · rw [if_neg z]
      rcases q with ⟨q1, q2⟩ | ⟨q1, q2⟩
      · exact absurd (zn_rc_eq.mpr ⟨rfl, fun i hi => (q2 i (by omega) hi).symm⟩).symm z
      · rw [q1]
  · rw [if_neg (show ¬ nI (L.getD k []).length = nI len from fun q => c ((nI_eq (by omega) (by omega)).mp q)), if_neg (show ¬ L.getD k [] = zn_rc (h.2.1 3) a len from fun q => c (by rw [q, zn_rc_len]))]
theorem zn_fdc3 {h : zs_H} {a len : Nat} {L : List (List Int32)} (HL : zn_C h L) (hl : len ≤ 32) (hr : a + len ≤ 405) : ∀ m t fuel, m ≤ L.length → t + m ≤ L.length → m < fuel → (∀ j, m ≤ j → j < L.length → ¬ L.getD j [] = zn_rc (h.2.1 3) a len) →
    zw (f_Nm_find_c3_L41 h fuel (nI a) (nI len) (zn_pv L (zn_h (zn_rc (h.2.1 3) a len)) m) (nI t)) (fun v => (∃ j, j < L.length ∧ v = nI j ∧ L.getD j [] = zn_rc (h.2.1 3) a len) ∨ (v = -1 ∧ ∀ j, j < L.length → ¬ L.getD j [] = zn_rc (h.2.1 3) a len)) := by
  intro m
  induction m using Nat.strongRecOn with
  | ind m ih =>
    intro t fuel h1 h2 h3 h4
    have l2 := HL.2.1
    obtain ⟨f, rfl⟩ : ∃ f, fuel = f + 1 := ⟨fuel - 1, by omega⟩
    show zw (f_Nm_find_c3_41 h (f_Nm_find_c3_L41 h f) _ _ _ _) _
    unfold f_Nm_find_c3_41
    rcases zn_pv_ex (L := L) (b := zn_h (zn_rc (h.2.1 3) a len)) m with ⟨e1, e2⟩ | ⟨j, e1, e2, e3, e4⟩
    · rw [e1, if_pos (show (-1 : Int32) = -1 from rfl)]
      have fin : ∀ j, j < L.length → ¬ L.getD j [] = zn_rc (h.2.1 3) a len := by
        intro j hj q
        by_cases c : j < m
        · exact e2 j c (by rw [q])
        · exact h4 j (by omega) hj q
      split
      · exact zw_some.mpr (Or.inr ⟨rfl, fin⟩)
      · exact zw_some.mpr (Or.inr ⟨rfl, fin⟩)
    · rw [e2, if_neg (mt (zc_le (k := 6000) (by decide) (by omega)).mp (by omega)), if_neg (zc_m1 (by omega)), zn_samec3 HL (by omega) hl hr, zw_bind, zw_some]
      by_cases c : L.getD j [] = zn_rc (h.2.1 3) a len
      · rw [if_pos c, if_neg (by decide), zw_some]
        exact Or.inl ⟨j, by omega, rfl, c⟩
      · rw [if_neg c, if_pos rfl, if_pos (zi_in (by omega) (by omega)), nI_clamp (by omega), HL.2.2.2.2.2.2 j (by omega), e3, nI_1]
        refine ih j e1 (t + 1) f (by omega) (by omega) (by omega) fun i h5 h6 => ?_
        by_cases ei : i = j
        · rw [ei]; exact c
        · by_cases ci : i < m
          · exact fun q => e4 i (by omega) ci (by rw [q])
          · exact h4 i (by omega) h6
theorem zn_findc3 {h : zs_H} {a len : Nat} {L : List (List Int32)} (HL : zn_C h L) (h1 : 1 ≤ len) (hl : len ≤ 32) (hr : a + len ≤ 405) : zw (f_Nm_find_c3 h (nI a) (nI len)) (fun v => (∃ j, j < L.length ∧ v = nI j ∧ L.getD j [] = zn_rc (h.2.1 3) a len) ∨ (v = -1 ∧ ∀ j, j < L.length → ¬ L.getD j [] = zn_rc (h.2.1 3) a len)) := by
  have hh := (zn_hf (zn_rc (h.2.1 3) a len)).1
  unfold f_Nm_find_c3
  rw [if_neg (mt (zc_tl (k := 1) (by decide) (by omega)).mp (by omega)), if_neg (mt (zc_lt (k := 32) (by decide) (by omega)).mp (by omega)), if_neg (nI_pos (by omega)), nI_add, if_pos ((zc_el (k := 405) (by decide) (by omega)).mpr hr), zn_headc3 hr, zw_bind, zw_some, if_pos (zi_in (by omega) hh), nI_clamp (by omega), HL.2.2.2.2.2.1 _ hh]
  exact zn_fdc3 HL hl hr L.length 0 zF (Nat.le_refl _) (by omega) (by have := zF_big; have := HL.2.1; omega) (fun j h2 h3 => by omega)
theorem zn_apc3 {a len N o b : Nat} {c : List Int32} {T : Nat → Int32} (h1 : 1 ≤ len) (hl : len ≤ 32) (hr : a + len ≤ 405) (hN : N < 6000) (ho : o + len ≤ 16789) : ∀ m i fuel (g : zs_H), len = i + m → m < fuel → g.2.1 3 = T → zn_rc T a len = c → zn_h c = b → (g.1 2 5) = nI N → (g.2.1 5) N = nI o →
    zw (f_Nm_numberOf_c3_L91 fuel g (nI a) (nI len) (nI N) (nI i)) (fun p => p.1 = nI N ∧ (p.2.1 2 5) = nI (N + 1) ∧ (∀ j, (p.2.2.1 5) j = if j = N + 1 then nI (o + len) else (g.2.1 5) j) ∧ (∀ j, (p.2.2.1 4) j = if o + i ≤ j ∧ j < o + len then vp_nar .byte ((f_Nm_great (T (a + (j - o)))).toInt8.toInt32) else (g.2.1 4) j) ∧ (∀ j, (p.2.2.1 7) j = if j = b then nI N else (g.2.1 7) j) ∧ (∀ j, (p.2.2.1 6) j = if j = N then (g.2.1 7) b else (g.2.1 6) j) ∧ zfr [(2, 5)] [4, 5, 6, 7] [] g p.2) := by
  intro m
  induction m with
  | zero =>
    intro i fuel g e1 e2 e0 e3 e4 e5 e6
    obtain ⟨f, rfl⟩ : ∃ f, fuel = f + 1 := ⟨fuel - 1, by omega⟩
    have hb := (zn_hf c).1
    rw [e4] at hb
    show zw (f_Nm_numberOf_c3_91 (f_Nm_numberOf_c3_L91 f) g _ _ _ _) _
    unfold f_Nm_numberOf_c3_91
    rw [if_pos ((nI_leI (by omega) (by omega)).mpr (by omega)), zn_headc3 hr, e0, e3, e4, zw_bind, zw_some, if_pos (zi_in (by omega) hb), if_pos (zi_in (by omega) hN), if_pos (zi_in (by omega) (by omega)), e5, nI_1, if_pos (zi_in (by omega) (by omega)), nI_clamp (by omega), nI_clamp (by omega), nI_clamp (by omega), e6, nI_add, zw_some]
    refine ⟨rfl, rfl, fun j => ?_, fun j => ?_, fun j => ?_, fun j => ?_, ?_⟩
    · simp only [zu_MM, zu_FM, true_and, reduceCtorEq, if_false]
      by_cases c1 : j = N + 1
      · rw [if_pos c1, if_pos c1]
      · rw [if_neg c1, if_neg c1]; simp
    · rw [if_neg (by omega)]; simp [zu_MM, zu_FM]
    · simp [zu_MM, zu_FM]
    · simp [zu_MM, zu_FM]
    · exact zfr_M (by decide) (zfr_F (by decide) (zfr_M (by decide) (zfr_M (by decide) zfr_rfl)))
  | succ m ih =>
    intro i fuel g e1 e2 e0 e3 e4 e5 e6
    obtain ⟨f, rfl⟩ : ∃ f, fuel = f + 1 := ⟨fuel - 1, by omega⟩
    show zw (f_Nm_numberOf_c3_91 (f_Nm_numberOf_c3_L91 f) g _ _ _ _) _
    unfold f_Nm_numberOf_c3_91
    rw [if_neg (mt (nI_leI (by omega) (by omega)).mp (by omega)), if_pos (zi_in (by omega) (by omega)), nI_clamp (n := N) (by omega), e6, nI_add, nI_add, if_pos (zi_in (by omega) (by omega)), if_pos (zi_in (by omega) (by omega)), nI_clamp (by omega), nI_clamp (by omega), nI_1, e0]
    refine zw_mono (ih (i + 1) f (zs_uM g 4 (o + i) (vp_nar .byte ((f_Nm_great (T (a + i))).toInt8.toInt32))) (by omega) (by omega) e0 e3 e4 e5 e6) fun p q => ?_
    obtain ⟨q1, q2, q3, q4, q5, q6, q7⟩ := q
    refine ⟨q1, q2, q3, fun j => ?_, q5, q6, zfr_trans (zfr_M (by decide) zfr_rfl) q7⟩
    rw [q4 j, zu_MM]
    by_cases c1 : j = o + i
    · subst c1
      rw [if_neg (by omega), if_pos ⟨rfl, rfl⟩, if_pos (by omega), show o + i - o = i by omega]
    · by_cases c2 : o + (i + 1) ≤ j ∧ j < o + len
      · rw [if_pos c2, if_pos (by omega)]
      · rw [if_neg c2, if_neg (fun q => c1 q.2), if_neg (by omega)]
theorem zn_numberc3 {h : zs_H} {a len : Nat} {L : List (List Int32)} (HL : zn_C h L) (hn : L.Nodup) (h1 : 1 ≤ len) (hl : len ≤ 32) (hr : a + len ≤ 405) (hs : L.length < 6000) (ho : zn_o L L.length + len ≤ 16789) (hb : ∀ i, i < len → vp_nar .byte ((f_Nm_great (h.2.1 3 (a + i))).toInt8.toInt32) = f_Nm_great (h.2.1 3 (a + i))) :
    zw (f_Nm_numberOf_c3 h (nI a) (nI len)) (fun p => zn_C p.2 (if zn_rc (h.2.1 3) a len ∈ L then L else L ++ [zn_rc (h.2.1 3) a len]) ∧ p.1 = nI (L.idxOf (zn_rc (h.2.1 3) a len)) ∧ zfr [(2, 5)] [4, 5, 6, 7] [] h p.2) := by
  unfold f_Nm_numberOf_c3
  rw [zw_bind]
  refine zw_mono (zn_findc3 HL h1 hl hr) fun v q => ?_
  rw [if_neg (mt (zc_tl (k := 1) (by decide) (by omega)).mp (by omega)), if_neg (mt (zc_lt (k := 32) (by decide) (by omega)).mp (by omega)), if_neg (nI_pos (by omega)), nI_add, if_neg (mt (zc_lt (k := 405) (by decide) (by omega)).mp (by omega))]
  unfold f_Nm_numberOf_c3_37
  generalize hc : zn_rc (h.2.1 3) a len = c at q ⊢
  rcases q with ⟨j, h3, h4, h5⟩ | ⟨h3, h4⟩
  · have hm : c ∈ L := by rw [← h5, List.getD_eq_getElem?_getD, List.getElem?_eq_getElem h3]; exact List.getElem_mem h3
    rw [h4, if_neg (zc_m1 (by omega)), zw_some, if_pos hm]
    refine ⟨HL, ?_, zfr_rfl⟩
    rw [zx_idx h3 h5 fun i hi z => ?_]
    have := (List.getD_inj (by omega) h3 hn).mp (z.trans h5.symm)
    omega
  · have hm : ¬ c ∈ L := by
      intro z
      obtain ⟨j, hj, e1⟩ := List.getElem_of_mem z
      exact h4 j hj (by rw [List.getD_eq_getElem?_getD, List.getElem?_eq_getElem hj]; exact e1)
    obtain ⟨l1, l2, l3, l4, l5, l6, l7⟩ := HL
    rw [h3, if_pos rfl, if_neg (by decide), l1, if_neg (mt (zc_le (k := 6000) (by decide) (by omega)).mp (by omega)), if_pos (zi_in (by omega) (by omega)), nI_clamp (by omega), l4 _ (Nat.le_refl _), nI_add, if_pos ((zc_el (k := 16789) (by decide) (by omega)).mpr ho), if_neg hm, show (0 : Int32) = nI 0 from nI_0.symm]
    refine zw_mono (zn_apc3 (c := c) (b := zn_h c) h1 hl hr hs ho len 0 zF h (by omega) (by have := zF_big; omega) rfl hc rfl l1 (l4 _ (Nat.le_refl _))) fun p q => ?_
    obtain ⟨q1, q2, q3, q4, q5, q6, q7⟩ := q
    have hcl : c.length = len := by rw [← hc, zn_rc_len]
    have e0 : ∀ k, k < L.length → (L ++ [c]).getD k [] = L.getD k [] := fun k hk => by
      rw [List.getD_eq_getElem?_getD, List.getD_eq_getElem?_getD, List.getElem?_append_left hk]
    have e1 : (L ++ [c]).getD L.length [] = c := by
      rw [List.getD_eq_getElem?_getD, List.getElem?_append_right (Nat.le_refl _), Nat.sub_self]; rfl
    have e2 : (L ++ [c]).length = L.length + 1 := by rw [List.length_append]; rfl
    have e3 : zn_o (L ++ [c]) (L.length + 1) = zn_o L L.length + len := by
      rw [zn_o_s (by rw [e2]; omega), zn_o_app (Nat.le_refl _), e1, hcl]
    refine ⟨⟨by rw [q2, e2], by rw [e2]; omega, by rw [e2, e3]; exact ho, fun k hk => ?_, fun k hk => ?_, fun b hb2 => ?_, fun k hk => ?_⟩, by rw [q1, List.idxOf_eq_length hm], q7⟩
    · rw [e2] at hk
      rw [q3 k]
      by_cases ck : k = L.length + 1
      · rw [if_pos ck, ck, e3]
      · rw [if_neg ck, zn_o_app (by omega)]; exact l4 k (by omega)
    · rw [e2] at hk
      have hm2 := zn_o_mono (L := L) (L.length - k) k (by omega)
      rw [show k + (L.length - k) = L.length by omega] at hm2
      rw [zn_o_app (by omega)]
      by_cases ck : k < L.length
      · rw [e0 k ck]
        obtain ⟨k1, k2, k3⟩ := l5 k ck
        refine ⟨k1, k2, fun i hi => ?_⟩
        have ho2 := zn_o_s ck
        have hm3 := zn_o_mono (L := L) (L.length - (k + 1)) (k + 1) (by omega)
        rw [show k + 1 + (L.length - (k + 1)) = L.length by omega] at hm3
        rw [q4, if_neg (by omega)]
        exact k3 i hi
      · have ek : k = L.length := by omega
        subst ek
        rw [e1, hcl]
        refine ⟨h1, hl, fun i hi => ?_⟩
        rw [q4, if_pos (by omega), show zn_o L L.length + i - zn_o L L.length = i by omega, hb i hi, ← hc, zn_rc_at hi]
    · rw [q5 b, e2]
      by_cases cb : b = zn_h c
      · rw [if_pos cb]
        exact (if_pos (by rw [e1, cb])).symm
      · rw [if_neg cb, l6 b hb2]
        refine Eq.trans ?_ (if_neg (by rw [e1]; exact fun z => cb z.symm)).symm
        exact (zn_pv_app _ (Nat.le_refl _)).symm
    · rw [e2] at hk
      rw [q6 k]
      by_cases ck : k = L.length
      · subst ck
        rw [if_pos rfl, e1, l6 _ (zn_hf c).1, zn_pv_app _ (Nat.le_refl _)]
      · rw [if_neg ck, e0 k (by omega), zn_pv_app _ (by omega)]
        exact l7 k (by omega)

