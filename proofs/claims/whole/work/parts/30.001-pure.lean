section
/-! Signs; the model's next token. -/
theorem zx_L9 {x : Int32} : ∀ m i fuel, 17 = i + m → m < fuel → zw (f_Sl_indexOfChar_v9_L7 fuel 17 x (nI i)) (fun v => (∃ j, i ≤ j ∧ j < 17 ∧ v = nI j ∧ ze_f 9 j = x) ∨ (v = -1 ∧ ∀ j, i ≤ j → j < 17 → ¬ ze_f 9 j = x)) := by
  intro m
  induction m with
  | zero =>
    intro i fuel h1 h2
    obtain ⟨f, rfl⟩ : ∃ f, fuel = f + 1 := ⟨fuel - 1, by omega⟩
    show zw (f_Sl_indexOfChar_v9_7 (f_Sl_indexOfChar_v9_L7 f) 17 x (nI i)) _
    unfold f_Sl_indexOfChar_v9_7
    rw [if_pos ((zc_le (k := 17) (by decide) (by omega)).mpr (by omega)), zw_some]
    exact Or.inr ⟨rfl, fun j h3 h4 => by omega⟩
  | succ m ih =>
    intro i fuel h1 h2
    obtain ⟨f, rfl⟩ : ∃ f, fuel = f + 1 := ⟨fuel - 1, by omega⟩
    show zw (f_Sl_indexOfChar_v9_7 (f_Sl_indexOfChar_v9_L7 f) 17 x (nI i)) _
    unfold f_Sl_indexOfChar_v9_7
    rw [if_neg (mt (zc_le (k := 17) (by decide) (by omega)).mp (by omega)), if_pos (zi_in (by omega) (by omega)), nI_clamp (by omega), nI_1]
    by_cases c : ze_f 9 i = x
    · rw [if_pos c, zw_some]
      exact Or.inl ⟨i, Nat.le_refl i, by omega, rfl, c⟩
    · rw [if_neg c]
      refine zw_mono (ih (i + 1) f (by omega) (by omega)) fun v q => ?_
      rcases q with ⟨j, h3, h4, h5, h6⟩ | ⟨h3, h4⟩
      · exact Or.inl ⟨j, by omega, h4, h5, h6⟩
      · refine Or.inr ⟨h3, fun j h5 h6 => ?_⟩
        by_cases ej : j = i
        · rw [ej]; exact c
        · exact h4 j (by omega) h6
theorem zx_A9 : ∀ c, c < 256 → f_Sl_canEncode (nI c) = 1 ∧ ((nI c).toUInt32 % 65536).toInt32 = nI c ∧ ∀ j, j < 17 → (ze_f 9 j = (nI c).toInt8.toInt32 ↔ ze_f 9 j = nI c) := by decide +kernel
theorem zx_I9 {h : zs_H} {c : Nat} (hc : c < 256) : zw (f_St_indexOf_s9 h (((nI c).toUInt32 % 65536).toInt32)) (fun v => (∃ j, j < 17 ∧ v = nI j ∧ ze_f 9 j = nI c) ∨ (v = -1 ∧ ∀ j, j < 17 → ¬ ze_f 9 j = nI c)) := by
  obtain ⟨a1, a2, a3⟩ := zx_A9 c hc
  rw [a2]
  unfold f_St_indexOf_s9 f_St_indexOf2_s9 f_Sl_indexOf_v9
  rw [a1, if_neg (by decide), if_pos (by decide)]
  rw [zw_bind, zw_bind, zw_bind]
  unfold f_Sl_indexOfChar_v9
  refine zw_mono (zx_L9 (x := (nI c).toInt8.toInt32) 17 0 zF rfl (by have := zF_big; omega)) fun v q => ?_
  rw [zw_some, zw_some, zw_some]
  rcases q with ⟨j, h3, h4, h5, h6⟩ | ⟨h3, h4⟩
  · exact Or.inl ⟨j, h4, h5, (a3 j h4).mp h6⟩
  · exact Or.inr ⟨h3, fun j h5 q => h4 j (Nat.zero_le j) h5 ((a3 j h5).mpr q)⟩
theorem zx_L6 {x : Int32} : ∀ m i fuel, 17 = i + m → m < fuel → zw (f_Sl_indexOfChar_v6_L7 fuel 17 x (nI i)) (fun v => (∃ j, i ≤ j ∧ j < 17 ∧ v = nI j ∧ ze_f 6 j = x) ∨ (v = -1 ∧ ∀ j, i ≤ j → j < 17 → ¬ ze_f 6 j = x)) := by
  intro m
  induction m with
  | zero =>
    intro i fuel h1 h2
    obtain ⟨f, rfl⟩ : ∃ f, fuel = f + 1 := ⟨fuel - 1, by omega⟩
    show zw (f_Sl_indexOfChar_v6_7 (f_Sl_indexOfChar_v6_L7 f) 17 x (nI i)) _
    unfold f_Sl_indexOfChar_v6_7
    rw [if_pos ((zc_le (k := 17) (by decide) (by omega)).mpr (by omega)), zw_some]
    exact Or.inr ⟨rfl, fun j h3 h4 => by omega⟩
  | succ m ih =>
    intro i fuel h1 h2
    obtain ⟨f, rfl⟩ : ∃ f, fuel = f + 1 := ⟨fuel - 1, by omega⟩
    show zw (f_Sl_indexOfChar_v6_7 (f_Sl_indexOfChar_v6_L7 f) 17 x (nI i)) _
    unfold f_Sl_indexOfChar_v6_7
    rw [if_neg (mt (zc_le (k := 17) (by decide) (by omega)).mp (by omega)), if_pos (zi_in (by omega) (by omega)), nI_clamp (by omega), nI_1]
    by_cases c : ze_f 6 i = x
    · rw [if_pos c, zw_some]
      exact Or.inl ⟨i, Nat.le_refl i, by omega, rfl, c⟩
    · rw [if_neg c]
      refine zw_mono (ih (i + 1) f (by omega) (by omega)) fun v q => ?_
      rcases q with ⟨j, h3, h4, h5, h6⟩ | ⟨h3, h4⟩
      · exact Or.inl ⟨j, by omega, h4, h5, h6⟩
      · refine Or.inr ⟨h3, fun j h5 h6 => ?_⟩
        by_cases ej : j = i
        · rw [ej]; exact c
        · exact h4 j (by omega) h6
theorem zx_A6 : ∀ c, c < 256 → f_Sl_canEncode (nI c) = 1 ∧ ((nI c).toUInt32 % 65536).toInt32 = nI c ∧ ∀ j, j < 17 → (ze_f 6 j = (nI c).toInt8.toInt32 ↔ ze_f 6 j = nI c) := by decide +kernel
theorem zx_I6 {h : zs_H} {c : Nat} (hc : c < 256) : zw (f_St_indexOf_s6 h (((nI c).toUInt32 % 65536).toInt32)) (fun v => (∃ j, j < 17 ∧ v = nI j ∧ ze_f 6 j = nI c) ∨ (v = -1 ∧ ∀ j, j < 17 → ¬ ze_f 6 j = nI c)) := by
  obtain ⟨a1, a2, a3⟩ := zx_A6 c hc
  rw [a2]
  unfold f_St_indexOf_s6 f_St_indexOf2_s6 f_Sl_indexOf_v6
  rw [a1, if_neg (by decide), if_pos (by decide)]
  rw [zw_bind, zw_bind, zw_bind]
  unfold f_Sl_indexOfChar_v6
  refine zw_mono (zx_L6 (x := (nI c).toInt8.toInt32) 17 0 zF rfl (by have := zF_big; omega)) fun v q => ?_
  rw [zw_some, zw_some, zw_some]
  rcases q with ⟨j, h3, h4, h5, h6⟩ | ⟨h3, h4⟩
  · exact Or.inl ⟨j, h4, h5, (a3 j h4).mp h6⟩
  · exact Or.inr ⟨h3, fun j h5 q => h4 j (Nat.zero_le j) h5 ((a3 j h5).mpr q)⟩
theorem zx_L4 {x : Int32} : ∀ m i fuel, 3 = i + m → m < fuel → zw (f_Sl_indexOfChar_v4_L7 fuel 3 x (nI i)) (fun v => (∃ j, i ≤ j ∧ j < 3 ∧ v = nI j ∧ ze_f 4 j = x) ∨ (v = -1 ∧ ∀ j, i ≤ j → j < 3 → ¬ ze_f 4 j = x)) := by
  intro m
  induction m with
  | zero =>
    intro i fuel h1 h2
    obtain ⟨f, rfl⟩ : ∃ f, fuel = f + 1 := ⟨fuel - 1, by omega⟩
    show zw (f_Sl_indexOfChar_v4_7 (f_Sl_indexOfChar_v4_L7 f) 3 x (nI i)) _
    unfold f_Sl_indexOfChar_v4_7
    rw [if_pos ((zc_le (k := 3) (by decide) (by omega)).mpr (by omega)), zw_some]
    exact Or.inr ⟨rfl, fun j h3 h4 => by omega⟩
  | succ m ih =>
    intro i fuel h1 h2
    obtain ⟨f, rfl⟩ : ∃ f, fuel = f + 1 := ⟨fuel - 1, by omega⟩
    show zw (f_Sl_indexOfChar_v4_7 (f_Sl_indexOfChar_v4_L7 f) 3 x (nI i)) _
    unfold f_Sl_indexOfChar_v4_7
    rw [if_neg (mt (zc_le (k := 3) (by decide) (by omega)).mp (by omega)), if_pos (zi_in (by omega) (by omega)), nI_clamp (by omega), nI_1]
    by_cases c : ze_f 4 i = x
    · rw [if_pos c, zw_some]
      exact Or.inl ⟨i, Nat.le_refl i, by omega, rfl, c⟩
    · rw [if_neg c]
      refine zw_mono (ih (i + 1) f (by omega) (by omega)) fun v q => ?_
      rcases q with ⟨j, h3, h4, h5, h6⟩ | ⟨h3, h4⟩
      · exact Or.inl ⟨j, by omega, h4, h5, h6⟩
      · refine Or.inr ⟨h3, fun j h5 h6 => ?_⟩
        by_cases ej : j = i
        · rw [ej]; exact c
        · exact h4 j (by omega) h6
theorem zx_A4 : ∀ c, c < 256 → f_Sl_canEncode (nI c) = 1 ∧ ((nI c).toUInt32 % 65536).toInt32 = nI c ∧ ∀ j, j < 3 → (ze_f 4 j = (nI c).toInt8.toInt32 ↔ ze_f 4 j = nI c) := by decide +kernel
theorem zx_I4 {h : zs_H} {c : Nat} (hc : c < 256) : zw (f_St_indexOf_s4 h (((nI c).toUInt32 % 65536).toInt32)) (fun v => (∃ j, j < 3 ∧ v = nI j ∧ ze_f 4 j = nI c) ∨ (v = -1 ∧ ∀ j, j < 3 → ¬ ze_f 4 j = nI c)) := by
  obtain ⟨a1, a2, a3⟩ := zx_A4 c hc
  rw [a2]
  unfold f_St_indexOf_s4 f_St_indexOf2_s4 f_Sl_indexOf_v4
  rw [a1, if_neg (by decide), if_pos (by decide)]
  rw [zw_bind, zw_bind, zw_bind]
  unfold f_Sl_indexOfChar_v4
  refine zw_mono (zx_L4 (x := (nI c).toInt8.toInt32) 3 0 zF rfl (by have := zF_big; omega)) fun v q => ?_
  rw [zw_some, zw_some, zw_some]
  rcases q with ⟨j, h3, h4, h5, h6⟩ | ⟨h3, h4⟩
  · exact Or.inl ⟨j, h4, h5, (a3 j h4).mp h6⟩
  · exact Or.inr ⟨h3, fun j h5 q => h4 j (Nat.zero_le j) h5 ((a3 j h5).mpr q)⟩
theorem zx_L5 {x : Int32} : ∀ m i fuel, 2 = i + m → m < fuel → zw (f_Sl_indexOfChar_v5_L7 fuel 2 x (nI i)) (fun v => (∃ j, i ≤ j ∧ j < 2 ∧ v = nI j ∧ ze_f 5 j = x) ∨ (v = -1 ∧ ∀ j, i ≤ j → j < 2 → ¬ ze_f 5 j = x)) := by
  intro m
  induction m with
  | zero =>
    intro i fuel h1 h2
    obtain ⟨f, rfl⟩ : ∃ f, fuel = f + 1 := ⟨fuel - 1, by omega⟩
    show zw (f_Sl_indexOfChar_v5_7 (f_Sl_indexOfChar_v5_L7 f) 2 x (nI i)) _
    unfold f_Sl_indexOfChar_v5_7
    rw [if_pos ((zc_le (k := 2) (by decide) (by omega)).mpr (by omega)), zw_some]
    exact Or.inr ⟨rfl, fun j h3 h4 => by omega⟩
  | succ m ih =>
    intro i fuel h1 h2
    obtain ⟨f, rfl⟩ : ∃ f, fuel = f + 1 := ⟨fuel - 1, by omega⟩
    show zw (f_Sl_indexOfChar_v5_7 (f_Sl_indexOfChar_v5_L7 f) 2 x (nI i)) _
    unfold f_Sl_indexOfChar_v5_7
    rw [if_neg (mt (zc_le (k := 2) (by decide) (by omega)).mp (by omega)), if_pos (zi_in (by omega) (by omega)), nI_clamp (by omega), nI_1]
    by_cases c : ze_f 5 i = x
    · rw [if_pos c, zw_some]
      exact Or.inl ⟨i, Nat.le_refl i, by omega, rfl, c⟩
    · rw [if_neg c]
      refine zw_mono (ih (i + 1) f (by omega) (by omega)) fun v q => ?_
      rcases q with ⟨j, h3, h4, h5, h6⟩ | ⟨h3, h4⟩
      · exact Or.inl ⟨j, by omega, h4, h5, h6⟩
      · refine Or.inr ⟨h3, fun j h5 h6 => ?_⟩
        by_cases ej : j = i
        · rw [ej]; exact c
        · exact h4 j (by omega) h6
theorem zx_A5 : ∀ c, c < 256 → f_Sl_canEncode (nI c) = 1 ∧ ((nI c).toUInt32 % 65536).toInt32 = nI c ∧ ∀ j, j < 2 → (ze_f 5 j = (nI c).toInt8.toInt32 ↔ ze_f 5 j = nI c) := by decide +kernel
theorem zx_I5 {h : zs_H} {c : Nat} (hc : c < 256) : zw (f_St_indexOf_s5 h (((nI c).toUInt32 % 65536).toInt32)) (fun v => (∃ j, j < 2 ∧ v = nI j ∧ ze_f 5 j = nI c) ∨ (v = -1 ∧ ∀ j, j < 2 → ¬ ze_f 5 j = nI c)) := by
  obtain ⟨a1, a2, a3⟩ := zx_A5 c hc
  rw [a2]
  unfold f_St_indexOf_s5 f_St_indexOf2_s5 f_Sl_indexOf_v5
  rw [a1, if_neg (by decide), if_pos (by decide)]
  rw [zw_bind, zw_bind, zw_bind]
  unfold f_Sl_indexOfChar_v5
  refine zw_mono (zx_L5 (x := (nI c).toInt8.toInt32) 2 0 zF rfl (by have := zF_big; omega)) fun v q => ?_
  rw [zw_some, zw_some, zw_some]
  rcases q with ⟨j, h3, h4, h5, h6⟩ | ⟨h3, h4⟩
  · exact Or.inl ⟨j, h4, h5, (a3 j h4).mp h6⟩
  · exact Or.inr ⟨h3, fun j h5 q => h4 j (Nat.zero_le j) h5 ((a3 j h5).mpr q)⟩
def zl_sg : List Int32 := [40, 41, 91, 93, 44, 59, 58, 46, 43, 45, 42, 47, 61, 60, 62, 38, 124]
def zl_2 (c d : Int32) : Nat := if c = 58 ∧ d = 61 then 256 else if c = 46 ∧ d = 46 then 257 else if c = 60 ∧ d = 61 then 258 else if c = 62 ∧ d = 61 then 259 else if c = 60 ∧ d = 62 then 260 else 0
def zl_sn (T : Nat → Int32) (n a : Nat) : zl_T := if zl_2 (zl_b T n a) (zl_b T n (a + 1)) = 0 then (if zl_b T n a ∈ zl_sg then (5, a, a + 1, (zl_b T n a).toNatClampNeg) else (9, a, a, 1)) else (5, a, a + 2, zl_2 (zl_b T n a) (zl_b T n (a + 1)))
theorem zl_byte {v : Int32} (h : zb_ok v) : ∃ k : Nat, k < 256 ∧ v &&& 255 = nI k ∧ (0 ≤ v → v = nI k) ∧ (v < 0 → 128 ≤ k) := by
  have key : ∀ j, j < 256 → ((nI j - 128) &&& 255 = nI ((j + 128) % 256) ∧ (0 ≤ nI j - 128 → nI j - 128 = nI ((j + 128) % 256)) ∧ (nI j - 128 < 0 → 128 ≤ (j + 128) % 256)) := by decide +kernel
  have e : v = nI (v.toInt + 128).toNat - 128 := by
    apply Int32.toInt_inj.mp
    have h1 := h.1
    have h2 := h.2
    have e1 : (nI (v.toInt + 128).toNat).toInt = v.toInt + 128 := by rw [nI_toInt (by omega)]; omega
    rw [za_sub (by rw [e1]; show _ ≤ _ - (128 : Int); omega) (by rw [e1]; show _ - (128 : Int) < _; omega), e1]
    show _ = _ - (128 : Int)
    omega
  have h1 := h.1
  have h2 := h.2
  have q := key (v.toInt + 128).toNat (by omega)
  rw [← e] at q
  exact ⟨((v.toInt + 128).toNat + 128) % 256, Nat.mod_lt _ (by decide), q⟩
theorem zl_sgf : ∀ c, c < 256 → ((∃ j, j < 17 ∧ ze_f 9 j = nI c) ↔ nI c ∈ zl_sg) ∧ (128 ≤ c → ¬ nI c ∈ zl_sg) ∧ (c = 0 → ¬ nI c ∈ zl_sg) := by decide +kernel
theorem zl_readSign {g : zs_H} {T : Nat → Int32} {n b a : Nat} {L : List (List Int32)} {c : List Int32} (H : zl_X g T n) (Ha : (g.1 68 7) = nI a) (Hb : (g.1 68 8) = nI b) (ha : a < n) (hb : b ≤ a) (hT : ∀ i, zb_ok (T i)) (HL : zn_M g L) : zw (f_Mo_readSign g) (zl_N n b L c g (zl_sn T n a)) := by
  have hn := H.2.1
  obtain ⟨k, hk, ek, -, -⟩ := zl_byte (hT a)
  have eb : zl_b T n a = nI k := by unfold zl_b; rw [if_pos ha, ek]
  unfold f_Mo_readSign zl_sn
  rw [Ha, zl_byteOf H (by omega), nI_1, zl_byteOf H (by omega), zw_bind, zw_some, zw_bind, zw_some, eb]
  generalize zl_b T n (a + 1) = d
  have h162 : ∀ t : Nat, t ≤ 260 → zw (f_Mo_readSign_162 g (nI k) (nI t)) (zl_N n b L c g (if t = 0 then (5, a, a + 1, k) else (5, a, a + 2, t))) := by
    intro t ht
    unfold f_Mo_readSign_162 f_Mo_readSign_177 f_Mo_readSign_194
    by_cases c1 : t = 0
    · subst c1
      rw [if_pos (by decide), if_pos (by decide), if_pos rfl, zw_some, show (zs_uF g 68 6 5).1 68 7 = nI a from Ha, nI_1]
      exact ⟨zfr_F (by decide) (zfr_F (by decide) (zfr_F (by decide) zfr_rfl)), fun q => absurd q (by simp), fun _ => ⟨rfl, rfl, Ha, rfl, rfl, fun q => absurd q (by simp), fun _ => ⟨HL, fun _ => rfl⟩⟩⟩
    · have c2 : ¬ nI t ≤ 0 := mt (zc_el (k := 0) (by decide) (by omega)).mp (by omega)
      rw [if_neg c2, if_neg c2, if_neg c1, zw_some, show (zs_uF g 68 6 5).1 68 7 = nI a from Ha, show nI a + 2 = nI (a + 2) from nI_add a 2]
      exact ⟨zfr_F (by decide) (zfr_F (by decide) (zfr_F (by decide) zfr_rfl)), fun q => absurd q (by simp), fun _ => ⟨rfl, rfl, Ha, rfl, rfl, fun q => absurd q (by simp), fun _ => ⟨HL, fun _ => rfl⟩⟩⟩
  have h139 : ∀ (t : Nat) (o : Int32), t ≤ 260 → (o = 0 ↔ ¬ nI k ∈ zl_sg) → zw (f_Mo_readSign_139 g (nI k) (nI t) o) (zl_N n b L c g (if t = 0 then (if nI k ∈ zl_sg then (5, a, a + 1, k) else (9, a, a, 1)) else (5, a, a + 2, t))) := by
    intro t o ht ho
    unfold f_Mo_readSign_139
    by_cases c1 : t = 0
    · rw [if_pos (by rw [c1]; rfl), if_pos c1]
      by_cases c2 : nI k ∈ zl_sg
      · rw [if_neg (fun q => ho.mp q c2), if_pos c2]
        have := h162 t ht
        rw [if_pos c1] at this; exact this
      · rw [if_pos (ho.mpr c2), if_neg c2, zl_fail Ha, zw_bind, zw_some, zw_some]
        exact zl_ftN (w := 1) (fs := []) zfr_rfl (fun x q => absurd q (List.not_mem_nil)) HL Hb (by omega) (Nat.le_refl b)
    · rw [if_neg (fun q => c1 ((zc_eq (k := 0) (by decide) (by omega)).mp q)), if_neg c1]
      have := h162 t ht
      rw [if_neg c1] at this; exact this
  have hs := zl_sgf k hk
  have h111 : ∀ t : Nat, t ≤ 260 → zw (f_Mo_readSign_111 g (nI k) (nI t)) (zl_N n b L c g (if t = 0 then (if nI k ∈ zl_sg then (5, a, a + 1, k) else (9, a, a, 1)) else (5, a, a + 2, t))) := by
    intro t ht
    unfold f_Mo_readSign_111 f_Mo_readSign_138
    by_cases c1 : k = 0
    · rw [if_pos (by rw [c1]; decide)]
      exact h139 t 0 ht ⟨fun _ => hs.2.2 c1, fun _ => rfl⟩
    · rw [if_neg (mt (zc_el (k := 0) (by decide) (by omega)).mp (by omega))]
      by_cases c2 : 128 ≤ k
      · rw [if_pos ((zc_le (k := 128) (by decide) (by omega)).mpr c2)]
        exact h139 t 0 ht ⟨fun _ => hs.2.1 c2, fun _ => rfl⟩
      · rw [if_neg (mt (zc_le (k := 128) (by decide) (by omega)).mp c2), zw_bind]
        refine zw_mono (zx_I9 hk) fun v q => ?_
        rcases q with ⟨j, h3, h4, h5⟩ | ⟨h3, h4⟩
        · rw [h4, if_neg (nI_pos (by omega))]
          exact h139 t 1 ht ⟨fun q => absurd q (by simp), fun q => absurd (hs.1.mp ⟨j, h3, h5⟩) q⟩
        · rw [h3, if_pos (by decide)]
          exact h139 t 0 ht ⟨fun _ q => by obtain ⟨j, h5, h6⟩ := hs.1.mpr q; exact h4 j h5 h6, fun _ => rfl⟩
  have ek2 : (nI k).toNatClampNeg = k := nI_clamp (by omega)
  rw [ek2]
  have fin : ∀ t : Nat, t ≤ 260 → zl_2 (nI k) d = t → zw (f_Mo_readSign_111 g (nI k) (nI t)) (zl_N n b L c g (if zl_2 (nI k) d = 0 then (if nI k ∈ zl_sg then (5, a, a + 1, k) else (9, a, a, 1)) else (5, a, a + 2, zl_2 (nI k) d))) := by
    intro t ht e
    rw [e]; exact h111 t ht
  unfold f_Mo_readSign_38 f_Mo_readSign_56 f_Mo_readSign_74 f_Mo_readSign_92 f_Mo_readSign_110
  by_cases a1 : nI k = 58 ∧ d = 61
  · rw [if_pos a1.1, if_pos a1.2]; exact fin 256 (by decide) (if_pos a1)
  by_cases a2 : nI k = 46 ∧ d = 46
  · have n1 : ¬ nI k = 58 := by rw [a2.1]; decide
    rw [if_neg n1, if_pos a2.1, if_pos a2.2]
    exact fin 257 (by decide) (by unfold zl_2; rw [if_neg a1, if_pos a2])
  by_cases a3 : nI k = 60 ∧ d = 61
  · have n1 : ¬ nI k = 58 := by rw [a3.1]; decide
    have n2 : ¬ nI k = 46 := by rw [a3.1]; decide
    rw [if_neg n1, if_neg n2, if_pos a3.1, if_pos a3.2]
    exact fin 258 (by decide) (by unfold zl_2; rw [if_neg a1, if_neg a2, if_pos a3])
  by_cases a4 : nI k = 62 ∧ d = 61
  · have n1 : ¬ nI k = 58 := by rw [a4.1]; decide
    have n2 : ¬ nI k = 46 := by rw [a4.1]; decide
    have n3 : ¬ nI k = 60 := by rw [a4.1]; decide
    rw [if_neg n1, if_neg n2, if_neg n3, if_pos a4.1, if_pos a4.2]
    exact fin 259 (by decide) (by unfold zl_2; rw [if_neg a1, if_neg a2, if_neg a3, if_pos a4])
  by_cases a5 : nI k = 60 ∧ d = 62
  · have n1 : ¬ nI k = 58 := by rw [a5.1]; decide
    have n2 : ¬ nI k = 46 := by rw [a5.1]; decide
    have n4 : ¬ nI k = 62 := by rw [a5.1]; decide
    have n5 : ¬ d = 61 := by rw [a5.2]; decide
    rw [if_neg n1, if_neg n2, if_pos a5.1, if_neg n5, if_neg n4, if_pos a5.1, if_pos a5.2]
    exact fin 260 (by decide) (by unfold zl_2; rw [if_neg a1, if_neg a2, if_neg a3, if_neg a4, if_pos a5])
  have f0 := fin 0 (by decide) (by unfold zl_2; rw [if_neg a1, if_neg a2, if_neg a3, if_neg a4, if_neg a5])
  rw [nI_0] at f0
  generalize zl_N n b L c g _ = Q at f0 ⊢
  repeat' split
  all_goals first | exact f0 | exact absurd (And.intro (by assumption) (by assumption)) a1 | exact absurd (And.intro (by assumption) (by assumption)) a2 | exact absurd (And.intro (by assumption) (by assumption)) a3 | exact absurd (And.intro (by assumption) (by assumption)) a4 | exact absurd (And.intro (by assumption) (by assumption)) a5
end
section
/-! The model's next token. -/
def zl_ne (T : Nat → Int32) (n a : Nat) : Nat := zl_run (zl_pt T n) (n - a) a
def zl_tn (T : Nat → Int32) (n a : Nat) : zl_T := if 32 < zl_ne T n a - a then (9, a, zl_ne T n a, 3) else if zl_nm T n a (zl_ne T n a) ∈ zl_W then (2, a, zl_ne T n a, zl_W.idxOf (zl_nm T n a (zl_ne T n a))) else (1, a, zl_ne T n a, 0)
def zl_tk (T : Nat → Int32) (n a : Nat) : zl_T :=
  if n ≤ a then (0, n, n, 0)
  else if zl_g T n a = 84 ∧ zl_b T n (a + 1) = 35 then zl_tm T n a
  else if ¬ f_Mo_isLetter (zl_g T n a) = 0 then zl_tn T n a
  else if ¬ f_Mo_isDigit (zl_g T n a) = 0 then zl_nb T n a
  else if zl_g T n a = 37 then zl_pl T n a
  else zl_sn T n a
def zl_tok (T : Nat → Int32) (n b : Nat) : zl_T := if (zl_sk T n (n - b) b).2 = true then zl_tk T n (zl_sk T n (n - b) b).1 else (9, (zl_sk T n (n - b) b).1, (zl_sk T n (n - b) b).1, 2)
theorem zl_rn8 {g : zs_H} {T : Nat → Int32} {n : Nat} (H : zl_X g T n) : ∀ m i fuel, n ≤ i + m → m < fuel → i ≤ n → f_Mo_readName_L8 fuel (zs_uF g 68 8 (nI i)) = f_Mo_readName_8 (fun _ => none) (zs_uF g 68 8 (nI (zl_run (zl_pt T n) m i))) := by
  have hn := H.2.1
  have hx : ∀ i k k', i ≤ n → zl_pt T n i = false → f_Mo_readName_8 k (zs_uF g 68 8 (nI i)) = f_Mo_readName_8 k' (zs_uF g 68 8 (nI i)) := by
    intro i k k' hi hp
    have c : f_Nm_isPart (zl_b T n i) = 0 := by unfold zl_pt at hp; simpa using hp
    unfold f_Mo_readName_8
    rw [show (zs_uF g 68 8 (nI i)).1 68 8 = nI i from rfl, zl_goesOn (g := zs_uF g 68 8 (nI i)) (n := n) H (by omega)]
    show (if f_Nm_isPart (zl_b T n i) = 0 then _ else _) = (if f_Nm_isPart (zl_b T n i) = 0 then _ else _)
    rw [if_pos c, if_pos c]
  intro m
  induction m with
  | zero =>
    intro i fuel h1 h2 h3
    obtain ⟨f, rfl⟩ : ∃ f, fuel = f + 1 := ⟨fuel - 1, by omega⟩
    exact hx i _ _ h3 (zl_pt_hi (by omega))
  | succ m ih =>
    intro i fuel h1 h2 h3
    obtain ⟨f, rfl⟩ : ∃ f, fuel = f + 1 := ⟨fuel - 1, by omega⟩
    by_cases c : zl_pt T n i = true
    · have hlt : i < n := Nat.lt_of_not_le fun q => by rw [zl_pt_hi q] at c; exact absurd c (by decide)
      have e2 : zl_run (zl_pt T n) (m + 1) i = zl_run (zl_pt T n) m (i + 1) := by
        show (if _ then _ else _) = _
        rw [if_pos c]
      rw [e2, ← ih (i + 1) f (by omega) (by omega) (by omega)]
      have c' : ¬ f_Nm_isPart (zl_b T n i) = 0 := by unfold zl_pt at c; simpa using c
      show f_Mo_readName_8 (f_Mo_readName_L8 f) _ = _
      unfold f_Mo_readName_8
      rw [show (zs_uF g 68 8 (nI i)).1 68 8 = nI i from rfl, zl_goesOn (g := zs_uF g 68 8 (nI i)) (n := n) H (by omega)]
      show (if f_Nm_isPart (zl_b T n i) = 0 then _ else _) = _
      rw [if_neg c', nI_1, zu_c]
    · have c' : zl_pt T n i = false := by simpa using c
      rw [zl_run_0 _ _ _ c']
      exact hx i _ _ h3 c'
theorem zl_ne_le {T : Nat → Int32} {n a : Nat} (ha : a ≤ n) : a ≤ zl_ne T n a ∧ zl_ne T n a ≤ n ∧ zl_pt T n (zl_ne T n a) = false ∧ ∀ i, a ≤ i → i < zl_ne T n a → zl_pt T n i = true := by
  have h1 := zl_run_le (zl_pt T n) (n - a) a
  refine ⟨zl_run_ge _ _ _, by unfold zl_ne; omega, zl_run_not _ _ _ (by rw [show a + (n - a) = n by omega]; exact zl_pt_hi (Nat.le_refl n)), fun i h2 h3 => zl_run_all _ _ _ i h2 h3⟩
theorem zl_readName {g : zs_H} {T : Nat → Int32} {n b a : Nat} {L : List (List Int32)} (H : zl_X g T n) (Ha : (g.1 68 7) = nI a) (ha : a < n) (hb : b ≤ a) (HL : zn_M g L) (hL : L.length < 8000) : zw (f_Mo_readName g) (zl_N n b L (zl_nm T n a (zl_ne T n a)) g (zl_tn T n a)) := by
  have hn := H.2.1
  obtain ⟨n1, n2, n3, n4⟩ := zl_ne_le (T := T) (n := n) (a := a) (by omega)
  have h8 := zl_rn8 H (n - a) a zF (by omega) (by have := zF_big; omega) (by omega)
  unfold f_Mo_readName zl_tn
  rw [Ha, h8]
  show zw (f_Mo_readName_8 (fun _ => none) (zs_uF g 68 8 (nI (zl_ne T n a)))) _
  generalize zl_ne T n a = e at n1 n2 n3 n4 ⊢
  have c : f_Nm_isPart (zl_b T n e) = 0 := by unfold zl_pt at n3; simpa using n3
  have hF : zfr [(68, 8)] [] [] g (zs_uF g 68 8 (nI e)) := zfr_F (by decide) zfr_rfl
  unfold f_Mo_readName_8
  rw [show (zs_uF g 68 8 (nI e)).1 68 8 = nI e from rfl, show (zs_uF g 68 8 (nI e)).1 68 7 = nI a from Ha, zl_goesOn (g := zs_uF g 68 8 (nI e)) (n := n) H (by omega), zw_bind, zw_some]
  show zw (if f_Nm_isPart (zl_b T n e) = 0 then _ else _) _
  rw [if_pos c, zi_sub n1]
  by_cases c1 : 32 < e - a
  · rw [if_neg (mt (zc_el (k := 32) (by decide) (by omega)).mp (by omega)), if_pos c1, show nI a = (zs_uF g 68 8 (nI e)).1 68 7 from Ha.symm, zl_fail (g := zs_uF g 68 8 (nI e)) Ha, zw_bind, zw_some, zw_some]
    exact zl_ftN (w := 3) hF (by decide) HL rfl n2 (by omega)
  · rw [if_pos ((zc_el (k := 32) (by decide) (by omega)).mpr (by omega)), if_neg c1, zl_wordAt (g := zs_uF g 68 8 (nI e)) (n := n) (a := a) (e := e) H Ha rfl n1 n2, zw_bind, zw_some]
    show zw (if (0 : Int32) ≤ (if zl_nm T n a e ∈ zl_W then nI (zl_W.idxOf (zl_nm T n a e)) else -1) then f_Mo_readName_79 (zs_uF (zs_uF g 68 8 (nI e)) 68 9 (if zl_nm T n a e ∈ zl_W then nI (zl_W.idxOf (zl_nm T n a e)) else -1)) 2 else f_Mo_readName_79 (zs_uF (zs_uF g 68 8 (nI e)) 68 9 (if zl_nm T n a e ∈ zl_W then nI (zl_W.idxOf (zl_nm T n a e)) else -1)) 1) _
    unfold f_Mo_readName_79 f_Mo_readName_101
    by_cases c2 : zl_nm T n a e ∈ zl_W
    · have hw : zl_W.idxOf (zl_nm T n a e) < 41 := List.idxOf_lt_length_of_mem c2
      rw [if_pos c2, if_pos c2, if_pos (nI_pos' (by omega)), show (zs_uF (zs_uF g 68 8 (nI e)) 68 9 (nI (zl_W.idxOf (zl_nm T n a e)))).1 68 9 = nI (zl_W.idxOf (zl_nm T n a e)) from rfl, if_pos (nI_pos' (by omega)), zw_some]
      exact zl_N_pre hF (by decide) ⟨zfr_F (by decide) (zfr_F (by decide) (zfr_F (by decide) zfr_rfl)), fun q => absurd q (by simp), fun _ => ⟨rfl, rfl, Ha, rfl, rfl, fun q => absurd q (by simp), fun _ => ⟨HL, fun _ => rfl⟩⟩⟩
    · rw [if_neg c2, if_neg c2, if_neg (by decide), show (zs_uF (zs_uF g 68 8 (nI e)) 68 9 (-1)).1 68 9 = -1 from rfl, if_neg (by decide), zw_B]
      refine zw_mono (zn_nameAt (g := zs_uF (zs_uF (zs_uF g 68 8 (nI e)) 68 9 (-1)) 68 6 1) (n := n) (a := a) (e := e) (L := L) H Ha rfl n1 n2 (by omega) n4 HL hL) fun p q => ?_
      rw [zw_some]
      have f1 : zfr [(68, 3), (68, 6), (68, 7), (68, 8), (68, 9), (68, 10), (68, 11)] [70, 71] [] (zs_uF (zs_uF (zs_uF g 68 8 (nI e)) 68 9 (-1)) 68 6 1) p.2 := zfr_w q.2.2 (by decide) (by decide) (by decide)
      refine ⟨zfr_F (by decide) (zfr_trans (zfr_F (by decide) (zfr_F (by decide) (zfr_F (by decide) zfr_rfl))) f1), fun z => absurd z (by simp), fun _ => ⟨?_, ?_, ?_, ?_, ?_, fun _ => ⟨?_, ?_⟩, fun z => absurd rfl z⟩⟩
      · exact (q.2.2.1 _ _ (by decide)).trans rfl
      · exact (q.2.2.1 _ _ (by decide)).trans rfl
      · exact (q.2.2.1 _ _ (by decide)).trans Ha
      · exact (q.2.2.1 _ _ (by decide)).trans rfl
      · exact (q.2.2.1 _ _ (by decide)).trans rfl
      · exact q.2.1
      · exact zn_fr (zfr_F (fs := [(68, 9)]) (ms := []) (ls := []) (by decide) zfr_rfl) (by decide) (by decide) (by decide) q.1
theorem zl_dp10 (c : Int32) (h : ¬ f_Mo_isDigit c = 0) : f_Mo_digit c < 10 := by grind [f_Mo_digit, f_Mo_isDigit]
theorem zl_next {g : zs_H} {T : Nat → Int32} {n b : Nat} {L : List (List Int32)} (H : zl_X g T n) (hT : ∀ i, zb_ok (T i)) (Hb : (g.1 68 8) = nI b) (hb : b ≤ n) (HL : zn_M g L) (hL : L.length < 8000) :
    zw (f_Mo_next g) (zl_N n b L (zl_nm T n (zl_tok T n b).2.1 (zl_tok T n b).2.2.1) g (zl_tok T n b)) := by
  have hn := H.2.1
  have hs := zl_sk_le (T := T) (n := n) (n - b) b hb
  unfold f_Mo_next
  rw [Hb, zl_skip H hb, zw_B, zw_some]
  unfold zl_tok
  generalize zl_sk T n (n - b) b = sk at hs ⊢
  obtain ⟨a, ok⟩ := sk
  dsimp only at hs ⊢
  by_cases c0 : ok = true
  · rw [if_pos c0, if_pos c0]
    dsimp only
    rw [if_pos (nI_pos' (by omega)), zl_great (g := zs_uF g 68 7 (nI a)) (n := n) H (by omega), zw_bind, zw_some, H.1]
    have hF : zfr [(68, 7)] [] [] g (zs_uF g 68 7 (nI a)) := zfr_F (by decide) zfr_rfl
    show zw (if nI a < nI n then (if zl_g T n a = 84 then _ else _) else _) _
    unfold zl_tk
    by_cases c1 : n ≤ a
    · rw [if_neg (mt (nI_ltI (by omega) (by omega)).mp (by omega)), if_pos c1, zw_some]
      exact ⟨zfr_F (by decide) (zfr_F (by decide) (zfr_F (by decide) (zfr_F (by decide) zfr_rfl))), fun q => absurd q (by simp), fun _ => ⟨rfl, rfl, rfl, rfl, rfl, fun q => absurd q (by simp), fun _ => ⟨HL, fun q => absurd rfl q⟩⟩⟩
    · rw [if_pos ((nI_ltI (by omega) (by omega)).mpr (by omega)), if_neg c1]
      have h97 : ¬ (zl_g T n a = 84 ∧ zl_b T n (a + 1) = 35) → zw (f_Mo_next_97 (zs_uF g 68 7 (nI a)) (zl_g T n a)) (zl_N n b L (zl_nm T n (zl_tk T n a).2.1 (zl_tk T n a).2.2.1) g (zl_tk T n a)) := by
        intro q
        unfold f_Mo_next_97 zl_tk
        rw [if_neg c1, if_neg q]
        by_cases d1 : f_Mo_isLetter (zl_g T n a) = 0
        · rw [if_pos d1, if_neg (not_not_intro d1)]
          by_cases d2 : f_Mo_isDigit (zl_g T n a) = 0
          · rw [if_pos d2, if_neg (not_not_intro d2)]
            by_cases d3 : zl_g T n a = 37
            · rw [if_pos d3, if_pos d3, zw_bind]
              exact zw_mono (zl_readPlace (g := zs_uF g 68 7 (nI a)) (n := n) H rfl Hb (by omega) (by omega) HL) fun g' z => zw_some.mpr (zl_N_pre hF (by decide) z)
            · rw [if_neg d3, if_neg d3, zw_bind]
              exact zw_mono (zl_readSign (g := zs_uF g 68 7 (nI a)) (n := n) H rfl Hb (by omega) (by omega) hT HL) fun g' z => zw_some.mpr (zl_N_pre hF (by decide) z)
          · rw [if_neg d2, if_pos d2, zw_bind]
            exact zw_mono (zl_readNumber (g := zs_uF g 68 7 (nI a)) (n := n) H rfl (by omega) (by omega) (by unfold zl_dp; exact decide_eq_true (zl_dp10 _ d2)) HL) fun g' z => zw_some.mpr (zl_N_pre hF (by decide) z)
        · rw [if_neg d1, if_pos d1, zw_bind]
          refine zw_mono (zl_readName (b := b) (g := zs_uF g 68 7 (nI a)) (n := n) H rfl (by omega) (by omega) HL hL) fun g' z => zw_some.mpr (zl_N_pre hF (by decide) ?_)
          have e9 : (zl_tn T n a).2.1 = a ∧ (zl_tn T n a).2.2.1 = zl_ne T n a := by
            unfold zl_tn
            repeat' split
            all_goals exact ⟨rfl, rfl⟩
          rw [e9.1, e9.2]
          exact z
      have e97 : (if zl_g T n a = 84 ∧ zl_b T n (a + 1) = 35 then zl_tm T n a else if ¬ f_Mo_isLetter (zl_g T n a) = 0 then zl_tn T n a else if ¬ f_Mo_isDigit (zl_g T n a) = 0 then zl_nb T n a else if zl_g T n a = 37 then zl_pl T n a else zl_sn T n a) = zl_tk T n a := by
        unfold zl_tk; rw [if_neg c1]
      rw [e97]
      by_cases c2 : zl_g T n a = 84
      · rw [if_pos c2, nI_1, zl_byteOf (g := zs_uF g 68 7 (nI a)) (n := n) H (by omega), zw_bind, zw_some]
        show zw (if zl_b T n (a + 1) = 35 then _ else _) _
        by_cases c3 : zl_b T n (a + 1) = 35
        · rw [if_pos c3, zw_bind]
          have e98 : zl_tk T n a = zl_tm T n a := by unfold zl_tk; rw [if_neg c1, if_pos ⟨c2, c3⟩]
          rw [e98]
          exact zw_mono (zl_readTime (g := zs_uF g 68 7 (nI a)) (n := n) H rfl (by have := zl_b_lt (T := T) (n := n) (i := a + 1) (by rw [c3]; decide); omega) (by omega) HL) fun g' z => zw_some.mpr (zl_N_pre hF (by decide) z)
        · rw [if_neg c3]; exact h97 (fun q => c3 q.2)
      · rw [if_neg c2]; exact h97 (fun q => c2 q.1)
  · rw [if_neg c0, if_neg c0]
    dsimp only
    rw [if_neg (by decide), zw_some]
    have f9 := zl_ftf (g := g) (w := 2) (a := a)
    refine ⟨zfr_F (by decide) (zfr_F (by decide) (zfr_w f9 (by decide) (by decide) (by decide))), fun _ => ⟨fun z => ?_, fun z => ?_, ?_, b, ?_, hb, Nat.le_refl b⟩, fun q => absurd rfl q⟩
    · rw [show zl_ft g 2 a = zs_uF (zs_uF g 68 10 2) 68 11 (nI a) from if_pos z]; exact ⟨rfl, rfl⟩
    · rw [show zl_ft g 2 a = g from if_neg z]; exact ⟨rfl, rfl⟩
    · exact zn_fr (zfr_F (fs := [(68, 10), (68, 11), (68, 7), (68, 6)]) (by decide) (zfr_F (by decide) (zfr_w f9 (by decide) (fun x q => q) (fun x q => q)))) (by decide) (by decide) (by decide) HL
    · show (zl_ft g 2 a).1 68 8 = _
      rw [f9.1 _ _ (by decide)]; exact Hb
end
section
/-! The class's names. -/
theorem zm_1023 (x : Int32) : ∃ k : Nat, k < 1024 ∧ x &&& 1023 = nI k := by
  refine ⟨x.toBitVec.toNat % 1024, Nat.mod_lt _ (by decide), ?_⟩
  apply Int32.toBitVec_inj.mp
  show x.toBitVec &&& 1023#32 = BitVec.ofNat 32 (x.toBitVec.toNat % 1024)
  apply BitVec.eq_of_toNat_eq
  rw [BitVec.toNat_and]
  show x.toBitVec.toNat &&& (2 ^ 10 - 1) = _
  rw [Nat.and_two_pow_sub_one_eq_mod, BitVec.toNat_ofNat, Nat.mod_eq_of_lt (a := x.toBitVec.toNat % 1024)]
  have := Nat.mod_lt x.toBitVec.toNat (show 1024 > 0 by decide)
  omega
def zn_hl (c : List Int32) : Int32 := c.foldl (fun s x => s * 31 + x) (nI c.length)
def zn_hh (c : List Int32) : Int32 := (zn_hl c ^^^ (((zn_hl c).toUInt32 >>> ((11 : Int32).toUInt32 &&& Int32.toUInt32 31)).toInt32)) &&& 1023
def zn_h (c : List Int32) : Nat := (zn_hh c).toNatClampNeg
theorem zn_hf (c : List Int32) : zn_h c < 1024 ∧ zn_hh c = nI (zn_h c) := by
  obtain ⟨k, hk, e⟩ := zm_1023 (zn_hl c ^^^ (((zn_hl c).toUInt32 >>> ((11 : Int32).toUInt32 &&& Int32.toUInt32 31)).toInt32))
  have e' : zn_hh c = nI k := e
  have e2 : zn_h c = k := by unfold zn_h; rw [e']; exact nI_clamp (by omega)
  rw [e2]; exact ⟨hk, e'⟩
/-- the great letters of a stretch of an array -/
def zn_rc (T : Nat → Int32) (a len : Nat) : List Int32 := (List.range len).map fun i => f_Nm_great (T (a + i))
theorem zn_rc_len {T : Nat → Int32} {a len : Nat} : (zn_rc T a len).length = len := by unfold zn_rc; rw [List.length_map, List.length_range]
theorem zn_rc_at {T : Nat → Int32} {a len i : Nat} (h : i < len) : (zn_rc T a len).getD i 0 = f_Nm_great (T (a + i)) := by
  unfold zn_rc
  rw [List.getD_eq_getElem?_getD, List.getElem?_map, List.getElem?_range h]; rfl
theorem zn_rc_eq {T : Nat → Int32} {a len : Nat} {d : List Int32} : zn_rc T a len = d ↔ d.length = len ∧ ∀ i, i < len → f_Nm_great (T (a + i)) = d.getD i 0 := by
  constructor
  · rintro rfl
    exact ⟨zn_rc_len, fun i h => (zn_rc_at h).symm⟩
  · rintro ⟨h1, h2⟩
    refine zl_ext (by rw [zn_rc_len, h1]) fun i h => ?_
    rw [zn_rc_len] at h
    rw [zn_rc_at h, h2 i h]
def zn_hs (T : Nat → Int32) (a len : Nat) : Nat → Int32
  | 0 => nI len
  | i + 1 => zn_hs T a len i * 31 + f_Nm_great (T (a + i))
theorem zn_hs_hl (T : Nat → Int32) (a len : Nat) : zn_hs T a len len = zn_hl (zn_rc T a len) := by
  have key : ∀ i, zn_hs T a len i = ((List.range i).map fun i => f_Nm_great (T (a + i))).foldl (fun s x => s * 31 + x) (nI len) := by
    intro i
    induction i with
    | zero => rfl
    | succ i ih => rw [List.range_succ, List.map_append, List.foldl_append, ← ih]; rfl
  rw [key len]
  unfold zn_hl
  rw [zn_rc_len]; rfl
/-- where the letters of a name begin -/
def zn_o (L : List (List Int32)) (k : Nat) : Nat := ((L.take k).map List.length).sum
theorem zn_o_s {L : List (List Int32)} {k : Nat} (hk : k < L.length) : zn_o L (k + 1) = zn_o L k + (L.getD k []).length := by
  unfold zn_o
  rw [List.take_succ, List.getElem?_eq_getElem hk, List.map_append, List.sum_append, List.getD_eq_getElem?_getD, List.getElem?_eq_getElem hk]
  rfl
theorem zn_o_app {L : List (List Int32)} {c : List Int32} {k : Nat} (hk : k ≤ L.length) : zn_o (L ++ [c]) k = zn_o L k := by
  unfold zn_o
  rw [List.take_append_of_le_length hk]
theorem zn_o_mono {L : List (List Int32)} : ∀ d k, k + d ≤ L.length → zn_o L k ≤ zn_o L (k + d) := by
  intro d
  induction d with
  | zero => intro k _; exact Nat.le_refl _
  | succ d ih => intro k h; have h1 := ih k (by omega); have h2 := zn_o_s (L := L) (k := k + d) (by omega); rw [show k + (d + 1) = k + d + 1 by omega]; omega
/-- the last one before of those in a row of heads -/
def zn_pv (L : List (List Int32)) (b : Nat) : Nat → Int32
  | 0 => -1
  | k + 1 => if zn_h (L.getD k []) = b then nI k else zn_pv L b k
theorem zn_pv_ex {L : List (List Int32)} {b : Nat} : ∀ m, (zn_pv L b m = -1 ∧ ∀ j, j < m → ¬ zn_h (L.getD j []) = b) ∨ ∃ j, j < m ∧ zn_pv L b m = nI j ∧ zn_h (L.getD j []) = b ∧ ∀ i, j < i → i < m → ¬ zn_h (L.getD i []) = b := by
  intro m
  induction m with
  | zero => exact Or.inl ⟨rfl, fun j h => by omega⟩
  | succ m ih =>
    by_cases c : zn_h (L.getD m []) = b
    · exact Or.inr ⟨m, by omega, if_pos c, c, fun i h1 h2 => by omega⟩
    · have e : zn_pv L b (m + 1) = zn_pv L b m := if_neg c
      rcases ih with ⟨h1, h2⟩ | ⟨j, h1, h2, h3, h4⟩
      · refine Or.inl ⟨e.trans h1, fun j hj => ?_⟩
        by_cases ej : j = m
        · rw [ej]; exact c
        · exact h2 j (by omega)
      · refine Or.inr ⟨j, by omega, e.trans h2, h3, fun i h5 h6 => ?_⟩
        by_cases ei : i = m
        · rw [ei]; exact c
        · exact h4 i h5 (by omega)
theorem zn_pv_app {L : List (List Int32)} {c : List Int32} {b : Nat} : ∀ m, m ≤ L.length → zn_pv (L ++ [c]) b m = zn_pv L b m := by
  intro m
  induction m with
  | zero => intro _; rfl
  | succ m ih =>
    intro h
    have e : (L ++ [c]).getD m [] = L.getD m [] := by
      rw [List.getD_eq_getElem?_getD, List.getD_eq_getElem?_getD, List.getElem?_append_left (by omega)]
    unfold zn_pv
    rw [e, ih (by omega)]
def zn_C (h : zs_H) (L : List (List Int32)) : Prop :=
  (h.1 2 5) = nI L.length ∧ L.length ≤ 6000 ∧ zn_o L L.length ≤ 16789 ∧ (∀ k, k ≤ L.length → (h.2.1 5) k = nI (zn_o L k)) ∧ (∀ k, k < L.length → 1 ≤ (L.getD k []).length ∧ (L.getD k []).length ≤ 32 ∧ ∀ i, i < (L.getD k []).length → (h.2.1 4) (zn_o L k + i) = (L.getD k []).getD i 0) ∧ (∀ b, b < 1024 → (h.2.1 7) b = zn_pv L b L.length) ∧ (∀ k, k < L.length → (h.2.1 6) k = zn_pv L (zn_h (L.getD k [])) k)
theorem zn_C_fr {fs : List (Nat × Nat)} {ms ls : List Nat} {g g' : zs_H} {L : List (List Int32)} (f : zfr fs ms ls g g') (h1 : (2, 5) ∉ fs) (h2 : 5 ∉ ms) (h3 : 4 ∉ ms) (h4 : 7 ∉ ms) (h5 : 6 ∉ ms) (H : zn_C g L) : zn_C g' L := by
  unfold zn_C
  rw [f.1 _ _ h1, f.2.1 _ h2, f.2.1 _ h3, f.2.1 _ h4, f.2.1 _ h5]
  exact H
theorem zn_hdc1 {h : zs_H} {a len : Nat} (hr : a + len ≤ 16384) : ∀ m i fuel, len = i + m → m < fuel → f_Nm_headOf_c1_L5 h fuel (nI a) (nI len) (zn_hs (h.2.1 1) a len i) (nI i) = some (zn_hh (zn_rc (h.2.1 1) a len)) := by
  intro m
  induction m with
  | zero =>
    intro i fuel h1 h2
    obtain ⟨f, rfl⟩ : ∃ f, fuel = f + 1 := ⟨fuel - 1, by omega⟩
    have ei : i = len := by omega
    subst ei
    show f_Nm_headOf_c1_5 h (f_Nm_headOf_c1_L5 h f) _ _ _ _ = _
    unfold f_Nm_headOf_c1_5
    rw [if_pos (Int32.le_refl _), zn_hs_hl]
    rfl
  | succ m ih =>
    intro i fuel h1 h2
    obtain ⟨f, rfl⟩ : ∃ f, fuel = f + 1 := ⟨fuel - 1, by omega⟩
    show f_Nm_headOf_c1_5 h (f_Nm_headOf_c1_L5 h f) _ _ _ _ = _
    unfold f_Nm_headOf_c1_5
    rw [if_neg (mt (nI_leI (by omega) (by omega)).mp (by omega)), nI_add, if_pos (zi_in (by omega) (by omega)), nI_clamp (by omega), nI_1]
    exact ih (i + 1) f (by omega) (by omega)
theorem zn_headc1 {h : zs_H} {a len : Nat} (hr : a + len ≤ 16384) : f_Nm_headOf_c1 h (nI a) (nI len) = some (nI (zn_h (zn_rc (h.2.1 1) a len))) := by
  have q := zn_hdc1 (h := h) hr len 0 zF (by omega) (by have := zF_big; omega)
  rw [(zn_hf _).2] at q
  exact q
theorem zn_smc1 {h : zs_H} {a k : Nat} {L : List (List Int32)} (HL : zn_C h L) (hk : k < L.length) (hr : a + (L.getD k []).length ≤ 16384) : ∀ m i fuel, (L.getD k []).length = i + m → m < fuel → zw (f_Nm_isSame_c1_L25 h fuel (nI k) (nI a) (nI (L.getD k []).length) (nI i)) (fun v => (v = 1 ∧ ∀ j, i ≤ j → j < (L.getD k []).length → (L.getD k []).getD j 0 = f_Nm_great (h.2.1 1 (a + j))) ∨ (v = 0 ∧ ¬ ∀ j, i ≤ j → j < (L.getD k []).length → (L.getD k []).getD j 0 = f_Nm_great (h.2.1 1 (a + j)))) := by
  obtain ⟨l1, l2, l3, l4, l5, l6, l7⟩ := HL
  obtain ⟨k1, k2, k3⟩ := l5 k hk
  have ho := zn_o_s hk
  have hm := zn_o_mono (L := L) (L.length - (k + 1)) (k + 1) (by omega)
  rw [show k + 1 + (L.length - (k + 1)) = L.length by omega] at hm
  intro m
  induction m with
  | zero =>
    intro i fuel h1 h2
    obtain ⟨f, rfl⟩ : ∃ f, fuel = f + 1 := ⟨fuel - 1, by omega⟩
    show zw (f_Nm_isSame_c1_25 h (f_Nm_isSame_c1_L25 h f) _ _ _ _) _
    unfold f_Nm_isSame_c1_25
    rw [if_pos ((nI_leI (by omega) (by omega)).mpr (by omega)), zw_some]
    exact Or.inl ⟨rfl, fun j h3 h4 => by omega⟩
  | succ m ih =>
    intro i fuel h1 h2
    obtain ⟨f, rfl⟩ : ∃ f, fuel = f + 1 := ⟨fuel - 1, by omega⟩
    show zw (f_Nm_isSame_c1_25 h (f_Nm_isSame_c1_L25 h f) _ _ _ _) _
    unfold f_Nm_isSame_c1_25
    rw [if_neg (mt (nI_leI (by omega) (by omega)).mp (by omega)), if_pos (zi_in (a := k) (by omega) (by omega)), nI_clamp (n := k) (by omega), l4 k (by omega), nI_add, nI_add, if_pos (zi_in (a := zn_o L k + i) (by omega) (by omega)), if_pos (zi_in (a := a + i) (by omega) (by omega)), nI_clamp (by omega), nI_clamp (by omega), k3 i (by omega), nI_1]
    by_cases c : (L.getD k []).getD i 0 = f_Nm_great (h.2.1 1 (a + i))
    · rw [if_pos c]
      refine zw_mono (ih (i + 1) f (by omega) (by omega)) fun v q => ?_
      rcases q with ⟨q1, q2⟩ | ⟨q1, q2⟩
      · refine Or.inl ⟨q1, fun j h3 h4 => ?_⟩
        by_cases ej : j = i
        · rw [ej]; exact c
        · exact q2 j (by omega) h4
      · exact Or.inr ⟨q1, fun z => q2 fun j h3 h4 => z j (by omega) h4⟩
    · rw [if_neg c, zw_some]
      exact Or.inr ⟨rfl, fun z => c (z i (by omega) (by omega))⟩
theorem zn_samec1 {h : zs_H} {a k len : Nat} {L : List (List Int32)} (HL : zn_C h L) (hk : k < L.length) (hl : len ≤ 32) (hr : a + len ≤ 16384) : f_Nm_isSame_c1 h (nI k) (nI a) (nI len) = some (if L.getD k [] = zn_rc (h.2.1 1) a len then 1 else 0) := by
  obtain ⟨l1, l2, l3, l4, l5, l6, l7⟩ := HL
  obtain ⟨k1, k2, k3⟩ := l5 k hk
  have ho := zn_o_s hk
  have hm := zn_o_mono (L := L) (L.length - (k + 1)) (k + 1) (by omega)
  rw [show k + 1 + (L.length - (k + 1)) = L.length by omega] at hm
  unfold f_Nm_isSame_c1
  rw [nI_1, if_pos (zi_in (by omega) (by omega)), if_pos (zi_in (by omega) (by omega)), nI_clamp (by omega), nI_clamp (by omega), l4 k (by omega), l4 (k + 1) (by omega), zi_sub (by omega), show zn_o L (k + 1) - zn_o L k = (L.getD k []).length by omega]
  by_cases c : (L.getD k []).length = len
  · subst c
    rw [if_pos rfl]
    obtain ⟨v, e1, q⟩ := zn_smc1 (a := a) ⟨l1, l2, l3, l4, l5, l6, l7⟩ hk hr (L.getD k []).length 0 zF (by omega) (by have := zF_big; omega)
    rw [show (0 : Int32) = nI 0 from nI_0.symm, e1, nI_0]
    by_cases z : L.getD k [] = zn_rc (h.2.1 1) a (L.getD k []).length
    · rw [if_pos z]
      rcases q with ⟨q1, q2⟩ | ⟨q1, q2⟩
      · rw [q1]
      · exact absurd (fun j _ h4 => ((zn_rc_eq.mp z.symm).2 j h4).symm) q2
    · rw [if_neg z]
      rcases q with ⟨q1, q2⟩ | ⟨q1, q2⟩
      · exact absurd (zn_rc_eq.mpr ⟨rfl, fun i hi => (q2 i (by omega) hi).symm⟩).symm z
      · rw [q1]
  · rw [if_neg (show ¬ nI (L.getD k []).length = nI len from fun q => c ((nI_eq (by omega) (by omega)).mp q)), if_neg (show ¬ L.getD k [] = zn_rc (h.2.1 1) a len from fun q => c (by rw [q, zn_rc_len]))]
theorem zn_fdc1 {h : zs_H} {a len : Nat} {L : List (List Int32)} (HL : zn_C h L) (hl : len ≤ 32) (hr : a + len ≤ 16384) : ∀ m t fuel, m ≤ L.length → t + m ≤ L.length → m < fuel → (∀ j, m ≤ j → j < L.length → ¬ L.getD j [] = zn_rc (h.2.1 1) a len) →
    zw (f_Nm_find_c1_L41 h fuel (nI a) (nI len) (zn_pv L (zn_h (zn_rc (h.2.1 1) a len)) m) (nI t)) (fun v => (∃ j, j < L.length ∧ v = nI j ∧ L.getD j [] = zn_rc (h.2.1 1) a len) ∨ (v = -1 ∧ ∀ j, j < L.length → ¬ L.getD j [] = zn_rc (h.2.1 1) a len)) := by
  intro m
  induction m using Nat.strongRecOn with
  | ind m ih =>
    intro t fuel h1 h2 h3 h4
    have l2 := HL.2.1
    obtain ⟨f, rfl⟩ : ∃ f, fuel = f + 1 := ⟨fuel - 1, by omega⟩
    show zw (f_Nm_find_c1_41 h (f_Nm_find_c1_L41 h f) _ _ _ _) _
    unfold f_Nm_find_c1_41
    rcases zn_pv_ex (L := L) (b := zn_h (zn_rc (h.2.1 1) a len)) m with ⟨e1, e2⟩ | ⟨j, e1, e2, e3, e4⟩
    · rw [e1, if_pos (show (-1 : Int32) = -1 from rfl)]
      have fin : ∀ j, j < L.length → ¬ L.getD j [] = zn_rc (h.2.1 1) a len := by
        intro j hj q
        by_cases c : j < m
        · exact e2 j c (by rw [q])
        · exact h4 j (by omega) hj q
      split
      · exact zw_some.mpr (Or.inr ⟨rfl, fin⟩)
      · exact zw_some.mpr (Or.inr ⟨rfl, fin⟩)
    · rw [e2, if_neg (mt (zc_le (k := 6000) (by decide) (by omega)).mp (by omega)), if_neg (zc_m1 (by omega)), zn_samec1 HL (by omega) hl hr, zw_bind, zw_some]
      by_cases c : L.getD j [] = zn_rc (h.2.1 1) a len
      · rw [if_pos c, if_neg (by decide), zw_some]
        exact Or.inl ⟨j, by omega, rfl, c⟩
      · rw [if_neg c, if_pos rfl, if_pos (zi_in (by omega) (by omega)), nI_clamp (by omega), HL.2.2.2.2.2.2 j (by omega), e3, nI_1]
        refine ih j e1 (t + 1) f (by omega) (by omega) (by omega) fun i h5 h6 => ?_
        by_cases ei : i = j
        · rw [ei]; exact c
        · by_cases ci : i < m
          · exact fun q => e4 i (by omega) ci (by rw [q])
          · exact h4 i (by omega) h6
theorem zn_findc1 {h : zs_H} {a len : Nat} {L : List (List Int32)} (HL : zn_C h L) (h1 : 1 ≤ len) (hl : len ≤ 32) (hr : a + len ≤ 16384) : zw (f_Nm_find_c1 h (nI a) (nI len)) (fun v => (∃ j, j < L.length ∧ v = nI j ∧ L.getD j [] = zn_rc (h.2.1 1) a len) ∨ (v = -1 ∧ ∀ j, j < L.length → ¬ L.getD j [] = zn_rc (h.2.1 1) a len)) := by
  have hh := (zn_hf (zn_rc (h.2.1 1) a len)).1
  unfold f_Nm_find_c1
  rw [if_neg (mt (zc_tl (k := 1) (by decide) (by omega)).mp (by omega)), if_neg (mt (zc_lt (k := 32) (by decide) (by omega)).mp (by omega)), if_neg (nI_pos (by omega)), nI_add, if_pos ((zc_el (k := 16384) (by decide) (by omega)).mpr hr), zn_headc1 hr, zw_bind, zw_some, if_pos (zi_in (by omega) hh), nI_clamp (by omega), HL.2.2.2.2.2.1 _ hh]
  exact zn_fdc1 HL hl hr L.length 0 zF (Nat.le_refl _) (by omega) (by have := zF_big; have := HL.2.1; omega) (fun j h2 h3 => by omega)
theorem zn_apc1 {a len N o b : Nat} {c : List Int32} {T : Nat → Int32} (h1 : 1 ≤ len) (hl : len ≤ 32) (hr : a + len ≤ 16384) (hN : N < 6000) (ho : o + len ≤ 16789) : ∀ m i fuel (g : zs_H), len = i + m → m < fuel → g.2.1 1 = T → zn_rc T a len = c → zn_h c = b → (g.1 2 5) = nI N → (g.2.1 5) N = nI o →
    zw (f_Nm_numberOf_c1_L91 fuel g (nI a) (nI len) (nI N) (nI i)) (fun p => p.1 = nI N ∧ (p.2.1 2 5) = nI (N + 1) ∧ (∀ j, (p.2.2.1 5) j = if j = N + 1 then nI (o + len) else (g.2.1 5) j) ∧ (∀ j, (p.2.2.1 4) j = if o + i ≤ j ∧ j < o + len then vp_nar .byte ((f_Nm_great (T (a + (j - o)))).toInt8.toInt32) else (g.2.1 4) j) ∧ (∀ j, (p.2.2.1 7) j = if j = b then nI N else (g.2.1 7) j) ∧ (∀ j, (p.2.2.1 6) j = if j = N then (g.2.1 7) b else (g.2.1 6) j) ∧ zfr [(2, 5)] [4, 5, 6, 7] [] g p.2) := by
  intro m
  induction m with
  | zero =>
    intro i fuel g e1 e2 e0 e3 e4 e5 e6
    obtain ⟨f, rfl⟩ : ∃ f, fuel = f + 1 := ⟨fuel - 1, by omega⟩
    have hb := (zn_hf c).1
    rw [e4] at hb
    show zw (f_Nm_numberOf_c1_91 (f_Nm_numberOf_c1_L91 f) g _ _ _ _) _
    unfold f_Nm_numberOf_c1_91
    rw [if_pos ((nI_leI (by omega) (by omega)).mpr (by omega)), zn_headc1 hr, e0, e3, e4, zw_bind, zw_some, if_pos (zi_in (by omega) hb), if_pos (zi_in (by omega) hN), if_pos (zi_in (by omega) (by omega)), e5, nI_1, if_pos (zi_in (by omega) (by omega)), nI_clamp (by omega), nI_clamp (by omega), nI_clamp (by omega), e6, nI_add, zw_some]
    refine ⟨rfl, rfl, fun j => ?_, fun j => ?_, fun j => ?_, fun j => ?_, ?_⟩
    · simp only [zu_MM, zu_FM, true_and, reduceCtorEq, if_false]
      by_cases c1 : j = N + 1
      · rw [if_pos c1, if_pos c1]
      · rw [if_neg c1, if_neg c1]; simp
    · rw [if_neg (by omega)]; simp [zu_MM, zu_FM]
    · simp [zu_MM, zu_FM]
    · simp [zu_MM, zu_FM]
    · exact zfr_M (by decide) (zfr_F (by decide) (zfr_M (by decide) (zfr_M (by decide) zfr_rfl)))
  | succ m ih =>
    intro i fuel g e1 e2 e0 e3 e4 e5 e6
    obtain ⟨f, rfl⟩ : ∃ f, fuel = f + 1 := ⟨fuel - 1, by omega⟩
    show zw (f_Nm_numberOf_c1_91 (f_Nm_numberOf_c1_L91 f) g _ _ _ _) _
    unfold f_Nm_numberOf_c1_91
    rw [if_neg (mt (nI_leI (by omega) (by omega)).mp (by omega)), if_pos (zi_in (by omega) (by omega)), nI_clamp (n := N) (by omega), e6, nI_add, nI_add, if_pos (zi_in (by omega) (by omega)), if_pos (zi_in (by omega) (by omega)), nI_clamp (by omega), nI_clamp (by omega), nI_1, e0]
    refine zw_mono (ih (i + 1) f (zs_uM g 4 (o + i) (vp_nar .byte ((f_Nm_great (T (a + i))).toInt8.toInt32))) (by omega) (by omega) e0 e3 e4 e5 e6) fun p q => ?_
    obtain ⟨q1, q2, q3, q4, q5, q6, q7⟩ := q
    refine ⟨q1, q2, q3, fun j => ?_, q5, q6, zfr_trans (zfr_M (by decide) zfr_rfl) q7⟩
    rw [q4 j, zu_MM]
    by_cases c1 : j = o + i
    · subst c1
      rw [if_neg (by omega), if_pos ⟨rfl, rfl⟩, if_pos (by omega), show o + i - o = i by omega]
    · by_cases c2 : o + (i + 1) ≤ j ∧ j < o + len
      · rw [if_pos c2, if_pos (by omega)]
      · rw [if_neg c2, if_neg (fun q => c1 q.2), if_neg (by omega)]
theorem zn_numberc1 {h : zs_H} {a len : Nat} {L : List (List Int32)} (HL : zn_C h L) (hn : L.Nodup) (h1 : 1 ≤ len) (hl : len ≤ 32) (hr : a + len ≤ 16384) (hs : L.length < 6000) (ho : zn_o L L.length + len ≤ 16789) (hb : ∀ i, i < len → vp_nar .byte ((f_Nm_great (h.2.1 1 (a + i))).toInt8.toInt32) = f_Nm_great (h.2.1 1 (a + i))) :
    zw (f_Nm_numberOf_c1 h (nI a) (nI len)) (fun p => zn_C p.2 (if zn_rc (h.2.1 1) a len ∈ L then L else L ++ [zn_rc (h.2.1 1) a len]) ∧ p.1 = nI (L.idxOf (zn_rc (h.2.1 1) a len)) ∧ zfr [(2, 5)] [4, 5, 6, 7] [] h p.2) := by
  unfold f_Nm_numberOf_c1
  rw [zw_bind]
  refine zw_mono (zn_findc1 HL h1 hl hr) fun v q => ?_
  rw [if_neg (mt (zc_tl (k := 1) (by decide) (by omega)).mp (by omega)), if_neg (mt (zc_lt (k := 32) (by decide) (by omega)).mp (by omega)), if_neg (nI_pos (by omega)), nI_add, if_neg (mt (zc_lt (k := 16384) (by decide) (by omega)).mp (by omega))]
  unfold f_Nm_numberOf_c1_37
  generalize hc : zn_rc (h.2.1 1) a len = c at q ⊢
  rcases q with ⟨j, h3, h4, h5⟩ | ⟨h3, h4⟩
  · have hm : c ∈ L := by rw [← h5, List.getD_eq_getElem?_getD, List.getElem?_eq_getElem h3]; exact List.getElem_mem h3
    rw [h4, if_neg (zc_m1 (by omega)), zw_some, if_pos hm]
    refine ⟨HL, ?_, zfr_rfl⟩
    rw [zx_idx h3 h5 fun i hi z => ?_]
    have := (List.getD_inj (by omega) h3 hn).mp (z.trans h5.symm)
    omega
  · have hm : ¬ c ∈ L := by
      intro z
      obtain ⟨j, hj, e1⟩ := List.getElem_of_mem z
      exact h4 j hj (by rw [List.getD_eq_getElem?_getD, List.getElem?_eq_getElem hj]; exact e1)
    obtain ⟨l1, l2, l3, l4, l5, l6, l7⟩ := HL
    rw [h3, if_pos rfl, if_neg (by decide), l1, if_neg (mt (zc_le (k := 6000) (by decide) (by omega)).mp (by omega)), if_pos (zi_in (by omega) (by omega)), nI_clamp (by omega), l4 _ (Nat.le_refl _), nI_add, if_pos ((zc_el (k := 16789) (by decide) (by omega)).mpr ho), if_neg hm, show (0 : Int32) = nI 0 from nI_0.symm]
    refine zw_mono (zn_apc1 (c := c) (b := zn_h c) h1 hl hr hs ho len 0 zF h (by omega) (by have := zF_big; omega) rfl hc rfl l1 (l4 _ (Nat.le_refl _))) fun p q => ?_
    obtain ⟨q1, q2, q3, q4, q5, q6, q7⟩ := q
    have hcl : c.length = len := by rw [← hc, zn_rc_len]
    have e0 : ∀ k, k < L.length → (L ++ [c]).getD k [] = L.getD k [] := fun k hk => by
      rw [List.getD_eq_getElem?_getD, List.getD_eq_getElem?_getD, List.getElem?_append_left hk]
    have e1 : (L ++ [c]).getD L.length [] = c := by
      rw [List.getD_eq_getElem?_getD, List.getElem?_append_right (Nat.le_refl _), Nat.sub_self]; rfl
    have e2 : (L ++ [c]).length = L.length + 1 := by rw [List.length_append]; rfl
    have e3 : zn_o (L ++ [c]) (L.length + 1) = zn_o L L.length + len := by
      rw [zn_o_s (by rw [e2]; omega), zn_o_app (Nat.le_refl _), e1, hcl]
    refine ⟨⟨by rw [q2, e2], by rw [e2]; omega, by rw [e2, e3]; exact ho, fun k hk => ?_, fun k hk => ?_, fun b hb2 => ?_, fun k hk => ?_⟩, by rw [q1, List.idxOf_eq_length hm], q7⟩
    · rw [e2] at hk
      rw [q3 k]
      by_cases ck : k = L.length + 1
      · rw [if_pos ck, ck, e3]
      · rw [if_neg ck, zn_o_app (by omega)]; exact l4 k (by omega)
    · rw [e2] at hk
      have hm2 := zn_o_mono (L := L) (L.length - k) k (by omega)
      rw [show k + (L.length - k) = L.length by omega] at hm2
      rw [zn_o_app (by omega)]
      by_cases ck : k < L.length
      · rw [e0 k ck]
        obtain ⟨k1, k2, k3⟩ := l5 k ck
        refine ⟨k1, k2, fun i hi => ?_⟩
        have ho2 := zn_o_s ck
        have hm3 := zn_o_mono (L := L) (L.length - (k + 1)) (k + 1) (by omega)
        rw [show k + 1 + (L.length - (k + 1)) = L.length by omega] at hm3
        rw [q4, if_neg (by omega)]
        exact k3 i hi
      · have ek : k = L.length := by omega
        subst ek
        rw [e1, hcl]
        refine ⟨h1, hl, fun i hi => ?_⟩
        rw [q4, if_pos (by omega), show zn_o L L.length + i - zn_o L L.length = i by omega, hb i hi, ← hc, zn_rc_at hi]
    · rw [q5 b, e2]
      by_cases cb : b = zn_h c
      · rw [if_pos cb]
        exact (if_pos (by rw [e1, cb])).symm
      · rw [if_neg cb, l6 b hb2]
        refine Eq.trans ?_ (if_neg (by rw [e1]; exact fun z => cb z.symm)).symm
        exact (zn_pv_app _ (Nat.le_refl _)).symm
    · rw [e2] at hk
      rw [q6 k]
      by_cases ck : k = L.length
      · subst ck
        rw [if_pos rfl, e1, l6 _ (zn_hf c).1, zn_pv_app _ (Nat.le_refl _)]
      · rw [if_neg ck, e0 k (by omega), zn_pv_app _ (by omega)]
        exact l7 k (by omega)
theorem zn_hdc3 {h : zs_H} {a len : Nat} (hr : a + len ≤ 405) : ∀ m i fuel, len = i + m → m < fuel → f_Nm_headOf_c3_L5 h fuel (nI a) (nI len) (zn_hs (h.2.1 3) a len i) (nI i) = some (zn_hh (zn_rc (h.2.1 3) a len)) := by
  intro m
  induction m with
  | zero =>
    intro i fuel h1 h2
    obtain ⟨f, rfl⟩ : ∃ f, fuel = f + 1 := ⟨fuel - 1, by omega⟩
    have ei : i = len := by omega
    subst ei
    show f_Nm_headOf_c3_5 h (f_Nm_headOf_c3_L5 h f) _ _ _ _ = _
    unfold f_Nm_headOf_c3_5
    rw [if_pos (Int32.le_refl _), zn_hs_hl]
    rfl
  | succ m ih =>
    intro i fuel h1 h2
    obtain ⟨f, rfl⟩ : ∃ f, fuel = f + 1 := ⟨fuel - 1, by omega⟩
    show f_Nm_headOf_c3_5 h (f_Nm_headOf_c3_L5 h f) _ _ _ _ = _
    unfold f_Nm_headOf_c3_5
    rw [if_neg (mt (nI_leI (by omega) (by omega)).mp (by omega)), nI_add, if_pos (zi_in (by omega) (by omega)), nI_clamp (by omega), nI_1]
    exact ih (i + 1) f (by omega) (by omega)
theorem zn_headc3 {h : zs_H} {a len : Nat} (hr : a + len ≤ 405) : f_Nm_headOf_c3 h (nI a) (nI len) = some (nI (zn_h (zn_rc (h.2.1 3) a len))) := by
  have q := zn_hdc3 (h := h) hr len 0 zF (by omega) (by have := zF_big; omega)
  rw [(zn_hf _).2] at q
  exact q
theorem zn_smc3 {h : zs_H} {a k : Nat} {L : List (List Int32)} (HL : zn_C h L) (hk : k < L.length) (hr : a + (L.getD k []).length ≤ 405) : ∀ m i fuel, (L.getD k []).length = i + m → m < fuel → zw (f_Nm_isSame_c3_L25 h fuel (nI k) (nI a) (nI (L.getD k []).length) (nI i)) (fun v => (v = 1 ∧ ∀ j, i ≤ j → j < (L.getD k []).length → (L.getD k []).getD j 0 = f_Nm_great (h.2.1 3 (a + j))) ∨ (v = 0 ∧ ¬ ∀ j, i ≤ j → j < (L.getD k []).length → (L.getD k []).getD j 0 = f_Nm_great (h.2.1 3 (a + j)))) := by
  obtain ⟨l1, l2, l3, l4, l5, l6, l7⟩ := HL
  obtain ⟨k1, k2, k3⟩ := l5 k hk
  have ho := zn_o_s hk
  have hm := zn_o_mono (L := L) (L.length - (k + 1)) (k + 1) (by omega)
  rw [show k + 1 + (L.length - (k + 1)) = L.length by omega] at hm
  intro m
  induction m with
  | zero =>
    intro i fuel h1 h2
    obtain ⟨f, rfl⟩ : ∃ f, fuel = f + 1 := ⟨fuel - 1, by omega⟩
    show zw (f_Nm_isSame_c3_25 h (f_Nm_isSame_c3_L25 h f) _ _ _ _) _
    unfold f_Nm_isSame_c3_25
    rw [if_pos ((nI_leI (by omega) (by omega)).mpr (by omega)), zw_some]
    exact Or.inl ⟨rfl, fun j h3 h4 => by omega⟩
  | succ m ih =>
    intro i fuel h1 h2
    obtain ⟨f, rfl⟩ : ∃ f, fuel = f + 1 := ⟨fuel - 1, by omega⟩
    show zw (f_Nm_isSame_c3_25 h (f_Nm_isSame_c3_L25 h f) _ _ _ _) _
    unfold f_Nm_isSame_c3_25
    rw [if_neg (mt (nI_leI (by omega) (by omega)).mp (by omega)), if_pos (zi_in (a := k) (by omega) (by omega)), nI_clamp (n := k) (by omega), l4 k (by omega), nI_add, nI_add, if_pos (zi_in (a := zn_o L k + i) (by omega) (by omega)), if_pos (zi_in (a := a + i) (by omega) (by omega)), nI_clamp (by omega), nI_clamp (by omega), k3 i (by omega), nI_1]
    by_cases c : (L.getD k []).getD i 0 = f_Nm_great (h.2.1 3 (a + i))
    · rw [if_pos c]
      refine zw_mono (ih (i + 1) f (by omega) (by omega)) fun v q => ?_
      rcases q with ⟨q1, q2⟩ | ⟨q1, q2⟩
      · refine Or.inl ⟨q1, fun j h3 h4 => ?_⟩
        by_cases ej : j = i
        · rw [ej]; exact c
        · exact q2 j (by omega) h4
      · exact Or.inr ⟨q1, fun z => q2 fun j h3 h4 => z j (by omega) h4⟩
    · rw [if_neg c, zw_some]
      exact Or.inr ⟨rfl, fun z => c (z i (by omega) (by omega))⟩
theorem zn_samec3 {h : zs_H} {a k len : Nat} {L : List (List Int32)} (HL : zn_C h L) (hk : k < L.length) (hl : len ≤ 32) (hr : a + len ≤ 405) : f_Nm_isSame_c3 h (nI k) (nI a) (nI len) = some (if L.getD k [] = zn_rc (h.2.1 3) a len then 1 else 0) := by
  obtain ⟨l1, l2, l3, l4, l5, l6, l7⟩ := HL
  obtain ⟨k1, k2, k3⟩ := l5 k hk
  have ho := zn_o_s hk
  have hm := zn_o_mono (L := L) (L.length - (k + 1)) (k + 1) (by omega)
  rw [show k + 1 + (L.length - (k + 1)) = L.length by omega] at hm
  unfold f_Nm_isSame_c3
  rw [nI_1, if_pos (zi_in (by omega) (by omega)), if_pos (zi_in (by omega) (by omega)), nI_clamp (by omega), nI_clamp (by omega), l4 k (by omega), l4 (k + 1) (by omega), zi_sub (by omega), show zn_o L (k + 1) - zn_o L k = (L.getD k []).length by omega]
  by_cases c : (L.getD k []).length = len
  · subst c
    rw [if_pos rfl]
    obtain ⟨v, e1, q⟩ := zn_smc3 (a := a) ⟨l1, l2, l3, l4, l5, l6, l7⟩ hk hr (L.getD k []).length 0 zF (by omega) (by have := zF_big; omega)
    rw [show (0 : Int32) = nI 0 from nI_0.symm, e1, nI_0]
    by_cases z : L.getD k [] = zn_rc (h.2.1 3) a (L.getD k []).length
    · rw [if_pos z]
      rcases q with ⟨q1, q2⟩ | ⟨q1, q2⟩
      · rw [q1]
      · exact absurd (fun j _ h4 => ((zn_rc_eq.mp z.symm).2 j h4).symm) q2
    · rw [if_neg z]
      rcases q with ⟨q1, q2⟩ | ⟨q1, q2⟩
      · exact absurd (zn_rc_eq.mpr ⟨rfl, fun i hi => (q2 i (by omega) hi).symm⟩).symm z
      · rw [q1]
  · rw [if_neg (show ¬ nI (L.getD k []).length = nI len from fun q => c ((nI_eq (by omega) (by omega)).mp q)), if_neg (show ¬ L.getD k [] = zn_rc (h.2.1 3) a len from fun q => c (by rw [q, zn_rc_len]))]
theorem zn_fdc3 {h : zs_H} {a len : Nat} {L : List (List Int32)} (HL : zn_C h L) (hl : len ≤ 32) (hr : a + len ≤ 405) : ∀ m t fuel, m ≤ L.length → t + m ≤ L.length → m < fuel → (∀ j, m ≤ j → j < L.length → ¬ L.getD j [] = zn_rc (h.2.1 3) a len) →
    zw (f_Nm_find_c3_L41 h fuel (nI a) (nI len) (zn_pv L (zn_h (zn_rc (h.2.1 3) a len)) m) (nI t)) (fun v => (∃ j, j < L.length ∧ v = nI j ∧ L.getD j [] = zn_rc (h.2.1 3) a len) ∨ (v = -1 ∧ ∀ j, j < L.length → ¬ L.getD j [] = zn_rc (h.2.1 3) a len)) := by
  intro m
  induction m using Nat.strongRecOn with
  | ind m ih =>
    intro t fuel h1 h2 h3 h4
    have l2 := HL.2.1
    obtain ⟨f, rfl⟩ : ∃ f, fuel = f + 1 := ⟨fuel - 1, by omega⟩
    show zw (f_Nm_find_c3_41 h (f_Nm_find_c3_L41 h f) _ _ _ _) _
    unfold f_Nm_find_c3_41
    rcases zn_pv_ex (L := L) (b := zn_h (zn_rc (h.2.1 3) a len)) m with ⟨e1, e2⟩ | ⟨j, e1, e2, e3, e4⟩
    · rw [e1, if_pos (show (-1 : Int32) = -1 from rfl)]
      have fin : ∀ j, j < L.length → ¬ L.getD j [] = zn_rc (h.2.1 3) a len := by
        intro j hj q
        by_cases c : j < m
        · exact e2 j c (by rw [q])
        · exact h4 j (by omega) hj q
      split
      · exact zw_some.mpr (Or.inr ⟨rfl, fin⟩)
      · exact zw_some.mpr (Or.inr ⟨rfl, fin⟩)
    · rw [e2, if_neg (mt (zc_le (k := 6000) (by decide) (by omega)).mp (by omega)), if_neg (zc_m1 (by omega)), zn_samec3 HL (by omega) hl hr, zw_bind, zw_some]
      by_cases c : L.getD j [] = zn_rc (h.2.1 3) a len
      · rw [if_pos c, if_neg (by decide), zw_some]
        exact Or.inl ⟨j, by omega, rfl, c⟩
      · rw [if_neg c, if_pos rfl, if_pos (zi_in (by omega) (by omega)), nI_clamp (by omega), HL.2.2.2.2.2.2 j (by omega), e3, nI_1]
        refine ih j e1 (t + 1) f (by omega) (by omega) (by omega) fun i h5 h6 => ?_
        by_cases ei : i = j
        · rw [ei]; exact c
        · by_cases ci : i < m
          · exact fun q => e4 i (by omega) ci (by rw [q])
          · exact h4 i (by omega) h6
theorem zn_findc3 {h : zs_H} {a len : Nat} {L : List (List Int32)} (HL : zn_C h L) (h1 : 1 ≤ len) (hl : len ≤ 32) (hr : a + len ≤ 405) : zw (f_Nm_find_c3 h (nI a) (nI len)) (fun v => (∃ j, j < L.length ∧ v = nI j ∧ L.getD j [] = zn_rc (h.2.1 3) a len) ∨ (v = -1 ∧ ∀ j, j < L.length → ¬ L.getD j [] = zn_rc (h.2.1 3) a len)) := by
  have hh := (zn_hf (zn_rc (h.2.1 3) a len)).1
  unfold f_Nm_find_c3
  rw [if_neg (mt (zc_tl (k := 1) (by decide) (by omega)).mp (by omega)), if_neg (mt (zc_lt (k := 32) (by decide) (by omega)).mp (by omega)), if_neg (nI_pos (by omega)), nI_add, if_pos ((zc_el (k := 405) (by decide) (by omega)).mpr hr), zn_headc3 hr, zw_bind, zw_some, if_pos (zi_in (by omega) hh), nI_clamp (by omega), HL.2.2.2.2.2.1 _ hh]
  exact zn_fdc3 HL hl hr L.length 0 zF (Nat.le_refl _) (by omega) (by have := zF_big; have := HL.2.1; omega) (fun j h2 h3 => by omega)
theorem zn_apc3 {a len N o b : Nat} {c : List Int32} {T : Nat → Int32} (h1 : 1 ≤ len) (hl : len ≤ 32) (hr : a + len ≤ 405) (hN : N < 6000) (ho : o + len ≤ 16789) : ∀ m i fuel (g : zs_H), len = i + m → m < fuel → g.2.1 3 = T → zn_rc T a len = c → zn_h c = b → (g.1 2 5) = nI N → (g.2.1 5) N = nI o →
    zw (f_Nm_numberOf_c3_L91 fuel g (nI a) (nI len) (nI N) (nI i)) (fun p => p.1 = nI N ∧ (p.2.1 2 5) = nI (N + 1) ∧ (∀ j, (p.2.2.1 5) j = if j = N + 1 then nI (o + len) else (g.2.1 5) j) ∧ (∀ j, (p.2.2.1 4) j = if o + i ≤ j ∧ j < o + len then vp_nar .byte ((f_Nm_great (T (a + (j - o)))).toInt8.toInt32) else (g.2.1 4) j) ∧ (∀ j, (p.2.2.1 7) j = if j = b then nI N else (g.2.1 7) j) ∧ (∀ j, (p.2.2.1 6) j = if j = N then (g.2.1 7) b else (g.2.1 6) j) ∧ zfr [(2, 5)] [4, 5, 6, 7] [] g p.2) := by
  intro m
  induction m with
  | zero =>
    intro i fuel g e1 e2 e0 e3 e4 e5 e6
    obtain ⟨f, rfl⟩ : ∃ f, fuel = f + 1 := ⟨fuel - 1, by omega⟩
    have hb := (zn_hf c).1
    rw [e4] at hb
    show zw (f_Nm_numberOf_c3_91 (f_Nm_numberOf_c3_L91 f) g _ _ _ _) _
    unfold f_Nm_numberOf_c3_91
    rw [if_pos ((nI_leI (by omega) (by omega)).mpr (by omega)), zn_headc3 hr, e0, e3, e4, zw_bind, zw_some, if_pos (zi_in (by omega) hb), if_pos (zi_in (by omega) hN), if_pos (zi_in (by omega) (by omega)), e5, nI_1, if_pos (zi_in (by omega) (by omega)), nI_clamp (by omega), nI_clamp (by omega), nI_clamp (by omega), e6, nI_add, zw_some]
    refine ⟨rfl, rfl, fun j => ?_, fun j => ?_, fun j => ?_, fun j => ?_, ?_⟩
    · simp only [zu_MM, zu_FM, true_and, reduceCtorEq, if_false]
      by_cases c1 : j = N + 1
      · rw [if_pos c1, if_pos c1]
      · rw [if_neg c1, if_neg c1]; simp
    · rw [if_neg (by omega)]; simp [zu_MM, zu_FM]
    · simp [zu_MM, zu_FM]
    · simp [zu_MM, zu_FM]
    · exact zfr_M (by decide) (zfr_F (by decide) (zfr_M (by decide) (zfr_M (by decide) zfr_rfl)))
  | succ m ih =>
    intro i fuel g e1 e2 e0 e3 e4 e5 e6
    obtain ⟨f, rfl⟩ : ∃ f, fuel = f + 1 := ⟨fuel - 1, by omega⟩
    show zw (f_Nm_numberOf_c3_91 (f_Nm_numberOf_c3_L91 f) g _ _ _ _) _
    unfold f_Nm_numberOf_c3_91
    rw [if_neg (mt (nI_leI (by omega) (by omega)).mp (by omega)), if_pos (zi_in (by omega) (by omega)), nI_clamp (n := N) (by omega), e6, nI_add, nI_add, if_pos (zi_in (by omega) (by omega)), if_pos (zi_in (by omega) (by omega)), nI_clamp (by omega), nI_clamp (by omega), nI_1, e0]
    refine zw_mono (ih (i + 1) f (zs_uM g 4 (o + i) (vp_nar .byte ((f_Nm_great (T (a + i))).toInt8.toInt32))) (by omega) (by omega) e0 e3 e4 e5 e6) fun p q => ?_
    obtain ⟨q1, q2, q3, q4, q5, q6, q7⟩ := q
    refine ⟨q1, q2, q3, fun j => ?_, q5, q6, zfr_trans (zfr_M (by decide) zfr_rfl) q7⟩
    rw [q4 j, zu_MM]
    by_cases c1 : j = o + i
    · subst c1
      rw [if_neg (by omega), if_pos ⟨rfl, rfl⟩, if_pos (by omega), show o + i - o = i by omega]
    · by_cases c2 : o + (i + 1) ≤ j ∧ j < o + len
      · rw [if_pos c2, if_pos (by omega)]
      · rw [if_neg c2, if_neg (fun q => c1 q.2), if_neg (by omega)]
theorem zn_numberc3 {h : zs_H} {a len : Nat} {L : List (List Int32)} (HL : zn_C h L) (hn : L.Nodup) (h1 : 1 ≤ len) (hl : len ≤ 32) (hr : a + len ≤ 405) (hs : L.length < 6000) (ho : zn_o L L.length + len ≤ 16789) (hb : ∀ i, i < len → vp_nar .byte ((f_Nm_great (h.2.1 3 (a + i))).toInt8.toInt32) = f_Nm_great (h.2.1 3 (a + i))) :
    zw (f_Nm_numberOf_c3 h (nI a) (nI len)) (fun p => zn_C p.2 (if zn_rc (h.2.1 3) a len ∈ L then L else L ++ [zn_rc (h.2.1 3) a len]) ∧ p.1 = nI (L.idxOf (zn_rc (h.2.1 3) a len)) ∧ zfr [(2, 5)] [4, 5, 6, 7] [] h p.2) := by
  unfold f_Nm_numberOf_c3
  rw [zw_bind]
  refine zw_mono (zn_findc3 HL h1 hl hr) fun v q => ?_
  rw [if_neg (mt (zc_tl (k := 1) (by decide) (by omega)).mp (by omega)), if_neg (mt (zc_lt (k := 32) (by decide) (by omega)).mp (by omega)), if_neg (nI_pos (by omega)), nI_add, if_neg (mt (zc_lt (k := 405) (by decide) (by omega)).mp (by omega))]
  unfold f_Nm_numberOf_c3_37
  generalize hc : zn_rc (h.2.1 3) a len = c at q ⊢
  rcases q with ⟨j, h3, h4, h5⟩ | ⟨h3, h4⟩
  · have hm : c ∈ L := by rw [← h5, List.getD_eq_getElem?_getD, List.getElem?_eq_getElem h3]; exact List.getElem_mem h3
    rw [h4, if_neg (zc_m1 (by omega)), zw_some, if_pos hm]
    refine ⟨HL, ?_, zfr_rfl⟩
    rw [zx_idx h3 h5 fun i hi z => ?_]
    have := (List.getD_inj (by omega) h3 hn).mp (z.trans h5.symm)
    omega
  · have hm : ¬ c ∈ L := by
      intro z
      obtain ⟨j, hj, e1⟩ := List.getElem_of_mem z
      exact h4 j hj (by rw [List.getD_eq_getElem?_getD, List.getElem?_eq_getElem hj]; exact e1)
    obtain ⟨l1, l2, l3, l4, l5, l6, l7⟩ := HL
    rw [h3, if_pos rfl, if_neg (by decide), l1, if_neg (mt (zc_le (k := 6000) (by decide) (by omega)).mp (by omega)), if_pos (zi_in (by omega) (by omega)), nI_clamp (by omega), l4 _ (Nat.le_refl _), nI_add, if_pos ((zc_el (k := 16789) (by decide) (by omega)).mpr ho), if_neg hm, show (0 : Int32) = nI 0 from nI_0.symm]
    refine zw_mono (zn_apc3 (c := c) (b := zn_h c) h1 hl hr hs ho len 0 zF h (by omega) (by have := zF_big; omega) rfl hc rfl l1 (l4 _ (Nat.le_refl _))) fun p q => ?_
    obtain ⟨q1, q2, q3, q4, q5, q6, q7⟩ := q
    have hcl : c.length = len := by rw [← hc, zn_rc_len]
    have e0 : ∀ k, k < L.length → (L ++ [c]).getD k [] = L.getD k [] := fun k hk => by
      rw [List.getD_eq_getElem?_getD, List.getD_eq_getElem?_getD, List.getElem?_append_left hk]
    have e1 : (L ++ [c]).getD L.length [] = c := by
      rw [List.getD_eq_getElem?_getD, List.getElem?_append_right (Nat.le_refl _), Nat.sub_self]; rfl
    have e2 : (L ++ [c]).length = L.length + 1 := by rw [List.length_append]; rfl
    have e3 : zn_o (L ++ [c]) (L.length + 1) = zn_o L L.length + len := by
      rw [zn_o_s (by rw [e2]; omega), zn_o_app (Nat.le_refl _), e1, hcl]
    refine ⟨⟨by rw [q2, e2], by rw [e2]; omega, by rw [e2, e3]; exact ho, fun k hk => ?_, fun k hk => ?_, fun b hb2 => ?_, fun k hk => ?_⟩, by rw [q1, List.idxOf_eq_length hm], q7⟩
    · rw [e2] at hk
      rw [q3 k]
      by_cases ck : k = L.length + 1
      · rw [if_pos ck, ck, e3]
      · rw [if_neg ck, zn_o_app (by omega)]; exact l4 k (by omega)
    · rw [e2] at hk
      have hm2 := zn_o_mono (L := L) (L.length - k) k (by omega)
      rw [show k + (L.length - k) = L.length by omega] at hm2
      rw [zn_o_app (by omega)]
      by_cases ck : k < L.length
      · rw [e0 k ck]
        obtain ⟨k1, k2, k3⟩ := l5 k ck
        refine ⟨k1, k2, fun i hi => ?_⟩
        have ho2 := zn_o_s ck
        have hm3 := zn_o_mono (L := L) (L.length - (k + 1)) (k + 1) (by omega)
        rw [show k + 1 + (L.length - (k + 1)) = L.length by omega] at hm3
        rw [q4, if_neg (by omega)]
        exact k3 i hi
      · have ek : k = L.length := by omega
        subst ek
        rw [e1, hcl]
        refine ⟨h1, hl, fun i hi => ?_⟩
        rw [q4, if_pos (by omega), show zn_o L L.length + i - zn_o L L.length = i by omega, hb i hi, ← hc, zn_rc_at hi]
    · rw [q5 b, e2]
      by_cases cb : b = zn_h c
      · rw [if_pos cb]
        exact (if_pos (by rw [e1, cb])).symm
      · rw [if_neg cb, l6 b hb2]
        refine Eq.trans ?_ (if_neg (by rw [e1]; exact fun z => cb z.symm)).symm
        exact (zn_pv_app _ (Nat.le_refl _)).symm
    · rw [e2] at hk
      rw [q6 k]
      by_cases ck : k = L.length
      · subst ck
        rw [if_pos rfl, e1, l6 _ (zn_hf c).1, zn_pv_app _ (Nat.le_refl _)]
      · rw [if_neg ck, e0 k (by omega), zn_pv_app _ (by omega)]
        exact l7 k (by omega)
end
section
/-! What the class knows without a text. -/
theorem zf_fill7 (v : Int32) : ∀ m i fuel (g : zs_H), 1024 = i + m → m < fuel → zw (f_Ar_fill_c7_L5 fuel g v (nI i) 1024) (fun g' => (∀ j, g'.2.1 7 j = if i ≤ j ∧ j < 1024 then v else g.2.1 7 j) ∧ zfr [] [7] [] g g') := by
  intro m
  induction m with
  | zero =>
    intro i fuel g h1 h2
    obtain ⟨f, rfl⟩ : ∃ f, fuel = f + 1 := ⟨fuel - 1, by omega⟩
    show zw (f_Ar_fill_c7_5 (f_Ar_fill_c7_L5 f) g v (nI i) 1024) _
    unfold f_Ar_fill_c7_5
    rw [if_pos ((zc_le (k := 1024) (by decide) (by omega)).mpr (by omega)), zw_some]
    exact ⟨fun j => by rw [if_neg (by omega)], zfr_rfl⟩
  | succ m ih =>
    intro i fuel g h1 h2
    obtain ⟨f, rfl⟩ : ∃ f, fuel = f + 1 := ⟨fuel - 1, by omega⟩
    show zw (f_Ar_fill_c7_5 (f_Ar_fill_c7_L5 f) g v (nI i) 1024) _
    unfold f_Ar_fill_c7_5
    rw [if_neg (mt (zc_le (k := 1024) (by decide) (by omega)).mp (by omega)), if_pos (zi_in (by omega) (by omega)), nI_clamp (by omega), nI_1]
    refine zw_mono (ih (i + 1) f (zs_uM g 7 i v) (by omega) (by omega)) fun g' q => ?_
    refine ⟨fun j => ?_, zfr_trans (zfr_M (by decide) zfr_rfl) q.2⟩
    rw [q.1 j, zu_MM]
    by_cases c1 : j = i
    · rw [if_neg (by omega), if_pos ⟨rfl, c1⟩, if_pos (by omega)]
    · by_cases c2 : i + 1 ≤ j ∧ j < 1024
      · rw [if_pos c2, if_pos (by omega)]
      · rw [if_neg c2, if_neg (fun q => c1 q.2), if_neg (by omega)]
theorem zf_fill36 (v : Int32) : ∀ m i fuel (g : zs_H), 6000 = i + m → m < fuel → zw (f_Ar_fill_c36_L5 fuel g v (nI i) 6000) (fun g' => (∀ j, g'.2.1 36 j = if i ≤ j ∧ j < 6000 then v else g.2.1 36 j) ∧ zfr [] [36] [] g g') := by
  intro m
  induction m with
  | zero =>
    intro i fuel g h1 h2
    obtain ⟨f, rfl⟩ : ∃ f, fuel = f + 1 := ⟨fuel - 1, by omega⟩
    show zw (f_Ar_fill_c36_5 (f_Ar_fill_c36_L5 f) g v (nI i) 6000) _
    unfold f_Ar_fill_c36_5
    rw [if_pos ((zc_le (k := 6000) (by decide) (by omega)).mpr (by omega)), zw_some]
    exact ⟨fun j => by rw [if_neg (by omega)], zfr_rfl⟩
  | succ m ih =>
    intro i fuel g h1 h2
    obtain ⟨f, rfl⟩ : ∃ f, fuel = f + 1 := ⟨fuel - 1, by omega⟩
    show zw (f_Ar_fill_c36_5 (f_Ar_fill_c36_L5 f) g v (nI i) 6000) _
    unfold f_Ar_fill_c36_5
    rw [if_neg (mt (zc_le (k := 6000) (by decide) (by omega)).mp (by omega)), if_pos (zi_in (by omega) (by omega)), nI_clamp (by omega), nI_1]
    refine zw_mono (ih (i + 1) f (zs_uM g 36 i v) (by omega) (by omega)) fun g' q => ?_
    refine ⟨fun j => ?_, zfr_trans (zfr_M (by decide) zfr_rfl) q.2⟩
    rw [q.1 j, zu_MM]
    by_cases c1 : j = i
    · rw [if_neg (by omega), if_pos ⟨rfl, c1⟩, if_pos (by omega)]
    · by_cases c2 : i + 1 ≤ j ∧ j < 6000
      · rw [if_pos c2, if_pos (by omega)]
      · rw [if_neg c2, if_neg (fun q => c1 q.2), if_neg (by omega)]
theorem zf_fill37 (v : Int32) : ∀ m i fuel (g : zs_H), 6000 = i + m → m < fuel → zw (f_Ar_fill_c37_L5 fuel g v (nI i) 6000) (fun g' => (∀ j, g'.2.1 37 j = if i ≤ j ∧ j < 6000 then v else g.2.1 37 j) ∧ zfr [] [37] [] g g') := by
  intro m
  induction m with
  | zero =>
    intro i fuel g h1 h2
    obtain ⟨f, rfl⟩ : ∃ f, fuel = f + 1 := ⟨fuel - 1, by omega⟩
    show zw (f_Ar_fill_c37_5 (f_Ar_fill_c37_L5 f) g v (nI i) 6000) _
    unfold f_Ar_fill_c37_5
    rw [if_pos ((zc_le (k := 6000) (by decide) (by omega)).mpr (by omega)), zw_some]
    exact ⟨fun j => by rw [if_neg (by omega)], zfr_rfl⟩
  | succ m ih =>
    intro i fuel g h1 h2
    obtain ⟨f, rfl⟩ : ∃ f, fuel = f + 1 := ⟨fuel - 1, by omega⟩
    show zw (f_Ar_fill_c37_5 (f_Ar_fill_c37_L5 f) g v (nI i) 6000) _
    unfold f_Ar_fill_c37_5
    rw [if_neg (mt (zc_le (k := 6000) (by decide) (by omega)).mp (by omega)), if_pos (zi_in (by omega) (by omega)), nI_clamp (by omega), nI_1]
    refine zw_mono (ih (i + 1) f (zs_uM g 37 i v) (by omega) (by omega)) fun g' q => ?_
    refine ⟨fun j => ?_, zfr_trans (zfr_M (by decide) zfr_rfl) q.2⟩
    rw [q.1 j, zu_MM]
    by_cases c1 : j = i
    · rw [if_neg (by omega), if_pos ⟨rfl, c1⟩, if_pos (by omega)]
    · by_cases c2 : i + 1 ≤ j ∧ j < 6000
      · rw [if_pos c2, if_pos (by omega)]
      · rw [if_neg c2, if_neg (fun q => c1 q.2), if_neg (by omega)]
theorem zf_fill62 (v : Int32) : ∀ m i fuel (g : zs_H), 8192 = i + m → m < fuel → zw (f_Ar_fill_c62_L5 fuel g v (nI i) 8192) (fun g' => (∀ j, g'.2.1 62 j = if i ≤ j ∧ j < 8192 then v else g.2.1 62 j) ∧ zfr [] [62] [] g g') := by
  intro m
  induction m with
  | zero =>
    intro i fuel g h1 h2
    obtain ⟨f, rfl⟩ : ∃ f, fuel = f + 1 := ⟨fuel - 1, by omega⟩
    show zw (f_Ar_fill_c62_5 (f_Ar_fill_c62_L5 f) g v (nI i) 8192) _
    unfold f_Ar_fill_c62_5
    rw [if_pos ((zc_le (k := 8192) (by decide) (by omega)).mpr (by omega)), zw_some]
    exact ⟨fun j => by rw [if_neg (by omega)], zfr_rfl⟩
  | succ m ih =>
    intro i fuel g h1 h2
    obtain ⟨f, rfl⟩ : ∃ f, fuel = f + 1 := ⟨fuel - 1, by omega⟩
    show zw (f_Ar_fill_c62_5 (f_Ar_fill_c62_L5 f) g v (nI i) 8192) _
    unfold f_Ar_fill_c62_5
    rw [if_neg (mt (zc_le (k := 8192) (by decide) (by omega)).mp (by omega)), if_pos (zi_in (by omega) (by omega)), nI_clamp (by omega), nI_1]
    refine zw_mono (ih (i + 1) f (zs_uM g 62 i v) (by omega) (by omega)) fun g' q => ?_
    refine ⟨fun j => ?_, zfr_trans (zfr_M (by decide) zfr_rfl) q.2⟩
    rw [q.1 j, zu_MM]
    by_cases c1 : j = i
    · rw [if_neg (by omega), if_pos ⟨rfl, c1⟩, if_pos (by omega)]
    · by_cases c2 : i + 1 ≤ j ∧ j < 8192
      · rw [if_pos c2, if_pos (by omega)]
      · rw [if_neg c2, if_neg (fun q => c1 q.2), if_neg (by omega)]
theorem zf_fill65 (v : Int32) : ∀ m i fuel (g : zs_H), 16 = i + m → m < fuel → zw (f_Ar_fill_c65_L5 fuel g v (nI i) 16) (fun g' => (∀ j, g'.2.1 65 j = if i ≤ j ∧ j < 16 then v else g.2.1 65 j) ∧ zfr [] [65] [] g g') := by
  intro m
  induction m with
  | zero =>
    intro i fuel g h1 h2
    obtain ⟨f, rfl⟩ : ∃ f, fuel = f + 1 := ⟨fuel - 1, by omega⟩
    show zw (f_Ar_fill_c65_5 (f_Ar_fill_c65_L5 f) g v (nI i) 16) _
    unfold f_Ar_fill_c65_5
    rw [if_pos ((zc_le (k := 16) (by decide) (by omega)).mpr (by omega)), zw_some]
    exact ⟨fun j => by rw [if_neg (by omega)], zfr_rfl⟩
  | succ m ih =>
    intro i fuel g h1 h2
    obtain ⟨f, rfl⟩ : ∃ f, fuel = f + 1 := ⟨fuel - 1, by omega⟩
    show zw (f_Ar_fill_c65_5 (f_Ar_fill_c65_L5 f) g v (nI i) 16) _
    unfold f_Ar_fill_c65_5
    rw [if_neg (mt (zc_le (k := 16) (by decide) (by omega)).mp (by omega)), if_pos (zi_in (by omega) (by omega)), nI_clamp (by omega), nI_1]
    refine zw_mono (ih (i + 1) f (zs_uM g 65 i v) (by omega) (by omega)) fun g' q => ?_
    refine ⟨fun j => ?_, zfr_trans (zfr_M (by decide) zfr_rfl) q.2⟩
    rw [q.1 j, zu_MM]
    by_cases c1 : j = i
    · rw [if_neg (by omega), if_pos ⟨rfl, c1⟩, if_pos (by omega)]
    · by_cases c2 : i + 1 ≤ j ∧ j < 16
      · rw [if_pos c2, if_pos (by omega)]
      · rw [if_neg c2, if_neg (fun q => c1 q.2), if_neg (by omega)]
def zk_kn : List Int32 := [70, 85, 78, 67, 84, 73, 79, 78, 32, 69, 78, 68, 95, 70, 85, 78, 67, 84, 73, 79, 78, 32, 70, 85, 78, 67, 84, 73, 79, 78, 95, 66, 76, 79, 67, 75, 32, 69, 78, 68, 95, 70, 85, 78, 67, 84, 73, 79, 78, 95, 66, 76, 79, 67, 75, 32, 80, 82, 79, 71, 82, 65, 77, 32, 69, 78, 68, 95, 80, 82, 79, 71, 82, 65, 77, 32, 86, 65, 82, 32, 86, 65, 82, 95, 73, 78, 80, 85, 84, 32, 86, 65, 82, 95, 79, 85, 84, 80, 85, 84, 32, 69, 78, 68, 95, 86, 65, 82, 32, 65, 84, 32, 66, 79, 79, 76, 32, 73, 78, 84, 32, 68, 73, 78, 84, 32, 65, 82, 82, 65, 89, 32, 79, 70, 32, 73, 70, 32, 84, 72, 69, 78, 32, 69, 76, 83, 73, 70, 32, 69, 76, 83, 69, 32, 69, 78, 68, 95, 73, 70, 32, 67, 65, 83, 69, 32, 69, 78, 68, 95, 67, 65, 83, 69, 32, 70, 79, 82, 32, 84, 79, 32, 66, 89, 32, 68, 79, 32, 69, 78, 68, 95, 70, 79, 82, 32, 69, 88, 73, 84, 32, 82, 69, 84, 85, 82, 78, 32, 79, 82, 32, 88, 79, 82, 32, 65, 78, 68, 32, 77, 79, 68, 32, 78, 79, 84, 32, 84, 82, 85, 69, 32, 70, 65, 76, 83, 69, 32, 76, 65, 68, 68, 69, 82, 32, 69, 78, 68, 95, 76, 65, 68, 68, 69, 82, 32, 82, 85, 78, 71, 32, 69, 78, 68, 95, 82, 85, 78, 71, 32, 84, 79, 78, 32, 84, 79, 70, 32, 84, 80, 32, 67, 84, 85, 32, 67, 84, 68, 32, 82, 95, 84, 82, 73, 71, 32, 70, 95, 84, 82, 73, 71, 32, 83, 82, 32, 82, 83, 32, 65, 66, 83, 32, 77, 73, 78, 32, 77, 65, 88, 32, 76, 73, 77, 73, 84, 32, 83, 69, 76, 32, 83, 72, 76, 32, 83, 72, 82, 32, 84, 79, 95, 73, 78, 84, 32, 84, 79, 95, 68, 73, 78, 84, 32, 84, 79, 95, 66, 79, 79, 76, 32, 73, 78, 32, 80, 84, 32, 81, 32, 69, 84, 32, 67, 85, 32, 82, 32, 80, 86, 32, 67, 86, 32, 67, 68, 32, 76, 68, 32, 67, 76, 75, 32, 83, 49, 32, 81, 49, 32, 83, 32, 82, 49, 32]
def zk_K : List (List Int32) := [[70, 85, 78, 67, 84, 73, 79, 78], [69, 78, 68, 95, 70, 85, 78, 67, 84, 73, 79, 78], [70, 85, 78, 67, 84, 73, 79, 78, 95, 66, 76, 79, 67, 75], [69, 78, 68, 95, 70, 85, 78, 67, 84, 73, 79, 78, 95, 66, 76, 79, 67, 75], [80, 82, 79, 71, 82, 65, 77], [69, 78, 68, 95, 80, 82, 79, 71, 82, 65, 77], [86, 65, 82], [86, 65, 82, 95, 73, 78, 80, 85, 84], [86, 65, 82, 95, 79, 85, 84, 80, 85, 84], [69, 78, 68, 95, 86, 65, 82], [65, 84], [66, 79, 79, 76], [73, 78, 84], [68, 73, 78, 84], [65, 82, 82, 65, 89], [79, 70], [73, 70], [84, 72, 69, 78], [69, 76, 83, 73, 70], [69, 76, 83, 69], [69, 78, 68, 95, 73, 70], [67, 65, 83, 69], [69, 78, 68, 95, 67, 65, 83, 69], [70, 79, 82], [84, 79], [66, 89], [68, 79], [69, 78, 68, 95, 70, 79, 82], [69, 88, 73, 84], [82, 69, 84, 85, 82, 78], [79, 82], [88, 79, 82], [65, 78, 68], [77, 79, 68], [78, 79, 84], [84, 82, 85, 69], [70, 65, 76, 83, 69], [76, 65, 68, 68, 69, 82], [69, 78, 68, 95, 76, 65, 68, 68, 69, 82], [82, 85, 78, 71], [69, 78, 68, 95, 82, 85, 78, 71], [84, 79, 78], [84, 79, 70], [84, 80], [67, 84, 85], [67, 84, 68], [82, 95, 84, 82, 73, 71], [70, 95, 84, 82, 73, 71], [83, 82], [82, 83], [65, 66, 83], [77, 73, 78], [77, 65, 88], [76, 73, 77, 73, 84], [83, 69, 76], [83, 72, 76], [83, 72, 82], [84, 79, 95, 73, 78, 84], [84, 79, 95, 68, 73, 78, 84], [84, 79, 95, 66, 79, 79, 76], [73, 78], [80, 84], [81], [69, 84], [67, 85], [82], [80, 86], [67, 86], [67, 68], [76, 68], [67, 76, 75], [83, 49], [81, 49], [83], [82, 49]]
def zk_S : List Nat := [0, 9, 22, 37, 56, 64, 76, 80, 90, 101, 109, 112, 117, 121, 126, 132, 135, 138, 143, 149, 154, 161, 166, 175, 179, 182, 185, 188, 196, 201, 208, 211, 215, 219, 223, 227, 232, 238, 245, 256, 261, 270, 274, 278, 281, 285, 289, 296, 303, 306, 309, 313, 317, 321, 327, 331, 335, 339, 346, 354, 362, 365, 368, 370, 373, 376, 378, 381, 384, 387, 390, 394, 397, 400, 402]
theorem zk_Kf : ∀ k, k < 75 → zk_S.getD k 405 + (zk_K.getD k []).length < 405 ∧ zk_kn.getD (zk_S.getD k 405 + (zk_K.getD k []).length) 0 = 32 ∧ zk_S.getD (k + 1) 405 = zk_S.getD k 405 + (zk_K.getD k []).length + 1 ∧ 1 ≤ (zk_K.getD k []).length ∧ (zk_K.getD k []).length ≤ 32 ∧ ∀ i, i < (zk_K.getD k []).length → zk_kn.getD (zk_S.getD k 405 + i) 0 = (zk_K.getD k []).getD i 0 ∧ ¬ (zk_K.getD k []).getD i 0 = 32 ∧ f_Nm_great ((zk_K.getD k []).getD i 0) = (zk_K.getD k []).getD i 0 ∧ vp_nar .byte (((zk_K.getD k []).getD i 0).toInt8.toInt32) = (zk_K.getD k []).getD i 0 := by decide +kernel
theorem zk_Kn : zk_K.Nodup := by decide +kernel
theorem zk_Kl : zk_K.length = 75 := by decide +kernel
theorem zk_Ko : ∀ k, k < 76 → zn_o (zk_K.take k) k + 32 ≤ 16789 := by decide +kernel
theorem zk_take {k : Nat} (h : k < 75) : zk_K.take (k + 1) = zk_K.take k ++ [zk_K.getD k []] := by
  have hk : k < zk_K.length := by rw [zk_Kl]; exact h
  rw [List.take_succ, List.getElem?_eq_getElem hk, List.getD_eq_getElem?_getD, List.getElem?_eq_getElem hk]; rfl
theorem zk_notin {k : Nat} (h : k < 75) : ¬ zk_K.getD k [] ∈ zk_K.take k := by
  have hk : k < zk_K.length := by rw [zk_Kl]; exact h
  have hn : (zk_K.take (k + 1)).Nodup := List.Nodup.sublist (List.take_sublist _ _) zk_Kn
  rw [zk_take h] at hn
  have := (List.nodup_append.mp hn).2.2
  intro q
  exact this _ q _ (List.mem_singleton.mpr rfl) rfl
def zk_kk (h : zs_H) : Prop := ∀ i, i < 405 → (h.2.1 3) i = zk_kn.getD i 0
def zk_k0 (h : zs_H) : Prop := (h.2.1 5) 0 = 0 ∧ zk_kk h
theorem zk_f1 {g : zs_H} {k : Nat} (H : zk_kk g) (hk : k < 75) : ∀ m i fuel, (zk_K.getD k []).length = i + m → f_Nm_forget_L17 (fuel + m) g (nI (zk_S.getD k 405)) (nI (zk_S.getD k 405 + i)) = f_Nm_forget_L17 fuel g (nI (zk_S.getD k 405)) (nI (zk_S.getD k 405 + (zk_K.getD k []).length)) := by
  obtain ⟨k1, k2, k3, k4, k5, k6⟩ := zk_Kf k hk
  intro m
  induction m with
  | zero =>
    intro i fuel h1
    rw [h1]; rfl
  | succ m ih =>
    intro i fuel h1
    obtain ⟨i1, i2, i3, i4⟩ := k6 i (by omega)
    show f_Nm_forget_17 (f_Nm_forget_L17 (fuel + m)) g _ _ = _
    unfold f_Nm_forget_17
    rw [if_neg (mt (zc_le (k := 405) (by decide) (by omega)).mp (by omega)), if_pos (zi_in (by omega) (by omega)), nI_clamp (by omega), H _ (by omega), i1, if_neg i2]
    unfold f_Nm_forget_54
    rw [nI_1, show zk_S.getD k 405 + i + 1 = zk_S.getD k 405 + (i + 1) by omega]
    exact ih (i + 1) fuel (by omega)
theorem zk_f2 : ∀ m k fuel (g : zs_H), 75 = k + m → 405 < fuel + zk_S.getD k 405 → zk_kk g → zn_C g (zk_K.take k) → zw (f_Nm_forget_L17 fuel g (nI (zk_S.getD k 405)) (nI (zk_S.getD k 405))) (fun g' => zn_C g' zk_K ∧ zfr [(2, 5)] [4, 5, 6, 7] [] g g') := by
  intro m
  induction m with
  | zero =>
    intro k fuel g h1 h2 H HC
    have ek : k = 75 := by omega
    subst ek
    have h9 : zk_S.getD 75 405 = 405 := by decide +kernel
    obtain ⟨f, rfl⟩ : ∃ f, fuel = f + 1 := ⟨fuel - 1, by omega⟩
    rw [h9]
    show zw (f_Nm_forget_17 (f_Nm_forget_L17 f) g (nI 405) (nI 405)) _
    unfold f_Nm_forget_17
    rw [if_pos (by decide), zw_some]
    rw [List.take_of_length_le (by rw [zk_Kl]; exact Nat.le_refl _)] at HC
    exact ⟨HC, zfr_rfl⟩
  | succ m ih =>
    intro k fuel g h1 h2 H HC
    obtain ⟨k1, k2, k3, k4, k5, k6⟩ := zk_Kf k (by omega)
    obtain ⟨f, rfl⟩ : ∃ f, fuel = f + 1 + (zk_K.getD k []).length := ⟨fuel - 1 - (zk_K.getD k []).length, by omega⟩
    have e1 : f_Nm_forget_L17 (f + 1 + (zk_K.getD k []).length) g (nI (zk_S.getD k 405)) (nI (zk_S.getD k 405)) = f_Nm_forget_L17 (f + 1) g (nI (zk_S.getD k 405)) (nI (zk_S.getD k 405 + (zk_K.getD k []).length)) := zk_f1 H (show k < 75 by omega) (zk_K.getD k []).length 0 (f + 1) (by omega)
    rw [e1]
    show zw (f_Nm_forget_17 (f_Nm_forget_L17 f) g _ _) _
    unfold f_Nm_forget_17
    rw [if_neg (mt (zc_le (k := 405) (by decide) (by omega)).mp (by omega)), if_pos (zi_in (by omega) (by omega)), nI_clamp (by omega), H _ (by omega), k2, if_pos rfl, zi_sub (by omega), show zk_S.getD k 405 + (zk_K.getD k []).length - zk_S.getD k 405 = (zk_K.getD k []).length by omega, zw_B]
    have hlen : (zk_K.take k).length = k := by rw [List.length_take, zk_Kl]; omega
    have hrc : zn_rc (g.2.1 3) (zk_S.getD k 405) (zk_K.getD k []).length = zk_K.getD k [] := zn_rc_eq.mpr ⟨rfl, fun i hi => by rw [H _ (by omega), (k6 i hi).1]; exact (k6 i hi).2.2.1⟩
    have hko := zk_Ko k (by omega)
    refine zw_mono (zn_numberc3 (h := g) (a := zk_S.getD k 405) (len := (zk_K.getD k []).length) HC (List.Nodup.sublist (List.take_sublist _ _) zk_Kn) k4 k5 (by omega) (by rw [hlen]; omega) (by rw [hlen]; omega) fun i hi => by rw [H _ (by omega), (k6 i hi).1, (k6 i hi).2.2.1]; exact (k6 i hi).2.2.2) fun p q => ?_
    rw [hrc, if_neg (zk_notin (by omega)), ← zk_take (by omega)] at q
    unfold f_Nm_forget_54
    rw [nI_1, ← k3]
    refine zw_mono (ih (k + 1) f p.2 (by omega) (by omega) (fun i hi => by rw [q.2.2.2.1 _ (by decide)]; exact H i hi) q.1) fun g' z => ⟨z.1, zfr_trans q.2.2 z.2⟩
theorem zk_forget {h : zs_H} (H0 : zk_k0 h) : zw (f_Nm_forget h) (fun g' => zn_C g' zk_K ∧ zfr [(2, 5)] [4, 5, 6, 7] [] h g') := by
  unfold f_Nm_forget f_Ar_fill_c7
  rw [zw_bind, show (0 : Int32) = nI 0 from nI_0.symm]
  refine zw_mono (zf_fill7 (-1) 1024 0 zF h rfl (by have := zF_big; omega)) fun g1 q => ?_
  have H := H0.2
  refine zw_mono (zk_f2 75 0 zF (zs_uF g1 2 5 0) rfl (by have := zF_big; omega) (fun i hi => by show g1.2.1 3 i = _; rw [q.2.2.1 _ (by decide)]; exact H i hi) ?_) fun g' z => ⟨z.1, zfr_trans (zfr_F (by decide) (zfr_w q.2 (by decide) (by decide) (by decide))) z.2⟩
  refine ⟨rfl, by decide, by decide, fun k hk => ?_, fun k hk => absurd hk (Nat.not_lt_zero k), fun b hb => ?_, fun k hk => absurd hk (Nat.not_lt_zero k)⟩
  · have ek : k = 0 := Nat.le_zero.mp hk
    subst ek
    show g1.2.1 5 0 = _
    rw [q.2.2.1 _ (by decide)]; exact H0.1.trans nI_0.symm
  · show g1.2.1 7 b = _
    rw [q.1 b, if_pos (by omega)]; rfl
end
