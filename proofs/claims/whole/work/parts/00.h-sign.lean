/-! Signs; the model's next token. -/
theorem zx_L9 {x : Int32} : ∀ m i fuel, 17 = i + m → m < fuel → zw (f_Sl_indexOfChar_v9_L7 fuel 17 x (nI i)) (fun v => (∃ j, i ≤ j ∧ j < 17 ∧ v = nI j ∧ ze_f 9 j = x) ∨ (v = -1 ∧ ∀ j, i ≤ j → j < 17 → ¬ ze_f 9 j = x)) := by
  intro m
  induction m with
  | zero =>
    intro i fuel h1 h2
    obtain ⟨f, rfl⟩ : ∃ f, fuel = f + 1 := ⟨fuel - 1, by omega⟩
    show zw (f_Sl_indexOfChar_v9_7 (f_Sl_indexOfChar_v9_L7 f) 17 x (nI i)) _
    unfold f_Sl_indexOfChar_v9_7
    rw [if_pos ((zc_le (k := 17) (by decide) (by omega)).mpr (by omega)), zw_some]
    exact Or.inr ⟨rfl, fun j h3 h4 => by omega⟩
  | succ m ih =>
    intro i fuel h1 h2
    obtain ⟨f, rfl⟩ : ∃ f, fuel = f + 1 := ⟨fuel - 1, by omega⟩
    show zw (f_Sl_indexOfChar_v9_7 (f_Sl_indexOfChar_v9_L7 f) 17 x (nI i)) _
    unfold f_Sl_indexOfChar_v9_7
    rw [if_neg (mt (zc_le (k := 17) (by decide) (by omega)).mp (by omega)), if_pos (zi_in (by omega) (by omega)), nI_clamp (by omega), nI_1]
    by_cases c : ze_f 9 i = x
    · rw [if_pos c, zw_some]
      exact Or.inl ⟨i, Nat.le_refl i, by omega, rfl, c⟩
    · rw [if_neg c]
      refine zw_mono (ih (i + 1) f (by omega) (by omega)) fun v q => ?_
      rcases q with ⟨j, h3, h4, h5, h6⟩ | ⟨h3, h4⟩
      · exact Or.inl ⟨j, by omega, h4, h5, h6⟩
      · refine Or.inr ⟨h3, fun j h5 h6 => ?_⟩
        by_cases ej : j = i
        · rw [ej]; exact c
        · exact h4 j (by omega) h6
theorem zx_A9 : ∀ c, c < 256 → f_Sl_canEncode (nI c) = 1 ∧ ((nI c).toUInt32 % 65536).toInt32 = nI c ∧ ∀ j, j < 17 → (ze_f 9 j = (nI c).toInt8.toInt32 ↔ ze_f 9 j = nI c) := by decide +kernel
theorem zx_I9 {h : zs_H} {c : Nat} (hc : c < 256) : zw (f_St_indexOf_s9 h (((nI c).toUInt32 % 65536).toInt32)) (fun v => (∃ j, j < 17 ∧ v = nI j ∧ ze_f 9 j = nI c) ∨ (v = -1 ∧ ∀ j, j < 17 → ¬ ze_f 9 j = nI c)) := by
  obtain ⟨a1, a2, a3⟩ := zx_A9 c hc
  rw [a2]
  unfold f_St_indexOf_s9 f_St_indexOf2_s9 f_Sl_indexOf_v9
  rw [a1, if_neg (by decide), if_pos (by decide)]
  rw [zw_bind, zw_bind, zw_bind]
  unfold f_Sl_indexOfChar_v9
  refine zw_mono (zx_L9 (x := (nI c).toInt8.toInt32) 17 0 zF rfl (by have := zF_big; omega)) fun v q => ?_
  rw [zw_some, zw_some, zw_some]
  rcases q with ⟨j, h3, h4, h5, h6⟩ | ⟨h3, h4⟩
  · exact Or.inl ⟨j, h4, h5, (a3 j h4).mp h6⟩
  · exact Or.inr ⟨h3, fun j h5 q => h4 j (Nat.zero_le j) h5 ((a3 j h5).mpr q)⟩
theorem zx_L6 {x : Int32} : ∀ m i fuel, 17 = i + m → m < fuel → zw (f_Sl_indexOfChar_v6_L7 fuel 17 x (nI i)) (fun v => (∃ j, i ≤ j ∧ j < 17 ∧ v = nI j ∧ ze_f 6 j = x) ∨ (v = -1 ∧ ∀ j, i ≤ j → j < 17 → ¬ ze_f 6 j = x)) := by
  intro m
  induction m with
  | zero =>
    intro i fuel h1 h2
    obtain ⟨f, rfl⟩ : ∃ f, fuel = f + 1 := ⟨fuel - 1, by omega⟩
    show zw (f_Sl_indexOfChar_v6_7 (f_Sl_indexOfChar_v6_L7 f) 17 x (nI i)) _
    unfold f_Sl_indexOfChar_v6_7
    rw [if_pos ((zc_le (k := 17) (by decide) (by omega)).mpr (by omega)), zw_some]
    exact Or.inr ⟨rfl, fun j h3 h4 => by omega⟩
  | succ m ih =>
    intro i fuel h1 h2
    obtain ⟨f, rfl⟩ : ∃ f, fuel = f + 1 := ⟨fuel - 1, by omega⟩
    show zw (f_Sl_indexOfChar_v6_7 (f_Sl_indexOfChar_v6_L7 f) 17 x (nI i)) _
    unfold f_Sl_indexOfChar_v6_7
    rw [if_neg (mt (zc_le (k := 17) (by decide) (by omega)).mp (by omega)), if_pos (zi_in (by omega) (by omega)), nI_clamp (by omega), nI_1]
    by_cases c : ze_f 6 i = x
    · rw [if_pos c, zw_some]
      exact Or.inl ⟨i, Nat.le_refl i, by omega, rfl, c⟩
    · rw [if_neg c]
      refine zw_mono (ih (i + 1) f (by omega) (by omega)) fun v q => ?_
      rcases q with ⟨j, h3, h4, h5, h6⟩ | ⟨h3, h4⟩
      · exact Or.inl ⟨j, by omega, h4, h5, h6⟩
      · refine Or.inr ⟨h3, fun j h5 h6 => ?_⟩
        by_cases ej : j = i
        · rw [ej]; exact c
        · exact h4 j (by omega) h6
theorem zx_A6 : ∀ c, c < 256 → f_Sl_canEncode (nI c) = 1 ∧ ((nI c).toUInt32 % 65536).toInt32 = nI c ∧ ∀ j, j < 17 → (ze_f 6 j = (nI c).toInt8.toInt32 ↔ ze_f 6 j = nI c) := by decide +kernel
theorem zx_I6 {h : zs_H} {c : Nat} (hc : c < 256) : zw (f_St_indexOf_s6 h (((nI c).toUInt32 % 65536).toInt32)) (fun v => (∃ j, j < 17 ∧ v = nI j ∧ ze_f 6 j = nI c) ∨ (v = -1 ∧ ∀ j, j < 17 → ¬ ze_f 6 j = nI c)) := by
  obtain ⟨a1, a2, a3⟩ := zx_A6 c hc
  rw [a2]
  unfold f_St_indexOf_s6 f_St_indexOf2_s6 f_Sl_indexOf_v6
  rw [a1, if_neg (by decide), if_pos (by decide)]
  rw [zw_bind, zw_bind, zw_bind]
  unfold f_Sl_indexOfChar_v6
  refine zw_mono (zx_L6 (x := (nI c).toInt8.toInt32) 17 0 zF rfl (by have := zF_big; omega)) fun v q => ?_
  rw [zw_some, zw_some, zw_some]
  rcases q with ⟨j, h3, h4, h5, h6⟩ | ⟨h3, h4⟩
  · exact Or.inl ⟨j, h4, h5, (a3 j h4).mp h6⟩
  · exact Or.inr ⟨h3, fun j h5 q => h4 j (Nat.zero_le j) h5 ((a3 j h5).mpr q)⟩
theorem zx_L4 {x : Int32} : ∀ m i fuel, 3 = i + m → m < fuel → zw (f_Sl_indexOfChar_v4_L7 fuel 3 x (nI i)) (fun v => (∃ j, i ≤ j ∧ j < 3 ∧ v = nI j ∧ ze_f 4 j = x) ∨ (v = -1 ∧ ∀ j, i ≤ j → j < 3 → ¬ ze_f 4 j = x)) := by
  intro m
  induction m with
  | zero =>
    intro i fuel h1 h2
    obtain ⟨f, rfl⟩ : ∃ f, fuel = f + 1 := ⟨fuel - 1, by omega⟩
    show zw (f_Sl_indexOfChar_v4_7 (f_Sl_indexOfChar_v4_L7 f) 3 x (nI i)) _
    unfold f_Sl_indexOfChar_v4_7
    rw [if_pos ((zc_le (k := 3) (by decide) (by omega)).mpr (by omega)), zw_some]
    exact Or.inr ⟨rfl, fun j h3 h4 => by omega⟩
  | succ m ih =>
    intro i fuel h1 h2
    obtain ⟨f, rfl⟩ : ∃ f, fuel = f + 1 := ⟨fuel - 1, by omega⟩
    show zw (f_Sl_indexOfChar_v4_7 (f_Sl_indexOfChar_v4_L7 f) 3 x (nI i)) _
    unfold f_Sl_indexOfChar_v4_7
    rw [if_neg (mt (zc_le (k := 3) (by decide) (by omega)).mp (by omega)), if_pos (zi_in (by omega) (by omega)), nI_clamp (by omega), nI_1]
    by_cases c : ze_f 4 i = x
    · rw [if_pos c, zw_some]
      exact Or.inl ⟨i, Nat.le_refl i, by omega, rfl, c⟩
    · rw [if_neg c]
      refine zw_mono (ih (i + 1) f (by omega) (by omega)) fun v q => ?_
      rcases q with ⟨j, h3, h4, h5, h6⟩ | ⟨h3, h4⟩
      · exact Or.inl ⟨j, by omega, h4, h5, h6⟩
      · refine Or.inr ⟨h3, fun j h5 h6 => ?_⟩
        by_cases ej : j = i
        · rw [ej]; exact c
        · exact h4 j (by omega) h6
theorem zx_A4 : ∀ c, c < 256 → f_Sl_canEncode (nI c) = 1 ∧ ((nI c).toUInt32 % 65536).toInt32 = nI c ∧ ∀ j, j < 3 → (ze_f 4 j = (nI c).toInt8.toInt32 ↔ ze_f 4 j = nI c) := by decide +kernel
theorem zx_I4 {h : zs_H} {c : Nat} (hc : c < 256) : zw (f_St_indexOf_s4 h (((nI c).toUInt32 % 65536).toInt32)) (fun v => (∃ j, j < 3 ∧ v = nI j ∧ ze_f 4 j = nI c) ∨ (v = -1 ∧ ∀ j, j < 3 → ¬ ze_f 4 j = nI c)) := by
  obtain ⟨a1, a2, a3⟩ := zx_A4 c hc
  rw [a2]
  unfold f_St_indexOf_s4 f_St_indexOf2_s4 f_Sl_indexOf_v4
  rw [a1, if_neg (by decide), if_pos (by decide)]
  rw [zw_bind, zw_bind, zw_bind]
  unfold f_Sl_indexOfChar_v4
  refine zw_mono (zx_L4 (x := (nI c).toInt8.toInt32) 3 0 zF rfl (by have := zF_big; omega)) fun v q => ?_
  rw [zw_some, zw_some, zw_some]
  rcases q with ⟨j, h3, h4, h5, h6⟩ | ⟨h3, h4⟩
  · exact Or.inl ⟨j, h4, h5, (a3 j h4).mp h6⟩
  · exact Or.inr ⟨h3, fun j h5 q => h4 j (Nat.zero_le j) h5 ((a3 j h5).mpr q)⟩
theorem zx_L5 {x : Int32} : ∀ m i fuel, 2 = i + m → m < fuel → zw (f_Sl_indexOfChar_v5_L7 fuel 2 x (nI i)) (fun v => (∃ j, i ≤ j ∧ j < 2 ∧ v = nI j ∧ ze_f 5 j = x) ∨ (v = -1 ∧ ∀ j, i ≤ j → j < 2 → ¬ ze_f 5 j = x)) := by
  intro m
  induction m with
  | zero =>
    intro i fuel h1 h2
    obtain ⟨f, rfl⟩ : ∃ f, fuel = f + 1 := ⟨fuel - 1, by omega⟩
    show zw (f_Sl_indexOfChar_v5_7 (f_Sl_indexOfChar_v5_L7 f) 2 x (nI i)) _
    unfold f_Sl_indexOfChar_v5_7
    rw [if_pos ((zc_le (k := 2) (by decide) (by omega)).mpr (by omega)), zw_some]
    exact Or.inr ⟨rfl, fun j h3 h4 => by omega⟩
  | succ m ih =>
    intro i fuel h1 h2
    obtain ⟨f, rfl⟩ : ∃ f, fuel = f + 1 := ⟨fuel - 1, by omega⟩
    show zw (f_Sl_indexOfChar_v5_7 (f_Sl_indexOfChar_v5_L7 f) 2 x (nI i)) _
    unfold f_Sl_indexOfChar_v5_7
    rw [if_neg (mt (zc_le (k := 2) (by decide) (by omega)).mp (by omega)), if_pos (zi_in (by omega) (by omega)), nI_clamp (by omega), nI_1]
    by_cases c : ze_f 5 i = x
    · rw [if_pos c, zw_some]
      exact Or.inl ⟨i, Nat.le_refl i, by omega, rfl, c⟩
    · rw [if_neg c]
      refine zw_mono (ih (i + 1) f (by omega) (by omega)) fun v q => ?_
      rcases q with ⟨j, h3, h4, h5, h6⟩ | ⟨h3, h4⟩
      · exact Or.inl ⟨j, by omega, h4, h5, h6⟩
      · refine Or.inr ⟨h3, fun j h5 h6 => ?_⟩
        by_cases ej : j = i
        · rw [ej]; exact c
        · exact h4 j (by omega) h6
theorem zx_A5 : ∀ c, c < 256 → f_Sl_canEncode (nI c) = 1 ∧ ((nI c).toUInt32 % 65536).toInt32 = nI c ∧ ∀ j, j < 2 → (ze_f 5 j = (nI c).toInt8.toInt32 ↔ ze_f 5 j = nI c) := by decide +kernel
theorem zx_I5 {h : zs_H} {c : Nat} (hc : c < 256) : zw (f_St_indexOf_s5 h (((nI c).toUInt32 % 65536).toInt32)) (fun v => (∃ j, j < 2 ∧ v = nI j ∧ ze_f 5 j = nI c) ∨ (v = -1 ∧ ∀ j, j < 2 → ¬ ze_f 5 j = nI c)) := by
  obtain ⟨a1, a2, a3⟩ := zx_A5 c hc
  rw [a2]
  unfold f_St_indexOf_s5 f_St_indexOf2_s5 f_Sl_indexOf_v5
  rw [a1, if_neg (by decide), if_pos (by decide)]
  rw [zw_bind, zw_bind, zw_bind]
  unfold f_Sl_indexOfChar_v5
  refine zw_mono (zx_L5 (x := (nI c).toInt8.toInt32) 2 0 zF rfl (by have := zF_big; omega)) fun v q => ?_
  rw [zw_some, zw_some, zw_some]
  rcases q with ⟨j, h3, h4, h5, h6⟩ | ⟨h3, h4⟩
  · exact Or.inl ⟨j, h4, h5, (a3 j h4).mp h6⟩
  · exact Or.inr ⟨h3, fun j h5 q => h4 j (Nat.zero_le j) h5 ((a3 j h5).mpr q)⟩
def zl_sg : List Int32 := [40, 41, 91, 93, 44, 59, 58, 46, 43, 45, 42, 47, 61, 60, 62, 38, 124]
def zl_2 (c d : Int32) : Nat := if c = 58 ∧ d = 61 then 256 else if c = 46 ∧ d = 46 then 257 else if c = 60 ∧ d = 61 then 258 else if c = 62 ∧ d = 61 then 259 else if c = 60 ∧ d = 62 then 260 else 0
def zl_sn (T : Nat → Int32) (n a : Nat) : zl_T := if zl_2 (zl_b T n a) (zl_b T n (a + 1)) = 0 then (if zl_b T n a ∈ zl_sg then (5, a, a + 1, (zl_b T n a).toNatClampNeg) else (9, a, a, 1)) else (5, a, a + 2, zl_2 (zl_b T n a) (zl_b T n (a + 1)))
theorem zl_byte {v : Int32} (h : zb_ok v) : ∃ k : Nat, k < 256 ∧ v &&& 255 = nI k ∧ (0 ≤ v → v = nI k) ∧ (v < 0 → 128 ≤ k) := by
  have key : ∀ j, j < 256 → ((nI j - 128) &&& 255 = nI ((j + 128) % 256) ∧ (0 ≤ nI j - 128 → nI j - 128 = nI ((j + 128) % 256)) ∧ (nI j - 128 < 0 → 128 ≤ (j + 128) % 256)) := by decide +kernel
  have e : v = nI (v.toInt + 128).toNat - 128 := by
    apply Int32.toInt_inj.mp
    have h1 := h.1
    have h2 := h.2
    have e1 : (nI (v.toInt + 128).toNat).toInt = v.toInt + 128 := by rw [nI_toInt (by omega)]; omega
    rw [za_sub (by rw [e1]; show _ ≤ _ - (128 : Int); omega) (by rw [e1]; show _ - (128 : Int) < _; omega), e1]
    show _ = _ - (128 : Int)
    omega
  have h1 := h.1
  have h2 := h.2
  have q := key (v.toInt + 128).toNat (by omega)
  rw [← e] at q
  exact ⟨((v.toInt + 128).toNat + 128) % 256, Nat.mod_lt _ (by decide), q⟩
theorem zl_sgf : ∀ c, c < 256 → ((∃ j, j < 17 ∧ ze_f 9 j = nI c) ↔ nI c ∈ zl_sg) ∧ (128 ≤ c → ¬ nI c ∈ zl_sg) ∧ (c = 0 → ¬ nI c ∈ zl_sg) := by decide +kernel
theorem zl_readSign {g : zs_H} {T : Nat → Int32} {n b a : Nat} {L : List (List Int32)} {c : List Int32} (H : zl_X g T n) (Ha : (g.1 68 7) = nI a) (Hb : (g.1 68 8) = nI b) (ha : a < n) (hb : b ≤ a) (hT : ∀ i, zb_ok (T i)) (HL : zn_M g L) : zw (f_Mo_readSign g) (zl_N n b L c g (zl_sn T n a)) := by
  have hn := H.2.1
  obtain ⟨k, hk, ek, -, -⟩ := zl_byte (hT a)
  have eb : zl_b T n a = nI k := by unfold zl_b; rw [if_pos ha, ek]
  unfold f_Mo_readSign zl_sn
  rw [Ha, zl_byteOf H (by omega), nI_1, zl_byteOf H (by omega), zw_bind, zw_some, zw_bind, zw_some, eb]
  generalize zl_b T n (a + 1) = d
  have h162 : ∀ t : Nat, t ≤ 260 → zw (f_Mo_readSign_162 g (nI k) (nI t)) (zl_N n b L c g (if t = 0 then (5, a, a + 1, k) else (5, a, a + 2, t))) := by
    intro t ht
    unfold f_Mo_readSign_162 f_Mo_readSign_177 f_Mo_readSign_194
    by_cases c1 : t = 0
    · subst c1
      rw [if_pos (by decide), if_pos (by decide), if_pos rfl, zw_some, show (zs_uF g 68 6 5).1 68 7 = nI a from Ha, nI_1]
      exact ⟨zfr_F (by decide) (zfr_F (by decide) (zfr_F (by decide) zfr_rfl)), fun q => absurd q (by simp), fun _ => ⟨rfl, rfl, Ha, rfl, rfl, fun q => absurd q (by simp), fun _ => ⟨HL, fun _ => rfl⟩⟩⟩
    · have c2 : ¬ nI t ≤ 0 := mt (zc_el (k := 0) (by decide) (by omega)).mp (by omega)
      rw [if_neg c2, if_neg c2, if_neg c1, zw_some, show (zs_uF g 68 6 5).1 68 7 = nI a from Ha, show nI a + 2 = nI (a + 2) from nI_add a 2]
      exact ⟨zfr_F (by decide) (zfr_F (by decide) (zfr_F (by decide) zfr_rfl)), fun q => absurd q (by simp), fun _ => ⟨rfl, rfl, Ha, rfl, rfl, fun q => absurd q (by simp), fun _ => ⟨HL, fun _ => rfl⟩⟩⟩
  have h139 : ∀ (t : Nat) (o : Int32), t ≤ 260 → (o = 0 ↔ ¬ nI k ∈ zl_sg) → zw (f_Mo_readSign_139 g (nI k) (nI t) o) (zl_N n b L c g (if t = 0 then (if nI k ∈ zl_sg then (5, a, a + 1, k) else (9, a, a, 1)) else (5, a, a + 2, t))) := by
    intro t o ht ho
    unfold f_Mo_readSign_139
    by_cases c1 : t = 0
    · rw [if_pos (by rw [c1]; rfl), if_pos c1]
      by_cases c2 : nI k ∈ zl_sg
      · rw [if_neg (fun q => ho.mp q c2), if_pos c2]
        have := h162 t ht
        rw [if_pos c1] at this; exact this
      · rw [if_pos (ho.mpr c2), if_neg c2, zl_fail Ha, zw_bind, zw_some, zw_some]
        exact zl_ftN (w := 1) (fs := []) zfr_rfl (fun x q => absurd q (List.not_mem_nil)) HL Hb (by omega) (Nat.le_refl b)
    · rw [if_neg (fun q => c1 ((zc_eq (k := 0) (by decide) (by omega)).mp q)), if_neg c1]
      have := h162 t ht
      rw [if_neg c1] at this; exact this
  have hs := zl_sgf k hk
  have h111 : ∀ t : Nat, t ≤ 260 → zw (f_Mo_readSign_111 g (nI k) (nI t)) (zl_N n b L c g (if t = 0 then (if nI k ∈ zl_sg then (5, a, a + 1, k) else (9, a, a, 1)) else (5, a, a + 2, t))) := by
    intro t ht
    unfold f_Mo_readSign_111 f_Mo_readSign_138
    by_cases c1 : k = 0
    · rw [if_pos (by rw [c1]; decide)]
      exact h139 t 0 ht ⟨fun _ => hs.2.2 c1, fun _ => rfl⟩
    · rw [if_neg (mt (zc_el (k := 0) (by decide) (by omega)).mp (by omega))]
      by_cases c2 : 128 ≤ k
      · rw [if_pos ((zc_le (k := 128) (by decide) (by omega)).mpr c2)]
        exact h139 t 0 ht ⟨fun _ => hs.2.1 c2, fun _ => rfl⟩
      · rw [if_neg (mt (zc_le (k := 128) (by decide) (by omega)).mp c2), zw_bind]
        refine zw_mono (zx_I9 hk) fun v q => ?_
        rcases q with ⟨j, h3, h4, h5⟩ | ⟨h3, h4⟩
        · rw [h4, if_neg (nI_pos (by omega))]
          exact h139 t 1 ht ⟨fun q => absurd q (by simp), fun q => absurd (hs.1.mp ⟨j, h3, h5⟩) q⟩
        · rw [h3, if_pos (by decide)]
          exact h139 t 0 ht ⟨fun _ q => by obtain ⟨j, h5, h6⟩ := hs.1.mpr q; exact h4 j h5 h6, fun _ => rfl⟩
  have ek2 : (nI k).toNatClampNeg = k := nI_clamp (by omega)
  rw [ek2]
  have fin : ∀ t : Nat, t ≤ 260 → zl_2 (nI k) d = t → zw (f_Mo_readSign_111 g (nI k) (nI t)) (zl_N n b L c g (if zl_2 (nI k) d = 0 then (if nI k ∈ zl_sg then (5, a, a + 1, k) else (9, a, a, 1)) else (5, a, a + 2, zl_2 (nI k) d))) := by
    intro t ht e
    rw [e]; exact h111 t ht
  unfold f_Mo_readSign_38 f_Mo_readSign_56 f_Mo_readSign_74 f_Mo_readSign_92 f_Mo_readSign_110
  by_cases a1 : nI k = 58 ∧ d = 61
  · rw [if_pos a1.1, if_pos a1.2]; exact fin 256 (by decide) (if_pos a1)
  by_cases a2 : nI k = 46 ∧ d = 46
  · have n1 : ¬ nI k = 58 := by rw [a2.1]; decide
    rw [if_neg n1, if_pos a2.1, if_pos a2.2]
    exact fin 257 (by decide) (by unfold zl_2; rw [if_neg a1, if_pos a2])
  by_cases a3 : nI k = 60 ∧ d = 61
  · have n1 : ¬ nI k = 58 := by rw [a3.1]; decide
    have n2 : ¬ nI k = 46 := by rw [a3.1]; decide
    rw [if_neg n1, if_neg n2, if_pos a3.1, if_pos a3.2]
    exact fin 258 (by decide) (by unfold zl_2; rw [if_neg a1, if_neg a2, if_pos a3])
  by_cases a4 : nI k = 62 ∧ d = 61
  · have n1 : ¬ nI k = 58 := by rw [a4.1]; decide
    have n2 : ¬ nI k = 46 := by rw [a4.1]; decide
    have n3 : ¬ nI k = 60 := by rw [a4.1]; decide
    rw [if_neg n1, if_neg n2, if_neg n3, if_pos a4.1, if_pos a4.2]
    exact fin 259 (by decide) (by unfold zl_2; rw [if_neg a1, if_neg a2, if_neg a3, if_pos a4])
  by_cases a5 : nI k = 60 ∧ d = 62
  · have n1 : ¬ nI k = 58 := by rw [a5.1]; decide
    have n2 : ¬ nI k = 46 := by rw [a5.1]; decide
    have n4 : ¬ nI k = 62 := by rw [a5.1]; decide
    have n5 : ¬ d = 61 := by rw [a5.2]; decide
    rw [if_neg n1, if_neg n2, if_pos a5.1, if_neg n5, if_neg n4, if_pos a5.1, if_pos a5.2]
    exact fin 260 (by decide) (by unfold zl_2; rw [if_neg a1, if_neg a2, if_neg a3, if_neg a4, if_pos a5])
  have f0 := fin 0 (by decide) (by unfold zl_2; rw [if_neg a1, if_neg a2, if_neg a3, if_neg a4, if_neg a5])
  rw [nI_0] at f0
  generalize zl_N n b L c g _ = Q at f0 ⊢
  repeat' split
  all_goals first | exact f0 | exact absurd (And.intro (by assumption) (by assumption)) a1 | exact absurd (And.intro (by assumption) (by assumption)) a2 | exact absurd (And.intro (by assumption) (by assumption)) a3 | exact absurd (And.intro (by assumption) (by assumption)) a4 | exact absurd (And.intro (by assumption) (by assumption)) a5
