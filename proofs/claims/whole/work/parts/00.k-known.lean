/-! What the class knows without a text. -/
theorem zf_fill7 (v : Int32) : ∀ m i fuel (g : zs_H), 1024 = i + m → m < fuel → zw (f_Ar_fill_c7_L5 fuel g v (nI i) 1024) (fun g' => (∀ j, g'.2.1 7 j = if i ≤ j ∧ j < 1024 then v else g.2.1 7 j) ∧ zfr [] [7] [] g g') := by
  intro m
  induction m with
  | zero =>
    intro i fuel g h1 h2
    obtain ⟨f, rfl⟩ : ∃ f, fuel = f + 1 := ⟨fuel - 1, by omega⟩
    show zw (f_Ar_fill_c7_5 (f_Ar_fill_c7_L5 f) g v (nI i) 1024) _
    unfold f_Ar_fill_c7_5
    rw [if_pos ((zc_le (k := 1024) (by decide) (by omega)).mpr (by omega)), zw_some]
    exact ⟨fun j => by rw [if_neg (by omega)], zfr_rfl⟩
  | succ m ih =>
    intro i fuel g h1 h2
    obtain ⟨f, rfl⟩ : ∃ f, fuel = f + 1 := ⟨fuel - 1, by omega⟩
    show zw (f_Ar_fill_c7_5 (f_Ar_fill_c7_L5 f) g v (nI i) 1024) _
    unfold f_Ar_fill_c7_5
    rw [if_neg (mt (zc_le (k := 1024) (by decide) (by omega)).mp (by omega)), if_pos (zi_in (by omega) (by omega)), nI_clamp (by omega), nI_1]
    refine zw_mono (ih (i + 1) f (zs_uM g 7 i v) (by omega) (by omega)) fun g' q => ?_
    refine ⟨fun j => ?_, zfr_trans (zfr_M (by decide) zfr_rfl) q.2⟩
    rw [q.1 j, zu_MM]
    by_cases c1 : j = i
    · rw [if_neg (by omega), if_pos ⟨rfl, c1⟩, if_pos (by omega)]
    · by_cases c2 : i + 1 ≤ j ∧ j < 1024
      · rw [if_pos c2, if_pos (by omega)]
      · rw [if_neg c2, if_neg (fun q => c1 q.2), if_neg (by omega)]
theorem zf_fill36 (v : Int32) : ∀ m i fuel (g : zs_H), 6000 = i + m → m < fuel → zw (f_Ar_fill_c36_L5 fuel g v (nI i) 6000) (fun g' => (∀ j, g'.2.1 36 j = if i ≤ j ∧ j < 6000 then v else g.2.1 36 j) ∧ zfr [] [36] [] g g') := by
  intro m
  induction m with
  | zero =>
    intro i fuel g h1 h2
    obtain ⟨f, rfl⟩ : ∃ f, fuel = f + 1 := ⟨fuel - 1, by omega⟩
    show zw (f_Ar_fill_c36_5 (f_Ar_fill_c36_L5 f) g v (nI i) 6000) _
    unfold f_Ar_fill_c36_5
    rw [if_pos ((zc_le (k := 6000) (by decide) (by omega)).mpr (by omega)), zw_some]
    exact ⟨fun j => by rw [if_neg (by omega)], zfr_rfl⟩
  | succ m ih =>
    intro i fuel g h1 h2
    obtain ⟨f, rfl⟩ : ∃ f, fuel = f + 1 := ⟨fuel - 1, by omega⟩
    show zw (f_Ar_fill_c36_5 (f_Ar_fill_c36_L5 f) g v (nI i) 6000) _
    unfold f_Ar_fill_c36_5
    rw [if_neg (mt (zc_le (k := 6000) (by decide) (by omega)).mp (by omega)), if_pos (zi_in (by omega) (by omega)), nI_clamp (by omega), nI_1]
    refine zw_mono (ih (i + 1) f (zs_uM g 36 i v) (by omega) (by omega)) fun g' q => ?_
    refine ⟨fun j => ?_, zfr_trans (zfr_M (by decide) zfr_rfl) q.2⟩
    rw [q.1 j, zu_MM]
    by_cases c1 : j = i
    · rw [if_neg (by omega), if_pos ⟨rfl, c1⟩, if_pos (by omega)]
    · by_cases c2 : i + 1 ≤ j ∧ j < 6000
      · rw [if_pos c2, if_pos (by omega)]
      · rw [if_neg c2, if_neg (fun q => c1 q.2), if_neg (by omega)]
theorem zf_fill37 (v : Int32) : ∀ m i fuel (g : zs_H), 6000 = i + m → m < fuel → zw (f_Ar_fill_c37_L5 fuel g v (nI i) 6000) (fun g' => (∀ j, g'.2.1 37 j = if i ≤ j ∧ j < 6000 then v else g.2.1 37 j) ∧ zfr [] [37] [] g g') := by
  intro m
  induction m with
  | zero =>
    intro i fuel g h1 h2
    obtain ⟨f, rfl⟩ : ∃ f, fuel = f + 1 := ⟨fuel - 1, by omega⟩
    show zw (f_Ar_fill_c37_5 (f_Ar_fill_c37_L5 f) g v (nI i) 6000) _
    unfold f_Ar_fill_c37_5
    rw [if_pos ((zc_le (k := 6000) (by decide) (by omega)).mpr (by omega)), zw_some]
    exact ⟨fun j => by rw [if_neg (by omega)], zfr_rfl⟩
  | succ m ih =>
    intro i fuel g h1 h2
    obtain ⟨f, rfl⟩ : ∃ f, fuel = f + 1 := ⟨fuel - 1, by omega⟩
    show zw (f_Ar_fill_c37_5 (f_Ar_fill_c37_L5 f) g v (nI i) 6000) _
    unfold f_Ar_fill_c37_5
    rw [if_neg (mt (zc_le (k := 6000) (by decide) (by omega)).mp (by omega)), if_pos (zi_in (by omega) (by omega)), nI_clamp (by omega), nI_1]
    refine zw_mono (ih (i + 1) f (zs_uM g 37 i v) (by omega) (by omega)) fun g' q => ?_
    refine ⟨fun j => ?_, zfr_trans (zfr_M (by decide) zfr_rfl) q.2⟩
    rw [q.1 j, zu_MM]
    by_cases c1 : j = i
    · rw [if_neg (by omega), if_pos ⟨rfl, c1⟩, if_pos (by omega)]
    · by_cases c2 : i + 1 ≤ j ∧ j < 6000
      · rw [if_pos c2, if_pos (by omega)]
      · rw [if_neg c2, if_neg (fun q => c1 q.2), if_neg (by omega)]
theorem zf_fill62 (v : Int32) : ∀ m i fuel (g : zs_H), 8192 = i + m → m < fuel → zw (f_Ar_fill_c62_L5 fuel g v (nI i) 8192) (fun g' => (∀ j, g'.2.1 62 j = if i ≤ j ∧ j < 8192 then v else g.2.1 62 j) ∧ zfr [] [62] [] g g') := by
  intro m
  induction m with
  | zero =>
    intro i fuel g h1 h2
    obtain ⟨f, rfl⟩ : ∃ f, fuel = f + 1 := ⟨fuel - 1, by omega⟩
    show zw (f_Ar_fill_c62_5 (f_Ar_fill_c62_L5 f) g v (nI i) 8192) _
    unfold f_Ar_fill_c62_5
    rw [if_pos ((zc_le (k := 8192) (by decide) (by omega)).mpr (by omega)), zw_some]
    exact ⟨fun j => by rw [if_neg (by omega)], zfr_rfl⟩
  | succ m ih =>
    intro i fuel g h1 h2
    obtain ⟨f, rfl⟩ : ∃ f, fuel = f + 1 := ⟨fuel - 1, by omega⟩
    show zw (f_Ar_fill_c62_5 (f_Ar_fill_c62_L5 f) g v (nI i) 8192) _
    unfold f_Ar_fill_c62_5
    rw [if_neg (mt (zc_le (k := 8192) (by decide) (by omega)).mp (by omega)), if_pos (zi_in (by omega) (by omega)), nI_clamp (by omega), nI_1]
    refine zw_mono (ih (i + 1) f (zs_uM g 62 i v) (by omega) (by omega)) fun g' q => ?_
    refine ⟨fun j => ?_, zfr_trans (zfr_M (by decide) zfr_rfl) q.2⟩
    rw [q.1 j, zu_MM]
    by_cases c1 : j = i
    · rw [if_neg (by omega), if_pos ⟨rfl, c1⟩, if_pos (by omega)]
    · by_cases c2 : i + 1 ≤ j ∧ j < 8192
      · rw [if_pos c2, if_pos (by omega)]
      · rw [if_neg c2, if_neg (fun q => c1 q.2), if_neg (by omega)]
theorem zf_fill65 (v : Int32) : ∀ m i fuel (g : zs_H), 16 = i + m → m < fuel → zw (f_Ar_fill_c65_L5 fuel g v (nI i) 16) (fun g' => (∀ j, g'.2.1 65 j = if i ≤ j ∧ j < 16 then v else g.2.1 65 j) ∧ zfr [] [65] [] g g') := by
  intro m
  induction m with
  | zero =>
    intro i fuel g h1 h2
    obtain ⟨f, rfl⟩ : ∃ f, fuel = f + 1 := ⟨fuel - 1, by omega⟩
    show zw (f_Ar_fill_c65_5 (f_Ar_fill_c65_L5 f) g v (nI i) 16) _
    unfold f_Ar_fill_c65_5
    rw [if_pos ((zc_le (k := 16) (by decide) (by omega)).mpr (by omega)), zw_some]
    exact ⟨fun j => by rw [if_neg (by omega)], zfr_rfl⟩
  | succ m ih =>
    intro i fuel g h1 h2
    obtain ⟨f, rfl⟩ : ∃ f, fuel = f + 1 := ⟨fuel - 1, by omega⟩
    show zw (f_Ar_fill_c65_5 (f_Ar_fill_c65_L5 f) g v (nI i) 16) _
    unfold f_Ar_fill_c65_5
    rw [if_neg (mt (zc_le (k := 16) (by decide) (by omega)).mp (by omega)), if_pos (zi_in (by omega) (by omega)), nI_clamp (by omega), nI_1]
    refine zw_mono (ih (i + 1) f (zs_uM g 65 i v) (by omega) (by omega)) fun g' q => ?_
    refine ⟨fun j => ?_, zfr_trans (zfr_M (by decide) zfr_rfl) q.2⟩
    rw [q.1 j, zu_MM]
    by_cases c1 : j = i
    · rw [if_neg (by omega), if_pos ⟨rfl, c1⟩, if_pos (by omega)]
    · by_cases c2 : i + 1 ≤ j ∧ j < 16
      · rw [if_pos c2, if_pos (by omega)]
      · rw [if_neg c2, if_neg (fun q => c1 q.2), if_neg (by omega)]
def zk_kn : List Int32 := [70, 85, 78, 67, 84, 73, 79, 78, 32, 69, 78, 68, 95, 70, 85, 78, 67, 84, 73, 79, 78, 32, 70, 85, 78, 67, 84, 73, 79, 78, 95, 66, 76, 79, 67, 75, 32, 69, 78, 68, 95, 70, 85, 78, 67, 84, 73, 79, 78, 95, 66, 76, 79, 67, 75, 32, 80, 82, 79, 71, 82, 65, 77, 32, 69, 78, 68, 95, 80, 82, 79, 71, 82, 65, 77, 32, 86, 65, 82, 32, 86, 65, 82, 95, 73, 78, 80, 85, 84, 32, 86, 65, 82, 95, 79, 85, 84, 80, 85, 84, 32, 69, 78, 68, 95, 86, 65, 82, 32, 65, 84, 32, 66, 79, 79, 76, 32, 73, 78, 84, 32, 68, 73, 78, 84, 32, 65, 82, 82, 65, 89, 32, 79, 70, 32, 73, 70, 32, 84, 72, 69, 78, 32, 69, 76, 83, 73, 70, 32, 69, 76, 83, 69, 32, 69, 78, 68, 95, 73, 70, 32, 67, 65, 83, 69, 32, 69, 78, 68, 95, 67, 65, 83, 69, 32, 70, 79, 82, 32, 84, 79, 32, 66, 89, 32, 68, 79, 32, 69, 78, 68, 95, 70, 79, 82, 32, 69, 88, 73, 84, 32, 82, 69, 84, 85, 82, 78, 32, 79, 82, 32, 88, 79, 82, 32, 65, 78, 68, 32, 77, 79, 68, 32, 78, 79, 84, 32, 84, 82, 85, 69, 32, 70, 65, 76, 83, 69, 32, 76, 65, 68, 68, 69, 82, 32, 69, 78, 68, 95, 76, 65, 68, 68, 69, 82, 32, 82, 85, 78, 71, 32, 69, 78, 68, 95, 82, 85, 78, 71, 32, 84, 79, 78, 32, 84, 79, 70, 32, 84, 80, 32, 67, 84, 85, 32, 67, 84, 68, 32, 82, 95, 84, 82, 73, 71, 32, 70, 95, 84, 82, 73, 71, 32, 83, 82, 32, 82, 83, 32, 65, 66, 83, 32, 77, 73, 78, 32, 77, 65, 88, 32, 76, 73, 77, 73, 84, 32, 83, 69, 76, 32, 83, 72, 76, 32, 83, 72, 82, 32, 84, 79, 95, 73, 78, 84, 32, 84, 79, 95, 68, 73, 78, 84, 32, 84, 79, 95, 66, 79, 79, 76, 32, 73, 78, 32, 80, 84, 32, 81, 32, 69, 84, 32, 67, 85, 32, 82, 32, 80, 86, 32, 67, 86, 32, 67, 68, 32, 76, 68, 32, 67, 76, 75, 32, 83, 49, 32, 81, 49, 32, 83, 32, 82, 49, 32]
def zk_K : List (List Int32) := [[70, 85, 78, 67, 84, 73, 79, 78], [69, 78, 68, 95, 70, 85, 78, 67, 84, 73, 79, 78], [70, 85, 78, 67, 84, 73, 79, 78, 95, 66, 76, 79, 67, 75], [69, 78, 68, 95, 70, 85, 78, 67, 84, 73, 79, 78, 95, 66, 76, 79, 67, 75], [80, 82, 79, 71, 82, 65, 77], [69, 78, 68, 95, 80, 82, 79, 71, 82, 65, 77], [86, 65, 82], [86, 65, 82, 95, 73, 78, 80, 85, 84], [86, 65, 82, 95, 79, 85, 84, 80, 85, 84], [69, 78, 68, 95, 86, 65, 82], [65, 84], [66, 79, 79, 76], [73, 78, 84], [68, 73, 78, 84], [65, 82, 82, 65, 89], [79, 70], [73, 70], [84, 72, 69, 78], [69, 76, 83, 73, 70], [69, 76, 83, 69], [69, 78, 68, 95, 73, 70], [67, 65, 83, 69], [69, 78, 68, 95, 67, 65, 83, 69], [70, 79, 82], [84, 79], [66, 89], [68, 79], [69, 78, 68, 95, 70, 79, 82], [69, 88, 73, 84], [82, 69, 84, 85, 82, 78], [79, 82], [88, 79, 82], [65, 78, 68], [77, 79, 68], [78, 79, 84], [84, 82, 85, 69], [70, 65, 76, 83, 69], [76, 65, 68, 68, 69, 82], [69, 78, 68, 95, 76, 65, 68, 68, 69, 82], [82, 85, 78, 71], [69, 78, 68, 95, 82, 85, 78, 71], [84, 79, 78], [84, 79, 70], [84, 80], [67, 84, 85], [67, 84, 68], [82, 95, 84, 82, 73, 71], [70, 95, 84, 82, 73, 71], [83, 82], [82, 83], [65, 66, 83], [77, 73, 78], [77, 65, 88], [76, 73, 77, 73, 84], [83, 69, 76], [83, 72, 76], [83, 72, 82], [84, 79, 95, 73, 78, 84], [84, 79, 95, 68, 73, 78, 84], [84, 79, 95, 66, 79, 79, 76], [73, 78], [80, 84], [81], [69, 84], [67, 85], [82], [80, 86], [67, 86], [67, 68], [76, 68], [67, 76, 75], [83, 49], [81, 49], [83], [82, 49]]
def zk_S : List Nat := [0, 9, 22, 37, 56, 64, 76, 80, 90, 101, 109, 112, 117, 121, 126, 132, 135, 138, 143, 149, 154, 161, 166, 175, 179, 182, 185, 188, 196, 201, 208, 211, 215, 219, 223, 227, 232, 238, 245, 256, 261, 270, 274, 278, 281, 285, 289, 296, 303, 306, 309, 313, 317, 321, 327, 331, 335, 339, 346, 354, 362, 365, 368, 370, 373, 376, 378, 381, 384, 387, 390, 394, 397, 400, 402]
theorem zk_Kf : ∀ k, k < 75 → zk_S.getD k 405 + (zk_K.getD k []).length < 405 ∧ zk_kn.getD (zk_S.getD k 405 + (zk_K.getD k []).length) 0 = 32 ∧ zk_S.getD (k + 1) 405 = zk_S.getD k 405 + (zk_K.getD k []).length + 1 ∧ 1 ≤ (zk_K.getD k []).length ∧ (zk_K.getD k []).length ≤ 32 ∧ ∀ i, i < (zk_K.getD k []).length → zk_kn.getD (zk_S.getD k 405 + i) 0 = (zk_K.getD k []).getD i 0 ∧ ¬ (zk_K.getD k []).getD i 0 = 32 ∧ f_Nm_great ((zk_K.getD k []).getD i 0) = (zk_K.getD k []).getD i 0 ∧ vp_nar .byte (((zk_K.getD k []).getD i 0).toInt8.toInt32) = (zk_K.getD k []).getD i 0 := by decide +kernel
theorem zk_Kn : zk_K.Nodup := by decide +kernel
theorem zk_Kl : zk_K.length = 75 := by decide +kernel
theorem zk_Ko : ∀ k, k < 76 → zn_o (zk_K.take k) k + 32 ≤ 16789 := by decide +kernel
theorem zk_take {k : Nat} (h : k < 75) : zk_K.take (k + 1) = zk_K.take k ++ [zk_K.getD k []] := by
  have hk : k < zk_K.length := by rw [zk_Kl]; exact h
  rw [List.take_succ, List.getElem?_eq_getElem hk, List.getD_eq_getElem?_getD, List.getElem?_eq_getElem hk]; rfl
theorem zk_notin {k : Nat} (h : k < 75) : ¬ zk_K.getD k [] ∈ zk_K.take k := by
  have hk : k < zk_K.length := by rw [zk_Kl]; exact h
  have hn : (zk_K.take (k + 1)).Nodup := List.Nodup.sublist (List.take_sublist _ _) zk_Kn
  rw [zk_take h] at hn
  have := (List.nodup_append.mp hn).2.2
  intro q
  exact this _ q _ (List.mem_singleton.mpr rfl) rfl
def zk_kk (h : zs_H) : Prop := ∀ i, i < 405 → (h.2.1 3) i = zk_kn.getD i 0
def zk_k0 (h : zs_H) : Prop := (h.2.1 5) 0 = 0 ∧ zk_kk h
theorem zk_f1 {g : zs_H} {k : Nat} (H : zk_kk g) (hk : k < 75) : ∀ m i fuel, (zk_K.getD k []).length = i + m → f_Nm_forget_L17 (fuel + m) g (nI (zk_S.getD k 405)) (nI (zk_S.getD k 405 + i)) = f_Nm_forget_L17 fuel g (nI (zk_S.getD k 405)) (nI (zk_S.getD k 405 + (zk_K.getD k []).length)) := by
  obtain ⟨k1, k2, k3, k4, k5, k6⟩ := zk_Kf k hk
  intro m
  induction m with
  | zero =>
    intro i fuel h1
    rw [h1]; rfl
  | succ m ih =>
    intro i fuel h1
    obtain ⟨i1, i2, i3, i4⟩ := k6 i (by omega)
    show f_Nm_forget_17 (f_Nm_forget_L17 (fuel + m)) g _ _ = _
    unfold f_Nm_forget_17
    rw [if_neg (mt (zc_le (k := 405) (by decide) (by omega)).mp (by omega)), if_pos (zi_in (by omega) (by omega)), nI_clamp (by omega), H _ (by omega), i1, if_neg i2]
    unfold f_Nm_forget_54
    rw [nI_1, show zk_S.getD k 405 + i + 1 = zk_S.getD k 405 + (i + 1) by omega]
    exact ih (i + 1) fuel (by omega)
theorem zk_f2 : ∀ m k fuel (g : zs_H), 75 = k + m → 405 < fuel + zk_S.getD k 405 → zk_kk g → zn_C g (zk_K.take k) → zw (f_Nm_forget_L17 fuel g (nI (zk_S.getD k 405)) (nI (zk_S.getD k 405))) (fun g' => zn_C g' zk_K ∧ zfr [(2, 5)] [4, 5, 6, 7] [] g g') := by
  intro m
  induction m with
  | zero =>
    intro k fuel g h1 h2 H HC
    have ek : k = 75 := by omega
    subst ek
    have h9 : zk_S.getD 75 405 = 405 := by decide +kernel
    obtain ⟨f, rfl⟩ : ∃ f, fuel = f + 1 := ⟨fuel - 1, by omega⟩
    rw [h9]
    show zw (f_Nm_forget_17 (f_Nm_forget_L17 f) g (nI 405) (nI 405)) _
    unfold f_Nm_forget_17
    rw [if_pos (by decide), zw_some]
    rw [List.take_of_length_le (by rw [zk_Kl]; exact Nat.le_refl _)] at HC
    exact ⟨HC, zfr_rfl⟩
  | succ m ih =>
    intro k fuel g h1 h2 H HC
    obtain ⟨k1, k2, k3, k4, k5, k6⟩ := zk_Kf k (by omega)
    obtain ⟨f, rfl⟩ : ∃ f, fuel = f + 1 + (zk_K.getD k []).length := ⟨fuel - 1 - (zk_K.getD k []).length, by omega⟩
    have e1 : f_Nm_forget_L17 (f + 1 + (zk_K.getD k []).length) g (nI (zk_S.getD k 405)) (nI (zk_S.getD k 405)) = f_Nm_forget_L17 (f + 1) g (nI (zk_S.getD k 405)) (nI (zk_S.getD k 405 + (zk_K.getD k []).length)) := zk_f1 H (show k < 75 by omega) (zk_K.getD k []).length 0 (f + 1) (by omega)
    rw [e1]
    show zw (f_Nm_forget_17 (f_Nm_forget_L17 f) g _ _) _
    unfold f_Nm_forget_17
    rw [if_neg (mt (zc_le (k := 405) (by decide) (by omega)).mp (by omega)), if_pos (zi_in (by omega) (by omega)), nI_clamp (by omega), H _ (by omega), k2, if_pos rfl, zi_sub (by omega), show zk_S.getD k 405 + (zk_K.getD k []).length - zk_S.getD k 405 = (zk_K.getD k []).length by omega, zw_B]
    have hlen : (zk_K.take k).length = k := by rw [List.length_take, zk_Kl]; omega
    have hrc : zn_rc (g.2.1 3) (zk_S.getD k 405) (zk_K.getD k []).length = zk_K.getD k [] := zn_rc_eq.mpr ⟨rfl, fun i hi => by rw [H _ (by omega), (k6 i hi).1]; exact (k6 i hi).2.2.1⟩
    have hko := zk_Ko k (by omega)
    refine zw_mono (zn_numberc3 (h := g) (a := zk_S.getD k 405) (len := (zk_K.getD k []).length) HC (List.Nodup.sublist (List.take_sublist _ _) zk_Kn) k4 k5 (by omega) (by rw [hlen]; omega) (by rw [hlen]; omega) fun i hi => by rw [H _ (by omega), (k6 i hi).1, (k6 i hi).2.2.1]; exact (k6 i hi).2.2.2) fun p q => ?_
    rw [hrc, if_neg (zk_notin (by omega)), ← zk_take (by omega)] at q
    unfold f_Nm_forget_54
    rw [nI_1, ← k3]
    refine zw_mono (ih (k + 1) f p.2 (by omega) (by omega) (fun i hi => by rw [q.2.2.2.1 _ (by decide)]; exact H i hi) q.1) fun g' z => ⟨z.1, zfr_trans q.2.2 z.2⟩
theorem zk_forget {h : zs_H} (H0 : zk_k0 h) : zw (f_Nm_forget h) (fun g' => zn_C g' zk_K ∧ zfr [(2, 5)] [4, 5, 6, 7] [] h g') := by
  unfold f_Nm_forget f_Ar_fill_c7
  rw [zw_bind, show (0 : Int32) = nI 0 from nI_0.symm]
  refine zw_mono (zf_fill7 (-1) 1024 0 zF h rfl (by have := zF_big; omega)) fun g1 q => ?_
  have H := H0.2
  refine zw_mono (zk_f2 75 0 zF (zs_uF g1 2 5 0) rfl (by have := zF_big; omega) (fun i hi => by show g1.2.1 3 i = _; rw [q.2.2.1 _ (by decide)]; exact H i hi) ?_) fun g' z => ⟨z.1, zfr_trans (zfr_F (by decide) (zfr_w q.2 (by decide) (by decide) (by decide))) z.2⟩
  refine ⟨rfl, by decide, by decide, fun k hk => ?_, fun k hk => absurd hk (Nat.not_lt_zero k), fun b hb => ?_, fun k hk => absurd hk (Nat.not_lt_zero k)⟩
  · have ek : k = 0 := Nat.le_zero.mp hk
    subst ek
    show g1.2.1 5 0 = _
    rw [q.2.2.1 _ (by decide)]; exact H0.1.trans nI_0.symm
  · show g1.2.1 7 b = _
    rw [q.1 b, if_pos (by omega)]; rfl
