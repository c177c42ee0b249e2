/-! The model's names and words. -/
/-- the great letters of a stretch of the text -/
def zl_nm (T : Nat → Int32) (n a e : Nat) : List Int32 := (List.range (e - a)).map fun i => zl_g T n (a + i)
theorem zl_nm_len {T : Nat → Int32} {n a e : Nat} : (zl_nm T n a e).length = e - a := by unfold zl_nm; rw [List.length_map, List.length_range]
theorem zl_nm_at {T : Nat → Int32} {n a e i : Nat} (h : i < e - a) : (zl_nm T n a e).getD i 0 = zl_g T n (a + i) := by
  unfold zl_nm
  rw [List.getD_eq_getElem?_getD, List.getElem?_map, List.getElem?_range h]; rfl
theorem zl_ext {c d : List Int32} (h : c.length = d.length) (e : ∀ i, i < c.length → c.getD i 0 = d.getD i 0) : c = d := by
  refine List.ext_getElem h fun i h1 h2 => ?_
  have := e i h1
  rwa [List.getD_eq_getElem?_getD, List.getD_eq_getElem?_getD, List.getElem?_eq_getElem h1, List.getElem?_eq_getElem h2] at this
theorem zl_nm_eq {T : Nat → Int32} {n a e : Nat} {d : List Int32} : zl_nm T n a e = d ↔ d.length = e - a ∧ ∀ i, i < e - a → zl_g T n (a + i) = d.getD i 0 := by
  constructor
  · rintro rfl
    exact ⟨zl_nm_len, fun i h => (zl_nm_at h).symm⟩
  · rintro ⟨h1, h2⟩
    refine zl_ext (by rw [zl_nm_len, h1]) fun i h => ?_
    rw [zl_nm_len] at h
    rw [zl_nm_at h, h2 i h]
theorem zx_idx {L : List (List Int32)} {k : Nat} {c : List Int32} (hk : k < L.length) (h1 : L.getD k [] = c) (h2 : ∀ j, j < k → ¬ L.getD j [] = c) : L.idxOf c = k := by
  unfold List.idxOf
  rw [List.findIdx_eq hk]
  have e : ∀ j (hj : j < L.length), L.getD j [] = L[j] := fun j hj => by rw [List.getD_eq_getElem?_getD, List.getElem?_eq_getElem hj]; rfl
  refine ⟨by rw [e k hk] at h1; rw [h1]; exact beq_self_eq_true _, fun j hj => ?_⟩
  have h3 := h2 j hj
  rw [e j (by omega)] at h3
  exact beq_eq_false_iff_ne.mpr h3
/-- the table of names that have come -/
def zn_M (g : zs_H) (L : List (List Int32)) : Prop := (g.1 68 3) = nI L.length ∧ L.length ≤ 8000 ∧ ∀ k, k < L.length → (g.2.1 71) k = nI (L.getD k []).length ∧ (L.getD k []).length ≤ 32 ∧ ∀ i, i < (L.getD k []).length → (g.2.1 70) (32 * k + i) = (L.getD k []).getD i 0
theorem zn_39z {g : zs_H} {k12 : zs_H → Int32 → Int32 → Option (Int32 × zs_H)} {f : Nat} {x1 x2 x4 : Int32} : f_Mo_nameAt_L39 k12 (f + 1) g x1 x2 0 x4 = f_Mo_nameAt_87 k12 g x1 x2 0 := by
  show f_Mo_nameAt_39 k12 (f_Mo_nameAt_L39 k12 f) g x1 x2 0 x4 = _
  unfold f_Mo_nameAt_39
  rw [if_pos rfl]
  split <;> rfl
theorem zn_39 {g : zs_H} {T : Nat → Int32} {n a k len : Nat} {k12 : zs_H → Int32 → Int32 → Option (Int32 × zs_H)} (H : zl_X g T n) (Ha : (g.1 68 7) = nI a) (ha : a ≤ n) (hl : len ≤ 32) (hk : k < 8192) : ∀ m i fuel, len = i + m → m + 1 < fuel →
    ((∀ j, i ≤ j → j < len → (g.2.1 70) (32 * k + j) = zl_g T n (a + j)) → f_Mo_nameAt_L39 k12 fuel g (nI len) (nI k) 1 (nI i) = f_Mo_nameAt_87 k12 g (nI len) (nI k) 1) ∧
    ((¬ ∀ j, i ≤ j → j < len → (g.2.1 70) (32 * k + j) = zl_g T n (a + j)) → f_Mo_nameAt_L39 k12 fuel g (nI len) (nI k) 1 (nI i) = f_Mo_nameAt_87 k12 g (nI len) (nI k) 0) := by
  have hn := H.2.1
  intro m
  induction m with
  | zero =>
    intro i fuel h1 h2
    obtain ⟨f, rfl⟩ : ∃ f, fuel = f + 1 := ⟨fuel - 1, by omega⟩
    refine ⟨fun _ => ?_, fun q => absurd (fun j h3 h4 => by omega) q⟩
    show f_Mo_nameAt_39 k12 (f_Mo_nameAt_L39 k12 f) g (nI len) (nI k) 1 (nI i) = _
    unfold f_Mo_nameAt_39
    rw [if_pos ((nI_leI (by omega) (by omega)).mpr (by omega))]
  | succ m ih =>
    intro i fuel h1 h2
    obtain ⟨f, rfl⟩ : ∃ f, fuel = f + 2 := ⟨fuel - 2, by omega⟩
    have e0 : f_Mo_nameAt_L39 k12 (f + 2) g (nI len) (nI k) 1 (nI i) = if (g.2.1 70) (32 * k + i) = zl_g T n (a + i) then f_Mo_nameAt_L39 k12 (f + 1) g (nI len) (nI k) 1 (nI (i + 1)) else f_Mo_nameAt_87 k12 g (nI len) (nI k) 0 := by
      show f_Mo_nameAt_39 k12 (f_Mo_nameAt_L39 k12 (f + 1)) g (nI len) (nI k) 1 (nI i) = _
      unfold f_Mo_nameAt_39
      rw [if_neg (mt (nI_leI (by omega) (by omega)).mp (by omega)), if_neg (by decide), Ha, nI_add a i, zl_great H (by omega), show (32 : Int32) * nI k + nI i = nI (32 * k + i) from by rw [zc_ml, nI_add], if_pos (zi_in (by omega) (by omega)), nI_clamp (by omega)]
      show (if _ then _ else _) = _
      unfold f_Mo_nameAt_80
      rw [nI_1, zn_39z]
    have hi := ih (i + 1) (f + 1) (by omega) (by omega)
    rw [e0]
    by_cases c : (g.2.1 70) (32 * k + i) = zl_g T n (a + i)
    · rw [if_pos c]
      refine ⟨fun q => hi.1 fun j h3 h4 => q j (by omega) h4, fun q => hi.2 fun z => q fun j h3 h4 => ?_⟩
      by_cases e : j = i
      · rw [e]; exact c
      · exact z j (by omega) h4
    · rw [if_neg c]
      exact ⟨fun q => absurd (q i (by omega) (by omega)) c, fun _ => rfl⟩
theorem zn_12 {g : zs_H} {T : Nat → Int32} {n a e : Nat} {L : List (List Int32)} (H : zl_X g T n) (Ha : (g.1 68 7) = nI a) (ha : a ≤ n) (he : e - a ≤ 32) (HL : zn_M g L) : ∀ m k fuel, L.length = k + m → m < fuel → (∀ j, j < k → ¬ L.getD j [] = zl_nm T n a e) →
    (zl_nm T n a e ∈ L → f_Mo_nameAt_L12 fuel g (nI (e - a)) (nI k) = some (nI (L.idxOf (zl_nm T n a e)), g)) ∧
    (¬ zl_nm T n a e ∈ L → f_Mo_nameAt_L12 fuel g (nI (e - a)) (nI k) = f_Mo_nameAt_L111 zF (zs_uM g 71 L.length (nI (e - a))) (nI (e - a)) 0) := by
  have hn := H.2.1
  have hL := HL.2.1
  intro m
  induction m with
  | zero =>
    intro k fuel h1 h2 h3
    obtain ⟨f, rfl⟩ : ∃ f, fuel = f + 1 := ⟨fuel - 1, by omega⟩
    refine ⟨fun q => ?_, fun _ => ?_⟩
    · obtain ⟨j, hj, e1⟩ := List.getElem_of_mem q
      exact absurd (by rw [List.getD_eq_getElem?_getD, List.getElem?_eq_getElem hj]; exact e1) (h3 j (by omega))
    · show f_Mo_nameAt_12 (f_Mo_nameAt_L12 f) g (nI (e - a)) (nI k) = _
      unfold f_Mo_nameAt_12
      rw [HL.1, if_pos ((nI_leI (by omega) (by omega)).mpr (by omega)), if_pos (zi_in (by omega) (by omega)), nI_clamp (by omega)]
  | succ m ih =>
    intro k fuel h1 h2 h3
    obtain ⟨f, rfl⟩ : ∃ f, fuel = f + 1 := ⟨fuel - 1, by omega⟩
    have hk := HL.2.2 k (by omega)
    have e0 : f_Mo_nameAt_L12 (f + 1) g (nI (e - a)) (nI k) = if L.getD k [] = zl_nm T n a e then some (nI k, g) else f_Mo_nameAt_L12 f g (nI (e - a)) (nI (k + 1)) := by
      show f_Mo_nameAt_12 (f_Mo_nameAt_L12 f) g (nI (e - a)) (nI k) = _
      unfold f_Mo_nameAt_12
      rw [HL.1, if_neg (mt (nI_leI (by omega) (by omega)).mp (by omega)), if_pos (zi_in (by omega) (by omega)), nI_clamp (by omega), hk.1]
      unfold f_Mo_nameAt_35
      by_cases c1 : (L.getD k []).length = e - a
      · rw [if_pos (by rw [c1])]
        have h39 := zn_39 (k := k) (len := e - a) (k12 := f_Mo_nameAt_L12 f) H Ha ha he (by omega) (e - a) 0 zF (by omega) (by have := zF_big; omega)
        by_cases c2 : ∀ j, 0 ≤ j → j < e - a → (g.2.1 70) (32 * k + j) = zl_g T n (a + j)
        · rw [show (0 : Int32) = nI 0 from nI_0.symm, h39.1 c2, if_pos (Eq.symm (zl_nm_eq.mpr ⟨c1, fun i hi => by rw [← c2 i (by omega) hi, hk.2.2 i (by omega)]⟩))]
          unfold f_Mo_nameAt_87
          rw [if_neg (by decide)]
        · rw [show (0 : Int32) = nI 0 from nI_0.symm, h39.2 c2, if_neg (fun q => c2 fun j _ hj => by rw [hk.2.2 j (by omega)]; exact ((zl_nm_eq.mp q.symm).2 j hj).symm)]
          unfold f_Mo_nameAt_87
          rw [if_pos rfl, nI_1]
      · rw [if_neg (fun q => c1 ((nI_eq (by omega) (by omega)).mp q)), zF_9, zn_39z, if_neg (fun q => c1 (by rw [q, zl_nm_len]))]
        unfold f_Mo_nameAt_87
        rw [if_pos rfl, nI_1]
    rw [e0]
    by_cases c : L.getD k [] = zl_nm T n a e
    · rw [if_pos c]
      have hk2 : k < L.length := by omega
      have hm : zl_nm T n a e ∈ L := by
        rw [← c, List.getD_eq_getElem?_getD, List.getElem?_eq_getElem hk2]; exact List.getElem_mem hk2
      refine ⟨fun _ => ?_, fun q => absurd hm q⟩
      have hx : L.idxOf (zl_nm T n a e) = k := zx_idx hk2 c h3
      rw [hx]
    · rw [if_neg c]
      exact ih (k + 1) f (by omega) (by omega) fun j hj => by
        by_cases ej : j = k
        · rw [ej]; exact c
        · exact h3 j (by omega)
/-- a name has come anew -/
theorem zn_111 {g : zs_H} {T : Nat → Int32} {n a e N : Nat} (H : zl_X g T n) (Ha : (g.1 68 7) = nI a) (ha : a ≤ n) (he : e - a ≤ 32) (HN : (g.1 68 3) = nI N) (hN : N < 8000) : ∀ m i fuel, e - a = i + m → m < fuel →
    zw (f_Mo_nameAt_L111 fuel g (nI (e - a)) (nI i)) (fun p => p.1 = nI N ∧ (p.2.1 68 3) = nI (N + 1) ∧ (∀ j, (p.2.2.1 70) j = if 32 * N + i ≤ j ∧ j < 32 * N + (e - a) then vp_nar .byte ((zl_g T n (a + (j - 32 * N))).toInt8.toInt32) else (g.2.1 70) j) ∧ zfr [(68, 3)] [70] [] g p.2) := by
  have hn := H.2.1
  intro m
  induction m generalizing g with
  | zero =>
    intro i fuel h1 h2
    obtain ⟨f, rfl⟩ : ∃ f, fuel = f + 1 := ⟨fuel - 1, by omega⟩
    show zw (f_Mo_nameAt_111 (f_Mo_nameAt_L111 f) g (nI (e - a)) (nI i)) _
    unfold f_Mo_nameAt_111
    rw [if_pos ((nI_leI (by omega) (by omega)).mpr (by omega)), HN, nI_1, nI_pred, zw_some]
    refine ⟨rfl, rfl, fun j => ?_, zfr_F (by decide) zfr_rfl⟩
    rw [if_neg (by omega)]; rfl
  | succ m ih =>
    intro i fuel h1 h2
    obtain ⟨f, rfl⟩ : ∃ f, fuel = f + 1 := ⟨fuel - 1, by omega⟩
    show zw (f_Mo_nameAt_111 (f_Mo_nameAt_L111 f) g (nI (e - a)) (nI i)) _
    unfold f_Mo_nameAt_111
    rw [if_neg (mt (nI_leI (by omega) (by omega)).mp (by omega)), Ha, nI_add a i, zl_great H (by omega), HN, show (32 : Int32) * nI N + nI i = nI (32 * N + i) from by rw [zc_ml, nI_add]]
    show zw (if _ then _ else _) _
    rw [if_pos (zi_in (by omega) (by omega)), nI_clamp (by omega), nI_1]
    refine zw_mono (ih (g := zs_uM g 70 (32 * N + i) (vp_nar .byte ((zl_g T n (a + i)).toInt8.toInt32))) H Ha HN (i + 1) f (by omega) (by omega)) fun p q => ?_
    refine ⟨q.1, q.2.1, fun j => ?_, zfr_trans (zfr_M (by decide) zfr_rfl) q.2.2.2⟩
    rw [q.2.2.1 j, zu_MM]
    by_cases c1 : j = 32 * N + i
    · subst c1
      rw [if_neg (by omega), if_pos ⟨rfl, rfl⟩, if_pos (by omega), show 32 * N + i - 32 * N = i by omega]
    · by_cases c2 : 32 * N + (i + 1) ≤ j ∧ j < 32 * N + (e - a)
      · rw [if_pos c2, if_pos (by omega)]
      · rw [if_neg c2, if_neg (fun q => c1 q.2), if_neg (by omega)]
theorem zl_asc {c : Int32} (h : ¬ f_Nm_isPart c = 0) : ∃ k : Nat, k < 128 ∧ f_Nm_great c = nI k := by
  have h1 : 0 ≤ f_Nm_great c ∧ f_Nm_great c ≤ 127 := by
    grind [f_Nm_great, f_Nm_isPart, f_Nm_isLetter, f_Nm_isLetter_12, f_Nm_isLetter_24]
  obtain ⟨j, hj, e⟩ := nI_of (Int32.not_lt.mpr h1.1)
  refine ⟨j, ?_, e⟩
  have h2 := h1.2
  rw [e] at h2
  have := (zc_el (k := 127) (by decide) hj).mp h2
  omega
theorem zl_nar7 : ∀ k : Nat, k < 128 → vp_nar .byte ((nI k).toInt8.toInt32) = nI k := by decide +kernel
theorem zl_nar {T : Nat → Int32} {n i : Nat} (h : zl_pt T n i = true) : vp_nar .byte ((zl_g T n i).toInt8.toInt32) = zl_g T n i := by
  obtain ⟨k, hk, e⟩ := zl_asc (c := zl_b T n i) (by simpa [zl_pt] using h)
  unfold zl_g
  rw [e]; exact zl_nar7 k hk
theorem zn_nameAt {g : zs_H} {T : Nat → Int32} {n a e : Nat} {L : List (List Int32)} (H : zl_X g T n) (Ha : (g.1 68 7) = nI a) (Hb : (g.1 68 8) = nI e) (hae : a ≤ e) (he : e ≤ n) (h32 : e - a ≤ 32) (hp : ∀ i, a ≤ i → i < e → zl_pt T n i = true) (HL : zn_M g L) (hL : L.length < 8000) :
    zw (f_Mo_nameAt g) (fun p => zn_M p.2 (if zl_nm T n a e ∈ L then L else L ++ [zl_nm T n a e]) ∧ p.1 = nI (L.idxOf (zl_nm T n a e)) ∧ zfr [(68, 3)] [70, 71] [] g p.2) := by
  have hn := H.2.1
  unfold f_Mo_nameAt
  rw [Ha, Hb, zi_sub hae]
  have h12 := zn_12 H Ha (by omega) h32 HL L.length 0 zF (by omega) (by have := zF_big; omega) (fun j hj => by omega)
  by_cases c : zl_nm T n a e ∈ L
  · rw [show (0 : Int32) = nI 0 from nI_0.symm, h12.1 c, zw_some, if_pos c]
    exact ⟨HL, rfl, zfr_rfl⟩
  · rw [show (0 : Int32) = nI 0 from nI_0.symm, h12.2 c, if_neg c, show (0 : Int32) = nI 0 from nI_0.symm]
    refine zw_mono (zn_111 (g := zs_uM g 71 L.length (nI (e - a))) (N := L.length) H Ha (by omega) h32 HL.1 hL (e - a) 0 zF (by omega) (by have := zF_big; omega)) fun p q => ?_
    refine ⟨?_, ?_, zfr_trans (zfr_M (by decide) zfr_rfl) (zfr_w q.2.2.2 (by decide) (by decide) (by decide))⟩
    · refine ⟨by rw [q.2.1, List.length_append]; rfl, by rw [List.length_append]; exact hL, fun k hk => ?_⟩
      rw [List.length_append] at hk
      have hk' : k < L.length + 1 := hk
      have hs : (p.2.2.1 71) = (zs_uM g 71 L.length (nI (e - a))).2.1 71 := q.2.2.2.2.1 _ (by decide)
      by_cases ck : k < L.length
      · have e1 : (L ++ [zl_nm T n a e]).getD k [] = L.getD k [] := by
          rw [List.getD_eq_getElem?_getD, List.getD_eq_getElem?_getD, List.getElem?_append_left ck]
        have hk2 := HL.2.2 k ck
        rw [e1]
        refine ⟨by rw [hs, zu_MM, if_neg (by omega)]; exact hk2.1, hk2.2.1, fun i hi => ?_⟩
        rw [q.2.2.1, if_neg (by omega)]
        exact hk2.2.2 i hi
      · have e0 : k = L.length := by omega
        subst e0
        have e1 : (L ++ [zl_nm T n a e]).getD L.length [] = zl_nm T n a e := by
          rw [List.getD_eq_getElem?_getD, List.getElem?_append_right (Nat.le_refl _), Nat.sub_self]; rfl
        rw [e1, zl_nm_len]
        refine ⟨by rw [hs, zu_MM, if_pos ⟨rfl, rfl⟩], h32, fun i hi => ?_⟩
        rw [q.2.2.1, if_pos (by omega), show 32 * L.length + i - 32 * L.length = i by omega, zl_nm_at hi]
        exact zl_nar (hp (a + i) (by omega) (by omega))
    · rw [q.1, List.idxOf_eq_length c]
/-- the words -/
def zl_W : List (List Int32) := [[70, 85, 78, 67, 84, 73, 79, 78], [69, 78, 68, 95, 70, 85, 78, 67, 84, 73, 79, 78], [70, 85, 78, 67, 84, 73, 79, 78, 95, 66, 76, 79, 67, 75], [69, 78, 68, 95, 70, 85, 78, 67, 84, 73, 79, 78, 95, 66, 76, 79, 67, 75], [80, 82, 79, 71, 82, 65, 77], [69, 78, 68, 95, 80, 82, 79, 71, 82, 65, 77], [86, 65, 82], [86, 65, 82, 95, 73, 78, 80, 85, 84], [86, 65, 82, 95, 79, 85, 84, 80, 85, 84], [69, 78, 68, 95, 86, 65, 82], [65, 84], [66, 79, 79, 76], [73, 78, 84], [68, 73, 78, 84], [65, 82, 82, 65, 89], [79, 70], [73, 70], [84, 72, 69, 78], [69, 76, 83, 73, 70], [69, 76, 83, 69], [69, 78, 68, 95, 73, 70], [67, 65, 83, 69], [69, 78, 68, 95, 67, 65, 83, 69], [70, 79, 82], [84, 79], [66, 89], [68, 79], [69, 78, 68, 95, 70, 79, 82], [69, 88, 73, 84], [82, 69, 84, 85, 82, 78], [79, 82], [88, 79, 82], [65, 78, 68], [77, 79, 68], [78, 79, 84], [84, 82, 85, 69], [70, 65, 76, 83, 69], [76, 65, 68, 68, 69, 82], [69, 78, 68, 95, 76, 65, 68, 68, 69, 82], [82, 85, 78, 71], [69, 78, 68, 95, 82, 85, 78, 71]]
def zl_S : List Nat := [1, 10, 23, 38, 57, 65, 77, 81, 91, 102, 110, 113, 118, 122, 127, 133, 136, 139, 144, 150, 155, 162, 167, 176, 180, 183, 186, 189, 197, 202, 209, 212, 216, 220, 224, 228, 233, 239, 246, 257, 262]
theorem zl_Wf : ∀ w, w < 41 → zl_S.getD w 271 + (zl_W.getD w []).length < 271 ∧ (ze_f 7 (zl_S.getD w 271 + (zl_W.getD w []).length) &&& 255) = 32 ∧ zl_S.getD (w + 1) 271 = zl_S.getD w 271 + (zl_W.getD w []).length + 1 ∧ ∀ k, k < (zl_W.getD w []).length → (ze_f 7 (zl_S.getD w 271 + k) &&& 255) = (zl_W.getD w []).getD k 0 ∧ ¬ (zl_W.getD w []).getD k 0 = 32 := by decide +kernel
theorem zl_18 {g : zs_H} {T : Nat → Int32} {n a e st w : Nat} {wd : List Int32} {k4 : Int32 → Int32 → Option Int32} (H : zl_X g T n) (Ha : (g.1 68 7) = nI a) (Hb : (g.1 68 8) = nI e) (hae : a ≤ e) (he : e ≤ n) (hst : st + wd.length < 271) (h32 : (ze_f 7 (st + wd.length) &&& 255) = 32) (hw : ∀ k, k < wd.length → (ze_f 7 (st + k) &&& 255) = wd.getD k 0 ∧ ¬ wd.getD k 0 = 32) : ∀ m j fuel, wd.length = j + m → m < fuel →
    f_Mo_wordAt_L18 g k4 fuel (nI w) (nI st) (nI j) 0 = f_Mo_wordAt_103 g k4 (nI w) (nI st) (nI wd.length) ∧
    ((∀ i, j ≤ i → i < wd.length → zl_g T n (a + i) = wd.getD i 0 ∧ a + i < e) → f_Mo_wordAt_L18 g k4 fuel (nI w) (nI st) (nI j) 1 = if wd.length = e - a then some (nI w) else f_Mo_wordAt_103 g k4 (nI w) (nI st) (nI wd.length)) ∧
    ((¬ ∀ i, j ≤ i → i < wd.length → zl_g T n (a + i) = wd.getD i 0 ∧ a + i < e) → f_Mo_wordAt_L18 g k4 fuel (nI w) (nI st) (nI j) 1 = f_Mo_wordAt_103 g k4 (nI w) (nI st) (nI wd.length)) := by
  have hn := H.2.1
  intro m
  induction m with
  | zero =>
    intro j fuel h1 h2
    obtain ⟨f, rfl⟩ : ∃ f, fuel = f + 1 := ⟨fuel - 1, by omega⟩
    have ej : j = wd.length := by omega
    subst ej
    have e0 : ∀ s, f_Mo_wordAt_L18 g k4 (f + 1) (nI w) (nI st) (nI wd.length) s = if s = 0 then f_Mo_wordAt_103 g k4 (nI w) (nI st) (nI wd.length) else if wd.length = e - a then some (nI w) else f_Mo_wordAt_103 g k4 (nI w) (nI st) (nI wd.length) := by
      intro s
      show f_Mo_wordAt_18 g k4 (f_Mo_wordAt_L18 g k4 f) (nI w) (nI st) (nI wd.length) s = _
      unfold f_Mo_wordAt_18
      rw [nI_add, if_pos (zi_in (by omega) (by omega)), nI_clamp (by omega), if_pos h32, Ha, Hb, zi_sub hae]
      by_cases c : wd.length = e - a
      · rw [if_pos c, if_pos (show nI wd.length = nI (e - a) by rw [c])]
      · rw [if_neg c, if_neg (fun q => c ((nI_eq (by omega) (by omega)).mp q))]
    refine ⟨by rw [e0, if_pos rfl], fun _ => by rw [e0, if_neg (by decide)], fun q => absurd (fun i h3 h4 => by omega) q⟩
  | succ m ih =>
    intro j fuel h1 h2
    obtain ⟨f, rfl⟩ : ∃ f, fuel = f + 1 := ⟨fuel - 1, by omega⟩
    have hj := hw j (by omega)
    have hi := ih (j + 1) f (by omega) (by omega)
    have e0 : f_Mo_wordAt_L18 g k4 (f + 1) (nI w) (nI st) (nI j) 0 = f_Mo_wordAt_L18 g k4 f (nI w) (nI st) (nI (j + 1)) 0 := by
      show f_Mo_wordAt_18 g k4 (f_Mo_wordAt_L18 g k4 f) (nI w) (nI st) (nI j) 0 = _
      unfold f_Mo_wordAt_18
      rw [nI_add, if_pos (zi_in (by omega) (by omega)), nI_clamp (by omega), if_neg (by rw [hj.1]; exact hj.2), if_pos rfl]
      unfold f_Mo_wordAt_74 f_Mo_wordAt_75
      rw [nI_1]
    have e1 : f_Mo_wordAt_L18 g k4 (f + 1) (nI w) (nI st) (nI j) 1 = if zl_g T n (a + j) = wd.getD j 0 ∧ a + j < e then f_Mo_wordAt_L18 g k4 f (nI w) (nI st) (nI (j + 1)) 1 else f_Mo_wordAt_L18 g k4 f (nI w) (nI st) (nI (j + 1)) 0 := by
      show f_Mo_wordAt_18 g k4 (f_Mo_wordAt_L18 g k4 f) (nI w) (nI st) (nI j) 1 = _
      unfold f_Mo_wordAt_18
      rw [nI_add, if_pos (zi_in (by omega) (by omega)), nI_clamp (by omega), if_neg (by rw [hj.1]; exact hj.2), if_neg (by decide), Ha, Hb, nI_add a j, zl_great H (by omega), hj.1]
      show (if _ then (if _ then _ else _) else _) = _
      unfold f_Mo_wordAt_74 f_Mo_wordAt_75
      rw [nI_1]
      by_cases c1 : zl_g T n (a + j) = wd.getD j 0
      · rw [if_pos c1]
        by_cases c2 : a + j < e
        · rw [if_neg (mt (nI_leI (by omega) (by omega)).mp (by omega)), if_pos ⟨c1, c2⟩]
        · rw [if_pos ((nI_leI (by omega) (by omega)).mpr (by omega)), if_neg (fun q => c2 q.2)]
      · rw [if_neg c1, if_neg (fun q => c1 q.1)]
    refine ⟨e0.trans hi.1, ?_, ?_⟩
    · intro q
      rw [e1, if_pos (q j (by omega) (by omega))]
      exact hi.2.1 fun i h3 h4 => q i (by omega) h4
    · intro q
      rw [e1]
      by_cases c : zl_g T n (a + j) = wd.getD j 0 ∧ a + j < e
      · rw [if_pos c]
        refine hi.2.2 fun z => q fun i h3 h4 => ?_
        by_cases ei : i = j
        · rw [ei]; exact c
        · exact z i (by omega) h4
      · rw [if_neg c]; exact hi.1
theorem zl_4 {g : zs_H} {T : Nat → Int32} {n a e : Nat} (H : zl_X g T n) (Ha : (g.1 68 7) = nI a) (Hb : (g.1 68 8) = nI e) (hae : a ≤ e) (he : e ≤ n) : ∀ m w fuel, 41 = w + m → m < fuel → (∀ j, j < w → ¬ zl_W.getD j [] = zl_nm T n a e) →
    f_Mo_wordAt_L4 g fuel (nI w) (nI (zl_S.getD w 271)) = some (if zl_nm T n a e ∈ zl_W then nI (zl_W.idxOf (zl_nm T n a e)) else -1) := by
  intro m
  induction m with
  | zero =>
    intro w fuel h1 h2 h3
    obtain ⟨f, rfl⟩ : ∃ f, fuel = f + 1 := ⟨fuel - 1, by omega⟩
    have ew : w = 41 := by omega
    subst ew
    show f_Mo_wordAt_4 g (f_Mo_wordAt_L4 g f) (nI 41) (nI 271) = _
    unfold f_Mo_wordAt_4
    rw [if_pos (by decide), if_neg]
    intro q
    obtain ⟨j, hj, e1⟩ := List.getElem_of_mem q
    exact h3 j hj (by rw [List.getD_eq_getElem?_getD, List.getElem?_eq_getElem hj]; exact e1)
  | succ m ih =>
    intro w fuel h1 h2 h3
    obtain ⟨f, rfl⟩ : ∃ f, fuel = f + 1 := ⟨fuel - 1, by omega⟩
    obtain ⟨w1, w2, w3, w4⟩ := zl_Wf w (by omega)
    show f_Mo_wordAt_4 g (f_Mo_wordAt_L4 g f) (nI w) (nI (zl_S.getD w 271)) = _
    unfold f_Mo_wordAt_4
    rw [if_neg (mt (zc_le (k := 271) (by decide) (by omega)).mp (by omega))]
    have h18 := zl_18 (w := w) (k4 := f_Mo_wordAt_L4 g f) H Ha Hb hae he w1 w2 w4 (zl_W.getD w []).length 0 zF (by omega) (by have := zF_big; omega)
    have e103 : f_Mo_wordAt_103 g (f_Mo_wordAt_L4 g f) (nI w) (nI (zl_S.getD w 271)) (nI (zl_W.getD w []).length) = f_Mo_wordAt_L4 g f (nI (w + 1)) (nI (zl_S.getD (w + 1) 271)) := by
      unfold f_Mo_wordAt_103
      rw [nI_1, nI_add, nI_1, w3]
    have ew : zl_W.length = 41 := rfl
    by_cases c : zl_W.getD w [] = zl_nm T n a e
    · have c' := zl_nm_eq.mp c.symm
      rw [show (0 : Int32) = nI 0 from nI_0.symm, h18.2.1 (fun i _ h5 => ⟨c'.2 i (by omega), by omega⟩), if_pos c'.1, zx_idx (by omega) c h3, if_pos]
      rw [← c, List.getD_eq_getElem?_getD, List.getElem?_eq_getElem (by omega)]
      exact List.getElem_mem _
    · have e4 : f_Mo_wordAt_L18 g (f_Mo_wordAt_L4 g f) zF (nI w) (nI (zl_S.getD w 271)) (nI 0) 1 = f_Mo_wordAt_L4 g f (nI (w + 1)) (nI (zl_S.getD (w + 1) 271)) := by
        by_cases c2 : ∀ i, 0 ≤ i → i < (zl_W.getD w []).length → zl_g T n (a + i) = (zl_W.getD w []).getD i 0 ∧ a + i < e
        · rw [h18.2.1 c2, if_neg, e103]
          intro q
          exact c (zl_nm_eq.mpr ⟨q, fun i hi => (c2 i (by omega) (by omega)).1⟩).symm
        · rw [h18.2.2 c2, e103]
      rw [show (0 : Int32) = nI 0 from nI_0.symm, e4]
      exact ih (w + 1) f (by omega) (by omega) fun j hj => by
        by_cases ej : j = w
        · rw [ej]; exact c
        · exact h3 j (by omega)
theorem zl_wordAt {g : zs_H} {T : Nat → Int32} {n a e : Nat} (H : zl_X g T n) (Ha : (g.1 68 7) = nI a) (Hb : (g.1 68 8) = nI e) (hae : a ≤ e) (he : e ≤ n) : f_Mo_wordAt g = some (if zl_nm T n a e ∈ zl_W then nI (zl_W.idxOf (zl_nm T n a e)) else -1) := by
  have h := zl_4 H Ha Hb hae he 41 0 zF rfl (by have := zF_big; omega) (fun j hj => by omega)
  exact h
