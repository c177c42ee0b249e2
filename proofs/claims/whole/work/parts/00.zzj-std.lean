/-! The model knows the standard names. -/
theorem zj_lext {a b : List Int32} (h : a.length = b.length) (e : ∀ i, i < a.length → a.getD i 0 = b.getD i 0) : a = b := by
  refine List.ext_getElem h fun i h1 h2 => ?_
  have := e i h1
  rw [List.getD_eq_getElem?_getD, List.getD_eq_getElem?_getD, List.getElem?_eq_getElem h1, List.getElem?_eq_getElem h2] at this
  exact this
def zj_WB : List (List Int32) := [[84, 79, 78], [84, 79, 70], [84, 80], [67, 84, 85], [67, 84, 68], [82, 95, 84, 82, 73, 71], [70, 95, 84, 82, 73, 71], [83, 82], [82, 83]]
def zj_PB : List Nat := [1, 5, 9, 12, 16, 20, 27, 34, 37]
theorem zj_PfB : ∀ w, w < 9 → zj_PB.getD w 40 + (zj_WB.getD w []).length < 40 ∧ (ze_f 10 (zj_PB.getD w 40 + (zj_WB.getD w []).length) &&& 255) = 32 ∧ zj_PB.getD (w + 1) 40 = zj_PB.getD w 40 + (zj_WB.getD w []).length + 1 ∧ ∀ k, k < (zj_WB.getD w []).length → (ze_f 10 (zj_PB.getD w 40 + k) &&& 255) = (zj_WB.getD w []).getD k 0 ∧ ¬ (zj_WB.getD w []).getD k 0 = 32 := by decide +kernel
theorem zj_20B {g : zs_H} {LM : List (List Int32)} {k st w : Nat} {wd : List Int32} {k5 : Int32 → Int32 → Int32 → Option Int32} (HM : zn_M g LM) (hk : k < LM.length) (hst : st + wd.length < 40) (h32 : (ze_f 10 (st + wd.length) &&& 255) = 32) (hw : ∀ k, k < wd.length → (ze_f 10 (st + k) &&& 255) = wd.getD k 0 ∧ ¬ wd.getD k 0 = 32) : ∀ m j fuel, wd.length = j + m → m < fuel →
    f_Mo_wordOf_s10_L20 g k5 fuel (nI k) (nI w) (nI st) (nI j) 0 = f_Mo_wordOf_s10_105 g k5 (nI k) (nI w) (nI st) (nI wd.length) ∧
    ((∀ i, j ≤ i → i < wd.length → i < (LM.getD k []).length ∧ (LM.getD k []).getD i 0 = wd.getD i 0) → f_Mo_wordOf_s10_L20 g k5 fuel (nI k) (nI w) (nI st) (nI j) 1 = if wd.length = (LM.getD k []).length then some (nI w) else f_Mo_wordOf_s10_105 g k5 (nI k) (nI w) (nI st) (nI wd.length)) ∧
    ((¬ ∀ i, j ≤ i → i < wd.length → i < (LM.getD k []).length ∧ (LM.getD k []).getD i 0 = wd.getD i 0) → f_Mo_wordOf_s10_L20 g k5 fuel (nI k) (nI w) (nI st) (nI j) 1 = f_Mo_wordOf_s10_105 g k5 (nI k) (nI w) (nI st) (nI wd.length)) := by
  obtain ⟨n1, n2, n3⟩ := HM
  obtain ⟨d1, d2, d3⟩ := n3 k hk
  have hin : zd_in (nI k) 8192 := zi_in (by omega) (by omega)
  intro m
  induction m with
  | zero =>
    intro j fuel h1 h2
    obtain ⟨f, rfl⟩ : ∃ f, fuel = f + 1 := ⟨fuel - 1, by omega⟩
    have ej : j = wd.length := by omega
    subst ej
    have e0 : ∀ s, f_Mo_wordOf_s10_L20 g k5 (f + 1) (nI k) (nI w) (nI st) (nI wd.length) s = if s = 0 then f_Mo_wordOf_s10_105 g k5 (nI k) (nI w) (nI st) (nI wd.length) else if wd.length = (LM.getD k []).length then some (nI w) else f_Mo_wordOf_s10_105 g k5 (nI k) (nI w) (nI st) (nI wd.length) := by
      intro s
      show f_Mo_wordOf_s10_20 g k5 (f_Mo_wordOf_s10_L20 g k5 f) (nI k) (nI w) (nI st) (nI wd.length) s = _
      unfold f_Mo_wordOf_s10_20
      rw [nI_add, if_pos (zi_in (by omega) (by omega)), if_pos (show (ze_f 10 (nI (st + wd.length)).toNatClampNeg &&& 255) = 32 by rw [nI_clamp (by omega)]; exact h32), if_pos hin, nI_clamp (by omega), d1]
      by_cases c : wd.length = (LM.getD k []).length
      · rw [if_pos c, if_pos (show nI wd.length = nI (LM.getD k []).length by rw [c])]
      · rw [if_neg c, if_neg (fun q => c ((nI_eq (by omega) (by omega)).mp q))]
    refine ⟨by rw [e0, if_pos rfl], fun _ => by rw [e0, if_neg (by decide)], fun q => absurd (fun i h3 h4 => by omega) q⟩
  | succ m ih =>
    intro j fuel h1 h2
    obtain ⟨f, rfl⟩ : ∃ f, fuel = f + 1 := ⟨fuel - 1, by omega⟩
    have hj := hw j (by omega)
    have hi := ih (j + 1) f (by omega) (by omega)
    have hnb : ¬ (ze_f 10 (nI (st + j)).toNatClampNeg &&& 255) = 32 := by rw [nI_clamp (by omega), hj.1]; exact hj.2
    have e0 : f_Mo_wordOf_s10_L20 g k5 (f + 1) (nI k) (nI w) (nI st) (nI j) 0 = f_Mo_wordOf_s10_L20 g k5 f (nI k) (nI w) (nI st) (nI (j + 1)) 0 := by
      show f_Mo_wordOf_s10_20 g k5 (f_Mo_wordOf_s10_L20 g k5 f) (nI k) (nI w) (nI st) (nI j) 0 = _
      unfold f_Mo_wordOf_s10_20
      rw [nI_add, if_pos (zi_in (by omega) (by omega)), if_neg hnb, if_pos rfl]
      unfold f_Mo_wordOf_s10_78 f_Mo_wordOf_s10_79
      rw [nI_1]
    have e1 : f_Mo_wordOf_s10_L20 g k5 (f + 1) (nI k) (nI w) (nI st) (nI j) 1 = if j < (LM.getD k []).length ∧ (LM.getD k []).getD j 0 = wd.getD j 0 then f_Mo_wordOf_s10_L20 g k5 f (nI k) (nI w) (nI st) (nI (j + 1)) 1 else f_Mo_wordOf_s10_L20 g k5 f (nI k) (nI w) (nI st) (nI (j + 1)) 0 := by
      show f_Mo_wordOf_s10_20 g k5 (f_Mo_wordOf_s10_L20 g k5 f) (nI k) (nI w) (nI st) (nI j) 1 = _
      unfold f_Mo_wordOf_s10_20
      rw [nI_add, if_pos (zi_in (by omega) (by omega)), if_neg hnb, if_neg (by decide), if_pos hin]
      unfold f_Mo_wordOf_s10_78 f_Mo_wordOf_s10_79
      rw [nI_1, show (32 : Int32) * nI k + nI j = nI (32 * k + j) by rw [zc_ml, nI_add]]
      by_cases c1 : j < (LM.getD k []).length
      · rw [if_neg (show ¬ g.2.1 71 (nI k).toNatClampNeg ≤ nI j by rw [nI_clamp (by omega), d1]; exact mt (nI_leI (by omega) (by omega)).mp (by omega)), if_pos (zi_in (by omega) (by omega))]
        have e2 : g.2.1 70 (nI (32 * k + j)).toNatClampNeg = (LM.getD k []).getD j 0 := by rw [nI_clamp (by omega)]; exact d3 j c1
        have e3 : (ze_f 10 (nI (st + j)).toNatClampNeg &&& 255) = wd.getD j 0 := by rw [nI_clamp (by omega)]; exact hj.1
        rw [e2, e3]
        by_cases c2 : (LM.getD k []).getD j 0 = wd.getD j 0
        · rw [if_pos c2, if_pos ⟨c1, c2⟩]
        · rw [if_neg c2, if_neg (fun q => c2 q.2)]
      · rw [if_pos (show g.2.1 71 (nI k).toNatClampNeg ≤ nI j by rw [nI_clamp (by omega), d1]; exact (nI_leI (by omega) (by omega)).mpr (by omega)), if_neg (fun q => c1 q.1)]
    refine ⟨e0.trans hi.1, ?_, ?_⟩
    · intro q
      rw [e1, if_pos (q j (by omega) (by omega))]
      exact hi.2.1 fun i h3 h4 => q i (by omega) h4
    · intro q
      rw [e1]
      by_cases c : j < (LM.getD k []).length ∧ (LM.getD k []).getD j 0 = wd.getD j 0
      · rw [if_pos c]
        refine hi.2.2 fun z => q fun i h3 h4 => ?_
        by_cases ei : i = j
        · rw [ei]; exact c
        · exact z i (by omega) h4
      · rw [if_neg c]; exact hi.1
theorem zj_5B {g : zs_H} {LM : List (List Int32)} {k : Nat} (HM : zn_M g LM) (hk : k < LM.length) : ∀ m w fuel, 9 = w + m → m < fuel → (∀ j, j < w → ¬ zj_WB.getD j [] = LM.getD k []) → f_Mo_wordOf_s10_L5 g fuel (nI k) (nI w) (nI (zj_PB.getD w 40)) = some (if LM.getD k [] ∈ zj_WB then nI (zj_WB.idxOf (LM.getD k [])) else -1) := by
  intro m
  induction m with
  | zero =>
    intro w fuel h1 h2 h3
    obtain ⟨f, rfl⟩ : ∃ f, fuel = f + 1 := ⟨fuel - 1, by omega⟩
    have ew : w = 9 := by omega
    subst ew
    show f_Mo_wordOf_s10_5 g (f_Mo_wordOf_s10_L5 g f) (nI k) (nI 9) (nI 40) = _
    unfold f_Mo_wordOf_s10_5
    rw [if_pos (by decide), if_neg]
    intro q
    obtain ⟨j, hj, e1⟩ := List.getElem_of_mem q
    exact h3 j hj (by rw [List.getD_eq_getElem?_getD, List.getElem?_eq_getElem hj]; exact e1)
  | succ m ih =>
    intro w fuel h1 h2 h3
    obtain ⟨f, rfl⟩ : ∃ f, fuel = f + 1 := ⟨fuel - 1, by omega⟩
    obtain ⟨w1, w2, w3, w4⟩ := zj_PfB w (by omega)
    show f_Mo_wordOf_s10_5 g (f_Mo_wordOf_s10_L5 g f) (nI k) (nI w) (nI (zj_PB.getD w 40)) = _
    unfold f_Mo_wordOf_s10_5
    rw [if_neg (mt (zc_le (k := 40) (by decide) (by omega)).mp (by omega))]
    have h18 := zj_20B (w := w) (k5 := f_Mo_wordOf_s10_L5 g f) HM hk w1 w2 w4 (zj_WB.getD w []).length 0 zF (by omega) (by have := zF_big; omega)
    have e103 : f_Mo_wordOf_s10_105 g (f_Mo_wordOf_s10_L5 g f) (nI k) (nI w) (nI (zj_PB.getD w 40)) (nI (zj_WB.getD w []).length) = f_Mo_wordOf_s10_L5 g f (nI k) (nI (w + 1)) (nI (zj_PB.getD (w + 1) 40)) := by
      unfold f_Mo_wordOf_s10_105
      rw [nI_1, nI_add, nI_1, w3]
    have ew : zj_WB.length = 9 := rfl
    by_cases c : zj_WB.getD w [] = LM.getD k []
    · rw [show (0 : Int32) = nI 0 from nI_0.symm, h18.2.1 (fun i _ h5 => ⟨by rw [← c]; exact h5, by rw [c]⟩), if_pos (by rw [c]), zx_idx (by omega) c h3, if_pos]
      rw [← c, List.getD_eq_getElem?_getD, List.getElem?_eq_getElem (by omega)]
      exact List.getElem_mem _
    · have e4 : f_Mo_wordOf_s10_L20 g (f_Mo_wordOf_s10_L5 g f) zF (nI k) (nI w) (nI (zj_PB.getD w 40)) (nI 0) 1 = f_Mo_wordOf_s10_L5 g f (nI k) (nI (w + 1)) (nI (zj_PB.getD (w + 1) 40)) := by
        by_cases c2 : ∀ i, 0 ≤ i → i < (zj_WB.getD w []).length → i < (LM.getD k []).length ∧ (LM.getD k []).getD i 0 = (zj_WB.getD w []).getD i 0
        · rw [h18.2.1 c2, if_neg, e103]
          intro q
          exact c (zj_lext q fun i hi => (c2 i (Nat.zero_le i) hi).2.symm)
        · rw [h18.2.2 c2, e103]
      rw [show (0 : Int32) = nI 0 from nI_0.symm, e4]
      exact ih (w + 1) f (by omega) (by omega) fun j hj => by
        by_cases ej : j = w
        · rw [ej]; exact c
        · exact h3 j (by omega)
theorem zj_wordOfB {g : zs_H} {LM : List (List Int32)} {k : Nat} (HM : zn_M g LM) (hk : k < LM.length) : f_Mo_wordOf_s10 g (nI k) = some (if LM.getD k [] ∈ zj_WB then nI (zj_WB.idxOf (LM.getD k [])) else -1) := zj_5B HM hk 9 0 zF rfl (by have := zF_big; omega) (fun j hj => by omega)
def zj_WF : List (List Int32) := [[65, 66, 83], [77, 73, 78], [77, 65, 88], [76, 73, 77, 73, 84], [83, 69, 76], [83, 72, 76], [83, 72, 82], [84, 79, 95, 73, 78, 84], [84, 79, 95, 68, 73, 78, 84], [84, 79, 95, 66, 79, 79, 76]]
def zj_PF : List Nat := [1, 5, 9, 13, 19, 23, 27, 31, 38, 46]
theorem zj_PfF : ∀ w, w < 10 → zj_PF.getD w 54 + (zj_WF.getD w []).length < 54 ∧ (ze_f 11 (zj_PF.getD w 54 + (zj_WF.getD w []).length) &&& 255) = 32 ∧ zj_PF.getD (w + 1) 54 = zj_PF.getD w 54 + (zj_WF.getD w []).length + 1 ∧ ∀ k, k < (zj_WF.getD w []).length → (ze_f 11 (zj_PF.getD w 54 + k) &&& 255) = (zj_WF.getD w []).getD k 0 ∧ ¬ (zj_WF.getD w []).getD k 0 = 32 := by decide +kernel
theorem zj_20F {g : zs_H} {LM : List (List Int32)} {k st w : Nat} {wd : List Int32} {k5 : Int32 → Int32 → Int32 → Option Int32} (HM : zn_M g LM) (hk : k < LM.length) (hst : st + wd.length < 54) (h32 : (ze_f 11 (st + wd.length) &&& 255) = 32) (hw : ∀ k, k < wd.length → (ze_f 11 (st + k) &&& 255) = wd.getD k 0 ∧ ¬ wd.getD k 0 = 32) : ∀ m j fuel, wd.length = j + m → m < fuel →
    f_Mo_wordOf_s11_L20 g k5 fuel (nI k) (nI w) (nI st) (nI j) 0 = f_Mo_wordOf_s11_105 g k5 (nI k) (nI w) (nI st) (nI wd.length) ∧
    ((∀ i, j ≤ i → i < wd.length → i < (LM.getD k []).length ∧ (LM.getD k []).getD i 0 = wd.getD i 0) → f_Mo_wordOf_s11_L20 g k5 fuel (nI k) (nI w) (nI st) (nI j) 1 = if wd.length = (LM.getD k []).length then some (nI w) else f_Mo_wordOf_s11_105 g k5 (nI k) (nI w) (nI st) (nI wd.length)) ∧
    ((¬ ∀ i, j ≤ i → i < wd.length → i < (LM.getD k []).length ∧ (LM.getD k []).getD i 0 = wd.getD i 0) → f_Mo_wordOf_s11_L20 g k5 fuel (nI k) (nI w) (nI st) (nI j) 1 = f_Mo_wordOf_s11_105 g k5 (nI k) (nI w) (nI st) (nI wd.length)) := by
  obtain ⟨n1, n2, n3⟩ := HM
  obtain ⟨d1, d2, d3⟩ := n3 k hk
  have hin : zd_in (nI k) 8192 := zi_in (by omega) (by omega)
  intro m
  induction m with
  | zero =>
    intro j fuel h1 h2
    obtain ⟨f, rfl⟩ : ∃ f, fuel = f + 1 := ⟨fuel - 1, by omega⟩
    have ej : j = wd.length := by omega
    subst ej
    have e0 : ∀ s, f_Mo_wordOf_s11_L20 g k5 (f + 1) (nI k) (nI w) (nI st) (nI wd.length) s = if s = 0 then f_Mo_wordOf_s11_105 g k5 (nI k) (nI w) (nI st) (nI wd.length) else if wd.length = (LM.getD k []).length then some (nI w) else f_Mo_wordOf_s11_105 g k5 (nI k) (nI w) (nI st) (nI wd.length) := by
      intro s
      show f_Mo_wordOf_s11_20 g k5 (f_Mo_wordOf_s11_L20 g k5 f) (nI k) (nI w) (nI st) (nI wd.length) s = _
      unfold f_Mo_wordOf_s11_20
      rw [nI_add, if_pos (zi_in (by omega) (by omega)), if_pos (show (ze_f 11 (nI (st + wd.length)).toNatClampNeg &&& 255) = 32 by rw [nI_clamp (by omega)]; exact h32), if_pos hin, nI_clamp (by omega), d1]
      by_cases c : wd.length = (LM.getD k []).length
      · rw [if_pos c, if_pos (show nI wd.length = nI (LM.getD k []).length by rw [c])]
      · rw [if_neg c, if_neg (fun q => c ((nI_eq (by omega) (by omega)).mp q))]
    refine ⟨by rw [e0, if_pos rfl], fun _ => by rw [e0, if_neg (by decide)], fun q => absurd (fun i h3 h4 => by omega) q⟩
  | succ m ih =>
    intro j fuel h1 h2
    obtain ⟨f, rfl⟩ : ∃ f, fuel = f + 1 := ⟨fuel - 1, by omega⟩
    have hj := hw j (by omega)
    have hi := ih (j + 1) f (by omega) (by omega)
    have hnb : ¬ (ze_f 11 (nI (st + j)).toNatClampNeg &&& 255) = 32 := by rw [nI_clamp (by omega), hj.1]; exact hj.2
    have e0 : f_Mo_wordOf_s11_L20 g k5 (f + 1) (nI k) (nI w) (nI st) (nI j) 0 = f_Mo_wordOf_s11_L20 g k5 f (nI k) (nI w) (nI st) (nI (j + 1)) 0 := by
      show f_Mo_wordOf_s11_20 g k5 (f_Mo_wordOf_s11_L20 g k5 f) (nI k) (nI w) (nI st) (nI j) 0 = _
      unfold f_Mo_wordOf_s11_20
      rw [nI_add, if_pos (zi_in (by omega) (by omega)), if_neg hnb, if_pos rfl]
      unfold f_Mo_wordOf_s11_78 f_Mo_wordOf_s11_79
      rw [nI_1]
    have e1 : f_Mo_wordOf_s11_L20 g k5 (f + 1) (nI k) (nI w) (nI st) (nI j) 1 = if j < (LM.getD k []).length ∧ (LM.getD k []).getD j 0 = wd.getD j 0 then f_Mo_wordOf_s11_L20 g k5 f (nI k) (nI w) (nI st) (nI (j + 1)) 1 else f_Mo_wordOf_s11_L20 g k5 f (nI k) (nI w) (nI st) (nI (j + 1)) 0 := by
      show f_Mo_wordOf_s11_20 g k5 (f_Mo_wordOf_s11_L20 g k5 f) (nI k) (nI w) (nI st) (nI j) 1 = _
      unfold f_Mo_wordOf_s11_20
      rw [nI_add, if_pos (zi_in (by omega) (by omega)), if_neg hnb, if_neg (by decide), if_pos hin]
      unfold f_Mo_wordOf_s11_78 f_Mo_wordOf_s11_79
      rw [nI_1, show (32 : Int32) * nI k + nI j = nI (32 * k + j) by rw [zc_ml, nI_add]]
      by_cases c1 : j < (LM.getD k []).length
      · rw [if_neg (show ¬ g.2.1 71 (nI k).toNatClampNeg ≤ nI j by rw [nI_clamp (by omega), d1]; exact mt (nI_leI (by omega) (by omega)).mp (by omega)), if_pos (zi_in (by omega) (by omega))]
        have e2 : g.2.1 70 (nI (32 * k + j)).toNatClampNeg = (LM.getD k []).getD j 0 := by rw [nI_clamp (by omega)]; exact d3 j c1
        have e3 : (ze_f 11 (nI (st + j)).toNatClampNeg &&& 255) = wd.getD j 0 := by rw [nI_clamp (by omega)]; exact hj.1
        rw [e2, e3]
        by_cases c2 : (LM.getD k []).getD j 0 = wd.getD j 0
        · rw [if_pos c2, if_pos ⟨c1, c2⟩]
        · rw [if_neg c2, if_neg (fun q => c2 q.2)]
      · rw [if_pos (show g.2.1 71 (nI k).toNatClampNeg ≤ nI j by rw [nI_clamp (by omega), d1]; exact (nI_leI (by omega) (by omega)).mpr (by omega)), if_neg (fun q => c1 q.1)]
    refine ⟨e0.trans hi.1, ?_, ?_⟩
    · intro q
      rw [e1, if_pos (q j (by omega) (by omega))]
      exact hi.2.1 fun i h3 h4 => q i (by omega) h4
    · intro q
      rw [e1]
      by_cases c : j < (LM.getD k []).length ∧ (LM.getD k []).getD j 0 = wd.getD j 0
      · rw [if_pos c]
        refine hi.2.2 fun z => q fun i h3 h4 => ?_
        by_cases ei : i = j
        · rw [ei]; exact c
        · exact z i (by omega) h4
      · rw [if_neg c]; exact hi.1
theorem zj_5F {g : zs_H} {LM : List (List Int32)} {k : Nat} (HM : zn_M g LM) (hk : k < LM.length) : ∀ m w fuel, 10 = w + m → m < fuel → (∀ j, j < w → ¬ zj_WF.getD j [] = LM.getD k []) → f_Mo_wordOf_s11_L5 g fuel (nI k) (nI w) (nI (zj_PF.getD w 54)) = some (if LM.getD k [] ∈ zj_WF then nI (zj_WF.idxOf (LM.getD k [])) else -1) := by
  intro m
  induction m with
  | zero =>
    intro w fuel h1 h2 h3
    obtain ⟨f, rfl⟩ : ∃ f, fuel = f + 1 := ⟨fuel - 1, by omega⟩
    have ew : w = 10 := by omega
    subst ew
    show f_Mo_wordOf_s11_5 g (f_Mo_wordOf_s11_L5 g f) (nI k) (nI 10) (nI 54) = _
    unfold f_Mo_wordOf_s11_5
    rw [if_pos (by decide), if_neg]
    intro q
    obtain ⟨j, hj, e1⟩ := List.getElem_of_mem q
    exact h3 j hj (by rw [List.getD_eq_getElem?_getD, List.getElem?_eq_getElem hj]; exact e1)
  | succ m ih =>
    intro w fuel h1 h2 h3
    obtain ⟨f, rfl⟩ : ∃ f, fuel = f + 1 := ⟨fuel - 1, by omega⟩
    obtain ⟨w1, w2, w3, w4⟩ := zj_PfF w (by omega)
    show f_Mo_wordOf_s11_5 g (f_Mo_wordOf_s11_L5 g f) (nI k) (nI w) (nI (zj_PF.getD w 54)) = _
    unfold f_Mo_wordOf_s11_5
    rw [if_neg (mt (zc_le (k := 54) (by decide) (by omega)).mp (by omega))]
    have h18 := zj_20F (w := w) (k5 := f_Mo_wordOf_s11_L5 g f) HM hk w1 w2 w4 (zj_WF.getD w []).length 0 zF (by omega) (by have := zF_big; omega)
    have e103 : f_Mo_wordOf_s11_105 g (f_Mo_wordOf_s11_L5 g f) (nI k) (nI w) (nI (zj_PF.getD w 54)) (nI (zj_WF.getD w []).length) = f_Mo_wordOf_s11_L5 g f (nI k) (nI (w + 1)) (nI (zj_PF.getD (w + 1) 54)) := by
      unfold f_Mo_wordOf_s11_105
      rw [nI_1, nI_add, nI_1, w3]
    have ew : zj_WF.length = 10 := rfl
    by_cases c : zj_WF.getD w [] = LM.getD k []
    · rw [show (0 : Int32) = nI 0 from nI_0.symm, h18.2.1 (fun i _ h5 => ⟨by rw [← c]; exact h5, by rw [c]⟩), if_pos (by rw [c]), zx_idx (by omega) c h3, if_pos]
      rw [← c, List.getD_eq_getElem?_getD, List.getElem?_eq_getElem (by omega)]
      exact List.getElem_mem _
    · have e4 : f_Mo_wordOf_s11_L20 g (f_Mo_wordOf_s11_L5 g f) zF (nI k) (nI w) (nI (zj_PF.getD w 54)) (nI 0) 1 = f_Mo_wordOf_s11_L5 g f (nI k) (nI (w + 1)) (nI (zj_PF.getD (w + 1) 54)) := by
        by_cases c2 : ∀ i, 0 ≤ i → i < (zj_WF.getD w []).length → i < (LM.getD k []).length ∧ (LM.getD k []).getD i 0 = (zj_WF.getD w []).getD i 0
        · rw [h18.2.1 c2, if_neg, e103]
          intro q
          exact c (zj_lext q fun i hi => (c2 i (Nat.zero_le i) hi).2.symm)
        · rw [h18.2.2 c2, e103]
      rw [show (0 : Int32) = nI 0 from nI_0.symm, e4]
      exact ih (w + 1) f (by omega) (by omega) fun j hj => by
        by_cases ej : j = w
        · rw [ej]; exact c
        · exact h3 j (by omega)
theorem zj_wordOfF {g : zs_H} {LM : List (List Int32)} {k : Nat} (HM : zn_M g LM) (hk : k < LM.length) : f_Mo_wordOf_s11 g (nI k) = some (if LM.getD k [] ∈ zj_WF then nI (zj_WF.idxOf (LM.getD k [])) else -1) := zj_5F HM hk 10 0 zF rfl (by have := zF_big; omega) (fun j hj => by omega)
theorem zj_WBK : (zk_K.drop 41).take 9 = zj_WB := by decide +kernel
theorem zj_WFK : (zk_K.drop 50).take 10 = zj_WF := by decide +kernel
/-- numbers of names in the class and in the model are in step -/
theorem zt_nr_inj {LC LM : List (List Int32)} (hC : LC.Nodup) (hM : LM.Nodup) {v w v' w' : Int32} (a : zt_nr LC LM v w) (b : zt_nr LC LM v' w') (hl : LC.length < 6000) (hm : LM.length < 8000) : v = v' ↔ w = w' := by
  obtain ⟨c, k, e1, e2, e3, e4, e5, e6⟩ := a
  obtain ⟨c', k', f1, f2, f3, f4, f5, f6⟩ := b
  have gi : ∀ (L : List (List Int32)) (i j : Nat), L.Nodup → i < L.length → j < L.length → L.getD i [] = L.getD j [] → i = j := by
    intro L i j hN hi hj e
    rw [List.getD_eq_getElem?_getD, List.getD_eq_getElem?_getD, List.getElem?_eq_getElem hi, List.getElem?_eq_getElem hj] at e
    exact (List.getElem_inj hN).mp e
  constructor
  · intro z
    rw [e1, f1] at z
    have := (nI_eq (by omega) (by omega)).mp z
    subst this
    have := gi LM k k' hM e5 f5 (e6.symm.trans f6)
    rw [e2, f2, this]
  · intro z
    rw [e2, f2] at z
    have := (nI_eq (by omega) (by omega)).mp z
    subst this
    have := gi LC c c' hC e4 f4 (e6.trans f6.symm)
    rw [e1, f1, this]
/-- which names are standard -/
theorem zj_std {LC : List (List Int32)} (hC : LC.Nodup) (hK : LC.take 75 = zk_K) {c : Nat} (hc : c < LC.length) {W : List (List Int32)} {a n : Nat} (hW : (zk_K.drop a).take n = W) (han : a + n ≤ 75) (hn : W.length = n) : (LC.getD c [] ∈ W ↔ a ≤ c ∧ c < a + n) ∧ (LC.getD c [] ∈ W → W.idxOf (LC.getD c []) = c - a) := by
  have hl : 75 ≤ LC.length := by
    have := congrArg List.length hK
    rw [List.length_take, show zk_K.length = 75 by decide +kernel] at this
    omega
  have hg : ∀ i, i < n → W.getD i [] = LC.getD (a + i) [] := by
    intro i hi
    rw [← hW, ← hK, List.getD_eq_getElem?_getD, List.getD_eq_getElem?_getD, List.getElem?_take, if_pos hi, List.getElem?_drop, List.getElem?_take, if_pos (by omega)]
  have gi : ∀ (i j : Nat), i < LC.length → j < LC.length → LC.getD i [] = LC.getD j [] → i = j := by
    intro i j hi hj e
    rw [List.getD_eq_getElem?_getD, List.getD_eq_getElem?_getD, List.getElem?_eq_getElem hi, List.getElem?_eq_getElem hj] at e
    exact (List.getElem_inj hC).mp e
  have h1 : ∀ i, i < n → W.getD i [] = LC.getD c [] → c = a + i := fun i hi e => gi c (a + i) hc (by omega) (by rw [← e, hg i hi])
  have key : LC.getD c [] ∈ W → c = a + W.idxOf (LC.getD c []) ∧ W.idxOf (LC.getD c []) < n := by
    intro z
    have hlt := List.idxOf_lt_length_of_mem z
    refine ⟨h1 _ (by omega) ?_, by omega⟩
    rw [List.getD_eq_getElem?_getD, List.getElem?_eq_getElem hlt]
    exact List.getElem_idxOf hlt
  refine ⟨⟨fun z => by have := key z; omega, fun z => ?_⟩, fun z => by have := key z; omega⟩
  have := hg (c - a) (by omega)
  rw [show a + (c - a) = c by omega] at this
  rw [← this, List.getD_eq_getElem?_getD, List.getElem?_eq_getElem (by omega)]
  exact List.getElem_mem _
