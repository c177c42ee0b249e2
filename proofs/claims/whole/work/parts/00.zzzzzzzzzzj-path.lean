/-! watch: a name on a path is a variable of a block, on both sides. -/
section ZWJ
variable {h g : zs_H} {T : Nat → Int32} {n a e : Nat} {LC LM : List (List Int32)}
theorem zwt_n26z {k : Nat} {x3 : Int32} {N : Nat} (hk : k < 8192) : f_Mo_isPathName_L26 g (N + 1) (nI k) 0 x3 = some 0 := by
  show f_Mo_isPathName_26 g (f_Mo_isPathName_L26 g N) (nI k) 0 x3 = _
  unfold f_Mo_isPathName_26
  rw [if_pos (zi_in (by omega) hk), if_pos (show (0 : Int32) = 0 ∨ (0 : Int32) = 1 from .inl rfl), if_pos (show (0 : Int32) = 0 from rfl), ite_self]
theorem zwt_n26 {k len : Nat} (P : zwt_P T n e g) (hF : (g.1 68 95) = nI a) (hk : k < 8000) (hl : len ≤ 32) (hae : a + len = e) (hS : (g.2.1 71) k = nI len) : ∀ (m i N : Nat), i + m = len → m + 1 < N →
    ((∀ j, i ≤ j → j < len → (g.2.1 70) (32 * k + j) = zl_g T n (a + j)) → f_Mo_isPathName_L26 g N (nI k) 1 (nI i) = some 1) ∧ ((¬ ∀ j, i ≤ j → j < len → (g.2.1 70) (32 * k + j) = zl_g T n (a + j)) → f_Mo_isPathName_L26 g N (nI k) 1 (nI i) = some 0) := by
  have hn := P.1
  intro m
  induction m with
  | zero =>
    intro i N hi hN
    obtain ⟨N, rfl⟩ : ∃ z, N = z + 1 := ⟨N - 1, by omega⟩
    refine ⟨fun _ => ?_, fun q => absurd (fun j h1 h2 => by omega) q⟩
    show f_Mo_isPathName_26 g (f_Mo_isPathName_L26 g N) (nI k) 1 (nI i) = _
    unfold f_Mo_isPathName_26
    rw [if_pos (zi_in (by omega) (show k < 8192 by omega)), nI_clamp (by omega), hS, if_pos ((nI_leI (by omega) (by omega)).mpr (by omega)), if_pos (show (1 : Int32) = 0 ∨ (1 : Int32) = 1 from .inr rfl)]
  | succ m ih =>
    intro i N hi hN
    obtain ⟨N, rfl⟩ : ∃ z, N = z + 1 := ⟨N - 1, by omega⟩
    have e1 : f_Mo_tapeGreat g (nI a + nI i) = some (zl_g T n (a + i)) := by
      rw [nI_add, zwt_g P (by omega), if_pos (by omega)]
      unfold zl_g
      rw [zl_bT (by omega)]
    have e0 : f_Mo_isPathName_L26 g (N + 1) (nI k) 1 (nI i) = if (g.2.1 70) (32 * k + i) = zl_g T n (a + i) then f_Mo_isPathName_L26 g N (nI k) 1 (nI (i + 1)) else f_Mo_isPathName_L26 g N (nI k) 0 (nI (i + 1)) := by
      show f_Mo_isPathName_26 g (f_Mo_isPathName_L26 g N) (nI k) 1 (nI i) = _
      unfold f_Mo_isPathName_26 f_Mo_isPathName_69
      rw [if_pos (zi_in (by omega) (show k < 8192 by omega)), nI_clamp (n := k) (by omega), hS, if_neg (mt (nI_leI (by omega) (by omega)).mp (by omega)), if_neg (show ¬ (1 : Int32) = 0 by decide), show 32 * nI k = nI (32 * k) from zi_mul 32 k, nI_add (32 * k) i, if_pos (zi_in (by omega) (show 32 * k + i < 262144 by omega)), nI_clamp (by omega), hF, e1, Option.bind_some, nI_1]
    obtain ⟨N, rfl⟩ : ∃ z, N = z + 1 := ⟨N - 1, by omega⟩
    rw [e0]
    obtain ⟨i1, i2⟩ := ih (i + 1) (N + 1) (by omega) (by omega)
    by_cases c : (g.2.1 70) (32 * k + i) = zl_g T n (a + i)
    · rw [if_pos c]
      refine ⟨fun q => i1 (fun j h1 h2 => q j (by omega) h2), fun q => i2 (fun w => q (fun j h1 h2 => ?_))⟩
      by_cases ej : j = i
      · subst ej; exact c
      · exact w j (by omega) h2
    · rw [if_neg c, zwt_n26z (by omega)]
      exact ⟨fun q => absurd (q i (Nat.le_refl _) (by omega)) c, fun _ => rfl⟩
/-- whether a name is the one on the path -/
theorem zwt_isN {k : Nat} (P : zwt_P T n e g) (hF : (g.1 68 95) = nI a) (ha : a ≤ e) (HM : zn_M g LM) (hk : k < LM.length) : f_Mo_isPathName g (nI k) = some (if LM.getD k [] = zl_nm T n a e then 1 else 0) := by
  have hz := zF_big
  have hn := P.1
  obtain ⟨m1, m2, m3⟩ := HM
  obtain ⟨s1, s2, s3⟩ := m3 k hk
  obtain ⟨N, hN⟩ : ∃ N, zF = N + 1 := ⟨zF - 1, by omega⟩
  unfold f_Mo_isPathName f_Mo_isPathName_23
  rw [if_pos (zi_in (by omega) (show k < 8192 by omega)), nI_clamp (by omega), s1, P.2.2.2.2, hF, zi_sub ha]
  by_cases c : (LM.getD k []).length = e - a
  · rw [if_pos (congrArg nI c)]
    obtain ⟨i1, i2⟩ := zwt_n26 (len := (LM.getD k []).length) P hF (by omega) s2 (by omega) s1 (LM.getD k []).length 0 zF (by omega) (by omega)
    have iff : LM.getD k [] = zl_nm T n a e ↔ ∀ j, 0 ≤ j → j < (LM.getD k []).length → (g.2.1 70) (32 * k + j) = zl_g T n (a + j) := by
      constructor
      · intro q j _ hj
        rw [s3 j hj, q, zl_nm_at (by omega)]
      · intro q
        apply List.ext_getElem?
        intro j
        by_cases hj : j < e - a
        · have h1 : j < (LM.getD k []).length := by omega
          have h2 : j < (zl_nm T n a e).length := by rw [zl_nm_len]; exact hj
          have q1 := q j (Nat.zero_le _) h1
          rw [s3 j h1] at q1
          have q2 := zl_nm_at (T := T) (n := n) (a := a) (e := e) (i := j) hj
          rw [List.getD_eq_getElem?_getD, List.getElem?_eq_getElem h1] at q1
          rw [List.getD_eq_getElem?_getD, List.getElem?_eq_getElem h2] at q2
          rw [List.getElem?_eq_getElem h1, List.getElem?_eq_getElem h2]
          exact congrArg some (q1.trans q2.symm)
        · rw [List.getElem?_eq_none (by omega), List.getElem?_eq_none (by rw [zl_nm_len]; omega)]
    by_cases d : LM.getD k [] = zl_nm T n a e
    · rw [if_pos d]; exact i1 (iff.mp d)
    · rw [if_neg d]; exact i2 (mt iff.mpr d)
  · rw [if_neg (fun q => c ((nI_eq (by omega) (by omega)).mp q)), if_neg (fun q => c (by rw [q, zl_nm_len])), hN]
    exact zwt_n26z (by omega)
theorem zwt_scanM {b z : Nat} (hb : b < 2100) (he : z ≤ 8400) (hbd : (if nI b = (g.1 68 33) - 1 then (g.1 68 41) else (g.2.1 90) (b + 1)) = nI z) (p : Nat → Prop) (hp : ∀ j, j < z → (p j → f_Mo_isPathName g ((g.2.1 91) j) = some 1) ∧ (¬ p j → f_Mo_isPathName g ((g.2.1 91) j) = some 0)) : ∀ m v fuel, v + m = z → m < fuel →
    ((∀ j, v ≤ j → j < z → ¬ p j) → f_Mo_variableOnPath_L7 g fuel (nI b) (nI v) = some (-1)) ∧ (∀ j, v ≤ j → j < z → p j → (∀ i, v ≤ i → i < j → ¬ p i) → f_Mo_variableOnPath_L7 g fuel (nI b) (nI v) = some (nI j)) := by
  have eE : f_Mo_endOf g (nI b) = some (nI z) := by
    unfold f_Mo_endOf
    rw [← hbd, nI_1]
    by_cases c : nI b = (g.1 68 33) - 1
    · rw [if_pos c, if_pos c]
    · rw [if_neg c, if_neg c, if_pos (zi_in (by omega) (show b + 1 < 2101 by omega)), nI_clamp (by omega)]
  intro m
  induction m with
  | zero =>
    intro v fuel h1 h2
    obtain ⟨f, rfl⟩ : ∃ f, fuel = f + 1 := ⟨fuel - 1, by omega⟩
    refine ⟨fun _ => ?_, fun j h3 h4 => by omega⟩
    show f_Mo_variableOnPath_7 g (f_Mo_variableOnPath_L7 g f) (nI b) (nI v) = _
    unfold f_Mo_variableOnPath_7
    rw [eE, Option.bind_some, if_pos ((nI_leI (by omega) (by omega)).mpr (by omega))]
  | succ m ih =>
    intro v fuel h1 h2
    obtain ⟨f, rfl⟩ : ∃ f, fuel = f + 1 := ⟨fuel - 1, by omega⟩
    have hi := ih (v + 1) f (by omega) (by omega)
    have e0 : ∀ w : Int32, f_Mo_isPathName g ((g.2.1 91) v) = some w → f_Mo_variableOnPath_L7 g (f + 1) (nI b) (nI v) = if w = 0 then f_Mo_variableOnPath_L7 g f (nI b) (nI (v + 1)) else some (nI v) := fun w ew => by
      show f_Mo_variableOnPath_7 g (f_Mo_variableOnPath_L7 g f) (nI b) (nI v) = _
      unfold f_Mo_variableOnPath_7
      rw [eE, Option.bind_some, if_neg (mt (nI_leI (by omega) (by omega)).mp (by omega)), if_pos (zi_in (by omega) (show v < 8400 by omega)), nI_clamp (by omega), ew, Option.bind_some, nI_1]
    obtain ⟨p1, p2⟩ := hp v (by omega)
    refine ⟨fun q => ?_, fun j h3 h4 h5 h6 => ?_⟩
    · rw [e0 0 (p2 (q v (by omega) (by omega))), if_pos (show (0 : Int32) = 0 from rfl)]
      exact hi.1 fun j h3 h4 => q j (by omega) h4
    · by_cases ej : j = v
      · subst ej; rw [e0 1 (p1 h5), if_neg (show ¬ (1 : Int32) = 0 by decide)]
      · rw [e0 0 (p2 (h6 v (by omega) (by omega))), if_pos (show (0 : Int32) = 0 from rfl)]
        exact hi.2 j (by omega) h4 h5 fun i h7 h8 => h6 i (by omega) h8
end ZWJ
