section
/-! The coder: how the model lays expressions down. -/
abbrev yM_F : List (Nat × Nat) := [(68, 56), (68, 58), (68, 54), (68, 64), (68, 66), (68, 68)]
abbrev yM_M : List Nat := [103, 104, 105, 106, 107, 108, 110, 111]
def yM_f (g0 g : zs_H) : Prop := zfr yM_F yM_M [] g0 g
theorem yM_fE {g0 g g' : zs_H} {s n : Nat} {L : List yJ} (f : yM_f g0 g) (E : yM_E s n L g g') : yM_f g0 g' := zfr_trans f (zfr_w E.2.1 (by decide) (by decide) (by decide))
def yM_c (g : zs_H) (n s u v : Nat) : Prop := ((g.1 68 56) = nI n ∧ s ≤ n) ∧ ((g.1 68 58) = nI u ∧ u < 16 ∧ (g.2.1 103) u = nI s) ∧ (g.1 68 64) = nI v ∧ (g.1 68 54) = nI u
theorem yM_cE {g g' : zs_H} {n s u v : Nat} {L : List yJ} (c : yM_c g n s u v) (E : yM_E s n L g g') : yM_c g' (n + L.length) s u v := by
  obtain ⟨⟨c1, c2⟩, ⟨c3, c4, c5⟩, c6, c7⟩ := c
  obtain ⟨e1, e2, _⟩ := E
  exact ⟨⟨e1, by omega⟩, ⟨(e2.1 _ _ (by decide)).trans c3, c4, by rw [e2.2.1 _ (by decide)]; exact c5⟩, (e2.1 _ _ (by decide)).trans c6, (e2.1 _ _ (by decide)).trans c7⟩
theorem yM_cL {g g' : zs_H} {n s u v : Nat} {L : List yI} (c : yM_c g n s u v) (E : yM_E s n (yv v L) g g') : yM_c g' (n + L.length) s u v := by
  have := yM_cE c E
  rw [yv_len] at this
  exact this
theorem yM_aL {g g1 g2 : zs_H} {n s v : Nat} {L1 L2 : List yI} (A : yM_E s n (yv v L1) g g1) (B : yM_E s (n + L1.length) (yv v L2) g1 g2) : yM_E s n (yv v (L1 ++ L2)) g g2 := by
  rw [yv_ap]
  exact yM_ap A (by rw [yv_len]; exact B)
theorem yM_e {g : zs_H} {n s u v : Nat} (C : yM_c g n s u v) (hn : n < 100000000) (o : Nat) (a b c : Int32) (ho : ¬ (o = 10 ∨ o = 11 ∨ o = 14) ∧ ¬ o = 13) : ∃ g', f_Mo_emit g (nI o) a b c = some (nI (n - s), g') ∧ yM_E s n (yv v [(o, a, b, c)]) g g' := by
  obtain ⟨⟨c1, c2⟩, ⟨c3, c4, c5⟩, c6, c7⟩ := C
  obtain ⟨g', e1, e2⟩ := yM_emit c1 hn c3 (by omega) c5 c2 c6 (o, a, b, c)
  unfold yM_A yM_B at e1
  rw [if_neg ho.1, if_neg ho.2, if_neg ho.2] at e1
  exact ⟨g', e1, e2⟩
section YKM
variable {g0 g : zs_H}
theorem yk_fw (e : ∀ a, ¬ a ∈ yM_M → g.2.1 a = g0.2.1 a) : f_Mo_wordOf_s11 g = f_Mo_wordOf_s11 g0 := by
  funext x
  unfold f_Mo_wordOf_s11 f_Mo_wordOf_s11_L5 f_Mo_wordOf_s11_5 f_Mo_wordOf_s11_L20 f_Mo_wordOf_s11_20 f_Mo_wordOf_s11_78 f_Mo_wordOf_s11_79 f_Mo_wordOf_s11_105
  rw [e 71 (by decide), e 70 (by decide)]
theorem yk_fs (e : ∀ a, ¬ a ∈ yM_M → g.2.1 a = g0.2.1 a) : f_Mo_signCode g = f_Mo_signCode g0 := by
  funext x
  unfold f_Mo_signCode
  rw [e 74 (by decide), e 100 (by decide)]
theorem yk_ft (e : ∀ a, ¬ a ∈ yM_M → g.2.1 a = g0.2.1 a) : f_Mo_oneCode g = f_Mo_oneCode g0 := by
  funext x
  unfold f_Mo_oneCode
  rw [e 74 (by decide), e 100 (by decide)]
theorem yk_fd (e : ∀ a, ¬ a ∈ yM_M → g.2.1 a = g0.2.1 a) : f_Mo_standard g = f_Mo_standard g0 := by
  funext x a b c
  unfold f_Mo_standard f_Mo_standard_83 f_Mo_standard_143 f_Mo_standard_162
  rw [e 76 (by decide), e 100 (by decide), e 102 (by decide)]
theorem yk_f81 (e : ∀ a, ¬ a ∈ yM_M → g.2.1 a = g0.2.1 a) : f_Mo_valueAlone_81 g = f_Mo_valueAlone_81 g0 := by
  funext x a b c
  unfold f_Mo_valueAlone_81
  rw [e 72 (by decide), yk_fd e, yk_ft e]
theorem yk_s29 (e : ∀ a, ¬ a ∈ yM_M → g.2.1 a = g0.2.1 a) {r : zs_H → Int32 → Option Int32} (hr : r g = r g0) : f_Mo_valueOf_29 r g = f_Mo_valueOf_29 r g0 := by
  funext k x y z
  unfold f_Mo_valueOf_29
  rw [e 75 (by decide), e 77 (by decide), hr, yk_fs e]
theorem yk_f29 (e : ∀ a, ¬ a ∈ yM_M → g.2.1 a = g0.2.1 a) {r : zs_H → Int32 → Option Int32} (hr : r g = r g0) (N : Nat) : f_Mo_valueOf_L29 r g N = f_Mo_valueOf_L29 r g0 N := by
  unfold f_Mo_valueOf_L29
  rw [yk_s29 e hr]
theorem yk_s2 (e : ∀ a, ¬ a ∈ yM_M → g.2.1 a = g0.2.1 a) {r q : zs_H → Int32 → Option Int32} (hr : r g = r g0) (hq : q g = q g0) : f_Mo_valueOf_2 q r g = f_Mo_valueOf_2 q r g0 := by
  funext k x y
  unfold f_Mo_valueOf_2
  rw [e 72 (by decide), e 76 (by decide), hq, yk_f29 e hr]
theorem yk_f2 (e : ∀ a, ¬ a ∈ yM_M → g.2.1 a = g0.2.1 a) {r q : zs_H → Int32 → Option Int32} (hr : r g = r g0) (hq : q g = q g0) (N : Nat) : f_Mo_valueOf_L2 q r g N = f_Mo_valueOf_L2 q r g0 N := by
  unfold f_Mo_valueOf_L2
  rw [yk_s2 e hr hq]
theorem yk_fa (e : ∀ a, ¬ a ∈ yM_M → g.2.1 a = g0.2.1 a) {r : zs_H → Int32 → Option Int32} (hr : r g = r g0) : g_Mo_valueAlone r g = g_Mo_valueAlone r g0 := by
  funext x
  unfold g_Mo_valueAlone f_Mo_valueAlone_52 f_Mo_valueAlone_67
  rw [e 76 (by decide), e 78 (by decide), e 74 (by decide), hr, yk_f81 e]
theorem yk_fo (e : ∀ a, ¬ a ∈ yM_M → g.2.1 a = g0.2.1 a) {r q : zs_H → Int32 → Option Int32} (hr : r g = r g0) (hq : q g = q g0) : g_Mo_valueOf q r g = g_Mo_valueOf q r g0 := by
  funext x
  unfold g_Mo_valueOf
  rw [yk_f2 e hr hq]
theorem yk_vs1 (D : Nat) : f_Mo_valueAlone (D + 1) = g_Mo_valueAlone (f_Mo_valueOf D) := by
  unfold f_Mo_valueAlone f_Mo_valueOf zy_Mo_valueAlone
  rw [zd_s]
theorem yk_vs2 (D : Nat) : f_Mo_valueOf (D + 1) = g_Mo_valueOf (f_Mo_valueAlone D) (f_Mo_valueOf D) := by
  unfold f_Mo_valueAlone f_Mo_valueOf zy_Mo_valueAlone
  rw [zd_s]
theorem yk_fv (e : ∀ a, ¬ a ∈ yM_M → g.2.1 a = g0.2.1 a) : ∀ (D : Nat), f_Mo_valueAlone D g = f_Mo_valueAlone D g0 ∧ f_Mo_valueOf D g = f_Mo_valueOf D g0 := by
  intro D
  induction D with
  | zero => exact ⟨rfl, rfl⟩
  | succ D ih =>
    rw [yk_vs1, yk_vs2]
    exact ⟨yk_fa e ih.2, yk_fo e ih.2 ih.1⟩
theorem yk_s133 (e : ∀ a, ¬ a ∈ yM_M → g.2.1 a = g0.2.1 a) {r : zs_H → Int32 → Option Int32} (hr : r g = r g0) : f_Mo_isConstant_133 r g = f_Mo_isConstant_133 r g0 := by
  funext k x
  unfold f_Mo_isConstant_133
  rw [e 78 (by decide), hr]
theorem yk_f133 (e : ∀ a, ¬ a ∈ yM_M → g.2.1 a = g0.2.1 a) {r : zs_H → Int32 → Option Int32} (hr : r g = r g0) (N : Nat) : f_Mo_isConstant_L133 r g N = f_Mo_isConstant_L133 r g0 N := by
  unfold f_Mo_isConstant_L133
  rw [yk_s133 e hr]
theorem yk_f126 (e : ∀ a, ¬ a ∈ yM_M → g.2.1 a = g0.2.1 a) {r : zs_H → Int32 → Option Int32} (hr : r g = r g0) : f_Mo_isConstant_126 r g = f_Mo_isConstant_126 r g0 := by
  funext x
  unfold f_Mo_isConstant_126
  rw [e 76 (by decide), yk_f133 e hr]
theorem yk_sL2 (e : ∀ a, ¬ a ∈ yM_M → g.2.1 a = g0.2.1 a) {r : zs_H → Int32 → Option Int32} (hr : r g = r g0) : f_Mo_isConstant_2 r g = f_Mo_isConstant_2 r g0 := by
  funext k x
  unfold f_Mo_isConstant_2 f_Mo_isConstant_52
  rw [e 72 (by decide), e 76 (by decide), e 77 (by decide), e 74 (by decide), hr, (yk_fv e 400).2, yk_fw e, yk_f126 e hr]
theorem yk_fL2 (e : ∀ a, ¬ a ∈ yM_M → g.2.1 a = g0.2.1 a) {r : zs_H → Int32 → Option Int32} (hr : r g = r g0) (N : Nat) : f_Mo_isConstant_L2 r g N = f_Mo_isConstant_L2 r g0 N := by
  unfold f_Mo_isConstant_L2
  rw [yk_sL2 e hr]
theorem yk_fi (e : ∀ a, ¬ a ∈ yM_M → g.2.1 a = g0.2.1 a) : ∀ (D : Nat), f_Mo_isConstant D g = f_Mo_isConstant D g0 := by
  intro D
  induction D with
  | zero => rfl
  | succ D ih =>
    funext x
    rw [yk_ic]
    unfold g_Mo_isConstant
    rw [yk_fL2 e ih]
end YKM
/-- the model codes the node k, on the way up to top -/
def yk_M (g0 : zs_H) (u : Nat) (Q : Nat → Prop) (dl k : Nat) (L : List yI) : Prop := ∀ (D n s v N top : Nat) (g : zs_H), yM_f g0 g → yM_c g n s u v → n + L.length ≤ 90000000 → 3 * dl + 2 ≤ D → top < 33500 → ¬ Q top → dl < N → ∃ g' N2, zF ≤ N2 + dl ∧ f_Mo_expressionCode_L2 (f_Mo_expressionCode D) (f_Mo_operandCode D) N g (nI top) (nI k) = f_Mo_expressionCode_L36 (f_Mo_expressionCode D) N2 g' (nI top) (nI k) ∧ yM_E s n (yv v L) g g'
section YKN
variable {g0 g : zs_H} {u dl k : Nat} {Q Q1 Q2 : Nat → Prop} {L L1 L2 : List yI}
theorem yk_uE {D N : Nat} {x y : Int32} : f_Mo_expressionCode_L2 (f_Mo_expressionCode D) (f_Mo_operandCode D) (N + 1) g x y = f_Mo_expressionCode_2 (f_Mo_expressionCode D) (f_Mo_operandCode D) (f_Mo_expressionCode_L2 (f_Mo_expressionCode D) (f_Mo_operandCode D) N) g x y := rfl
theorem yk_u36 {D N : Nat} {x y : Int32} : f_Mo_expressionCode_L36 (f_Mo_expressionCode D) (N + 1) g x y = f_Mo_expressionCode_36 (f_Mo_expressionCode D) (f_Mo_expressionCode_L36 (f_Mo_expressionCode D) N) g x y := rfl
theorem yk_M1 {D n s v : Nat} (hd : dl < 100000) (hk : k < 33500) (hQ : ¬ Q k) (H : yk_M g0 u Q dl k L) (f : yM_f g0 g) (c : yM_c g n s u v) (hn : n + L.length ≤ 90000000) (hD : 3 * dl + 2 < D) : ∃ g', f_Mo_expressionCode D g (nI k) = some g' ∧ yM_E s n (yv v L) g g' := by
  obtain ⟨D, rfl⟩ : ∃ z, D = z + 1 := ⟨D - 1, by omega⟩
  have hz := zF_big
  obtain ⟨g', N2, a1, a2, a3⟩ := H D n s v zF k g f c hn (by omega) hk hQ (by omega)
  obtain ⟨N2, rfl⟩ : ∃ z, N2 = z + 1 := ⟨N2 - 1, by omega⟩
  refine ⟨g', ?_, a3⟩
  show g_Mo_expressionCode (f_Mo_expressionCode D) (f_Mo_operandCode D) g (nI k) = _
  unfold g_Mo_expressionCode
  rw [a2, yk_u36]
  unfold f_Mo_expressionCode_36
  rw [if_pos rfl]
theorem yk_M0 (hk : k < 33500) (hc : ¬ (g0.2.1 72) k = 35 ∨ f_Mo_isConstant 400 g0 (nI k) = some 1) (O : ∀ (D n s v : Nat) (g : zs_H), yM_f g0 g → yM_c g n s u v → n + L.length ≤ 90000000 → 3 * dl + 2 ≤ D → ∃ g', f_Mo_operandCode D g (nI k) = some g' ∧ yM_E s n (yv v L) g g') : yk_M g0 u Q dl k L := by
  intro D n s v N top g f c hn hD ht hQ hN
  obtain ⟨N, rfl⟩ : ∃ z, N = z + 1 := ⟨N - 1, by omega⟩
  obtain ⟨g', o1, o2⟩ := O D n s v g f c hn hD
  refine ⟨g', zF, by omega, ?_, o2⟩
  have e31 : f_Mo_expressionCode_31 (f_Mo_expressionCode D) (f_Mo_operandCode D) g (nI top) (nI k) = f_Mo_expressionCode_L36 (f_Mo_expressionCode D) zF g' (nI top) (nI k) := by
    unfold f_Mo_expressionCode_31
    rw [o1, Option.bind_some]
  rw [yk_uE]
  unfold f_Mo_expressionCode_2
  rw [if_pos (zi_in (by omega) hk), nI_clamp (show k < 2147483648 by omega), f.2.1 72 (by decide), e31]
  rcases hc with z | z
  · rw [if_neg z]
  · rw [yk_fi f.2.1, z, Option.bind_some, if_neg (show ¬ (1 : Int32) = 0 by decide), ite_self]
theorem yk_oS (D : Nat) : f_Mo_operandCode (D + 1) g (nI k) = g_Mo_operandCode (f_Mo_callCode D) (f_Mo_expressionCode D) g (nI k) := rfl
theorem yk_Mc {w : Int32} (hk : k < 33500) (c1 : f_Mo_isConstant 400 g0 (nI k) = some 1) (c2 : f_Mo_valueOf 400 g0 (nI k) = some w) : yk_M g0 u Q dl k [(0, w, 0, 0)] := by
  refine yk_M0 hk (.inr c1) ?_
  intro D n s v g f c hn hD
  obtain ⟨D, rfl⟩ : ∃ z, D = z + 1 := ⟨D - 1, by omega⟩
  have hn' : n + 1 ≤ 90000000 := hn
  obtain ⟨g', e1, e2⟩ := yM_e c (by omega) 0 w 0 0 (by decide)
  refine ⟨g', ?_, e2⟩
  rw [yk_oS]
  unfold g_Mo_operandCode
  rw [yk_fi f.2.1, c1, Option.bind_some, if_neg (by decide), (yk_fv f.2.1 400).2, c2, Option.bind_some]
  exact (congrArg (fun z => zd_B z _) e1).trans rfl
theorem yk_M6 {km x : Nat} (hk : k < 33500) (hkm : km = 6 ∨ km = 33) (m1 : (g0.2.1 72) k = nI km) (c1 : f_Mo_isConstant 400 g0 (nI k) = some 0) (m2 : (g0.2.1 101) k = nI x) : yk_M g0 u Q dl k [(1, nI x, 0, 0)] := by
  refine yk_M0 hk (.inl (by rw [m1]; rcases hkm with rfl | rfl <;> decide)) ?_
  intro D n s v g f c hn hD
  obtain ⟨D, rfl⟩ : ∃ z, D = z + 1 := ⟨D - 1, by omega⟩
  have hn' : n + 1 ≤ 90000000 := hn
  obtain ⟨g', e1, e2⟩ := yM_e c (by omega) 1 (nI x) 0 0 (by decide)
  refine ⟨g', ?_, e2⟩
  rw [yk_oS]
  unfold g_Mo_operandCode
  rw [yk_fi f.2.1, c1, Option.bind_some, if_pos rfl]
  simp only [if_pos (zi_in (show k < 2147483648 by omega) hk), nI_clamp (show k < 2147483648 by omega), f.2.1 72 (by decide), f.2.1 101 (by decide), m2]
  rcases hkm with rfl | rfl
  · rw [m1, if_pos (by decide)]
    exact (congrArg (fun z => zd_B z _) e1).trans rfl
  · rw [m1, if_neg (by decide), if_neg (by decide), if_pos (by decide)]
    exact (congrArg (fun z => zd_B z _) e1).trans rfl
theorem yk_M36 {k1 dl1 : Nat} {cd : Int32} (hk : k < 33500) (hk1 : k1 < 33500) (hd1 : dl1 < dl) (hdl : dl < 10000) (m1 : (g0.2.1 72) k = 36) (c1 : f_Mo_isConstant 400 g0 (nI k) = some 0) (m2 : (g0.2.1 76) k = nI k1) (es : f_Mo_oneCode g0 (nI k) = some cd) (hQ1 : ¬ Q1 k1) (A : yk_M g0 u Q1 dl1 k1 L) : yk_M g0 u Q dl k (L ++ [(8, cd, 0, 0)]) := by
  refine yk_M0 hk (.inl (by rw [m1]; decide)) ?_
  intro D n s v g f c hn hD
  rw [List.length_append] at hn
  have hn' : n + (L.length + 1) ≤ 90000000 := hn
  obtain ⟨D, rfl⟩ : ∃ z, D = z + 1 := ⟨D - 1, by omega⟩
  obtain ⟨g1, a1, a2⟩ := yk_M1 (D := D) (by omega) hk1 hQ1 A f c (by omega) (by omega)
  have f1 := yM_fE f a2
  obtain ⟨g', e1, e2⟩ := yM_e (yM_cL c a2) (by omega) 8 cd 0 0 (by decide)
  refine ⟨g', ?_, yM_aL a2 e2⟩
  rw [yk_oS]
  unfold g_Mo_operandCode
  rw [yk_fi f.2.1, c1, Option.bind_some, if_pos rfl]
  simp only [if_pos (zi_in (show k < 2147483648 by omega) hk), nI_clamp (show k < 2147483648 by omega), f.2.1 72 (by decide), f.2.1 76 (by decide), m2]
  rw [m1, if_neg (by decide), if_neg (by decide), if_neg (by decide), if_pos rfl, a1, Option.bind_some, yk_ft f1.2.1, es, Option.bind_some]
  exact (congrArg (fun z => zd_B z _) e1).trans rfl
theorem yk_M32 {k1 dl1 x w : Nat} (hk : k < 33500) (hk1 : k1 < 33500) (hd1 : dl1 < dl) (hdl : dl < 10000) (m1 : (g0.2.1 72) k = 32) (c1 : f_Mo_isConstant 400 g0 (nI k) = some 0) (m2 : (g0.2.1 76) k = nI k1) (hv : ∀ g, yM_f g0 g → f_Mo_variable g (nI u) ((g0.2.1 74) k) = some (nI w)) (hw : w < 8400) (m3 : (g0.2.1 101) k = nI x) (hQ1 : ¬ Q1 k1) (A : yk_M g0 u Q1 dl1 k1 L) : yk_M g0 u Q dl k (L ++ [(3, nI x, (g0.2.1 97) w, (g0.2.1 98) w)]) := by
  refine yk_M0 hk (.inl (by rw [m1]; decide)) ?_
  intro D n s v g f c hn hD
  rw [List.length_append] at hn
  have hn' : n + (L.length + 1) ≤ 90000000 := hn
  obtain ⟨D, rfl⟩ : ∃ z, D = z + 1 := ⟨D - 1, by omega⟩
  obtain ⟨g1, a1, a2⟩ := yk_M1 (D := D) (by omega) hk1 hQ1 A f c (by omega) (by omega)
  have f1 := yM_fE f a2
  have f1' : ∀ a, ¬ a ∈ yM_M → g1.2.1 a = g0.2.1 a := fun a ha => f1.2.1 a ha
  obtain ⟨g', e1, e2⟩ := yM_e (yM_cL c a2) (by omega) 3 (nI x) ((g0.2.1 97) w) ((g0.2.1 98) w) (by decide)
  refine ⟨g', ?_, yM_aL a2 e2⟩
  rw [yk_oS]
  unfold g_Mo_operandCode
  rw [yk_fi f.2.1, c1, Option.bind_some, if_pos rfl]
  simp only [if_pos (zi_in (show k < 2147483648 by omega) hk), nI_clamp (show k < 2147483648 by omega), f.2.1 72 (by decide), f.2.1 76 (by decide), f.2.1 74 (by decide), m2, c.2.2.2, hv g f]
  rw [m1, if_neg (by decide), if_pos rfl, Option.bind_some, a1, Option.bind_some, if_pos (zi_in (by omega) hw), nI_clamp (show w < 2147483648 by omega), f1' 101 (by decide), f1' 97 (by decide), f1' 98 (by decide), m3]
  exact (congrArg (fun z => zd_B z _) e1).trans rfl
theorem yk_M35 {k1 k2 dl1 dl2 : Nat} {cd : Int32} (hk : k < 33500) (hk1 : k1 < 33500) (hk2 : k2 < 33500) (hd1 : dl1 < dl) (hd2 : dl2 < dl) (hdl : dl < 10000) (m1 : (g0.2.1 72) k = 35) (c1 : f_Mo_isConstant 400 g0 (nI k) = some 0) (m2 : (g0.2.1 76) k = nI k1) (m3 : (g0.2.1 75) k1 = nI k) (m4 : (g0.2.1 77) k = nI k2) (hQ : ∀ j, Q1 j → Q j) (hQ1 : Q k1) (hQ2 : ¬ Q2 k2) (es : f_Mo_signCode g0 (nI k) = some cd) (A : yk_M g0 u Q1 dl1 k1 L1) (B : yk_M g0 u Q2 dl2 k2 L2) : yk_M g0 u Q dl k (L1 ++ (L2 ++ [(7, cd, 0, 0)])) := by
  have hz := zF_big
  intro D n s v N top g f c hn hD ht hQt hN
  rw [List.length_append, List.length_append] at hn
  have hn' : n + (L1.length + (L2.length + 1)) ≤ 90000000 := hn
  obtain ⟨N, rfl⟩ : ∃ z, N = z + 1 := ⟨N - 1, by omega⟩
  obtain ⟨g1, N2, b1, b2, b3⟩ := A D n s v N top g f c (by omega) (by omega) ht (fun z => hQt (hQ _ z)) (by omega)
  obtain ⟨N2, rfl⟩ : ∃ z, N2 = z + 1 + 1 := ⟨N2 - 2, by omega⟩
  have f1 := yM_fE f b3
  have f1' : ∀ a, ¬ a ∈ yM_M → g1.2.1 a = g0.2.1 a := fun a ha => f1.2.1 a ha
  obtain ⟨g2, d1, d2⟩ := yk_M1 (D := D) (by omega) hk2 hQ2 B f1 (yM_cL c b3) (by omega) (by omega)
  have f2 := yM_fE f1 d2
  obtain ⟨g', e1, e2⟩ := yM_e (yM_cL (yM_cL c b3) d2) (by omega) 7 cd 0 0 (by decide)
  have hne : ¬ nI k1 = nI top := fun z => hQt (by rw [← (nI_eq (by omega) (by omega)).mp z]; exact hQ1)
  refine ⟨g', N2 + 1, by omega, ?_, yM_aL b3 (yM_aL d2 e2)⟩
  rw [yk_uE]
  unfold f_Mo_expressionCode_2
  rw [if_pos (zi_in (by omega) hk), nI_clamp (show k < 2147483648 by omega), f.2.1 72 (by decide), m1, if_pos rfl, yk_fi f.2.1, c1, Option.bind_some, if_pos rfl, f.2.1 76 (by decide), m2, b2, yk_u36]
  unfold f_Mo_expressionCode_36
  simp only [if_neg hne, if_pos (zi_in (show k1 < 2147483648 by omega) hk1), nI_clamp (show k1 < 2147483648 by omega), f1' 75 (by decide), m3, if_pos (zi_in (show k < 2147483648 by omega) hk), nI_clamp (show k < 2147483648 by omega), f1' 77 (by decide), m4]
  rw [d1, Option.bind_some, yk_fs f2.2.1, es, Option.bind_some]
  exact (congrArg (fun z => zd_B z _) e1).trans rfl
end YKN
end
section
/-! The coder: how the model lays calls down. -/
def yk_N (g0 : zs_H) (u dl : Nat) : List (List yI) → Int32 → Prop
  | [], x => x = -1
  | L :: Ls, x => ∃ (k : Nat) (Q : Nat → Prop), k < 33500 ∧ x = nI k ∧ ¬ Q k ∧ yk_M g0 u Q dl k L ∧ yk_N g0 u dl Ls ((g0.2.1 78) k)
section YKO
variable {g0 g : zs_H} {u dl k : Nat} {Q : Nat → Prop}
theorem yk_uA {D N : Nat} {x1 x3 x4 x5 x6 : Int32} : f_Mo_callCode_L53 (f_Mo_expressionCode D) (N + 1) g x1 x3 x4 x5 x6 = f_Mo_callCode_53 (f_Mo_expressionCode D) (f_Mo_callCode_L53 (f_Mo_expressionCode D) N) g x1 x3 x4 x5 x6 := rfl
/-- what stands behind the arguments -/
def yk_tm (D : Nat) (g : zs_H) (x1 x3 x4 x5 : Int32) : Option zs_H := f_Mo_callCode_53 (f_Mo_expressionCode D) (fun _ _ _ _ _ _ => none) g x1 x3 x4 x5 (-1)
theorem yk_te {D : Nat} {x1 x3 x4 x5 : Int32} {K : zs_H → Int32 → Int32 → Int32 → Int32 → Int32 → Option zs_H} : f_Mo_callCode_53 (f_Mo_expressionCode D) K g x1 x3 x4 x5 (-1) = yk_tm D g x1 x3 x4 x5 := by
  unfold yk_tm f_Mo_callCode_53
  rw [if_pos (show (-1 : Int32) < 0 by decide), if_pos (show (-1 : Int32) < 0 by decide)]
/-- an argument -/
theorem yk_ts {D N t kk : Nat} {x1 x3 x4 : Int32} {g1 : zs_H} (hk : kk < 33500) (h3 : ¬ (x3 = 3 ∧ t = 1)) (ht : t < 100000) (f1 : yM_f g0 g1) (E : f_Mo_expressionCode D g (nI kk) = some g1) : f_Mo_callCode_L53 (f_Mo_expressionCode D) (N + 1) g x1 x3 x4 (nI t) (nI kk) = f_Mo_callCode_L53 (f_Mo_expressionCode D) N g1 x1 x3 x4 (nI (t + 1)) ((g0.2.1 78) kk) := by
  have e89 : ∀ y, f_Mo_callCode_89 (f_Mo_expressionCode D) (f_Mo_callCode_L53 (f_Mo_expressionCode D) N) g1 x1 x3 x4 y (nI kk) = f_Mo_callCode_L53 (f_Mo_expressionCode D) N g1 x1 x3 x4 y ((g0.2.1 78) kk) := by
    intro y
    unfold f_Mo_callCode_89
    rw [if_pos (zi_in (by omega) hk), nI_clamp (show kk < 2147483648 by omega), f1.2.1 78 (by decide)]
  rw [yk_uA]
  unfold f_Mo_callCode_53
  rw [if_neg (nI_pos (by omega)), E, Option.bind_some, nI_1, e89]
  by_cases z : x3 = 3
  · rw [if_pos z, if_neg (mt (zc_eq (k := 2) (by decide) (by omega)).mp (fun q => h3 ⟨z, by omega⟩))]
  · rw [if_neg z]
theorem yk_tt {D N kk : Nat} {x1 x4 w : Int32} {g1 g2 : zs_H} (hk : kk < 33500) (f2 : yM_f g0 g2) (E : f_Mo_expressionCode D g (nI kk) = some g1) (E2 : f_Mo_emit g1 (nI 7) 24 0 0 = some (w, g2)) : f_Mo_callCode_L53 (f_Mo_expressionCode D) (N + 1) g x1 (nI 3) x4 (nI 1) (nI kk) = f_Mo_callCode_L53 (f_Mo_expressionCode D) N g2 x1 (nI 3) x4 (nI 2) ((g0.2.1 78) kk) := by
  have e89 : ∀ y, f_Mo_callCode_89 (f_Mo_expressionCode D) (f_Mo_callCode_L53 (f_Mo_expressionCode D) N) g2 x1 (nI 3) x4 y (nI kk) = f_Mo_callCode_L53 (f_Mo_expressionCode D) N g2 x1 (nI 3) x4 y ((g0.2.1 78) kk) := by
    intro y
    unfold f_Mo_callCode_89
    rw [if_pos (zi_in (by omega) hk), nI_clamp (show kk < 2147483648 by omega), f2.2.1 78 (by decide)]
  rw [yk_uA]
  unfold f_Mo_callCode_53
  rw [if_neg (nI_pos (by omega)), E, Option.bind_some, if_pos (show nI 3 = 3 from rfl), nI_1, if_pos (show nI (1 + 1) = 2 from rfl)]
  refine (congrArg (fun z => zd_B z _) E2).trans ?_
  exact e89 _
/-- arguments one after the other -/
theorem yk_tr {x1 x3 x4 : Int32} (h3 : ¬ x3 = 3) (hdl : dl < 10000) : ∀ (Ls : List (List yI)) (x : Int32) (g : zs_H) (n s v D t N : Nat), yk_N g0 u dl Ls x → yM_f g0 g → yM_c g n s u v → n + (yx_s Ls).length ≤ 90000000 → (Ls = [] ∨ 3 * dl + 2 < D) → t + Ls.length < 90000 → Ls.length < N → ∃ g', f_Mo_callCode_L53 (f_Mo_expressionCode D) N g x1 x3 x4 (nI t) x = yk_tm D g' x1 x3 x4 (nI (t + Ls.length)) ∧ yM_E s n (yv v (yx_s Ls)) g g' := by
  intro Ls
  induction Ls with
  | nil =>
    intro x g n s v D t N H f c hn hD ht hN
    obtain ⟨N, rfl⟩ : ∃ z, N = z + 1 := ⟨N - 1, by omega⟩
    refine ⟨g, ?_, yM_nil c.1.1⟩
    rw [yk_uA, show x = -1 from H, yk_te]
    rfl
  | cons L Ls ih =>
    intro x g n s v D t N H f c hn hD ht hN
    have hD := hD.resolve_left (fun z => by cases z)
    obtain ⟨kk, Q, k1, k2, k3, A, H⟩ := H
    have hn' : n + (L ++ yx_s Ls).length ≤ 90000000 := hn
    rw [List.length_append] at hn'
    have ht' : t + (Ls.length + 1) < 90000 := ht
    have hN' : Ls.length + 1 < N := hN
    obtain ⟨N, rfl⟩ : ∃ z, N = z + 1 := ⟨N - 1, by omega⟩
    obtain ⟨g1, a1, a2⟩ := yk_M1 (by omega) k1 k3 A f c (by omega) hD
    have f1 := yM_fE f a2
    obtain ⟨g2, b1, b2⟩ := ih _ g1 _ s v D (t + 1) N H f1 (yM_cL c a2) (by omega) (.inr hD) (by omega) (by omega)
    refine ⟨g2, ?_, yM_aL a2 b2⟩
    rw [k2, yk_ts k1 (fun q => h3 q.1) (by omega) f1 a1, b1, show t + 1 + Ls.length = t + (L :: Ls).length from by show _ = t + (Ls.length + 1); omega]
theorem yk_fin (e : ∀ a, ¬ a ∈ yM_M → g.2.1 a = g0.2.1 a) : f_Mo_input g = f_Mo_input g0 := by
  funext x y
  unfold f_Mo_input f_Mo_input_L10 f_Mo_input_10 f_Mo_input_25 f_Mo_input_42
  rw [e 90 (by decide), e 95 (by decide)]
/-- the inputs are written, the last one first -/
theorem yk_tw {b : Nat} {il : List Nat} (hk : k < 33500) (hb : b < 600) (mm : (g0.2.1 102) k = nI b) (hin : ∀ j w, il[j]? = some w → f_Mo_input g0 (nI b) (nI j) = some (nI w) ∧ w < 8400) : ∀ (j : Nat) (g : zs_H) (n s v N : Nat), j ≤ il.length → il.length < 90000 → yM_f g0 g → yM_c g n s u v → n + j + 2 ≤ 90000000 → j < N → ∃ g', f_Mo_callCode_L286 N g (nI k) (nI j - 1) = some g' ∧ yM_E s n (yv v (((il.take j).reverse.map (fun w => ((6, nI b, (g0.2.1 94) w, 0) : yI))) ++ [(16, nI b, 0, 0), (5, nI b, 0, 0)])) g g' := by
  intro j
  induction j with
  | zero =>
    intro g n s v N hj hil f c hn hN
    obtain ⟨N, rfl⟩ : ∃ z, N = z + 1 := ⟨N - 1, by omega⟩
    have f' : ∀ a, ¬ a ∈ yM_M → g.2.1 a = g0.2.1 a := fun a ha => f.2.1 a ha
    obtain ⟨g1, a1, a2⟩ := yM_e c (by omega) 16 (nI b) 0 0 (by decide)
    have f1 := yM_fE f a2
    obtain ⟨g2, b1, b2⟩ := yM_e (yM_cL c a2) (show n + 1 < 100000000 by omega) 5 (nI b) 0 0 (by decide)
    refine ⟨g2, ?_, show yM_E s n (yv v ([(16, nI b, 0, 0)] ++ [(5, nI b, 0, 0)])) g g2 from yM_aL a2 b2⟩
    show f_Mo_callCode_286 (f_Mo_callCode_L286 N) g (nI k) (nI 0 - 1) = _
    unfold f_Mo_callCode_286
    simp only [if_pos (show nI 0 - 1 < 0 by decide), if_pos (zi_in (show k < 2147483648 by omega) hk), nI_clamp (show k < 2147483648 by omega), f' 102 (by decide), mm]
    refine (congrArg (fun z => zd_B z _) a1).trans ?_
    show zd_B (f_Mo_emit g1 5 ((g1.2.1 102) k) 0 0) _ = _
    rw [f1.2.1 102 (by decide), mm]
    exact (congrArg (fun z => zd_B z _) b1).trans rfl
  | succ j ih =>
    intro g n s v N hj hil f c hn hN
    obtain ⟨N, rfl⟩ : ∃ z, N = z + 1 := ⟨N - 1, by omega⟩
    have f' : ∀ a, ¬ a ∈ yM_M → g.2.1 a = g0.2.1 a := fun a ha => f.2.1 a ha
    have hw : il[j]? = some il[j] := List.getElem?_eq_getElem (by omega)
    obtain ⟨w1, w2⟩ := hin j _ hw
    obtain ⟨g1, a1, a2⟩ := yM_e c (by omega) 6 (nI b) ((g0.2.1 94) il[j]) 0 (by decide)
    have f1 := yM_fE f a2
    obtain ⟨g2, b1, b2⟩ := ih g1 (n + 1) s v N (by omega) hil f1 (yM_cL c a2) (by omega) (by omega)
    refine ⟨g2, ?_, ?_⟩
    · show f_Mo_callCode_286 (f_Mo_callCode_L286 N) g (nI k) (nI (j + 1) - 1) = _
      unfold f_Mo_callCode_286
      rw [zc_sb (k := 1) (by omega), show j + 1 - OfNat.ofNat 1 = j from Nat.add_sub_cancel j 1, if_neg (nI_pos (by omega))]
      simp only [if_pos (zi_in (show k < 2147483648 by omega) hk), nI_clamp (show k < 2147483648 by omega), f' 102 (by decide), mm, yk_fin f', w1, Option.bind_some, if_pos (zi_in (show il[j] < 2147483648 by omega) w2), nI_clamp (show il[j] < 2147483648 by omega), f' 94 (by decide)]
      refine (congrArg (fun z => zd_B z _) a1).trans ?_
      show f_Mo_callCode_L286 N g1 (nI k) (nI j + (-1)) = _
      rw [← Int32.sub_eq_add_neg]
      exact b1
    · rw [List.take_add_one, hw]
      show yM_E s n (yv v (((il.take j ++ [il[j]]).reverse.map _) ++ _)) g g2
      rw [List.reverse_append, List.map_append, List.append_assoc]
      exact (show yM_E s n (yv v ([(6, nI b, (g0.2.1 94) il[j], 0)] ++ _)) g g2 from yM_aL a2 b2)
theorem yk_oC {D : Nat} (f : yM_f g0 g) (hk : k < 33500) (m1 : (g0.2.1 72) k = 34) (c1 : f_Mo_isConstant 400 g0 (nI k) = some 0) : f_Mo_operandCode (D + 1 + 1) g (nI k) = ((f_Mo_wordOf_s11 g0 ((g0.2.1 74) k)).bind fun v3 => (if 0 ≤ (g0.2.1 76) k then (if zd_in ((g0.2.1 76) k) 33500 then f_Mo_callCode_40 (f_Mo_expressionCode D) g (nI k) v3 ((g0.2.1 100) ((g0.2.1 76) k).toNatClampNeg) else none) else f_Mo_callCode_40 (f_Mo_expressionCode D) g (nI k) v3 (-1))).bind some := by
  have f' : ∀ a, ¬ a ∈ yM_M → g.2.1 a = g0.2.1 a := fun a ha => f.2.1 a ha
  rw [yk_oS]
  unfold g_Mo_operandCode
  rw [yk_fi f', c1, Option.bind_some, if_pos rfl]
  simp only [if_pos (zi_in (show k < 2147483648 by omega) hk), nI_clamp (show k < 2147483648 by omega), f' 72 (by decide)]
  rw [m1, if_neg (by decide), if_neg (by decide), if_neg (by decide), if_neg (by decide)]
  show (g_Mo_callCode (f_Mo_expressionCode D) g (nI k)).bind _ = _
  unfold g_Mo_callCode
  simp only [if_pos (zi_in (show k < 2147483648 by omega) hk), nI_clamp (show k < 2147483648 by omega), f' 74 (by decide), f' 76 (by decide), f' 100 (by decide), yk_fw f']
theorem yk_40 {D : Nat} {x3 y : Int32} (f : yM_f g0 g) (hk : k < 33500) : f_Mo_callCode_40 (f_Mo_expressionCode D) g (nI k) x3 y = f_Mo_callCode_L53 (f_Mo_expressionCode D) zF g (nI k) x3 y (nI 0) ((g0.2.1 76) k) := by
  unfold f_Mo_callCode_40
  rw [if_pos (zi_in (by omega) hk), nI_clamp (show k < 2147483648 by omega), f.2.1 76 (by decide)]
  rfl
theorem yk_M34 {b dl1 : Nat} {il : List Nat} {Ls : List (List yI)} (hk : k < 33500) (hd1 : Ls = [] ∨ dl1 < dl) (hd2 : dl1 < 9000) (hdl : dl < 10000) (m1 : (g0.2.1 72) k = 34) (c1 : f_Mo_isConstant 400 g0 (nI k) = some 0) (ew : f_Mo_wordOf_s11 g0 ((g0.2.1 74) k) = some (-1)) (hb : b < 600) (mm : (g0.2.1 102) k = nI b) (hin : ∀ j w, il[j]? = some w → f_Mo_input g0 (nI b) (nI j) = some (nI w) ∧ w < 8400) (hil : il.length = Ls.length) (hil2 : il.length < 80000) (A : yk_N g0 u dl1 Ls ((g0.2.1 76) k)) : yk_M g0 u Q dl k (yx_call b (il.reverse.map (fun w => (g0.2.1 94) w)) (yx_s Ls)) := by
  have hz := zF_big
  refine yk_M0 hk (.inl (by rw [m1]; decide)) ?_
  intro D n s v g f c hn hD
  have hn' : n + (yx_s Ls).length + il.length + 2 ≤ 90000000 := by
    unfold yx_call at hn
    rw [List.length_append, List.length_append, List.length_map, List.length_map, List.length_reverse] at hn
    have : n + ((yx_s Ls).length + (il.length + 2)) ≤ 90000000 := hn
    omega
  obtain ⟨D, rfl⟩ : ∃ z, D = z + 1 + 1 := ⟨D - 2, by omega⟩
  obtain ⟨x4, e0⟩ : ∃ x4, f_Mo_operandCode (D + 1 + 1) g (nI k) = (f_Mo_callCode_L53 (f_Mo_expressionCode D) zF g (nI k) (-1) x4 (nI 0) ((g0.2.1 76) k)).bind some := by
    rw [yk_oC f hk m1 c1, ew, Option.bind_some]
    cases Ls with
    | nil =>
      refine ⟨-1, ?_⟩
      rw [← yk_40 f hk, if_neg (by rw [show (g0.2.1 76) k = -1 from A]; decide)]
    | cons L Ls =>
      obtain ⟨kk, Q', q1, q2, _⟩ := A
      refine ⟨(g0.2.1 100) kk, ?_⟩
      rw [← yk_40 f hk, q2, if_pos ((zc_le (k := 0) (by decide) (by omega)).mpr (by omega)), if_pos (zi_in (by omega) q1), nI_clamp (show kk < 2147483648 by omega)]
  obtain ⟨g1, a1, a2⟩ := yk_tr (x1 := nI k) (x3 := -1) (x4 := x4) (by decide) (by omega) Ls _ g n s v D 0 zF A f c (by omega) (hd1.imp id (fun z => by omega)) (by omega) (by omega)
  have f1 := yM_fE f a2
  obtain ⟨g2, b1, b2⟩ := yk_tw hk hb mm hin il.length g1 _ s v zF (Nat.le_refl _) (by omega) f1 (yM_cL c a2) (by omega) (by omega)
  refine ⟨g2, ?_, ?_⟩
  · rw [e0, a1]
    unfold yk_tm f_Mo_callCode_53
    rw [if_pos (by decide), if_neg (by decide), if_neg (by decide), if_neg (by decide), if_neg (by decide), if_neg (by decide), if_neg (by decide), if_neg (by decide), if_neg (by decide), if_neg (by decide), if_neg (by decide), Nat.zero_add, ← hil, b1]
    rfl
  · rw [List.take_length] at b2
    have := yM_aL a2 b2
    unfold yx_call
    rw [List.map_map]
    exact this
/-- what a standard function ends with -/
theorem yk_ti {D st n s v ty : Nat} {x1 x4 x5 : Int32} (c : yM_c g n s u v) (hn : n < 100000000) (hs : st < 10) (ht : ty < 3) (h4 : st = 0 ∨ st = 5 ∨ st = 6 → x4 = nI ty) : ∃ g', yk_tm D g x1 (nI st) x4 x5 = some g' ∧ yM_E s n (yv v (if st = 4 then [(9, 0, 0, 0)] else if st = 8 then [] else if st = 3 then [(7, 23, 0, 0)] else [(if ya_ar st = 1 then 8 else 7, f_Cd_standardKind (nI st) (nI ty), 0, 0)])) g g' := by
  have cs : st = 0 ∨ st = 1 ∨ st = 2 ∨ st = 3 ∨ st = 4 ∨ st = 5 ∨ st = 6 ∨ st = 7 ∨ st = 8 ∨ st = 9 := by omega
  have one : ∀ (o : Nat) (a : Int32), (o = 7 ∨ o = 8 ∨ o = 9) → ∃ g', f_Mo_emit g (nI o) a 0 0 = some (nI (n - s), g') ∧ yM_E s n (yv v [(o, a, 0, 0)]) g g' := fun o a ho => yM_e c hn o a 0 0 (by omega)
  unfold yk_tm f_Mo_callCode_53 f_Mo_callCode_170 f_Mo_callCode_236
  rw [if_pos (show (-1 : Int32) < 0 by decide)]
  have kd : ∀ ty, ty < 3 → f_Cd_standardKind (nI 0) (nI ty) = (if ty = 1 then 4 else 5) ∧ f_Cd_standardKind (nI 5) (nI ty) = (if ty = 1 then 19 else 21) ∧ f_Cd_standardKind (nI 6) (nI ty) = (if ty = 1 then 20 else 22) ∧ f_Cd_standardKind (nI 1) (nI ty) = 23 ∧ f_Cd_standardKind (nI 2) (nI ty) = 24 ∧ f_Cd_standardKind (nI 7) (nI ty) = 6 ∧ f_Cd_standardKind (nI 9) (nI ty) = 7 := by decide
  obtain ⟨k0, k5, k6, k1, k2, k7, k9⟩ := kd ty ht
  rcases cs with rfl | rfl | rfl | rfl | rfl | rfl | rfl | rfl | rfl | rfl
  · rw [if_pos (show nI 0 = 0 from rfl), h4 (by decide), if_neg (show ¬ 0 = 4 by decide), if_neg (show ¬ 0 = 8 by decide), if_neg (show ¬ 0 = 3 by decide), k0]
    by_cases z : ty = 1
    · obtain ⟨g', e1, e2⟩ := one 8 4 (by decide)
      rw [if_pos ((zc_eq (k := 1) (by decide) (by omega)).mpr z), if_pos z]
      exact ⟨g', (congrArg (fun z => zd_B z _) e1).trans rfl, e2⟩
    · obtain ⟨g', e1, e2⟩ := one 8 5 (by decide)
      rw [if_neg (mt (zc_eq (k := 1) (by decide) (by omega)).mp z), if_neg z]
      exact ⟨g', (congrArg (fun z => zd_B z _) e1).trans rfl, e2⟩
  · obtain ⟨g', e1, e2⟩ := one 7 23 (by decide)
    rw [if_neg (by decide), if_pos (by decide), if_neg (by decide), if_neg (by decide), if_neg (by decide), k1]
    exact ⟨g', (congrArg (fun z => zd_B z _) e1).trans rfl, e2⟩
  · obtain ⟨g', e1, e2⟩ := one 7 24 (by decide)
    rw [if_neg (by decide), if_neg (by decide), if_pos (by decide), if_neg (by decide), if_neg (by decide), if_neg (by decide), k2]
    exact ⟨g', (congrArg (fun z => zd_B z _) e1).trans rfl, e2⟩
  · obtain ⟨g', e1, e2⟩ := one 7 23 (by decide)
    rw [if_neg (by decide), if_neg (by decide), if_neg (by decide), if_pos (by decide), if_neg (by decide), if_neg (by decide), if_pos rfl]
    exact ⟨g', (congrArg (fun z => zd_B z _) e1).trans rfl, e2⟩
  · obtain ⟨g', e1, e2⟩ := one 9 0 (by decide)
    rw [if_neg (by decide), if_neg (by decide), if_neg (by decide), if_neg (by decide), if_pos (by decide), if_pos rfl]
    exact ⟨g', (congrArg (fun z => zd_B z _) e1).trans rfl, e2⟩
  · rw [if_neg (by decide), if_neg (by decide), if_neg (by decide), if_neg (by decide), if_neg (by decide), if_pos (by decide), h4 (by decide), if_neg (show ¬ 5 = 4 by decide), if_neg (show ¬ 5 = 8 by decide), if_neg (show ¬ 5 = 3 by decide), k5]
    by_cases z : ty = 1
    · obtain ⟨g', e1, e2⟩ := one 7 19 (by decide)
      rw [if_pos ((zc_eq (k := 1) (by decide) (by omega)).mpr z), if_pos z]
      exact ⟨g', (congrArg (fun z => zd_B z _) e1).trans rfl, e2⟩
    · obtain ⟨g', e1, e2⟩ := one 7 21 (by decide)
      rw [if_neg (mt (zc_eq (k := 1) (by decide) (by omega)).mp z), if_neg z]
      exact ⟨g', (congrArg (fun z => zd_B z _) e1).trans rfl, e2⟩
  · rw [if_neg (by decide), if_neg (by decide), if_neg (by decide), if_neg (by decide), if_neg (by decide), if_neg (by decide), if_pos (by decide), h4 (by decide), if_neg (show ¬ 6 = 4 by decide), if_neg (show ¬ 6 = 8 by decide), if_neg (show ¬ 6 = 3 by decide), k6]
    by_cases z : ty = 1
    · obtain ⟨g', e1, e2⟩ := one 7 20 (by decide)
      rw [if_pos ((zc_eq (k := 1) (by decide) (by omega)).mpr z), if_pos z]
      exact ⟨g', (congrArg (fun z => zd_B z _) e1).trans rfl, e2⟩
    · obtain ⟨g', e1, e2⟩ := one 7 22 (by decide)
      rw [if_neg (mt (zc_eq (k := 1) (by decide) (by omega)).mp z), if_neg z]
      exact ⟨g', (congrArg (fun z => zd_B z _) e1).trans rfl, e2⟩
  · obtain ⟨g', e1, e2⟩ := one 8 6 (by decide)
    rw [if_neg (by decide), if_neg (by decide), if_neg (by decide), if_neg (by decide), if_neg (by decide), if_neg (by decide), if_neg (by decide), if_pos (by decide), if_neg (by decide), if_neg (by decide), if_neg (by decide), k7]
    exact ⟨g', (congrArg (fun z => zd_B z _) e1).trans rfl, e2⟩
  · rw [if_neg (by decide), if_neg (by decide), if_neg (by decide), if_neg (by decide), if_neg (by decide), if_neg (by decide), if_neg (by decide), if_neg (by decide), if_pos (by decide), if_neg (by decide), if_pos rfl]
    exact ⟨g, rfl, yM_nil c.1.1⟩
  · obtain ⟨g', e1, e2⟩ := one 8 7 (by decide)
    rw [if_neg (by decide), if_neg (by decide), if_neg (by decide), if_neg (by decide), if_neg (by decide), if_neg (by decide), if_neg (by decide), if_neg (by decide), if_neg (by decide), if_pos (by decide), if_neg (by decide), if_neg (by decide), if_neg (by decide), k9]
    exact ⟨g', (congrArg (fun z => zd_B z _) e1).trans rfl, e2⟩
theorem yk_M39 {st ty dl1 ka : Nat} {Ls : List (List yI)} (hk : k < 33500) (hd1 : dl1 < dl) (hdl : dl < 10000) (m1 : (g0.2.1 72) k = 34) (c1 : f_Mo_isConstant 400 g0 (nI k) = some 0) (hs : st < 10) (ew : f_Mo_wordOf_s11 g0 ((g0.2.1 74) k) = some (nI st)) (ht : ty < 3) (ka1 : ka < 33500) (ka2 : (g0.2.1 76) k = nI ka) (h4 : st = 0 ∨ st = 5 ∨ st = 6 → (g0.2.1 100) ka = nI ty) (hl : Ls.length = ya_ar st) (A : yk_N g0 u dl1 Ls ((g0.2.1 76) k)) : yk_M g0 u Q dl k (yx_t st (f_Cd_standardKind (nI st) (nI ty)) Ls) := by
  have hz : zF = 18446744073709551612 + 1 + 1 + 1 + 1 := rfl
  have hzb := zF_big
  refine yk_M0 hk (.inl (by rw [m1]; decide)) ?_
  intro D n s v g f c hn hD
  obtain ⟨D, rfl⟩ : ∃ z, D = z + 1 + 1 := ⟨D - 2, by omega⟩
  have e0 : f_Mo_operandCode (D + 1 + 1) g (nI k) = (f_Mo_callCode_L53 (f_Mo_expressionCode D) zF g (nI k) (nI st) ((g0.2.1 100) ka) (nI 0) ((g0.2.1 76) k)).bind some := by
    rw [yk_oC f hk m1 c1, ew, Option.bind_some, ← yk_40 f hk, ka2, if_pos ((zc_le (k := 0) (by decide) (by omega)).mpr (by omega)), if_pos (zi_in (by omega) ka1), nI_clamp (show ka < 2147483648 by omega)]
  rw [e0]
  have hars : ∀ s, s < 10 → (ya_ar s = 1 → s = 0 ∨ s = 7 ∨ s = 8 ∨ s = 9) ∧ (ya_ar s = 2 → s = 1 ∨ s = 2 ∨ s = 5 ∨ s = 6) ∧ (ya_ar s = 3 → s = 3 ∨ s = 4) ∧ 1 ≤ ya_ar s ∧ ya_ar s ≤ 3 := by decide
  obtain ⟨r1, r2, r3, r4, r5⟩ := hars st hs
  by_cases h3 : st = 3
  · subst h3
    match Ls, hl, A, hn with
    | [], hl, A, hn => exact absurd hl (by decide)
    | [a], hl, A, hn => exact absurd hl (show ¬ 1 = 3 by decide)
    | [a, b], hl, A, hn => exact absurd hl (show ¬ 2 = 3 by decide)
    | a :: b :: c' :: d :: es, hl, A, hn => exact absurd hl (by show ¬ es.length + 1 + 1 + 1 + 1 = 3; omega)
    | [a, b, c'], hl, A, hn =>
      obtain ⟨i1, Q1, j1, j2, j3, C1, i2, Q2, w1, w2, w3, C2, i3, Q3, u1, u2, u3, C3, L1⟩ := A
      have hab : (a ++ (b ++ [((7, 24, 0, 0) : yI)])).length = a.length + (b.length + 1) := by rw [List.length_append, List.length_append]; rfl
      have hn' : n + ((a ++ (b ++ [((7, 24, 0, 0) : yI)])).length + (c'.length + 1)) ≤ 90000000 := by
        have : n + ((a ++ (b ++ [((7, 24, 0, 0) : yI)])) ++ (c' ++ [((7, 23, 0, 0) : yI)])).length ≤ 90000000 := hn
        rw [List.length_append, List.length_append (as := c')] at this; exact this
      obtain ⟨g1, a1, a2⟩ := yk_M1 (D := D) (by omega) j1 j3 C1 f c (by omega) (by omega)
      have f1 := yM_fE f a2
      obtain ⟨g2, b1, b2⟩ := yk_M1 (D := D) (by omega) w1 w3 C2 f1 (yM_cL c a2) (by omega) (by omega)
      have f2 := yM_fE f1 b2
      obtain ⟨g3, d1, d2⟩ := yM_e (yM_cL (yM_cL c a2) b2) (by omega) 7 24 0 0 (by decide)
      have f3 := yM_fE f2 d2
      have A3 := yM_aL a2 (yM_aL b2 d2)
      obtain ⟨g4, p1, p2⟩ := yk_M1 (D := D) (by omega) u1 u3 C3 f3 (yM_cL c A3) (by omega) (by omega)
      have f4 := yM_fE f3 p2
      obtain ⟨g5, q1, q2⟩ := yk_ti (D := D) (x1 := nI k) (x4 := (g0.2.1 100) ka) (x5 := nI 3) (st := 3) (yM_cL (yM_cL c A3) p2) (by omega) hs ht h4
      refine ⟨g5, ?_, ?_⟩
      · rw [j2, hz, yk_ts j1 (by omega) (by omega) f1 a1, w2, yk_tt w1 f3 b1 d1, u2, yk_ts u1 (by omega) (by omega) f4 p1, show (g0.2.1 78) i3 = -1 from L1, yk_uA, yk_te, q1]
        rfl
      · rw [if_neg (by decide), if_neg (by decide), if_pos rfl] at q2
        exact yM_aL A3 (yM_aL p2 q2)
  · have hn1 : n + (yx_s Ls).length ≤ 90000000 ∧ ((yx_t st (f_Cd_standardKind (nI st) (nI ty)) Ls) = yx_s Ls ++ (if st = 4 then [(9, 0, 0, 0)] else if st = 8 then [] else if st = 3 then [(7, 23, 0, 0)] else [(if ya_ar st = 1 then 8 else 7, f_Cd_standardKind (nI st) (nI ty), 0, 0)])) := by
      have key : (yx_t st (f_Cd_standardKind (nI st) (nI ty)) Ls) = yx_s Ls ++ (if st = 4 then [(9, 0, 0, 0)] else if st = 8 then [] else if st = 3 then [(7, 23, 0, 0)] else [(if ya_ar st = 1 then 8 else 7, f_Cd_standardKind (nI st) (nI ty), 0, 0)]) := by
        match Ls, hl with
        | [], hl => exact absurd hl (by show ¬ 0 = _; omega)
        | [a], hl =>
          have := r1 hl.symm
          show (if st = 8 then a else a ++ [(8, _, 0, 0)]) = (a ++ []) ++ _
          rw [if_neg (show ¬ st = 4 by omega), if_neg h3, if_pos (show ya_ar st = 1 from hl.symm), List.append_nil]
          split
          · rw [List.append_nil]
          · rfl
        | [a, b], hl =>
          have := r2 hl.symm
          show a ++ (b ++ [(7, _, 0, 0)]) = (a ++ (b ++ [])) ++ _
          rw [if_neg (show ¬ st = 4 by omega), if_neg (show ¬ st = 8 by omega), if_neg h3, if_neg (show ¬ ya_ar st = 1 by rw [← hl]; show ¬ 2 = 1; decide), List.append_nil, List.append_assoc]
        | [a, b, c'], hl =>
          have h4' : st = 4 := (r3 hl.symm).resolve_left h3
          show (if st = 3 then _ else a ++ (b ++ (c' ++ [(9, 0, 0, 0)]))) = (a ++ (b ++ (c' ++ []))) ++ _
          rw [if_neg h3, if_pos h4', List.append_nil, List.append_assoc, List.append_assoc]
        | a :: b :: c' :: d :: es, hl => exact absurd hl (by show ¬ es.length + 1 + 1 + 1 + 1 = _; omega)
      refine ⟨?_, key⟩
      rw [key, List.length_append] at hn
      omega
    obtain ⟨g1, a1, a2⟩ := yk_tr (x1 := nI k) (x3 := nI st) (x4 := (g0.2.1 100) ka) (fun q => h3 ((zc_eq (k := 3) (by decide) (by omega)).mp q)) (by omega) Ls _ g n s v D 0 zF A f c hn1.1 (.inr (by omega)) (by omega) (by omega)
    obtain ⟨g2, q1, q2⟩ := yk_ti (D := D) (x1 := nI k) (x4 := (g0.2.1 100) ka) (x5 := nI (0 + Ls.length)) (yM_cL c a2) (by omega) hs ht h4
    refine ⟨g2, by rw [a1, q1]; rfl, ?_⟩
    rw [hn1.2]
    exact yM_aL a2 q2
end YKO
end
section
/-! BOOLs: which cells hold them, and what code leaves on the stack. -/
/-- a cell of standard block B that holds a BOOL -/
def yq_sB (B t : Nat) : Prop := ∃ v, v < 32 ∧ zj_sv B ≤ v ∧ v < zj_sv (B + 1) ∧ zj_t v 4 = nI t ∧ zj_t v 3 = 0
/-- the cells of block b that hold BOOLs; LD: the blocks whose own cells do -/
def yq_B (LD : Nat → Prop) (h : zs_H) : Nat → Nat → Nat → Prop
  | 0, _, _ => False
  | n + 1, b, j => ((h.2.1 21) (9 + b) = 3 ∧ j < 768) ∨ (LD b ∧ ∃ y x, (h.2.1 25) (9 + b) = nI y ∧ (h.2.1 26) (9 + b) = nI x ∧ y ≤ j ∧ j < x ∧ x < 100000) ∨ ∃ f e v x s, ((h.2.1 23) (9 + b) = nI f ∧ (h.2.1 24) (9 + b) = nI e ∧ f ≤ 32 + v ∧ 32 + v < e ∧ e < 10000) ∧ ((h.2.1 32) (32 + v) = nI x ∧ x < 100000) ∧ ((h.2.1 34) (32 + v) = nI s ∧ s < 100000) ∧ (x ≤ j ∧ j < x + s) ∧ ((((h.2.1 30) (32 + v) = -1 ∨ (h.2.1 30) (32 + v) = -2) ∧ (h.2.1 31) (32 + v) = 0) ∨ ∃ B, ((h.2.1 30) (32 + v) = nI B ∧ B < 700) ∧ ((B < 9 ∧ yq_sB B (j - x)) ∨ (9 ≤ B ∧ B < 9 + b ∧ yq_B LD h n (B - 9) (j - x))))
/-- .. of block u; 1000 + u: all cells of block u -/
def yq_b (LD : Nat → Prop) (h : zs_H) (u j : Nat) : Prop := if u < 1000 then yq_B LD h (u + 1) u j else ∃ s : Nat, (h.2.1 26) (9 + (u - 1000)) = nI s ∧ s < 100000 ∧ j < s
theorem yq_bd {LD : Nat → Prop} {h : zs_H} {u j : Nat} (hu : u < 1000) : yq_b LD h u j ↔ yq_B LD h (u + 1) u j := by
  unfold yq_b
  rw [if_pos hu]
/-- whether TWO leaves a BOOL -/
def yo_2 (k : Int32) (p q : Prop) : Prop := (13 ≤ k ∧ k ≤ 18) ∨ ((k = 10 ∨ k = 11 ∨ k = 12) ∧ p ∧ q)
section YOW
variable (Bc : Nat → Nat → Prop) (b : Nat)
/-- one instruction: what must hold before, so that K holds of the stack behind it; of each number it is said whether it is a BOOL -/
def yo_w (i : yI) (K : List Prop → Prop) (st : List Prop) : Prop :=
  if i.1 = 0 then K ((i.2.1 = 0 ∨ i.2.1 = 1) :: st)
  else if i.1 = 1 then K (Bc b i.2.1.toNatClampNeg :: st)
  else if i.1 = 2 then (match st with
    | p :: S => (Bc b i.2.1.toNatClampNeg → p) ∧ K S
    | [] => False)
  else if i.1 = 3 then (match st with
    | _ :: S => K ((∀ j : Nat, j < i.2.2.2.toNatClampNeg → Bc b (i.2.1.toNatClampNeg + j)) :: S)
    | [] => False)
  else if i.1 = 4 then (match st with
    | p :: _ :: S => (∀ j : Nat, j < i.2.2.2.toNatClampNeg → Bc b (i.2.1.toNatClampNeg + j) → p) ∧ K S
    | _ => False)
  else if i.1 = 5 then K (Bc i.2.1.toNatClampNeg i.2.2.1.toNatClampNeg :: st)
  else if i.1 = 6 then (match st with
    | p :: S => (Bc i.2.1.toNatClampNeg i.2.2.1.toNatClampNeg → p) ∧ K S
    | [] => False)
  else if i.1 = 7 then (match st with
    | q :: p :: S => K (yo_2 i.2.1 p q :: S)
    | _ => False)
  else if i.1 = 8 then (match st with
    | _ :: S => K ((i.2.1 = 2 ∨ i.2.1 = 7) :: S)
    | [] => False)
  else if i.1 = 9 then (match st with
    | q :: p :: _ :: S => K ((p ∧ q) :: S)
    | _ => False)
  else if i.1 = 15 then (∀ j : Nat, Bc (1000 + i.2.1.toNatClampNeg) j → (Bc b (i.2.2.1.toNatClampNeg + j) ↔ Bc i.2.1.toNatClampNeg j)) ∧ K st
  else if i.1 = 17 then (∀ j : Nat, j < (zt_2.getD i.2.1.toNatClampNeg 0).toNatClampNeg → (Bc b (i.2.2.1.toNatClampNeg + j) ↔ yq_sB i.2.1.toNatClampNeg j)) ∧ K st
  else K st
def yo_W : List yI → (List Prop → Prop) → List Prop → Prop
  | [], K => K
  | i :: L, K => yo_w Bc b i (yo_W L K)
theorem yo_Wap : ∀ (A B : List yI) (K : List Prop → Prop) (st : List Prop), yo_W Bc b (A ++ B) K st = yo_W Bc b A (yo_W Bc b B K) st := by
  intro A
  induction A with
  | nil => intro B K st; rfl
  | cons i A ih =>
    intro B K st
    show yo_w Bc b i (yo_W Bc b (A ++ B) K) st = yo_w Bc b i (yo_W Bc b A (yo_W Bc b B K)) st
    rw [show yo_W Bc b (A ++ B) K = yo_W Bc b A (yo_W Bc b B K) from funext fun s => ih B K s]
/-- code that leaves one number, a BOOL if φ -/
def yo_E (φ : Prop) (L : List yI) : Prop := ∀ (K : List Prop → Prop) (st : List Prop), (∀ p : Prop, (φ → p) → K (p :: st)) → yo_W Bc b L K st
end YOW
section YOE
variable {Bc : Nat → Nat → Prop} {b : Nat} {φ ψ χ ω : Prop} {La Lb Lc L : List yI} {i : yI}
theorem yo_Em (h : ψ → φ) (A : yo_E Bc b φ L) : yo_E Bc b ψ L := fun K st H => A K st fun p hp => H p fun z => hp (h z)
theorem yo_E0 {v : Int32} (h : φ → v = 0 ∨ v = 1) : yo_E Bc b φ [(0, v, 0, 0)] := fun K st H => by
  show K ((v = 0 ∨ v = 1) :: st)
  exact H _ h
theorem yo_E1 {x : Nat} (hx : x < 2147483648) (h : φ → Bc b x) : yo_E Bc b φ [(1, nI x, 0, 0)] := fun K st H => by
  show K (Bc b (nI x).toNatClampNeg :: st)
  rw [nI_clamp hx]
  exact H _ h
theorem yo_E3 {x s : Nat} {lo le : Int32} (hx : x < 2147483648) (hs : s < 2147483648) (hl : le = nI s) (A : yo_E Bc b ψ La) (h : φ → ∀ j, j < s → Bc b (x + j)) : yo_E Bc b φ (La ++ [(3, nI x, lo, le)]) := fun K st H => by
  subst hl
  rw [yo_Wap]
  refine A _ _ fun p _ => ?_
  show K ((∀ j : Nat, j < (nI s).toNatClampNeg → Bc b ((nI x).toNatClampNeg + j)) :: st)
  rw [nI_clamp hx, nI_clamp hs]
  exact H _ h
theorem yo_E8 {k : Int32} (A : yo_E Bc b ψ La) (h : φ → k = 2 ∨ k = 7) : yo_E Bc b φ (La ++ [(8, k, 0, 0)]) := fun K st H => by
  rw [yo_Wap]
  refine A _ _ fun p _ => ?_
  show K ((k = 2 ∨ k = 7) :: st)
  exact H _ h
theorem yo_E7 {k : Int32} (A : yo_E Bc b ψ La) (B : yo_E Bc b χ Lb) (h : φ → (13 ≤ k ∧ k ≤ 18) ∨ ((k = 10 ∨ k = 11 ∨ k = 12) ∧ ψ ∧ χ)) : yo_E Bc b φ (La ++ (Lb ++ [(7, k, 0, 0)])) := fun K st H => by
  rw [yo_Wap]
  refine A _ _ fun p hp => ?_
  rw [yo_Wap]
  refine B _ _ fun q hq => ?_
  show K (yo_2 k p q :: st)
  refine H _ fun z => ?_
  rcases h z with w | ⟨w1, w2, w3⟩
  · exact .inl w
  · exact .inr ⟨w1, hp w2, hq w3⟩
theorem yo_E9 (A : yo_E Bc b ω La) (B : yo_E Bc b ψ Lb) (D : yo_E Bc b χ Lc) (h : φ → ψ ∧ χ) : yo_E Bc b φ (La ++ (Lb ++ (Lc ++ [(9, 0, 0, 0)]))) := fun K st H => by
  rw [yo_Wap]
  refine A _ _ fun p0 _ => ?_
  rw [yo_Wap]
  refine B _ _ fun p hp => ?_
  rw [yo_Wap]
  refine D _ _ fun q hq => ?_
  show K ((p ∧ q) :: st)
  exact H _ fun z => ⟨hp (h z).1, hq (h z).2⟩
end YOE
end
section
/-! The coder: what is known of an expression's code. -/
/-- how many numbers an instruction takes from the stack, how many it lays there -/
def yo_t (o : Nat) : Nat := [0, 0, 1, 1, 2, 0, 1, 2, 1, 3, 0, 1].getD o 0
def yo_l (o : Nat) : Nat := [1, 1, 0, 1, 0, 1, 0, 1, 1, 1].getD o 0
/-- how high the stack is behind a row of instructions -/
def yo_h : Nat → List yI → Option Nat
  | d, [] => some d
  | d, i :: L => if yo_t i.1 ≤ d then yo_h (d - yo_t i.1 + yo_l i.1) L else none
theorem yo_ap : ∀ (A B : List yI) (d : Nat), yo_h d (A ++ B) = (yo_h d A).bind fun e => yo_h e B := by
  intro A
  induction A with
  | nil => intro B d; rfl
  | cons i A ih =>
    intro B d
    show (if yo_t i.1 ≤ d then yo_h (d - yo_t i.1 + yo_l i.1) (A ++ B) else none) = (if yo_t i.1 ≤ d then yo_h (d - yo_t i.1 + yo_l i.1) A else none).bind _
    split
    · exact ih B _
    · rfl
theorem yo_1 {A B : List yI} {d e : Nat} (h : yo_h d A = some e) : yo_h d (A ++ B) = yo_h e B := by rw [yo_ap, h]; rfl
/-- an instruction of an expression of block b: its numbers are in their bounds -/
def yo_i (X : Nat → Nat) (fn : Nat → Prop) (b : Nat) (i : yI) : Prop :=
  i.1 = 0 ∨ i.1 = 9 ∨ (i.1 = 1 ∧ ∃ x, i.2.1 = nI x ∧ x < X b) ∨ (i.1 = 3 ∧ ∃ x s, i.2.1 = nI x ∧ i.2.2.2 = nI s ∧ x + s ≤ X b) ∨ (i.1 = 5 ∧ i.2.2.1 = 0 ∧ ∃ u, i.2.1 = nI u ∧ u < b ∧ fn u) ∨ (i.1 = 6 ∧ ∃ u x, i.2.1 = nI u ∧ i.2.2.1 = nI x ∧ u < b ∧ fn u ∧ x < X u) ∨ (i.1 = 7 ∧ ∃ k, i.2.1 = nI k ∧ k < 25) ∨ (i.1 = 8 ∧ ∃ k, i.2.1 = nI k ∧ k < 8) ∨ (i.1 = 16 ∧ ∃ u, i.2.1 = nI u ∧ u < b ∧ fn u)
def yk_e (X : Nat → Nat) (fn : Nat → Prop) (b : Nat) (L : List yI) : Prop := (∀ d, yo_h d L = some (d + 1)) ∧ ∀ i, i ∈ L → yo_i X fn b i
/-- all blocks have been judged -/
def yk_cx (LC LM : List (List Int32)) (nb : Nat) (F X Y : Nat → Nat) (h0 g0 : zs_H) : Prop := zv_I LC LM nb nb (F nb) F (-1) h0 g0 ∧ zv_si (F nb) h0 ∧ ∀ b, b < nb → (X b ≤ 30000 ∧ Y b ≤ X b ∧ Y b ≤ 4096) ∧ (h0.2.1 26) (9 + b) = nI (X b) ∧ (g0.2.1 88) b = nI (X b) ∧ (h0.2.1 25) (9 + b) = nI (Y b) ∧ ((h0.2.1 21) (9 + b) = 3 → 960 ≤ Y b) ∧ ∀ v, F b ≤ v → v < F (b + 1) → zv_lv (F b) ((h0.2.1 21) (9 + b)) v h0 ∧ ((h0.2.1 21) (9 + b) = 1 → (h0.2.1 30) (32 + v) = -1 ∨ (h0.2.1 30) (32 + v) = -2)
section YKX
variable {LC LM : List (List Int32)} {nb b v : Nat} {F X Y : Nat → Nat} {h0 g0 : zs_H}
theorem yk_Q (C : yk_cx LC LM nb F X Y h0 g0) (hb : b < nb) (h1 : F b ≤ v) (h2 : v < F (b + 1)) : ∃ ty x s, (ty < 3 ∧ (h0.2.1 31) (32 + v) = nI ty) ∧ ((h0.2.1 32) (32 + v) = nI x ∧ (g0.2.1 94) v = nI x) ∧ ((h0.2.1 34) (32 + v) = nI s ∧ (g0.2.1 98) v = nI s) ∧ (g0.2.1 97) v = (h0.2.1 33) (32 + v) ∧ (g0.2.1 99) v = (h0.2.1 35) (32 + v) ∧ (x + s ≤ Y b ∧ v < 5900) ∧ (((h0.2.1 30) (32 + v) = -1 ∧ (g0.2.1 92) v = 0 ∧ (g0.2.1 93) v = nI ty ∧ s = 1) ∨ ((h0.2.1 30) (32 + v) = -2 ∧ (g0.2.1 92) v = 1 ∧ (g0.2.1 93) v = nI ty ∧ 1 ≤ s ∧ s ≤ 256) ∨ (∃ B, B < 9 + b ∧ (h0.2.1 30) (32 + v) = nI B ∧ (g0.2.1 92) v = 2 ∧ (g0.2.1 93) v = nI (if B < 9 then 100000 + B else B - 9) ∧ (9 ≤ B → (h0.2.1 21) B = 2) ∧ (h0.2.1 26) B = nI s)) := by
  obtain ⟨I, si, K⟩ := C
  obtain ⟨⟨k1, k2, k3⟩, k4, k5, k6, k7⟩ := K b hb
  have hF := I.2.1.2.2.2.1 b hb
  have V3 : F nb ≤ 5900 := I.2.1.2.1.2.2
  obtain ⟨ty, x, s, y, q1, q2, q3, q4, q5, q6, q7, q8, q9⟩ := I.2.2.2.1.2.1 b v hb h1 h2 (by omega)
  have ey : y = Y b := (nI_eq (by omega) (by omega)).mp (q4.symm.trans k6)
  refine ⟨ty, x, s, q1, q2, q3, q6, q7, ⟨?_, by omega⟩, q8⟩
  rcases q9 with ⟨_, z, _⟩ | ⟨p, p1, _, p3, p4, p5, p6⟩
  · omega
  · have := (zv_pcC p p1 p5).2
    have := k7.1 p3
    omega
theorem yk_T9 : ∀ B, B < 9 → zt_2.getD B 0 = nI (zt_2.getD B 0).toNatClampNeg ∧ (zt_2.getD B 0).toNatClampNeg < 100 ∧ ∀ v, v < 32 → zj_sv B ≤ v → v < zj_sv (B + 1) → zp_tN v 4 < (zt_2.getD B 0).toNatClampNeg := by decide +kernel
/-- a pin lies in its block -/
theorem yk_pin {Fb : Nat → Nat} {B cv s : Nat} (C : yk_cx LC LM nb F X Y h0 g0) (hb : b < nb) (hF : ∀ j, j ≤ b + 1 → Fb j = F j) (hB : B < 9 + b) (zB : zi_B Fb B cv) (hs : (h0.2.1 29) cv = 1 ∨ (h0.2.1 29) cv = 2) (ec : (h0.2.1 26) B = nI s) (hs2 : s ≤ 30000) : ∃ off, (h0.2.1 32) cv = nI off ∧ off < s ∧ cv < 6000 := by
  unfold zi_B at zB
  by_cases h9 : B < 9
  · rw [if_pos h9] at zB
    have r := zp_T5 B h9
    have hv : cv < 32 := by omega
    obtain ⟨t1, t2, t3⟩ := yk_T9 B h9
    obtain ⟨_, _, _, o4, o5, _⟩ := zp_T3 cv hv
    obtain ⟨ST1, ST2⟩ := C.1.2.1.2.2.1
    have e := (ST1 B h9).2.2.2
    rw [ec, t1] at e
    have es : s = (zt_2.getD B 0).toNatClampNeg := (nI_eq (by omega) (by omega)).mp e
    exact ⟨zp_tN cv 4, by rw [(ST2 cv hv).2.2.2.2]; exact o5, by rw [es]; exact t3 cv hv zB.1 zB.2, by omega⟩
  · rw [if_neg h9, hF _ (by omega), hF _ (by omega)] at zB
    obtain ⟨v, rfl⟩ : ∃ v, cv = 32 + v := ⟨cv - 32, by omega⟩
    have hb' : B - 9 < nb := by omega
    have e9 : 9 + (B - 9) = B := by omega
    have B3 : nb ≤ 568 := C.1.2.1.1.2.2
    have hFF := C.1.2.1.2.2.2.1 (B - 9) hb'
    have V3 : F nb ≤ 5900 := C.1.2.1.2.1.2.2
    obtain ⟨ty, x, s', q1, q2, q3, _, _, q6, q7⟩ := yk_Q C hb' (show F (B - 9) ≤ v by omega) (show v < F (B - 9 + 1) by omega)
    have i1 := C.2.1 v (by omega) hs
    have e1 : s' = 1 := by
      rcases q7 with ⟨_, _, _, e⟩ | ⟨e, _⟩ | ⟨B', hB', e, _⟩
      · exact e
      · rw [i1] at e; exact absurd e (by decide)
      · rw [i1] at e; exact absurd e.symm (zc_m1 (by omega))
    obtain ⟨⟨k1, k2, k3⟩, k4, _⟩ := C.2.2 (B - 9) hb'
    rw [e9, ec] at k4
    have es : s = X (B - 9) := (nI_eq (by omega) (by omega)).mp k4
    exact ⟨x, q2.1, by omega, by omega⟩
/-- what is known of the type of an expression's code -/
def yk_ty (h0 : zs_H) (b i : Nat) (L : List yI) : Prop := (∀ LD : Nat → Prop, yo_E (yq_b LD h0) b ((h0.2.1 14) i = 0) L) ∧ (zv_kc h0 i → (h0.2.1 14) i = 0 → (h0.2.1 16) i = 0 ∨ (h0.2.1 16) i = 1)
/-- all expressions of a forest -/
def yk_X (h0 g0 : zs_H) (X : Nat → Nat) (b : Nat) : zt_T → (Nat → Prop) → Int32 → Int32 → List (List yI) → Prop
  | .leaf, _, x, x', Ls => x = -1 ∧ x' = -1 ∧ Ls = []
  | .inner _ _ _ l r, Q, x, x', Ls => ∃ (i k : Nat) (Q1 Q2 : Nat → Prop) (L : List yI) (Lr : List (List yI)), Ls = L :: Lr ∧ (i < 32784 ∧ x = nI i) ∧ (Q k ∧ k < 33500 ∧ x' = nI k) ∧ (∀ j, Q1 j → Q j ∧ ¬ j = k) ∧ (∀ j, Q2 j → Q j) ∧ (yk_C h0 (zg_d l) (nI i) L ∧ yk_M g0 b Q1 (zg_d l) k L) ∧ ((L.length + 1 ≤ 6 * (1 + zt_sz l) ∧ yk_ty h0 b i L) ∧ yk_e X (fun u => (h0.2.1 21) (9 + u) = 1) b L) ∧ yk_X h0 g0 X b r Q2 ((h0.2.1 18) i) ((g0.2.1 78) k) Lr
theorem yk_Cm {dl dl2 : Nat} {x : Int32} {L : List yI} (h : dl ≤ dl2) (A : yk_C h0 dl x L) : yk_C h0 dl2 x L := fun D d n h' f e hn hD hd => A D d n h' f e hn (by omega) (by omega)
theorem yk_Mm {dl dl2 k : Nat} {Q : Nat → Prop} {L : List yI} (h : dl ≤ dl2) (A : yk_M g0 b Q dl k L) : yk_M g0 b Q dl2 k L := fun D n s v N top g f c hn hD ht hQ hN => by
  obtain ⟨g', N2, a1, a2, a3⟩ := A D n s v N top g f c hn (by omega) ht hQ (by omega)
  exact ⟨g', N2, by omega, a2, a3⟩
theorem yk_Xl : ∀ (t : zt_T) (Q : Nat → Prop) (x x' : Int32) (Ls : List (List yI)) (D : Nat), yk_X h0 g0 X b t Q x x' Ls → zg_d t ≤ D + 1 → yk_L h0 D Ls x ∧ yk_N g0 b D Ls x' ∧ Ls.length = zt_ln t ∧ (yx_s Ls).length + Ls.length ≤ 6 * zt_sz t ∧ (∀ d, yo_h d (yx_s Ls) = some (d + Ls.length)) ∧ ∀ i, i ∈ yx_s Ls → yo_i X (fun u => (h0.2.1 21) (9 + u) = 1) b i := by
  intro t
  induction t with
  | leaf =>
    intro Q x x' Ls D ⟨e1, e2, e3⟩ _
    subst e3
    exact ⟨e1, e2, rfl, Nat.le_refl _, fun d => rfl, fun i hi => by cases hi⟩
  | inner kd kv o l r _ ihr =>
    intro Q x x' Ls D ⟨i, k, Q1, Q2, L, Lr, e, ⟨i1, i2⟩, ⟨k1, k2, k3⟩, q1, q2, ⟨A, B⟩, ⟨n1, n2, n3⟩, R⟩ hD
    have hd : max (zg_d l + 1) (zg_d r) ≤ zg_d (.inner kd kv o l r) := zg_d1
    have hs : zt_sz (.inner kd kv o l r) = 1 + zt_sz l + zt_sz r := rfl
    have hl : zt_ln (.inner kd kv o l r) = 1 + zt_ln r := rfl
    obtain ⟨r1, r2, r3, r4, r5, r6⟩ := ihr Q2 _ _ Lr D R (by omega)
    subst e
    refine ⟨⟨i, i1, i2, yk_Cm (by omega) A, r1⟩, ⟨k, Q1, k2, k3, fun z => (q1 k z).2 rfl, yk_Mm (by omega) B, r2⟩, ?_, ?_, ?_, ?_⟩
    · show Lr.length + 1 = _; omega
    · show (L ++ yx_s Lr).length + (Lr.length + 1) ≤ _
      rw [List.length_append]; omega
    · intro d
      show yo_h d (L ++ yx_s Lr) = some (d + (Lr.length + 1))
      rw [yo_1 (n2 d), r5, Nat.add_assoc, Nat.add_comm 1]
    · intro j hj
      rcases List.mem_append.mp (show j ∈ L ++ yx_s Lr from hj) with z | z
      · exact n3 j z
      · exact r6 j z
end YKX
end
section
/-! The layout of a block: cells that only a TP writes. -/
abbrev yK : Type := Int32 × (Nat → Prop)
/-- the Qs of the TPs of block b, and of those in its parts -/
def yq_Q (h : zs_H) : Nat → Nat → Nat → Prop
  | 0, _, _ => False
  | n + 1, b, j => ∃ f e v x B t, ((h.2.1 23) (9 + b) = nI f ∧ (h.2.1 24) (9 + b) = nI e ∧ f ≤ 32 + v ∧ 32 + v < e ∧ e < 10000) ∧ ((h.2.1 32) (32 + v) = nI x ∧ x < 100000) ∧ ((h.2.1 30) (32 + v) = nI B ∧ B < 700) ∧ j = x + t ∧ ((B = 2 ∧ t = 2) ∨ (9 ≤ B ∧ B < 9 + b ∧ ∃ s, (h.2.1 26) B = nI s ∧ t < s ∧ s < 100000 ∧ yq_Q h n (B - 9) t))
def yq_k (h : zs_H) (u : Nat) : yK := ((h.2.1 21) (9 + u), yq_Q h (u + 1) u)
theorem yq_m2 {t : Nat} (ht : t < 2147483646) : ¬ nI t = -2 := fun z => by
  have h : nI t + 1 = -1 := by rw [z]; rfl
  rw [show nI t + 1 = nI (t + 1) from zc_ad 1 t] at h
  exact zc_m1 (by omega) h
section YQL
variable {LC LM : List (List Int32)} {nb b : Nat} {F X Y : Nat → Nat} {h0 g0 : zs_H}
theorem yq_f1 : ∀ (n m b j : Nat), b < n → b < m → yq_Q h0 n b j → yq_Q h0 m b j := by
  intro n
  induction n with
  | zero => intro m b j h1; omega
  | succ n ih =>
    intro m b j h1 h2 H
    obtain ⟨m, rfl⟩ : ∃ z, m = z + 1 := ⟨m - 1, by omega⟩
    obtain ⟨f, e, v, x, B, t, a1, a2, a3, a4, a5⟩ := H
    refine ⟨f, e, v, x, B, t, a1, a2, a3, a4, ?_⟩
    rcases a5 with z | ⟨z1, z2, s, z3, z4, z5, z6⟩
    · exact .inl z
    · exact .inr ⟨z1, z2, s, z3, z4, z5, ih m (B - 9) t (by omega) (by omega) z6⟩
theorem yq_v {v f e : Nat} (C : yk_cx LC LM nb F X Y h0 g0) (hb : b < nb) (H : (h0.2.1 23) (9 + b) = nI f ∧ (h0.2.1 24) (9 + b) = nI e ∧ f ≤ 32 + v ∧ 32 + v < e ∧ e < 10000) : F b ≤ v ∧ v < F (b + 1) := by
  obtain ⟨a1, a2, a3, a4, a5⟩ := H
  obtain ⟨c1, _, c3⟩ := C.1.2.1.2.2.2.2.2.1 b hb
  have hF := C.1.2.1.2.2.2.1 b hb
  have V3 : F nb ≤ 5900 := C.1.2.1.2.1.2.2
  have e1 : f = 32 + F b := (nI_eq (by omega) (by omega)).mp (a1.symm.trans c1)
  have e2 : e = 32 + F (b + 1) := (nI_eq (by omega) (by omega)).mp (a2.symm.trans c3)
  omega
/-- a variable -/
theorem yq_var {v : Nat} (C : yk_cx LC LM nb F X Y h0 g0) (hb : b < nb) (h1 : F b ≤ v) (h2 : v < F (b + 1)) : ∃ x s, (h0.2.1 32) (32 + v) = nI x ∧ (h0.2.1 34) (32 + v) = nI s ∧ (x + s ≤ Y b ∧ Y b ≤ 4096) ∧ ((h0.2.1 21) (9 + b) = 3 → x < 960 → s = 1) ∧ ((h0.2.1 30) (32 + v) = -1 ∨ (h0.2.1 30) (32 + v) = -2 ∨ ∃ B, B < 9 + b ∧ (h0.2.1 30) (32 + v) = nI B ∧ (h0.2.1 26) B = nI s ∧ (9 ≤ B → (h0.2.1 21) B = 2)) := by
  obtain ⟨ty, x, s, _, ⟨q1, _⟩, ⟨q2, _⟩, _, _, ⟨q3, _⟩, q4⟩ := yk_Q C hb h1 h2
  have kB := (C.2.2 b hb).1
  have hF := C.1.2.1.2.2.2.1 b hb
  refine ⟨x, s, q1, q2, ⟨q3, kB.2.2⟩, fun k3 hx => ?_, ?_⟩
  · obtain ⟨ty', x', s', y', _, ⟨r1, _⟩, ⟨r2, _⟩, _, ⟨r3, r3', _⟩, _, _, _, r4⟩ := C.1.2.2.2.1.2.1 b v hb h1 h2 (by omega)
    have e1 : x = x' := (nI_eq (by omega) (by omega)).mp (q1.symm.trans r1)
    have e2 : s = s' := (nI_eq (by omega) (by omega)).mp (q2.symm.trans r2)
    rcases r4 with ⟨_, _, z⟩ | ⟨p, _, _, _, _, _, z⟩
    · have := z k3; omega
    · omega
  · rcases q4 with ⟨z, _⟩ | ⟨z, _⟩ | ⟨B, z1, z2, _, _, z3, z4⟩
    · exact .inl z
    · exact .inr (.inl z)
    · exact .inr (.inr ⟨B, z1, z2, z4, z3⟩)
/-- two variables, one with parts, lie apart -/
theorem yq_ap {u v x s x' s' j t : Nat} (C : yk_cx LC LM nb F X Y h0 g0) (hb : b < nb) (h1 : F b ≤ u ∧ u < F (b + 1)) (h2 : F b ≤ v ∧ v < F (b + 1)) (hne : ¬ u = v) (c1 : (h0.2.1 32) (32 + u) = nI x) (c2 : (h0.2.1 34) (32 + u) = nI s) (c3 : (h0.2.1 32) (32 + v) = nI x') (c4 : (h0.2.1 34) (32 + v) = nI s') (hx : x + s ≤ 5000 ∧ x' + s' ≤ 5000) (k3 : (h0.2.1 21) (9 + b) = 3 → x < 960 → s = 1) (hi : ¬ (h0.2.1 30) (32 + v) = -1) (hj : j < s) (ht : t < s') : ¬ x + j = x' + t := by
  have L := fun v h1 h2 => ((C.2.2 b hb).2.2.2.2.2 v h1 h2).1
  have lv := (L v h2.1 h2.2).2
  rcases Nat.lt_or_gt_of_ne hne with z | z
  · rcases (L v h2.1 h2.2).1 u h1.1 z x s x' c1 c2 c3 (by omega) (by omega) (by omega) with ⟨k, w⟩ | w
    · have := lv k hi x' c3 (by omega)
      rcases w with w | w
      · have := k3 k w; omega
      · omega
    · omega
  · rcases (L u h1.1 h1.2).1 v h2.1 z x' s' x c3 c4 c1 (by omega) (by omega) (by omega) with ⟨k, w⟩ | w
    · have := lv k hi x' c3 (by omega)
      rcases w with w | w
      · omega
      · have := k3 k w; omega
    · omega
theorem yq_t2 : (zt_2.getD 2 0) = nI 6 := by decide
/-- what a member is part of -/
theorem yq_el {n j : Nat} (C : yk_cx LC LM nb F X Y h0 g0) (hb : b < nb) (H : yq_Q h0 (n + 1) b j) : ∃ v x s B t, (F b ≤ v ∧ v < F (b + 1)) ∧ (h0.2.1 32) (32 + v) = nI x ∧ (h0.2.1 34) (32 + v) = nI s ∧ (x + s ≤ Y b ∧ Y b ≤ 4096) ∧ ((h0.2.1 30) (32 + v) = nI B ∧ B < 9 + b) ∧ j = x + t ∧ t < s ∧ ((B = 2 ∧ t = 2) ∨ (9 ≤ B ∧ yq_Q h0 n (B - 9) t)) := by
  obtain ⟨f, e, v, x, B, t, a1, ⟨a2, a2'⟩, ⟨a3, a3'⟩, a4, a5⟩ := H
  have hv := yq_v C hb a1
  obtain ⟨x1, s, c1, c2, ⟨c3, c3'⟩, c4, c5⟩ := yq_var C hb hv.1 hv.2
  have ex : x1 = x := (nI_eq (by omega) (by omega)).mp (c1.symm.trans a2)
  subst ex
  have B3 : nb ≤ 568 := C.1.2.1.1.2.2
  rcases c5 with z | z | ⟨B', z1, z2, z3, z4⟩
  · exact absurd (a3.symm.trans z) (zc_m1 (by omega))
  · exact absurd (a3.symm.trans z) (yq_m2 (by omega))
  · have eB : B' = B := (nI_eq (by omega) (by omega)).mp (z2.symm.trans a3)
    subst eB
    refine ⟨v, x1, s, B', t, hv, c1, c2, ⟨c3, c3'⟩, ⟨a3, z1⟩, a4, ?_, ?_⟩
    · rcases a5 with ⟨w1, w2⟩ | ⟨w1, w2, s2, w3, w4, w5, w6⟩
      · subst w1
        have e6 := (C.1.2.1.2.2.1.1 2 (by decide)).2.2.2
        rw [z3, yq_t2] at e6
        have : s = 6 := (nI_eq (by omega) (by omega)).mp e6
        omega
      · have : s2 = s := (nI_eq (by omega) (by omega)).mp (w3.symm.trans z3)
        omega
    · rcases a5 with w | ⟨w1, w2, s2, w3, w4, w5, w6⟩
      · exact .inl w
      · exact .inr ⟨w1, w6⟩
theorem yq_Y {n j : Nat} (C : yk_cx LC LM nb F X Y h0 g0) (hb : b < nb) (H : yq_Q h0 n b j) : j < Y b := by
  cases n with
  | zero => exact H.elim
  | succ n =>
    obtain ⟨v, x, s, B, t, _, _, _, ⟨h1, _⟩, _, h2, h3, _⟩ := yq_el C hb H
    omega
theorem yq_9 {n j : Nat} (C : yk_cx LC LM nb F X Y h0 g0) (hb : b < nb) (k3 : (h0.2.1 21) (9 + b) = 3) (H : yq_Q h0 n b j) : 960 ≤ j := by
  cases n with
  | zero => exact H.elim
  | succ n =>
    obtain ⟨v, x, s, B, t, hv, c1, _, ⟨h1, h1'⟩, ⟨hB, hB'⟩, h2, _, _⟩ := yq_el C hb H
    have B3 : nb ≤ 568 := C.1.2.1.1.2.2
    have := ((C.2.2 b hb).2.2.2.2.2 v hv.1 hv.2).1.2 k3 (fun z => zc_m1 (by omega) (hB.symm.trans z)) x c1 (by omega)
    omega
/-- a variable without parts -/
theorem yq_ni {n u x s j : Nat} (C : yk_cx LC LM nb F X Y h0 g0) (hb : b < nb) (h1 : F b ≤ u ∧ u < F (b + 1)) (hi : (h0.2.1 30) (32 + u) = -1 ∨ (h0.2.1 30) (32 + u) = -2) (c1 : (h0.2.1 32) (32 + u) = nI x) (hx : x < 100000) (c2 : (h0.2.1 34) (32 + u) = nI s) (hs : s < 100000) (hj : j < s) : ¬ yq_Q h0 n b (x + j) := by
  cases n with
  | zero => exact fun H => H.elim
  | succ n =>
    intro H
    obtain ⟨v, x', s', B, t, hv, d1, d2, ⟨d3, d3'⟩, ⟨d4, d4'⟩, d5, d6, _⟩ := yq_el C hb H
    have B3 : nb ≤ 568 := C.1.2.1.1.2.2
    obtain ⟨x1, s1, e1, e2, ⟨e3, _⟩, e4, _⟩ := yq_var C hb h1.1 h1.2
    have ex : x1 = x := (nI_eq (by omega) (by omega)).mp (e1.symm.trans c1)
    have es : s1 = s := (nI_eq (by omega) (by omega)).mp (e2.symm.trans c2)
    subst ex; subst es
    refine yq_ap C hb h1 hv (fun z => ?_) c1 c2 d1 d2 (by omega) e4 (fun z => zc_m1 (by omega) (d4.symm.trans z)) hj d6 d5
    subst z
    rcases hi with z | z
    · exact zc_m1 (by omega) (d4.symm.trans z)
    · exact yq_m2 (by omega) (d4.symm.trans z)
/-- a variable with parts -/
theorem yq_in {n v x s B j : Nat} (C : yk_cx LC LM nb F X Y h0 g0) (hb : b < nb) (h1 : F b ≤ v ∧ v < F (b + 1)) (hB : (h0.2.1 30) (32 + v) = nI B) (hB2 : B < 9 + b) (c1 : (h0.2.1 32) (32 + v) = nI x) (hx : x < 100000) (c2 : (h0.2.1 34) (32 + v) = nI s) (hs : s < 100000) (hj : j < s) : yq_Q h0 (n + 1) b (x + j) ↔ (B = 2 ∧ j = 2) ∨ (9 ≤ B ∧ yq_Q h0 n (B - 9) j) := by
  have B3 : nb ≤ 568 := C.1.2.1.1.2.2
  obtain ⟨x1, s1, e1, e2, ⟨e3, e3'⟩, e4, e5⟩ := yq_var C hb h1.1 h1.2
  have ex : x1 = x := (nI_eq (by omega) (by omega)).mp (e1.symm.trans c1)
  have es : s1 = s := (nI_eq (by omega) (by omega)).mp (e2.symm.trans c2)
  subst ex; subst es
  constructor
  · intro H
    obtain ⟨v', x', s', B', t, hv, d1, d2, ⟨d3, d3'⟩, ⟨d4, d4'⟩, d5, d6, d7⟩ := yq_el C hb H
    by_cases z : v = v'
    · subst z
      have f1 : x' = x1 := (nI_eq (by omega) (by omega)).mp (d1.symm.trans c1)
      have f2 : B' = B := (nI_eq (by omega) (by omega)).mp (d4.symm.trans hB)
      have f3 : t = j := by omega
      rw [f2, f3] at d7
      exact d7
    · exact absurd d5 (yq_ap C hb h1 hv z c1 c2 d1 d2 (by omega) e4 (fun z => zc_m1 (by omega) (d4.symm.trans z)) hj d6)
  · intro H
    obtain ⟨f1, _, f3⟩ := C.1.2.1.2.2.2.2.2.1 b hb
    have hF := C.1.2.1.2.2.2.1 b hb
    have V3 : F nb ≤ 5900 := C.1.2.1.2.1.2.2
    refine ⟨32 + F b, 32 + F (b + 1), v, x1, B, j, ⟨f1, f3, by omega, by omega, by omega⟩, ⟨c1, hx⟩, ⟨hB, by omega⟩, rfl, ?_⟩
    rcases H with w | ⟨w1, w2⟩
    · exact .inl w
    · right
      refine ⟨w1, hB2, s1, ?_, hj, hs, w2⟩
      rcases e5 with z | z | ⟨B', z1, z2, z3, _⟩
      · exact absurd (hB.symm.trans z) (zc_m1 (by omega))
      · exact absurd (hB.symm.trans z) (yq_m2 (by omega))
      · have : B' = B := (nI_eq (by omega) (by omega)).mp (z2.symm.trans hB)
        rw [← this]; exact z3
theorem yq_fn {n j : Nat} (C : yk_cx LC LM nb F X Y h0 g0) (hb : b < nb) (S3 : ∀ v, F b ≤ v → v < F (b + 1) → (h0.2.1 30) (32 + v) = -1 ∨ (h0.2.1 30) (32 + v) = -2) : ¬ yq_Q h0 n b j := by
  cases n with
  | zero => exact fun H => H.elim
  | succ n =>
    intro H
    obtain ⟨v, x, s, B, t, hv, _, _, _, ⟨hB, hB'⟩, _⟩ := yq_el C hb H
    have B3 : nb ≤ 568 := C.1.2.1.1.2.2
    rcases S3 v hv.1 hv.2 with z | z
    · exact zc_m1 (by omega) (hB.symm.trans z)
    · exact yq_m2 (by omega) (hB.symm.trans z)
theorem yq_f0 {n j : Nat} (C : yk_cx LC LM nb F X Y h0 g0) (hb : b < nb) (k1 : (h0.2.1 21) (9 + b) = 1) : ¬ yq_Q h0 n b j := yq_fn C hb (fun v v1 v2 => ((C.2.2 b hb).2.2.2.2.2 v v1 v2).2 k1)
theorem yq_Y0 (C : yk_cx LC LM nb F X Y h0 g0) (hb : b < nb) (k1 : (h0.2.1 21) (9 + b) = 1) : 0 < Y b := by
  have hlt := (C.1.2.2.2.2.1.2.2.2 b hb k1).1
  have B3 : nb ≤ 568 := C.1.2.1.1.2.2
  obtain ⟨ty, x, s, _, _, _, _, _, ⟨q3, _⟩, q4⟩ := yk_Q C hb (Nat.le_refl (F b)) hlt
  rcases q4 with ⟨_, _, _, e⟩ | ⟨_, _, _, e, _⟩ | ⟨B, hB, e, _⟩
  · omega
  · omega
  · rcases ((C.2.2 b hb).2.2.2.2.2 (F b) (Nat.le_refl _) hlt).2 k1 with z | z
    · exact absurd (e.symm.trans z) (zc_m1 (by omega))
    · exact absurd (e.symm.trans z) (yq_m2 (by omega))
/-- an input of a part -/
theorem yq_t3 : ∀ v, v < 32 → zj_sv 2 ≤ v → v < zj_sv (2 + 1) → zj_t v 2 = 1 → ¬ zp_tN v 4 = 2 := by decide +kernel
theorem yq_pin {Fb : Nat → Nat} {n v x s B cv off : Nat} (C : yk_cx LC LM nb F X Y h0 g0) (hb : b < nb) (hF : ∀ j, j ≤ b + 1 → Fb j = F j) (h1 : F b ≤ v ∧ v < F (b + 1)) (hB : (h0.2.1 30) (32 + v) = nI B) (hB2 : B < 9 + b) (c1 : (h0.2.1 32) (32 + v) = nI x) (hx : x < 100000) (c2 : (h0.2.1 34) (32 + v) = nI s) (hs : s < 100000) (zB : zi_B Fb B cv) (s1 : (h0.2.1 29) cv = 1) (co : (h0.2.1 32) cv = nI off) (ho : off < s) : ¬ yq_Q h0 (n + 1) b (x + off) := by
  rw [yq_in C hb h1 hB hB2 c1 hx c2 hs ho]
  unfold zi_B at zB
  rintro (⟨z1, z2⟩ | ⟨z1, z2⟩)
  · subst z1; subst z2
    rw [if_pos (by decide)] at zB
    have hv : cv < 32 := Nat.lt_of_lt_of_le zB.2 (by decide)
    obtain ⟨_, t2, _, _, t5⟩ := C.1.2.1.2.2.1.2 cv hv
    obtain ⟨_, _, _, o4, o5, _⟩ := zp_T3 cv hv
    rw [t5, o5] at co
    exact yq_t3 cv hv zB.1 zB.2 (t2.symm.trans s1) ((nI_eq (by omega) (by omega)).mp co)
  · rw [if_neg (by omega), hF _ (by omega), hF _ (by omega)] at zB
    obtain ⟨w, rfl⟩ : ∃ w, cv = 32 + w := ⟨cv - 32, by omega⟩
    have hb' : B - 9 < nb := by omega
    have hFF := C.1.2.1.2.2.2.1 (B - 9) hb'
    obtain ⟨x1, s1', d1, d2, ⟨d3, d3'⟩, _, d5⟩ := yq_var C hb' (show F (B - 9) ≤ w by omega) (show w < F (B - 9 + 1) by omega)
    have i1 := C.2.1 w (by omega) (.inl s1)
    obtain ⟨ty, x2, s2, _, _, ⟨r2, _⟩, _, _, ⟨r3, _⟩, r4⟩ := yk_Q C hb' (show F (B - 9) ≤ w by omega) (show w < F (B - 9 + 1) by omega)
    have B3 : nb ≤ 568 := C.1.2.1.1.2.2
    have kB := (C.2.2 (B - 9) hb').1
    have e1 : s2 = 1 := by
      rcases r4 with ⟨_, _, _, e⟩ | ⟨e, _⟩ | ⟨B', hB', e, _⟩
      · exact e
      · rw [i1] at e; exact absurd e (by decide)
      · rw [i1] at e; exact absurd e.symm (zc_m1 (by omega))
    rw [e1] at r2
    exact yq_ni (s := 1) (j := 0) C hb' ⟨by omega, by omega⟩ (.inl i1) co (by omega) r2 (by omega) (by omega) z2
end YQL
end
section
/-! BOOLs: the cells of variables. -/
section YQB
variable {LC LM : List (List Int32)} {nb b : Nat} {F X Y : Nat → Nat} {h0 g0 : zs_H} {LD : Nat → Prop}
theorem yq_Bf : ∀ (n m b j : Nat), b < n → b < m → yq_B LD h0 n b j → yq_B LD h0 m b j := by
  intro n
  induction n with
  | zero => intro m b j h1; omega
  | succ n ih =>
    intro m b j h1 h2 H
    obtain ⟨m, rfl⟩ : ∃ z, m = z + 1 := ⟨m - 1, by omega⟩
    rcases H with H | H | ⟨f, e, v, x, s, a1, a2, a3, a4, a5⟩
    · exact .inl H
    · exact .inr (.inl H)
    · refine .inr (.inr ⟨f, e, v, x, s, a1, a2, a3, a4, ?_⟩)
      rcases a5 with z | ⟨B, z1, z2 | ⟨z2, z3, z4⟩⟩
      · exact .inl z
      · exact .inr ⟨B, z1, .inl z2⟩
      · exact .inr ⟨B, z1, .inr ⟨z2, z3, ih m (B - 9) _ (by omega) (by omega) z4⟩⟩
/-- a BOOL's cells are among them -/
theorem yq_bv {v x s j : Nat} (C : yk_cx LC LM nb F X Y h0 g0) (hb : b < nb) (h1 : F b ≤ v ∧ v < F (b + 1)) (hi : (h0.2.1 30) (32 + v) = -1 ∨ (h0.2.1 30) (32 + v) = -2) (ht : (h0.2.1 31) (32 + v) = 0) (c1 : (h0.2.1 32) (32 + v) = nI x) (hx : x < 100000) (c2 : (h0.2.1 34) (32 + v) = nI s) (hs : s < 100000) (hj : j < s) : yq_b LD h0 b (x + j) := by
  obtain ⟨f1, _, f3⟩ := C.1.2.1.2.2.2.2.2.1 b hb
  have hF := C.1.2.1.2.2.2.1 b hb
  have V3 : F nb ≤ 5900 := C.1.2.1.2.1.2.2
  have B3 : nb ≤ 568 := C.1.2.1.1.2.2
  exact (yq_bd (by omega)).mpr (.inr (.inr ⟨32 + F b, 32 + F (b + 1), v, x, s, ⟨f1, f3, by omega, by omega, by omega⟩, ⟨c1, hx⟩, ⟨c2, hs⟩, ⟨by omega, by omega⟩, .inl ⟨hi, ht⟩⟩))
/-- what a variable's place says of its type -/
theorem yq_pl {v x s : Nat} (C : yk_cx LC LM nb F X Y h0 g0) (hb : b < nb) (h1 : F b ≤ v ∧ v < F (b + 1)) (c1 : (h0.2.1 32) (32 + v) = nI x) (hx : x < 960) (k3 : (h0.2.1 21) (9 + b) = 3) : (h0.2.1 31) (32 + v) = 0 ↔ x < 768 := by
  have hF := C.1.2.1.2.2.2.1 b hb
  obtain ⟨ty, x', s', y', ⟨t1, t2⟩, ⟨r1, _⟩, _, _, ⟨r3, _, _, _, _, r5⟩, _, _, _, r4⟩ := C.1.2.2.2.1.2.1 b v hb h1.1 h1.2 (by omega)
  have e1 : x = x' := (nI_eq (by omega) (by omega)).mp (c1.symm.trans r1)
  rcases r4 with ⟨_, _, z⟩ | ⟨p, p1, p2, _, p4, p5, _⟩
  · have := z k3; omega
  · have q := r5 p p2 p1
    rw [t2, show (nI ty = 0) ↔ ty = 0 from zc_eq (k := 0) (by decide) (by omega), ← q, e1, p4]
    unfold zv_pc
    by_cases z : p < 768
    · rw [if_pos z]
    · rw [if_neg z]; omega
/-- a variable without parts whose cell is among them is a BOOL -/
theorem yq_bc {v x s j : Nat} (C : yk_cx LC LM nb F X Y h0 g0) (hb : b < nb) (h1 : F b ≤ v ∧ v < F (b + 1)) (hi : (h0.2.1 30) (32 + v) = -1 ∨ (h0.2.1 30) (32 + v) = -2) (c1 : (h0.2.1 32) (32 + v) = nI x) (hx : x < 100000) (c2 : (h0.2.1 34) (32 + v) = nI s) (hs : s < 100000) (hj : j < s) (H : yq_b LD h0 b (x + j)) : (h0.2.1 31) (32 + v) = 0 := by
  have B3 : nb ≤ 568 := C.1.2.1.1.2.2
  obtain ⟨x1, s1, e1, e2, ⟨e3, e3'⟩, e4, _⟩ := yq_var C hb h1.1 h1.2
  have ex : x1 = x := (nI_eq (by omega) (by omega)).mp (e1.symm.trans c1)
  have es : s1 = s := (nI_eq (by omega) (by omega)).mp (e2.symm.trans c2)
  subst ex; subst es
  rcases (yq_bd (by omega)).mp H with ⟨k3, h7⟩ | ⟨_, y, z, w1, w2, w3, _⟩ | ⟨f, e, u, x', s', a1, ⟨a2, a2'⟩, ⟨a3, a3'⟩, ⟨a4, a4'⟩, a5⟩
  · by_cases i1 : (h0.2.1 30) (32 + v) = -1
    · exact (yq_pl (s := s1) C hb h1 c1 (by omega) k3).mpr (by omega)
    · have := ((C.2.2 b hb).2.2.2.2.2 v h1.1 h1.2).1.2 k3 i1 x1 c1 (by omega)
      omega
  · have := (C.2.2 b hb).2.2.2.1
    have kY := (C.2.2 b hb).1
    have : y = Y b := by
      rw [w1] at this
      by_cases hy : y < 2147483648
      · exact (nI_eq hy (by omega)).mp this
      · omega
    omega
  · have hu := yq_v C hb a1
    by_cases z : v = u
    · subst z
      rcases a5 with ⟨_, t⟩ | ⟨B, ⟨b1, b2⟩, _⟩
      · exact t
      · rcases hi with w | w
        · exact absurd (b1.symm.trans w) (zc_m1 (by omega))
        · exact absurd (b1.symm.trans w) (yq_m2 (by omega))
    · obtain ⟨x2, s2, d1, d2, ⟨d3, d3'⟩, d4, _⟩ := yq_var C hb hu.1 hu.2
      have ex : x2 = x' := (nI_eq (by omega) (by omega)).mp (d1.symm.trans a2)
      have es : s2 = s' := (nI_eq (by omega) (by omega)).mp (d2.symm.trans a3)
      subst ex; subst es
      by_cases i2 : (h0.2.1 30) (32 + u) = -1
      · by_cases i1 : (h0.2.1 30) (32 + v) = -1
        · -- both are simple
          have L := fun v h1 h2 => ((C.2.2 b hb).2.2.2.2.2 v h1 h2).1
          have key : (h0.2.1 21) (9 + b) = 3 ∧ (x1 < 960 ∨ x2 < 960) := by
            rcases Nat.lt_or_gt_of_ne z with q | q
            · rcases (L u hu.1 hu.2).1 v h1.1 q x1 s1 x2 c1 c2 a2 (by omega) (by omega) (by omega) with w | w
              · exact w
              · omega
            · rcases (L v h1.1 h1.2).1 u hu.1 q x2 s2 x1 a2 a3 c1 (by omega) (by omega) (by omega) with w | w
              · exact ⟨w.1, w.2.symm⟩
              · omega
          obtain ⟨k3, hk⟩ := key
          have t2 : (h0.2.1 31) (32 + u) = 0 := by
            rcases a5 with ⟨_, t⟩ | ⟨B, ⟨b1, b2⟩, _⟩
            · exact t
            · exact absurd (b1.symm.trans i2) (zc_m1 (by omega))
          have q1 : s1 = 1 := by
            obtain ⟨_, x9, s9, _, ⟨r1, _⟩, ⟨r2, _⟩, _, _, ⟨r3, _⟩, r4⟩ := yk_Q C hb h1.1 h1.2
            have : s9 = s1 := (nI_eq (by omega) (by omega)).mp (r2.symm.trans c2)
            rcases r4 with ⟨_, _, _, e⟩ | ⟨e, _⟩ | ⟨B, hB, e, _⟩
            · omega
            · rw [i1] at e; exact absurd e (by decide)
            · rw [i1] at e; exact absurd e.symm (zc_m1 (by omega))
          have q2 : s2 = 1 := by
            obtain ⟨_, x9, s9, _, ⟨r1, _⟩, ⟨r2, _⟩, _, _, ⟨r3, _⟩, r4⟩ := yk_Q C hb hu.1 hu.2
            have : s9 = s2 := (nI_eq (by omega) (by omega)).mp (r2.symm.trans a3)
            rcases r4 with ⟨_, _, _, e⟩ | ⟨e, _⟩ | ⟨B, hB, e, _⟩
            · omega
            · rw [i2] at e; exact absurd e (by decide)
            · rw [i2] at e; exact absurd e.symm (zc_m1 (by omega))
          have p1 := yq_pl (s := s1) C hb h1 c1 (by omega) k3
          have p2 := yq_pl (s := s2) C hb hu a2 (by omega) k3
          rw [p1]
          have := p2.mp t2
          omega
        · exact absurd (show x2 + (x1 + j - x2) = x1 + j by omega) (yq_ap C hb hu h1 (fun q => z q.symm) a2 a3 c1 c2 (by omega) d4 i1 (by omega) hj)
      · exact absurd (show x1 + j = x2 + (x1 + j - x2) by omega) (yq_ap C hb h1 hu z c1 c2 a2 a3 (by omega) e4 i2 hj (by omega))
/-- the cells of a part -/
theorem yq_bi {v x s B j : Nat} (C : yk_cx LC LM nb F X Y h0 g0) (hb : b < nb) (h1 : F b ≤ v ∧ v < F (b + 1)) (hB : (h0.2.1 30) (32 + v) = nI B) (hB2 : B < 9 + b) (c1 : (h0.2.1 32) (32 + v) = nI x) (hx : x < 100000) (c2 : (h0.2.1 34) (32 + v) = nI s) (hs : s < 100000) (hj : j < s) : yq_b LD h0 b (x + j) ↔ (B < 9 ∧ yq_sB B j) ∨ (9 ≤ B ∧ yq_b LD h0 (B - 9) j) := by
  have B3 : nb ≤ 568 := C.1.2.1.1.2.2
  obtain ⟨x1, s1, e1, e2, ⟨e3, e3'⟩, e4, _⟩ := yq_var C hb h1.1 h1.2
  have ex : x1 = x := (nI_eq (by omega) (by omega)).mp (e1.symm.trans c1)
  have es : s1 = s := (nI_eq (by omega) (by omega)).mp (e2.symm.trans c2)
  subst ex; subst es
  have ni : ¬ (h0.2.1 30) (32 + v) = -1 := fun z => zc_m1 (by omega) (hB.symm.trans z)
  have ni2 : ¬ (h0.2.1 30) (32 + v) = -2 := fun z => yq_m2 (by omega) (hB.symm.trans z)
  constructor
  · intro H
    rcases (yq_bd (by omega)).mp H with ⟨k3, h7⟩ | ⟨_, y, z, w1, w2, w3, _⟩ | ⟨f, e, u, x', s', a1, ⟨a2, a2'⟩, ⟨a3, a3'⟩, ⟨a4, a4'⟩, a5⟩
    · have := ((C.2.2 b hb).2.2.2.2.2 v h1.1 h1.2).1.2 k3 ni x1 c1 (by omega)
      omega
    · have := (C.2.2 b hb).2.2.2.1
      have kY := (C.2.2 b hb).1
      have : y = Y b := by
        rw [w1] at this
        by_cases hy : y < 2147483648
        · exact (nI_eq hy (by omega)).mp this
        · omega
      omega
    · have hu := yq_v C hb a1
      by_cases z : v = u
      · subst z
        have exx : x' = x1 := (nI_eq (by omega) (by omega)).mp (a2.symm.trans c1)
        subst exx
        rw [show x' + j - x' = j by omega] at a5
        rcases a5 with ⟨w, _⟩ | ⟨B', ⟨b1, b2⟩, q | ⟨q1, q2, q3⟩⟩
        · rcases w with w | w
          · exact absurd w ni
          · exact absurd w ni2
        · have : B' = B := (nI_eq (by omega) (by omega)).mp (b1.symm.trans hB)
          subst this
          exact .inl q
        · have : B' = B := (nI_eq (by omega) (by omega)).mp (b1.symm.trans hB)
          subst this
          exact .inr ⟨q1, (yq_bd (by omega)).mpr (yq_Bf _ _ _ _ (by omega) (by omega) q3)⟩
      · obtain ⟨x2, s2, d1, d2, ⟨d3, d3'⟩, d4, _⟩ := yq_var C hb hu.1 hu.2
        have ex : x2 = x' := (nI_eq (by omega) (by omega)).mp (d1.symm.trans a2)
        have es : s2 = s' := (nI_eq (by omega) (by omega)).mp (d2.symm.trans a3)
        subst ex; subst es
        exact absurd (show x2 + (x1 + j - x2) = x1 + j by omega) (yq_ap C hb hu h1 (fun q => z q.symm) a2 a3 c1 c2 (by omega) d4 ni (by omega) hj)
  · intro H
    obtain ⟨f1, _, f3⟩ := C.1.2.1.2.2.2.2.2.1 b hb
    have hF := C.1.2.1.2.2.2.1 b hb
    have V3 : F nb ≤ 5900 := C.1.2.1.2.1.2.2
    refine (yq_bd (by omega)).mpr (.inr (.inr ⟨32 + F b, 32 + F (b + 1), v, x1, s1, ⟨f1, f3, by omega, by omega, by omega⟩, ⟨c1, hx⟩, ⟨c2, hs⟩, ⟨by omega, by omega⟩, .inr ⟨B, ⟨hB, by omega⟩, ?_⟩⟩))
    rw [show x1 + j - x1 = j by omega]
    rcases H with w | ⟨w1, w2⟩
    · exact .inl w
    · exact .inr ⟨w1, hB2, yq_Bf _ _ _ _ (by omega) (by omega) ((yq_bd (by omega)).mp w2)⟩
/-- own cells -/
theorem yq_bo {j : Nat} (C : yk_cx LC LM nb F X Y h0 g0) (hb : b < nb) (h1 : Y b ≤ j) (h2 : j < X b) : yq_b LD h0 b j ↔ LD b := by
  have kY := (C.2.2 b hb).1
  have B3 : nb ≤ 568 := C.1.2.1.1.2.2
  constructor
  · intro H
    rcases (yq_bd (by omega)).mp H with ⟨k3, h7⟩ | ⟨w, _⟩ | ⟨f, e, u, x', s', a1, ⟨a2, a2'⟩, ⟨a3, a3'⟩, ⟨a4, a4'⟩, a5⟩
    · have := (C.2.2 b hb).2.2.2.2.1 k3
      omega
    · exact w
    · have hu := yq_v C hb a1
      obtain ⟨x2, s2, d1, d2, ⟨d3, d3'⟩, d4, _⟩ := yq_var C hb hu.1 hu.2
      have ex : x2 = x' := (nI_eq (by omega) (by omega)).mp (d1.symm.trans a2)
      have es : s2 = s' := (nI_eq (by omega) (by omega)).mp (d2.symm.trans a3)
      omega
  · intro H
    exact (yq_bd (by omega)).mpr (.inr (.inl ⟨H, Y b, X b, (C.2.2 b hb).2.2.2.1, (C.2.2 b hb).2.1, h1, h2, by omega⟩))
/-- the PROGRAM's cells at places -/
theorem yq_b7 {j : Nat} (hb : b < 1000) (k3 : (h0.2.1 21) (9 + b) = 3) (h7 : j < 768) : yq_b LD h0 b j := (yq_bd hb).mpr (.inl ⟨k3, h7⟩)
theorem yq_b9 {j : Nat} (C : yk_cx LC LM nb F X Y h0 g0) (hb : b < nb) (k3 : (h0.2.1 21) (9 + b) = 3) (h7 : 768 ≤ j) (h9 : j < 960) : ¬ yq_b LD h0 b j := by
  intro H
  have B3 : nb ≤ 568 := C.1.2.1.1.2.2
  have kY := (C.2.2 b hb).1
  have Y9 := (C.2.2 b hb).2.2.2.2.1 k3
  rcases (yq_bd (by omega)).mp H with ⟨_, z⟩ | ⟨_, y, z, w1, w2, w3, _⟩ | ⟨f, e, u, x', s', a1, ⟨a2, a2'⟩, ⟨a3, a3'⟩, ⟨a4, a4'⟩, a5⟩
  · omega
  · have := (C.2.2 b hb).2.2.2.1
    have : y = Y b := by
      rw [w1] at this
      by_cases hy : y < 2147483648
      · exact (nI_eq hy (by omega)).mp this
      · omega
    omega
  · have hu := yq_v C hb a1
    obtain ⟨x2, s2, d1, d2, ⟨d3, d3'⟩, d4, _⟩ := yq_var C hb hu.1 hu.2
    have ex : x2 = x' := (nI_eq (by omega) (by omega)).mp (d1.symm.trans a2)
    have es : s2 = s' := (nI_eq (by omega) (by omega)).mp (d2.symm.trans a3)
    subst ex; subst es
    by_cases i1 : (h0.2.1 30) (32 + u) = -1
    · rcases a5 with ⟨_, t⟩ | ⟨B, ⟨b1, b2⟩, _⟩
      · have := (yq_pl (s := s2) C hb hu a2 (by omega) k3).mp t
        have := d4 k3 (by omega)
        omega
      · exact absurd (b1.symm.trans i1) (zc_m1 (by omega))
    · have := ((C.2.2 b hb).2.2.2.2.2 u hu.1 hu.2).1.2 k3 i1 x2 a2 (by omega)
      omega
theorem yq_bX {j : Nat} (C : yk_cx LC LM nb F X Y h0 g0) (hb : b < nb) (H : yq_b LD h0 b j) : j < X b := by
  have B3 : nb ≤ 568 := C.1.2.1.1.2.2
  obtain ⟨⟨k1, k2, k3'⟩, k4, _, _, k5, _⟩ := C.2.2 b hb
  rcases (yq_bd (by omega)).mp H with ⟨k3, z⟩ | ⟨_, y, z, w1, w2, w3, w4, w5⟩ | ⟨f, e, u, x', s', a1, ⟨a2, a2'⟩, ⟨a3, a3'⟩, ⟨a4, a4'⟩, a5⟩
  · have := k5 k3; omega
  · have : z = X b := (nI_eq (by omega) (by omega)).mp (w2.symm.trans k4)
    omega
  · have hu := yq_v C hb a1
    obtain ⟨x2, s2, d1, d2, ⟨d3, d3'⟩, d4, _⟩ := yq_var C hb hu.1 hu.2
    have ex : x2 = x' := (nI_eq (by omega) (by omega)).mp (d1.symm.trans a2)
    have es : s2 = s' := (nI_eq (by omega) (by omega)).mp (d2.symm.trans a3)
    omega
/-- the Qs of TPs are BOOLs -/
theorem yq_Qb (C : yk_cx LC LM nb F X Y h0 g0) : ∀ (n b j : Nat), b < nb → yq_Q h0 n b j → yq_b LD h0 b j := by
  have B3 : nb ≤ 568 := C.1.2.1.1.2.2
  intro n
  induction n with
  | zero => intro b j _ H; exact H.elim
  | succ n ih =>
    intro b j hb H
    obtain ⟨v, x, s, B, t, hv, e1, e2, ⟨e3, e3'⟩, ⟨e4, e4'⟩, e5, e6, e7⟩ := yq_el C hb H
    subst e5
    rw [yq_bi C hb hv e4 e4' e1 (by omega) e2 (by omega) e6]
    rcases e7 with ⟨z1, z2⟩ | ⟨z1, z2⟩
    · subst z1; subst z2
      exact .inl ⟨by decide, 10, by decide, by decide, by decide, by decide, by decide⟩
    · exact .inr ⟨z1, ih (B - 9) t (by omega) z2⟩
/-- all cells of a block -/
theorem yq_bz {u j : Nat} (C : yk_cx LC LM nb F X Y h0 g0) (hu : u < nb) : yq_b LD h0 (1000 + u) j ↔ j < X u := by
  obtain ⟨⟨k1, _⟩, k2, _⟩ := C.2.2 u hu
  unfold yq_b
  rw [if_neg (by omega), show 1000 + u - 1000 = u by omega]
  constructor
  · rintro ⟨s, s1, s2, s3⟩
    have : s = X u := (nI_eq (by omega) (by omega)).mp (s1.symm.trans k2)
    omega
  · intro z
    exact ⟨X u, k2, by omega, z⟩
/-- a pin -/
theorem yq_bp {Fb : Nat → Nat} {v x s B cv off : Nat} (C : yk_cx LC LM nb F X Y h0 g0) (hb : b < nb) (hF : ∀ j, j ≤ b + 1 → Fb j = F j) (h1 : F b ≤ v ∧ v < F (b + 1)) (hB : (h0.2.1 30) (32 + v) = nI B) (hB2 : B < 9 + b) (c1 : (h0.2.1 32) (32 + v) = nI x) (hx : x < 100000) (c2 : (h0.2.1 34) (32 + v) = nI s) (hs : s < 100000) (zB : zi_B Fb B cv) (s1 : (h0.2.1 29) cv = 1 ∨ (h0.2.1 29) cv = 2) (co : (h0.2.1 32) cv = nI off) (ho : off < s) : yq_b LD h0 b (x + off) ↔ (h0.2.1 31) cv = 0 := by
  rw [yq_bi C hb h1 hB hB2 c1 hx c2 hs ho]
  unfold zi_B at zB
  by_cases h9 : B < 9
  · rw [if_pos h9] at zB
    have hv : cv < 32 := by
      have := zp_T5 B h9
      omega
    obtain ⟨_, t2, _, t4, t5⟩ := C.1.2.1.2.2.1.2 cv hv
    constructor
    · rintro (⟨_, u, u1, u2, u3, u4, u5⟩ | ⟨z, _⟩)
      · have key : ∀ B, B < 9 → ∀ u, u < 32 → ∀ w, w < 32 → (zj_sv B ≤ u ∧ u < zj_sv (B + 1) ∧ zj_sv B ≤ w ∧ w < zj_sv (B + 1) ∧ zj_t u 4 = zj_t w 4) → u = w := by decide +kernel
        have : u = cv := key B h9 u u1 cv hv ⟨u2, u3, zB.1, zB.2, by rw [u4, ← t5, co]⟩
        rw [t4, ← this]; exact u5
      · omega
    · intro z
      exact .inl ⟨h9, cv, hv, zB.1, zB.2, by rw [← t5, co], by rw [← t4]; exact z⟩
  · rw [if_neg h9, hF _ (by omega), hF _ (by omega)] at zB
    obtain ⟨w, rfl⟩ : ∃ w, cv = 32 + w := ⟨cv - 32, by omega⟩
    have hb' : B - 9 < nb := by omega
    have hFF := C.1.2.1.2.2.2.1 (B - 9) hb'
    have i1 := C.2.1 w (by omega) s1
    have hw : F (B - 9) ≤ w ∧ w < F (B - 9 + 1) := ⟨by omega, by omega⟩
    obtain ⟨ty, x2, s2, _, ⟨r1, _⟩, ⟨r2, _⟩, _, _, ⟨r3, _⟩, r4⟩ := yk_Q C hb' hw.1 hw.2
    have B3 : nb ≤ 568 := C.1.2.1.1.2.2
    have kB := (C.2.2 (B - 9) hb').1
    have e1 : s2 = 1 := by
      rcases r4 with ⟨_, _, _, e⟩ | ⟨e, _⟩ | ⟨B', hB', e, _⟩
      · exact e
      · rw [i1] at e; exact absurd e (by decide)
      · rw [i1] at e; exact absurd e.symm (zc_m1 (by omega))
    have e2 : x2 = off := (nI_eq (by omega) (by omega)).mp (r1.symm.trans co)
    rw [e1] at r2
    constructor
    · rintro (⟨z, _⟩ | ⟨_, z⟩)
      · omega
      · exact yq_bc (j := 0) C hb' hw (.inl i1) co (by omega) r2 (by omega) (by omega) z
    · intro z
      exact .inr ⟨by omega, yq_bv (j := 0) C hb' hw (.inl i1) z co (by omega) r2 (by omega) (by omega)⟩
end YQB
end
