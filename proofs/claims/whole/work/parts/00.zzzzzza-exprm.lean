/-! The coder: how the model lays expressions down. -/
abbrev yM_F : List (Nat × Nat) := [(68, 56), (68, 58), (68, 54), (68, 64), (68, 66), (68, 68)]
abbrev yM_M : List Nat := [103, 104, 105, 106, 107, 108, 110, 111]
def yM_f (g0 g : zs_H) : Prop := zfr yM_F yM_M [] g0 g
theorem yM_fE {g0 g g' : zs_H} {s n : Nat} {L : List yJ} (f : yM_f g0 g) (E : yM_E s n L g g') : yM_f g0 g' := zfr_trans f (zfr_w E.2.1 (by decide) (by decide) (by decide))
def yM_c (g : zs_H) (n s u v : Nat) : Prop := ((g.1 68 56) = nI n ∧ s ≤ n) ∧ ((g.1 68 58) = nI u ∧ u < 16 ∧ (g.2.1 103) u = nI s) ∧ (g.1 68 64) = nI v ∧ (g.1 68 54) = nI u
theorem yM_cE {g g' : zs_H} {n s u v : Nat} {L : List yJ} (c : yM_c g n s u v) (E : yM_E s n L g g') : yM_c g' (n + L.length) s u v := by
  obtain ⟨⟨c1, c2⟩, ⟨c3, c4, c5⟩, c6, c7⟩ := c
  obtain ⟨e1, e2, _⟩ := E
  exact ⟨⟨e1, by omega⟩, ⟨(e2.1 _ _ (by decide)).trans c3, c4, by rw [e2.2.1 _ (by decide)]; exact c5⟩, (e2.1 _ _ (by decide)).trans c6, (e2.1 _ _ (by decide)).trans c7⟩
theorem yM_cL {g g' : zs_H} {n s u v : Nat} {L : List yI} (c : yM_c g n s u v) (E : yM_E s n (yv v L) g g') : yM_c g' (n + L.length) s u v := by
  have := yM_cE c E
  rw [yv_len] at this
  exact this
theorem yM_aL {g g1 g2 : zs_H} {n s v : Nat} {L1 L2 : List yI} (A : yM_E s n (yv v L1) g g1) (B : yM_E s (n + L1.length) (yv v L2) g1 g2) : yM_E s n (yv v (L1 ++ L2)) g g2 := by
  rw [yv_ap]
  exact yM_ap A (by rw [yv_len]; exact B)
theorem yM_e {g : zs_H} {n s u v : Nat} (C : yM_c g n s u v) (hn : n < 100000000) (o : Nat) (a b c : Int32) (ho : ¬ (o = 10 ∨ o = 11 ∨ o = 14) ∧ ¬ o = 13) : ∃ g', f_Mo_emit g (nI o) a b c = some (nI (n - s), g') ∧ yM_E s n (yv v [(o, a, b, c)]) g g' := by
  obtain ⟨⟨c1, c2⟩, ⟨c3, c4, c5⟩, c6, c7⟩ := C
  obtain ⟨g', e1, e2⟩ := yM_emit c1 hn c3 (by omega) c5 c2 c6 (o, a, b, c)
  unfold yM_A yM_B at e1
  rw [if_neg ho.1, if_neg ho.2, if_neg ho.2] at e1
  exact ⟨g', e1, e2⟩
section YKM
variable {g0 g : zs_H}
theorem yk_fw (e : ∀ a, ¬ a ∈ yM_M → g.2.1 a = g0.2.1 a) : f_Mo_wordOf_s11 g = f_Mo_wordOf_s11 g0 := by
  funext x
  unfold f_Mo_wordOf_s11 f_Mo_wordOf_s11_L5 f_Mo_wordOf_s11_5 f_Mo_wordOf_s11_L20 f_Mo_wordOf_s11_20 f_Mo_wordOf_s11_78 f_Mo_wordOf_s11_79 f_Mo_wordOf_s11_105
  rw [e 71 (by decide), e 70 (by decide)]
theorem yk_fs (e : ∀ a, ¬ a ∈ yM_M → g.2.1 a = g0.2.1 a) : f_Mo_signCode g = f_Mo_signCode g0 := by
  funext x
  unfold f_Mo_signCode
  rw [e 74 (by decide), e 100 (by decide)]
theorem yk_ft (e : ∀ a, ¬ a ∈ yM_M → g.2.1 a = g0.2.1 a) : f_Mo_oneCode g = f_Mo_oneCode g0 := by
  funext x
  unfold f_Mo_oneCode
  rw [e 74 (by decide), e 100 (by decide)]
theorem yk_fd (e : ∀ a, ¬ a ∈ yM_M → g.2.1 a = g0.2.1 a) : f_Mo_standard g = f_Mo_standard g0 := by
  funext x a b c
  unfold f_Mo_standard f_Mo_standard_83 f_Mo_standard_143 f_Mo_standard_162
  rw [e 76 (by decide), e 100 (by decide), e 102 (by decide)]
theorem yk_f81 (e : ∀ a, ¬ a ∈ yM_M → g.2.1 a = g0.2.1 a) : f_Mo_valueAlone_81 g = f_Mo_valueAlone_81 g0 := by
  funext x a b c
  unfold f_Mo_valueAlone_81
  rw [e 72 (by decide), yk_fd e, yk_ft e]
theorem yk_s29 (e : ∀ a, ¬ a ∈ yM_M → g.2.1 a = g0.2.1 a) {r : zs_H → Int32 → Option Int32} (hr : r g = r g0) : f_Mo_valueOf_29 r g = f_Mo_valueOf_29 r g0 := by
  funext k x y z
  unfold f_Mo_valueOf_29
  rw [e 75 (by decide), e 77 (by decide), hr, yk_fs e]
theorem yk_f29 (e : ∀ a, ¬ a ∈ yM_M → g.2.1 a = g0.2.1 a) {r : zs_H → Int32 → Option Int32} (hr : r g = r g0) (N : Nat) : f_Mo_valueOf_L29 r g N = f_Mo_valueOf_L29 r g0 N := by
  unfold f_Mo_valueOf_L29
  rw [yk_s29 e hr]
theorem yk_s2 (e : ∀ a, ¬ a ∈ yM_M → g.2.1 a = g0.2.1 a) {r q : zs_H → Int32 → Option Int32} (hr : r g = r g0) (hq : q g = q g0) : f_Mo_valueOf_2 q r g = f_Mo_valueOf_2 q r g0 := by
  funext k x y
  unfold f_Mo_valueOf_2
  rw [e 72 (by decide), e 76 (by decide), hq, yk_f29 e hr]
theorem yk_f2 (e : ∀ a, ¬ a ∈ yM_M → g.2.1 a = g0.2.1 a) {r q : zs_H → Int32 → Option Int32} (hr : r g = r g0) (hq : q g = q g0) (N : Nat) : f_Mo_valueOf_L2 q r g N = f_Mo_valueOf_L2 q r g0 N := by
  unfold f_Mo_valueOf_L2
  rw [yk_s2 e hr hq]
theorem yk_fa (e : ∀ a, ¬ a ∈ yM_M → g.2.1 a = g0.2.1 a) {r : zs_H → Int32 → Option Int32} (hr : r g = r g0) : g_Mo_valueAlone r g = g_Mo_valueAlone r g0 := by
  funext x
  unfold g_Mo_valueAlone f_Mo_valueAlone_52 f_Mo_valueAlone_67
  rw [e 76 (by decide), e 78 (by decide), e 74 (by decide), hr, yk_f81 e]
theorem yk_fo (e : ∀ a, ¬ a ∈ yM_M → g.2.1 a = g0.2.1 a) {r q : zs_H → Int32 → Option Int32} (hr : r g = r g0) (hq : q g = q g0) : g_Mo_valueOf q r g = g_Mo_valueOf q r g0 := by
  funext x
  unfold g_Mo_valueOf
  rw [yk_f2 e hr hq]
theorem yk_vs1 (D : Nat) : f_Mo_valueAlone (D + 1) = g_Mo_valueAlone (f_Mo_valueOf D) := by
  unfold f_Mo_valueAlone f_Mo_valueOf zy_Mo_valueAlone
  rw [zd_s]
theorem yk_vs2 (D : Nat) : f_Mo_valueOf (D + 1) = g_Mo_valueOf (f_Mo_valueAlone D) (f_Mo_valueOf D) := by
  unfold f_Mo_valueAlone f_Mo_valueOf zy_Mo_valueAlone
  rw [zd_s]
theorem yk_fv (e : ∀ a, ¬ a ∈ yM_M → g.2.1 a = g0.2.1 a) : ∀ (D : Nat), f_Mo_valueAlone D g = f_Mo_valueAlone D g0 ∧ f_Mo_valueOf D g = f_Mo_valueOf D g0 := by
  intro D
  induction D with
  | zero => exact ⟨rfl, rfl⟩
  | succ D ih =>
    rw [yk_vs1, yk_vs2]
    exact ⟨yk_fa e ih.2, yk_fo e ih.2 ih.1⟩
theorem yk_s133 (e : ∀ a, ¬ a ∈ yM_M → g.2.1 a = g0.2.1 a) {r : zs_H → Int32 → Option Int32} (hr : r g = r g0) : f_Mo_isConstant_133 r g = f_Mo_isConstant_133 r g0 := by
  funext k x
  unfold f_Mo_isConstant_133
  rw [e 78 (by decide), hr]
theorem yk_f133 (e : ∀ a, ¬ a ∈ yM_M → g.2.1 a = g0.2.1 a) {r : zs_H → Int32 → Option Int32} (hr : r g = r g0) (N : Nat) : f_Mo_isConstant_L133 r g N = f_Mo_isConstant_L133 r g0 N := by
  unfold f_Mo_isConstant_L133
  rw [yk_s133 e hr]
theorem yk_f126 (e : ∀ a, ¬ a ∈ yM_M → g.2.1 a = g0.2.1 a) {r : zs_H → Int32 → Option Int32} (hr : r g = r g0) : f_Mo_isConstant_126 r g = f_Mo_isConstant_126 r g0 := by
  funext x
  unfold f_Mo_isConstant_126
  rw [e 76 (by decide), yk_f133 e hr]
theorem yk_sL2 (e : ∀ a, ¬ a ∈ yM_M → g.2.1 a = g0.2.1 a) {r : zs_H → Int32 → Option Int32} (hr : r g = r g0) : f_Mo_isConstant_2 r g = f_Mo_isConstant_2 r g0 := by
  funext k x
  unfold f_Mo_isConstant_2 f_Mo_isConstant_52
  rw [e 72 (by decide), e 76 (by decide), e 77 (by decide), e 74 (by decide), hr, (yk_fv e 400).2, yk_fw e, yk_f126 e hr]
theorem yk_fL2 (e : ∀ a, ¬ a ∈ yM_M → g.2.1 a = g0.2.1 a) {r : zs_H → Int32 → Option Int32} (hr : r g = r g0) (N : Nat) : f_Mo_isConstant_L2 r g N = f_Mo_isConstant_L2 r g0 N := by
  unfold f_Mo_isConstant_L2
  rw [yk_sL2 e hr]
theorem yk_fi (e : ∀ a, ¬ a ∈ yM_M → g.2.1 a = g0.2.1 a) : ∀ (D : Nat), f_Mo_isConstant D g = f_Mo_isConstant D g0 := by
  intro D
  induction D with
  | zero => rfl
  | succ D ih =>
    funext x
    rw [yk_ic]
    unfold g_Mo_isConstant
    rw [yk_fL2 e ih]
end YKM
/-- the model codes the node k, on the way up to top -/
def yk_M (g0 : zs_H) (u : Nat) (Q : Nat → Prop) (dl k : Nat) (L : List yI) : Prop := ∀ (D n s v N top : Nat) (g : zs_H), yM_f g0 g → yM_c g n s u v → n + L.length ≤ 90000000 → 3 * dl + 2 ≤ D → top < 33500 → ¬ Q top → dl < N → ∃ g' N2, zF ≤ N2 + dl ∧ f_Mo_expressionCode_L2 (f_Mo_expressionCode D) (f_Mo_operandCode D) N g (nI top) (nI k) = f_Mo_expressionCode_L36 (f_Mo_expressionCode D) N2 g' (nI top) (nI k) ∧ yM_E s n (yv v L) g g'
section YKN
variable {g0 g : zs_H} {u dl k : Nat} {Q Q1 Q2 : Nat → Prop} {L L1 L2 : List yI}
theorem yk_uE {D N : Nat} {x y : Int32} : f_Mo_expressionCode_L2 (f_Mo_expressionCode D) (f_Mo_operandCode D) (N + 1) g x y = f_Mo_expressionCode_2 (f_Mo_expressionCode D) (f_Mo_operandCode D) (f_Mo_expressionCode_L2 (f_Mo_expressionCode D) (f_Mo_operandCode D) N) g x y := rfl
theorem yk_u36 {D N : Nat} {x y : Int32} : f_Mo_expressionCode_L36 (f_Mo_expressionCode D) (N + 1) g x y = f_Mo_expressionCode_36 (f_Mo_expressionCode D) (f_Mo_expressionCode_L36 (f_Mo_expressionCode D) N) g x y := rfl
theorem yk_M1 {D n s v : Nat} (hd : dl < 100000) (hk : k < 33500) (hQ : ¬ Q k) (H : yk_M g0 u Q dl k L) (f : yM_f g0 g) (c : yM_c g n s u v) (hn : n + L.length ≤ 90000000) (hD : 3 * dl + 2 < D) : ∃ g', f_Mo_expressionCode D g (nI k) = some g' ∧ yM_E s n (yv v L) g g' := by
  obtain ⟨D, rfl⟩ : ∃ z, D = z + 1 := ⟨D - 1, by omega⟩
  have hz := zF_big
  obtain ⟨g', N2, a1, a2, a3⟩ := H D n s v zF k g f c hn (by omega) hk hQ (by omega)
  obtain ⟨N2, rfl⟩ : ∃ z, N2 = z + 1 := ⟨N2 - 1, by omega⟩
  refine ⟨g', ?_, a3⟩
  show g_Mo_expressionCode (f_Mo_expressionCode D) (f_Mo_operandCode D) g (nI k) = _
  unfold g_Mo_expressionCode
  rw [a2, yk_u36]
  unfold f_Mo_expressionCode_36
  rw [if_pos rfl]
theorem yk_M0 (hk : k < 33500) (hc : ¬ (g0.2.1 72) k = 35 ∨ f_Mo_isConstant 400 g0 (nI k) = some 1) (O : ∀ (D n s v : Nat) (g : zs_H), yM_f g0 g → yM_c g n s u v → n + L.length ≤ 90000000 → 3 * dl + 2 ≤ D → ∃ g', f_Mo_operandCode D g (nI k) = some g' ∧ yM_E s n (yv v L) g g') : yk_M g0 u Q dl k L := by
  intro D n s v N top g f c hn hD ht hQ hN
  obtain ⟨N, rfl⟩ : ∃ z, N = z + 1 := ⟨N - 1, by omega⟩
  obtain ⟨g', o1, o2⟩ := O D n s v g f c hn hD
  refine ⟨g', zF, by omega, ?_, o2⟩
  have e31 : f_Mo_expressionCode_31 (f_Mo_expressionCode D) (f_Mo_operandCode D) g (nI top) (nI k) = f_Mo_expressionCode_L36 (f_Mo_expressionCode D) zF g' (nI top) (nI k) := by
    unfold f_Mo_expressionCode_31
    rw [o1, Option.bind_some]
  rw [yk_uE]
  unfold f_Mo_expressionCode_2
  rw [if_pos (zi_in (by omega) hk), nI_clamp (show k < 2147483648 by omega), f.2.1 72 (by decide), e31]
  rcases hc with z | z
  · rw [if_neg z]
  · rw [yk_fi f.2.1, z, Option.bind_some, if_neg (show ¬ (1 : Int32) = 0 by decide), ite_self]
theorem yk_oS (D : Nat) : f_Mo_operandCode (D + 1) g (nI k) = g_Mo_operandCode (f_Mo_callCode D) (f_Mo_expressionCode D) g (nI k) := rfl
theorem yk_Mc {w : Int32} (hk : k < 33500) (c1 : f_Mo_isConstant 400 g0 (nI k) = some 1) (c2 : f_Mo_valueOf 400 g0 (nI k) = some w) : yk_M g0 u Q dl k [(0, w, 0, 0)] := by
  refine yk_M0 hk (.inr c1) ?_
  intro D n s v g f c hn hD
  obtain ⟨D, rfl⟩ : ∃ z, D = z + 1 := ⟨D - 1, by omega⟩
  have hn' : n + 1 ≤ 90000000 := hn
  obtain ⟨g', e1, e2⟩ := yM_e c (by omega) 0 w 0 0 (by decide)
  refine ⟨g', ?_, e2⟩
  rw [yk_oS]
  unfold g_Mo_operandCode
  rw [yk_fi f.2.1, c1, Option.bind_some, if_neg (by decide), (yk_fv f.2.1 400).2, c2, Option.bind_some]
  exact (congrArg (fun z => zd_B z _) e1).trans rfl
theorem yk_M6 {km x : Nat} (hk : k < 33500) (hkm : km = 6 ∨ km = 33) (m1 : (g0.2.1 72) k = nI km) (c1 : f_Mo_isConstant 400 g0 (nI k) = some 0) (m2 : (g0.2.1 101) k = nI x) : yk_M g0 u Q dl k [(1, nI x, 0, 0)] := by
  refine yk_M0 hk (.inl (by rw [m1]; rcases hkm with rfl | rfl <;> decide)) ?_
  intro D n s v g f c hn hD
  obtain ⟨D, rfl⟩ : ∃ z, D = z + 1 := ⟨D - 1, by omega⟩
  have hn' : n + 1 ≤ 90000000 := hn
  obtain ⟨g', e1, e2⟩ := yM_e c (by omega) 1 (nI x) 0 0 (by decide)
  refine ⟨g', ?_, e2⟩
  rw [yk_oS]
  unfold g_Mo_operandCode
  rw [yk_fi f.2.1, c1, Option.bind_some, if_pos rfl]
  simp only [if_pos (zi_in (show k < 2147483648 by omega) hk), nI_clamp (show k < 2147483648 by omega), f.2.1 72 (by decide), f.2.1 101 (by decide), m2]
  rcases hkm with rfl | rfl
  · rw [m1, if_pos (by decide)]
    exact (congrArg (fun z => zd_B z _) e1).trans rfl
  · rw [m1, if_neg (by decide), if_neg (by decide), if_pos (by decide)]
    exact (congrArg (fun z => zd_B z _) e1).trans rfl
theorem yk_M36 {k1 dl1 : Nat} {cd : Int32} (hk : k < 33500) (hk1 : k1 < 33500) (hd1 : dl1 < dl) (hdl : dl < 10000) (m1 : (g0.2.1 72) k = 36) (c1 : f_Mo_isConstant 400 g0 (nI k) = some 0) (m2 : (g0.2.1 76) k = nI k1) (es : f_Mo_oneCode g0 (nI k) = some cd) (hQ1 : ¬ Q1 k1) (A : yk_M g0 u Q1 dl1 k1 L) : yk_M g0 u Q dl k (L ++ [(8, cd, 0, 0)]) := by
  refine yk_M0 hk (.inl (by rw [m1]; decide)) ?_
  intro D n s v g f c hn hD
  rw [List.length_append] at hn
  have hn' : n + (L.length + 1) ≤ 90000000 := hn
  obtain ⟨D, rfl⟩ : ∃ z, D = z + 1 := ⟨D - 1, by omega⟩
  obtain ⟨g1, a1, a2⟩ := yk_M1 (D := D) (by omega) hk1 hQ1 A f c (by omega) (by omega)
  have f1 := yM_fE f a2
  obtain ⟨g', e1, e2⟩ := yM_e (yM_cL c a2) (by omega) 8 cd 0 0 (by decide)
  refine ⟨g', ?_, yM_aL a2 e2⟩
  rw [yk_oS]
  unfold g_Mo_operandCode
  rw [yk_fi f.2.1, c1, Option.bind_some, if_pos rfl]
  simp only [if_pos (zi_in (show k < 2147483648 by omega) hk), nI_clamp (show k < 2147483648 by omega), f.2.1 72 (by decide), f.2.1 76 (by decide), m2]
  rw [m1, if_neg (by decide), if_neg (by decide), if_neg (by decide), if_pos rfl, a1, Option.bind_some, yk_ft f1.2.1, es, Option.bind_some]
  exact (congrArg (fun z => zd_B z _) e1).trans rfl
theorem yk_M32 {k1 dl1 x w : Nat} (hk : k < 33500) (hk1 : k1 < 33500) (hd1 : dl1 < dl) (hdl : dl < 10000) (m1 : (g0.2.1 72) k = 32) (c1 : f_Mo_isConstant 400 g0 (nI k) = some 0) (m2 : (g0.2.1 76) k = nI k1) (hv : ∀ g, yM_f g0 g → f_Mo_variable g (nI u) ((g0.2.1 74) k) = some (nI w)) (hw : w < 8400) (m3 : (g0.2.1 101) k = nI x) (hQ1 : ¬ Q1 k1) (A : yk_M g0 u Q1 dl1 k1 L) : yk_M g0 u Q dl k (L ++ [(3, nI x, (g0.2.1 97) w, (g0.2.1 98) w)]) := by
  refine yk_M0 hk (.inl (by rw [m1]; decide)) ?_
  intro D n s v g f c hn hD
  rw [List.length_append] at hn
  have hn' : n + (L.length + 1) ≤ 90000000 := hn
  obtain ⟨D, rfl⟩ : ∃ z, D = z + 1 := ⟨D - 1, by omega⟩
  obtain ⟨g1, a1, a2⟩ := yk_M1 (D := D) (by omega) hk1 hQ1 A f c (by omega) (by omega)
  have f1 := yM_fE f a2
  have f1' : ∀ a, ¬ a ∈ yM_M → g1.2.1 a = g0.2.1 a := fun a ha => f1.2.1 a ha
  obtain ⟨g', e1, e2⟩ := yM_e (yM_cL c a2) (by omega) 3 (nI x) ((g0.2.1 97) w) ((g0.2.1 98) w) (by decide)
  refine ⟨g', ?_, yM_aL a2 e2⟩
  rw [yk_oS]
  unfold g_Mo_operandCode
  rw [yk_fi f.2.1, c1, Option.bind_some, if_pos rfl]
  simp only [if_pos (zi_in (show k < 2147483648 by omega) hk), nI_clamp (show k < 2147483648 by omega), f.2.1 72 (by decide), f.2.1 76 (by decide), f.2.1 74 (by decide), m2, c.2.2.2, hv g f]
  rw [m1, if_neg (by decide), if_pos rfl, Option.bind_some, a1, Option.bind_some, if_pos (zi_in (by omega) hw), nI_clamp (show w < 2147483648 by omega), f1' 101 (by decide), f1' 97 (by decide), f1' 98 (by decide), m3]
  exact (congrArg (fun z => zd_B z _) e1).trans rfl
theorem yk_M35 {k1 k2 dl1 dl2 : Nat} {cd : Int32} (hk : k < 33500) (hk1 : k1 < 33500) (hk2 : k2 < 33500) (hd1 : dl1 < dl) (hd2 : dl2 < dl) (hdl : dl < 10000) (m1 : (g0.2.1 72) k = 35) (c1 : f_Mo_isConstant 400 g0 (nI k) = some 0) (m2 : (g0.2.1 76) k = nI k1) (m3 : (g0.2.1 75) k1 = nI k) (m4 : (g0.2.1 77) k = nI k2) (hQ : ∀ j, Q1 j → Q j) (hQ1 : Q k1) (hQ2 : ¬ Q2 k2) (es : f_Mo_signCode g0 (nI k) = some cd) (A : yk_M g0 u Q1 dl1 k1 L1) (B : yk_M g0 u Q2 dl2 k2 L2) : yk_M g0 u Q dl k (L1 ++ (L2 ++ [(7, cd, 0, 0)])) := by
  have hz := zF_big
  intro D n s v N top g f c hn hD ht hQt hN
  rw [List.length_append, List.length_append] at hn
  have hn' : n + (L1.length + (L2.length + 1)) ≤ 90000000 := hn
  obtain ⟨N, rfl⟩ : ∃ z, N = z + 1 := ⟨N - 1, by omega⟩
  obtain ⟨g1, N2, b1, b2, b3⟩ := A D n s v N top g f c (by omega) (by omega) ht (fun z => hQt (hQ _ z)) (by omega)
  obtain ⟨N2, rfl⟩ : ∃ z, N2 = z + 1 + 1 := ⟨N2 - 2, by omega⟩
  have f1 := yM_fE f b3
  have f1' : ∀ a, ¬ a ∈ yM_M → g1.2.1 a = g0.2.1 a := fun a ha => f1.2.1 a ha
  obtain ⟨g2, d1, d2⟩ := yk_M1 (D := D) (by omega) hk2 hQ2 B f1 (yM_cL c b3) (by omega) (by omega)
  have f2 := yM_fE f1 d2
  obtain ⟨g', e1, e2⟩ := yM_e (yM_cL (yM_cL c b3) d2) (by omega) 7 cd 0 0 (by decide)
  have hne : ¬ nI k1 = nI top := fun z => hQt (by rw [← (nI_eq (by omega) (by omega)).mp z]; exact hQ1)
  refine ⟨g', N2 + 1, by omega, ?_, yM_aL b3 (yM_aL d2 e2)⟩
  rw [yk_uE]
  unfold f_Mo_expressionCode_2
  rw [if_pos (zi_in (by omega) hk), nI_clamp (show k < 2147483648 by omega), f.2.1 72 (by decide), m1, if_pos rfl, yk_fi f.2.1, c1, Option.bind_some, if_pos rfl, f.2.1 76 (by decide), m2, b2, yk_u36]
  unfold f_Mo_expressionCode_36
  simp only [if_neg hne, if_pos (zi_in (show k1 < 2147483648 by omega) hk1), nI_clamp (show k1 < 2147483648 by omega), f1' 75 (by decide), m3, if_pos (zi_in (show k < 2147483648 by omega) hk), nI_clamp (show k < 2147483648 by omega), f1' 77 (by decide), m4]
  rw [d1, Option.bind_some, yk_fs f2.2.1, es, Option.bind_some]
  exact (congrArg (fun z => zd_B z _) e1).trans rfl
end YKN
