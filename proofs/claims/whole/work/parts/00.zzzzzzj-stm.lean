/-! The coder: single statements. -/
/-- what the class does with a statement -/
def yk_do (kd D d : Nat) (h : zs_H) (i : Nat) : Option zs_H := if kd = 12 then f_Cr_codeAssignment h (nI i) else if kd = 13 then f_Cr_codeInvocation h (nI i) else if kd = 15 then f_Cr_codeIf D h (nI i) (nI (d + 1)) else if kd = 16 then f_Cr_codeCase D h (nI i) (nI (d + 1)) else if kd = 19 then f_Cr_codeFor D h (nI i) (nI (d + 1)) else if kd = 20 then zd_B (f_Cd_emit h 10 ((h.1 47 6))) fun v h' => some (zs_uF h' 47 6 v) else zd_B (f_Cd_emit h 18 0) fun _ h' => some h'
def yk_SC (h0 : zs_H) (dl kd i ow oc : Nat) (T : ys) : Prop := ∀ (D d n v q : Nat) (h : zs_H), yC_f h0 h → (h.1 41 5) = nI n → (h.1 47 4) = nI ow → n + yz_l T ≤ 90000000 → 2 * dl + 2 ≤ D → d + dl ≤ 239 → ∃ h', yk_do kd D d h i = some h' ∧ yC_R n v q T (ow + oc) h h'
def yk_SM (g0 : zs_H) (b dl k : Nat) (T : ys) (c20 c11 : Nat) : Prop := ∀ (D n s v q w ww : Nat) (g : zs_H), yM_f g0 g → yM_c g n s b v → (g.1 68 68) = nI w → (g.1 68 66) = nI ww → n + yz_l T ≤ 90000000 → w + c20 ≤ 4000 → ww + c11 ≤ 8400 → 2 * dl + 2 ≤ D → ∃ g', f_Mo_statementCode D g (nI k) = some g' ∧ yM_R s n v q T w ww g g'
section YKS
variable {h0 h g0 g : zs_H} {dl i k ow b c20 c11 : Nat} {L L1 L2 : List yI}
theorem yz_il : yz_l (yz_i L) = L.length := rfl
theorem yk_S12 {a c w x dl1 : Nat} (hi : i < 32784) (ec : (h0.2.1 17) i = nI a) (ha : a < 32784) (ka : (h0.2.1 13) a = 6) (hw : w < 6000) (ew : (h0.2.1 16) a = nI w) (ex : (h0.2.1 32) w = nI x) (en : (h0.2.1 18) a = nI c) (hd : dl1 ≤ 190) (A : yk_C h0 dl1 (nI c) L) : yk_SC h0 dl 12 i ow 0 (yz_i (L ++ [(2, nI x, 0, 0)])) := by
  intro D d n v q h f e ho hn _ _
  have hn' : n + (L.length + 1) ≤ 90000000 := by
    rw [yz_il, List.length_append] at hn; exact hn
  have f' : ∀ a, ¬ a ∈ yC_M → h.2.1 a = h0.2.1 a := fun a ha => f.2.1 a ha
  obtain ⟨h1, a1, a2⟩ := A 400 0 n h f e (by omega) (by omega) (by omega)
  have f1 := yC_fE f a2
  obtain ⟨h2, b1, b2⟩ := yC_emit a2.1 (by omega) 2 (by decide) (nI x)
  refine ⟨h2, ?_, yC_R0 ho (yC_ap a2 b2)⟩
  show f_Cr_codeAssignment h (nI i) = _
  unfold f_Cr_codeAssignment
  simp only [if_pos (zi_in (show i < 2147483648 by omega) hi), nI_clamp (show i < 2147483648 by omega), f' 17 (by decide), f' 13 (by decide), f' 18 (by decide), f' 16 (by decide), ec, if_pos (zi_in (show a < 2147483648 by omega) ha), nI_clamp (show a < 2147483648 by omega), ew, if_pos (zi_in (show w < 2147483648 by omega) hw), nI_clamp (show w < 2147483648 by omega), en]
  rw [ka, if_pos rfl, show (0 : Int32) = nI 0 from rfl, a1, Option.bind_some, f1.2.1 32 (by decide), ex]
  exact (congrArg (fun z => zd_B z _) b1).trans rfl
theorem yk_S12e {a c w x dl1 dl2 : Nat} {xe : Int32} (hi : i < 32784) (ec : (h0.2.1 17) i = nI a) (ha : a < 32784) (ka : (h0.2.1 13) a = 32) (hw : w < 6000) (ew : (h0.2.1 16) a = nI w) (ex : (h0.2.1 32) w = nI x) (en : (h0.2.1 18) a = nI c) (ee : (h0.2.1 17) a = xe) (hd : dl1 ≤ 190) (hd2 : dl2 ≤ 190) (A : yk_C h0 dl1 xe L1) (B : yk_C h0 dl2 (nI c) L2) : yk_SC h0 dl 12 i ow 0 (yz_i (L1 ++ (L2 ++ [(4, nI x, (h0.2.1 33) w, (h0.2.1 34) w)]))) := by
  intro D d n v q h f e ho hn _ _
  have hn' : n + (L1.length + (L2.length + 1)) ≤ 90000000 := by
    rw [yz_il, List.length_append, List.length_append] at hn; exact hn
  have f' : ∀ a, ¬ a ∈ yC_M → h.2.1 a = h0.2.1 a := fun a ha => f.2.1 a ha
  obtain ⟨h1, a1, a2⟩ := A 400 0 n h f e (by omega) (by omega) (by omega)
  have f1 := yC_fE f a2
  obtain ⟨h2, b1, b2⟩ := B 400 0 _ h1 f1 a2.1 (by omega) (by omega) (by omega)
  have f2 := yC_fE f1 b2
  obtain ⟨h3, c1, c2⟩ := yC_emit b2.1 (by omega) 4 (by decide) (nI x)
  have f3 := yC_fE f2 c2
  obtain ⟨h4, d1, d2⟩ := yC_with (by omega) c2 ((h0.2.1 33) w) ((h0.2.1 34) w)
  refine ⟨h4, ?_, yC_R0 ho (yC_ap a2 (yC_ap b2 d2))⟩
  show f_Cr_codeAssignment h (nI i) = _
  unfold f_Cr_codeAssignment
  simp only [if_pos (zi_in (show i < 2147483648 by omega) hi), nI_clamp (show i < 2147483648 by omega), f' 17 (by decide), f' 13 (by decide), f' 18 (by decide), f' 16 (by decide), ec, if_pos (zi_in (show a < 2147483648 by omega) ha), nI_clamp (show a < 2147483648 by omega), ew, if_pos (zi_in (show w < 2147483648 by omega) hw), nI_clamp (show w < 2147483648 by omega), ee]
  rw [ka, if_neg (by decide), show (0 : Int32) = nI 0 from rfl, a1, Option.bind_some, f1.2.1 18 (by decide), en, b1, Option.bind_some, f2.2.1 32 (by decide), ex]
  refine (congrArg (fun z => zd_B z _) c1).trans ?_
  show (f_Cd_with h3 ((h3.2.1 33) w) ((h3.2.1 34) w)).bind _ = _
  rw [f3.2.1 33 (by decide), f3.2.1 34 (by decide), d1, Option.bind_some]
theorem yk_S20 : yk_SC h0 dl 20 i ow 0 (.inner 3 ([], 0, 0) () .leaf .leaf) := by
  intro D d n v q h f e ho hn _ _
  have hn' : n + 1 ≤ 90000000 := hn
  obtain ⟨h1, b1, b2⟩ := yC_emit e (by omega) 10 (by decide) ((h.1 47 6))
  refine ⟨zs_uF h1 47 6 (nI n), show zd_B (f_Cd_emit h 10 ((h.1 47 6))) (fun v h' => some (zs_uF h' 47 6 v)) = _ from (congrArg (fun z => zd_B z _) b1).trans rfl, ?_, ?_, fun h4 => ?_⟩
  · obtain ⟨e1, e2, e3⟩ := b2
    refine ⟨e1, zfr_F (by decide) (zfr_w e2 (by decide) (by decide) (by decide)), fun hn4 => ⟨(e3 hn4).1, fun k j ej => ?_⟩⟩
    obtain ⟨rfl, rfl⟩ := yI_one (show [((10, nI q, 0, 0) : yI)][k]? = some j from ej)
    obtain ⟨m1, m2, m3, m4⟩ := (e3 hn4).2 0 _ rfl
    exact ⟨⟨m1, m3, m4⟩, fun w => absurd (show n + 0 ∈ [n] from List.mem_singleton.mpr rfl) w⟩
  · exact (b2.2.1.1 _ _ (by decide)).trans ho
  · obtain ⟨_, m2, _, _⟩ := (b2.2.2 h4).2 0 _ rfl
    exact ⟨by show n < n + 1; omega, rfl, m2⟩
theorem yk_S21 (hk : i < 32784) : yk_SC h0 dl 21 i ow 0 (.inner 4 ([], 0, 0) () .leaf .leaf) := by
  intro D d n v q h f e ho hn _ _
  have hn' : n + 1 ≤ 90000000 := hn
  obtain ⟨h1, b1, b2⟩ := yC_emit e (by omega) 18 (by decide) 0
  exact ⟨h1, show zd_B (f_Cd_emit h 18 0) (fun _ h' => some h') = _ from (congrArg (fun z => zd_B z _) b1).trans rfl, yC_EH b2, (b2.2.1.1 _ _ (by decide)).trans ho, fun _ => b2.2.1.1 _ _ (by decide)⟩
theorem yk_sS (D : Nat) : f_Mo_statementCode (D + 1) g (nI k) = g_Mo_statementCode (f_Mo_choiceCode D) (f_Mo_loopCode D) g (nI k) := rfl
theorem yk_T12 {ka kc dl1 x : Nat} {Q1 : Nat → Prop} (hk : k < 33500) (m0 : (g0.2.1 72) k = 12) (m1 : (g0.2.1 76) k = nI ka) (hka : ka < 33500) (m2 : (g0.2.1 72) ka = 6) (m3 : (g0.2.1 77) k = nI kc) (hkc : kc < 33500) (m4 : (g0.2.1 101) ka = nI x) (hd : dl1 ≤ 190) (hQ : ¬ Q1 kc) (A : yk_M g0 b Q1 dl1 kc L) : yk_SM g0 b dl k (yz_i (L ++ [(2, nI x, 0, 0)])) c20 c11 := by
  intro D n s v q w ww g f c hl hw hn _ _ hD
  obtain ⟨D, rfl⟩ : ∃ z, D = z + 1 := ⟨D - 1, by omega⟩
  have hn' : n + (L.length + 1) ≤ 90000000 := by
    rw [yz_il, List.length_append] at hn; exact hn
  have f' : ∀ a, ¬ a ∈ yM_M → g.2.1 a = g0.2.1 a := fun a ha => f.2.1 a ha
  obtain ⟨g1, a1, a2⟩ := yk_M1 (D := 600) (by omega) hkc hQ A f c (by omega) (by omega)
  have f1 := yM_fE f a2
  obtain ⟨g2, b1, b2⟩ := yM_e (yM_cL c a2) (by omega) 2 (nI x) 0 0 (by decide)
  refine ⟨g2, ?_, yM_R0 hl (yM_aL a2 b2)⟩
  have ea : f_Mo_assignmentCode g (nI k) = some g2 := by
    unfold f_Mo_assignmentCode
    simp only [if_pos (zi_in (show k < 2147483648 by omega) hk), nI_clamp (show k < 2147483648 by omega), f' 76 (by decide), f' 72 (by decide), f' 77 (by decide), m1, if_pos (zi_in (show ka < 2147483648 by omega) hka), nI_clamp (show ka < 2147483648 by omega), m3]
    rw [m2, if_pos rfl, a1, Option.bind_some, f1.2.1 101 (by decide), m4]
    exact (congrArg (fun z => zd_B z _) b1).trans rfl
  rw [yk_sS]
  unfold g_Mo_statementCode
  simp only [if_pos (zi_in (show k < 2147483648 by omega) hk), nI_clamp (show k < 2147483648 by omega), f' 72 (by decide)]
  rw [m0, if_pos rfl, ea]
  rfl
theorem yk_T12e {ka kc ke dl1 dl2 x wv : Nat} {Q1 Q2 : Nat → Prop} (hk : k < 33500) (m0 : (g0.2.1 72) k = 12) (m1 : (g0.2.1 76) k = nI ka) (hka : ka < 33500) (m2 : (g0.2.1 72) ka = 32) (m3 : (g0.2.1 77) k = nI kc) (hkc : kc < 33500) (m4 : (g0.2.1 101) ka = nI x) (m5 : (g0.2.1 76) ka = nI ke) (hke : ke < 33500) (hv : f_Mo_variable g0 (nI b) ((g0.2.1 74) ka) = some (nI wv)) (hwv : wv < 8400) (hd : dl1 ≤ 190) (hd2 : dl2 ≤ 190) (hQ : ¬ Q1 ke) (hQ2 : ¬ Q2 kc) (A : yk_M g0 b Q1 dl1 ke L1) (B : yk_M g0 b Q2 dl2 kc L2) : yk_SM g0 b dl k (yz_i (L1 ++ (L2 ++ [(4, nI x, (g0.2.1 97) wv, (g0.2.1 98) wv)]))) c20 c11 := by
  intro D n s v q w ww g f c hl hw hn _ _ hD
  obtain ⟨D, rfl⟩ : ∃ z, D = z + 1 := ⟨D - 1, by omega⟩
  have hn' : n + (L1.length + (L2.length + 1)) ≤ 90000000 := by
    rw [yz_il, List.length_append, List.length_append] at hn; exact hn
  have f' : ∀ a, ¬ a ∈ yM_M → g.2.1 a = g0.2.1 a := fun a ha => f.2.1 a ha
  obtain ⟨g1, a1, a2⟩ := yk_M1 (D := 600) (by omega) hke hQ A f c (by omega) (by omega)
  have f1 := yM_fE f a2
  obtain ⟨g2, b1, b2⟩ := yk_M1 (D := 600) (by omega) hkc hQ2 B f1 (yM_cL c a2) (by omega) (by omega)
  have f2 := yM_fE f1 b2
  have f2' : ∀ a, ¬ a ∈ yM_M → g2.2.1 a = g0.2.1 a := fun a ha => f2.2.1 a ha
  obtain ⟨g3, d1, d2⟩ := yM_e (yM_cL (yM_cL c a2) b2) (by omega) 4 (nI x) ((g0.2.1 97) wv) ((g0.2.1 98) wv) (by decide)
  refine ⟨g3, ?_, yM_R0 hl (yM_aL a2 (yM_aL b2 d2))⟩
  have ea : f_Mo_assignmentCode g (nI k) = some g3 := by
    unfold f_Mo_assignmentCode
    simp only [if_pos (zi_in (show k < 2147483648 by omega) hk), nI_clamp (show k < 2147483648 by omega), f' 76 (by decide), f' 72 (by decide), f' 77 (by decide), f' 74 (by decide), m1, if_pos (zi_in (show ka < 2147483648 by omega) hka), nI_clamp (show ka < 2147483648 by omega), m5, c.2.2.2, yk_fva f, hv]
    rw [m2, if_neg (by decide), Option.bind_some, a1, Option.bind_some, f1.2.1 77 (by decide), m3, b1, Option.bind_some, if_pos (zi_in (by omega) hwv), nI_clamp (show wv < 2147483648 by omega), f2' 101 (by decide), m4, f2' 97 (by decide), f2' 98 (by decide)]
    exact (congrArg (fun z => zd_B z _) d1).trans rfl
  rw [yk_sS]
  unfold g_Mo_statementCode
  simp only [if_pos (zi_in (show k < 2147483648 by omega) hk), nI_clamp (show k < 2147483648 by omega), f' 72 (by decide)]
  rw [m0, if_pos rfl, ea]
  rfl
theorem yk_T21 (hk : k < 33500) (m0 : (g0.2.1 72) k = 21) : yk_SM g0 b dl k (.inner 4 ([], 0, 0) () .leaf .leaf) c20 c11 := by
  intro D n s v q w ww g f c hl hw hn _ _ hD
  obtain ⟨D, rfl⟩ : ∃ z, D = z + 1 := ⟨D - 1, by omega⟩
  have hn' : n + 1 ≤ 90000000 := hn
  obtain ⟨g1, b1, b2⟩ := yM_e c (by omega) 18 0 0 0 (by decide)
  refine ⟨g1, ?_, yM_EH b2, b2.2.1.1 _ _ (by decide), b2.2.1.1 _ _ (by decide), (b2.2.1.1 _ _ (by decide)).trans hl, trivial, fun j _ => by rw [b2.2.1.2.1 _ (by decide)], fun j _ => by rw [b2.2.1.2.1 _ (by decide)]⟩
  rw [yk_sS]
  unfold g_Mo_statementCode
  simp only [if_pos (zi_in (show k < 2147483648 by omega) hk), nI_clamp (show k < 2147483648 by omega), f.2.1 72 (by decide)]
  rw [m0, if_neg (by decide), if_neg (by decide), if_neg (by decide), if_neg (by decide), if_neg (by decide), if_neg (by decide)]
  exact (congrArg (fun z => zd_B z _) b1).trans rfl
theorem yk_T20 (hk : k < 33500) (m0 : (g0.2.1 72) k = 20) (hc : 1 ≤ c20) : yk_SM g0 b dl k (.inner 3 ([], 0, 0) () .leaf .leaf) c20 c11 := by
  intro D n s v q w ww g f c hl hw hn hc20 _ hD
  obtain ⟨D, rfl⟩ : ∃ z, D = z + 1 := ⟨D - 1, by omega⟩
  have hn' : n + 1 ≤ 90000000 := hn
  obtain ⟨⟨c1, c2⟩, ⟨c3, c4, c5⟩, c6, c7⟩ := id c
  -- the jump's end is not known yet
  obtain ⟨g1, b1, b2⟩ := yM_emit c1 (by omega) c3 (by omega) c5 c2 c6 (10, nI s, 0, 0)
  have eA : yM_A s (10, nI s, 0, 0) = 0 := by
    unfold yM_A
    rw [if_pos (.inl rfl)]
    show nI s - nI s = 0
    rw [zi_sub (Nat.le_refl s), Nat.sub_self]; rfl
  rw [eA] at b1
  refine ⟨zs_uF (zs_uM g1 111 w (nI (n - s))) 68 68 (nI (w + 1)), ?_, ?_, b2.2.1.1 _ _ (by decide), b2.2.1.1 _ _ (by decide), rfl, ?_, fun j hj => ?_, fun j _ => ?_⟩
  · rw [yk_sS]
    unfold g_Mo_statementCode
    simp only [if_pos (zi_in (show k < 2147483648 by omega) hk), nI_clamp (show k < 2147483648 by omega), f.2.1 72 (by decide)]
    rw [m0, if_neg (by decide), if_neg (by decide), if_neg (by decide), if_neg (by decide), if_neg (by decide), if_pos rfl]
    refine (congrArg (fun z => zd_B z _) b1).trans ?_
    show (if zd_in ((g.1 68 68)) 4000 then some (zs_uF (zs_uM g1 111 ((g.1 68 68)).toNatClampNeg (nI (n - s))) 68 68 ((g1.1 68 68) + 1)) else none) = _
    rw [show (g1.1 68 68) = nI w from (b2.2.1.1 _ _ (by decide)).trans hl, hl, if_pos (zi_in (by omega) (by omega)), nI_clamp (show w < 2147483648 by omega), nI_1]
  · obtain ⟨e1, e2, e3⟩ := b2
    refine ⟨e1, zfr_F (by decide) (zfr_M (by decide) (zfr_w e2 (by decide) (by decide) (by decide))), fun hn4 => ⟨fun j hj a ha => ?_, fun kk j ej => ?_⟩⟩
    · rw [← (e3 hn4).1 j hj a ha, zu_FM, zu_MM, if_neg (fun q => by rw [q.1] at ha; exact absurd ha (by decide))]
    · obtain ⟨rfl, rfl⟩ := yI_one (show [(((10, nI q, 0, 0), v) : yJ)][kk]? = some j from ej)
      obtain ⟨m1, m2, m3, m4, m5⟩ := (e3 hn4).2 0 _ rfl
      refine ⟨⟨?_, ?_, ?_, ?_⟩, fun w => absurd (show n + 0 ∈ [n] from List.mem_singleton.mpr rfl) w⟩
      · rw [zu_FM, zu_MM, if_neg (fun q => absurd q.1 (by decide))]; exact m1
      · rw [zu_FM, zu_MM, if_neg (fun q => absurd q.1 (by decide))]; exact m4
      · rw [zu_FM, zu_MM, if_neg (fun q => absurd q.1 (by decide))]; exact m5
      · rw [if_neg (show ¬ (10 : Nat) = 13 by decide), zu_FM, zu_MM, if_neg (fun q => absurd q.1 (by decide))]; exact m3
  · refine ⟨⟨?_, c2, by omega⟩, trivial⟩
    rw [zu_FM, zu_MM, if_pos ⟨rfl, rfl⟩]
  · rw [zu_FM, zu_MM, if_neg (fun q => by have : j = w := q.2; omega), b2.2.1.2.1 _ (by decide)]
  · rw [zu_FM, zu_MM, if_neg (fun q => absurd q.1 (by decide)), b2.2.1.2.1 _ (by decide)]
end YKS
