/-! The coder: invocations; the statements of a body. -/
/-- the parameters of an invocation -/
def yz_p (x : Nat) : List (List yI × Nat) → List yI
  | [] => []
  | (L, off) :: r => L ++ ([(2, nI (x + off), 0, 0)] ++ yz_p x r)
def yk_PC (h0 : zs_H) (x : Nat) : List (List yI × Nat) → Int32 → Prop
  | [], y => y = -1
  | (L, off) :: r, y => ∃ a cv dl, a < 32784 ∧ y = nI a ∧ dl ≤ 190 ∧ yk_C h0 dl ((h0.2.1 17) a) L ∧ cv < 6000 ∧ (h0.2.1 16) a = nI cv ∧ (h0.2.1 32) cv = nI off ∧ yk_PC h0 x r ((h0.2.1 18) a)
def yk_PM (g0 : zs_H) (b x : Nat) : List (List yI × Nat) → Int32 → Prop
  | [], y => y = -1
  | (L, off) :: r, y => ∃ a ke dl, ∃ Q : Nat → Prop, a < 33500 ∧ y = nI a ∧ dl ≤ 190 ∧ ke < 33500 ∧ ¬ Q ke ∧ (g0.2.1 76) a = nI ke ∧ yk_M g0 b Q dl ke L ∧ (g0.2.1 101) a = nI (x + off) ∧ yk_PM g0 b x r ((g0.2.1 78) a)
section YKI
variable {h0 h g0 g : zs_H} {dl i k ow b c20 c11 : Nat}
theorem yk_ui {N : Nat} {x2 x3 x4 x5 : Int32} : f_Cr_codeInvocation_L34 (N + 1) h x2 x3 x4 x5 = f_Cr_codeInvocation_34 (f_Cr_codeInvocation_L34 N) h x2 x3 x4 x5 := rfl
theorem yk_um {N : Nat} {x1 x3 : Int32} : f_Mo_statementCode_L75 (N + 1) g x1 x3 = f_Mo_statementCode_75 (f_Mo_statementCode_L75 N) g x1 x3 := rfl
theorem yk_ip {sz x : Nat} {x2 : Int32} (hsz : (h0.1 12 6) = nI sz) (hs2 : sz < 100000) : ∀ (ps : List (List yI × Nat)) (y : Int32) (h : zs_H) (n t N : Nat), yk_PC h0 x ps y → yC_f h0 h → (h.1 41 5) = nI n → n + (yz_p x ps).length ≤ 90000000 → t + ps.length ≤ sz → ps.length < N → ∃ h', f_Cr_codeInvocation_L34 N h x2 (nI x) y (nI t) = f_Cr_codeInvocation_114 h' x2 (nI x) ∧ yC_E n (yz_p x ps) h h' := by
  intro ps
  induction ps with
  | nil =>
    intro y h n t N P f e hn ht hN
    obtain ⟨N, rfl⟩ : ∃ z, N = z + 1 := ⟨N - 1, by omega⟩
    refine ⟨h, ?_, yC_nil e⟩
    rw [yk_ui, show y = -1 from P]
    unfold f_Cr_codeInvocation_34
    rw [if_pos (show (-1 : Int32) = -1 from rfl), ite_self]
  | cons p ps ih =>
    obtain ⟨L, off⟩ := p
    intro y h n t N ⟨a, cv, dl, a1, a2, a3, A, c1, c2, c3, P⟩ f e hn ht hN
    have hn' : n + (L ++ ([((2, nI (x + off), 0, 0) : yI)] ++ yz_p x ps)).length ≤ 90000000 := hn
    rw [List.length_append, List.length_append] at hn'
    have hn2 : n + (L.length + (1 + (yz_p x ps).length)) ≤ 90000000 := hn'
    have ht' : t + (ps.length + 1) ≤ sz := ht
    have hN' : ps.length + 1 < N := hN
    obtain ⟨N, rfl⟩ : ∃ z, N = z + 1 := ⟨N - 1, by omega⟩
    have f' : ∀ a, ¬ a ∈ yC_M → h.2.1 a = h0.2.1 a := fun a ha => f.2.1 a ha
    obtain ⟨h1, b1, b2⟩ := A 400 0 n h f e (by omega) (by omega) (by omega)
    have f1 := yC_fE f b2
    have f1' : ∀ a, ¬ a ∈ yC_M → h1.2.1 a = h0.2.1 a := fun a ha => f1.2.1 a ha
    obtain ⟨h2, d1, d2⟩ := yC_emit b2.1 (by omega) 2 (by decide) (nI (x + off))
    have f2 := yC_fE f1 d2
    have e2 := d2.1
    obtain ⟨h3, g1, g2⟩ := ih _ h2 _ (t + 1) N P f2 e2 (by show n + L.length + 1 + _ ≤ _; omega) (by omega) (by omega)
    refine ⟨h3, ?_, yC_ap b2 (yC_ap d2 g2)⟩
    rw [yk_ui, a2]
    unfold f_Cr_codeInvocation_34
    rw [f.1 _ _ (by decide), hsz, if_neg (mt (nI_leI (by omega) (by omega)).mp (by omega)), if_neg (zc_m1 (by omega))]
    simp only [if_pos (zi_in (show a < 2147483648 by omega) a1), nI_clamp (show a < 2147483648 by omega), f' 17 (by decide)]
    rw [show f_Cr_codeExpression 400 h ((h0.2.1 17) a) 0 = some h1 from b1, Option.bind_some]
    simp only [f1' 16 (by decide), c2, if_pos (zi_in (show cv < 2147483648 by omega) c1), nI_clamp (show cv < 2147483648 by omega), f1' 32 (by decide), c3, nI_add]
    refine (congrArg (fun z => zd_B z _) d1).trans ?_
    show f_Cr_codeInvocation_L34 N h2 x2 (nI x) ((h2.2.1 18) a) (nI t + nI 1) = _
    rw [f2.2.1 18 (by decide), nI_add]
    exact g1
theorem yk_S13 {u x B sz : Nat} {ps : List (List yI × Nat)} (hi : i < 32784) (hu : u < 5950) (ev : (h0.2.1 16) i = nI (32 + u)) (ex : (h0.2.1 32) (32 + u) = nI x) (eB : (h0.2.1 30) (32 + u) = nI B) (hB : B < 600) (hsz : (h0.1 12 6) = nI sz) (hs2 : sz < 100000) (hl : ps.length ≤ sz) (P : yk_PC h0 x ps ((h0.2.1 17) i)) : yk_SC h0 dl 13 i ow 0 (yz_i (yz_p x ps ++ [if 9 ≤ B then (15, nI (B - 9), nI x, 0) else (17, nI B, nI x, 0)])) := by
  have hz := zF_big
  intro D d n v q h f e ho hn _ _
  have hn' : n + ((yz_p x ps).length + 1) ≤ 90000000 := by
    rw [yz_il, List.length_append] at hn; exact hn
  have f' : ∀ a, ¬ a ∈ yC_M → h.2.1 a = h0.2.1 a := fun a ha => f.2.1 a ha
  obtain ⟨h1, a1, a2⟩ := yk_ip (x2 := nI (32 + u)) hsz hs2 ps _ h n 0 zF P f e (by omega) (by omega) (by omega)
  have f1 := yC_fE f a2
  have e0 : f_Cr_codeInvocation h (nI i) = f_Cr_codeInvocation_114 h1 (nI (32 + u)) (nI x) := by
    unfold f_Cr_codeInvocation
    simp only [if_pos (zi_in (show i < 2147483648 by omega) hi), nI_clamp (show i < 2147483648 by omega), f' 16 (by decide), f' 17 (by decide), f' 32 (by decide), ev, if_pos (zi_in (show 32 + u < 2147483648 by omega) (show 32 + u < 6000 by omega)), nI_clamp (show 32 + u < 2147483648 by omega), ex]
    exact a1
  by_cases z : 9 ≤ B
  · obtain ⟨h2, b1, b2⟩ := yC_emit a2.1 (by omega) 15 (by decide) (nI (B - 9))
    obtain ⟨h3, c1, c2⟩ := yC_with (by omega) b2 (nI x) 0
    rw [if_pos z]
    refine ⟨h3, ?_, yC_R0 ho (yC_ap a2 c2)⟩
    show f_Cr_codeInvocation h (nI i) = _
    rw [e0]
    unfold f_Cr_codeInvocation_114
    rw [if_pos (zi_in (by omega) (by omega)), nI_clamp (show 32 + u < 2147483648 by omega), f1.2.1 30 (by decide), eB, if_pos ((zc_le (k := 9) (by decide) (by omega)).mpr z), zc_sb (k := 9) z]
    refine (congrArg (fun z => zd_B z _) b1).trans ?_
    show f_Cr_codeInvocation_162 h2 (nI x) = _
    unfold f_Cr_codeInvocation_162
    rw [c1, Option.bind_some]
  · obtain ⟨h2, b1, b2⟩ := yC_emit a2.1 (by omega) 17 (by decide) (nI B)
    obtain ⟨h3, c1, c2⟩ := yC_with (by omega) b2 (nI x) 0
    rw [if_neg z]
    refine ⟨h3, ?_, yC_R0 ho (yC_ap a2 c2)⟩
    show f_Cr_codeInvocation h (nI i) = _
    rw [e0]
    unfold f_Cr_codeInvocation_114
    rw [if_pos (zi_in (by omega) (by omega)), nI_clamp (show 32 + u < 2147483648 by omega), f1.2.1 30 (by decide), eB, if_neg (mt (zc_le (k := 9) (by decide) (by omega)).mp z)]
    refine (congrArg (fun z => zd_B z _) b1).trans ?_
    show f_Cr_codeInvocation_162 h2 (nI x) = _
    unfold f_Cr_codeInvocation_162
    rw [c1, Option.bind_some]
theorem yk_tp {x : Nat} {x1 : Int32} : ∀ (ps : List (List yI × Nat)) (y : Int32) (g : zs_H) (n s v N : Nat), yk_PM g0 b x ps y → yM_f g0 g → yM_c g n s b v → n + (yz_p x ps).length ≤ 90000000 → ps.length < N → ∃ g', f_Mo_statementCode_L75 N g x1 y = f_Mo_statementCode_75 (fun _ _ _ => none) g' x1 (-1) ∧ yM_E s n (yv v (yz_p x ps)) g g' := by
  intro ps
  induction ps with
  | nil =>
    intro y g n s v N P f c hn hN
    obtain ⟨N, rfl⟩ : ∃ z, N = z + 1 := ⟨N - 1, by omega⟩
    refine ⟨g, ?_, yM_nil c.1.1⟩
    rw [yk_um, show y = -1 from P]
    unfold f_Mo_statementCode_75
    rw [if_pos (show (-1 : Int32) < 0 by decide), if_pos (show (-1 : Int32) < 0 by decide)]
  | cons p ps ih =>
    obtain ⟨L, off⟩ := p
    intro y g n s v N ⟨a, ke, dl, Q, a1, a2, a3, k1, k2, k3, A, k4, P⟩ f c hn hN
    have hn' : n + (L ++ ([((2, nI (x + off), 0, 0) : yI)] ++ yz_p x ps)).length ≤ 90000000 := hn
    rw [List.length_append, List.length_append] at hn'
    have hn2 : n + (L.length + (1 + (yz_p x ps).length)) ≤ 90000000 := hn'
    have hN' : ps.length + 1 < N := hN
    obtain ⟨N, rfl⟩ : ∃ z, N = z + 1 := ⟨N - 1, by omega⟩
    have f' : ∀ a, ¬ a ∈ yM_M → g.2.1 a = g0.2.1 a := fun a ha => f.2.1 a ha
    obtain ⟨g1, b1, b2⟩ := yk_M1 (D := 600) (by omega) k1 k2 A f c (by omega) (by omega)
    have f1 := yM_fE f b2
    have c1 := yM_cL c b2
    obtain ⟨g2, d1, d2⟩ := yM_e c1 (by omega) 2 (nI (x + off)) 0 0 (by decide)
    have f2 := yM_fE f1 d2
    obtain ⟨g3, q1, q2⟩ := ih _ g2 _ s v N P f2 (yM_cL c1 d2) (by show n + L.length + 1 + _ ≤ _; omega) (by omega)
    refine ⟨g3, ?_, yM_aL b2 (yM_aL d2 q2)⟩
    rw [yk_um, a2]
    unfold f_Mo_statementCode_75
    rw [if_neg (nI_pos (by omega))]
    simp only [if_pos (zi_in (show a < 2147483648 by omega) a1), nI_clamp (show a < 2147483648 by omega), f' 76 (by decide), k3]
    rw [b1, Option.bind_some]
    simp only [f1.2.1 101 (by decide), k4]
    refine (congrArg (fun z => zd_B z _) d1).trans ?_
    show f_Mo_statementCode_L75 N g2 x1 ((g2.2.1 78) a) = _
    rw [f2.2.1 78 (by decide), q1]
    unfold f_Mo_statementCode_75
    rw [if_pos (show (-1 : Int32) < 0 by decide)]
theorem yk_T13 {u x B : Nat} {ps : List (List yI × Nat)} (hk : k < 33500) (m0 : (g0.2.1 72) k = 13) (hu : u < 8400) (hv : f_Mo_variable g0 (nI b) ((g0.2.1 74) k) = some (nI u)) (ty : (g0.2.1 93) u = nI (if B < 9 then 100000 + B else B - 9)) (hB : B < 600) (m1 : (g0.2.1 101) k = nI x) (m2 : (g0.2.1 102) k = nI (if B < 9 then 100 + B else B - 9)) (hl : ps.length < 40000) (P : yk_PM g0 b x ps ((g0.2.1 76) k)) : yk_SM g0 b dl k (yz_i (yz_p x ps ++ [if 9 ≤ B then (15, nI (B - 9), nI x, 0) else (17, nI B, nI x, 0)])) c20 c11 := by
  have hz := zF_big
  intro D n s v q w ww g f c hlv hw hn _ _ hD
  obtain ⟨D, rfl⟩ : ∃ z, D = z + 1 := ⟨D - 1, by omega⟩
  have hn' : n + ((yz_p x ps).length + 1) ≤ 90000000 := by
    rw [yz_il, List.length_append] at hn; exact hn
  have f' : ∀ a, ¬ a ∈ yM_M → g.2.1 a = g0.2.1 a := fun a ha => f.2.1 a ha
  obtain ⟨g1, a1, a2⟩ := yk_tp (x1 := nI k) ps _ g n s v zF P f c (by omega) (by omega)
  have f1 := yM_fE f a2
  have f1' : ∀ a, ¬ a ∈ yM_M → g1.2.1 a = g0.2.1 a := fun a ha => f1.2.1 a ha
  have c1 := yM_cL c a2
  have e0 : f_Mo_statementCode (D + 1) g (nI k) = f_Mo_statementCode_75 (fun _ _ _ => none) g1 (nI k) (-1) := by
    rw [yk_sS]
    unfold g_Mo_statementCode
    simp only [if_pos (zi_in (show k < 2147483648 by omega) hk), nI_clamp (show k < 2147483648 by omega), f' 72 (by decide), f' 76 (by decide)]
    rw [m0, if_neg (by decide), if_pos rfl, a1]
  have eo : f_Mo_isOwn g1 (nI k) = some (if B < 9 then 1 else 0) := by
    unfold f_Mo_isOwn
    simp only [if_pos (zi_in (show k < 2147483648 by omega) hk), nI_clamp (show k < 2147483648 by omega), f1' 74 (by decide), c1.2.2.2, yk_fva f1, hv, Option.bind_some, if_pos (zi_in (show u < 2147483648 by omega) hu), nI_clamp (show u < 2147483648 by omega), f1' 93 (by decide), ty]
    by_cases z : B < 9
    · rw [if_pos z, if_neg (mt (zc_tl (k := 100000) (by decide) (by omega)).mp (by omega)), if_pos z]
    · rw [if_neg z, if_pos ((zc_tl (k := 100000) (by decide) (by omega)).mpr (by omega)), if_neg z]
  by_cases z : 9 ≤ B
  · obtain ⟨g2, b1, b2⟩ := yM_e c1 (by omega) 15 (nI (B - 9)) (nI x) 0 (by decide)
    rw [if_pos z]
    refine ⟨g2, ?_, yM_R0 hlv (yM_aL a2 b2)⟩
    rw [e0]
    unfold f_Mo_statementCode_75 f_Mo_statementCode_165
    rw [if_pos (show (-1 : Int32) < 0 by decide), eo, if_neg (by omega), Option.bind_some, if_pos rfl]
    simp only [if_pos (zi_in (show k < 2147483648 by omega) hk), nI_clamp (show k < 2147483648 by omega), f1' 102 (by decide), f1' 101 (by decide), m1, m2, if_neg (show ¬ B < 9 by omega)]
    exact (congrArg (fun z => zd_B z _) b1).trans rfl
  · obtain ⟨g2, b1, b2⟩ := yM_e c1 (by omega) 17 (nI B) (nI x) 0 (by decide)
    rw [if_neg z]
    refine ⟨g2, ?_, yM_R0 hlv (yM_aL a2 b2)⟩
    rw [e0]
    unfold f_Mo_statementCode_75 f_Mo_statementCode_165
    rw [if_pos (show (-1 : Int32) < 0 by decide), eo, if_pos (by omega), Option.bind_some, if_neg (by decide)]
    simp only [if_pos (zi_in (show k < 2147483648 by omega) hk), nI_clamp (show k < 2147483648 by omega), f1' 102 (by decide), f1' 101 (by decide), m1, m2, if_pos (show B < 9 by omega), zc_sb (k := 100) (show 100 ≤ 100 + B by omega), show 100 + B - OfNat.ofNat 100 = B from Nat.add_sub_cancel_left 100 B]
    exact (congrArg (fun z => zd_B z _) b1).trans rfl
end YKI
