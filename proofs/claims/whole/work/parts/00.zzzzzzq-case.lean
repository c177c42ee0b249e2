/-! The coder: IF and CASE, to their ends. -/
section YRB
variable {h0 h g0 g : zs_H} {b : Nat}
theorem yr_ranM {own : Nat} : ∀ (rs : List (Int32 × Option Int32)) (x : Int32) (kb n s v t N : Nat) (g : zs_H), yr_M g0 rs x kb → yM_f g0 g → yM_c g n s b v → n + (yr_s own t rs).length ≤ 90000000 → t + rs.length < 90000 → rs.length < N → ∃ g', f_Mo_rangesCode_L13 N g (nI own) (nI t) x = some g' ∧ yM_E s n (yv v (yr_s own t rs)) g g' := by
  intro rs
  induction rs with
  | nil =>
    intro x kb n s v t N g ⟨e1, e2, e3⟩ f c hn ht hN
    obtain ⟨N, rfl⟩ : ∃ z, N = z + 1 := ⟨N - 1, by omega⟩
    refine ⟨g, ?_, yM_nil c.1.1⟩
    rw [yr_uM, e1]
    unfold f_Mo_rangesCode_13
    simp only [if_pos (zi_in (show kb < 2147483648 by omega) e2), nI_clamp (show kb < 2147483648 by omega), f.2.1 72 (by decide)]
    rw [if_neg e3]
  | cons r rs ih =>
    intro x kb n s v t N g ⟨a, lo, a1, a2, a3, a4, a5, a6, a7, R⟩ f c hn ht hN
    have ht' : t + (rs.length + 1) < 90000 := ht
    have hN' : rs.length + 1 < N := hN
    obtain ⟨N, rfl⟩ : ∃ z, N = z + 1 := ⟨N - 1, by omega⟩
    have hn' : n + (yr_1 own r ++ ((if t = 0 then [] else [((7, 11, 0, 0) : yI)]) ++ yr_s own (t + 1) rs)).length ≤ 90000000 := hn
    rw [List.length_append, List.length_append] at hn'
    have f' : ∀ a, ¬ a ∈ yM_M → g.2.1 a = g0.2.1 a := fun a ha => f.2.1 a ha
    have tail : ∀ (g2 : zs_H), yM_f g0 g2 → yM_c g2 (n + (yr_1 own r).length) s b v → ∃ g', f_Mo_rangesCode_155 (f_Mo_rangesCode_L13 N) g2 (nI own) (nI t) (nI a) = some g' ∧ yM_E s (n + (yr_1 own r).length) (yv v ((if t = 0 then [] else [(7, 11, 0, 0)]) ++ yr_s own (t + 1) rs)) g2 g' := by
      intro g2 f2 c2
      have e171 : ∀ g3, yM_f g0 g3 → f_Mo_rangesCode_171 (f_Mo_rangesCode_L13 N) g3 (nI own) (nI t) (nI a) = f_Mo_rangesCode_L13 N g3 (nI own) (nI (t + 1)) ((g0.2.1 78) a) := by
        intro g3 f3
        unfold f_Mo_rangesCode_171
        rw [if_pos (zi_in (by omega) a1), nI_clamp (show a < 2147483648 by omega), f3.2.1 78 (by decide), nI_1]
      unfold f_Mo_rangesCode_155
      by_cases z : t = 0
      · rw [if_pos z] at hn' ⊢
        obtain ⟨g3, r1, r2⟩ := ih _ kb _ s v (t + 1) N g2 R f2 c2 (by have : ([] : List yI).length = 0 := rfl; omega) (by omega) (by omega)
        rw [if_pos ((zc_el (k := 0) (by decide) (by omega)).mpr (by omega)), e171 g2 f2, r1]
        exact ⟨g3, rfl, r2⟩
      · rw [if_neg z] at hn' ⊢
        have hn2 : n + ((yr_1 own r).length + (1 + (yr_s own (t + 1) rs).length)) ≤ 90000000 := hn'
        obtain ⟨g3, d1, d2⟩ := yM_e c2 (by omega) 7 11 0 0 (by decide)
        have f3 := yM_fE f2 d2
        obtain ⟨g4, r1, r2⟩ := ih _ kb _ s v (t + 1) N g3 R f3 (yM_cL c2 d2) (by show n + (yr_1 own r).length + 1 + _ ≤ _; omega) (by omega) (by omega)
        rw [if_neg (mt (zc_el (k := 0) (by decide) (by omega)).mp (by omega))]
        refine ⟨g4, ?_, yM_aL d2 r2⟩
        refine (congrArg (fun z => zd_B z _) d1).trans ?_
        show f_Mo_rangesCode_171 (f_Mo_rangesCode_L13 N) g3 (nI own) (nI t) (nI a) = _
        rw [e171 g3 f3, r1]
    have l7 := yr_1l (own := own) (r := r)
    obtain ⟨g1, b1, b2⟩ := yM_e c (by omega) 1 (nI own) 0 0 (by decide)
    have f1 := yM_fE f b2
    have c1 := yM_cL c b2
    obtain ⟨g2, d1, d2⟩ := yM_e c1 (show n + 1 < 100000000 by omega) 0 r.1 0 0 (by decide)
    have f2 := yM_fE f1 d2
    have c2 := yM_cL c1 d2
    have f1' : ∀ a, ¬ a ∈ yM_M → g1.2.1 a = g0.2.1 a := fun a ha => f1.2.1 a ha
    have f2' : ∀ a, ¬ a ∈ yM_M → g2.2.1 a = g0.2.1 a := fun a ha => f2.2.1 a ha
    rw [yr_uM, a2]
    unfold f_Mo_rangesCode_13
    simp only [if_pos (zi_in (show a < 2147483648 by omega) a1), nI_clamp (show a < 2147483648 by omega), f' 72 (by decide)]
    rw [if_pos a3]
    rcases a7 with ⟨o1, o2⟩ | ⟨w, hi, o1, o2, o2', o3, o4⟩
    · have e1 : yr_1 own r = [(1, nI own, 0, 0)] ++ ([(0, r.1, 0, 0)] ++ [(7, 13, 0, 0)]) := by unfold yr_1; rw [o1]
      obtain ⟨g3, p1, p2⟩ := yM_e c2 (show n + 1 + 1 < 100000000 by omega) 7 13 0 0 (by decide)
      have f3 := yM_fE f2 p2
      have E := yM_aL b2 (yM_aL d2 p2)
      rw [← e1] at E
      obtain ⟨g4, t1, t2⟩ := tail g3 f3 (yM_cL c E)
      refine ⟨g4, ?_, yM_aL E t2⟩
      refine (congrArg (fun z => zd_B z _) b1).trans ?_
      show (if zd_in ((g1.2.1 76) a) 33500 then _ else none) = _
      rw [f1' 76 (by decide), a4, if_pos (zi_in (by omega) a5), nI_clamp (show lo < 2147483648 by omega), f1' 74 (by decide), a6]
      refine (congrArg (fun z => zd_B z _) d1).trans ?_
      show (if (g2.2.1 76) a = (g2.2.1 77) a then (zd_B (f_Mo_emit g2 7 13 0 0) fun v31 h32 => f_Mo_rangesCode_155 (f_Mo_rangesCode_L13 N) h32 (nI own) (nI t) (nI a)) else _) = _
      rw [f2' 76 (by decide), f2' 77 (by decide), a4, o2, if_pos rfl]
      exact (congrArg (fun z => zd_B z _) p1).trans t1
    · have e1 : yr_1 own r = [(1, nI own, 0, 0)] ++ ([(0, r.1, 0, 0)] ++ ([(7, 18, 0, 0)] ++ ([(1, nI own, 0, 0)] ++ ([(0, w, 0, 0)] ++ ([(7, 17, 0, 0)] ++ [(7, 10, 0, 0)]))))) := by unfold yr_1; rw [o1]
      obtain ⟨g3, p1, p2⟩ := yM_e c2 (show n + 1 + 1 < 100000000 by omega) 7 18 0 0 (by decide)
      have f3 := yM_fE f2 p2
      have c3 := yM_cL c2 p2
      obtain ⟨g4, q1, q2⟩ := yM_e c3 (show n + 1 + 1 + 1 < 100000000 by omega) 1 (nI own) 0 0 (by decide)
      have f4 := yM_fE f3 q2
      have c4 := yM_cL c3 q2
      obtain ⟨g5, u1, u2⟩ := yM_e c4 (show n + 1 + 1 + 1 + 1 < 100000000 by omega) 0 w 0 0 (by decide)
      have f5 := yM_fE f4 u2
      have c5 := yM_cL c4 u2
      obtain ⟨g6, v1, v2⟩ := yM_e c5 (show n + 1 + 1 + 1 + 1 + 1 < 100000000 by omega) 7 17 0 0 (by decide)
      have f6 := yM_fE f5 v2
      have c6 := yM_cL c5 v2
      obtain ⟨g7, w1, w2⟩ := yM_e c6 (show n + 1 + 1 + 1 + 1 + 1 + 1 < 100000000 by omega) 7 10 0 0 (by decide)
      have f7 := yM_fE f6 w2
      have E := yM_aL b2 (yM_aL d2 (yM_aL p2 (yM_aL q2 (yM_aL u2 (yM_aL v2 w2)))))
      rw [← e1] at E
      obtain ⟨g8, t1, t2⟩ := tail g7 f7 (yM_cL c E)
      refine ⟨g8, ?_, yM_aL E t2⟩
      refine (congrArg (fun z => zd_B z _) b1).trans ?_
      show (if zd_in ((g1.2.1 76) a) 33500 then _ else none) = _
      rw [f1' 76 (by decide), a4, if_pos (zi_in (by omega) a5), nI_clamp (show lo < 2147483648 by omega), f1' 74 (by decide), a6]
      refine (congrArg (fun z => zd_B z _) d1).trans ?_
      show (if (g2.2.1 76) a = (g2.2.1 77) a then _ else (zd_B (f_Mo_emit g2 7 18 0 0) fun v14 h15 => (zd_B (f_Mo_emit h15 1 (nI own) 0 0) fun v17 h18 => (if zd_in (h18.2.1 77 a) 33500 then (zd_B (f_Mo_emit h18 0 (h18.2.1 74 (h18.2.1 77 a).toNatClampNeg) 0 0) fun v22 h23 => (zd_B (f_Mo_emit h23 7 17 0 0) fun v25 h26 => (zd_B (f_Mo_emit h26 7 10 0 0) fun v28 h29 => f_Mo_rangesCode_155 (f_Mo_rangesCode_L13 N) h29 (nI own) (nI t) (nI a)))) else none)))) = _
      rw [f2' 76 (by decide), f2' 77 (by decide), a4, o3, if_neg (fun z => o2' ((nI_eq (by omega) (by omega)).mp z).symm)]
      refine (congrArg (fun z => zd_B z _) p1).trans ?_
      refine (show zd_B (f_Mo_emit g3 1 (nI own) 0 0) _ = _ from (congrArg (fun z => zd_B z _) q1).trans ?_)
      show (if zd_in ((g4.2.1 77) a) 33500 then (zd_B (f_Mo_emit g4 0 ((g4.2.1 74) ((g4.2.1 77) a).toNatClampNeg) 0 0) fun v22 h23 => (zd_B (f_Mo_emit h23 7 17 0 0) fun v25 h26 => (zd_B (f_Mo_emit h26 7 10 0 0) fun v28 h29 => f_Mo_rangesCode_155 (f_Mo_rangesCode_L13 N) h29 (nI own) (nI t) (nI a)))) else none) = _
      rw [f4.2.1 77 (by decide), o3, if_pos (zi_in (by omega) o2), nI_clamp (show hi < 2147483648 by omega), f4.2.1 74 (by decide), o4]
      refine (congrArg (fun z => zd_B z _) u1).trans ?_
      refine (show zd_B (f_Mo_emit g5 7 17 0 0) _ = _ from (congrArg (fun z => zd_B z _) v1).trans ?_)
      exact (show zd_B (f_Mo_emit g6 7 10 0 0) _ = _ from (congrArg (fun z => zd_B z _) w1).trans t1)
/-- conditions, for the model -/
theorem yk_miI {k kb dlc : Nat} {L : List yI} {Q : Nat → Prop} {cell : Int32} (hk : k < 33500) (m1 : ¬ (g0.2.1 72) k = 17) (m2 : ¬ (g0.2.1 72) k = 11) (m3 : (g0.2.1 78) k = nI kb) (hd : dlc ≤ 190) (hQ : ¬ Q k) (A : yk_M g0 b Q dlc k L) : yk_mi g0 b cell k kb kb L := by
  intro D n s v g K x4 f c hn
  obtain ⟨g1, a1, a2⟩ := yk_M1 (D := 600) (by omega) hk hQ A f c hn (by omega)
  refine ⟨g1, fun w h15 => f_Mo_choiceCode_108 (f_Mo_bodyCode D) K h15 cell x4 (h15.2.1 78 k) (h15.2.1 78 k) w, a2, ?_, ?_⟩
  · unfold f_Mo_choiceCode_9
    rw [if_neg (nI_pos (by omega))]
    simp only [if_pos (zi_in (show k < 2147483648 by omega) hk), nI_clamp (show k < 2147483648 by omega), f.2.1 72 (by decide)]
    rw [if_neg m1, if_neg m2, a1, Option.bind_some]
    rfl
  · intro w h15 f15
    show f_Mo_choiceCode_108 (f_Mo_bodyCode D) K h15 cell x4 (h15.2.1 78 k) (h15.2.1 78 k) w = _
    rw [f15.2.1 78 (by decide), m3]
theorem yk_miC {k kb own : Nat} {rs : List (Int32 × Option Int32)} (hk : k < 33500) (m1 : (g0.2.1 72) k = 17) (m3 : (g0.2.1 77) k = nI kb) (hl : rs.length < 40000) (R : yr_M g0 rs ((g0.2.1 76) k) kb) : yk_mi g0 b (nI own) k kb k (yr_s own 0 rs) := by
  have hz := zF_big
  intro D n s v g K x4 f c hn
  obtain ⟨g1, a1, a2⟩ := yr_ranM rs _ kb n s v 0 zF g R f c hn (by omega) (by omega)
  refine ⟨g1, fun w h15 => f_Mo_choiceCode_108 (f_Mo_bodyCode D) K h15 (nI own) x4 (nI k) (h15.2.1 77 k) w, a2, ?_, ?_⟩
  · have er : f_Mo_rangesCode g (nI k) (nI own) = some g1 := by
      unfold f_Mo_rangesCode
      rw [if_pos (zi_in (by omega) hk), nI_clamp (show k < 2147483648 by omega), f.2.1 76 (by decide)]
      exact a1
    unfold f_Mo_choiceCode_9
    rw [if_neg (nI_pos (by omega))]
    simp only [if_pos (zi_in (show k < 2147483648 by omega) hk), nI_clamp (show k < 2147483648 by omega), f.2.1 72 (by decide)]
    rw [if_pos m1, er, Option.bind_some]
    rfl
  · intro w h15 f15
    show f_Mo_choiceCode_108 (f_Mo_bodyCode D) K h15 (nI own) x4 (nI k) (h15.2.1 77 k) w = _
    rw [f15.2.1 77 (by decide), m3]
theorem yk_ccC {i ib own sz : Nat} {rs : List (Int32 × Option Int32)} (hsz : (h0.1 12 6) = nI sz) (hs2 : sz < 100000) (hi : i < 32784) (k11 : ¬ (h0.2.1 13) i = 11) (hl : rs.length < sz) (R : yr_C h0 rs ((h0.2.1 17) i) ib) : yk_cc h0 own i ib i (yr_s own 0 rs) := by
  have hz := zF_big
  refine ⟨rfl, k11, fun n h f es hn => ?_⟩
  obtain ⟨h', a1, a2⟩ := yr_ran hsz hs2 rs _ ib n 0 zF h R f es hn (by omega) (by omega)
  refine ⟨h', ?_, a2⟩
  unfold f_Cr_codeRanges
  rw [if_pos (zi_in (by omega) hi), nI_clamp (show i < 2147483648 by omega), f.2.1 17 (by decide)]
  exact a1
/-- IF -/
theorem yk_S15 {i dl dlb ow ow' c20 c11 sz : Nat} {B : ys} {x' : Int32} {MI : Nat → Nat → Nat → List yI → Prop} (hsz : (h0.1 12 6) = nI sz) (hs2 : sz < 100000) (hi : i < 32784) (hd : dlb < dl) (hl : yz_n B ≤ sz) (how : ow ≤ ow') (G : yk_GL h0 g0 b dlb (yk_ci h0) MI B ((h0.2.1 17) i) x' ow ow' c20 c11) : yk_SC h0 dl 15 i ow (ow' - ow) (.inner 1 ([], 0, 0) () B .leaf) := by
  have hz := zF_big
  intro D d n v q h f es ho hn hD hdd
  have hn' : n + yz_l B ≤ 90000000 := hn
  obtain ⟨D, rfl⟩ : ∃ z, D = z + 1 := ⟨D - 1, by omega⟩
  obtain ⟨c1, h1, a1, a2⟩ := yk_ifC hsz hs2 B _ _ _ _ _ _ G D (d + 1) n v q (n + yz_l B) 0 zF h (-1) f es ho hn' (by omega) (by omega) (by omega) (by omega)
  obtain ⟨h2, b1, b2⟩ := yC_Bj (by omega) a2
  refine ⟨h2, ?_, by rw [show ow + (ow' - ow) = ow' by omega]; exact b2⟩
  show g_Cr_codeIf (f_Cr_codeBody D) (f_Cr_codeBranch D) h (nI i) (nI (d + 1)) = _
  unfold g_Cr_codeIf
  rw [if_pos (zi_in (by omega) hi), nI_clamp (show i < 2147483648 by omega), f.2.1 17 (by decide), show (0 : Int32) = nI 0 from rfl, a1]
  unfold f_Cr_codeIf_126
  rw [b1, Option.bind_some]
theorem yk_T15 {k dl dlb ow ow' c20 c11 : Nat} {B : ys} {x : Int32} {CI : Nat → Nat → Nat → List yI → Prop} (hk : k < 33500) (m0 : (g0.2.1 72) k = 15) (hd : dlb < dl) (hl : yz_n B < 90000) (G : yk_GL h0 g0 b dlb CI (yk_mi g0 b (-1)) B x ((g0.2.1 76) k) ow ow' c20 c11) : yk_SM g0 b dl k (.inner 1 ([], 0, 0) () B .leaf) c20 c11 := by
  have hz := zF_big
  intro D n s v q w ww g f c hl hw hn h20 h11 hD
  have hn' : n + yz_l B ≤ 90000000 := hn
  obtain ⟨D, rfl⟩ : ∃ z, D = z + 1 + 1 := ⟨D - 2, by omega⟩
  have f' : ∀ a, ¬ a ∈ yM_M → g.2.1 a = g0.2.1 a := fun a ha => f.2.1 a ha
  obtain ⟨g1, a1, a2⟩ := yk_chM B _ _ _ _ _ _ G D n s v q (n + yz_l B) w ww zF g (nI ww) f c hl hw hn' h20 h11 (by omega) (by omega)
  obtain ⟨_, gl⟩ := yk_GLl B _ _ _ _ _ _ G n
  obtain ⟨g2, b1, b2⟩ := yM_Bj c (by omega) (by omega) hw a2
  refine ⟨g2, ?_, b2⟩
  rw [yk_sS]
  unfold g_Mo_statementCode
  simp only [if_pos (zi_in (show k < 2147483648 by omega) hk), nI_clamp (show k < 2147483648 by omega), f' 72 (by decide), f' 76 (by decide)]
  rw [m0, if_neg (by decide), if_neg (by decide), if_pos rfl]
  show (g_Mo_choiceCode (f_Mo_bodyCode D) g (nI k) ((g0.2.1 76) k) (-1)).bind _ = _
  unfold g_Mo_choiceCode
  rw [hw, a1, b1]
  rfl
/-- CASE -/
theorem yk_S16 {i c dl dlb dlc ow ow' c20 c11 sz : Nat} {L : List yI} {B : ys} {x' : Int32} {MI : Nat → Nat → Nat → List yI → Prop} (hsz : (h0.1 12 6) = nI sz) (hs2 : sz < 100000) (hi : i < 32784) (ec : (h0.2.1 17) i = nI c) (hc : c < 32784) (hdc : dlc ≤ 190) (A : yk_C h0 dlc (nI c) L) (hd : dlb < dl) (hl : yz_n B ≤ sz) (how : ow + 1 ≤ ow') (G : yk_GL h0 g0 b dlb (yk_cc h0 ow) MI B ((h0.2.1 18) c) x' (ow + 1) ow' c20 c11) : yk_SC h0 dl 16 i ow (ow' - ow) (yz_ap (yz_i (L ++ [(2, nI ow, 0, 0)])) (.inner 1 ([], 0, 0) () B .leaf)) := by
  have hz := zF_big
  intro D d n v q h f es ho hn hD hdd
  have hn' : n + ((L ++ [((2, nI ow, 0, 0) : yI)]).length + (yz_l B + 0)) ≤ 90000000 := hn
  rw [List.length_append] at hn'
  have hn2 : n + (L.length + 1 + (yz_l B + 0)) ≤ 90000000 := hn'
  obtain ⟨D, rfl⟩ : ∃ z, D = z + 1 := ⟨D - 1, by omega⟩
  obtain ⟨h1, hh1⟩ : ∃ h1, h1 = zs_uF h 47 4 (nI (ow + 1)) := ⟨_, rfl⟩
  have f1 : yC_f h0 h1 := by rw [hh1]; exact zfr_F (by decide) f
  have es1 : (h1.1 41 5) = nI n := by rw [hh1]; exact es
  have ho1 : (h1.1 47 4) = nI (ow + 1) := by rw [hh1]; rfl
  obtain ⟨h2, a1, a2⟩ := A 400 0 n h1 f1 es1 (by omega) (by omega) (by omega)
  have f2 := yC_fE f1 a2
  obtain ⟨h3, b1, b2⟩ := yC_emit a2.1 (by omega) 2 (by decide) (nI ow)
  have f3 := yC_fE f2 b2
  have E := yC_ap a2 b2
  have el : (L ++ [((2, nI ow, 0, 0) : yI)]).length = L.length + 1 := by rw [List.length_append]; rfl
  have R1 : yC_R n v q (yz_i (L ++ [(2, nI ow, 0, 0)])) (ow + 1) h h3 := by
    have R := yC_R0 (v := v) (q := q) ho1 E
    obtain ⟨r1, r2, r3⟩ := R
    refine ⟨⟨r1.1, zfr_trans (show zfr yC_g yC_w [] h h1 by rw [hh1]; exact zfr_F (by decide) zfr_rfl) r1.2.1, fun h4 => ⟨fun j hj a ha => ?_, (r1.2.2 h4).2⟩⟩, r2, fun h4 => ?_⟩
    · rw [(r1.2.2 h4).1 j hj a ha, hh1]; rfl
    · have := r3 h4
      rw [hh1] at this
      exact this
  obtain ⟨f3', e3, o3⟩ := yC_Rf f R1
  obtain ⟨c1, h4, p1, p2⟩ := yk_caC hsz hs2 B _ _ _ _ _ _ G D (d + 1) _ v q (n + yz_l (yz_i (L ++ [(2, nI ow, 0, 0)])) + yz_l B) 0 zF h3 (-1) f3 e3 o3 (by rw [yz_il, el]; omega) (by omega) (by omega) (by omega) (by omega)
  obtain ⟨h5, q1, q2⟩ := yC_Bj (by rw [yz_il, el]; omega) p2
  refine ⟨h5, ?_, by rw [show ow + (ow' - ow) = ow' by omega]; exact yC_Rap ⟨by decide, trivial⟩ R1 q2⟩
  show g_Cr_codeCase (f_Cr_codeBody D) (f_Cr_codeBranch D) h (nI i) (nI (d + 1)) = _
  unfold g_Cr_codeCase
  simp only [if_pos (zi_in (show i < 2147483648 by omega) hi), nI_clamp (show i < 2147483648 by omega), f.2.1 17 (by decide), ec, if_pos (zi_in (show c < 2147483648 by omega) hc), nI_clamp (show c < 2147483648 by omega), ho, nI_1]
  rw [← hh1, show f_Cr_codeExpression 400 h1 (nI c) 0 = some h2 from a1, Option.bind_some]
  refine (congrArg (fun z => zd_B z _) b1).trans ?_
  show f_Cr_codeCase_L61 (f_Cr_codeBody D) (f_Cr_codeBranch D) zF h3 (nI (d + 1)) (nI ow) ((h3.2.1 18) c) (-1) (nI 0) = _
  rw [f3.2.1 18 (by decide), p1]
  unfold f_Cr_codeCase_163
  rw [q1, Option.bind_some]
theorem yk_T16 {k ke dl dlb dlc ow ow1 ow' c20 c11 : Nat} {L : List yI} {B : ys} {x : Int32} {Q1 : Nat → Prop} {CI : Nat → Nat → Nat → List yI → Prop} (hk : k < 33500) (m0 : (g0.2.1 72) k = 16) (m1 : (g0.2.1 76) k = nI ke) (hke : ke < 33500) (m2 : (g0.2.1 101) k = nI ow) (hdc : dlc ≤ 190) (hQ : ¬ Q1 ke) (A : yk_M g0 b Q1 dlc ke L) (hd : dlb < dl) (hl : yz_n B < 90000) (G : yk_GL h0 g0 b dlb CI (yk_mi g0 b (nI ow)) B x ((g0.2.1 78) ke) ow1 ow' c20 c11) : yk_SM g0 b dl k (yz_ap (yz_i (L ++ [(2, nI ow, 0, 0)])) (.inner 1 ([], 0, 0) () B .leaf)) c20 c11 := by
  have hz := zF_big
  intro D n s v q w ww g f c hlv hw hn h20 h11 hD
  have hn' : n + ((L ++ [((2, nI ow, 0, 0) : yI)]).length + (yz_l B + 0)) ≤ 90000000 := hn
  rw [List.length_append] at hn'
  have hn2 : n + (L.length + 1 + (yz_l B + 0)) ≤ 90000000 := hn'
  obtain ⟨D, rfl⟩ : ∃ z, D = z + 1 + 1 := ⟨D - 2, by omega⟩
  have f' : ∀ a, ¬ a ∈ yM_M → g.2.1 a = g0.2.1 a := fun a ha => f.2.1 a ha
  obtain ⟨g1, a1, a2⟩ := yk_M1 (D := 600) (by omega) hke hQ A f c (by omega) (by omega)
  have f1 := yM_fE f a2
  have c1 := yM_cL c a2
  obtain ⟨g2, b1, b2⟩ := yM_e c1 (by omega) 2 (nI ow) 0 0 (by decide)
  have f2 := yM_fE f1 b2
  have f2' : ∀ a, ¬ a ∈ yM_M → g2.2.1 a = g0.2.1 a := fun a ha => f2.2.1 a ha
  have R1 : yM_R s n v q (yz_i (L ++ [(2, nI ow, 0, 0)])) w ww g g2 := yM_R0 hlv (yM_aL a2 b2)
  have el : (L ++ [((2, nI ow, 0, 0) : yI)]).length = L.length + 1 := by rw [List.length_append]; rfl
  obtain ⟨f3, c3, l3, w3⟩ := yM_Rf f c R1
  have ex : (yz_x (yz_i (L ++ [(2, nI ow, 0, 0)])) n).length = 0 := rfl
  obtain ⟨g4, p1, p2⟩ := yk_chM B _ _ _ _ _ _ G D _ s v q (n + yz_l (yz_i (L ++ [(2, nI ow, 0, 0)])) + yz_l B) _ ww zF g2 (nI ww) f3 c3 l3 (w3.trans hw) (by rw [yz_il, el]; omega) (by rw [ex]; exact h20) h11 (by omega) (by omega)
  obtain ⟨_, gl⟩ := yk_GLl B _ _ _ _ _ _ G (n + yz_l (yz_i (L ++ [(2, nI ow, 0, 0)])))
  obtain ⟨g5, q1, q2⟩ := yM_Bj c3 (by rw [yz_il, el]; omega) (by omega) (w3.trans hw) p2
  refine ⟨g5, ?_, yM_Rap ⟨by decide, trivial⟩ hw R1 q2⟩
  rw [yk_sS]
  unfold g_Mo_statementCode
  simp only [if_pos (zi_in (show k < 2147483648 by omega) hk), nI_clamp (show k < 2147483648 by omega), f' 72 (by decide), f' 76 (by decide), m1]
  rw [m0, if_neg (by decide), if_neg (by decide), if_neg (by decide), if_pos rfl, a1, Option.bind_some, f1.2.1 101 (by decide), m2]
  refine (congrArg (fun z => zd_B z _) b1).trans ?_
  show (if zd_in ((g2.2.1 76) k) 33500 then ((f_Mo_choiceCode (D + 1) g2 (nI k) ((g2.2.1 78) ((g2.2.1 76) k).toNatClampNeg) ((g2.2.1 101) k)).bind fun h19 => some h19) else none) = _
  rw [f2' 76 (by decide), f2' 78 (by decide), f2' 101 (by decide), m1, if_pos (zi_in (by omega) hke), nI_clamp (show ke < 2147483648 by omega), m2]
  show (g_Mo_choiceCode (f_Mo_bodyCode D) g2 (nI k) ((g0.2.1 78) ke) (nI ow)).bind _ = _
  unfold g_Mo_choiceCode
  rw [w3, hw, p1, q1]
  rfl
end YRB
