section
/-! The coder: FOR, on both sides. -/
/-- what a FOR means -/
def yz_for (x : Nat) (a st y0 : Int32) (ow : Nat) (Tm : Int32) (Tb : ys) : ys := yz_ap (yz_i [(0, a, 0, 0), (2, nI x, 0, 0)]) (.inner 2 ([], nI ow, Tm) () (yz_ap Tb (yz_i [(1, nI x, 0, 0), (0, st, 0, 0), (7, y0, 0, 0), (2, nI x, 0, 0)])) .leaf)
section YFP
variable {h0 h g0 g : zs_H} {b : Nat}
theorem yz_forl {x ow : Nat} {a st y0 Tm : Int32} {Tb : ys} (sT : yz_st Tb) : yz_l (yz_for x a st y0 ow Tm Tb) = 2 + (3 + (yz_l Tb + 4)) := by
  show 2 + (3 + yz_l (yz_ap Tb (yz_i _)) + 0) = _
  rw [yz_apl _ _ sT]
  rfl
theorem yz_fors {x ow : Nat} {a st y0 Tm : Int32} {Tb : ys} : yz_st (yz_for x a st y0 ow Tm Tb) := ⟨by decide, by decide, trivial⟩
theorem yz_forx {x ow n : Nat} {a st y0 Tm : Int32} {Tb : ys} : yz_x (yz_for x a st y0 ow Tm Tb) n = [] := rfl
theorem yk_S19 {i a c cc ib x w dl dlb ow oc : Nat} {st y0 : Int32} {TT : Int64} {Tb : ys} (hi : i < 32784) (ec : (h0.2.1 17) i = nI a) (ha : a < 32784) (ew : (h0.2.1 16) i = nI w) (hw : w < 6000) (ex : (h0.2.1 32) w = nI x) (en : (h0.2.1 18) a = nI c) (hc : c < 32784) (e3 : (h0.2.1 18) c = nI cc) (hcc : cc < 32784) (es0 : (zv_kc h0 cc ∧ st = (h0.2.1 16) cc ∧ (h0.2.1 18) cc = nI ib) ∨ (¬ zv_kc h0 cc ∧ st = 1 ∧ ib = cc)) (et : f_Cd_times ((h0.2.1 16) a) ((h0.2.1 16) c) st = some TT) (ey : y0 = if (h0.2.1 14) i = 1 then 0 else 5) (hd : dlb < dl) (B : yk_BC h0 dlb ib (ow + 1) oc Tb) (sT : yz_st Tb) : yk_SC h0 dl 19 i ow (1 + oc) (yz_for x ((h0.2.1 16) a) st y0 ow TT.toInt32 Tb) := by
  intro D d n v q h f es ho hn hD hdd
  rw [yz_forl sT] at hn
  obtain ⟨D, rfl⟩ : ∃ z, D = z + 1 := ⟨D - 1, by omega⟩
  obtain ⟨h1, hh1⟩ : ∃ h1, h1 = zs_uF h 47 4 (nI (ow + 1)) := ⟨_, rfl⟩
  have f1 : yC_f h0 h1 := by rw [hh1]; exact zfr_F (by decide) f
  have es1 : (h1.1 41 5) = nI n := by rw [hh1]; exact es
  have ho1 : (h1.1 47 4) = nI (ow + 1) := by rw [hh1]; rfl
  have f1' : ∀ a, ¬ a ∈ yC_M → h1.2.1 a = h0.2.1 a := fun a ha => f1.2.1 a ha
  have f' : ∀ a, ¬ a ∈ yC_M → h.2.1 a = h0.2.1 a := fun a ha => f.2.1 a ha
  obtain ⟨h2, a1, a2⟩ := yC_emit es1 (by omega) 0 (by decide) ((h0.2.1 16) a)
  have f2 := yC_fE f1 a2
  obtain ⟨h3, b1, b2⟩ := yC_emit a2.1 (by show n + 1 < _; omega) 2 (by decide) (nI x)
  have f3 := yC_fE f2 b2
  have E := yC_ap a2 b2
  have R1 : yC_R n v q (yz_i [(0, (h0.2.1 16) a, 0, 0), (2, nI x, 0, 0)]) (ow + 1) h h3 := by
    obtain ⟨r1, r2, r3⟩ := yC_R0 (v := v) (q := q) ho1 E
    refine ⟨?_, r2, fun h4 => ?_⟩
    · rw [hh1] at r1
      exact yC_Hu (by decide) r1
    · have := r3 h4
      rw [hh1] at this
      exact this
  have e3' : (h3.1 41 5) = nI (n + 2) := E.1
  obtain ⟨h4, c1, c2⟩ := yC_emit e3' (by omega) 12 (by decide) (nI ow)
  obtain ⟨h5, d1, d2⟩ := yC_with (by omega) c2 TT.toInt32 0
  have f5 := yC_fE f3 d2
  obtain ⟨h6, p1, p2⟩ := yC_emit d2.1 (by show n + 2 + 1 < _; omega) 13 (by decide) (-1)
  obtain ⟨h7, q1, q2⟩ := yC_with (by show n + 2 + 1 < _; omega) p2 (nI ow) 0
  have f7 := yC_fE f5 q2
  obtain ⟨h8, hh8⟩ : ∃ h8, h8 = zs_uF h7 47 6 (-1) := ⟨_, rfl⟩
  have f8 : yC_f h0 h8 := by rw [hh8]; exact zfr_F (by decide) f7
  have s8 : (h8.1 41 5) = nI (n + 2 + 2) := by rw [hh8]; exact q2.1
  have o7 : (h7.1 47 4) = nI (ow + 1) := (q2.2.1.1 _ _ (by decide)).trans ((d2.2.1.1 _ _ (by decide)).trans ((E.2.1.1 _ _ (by decide)).trans ho1))
  have o8 : (h8.1 47 4) = nI (ow + 1) := by rw [hh8]; exact o7
  obtain ⟨h9, t1, t2⟩ := B D (d + 1 + 1) (n + 2 + 2) (v + 1) (n + 2 + (3 + (yz_l Tb + 4))) h8 f8 s8 o8 (by omega) (by omega) (by omega)
  obtain ⟨f9, s9, o9⟩ := yC_Rf f8 t2
  obtain ⟨hA, u1, u2⟩ := yC_emit s9 (by omega) 1 (by decide) (nI x)
  have fA := yC_fE f9 u2
  obtain ⟨hB, v1, v2⟩ := yC_emit u2.1 (by show _ + 1 < _; omega) 0 (by decide) st
  have fB := yC_fE fA v2
  obtain ⟨hC, w1, w2⟩ := yC_emit v2.1 (by show _ + 1 + 1 < _; omega) 7 (by decide) y0
  have fC := yC_fE fB w2
  obtain ⟨hD', x1, x2⟩ := yC_emit w2.1 (by show _ + 1 + 1 + 1 < _; omega) 2 (by decide) (nI x)
  have ET := yC_ap u2 (yC_ap v2 (yC_ap w2 x2))
  have RT := yC_Rap sT t2 (yC_R0 (v := v + 1) (q := n + 2 + (3 + (yz_l Tb + 4))) o9 ET)
  have el : yz_l (yz_ap Tb (yz_i ([(1, nI x, 0, 0)] ++ ([(0, st, 0, 0)] ++ ([(7, y0, 0, 0)] ++ [(2, nI x, 0, 0)]))))) = yz_l Tb + 4 := yz_apl _ _ sT
  have sD : (hD'.1 41 5) = nI (n + 2 + 2 + (yz_l Tb + 4)) := by
    have := (yC_Rf f8 RT).2.1
    rw [el] at this
    exact this
  obtain ⟨hE, y1, y2⟩ := yC_emit sD (by omega) 14 (by decide) (nI (n + 2 + 1))
  rw [hh8] at RT
  obtain ⟨hF, hG, j1, j2, j3⟩ := yC_loop (q := q) (v := v) (m := n + 2) (by rw [el]; omega) d2 q2 (by rw [el]; exact RT) (by rw [el]; exact y2)
  refine ⟨_, ?_, yC_Rap ⟨by decide, trivial⟩ R1 (by rw [← Nat.add_assoc]; exact j3)⟩
  show g_Cr_codeFor (f_Cr_codeBody D) h (nI i) (nI (d + 1)) = _
  have esec : f_Tr_second h1 (nI i) = some (nI c) := by
    unfold f_Tr_second
    simp only [if_pos (zi_in (show i < 2147483648 by omega) hi), nI_clamp (show i < 2147483648 by omega), f1' 17 (by decide), ec, if_neg (zc_m1 (show a < 2147483648 by omega)), if_pos (zi_in (show a < 2147483648 by omega) ha), nI_clamp (show a < 2147483648 by omega), f1' 18 (by decide), en]
  have estp : f_Tr_stepOf h1 (nI i) = f_Tr_stepOf_21 h1 (nI cc) := by
    unfold f_Tr_stepOf
    rw [esec, Option.bind_some, if_neg (zc_m1 (by omega)), if_pos (zi_in (by omega) hc), nI_clamp (show c < 2147483648 by omega), f1' 18 (by decide), e3]
  have ekc : zv_kc h1 cc ↔ zv_kc h0 cc := by
    unfold zv_kc
    rw [f1' 13 (by decide)]
  have e123 : f_Cr_codeFor_123 (f_Cr_codeBody D) h1 (nI i) (nI (d + 1)) (nI ow) (nI x) ((h0.2.1 16) a) ((h0.2.1 16) c) st (nI ib) = some (zs_uF hG 47 6 ((h7.1 47 6))) := by
    unfold f_Cr_codeFor_123
    refine (congrArg (fun z => zd_B z _) a1).trans ?_
    refine (show zd_B (f_Cd_emit h2 2 (nI x)) _ = _ from (congrArg (fun z => zd_B z _) b1).trans ?_)
    refine (show zd_B (f_Cd_emit h3 12 (nI ow)) _ = _ from (congrArg (fun z => zd_B z _) c1).trans ?_)
    show ((f_Cd_times ((h0.2.1 16) a) ((h0.2.1 16) c) st).bind fun v11 => ((f_Cd_with h4 (v11.toInt32) 0).bind fun h13 => _)) = _
    rw [et, Option.bind_some, d1, Option.bind_some]
    refine (congrArg (fun z => zd_B z _) p1).trans ?_
    show ((f_Cd_with h6 (nI ow) 0).bind _) = _
    rw [q1, Option.bind_some, ← hh8, nI_1, t1, Option.bind_some]
    refine (congrArg (fun z => zd_B z _) u1).trans ?_
    refine (show zd_B (f_Cd_emit hA 0 st) _ = _ from (congrArg (fun z => zd_B z _) v1).trans ?_)
    have e261 : f_Cr_codeFor_261 hB (nI x) (nI (n + 2 + 1)) ((h7.1 47 6)) y0 7 = some (zs_uF hG 47 6 ((h7.1 47 6))) := by
      unfold f_Cr_codeFor_261
      refine (congrArg (fun z => zd_B z _) w1).trans ?_
      refine (show zd_B (f_Cd_emit hC 2 (nI x)) _ = _ from (congrArg (fun z => zd_B z _) x1).trans ?_)
      refine (show zd_B (f_Cd_emit hD' 14 (nI (n + 2 + 1))) _ = _ from (congrArg (fun z => zd_B z _) y1).trans ?_)
      show ((f_Cd_joinHere hE (nI (n + 2 + 1))).bind fun h11 => _) = _
      rw [j1, Option.bind_some]
      show ((f_Cd_joinHere hF ((hF.1 47 6))).bind fun h13 => _) = _
      rw [j2, Option.bind_some]
    show (if zd_in (nI i) 32784 then (if (hB.2.1 14) (nI i).toNatClampNeg = 1 then f_Cr_codeFor_261 hB (nI x) (nI (n + 2 + 1)) ((h7.1 47 6)) 0 7 else f_Cr_codeFor_261 hB (nI x) (nI (n + 2 + 1)) ((h7.1 47 6)) 5 7) else none) = _
    rw [if_pos (zi_in (by omega) hi), nI_clamp (show i < 2147483648 by omega), fB.2.1 14 (by decide)]
    by_cases z : (h0.2.1 14) i = 1
    · rw [if_pos z] at ey ⊢
      rw [← ey]; exact e261
    · rw [if_neg z] at ey ⊢
      rw [← ey]; exact e261
  unfold g_Cr_codeFor
  simp only [if_pos (zi_in (show i < 2147483648 by omega) hi), nI_clamp (show i < 2147483648 by omega), f' 16 (by decide), ew, if_pos (zi_in (show w < 2147483648 by omega) hw), f' 17 (by decide), ec, if_pos (zi_in (show a < 2147483648 by omega) ha), ho, nI_1, nI_clamp (show w < 2147483648 by omega), nI_clamp (show a < 2147483648 by omega), f' 32 (by decide), ex]
  rw [← hh1, esec, Option.bind_some, if_pos (zi_in (by omega) hc), estp]
  unfold f_Tr_stepOf_21
  rcases es0 with ⟨k1, k2, k3⟩ | ⟨k1, k2, k3⟩
  · rw [zv_isC1 hcc (ekc.mpr k1), Option.bind_some, if_neg (by decide), if_pos (zi_in (by omega) hcc), Option.bind_some, Option.bind_some, if_pos (zi_in (by omega) hc), nI_clamp (show c < 2147483648 by omega), f' 18 (by decide), e3, zv_isC1 hcc (ekc.mpr k1), Option.bind_some, if_neg (by decide), if_pos (zi_in (by omega) hcc), nI_clamp (show cc < 2147483648 by omega), f1' 16 (by decide), ← k2, k3]
    exact e123
  · rw [zv_isC0 hcc (mt ekc.mp k1), Option.bind_some, if_pos rfl, Option.bind_some, Option.bind_some, if_pos (zi_in (by omega) hc), nI_clamp (show c < 2147483648 by omega), f' 18 (by decide), e3, zv_isC0 hcc (mt ekc.mp k1), Option.bind_some, if_pos rfl, ← k2, ← k3]
    exact e123
theorem yk_ftm (f : yM_f g0 g) : f_Mo_times g = f_Mo_times g0 := by
  have e : ∀ a, ¬ a ∈ yM_M → g.2.1 a = g0.2.1 a := fun a ha => f.2.1 a ha
  funext x
  unfold f_Mo_times f_Mo_times_46 f_Mo_times_84 f_Mo_times_96 f_Mo_times_103
  simp only [e 76 (by decide), e 78 (by decide), e 72 (by decide), e 74 (by decide)]
theorem yk_T19 {k ka kb kc ke x wv dl dlb ow c20 c11 : Nat} {st y0 TT : Int32} {Tb : ys} (hk : k < 33500) (m0 : (g0.2.1 72) k = 19) (m1 : (g0.2.1 76) k = nI ka) (hka : ka < 33500) (m2 : (g0.2.1 78) ka = nI kb) (hkb : kb < 33500) (m3 : (g0.2.1 78) kb = nI kc) (hkc : kc < 33500) (hv : f_Mo_variable g0 (nI b) ((g0.2.1 74) k) = some (nI wv)) (hwv : wv < 8400) (m4 : (g0.2.1 101) k = nI x) (m5 : (g0.2.1 102) k = nI ow) (m6 : (g0.2.1 77) k = nI ke) (es0 : (¬ (g0.2.1 72) kc = 11 ∧ st = (g0.2.1 74) kc) ∨ ((g0.2.1 72) kc = 11 ∧ st = 1)) (et : f_Mo_times g0 (nI k) = some TT) (ey : y0 = if (g0.2.1 93) wv = 1 then 0 else 5) (hd : dlb < dl) (hx : ∀ n, (yz_x Tb n).length ≤ c20) (B : yk_BM g0 b dlb ke Tb c20 c11) (sT : yz_st Tb) : yk_SM g0 b dl k (yz_for x ((g0.2.1 74) ka) st y0 ow TT Tb) c20 c11 := by
  intro D n s v q w ww g f c hlv hw hn h20 h11 hD
  rw [yz_forl sT] at hn
  obtain ⟨D, rfl⟩ : ∃ z, D = z + 1 + 1 := ⟨D - 2, by omega⟩
  have f' : ∀ a, ¬ a ∈ yM_M → g.2.1 a = g0.2.1 a := fun a ha => f.2.1 a ha
  obtain ⟨g1, a1, a2⟩ := yM_e c (by omega) 0 ((g0.2.1 74) ka) 0 0 (by decide)
  have f1 := yM_fE f a2
  have c1 := yM_cL c a2
  obtain ⟨g2, b1, b2⟩ := yM_e c1 (by show n + 1 < _; omega) 2 (nI x) 0 0 (by decide)
  have f2 := yM_fE f1 b2
  have E := yM_aL a2 b2
  have R1 : yM_R s n v q (yz_i [(0, (g0.2.1 74) ka, 0, 0), (2, nI x, 0, 0)]) w ww g g2 := yM_R0 hlv E
  have c2 : yM_c g2 (n + 2) s b v := yM_cL c E
  have l2 : (g2.1 68 68) = nI w := (E.2.1.1 _ _ (by decide)).trans hlv
  have w2 : (g2.1 68 66) = nI ww := (E.2.1.1 _ _ (by decide)).trans hw
  obtain ⟨g3, d1, d2⟩ := yM_e c2 (by omega) 12 (nI ow) TT 0 (by decide)
  have f3 := yM_fE f2 d2
  have c3 : yM_c g3 (n + 2 + 1) s b v := yM_cL c2 d2
  obtain ⟨⟨p1, p2⟩, ⟨p3, p4, p5⟩, p6, p7⟩ := id c3
  obtain ⟨g4, e1, e2⟩ := yM_emit p1 (by omega) p3 (by omega) p5 p2 p6 (13, nI s, nI ow, 0)
  have eA : yM_A s (13, nI s, nI ow, 0) = nI ow := by
    unfold yM_A
    rw [if_neg (show ¬ ((13 : Nat) = 10 ∨ (13 : Nat) = 11 ∨ (13 : Nat) = 14) by decide), if_pos rfl]
  have eB : yM_B s (13, nI s, nI ow, 0) = 0 := by
    unfold yM_B
    rw [if_pos rfl]
    show nI s - nI s = 0
    rw [zi_sub (Nat.le_refl s), Nat.sub_self]; rfl
  rw [eA, eB] at e1
  have e2' : yM_E s (n + 2 + 1) (yv v [(13, nI s, nI ow, 0)]) g3 g4 := e2
  have f4 := yM_fE f3 e2'
  have c4 : yM_c g4 (n + 2 + 2) s b v := yM_cL c3 e2'
  obtain ⟨g5, hg5⟩ : ∃ g5, g5 = zs_uF g4 68 64 (nI (v + 1)) := ⟨_, rfl⟩
  have f5 : yM_f g0 g5 := by rw [hg5]; exact zfr_F (by decide) f4
  have c5 : yM_c g5 (n + 2 + 2) s b (v + 1) := by rw [hg5]; exact ⟨c4.1, c4.2.1, rfl, c4.2.2.2⟩
  have l5 : (g5.1 68 68) = nI w := by rw [hg5]; exact (e2.2.1.1 _ _ (by decide)).trans ((d2.2.1.1 _ _ (by decide)).trans l2)
  have w5 : (g5.1 68 66) = nI ww := by rw [hg5]; exact (e2.2.1.1 _ _ (by decide)).trans ((d2.2.1.1 _ _ (by decide)).trans w2)
  obtain ⟨g6, t1, t2⟩ := B D (n + 2 + 2) s (v + 1) (n + 2 + (3 + (yz_l Tb + 4))) w ww g5 f5 c5 l5 w5 (by omega) h20 h11 (by omega)
  obtain ⟨f6, c6, l6, w6⟩ := yM_Rf f5 c5 t2
  obtain ⟨g7, u1, u2⟩ := yM_e c6 (by omega) 1 (nI x) 0 0 (by decide)
  have f7 := yM_fE f6 u2
  have c7 := yM_cL c6 u2
  obtain ⟨g8, v1, v2⟩ := yM_e c7 (by show _ + 1 < _; omega) 0 st 0 0 (by decide)
  have f8 := yM_fE f7 v2
  have c8 := yM_cL c7 v2
  obtain ⟨g9, x1, x2⟩ := yM_e c8 (by show _ + 1 + 1 < _; omega) 7 y0 0 0 (by decide)
  have f9 := yM_fE f8 x2
  have c9 := yM_cL c8 x2
  obtain ⟨gA, y1, y2⟩ := yM_e c9 (by show _ + 1 + 1 + 1 < _; omega) 2 (nI x) 0 0 (by decide)
  have ET := yM_aL u2 (yM_aL v2 (yM_aL x2 y2))
  have RT := yM_Rap sT w5 t2 (yM_R0 (v := v + 1) (q := n + 2 + (3 + (yz_l Tb + 4))) l6 ET)
  have el : yz_l (yz_ap Tb (yz_i ([(1, nI x, 0, 0)] ++ ([(0, st, 0, 0)] ++ ([(7, y0, 0, 0)] ++ [(2, nI x, 0, 0)]))))) = yz_l Tb + 4 := yz_apl _ _ sT
  have exx : (yz_x (yz_ap Tb (yz_i ([(1, nI x, 0, 0)] ++ ([(0, st, 0, 0)] ++ ([(7, y0, 0, 0)] ++ [(2, nI x, 0, 0)]))))) (n + 2 + 2)).length ≤ c20 := by
    rw [yz_apx _ _ _ sT]
    exact hx _
  rw [hg5] at RT
  obtain ⟨gB, gC, gD, j1, j2, j3, j4, j5⟩ := yM_loop (q := q) (m := n + 2) c2 l2 (by rw [el]; omega) (by omega) d2 e2 (by rw [el]; exact RT)
  rw [el] at j1 j2 j3
  refine ⟨gD, ?_, yM_Rap ⟨by decide, trivial⟩ hw R1 (by exact j5)⟩
  have e191 : f_Mo_loopCode_191 g8 (nI k) (nI (n + 2 + 1 - s)) (nI w) y0 7 = some gD := by
    unfold f_Mo_loopCode_191
    refine (congrArg (fun z => zd_B z _) x1).trans ?_
    show (if zd_in (nI k) 33500 then (zd_B (f_Mo_emit g9 2 ((g9.2.1 101) (nI k).toNatClampNeg) 0 0) fun v6 h7 => (zd_B (f_Mo_emit h7 14 (nI (n + 2 + 1 - s)) 0 0) fun v9 h10 => ((f_Mo_here h10).bind fun v12 => ((f_Mo_aim h10 (nI (n + 2 + 1 - s)) v12).bind fun h14 => f_Mo_loopCode_L235 zF h14 (nI w))))) else none) = _
    rw [if_pos (zi_in (by omega) hk), nI_clamp (show k < 2147483648 by omega), f9.2.1 101 (by decide), m4]
    refine (congrArg (fun z => zd_B z _) y1).trans ?_
    refine (show zd_B (f_Mo_emit gA 14 (nI (n + 2 + 1 - s)) 0 0) _ = _ from (congrArg (fun z => zd_B z _) j1).trans ?_)
    show ((f_Mo_here gB).bind fun v12 => ((f_Mo_aim gB (nI (n + 2 + 1 - s)) v12).bind fun h14 => f_Mo_loopCode_L235 zF h14 (nI w))) = _
    rw [j2, Option.bind_some, j3, Option.bind_some, j4]
  have e170 : f_Mo_loopCode_170 g7 (nI k) ((g0.2.1 93) wv) (nI (n + 2 + 1 - s)) (nI w) st 0 = some gD := by
    unfold f_Mo_loopCode_170
    refine (congrArg (fun z => zd_B z _) v1).trans ?_
    show (if (g0.2.1 93) wv = 1 then f_Mo_loopCode_191 g8 (nI k) (nI (n + 2 + 1 - s)) (nI w) 0 7 else f_Mo_loopCode_191 g8 (nI k) (nI (n + 2 + 1 - s)) (nI w) 5 7) = _
    by_cases z : (g0.2.1 93) wv = 1
    · rw [if_pos z] at ey ⊢
      rw [← ey]; exact e191
    · rw [if_neg z] at ey ⊢
      rw [← ey]; exact e191
  have eL : g_Mo_loopCode (f_Mo_bodyCode D) g (nI k) = some gD := by
    unfold g_Mo_loopCode
    simp only [if_pos (zi_in (show k < 2147483648 by omega) hk), nI_clamp (show k < 2147483648 by omega), f' 76 (by decide), m1, if_pos (zi_in (show ka < 2147483648 by omega) hka), nI_clamp (show ka < 2147483648 by omega), f' 78 (by decide), m2, if_pos (zi_in (show kb < 2147483648 by omega) hkb), nI_clamp (show kb < 2147483648 by omega), m3, if_pos (zi_in (show kc < 2147483648 by omega) hkc), nI_clamp (show kc < 2147483648 by omega), c.2.2.2, f' 74 (by decide), yk_fva f, hv, Option.bind_some, if_pos (zi_in (show wv < 2147483648 by omega) hwv), nI_clamp (show wv < 2147483648 by omega), f' 93 (by decide)]
    refine (congrArg (fun z => zd_B z _) a1).trans ?_
    refine (show zd_B (f_Mo_emit g1 2 ((g1.2.1 101) k) 0 0) _ = _ from ?_)
    rw [f1.2.1 101 (by decide), m4]
    refine (congrArg (fun z => zd_B z _) b1).trans ?_
    refine (show (f_Mo_times g2 (nI k)).bind (fun v16 => zd_B (f_Mo_emit g2 12 ((g2.2.1 102) k) v16 0) _) = _ from ?_)
    rw [yk_ftm f2, et, Option.bind_some, f2.2.1 102 (by decide), m5]
    refine (congrArg (fun z => zd_B z _) d1).trans ?_
    refine (show zd_B (f_Mo_emit g3 13 ((g3.2.1 102) k) 0 0) _ = _ from ?_)
    rw [f3.2.1 102 (by decide), m5]
    refine (congrArg (fun z => zd_B z _) e1).trans ?_
    refine (show (f_Mo_bodyCode D (zs_uF g4 68 64 ((g4.1 68 64) + 1)) ((g4.2.1 77) k)).bind _ = _ from ?_)
    rw [show (g4.1 68 64) = nI v from c4.2.2.1, nI_1, ← hg5, f4.2.1 77 (by decide), m6, t1, Option.bind_some, f6.2.1 101 (by decide), m4]
    refine (congrArg (fun z => zd_B z _) u1).trans ?_
    show (if (g7.2.1 72) kc = 11 then f_Mo_loopCode_170 g7 (nI k) ((g0.2.1 93) wv) (nI (n + 2 + 1 - s)) ((g4.1 68 68)) 1 0 else f_Mo_loopCode_170 g7 (nI k) ((g0.2.1 93) wv) (nI (n + 2 + 1 - s)) ((g4.1 68 68)) ((g7.2.1 74) kc) 0) = _
    rw [show (g4.1 68 68) = nI w by rw [hg5] at l5; exact l5, f7.2.1 72 (by decide), f7.2.1 74 (by decide)]
    rcases es0 with ⟨z1, z2⟩ | ⟨z1, z2⟩
    · rw [if_neg z1, ← z2]; exact e170
    · rw [if_pos z1, ← z2]; exact e170
  rw [yk_sS]
  unfold g_Mo_statementCode
  simp only [if_pos (zi_in (show k < 2147483648 by omega) hk), nI_clamp (show k < 2147483648 by omega), f' 72 (by decide)]
  rw [m0, if_neg (by decide), if_neg (by decide), if_neg (by decide), if_neg (by decide), if_pos rfl]
  show (g_Mo_loopCode (f_Mo_bodyCode D) g (nI k)).bind _ = _
  rw [eL]
  rfl
end YFP
end
section
/-! The coder: what is known of the code of statements; a judged forest. -/
/-- an instruction of a statement of block b: its numbers are in their bounds; own cells are written from lo on -/
def yw_i (X Y : Nat → Nat) (kb : Nat → yK) (b lo : Nat) (i : yI) : Prop := yo_i X (fun u => (kb u).1 = 1) b i ∨ (i.1 = 2 ∧ ∃ x, i.2.1 = nI x ∧ ((x < Y b ∧ ¬ (kb b).2 x) ∨ (lo ≤ x ∧ x < X b))) ∨ (i.1 = 4 ∧ ∃ x s, i.2.1 = nI x ∧ i.2.2.2 = nI s ∧ x + s ≤ Y b ∧ ∀ j, j < s → ¬ (kb b).2 (x + j)) ∨ (i.1 = 15 ∧ ∃ u x, i.2.1 = nI u ∧ i.2.2.1 = nI x ∧ u < b ∧ (kb u).1 = 2 ∧ x + X u ≤ Y b ∧ ∀ j, j < X u → ((kb b).2 (x + j) ↔ (kb u).2 j)) ∨ (i.1 = 17 ∧ ∃ B x, i.2.1 = nI B ∧ i.2.2.1 = nI x ∧ B < 9 ∧ x + (zt_2.getD B 0).toNatClampNeg ≤ Y b ∧ ∀ j, j < (zt_2.getD B 0).toNatClampNeg → ((kb b).2 (x + j) ↔ B = 2 ∧ j = 2))
def yz_W (X Y : Nat → Nat) (kb : Nat → yK) (b : Nat) : ys → Nat → Prop
  | .leaf, _ => True
  | .inner k p _ l r, lo => (if k = 0 then yo_h 0 p.1 = some 0 ∧ ∀ i, i ∈ p.1 → yw_i X Y kb b lo i else if k = 2 then ∃ c N, p.2.1 = nI c ∧ p.2.2 = nI N ∧ lo ≤ c ∧ c < X b ∧ N ≤ 1000000 ∧ yz_st l ∧ yz_W X Y kb b l (c + 1) else if k = 5 then yo_h 0 p.1 = some 1 ∧ (∀ i, i ∈ p.1 → yo_i X (fun u => (kb u).1 = 1) b i) ∧ yz_st l ∧ yz_W X Y kb b l lo else (if k = 1 then yz_br l else yz_st l) ∧ yz_W X Y kb b l lo) ∧ yz_W X Y kb b r lo
/-- code that leaves the stack as it was -/
def yo_N (Bc : Nat → Nat → Prop) (b : Nat) (L : List yI) : Prop := ∀ (K : List Prop → Prop) (st : List Prop), K st → yo_W Bc b L K st
/-- BOOLs stay BOOLs -/
def yz_B (Bc : Nat → Nat → Prop) (b : Nat) : ys → Prop
  | .leaf => True
  | .inner k p _ l r => (if k = 0 then yo_N Bc b p.1 else if k = 2 then ¬ Bc b p.2.1.toNatClampNeg ∧ yz_B Bc b l else if k = 5 then yo_E Bc b False p.1 ∧ yz_B Bc b l else yz_B Bc b l) ∧ yz_B Bc b r
/-- .. in a body of statements -/
def yz_N (h0 : zs_H) (b : Nat) (T : ys) : Prop := ∀ LD : Nat → Prop, ¬ LD b → yz_B (yq_b LD h0) b T
theorem yz_Bap {Bc : Nat → Nat → Prop} {b : Nat} : ∀ (t u : ys), yz_B Bc b t → yz_B Bc b u → yz_B Bc b (yz_ap t u) := by
  intro t
  induction t with
  | leaf => intro u _ h; exact h
  | inner k p o l r _ ihr => intro u ⟨h1, h2⟩ h3; exact ⟨h1, ihr u h2 h3⟩
theorem yz_Bi {Bc : Nat → Nat → Prop} {b : Nat} {L : List yI} (h : yo_N Bc b L) : yz_B Bc b (yz_i L) := ⟨h, trivial⟩
theorem yo_N2 {Bc : Nat → Nat → Prop} {b x : Nat} {φ : Prop} {L : List yI} (A : yo_E Bc b φ L) (hx : x < 2147483648) (h : Bc b x → φ) : yo_N Bc b (L ++ [(2, nI x, 0, 0)]) := fun K st H => by
  rw [yo_Wap]
  refine A _ _ fun p hp => ?_
  show (Bc b (nI x).toNatClampNeg → p) ∧ K st
  rw [nI_clamp hx]
  exact ⟨fun z => hp (h z), H⟩
theorem yo_N4 {Bc : Nat → Nat → Prop} {b x s : Nat} {lo : Int32} {φ ψ : Prop} {L L1 : List yI} (A1 : yo_E Bc b ψ L1) (A : yo_E Bc b φ L) (hx : x < 2147483648) (hs : s < 2147483648) (h : ∀ j, j < s → Bc b (x + j) → φ) : yo_N Bc b (L1 ++ (L ++ [(4, nI x, lo, nI s)])) := fun K st H => by
  rw [yo_Wap]
  refine A1 _ _ fun q _ => ?_
  rw [yo_Wap]
  refine A _ _ fun p hp => ?_
  show (∀ j : Nat, j < (nI s).toNatClampNeg → Bc b ((nI x).toNatClampNeg + j) → p) ∧ K st
  rw [nI_clamp hx, nI_clamp hs]
  exact ⟨fun j hj z => hp (h j hj z), H⟩
/-- how many loops are in each other -/
def yz_v : ys → Nat
  | .leaf => 0
  | .inner k _ _ l r => max (if k = 2 then yz_v l + 1 else yz_v l) (yz_v r)
section YZW
variable {X Y : Nat → Nat} {kb : Nat → yK} {b : Nat}
theorem yw_m {lo lo' : Nat} {i : yI} (h : lo ≤ lo') (H : yw_i X Y kb b lo' i) : yw_i X Y kb b lo i := by
  rcases H with H | ⟨e, x, e1, H⟩ | H
  · exact .inl H
  · exact .inr (.inl ⟨e, x, e1, H.imp id (fun z => ⟨by omega, z.2⟩)⟩)
  · exact .inr (.inr H)
theorem yz_Wm : ∀ (t : ys) (lo lo' : Nat), lo ≤ lo' → yz_W X Y kb b t lo' → yz_W X Y kb b t lo := by
  intro t
  induction t with
  | leaf => intro _ _ _ _; trivial
  | inner k p o l r ihl ihr =>
    intro lo lo' h ⟨H1, H2⟩
    refine ⟨?_, ihr _ _ h H2⟩
    by_cases k0 : k = 0
    · rw [if_pos k0] at H1 ⊢; exact ⟨H1.1, fun i hi => yw_m h (H1.2 i hi)⟩
    rw [if_neg k0] at H1 ⊢
    by_cases k2 : k = 2
    · rw [if_pos k2] at H1 ⊢
      obtain ⟨c, N, a1, a2, a3, a4⟩ := H1
      exact ⟨c, N, a1, a2, by omega, a4⟩
    rw [if_neg k2] at H1 ⊢
    by_cases k5 : k = 5
    · rw [if_pos k5] at H1 ⊢; exact ⟨H1.1, H1.2.1, H1.2.2.1, ihl _ _ h H1.2.2.2⟩
    rw [if_neg k5] at H1 ⊢
    exact ⟨H1.1, ihl _ _ h H1.2⟩
theorem yz_Wap : ∀ (t u : ys) (lo : Nat), yz_W X Y kb b t lo → yz_W X Y kb b u lo → yz_W X Y kb b (yz_ap t u) lo := by
  intro t
  induction t with
  | leaf => intro u lo _ h; exact h
  | inner k p o l r _ ihr => intro u lo ⟨h1, h2⟩ h3; exact ⟨h1, ihr u lo h2 h3⟩
theorem yz_Wi {L : List yI} {lo : Nat} (h1 : yo_h 0 L = some 0) (h2 : ∀ i, i ∈ L → yw_i X Y kb b lo i) : yz_W X Y kb b (yz_i L) lo := ⟨⟨h1, h2⟩, trivial⟩
theorem yz_vap : ∀ (t u : ys), yz_v (yz_ap t u) = max (yz_v t) (yz_v u) := by
  intro t
  induction t with
  | leaf => intro u; show yz_v u = max 0 (yz_v u); omega
  | inner k p o l r _ ihr =>
    intro u
    show max (if k = 2 then yz_v l + 1 else yz_v l) (yz_v (yz_ap r u)) = max (max (if k = 2 then yz_v l + 1 else yz_v l) (yz_v r)) (yz_v u)
    rw [ihr u, Nat.max_assoc]
end YZW
theorem zg_x20 : ∀ t : zt_T, zg_x t ≤ zg_ct 20 t := by
  intro t
  induction t with
  | leaf => exact Nat.le_refl _
  | inner kd kv o l r ihl ihr =>
    show (if kd = 20 then 1 else if kd = 11 ∨ kd = 15 ∨ kd = 16 ∨ kd = 17 then zg_x l else 0) + zg_x r ≤ (if kd = 20 then 1 else 0) + zg_ct 20 l + zg_ct 20 r
    by_cases z : kd = 20
    · rw [if_pos z, if_pos z]; omega
    · rw [if_neg z, if_neg z]
      split <;> omega
/-- a judged forest: its nodes, its tree in the model, its own cells -/
def yj_f (LC LM : List (List Int32)) (Fb : Nat → Nat) (b : Nat) (h0 g0 : zs_H) (P Q : Nat → Prop) (ow : Nat) (t : zt_T) (Qm : Nat → Prop) (up x x' y : Int32) : Prop := yb_F Fb b h0 g0 P Q t x x' (-1) (-1) ∧ zt_M LC LM g0 t Qm up x' y ∧ yg_G 0 g0 Q ow t x'
def yj_cx (LC LM : List (List Int32)) (nb b sz : Nat) (F Fb X Y : Nat → Nat) (h0 g0 : zs_H) (P : Nat → Prop) : Prop := yk_cx LC LM nb F X Y h0 g0 ∧ b < nb ∧ (∀ j, j ≤ b + 1 → Fb j = F j) ∧ (∀ j, P j → j < 32784) ∧ (h0.1 12 6) = nI sz ∧ sz ≤ 32784
section YJC
variable {LC LM : List (List Int32)} {nb b sz ow : Nat} {F Fb X Y : Nat → Nat} {h0 g0 : zs_H} {P Q Qm : Nat → Prop} {up x x' y : Int32} {kd : Nat} {kv : Int32 × Int32} {o : Unit} {l r : zt_T}
theorem yj_c (H : yj_f LC LM Fb b h0 g0 P Q ow (.inner kd kv o l r) Qm up x x' y) : ∃ (i k : Nat) (xl : Int32) (Q1 Q2 : Nat → Prop) (z2 : Int32), ((P i ∧ i < 32784 ∧ x = nI i) ∧ (Q k ∧ k < 33500 ∧ x' = nI k) ∧ (g0.2.1 72) k = nI (zt_km kd)) ∧ yb_N Fb b h0 g0 P Q kd kv.2 i k xl (zt_ln l) ∧ (if zt_nk kd = true then zt_nr LC LM kv.2 ((g0.2.1 74) k) else (g0.2.1 74) k = kv.2) ∧ (∀ j, Q1 j → ¬ j = k) ∧ (¬ 30 ≤ zt_km kd → (kd = 16 → (g0.2.1 101) k = nI ow) ∧ (kd = 19 → (g0.2.1 102) k = nI ow) ∧ yj_f LC LM Fb b h0 g0 P Q (ow + yg_w 0 kd kv.2) l Q1 (nI k) xl ((g0.2.1 76) k) ((g0.2.1 77) k)) ∧ (yb_F Fb b h0 g0 P Q l xl ((g0.2.1 76) k) (-1) (-1) ∧ zt_M LC LM g0 l Q1 (nI k) ((g0.2.1 76) k) ((g0.2.1 77) k)) ∧ yj_f LC LM Fb b h0 g0 P Q (ow + yg_c 0 (.inner kd kv o l .leaf)) r Q2 up ((h0.2.1 18) i) ((g0.2.1 78) k) z2 ∧ y = (if z2 = -1 then x' else z2) := by
  obtain ⟨⟨i, k, xl, ⟨pi, i2, ix⟩, ⟨qk, k2, kx, km⟩, N, Al, Ar⟩, M, b', qb, b2, bx, bk, G1, G2⟩ := H
  obtain ⟨k', P1, P2, z2, ex', _, _, _, _, nv, _, d1, _, Ml, Mr, ey⟩ := zv_hM M
  have ek : k' = k := (nI_eq (by omega) (by omega)).mp (ex'.symm.trans kx)
  subst ek
  have eb : b' = k' := (nI_eq (by omega) (by omega)).mp (bx.symm.trans kx)
  subst eb
  refine ⟨i, b', xl, P1, P2, z2, ⟨⟨pi, i2, ix⟩, ⟨qk, k2, kx⟩, km⟩, N, nv, fun j hj => (d1 j hj).2.1, fun h30 => ?_, ⟨Al, Ml⟩, ⟨Ar, Mr, G2⟩, ey⟩
  rcases G1 with z | ⟨a1, a2, _, a4⟩
  · exact absurd z h30
  · exact ⟨a1 rfl, a2 rfl, Al, Ml, a4⟩
/-- the first tree of a forest is an expression -/
theorem yj_e (C : yj_cx LC LM nb b sz F Fb X Y h0 g0 P) (ok : zg_ok (.inner kd kv o l r)) (hE : kd ∈ yb_E) (hd : zg_d l + 1 ≤ 190) (hz : zt_sz l + 1 ≤ sz) (A : yb_F Fb b h0 g0 P Q (.inner kd kv o l r) x x' (-1) (-1)) (M : zt_M LC LM g0 (.inner kd kv o l r) Qm up x' y) : ∃ (i k : Nat) (Q1 : Nat → Prop) (L : List yI), (i < 32784 ∧ x = nI i) ∧ (k < 33500 ∧ x' = nI k ∧ ¬ Q1 k) ∧ (yk_C h0 (zg_d l) (nI i) L ∧ yk_M g0 b Q1 (zg_d l) k L) ∧ ((L.length + 1 ≤ 6 * (1 + zt_sz l) ∧ yk_ty h0 b i L) ∧ yk_e X (fun u => (h0.2.1 21) (9 + u) = 1) b L) := by
  obtain ⟨c1, c2, c3, c4, c5, c6⟩ := C
  obtain ⟨⟨hA, hv⟩, okl, _⟩ := ok
  obtain ⟨i, k, Q1, Q2, z2, L, ⟨_, a1⟩, ⟨_, a2⟩, a3, _, a5, a6, _, _⟩ := yk_exp1 c1 c2 c3 c4 c5 c6 (fun okl tpl => yk_exp c1 c2 c3 c4 c5 c6 l okl tpl) hA hv okl hE Qm up x x' y (-1) (-1) M A hd hz
  exact ⟨i, k, Q1, L, a1, ⟨a2.1, a2.2, fun z => (a3 k z).2 rfl⟩, a5, a6⟩
/-- one child of a kind -/
theorem yj_q {c st : Nat} {kv : Int32 × Int32} {o : Unit} {lc r : zt_T} (h : ¬ zg_run kd st (.inner c kv o lc r) = 99) : ∃ cs to, (kd, st, cs, to) ∈ zg_R ∧ c ∈ cs ∧ zg_q kd st c = to ∧ ¬ zg_run kd to r = 99 := by
  have h1 : ¬ zg_run kd (zg_q kd st c) r = 99 := h
  have h2 : ¬ zg_q kd st c = 99 := fun z => h1 (by rw [z]; exact zv_q99 kd r)
  obtain ⟨cs, to, m1, m2, m3⟩ := zv_qR h2
  exact ⟨cs, to, m1, m2, m3, by rw [← m3]; exact h1⟩
theorem yj_q11 {c : Nat} {kv : Int32 × Int32} {o : Unit} {lc r : zt_T} (h : ¬ zg_run 11 0 (.inner c kv o lc r) = 99) : (c = 12 ∨ c = 13 ∨ c = 15 ∨ c = 16 ∨ c = 19 ∨ c = 20 ∨ c = 21) ∧ ¬ zg_run 11 0 r = 99 := by
  have key : ∀ r ∈ zg_R, r.1 = 11 → r.2 = (0, [12, 13, 15, 16, 19, 20, 21], 0) := by decide +kernel
  obtain ⟨cs, to, m1, m2, _, m4⟩ := yj_q h
  have k1 := key _ m1 rfl
  simp only [Prod.mk.injEq] at k1
  obtain ⟨_, e2, e3⟩ := k1
  rw [e2] at m2
  rw [e3] at m4
  simp only [List.mem_cons, List.not_mem_nil, or_false] at m2
  exact ⟨m2, m4⟩
end YJC
/-- a statement that has been coded -/
def yj_1 (X Y : Nat → Nat) (h0 g0 : zs_H) (b kd : Nat) (kv : Int32 × Int32) (l : zt_T) (i k ow : Nat) (T : ys) : Prop := yz_st T ∧ (yk_SC h0 (zg_d l) kd i ow (yg_c 0 (.inner kd kv () l .leaf)) T ∧ yk_SM g0 b (zg_d l) k T (zg_ct 20 (.inner kd kv () l .leaf)) (zg_ct 11 (.inner kd kv () l .leaf))) ∧ ((∀ n, (yz_x T n).length ≤ zg_x (.inner kd kv () l .leaf)) ∧ yz_l T ≤ 6 * zt_sz (.inner kd kv () l .leaf)) ∧ yz_W X Y (yq_k h0) b T ow ∧ 3 * yz_v T ≤ zg_d (.inner kd kv () l .leaf) ∧ yz_N h0 b T
/-- a row of statements that has been coded -/
def yj_L (X Y : Nat → Nat) (h0 g0 : zs_H) (b : Nat) (t : zt_T) (x x' : Int32) (ow : Nat) (T : ys) : Prop := yk_SL h0 g0 b t x x' ow T ∧ (∀ n, (yz_x T n).length ≤ zg_x t) ∧ yz_W X Y (yq_k h0) b T ow ∧ 3 * yz_v T ≤ zg_d t ∧ yz_N h0 b T
/-- it can be coded, wherever it stands -/
def yj_K (LC LM : List (List Int32)) (b sz : Nat) (Fb X Y : Nat → Nat) (h0 g0 : zs_H) (P Q : Nat → Prop) (t : zt_T) : Prop := ∀ (ow : Nat) (Qm : Nat → Prop) (up x x' y : Int32), yj_f LC LM Fb b h0 g0 P Q ow t Qm up x x' y → zg_ok t → ¬ zg_run 11 0 t = 99 → zg_d t ≤ 187 → zt_sz t + 1 ≤ sz → Y b ≤ ow → ow + yg_c 0 t ≤ X b → ∃ T, yj_L X Y h0 g0 b t x x' ow T
end
section
/-! The coder: assignments, invocations, EXIT, RETURN, on both sides. -/
section YJA
variable {LC LM : List (List Int32)} {nb b sz ow : Nat} {F Fb X Y : Nat → Nat} {h0 g0 : zs_H} {P Q Qm : Nat → Prop} {up x x' y : Int32} {kd : Nat} {kv : Int32 × Int32} {o : Unit} {l r : zt_T}
theorem yj_pl {i k n : Nat} {v xl : Int32} (hk : kd ∈ yb_pl) (N : yb_N Fb b h0 g0 P Q kd v i k xl n) : (h0.2.1 13) i = nI kd ∧ (h0.2.1 17) i = xl ∧ (h0.2.1 16) i = v := by
  have key : ∀ z ∈ yb_pl, ¬ z = 38 ∧ ¬ z = 13 ∧ ¬ z = 14 ∧ ¬ z = 19 ∧ ¬ z = 6 ∧ ¬ (z = 30 ∨ z = 31) ∧ ¬ z = 32 ∧ ¬ z = 33 ∧ ¬ z = 34 ∧ ¬ z = 35 ∧ ¬ z = 36 := by decide
  obtain ⟨k1, k2, k3, k4, k5, k6, k7, k8, k9, k10, k11⟩ := key _ hk
  rcases N with N | ⟨ty, _, _, _, N⟩
  · rcases N with e | ⟨_, a⟩ | ⟨e, _⟩ | ⟨e, _⟩ | ⟨e, _⟩
    · exact absurd e k1
    · exact ⟨a.1, a.2.1, a.2.2.1⟩
    · exact absurd e k2
    · exact absurd e k3
    · exact absurd e k4
  · rcases N with ⟨e, _⟩ | ⟨e, _⟩ | ⟨e, _⟩ | ⟨e, _⟩ | ⟨e, _⟩ | ⟨e, _⟩ | ⟨e, _⟩ | ⟨e, _⟩
    · exact absurd e k5
    · exact absurd e k6
    · exact absurd e k7
    · exact absurd e k8
    · exact absurd e k9
    · exact absurd e k9
    · exact absurd e k10
    · exact absurd e k11
theorem yj_sy {i k n : Nat} {v xl : Int32} (hk : kd = 12 ∨ kd = 25) (N : yb_N Fb b h0 g0 P Q kd v i k xl n) : yb_sy h0 P kd xl := by
  rcases N with N | ⟨ty, _, _, _, N⟩
  · rcases N with e | ⟨_, a⟩ | ⟨e, _⟩ | ⟨e, _⟩ | ⟨e, _⟩
    · omega
    · exact a.2.2.2
    · omega
    · omega
    · omega
  · rcases N with ⟨e, _⟩ | ⟨e, _⟩ | ⟨e, _⟩ | ⟨e, _⟩ | ⟨e, _⟩ | ⟨e, _⟩ | ⟨e, _⟩ | ⟨e, _⟩ <;> omega
theorem yj_6 {i k n : Nat} {v xl : Int32} (N : yb_N Fb b h0 g0 P Q 6 v i k xl n) : (h0.2.1 13) i = 6 ∧ ∃ u x, yb_V Fb b h0 v u x ∧ (h0.2.1 16) i = nI (32 + u) ∧ (g0.2.1 101) k = nI x ∧ (h0.2.1 30) (32 + u) = -1 ∧ (h0.2.1 14) i = (h0.2.1 31) (32 + u) := by
  rcases N with N | ⟨ty, _, t2, _, N⟩
  · exact absurd (yb_SE N) (fun z => z (by decide))
  · rcases N with ⟨_, a, u, x, b1, b2, b3, b4, b5⟩ | ⟨e, _⟩ | ⟨e, _⟩ | ⟨e, _⟩ | ⟨e, _⟩ | ⟨e, _⟩ | ⟨e, _⟩ | ⟨e, _⟩
    · exact ⟨a, u, x, b1, b2, b3, b4, t2.trans b5.symm⟩
    all_goals exact absurd e (by decide)
theorem yj_32 {i k n : Nat} {v xl : Int32} (N : yb_N Fb b h0 g0 P Q 32 v i k xl n) : (h0.2.1 13) i = 32 ∧ (h0.2.1 17) i = xl ∧ ∃ u x, yb_V Fb b h0 v u x ∧ (h0.2.1 16) i = nI (32 + u) ∧ (g0.2.1 101) k = nI x ∧ (h0.2.1 30) (32 + u) = -2 ∧ (h0.2.1 14) i = (h0.2.1 31) (32 + u) := by
  rcases N with N | ⟨ty, _, t2, _, N⟩
  · exact absurd (yb_SE N) (fun z => z (by decide))
  · rcases N with ⟨e, _⟩ | ⟨e, _⟩ | ⟨_, a, a', u, x, b1, b2, b3, b4, b5⟩ | ⟨e, _⟩ | ⟨e, _⟩ | ⟨e, _⟩ | ⟨e, _⟩ | ⟨e, _⟩
    · exact absurd e (by decide)
    · exact absurd e (by decide)
    · exact ⟨a, a', u, x, b1, b2, b3, b4, t2.trans b5.symm⟩
    all_goals exact absurd e (by decide)
/-- expressions have no own cells -/
theorem yj_g0 : ∀ t : zt_T, zg_ok t → yb_top t → yg_c 0 t = 0 := by
  intro t
  induction t with
  | leaf => intro _ _; rfl
  | inner kd kv o l r _ ihr =>
    intro ⟨⟨hA, _⟩, okl, okr⟩ ⟨hE, tr⟩
    show (if 30 ≤ zt_km kd then 0 else yg_w 0 kd kv.2 + yg_c 0 l) + yg_c 0 r = 0
    rw [ihr okr tr]
    have key : ∀ z ∈ yb_E, z = 6 ∨ 30 ≤ zt_km z := by decide
    rcases key kd hE with e | e
    · subst e
      rw [zv_nolf (kd := 6) (by decide +kernel) hA]
      rfl
    · rw [if_pos e]
theorem nI_m2 {t : Nat} (ht : t < 2147483648) : ¬ nI t = -2 := by
  intro q
  have h := nI_pos ht
  rw [q] at h
  exact h (by decide)
/-- a variable of the block -/
theorem yj_var {u xx : Nat} {v : Int32} (C : yj_cx LC LM nb b sz F Fb X Y h0 g0 P) (V : yb_V Fb b h0 v u xx) : ∃ x0 s ty, (nI xx = nI x0 ∧ (h0.2.1 32) (32 + u) = nI x0) ∧ ((h0.2.1 34) (32 + u) = nI s ∧ (g0.2.1 98) u = nI s) ∧ (g0.2.1 97) u = (h0.2.1 33) (32 + u) ∧ (x0 + s ≤ Y b ∧ u < 5900) ∧ ((h0.2.1 31) (32 + u) = nI ty ∧ ty < 3) ∧ ((h0.2.1 30) (32 + u) = -1 → s = 1 ∧ (g0.2.1 93) u = nI ty) ∧ ∀ B, B < 600 → (h0.2.1 30) (32 + u) = nI B → (g0.2.1 93) u = nI (if B < 9 then 100000 + B else B - 9) ∧ (9 ≤ B → (h0.2.1 21) B = 2) ∧ (h0.2.1 26) B = nI s := by
  obtain ⟨c1, c2, c3, c4, c5, c6⟩ := C
  obtain ⟨v1, v2, _, _, v5⟩ := V
  rw [c3 _ (by omega)] at v1
  rw [c3 _ (by omega)] at v2
  have B3 : nb ≤ 568 := c1.1.2.1.1.2.2
  obtain ⟨ty, x0, s, ⟨t0, t1⟩, ⟨q2, _⟩, q3, q4, _, q6, q7⟩ := yk_Q c1 c2 v1 v2
  refine ⟨x0, s, ty, ⟨v5.symm.trans q2, q2⟩, q3, q4, q6, ⟨t1, t0⟩, fun z => ?_, fun B hB z => ?_⟩
  · rcases q7 with ⟨_, _, e1, e⟩ | ⟨e, _⟩ | ⟨B', hB', e, _⟩
    · exact ⟨e, e1⟩
    · rw [z] at e; exact absurd e (by decide)
    · rw [z] at e; exact absurd e.symm (zc_m1 (by omega))
  · rcases q7 with ⟨e, _⟩ | ⟨e, _⟩ | ⟨B', hB', e, _, e2, e3, e4⟩
    · rw [z] at e; exact absurd e (zc_m1 (by omega))
    · rw [z] at e; exact absurd e (nI_m2 (by omega))
    · rw [z] at e
      have : B = B' := (nI_eq (by omega) (by omega)).mp e
      subst this
      exact ⟨e2, e3, e4⟩
theorem yj_ra {u xx : Nat} {v : Int32} (C : yj_cx LC LM nb b sz F Fb X Y h0 g0 P) (V : yb_V Fb b h0 v u xx) : (F b ≤ u ∧ u < F (b + 1)) ∧ Y b ≤ 4096 := by
  obtain ⟨c1, c2, c3, _⟩ := C
  obtain ⟨v1, v2, _⟩ := V
  rw [c3 _ (by omega)] at v1
  rw [c3 _ (by omega)] at v2
  exact ⟨⟨v1, v2⟩, (c1.2.2 b c2).1.2.2⟩
theorem yj_ni {u xx x0 : Nat} {v : Int32} (C : yj_cx LC LM nb b sz F Fb X Y h0 g0 P) (V : yb_V Fb b h0 v u xx) (hi : (h0.2.1 30) (32 + u) = -1) (c1 : (h0.2.1 32) (32 + u) = nI x0) (hx : x0 < Y b) : ¬ (yq_k h0 b).2 x0 := by
  obtain ⟨r1, r2⟩ := yj_ra C V
  obtain ⟨_, s, _, _, ⟨c2, _⟩, _, _, _, c8, _⟩ := yj_var C V
  rw [(c8 hi).1] at c2
  exact yq_ni (s := 1) (j := 0) C.1 C.2.1 r1 (.inl hi) c1 (by omega) c2 (by omega) (by omega)
theorem yj_na {u xx x0 s : Nat} {v : Int32} (C : yj_cx LC LM nb b sz F Fb X Y h0 g0 P) (V : yb_V Fb b h0 v u xx) (hi : (h0.2.1 30) (32 + u) = -2) (c1 : (h0.2.1 32) (32 + u) = nI x0) (c2 : (h0.2.1 34) (32 + u) = nI s) (hx : x0 + s ≤ Y b) : ∀ j, j < s → ¬ (yq_k h0 b).2 (x0 + j) := by
  obtain ⟨r1, r2⟩ := yj_ra C V
  exact fun j hj => yq_ni C.1 C.2.1 r1 (.inr hi) c1 (by omega) c2 (by omega) hj
theorem yw_e {L : List yI} {kb : Nat → yK} {lo : Nat} (E : yk_e X (fun u => (kb u).1 = 1) b L) : ∀ i, i ∈ L → yw_i X Y kb b lo i := fun i hi => .inl (E.2 i hi)
/-- a BOOL's cell, if it is among them -/
theorem yj_b1 {u xx x0 : Nat} {v : Int32} {LD : Nat → Prop} (C : yj_cx LC LM nb b sz F Fb X Y h0 g0 P) (V : yb_V Fb b h0 v u xx) (hi : (h0.2.1 30) (32 + u) = -1) (c1 : (h0.2.1 32) (32 + u) = nI x0) (hx : x0 < Y b) (H : yq_b LD h0 b x0) : (h0.2.1 31) (32 + u) = 0 := by
  obtain ⟨r1, r2⟩ := yj_ra C V
  obtain ⟨_, s, _, _, ⟨c2, _⟩, _, _, _, c8, _⟩ := yj_var C V
  rw [(c8 hi).1] at c2
  exact yq_bc (s := 1) (j := 0) C.1 C.2.1 r1 (.inl hi) c1 (by omega) c2 (by omega) (by omega) H
theorem yj_ba {u xx x0 s : Nat} {v : Int32} {LD : Nat → Prop} (C : yj_cx LC LM nb b sz F Fb X Y h0 g0 P) (V : yb_V Fb b h0 v u xx) (hi : (h0.2.1 30) (32 + u) = -2) (c1 : (h0.2.1 32) (32 + u) = nI x0) (c2 : (h0.2.1 34) (32 + u) = nI s) (hx : x0 + s ≤ Y b) (j : Nat) (hj : j < s) (H : yq_b LD h0 b (x0 + j)) : (h0.2.1 31) (32 + u) = 0 := by
  obtain ⟨r1, r2⟩ := yj_ra C V
  exact yq_bc C.1 C.2.1 r1 (.inr hi) c1 (by omega) c2 (by omega) hj H
/-- an assignment -/
theorem yj_12 {i k : Nat} {xl : Int32} {Q1 : Nat → Prop} (C : yj_cx LC LM nb b sz F Fb X Y h0 g0 P) (hi : i < 32784) (hk : k < 33500) (km : (g0.2.1 72) k = 12) (N : yb_N Fb b h0 g0 P Q 12 kv.2 i k xl (zt_ln l)) (A : yj_f LC LM Fb b h0 g0 P Q ow l Q1 (nI k) xl ((g0.2.1 76) k) ((g0.2.1 77) k)) (hA : zg_A 12 (zg_run 12 0 l) = true) (ok : zg_ok l) (hd : zg_d l ≤ 187) (hz : zt_sz l + 1 ≤ sz) : ∃ T, yj_1 X Y h0 g0 b 12 kv l i k ow T := by
  obtain ⟨_, ec, _⟩ := yj_pl (by decide) N
  obtain ⟨c1, kv1, o1, l1, c2, kv2, o2, l2, el, hc1, hc2⟩ := yc_g12 hA
  subst el
  have hd0 : max (zg_d l1 + 1) (max (zg_d l2 + 1) 0) ≤ zg_d (.inner c1 kv1 o1 l1 (.inner c2 kv2 o2 l2 .leaf)) := zg_d2 (r := .leaf)
  have hz0 : zt_sz (.inner c1 kv1 o1 l1 (.inner c2 kv2 o2 l2 .leaf)) = 1 + zt_sz l1 + (1 + zt_sz l2 + 0) := rfl
  obtain ⟨ok1, okl1, ok2⟩ := id ok
  have hc1E : c1 ∈ yb_E := by rcases hc1 with e | e <;> subst e <;> decide
  have g0' : yg_c 0 (.inner 12 kv () (.inner c1 kv1 o1 l1 (.inner c2 kv2 o2 l2 .leaf)) .leaf) = 0 := by
    show 0 + yg_c 0 (.inner c1 kv1 o1 l1 (.inner c2 kv2 o2 l2 .leaf)) + 0 = 0
    rw [yj_g0 _ ok ⟨hc1E, hc2, trivial⟩]
  obtain ⟨a, ka, xa, Qa, Qb, z2, ⟨⟨pa, ha, ea⟩, ⟨_, hka, eka⟩, mka⟩, Na, nva, _, _, ⟨Aa, Ma⟩, R, ey⟩ := yj_c A
  obtain ⟨c, kc, Qc, L, ⟨hc, exc⟩, ⟨hkc, ekc, nQ⟩, ⟨LC', LM'⟩, ⟨Ll, Le⟩⟩ := yj_e C ok2 hc2 (by omega) (by omega) R.1 R.2.1
  have ez : z2 = nI kc := by
    obtain ⟨_, _, _, _, _, z3, _, _, _, _, _, _, R2, ey2⟩ := yj_c R
    have := (show (g0.2.1 78) _ = -1 ∧ z3 = -1 from R2.2.1).2
    rw [this, if_pos rfl, ekc] at ey2
    exact ey2
  have elast : (g0.2.1 77) k = nI kc := by
    rw [ey, ez, if_neg (zc_m1 (by omega))]
  rw [ekc] at *
  have tyA : (h0.2.1 14) a = 0 → (h0.2.1 14) c = 0 := by
    obtain ⟨a', b', q1, q2, q3, q4, q5⟩ := (yj_sy (.inl rfl) N).1 rfl
    have hP := C.2.2.2.1
    have t1 : a' = a := (nI_eq (by have := hP _ q2; omega) (by omega)).mp (q1.symm.trans ea)
    subst t1
    have t2 : b' = c := (nI_eq (by have := hP _ q4; omega) (by omega)).mp (q3.symm.trans exc)
    subst t2
    exact q5
  have hY4 := (C.1.2.2 b C.2.1).1
  rcases hc1 with e | e
  · subst e
    obtain ⟨k6, u, xx, V, a1, a2, a3, a3t⟩ := yj_6 Na
    obtain ⟨x0, s, ty, ⟨v1, v2⟩, _, _, ⟨v5, v6⟩, _, v8, _⟩ := yj_var C V
    have s1 := (v8 a3).1
    refine ⟨yz_i (L ++ [(2, nI x0, 0, 0)]), ⟨by decide, trivial⟩, ⟨?_, ?_⟩, ⟨fun n => Nat.zero_le _, ?_⟩, yz_Wi ?_ ?_, Nat.zero_le _, fun LD _ => yz_Bi (yo_N2 (Ll.2.1 LD) (by omega) (fun z => tyA (a3t.trans (yj_b1 C V a3 v2 (by omega) z))))⟩
    · rw [g0']
      exact yk_S12 hi (ec.trans ea) ha k6 (show 32 + u < 6000 by omega) a1 v2 exc (by omega) LC'
    · exact yk_T12 hk km eka hka mka elast hkc (a2.trans v1) (by omega) nQ LM'
    · rw [yz_il, List.length_append]
      show L.length + 1 ≤ 6 * (1 + zt_sz (.inner 6 kv1 o1 l1 (.inner c2 kv2 o2 l2 .leaf)) + 0)
      omega
    · rw [yo_1 (Le.1 0)]; rfl
    · intro j hj
      rcases List.mem_append.mp hj with z | z
      · exact yw_e Le j z
      · rw [List.mem_singleton.mp z]
        exact .inr (.inl ⟨rfl, x0, rfl, .inl ⟨by omega, yj_ni C V a3 v2 (by omega)⟩⟩)
  · subst e
    obtain ⟨k32, ecl, u, xx, V, a1, a2, a3, a3t⟩ := yj_32 Na
    obtain ⟨x0, s, ty, ⟨v1, v2⟩, ⟨v3, v3'⟩, v4, ⟨v5, v6⟩, _, _, _⟩ := yj_var C V
    obtain ⟨cd, ckv, co, cl, el1, hcE⟩ := yb_g1 (.inl rfl) ok1.1
    subst el1
    have hd1 : max (zg_d cl + 1) 0 ≤ zg_d (.inner cd ckv co cl .leaf) := zg_d1 (r := .leaf)
    have hz1 : zt_sz (.inner cd ckv co cl .leaf) = 1 + zt_sz cl + 0 := rfl
    obtain ⟨e, ke, Qe, L1, ⟨he, exe⟩, ⟨hke, eke, nQe⟩, ⟨LC1, LM1⟩, ⟨Ll1, Le1⟩⟩ := yj_e C okl1 hcE (by omega) (by omega) Aa Ma
    rw [if_pos (by decide)] at nva
    have hv := yk_vM C.1 C.2.1 C.2.2.1 V nva
    refine ⟨yz_i (L1 ++ (L ++ [(4, nI x0, (h0.2.1 33) (32 + u), nI s)])), ⟨by decide, trivial⟩, ⟨?_, ?_⟩, ⟨fun n => Nat.zero_le _, ?_⟩, yz_Wi ?_ ?_, Nat.zero_le _, fun LD _ => yz_Bi (yo_N4 (Ll1.2.1 LD) (Ll.2.1 LD) (by omega) (by omega) (fun j hj z => tyA (a3t.trans (yj_ba C V a3 v2 v3 v5 j hj z))))⟩
    · rw [g0', ← v3]
      exact yk_S12e hi (ec.trans ea) ha k32 (show 32 + u < 6000 by omega) a1 v2 exc (ecl.trans exe) (by omega) (by omega) LC1 LC'
    · rw [← v4, ← v3']
      exact yk_T12e hk km eka hka mka elast hkc (a2.trans v1) eke hke hv (by omega) (by omega) (by omega) nQe nQ LM1 LM'
    · rw [yz_il, List.length_append, List.length_append]
      show L1.length + (L.length + 1) ≤ 6 * (1 + zt_sz (.inner 32 kv1 o1 (.inner cd ckv co cl .leaf) (.inner c2 kv2 o2 l2 .leaf)) + 0)
      omega
    · rw [yo_1 (Le1.1 0), yo_1 (Le.1 _)]; rfl
    · intro j hj
      rcases List.mem_append.mp hj with z | z
      · exact yw_e Le1 j z
      rcases List.mem_append.mp z with z | z
      · exact yw_e Le j z
      · rw [List.mem_singleton.mp z]
        exact .inr (.inr (.inl ⟨rfl, x0, s, rfl, rfl, v5, yj_na C V a3 v2 v3 v5⟩))
theorem yj_20 {i k : Nat} (hk : k < 33500) (km : (g0.2.1 72) k = 20) (hl : l = .leaf) : ∃ T, yj_1 X Y h0 g0 b 20 kv l i k ow T := by
  subst hl
  exact ⟨.inner 3 ([], 0, 0) () .leaf .leaf, ⟨by decide, trivial⟩, ⟨yk_S20, yk_T20 hk km (Nat.le_refl _)⟩, ⟨fun n => Nat.le_refl _, by show 1 + 0 ≤ 6 * (1 + 0 + 0); omega⟩, ⟨⟨trivial, trivial⟩, trivial⟩, Nat.zero_le _, fun LD _ => ⟨trivial, trivial⟩⟩
theorem yj_21 {i k : Nat} (hi : i < 32784) (hk : k < 33500) (km : (g0.2.1 72) k = 21) (hl : l = .leaf) : ∃ T, yj_1 X Y h0 g0 b 21 kv l i k ow T := by
  subst hl
  exact ⟨.inner 4 ([], 0, 0) () .leaf .leaf, ⟨by decide, trivial⟩, ⟨yk_S21 hi, yk_T21 hk km⟩, ⟨fun n => Nat.le_refl _, by show 1 + 0 ≤ 6 * (1 + 0 + 0); omega⟩, ⟨⟨trivial, trivial⟩, trivial⟩, Nat.zero_le _, fun LD _ => ⟨trivial, trivial⟩⟩
end YJA
end
section
/-! The coder: invocations, on both sides. -/
section YJI
variable {LC LM : List (List Int32)} {nb b sz ow : Nat} {F Fb X Y : Nat → Nat} {h0 g0 : zs_H} {P Q Qm : Nat → Prop} {up x x' y : Int32} {kd : Nat} {kv : Int32 × Int32} {o : Unit} {l r : zt_T}
theorem yj_13 {i k n : Nat} {v xl : Int32} (N : yb_N Fb b h0 g0 P Q 13 v i k xl n) : (h0.2.1 13) i = 13 ∧ (h0.2.1 17) i = xl ∧ ∃ u x B, yb_V Fb b h0 v u x ∧ (h0.2.1 16) i = nI (32 + u) ∧ (h0.2.1 30) (32 + u) = nI B ∧ B < 9 + b ∧ (g0.2.1 101) k = nI x ∧ (g0.2.1 102) k = nI (if B < 9 then 100 + B else B - 9) ∧ yb_pr Fb b h0 g0 P Q B x n xl ((g0.2.1 76) k) := by
  rcases N with N | ⟨ty, _, _, _, N⟩
  · rcases N with e | ⟨e, _⟩ | ⟨_, a⟩ | ⟨e, _⟩ | ⟨e, _⟩
    · exact absurd e (by decide)
    · exact absurd e (by decide)
    · exact a
    · exact absurd e (by decide)
    · exact absurd e (by decide)
  · rcases N with ⟨e, _⟩ | ⟨e, _⟩ | ⟨e, _⟩ | ⟨e, _⟩ | ⟨e, _⟩ | ⟨e, _⟩ | ⟨e, _⟩ | ⟨e, _⟩ <;> exact absurd e (by decide)
theorem yj_14 {i k n : Nat} {v xl : Int32} (N : yb_N Fb b h0 g0 P Q 14 v i k xl n) : (h0.2.1 13) i = 14 ∧ (h0.2.1 17) i = xl := by
  rcases N with N | ⟨ty, _, _, _, N⟩
  · rcases N with e | ⟨e, _⟩ | ⟨e, _⟩ | ⟨_, a⟩ | ⟨e, _⟩
    · exact absurd e (by decide)
    · exact absurd e (by decide)
    · exact absurd e (by decide)
    · exact a
    · exact absurd e (by decide)
  · rcases N with ⟨e, _⟩ | ⟨e, _⟩ | ⟨e, _⟩ | ⟨e, _⟩ | ⟨e, _⟩ | ⟨e, _⟩ | ⟨e, _⟩ | ⟨e, _⟩ <;> exact absurd e (by decide)
/-- the parameters -/
theorem yj_prm {B xx x0 s uu : Nat} (C : yj_cx LC LM nb b sz F Fb X Y h0 g0 P) (hu : F b ≤ uu ∧ uu < F (b + 1)) (uB : (h0.2.1 30) (32 + uu) = nI B) (uc : (h0.2.1 32) (32 + uu) = nI x0) (ul : (h0.2.1 34) (32 + uu) = nI s) (hB : B < 9 + b) (ex : nI xx = nI x0) (hs : x0 + s ≤ Y b) (ec : (h0.2.1 26) B = nI s) : ∀ (l : zt_T) (ow : Nat) (Qm : Nat → Prop) (up x x' y : Int32), zg_ok l → ¬ zg_run 13 0 l = 99 → yj_f LC LM Fb b h0 g0 P Q ow l Qm up x x' y → yb_pr Fb b h0 g0 P Q B xx (zt_ln l) x x' → zg_d l ≤ 187 → zt_sz l + 1 ≤ sz → ∃ ps, yk_PC h0 x0 ps x ∧ yk_PM g0 b x0 ps x' ∧ ps.length = zt_ln l ∧ (yz_p x0 ps).length ≤ 6 * zt_sz l ∧ yo_h 0 (yz_p x0 ps) = some 0 ∧ (∀ i, i ∈ yz_p x0 ps → yw_i X Y (yq_k h0) b ow i) ∧ yg_c 0 l = 0 ∧ ∀ LD : Nat → Prop, yo_N (yq_b LD h0) b (yz_p x0 ps) := by
  have kB := (C.1.2.2 b C.2.1).1
  intro l
  induction l with
  | leaf => intro ow Qm up x x' y _ _ A _ _ _; exact ⟨[], A.1.1, A.1.2, rfl, Nat.le_refl _, rfl, fun i hi => (by cases hi), rfl, fun LD K st H => H⟩
  | inner c kv o lc r _ ihr =>
    intro ow Qm up x x' y ok hr A pr hd hz
    obtain ⟨ok1, okl, okr⟩ := id ok
    have key : ∀ r ∈ zg_R, r.1 = 13 → r.2 = (0, [14], 0) := by decide +kernel
    obtain ⟨cs, to, m1, m2, _, m4⟩ := yj_q hr
    have k1 := key _ m1 rfl
    simp only [Prod.mk.injEq] at k1
    obtain ⟨_, e2, e3⟩ := k1
    rw [e2] at m2
    rw [e3] at m4
    have ec14 : c = 14 := List.mem_singleton.mp m2
    subst ec14
    have hd0 : max (zg_d lc + 1) (zg_d r) ≤ zg_d (.inner 14 kv o lc r) := zg_d1
    have hz0 : zt_sz (.inner 14 kv o lc r) = 1 + zt_sz lc + zt_sz r := rfl
    obtain ⟨i, k, xl, Q1, Q2, z2, ⟨⟨pi, hi, ei⟩, ⟨qk, hk, ek⟩, mk⟩, N, _, _, G, ⟨Al, Ml⟩, R, _⟩ := yj_c A
    obtain ⟨k14, ech⟩ := yj_14 N
    obtain ⟨ce, kve, oe, le, el, hce⟩ := yc_g14 ok1.1
    subst el
    have hd1 : max (zg_d le + 1) 0 ≤ zg_d (.inner ce kve oe le .leaf) := zg_d1 (r := .leaf)
    have hz1 : zt_sz (.inner ce kve oe le .leaf) = 1 + zt_sz le + 0 := rfl
    obtain ⟨a, b', cv, off, ⟨pa, ha, ea⟩, ⟨qb, hb', eb, _⟩, p1, p2, p3, p4, ⟨p5, p6, p7, p7t⟩, p8⟩ := (show yb_pr Fb b h0 g0 P Q B xx (zt_ln r + 1) x x' by rw [show zt_ln r + 1 = zt_ln (.inner 14 kv o (.inner ce kve oe le .leaf) r) from Nat.add_comm _ _]; exact pr)
    have eai : a = i := (nI_eq (by omega) (by omega)).mp (ea.symm.trans ei)
    subst eai
    have ebk : b' = k := (nI_eq (by omega) (by omega)).mp (eb.symm.trans ek)
    subst ebk
    obtain ⟨off', f1, f2, f3⟩ := yk_pin C.1 C.2.1 C.2.2.1 hB p6 (.inl p7) ec (by omega)
    have eo : off = off' := (nI_eq (by omega) (by omega)).mp (p3.symm.trans f1)
    subst eo
    obtain ⟨e, ke, Qe, L, ⟨he, exe⟩, ⟨hke, eke, nQ⟩, ⟨LC', LM'⟩, ⟨Ll, Le⟩⟩ := yj_e C okl hce (by omega) (by omega) Al Ml
    obtain ⟨ps, r1, r2, r3, r4, r5, r6, r7, r8⟩ := ihr _ Q2 up _ _ z2 okr m4 R p8 (by omega) (by omega)
    have g14 : yg_c 0 (.inner 14 kv o (.inner ce kve oe le .leaf) .leaf) = 0 := by
      show 0 + yg_c 0 (.inner ce kve oe le .leaf) + 0 = 0
      rw [yj_g0 _ okl ⟨hce, trivial⟩]
    refine ⟨(L, off) :: ps, ⟨a, cv, zg_d le, ha, ei, by omega, by rw [ech, exe]; exact LC', f3, p1, f1, r1⟩, ⟨b', ke, zg_d le, Qe, hk, ek, by omega, hke, nQ, eke, LM', ?_, r2⟩, ?_, ?_, ?_, fun j hj => ?_, ?_, fun LD K st H => ?_⟩
    · rw [p4, ← nI_add, ex, nI_add]
    · show ps.length + 1 = 1 + zt_ln r; omega
    · show (L ++ ([((2, nI (x0 + off), 0, 0) : yI)] ++ yz_p x0 ps)).length ≤ _
      rw [List.length_append, List.length_append]
      show L.length + (1 + (yz_p x0 ps).length) ≤ _
      omega
    · show yo_h 0 (L ++ ([((2, nI (x0 + off), 0, 0) : yI)] ++ yz_p x0 ps)) = _
      rw [yo_1 (Le.1 0)]
      exact r5
    · rcases List.mem_append.mp (show j ∈ L ++ ([((2, nI (x0 + off), 0, 0) : yI)] ++ yz_p x0 ps) from hj) with z | z
      · exact yw_e Le j z
      rcases List.mem_append.mp z with z | z
      · rw [List.mem_singleton.mp z]
        exact .inr (.inl ⟨rfl, x0 + off, rfl, .inl ⟨by omega, yq_pin C.1 C.2.1 C.2.2.1 hu uB hB uc (by have := (C.1.2.2 b C.2.1).1; omega) ul (by have := (C.1.2.2 b C.2.1).1; omega) p6 p7 p3 f2⟩⟩)
      · exact yw_m (by omega) (r6 j z)
    · rw [yg_c1, g14, r7]
    · show yo_W (yq_b LD h0) b (L ++ ([((2, nI (x0 + off), 0, 0) : yI)] ++ yz_p x0 ps)) K st
      rw [yo_Wap]
      refine Ll.2.1 LD _ _ fun p hp => ?_
      show (yq_b LD h0 b (nI (x0 + off)).toNatClampNeg → p) ∧ yo_W (yq_b LD h0) b (yz_p x0 ps) K st
      rw [nI_clamp (by omega)]
      refine ⟨fun z => hp ?_, r8 LD K st H⟩
      have tc := (yq_bp C.1 C.2.1 C.2.2.1 hu uB hB uc (by omega) ul (by omega) p6 (.inl p7) p3 f2).mp z
      obtain ⟨c', c0, c1, _, c3⟩ := p7t
      have ecc : c' = e := (nI_eq (by omega) (by omega)).mp (c1.symm.trans (ech.trans exe))
      rw [← ecc]
      exact c3 tc
theorem yj_inv {i k : Nat} {xl : Int32} {Q1 : Nat → Prop} (C : yj_cx LC LM nb b sz F Fb X Y h0 g0 P) (hi : i < 32784) (hk : k < 33500) (km : (g0.2.1 72) k = 13) (N : yb_N Fb b h0 g0 P Q 13 kv.2 i k xl (zt_ln l)) (nv : zt_nr LC LM kv.2 ((g0.2.1 74) k)) (A : yj_f LC LM Fb b h0 g0 P Q ow l Q1 (nI k) xl ((g0.2.1 76) k) ((g0.2.1 77) k)) (hA : zg_A 13 (zg_run 13 0 l) = true) (ok : zg_ok l) (hd : zg_d l ≤ 187) (hz : zt_sz l + 1 ≤ sz) : ∃ T, yj_1 X Y h0 g0 b 13 kv l i k ow T := by
  obtain ⟨_, ec, u, xx, B, V, a1, a2, a3, a4, a5, pr⟩ := yj_13 N
  have B3 : nb ≤ 568 := C.1.1.2.1.1.2.2
  have hbn := C.2.1
  have kB := (C.1.2.2 b C.2.1).1
  have hs2 := C.2.2.2.2.2
  obtain ⟨x0, s, ty, ⟨v1, v2⟩, ⟨v3, _⟩, _, ⟨v5, v6⟩, _, _, v9⟩ := yj_var C V
  obtain ⟨w1, w2, w3⟩ := v9 B (by omega) a2
  have ra := (yj_ra C V).1
  have qn := fun j (hj : j < s) => yq_in (n := b) (j := j) C.1 C.2.1 ra a2 a3 v2 (by omega) v3 (by omega) hj
  obtain ⟨ps, r1, r2, r3, r4, r5, r6, r7, r8⟩ := yj_prm C ra a2 v2 v3 a3 v1 v5 w3 l ow Q1 _ _ _ _ ok (yc_gA hA) A pr hd hz
  have hln := zv_lnsz l
  have g13 : yg_c 0 (.inner 13 kv () l .leaf) = 0 := by
    show 0 + yg_c 0 l + 0 = 0
    rw [r7]
  refine ⟨yz_i (yz_p x0 ps ++ [if 9 ≤ B then (15, nI (B - 9), nI x0, 0) else (17, nI B, nI x0, 0)]), ⟨by decide, trivial⟩, ⟨?_, ?_⟩, ⟨fun n => Nat.zero_le _, ?_⟩, yz_Wi ?_ ?_, Nat.zero_le _, fun LD _ => yz_Bi (fun K st H => by
    rw [yo_Wap]
    refine r8 LD _ _ ?_
    have qb := fun j (hj : j < s) => yq_bi (LD := LD) (j := j) C.1 C.2.1 ra a2 a3 v2 (by omega) v3 (by omega) hj
    by_cases h9 : 9 ≤ B
    · rw [if_pos h9]
      show (∀ j : Nat, yq_b LD h0 (1000 + (nI (B - 9)).toNatClampNeg) j → (yq_b LD h0 b ((nI x0).toNatClampNeg + j) ↔ yq_b LD h0 (nI (B - 9)).toNatClampNeg j)) ∧ K st
      rw [nI_clamp (show B - 9 < 2147483648 by omega), nI_clamp (show x0 < 2147483648 by omega)]
      refine ⟨fun j hj => ?_, H⟩
      obtain ⟨_, k4, _⟩ := C.1.2.2 (B - 9) (by omega)
      have e9 : 9 + (B - 9) = B := by omega
      rw [e9, w3] at k4
      have kX := (C.1.2.2 (B - 9) (by omega)).1.1
      have es : s = X (B - 9) := (nI_eq (by omega) (by omega)).mp k4
      have hj' := (yq_bz C.1 (show B - 9 < nb by omega)).mp hj
      rw [qb j (by omega)]
      exact ⟨fun z => z.elim (fun w => by omega) (fun w => w.2), fun z => .inr ⟨h9, z⟩⟩
    · rw [if_neg h9]
      show (∀ j : Nat, j < (zt_2.getD (nI B).toNatClampNeg 0).toNatClampNeg → (yq_b LD h0 b ((nI x0).toNatClampNeg + j) ↔ yq_sB (nI B).toNatClampNeg j)) ∧ K st
      rw [nI_clamp (show B < 2147483648 by omega), nI_clamp (show x0 < 2147483648 by omega)]
      refine ⟨fun j hj => ?_, H⟩
      obtain ⟨t1, t2, _⟩ := yk_T9 B (by omega)
      have e := (C.1.1.2.1.2.2.1.1 B (by omega)).2.2.2
      rw [w3, t1] at e
      have es : s = (zt_2.getD B 0).toNatClampNeg := (nI_eq (by omega) (by omega)).mp e
      rw [qb j (by omega)]
      exact ⟨fun z => z.elim (fun w => w.2) (fun w => by omega), fun z => .inl ⟨by omega, z⟩⟩)⟩
  · rw [g13]
    exact yk_S13 hi (by omega) a1 v2 a2 (by omega) C.2.2.2.2.1 (by omega) (by omega) (by rw [ec]; exact r1)
  · exact yk_T13 hk km (by omega) (yk_vM C.1 C.2.1 C.2.2.1 V nv) w1 (by omega) (a4.trans v1) a5 (by omega) r2
  · rw [yz_il, List.length_append]
    show (yz_p x0 ps).length + 1 ≤ 6 * (1 + zt_sz l + 0)
    omega
  · rw [yo_1 r5]
    split <;> rfl
  · intro j hj
    rcases List.mem_append.mp hj with z | z
    · exact r6 j z
    · rw [List.mem_singleton.mp z]
      by_cases h9 : 9 ≤ B
      · rw [if_pos h9]
        obtain ⟨_, k4, _⟩ := C.1.2.2 (B - 9) (by omega)
        have e9 : 9 + (B - 9) = B := by omega
        rw [e9, w3] at k4
        have kX := (C.1.2.2 (B - 9) (by omega)).1.1
        have es : s = X (B - 9) := (nI_eq (by omega) (by omega)).mp k4
        exact .inr (.inr (.inr (.inl ⟨rfl, B - 9, x0, rfl, rfl, by omega, by show (h0.2.1 21) (9 + (B - 9)) = 2; rw [e9]; exact w2 h9, by omega, fun j hj => ((qn j (by omega)).trans ⟨fun z => z.elim (fun w => by omega) (fun w => yq_f1 _ _ _ _ (by omega) (by omega) w.2), fun z => .inr ⟨h9, yq_f1 _ _ _ _ (by omega) (by omega) z⟩⟩)⟩)))
      · rw [if_neg h9]
        obtain ⟨t1, t2, _⟩ := yk_T9 B (by omega)
        have e := (C.1.1.2.1.2.2.1.1 B (by omega)).2.2.2
        rw [w3, t1] at e
        have es : s = (zt_2.getD B 0).toNatClampNeg := (nI_eq (by omega) (by omega)).mp e
        exact .inr (.inr (.inr (.inr ⟨rfl, B, x0, rfl, rfl, by omega, by omega, fun j hj => ((qn j (by omega)).trans ⟨fun z => z.elim id (fun w => by omega), .inl⟩)⟩)))
end YJI
end
section
/-! The coder: bodies, IF, on both sides. -/
theorem yk_BCm {h0 : zs_H} {dl dl2 i ow oc : Nat} {T : ys} (h : dl ≤ dl2) (A : yk_BC h0 dl i ow oc T) : yk_BC h0 dl2 i ow oc T := fun D d n v q h' f e ho hn hD hd => A D d n v q h' f e ho hn (by omega) (by omega)
theorem yk_BMm {g0 : zs_H} {b dl dl2 k c20 c11 : Nat} {T : ys} (h : dl ≤ dl2) (A : yk_BM g0 b dl k T c20 c11) : yk_BM g0 b dl2 k T c20 c11 := fun D n s v q w ww g f c hl hw hn h20 h11 hD => A D n s v q w ww g f c hl hw hn h20 h11 (by omega)
theorem yc_gA' {kd st : Nat} {l : zt_T} (h : zg_A kd (zg_run kd st l) = true) : ¬ zg_run kd st l = 99 := fun z => by
  rw [z, zv_A99] at h
  exact absurd h (by decide)
section YJF
variable {LC LM : List (List Int32)} {nb b sz ow : Nat} {F Fb X Y : Nat → Nat} {h0 g0 : zs_H} {P Q Qm : Nat → Prop} {up x x' y : Int32} {kd : Nat} {kv : Int32 × Int32} {o : Unit} {l r : zt_T}
/-- a body that has been coded -/
def yj_B (X Y : Nat → Nat) (h0 g0 : zs_H) (b : Nat) (lb : zt_T) (i k ow : Nat) (T : ys) : Prop := (yk_BC h0 (zg_d lb) i ow (yg_c 0 lb) T ∧ yk_BM g0 b (zg_d lb) k T (zg_ct 20 lb) (zg_ct 11 lb)) ∧ (yz_st T ∧ (∀ n, (yz_x T n).length ≤ zg_x lb) ∧ yz_l T ≤ 6 * zt_sz lb) ∧ yz_W X Y (yq_k h0) b T ow ∧ 3 * yz_v T ≤ zg_d lb ∧ yz_N h0 b T
theorem yj_bd (C : yj_cx LC LM nb b sz F Fb X Y h0 g0 P) (K : yj_K LC LM b sz Fb X Y h0 g0 P Q l) (H : yj_f LC LM Fb b h0 g0 P Q ow (.inner 11 kv o l r) Qm up x x' y) (ok : zg_ok (.inner 11 kv o l r)) (hd : zg_d l ≤ 187) (hz : zt_sz l + 1 ≤ sz) (hY : Y b ≤ ow) (hX : ow + yg_c 0 l ≤ X b) : ∃ (i k : Nat) (T : ys) (Q2 : Nat → Prop) (z2 : Int32), (i < 32784 ∧ x = nI i ∧ (h0.2.1 13) i = 11) ∧ (k < 33500 ∧ x' = nI k ∧ (g0.2.1 72) k = 11) ∧ yj_B X Y h0 g0 b l i k ow T ∧ yj_f LC LM Fb b h0 g0 P Q (ow + yg_c 0 l) r Q2 up ((h0.2.1 18) i) ((g0.2.1 78) k) z2 ∧ y = (if z2 = -1 then x' else z2) := by
  obtain ⟨⟨hA, _⟩, okl, _⟩ := ok
  obtain ⟨i, k, xl, Q1, Q2, z2, ⟨⟨pi, hi, ei⟩, ⟨qk, hk, ek⟩, mk⟩, N, _, _, G, _, R, ey⟩ := yj_c H
  obtain ⟨n1, n2, _⟩ := yj_pl (by decide) N
  obtain ⟨_, _, A⟩ := G (by decide)
  have e11 : yg_c 0 (.inner 11 kv o l .leaf) = yg_c 0 l := by show 0 + yg_c 0 l + 0 = _; omega
  rw [e11] at R
  obtain ⟨T, t1, t2, t3, t4⟩ := K ow Q1 (nI k) xl _ _ A okl (yc_gA hA) hd hz hY hX
  have hs2 := C.2.2.2.2.2
  have hln := zv_lnsz l
  obtain ⟨b1, b2, b3, b4, b5⟩ := yk_body (t := l) C.2.2.2.2.1 (by omega) hi hk (by omega) (by rw [n2]; exact t1)
  exact ⟨i, k, T, Q2, z2, ⟨hi, ei, n1⟩, ⟨hk, ek, mk⟩, ⟨⟨b1, b2⟩, ⟨b3, t2, b5⟩, t3, t4⟩, R, ey⟩
theorem yj_n11 {i k n : Nat} {v xl : Int32} (hE : kd ∈ yb_E) (N : yb_N Fb b h0 g0 P Q kd v i k xl n) : ¬ (h0.2.1 13) i = 11 := by
  rcases N with N | ⟨ty, _, _, _, N⟩
  · exact absurd hE (yb_SE N)
  · rcases N with ⟨_, a, _⟩ | ⟨e, a, _⟩ | ⟨_, a, _⟩ | ⟨_, a, _⟩ | ⟨_, a, _⟩ | ⟨_, _, _, _, _, _, _, _, _, _, ⟨_, a, _⟩ | ⟨_, a, _⟩⟩ | ⟨_, _, _, _, _, _, _, _, _, _, ⟨_, a, _⟩ | ⟨_, a, _⟩⟩ | ⟨_, _, _, _, _, _, _, ⟨_, a, _⟩ | ⟨_, a, _⟩⟩
    · rw [a]; decide
    · rcases e with e | e <;> subst e <;> rw [a] <;> decide
    all_goals (rw [a]; decide)
/-- the branches of an IF -/
def yj_G (X Y : Nat → Nat) (h0 g0 : zs_H) (b dlb : Nat) (CI MI : Nat → Nat → Nat → List yI → Prop) (l : zt_T) (x x' : Int32) (ow : Nat) (B : ys) : Prop := yk_GL h0 g0 b dlb CI MI B x x' ow (ow + yg_c 0 l) (zg_ct 20 l) (zg_ct 11 l) ∧ (yz_n B ≤ zt_sz l ∧ yz_l B ≤ 6 * zt_sz l ∧ ∀ n, (yz_x B n).length ≤ zg_x l) ∧ (yz_br B ∧ yz_W X Y (yq_k h0) b B ow) ∧ 3 * yz_v B ≤ dlb ∧ (B = .leaf ↔ l = .leaf) ∧ yz_N h0 b B
theorem yj_q15 {c st : Nat} {kv : Int32 × Int32} {o : Unit} {lc r : zt_T} (h : zg_A 15 (zg_run 15 st (.inner c kv o lc r)) = true) (hs : st = 0 ∨ st = 2) : (c ∈ yb_E ∧ ∃ kv2 o2 lb r2, r = .inner 11 kv2 o2 lb r2 ∧ zg_A 15 (zg_run 15 2 r2) = true) ∨ (c = 11 ∧ r = .leaf) := by
  have key : ∀ r ∈ zg_R, r.1 = 15 → r.2 = (0, yb_E, 1) ∨ r.2 = (1, [11], 2) ∨ r.2 = (2, yb_E, 1) ∨ r.2 = (2, [11], 3) := by decide +kernel
  obtain ⟨cs, to, m1, m2, m3, m4⟩ := yj_q (yc_gA' h)
  have h1 : zg_A 15 (zg_run 15 to r) = true := by
    have : zg_run 15 st (.inner c kv o lc r) = zg_run 15 to r := by show zg_run 15 (zg_q 15 st c) r = _; rw [m3]
    rw [← this]; exact h
  have k1 := key _ m1 rfl
  simp only [Prod.mk.injEq] at k1
  have fE : cs = yb_E → to = 1 → (c ∈ yb_E ∧ ∃ kv2 o2 lb r2, r = .inner 11 kv2 o2 lb r2 ∧ zg_A 15 (zg_run 15 2 r2) = true) := by
    intro e1 e2
    subst e1; subst e2
    refine ⟨m2, ?_⟩
    cases r with
    | leaf => exact absurd h1 (by decide)
    | inner c2 kv2 o2 lb r2 =>
      obtain ⟨cs2, to2, p1, p2, p3, p4⟩ := yj_q (yc_gA' h1)
      have k2 := key _ p1 rfl
      simp only [Prod.mk.injEq] at k2
      rcases k2 with ⟨a, _⟩ | ⟨_, a, a'⟩ | ⟨a, _⟩ | ⟨a, _⟩
      · exact absurd a (by decide)
      · subst a; subst a'
        have e11 := List.mem_singleton.mp p2
        subst e11
        refine ⟨kv2, o2, lb, r2, rfl, ?_⟩
        have : zg_run 15 1 (.inner 11 kv2 o2 lb r2) = zg_run 15 2 r2 := by show zg_run 15 (zg_q 15 1 11) r2 = _; rw [p3]
        rw [← this]; exact h1
      · exact absurd a (by decide)
      · exact absurd a (by decide)
  rcases k1 with ⟨_, a, a'⟩ | ⟨a, _⟩ | ⟨_, a, a'⟩ | ⟨_, a, a'⟩
  · exact .inl (fE a a')
  · omega
  · exact .inl (fE a a')
  · right
    subst a; subst a'
    refine ⟨List.mem_singleton.mp m2, ?_⟩
    cases r with
    | leaf => rfl
    | inner c2 kv2 o2 lb r2 =>
      obtain ⟨cs2, to2, p1, p2, p3, p4⟩ := yj_q (yc_gA' h1)
      have k2 := key _ p1 rfl
      simp only [Prod.mk.injEq] at k2
      rcases k2 with ⟨a, _⟩ | ⟨a, _⟩ | ⟨a, _⟩ | ⟨a, _⟩ <;> exact absurd a (by decide)
theorem yj_ifs (C : yj_cx LC LM nb b sz F Fb X Y h0 g0 P) : ∀ (m : Nat) (l : zt_T), zt_sz l ≤ m → (∀ u, zt_sz u < zt_sz l → yj_K LC LM b sz Fb X Y h0 g0 P Q u) → ∀ (st ow dlb : Nat) (Qm : Nat → Prop) (up x x' y : Int32), (st = 0 ∨ st = 2) → zg_A 15 (zg_run 15 st l) = true → zg_ok l → yj_f LC LM Fb b h0 g0 P Q ow l Qm up x x' y → zg_d l ≤ dlb + 1 → dlb ≤ 187 → zt_sz l + 1 ≤ sz → Y b ≤ ow → ow + yg_c 0 l ≤ X b → ∃ B, yj_G X Y h0 g0 b dlb (yk_ci h0) (yk_mi g0 b (-1)) l x x' ow B := by
  intro m
  induction m with
  | zero =>
    intro l hm _ st ow dlb Qm up x x' y _ _ _ A _ _ _ _ _
    cases l with
    | leaf => exact ⟨.leaf, ⟨A.1.1, A.1.2, rfl⟩, ⟨Nat.le_refl _, Nat.le_refl _, fun n => Nat.le_refl _⟩, ⟨trivial, trivial⟩, Nat.zero_le _, ⟨fun _ => rfl, fun _ => rfl⟩, fun LD _ => trivial⟩
    | inner c kv o lc r => exact absurd hm (by show ¬ 1 + zt_sz lc + zt_sz r ≤ 0; omega)
  | succ m ih =>
    intro l hm K st ow dlb Qm up x x' y hst hA ok A hd hdb hz hY hX
    cases l with
    | leaf => exact ⟨.leaf, ⟨A.1.1, A.1.2, rfl⟩, ⟨Nat.le_refl _, Nat.le_refl _, fun n => Nat.le_refl _⟩, ⟨trivial, trivial⟩, Nat.zero_le _, ⟨fun _ => rfl, fun _ => rfl⟩, fun LD _ => trivial⟩
    | inner c kv o lc r =>
      have hd0 : max (zg_d lc + 1) (zg_d r) ≤ zg_d (.inner c kv o lc r) := zg_d1
      have hz0 : zt_sz (.inner c kv o lc r) = 1 + zt_sz lc + zt_sz r := rfl
      rcases yj_q15 hA hst with ⟨hE, kv2, o2, lb, r2, er, hA2⟩ | ⟨e11, er⟩
      · subst er
        obtain ⟨ok1, okl, okr⟩ := id ok
        obtain ⟨_, okb, okr2⟩ := id okr
        have hd1 : max (zg_d lb + 1) (zg_d r2) ≤ zg_d (.inner 11 kv2 o2 lb r2) := zg_d1
        have hz1 : zt_sz (.inner 11 kv2 o2 lb r2) = 1 + zt_sz lb + zt_sz r2 := rfl
        obtain ⟨i', k', xl, Q1', Q2', z2', ⟨⟨_, hi', ei'⟩, ⟨_, hk', ek'⟩, mk⟩, N, _, _, _, _, R, _⟩ := yj_c A
        obtain ⟨i, k, Q1, L, ⟨hi, ei⟩, ⟨hk, ek, nQ⟩, ⟨LC', LM'⟩, ⟨Ll, Le⟩⟩ := yj_e C ok hE (by omega) (by omega) A.1 A.2.1
        have e1 : i' = i := (nI_eq (by omega) (by omega)).mp (ei'.symm.trans ei)
        subst e1
        have e2 : k' = k := (nI_eq (by omega) (by omega)).mp (ek'.symm.trans ek)
        subst e2
        have gc : yg_c 0 (.inner c kv o lc .leaf) = 0 := yj_g0 _ ⟨ok1, okl, trivial⟩ ⟨hE, trivial⟩
        rw [gc, Nat.add_zero] at R
        have gl : yg_c 0 (.inner c kv o lc (.inner 11 kv2 o2 lb r2)) = yg_c 0 lb + yg_c 0 r2 := by
          rw [yg_c1, gc]; show 0 + (0 + yg_c 0 lb + yg_c 0 r2) = _; omega
        rw [gl] at hX
        obtain ⟨ib, kb, T, Q2, z2, ⟨hib, eib, kib⟩, ⟨hkb, ekb, kkb⟩, ⟨⟨BC, BM⟩, ⟨t1, t2, t3⟩, t4, t5⟩, R2, _⟩ := yj_bd C (K lb (by omega)) R okr (by omega) (by omega) hY (by omega)
        obtain ⟨Br, ⟨g1, ⟨g2, g3, g4⟩, g5, g6, g7⟩⟩ := ih r2 (by omega) (fun u hu => K u (by omega)) 2 _ dlb Q2 up _ _ z2 (.inr rfl) hA2 okr2 R2 (by omega) hdb (by omega) (by omega) (by omega)
        have kE : ∀ z ∈ yb_E, zt_km z = z ∧ ¬ z = 11 ∧ ¬ z = 17 ∧ z < 100 ∧ ¬ z = 20 ∧ ¬ z = 15 ∧ ¬ z = 16 := by decide
        obtain ⟨q1, q2, q3, q4, q5, q6, q7⟩ := kE c hE
        rw [q1] at mk
        have c20 : zg_ct 20 (.inner c kv o lc (.inner 11 kv2 o2 lb r2)) = zg_ct 20 lc + (zg_ct 20 lb + zg_ct 20 r2) := by
          show (if c = 20 then 1 else 0) + zg_ct 20 lc + (0 + zg_ct 20 lb + zg_ct 20 r2) = _
          rw [if_neg q5]; omega
        have c11 : zg_ct 11 (.inner c kv o lc (.inner 11 kv2 o2 lb r2)) = zg_ct 11 lc + (1 + zg_ct 11 lb + zg_ct 11 r2) := by
          show (if c = 11 then 1 else 0) + zg_ct 11 lc + (1 + zg_ct 11 lb + zg_ct 11 r2) = _
          rw [if_neg q2]; omega
        have cx : zg_x (.inner c kv o lc (.inner 11 kv2 o2 lb r2)) = zg_x lb + zg_x r2 := by
          show (if c = 20 then 1 else if c = 11 ∨ c = 15 ∨ c = 16 ∨ c = 17 then zg_x lc else 0) + (zg_x lb + zg_x r2) = _
          rw [if_neg q5, if_neg (by omega), Nat.zero_add]
        refine ⟨.inner 5 (L, 0, 0) () T Br, ⟨i', k', ib, kb, ib, kb, yg_c 0 lb, zg_ct 20 lb, zg_ct 11 lb, zg_ct 20 r2, zg_ct 11 r2, ⟨hi, ei, hib⟩, ⟨hk, ek, hkb⟩, ⟨yk_BCm (by omega) BC, yk_BMm (by omega) BM⟩, ⟨t1, fun n => Nat.le_trans (t2 n) (zg_x20 lb)⟩, .inr ⟨rfl, rfl, ⟨rfl, hib, yj_n11 hE N, eib, zg_d lc, by omega, LC'⟩, yk_miI hk (by rw [mk]; exact fun z => q3 ((zc_eq (k := 17) (by decide) (by omega)).mp z)) (by rw [mk]; exact fun z => q2 ((zc_eq (k := 11) (by decide) (by omega)).mp z)) ekb (by omega) nQ LM', fun z => ?_, fun z => ?_⟩, ⟨by omega, by omega⟩, ?_⟩, ⟨?_, ?_, fun n => ?_⟩, ⟨⟨.inl rfl, g5.1⟩, ⟨Le.1 0, Le.2, t1, t4⟩, yz_Wm _ _ _ (by omega) g5.2⟩, ?_, ⟨fun z => (by cases z), fun z => (by cases z)⟩, fun LD nl => ⟨⟨yo_Em (fun z => z.elim) (Ll.2.1 LD), t5.2 LD nl⟩, g7.2 LD nl⟩⟩
        · have e := g7.1.mp z
          subst e
          exact R2.1.1
        · cases r2 with
          | leaf => exact absurd (g7.1.mpr rfl) z
          | inner c3 kv3 o3 l3 r3 =>
            obtain ⟨i3, k3, _, _, _, _, ⟨⟨_, h1, h2⟩, ⟨_, h3, h4⟩, _⟩, _⟩ := yj_c R2
            exact ⟨⟨i3, h1, h2⟩, k3, h3, h4⟩
        · rw [gl, ← Nat.add_assoc]; exact g1
        · show 1 + yz_n Br ≤ _; omega
        · show L.length + 1 + yz_l T + (if yz_f Br = true then 0 else 1) + yz_l Br ≤ _
          have : (if yz_f Br = true then 0 else 1) ≤ 1 := by split <;> omega
          omega
        · show (yz_x Br _ ++ yz_x T _).length ≤ _
          rw [List.length_append, cx]
          have := g4 (n + (L.length + 1 + yz_l T + (if yz_f Br = true then 0 else 1)))
          have := t2 (n + L.length + 1)
          show (yz_x Br (n + (L.length + 1 + yz_l T + (if yz_f Br = true then 0 else 1)))).length + (yz_x T (n + L.length + 1)).length ≤ _
          omega
        · show 3 * max (yz_v T) (yz_v Br) ≤ _
          omega
      · subst er; subst e11
        obtain ⟨_, okb, _⟩ := id ok
        have gl : yg_c 0 (.inner 11 kv o lc .leaf) = yg_c 0 lc := by show 0 + yg_c 0 lc + 0 = _; omega
        rw [gl] at hX
        obtain ⟨i, k, T, Q2, z2, ⟨hi, ei, ki⟩, ⟨hk, ek, kk⟩, ⟨⟨BC, BM⟩, ⟨t1, t2, t3⟩, t4, t5⟩, R2, _⟩ := yj_bd C (K lc (by omega)) A ok (by omega) (by omega) hY (by omega)
        refine ⟨.inner 6 ([], 0, 0) () T .leaf, ⟨i, k, i, k, i, k, yg_c 0 lc, zg_ct 20 lc, zg_ct 11 lc, 0, 0, ⟨hi, ei, hi⟩, ⟨hk, ek, hk⟩, ⟨yk_BCm (by omega) BC, yk_BMm (by omega) BM⟩, ⟨t1, fun n => Nat.le_trans (t2 n) (zg_x20 lc)⟩, .inl ⟨rfl, rfl, rfl, rfl, rfl, rfl, rfl, ki, kk⟩, ⟨?_, ?_⟩, R2.1.1, R2.1.2, by rw [gl]⟩, ⟨?_, ?_, fun n => ?_⟩, ⟨⟨.inr ⟨rfl, rfl⟩, trivial⟩, ⟨t1, t4⟩, trivial⟩, ?_, ⟨fun z => (by cases z), fun z => (by cases z)⟩, fun LD nl => ⟨t5.2 LD nl, trivial⟩⟩
        · show zg_ct 20 lc + 0 ≤ 0 + zg_ct 20 lc + 0; omega
        · show zg_ct 11 lc + 1 + 0 ≤ 1 + zg_ct 11 lc + 0; omega
        · show 1 + 0 ≤ _; omega
        · show yz_l T + 0 ≤ _; omega
        · have := t2 n
          show ([] ++ yz_x T n).length ≤ zg_x lc + 0
          rw [List.nil_append]; exact this
        · show 3 * max (yz_v T) 0 ≤ _; omega
theorem yj_15 {i k : Nat} {xl : Int32} {Q1 : Nat → Prop} (C : yj_cx LC LM nb b sz F Fb X Y h0 g0 P) (K : ∀ u, zt_sz u < zt_sz l → yj_K LC LM b sz Fb X Y h0 g0 P Q u) (hi : i < 32784) (hk : k < 33500) (km : (g0.2.1 72) k = 15) (N : yb_N Fb b h0 g0 P Q 15 kv.2 i k xl (zt_ln l)) (A : yj_f LC LM Fb b h0 g0 P Q ow l Q1 (nI k) xl ((g0.2.1 76) k) ((g0.2.1 77) k)) (hA : zg_A 15 (zg_run 15 0 l) = true) (ok : zg_ok l) (hd : zg_d l ≤ 187) (hz : zt_sz l + 1 ≤ sz) (hY : Y b ≤ ow) (hX : ow + yg_c 0 l ≤ X b) : ∃ T, yj_1 X Y h0 g0 b 15 kv l i k ow T := by
  obtain ⟨_, ec, _⟩ := yj_pl (by decide) N
  have hs2 := C.2.2.2.2.2
  have h1 : 1 ≤ zg_d l := by
    cases l with
    | leaf => exact absurd hA (by decide)
    | inner c kvc oc lc r =>
      have : max (zg_d lc + 1) (zg_d r) ≤ zg_d (.inner c kvc oc lc r) := zg_d1
      omega
  obtain ⟨B, G, ⟨g2, g3, g4⟩, g5, g6, _, gN⟩ := yj_ifs C (zt_sz l) l (Nat.le_refl _) K 0 ow (zg_d l - 1) Q1 (nI k) xl _ _ (.inl rfl) hA ok A (by omega) (by omega) hz hY hX
  have gl : yg_c 0 (.inner 15 kv () l .leaf) = ow + yg_c 0 l - ow := by show 0 + yg_c 0 l + 0 = _; omega
  have c20 : zg_ct 20 (.inner 15 kv () l .leaf) = zg_ct 20 l := by show 0 + zg_ct 20 l + 0 = _; omega
  have c11 : zg_ct 11 (.inner 15 kv () l .leaf) = zg_ct 11 l := by show 0 + zg_ct 11 l + 0 = _; omega
  have hdn : max (zg_d l + 1) 0 ≤ zg_d (.inner 15 kv () l .leaf) := zg_d1 (r := .leaf)
  refine ⟨.inner 1 ([], 0, 0) () B .leaf, ⟨by decide, trivial⟩, ⟨?_, ?_⟩, ⟨fun n => ?_, ?_⟩, ⟨g5, trivial⟩, ?_, fun LD nl => ⟨gN LD nl, trivial⟩⟩
  · rw [gl]
    exact yk_S15 (dlb := zg_d l - 1) C.2.2.2.2.1 (by omega) hi (by omega) (by omega) (by omega) (by rw [ec]; exact G)
  · rw [c20, c11]
    exact yk_T15 (dlb := zg_d l - 1) hk km (by omega) (by omega) G
  · have := g4 n
    show ([] ++ yz_x B n).length ≤ zg_x l + 0
    rw [List.nil_append]; exact this
  · show yz_l B + 0 ≤ 6 * (1 + zt_sz l + 0); omega
  · show 3 * max (yz_v B) 0 ≤ _; omega
end YJF
end
section
/-! The coder: CASE, on both sides. -/
section YJX
variable {LC LM : List (List Int32)} {nb b sz ow : Nat} {F Fb X Y : Nat → Nat} {h0 g0 : zs_H} {P Q Qm : Nat → Prop} {up x x' y : Int32} {kd : Nat} {kv : Int32 × Int32} {o : Unit} {l r : zt_T}
theorem yr_sl {own : Nat} : ∀ (rs : List (Int32 × Option Int32)) (t : Nat), (yr_s own t rs).length ≤ 8 * rs.length := by
  intro rs
  induction rs with
  | nil => intro t; exact Nat.le_refl _
  | cons r rs ih =>
    intro t
    show (yr_1 own r ++ ((if t = 0 then [] else [((7, 11, 0, 0) : yI)]) ++ yr_s own (t + 1) rs)).length ≤ 8 * (rs.length + 1)
    rw [List.length_append, List.length_append]
    have a := yr_1l (own := own) (r := r)
    have c := ih (t + 1)
    have e : (if t = 0 then [] else [((7, 11, 0, 0) : yI)]).length ≤ 1 := by split <;> decide
    omega
theorem yr_1h {own : Nat} {r : Int32 × Option Int32} {d : Nat} : yo_h d (yr_1 own r) = some (d + 1) := by
  unfold yr_1
  split
  · show (if 2 ≤ d + 1 + 1 then some (d + 1 + 1 - 2 + 1) else none) = _
    rw [if_pos (by omega)]
    exact congrArg some (by omega)
  · show (if 2 ≤ d + 1 + 1 then (if 2 ≤ d + 1 + 1 - 2 + 1 + 1 + 1 then (if 2 ≤ d + 1 + 1 - 2 + 1 + 1 + 1 - 2 + 1 then some (d + 1 + 1 - 2 + 1 + 1 + 1 - 2 + 1 - 2 + 1) else none) else none) else none) = _
    rw [if_pos (by omega), if_pos (by omega), if_pos (by omega)]
    exact congrArg some (by omega)
theorem yr_sh {own : Nat} : ∀ (rs : List (Int32 × Option Int32)) (t d : Nat), yo_h (d + 1) (yr_s own (t + 1) rs) = some (d + 1) := by
  intro rs
  induction rs with
  | nil => intro t d; rfl
  | cons r rs ih =>
    intro t d
    show yo_h (d + 1) (yr_1 own r ++ ((if t + 1 = 0 then [] else [((7, 11, 0, 0) : yI)]) ++ yr_s own (t + 1 + 1) rs)) = _
    rw [yo_1 yr_1h, if_neg (by omega)]
    show (if 2 ≤ d + 1 + 1 then yo_h (d + 1 + 1 - 2 + 1) (yr_s own (t + 1 + 1) rs) else none) = _
    rw [if_pos (by omega), show d + 1 + 1 - 2 + 1 = d + 1 by omega, ih]
theorem yr_s0 {own : Nat} {rs : List (Int32 × Option Int32)} (h : ¬ rs = []) : yo_h 0 (yr_s own 0 rs) = some 1 := by
  cases rs with
  | nil => exact absurd rfl h
  | cons r rs =>
    show yo_h 0 (yr_1 own r ++ ([] ++ yr_s own (0 + 1) rs)) = _
    rw [yo_1 yr_1h, List.nil_append]
    exact yr_sh rs 0 0
theorem yr_si {own : Nat} {fn : Nat → Prop} (ho : own < X b) : ∀ (rs : List (Int32 × Option Int32)) (t : Nat) (i : yI), i ∈ yr_s own t rs → yo_i X fn b i := by
  intro rs
  induction rs with
  | nil => intro t i hi; cases hi
  | cons r rs ih =>
    intro t i hi
    have l1 : yo_i X fn b (1, nI own, 0, 0) := .inr (.inr (.inl ⟨rfl, own, rfl, ho⟩))
    have l7 : ∀ k : Nat, k < 25 → yo_i X fn b (7, nI k, 0, 0) := fun k hk => .inr (.inr (.inr (.inr (.inr (.inr (.inl ⟨rfl, k, rfl, hk⟩))))))
    have l0 : ∀ v : Int32, yo_i X fn b (0, v, 0, 0) := fun v => .inl rfl
    rcases List.mem_append.mp (show i ∈ yr_1 own r ++ ((if t = 0 then [] else [((7, 11, 0, 0) : yI)]) ++ yr_s own (t + 1) rs) from hi) with z | z
    · unfold yr_1 at z
      split at z
      · simp only [List.cons_append, List.nil_append, List.mem_cons, List.not_mem_nil, or_false] at z
        rcases z with e | e | e <;> rw [e]
        · exact l1
        · exact l0 _
        · exact l7 13 (by decide)
      · simp only [List.cons_append, List.nil_append, List.mem_cons, List.not_mem_nil, or_false] at z
        rcases z with e | e | e | e | e | e | e <;> rw [e]
        · exact l1
        · exact l0 _
        · exact l7 18 (by decide)
        · exact l1
        · exact l0 _
        · exact l7 17 (by decide)
        · exact l7 10 (by decide)
    rcases List.mem_append.mp z with z | z
    · split at z
      · cases z
      · rw [List.mem_singleton.mp z]; exact l7 11 (by decide)
    · exact ih _ i z
theorem yr_1B {own : Nat} {r : Int32 × Option Int32} {Bc : Nat → Nat → Prop} : yo_E Bc b False (yr_1 own r) := by
  intro K st H
  unfold yr_1
  split
  · exact H _ (fun z => z.elim)
  · exact H _ (fun z => z.elim)
theorem yr_sB1 {own : Nat} {Bc : Nat → Nat → Prop} : ∀ (rs : List (Int32 × Option Int32)) (t : Nat) (K : List Prop → Prop) (st : List Prop) (q : Prop), (∀ p : Prop, K (p :: st)) → yo_W Bc b (yr_s own (t + 1) rs) K (q :: st) := by
  intro rs
  induction rs with
  | nil => intro t K st q H; exact H q
  | cons r rs ih =>
    intro t K st q H
    show yo_W Bc b (yr_1 own r ++ ((if t + 1 = 0 then [] else [((7, 11, 0, 0) : yI)]) ++ yr_s own (t + 1 + 1) rs)) K (q :: st)
    rw [yo_Wap, if_neg (by omega)]
    refine yr_1B _ _ fun p _ => ?_
    exact ih (t + 1) K st _ H
theorem yr_sB {own : Nat} {Bc : Nat → Nat → Prop} {rs : List (Int32 × Option Int32)} (h : ¬ rs = []) : yo_E Bc b False (yr_s own 0 rs) := by
  cases rs with
  | nil => exact absurd rfl h
  | cons r rs =>
    intro K st H
    show yo_W Bc b (yr_1 own r ++ ([] ++ yr_s own (0 + 1) rs)) K st
    rw [yo_Wap, List.nil_append]
    refine yr_1B _ _ fun p _ => ?_
    exact yr_sB1 rs 0 K st p (fun p => H p (fun z => z.elim))
/-- the range of a choice -/
theorem yj_18 {k : Nat} {xl : Int32} {Q1 : Nat → Prop} (A : yb_F Fb b h0 g0 P Q l xl ((g0.2.1 76) k) (-1) (-1)) (M : zt_M LC LM g0 l Q1 (nI k) ((g0.2.1 76) k) ((g0.2.1 77) k)) (hA : zg_A 18 (zg_run 18 0 l) = true) : ∃ (w : Int32) (w2 : Option Int32) (lo klo : Nat), (xl = nI lo ∧ lo < 32784 ∧ (h0.2.1 16) lo = w ∧ ((w2 = none ∧ (h0.2.1 18) lo = -1) ∨ ∃ v hi, w2 = some v ∧ hi < 32784 ∧ (h0.2.1 18) lo = nI hi ∧ (h0.2.1 16) hi = v)) ∧ ((g0.2.1 76) k = nI klo ∧ klo < 33500 ∧ (g0.2.1 74) klo = w ∧ ((w2 = none ∧ (g0.2.1 77) k = nI klo) ∨ ∃ v hi, w2 = some v ∧ hi < 33500 ∧ ¬ hi = klo ∧ (g0.2.1 77) k = nI hi ∧ (g0.2.1 74) hi = v)) ∧ 1 ≤ zt_sz l ∧ yg_c 0 l = 0 := by
  have key : ∀ r ∈ zg_R, r.1 = 18 → r.2 = (0, [30, 31], 1) ∨ r.2 = (1, [30, 31], 2) := by decide +kernel
  have two : ∀ c, c ∈ [30, 31] → (c = 30 ∨ c = 31) := by intro c hc; simp only [List.mem_cons, List.not_mem_nil, or_false] at hc; exact hc
  cases l with
  | leaf => exact absurd hA (by decide)
  | inner c1 kv1 o1 l1 r1 =>
    obtain ⟨cs, to, m1, m2, m3, _⟩ := yj_q (yc_gA' hA)
    have k1 := key _ m1 rfl
    simp only [Prod.mk.injEq] at k1
    obtain ⟨e1, e2⟩ : cs = [30, 31] ∧ to = 1 := by
      rcases k1 with ⟨_, a, a'⟩ | ⟨a, _⟩
      · exact ⟨a, a'⟩
      · exact absurd a (by decide)
    subst e1; subst e2
    have hc1 := two _ m2
    have hA1 : zg_A 18 (zg_run 18 1 r1) = true := by
      have : zg_run 18 0 (.inner c1 kv1 o1 l1 r1) = zg_run 18 1 r1 := by show zg_run 18 (zg_q 18 0 c1) r1 = _; rw [m3]
      rw [← this]; exact hA
    obtain ⟨a, ka, _, a2, a3, b2, b3, t1, t2, t3, t4, B, _⟩ := yc_cst2 hc1 A M
    obtain ⟨ka', S1, S2, z2, q1, _, _, _, _, _, _, _, d2, _, Mr, ey⟩ := zv_hM M
    have eka : ka' = ka := (nI_eq (by omega) (by omega)).mp (q1.symm.trans b3)
    subst eka
    have k30 : ∀ z, (z = 30 ∨ z = 31) → 30 ≤ zt_km z := by rintro z (e | e) <;> subst e <;> decide
    cases r1 with
    | leaf =>
      have hl : (g0.2.1 77) k = nI ka' := by
        rw [ey, if_pos (show (g0.2.1 78) ka' = -1 ∧ z2 = -1 from Mr).2]; exact b3
      refine ⟨kv1.2, none, a, ka', ⟨a3, a2, t2, .inl ⟨rfl, B.1⟩⟩, ⟨b3, b2, t4, .inl ⟨rfl, hl⟩⟩, by show 1 ≤ 1 + zt_sz l1 + 0; omega, ?_⟩
      show (if 30 ≤ zt_km c1 then 0 else _) + 0 = 0
      rw [if_pos (k30 _ hc1)]
    | inner c2 kv2 o2 l2 r2 =>
      obtain ⟨cs, to, m1', m2', m3', _⟩ := yj_q (yc_gA' hA1)
      have k1 := key _ m1' rfl
      simp only [Prod.mk.injEq] at k1
      obtain ⟨e1, e2⟩ : cs = [30, 31] ∧ to = 2 := by
        rcases k1 with ⟨a, _⟩ | ⟨_, a, a'⟩
        · exact absurd a (by decide)
        · exact ⟨a, a'⟩
      subst e1; subst e2
      have hc2 := two _ m2'
      have hA2 : zg_A 18 (zg_run 18 2 r2) = true := by
        have : zg_run 18 1 (.inner c2 kv2 o2 l2 r2) = zg_run 18 2 r2 := by show zg_run 18 (zg_q 18 1 c2) r2 = _; rw [m3']
        rw [← this]; exact hA1
      have er2 : r2 = .leaf := by
        cases r2 with
        | leaf => rfl
        | inner c3 kv3 o3 l3 r3 =>
          obtain ⟨cs, to, m1'', _⟩ := yj_q (yc_gA' hA2)
          have k1 := key _ m1'' rfl
          simp only [Prod.mk.injEq] at k1
          rcases k1 with ⟨a, _⟩ | ⟨a, _⟩ <;> exact absurd a (by decide)
      subst er2
      obtain ⟨e, ke, _, p2, p3, s2, s3, u1, u2, u3, u4, B2, _⟩ := yc_cst2 hc2 B Mr
      obtain ⟨ke', S3, S4, z3, q1', _, q3', _, _, _, _, _, _, _, Mr', ey'⟩ := zv_hM Mr
      have eke : ke' = ke := (nI_eq (by omega) (by omega)).mp (q1'.symm.trans s3)
      subst eke
      have hz2 : z2 = nI ke' := by
        rw [ey', if_pos (show (g0.2.1 78) ke' = -1 ∧ z3 = -1 from Mr').2]; exact s3
      have hl : (g0.2.1 77) k = nI ke' := by
        rw [ey, hz2, if_neg (zc_m1 (by omega))]
      refine ⟨kv1.2, some kv2.2, a, ka', ⟨a3, a2, t2, .inr ⟨_, e, rfl, p2, p3, u2⟩⟩, ⟨b3, b2, t4, .inr ⟨_, ke', rfl, s2, (d2 ke' q3').2, hl, u4⟩⟩, by show 1 ≤ 1 + zt_sz l1 + _; omega, ?_⟩
      show (if 30 ≤ zt_km c1 then 0 else _) + ((if 30 ≤ zt_km c2 then 0 else _) + 0) = 0
      rw [if_pos (k30 _ hc1), if_pos (k30 _ hc2)]
end YJX
end
