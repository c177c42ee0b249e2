/-! The coder: FOR, on both sides. -/
/-- what a FOR means -/
def yz_for (x : Nat) (a st y0 : Int32) (ow : Nat) (Tm : Int32) (Tb : ys) : ys := yz_ap (yz_i [(0, a, 0, 0), (2, nI x, 0, 0)]) (.inner 2 ([], nI ow, Tm) () (yz_ap Tb (yz_i [(1, nI x, 0, 0), (0, st, 0, 0), (7, y0, 0, 0), (2, nI x, 0, 0)])) .leaf)
section YFP
variable {h0 h g0 g : zs_H} {b : Nat}
theorem yz_forl {x ow : Nat} {a st y0 Tm : Int32} {Tb : ys} (sT : yz_st Tb) : yz_l (yz_for x a st y0 ow Tm Tb) = 2 + (3 + (yz_l Tb + 4)) := by
  show 2 + (3 + yz_l (yz_ap Tb (yz_i _)) + 0) = _
  rw [yz_apl _ _ sT]
  rfl
theorem yz_fors {x ow : Nat} {a st y0 Tm : Int32} {Tb : ys} : yz_st (yz_for x a st y0 ow Tm Tb) := ⟨by decide, by decide, trivial⟩
theorem yz_forx {x ow n : Nat} {a st y0 Tm : Int32} {Tb : ys} : yz_x (yz_for x a st y0 ow Tm Tb) n = [] := rfl
theorem yk_S19 {i a c cc ib x w dl dlb ow oc : Nat} {st y0 : Int32} {TT : Int64} {Tb : ys} (hi : i < 32784) (ec : (h0.2.1 17) i = nI a) (ha : a < 32784) (ew : (h0.2.1 16) i = nI w) (hw : w < 6000) (ex : (h0.2.1 32) w = nI x) (en : (h0.2.1 18) a = nI c) (hc : c < 32784) (e3 : (h0.2.1 18) c = nI cc) (hcc : cc < 32784) (es0 : (zv_kc h0 cc ∧ st = (h0.2.1 16) cc ∧ (h0.2.1 18) cc = nI ib) ∨ (¬ zv_kc h0 cc ∧ st = 1 ∧ ib = cc)) (et : f_Cd_times ((h0.2.1 16) a) ((h0.2.1 16) c) st = some TT) (ey : y0 = if (h0.2.1 14) i = 1 then 0 else 5) (hd : dlb < dl) (B : yk_BC h0 dlb ib (ow + 1) oc Tb) (sT : yz_st Tb) : yk_SC h0 dl 19 i ow (1 + oc) (yz_for x ((h0.2.1 16) a) st y0 ow TT.toInt32 Tb) := by
  intro D d n v q h f es ho hn hD hdd
  rw [yz_forl sT] at hn
  obtain ⟨D, rfl⟩ : ∃ z, D = z + 1 := ⟨D - 1, by omega⟩
  obtain ⟨h1, hh1⟩ : ∃ h1, h1 = zs_uF h 47 4 (nI (ow + 1)) := ⟨_, rfl⟩
  have f1 : yC_f h0 h1 := by rw [hh1]; exact zfr_F (by decide) f
  have es1 : (h1.1 41 5) = nI n := by rw [hh1]; exact es
  have ho1 : (h1.1 47 4) = nI (ow + 1) := by rw [hh1]; rfl
  have f1' : ∀ a, ¬ a ∈ yC_M → h1.2.1 a = h0.2.1 a := fun a ha => f1.2.1 a ha
  have f' : ∀ a, ¬ a ∈ yC_M → h.2.1 a = h0.2.1 a := fun a ha => f.2.1 a ha
  obtain ⟨h2, a1, a2⟩ := yC_emit es1 (by omega) 0 (by decide) ((h0.2.1 16) a)
  have f2 := yC_fE f1 a2
  obtain ⟨h3, b1, b2⟩ := yC_emit a2.1 (by show n + 1 < _; omega) 2 (by decide) (nI x)
  have f3 := yC_fE f2 b2
  have E := yC_ap a2 b2
  have R1 : yC_R n v q (yz_i [(0, (h0.2.1 16) a, 0, 0), (2, nI x, 0, 0)]) (ow + 1) h h3 := by
    obtain ⟨r1, r2, r3⟩ := yC_R0 (v := v) (q := q) ho1 E
    refine ⟨?_, r2, fun h4 => ?_⟩
    · rw [hh1] at r1
      exact yC_Hu (by decide) r1
    · have := r3 h4
      rw [hh1] at this
      exact this
  have e3' : (h3.1 41 5) = nI (n + 2) := E.1
  obtain ⟨h4, c1, c2⟩ := yC_emit e3' (by omega) 12 (by decide) (nI ow)
  obtain ⟨h5, d1, d2⟩ := yC_with (by omega) c2 TT.toInt32 0
  have f5 := yC_fE f3 d2
  obtain ⟨h6, p1, p2⟩ := yC_emit d2.1 (by show n + 2 + 1 < _; omega) 13 (by decide) (-1)
  obtain ⟨h7, q1, q2⟩ := yC_with (by show n + 2 + 1 < _; omega) p2 (nI ow) 0
  have f7 := yC_fE f5 q2
  obtain ⟨h8, hh8⟩ : ∃ h8, h8 = zs_uF h7 47 6 (-1) := ⟨_, rfl⟩
  have f8 : yC_f h0 h8 := by rw [hh8]; exact zfr_F (by decide) f7
  have s8 : (h8.1 41 5) = nI (n + 2 + 2) := by rw [hh8]; exact q2.1
  have o7 : (h7.1 47 4) = nI (ow + 1) := (q2.2.1.1 _ _ (by decide)).trans ((d2.2.1.1 _ _ (by decide)).trans ((E.2.1.1 _ _ (by decide)).trans ho1))
  have o8 : (h8.1 47 4) = nI (ow + 1) := by rw [hh8]; exact o7
  obtain ⟨h9, t1, t2⟩ := B D (d + 1 + 1) (n + 2 + 2) (v + 1) (n + 2 + (3 + (yz_l Tb + 4))) h8 f8 s8 o8 (by omega) (by omega) (by omega)
  obtain ⟨f9, s9, o9⟩ := yC_Rf f8 t2
  obtain ⟨hA, u1, u2⟩ := yC_emit s9 (by omega) 1 (by decide) (nI x)
  have fA := yC_fE f9 u2
  obtain ⟨hB, v1, v2⟩ := yC_emit u2.1 (by show _ + 1 < _; omega) 0 (by decide) st
  have fB := yC_fE fA v2
  obtain ⟨hC, w1, w2⟩ := yC_emit v2.1 (by show _ + 1 + 1 < _; omega) 7 (by decide) y0
  have fC := yC_fE fB w2
  obtain ⟨hD', x1, x2⟩ := yC_emit w2.1 (by show _ + 1 + 1 + 1 < _; omega) 2 (by decide) (nI x)
  have ET := yC_ap u2 (yC_ap v2 (yC_ap w2 x2))
  have RT := yC_Rap sT t2 (yC_R0 (v := v + 1) (q := n + 2 + (3 + (yz_l Tb + 4))) o9 ET)
  have el : yz_l (yz_ap Tb (yz_i ([(1, nI x, 0, 0)] ++ ([(0, st, 0, 0)] ++ ([(7, y0, 0, 0)] ++ [(2, nI x, 0, 0)]))))) = yz_l Tb + 4 := yz_apl _ _ sT
  have sD : (hD'.1 41 5) = nI (n + 2 + 2 + (yz_l Tb + 4)) := by
    have := (yC_Rf f8 RT).2.1
    rw [el] at this
    exact this
  obtain ⟨hE, y1, y2⟩ := yC_emit sD (by omega) 14 (by decide) (nI (n + 2 + 1))
  rw [hh8] at RT
  obtain ⟨hF, hG, j1, j2, j3⟩ := yC_loop (q := q) (v := v) (m := n + 2) (by rw [el]; omega) d2 q2 (by rw [el]; exact RT) (by rw [el]; exact y2)
  refine ⟨_, ?_, yC_Rap ⟨by decide, trivial⟩ R1 (by rw [← Nat.add_assoc]; exact j3)⟩
  show g_Cr_codeFor (f_Cr_codeBody D) h (nI i) (nI (d + 1)) = _
  have esec : f_Tr_second h1 (nI i) = some (nI c) := by
    unfold f_Tr_second
    simp only [if_pos (zi_in (show i < 2147483648 by omega) hi), nI_clamp (show i < 2147483648 by omega), f1' 17 (by decide), ec, if_neg (zc_m1 (show a < 2147483648 by omega)), if_pos (zi_in (show a < 2147483648 by omega) ha), nI_clamp (show a < 2147483648 by omega), f1' 18 (by decide), en]
  have estp : f_Tr_stepOf h1 (nI i) = f_Tr_stepOf_21 h1 (nI cc) := by
    unfold f_Tr_stepOf
    rw [esec, Option.bind_some, if_neg (zc_m1 (by omega)), if_pos (zi_in (by omega) hc), nI_clamp (show c < 2147483648 by omega), f1' 18 (by decide), e3]
  have ekc : zv_kc h1 cc ↔ zv_kc h0 cc := by
    unfold zv_kc
    rw [f1' 13 (by decide)]
  have e123 : f_Cr_codeFor_123 (f_Cr_codeBody D) h1 (nI i) (nI (d + 1)) (nI ow) (nI x) ((h0.2.1 16) a) ((h0.2.1 16) c) st (nI ib) = some (zs_uF hG 47 6 ((h7.1 47 6))) := by
    unfold f_Cr_codeFor_123
    refine (congrArg (fun z => zd_B z _) a1).trans ?_
    refine (show zd_B (f_Cd_emit h2 2 (nI x)) _ = _ from (congrArg (fun z => zd_B z _) b1).trans ?_)
    refine (show zd_B (f_Cd_emit h3 12 (nI ow)) _ = _ from (congrArg (fun z => zd_B z _) c1).trans ?_)
    show ((f_Cd_times ((h0.2.1 16) a) ((h0.2.1 16) c) st).bind fun v11 => ((f_Cd_with h4 (v11.toInt32) 0).bind fun h13 => _)) = _
    rw [et, Option.bind_some, d1, Option.bind_some]
    refine (congrArg (fun z => zd_B z _) p1).trans ?_
    show ((f_Cd_with h6 (nI ow) 0).bind _) = _
    rw [q1, Option.bind_some, ← hh8, nI_1, t1, Option.bind_some]
    refine (congrArg (fun z => zd_B z _) u1).trans ?_
    refine (show zd_B (f_Cd_emit hA 0 st) _ = _ from (congrArg (fun z => zd_B z _) v1).trans ?_)
    have e261 : f_Cr_codeFor_261 hB (nI x) (nI (n + 2 + 1)) ((h7.1 47 6)) y0 7 = some (zs_uF hG 47 6 ((h7.1 47 6))) := by
      unfold f_Cr_codeFor_261
      refine (congrArg (fun z => zd_B z _) w1).trans ?_
      refine (show zd_B (f_Cd_emit hC 2 (nI x)) _ = _ from (congrArg (fun z => zd_B z _) x1).trans ?_)
      refine (show zd_B (f_Cd_emit hD' 14 (nI (n + 2 + 1))) _ = _ from (congrArg (fun z => zd_B z _) y1).trans ?_)
      show ((f_Cd_joinHere hE (nI (n + 2 + 1))).bind fun h11 => _) = _
      rw [j1, Option.bind_some]
      show ((f_Cd_joinHere hF ((hF.1 47 6))).bind fun h13 => _) = _
      rw [j2, Option.bind_some]
    show (if zd_in (nI i) 32784 then (if (hB.2.1 14) (nI i).toNatClampNeg = 1 then f_Cr_codeFor_261 hB (nI x) (nI (n + 2 + 1)) ((h7.1 47 6)) 0 7 else f_Cr_codeFor_261 hB (nI x) (nI (n + 2 + 1)) ((h7.1 47 6)) 5 7) else none) = _
    rw [if_pos (zi_in (by omega) hi), nI_clamp (show i < 2147483648 by omega), fB.2.1 14 (by decide)]
    by_cases z : (h0.2.1 14) i = 1
    · rw [if_pos z] at ey ⊢
      rw [← ey]; exact e261
    · rw [if_neg z] at ey ⊢
      rw [← ey]; exact e261
  unfold g_Cr_codeFor
  simp only [if_pos (zi_in (show i < 2147483648 by omega) hi), nI_clamp (show i < 2147483648 by omega), f' 16 (by decide), ew, if_pos (zi_in (show w < 2147483648 by omega) hw), f' 17 (by decide), ec, if_pos (zi_in (show a < 2147483648 by omega) ha), ho, nI_1, nI_clamp (show w < 2147483648 by omega), nI_clamp (show a < 2147483648 by omega), f' 32 (by decide), ex]
  rw [← hh1, esec, Option.bind_some, if_pos (zi_in (by omega) hc), estp]
  unfold f_Tr_stepOf_21
  rcases es0 with ⟨k1, k2, k3⟩ | ⟨k1, k2, k3⟩
  · rw [zv_isC1 hcc (ekc.mpr k1), Option.bind_some, if_neg (by decide), if_pos (zi_in (by omega) hcc), Option.bind_some, Option.bind_some, if_pos (zi_in (by omega) hc), nI_clamp (show c < 2147483648 by omega), f' 18 (by decide), e3, zv_isC1 hcc (ekc.mpr k1), Option.bind_some, if_neg (by decide), if_pos (zi_in (by omega) hcc), nI_clamp (show cc < 2147483648 by omega), f1' 16 (by decide), ← k2, k3]
    exact e123
  · rw [zv_isC0 hcc (mt ekc.mp k1), Option.bind_some, if_pos rfl, Option.bind_some, Option.bind_some, if_pos (zi_in (by omega) hc), nI_clamp (show c < 2147483648 by omega), f' 18 (by decide), e3, zv_isC0 hcc (mt ekc.mp k1), Option.bind_some, if_pos rfl, ← k2, ← k3]
    exact e123
theorem yk_ftm (f : yM_f g0 g) : f_Mo_times g = f_Mo_times g0 := by
  have e : ∀ a, ¬ a ∈ yM_M → g.2.1 a = g0.2.1 a := fun a ha => f.2.1 a ha
  funext x
  unfold f_Mo_times f_Mo_times_46 f_Mo_times_84 f_Mo_times_96 f_Mo_times_103
  simp only [e 76 (by decide), e 78 (by decide), e 72 (by decide), e 74 (by decide)]
theorem yk_T19 {k ka kb kc ke x wv dl dlb ow c20 c11 : Nat} {st y0 TT : Int32} {Tb : ys} (hk : k < 33500) (m0 : (g0.2.1 72) k = 19) (m1 : (g0.2.1 76) k = nI ka) (hka : ka < 33500) (m2 : (g0.2.1 78) ka = nI kb) (hkb : kb < 33500) (m3 : (g0.2.1 78) kb = nI kc) (hkc : kc < 33500) (hv : f_Mo_variable g0 (nI b) ((g0.2.1 74) k) = some (nI wv)) (hwv : wv < 8400) (m4 : (g0.2.1 101) k = nI x) (m5 : (g0.2.1 102) k = nI ow) (m6 : (g0.2.1 77) k = nI ke) (es0 : (¬ (g0.2.1 72) kc = 11 ∧ st = (g0.2.1 74) kc) ∨ ((g0.2.1 72) kc = 11 ∧ st = 1)) (et : f_Mo_times g0 (nI k) = some TT) (ey : y0 = if (g0.2.1 93) wv = 1 then 0 else 5) (hd : dlb < dl) (hx : ∀ n, (yz_x Tb n).length ≤ c20) (B : yk_BM g0 b dlb ke Tb c20 c11) (sT : yz_st Tb) : yk_SM g0 b dl k (yz_for x ((g0.2.1 74) ka) st y0 ow TT Tb) c20 c11 := by
  intro D n s v q w ww g f c hlv hw hn h20 h11 hD
  rw [yz_forl sT] at hn
  obtain ⟨D, rfl⟩ : ∃ z, D = z + 1 + 1 := ⟨D - 2, by omega⟩
  have f' : ∀ a, ¬ a ∈ yM_M → g.2.1 a = g0.2.1 a := fun a ha => f.2.1 a ha
  obtain ⟨g1, a1, a2⟩ := yM_e c (by omega) 0 ((g0.2.1 74) ka) 0 0 (by decide)
  have f1 := yM_fE f a2
  have c1 := yM_cL c a2
  obtain ⟨g2, b1, b2⟩ := yM_e c1 (by show n + 1 < _; omega) 2 (nI x) 0 0 (by decide)
  have f2 := yM_fE f1 b2
  have E := yM_aL a2 b2
  have R1 : yM_R s n v q (yz_i [(0, (g0.2.1 74) ka, 0, 0), (2, nI x, 0, 0)]) w ww g g2 := yM_R0 hlv E
  have c2 : yM_c g2 (n + 2) s b v := yM_cL c E
  have l2 : (g2.1 68 68) = nI w := (E.2.1.1 _ _ (by decide)).trans hlv
  have w2 : (g2.1 68 66) = nI ww := (E.2.1.1 _ _ (by decide)).trans hw
  obtain ⟨g3, d1, d2⟩ := yM_e c2 (by omega) 12 (nI ow) TT 0 (by decide)
  have f3 := yM_fE f2 d2
  have c3 : yM_c g3 (n + 2 + 1) s b v := yM_cL c2 d2
  obtain ⟨⟨p1, p2⟩, ⟨p3, p4, p5⟩, p6, p7⟩ := id c3
  obtain ⟨g4, e1, e2⟩ := yM_emit p1 (by omega) p3 (by omega) p5 p2 p6 (13, nI s, nI ow, 0)
  have eA : yM_A s (13, nI s, nI ow, 0) = nI ow := by
    unfold yM_A
    rw [if_neg (show ¬ ((13 : Nat) = 10 ∨ (13 : Nat) = 11 ∨ (13 : Nat) = 14) by decide), if_pos rfl]
  have eB : yM_B s (13, nI s, nI ow, 0) = 0 := by
    unfold yM_B
    rw [if_pos rfl]
    show nI s - nI s = 0
    rw [zi_sub (Nat.le_refl s), Nat.sub_self]; rfl
  rw [eA, eB] at e1
  have e2' : yM_E s (n + 2 + 1) (yv v [(13, nI s, nI ow, 0)]) g3 g4 := e2
  have f4 := yM_fE f3 e2'
  have c4 : yM_c g4 (n + 2 + 2) s b v := yM_cL c3 e2'
  obtain ⟨g5, hg5⟩ : ∃ g5, g5 = zs_uF g4 68 64 (nI (v + 1)) := ⟨_, rfl⟩
  have f5 : yM_f g0 g5 := by rw [hg5]; exact zfr_F (by decide) f4
  have c5 : yM_c g5 (n + 2 + 2) s b (v + 1) := by rw [hg5]; exact ⟨c4.1, c4.2.1, rfl, c4.2.2.2⟩
  have l5 : (g5.1 68 68) = nI w := by rw [hg5]; exact (e2.2.1.1 _ _ (by decide)).trans ((d2.2.1.1 _ _ (by decide)).trans l2)
  have w5 : (g5.1 68 66) = nI ww := by rw [hg5]; exact (e2.2.1.1 _ _ (by decide)).trans ((d2.2.1.1 _ _ (by decide)).trans w2)
  obtain ⟨g6, t1, t2⟩ := B D (n + 2 + 2) s (v + 1) (n + 2 + (3 + (yz_l Tb + 4))) w ww g5 f5 c5 l5 w5 (by omega) h20 h11 (by omega)
  obtain ⟨f6, c6, l6, w6⟩ := yM_Rf f5 c5 t2
  obtain ⟨g7, u1, u2⟩ := yM_e c6 (by omega) 1 (nI x) 0 0 (by decide)
  have f7 := yM_fE f6 u2
  have c7 := yM_cL c6 u2
  obtain ⟨g8, v1, v2⟩ := yM_e c7 (by show _ + 1 < _; omega) 0 st 0 0 (by decide)
  have f8 := yM_fE f7 v2
  have c8 := yM_cL c7 v2
  obtain ⟨g9, x1, x2⟩ := yM_e c8 (by show _ + 1 + 1 < _; omega) 7 y0 0 0 (by decide)
  have f9 := yM_fE f8 x2
  have c9 := yM_cL c8 x2
  obtain ⟨gA, y1, y2⟩ := yM_e c9 (by show _ + 1 + 1 + 1 < _; omega) 2 (nI x) 0 0 (by decide)
  have ET := yM_aL u2 (yM_aL v2 (yM_aL x2 y2))
  have RT := yM_Rap sT w5 t2 (yM_R0 (v := v + 1) (q := n + 2 + (3 + (yz_l Tb + 4))) l6 ET)
  have el : yz_l (yz_ap Tb (yz_i ([(1, nI x, 0, 0)] ++ ([(0, st, 0, 0)] ++ ([(7, y0, 0, 0)] ++ [(2, nI x, 0, 0)]))))) = yz_l Tb + 4 := yz_apl _ _ sT
  have exx : (yz_x (yz_ap Tb (yz_i ([(1, nI x, 0, 0)] ++ ([(0, st, 0, 0)] ++ ([(7, y0, 0, 0)] ++ [(2, nI x, 0, 0)]))))) (n + 2 + 2)).length ≤ c20 := by
    rw [yz_apx _ _ _ sT]
    exact hx _
  rw [hg5] at RT
  obtain ⟨gB, gC, gD, j1, j2, j3, j4, j5⟩ := yM_loop (q := q) (m := n + 2) c2 l2 (by rw [el]; omega) (by omega) d2 e2 (by rw [el]; exact RT)
  rw [el] at j1 j2 j3
  refine ⟨gD, ?_, yM_Rap ⟨by decide, trivial⟩ hw R1 (by exact j5)⟩
  have e191 : f_Mo_loopCode_191 g8 (nI k) (nI (n + 2 + 1 - s)) (nI w) y0 7 = some gD := by
    unfold f_Mo_loopCode_191
    refine (congrArg (fun z => zd_B z _) x1).trans ?_
    show (if zd_in (nI k) 33500 then (zd_B (f_Mo_emit g9 2 ((g9.2.1 101) (nI k).toNatClampNeg) 0 0) fun v6 h7 => (zd_B (f_Mo_emit h7 14 (nI (n + 2 + 1 - s)) 0 0) fun v9 h10 => ((f_Mo_here h10).bind fun v12 => ((f_Mo_aim h10 (nI (n + 2 + 1 - s)) v12).bind fun h14 => f_Mo_loopCode_L235 zF h14 (nI w))))) else none) = _
    rw [if_pos (zi_in (by omega) hk), nI_clamp (show k < 2147483648 by omega), f9.2.1 101 (by decide), m4]
    refine (congrArg (fun z => zd_B z _) y1).trans ?_
    refine (show zd_B (f_Mo_emit gA 14 (nI (n + 2 + 1 - s)) 0 0) _ = _ from (congrArg (fun z => zd_B z _) j1).trans ?_)
    show ((f_Mo_here gB).bind fun v12 => ((f_Mo_aim gB (nI (n + 2 + 1 - s)) v12).bind fun h14 => f_Mo_loopCode_L235 zF h14 (nI w))) = _
    rw [j2, Option.bind_some, j3, Option.bind_some, j4]
  have e170 : f_Mo_loopCode_170 g7 (nI k) ((g0.2.1 93) wv) (nI (n + 2 + 1 - s)) (nI w) st 0 = some gD := by
    unfold f_Mo_loopCode_170
    refine (congrArg (fun z => zd_B z _) v1).trans ?_
    show (if (g0.2.1 93) wv = 1 then f_Mo_loopCode_191 g8 (nI k) (nI (n + 2 + 1 - s)) (nI w) 0 7 else f_Mo_loopCode_191 g8 (nI k) (nI (n + 2 + 1 - s)) (nI w) 5 7) = _
    by_cases z : (g0.2.1 93) wv = 1
    · rw [if_pos z] at ey ⊢
      rw [← ey]; exact e191
    · rw [if_neg z] at ey ⊢
      rw [← ey]; exact e191
  have eL : g_Mo_loopCode (f_Mo_bodyCode D) g (nI k) = some gD := by
    unfold g_Mo_loopCode
    simp only [if_pos (zi_in (show k < 2147483648 by omega) hk), nI_clamp (show k < 2147483648 by omega), f' 76 (by decide), m1, if_pos (zi_in (show ka < 2147483648 by omega) hka), nI_clamp (show ka < 2147483648 by omega), f' 78 (by decide), m2, if_pos (zi_in (show kb < 2147483648 by omega) hkb), nI_clamp (show kb < 2147483648 by omega), m3, if_pos (zi_in (show kc < 2147483648 by omega) hkc), nI_clamp (show kc < 2147483648 by omega), c.2.2.2, f' 74 (by decide), yk_fva f, hv, Option.bind_some, if_pos (zi_in (show wv < 2147483648 by omega) hwv), nI_clamp (show wv < 2147483648 by omega), f' 93 (by decide)]
    refine (congrArg (fun z => zd_B z _) a1).trans ?_
    refine (show zd_B (f_Mo_emit g1 2 ((g1.2.1 101) k) 0 0) _ = _ from ?_)
    rw [f1.2.1 101 (by decide), m4]
    refine (congrArg (fun z => zd_B z _) b1).trans ?_
    refine (show (f_Mo_times g2 (nI k)).bind (fun v16 => zd_B (f_Mo_emit g2 12 ((g2.2.1 102) k) v16 0) _) = _ from ?_)
    rw [yk_ftm f2, et, Option.bind_some, f2.2.1 102 (by decide), m5]
    refine (congrArg (fun z => zd_B z _) d1).trans ?_
    refine (show zd_B (f_Mo_emit g3 13 ((g3.2.1 102) k) 0 0) _ = _ from ?_)
    rw [f3.2.1 102 (by decide), m5]
    refine (congrArg (fun z => zd_B z _) e1).trans ?_
    refine (show (f_Mo_bodyCode D (zs_uF g4 68 64 ((g4.1 68 64) + 1)) ((g4.2.1 77) k)).bind _ = _ from ?_)
    rw [show (g4.1 68 64) = nI v from c4.2.2.1, nI_1, ← hg5, f4.2.1 77 (by decide), m6, t1, Option.bind_some, f6.2.1 101 (by decide), m4]
    refine (congrArg (fun z => zd_B z _) u1).trans ?_
    show (if (g7.2.1 72) kc = 11 then f_Mo_loopCode_170 g7 (nI k) ((g0.2.1 93) wv) (nI (n + 2 + 1 - s)) ((g4.1 68 68)) 1 0 else f_Mo_loopCode_170 g7 (nI k) ((g0.2.1 93) wv) (nI (n + 2 + 1 - s)) ((g4.1 68 68)) ((g7.2.1 74) kc) 0) = _
    rw [show (g4.1 68 68) = nI w by rw [hg5] at l5; exact l5, f7.2.1 72 (by decide), f7.2.1 74 (by decide)]
    rcases es0 with ⟨z1, z2⟩ | ⟨z1, z2⟩
    · rw [if_neg z1, ← z2]; exact e170
    · rw [if_pos z1, ← z2]; exact e170
  rw [yk_sS]
  unfold g_Mo_statementCode
  simp only [if_pos (zi_in (show k < 2147483648 by omega) hk), nI_clamp (show k < 2147483648 by omega), f' 72 (by decide)]
  rw [m0, if_neg (by decide), if_neg (by decide), if_neg (by decide), if_neg (by decide), if_pos rfl]
  show (g_Mo_loopCode (f_Mo_bodyCode D) g (nI k)).bind _ = _
  rw [eL]
  rfl
end YFP
