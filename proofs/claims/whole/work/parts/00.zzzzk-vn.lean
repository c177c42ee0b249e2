/-! The judge: an expression is visited: outputs, signs between two; all expressions. -/
section YBM
variable {LC LM : List (List Int32)} {nb nf sz : Nat} {F : Nat → Nat} {h1 g1 h g h' g' : zs_H} {P Q : Nat → Prop}
theorem yb_stepL {i k ku d D D' c : Nat} {l lc r : zt_T} {kv : Int32 × Int32} {o : Unit} {x x' : Int32} (C : yb_cx LC LM nb nf sz F h1 g1) (hk : k < 33500) (hP : ∀ j, P j → j < 32784) (hPs : ∀ j, P j → j < sz) (hQ : ∀ j, Q j → j < 33500) (m1 : (g1.2.1 72) k = nI ku) (hku : ku < 100) (h5 : ¬ ku = 5) (h33 : ¬ ku = 33) (hd : d + zg_d l ≤ 240) (hD : zg_d l ≤ D) (hD' : 2 * zg_d l ≤ D') (S : yb_St LC LM nb F i k l P Q h1 g1 (.inner c kv o lc r) h g x x') :
    ∃ a b Q1, x = nI a ∧ a < 32784 ∧ x' = nI b ∧ b < 33500 ∧ (h.1 38 3) = 0 ∧ (g.1 68 29) = 0 ∧ (h.1 12 6) = nI sz ∧ (P a ∧ Q b ∧ (∀ j, Q1 j → Q j) ∧ ¬ Q1 b ∧ (g.2.1 75) b = nI k) ∧ ∃ h' g', f_Jd_visit D h (nI a) (nI (d + 1)) = some h' ∧ yb_lk D' Q1 (zg_d lc) g b g' ∧ ((zv_Fb h1 g1 h' g' ∧ ¬ (h'.1 38 3) = 0 ∧ ¬ (g'.1 68 29) = 0) ∨ (yb_St LC LM nb F i k l P Q h1 g1 r h' g' ((h'.2.1 18) a) ((g'.2.1 78) b) ∧ (h'.1 38 3) = 0 ∧ (g'.1 68 29) = 0 ∧ yb_out P Q h g h' g')) := by
  obtain ⟨w, Pw, Qw, Pu, Qu, yu, yu', e0, ⟨sC, sM⟩, ⟨p1, p2, p3, p4⟩, A, ty, O, ⟨⟨cE, VN⟩, Ph⟩, zd, J1, J2⟩ := S
  have C2 : yb_cx LC LM nb nf sz F h g := yb_cxf C O.1 O.2.1
  have zd' : max (zg_d lc + 1) (zg_d r) ≤ zg_d l := Nat.le_trans zg_d1 zd
  obtain ⟨a, P1, P2, z1, z2, ea, a1, a2, a3, a4, a5, a6, a7, a8, a9, a10⟩ := zv_hC sC
  obtain ⟨b, Q1, Q2, z3, eb, b1, b2, b3, b4, b5, b6, b7, b8, b9, b10, b11⟩ := zv_hM sM
  have ha := hP a (p1 a a2)
  have hbb := hQ b (p2 b b2)
  have nd : yb_nd LC LM h g c kv lc a b k P1 Q1 z1 := ⟨⟨ha, hbb, fun z => (a6 a z).2.1 rfl, fun z => (b7 b z).2.1 rfl, fun j hj => hP j (p1 j (a6 j hj).1), fun j hj => hQ j (p2 j (b7 j hj).1)⟩, ⟨a3, a4, a5, ty a a2, fun j hj => ty j (a6 j hj).1⟩, a8, ⟨b3, b4, b5, b6⟩, b9⟩
  obtain ⟨h', g', v1, v2, v3⟩ := VN LC LM nb nf sz F h g a b k ku (d + 1) D D' P1 Q1 z1 C2 nd hk (by rw [O.2.1.2.1 _ (by decide)]; exact m1) hku h5 h33 (fun j hj => hPs j (p1 j (a6 j hj).1)) (by omega) (by omega) (by omega)
  refine ⟨a, b, Q1, ea, ha, eb, hbb, J1, J2, C2.2.2.2.1, ⟨p1 a a2, p2 b b2, fun j hj => p2 j (b7 j hj).1, fun z => (b7 b z).2.1 rfl, b6⟩, h', g', v1, v2, ?_⟩
  rcases v3 with ⟨⟨X, f1, f2⟩, n1, n2⟩ | ⟨⟨O2, B⟩, n1, n2⟩
  · exact .inl ⟨⟨X, zfr_trans (zfr_w O.1 (by decide) (by decide) (by decide)) f1, zfr_trans (zfr_w O.2.1 (by decide) (by decide) (by decide)) f2⟩, n1, n2⟩
  · right
    have nx : (h'.2.1 18) a = (h.2.1 18) a := by rw [O2.1.2.1 _ (by decide)]
    have nb' : (g'.2.1 78) b = (g.2.1 78) b := by rw [O2.2.1.2.1 _ (by decide)]
    refine ⟨?_, n1, n2, yb_outm O2 (fun j z => z.elim (fun z => p1 j (a6 j z).1) (fun z => by rw [z]; exact p1 a a2)) (fun j z => z.elim (fun z => p2 j (b7 j z).1) (fun z => by rw [z]; exact p2 b b2))⟩
    refine ⟨zt_ap w (.inner c kv o lc .leaf), fun j => Pw j ∨ (P1 j ∨ j = a), fun j => Qw j ∨ (Q1 j ∨ j = b), P2, Q2, z2, z3, ?_, ⟨?_, ?_⟩, ⟨fun j hj => p1 j (a7 j hj).1, fun j hj => p2 j (b8 j hj).1, fun j hj => ?_, fun j hj => ?_⟩, ?_, fun j hj => ?_, ?_, Ph, by omega, n1, n2⟩
    · rw [zt_ap_as]; exact e0
    · rw [nx]
      exact yb_keepC O2 (fun j hj z => z.elim (fun z => (a6 j z).2.2 hj) (fun z => (a7 j hj).2 z)) a9
    · rw [nb']
      exact yb_keepM O2.2.1 b10
    · rcases hj with z | z | z
      · exact ⟨(p3 j z).1, fun u => (p3 j z).2 (a7 j u).1⟩
      · exact ⟨p1 j (a6 j z).1, (a6 j z).2.2⟩
      · exact ⟨by rw [z]; exact p1 a a2, fun u => (a7 j u).2 z⟩
    · rcases hj with z | z | z
      · exact ⟨(p4 j z).1, fun u => (p4 j z).2 (b8 j u).1⟩
      · exact ⟨p2 j (b7 j z).1, (b7 j z).2.2⟩
      · exact ⟨by rw [z]; exact p2 b b2, fun u => (b8 j u).2 z⟩
    · have A' := yb_keep C2 O2 (fun j hj => ⟨hP j (p3 j hj).1, fun z => (p3 j hj).2 (z.elim (fun z => (a6 j z).1) (fun z => by rw [z]; exact a2))⟩) (fun j hj z => (p4 j hj).2 (z.elim (fun z => (b7 j z).1) (fun z => by rw [z]; exact b2))) A
      refine yb_ap w _ _ _ _ _ _ _ (yb_Fm (fun _ z => .inl z) (fun _ z => .inl z) _ _ _ _ _ A') ?_
      rw [ea, eb]
      exact yb_Fm (fun _ z => .inr z) (fun _ z => .inr z) _ _ _ _ _ B
    · obtain ⟨t1, t2, _⟩ := O2.2.2.1 j (fun z => z.elim (fun z => (a6 j z).2.2 hj) (fun z => (a7 j hj).2 z))
      rw [t2]; exact ty j (a7 j hj).1
    · refine yb_outm (yb_outt O O2) (fun j z => z.elim id (fun z => z.elim (fun z => p1 j (a6 j z).1) (fun z => by rw [z]; exact p1 a a2))) (fun j z => z.elim id (fun z => z.elim (fun z => p2 j (b7 j z).1) (fun z => by rw [z]; exact p2 b b2)))
theorem yb_lkm {D' sp sp' k : Nat} (hs : sp ≤ sp') (H : yb_lk D' Q sp g k g') : yb_lk D' Q sp' g k g' := by
  intro n N hn hQ hN
  obtain ⟨a, b⟩ := H n N hn hQ (by omega)
  refine ⟨a, fun z => ?_⟩
  obtain ⟨N2, b1, b2⟩ := b z
  exact ⟨N2, by omega, b2⟩
theorem yb_last2 {up x y : Int32} {c c2 : Nat} {kv kv2 : Int32 × Int32} {o o2 : Unit} {lc lc2 : zt_T} {b : Nat} (hb : b < 2147483648) (M : zt_M LC LM g (.inner c kv o lc (.inner c2 kv2 o2 lc2 .leaf)) Q up x y) (e : x = nI b) : y = (g.2.1 78) b ∧ ¬ y = -1 := by
  obtain ⟨d, Q1, Q2, z2, e1, e2, e3, _, _, _, _, _, e8, _, e10, e11⟩ := zv_hM M
  have hd : d = b := by rw [e] at e1; exact ((nI_eq hb (by omega)).mp e1).symm
  subst hd
  obtain ⟨d', Q3, Q4, z3, f1, f2, f3, _, _, _, _, _, f8, _, f10, f11⟩ := zv_hM e10
  have f10' : (g.2.1 78) d' = -1 ∧ z3 = -1 := f10
  rw [f10'.2, if_pos rfl] at f11
  have n2 : ¬ z2 = -1 := by rw [f11, f1]; exact zc_m1 (by omega)
  rw [if_neg n2] at e11
  exact ⟨e11.trans f11, by rw [e11]; exact n2⟩
end YBM
/-- an output -/
theorem yb_VN33 {kv : Int32 × Int32} {l : zt_T} (hok : zg_ok l) (hA : zg_A 33 (zg_run 33 0 l) = true) : yb_VN 33 kv l := by
  intro LC LM nb nf sz F h g i k up ku d D D' P Q y C nd hup mu hku h5 h33 hPs hd hD hD'
  obtain ⟨kvf, o, el⟩ := yb_g33 hok hA
  subst el
  have hd1 : zg_d (.inner 38 kvf o .leaf .leaf) = 1 := rfl
  rw [hd1] at hd hD hD'
  obtain ⟨D, rfl⟩ : ∃ z, D = z + 1 + 1 := ⟨D - 2, by omega⟩
  obtain ⟨D', rfl⟩ : ∃ z, D' = z + 1 + 1 + 1 := ⟨D' - 3, by omega⟩
  obtain ⟨⟨hi, hk, hPi, hQk, hP, hQ⟩, ⟨c0, c1, c2, c3, c4⟩, cC, ⟨m0, m1, m2, m3⟩, cM⟩ := id nd
  obtain ⟨I, si, hb, hsz, hs2⟩ := id C
  have J1 : (h.1 38 3) = 0 := I.2.2.2.2.2.2.2.1
  have J2 : (g.1 68 29) = 0 := I.2.2.2.2.2.2.2.2
  obtain ⟨a, P1, P2, z1, z2, ea, a1, a2, a3, a4, a5, a6, a7, a8, a9, a10⟩ := zv_hC cC
  obtain ⟨b, Q1, Q2, z3, eb, b1, b2, b3, b4, b5, b6, b7, b8, b9, b10, b11⟩ := zv_hM cM
  have ha := hP a a2
  have hbb := hQ b b2
  have a8' : (h.2.1 17) a = -1 := (show (h.2.1 17) a = -1 ∧ z1 = -1 from a8).1
  have a9' : (h.2.1 18) a = -1 := (show (h.2.1 18) a = -1 ∧ z2 = -1 from a9).1
  have b9' : (g.2.1 76) b = -1 := (show (g.2.1 76) b = -1 ∧ (g.2.1 77) b = -1 from b9).1
  have b10' : (g.2.1 78) b = -1 := (show (g.2.1 78) b = -1 ∧ z3 = -1 from b10).1
  have hzz : zF = 18446744073709551615 + 1 := rfl
  have hzz2 : zF = 18446744073709551614 + 1 + 1 := rfl
  -- the field is visited
  have vf : f_Jd_visit (D + 1) h (nI a) (nI (d + 1)) = some h := by
    rw [zv_vC (by omega) ha (zv_ent0 (kd := 38) ha (by decide) a3 (by decide)), a8', hzz, zv_enC]
    unfold f_Jd_visit_74
    rw [if_pos J1, Option.bind_fun_some, zv_lv38 ha a3]
  have lf : f_Mo_look (D' + 1 + 1) g (nI b) = some g := by
    rw [zv_lM (kd := 6) hbb (by decide) (by decide) b3, zv_aM (kd := 6) hbb (by decide) (by decide) b3, b9', hzz, zv_enM, zv_54B (km := 6) (by decide) J2]
    unfold f_Mo_lookAtBlocks f_Mo_lookAtName
    simp (config := { decide := true }) only [if_pos (zi_in (show b < 2147483648 by omega) hbb), nI_clamp (show b < 2147483648 by omega), show (g.2.1 72) b = 6 from b3, if_false, if_true, Option.bind_fun_some, b6, if_pos (zi_in (show k < 2147483648 by omega) hk), nI_clamp (show k < 2147483648 by omega), show (g.2.1 72) k = 33 from m0]
  have eC : f_Jd_visit (D + 1 + 1) h (nI i) (nI d) = f_Jd_judgeVariable h (nI i) := by
    rw [zv_vC (by omega) hi (zv_ent0 (kd := 33) hi (by decide) c0 (by decide)), ea, hzz2, zv_stC (sz := sz) (by have := hPs a a2; omega) (by omega) ha J1 hsz vf, a9', zv_enC]
    unfold f_Jd_visit_74
    rw [if_pos J1, Option.bind_fun_some, zv_lv33 hi c0]
  have eM : f_Mo_lookAlone (D' + 1 + 1 + 1) g (nI k) = f_Mo_lookAtExpressions g (nI k) := by
    rw [zv_aM (kd := 33) hk (by decide) (by decide) m0, eb, hzz2, zv_stM hbb J2 lf, b10', zv_enM, zv_54E (km := 33) (by decide) (by decide) J2]
  rw [if_pos (by decide)] at m2 b5
  obtain ⟨c, hc, ec, hw⟩ := yb_nr C m2
  obtain ⟨cf, hcf, ecf, hwf⟩ := yb_nr C b5
  have nai : ¬ a = i := fun z => hPi (by rw [← z]; exact a2)
  have nbk : ¬ b = k := fun z => hQk (by rw [← z]; exact b2)
  obtain ⟨h', g', v1, v2, v3⟩ := zv_outE (p := kv.1) (a := a) (ka := b) (cf := cf) I si hb hi hk hc hw c0 (c2.trans ec) c1 ea ha nai hcf hwf (a5.trans ecf) m0 rfl (m1 (by decide)) eb hbb rfl
  refine ⟨h', g', by rw [eC, v1], yb_lk0 hk (km := 33) (by decide) (by decide) m0 (by rw [eM, v2]), ?_⟩
  rcases v3 with X | ⟨u, ty, t0, x, off, x1, x2, x3, x4, x5, x6, x7, x8, x9, x10⟩
  · obtain ⟨⟨φ, p, X⟩, f1, f2⟩ := X
    have xn := zv_Xn X
    exact .inl ⟨⟨⟨φ, p, X⟩, f1, f2⟩, xn.1, xn.2⟩
  · right
    have f1 : zfr [] [13, 14, 16, 17] [] h h' := by rw [x4]; exact zfr_M (by decide) (zfr_M (by decide) (zfr_M (by decide) (zfr_M (by decide) zfr_rfl)))
    have f2 : zfr [] [100, 101, 102] [] g g' := by rw [x5]; exact zfr_M (by decide) (zfr_M (by decide) zfr_rfl)
    have E : ∀ z j, ¬ j = i → ¬ j = a → h'.2.1 z j = h.2.1 z j := fun z j h1 h2 => by rw [x4, zu_MM, if_neg (fun u => h1 u.2), zu_MM, if_neg (fun u => h2 u.2), zu_MM, if_neg (fun u => h1 u.2), zu_MM, if_neg (fun u => h1 u.2)]
    have G : ∀ z j, ¬ j = k → g'.2.1 z j = g.2.1 z j := fun z j h1 => by rw [x5, zu_MM, if_neg (fun u => h1 u.2), zu_MM, if_neg (fun u => h1 u.2)]
    refine ⟨⟨⟨f1, f2, fun j hj => ?_, fun j hj => ?_⟩, i, k, (h.2.1 17) i, ⟨.inr rfl, hi, rfl⟩, ⟨.inr rfl, hk, rfl, by rw [f2.2.1 _ (by decide)]; exact m0⟩, ?_, ?_, rfl, rfl⟩, (f1.1 _ _ List.not_mem_nil).trans J1, (f2.1 _ _ List.not_mem_nil).trans J2⟩
    · have n1 : ¬ j = i := fun z => hj (.inr z)
      have n2 : ¬ j = a := fun z => hj (.inl (by rw [z]; exact a2))
      exact ⟨E _ _ n1 n2, E _ _ n1 n2, E _ _ n1 n2, E _ _ n1 n2⟩
    · have n1 : ¬ j = k := fun z => hj (.inr z)
      exact ⟨G _ _ n1, G _ _ n1, G _ _ n1⟩
    · refine .inr ⟨ty, x3, ?_, ?_, .inr (.inr (.inr (.inl ⟨rfl, ?_, ?_, a, u, x, off, ea, .inl a2, ?_, ?_, ?_, ?_, x10.1, by
        obtain ⟨_, B, cv, w1, w2, w3, w4, w5, w6⟩ := x10
        exact ⟨B, cv, by rw [f1.2.1 _ (by decide)]; exact w1, by omega, w3, by rw [show nb - 1 + 1 = nb by omega]; exact w4, by rw [f1.2.1 _ (by decide)]; exact w5, by rw [f1.2.1 _ (by decide)]; exact w6.1, by rw [f1.2.1 _ (by decide)]; exact w6.2⟩⟩)))⟩
      · rw [x4, zu_MM, if_pos ⟨rfl, rfl⟩]
      · rw [x5, zu_MM, if_neg (fun z => absurd z.1 (by decide)), zu_MM, if_pos ⟨rfl, rfl⟩]
      · rw [x4, zu_MM, if_neg (fun z => absurd z.1 (by decide)), zu_MM, if_neg (fun z => absurd z.1 (by decide)), zu_MM, if_neg (fun z => absurd z.1 (by decide)), zu_MM, if_neg (fun z => absurd z.1 (by decide))]; exact c0
      · rw [x4, zu_MM, if_neg (fun z => absurd z.1 (by decide)), zu_MM, if_neg (fun z => absurd z.1 (by decide)), zu_MM, if_neg (fun z => absurd z.1 (by decide)), zu_MM, if_neg (fun z => absurd z.1 (by decide))]
      · rw [show kv.2 = nI c from ec]
        exact yb_mkV I hb hc hw x1 x2 x6 x9 f1
      · rw [x4, zu_MM, if_neg (fun z => absurd z.1 (by decide)), zu_MM, if_neg (fun z => nai z.2.symm), zu_MM, if_neg (fun z => absurd z.1 (by decide)), zu_MM, if_pos ⟨rfl, rfl⟩]
      · rw [x4, zu_MM, if_neg (fun z => absurd z.1 (by decide)), zu_MM, if_pos ⟨rfl, rfl⟩]
      · rw [x5, zu_MM, if_pos ⟨rfl, rfl⟩]
    · refine ⟨a, b, -1, ⟨.inl a2, ha, ea⟩, ⟨.inl b2, hbb, by rw [f2.2.1 _ (by decide)]; exact eb, by rw [f2.2.1 _ (by decide)]; exact b3⟩, .inl (.inl rfl), ⟨rfl, by rw [f2.2.1 _ (by decide)]; exact b9'⟩, by rw [f1.2.1 _ (by decide)]; exact a9', by rw [f2.2.1 _ (by decide)]; exact b10'⟩
