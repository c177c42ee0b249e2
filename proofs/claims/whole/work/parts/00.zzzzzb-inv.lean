/-! The judge: a parameter is visited. -/
def yp_I (nb : Nat) (F : Nat → Nat) (u B : Nat) (wk : Int32) (h g : zs_H) : Prop := F (nb - 1) ≤ u ∧ u < F nb ∧ (h.1 38 7) = nI (32 + u) ∧ B < 8 + nb ∧ (h.2.1 30) (32 + u) = nI B ∧ (g.2.1 93) u = nI (if B < 9 then 100000 + B else B - 9) ∧ (g.2.1 92) u = 2 ∧ f_Mo_variable g ((g.1 68 54)) wk = some (nI u)
def yp_O (wk : Int32) (h g : zs_H) : Prop := (h.1 38 7) = -1 ∧ (f_Mo_variable g ((g.1 68 54)) wk = some (-1) ∨ ∃ u, u < 5900 ∧ f_Mo_variable g ((g.1 68 54)) wk = some (nI u) ∧ ¬ (g.2.1 92) u = 2)
theorem yp_vom {g g' : zs_H} (e1 : g'.2.1 90 = g.2.1 90) (e2 : g'.2.1 91 = g.2.1 91) (e3 : (g'.1 68 33) = (g.1 68 33)) (e4 : (g'.1 68 41) = (g.1 68 41)) (x y : Int32) : f_Mo_variable g' x y = f_Mo_variable g x y := by
  have e27 : f_Mo_variable_33 g' = f_Mo_variable_33 g := by
    funext k7 x1 x2 x3 y0 y1
    unfold f_Mo_variable_33
    rw [e2]
  have e7 : f_Mo_variable_7 g' = f_Mo_variable_7 g := by
    funext k7 x1 x2 x3
    unfold f_Mo_variable_7
    rw [e27, e1, e3, e4]
  have eL : f_Mo_variable_L7 g' = f_Mo_variable_L7 g := by
    unfold f_Mo_variable_L7
    rw [e7]
  unfold f_Mo_variable
  rw [eL, e1]
section YPB
variable {LC LM : List (List Int32)} {nb nf sz : Nat} {F : Nat → Nat} {h g h' g' : zs_H} {P Q : Nat → Prop} {u B : Nat} {wk : Int32}
theorem yp_vof2 (O : yb_out P Q h g h' g') (x y : Int32) : f_Mo_variable g' x y = f_Mo_variable g x y := yp_vom (O.2.1.2.1 _ (by decide)) (O.2.1.2.1 _ (by decide)) (O.2.1.1 _ _ List.not_mem_nil) (O.2.1.1 _ _ List.not_mem_nil) x y
theorem yp_If (O : yb_out P Q h g h' g') (H : yp_I nb F u B wk h g) : yp_I nb F u B wk h' g' := by
  obtain ⟨a1, a2, a3, a4, a5, a6, a7, a8⟩ := H
  exact ⟨a1, a2, (O.1.1 _ _ List.not_mem_nil).trans a3, a4, by rw [O.1.2.1 _ (by decide)]; exact a5, by rw [O.2.1.2.1 _ (by decide)]; exact a6, by rw [O.2.1.2.1 _ (by decide)]; exact a7, by rw [yp_vof2 O, O.2.1.1 _ _ List.not_mem_nil]; exact a8⟩
theorem yp_Of (O : yb_out P Q h g h' g') (H : yp_O wk h g) : yp_O wk h' g' := by
  obtain ⟨a1, a2⟩ := H
  refine ⟨(O.1.1 _ _ List.not_mem_nil).trans a1, ?_⟩
  rw [yp_vof2 O, O.2.1.1 _ _ List.not_mem_nil]
  rcases a2 with z | ⟨u, z1, z2, z3⟩
  · exact .inl z
  · exact .inr ⟨u, z1, z2, by rw [O.2.1.2.1 _ (by decide)]; exact z3⟩
theorem yp_fM {N : Nat} {x1 x2 x : Int32} {R : zs_H → Int32 → Option zs_H} (hf : ¬ (g.1 68 29) = 0) : f_Mo_lookAlone_L28 R (N + 1) g x1 x2 x = some g := by
  rw [zv_uM]
  unfold f_Mo_lookAlone_28 f_Mo_lookAlone_54
  rw [if_neg hf, if_neg hf, ite_self]
theorem yp_par {a b k d D D' c0 ce : Nat} {kvp kve : Int32 × Int32} {oe : Unit} {lp le w : zt_T} {P1 Q1 Pw Qw : Nat → Prop} {z1 x x' : Int32} (C : yb_cx LC LM nb nf sz F h g) (nd : yb_nd LC LM h g 14 kvp lp a b k P1 Q1 z1) (hl : lp = .inner ce kve oe le .leaf) (hE : ce ∈ yb_E) (VN : yb_VN ce kve le) (hk : k < 33500) (mk : (g.2.1 74) k = wk) (mx : (g.2.1 76) k = x') (fp : (h.1 38 8) = x) (hP1s : ∀ j, P1 j → j < sz) (has : a < sz) (hd : d + zg_d lp ≤ 239) (hD : zg_d lp ≤ D) (hD' : 2 * zg_d lp < D') (hc0 : c0 < 6000) (ec : kvp.2 = nI c0) (hln : zt_ln w < sz) (hPw : ∀ j, Pw j → ¬ j = a ∧ ¬ P1 j) (hQw : ∀ j, Qw j → ¬ j = b ∧ ¬ Q1 j) (hio : yp_O wk h g ∨ (yp_I nb F u B wk h g ∧ ∀ xx, xx < 300000000 → (h.2.1 32) (32 + u) = nI xx → yp_s LC LM F (nb - 1) B xx h g Pw Qw w x x' (nI a) (nI b))) :
    ∃ h' g', f_Jd_visit (D + 1) h (nI a) (nI d) = some h' ∧ f_Mo_look (D' + 2) g (nI b) = some g' ∧ ((zv_Fb h g h' g' ∧ ¬ (h'.1 38 3) = 0 ∧ ¬ (g'.1 68 29) = 0) ∨ (yb_ok F (nb - 1) 14 kvp lp a b P1 Q1 h g h' g' ∧ (h'.1 38 3) = 0 ∧ (g'.1 68 29) = 0 ∧ (yp_I nb F u B wk h g → ¬ yp_O wk h g → ∀ xx, xx < 300000000 → (h.2.1 32) (32 + u) = nI xx → yp_s LC LM F (nb - 1) B xx h' g' (fun j => Pw j ∨ (P1 j ∨ j = a)) (fun j => Qw j ∨ (Q1 j ∨ j = b)) (zt_ap w (.inner 14 kvp () lp .leaf)) x x' ((h'.2.1 18) a) ((g'.2.1 78) b)))) := by
  obtain ⟨⟨hi, hb, hPi, hQk, hP, hQ⟩, ⟨c1, c2, c3, c4, c5⟩, cC, ⟨m0, m1, m2, m3⟩, cM⟩ := id nd
  subst hl
  have hdl : max (zg_d le + 1) 0 ≤ zg_d (.inner ce kve oe le .leaf) := zg_d1 (r := .leaf)
  have J1 : (h.1 38 3) = 0 := C.1.2.2.2.2.2.2.2.1
  have J2 : (g.1 68 29) = 0 := C.1.2.2.2.2.2.2.2.2
  have hsz := C.2.2.2.1
  have hs2 := C.2.2.2.2
  obtain ⟨e, P3, P4, y1, y2, ee, e1, e2, e3, e4, e5, e6, e7, e8, e9, e10⟩ := zv_hC cC
  obtain ⟨ke, Q3, Q4, y3, ek, k1, k2, k3, k4, k5, k6, k7, k8, k9, k10, k11⟩ := zv_hM cM
  have he := hP e e2
  have hke := hQ ke k2
  have e9' : (h.2.1 18) e = -1 := (show (h.2.1 18) e = -1 ∧ y2 = -1 from e9).1
  have k10' : (g.2.1 78) ke = -1 := (show (g.2.1 78) ke = -1 ∧ y3 = -1 from k10).1
  have nde : yb_nd LC LM h g ce kve le e ke b P3 Q3 y1 := ⟨⟨he, hke, fun z => (e6 e z).2.1 rfl, fun z => (k7 ke z).2.1 rfl, fun j hj => hP j (e6 j hj).1, fun j hj => hQ j (k7 j hj).1⟩, ⟨e3, e4, e5, c5 e e2, fun j hj => c5 j (e6 j hj).1⟩, e8, ⟨k3, k4, k5, k6⟩, k9⟩
  obtain ⟨D', rfl⟩ : ∃ z, D' = z + 1 := ⟨D' - 1, by omega⟩
  obtain ⟨h2, g2, v1, v2, v3⟩ := VN LC LM nb nf sz F h g e ke b 14 (d + 1) D D' P3 Q3 y1 C nde hb m0 (by decide) (by decide) (by decide) (fun j hj => hP1s j (e6 j hj).1) (by omega) (by omega) (by omega)
  have v2' := yb_lk1 hke (fun z => (k7 ke z).2.1 rfl) (by omega) v2
  have hzz : zF = 18446744073709551614 + 1 + 1 := rfl
  have eC := zv_vC (D := D) (d := d) (h := h) (i := a) (by omega) hi (zv_ent0 (kd := 14) hi (by decide) c1 (by decide))
  rw [ee, hzz, zv_stC (sz := sz) (by omega) (by omega) he J1 hsz v1] at eC
  have eM := (zv_lM (D' := D' + 1) (g := g) (k := b) (kd := 14) hb (by decide) (by decide) m0).trans (zv_aM (D' := D' + 1) (g := g) (k := b) (kd := 14) hb (by decide) (by decide) m0)
  rw [ek, hzz, zv_stM hke J2 v2'] at eM
  rcases v3 with ⟨Fb, n1, n2⟩ | ⟨⟨O2, A⟩, n1, n2⟩
  · rw [yb_fC n1] at eC
    rw [yp_fM n2] at eM
    exact ⟨h2, g2, eC, eM, .inl ⟨Fb, n1, n2⟩⟩
  · have O2' : yb_out P1 Q1 h g h2 g2 := yb_outm O2 (fun j z => z.elim (fun z => (e6 j z).1) (fun z => by rw [z]; exact e2)) (fun j z => z.elim (fun z => (k7 j z).1) (fun z => by rw [z]; exact k2))
    have C2 := yb_cxf C O2.1 O2.2.1
    have nx : (h2.2.1 18) e = -1 := by rw [O2.1.2.1 _ (by decide)]; exact e9'
    have bs : (g2.2.1 78) ke = -1 := by rw [O2.2.1.2.1 _ (by decide)]; exact k10'
    rw [nx] at eC A
    rw [bs] at eM A
    obtain ⟨i1, i2, i3, i4⟩ := O2'.2.2.1 a hPi
    have ge : ∀ z, ¬ z ∈ [100, 101, 102] → g2.2.1 z = g.2.1 z := fun z hz => O2.2.1.2.1 z hz
    have he' : ∀ z, ¬ z ∈ [13, 14, 16, 17] → h2.2.1 z = h.2.1 z := fun z hz => O2.1.2.1 z hz
    have mkd : (g2.2.1 72) b = 14 := by rw [ge _ (by decide)]; exact m0
    have eC2 : f_Jd_visit (D + 1) h (nI a) (nI d) = f_Jd_judgeParameter h2 (nI a) := by
      rw [eC, zv_enC]
      unfold f_Jd_visit_74
      rw [if_pos n1, Option.bind_fun_some, zv_lv14 hi (i1.trans c1)]
    have eM2 : f_Mo_look (D' + 1 + 2) g (nI b) = f_Mo_lookAtParameter g2 (nI b) := by
      rw [eM, zv_enM, zv_54S (by decide) (by decide) n2]
      unfold f_Mo_lookAtStatements
      simp (config := { decide := true }) only [if_pos (zi_in (show b < 2147483648 by omega) hb), nI_clamp (show b < 2147483648 by omega), mkd, if_false, if_true, Option.bind_fun_some]
    have A1 : yb_F F (nb - 1) h2 g2 P1 Q1 (.inner ce kve oe le .leaf) ((h.2.1 17) a) ((g.2.1 76) b) (-1) (-1) := by
      rw [ee, ek]
      exact yb_Fm (fun j z => z.elim (fun z => (e6 j z).1) (fun z => by rw [z]; exact e2)) (fun j z => z.elim (fun z => (k7 j z).1) (fun z => by rw [z]; exact k2)) _ _ _ _ _ A
    have kid : ∀ h' : zs_H, (h'.2.1 13) a = (h2.2.1 13) a → (h'.2.1 17) a = (h2.2.1 17) a → ∀ g', yb_N F (nb - 1) h' g' P1 Q1 14 kvp.2 a b ((h.2.1 17) a) (zt_ln (.inner ce kve oe le .leaf)) := by
      intro h' q1 q2 g'
      exact .inl (.inr (.inr (.inr (.inl ⟨rfl, by rw [q1]; exact i1.trans c1, by rw [q2]; exact i4⟩))))
    rcases hio with HO | ⟨HI, S⟩
    · have HO2 := yp_Of O2 HO
      have eC3 : f_Jd_judgeParameter h2 (nI a) = some h2 := by
        unfold f_Jd_judgeParameter
        rw [HO2.1, if_pos rfl]
      have eM3 : f_Mo_lookAtParameter g2 (nI b) = some g2 := by
        unfold f_Mo_lookAtParameter
        rw [if_pos (zi_in (by omega) hb), nI_clamp (show b < 2147483648 by omega), show (g2.2.1 75) b = nI k by rw [ge _ (by decide)]; exact m3, if_pos (zi_in (by omega) hk), nI_clamp (show k < 2147483648 by omega), show (g2.2.1 74) k = wk by rw [ge _ (by decide)]; exact mk]
        rcases HO2.2 with z | ⟨u', z1, z2, z3⟩
        · rw [z, Option.bind_some, if_pos (by decide)]
        · have n3 : (nI u').toNatClampNeg = u' := nI_clamp (by omega)
          rw [z2, Option.bind_some, if_neg (zv_neg (show u' < 2147483648 by omega)).2, if_pos (zi_in (by omega) (by omega)), if_neg (show ¬ (g2.2.1 92) (nI u').toNatClampNeg = 2 by rw [n3]; exact z3)]
      exact ⟨h2, g2, by rw [eC2, eC3], by rw [eM2, eM3], .inr ⟨yb_fin C nd O2' A1 yb_out0 (kid h2 rfl rfl g2), n1, n2, fun _ z => absurd HO z⟩⟩
    · obtain ⟨a1, a2, a3, a4, a5, a6, a7, a8⟩ := yp_If O2 HI
      rw [if_pos (by decide)] at m2
      obtain ⟨ex, kx, t, q1, q2, q3, q4, q5, q6, t1, t2, t3, _⟩ := yb_first hE A1
      have eex : ex = e := by rw [ee] at q3; exact ((nI_eq (by omega) (by omega)).mp q3).symm
      have ekx : kx = ke := by rw [ek] at q6; exact ((nI_eq (by omega) (by omega)).mp q6).symm
      subst eex; subst ekx
      have vo : ∀ c, f_Pl_variableOf h2 (nI B) c = f_Pl_variableOf h (nI B) c := fun c => yp_vof (he' _ (by decide)) (he' _ (by decide)) (he' _ (by decide)) _ _
      have S2 : ∀ xx, xx < 300000000 → (h2.2.1 32) (32 + u) = nI xx → yp_s LC LM F (nb - 1) B xx h2 g2 Pw Qw w x x' (nI a) (nI b) := fun xx hx3 hxx => yp_sf (h := h) (g := g) (fun j hj => ⟨(O2'.2.2.1 j (hPw j hj).2).2.2.1, by rw [he' _ (by decide)], (O2'.2.2.1 j (hPw j hj).2).2.2.2, (O2'.2.2.1 j (hPw j hj).2).2.1⟩) (fun j hj => ⟨(O2'.2.2.2 j (hQw j hj).2).2.1, by rw [ge _ (by decide)], by rw [ge _ (by decide)], by rw [ge _ (by decide)]⟩) ⟨he' _ (by decide), he' _ (by decide), he' _ (by decide)⟩ vo _ _ _ _ _ (S xx hx3 (by rw [← he' _ (by decide)]; exact hxx))
      obtain ⟨h', g', w1, w2, w3⟩ := yp_jp (p := kvp.1) (wk := wk) (x := x) (x' := x') (w := w) (P := Pw) (Q := Qw) (e := ex) (ke := kx) (te := t) (c0 := c0) C2 hi hb hk (fun j hj => (hPw j hj).1) (fun j hj => (hQw j hj).1) hln a1 a2 a3 ((O2.1.1 _ _ List.not_mem_nil).trans fp) a4 a5 a6 a7 hc0 (i3.trans (c3.trans ec)) (by rw [he' _ (by decide)]; exact c2) (i4.trans q3) he (fun z => hPi (by rw [← z]; exact e2)) t2 t1 (by rw [ge _ (by decide), ← ec]; exact m2) (by rw [ge _ (by decide)]; exact m1 (by decide)) (by rw [ge _ (by decide)]; exact m3) (by rw [ge _ (by decide)]; exact mk) a8 (by rw [ge _ (by decide)]; exact q6) hke t3 (by rw [ge _ (by decide)]; exact mx) S2
      refine ⟨h', g', by rw [eC2, w1], by rw [eM2, w2], ?_⟩
      rcases w3 with Fb | ⟨cv, off, xx, x1, x2, x3, x4, x5, x6, x7, x8⟩
      · obtain ⟨⟨φ, p, X⟩, f1, f2⟩ := Fb
        have xn := zv_Xn X
        exact .inl ⟨⟨⟨φ, p, X⟩, zfr_trans (zfr_w O2.1 (by decide) (by decide) (by decide)) f1, zfr_trans (zfr_w O2.2.1 (by decide) (by decide) (by decide)) f2⟩, xn.1, xn.2⟩
      · right
        have W : yb_out (fun j => j = a) (fun j => j = b) h2 g2 h' g' := by
          rw [x1, x2]
          exact yb_W6 _ (yb_W2 _ yb_out0)
        have wa : (h'.2.1 16) a = nI cv := by rw [x1, zu_MM, if_pos ⟨rfl, rfl⟩]
        have wb : (g'.2.1 101) b = nI (xx + off) := by rw [x2, zu_MM, if_pos ⟨rfl, rfl⟩]
        have ge2 : ∀ z, ¬ z ∈ [100, 101, 102] → g'.2.1 z = g2.2.1 z := fun z hz => W.2.1.2.1 z hz
        have he2 : ∀ z, ¬ z ∈ [13, 14, 16, 17] → h'.2.1 z = h2.2.1 z := fun z hz => W.1.2.1 z hz
        refine ⟨yb_fin C nd O2' A1 W (kid h' (by rw [x1, zu_MM, if_neg (fun z => absurd z.1 (by decide))]) (by rw [x1, zu_MM, if_neg (fun z => absurd z.1 (by decide))]) g'), (W.1.1 _ _ List.not_mem_nil).trans n1, (W.2.1.1 _ _ List.not_mem_nil).trans n2, fun _ _ xx' hx3' hxx' => ?_⟩
        have exx : xx' = xx := by
          have e0 : nI xx' = nI xx := by rw [← hxx', ← x6, he' _ (by decide)]
          exact (nI_eq (by omega) (by omega)).mp e0
        subst exx
        have vo2 : ∀ c, f_Pl_variableOf h' (nI B) c = f_Pl_variableOf h2 (nI B) c := fun c => yp_vof (he2 _ (by decide)) (he2 _ (by decide)) (he2 _ (by decide)) _ _
        refine yp_sap w _ _ _ _ _ _ _ (yp_sm (fun _ z => .inl z) (fun _ z => .inl z) _ _ _ _ _ (yp_sf (h := h2) (g := g2) (fun j hj => ⟨(W.2.2.1 j (hPw j hj).1).2.2.1, by rw [he2 _ (by decide)], (W.2.2.1 j (hPw j hj).1).2.2.2, (W.2.2.1 j (hPw j hj).1).2.1⟩) (fun j hj => ⟨(W.2.2.2 j (hQw j hj).1).2.1, by rw [ge2 _ (by decide)], by rw [ge2 _ (by decide)], by rw [ge2 _ (by decide)]⟩) ⟨he2 _ (by decide), he2 _ (by decide), he2 _ (by decide)⟩ vo2 _ _ _ _ _ (S2 xx' hx3' x6))) ?_
        exact ⟨a, b, cv, off, c0, ⟨.inr (.inr rfl), hi, rfl⟩, ⟨.inr (.inr rfl), hb, rfl, by rw [ge2 _ (by decide)]; exact mkd⟩, ⟨wa, by rw [show nb - 1 + 1 = nb by have := C.2.2.1; omega]; exact x3, x4, by rw [he2 _ (by decide)]; exact x5, wb, x7.1, x7.2.1, by rw [he2 _ (by decide)]; exact x7.2.2.1, ex, he, by rw [x1, zu_MM, if_neg (fun z => absurd z.1 (by decide))]; exact i4.trans q3, .inr (.inl q1), fun z => by
          rw [he2 _ (by decide)] at z
          rw [x1, zu_MM, if_neg (fun z => absurd z.1 (by decide)), t2]
          exact x7.2.2.2 z⟩, ⟨ec, hc0, by rw [vo2]; exact x8, by rw [ge2 _ (by decide), ge _ (by decide), ← ec]; exact m2⟩, rfl, rfl⟩
end YPB
