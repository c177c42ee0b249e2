/-! The judge: a parameter (31, 32, 33). -/
theorem yp_vof {h h' : zs_H} (e1 : h'.2.1 23 = h.2.1 23) (e2 : h'.2.1 24 = h.2.1 24) (e3 : h'.2.1 28 = h.2.1 28) (x y : Int32) : f_Pl_variableOf h' x y = f_Pl_variableOf h x y := by
  have e7 : f_Pl_variableOf_7 h' = f_Pl_variableOf_7 h := by
    funext k7 x1 x2 x3
    unfold f_Pl_variableOf_7
    rw [e2, e3]
  have eL : f_Pl_variableOf_L7 h' = f_Pl_variableOf_L7 h := by
    unfold f_Pl_variableOf_L7
    rw [e7]
  unfold f_Pl_variableOf
  rw [eL, e1]
theorem yp_jp {LC LM : List (List Int32)} {nb nf sz u B a0 b0 c0 k e ke te : Nat} {F : Nat → Nat} {h g : zs_H} {P Q : Nat → Prop} {w : zt_T} {wk p x x' : Int32} (C : yb_cx LC LM nb nf sz F h g) (ha0 : a0 < 32784) (hb0 : b0 < 33500) (hk : k < 33500) (hP : ∀ j, P j → ¬ j = a0) (hQ : ∀ j, Q j → ¬ j = b0) (hln : zt_ln w < sz) (u1 : F (nb - 1) ≤ u) (u2 : u < F nb) (inv : (h.1 38 7) = nI (32 + u)) (fp : (h.1 38 8) = x) (hB : B < 8 + nb) (iB : (h.2.1 30) (32 + u) = nI B) (tB : (g.2.1 93) u = nI (if B < 9 then 100000 + B else B - 9)) (so : (g.2.1 92) u = 2) (hc0 : c0 < 6000) (cv : (h.2.1 16) a0 = nI c0) (cp : (h.2.1 15) a0 = p) (cc : (h.2.1 17) a0 = nI e) (he : e < 32784) (hea : ¬ e = a0) (ct : (h.2.1 14) e = nI te) (hte : te < 3) (hw : zt_nr LC LM (nI c0) ((g.2.1 74) b0)) (mp : (g.2.1 73) b0 = p) (ma : (g.2.1 75) b0 = nI k) (mk : (g.2.1 74) k = wk) (hv : f_Mo_variable g ((g.1 68 54)) wk = some (nI u)) (mf : (g.2.1 76) b0 = nI ke) (hke : ke < 33500) (mt' : (g.2.1 100) ke = nI te) (mx : (g.2.1 76) k = x') (S : ∀ xx, xx < 300000000 → (h.2.1 32) (32 + u) = nI xx → yp_s LC LM F (nb - 1) B xx h g P Q w x x' (nI a0) (nI b0)) :
    ∃ h' g', f_Jd_judgeParameter h (nI a0) = some h' ∧ f_Mo_lookAtParameter g (nI b0) = some g' ∧ (zv_Fb h g h' g' ∨ (∃ cv off xx, h' = zs_uM h 16 a0 (nI cv) ∧ g' = zs_uM g 101 b0 (nI (xx + off)) ∧ cv < 32 + F nb ∧ cv < 6000 ∧ (h.2.1 32) cv = nI off ∧ (h.2.1 32) (32 + u) = nI xx ∧ (xx + off < 600000000 ∧ zi_B F B cv ∧ (h.2.1 29) cv = 1 ∧ ((h.2.1 31) cv = 0 → nI te = 0)) ∧ f_Pl_variableOf h (nI B) (nI c0) = some (nI cv))) := by
  have hz := zF_big
  obtain ⟨I, si, hb, hsz, hs2⟩ := id C
  have J1 : (h.1 38 3) = 0 := I.2.2.2.2.2.2.2.1
  have J2 : (g.1 68 29) = 0 := I.2.2.2.2.2.2.2.2
  have V3 : F nb ≤ 5900 := I.2.1.2.1.2.2
  have B3 : nb ≤ 568 := I.2.1.1.2.2
  have QQ := I.2.2.2.1.2.1 (nb - 1) u (by omega) u1 (by rw [show nb - 1 + 1 = nb by omega]; exact u2) u2
  obtain ⟨xx, xx1, xx2, xx3⟩ : ∃ xx, (h.2.1 32) (32 + u) = nI xx ∧ (g.2.1 94) u = nI xx ∧ xx < 300000000 := by
    obtain ⟨_, x, _, _, _, ⟨x1, x2⟩, _, _, ⟨xl, _⟩, _⟩ := QQ
    exact ⟨x, x1, x2, xl⟩
  clear QQ
  have S' := S xx xx3 xx1
  have eC : f_Jd_judgeParameter h (nI a0) = (f_Pl_variableOf h (nI B) (nI c0)).bind fun v5 => (if v5 = (-1) then f_Jd_judgeParameter_56 h (nI a0) else (if zd_in v5 6000 then (if ((h.2.1 29) v5.toNatClampNeg) = 1 then ((f_Jd_isToldBefore (zs_uM h 16 a0 v5) (nI a0)).bind fun v10 => ((f_Jd_refuseIf (zs_uM h 16 a0 v5) v10 33 (nI a0)).bind fun h13 => (if zd_in (nI a0) 32784 then (if zd_in ((h13.2.1 17) (nI a0).toNatClampNeg) 32784 then (if zd_in v5 6000 then (if (f_Jd_fits ((h13.2.1 14) ((h13.2.1 17) (nI a0).toNatClampNeg).toNatClampNeg) ((h13.2.1 31) v5.toNatClampNeg)) = 0 then f_Jd_judgeParameter_124 h13 (nI a0) 1 else f_Jd_judgeParameter_124 h13 (nI a0) 0) else none) else none) else none))) else f_Jd_judgeParameter_56 h (nI a0)) else none)) := by
    unfold f_Jd_judgeParameter
    rw [inv, if_neg (zc_m1 (show 32 + u < 2147483648 by omega)), if_pos (zi_in (by omega) (by omega)), nI_clamp (show 32 + u < 2147483648 by omega), iB]
    have e1 : (nI a0).toNatClampNeg = a0 := nI_clamp (by omega)
    simp only [if_pos (zi_in (show a0 < 2147483648 by omega) ha0), e1, cv]
  have eM : f_Mo_lookAtParameter g (nI b0) = (f_Mo_pin g (nI (if B < 9 then 100000 + B else B - 9)) (nI 1) ((g.2.1 74) b0)).bind fun v9 => (if 0 ≤ v9 then f_Mo_lookAtParameter_63 g (nI b0) (nI u) v9 0 else f_Mo_lookAtParameter_63 g (nI b0) (nI u) v9 1) := by
    unfold f_Mo_lookAtParameter
    rw [if_pos (zi_in (by omega) hb0), nI_clamp (show b0 < 2147483648 by omega), ma, if_pos (zi_in (by omega) hk), nI_clamp (show k < 2147483648 by omega), mk, hv, Option.bind_some, if_neg (zv_neg (show u < 2147483648 by omega)).2, if_pos (zi_in (by omega) (by omega)), nI_clamp (show u < 2147483648 by omega), so, if_pos rfl, tB]
    rfl
  have e63 : ∀ (y v9 : Int32) (g3 : zs_H), f_Mo_rule g y 32 (nI b0) = some g3 → g3.2 = g.2 → f_Mo_lookAtParameter_63 g (nI b0) (nI u) v9 y = f_Mo_lookAtParameter_L82 zF g3 (nI b0) (nI u) v9 x' := by
    intro y v9 g3 e1 e2
    unfold f_Mo_lookAtParameter_63
    rw [e1, Option.bind_some, if_pos (zi_in (by omega) hb0), nI_clamp (show b0 < 2147483648 by omega), e2, ma, if_pos (zi_in (by omega) hk), nI_clamp (show k < 2147483648 by omega), mx]
  rcases zv_pinE (inp := 1) I si hb hc0 hw hB (by decide) with ⟨cw, pp, ty, off, ⟨⟨o1, oB⟩, o1'⟩, o2, o3, o4, o5, o6, o7, o8, o9, o10, o11⟩ | ⟨o1, o2⟩
  · have o3' : (h.2.1 29) cw = 1 := o3
    rw [o2, Option.bind_some, if_neg (zc_m1 (show cw < 2147483648 by omega)), if_pos (zi_in (by omega) o1)] at eC
    obtain ⟨h1, hh1⟩ : ∃ h1, h1 = zs_uM h 16 a0 (nI cw) := ⟨_, rfl⟩
    have f01 : zfr [] [13, 14, 16, 17] [] h h1 := by rw [hh1]; exact zfr_M (by decide) zfr_rfl
    have v0 : (h1.2.1 16) a0 = nI cw := by rw [hh1, zu_MM, if_pos ⟨rfl, rfl⟩]
    have vo : ∀ c, f_Pl_variableOf h1 (nI B) c = f_Pl_variableOf h (nI B) c := fun c => yp_vof (f01.2.1 _ (by decide)) (f01.2.1 _ (by decide)) (f01.2.1 _ (by decide)) _ _
    have S1 : yp_s LC LM F (nb - 1) B xx h1 g P Q w x x' (nI a0) (nI b0) := yp_sf (h := h) (g := g) (h' := h1) (g' := g) (fun j hj => ⟨by rw [hh1, zu_MM, if_neg (fun z => hP j hj z.2)], by rw [f01.2.1 _ (by decide)], by rw [hh1, zu_MM, if_neg (fun z => absurd z.1 (by decide))], by rw [hh1, zu_MM, if_neg (fun z => absurd z.1 (by decide))]⟩) (fun _ _ => ⟨rfl, rfl, rfl, rfl⟩) ⟨f01.2.1 _ (by decide), f01.2.1 _ (by decide), f01.2.1 _ (by decide)⟩ vo _ _ _ _ _ S'
    have J11 : (h1.1 38 3) = 0 := (f01.1 _ _ List.not_mem_nil).trans J1
    obtain ⟨tC0, tC1⟩ := yp_tC (a0 := a0) (c0 := c0) (cv0 := cw) (h := h1) (sz := sz) ((f01.1 _ _ List.not_mem_nil).trans hsz) (by omega) ha0 hP v0 hc0 o1 (by rw [vo]; exact o2) w x x' (nI b0) 0 zF S1 (by omega) (by omega)
    have fp1 : (h1.1 38 8) = x := (f01.1 _ _ List.not_mem_nil).trans fp
    obtain ⟨tM0, tM1⟩ := yp_tM (x2 := nI u) (x3 := nI pp) (b0 := b0) (c0 := c0) (LC := LC) (LM := LM) ⟨I.1.1, I.1.2.1, I.1.2.2.1, I.1.2.2.2.1⟩ J2 hb0 hQ hw w x x' (nI a0) zF S' (by omega)
    rw [o8, Option.bind_some, if_pos (zv_neg (show pp < 2147483648 by omega)).1, e63 0 (nI pp) g zv_rule0 rfl] at eM
    have eC2 : ∀ (y : Int32) (h13 : zs_H), f_Jd_isToldBefore h1 (nI a0) = some y → f_Jd_refuseIf h1 y 33 (nI a0) = some h13 → h13.2 = h1.2 → f_Jd_judgeParameter h (nI a0) = f_Jd_refuseIf h13 (if f_Jd_fits (nI te) (nI ty) = 0 then 1 else 0) 31 (nI a0) := by
      intro y h13 e1 e2 e3
      have n1 : (nI cw).toNatClampNeg = cw := nI_clamp (by omega)
      have n2 : (nI a0).toNatClampNeg = a0 := nI_clamp (by omega)
      have n3 : (nI e).toNatClampNeg = e := nI_clamp (by omega)
      have o3n : (h.2.1 29) (nI cw).toNatClampNeg = 1 := by rw [n1]; exact o3'
      rw [eC, if_pos o3n, ← hh1, e1, Option.bind_some, e2, Option.bind_some, if_pos (zi_in (by omega) ha0)]
      unfold f_Jd_judgeParameter_124
      simp only [n1, n2, n3, e3, show (h1.2.1 17) a0 = nI e by rw [hh1, zu_MM, if_neg (fun z => absurd z.1 (by decide))]; exact cc, if_pos (zi_in (show e < 2147483648 by omega) he), show (h1.2.1 14) e = nI te by rw [hh1, zu_MM, if_neg (fun z => absurd z.1 (by decide))]; exact ct, show (h1.2.1 31) cw = nI ty by rw [f01.2.1 _ (by decide)]; exact o4, Option.bind_fun_some, if_pos (zi_in (show cw < 2147483648 by omega) o1)]
      by_cases z : f_Jd_fits (nI te) (nI ty) = 0
      · rw [if_pos z, if_pos z]
      · rw [if_neg z, if_neg z]
    have tb : f_Jd_isToldBefore h1 (nI a0) = f_Jd_isToldBefore_L7 h1 zF (nI a0) x (nI 0) := by
      unfold f_Jd_isToldBefore
      rw [fp1]; rfl
    by_cases zt : yp_in c0 w
    · -- 33
      have r33 := zv_rff (φ := 33) (i := a0) (h := h1) (by decide) (by decide)
      rw [eC2 1 (zv_rf 33 a0 h1) (tb.trans (tC1 zt)) (zv_ref1 (φ := 33) (by decide) J11 ha0) rfl, zv_refF r33, eM, tM1 zt]
      exact ⟨_, _, rfl, rfl, .inl (zv_mkF (φ := 33) (by decide) (by decide) cp mp f01 zfr_rfl zfr_rfl zfr_rfl)⟩
    · obtain ⟨N2, eN⟩ := tM0 zt
      have eM2 : f_Mo_lookAtParameter g (nI b0) = (f_Mo_rule g (if f_Jd_fits (nI te) (nI ty) = 0 then 1 else 0) 31 (nI b0)).bind fun h2 => (f_Mo_pinCell h2 ((h2.2.1 93) u) 1 (nI pp)).bind fun v5 => some (zs_uM h2 101 b0 ((h2.2.1 94) u + v5)) := by
        rw [eM, eN, yp_uP]
        unfold f_Mo_lookAtParameter_82 f_Mo_lookAtParameter_170
        rw [if_pos rfl, if_pos J2]
        simp only [if_pos (zi_in (show b0 < 2147483648 by omega) hb0), nI_clamp (show b0 < 2147483648 by omega), mf, if_pos (zi_in (show ke < 2147483648 by omega) hke), if_pos (zi_in (show u < 2147483648 by omega) (show u < 8400 by omega)), nI_clamp (show u < 2147483648 by omega), tB, show f_Mo_pinType g (nI (if B < 9 then 100000 + B else B - 9)) 1 (nI pp) = some (nI ty) from o10, Option.bind_some, nI_clamp (show ke < 2147483648 by omega), mt']
        show (if f_Jd_fits (nI te) (nI ty) = 0 then _ else _) = _
        by_cases z : f_Jd_fits (nI te) (nI ty) = 0
        · rw [if_pos z, if_pos z]
        · rw [if_neg z, if_neg z]
      have fin : ∀ g3 : zs_H, g3.2 = g.2 → ((f_Mo_pinCell g3 ((g3.2.1 93) u) 1 (nI pp)).bind fun v5 => some (zs_uM g3 101 b0 ((g3.2.1 94) u + v5))) = some (zs_uM g3 101 b0 (nI (xx + off))) := by
        intro g3 e3
        have epc : f_Mo_pinCell g3 (nI (if B < 9 then 100000 + B else B - 9)) 1 (nI pp) = some (nI off) := by
          rw [← o11]
          unfold f_Mo_pinCell
          rw [e3]; rfl
        rw [e3, tB, epc, Option.bind_some, xx2, show nI xx + nI off = nI (xx + off) from (Int32.ofNat_add xx off).symm]
      rw [eC2 0 h1 (tb.trans (tC0 zt)) zv_ref0 rfl, eM2]
      by_cases z : f_Jd_fits (nI te) (nI ty) = 0
      · -- 31
        rw [if_pos z, show (31 : Int32) = nI 31 from rfl, zv_ref1 (by decide) J11 ha0, zv_rule1 (by decide) J2 hb0, Option.bind_some]
        have := fin (zv_ru 31 b0 g) rfl
        exact ⟨_, _, rfl, this, .inl (zv_mkF (φ := 31) (h2 := h1) (g2 := g) (by decide) (by decide) cp mp f01 zfr_rfl zfr_rfl (zfr_M (by decide) zfr_rfl))⟩
      · rw [if_neg z, zv_ref0, zv_rule0, Option.bind_some, fin g rfl]
        exact ⟨_, _, rfl, rfl, .inr ⟨cw, off, xx, hh1, rfl, o1', o1, o6, xx1, ⟨by omega, oB, o3', fun q => by
          rw [o4] at q
          rw [q] at z
          exact ya_fit0 te hte z⟩, o2⟩⟩
  · -- 32
    have e56 : f_Jd_judgeParameter_56 h (nI a0) = some (zv_rf 32 a0 h) := by
      unfold f_Jd_judgeParameter_56
      rw [show (32 : Int32) = nI 32 from rfl, zv_refu J1 ha0, Option.bind_some]; rfl
    have eC3 : f_Jd_judgeParameter h (nI a0) = some (zv_rf 32 a0 h) := by
      rw [eC]
      rcases o1 with o1 | ⟨cw, q1, q2, q3⟩
      · rw [o1, Option.bind_some, if_pos rfl, e56]
      · have n1 : (nI cw).toNatClampNeg = cw := nI_clamp (by omega)
        rw [q2, Option.bind_some, if_neg (zc_m1 (show cw < 2147483648 by omega)), if_pos (zi_in (by omega) q1), if_neg (show ¬ (h.2.1 29) (nI cw).toNatClampNeg = 1 by rw [n1]; exact q3), e56]
    have S32 : yp_s LC LM F (nb - 1) B xx h (zv_ru 32 b0 g) P Q w x x' (nI a0) (nI b0) := yp_sf (h := h) (g := g) (h' := h) (g' := zv_ru 32 b0 g) (fun _ _ => ⟨rfl, rfl, rfl, rfl⟩) (fun _ _ => ⟨rfl, rfl, rfl, rfl⟩) ⟨rfl, rfl, rfl⟩ (fun _ => rfl) _ _ _ _ _ S'
    rw [eC3, eM, o2, Option.bind_some, if_neg (by decide), e63 1 (-1) (zv_ru 32 b0 g) (zv_rule1 (φ := 32) (by decide) J2 hb0) rfl, yp_tMF (zv_ruf (by decide) (by decide)) hb0 hQ w x x' (nI a0) zF S32 (by omega)]
    exact ⟨_, _, rfl, rfl, .inl (zv_mkF (φ := 32) (by decide) (by decide) cp mp zfr_rfl zfr_rfl zfr_rfl zfr_rfl)⟩
