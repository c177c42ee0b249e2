/-! The judge: a coil is visited (39, 41, 29, 30). -/
theorem yr_VN28 {kv : Int32 × Int32} {l le : zt_T} {kve : Int32 × Int32} {oe : Unit} (hl : l = .inner 6 kve oe le .leaf) (VN : yb_VN 6 kve le) (hz : yc_o l = 0) : yr_VN 28 kv l := by
  intro LC LM nb nf sz F h g i k up d D D' oc P Q y C nd hup LL sib RW hPs ow hd hD hD'
  obtain ⟨D, rfl⟩ : ∃ z, D = z + 1 := ⟨D - 1, by omega⟩
  obtain ⟨D', rfl⟩ : ∃ z, D' = z + 2 := ⟨D' - 2, by omega⟩
  obtain ⟨⟨hi, hk, hPi, hQk, hP, hQ⟩, ⟨c0, c1, c2, c3, c4⟩, cC, ⟨m0, m1, m2, m3⟩, cM⟩ := id nd
  have hs0 : 0 < sz := by
    have : zt_ln l ≤ sz := yb_ln nd hPs
    have h1 : zt_ln l = 1 := by rw [hl]; rfl
    omega
  rcases ye_one (D := D) (D' := D') C nd (.inr rfl) hl VN hPs hs0 hd (by omega) (by omega) with ⟨h', g', e1, e2, e3, e4, e5⟩ | ⟨h2, g2, e1, e2, O, A, n1, n2⟩
  · exact ⟨h', g', e1, e2, .inl ⟨e3, e4, e5⟩⟩
  · have A' := A
    rw [hl] at A'
    obtain ⟨a, ka, xl, ⟨a1, a2, a3⟩, ⟨b1, b2, b3, _⟩, N, _, _⟩ := A'
    obtain ⟨t, u, x, t1, t2, t3, V, hv⟩ := yc_tgt N (.inl rfl)
    obtain ⟨i1, i2, i3, i4⟩ := O.2.2.1 i hPi
    have ge : ∀ z, ¬ z ∈ yc_g → g2.2.1 z = g.2.1 z := fun z hz => O.2.1.2.1 z hz
    have C2 := yb_cxf C O.1 O.2.1
    have hb := C.2.2.1
    have cM' := cM
    rw [hl] at cM'
    obtain ⟨b', Q1, Q2, z3, q1, q2, q3, q4, q5, q6, _⟩ := zv_hM cM'
    have ekb : b' = ka := by rw [b3] at q1; exact ((nI_eq (by omega) (by omega)).mp q1).symm
    subst ekb
    rw [if_pos (by decide)] at q6
    obtain ⟨cn, hcn, ecn, hw⟩ := yb_nr C q6
    rw [ecn] at V
    obtain ⟨w1, w2, w3⟩ := yc_var C2.1 hb hcn hw V
    have V3 : F nb ≤ 5900 := C.1.2.1.2.1.2.2
    have B3 : nb ≤ 568 := C.1.2.1.1.2.2
    have HJ := C2.1.2.2.2.2.2.2.1 hb
    have abv : (g2.2.1 75) k = nI up := by rw [ge _ (by decide)]; exact m3
    have L2 := yc_Lf LL (by omega) (yc_outb O)
    obtain ⟨m, L, l1, l2, l3, l4, l5⟩ := id L2
    have pc : (h2.2.1 15) i = kv.1 := by rw [O.1.2.1 _ (by decide)]; exact c1
    have pm : (g2.2.1 73) k = kv.1 := by rw [ge _ (by decide)]; exact m1 (by decide)
    have nx : (h2.2.1 18) i = (h.2.1 18) i := by rw [O.1.2.1 _ (by decide)]
    have bs : (g2.2.1 78) k = (g.2.1 78) k := by rw [ge _ (by decide)]
    have fst : (g2.2.1 76) k = nI b' := by rw [ge _ (by decide)]; exact b3
    have vb : (g2.2.1 74) b' = (g.2.1 74) b' := by rw [ge _ (by decide)]
    -- the class
    have e53 : ∀ (h3 : zs_H) (y : Int32) (h4 : zs_H), h3.2 = h2.2 → f_Jd_refuseIf h3 y 41 (nI i) = some h4 → h4.2 = h2.2 → f_Jd_judgeCoil_53 h3 (nI i) (nI a) y = f_Jd_judgeAssigned h4 (nI (32 + u)) (nI i) := by
      intro h3 y h4 q1 q2 q3
      unfold f_Jd_judgeCoil_53
      rw [q2, Option.bind_some, if_pos (zi_in (by omega) a2), nI_clamp (show a < 2147483648 by omega), q3, hv, Option.bind_fun_some]
    have e29 : ∀ (y : Int32) (h3 : zs_H), f_Jd_refuseIf h2 y 39 (nI i) = some h3 → h3.2 = h2.2 → f_Jd_judgeCoil_29 h2 (nI i) (nI a) y = if t = 0 then f_Jd_judgeCoil_53 h3 (nI i) (nI a) 0 else f_Jd_judgeCoil_53 h3 (nI i) (nI a) 1 := by
      intro y h3 q1 q2
      unfold f_Jd_judgeCoil_29
      rw [q1, Option.bind_some, if_pos (zi_in (by omega) a2), q2]
      simp only [nI_clamp (show a < 2147483648 by omega), t2, zv_t0 t1]
    have eC : f_Jd_leave h2 (nI i) = if (h.2.1 18) i = -1 then f_Jd_judgeCoil_29 h2 (nI i) (nI a) 0 else f_Jd_judgeCoil_29 h2 (nI i) (nI a) 1 := by
      rw [zv_lv28 hi (i1.trans c0)]
      unfold f_Jd_judgeCoil
      simp only [if_pos (zi_in (show i < 2147483648 by omega) hi), nI_clamp (show i < 2147483648 by omega), nx, show (h2.2.1 17) i = nI a from i4.trans a3]
    -- the model
    have m215 : ∀ (g3 : zs_H) (y : Int32) (g4 : zs_H), f_Mo_rule g3 y 41 (nI k) = some g4 → g4.2 = g2.2 → f_Mo_lookAtRungs_215 g3 (nI k) y = f_Mo_lookAtAssigned g4 ((g.2.1 74) b') (nI k) := by
      intro g3 y g4 q1 q2
      unfold f_Mo_lookAtRungs_215
      rw [q1, Option.bind_some, if_pos (zi_in (by omega) hk), nI_clamp (show k < 2147483648 by omega), q2, fst, if_pos (zi_in (by omega) b2), nI_clamp (show b' < 2147483648 by omega), vb, Option.bind_fun_some]
    have m189 : ∀ (y : Int32) (g3 : zs_H), f_Mo_rule g2 y 39 (nI k) = some g3 → g3.2 = g2.2 → f_Mo_lookAtRungs_189 g2 (nI k) y = if t = 0 then f_Mo_lookAtRungs_215 g3 (nI k) 0 else f_Mo_lookAtRungs_215 g3 (nI k) 1 := by
      intro y g3 q1 q2
      unfold f_Mo_lookAtRungs_189
      rw [q1, Option.bind_some, if_pos (zi_in (by omega) hk), nI_clamp (show k < 2147483648 by omega), q2, fst, if_pos (zi_in (by omega) b2)]
      simp only [nI_clamp (show b' < 2147483648 by omega), t3, zv_t0 t1]
    have eM : f_Mo_lookAtRungs g2 (nI k) = if (h.2.1 18) i = -1 then f_Mo_lookAtRungs_189 g2 (nI k) 0 else f_Mo_lookAtRungs_189 g2 (nI k) 1 := by
      unfold f_Mo_lookAtRungs
      simp (config := { decide := true }) only [if_pos (zi_in (show k < 2147483648 by omega) hk), nI_clamp (show k < 2147483648 by omega), show (g2.2.1 72) k = 28 by rw [ge _ (by decide)]; exact m0, if_false, if_true, bs]
      by_cases z : (h.2.1 18) i = -1
      · rw [if_pos z, if_pos (sib.mp z)]
      · rw [if_neg z, if_neg (fun q => z (sib.mpr q))]
    -- behind a fault
    have asC : ∀ φ, 0 < φ → φ < 1000 → f_Jd_judgeAssigned (zv_rf φ i h2) (nI (32 + u)) (nI i) = some (zv_rf φ i h2) := fun φ a1 a2 => yc_asgFC (nb := nb) (n := L.length) (zv_rff a1 a2) (by omega) HJ.1 B3 l3 (by omega)
    have asM : ∀ φ, 0 < φ → φ < 1000 → f_Mo_lookAtAssigned (zv_ru φ k g2) ((g.2.1 74) b') (nI k) = some (zv_ru φ k g2) := fun φ a1 a2 => yc_asgFM (m := m) (p := up) (L := L) (zv_ruf a1 a2) (.inr ⟨u, by omega, rfl⟩) (by rw [yc_hereF C2.1 hb hcn hw]; exact w1) (yc_Af l2 rfl rfl rfl) (by omega) hk abv
    have bad : ∀ φ, 0 < φ → φ < 1000 → f_Jd_leave h2 (nI i) = some (zv_rf φ i h2) → f_Mo_lookAtRungs g2 (nI k) = some (zv_ru φ k g2) → ∃ h' g', f_Jd_visit (D + 1) h (nI i) (nI d) = some h' ∧ f_Mo_look (D' + 2) g (nI k) = some g' ∧ (zv_Fb h g h' g' ∧ ¬ (h'.1 38 3) = 0 ∧ ¬ (g'.1 68 29) = 0) := by
      intro φ a1 a2 a3 a4
      obtain ⟨f1, f2, f3⟩ := yc_mkF (φ := φ) (h := h2) (g := g2) (i := i) (k := k) (p := kv.1) a1 a2 pc pm
      exact ⟨_, _, by rw [e1, a3], by rw [e2, a4], yc_Fb1 (yc_outb O) f1, f2, f3⟩
    by_cases z : (h.2.1 18) i = -1
    · rw [if_pos z, e29 0 h2 zv_ref0 rfl] at eC
      rw [if_pos z, m189 0 g2 zv_rule0 rfl] at eM
      by_cases zt : t = 0
      · rw [if_pos zt, e53 h2 0 h2 rfl zv_ref0 rfl] at eC
        rw [if_pos zt, m215 g2 0 g2 zv_rule0 rfl] at eM
        obtain ⟨h3, g3, x1, x2, x3⟩ := yc_asg (i := i) (k := k) C2.1 hb hi hk hcn hw w2 w3 w1 abv L2 (by omega)
        rcases x3 with ⟨y1, y2⟩ | ⟨φ, y0, y1, y2⟩
        · subst y1; subst y2
          refine ⟨h3, g3, by rw [e1, eC, x1], by rw [e2, eM, x2], .inr ⟨yc_pl C nd (by decide) (yb_sy0 (by decide) (by decide)) yc_out0 (yc_outb O) A, n1, n2, ?_, O.1.1 _ _ List.not_mem_nil, fun _ => z⟩⟩
          rw [O.1.1 _ _ List.not_mem_nil, ow]
          exact congrArg nI (show oc = oc + (0 + yc_o l + 0) by omega)
        · have hφ : 0 < φ ∧ φ < 1000 := by rcases y0 with e | e <;> omega
          obtain ⟨h', g', r1, r2, r3⟩ := bad φ hφ.1 hφ.2 (by rw [eC, x1, y1]) (by rw [eM, x2, y2])
          exact ⟨h', g', r1, r2, .inl r3⟩
      · rw [if_neg zt, e53 h2 1 (zv_rf 41 i h2) rfl (zv_ref1 (φ := 41) (by decide) n1 hi) rfl, asC 41 (by decide) (by decide)] at eC
        rw [if_neg zt, m215 g2 1 (zv_ru 41 k g2) (zv_rule1 (φ := 41) (by decide) n2 hk) rfl, asM 41 (by decide) (by decide)] at eM
        obtain ⟨h', g', r1, r2, r3⟩ := bad 41 (by decide) (by decide) eC eM
        exact ⟨h', g', r1, r2, .inl r3⟩
    · have r39 := zv_rff (φ := 39) (i := i) (h := h2) (by decide) (by decide)
      have s39 := zv_ruf (φ := 39) (k := k) (g := g2) (by decide) (by decide)
      rw [if_neg z, e29 1 (zv_rf 39 i h2) (zv_ref1 (φ := 39) (by decide) n1 hi) rfl, e53 (zv_rf 39 i h2) 0 (zv_rf 39 i h2) rfl zv_ref0 rfl, e53 (zv_rf 39 i h2) 1 (zv_rf 39 i h2) rfl (zv_refF r39) rfl, ite_self, asC 39 (by decide) (by decide)] at eC
      rw [if_neg z, m189 1 (zv_ru 39 k g2) (zv_rule1 (φ := 39) (by decide) n2 hk) rfl, m215 (zv_ru 39 k g2) 0 (zv_ru 39 k g2) zv_rule0 rfl, m215 (zv_ru 39 k g2) 1 (zv_ru 39 k g2) (zv_ruleF s39) rfl, ite_self, asM 39 (by decide) (by decide)] at eM
      obtain ⟨h', g', r1, r2, r3⟩ := bad 39 (by decide) (by decide) eC eM
      exact ⟨h', g', r1, r2, .inl r3⟩
/-- a row -/
theorem ys_VN24 {kv : Int32 × Int32} {l : zt_T} (Ph : yr_Ph l) : ys_VN 24 kv l := by
  intro LC LM nb nf sz F h g i k up d D D' oc P Q y C nd hup LL sib hPs ow hd hD hD'
  obtain ⟨D, rfl⟩ : ∃ z, D = z + 1 := ⟨D - 1, by omega⟩
  obtain ⟨D', rfl⟩ : ∃ z, D' = z + 2 := ⟨D' - 2, by omega⟩
  obtain ⟨⟨hi, hk, hPi, hQk, hP, hQ⟩, ⟨c0, c1, c2, c3, c4⟩, cC, ⟨m0, m1, m2, m3⟩, cM⟩ := id nd
  have hen : f_Jd_enter h (nI i) = some (zs_uF h 38 9 (nI i)) := by
    unfold f_Jd_enter
    simp (config := { decide := true }) only [if_pos (zi_in (show i < 2147483648 by omega) hi), nI_clamp (show i < 2147483648 by omega), show (h.2.1 13) i = 24 from c0, if_false, if_true]
  have O0 : yc_out (fun _ => False) (fun _ => False) h g (zs_uF h 38 9 (nI i)) g := ⟨zfr_F (by decide) zfr_rfl, zfr_rfl, fun _ _ => ⟨rfl, rfl, rfl, rfl⟩, fun _ _ => ⟨rfl, rfl, rfl⟩, rfl, fun _ _ _ _ _ => rfl⟩
  have C1 := yc_cxf C O0.1 O0.2.1
  have nd1 : yb_nd LC LM (zs_uF h 38 9 (nI i)) g 24 kv l i k up P Q y := ⟨nd.1, nd.2.1, yc_keepC O0 (fun _ _ z => z) cC, nd.2.2.2.1, nd.2.2.2.2⟩
  rcases yr_kids (D := D) (D' := D') hen C1 nd1 ⟨rfl, by decide, by decide, by decide, by decide, by decide⟩ (yc_Ldn (yc_Lf LL (by omega) O0) hk m3 (by rw [m0]; decide)) ⟨i, hi, rfl, sib⟩ Ph hPs ow hd (by omega) (by omega) with ⟨h', g', e1, e2, e3, e4, e5⟩ | ⟨h2, g2, e1, e2, O, A, n1, n2, ow', _, cl⟩
  · exact ⟨h', g', e1, e2, .inl ⟨yc_Fb0 O0 e3, e4, e5⟩⟩
  · obtain ⟨i1, i2, i3, i4⟩ := O.2.2.1 i hPi
    have el : f_Jd_leave h2 (nI i) = some h2 := zv_lv24 hi (i1.trans c0)
    have em : f_Mo_lookAlone_54 g2 (nI k) (nI 24) = some g2 := by
      rw [zv_54R (by decide) (by decide) n2]
      unfold f_Mo_lookAtRungs
      simp (config := { decide := true }) only [if_pos (zi_in (show k < 2147483648 by omega) hk), nI_clamp (show k < 2147483648 by omega), show (g2.2.1 72) k = 24 by rw [O.2.1.2.1 _ (by decide)]; exact m0, if_false]
    have eo : yc_o (.inner 24 kv () l .leaf) = yc_o l := by
      show 0 + yc_o l + 0 = _; omega
    exact ⟨h2, g2, by rw [e1, el], by rw [e2, em], .inr ⟨yc_pl C1 nd1 (by decide) (yb_sy0 (by decide) (by decide)) O0 O A, n1, n2, by rw [ow', eo], cl⟩⟩
