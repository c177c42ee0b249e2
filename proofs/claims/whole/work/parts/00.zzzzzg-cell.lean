/-! The judge: a rung's cells are visited (39, 40, 41, 29, 30). -/
section YEG
variable {LC LM : List (List Int32)} {nb nf sz : Nat} {F : Nat → Nat} {h g : zs_H} {P Q : Nat → Prop}
/-- a node with one expression below it -/
theorem ye_one {a b k d D D' kd ce : Nat} {kvp kve : Int32 × Int32} {oe : Unit} {lp le : zt_T} {z1 : Int32} (C : yb_cx LC LM nb nf sz F h g) (nd : yb_nd LC LM h g kd kvp lp a b k P Q z1) (hkd : kd = 25 ∨ kd = 28) (hl : lp = .inner ce kve oe le .leaf) (VN : yb_VN ce kve le) (hPs : ∀ j, P j → j < sz) (has : 0 < sz) (hd : d + zg_d lp ≤ 239) (hD : zg_d lp ≤ D) (hD' : 2 * zg_d lp < D') :
    (∃ h' g', f_Jd_visit (D + 1) h (nI a) (nI d) = some h' ∧ f_Mo_look (D' + 2) g (nI b) = some g' ∧ zv_Fb h g h' g' ∧ ¬ (h'.1 38 3) = 0 ∧ ¬ (g'.1 68 29) = 0) ∨
    (∃ h2 g2, f_Jd_visit (D + 1) h (nI a) (nI d) = f_Jd_leave h2 (nI a) ∧ f_Mo_look (D' + 2) g (nI b) = f_Mo_lookAtRungs g2 (nI b) ∧ yb_out P Q h g h2 g2 ∧ yb_F F (nb - 1) h2 g2 P Q lp ((h.2.1 17) a) ((g.2.1 76) b) (-1) (-1) ∧ (h2.1 38 3) = 0 ∧ (g2.1 68 29) = 0) := by
  obtain ⟨⟨hi, hb, hPi, hQk, hP, hQ⟩, ⟨c1, c2, c3, c4, c5⟩, cC, ⟨m0, m1, m2, m3⟩, cM⟩ := id nd
  subst hl
  have ekm : zt_km kd = kd := by rcases hkd with e | e <;> rw [e] <;> rfl
  rw [ekm] at m0
  have hke' : ¬ kd ∈ [1, 2, 3, 4, 5, 13, 16, 19, 22, 24] := by rcases hkd with e | e <;> rw [e] <;> decide
  have hdl : max (zg_d le + 1) 0 ≤ zg_d (.inner ce kve oe le .leaf) := zg_d1 (r := .leaf)
  have J1 : (h.1 38 3) = 0 := C.1.2.2.2.2.2.2.2.1
  have J2 : (g.1 68 29) = 0 := C.1.2.2.2.2.2.2.2.2
  have hsz := C.2.2.2.1
  have hs2 := C.2.2.2.2
  obtain ⟨e, P3, P4, y1, y2, ee, e1, e2, e3, e4, e5, e6, e7, e8, e9, e10⟩ := zv_hC cC
  obtain ⟨ke, Q3, Q4, y3, ek, k1, k2, k3, k4, k5, k6, k7, k8, k9, k10, k11⟩ := zv_hM cM
  have he := hP e e2
  have hke := hQ ke k2
  have e9' : (h.2.1 18) e = -1 := (show (h.2.1 18) e = -1 ∧ y2 = -1 from e9).1
  have k10' : (g.2.1 78) ke = -1 := (show (g.2.1 78) ke = -1 ∧ y3 = -1 from k10).1
  have nde : yb_nd LC LM h g ce kve le e ke b P3 Q3 y1 := ⟨⟨he, hke, fun z => (e6 e z).2.1 rfl, fun z => (k7 ke z).2.1 rfl, fun j hj => hP j (e6 j hj).1, fun j hj => hQ j (k7 j hj).1⟩, ⟨e3, e4, e5, c5 e e2, fun j hj => c5 j (e6 j hj).1⟩, e8, ⟨k3, k4, k5, k6⟩, k9⟩
  obtain ⟨D', rfl⟩ : ∃ z, D' = z + 1 := ⟨D' - 1, by omega⟩
  obtain ⟨h2, g2, v1, v2, v3⟩ := VN LC LM nb nf sz F h g e ke b kd (d + 1) D D' P3 Q3 y1 C nde hb m0 (by omega) (by omega) (by omega) (fun j hj => hPs j (e6 j hj).1) (by omega) (by omega) (by omega)
  have v2' := yb_lk1 hke (fun z => (k7 ke z).2.1 rfl) (by omega) v2
  have hzz : zF = 18446744073709551614 + 1 + 1 := rfl
  have eC := zv_vC (D := D) (d := d) (h := h) (i := a) (by omega) hi (zv_ent0 (kd := kd) hi (by omega) c1 hke')
  rw [ee, hzz, zv_stC (sz := sz) has (by omega) he J1 hsz v1] at eC
  have eM := (zv_lM (D' := D' + 1) (g := g) (k := b) (kd := kd) hb (by omega) (by omega) m0).trans (zv_aM (D' := D' + 1) (g := g) (k := b) (kd := kd) hb (by omega) (by omega) m0)
  rw [ek, hzz, zv_stM hke J2 v2'] at eM
  rcases v3 with ⟨Fb, n1, n2⟩ | ⟨⟨O2, A⟩, n1, n2⟩
  · rw [yb_fC n1] at eC
    rw [yp_fM n2] at eM
    exact .inl ⟨h2, g2, eC, eM, Fb, n1, n2⟩
  · have O2' : yb_out P Q h g h2 g2 := yb_outm O2 (fun j z => z.elim (fun z => (e6 j z).1) (fun z => by rw [z]; exact e2)) (fun j z => z.elim (fun z => (k7 j z).1) (fun z => by rw [z]; exact k2))
    have nx : (h2.2.1 18) e = -1 := by rw [O2.1.2.1 _ (by decide)]; exact e9'
    have bs : (g2.2.1 78) ke = -1 := by rw [O2.2.1.2.1 _ (by decide)]; exact k10'
    rw [nx] at eC A
    rw [bs] at eM A
    refine .inr ⟨h2, g2, ?_, ?_, O2', ?_, n1, n2⟩
    · rw [eC, zv_enC]
      unfold f_Jd_visit_74
      rw [if_pos n1, Option.bind_fun_some]
    · rw [eM, zv_enM, zv_54R (by omega) (by omega) n2]
    · rw [ee, ek]
      exact yb_Fm (fun j z => z.elim (fun z => (e6 j z).1) (fun z => by rw [z]; exact e2)) (fun j z => z.elim (fun z => (k7 j z).1) (fun z => by rw [z]; exact k2)) _ _ _ _ _ A
end YEG
/-- wires, gaps, links -/
theorem yr_VN26 {kd : Nat} {kv : Int32 × Int32} (hkd : kd = 26 ∨ kd = 27 ∨ kd = 29) : yr_VN kd kv .leaf := by
  intro LC LM nb nf sz F h g i k up d D D' oc P Q y C nd hup LL sib RW hPs ow hd hD hD'
  have hd0 : zg_d .leaf = 0 := rfl
  obtain ⟨D, rfl⟩ : ∃ z, D = z + 1 := ⟨D - 1, by omega⟩
  obtain ⟨D', rfl⟩ : ∃ z, D' = z + 2 := ⟨D' - 2, by omega⟩
  obtain ⟨⟨hi, hk, hPi, hQk, hP, hQ⟩, ⟨c0, c1, c2, c3, c4⟩, cC, ⟨m0, m1, m2, m3⟩, cM⟩ := id nd
  have ekm : zt_km kd = kd := by rcases hkd with e | e | e <;> rw [e] <;> rfl
  rw [ekm] at m0
  have hke : ¬ kd ∈ [1, 2, 3, 4, 5, 13, 16, 19, 22, 24] := by rcases hkd with e | e | e <;> rw [e] <;> decide
  have J1 : (h.1 38 3) = 0 := C.1.2.2.2.2.2.2.2.1
  have J2 : (g.1 68 29) = 0 := C.1.2.2.2.2.2.2.2.2
  have x1 : (h.2.1 17) i = -1 := (show (h.2.1 17) i = -1 ∧ y = -1 from cC).1
  have x2 : (g.2.1 76) k = -1 := (show (g.2.1 76) k = -1 ∧ (g.2.1 77) k = -1 from cM).1
  obtain ⟨eC, eM⟩ := zv_leaf (D := D) (D' := D') (d := d) (kd := kd) (km := kd) (by omega) hi hk (by omega) (by omega) (by omega) hke c0 x1 (by omega) (by omega) (by omega) m0 x2 J1
  rw [zv_54R (by omega) (by omega) J2] at eM
  have A : yb_F F (nb - 1) h g P Q .leaf ((h.2.1 17) i) ((g.2.1 76) k) (-1) (-1) := ⟨x1, x2⟩
  have hpl : kd ∈ yb_pl := by rcases hkd with e | e | e <;> rw [e] <;> decide
  have eo : yc_o (.inner kd kv () .leaf .leaf) = 0 := by
    show (if kd = 16 ∨ kd = 19 then 1 else if kd = 22 then 156 else if kd = 25 ∧ 2 ≤ kv.2 then 1 else 0) + 0 + 0 = 0
    rw [if_neg (by omega), if_neg (by omega), if_neg (by omega)]
  have okk : yc_ok F (nb - 1) kd kv .leaf i k P Q h g h g := yc_pl C nd hpl (yb_sy0 (by omega) (by omega)) yc_out0 yc_out0 A
  by_cases e29 : kd = 29
  · subst e29
    obtain ⟨ri, r1, r2, r3⟩ := RW
    have lC : f_Jd_leave h (nI i) = f_Jd_refuseIf h (if (h.2.1 18) ri = -1 then 1 else 0) 40 (nI i) := by
      unfold f_Jd_leave f_Jd_leave_401
      simp (config := { decide := true }) only [if_pos (zi_in (show i < 2147483648 by omega) hi), nI_clamp (show i < 2147483648 by omega), show (h.2.1 13) i = 29 from c0, if_false, if_true, r2, if_pos (zi_in (show ri < 2147483648 by omega) r1), nI_clamp (show ri < 2147483648 by omega), Option.bind_fun_some]
      by_cases z : (h.2.1 18) ri = -1
      · rw [if_pos z, if_pos z]
      · rw [if_neg z, if_neg z]
    have lM : f_Mo_lookAtRungs g (nI k) = f_Mo_rule g (if (h.2.1 18) ri = -1 then 1 else 0) 40 (nI k) := by
      unfold f_Mo_lookAtRungs f_Mo_lookAtRungs_260
      simp (config := { decide := true }) only [if_pos (zi_in (show k < 2147483648 by omega) hk), nI_clamp (show k < 2147483648 by omega), show (g.2.1 72) k = 29 from m0, if_false, if_true, m3, if_pos (zi_in (show up < 2147483648 by omega) hup), nI_clamp (show up < 2147483648 by omega), Option.bind_fun_some]
      by_cases z : (h.2.1 18) ri = -1
      · rw [if_pos z, if_neg (fun q => absurd (r3.mp z) (Int32.not_lt.mpr q))]
      · rw [if_neg z, if_pos (Int32.not_lt.mp (fun q => z (r3.mpr q)))]
    obtain ⟨h', g', v1, v2, v3⟩ := zv_both (φ := 40) (C := (h.2.1 18) ri = -1) J1 J2 hi hk
    refine ⟨h', g', by rw [eC, lC]; exact v1, by rw [eM, lM]; exact v2, ?_⟩
    rcases v3 with ⟨_, y1, y2⟩ | ⟨_, y1, y2⟩
    · rw [y1, y2]
      exact .inr ⟨okk, J1, J2, by rw [ow, eo]; rfl, rfl, fun z => absurd z (by omega)⟩
    · rw [y1, y2]
      exact .inl (yc_mkF (φ := 40) (p := kv.1) (by decide) (by decide) c1 (m1 (by decide)))
  · have lC : f_Jd_leave h (nI i) = some h := by
      rcases hkd with e | e | e
      · subst e; exact zv_lv26 hi c0
      · subst e; exact zv_lv27 hi c0
      · exact absurd e e29
    have lM : f_Mo_lookAtRungs g (nI k) = some g := by
      unfold f_Mo_lookAtRungs
      rcases hkd with e | e | e
      · subst e; simp (config := { decide := true }) only [if_pos (zi_in (show k < 2147483648 by omega) hk), nI_clamp (show k < 2147483648 by omega), show (g.2.1 72) k = 26 from m0, if_false]
      · subst e; simp (config := { decide := true }) only [if_pos (zi_in (show k < 2147483648 by omega) hk), nI_clamp (show k < 2147483648 by omega), show (g.2.1 72) k = 27 from m0, if_false]
      · exact absurd e e29
    exact ⟨h, g, by rw [eC, lC], by rw [eM, lM], .inr ⟨okk, J1, J2, by rw [ow, eo]; rfl, rfl, fun z => absurd z (by omega)⟩⟩
/-- a contact -/
theorem yr_VN25 {kv : Int32 × Int32} {l le : zt_T} {ce : Nat} {kve : Int32 × Int32} {oe : Unit} (hv : zg_v 25 kv.2) (hl : l = .inner ce kve oe le .leaf) (hE : ce ∈ yb_E) (VN : yb_VN ce kve le) (hz : yc_o l = 0) : yr_VN 25 kv l := by
  intro LC LM nb nf sz F h g i k up d D D' oc P Q y C nd hup LL sib RW hPs ow hd hD hD'
  obtain ⟨D, rfl⟩ : ∃ z, D = z + 1 := ⟨D - 1, by omega⟩
  obtain ⟨D', rfl⟩ : ∃ z, D' = z + 2 := ⟨D' - 2, by omega⟩
  obtain ⟨⟨hi, hk, hPi, hQk, hP, hQ⟩, ⟨c0, c1, c2, c3, c4⟩, cC, ⟨m0, m1, m2, m3⟩, cM⟩ := id nd
  obtain ⟨s, hs, es⟩ : ∃ s, s < 4 ∧ kv.2 = nI s := by
    rcases hv with z | ⟨x, x1, x2, _⟩
    · exact absurd z (by decide)
    · exact ⟨x, x1, x2⟩
  have hs0 : 0 < sz := by
    have : zt_ln l ≤ sz := yb_ln nd hPs
    have h1 : zt_ln l = 1 := by rw [hl]; rfl
    omega
  rcases ye_one (D := D) (D' := D') C nd (.inl rfl) hl VN hPs hs0 hd (by omega) (by omega) with ⟨h', g', e1, e2, e3, e4, e5⟩ | ⟨h2, g2, e1, e2, O, A, n1, n2⟩
  · exact ⟨h', g', e1, e2, .inl ⟨e3, e4, e5⟩⟩
  · have A' := A
    rw [hl] at A'
    obtain ⟨a, ka, t, a1, a2, a3, b1, b2, b3, t1, t2, t3, _⟩ := yb_first hE A'
    obtain ⟨i1, i2, i3, i4⟩ := O.2.2.1 i hPi
    have ge : ∀ z, ¬ z ∈ yc_g → g2.2.1 z = g.2.1 z := fun z hz => O.2.1.2.1 z hz
    have lC : f_Jd_leave h2 (nI i) = (f_Jd_refuseIf h2 (if ¬ t = 0 then 1 else 0) 41 (nI i)).bind fun h3 => some (zs_uF h3 38 10 ((h3.1 38 10) + (if s < 2 then 0 else 1))) := by
      rw [zv_lv25 hi (i1.trans c0)]
      have e26 : ∀ y, f_Jd_judgeContact_26 h2 (nI i) y = (f_Jd_refuseIf h2 y 41 (nI i)).bind fun h3 => some (zs_uF h3 38 10 ((h3.1 38 10) + (if s < 2 then 0 else 1))) := by
        intro y
        unfold f_Jd_judgeContact_26 f_Jd_judgeContact_55
        have key : ∀ h3 : zs_H, f_Jd_refuseIf h2 y 41 (nI i) = some h3 → (h3.2.1 16) i = nI s := by
          intro h3 e
          by_cases zy : y = 0
          · rw [zy, zv_ref0] at e; rw [← Option.some.inj e]; exact i3.trans (c2.trans es)
          · rw [show (41 : Int32) = nI 41 from rfl, zv_ref1 zy n1 hi] at e; rw [← Option.some.inj e]; exact i3.trans (c2.trans es)
        cases e : f_Jd_refuseIf h2 y 41 (nI i) with
        | none => rfl
        | some h3 =>
          have kv3 := key h3 e
          rw [Option.bind_some, Option.bind_some]
          simp only [if_pos (zi_in (show i < 2147483648 by omega) hi), nI_clamp (show i < 2147483648 by omega), kv3, show (nI s < 2) ↔ s < 2 from zc_tl (k := 2) (by decide) (by omega)]
          by_cases z : s < 2
          · rw [if_pos z, if_pos z]
          · rw [if_neg z, if_neg z]
      unfold f_Jd_judgeContact
      simp only [if_pos (zi_in (show i < 2147483648 by omega) hi), nI_clamp (show i < 2147483648 by omega), show (h2.2.1 17) i = nI a from i4.trans a3, if_pos (zi_in (show a < 2147483648 by omega) a2), nI_clamp (show a < 2147483648 by omega), t2, zv_t0 t1, e26]
      by_cases z : t = 0
      · rw [if_pos z, if_neg (show ¬ ¬ t = 0 from fun q => q z)]
      · rw [if_neg z, if_pos z]
    have lM : f_Mo_lookAtRungs g2 (nI k) = f_Mo_rule g2 (if ¬ t = 0 then 1 else 0) 41 (nI k) := by
      unfold f_Mo_lookAtRungs f_Mo_lookAtRungs_165
      simp (config := { decide := true }) only [if_pos (zi_in (show k < 2147483648 by omega) hk), nI_clamp (show k < 2147483648 by omega), show (g2.2.1 72) k = 25 by rw [ge _ (by decide)]; exact m0, if_false, if_true, show (g2.2.1 76) k = nI ka by rw [ge _ (by decide)]; exact b3, if_pos (zi_in (show ka < 2147483648 by omega) b2), nI_clamp (show ka < 2147483648 by omega), t3, zv_t0 t1, Option.bind_fun_some]
      by_cases z : t = 0
      · rw [if_pos z, if_neg (show ¬ ¬ t = 0 from fun q => q z)]
      · rw [if_neg z, if_pos z]
    obtain ⟨h', g', v1, v2, v3⟩ := zv_both (φ := 41) (C := ¬ t = 0) n1 n2 hi hk
    have pc : (h2.2.1 15) i = kv.1 := by rw [O.1.2.1 _ (by decide)]; exact c1
    have pm : (g2.2.1 73) k = kv.1 := by rw [ge _ (by decide)]; exact m1 (by decide)
    rw [show (41 : Int32) = nI 41 from rfl, v1, Option.bind_some] at lC
    rw [show (41 : Int32) = nI 41 from rfl, v2] at lM
    refine ⟨_, _, by rw [e1, lC], by rw [e2, lM], ?_⟩
    rcases v3 with ⟨nt, y1, y2⟩ | ⟨_, y1, y2⟩
    · subst y1; subst y2
      right
      have W : yc_out (fun j => j = i) (fun j => j = k) h' g' (zs_uF h' 38 10 ((h'.1 38 10) + (if s < 2 then 0 else 1))) g' := yc_outm yc_own (fun _ z => z.elim) (fun _ z => z.elim)
      have ow2 : (h'.1 38 10) = nI oc := (O.1.1 _ _ List.not_mem_nil).trans ow
      refine ⟨yc_fin C nd yc_out0 (yc_outb O) A W (.inl (.inr (.inl ⟨by decide, i1.trans c0, i4, i3.trans c2, fun z => absurd z (by decide), fun _ => ⟨a, a3, a1, by
        show (h'.2.1 14) a = 0
        rw [t2, Decidable.not_not.mp nt]; rfl⟩⟩))), n1, n2, ?_, (show (h'.1 38 9) = _ from O.1.1 _ _ List.not_mem_nil), fun z => absurd z (by decide)⟩
      show (h'.1 38 10) + (if s < 2 then 0 else 1) = nI (oc + ((if 25 = 16 ∨ 25 = 19 then 1 else if 25 = 22 then 156 else if 25 = 25 ∧ 2 ≤ kv.2 then 1 else 0) + yc_o l + 0))
      rw [ow2, hz, es]
      have e2' : ((2 : Int32) ≤ nI s) ↔ 2 ≤ s := zc_le (k := 2) (by decide) (by omega)
      by_cases z : s < 2
      · rw [if_pos z, if_neg (by decide), if_neg (by decide), if_neg (fun q => by have := e2'.mp q.2; omega)]
        exact Int32.add_zero _
      · rw [if_neg z, if_neg (by decide), if_neg (by decide), if_pos ⟨rfl, e2'.mpr (by omega)⟩, nI_1]
    · rw [y2]
      left
      obtain ⟨f1, f2, f3⟩ := yc_mkF (φ := 41) (h := h2) (g := g2) (i := i) (k := k) (p := kv.1) (by decide) (by decide) pc pm
      refine ⟨⟨?_, ?_, ?_⟩, ?_, f3⟩
      · obtain ⟨⟨φ, p, X1, X2, X3, X4, X5, X6⟩, _⟩ := f1
        exact ⟨φ, p, X1, X2, by rw [y1]; exact X3, by rw [y1]; exact X4, X5, X6⟩
      · rw [y1]
        exact zfr_F (by decide) (yc_Fb1 (yc_outb O) f1).2.1
      · exact (yc_Fb1 (yc_outb O) f1).2.2
      · rw [y1]; exact f2
