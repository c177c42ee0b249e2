/-! The judge: an output of an instance (20, 21, 23). -/
theorem zv_outE {LC LM : List (List Int32)} {nb nf i k c a ka cf : Nat} {F : Nat → Nat} {q w wf p : Int32} {h g : zs_H} (I : zv_I LC LM nb nf (F nb) F q h g) (si : zv_si (F nb) h) (hb : 0 < nb) (hi : i < 32784) (hk : k < 33500) (hc : c < 6000) (hw : zt_nr LC LM (nI c) w) (c0 : (h.2.1 13) i = 33) (c1 : (h.2.1 16) i = nI c) (c2 : (h.2.1 15) i = p) (c3 : (h.2.1 17) i = nI a) (ha : a < 32784) (hai : ¬ a = i) (hcf : cf < 6000) (hwf : zt_nr LC LM (nI cf) wf) (c4 : (h.2.1 16) a = nI cf) (m0 : (g.2.1 72) k = 33) (m1 : (g.2.1 74) k = w) (m2 : (g.2.1 73) k = p) (m3 : (g.2.1 76) k = nI ka) (hka : ka < 33500) (m4 : (g.2.1 74) ka = wf) :
    ∃ h' g', f_Jd_judgeVariable h (nI i) = some h' ∧ f_Mo_lookAtExpressions g (nI k) = some g' ∧ (zv_Fb h g h' g' ∨ (∃ u ty t0 x off, F (nb - 1) ≤ u ∧ u < F nb ∧ ty < 3 ∧ h' = zs_uM (zs_uM (zs_uM (zs_uM h 16 i (nI (32 + u))) 14 i t0) 16 a (nI off)) 14 i (nI ty) ∧ g' = zs_uM (zs_uM g 100 k (nI ty)) 101 k (nI (x + off)) ∧ f_Mo_variable g ((g.1 68 54)) w = some (nI u) ∧ (g.2.1 92) u = 2 ∧ (g.2.1 94) u = nI x ∧ (h.2.1 32) (32 + u) = nI x ∧ (x + off < 600000000 ∧ ∃ B cv, (h.2.1 30) (32 + u) = nI B ∧ B < 8 + nb ∧ zi_B F B cv ∧ cv < 32 + F nb ∧ (h.2.1 32) cv = nI off ∧ (((h.2.1 29) cv = 1 ∨ (h.2.1 29) cv = 2) ∧ (h.2.1 31) cv = nI ty)))) := by
  have J1 : (h.1 38 3) = 0 := I.2.2.2.2.2.2.2.1
  have J2 : (g.1 68 29) = 0 := I.2.2.2.2.2.2.2.2
  have hB3 : nb ≤ 568 := I.2.1.1.2.2
  have eM : f_Mo_lookAtExpressions g (nI k) = f_Mo_lookAtOutput g (nI k) := by
    unfold f_Mo_lookAtExpressions
    simp (config := { decide := true }) only [if_pos (zi_in (show k < 2147483648 by omega) hk), nI_clamp (show k < 2147483648 by omega), m0, if_false, if_true, Option.bind_fun_some]
  have eI : f_Mo_lookAtInstance g (nI k) = (f_Mo_variable g ((g.1 68 54)) w).bind fun v3 => (if 0 ≤ v3 then f_Mo_lookAtInstance_25 g (nI k) v3 0 else f_Mo_lookAtInstance_25 g (nI k) v3 1) := by
    unfold f_Mo_lookAtInstance
    rw [if_pos (zi_in (by omega) hk), nI_clamp (show k < 2147483648 by omega), m1]
  have eC : f_Jd_judgeVariable h (nI i) = f_Jd_judgeVariable_32 h (nI i) 33 0 := by
    unfold f_Jd_judgeVariable
    rw [if_pos (zi_in (by omega) hi), nI_clamp (show i < 2147483648 by omega), c0, if_neg (by decide), if_neg (by decide)]
  have bad : ∀ (φ : Nat), 0 < φ → φ < 1000 → f_Mo_lookAtInstance g (nI k) = some (zv_ru φ k g) → f_Mo_lookAtExpressions g (nI k) = some (zv_ru φ k g) := by
    intro φ a1 a2 e
    rw [eM]
    unfold f_Mo_lookAtOutput
    rw [e, Option.bind_some, if_neg (zv_ruf a1 a2)]
  rcases zv_vCase I hb hc hw with ⟨z1, z2⟩ | ⟨u, ins, so, v1, v2, v3, v4, v5, v6, v7, v8, s0, s1, s2, Q⟩
  · refine ⟨zv_rf 20 i h, zv_ru 20 k g, eC.trans (zv_jvF (zv_vaC0 hi c1 J1 z1) (zv_rff (by decide) (by decide))), bad 20 (by decide) (by decide) ?_, .inl (zv_mkF (by decide) (by decide) c2 m2 zfr_rfl zfr_rfl zfr_rfl zfr_rfl)⟩
    rw [eI, z2, Option.bind_some, if_neg (by decide)]
    unfold f_Mo_lookAtInstance_25 f_Mo_lookAtInstance_50 f_Mo_lookAtInstance_51
    rw [show (20 : Int32) = nI 20 from rfl, zv_rule1 (by decide) J2 hk, Option.bind_some, if_pos (by decide), zv_rule0, Option.bind_some]
    rfl
  · have eI3 : f_Mo_lookAtInstance g (nI k) = if so = 2 then some g else f_Mo_lookAtInstance_51 g (nI k) 1 := by
      rw [eI, v5, Option.bind_some, if_pos (zv_neg (show u < 2147483648 by omega)).1]
      unfold f_Mo_lookAtInstance_25 f_Mo_lookAtInstance_50
      rw [zv_rule0, Option.bind_some, if_neg (zv_neg (show u < 2147483648 by omega)).2, if_pos (zi_in (by omega) (by omega)), nI_clamp (show u < 2147483648 by omega)]
      simp only [v7, show (nI so = 2) ↔ so = 2 from zc_eq (k := 2) (by decide) (by omega)]
      unfold f_Mo_lookAtInstance_51
      rw [zv_rule0, Option.bind_some]
    by_cases z : so = 2
    · have zi : 0 ≤ ins := s2.mp z
      subst z
      have eV := zv_vaC1p (form := 0) (by decide) hi c1 J1 v4 v3 v6
      rw [if_pos zi] at eV
      rw [if_pos rfl] at eI3
      obtain ⟨t0, x, s, y, ⟨t1, t2⟩, ⟨x1, x2⟩, _, _, ⟨xl, _⟩, _, _, q8, _⟩ := Q
      obtain ⟨B, b1, b2, _, b4, _⟩ : ∃ B, B < 9 + (nb - 1) ∧ (h.2.1 30) (32 + u) = nI B ∧ (g.2.1 92) u = 2 ∧ (g.2.1 93) u = nI (if B < 9 then 100000 + B else B - 9) ∧ True := by
        rcases q8 with ⟨_, e, _⟩ | ⟨_, e, _⟩ | ⟨B, a1, a2, a3, a4, _⟩
        · rw [v7] at e; exact absurd e (by decide)
        · rw [v7] at e; exact absurd e (by decide)
        · exact ⟨B, a1, a2, a3, a4, trivial⟩
      have eM5 : f_Mo_lookAtExpressions g (nI k) = (f_Mo_pin g (nI (if B < 9 then 100000 + B else B - 9)) (nI 0) wf).bind fun v10 => (if 0 ≤ v10 then f_Mo_lookAtOutput_60 g (nI k) (nI u) v10 0 else f_Mo_lookAtOutput_60 g (nI k) (nI u) v10 1) := by
        rw [eM]
        unfold f_Mo_lookAtOutput
        rw [eI3, Option.bind_some, if_pos J2, if_pos (zi_in (by omega) hk), nI_clamp (show k < 2147483648 by omega), m1, v5, Option.bind_some, if_pos (zi_in (by omega) (by omega)), m3, if_pos (zi_in (by omega) hka), nI_clamp (show ka < 2147483648 by omega), nI_clamp (show u < 2147483648 by omega), m4, b4]
        rfl
      obtain ⟨h1, hh1⟩ : ∃ h1, h1 = zs_uM (zs_uM h 16 i (nI (32 + u))) 14 i (nI t0) := ⟨_, rfl⟩
      have f01 : zfr [] [16, 14] [] h h1 := by rw [hh1]; exact zfr_M (by decide) (zfr_M (by decide) zfr_rfl)
      have va : (h1.2.1 16) a = nI cf := by rw [hh1, zu_MM, if_neg (fun z => absurd z.1 (by decide)), zu_MM, if_neg (fun z => hai z.2)]; exact c4
      have eC3 : f_Jd_judgeVariable h (nI i) = (f_Pl_variableOf h1 (nI B) (nI cf)).bind fun v5 => (if v5 = (-1) then f_Jd_judgeVariable_177 h1 (nI i) else (if zd_in v5 6000 then (if ((h1.2.1 29) v5.toNatClampNeg) = 2 then some (zs_uM (zs_uM h1 16 a ((h1.2.1 32) v5.toNatClampNeg)) 14 i (vp_nar .byte (((h1.2.1 31) v5.toNatClampNeg).toInt8.toInt32))) else f_Jd_judgeVariable_177 h1 (nI i)) else none)) := by
        rw [eC]
        unfold f_Jd_judgeVariable_32
        rw [eV]
        show (if (h.1 38 3) = 0 then _ else _) = _
        rw [if_pos J1, if_pos (zi_in (by omega) hi), if_pos (zi_in (by omega) (by omega)), if_neg (by decide), nI_clamp (show i < 2147483648 by omega), nI_clamp (show 32 + u < 2147483648 by omega), t2, zv_nar3 t1, ← hh1, c3]
        unfold f_Jd_judgeVariable_122
        rw [if_pos rfl, if_pos (zi_in (by omega) (by omega)), if_pos (zi_in (by omega) ha), nI_clamp (show a < 2147483648 by omega), nI_clamp (show 32 + u < 2147483648 by omega), va, f01.2.1 30 (by decide), b2]
        simp only [if_pos (zi_in (show i < 2147483648 by omega) hi), nI_clamp (show i < 2147483648 by omega)]
      have I1 : zv_I LC LM nb nf (F nb) F q h1 g := zv_Ifr I (zfr_w f01 (by decide) (by decide) (by decide)) zfr_rfl
      have si1 : zv_si (F nb) h1 := fun v hv hs => by
        rw [f01.2.1 _ (by decide)] at hs ⊢
        exact si v hv hs
      have jf : (h1.1 38 3) = 0 := (f01.1 _ _ List.not_mem_nil).trans J1
      have p1 : (h1.2.1 15) i = p := by rw [f01.2.1 _ (by decide)]; exact c2
      rcases zv_pinE (inp := 0) I1 si1 hb hcf hwf (show B < 8 + nb by omega) (by decide) with ⟨cv, pp, ty, off, ⟨⟨o1, oB⟩, oF⟩, o2, o3, o4, o5, o6, o7, o8, o9, o10, o11⟩ | ⟨o1, o2⟩
      · rw [if_pos rfl] at o3
        refine ⟨zs_uM (zs_uM h1 16 a (nI off)) 14 i (nI ty), zs_uM (zs_uM g 100 k (nI ty)) 101 k (nI (x + off)), ?_, ?_, .inr ⟨u, ty, nI t0, x, off, v1, v2, o5, by rw [hh1], rfl, v5, v7, x2, x1, ⟨by omega, B, cv, b2, by omega, oB, oF, (congrFun (f01.2.1 32 (by decide)) cv).symm.trans o6, ⟨.inr ((congrFun (f01.2.1 29 (by decide)) cv).symm.trans o3), (congrFun (f01.2.1 31 (by decide)) cv).symm.trans o4⟩⟩⟩⟩
        · rw [eC3, o2, Option.bind_some, if_neg (zc_m1 (by omega)), if_pos (zi_in (by omega) o1), nI_clamp (show cv < 2147483648 by omega), if_pos (show (h1.2.1 29) cv = 2 from o3), o6, o4, zv_nar3 o5]
        · rw [eM5, o8, Option.bind_some, if_pos (zv_neg (show pp < 2147483648 by omega)).1]
          unfold f_Mo_lookAtOutput_60
          rw [zv_rule0, Option.bind_some, if_pos J2, if_pos (zi_in (by omega) (by omega)), nI_clamp (show u < 2147483648 by omega), b4]
          rw [show f_Mo_pinType g (nI (if B < 9 then 100000 + B else B - 9)) 0 (nI pp) = some (nI ty) from o10, Option.bind_some, if_pos (zi_in (by omega) hk), nI_clamp (show k < 2147483648 by omega)]
          have epc : f_Mo_pinCell (zs_uM g 100 k (nI ty)) (nI (if B < 9 then 100000 + B else B - 9)) 0 (nI pp) = some (nI off) := by
            rw [← o11]
            have em : ((zs_uM g 100 k (nI ty)).2.1 94) = (g.2.1 94) := funext fun j => by rw [zu_MM, if_neg (fun z => absurd z.1 (by decide))]
            unfold f_Mo_pinCell
            rw [em]
            rfl
          rw [epc, Option.bind_some, x2, show nI x + nI off = nI (x + off) from (Int32.ofNat_add x off).symm]
      · refine ⟨zv_rf 23 i h1, zv_ru 23 k g, ?_, ?_, .inl (zv_mkF (φ := 23) (by decide) (by decide) c2 m2 (zfr_w f01 (by decide) (by decide) (by decide)) zfr_rfl zfr_rfl zfr_rfl)⟩
        · have e177 : f_Jd_judgeVariable_177 h1 (nI i) = some (zv_rf 23 i h1) := by
            unfold f_Jd_judgeVariable_177
            rw [show (23 : Int32) = nI 23 from rfl, zv_refu jf hi, Option.bind_some]; rfl
          rw [eC3]
          rcases o1 with o1 | ⟨cv, o3, o4, o5⟩
          · rw [o1, Option.bind_some, if_pos rfl, e177]
          · rw [o4, Option.bind_some, if_neg (zc_m1 (by omega)), if_pos (zi_in (by omega) o3), nI_clamp (show cv < 2147483648 by omega), if_neg (show ¬ (h1.2.1 29) cv = 2 from o5), e177]
        · rw [eM5, o2, Option.bind_some, if_neg (by decide)]
          unfold f_Mo_lookAtOutput_60
          rw [show (23 : Int32) = nI 23 from rfl, zv_rule1 (by decide) J2 hk, Option.bind_some]
          show (if ((zv_ru 23 k g).1 68 29) = 0 then _ else some (zv_ru 23 k g)) = _
          rw [if_neg (zv_ruf (φ := 23) (k := k) (g := g) (by decide) (by decide))]
    · have zi : ¬ 0 ≤ ins := fun u => z (s2.mpr u)
      have eV := zv_vaC1p (form := 0) (by decide) hi c1 J1 v4 v3 v6
      rw [if_neg zi] at eV
      refine ⟨zv_rf 21 i h, zv_ru 21 k g, eC.trans (zv_jvF eV (zv_rff (by decide) (by decide))), bad 21 (by decide) (by decide) ?_, .inl (zv_mkF (by decide) (by decide) c2 m2 zfr_rfl zfr_rfl zfr_rfl zfr_rfl)⟩
      rw [eI3, if_neg z]
      unfold f_Mo_lookAtInstance_51
      rw [show (21 : Int32) = nI 21 from rfl, zv_rule1 (by decide) J2 hk, Option.bind_some]
      rfl
