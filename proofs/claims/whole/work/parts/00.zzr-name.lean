/-! The judge: a declared name. -/
abbrev zv_nl : List Nat := [28, 29, 30, 31, 32, 33, 34, 35, 37, 24]
abbrev zv_gl : List Nat := [91, 92, 93, 94, 95, 96, 97, 98, 99]
/-- the model's new variable -/
theorem zv_addM {g : zs_H} {nv k k5 k4 : Nat} {w s : Int32} (h1 : (g.1 68 41) = nI nv) (h2 : nv < 8400) (hk : k < 33500) (h5 : k5 < 33500) (h4 : k4 < 33500) (a1 : (g.2.1 75) k = nI k5) (a2 : (g.2.1 75) k5 = nI k4) (a3 : (g.2.1 74) k4 = s) : ∃ g', f_Mo_lookAtName_62 g (nI k) w 0 = some g' ∧ (g'.1 68 41) = nI (nv + 1) ∧ (∀ i, (g'.2.1 91) i = if i = nv then w else (g.2.1 91) i) ∧ (∀ i, (g'.2.1 95) i = if i = nv then s else (g.2.1 95) i) ∧ (∀ i, (g'.2.1 96) i = if i = nv then -1 else (g.2.1 96) i) ∧ (∀ i, ¬ i = nv → (g'.2.1 92) i = (g.2.1 92) i ∧ (g'.2.1 93) i = (g.2.1 93) i ∧ (g'.2.1 94) i = (g.2.1 94) i ∧ (g'.2.1 97) i = (g.2.1 97) i ∧ (g'.2.1 98) i = (g.2.1 98) i ∧ (g'.2.1 99) i = (g.2.1 99) i) ∧ zfr [(68, 41)] [91, 92, 93, 94, 95, 96, 97, 98, 99] [] g g' := by
  unfold f_Mo_lookAtName_62
  have hik : zd_in (nI k) 33500 := zi_in (by omega) hk
  have hi5 : zd_in (nI k5) 33500 := zi_in (by omega) h5
  have hi4 : zd_in (nI k4) 33500 := zi_in (by omega) h4
  have ck : (nI k).toNatClampNeg = k := nI_clamp (by omega)
  have c5 : (nI k5).toNatClampNeg = k5 := nI_clamp (by omega)
  have c4 : (nI k4).toNatClampNeg = k4 := nI_clamp (by omega)
  have cv : (nI nv).toNatClampNeg = nv := nI_clamp (by omega)
  have hiv : zd_in (nI nv) 8400 := zi_in (by omega) h2
  rw [zv_rule0, Option.bind_some]
  simp only [zu_FM, zu_MM, zu_FF, zu_MF, h1, a1, a2, a3, f_Mo_addVariable, zd_B, Nat.reduceEqDiff, and_true, true_and, and_false, false_and, if_true, if_false, if_pos hiv, if_pos hik, if_pos hi5, if_pos hi4, cv, ck, c5, c4, Option.bind_some, nI_1, show nI (nv + 1) - 1 = nI nv from zi_sub (b := 1) (by omega)]
  refine ⟨_, rfl, ?_, fun i => ?_, fun i => ?_, fun i => ?_, fun i hi => ⟨?_, ?_, ?_, ?_, ?_, ?_⟩, ?_⟩
  all_goals first | (refine zfr_M (by decide) ?_; repeat (first | exact zfr_rfl | refine zfr_M (by decide) ?_ | refine zfr_F (by decide) ?_)) | simp only [zu_FM, zu_MM, zu_FF, zu_MF, Nat.reduceEqDiff, and_true, true_and, and_false, false_and, if_true, if_false]
  all_goals (first | rfl | (rw [if_neg hi]) | (split <;> first | rfl | simp_all))
/-- the state with a new variable -/
theorem zv_add2 {LC LM : List (List Int32)} {nb nf ns c s : Nat} {F : Nat → Nat} {h g h' g' : zs_H} {w q : Int32} (I : zv_I LC LM nb nf ns F q h g) (hb : 0 < nb) (hnv : F nb < 5900) (hw : zt_nr LC LM (nI c) w) (hc : c < 6000) (hs : s < 3) (hn : ∀ v, F (nb - 1) ≤ v → v < F nb → ¬ (h.2.1 28) (32 + v) = nI c)
    (y2 : zj_D (8 + nb) (32 + F nb) c (nI s) h h') (s3 : (g'.1 68 41) = nI (F nb + 1)) (wN : ∀ i, (g'.2.1 91) i = if i = F nb then w else (g.2.1 91) i) (wSe : ∀ i, (g'.2.1 95) i = if i = F nb then nI s else (g.2.1 95) i) (wP : ∀ i, (g'.2.1 96) i = if i = F nb then -1 else (g.2.1 96) i) (wO : ∀ i, ¬ i = F nb → (g'.2.1 92) i = (g.2.1 92) i ∧ (g'.2.1 93) i = (g.2.1 93) i ∧ (g'.2.1 94) i = (g.2.1 94) i ∧ (g'.2.1 97) i = (g.2.1 97) i ∧ (g'.2.1 98) i = (g.2.1 98) i ∧ (g'.2.1 99) i = (g.2.1 99) i) (frm : zfr [(68, 41)] [91, 92, 93, 94, 95, 96, 97, 98, 99] [] g g') :
    zv_I LC LM nb nf ns (fun j => if j = nb then F nb + 1 else F j) q h' g' := by
  obtain ⟨HS, ⟨⟨B1, B2, B3⟩, ⟨V1, V2, V3⟩, B4, BF, B5, B6, B7, B8, B9, B10⟩, ⟨N1, N2, N3⟩, ⟨W1, W2, W3, W4, W5⟩, ⟨C0, C1, C2, C3⟩, ⟨T1, T2⟩, HJ, J1, J2⟩ := I
  obtain ⟨p3, vN, vS, vI, vT, vC, vL, vLe, vCo, vLN, kB, fr⟩ := y2
  obtain ⟨F', hF'⟩ : ∃ F', F' = fun j => if j = nb then F nb + 1 else F j := ⟨_, rfl⟩
  rw [← hF']
  have eF1 : F' nb = F nb + 1 := by rw [hF']; exact if_pos rfl
  have eF : ∀ j, j < nb → F' j = F j := fun j hj => by rw [hF']; exact if_neg (by omega)
  have oN : ∀ v, v < 32 + F nb → (h'.2.1 28) v = (h.2.1 28) v := fun v hv => by rw [vN, if_neg (by omega)]
  have oS : ∀ v, v < 32 + F nb → (h'.2.1 29) v = (h.2.1 29) v := fun v hv => by rw [vS, if_neg (by omega)]
  have oI : ∀ v, v < 32 + F nb → (h'.2.1 30) v = (h.2.1 30) v := fun v hv => by rw [vI, if_neg (by omega)]
  have oT : ∀ v, v < 32 + F nb → (h'.2.1 31) v = (h.2.1 31) v := fun v hv => by rw [vT, if_neg (by omega)]
  have oC : ∀ v, v < 32 + F nb → (h'.2.1 32) v = (h.2.1 32) v := fun v hv => by rw [vC, if_neg (by omega)]
  have oL : ∀ v, v < 32 + F nb → (h'.2.1 33) v = (h.2.1 33) v := fun v hv => by rw [vL, if_neg (by omega)]
  have oLe : ∀ v, v < 32 + F nb → (h'.2.1 34) v = (h.2.1 34) v := fun v hv => by rw [vLe, if_neg (by omega)]
  have oCo : ∀ v, v < 32 + F nb → (h'.2.1 35) v = (h.2.1 35) v := fun v hv => by rw [vCo, if_neg (by omega)]
  have eK : h'.2.1 21 = h.2.1 21 := fr.2.1 _ (by decide)
  have eFi : h'.2.1 23 = h.2.1 23 := fr.2.1 _ (by decide)
  have eVc : h'.2.1 25 = h.2.1 25 := fr.2.1 _ (by decide)
  have eCe : h'.2.1 26 = h.2.1 26 := fr.2.1 _ (by decide)
  have eBN : h'.2.1 36 = h.2.1 36 := fr.2.1 _ (by decide)
  have eTk : h'.2.1 40 = h.2.1 40 := fr.2.1 _ (by decide)
  have gK : g'.2.1 86 = g.2.1 86 := frm.2.1 _ (by decide)
  have gNa : g'.2.1 85 = g.2.1 85 := frm.2.1 _ (by decide)
  have gT : g'.2.1 87 = g.2.1 87 := frm.2.1 _ (by decide)
  have gC : g'.2.1 88 = g.2.1 88 := frm.2.1 _ (by decide)
  have gF : g'.2.1 90 = g.2.1 90 := frm.2.1 _ (by decide)
  have oB : ∀ b, ¬ b = 8 + nb → (h'.2.1 24) b = (h.2.1 24) b := fun b hb => by rw [kB, if_neg hb]
  refine ⟨zv_Sfr HS frm (by decide) (by decide) (by decide), ?_, ?_, ?_, ?_, ?_, fun z => ⟨(fr.1 _ _ (by decide)).trans (HJ z).1, (frm.1 _ _ (by decide)).trans (HJ z).2⟩, (fr.1 _ _ (by decide)).trans J1, (frm.1 _ _ (by decide)).trans J2⟩
  · refine ⟨⟨(fr.1 _ _ (by decide)).trans B1, (frm.1 _ _ (by decide)).trans B2, B3⟩, ⟨by rw [eF1]; exact p3, by rw [eF1]; exact s3, by omega⟩, ⟨fun b hb => ?_, fun v hv => ?_⟩, fun b hb => ?_, fun b hb => ?_, fun b hb => ?_, fun b hb => ?_, fun c' hc' => ?_, fun c' h1 h2 => ?_, ?_⟩
    · rw [eK, eFi, oB b (by omega), eCe]; exact B4.1 b hb
    · rw [oN v (by omega), oS v (by omega), oI v (by omega), oT v (by omega), oC v (by omega)]; exact B4.2 v hv
    · have := BF b hb
      by_cases e : b + 1 = nb
      · rw [e, eF1, eF b hb, e] at *; omega
      · rw [eF b hb, eF (b + 1) (by omega), eF1]; omega
    · rw [eK, gK]; exact B5 b hb
    · have := B6 b hb
      rw [eFi, gF, eF b hb]
      by_cases e : b + 1 = nb
      · refine ⟨this.1, this.2.1, ?_⟩
        rw [kB, if_pos (by omega), e, eF1, Nat.add_assoc]
      · rw [oB _ (by omega), eF (b + 1) (by omega)]; exact this
    · rw [gNa, eBN]; exact B7 b hb
    · rw [gNa, eBN]; exact B8 c' hc'
    · rw [eBN]; exact B9 c' h1 h2
    · rw [fr.1 _ _ (by decide), gK]; exact B10
  · refine ⟨fun v hv => ?_, fun c' hc' => ?_, fun v h1 h2 => ?_⟩
    · rw [eF1] at hv
      by_cases e : v < F nb
      · rw [oN _ (by omega), wN, if_neg (by omega)]; exact N1 v e
      · rw [vN, if_pos (by omega), wN, if_pos (by omega)]; exact hw
    · rw [vLN]
      by_cases e : c' = c
      · rw [if_pos e]
        exact .inr ⟨32 + F nb, by rw [eF1]; omega, rfl, fun _ => by rw [vN, if_pos rfl, e]⟩
      · rw [if_neg e]
        rcases N2 c' hc' with z | ⟨x, x1, x2, x3⟩
        · exact .inl z
        · exact .inr ⟨x, by rw [eF1]; omega, x2, fun z => by rw [oN x x1]; exact x3 z⟩
    · rw [eF (nb - 1) (by omega)] at h1
      rw [eF1] at h2
      by_cases e : v < F nb
      · obtain ⟨c', z1, z2, z3⟩ := N3 v h1 e
        refine ⟨c', z1, by rw [oN _ (by omega)]; exact z2, ?_⟩
        rw [vLN, if_neg]
        · exact z3
        · intro z
          rw [z] at z2
          exact hn v h1 e z2
      · exact ⟨c, hc, by rw [vN, if_pos (by omega)], by rw [vLN, if_pos rfl, show v = F nb by omega]⟩
  · refine ⟨fun v hv => ?_, fun b v hb h1 h2 h3 => ?_, fun v h1 h2 => ?_, by rw [eF1]; omega, fun z => by rw [eF (nb - 1) (by omega), eK]; exact W5 z⟩
    · rw [eF1] at hv
      by_cases e : v < F nb
      · rw [oS _ (by omega), wSe, if_neg (by omega)]; exact W1 v e
      · exact ⟨s, by omega, by rw [vS, if_pos (by omega)], by rw [wSe, if_pos (by omega), if_neg (by omega)]⟩
    · rw [eF b hb] at h1
      have h2' : v < F (b + 1) := by
        by_cases e : b + 1 = nb
        · rw [e]; omega
        · rw [eF (b + 1) (by omega)] at h2; exact h2
      have hq := W2 b v hb h1 h2' h3
      obtain ⟨o1, o2, o3, o4, o5, o6⟩ := wO v (by omega)
      unfold zv_Q at hq ⊢
      rw [oT _ (by omega), oI _ (by omega), oC _ (by omega), oL _ (by omega), oLe _ (by omega), oCo _ (by omega), o1, o2, o3, o4, o5, o6, wP, if_neg (by omega), eK, eVc, eCe]
      exact hq
    · rw [eF1] at h2
      rw [wP]
      by_cases e : v = F nb
      · rw [if_pos e]
      · rw [if_neg e]; exact W3 v h1 (by omega)
  · refine ⟨C0, fun b hb => by rw [eCe, gC]; exact C1 b hb, fun b h1 h2 => by rw [eVc, gC, eK]; exact C2 b h1 h2, fun b hb => ?_⟩
    rw [eK, gT]
    intro z
    have h3 := C3 b hb z
    have h4 := BF b hb
    rw [eF b hb, oT _ (by omega), oC _ (by omega)]
    refine ⟨?_, h3.2⟩
    by_cases e : b + 1 = nb
    · rw [e, eF1]; rw [e] at h4; omega
    · rw [eF (b + 1) (by omega)]; exact h3.1
  · refine ⟨fun c' hc' => by rw [eTk]; exact T1 c' hc', fun p hp h1 => ?_⟩
    rw [eTk, T2 p hp h1, eF (nb - 1) (by omega), eF1]
    constructor
    · rintro (z | ⟨v, z1, z2, z3⟩)
      · exact .inl z
      · exact .inr ⟨v, z1, by omega, by rw [wP, if_neg (by omega)]; exact z3⟩
    · rintro (z | ⟨v, z1, z2, z3⟩)
      · exact .inl z
      · rw [wP] at z3
        by_cases e : v = F nb
        · rw [if_pos e] at z3; exact absurd z3.symm (zc_m1 (by omega))
        · rw [if_neg e] at z3; exact .inr ⟨v, z1, by omega, z3⟩
/-- 12 -/
theorem zv_name {LC LM : List (List Int32)} {nb nf ns i k k5 k4 c s : Nat} {F : Nat → Nat} {q w p : Int32} {h g : zs_H} (I : zv_I LC LM nb nf ns F q h g) (hb : 0 < nb) (hnv : F nb < 5900) (hi : i < 32784) (hk : k < 33500) (h5 : k5 < 33500) (h4 : k4 < 33500) (hw : zt_nr LC LM (nI c) w) (hc : c < 6000) (hs : s < 3) (c1 : (h.2.1 16) i = nI c) (c2 : (h.2.1 15) i = p) (c3 : (h.1 38 5) = nI s) (m1 : (g.2.1 72) k = 6) (m2 : (g.2.1 74) k = w) (m3 : (g.2.1 73) k = p) (a1 : (g.2.1 75) k = nI k5) (a2 : (g.2.1 75) k5 = nI k4) (a3 : (g.2.1 74) k4 = nI s) (a4 : (g.2.1 72) k5 = 5) :
    ∃ h' g', f_Jd_declareName h (nI i) = some h' ∧ f_Mo_lookAtBlocks g (nI k) = some g' ∧ zfr zv_cf zv_cm [] h h' ∧ zfr zv_mf zv_mm [] g g' ∧ ((∃ φ, zv_X φ p h' g') ∨ (zv_I LC LM nb nf ns (fun j => if j = nb then F nb + 1 else F j) q h' g' ∧ zfr [(20, 18)] zv_nl [] h h' ∧ zfr [(68, 41)] zv_gl [] g g')) := by
  obtain ⟨kd, y1, y2, y3, y4, y5, y6⟩ := zv_cur I hb
  have I0 := I
  obtain ⟨HS, HB, HN, HV, HC, HT, HJ, J1, J2⟩ := I
  have hh := zv_here HS HB HN hb hc hw
  have hst := zv_isS HS hw hc
  have hbn := zv_bn (bd := nb) HS HB (Nat.le_refl _) hc hw
  obtain ⟨⟨B1, B2, B3⟩, ⟨V1, V2, V3⟩, B4, BF, B5, B6, B7, B8, B9, B10⟩ := HB
  have ck : (nI k).toNatClampNeg = k := nI_clamp (by omega)
  have ci : (nI i).toNatClampNeg = i := nI_clamp (by omega)
  have cc : (nI c).toNatClampNeg = c := nI_clamp (by omega)
  have hik : zd_in (nI k) 33500 := zi_in (by omega) hk
  have hii : zd_in (nI i) 32784 := zi_in (by omega) hi
  have hic : zd_in (nI c) 6000 := zi_in (by omega) hc
  have hi5 : zd_in (nI k5) 33500 := zi_in (by omega) h5
  have c5 : (nI k5).toNatClampNeg = k5 := nI_clamp (by omega)
  have eM0 : f_Mo_lookAtBlocks g (nI k) = (f_Mo_variable g (nI (nb - 1)) w).bind fun v9 => (if 0 ≤ v9 then f_Mo_lookAtName_57 g (nI k) w else ((f_Mo_blockNamed g w (nI nb)).bind fun v12 => (if 0 ≤ v12 then f_Mo_lookAtName_57 g (nI k) w else ((f_Mo_isStandard g w).bind fun v15 => (if v15 = 0 then f_Mo_lookAtName_62 g (nI k) w 0 else f_Mo_lookAtName_57 g (nI k) w))))) := by
    unfold f_Mo_lookAtBlocks f_Mo_lookAtName
    simp only [if_pos hik, ck, m1, m2, a1, c5, a4, if_pos hi5, B2, y5, show ¬ (6 : Int32) = 0 by decide, show ¬ (6 : Int32) = 1 by decide, show ¬ (6 : Int32) = 2 by decide, show ¬ (6 : Int32) = 3 by decide, show ¬ (6 : Int32) = 4 by decide, show ¬ (6 : Int32) = 5 by decide, if_false, if_true, Option.bind_fun_some]
  have eC0 : f_Jd_declareName h (nI i) = (f_Pl_variableHere h (nI c)).bind fun v3 => (if v3 = (-1) then (if (h.2.1 36) c = -1 then (if (f_Nm_isStandardFunction (nI c)) = 0 then f_Jd_declareName_47 h (nI i) (nI c) 0 else f_Jd_declareName_42 h (nI i) (nI c)) else f_Jd_declareName_42 h (nI i) (nI c)) else f_Jd_declareName_42 h (nI i) (nI c)) := by
    unfold f_Jd_declareName
    simp only [if_pos hii, ci, c1, if_pos hic, cc]
  have bad : ∃ h' g', f_Jd_declareName_42 h (nI i) (nI c) = some h' ∧ f_Mo_lookAtName_57 g (nI k) w = some g' ∧ zfr zv_cf zv_cm [] h h' ∧ zfr zv_mf zv_mm [] g g' ∧ ∃ φ, zv_X φ p h' g' := by
    have eC : f_Jd_declareName_42 h (nI i) (nI c) = some (zs_uF (zs_uF h 38 3 (nI 12)) 38 0 ((h.2.1 15) i)) := by
      unfold f_Jd_declareName_42 f_Jd_declareName_47
      rw [if_neg (by decide), show (12 : Int32) = nI 12 from rfl, zv_refu J1 hi]; rfl
    obtain ⟨g1, hg1⟩ : ∃ g1, g1 = zs_uF (zs_uF g 68 29 (nI 12)) 68 30 ((g.2.1 73) k) := ⟨_, rfl⟩
    have j1 : (g1.1 68 29) = nI 12 := by rw [hg1]; rfl
    have j2 : (g1.1 68 30) = p := by rw [hg1]; exact m3
    obtain ⟨g', e1, e2, e3, e4, e5, e6, e7⟩ := zv_addM (g := g1) (w := w) (s := nI s) (by rw [hg1]; exact V2) (by omega) hk h5 h4 (by rw [hg1]; exact a1) (by rw [hg1]; exact a2) (by rw [hg1]; exact a3)
    have eM : f_Mo_lookAtName_57 g (nI k) w = some g' := by
      rw [← e1]
      unfold f_Mo_lookAtName_57 f_Mo_lookAtName_62
      rw [show f_Mo_rule g 1 12 (nI k) = some g1 by rw [hg1]; exact zv_rule1 (φ := 12) (by decide) J2 hk, zv_rule0]
    refine ⟨_, g', eC, eM, zfr_F (by decide) (zfr_F (by decide) zfr_rfl), zfr_trans (g := g1) (by rw [hg1]; exact zfr_F (by decide) (zfr_F (by decide) zfr_rfl)) (zfr_w e7 (by decide) (by decide) (by decide)), 12, by decide, by decide, rfl, c2, (e7.1 _ _ (by decide)).trans j1, (e7.1 _ _ (by decide)).trans j2⟩
  obtain ⟨hx, gx, x1, x2, x3, x4, x5⟩ := bad
  have done : f_Jd_declareName h (nI i) = some hx → f_Mo_lookAtBlocks g (nI k) = some gx → ∃ h' g', f_Jd_declareName h (nI i) = some h' ∧ f_Mo_lookAtBlocks g (nI k) = some g' ∧ zfr zv_cf zv_cm [] h h' ∧ zfr zv_mf zv_mm [] g g' ∧ ((∃ φ, zv_X φ p h' g') ∨ (zv_I LC LM nb nf ns (fun j => if j = nb then F nb + 1 else F j) q h' g' ∧ zfr [(20, 18)] zv_nl [] h h' ∧ zfr [(68, 41)] zv_gl [] g g')) := fun a b => ⟨hx, gx, a, b, x3, x4, .inl x5⟩
  rcases hh with ⟨v, z1, z2, z3, z4, z5⟩ | ⟨z4, z5, z6⟩
  · refine done ?_ ?_
    · rw [eC0, z4, Option.bind_some, if_neg (zc_m1 (by omega))]; exact x1
    · rw [eM0, z5, Option.bind_some, if_pos ((zc_le (k := 0) (by decide) (by omega)).mpr (by omega))]; exact x2
  · by_cases n2 : (h.2.1 36) c = -1
    · have nB : ¬ (41 ≤ c ∧ c < 50) := fun z => by
        have := B9 c z.1 z.2
        rw [n2] at this
        exact absurd this.symm (zc_m1 (by omega))
      have eb : f_Mo_blockNamed g w (nI nb) = some (-1) := by
        rcases hbn with ⟨b, _, e, _⟩ | ⟨e, _⟩
        · rw [n2] at e; exact absurd e.symm (zc_m1 (by omega))
        · exact e
      by_cases nS : 50 ≤ c ∧ c < 60
      · refine done ?_ ?_
        · rw [eC0, z4, Option.bind_some, if_pos rfl, if_pos n2, zv_isF hc, if_pos nS, if_neg (by decide)]; exact x1
        · rw [eM0, z5, Option.bind_some, if_neg (by decide), eb, Option.bind_some, if_neg (by decide), hst, Option.bind_some, if_pos (show 41 ≤ c ∧ c < 60 by omega), if_neg (by decide)]; exact x2
      · obtain ⟨h', e1, e2⟩ := zj_add (h := h) (b := 8 + nb) (v := 32 + F nb) (ci := c) (sc := nI s) (by rw [B1, show 8 + nb + 1 = 9 + nb by omega]) (by omega) V1 (by omega) hc
        obtain ⟨g', e3, e4, e5, e6, e7, e8, e9⟩ := zv_addM (w := w) (s := nI s) V2 (by omega) hk h5 h4 a1 a2 a3
        refine ⟨h', g', ?_, ?_, ?_, zfr_w e9 (by decide) (by decide) (by decide), .inr ⟨zv_add2 I0 hb hnv hw hc hs z6 e2 e4 e5 e6 e7 e8 e9, ?_, zfr_w e9 (by decide) (by decide) (by decide)⟩⟩
        · rw [eC0, z4, Option.bind_some, if_pos rfl, if_pos n2, zv_isF hc, if_neg nS, if_pos rfl]
          unfold f_Jd_declareName_47
          rw [if_pos rfl, c3, e1]
          rfl
        · rw [eM0, z5, Option.bind_some, if_neg (by decide), eb, Option.bind_some, if_neg (by decide), hst, Option.bind_some, if_neg (show ¬ (41 ≤ c ∧ c < 60) by omega), if_pos rfl]; exact e3
        · obtain ⟨_, _, _, _, _, _, _, _, _, _, _, z⟩ := e2; exact zfr_w z (by decide) (by decide) (by decide)
        · obtain ⟨_, _, _, _, _, _, _, _, _, _, _, z⟩ := e2; exact zfr_w z (by decide) (by decide) (by decide)
    · refine done ?_ ?_
      · rw [eC0, z4, Option.bind_some, if_pos rfl, if_neg n2]; exact x1
      · rw [eM0, z5, Option.bind_some, if_neg (by decide)]
        rcases hbn with ⟨b, _, _, e⟩ | ⟨e, e'⟩
        · rw [e, Option.bind_some, if_pos ((zc_le (k := 0) (by decide) (by omega)).mpr (by omega))]; exact x2
        · rw [e, Option.bind_some, if_neg (by decide), hst, Option.bind_some]
          have : 41 ≤ c ∧ c < 60 := by
            rcases B8 c hc with y | ⟨u1, u2, _⟩ | ⟨b, u1, u2, _⟩
            · exact absurd y n2
            · omega
            · exact absurd u2 (e' b u1)
          rw [if_pos this, if_neg (by decide)]; exact x2
