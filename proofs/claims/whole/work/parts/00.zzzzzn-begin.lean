/-! The judge: a block begins (with what stays of the blocks before). -/
def yg_ob (kd nb n : Nat) (h g h' g' : zs_H) : Prop := (g'.2.1 100 = g.2.1 100 ∧ g'.2.1 101 = g.2.1 101 ∧ g'.2.1 102 = g.2.1 102) ∧ (kd = 1 → (h'.2.1 30) (32 + n) = -1 ∧ (h'.2.1 29) (32 + n) = 3) ∧ (∀ b, b < nb → (h'.2.1 21) (9 + b) = (h.2.1 21) (9 + b) ∧ (h'.2.1 26) (9 + b) = (h.2.1 26) (9 + b)) ∧ (∀ j, j < 32 + n → zv_v8 h h' j) ∧ (h'.2.1 27) (9 + nb) = 0 ∧ ∃ y, y ≤ 4096 ∧ (h'.2.1 25) (9 + nb) = nI y
theorem yg_begin {LC LM : List (List Int32)} {nb i k kd c : Nat} {F : Nat → Nat} {h g : zs_H} {w p : Int32} (I : zv_I LC LM nb nb (F nb) F (-1) h g) (hnb : nb < 568) (hnv : F nb < 5900) (hi : i < 32784) (hk : k < 33500) (hkd : kd = 1 ∨ kd = 2 ∨ kd = 3) (c1 : (h.2.1 13) i = nI kd) (c2 : (h.2.1 16) i = nI c) (c3 : (h.2.1 15) i = p) (m1 : (g.2.1 72) k = nI kd) (m2 : (g.2.1 74) k = w) (m3 : (g.2.1 73) k = p) (hw : zt_nr LC LM (nI c) w) (hc : c < 6000)
    (hty : kd = 1 → ∃ i' k' ty, i' < 32784 ∧ k' < 33500 ∧ ty < 3 ∧ (h.2.1 17) i = nI i' ∧ (h.2.1 16) i' = nI ty ∧ (g.2.1 76) k = nI k' ∧ (g.2.1 74) k' = nI ty) :
    ∃ h' g', f_Jd_enterBlock h (nI i) = some h' ∧ f_Mo_beginBlock g (nI k) = some g' ∧ zfr zv_cf zv_cm [] h h' ∧ zfr zv_mf zv_mm [] g g' ∧
      ((∃ φ, zv_X φ p h' g') ∨ (((h'.1 38 10) = 0 ∧ (h'.1 38 12) = (h.1 38 12) ∧ (h'.2.1 22) (9 + nb) = nI i ∧ (g'.2.1 84) nb = nI k ∧ (∀ b, b < nb → (h'.2.1 22) (9 + b) = (h.2.1 22) (9 + b) ∧ (g'.2.1 84) b = (g.2.1 84) b ∧ (h'.2.1 25) (9 + b) = (h.2.1 25) (9 + b)) ∧ (h'.2.1 21) (9 + nb) = nI kd ∧
        zv_I LC LM (nb + 1) nb (if kd = 1 then F nb + 1 else F nb) (fun j => if j = nb + 1 then (if kd = 1 then F nb + 1 else F nb) else F j) (-1) h' g') ∧ yg_ob kd nb (F nb) h g h' g')) := by
  obtain ⟨HS, HB, HN, HV, HC, HT, HJ, J1, J2⟩ := I
  have hb0 := zv_bn (bd := nb) HS HB (Nat.le_refl _) hc hw
  have hst := zv_isS HS hw hc
  have hcl := hw
  obtain ⟨⟨B1, B2, B3⟩, ⟨V1, V2, V3⟩, B4, BF, B5, B6, B7, B8, B9, B10⟩ := HB
  have hk3 : kd < 4 := by rcases hkd with e | e | e <;> rw [e] <;> decide
  have hik : zd_in (nI k) 33500 := zi_in (by omega) hk
  have hii : zd_in (nI i) 32784 := zi_in (by omega) hi
  have eC : f_Jd_enterBlock h (nI i) = f_Jd_enterBlock_27 h (nI i) (nI c) (if 0 < nb ∧ (g.2.1 86) (nb - 1) = 3 then 1 else 0) := by
    unfold f_Jd_enterBlock
    rw [if_pos hii, nI_clamp (by omega), c2, B10]
    by_cases q : 0 < nb ∧ (g.2.1 86) (nb - 1) = 3
    · rw [if_pos q, if_pos q, if_neg (zc_m1 (by omega))]
    · rw [if_neg q, if_neg q, if_pos rfl]
  have eM : f_Mo_beginBlock g (nI k) = f_Mo_beginBlock_28 g (nI k) (if 0 < nb ∧ (g.2.1 86) (nb - 1) = 3 then 1 else 0) := by
    unfold f_Mo_beginBlock f_Mo_beginBlock_27
    rw [B2]
    by_cases q0 : nb = 0
    · rw [if_pos ((zc_el (k := 0) (by decide) (by omega)).mpr (by omega)), if_neg (fun q => by omega)]
    · rw [if_neg (mt (zc_el (k := 0) (by decide) (by omega)).mp (by omega)), show nI nb - 1 = nI (nb - 1) from zi_sub (b := 1) (by omega), if_pos (zi_in (by omega) (by omega)), nI_clamp (by omega)]
      by_cases q : (g.2.1 86) (nb - 1) = 3
      · rw [if_pos q, if_pos ⟨by omega, q⟩]
      · rw [if_neg q, if_neg (fun z => q z.2)]
  -- the model goes on behind a fault
  have goM : ∀ (g1 : zs_H) (y0 : Int32), (g1.1 68 33) = nI nb → (g1.1 68 41) = nI (F nb) → (g1.2.1 72) k = nI kd → (g1.2.1 74) k = w → (kd = 1 → (g1.2.1 76) k = (g.2.1 76) k ∧ ∀ j, (g1.2.1 74) j = (g.2.1 74) j) → f_Mo_rule g1 y0 11 (nI k) = some g1 → ∃ g', f_Mo_beginBlock_70 g1 (nI k) y0 = some g' ∧ ∃ ty, (kd = 1 → ∃ t, t < 3 ∧ ty = nI t ∧ ∃ i', i' < 32784 ∧ (h.2.1 17) i = nI i' ∧ (h.2.1 16) i' = nI t) ∧ zv_BM nb (F nb) k kd w ty g1 g' := by
    intro g1 y0 e1 e2 e3 e4 e5 e6
    by_cases q : kd = 1
    · obtain ⟨i', k', ty, t1, t2, t3, t4, t5, t6, t7⟩ := hty q
      obtain ⟨g', z1, z2⟩ := zv_bbR (ty := nI ty) e1 (by omega) e2 (by omega) hk hk3 e3 e4 (fun _ => ⟨k', t2, by rw [(e5 q).1]; exact t6, by rw [(e5 q).2]; exact t7⟩) e6
      exact ⟨g', z1, nI ty, fun _ => ⟨ty, t3, rfl, i', t1, t4, t5⟩, z2⟩
    · obtain ⟨g', z1, z2⟩ := zv_bbR (ty := 0) e1 (by omega) e2 (by omega) hk hk3 e3 e4 (fun z => absurd z q) e6
      exact ⟨g', z1, 0, fun z => absurd z q, z2⟩
  have frM : ∀ {g1 g'' : zs_H} {ty : Int32}, zv_BM nb (F nb) k kd w ty g1 g'' → zfr zv_mf zv_mm [] g1 g'' := fun z => by
    obtain ⟨_, _, _, _, _, _, _, _, _, _, _, _, _, _, _, _, z⟩ := z
    exact zfr_w z (by decide) (by decide) (by decide)
  have fault : ∀ (φ : Nat) (x1 x2 : Int32), 0 < φ → φ < 1000 → ∃ h2 g2, h2 = zs_uF (zs_uF h 38 3 (nI φ)) 38 0 ((h.2.1 15) i) ∧ g2 = zs_uF (zs_uF g 68 29 (nI φ)) 68 30 ((g.2.1 73) k) ∧ zfr zv_cf zv_cm [] h h2 ∧ zfr zv_mf zv_mm [] g g2 ∧ (h2.1 38 3) = nI φ ∧ (h2.1 38 0) = p ∧ (g2.1 68 29) = nI φ ∧ (g2.1 68 30) = p := by
    intro φ x1 x2 f1 f2
    refine ⟨_, _, rfl, rfl, zfr_F (by decide) (zfr_F (by decide) zfr_rfl), zfr_F (by decide) (zfr_F (by decide) zfr_rfl), rfl, c3, rfl, m3⟩
  rw [eC, eM]
  unfold f_Jd_enterBlock_27 f_Mo_beginBlock_28
  by_cases q10 : 0 < nb ∧ (g.2.1 86) (nb - 1) = 3
  · -- 10
    rw [if_pos q10]
    obtain ⟨h2, g2, eh, eg, f1, f2, x1, x2, x3, x4⟩ := fault 10 0 0 (by decide) (by decide)
    have nf : ¬ (h2.1 38 3) = 0 := by rw [x1]; decide
    have nj : ¬ (g2.1 68 29) = 0 := by rw [x3]; decide
    have r1 : f_Jd_refuseIf h 1 10 (nI i) = some h2 := by rw [eh]; exact zv_ref1 (φ := 10) (by decide) J1 hi
    have r2 : f_Mo_rule g 1 10 (nI k) = some g2 := by rw [eg]; exact zv_rule1 (φ := 10) (by decide) J2 hk
    rw [r1, r2, Option.bind_some, Option.bind_some]
    have ew : (g2.2.1 74) k = w := by rw [eg]; exact m2
    have es : f_Mo_isStandard g2 w = some (if 41 ≤ c ∧ c < 60 then 1 else 0) := zv_isS (LC := LC) (LM := LM) (by rw [eg]; exact HS) hw hc
    have eb : f_Mo_blockNamed g2 w (nI nb) = f_Mo_blockNamed g w (nI nb) := by rw [eg]; rfl
    have goC : ∀ y0, f_Jd_enterBlock_59 h2 (nI i) (nI c) y0 = some h2 := by
      intro y0
      unfold f_Jd_enterBlock_59
      rw [zv_refF nf, Option.bind_some, if_neg nf]
    have goM2 : ∀ y0, ∃ g', f_Mo_beginBlock_70 g2 (nI k) y0 = some g' ∧ zfr zv_mf zv_mm [] g2 g' ∧ (g'.1 68 29) = nI 10 ∧ (g'.1 68 30) = p := by
      intro y0
      obtain ⟨g', z1, ty, _, z2⟩ := goM g2 y0 (by rw [eg]; exact B2) (by rw [eg]; exact V2) (by rw [eg]; exact m1) ew (fun _ => by rw [eg]; exact ⟨rfl, fun _ => rfl⟩) (zv_ruleF nj)
      refine ⟨g', z1, frM z2, ?_, ?_⟩
      all_goals
        obtain ⟨_, _, _, _, _, _, _, _, _, _, _, _, _, _, _, _, z⟩ := z2
        rw [z.1 _ _ (by decide)]
        assumption
    have eC2 : (if zd_in (nI c) 6000 then (if ((h2.2.1 36) (nI c).toNatClampNeg) = (-1) then (if (f_Nm_isStandardFunction (nI c)) = 0 then f_Jd_enterBlock_59 h2 (nI i) (nI c) 0 else f_Jd_enterBlock_54 h2 (nI i) (nI c)) else f_Jd_enterBlock_54 h2 (nI i) (nI c)) else none) = some h2 := by
      unfold f_Jd_enterBlock_54
      rw [if_pos (zi_in (by omega) hc), goC, goC]
      split
      · split <;> rfl
      · rfl
    have eM2 : ∃ y0, (if zd_in (nI k) 33500 then ((f_Mo_isStandard g2 ((g2.2.1 74) (nI k).toNatClampNeg)).bind fun v5 => (if v5 = 0 then ((f_Mo_blockNamed g2 ((g2.2.1 74) (nI k).toNatClampNeg) ((g2.1 68 33))).bind fun v9 => (if v9 < 0 then f_Mo_beginBlock_70 g2 (nI k) 0 else f_Mo_beginBlock_65 g2 (nI k))) else f_Mo_beginBlock_65 g2 (nI k))) else none) = f_Mo_beginBlock_70 g2 (nI k) y0 := by
      unfold f_Mo_beginBlock_65
      rw [if_pos hik, nI_clamp (by omega), ew, es, Option.bind_some, show (g2.1 68 33) = nI nb by rw [eg]; exact B2, eb]
      by_cases z : 41 ≤ c ∧ c < 60
      · exact ⟨1, by rw [if_pos z, if_neg (by decide)]⟩
      · rw [if_neg z, if_pos rfl]
        rcases hb0 with ⟨b, _, _, e⟩ | ⟨e, _⟩
        · exact ⟨1, by rw [e, Option.bind_some, if_neg (mt (zc_tl (k := 0) (by decide) (by omega)).mp (by omega))]⟩
        · exact ⟨0, by rw [e, Option.bind_some, if_pos (by decide)]⟩
    obtain ⟨y0, eM3⟩ := eM2
    obtain ⟨g', z1, z2, z3, z4⟩ := goM2 y0
    exact ⟨h2, g', eC2, eM3.trans z1, f1, zfr_trans f2 z2, .inl ⟨10, by decide, by decide, x1, x2, z3, z4⟩⟩
  · rw [if_neg q10, zv_ref0, zv_rule0, Option.bind_some, Option.bind_some, if_pos (zi_in (by omega) hc), if_pos hik]
    by_cases q11 : (41 ≤ c ∧ c < 60) ∨ ¬ (h.2.1 36) c = -1
    · -- 11
      obtain ⟨h2, g2, eh, eg, f1, f2, x1, x2, x3, x4⟩ := fault 11 0 0 (by decide) (by decide)
      have nf : ¬ (h2.1 38 3) = 0 := by rw [x1]; decide
      have nj : ¬ (g2.1 68 29) = 0 := by rw [x3]; decide
      have r1 : f_Jd_refuseIf h 1 11 (nI i) = some h2 := by rw [eh]; exact zv_ref1 (φ := 11) (by decide) J1 hi
      have r2 : f_Mo_rule g 1 11 (nI k) = some g2 := by rw [eg]; exact zv_rule1 (φ := 11) (by decide) J2 hk
      have goC : f_Jd_enterBlock_59 h (nI i) (nI c) 1 = some h2 := by
        unfold f_Jd_enterBlock_59
        rw [r1, Option.bind_some, if_neg nf]
      have goM2 : ∃ g', f_Mo_beginBlock_70 g (nI k) 1 = some g' ∧ zfr zv_mf zv_mm [] g2 g' ∧ (g'.1 68 29) = nI 11 ∧ (g'.1 68 30) = p := by
        obtain ⟨g', z1, ty, _, z2⟩ := goM g2 1 (by rw [eg]; exact B2) (by rw [eg]; exact V2) (by rw [eg]; exact m1) (by rw [eg]; exact m2) (fun _ => by rw [eg]; exact ⟨rfl, fun _ => rfl⟩) (zv_ruleF nj)
        have e70 : f_Mo_beginBlock_70 g (nI k) 1 = f_Mo_beginBlock_70 g2 (nI k) 1 := by
          unfold f_Mo_beginBlock_70
          rw [r2, zv_ruleF nj]
        refine ⟨g', e70.trans z1, frM z2, ?_, ?_⟩
        all_goals
          obtain ⟨_, _, _, _, _, _, _, _, _, _, _, _, _, _, _, _, z⟩ := z2
          rw [z.1 _ _ (by decide)]
          assumption
      obtain ⟨g', z1, z2, z3, z4⟩ := goM2
      refine ⟨h2, g', ?_, ?_, f1, zfr_trans f2 z2, .inl ⟨11, by decide, by decide, x1, x2, z3, z4⟩⟩
      · unfold f_Jd_enterBlock_54
        rw [nI_clamp (by omega), zv_isF hc, goC]
        by_cases z : (h.2.1 36) c = -1
        · rw [if_pos z]
          have hcc : 50 ≤ c ∧ c < 60 := by
            rcases q11 with q | q
            · by_cases z2 : c < 50
              · rw [B9 c q.1 z2] at z; exact absurd z (zc_m1 (by omega))
              · omega
            · exact absurd z q
          rw [if_pos hcc, if_neg (by decide)]
        · rw [if_neg z]
      · unfold f_Mo_beginBlock_65
        rw [nI_clamp (by omega), m2, hst, Option.bind_some, B2]
        by_cases z : 41 ≤ c ∧ c < 60
        · rw [if_pos z, if_neg (by decide), z1]
        · rw [if_neg z, if_pos rfl]
          rcases hb0 with ⟨b, _, _, e⟩ | ⟨e, e'⟩
          · rw [e, Option.bind_some, if_neg (mt (zc_tl (k := 0) (by decide) (by omega)).mp (by omega)), z1]
          · exfalso
            rcases q11 with q | q
            · exact z q
            · rcases B8 c hc with y | ⟨y1, y2, y3⟩ | ⟨b, y1, y2, y3⟩
              · exact q y
              · omega
              · exact e' b y1 y2
    · -- a new block
      have n1 : ¬ (41 ≤ c ∧ c < 60) := fun z => q11 (.inl z)
      have n2 : (h.2.1 36) c = -1 := Classical.byContradiction fun z => q11 (.inr z)
      obtain ⟨g', z1, ty, zt, z2⟩ := goM g 0 B2 V2 m1 m2 (fun _ => ⟨rfl, fun _ => rfl⟩) zv_rule0
      have hty2 : kd = 1 → ∃ i', i' < 32784 ∧ (h.2.1 17) i = nI i' ∧ (h.2.1 16) i' = ty := fun q => by
        obtain ⟨t, _, e1, i', e2, e3, e4⟩ := zt q
        exact ⟨i', e2, e3, e4.trans e1.symm⟩
      obtain ⟨h', y1, y2⟩ := zv_ebR (ty := ty) B1 (by omega) V1 (by omega) hi hk3 c1 hc hty2 zv_ref0 J1
      have eb : f_Mo_blockNamed g w (nI nb) = some (-1) := by
        rcases hb0 with ⟨b, _, e, _⟩ | ⟨e, _⟩
        · rw [n2] at e; exact absurd e.symm (zc_m1 (by omega))
        · exact e
      refine ⟨h', g', ?_, ?_, ?_, frM z2, .inr ?_⟩
      · rw [nI_clamp (by omega), if_pos n2, zv_isF hc, if_neg (show ¬ (50 ≤ c ∧ c < 60) from fun z => n1 ⟨Nat.le_trans (show 41 ≤ 50 by decide) z.1, z.2⟩), if_pos rfl, y1]
      · rw [nI_clamp (by omega), m2, hst, Option.bind_some, if_neg n1, if_pos rfl, B2, eb, Option.bind_some, if_pos (by decide), z1]
      · obtain ⟨_, _, _, _, _, _, _, _, _, _, _, _, _, _, _, _, _, z⟩ := y2
        exact zfr_w z (by decide) (by decide) (by decide)
      · refine ⟨zv_beg2 HS ⟨⟨B1, B2, B3⟩, ⟨V1, V2, V3⟩, B4, BF, B5, B6, B7, B8, B9, B10⟩ HN HV HC HT J1 J2 hnb hnv hkd hw hc q10 n1 n2 zt y2 z2, ?_⟩
        obtain ⟨⟨_, _, _, _, _, op⟩, o1, _, _, _, o2, o3, _, o4, o5, o6, o7, o8, o9, o10, o11, _, _⟩ := y2
        obtain ⟨_, _, _, _, _, _, _, _, _, _, _, _, _, _, _, _, zg⟩ := z2
        refine ⟨⟨zg.2.1 _ (by decide), zg.2.1 _ (by decide), zg.2.1 _ (by decide)⟩, fun z => ⟨by rw [o6, if_pos ⟨z, rfl⟩], by rw [o5, if_pos ⟨z, rfl⟩]⟩, fun b hb => ⟨by rw [o1, if_neg (by omega)], by rw [o3, if_neg (by omega)]⟩, fun j hj => ⟨by rw [o4, if_neg (fun z => by omega)], by rw [o5, if_neg (fun z => by omega)], by rw [o6, if_neg (fun z => by omega)], by rw [o7, if_neg (fun z => by omega)], by rw [o8, if_neg (fun z => by omega)], by rw [o9, if_neg (fun z => by omega)], by rw [o10, if_neg (fun z => by omega)], by rw [o11, if_neg (fun z => by omega)]⟩, op, ?_⟩
        rw [o2, if_pos rfl]
        rcases hkd with e | e | e <;> subst e
        · exact ⟨1, by decide, rfl⟩
        · exact ⟨0, by decide, rfl⟩
        · exact ⟨960, by decide, rfl⟩
