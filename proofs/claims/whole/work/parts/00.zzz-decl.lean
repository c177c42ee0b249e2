/-! The judge: a declaration, both sides in step: all of it behind the scan of its children. -/
def zv_tlM (g : zs_H) (k : Nat) (n2 pl : Int32) (kt : Nat) (cm : Int32) : Option zs_H := (if zd_in (nI kt) 33500 then (if zd_in (nI k) 33500 then (if zd_in ((g.2.1 75) (nI k).toNatClampNeg) 33500 then (if ((g.2.1 74) ((g.2.1 75) (nI k).toNatClampNeg).toNatClampNeg) = 0 then f_Mo_lookAtDeclaration_169 g (nI k) n2 pl (nI kt) cm (((g.2.1 72) (nI kt).toNatClampNeg) - 8) else (if (((g.2.1 72) (nI kt).toNatClampNeg) - 8) = 0 then f_Mo_lookAtDeclaration_169 g (nI k) n2 pl (nI kt) cm (((g.2.1 72) (nI kt).toNatClampNeg) - 8) else f_Mo_lookAtDeclaration_170 g (nI k) n2 pl (nI kt) cm (((g.2.1 72) (nI kt).toNatClampNeg) - 8) 1)) else none) else none) else none)
/-- 19 -/
theorem zv_d19 {Q : Nat → Prop} {LC LM : List (List Int32)} {nb nf i k : Nat} {F : Nat → Nat} {p0 : Int32} {h g h' g' : zs_H} (hb : nf + 1 = nb) (hi : i < 32784) (hk : k < 33500) (c0 : (h.2.1 15) i = p0) (m0 : (g.2.1 73) k = p0) (SE : zv_SE Q LC LM nb nf F h g h' g') : ∃ h2 g2, f_Jd_judgeDeclaration_346 h' (nI i) = some h2 ∧ f_Mo_rule g' (if (g'.2.1 88) (nb - 1) ≤ 4096 then 0 else 1) 19 (nI k) = some g2 ∧ zfr zv_cf zv_cm [] h h2 ∧ zfr zv_mf zv_mm [] g g2 ∧ ((∃ φ, zv_X φ p0 h2 g2) ∨ (zv_SE Q LC LM nb nf F h g h2 g2 ∧ h2 = h' ∧ ∃ y, y ≤ 4096 ∧ (h2.2.1 25) (8 + nb) = nI y)) := by
  obtain ⟨I, f1, f2, f3⟩ := SE
  have I0 := I
  obtain ⟨HS, ⟨⟨B1, B2, B3⟩, _⟩, _, _, ⟨_, _, C2, _⟩, _, HJ, J1, J2⟩ := I
  obtain ⟨y, y1, y2, y3, y4⟩ := C2 (nb - 1) (by omega) (by omega)
  rw [show 9 + (nb - 1) = 8 + nb by omega] at y2
  have F1 : zfr zv_cf zv_cm [] h h' := zfr_w f1 (by decide) (by decide) (by decide)
  have F2 : zfr zv_mf zv_mm [] g g' := zfr_w f2 (by decide) (by decide) (by decide)
  have e1 : (nI y ≤ 4096) ↔ y ≤ 4096 := zc_el (k := 4096) (by decide) (by omega)
  unfold f_Jd_judgeDeclaration_346 f_Jd_judgeDeclaration_370
  rw [(HJ (by omega)).1, if_pos (zi_in (by omega) (by omega)), nI_clamp (by omega), y2, y3]
  by_cases z : y ≤ 4096
  · rw [if_pos (e1.mpr z), if_pos (e1.mpr z), zv_ref0, zv_rule0]
    exact ⟨h', g', rfl, rfl, F1, F2, .inr ⟨⟨I0, f1, f2, f3⟩, rfl, y, z, y2⟩⟩
  · rw [if_neg (mt e1.mp z), if_neg (mt e1.mp z), show (19 : Int32) = nI 19 from rfl, zv_ref1 (by decide) J1 hi, zv_rule1 (by decide) J2 hk]
    refine ⟨_, _, rfl, rfl, zfr_F (by decide) (zfr_F (by decide) F1), zfr_F (by decide) (zfr_F (by decide) F2), .inl ⟨19, by decide, by decide, rfl, ?_, rfl, ?_⟩⟩
    · show (h'.2.1 15) i = p0
      rw [f1.2.1 _ (by decide)]; exact c0
    · show (g'.2.1 73) k = p0
      rw [f2.2.1 _ (by decide)]; exact m0
theorem zv_decl {Q : Nat → Prop} {LC LM : List (List Int32)} {nb nf ns i k k4 it kt f t s ic km kc y : Nat} {F : Nat → Nat} {q pl cn cm v of p0 : Int32} {h g : zs_H} (I : zv_I LC LM nb nf ns F q h g) (hb : nf + 1 = nb) (hns : ns < F nb) (hi : i < 32784) (hk : k < 33500) (hk4 : k4 < 33500) (hit : it < 32784) (hkt : kt < 33500) (ht : t < 3) (hs : s < 3) (c0 : (h.2.1 15) i = p0) (c1 : (h.2.1 13) it = nI f) (c2 : (h.2.1 18) it = cn) (c3 : (h.1 38 5) = nI s) (c4 : (h.1 38 6) = nI (32 + ns)) (m0 : (g.2.1 73) k = p0) (m1 : (g.2.1 72) kt = nI f) (m2 : (g.2.1 75) k = nI k4) (m3 : (g.2.1 74) k4 = nI s) (TY : zv_TY nb f t it kt of h g) (hcn : zv_cC cn ic kc v h) (hcm : zv_cM cm km kc v g) (hcc : cn = -1 ↔ cm = -1) (hv31 : kc = 31 → v = 0 ∨ v = 1)
    (hpq : (pl = -1 ∧ q = -1) ∨ ∃ p, p < 1536 ∧ (768 ≤ p → p % 256 < 64) ∧ pl = nI p ∧ q = nI p ∧ F nb = ns + 1 ∧ (h.2.1 21) (8 + nb) = 3) (hy : (h.2.1 25) (8 + nb) = nI y) (hy2 : y ≤ 4096) (hch : zv_ch Q g (F nb - ns) ((g.2.1 76) k)) :
    ∃ h' g', f_Jd_judgeDeclaration_89 h (nI i) (nI it) pl = some h' ∧ zv_tlM g k (nI (F nb - ns)) pl kt cm = some g' ∧ zfr zv_cf zv_cm [] h h' ∧ zfr zv_mf zv_mm [] g g' ∧ ((∃ φ, zv_X φ p0 h' g') ∨ (zv_SE Q LC LM nb nf F h g h' g' ∧ (∃ inst, ((s = 0 ∨ inst = -1) ∧ (f = 10 ∨ inst = -1 ∨ inst = -2)) ∧ zv_so (F (nb - 1)) ((h.2.1 21) (8 + nb)) ns (F nb) inst h h') ∧ ∃ y, y ≤ 4096 ∧ (h'.2.1 25) (8 + nb) = nI y)) := by
  have I0 := I
  obtain ⟨hf, hv8, hof, _⟩ := zv_TYof TY
  obtain ⟨HS, ⟨⟨B1, B2, B3⟩, ⟨V1, V2, V3⟩, _⟩, _, _, _, _, HJ, J1, J2⟩ := I
  have hpl : zv_pv pl := by
    rcases hpq with ⟨z, _⟩ | ⟨p, z1, z2, z3, _⟩
    · exact .inl z
    · exact .inr ⟨p, z1, z2, z3⟩
  have hbl : (h.1 38 4) = nI (8 + nb) := (HJ (by omega)).1
  have eC1 : f_Jd_judgeDeclaration_89 h (nI i) (nI it) pl = f_Jd_judgeDeclaration_165 h (nI i) (nI it) pl cn (nI f) (nI t) := by
    unfold f_Jd_judgeDeclaration_89
    have hi1 : zd_in (nI it) 32784 := zi_in (by omega) hit
    have cit : (nI it).toNatClampNeg = it := nI_clamp (by omega)
    simp only [if_pos hi1, cit, c1, c2]
    rcases TY with ⟨r1, r2, r3, r4⟩ | ⟨r1, r2, i1, i2, i3, k1, k2, k3, lo, hi, ⟨b1, b2, b3, b4, b5, b6⟩, ⟨d1, d2, d3, d4, d5, d6⟩, _⟩ | ⟨r1, r2, _⟩
    · subst r1
      rw [if_pos (by decide), r2]
    · subst r1
      unfold f_Tr_second
      rw [if_neg (by decide), if_pos (by decide)]
      simp only [if_pos hi1, cit, d1, if_neg (zc_m1 (show i1 < 2147483648 by omega)), if_pos (zi_in (show i1 < 2147483648 by omega) b1), nI_clamp (show i1 < 2147483648 by omega), d2, Option.bind_some, if_pos (zi_in (show i2 < 2147483648 by omega) b2), nI_clamp (show i2 < 2147483648 by omega), d3, if_pos (zi_in (show i3 < 2147483648 by omega) b3), nI_clamp (show i3 < 2147483648 by omega), d6]
    · subst r1; subst r2
      rw [if_neg (by decide), if_neg (by decide)]; rfl
  have eC2 := zv_d43C (x1 := nI i) (x2 := nI it) (pl := pl) (cn := cn) (ty := nI t) hs hf c3
  have eM2 : zv_tlM g k (nI (F nb - ns)) pl kt cm = _ := zv_d43M (n2 := nI (F nb - ns)) (pl := pl) (cn := cm) hs hf hk hk4 hkt m2 m3 m1
  rw [zv_170] at eM2
  have ea18 : zv_a18 f t kc pl cm v = zv_a18 f t kc pl cn v := by
    unfold zv_a18
    by_cases z : cn = -1
    · rw [if_pos z, if_pos (hcc.mp z)]
    · rw [if_neg z, if_neg (mt hcc.mpr z)]
  rw [eC1, eC2, eM2]
  -- a fault
  have bad : ∀ φ : Nat, 0 < φ → φ < 1000 → ∃ h1 g1, h1 = zs_uF (zs_uF h 38 3 (nI φ)) 38 0 ((h.2.1 15) i) ∧ g1 = zs_uF (zs_uF g 68 29 (nI φ)) 68 30 ((g.2.1 73) k) ∧ zfr zv_cf zv_cm [] h h1 ∧ zfr zv_mf zv_mm [] g g1 ∧ zv_X φ p0 h1 g1 ∧ ¬ (h1.1 38 3) = 0 ∧ ¬ (g1.1 68 29) ≤ 0 := by
    intro φ a b
    refine ⟨_, _, rfl, rfl, zfr_F (by decide) (zfr_F (by decide) zfr_rfl), zfr_F (by decide) (zfr_F (by decide) zfr_rfl), ⟨a, b, rfl, c0, rfl, m0⟩, ?_, ?_⟩
    · show ¬ nI φ = 0
      exact fun z => by have := (zc_eq (k := 0) (by decide) (by omega)).mp z; omega
    · show ¬ nI φ ≤ 0
      exact fun z => by have := (zc_el (k := 0) (by decide) (by omega)).mp z; omega
  by_cases A43 : s = 0 ∨ f = 8
  · rw [show zv_a43 s f = 0 from if_pos A43, zv_ref0, zv_rule0, Option.bind_some, Option.bind_some, zv_d15C hf hpl, zv_233, show zv_p15M g (nI k) (nI (F nb - ns)) pl cm f kt = _ from zv_d15M hf hpl hkt hv8, zv_213]
    by_cases A15 : zv_a15 f t pl = 0
    · rw [A15, zv_ref0, zv_rule0, Option.bind_some, Option.bind_some, show zv_b18C h (nI i) (nI it) pl cn f t = _ from zv_d18C hf ht hpl hcn, zv_ofM hkt TY, zv_d18M hf ht hpl hcm hof, ea18]
      by_cases A18 : zv_a18 f t kc pl cn v = 0
      · rw [A18, zv_ref0, zv_rule0, Option.bind_some, Option.bind_some]
        -- all is well
        obtain ⟨co, ⟨hco, hc01⟩, eC3⟩ : ∃ co, (zv_co cm co g ∧ (t = 0 → co = 0 ∨ co = 1)) ∧ f_Jd_judgeDeclaration_311 h (nI i) (nI it) pl cn (nI t) = (f_Jd_settle h (nI it) (nI t) pl co).bind fun h2 => f_Jd_judgeDeclaration_346 h2 (nI i) := by
          unfold f_Jd_judgeDeclaration_311 f_Jd_judgeDeclaration_343
          rw [if_pos J1]
          rcases hcn with z | ⟨z1, z2, z3, z4, z5⟩
          · exact ⟨0, ⟨.inl ⟨hcc.mp z, rfl⟩, fun _ => .inl rfl⟩, by rw [if_pos z]⟩
          · have nz : ¬ cn = -1 := by rw [z1]; exact zc_m1 (by omega)
            rcases hcm with u | ⟨u1, u2, u3, u4, u5⟩
            · exact absurd (hcc.mpr u) nz
            · have c01 : t = 0 → v = 0 ∨ v = 1 := fun t0 => by
                unfold zv_a18 at A18
                rw [if_neg nz] at A18
                by_cases y1 : f = 10
                · rw [if_pos y1] at A18; exact absurd A18 (by decide)
                rw [if_neg y1] at A18
                by_cases y2 : ¬ pl = -1 ∧ (pl / 256 = 0 ∨ pl / 256 = 3)
                · rw [if_pos y2] at A18; exact absurd A18 (by decide)
                rw [if_neg y2] at A18
                unfold zv_bd at A18
                by_cases y3 : kc = 31
                · exact hv31 y3
                · rw [if_neg y3, if_pos t0] at A18; exact absurd A18 (by decide)
              exact ⟨v, ⟨.inr ⟨km, u2, u1, u5⟩, c01⟩, by rw [if_neg nz, z1, if_pos (zi_in (by omega) z2), nI_clamp (by omega), z5]⟩
        obtain ⟨sz, inst, low, ⟨s1, s1l⟩, s2, s3, s4, s5, s6⟩ := zv_sizes (pl := pl) (co := co) (x1 := nI k) (x2 := nI (F nb - ns)) (cm := cm) I0 hb hit hkt c1 TY
        have e462 : f_Mo_lookAtDeclaration_462 g (nI k) (nI (F nb - ns)) pl (nI kt) cm (nI (f - 8)) of (nI sz) = f_Mo_lookAtDeclaration_L480 zF g (nI k) pl (nI kt) cm (nI (f - 8)) of (nI sz) (nI ns) ((g.2.1 76) k) := by
          unfold f_Mo_lookAtDeclaration_462
          rw [if_pos (zi_in (by omega) hk), nI_clamp (by omega), V2, zi_sub (by omega), show F nb - (F nb - ns) = ns by omega]
        rw [eC3, s5, s6, e462]
        unfold f_Jd_settle_118
        rw [c4]
        have fin : ∃ h' g', f_Jd_settle_L124 zF h (nI t) pl co inst low (nI sz) (nI (32 + ns)) = some h' ∧ f_Mo_lookAtDeclaration_L480 zF g (nI k) pl (nI kt) cm (nI (f - 8)) of (nI sz) (nI ns) ((g.2.1 76) k) = f_Mo_rule g' (if (g'.2.1 88) (nb - 1) ≤ 4096 then 0 else 1) 19 (nI k) ∧ zv_SE Q LC LM nb nf F h g h' g' ∧ zv_so (F (nb - 1)) ((h.2.1 21) (8 + nb)) ns (F nb) inst h h' := by
          have hz := zF_big
          rcases hpq with ⟨z1, z2⟩ | ⟨p, p1, p2, p3, p4, p5, p6⟩
          · subst z1; subst z2
            have : (F nb - ns) * sz ≤ 5900 * 30000 := Nat.mul_le_mul (by omega) s1
            exact zv_settleU hb ht s1 ⟨hc01, s1l, fun p z hp => absurd z.symm (zc_m1 (by omega))⟩ (F nb - ns) zF zF ns y ((g.2.1 76) k) h g (by omega) (by omega) (by omega) I0 hy (by omega) s3 s4 hco hch
          · subst p3; subst p4
            have n1 : ¬ nI p = -1 := zc_m1 (by omega)
            have f8 : f = 8 := by
              unfold zv_a15 at A15
              rw [if_neg n1] at A15
              by_cases zz : f = 8
              · exact zz
              · rw [if_neg (fun u => zz u.1)] at A15; exact absurd A15 (by decide)
            have e1 := s2 f8
            subst e1
            rw [show F nb - ns = 1 by omega] at hch
            have i1 : inst = -1 := by
              rw [f8] at s3
              rcases s3 with ⟨e, _⟩ | ⟨_, e, _⟩ | ⟨B, _, _, e, _⟩
              · exact e
              · exact absurd e (by decide)
              · exact absurd e (by decide)
            have dt0 : ∀ p' : Nat, nI p = nI p' → p' < 1536 → (p' < 768 ↔ t = 0) := fun p' e hp' => by
              have ep : p = p' := (nI_eq (by omega) (by omega)).mp e
              subst ep
              have e7 : ((768 : Int32) ≤ nI p) ↔ 768 ≤ p := zc_le (k := 768) (by decide) (by omega)
              unfold zv_a15 at A15
              rw [if_neg n1] at A15
              by_cases z7 : 768 ≤ p
              · rw [if_pos (e7.mpr z7)] at A15
                by_cases zz : f = 8 ∧ nI t = 1
                · have := (zc_eq (k := 1) (by decide) (by omega)).mp zz.2
                  omega
                · rw [if_neg zz] at A15; exact absurd A15 (by decide)
              · rw [if_neg (mt e7.mp z7)] at A15
                by_cases zz : f = 8 ∧ nI t = 0
                · have := (zc_eq (k := 0) (by decide) (by omega)).mp zz.2
                  omega
                · rw [if_neg zz] at A15; exact absurd A15 (by decide)
            exact zv_settleP hb ht ⟨hc01, s1l, dt0⟩ (by omega) (by omega) (by omega) I0 hy (by omega) s3 s4 hco hch p1 p2 p6 i1
        obtain ⟨h', g', w1, w2, w3, w4⟩ := fin
        rw [w1, w2, Option.bind_some]
        obtain ⟨h9, g9, x1, x2, x3, x4, x5⟩ := zv_d19 hb hi hk c0 m0 w3
        refine ⟨h9, g9, x1, x2, x3, x4, ?_⟩
        rcases x5 with x5 | ⟨x5, x6, x7⟩
        · exact .inl x5
        · have ii : s = 0 ∨ inst = -1 := by
            rcases A43 with z | z
            · exact .inl z
            · right
              rw [z] at s3
              rcases s3 with ⟨e, _⟩ | ⟨_, e, _⟩ | ⟨B, _, _, e, _⟩
              · exact e
              · exact absurd e (by decide)
              · exact absurd e (by decide)
          have ij : f = 10 ∨ inst = -1 ∨ inst = -2 := by
            rcases s3 with ⟨e, _⟩ | ⟨e, _⟩ | ⟨B, _, _, e, _⟩
            · exact .inr (.inl e)
            · exact .inr (.inr e)
            · left
              have h8 : f - 8 < 2147483648 := by rcases hf with e | e | e <;> rw [e] <;> decide
              have e2 := (zc_eq (k := 2) (by decide) h8).mp e
              rcases hf with z | z | z
              · rw [z] at e2; exact absurd e2 (by decide)
              · rw [z] at e2; exact absurd e2 (by decide)
              · exact z
          exact .inr ⟨x5, ⟨inst, ⟨ii, ij⟩, by rw [x6]; exact w4⟩, x7⟩
      · obtain ⟨h1, g1, eh, eg, b1, b2, b3, b4, b5⟩ := bad 18 (by decide) (by decide)
        refine ⟨h1, g1, ?_, ?_, b1, b2, .inl ⟨18, b3⟩⟩
        · rw [show f_Jd_refuseIf h (zv_a18 f t kc pl cn v) 18 (nI i) = some h1 by rw [eh]; exact zv_ref1 (φ := 18) A18 J1 hi, Option.bind_some]
          unfold f_Jd_judgeDeclaration_311 f_Jd_judgeDeclaration_346 f_Jd_judgeDeclaration_370
          rw [if_neg b4, show (h1.1 38 4) = nI (8 + nb) by rw [eh]; exact hbl, if_pos (zi_in (by omega) (by omega)), zv_refF b4, zv_refF b4, Option.bind_some]
          split <;> rfl
        · rw [show f_Mo_rule g (zv_a18 f t kc pl cn v) 18 (nI k) = some g1 by rw [eg]; exact zv_rule1 (φ := 18) A18 J2 hk, Option.bind_some]
          unfold f_Mo_lookAtDeclaration_398
          rw [if_neg b5]
    · obtain ⟨h1, g1, eh, eg, b1, b2, b3, b4, b5⟩ := bad 15 (by decide) (by decide)
      have TY1 : zv_TY nb f t it kt of h1 g1 := by rw [eh, eg]; exact TY
      refine ⟨h1, g1, ?_, ?_, b1, b2, .inl ⟨15, b3⟩⟩
      · rw [show f_Jd_refuseIf h (zv_a15 f t pl) 15 (nI i) = some h1 by rw [eh]; exact zv_ref1 (φ := 15) A15 J1 hi, Option.bind_some]
        exact zv_afC18 (ic := ic) (kc := kc) (v := v) hf ht hpl (by rw [eh]; exact hcn) b4 (by rw [eh]; exact hbl) B3
      · rw [show f_Mo_rule g (zv_a15 f t pl) 15 (nI k) = some g1 by rw [eg]; exact zv_rule1 (φ := 15) A15 J2 hk, Option.bind_some]
        exact zv_afM18 (km := km) (kc := kc) (v := v) ht hpl hkt TY1 (by rw [eg]; exact hcm) b5
  · obtain ⟨h1, g1, eh, eg, b1, b2, b3, b4, b5⟩ := bad 43 (by decide) (by decide)
    have TY1 : zv_TY nb f t it kt of h1 g1 := by rw [eh, eg]; exact TY
    have a1 : zv_a43 s f = 1 := if_neg A43
    rw [a1]
    refine ⟨h1, g1, ?_, ?_, b1, b2, .inl ⟨43, b3⟩⟩
    · rw [show f_Jd_refuseIf h 1 43 (nI i) = some h1 by rw [eh]; exact zv_ref1 (φ := 43) (by decide) J1 hi, Option.bind_some]
      exact zv_afC15 (ic := ic) (kc := kc) (v := v) hf ht hpl (by rw [eh]; exact hcn) b4 (by rw [eh]; exact hbl) B3
    · rw [show f_Mo_rule g 1 43 (nI k) = some g1 by rw [eg]; exact zv_rule1 (φ := 43) (by decide) J2 hk, Option.bind_some]
      exact zv_afM15 (km := km) (kc := kc) (v := v) ht hpl hkt TY1 (by rw [eg]; exact hcm) b5
