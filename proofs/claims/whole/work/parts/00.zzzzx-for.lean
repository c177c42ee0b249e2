/-! The judge: a FOR is left (20, 21, 22, 29, 30, 36). -/
/-- a FOR's constants, on both sides -/
def yc_pt (h2 g2 : zs_H) (P : Nat → Prop) (xl xm : Int32) (a b cc ka kb kc : Nat) (st : Int32) : Prop := (xl = nI a ∧ a < 32784 ∧ P a) ∧ ((h2.2.1 18) a = nI b ∧ b < 32784 ∧ P b) ∧ ((h2.2.1 18) b = nI cc ∧ cc < 32784 ∧ P cc) ∧ (xm = nI ka ∧ ka < 33500) ∧ ((g2.2.1 78) ka = nI kb ∧ kb < 33500) ∧ ((g2.2.1 78) kb = nI kc ∧ kc < 33500) ∧ (zv_kc h2 a ∧ zv_kc h2 b) ∧ ((zv_kc h2 cc ∧ st = (h2.2.1 16) cc) ∨ (¬ zv_kc h2 cc ∧ st = 1)) ∧ ((g2.2.1 72) ka = 30 ∨ (g2.2.1 72) ka = 31) ∧ ((g2.2.1 72) kb = 30 ∨ (g2.2.1 72) kb = 31) ∧ ((((g2.2.1 72) kc = 30 ∨ (g2.2.1 72) kc = 31) ∧ st = (g2.2.1 74) kc ∧ ∃ e, e < 33500 ∧ (g2.2.1 78) kc = nI e ∧ (g2.2.1 72) e = 11) ∨ ((g2.2.1 72) kc = 11 ∧ st = 1)) ∧ ((g2.2.1 72) ka = (h2.2.1 13) a ∧ (g2.2.1 74) ka = (h2.2.1 16) a ∧ (g2.2.1 72) kb = (h2.2.1 13) b ∧ (g2.2.1 74) kb = (h2.2.1 16) b) ∧ ∀ ty : Nat, (decide ((g2.2.1 72) kc = 30 ∨ (g2.2.1 72) kc = 31) && yc_b ty ((g2.2.1 72) kc) ((g2.2.1 74) kc)) = (decide (zv_kc h2 cc) && yc_b ty ((h2.2.1 13) cc) ((h2.2.1 16) cc))
theorem yc_parts {LC LM : List (List Int32)} {F : Nat → Nat} {bb : Nat} {h2 g2 : zs_H} {P Q Qm : Nat → Prop} {l : zt_T} {xl xm up y : Int32} (hA : zg_A 19 (zg_run 19 0 l) = true) (A : yb_F F bb h2 g2 P Q l xl xm (-1) (-1)) (cM2 : zt_M LC LM g2 l Qm up xm y) : ∃ a b cc ka kb kc st, yc_pt h2 g2 P xl xm a b cc ka kb kc st := by
  obtain ⟨c1', kv1, o1, lt1, c2', kv2, o2, lt2, hk1, hk2, gr⟩ := yc_g19 hA
  have two : ∀ {z : Nat} {w : Int32}, (z = 30 ∨ z = 31) → w = nI z → w = 30 ∨ w = 31 := by
    intro z w h1 h2
    rcases h1 with e | e <;> subst e
    · exact .inl h2
    · exact .inr h2
  rcases gr with ⟨kv3, o3, lt3, el⟩ | ⟨c3', kv3, o3, lt3, kv4, o4, lt4, hk3, el⟩
  · have A' := A
    have M' := cM2
    rw [el] at A' M'
    obtain ⟨a, ka, a1, a2, a3, a4, a5, a6, a7, a8, a9, B1, _, _, M1⟩ := yc_cst2 hk1 A' M'
    obtain ⟨b, kb, b1, b2, b3, b4, b5, b6, b7, b8, b9, B2, _, _, M2⟩ := yc_cst2 hk2 B1 M1
    obtain ⟨cc, kc, d1, d2, d3, d4, d5, d6, d7⟩ := yc_k11 B2
    have nkc : ¬ zv_kc h2 cc := by unfold zv_kc; rw [d6]; decide
    have nkm : ¬ ((g2.2.1 72) kc = 30 ∨ (g2.2.1 72) kc = 31) := by rw [d7]; decide
    exact ⟨a, b, cc, ka, kb, kc, 1, ⟨a3, a2, a1⟩, ⟨b3, b2, b1⟩, ⟨d3, d2, d1⟩, ⟨a5, a4⟩, ⟨b5, b4⟩, ⟨d5, d4⟩, ⟨two hk1 a6, two hk2 b6⟩, .inr ⟨nkc, rfl⟩, two hk1 a8, two hk2 b8, .inr ⟨d7, rfl⟩, ⟨by rw [a8, a6], by rw [a9, a7], by rw [b8, b6], by rw [b9, b7]⟩, fun ty => by rw [decide_eq_false nkc, decide_eq_false nkm, Bool.false_and, Bool.false_and]⟩
  · have A' := A
    have M' := cM2
    rw [el] at A' M'
    obtain ⟨a, ka, a1, a2, a3, a4, a5, a6, a7, a8, a9, B1, _, _, M1⟩ := yc_cst2 hk1 A' M'
    obtain ⟨b, kb, b1, b2, b3, b4, b5, b6, b7, b8, b9, B2, _, _, M2⟩ := yc_cst2 hk2 B1 M1
    obtain ⟨cc, kc, d1, d2, d3, d4, d5, d6, d7, d8, d9, B3', _, _, M3⟩ := yc_cst2 hk3 B2 M2
    obtain ⟨ee, ke, f1, f2, f3, f4, f5, f6, f7⟩ := yc_k11 B3'
    have ykc : zv_kc h2 cc := two hk3 d6
    have ykm : ((g2.2.1 72) kc = 30 ∨ (g2.2.1 72) kc = 31) := two hk3 d8
    exact ⟨a, b, cc, ka, kb, kc, kv3.2, ⟨a3, a2, a1⟩, ⟨b3, b2, b1⟩, ⟨d3, d2, d1⟩, ⟨a5, a4⟩, ⟨b5, b4⟩, ⟨d5, d4⟩, ⟨two hk1 a6, two hk2 b6⟩, .inl ⟨ykc, d7.symm⟩, two hk1 a8, two hk2 b8, .inl ⟨ykm, d9.symm, ke, f4, f5, f7⟩, ⟨by rw [a8, a6], by rw [a9, a7], by rw [b8, b6], by rw [b9, b7]⟩, fun ty => by rw [decide_eq_true ykc, decide_eq_true ykm, d8, d6, d9, d7]⟩
theorem yc_forJ {LC LM : List (List Int32)} {nb nf sz n i k up d c a b cc ka kb kc : Nat} {F : Nat → Nat} {h2 g2 h3 : zs_H} {P : Nat → Prop} {w p st : Int32} (C3 : yb_cx LC LM nb nf sz F h3 g2) (hh3 : h3 = zs_uF h2 38 12 (nI n)) (lp2 : (h2.1 38 12) = nI (n + 1)) (hn : n ≤ 239) (hi : i < 32784) (hk : k < 33500) (hc : c < 6000) (hw : zt_nr LC LM (nI c) w) (ck : (h2.2.1 13) i = 19) (cv : (h2.2.1 16) i = nI c) (pc : (h2.2.1 15) i = p) (mk : (g2.2.1 72) k = 19) (mv : (g2.2.1 74) k = w) (pm : (g2.2.1 73) k = p) (ma : (g2.2.1 75) k = nI up) (LL3 : yc_L LC LM h3 g2 up d) (hd : d ≤ 239) (pt : yc_pt h2 g2 P ((h2.2.1 17) i) ((g2.2.1 76) k) a b cc ka kb kc st) :
    ∃ h' g', f_Jd_leave h2 (nI i) = some h' ∧ f_Mo_lookAlone_54 g2 (nI k) (nI 19) = some g' ∧ (zv_Fb h3 g2 h' g' ∨ (∃ u ty x, F (nb - 1) ≤ u ∧ u < F nb ∧ f_Mo_variable g2 ((g2.1 68 54)) w = some (nI u) ∧ (h3.2.1 32) (32 + u) = nI x ∧ (h3.2.1 31) (32 + u) = nI ty ∧ ((ty = 1 ∨ ty = 2) ∧ (h3.2.1 30) (32 + u) = -1) ∧ h' = yc_W i u ty h3 ∧ g' = zs_uM g2 101 k (nI x) ∧ ¬ st = 0 ∧ ∃ n, n ≤ 1000000 ∧ f_Cd_times ((h2.2.1 16) a) ((h2.2.1 16) b) st = some (Int64.ofNat n))) := by
  have h12 : ∀ t : Nat, t < 3 → ¬ t = 0 → t = 1 ∨ t = 2 := by intro t h1 h2; omega
  have hz := zF_big
  have A3 : h3.2 = h2.2 := by rw [hh3]; rfl
  have lp3 : (h3.1 38 12) = nI n := by rw [hh3]; rfl
  have J1 : (h3.1 38 3) = 0 := C3.1.2.2.2.2.2.2.2.1
  have n2 : (g2.1 68 29) = 0 := C3.1.2.2.2.2.2.2.2.2
  have hb := C3.2.2.1
  have B3 : nb ≤ 568 := C3.1.2.1.1.2.2
  have V3 : F nb ≤ 5900 := C3.1.2.1.2.1.2.2
  have HJ := C3.1.2.2.2.2.2.2.1 hb
  have pc3 : (h3.2.1 15) i = p := by rw [A3]; exact pc
  have cv3 : (h3.2.1 16) i = nI c := by rw [A3]; exact cv
  obtain ⟨m, L, l1, l2', l3, l4, l5⟩ := id LL3
  have eC0 : f_Jd_leave h2 (nI i) = f_Jd_judgeFor h2 (nI i) := zv_lv19 hi ck
  have eCf : f_Jd_judgeFor h2 (nI i) = zd_B (f_Jd_variableAt h3 (nI i) (-1)) fun v2 h3 => (if ((h3.1 38 3)) = 0 then (if zd_in v2 6000 then (if ((h3.2.1 31) v2.toNatClampNeg) = 0 then f_Jd_judgeFor_45 h3 (nI i) v2 ((h3.2.1 31) v2.toNatClampNeg) 1 else f_Jd_judgeFor_45 h3 (nI i) v2 ((h3.2.1 31) v2.toNatClampNeg) 0) else none) else (some h3)) := by
    unfold f_Jd_judgeFor
    rw [lp2, show nI (n + 1) - 1 = nI n by rw [show (1 : Int32) = nI 1 from rfl, zi_sub (by omega)]; rfl, ← hh3]
  have eM0 : f_Mo_lookAlone_54 g2 (nI k) (nI 19) = f_Mo_lookAtLoop g2 (nI k) := by
    rw [zv_54S (by decide) (by decide) n2]
    unfold f_Mo_lookAtStatements
    simp (config := { decide := true }) only [if_pos (zi_in (show k < 2147483648 by omega) hk), nI_clamp (show k < 2147483648 by omega), mk, if_false, if_true, Option.bind_fun_some]
  have eMl : f_Mo_lookAtLoop g2 (nI k) = (f_Mo_variable g2 ((g2.1 68 54)) (w)).bind fun v3 => (if 0 ≤ v3 then f_Mo_lookAtLoop_25 g2 (nI k) v3 0 else f_Mo_lookAtLoop_25 g2 (nI k) v3 1) := by
    unfold f_Mo_lookAtLoop
    rw [if_pos (zi_in (by omega) hk), nI_clamp (show k < 2147483648 by omega), mv]
  -- behind a fault the model does nothing more
  have asgF : ∀ (φ : Nat) (v : Int32), 0 < φ → φ < 1000 → (v = -1 ∨ ∃ u, u < 5900 ∧ v = nI u) → f_Mo_variable g2 ((g2.1 68 54)) (w) = some v → ∀ x y, f_Mo_lookAtLoop_78 (zv_ru φ k g2) (nI k) x y = some (zv_ru φ k g2) := by
    intro φ v a1 a2 a3 a4 x y
    have nf := zv_ruf (φ := φ) (k := k) (g := g2) a1 a2
    refine yc_78F (w := w) nf (zv_ruf0 a1 a2) hk mv ?_
    exact yc_asgFM (m := m) (p := up) (L := L) nf a3 (by rw [yc_hereF C3.1 hb hc hw]; exact a4) (yc_Af l2' rfl rfl rfl) (by omega) hk ma
  have bad : ∀ (φ : Nat) (h' : zs_H) (g' : zs_H), 0 < φ → φ < 1000 → zfr [] [13, 14, 16, 17] [] (zv_rf φ i h3) h' → (∃ g4, zfr [] yc_g [] g2 g4 ∧ g' = zv_ru φ k g4) → zv_Fb h3 g2 h' g' := by
    intro φ h' g' a1 a2 a5 ⟨g4, a6, a7⟩
    exact zv_mkF (φ := φ) (h2 := h3) (g2 := g4) a1 a2 pc3 pm zfr_rfl a6 a5 (by rw [a7]; exact zfr_rfl)
  have jfF : ∀ (x : Int32) (hf : zs_H), f_Jd_variableAt h3 (nI i) (-1) = some (x, hf) → ¬ (hf.1 38 3) = 0 → f_Jd_judgeFor h2 (nI i) = some hf := by
    intro x hf e nf
    rw [eCf, e]
    show (if (hf.1 38 3) = 0 then _ else some hf) = _
    rw [if_neg nf]
  rcases zv_vCase C3.1 hb hc hw with ⟨z1, z2⟩ | ⟨u, ins, so, v1, v2, v3, v4, v5, v6, v7, v8, s0, s1, s2, QQ⟩
  · -- 20
    refine ⟨zv_rf 20 i h3, zv_ru 20 k g2, eC0.trans (jfF _ _ (zv_vaC0 hi cv3 J1 z1) (zv_rff (by decide) (by decide))), ?_, .inl (bad 20 _ _ (by decide) (by decide) zfr_rfl ⟨g2, zfr_rfl, rfl⟩)⟩
    · rw [eM0, eMl, z2, Option.bind_some, if_neg (by decide)]
      unfold f_Mo_lookAtLoop_25 f_Mo_lookAtLoop_49 f_Mo_lookAtLoop_50 f_Mo_lookAtLoop_77
      rw [show (20 : Int32) = nI 20 from rfl, zv_rule1 (by decide) n2 hk, Option.bind_some, if_pos (by decide), zv_rule0, Option.bind_some, if_pos (by decide)]
      exact asgF 20 (-1) (by decide) (by decide) (.inl rfl) z2 _ _
  · have eM25 : f_Mo_lookAtLoop g2 (nI k) = if so = 0 then f_Mo_lookAtLoop_50 g2 (nI k) (nI u) 0 else f_Mo_lookAtLoop_50 g2 (nI k) (nI u) 1 := by
      rw [eMl, v5, Option.bind_some, if_pos (zv_neg (show u < 2147483648 by omega)).1]
      unfold f_Mo_lookAtLoop_25 f_Mo_lookAtLoop_49
      rw [zv_rule0, Option.bind_some, if_neg (zv_neg (show u < 2147483648 by omega)).2, if_pos (zi_in (by omega) (by omega)), nI_clamp (show u < 2147483648 by omega)]
      simp only [v7, show (nI so = 0) ↔ so = 0 from zc_eq (k := 0) (by decide) (by omega)]
    by_cases zs : so = 0
    · have zi : ins = -1 := s0.mp zs
      subst zs
      have eV := zv_vaC1n (form := -1) (by decide) hi cv3 J1 v4 v3 v6
      rw [if_pos zi] at eV
      obtain ⟨ty, x, s', y', ⟨t1, t2⟩, ⟨x1, x2⟩, _, _, _, _, _, q8, _⟩ := QQ
      have q8' : (g2.2.1 93) u = nI ty := by
        rcases q8 with ⟨_, _, e, _⟩ | ⟨_, e, _⟩ | ⟨B, _, _, e, _⟩
        · exact e
        · rw [v7] at e; exact absurd e (by decide)
        · rw [v7] at e; exact absurd e (by decide)
      clear q8
      rw [if_pos rfl] at eM25
      have eC45 : f_Jd_judgeFor h2 (nI i) = if ty = 0 then f_Jd_judgeFor_45 h3 (nI i) (nI (32 + u)) (nI ty) 1 else f_Jd_judgeFor_45 h3 (nI i) (nI (32 + u)) (nI ty) 0 := by
        rw [eCf, eV]
        show (if (h3.1 38 3) = 0 then _ else _) = _
        rw [if_pos J1, if_pos (zi_in (by omega) (by omega)), nI_clamp (show 32 + u < 2147483648 by omega), t2]
        simp only [zv_t0 t1]
      have eM78 : f_Mo_lookAtLoop g2 (nI k) = if ty = 0 then f_Mo_lookAtLoop_78 g2 (nI k) (nI u) 1 else f_Mo_lookAtLoop_78 g2 (nI k) (nI u) 0 := by
        rw [eM25]
        unfold f_Mo_lookAtLoop_50 f_Mo_lookAtLoop_77
        rw [zv_rule0, Option.bind_some, if_neg (zv_neg (show u < 2147483648 by omega)).2, if_pos (zi_in (by omega) (by omega)), nI_clamp (show u < 2147483648 by omega), q8', zv_isn t1]
        by_cases z : ty = 0
        · rw [if_pos z, if_pos z, if_pos rfl]
        · rw [if_neg z, if_neg z, if_neg (by decide)]
      obtain ⟨⟨a1, a2, a3⟩, ⟨b1, b2, b3⟩, ⟨d1, d2, d3⟩, ⟨p1, p2⟩, ⟨p3, p4⟩, ⟨p5, p6⟩, ⟨k1, k2⟩, hst, k3, k4, hstM, ⟨r1, r2, r3, r4⟩, r5⟩ := pt
      obtain ⟨T, hT, hT0⟩ := yc_tmT ((h2.2.1 16) a) ((h2.2.1 16) b) st
      have L71 : ∀ h4 : zs_H, h4.2 = h2.2 → f_Jd_judgeFor_L71 zF h4 (nI i) (nI (32 + u)) (nI ty) (nI a) (nI 0) = some (yc_W i u ty (yc_R (yc_b ty ((h2.2.1 13) a) ((h2.2.1 16) a) || yc_b ty ((h2.2.1 13) b) ((h2.2.1 16) b) || (decide (zv_kc h2 cc) && yc_b ty ((h2.2.1 13) cc) ((h2.2.1 16) cc)) || decide (st = 0) || decide (¬ T ≤ 1000000)) 36 i h4)) := by
        intro h4 e4
        have := yc_forC (h := h4) (i := i) (u := u) (ty := ty) (a := a) (b := b) (c := cc) (st := st) (T := T) hi t1 (by rw [e4]; exact a1) a2 (by rw [e4]; exact b1) b2 (by rw [e4]; exact d1) d2 (by unfold zv_kc; rw [e4]; exact k1) (by unfold zv_kc; rw [e4]; exact k2) (by unfold zv_kc; rw [e4]; exact hst) (by rw [e4]; exact hT)
        rw [this]
        unfold zv_kc
        rw [e4]
      have RF : ∀ (q : Bool) (h4 : zs_H), ¬ (h4.1 38 3) = 0 → yc_R q 36 i h4 = h4 := fun q h4 hf => by unfold yc_R; rw [if_neg (fun z => hf z.2)]
      have eC45F : ∀ (h4 : zs_H) (A : Int32) (hx : zs_H), f_Jd_refuseIf h3 A 22 (nI i) = some hx → f_Jd_judgeAssigned hx (nI (32 + u)) (nI i) = some h4 → h4.2 = h2.2 → f_Jd_judgeFor_45 h3 (nI i) (nI (32 + u)) (nI ty) A = some (yc_W i u ty (yc_R (yc_b ty ((h2.2.1 13) a) ((h2.2.1 16) a) || yc_b ty ((h2.2.1 13) b) ((h2.2.1 16) b) || (decide (zv_kc h2 cc) && yc_b ty ((h2.2.1 13) cc) ((h2.2.1 16) cc)) || decide (st = 0) || decide (¬ T ≤ 1000000)) 36 i h4)) := by
        intro h4 A hx y1 y2 y3
        unfold f_Jd_judgeFor_45
        rw [y1, Option.bind_some, y2, Option.bind_some, if_pos (zi_in (by omega) hi), nI_clamp (show i < 2147483648 by omega), y3, show (h2.2.1 17) i = nI a from a1]
        exact L71 h4 y3
      have fW : ∀ h4 : zs_H, zfr [] [13, 14, 16, 17] [] h4 (yc_W i u ty h4) := fun h4 => zfr_M (by decide) (zfr_M (by decide) zfr_rfl)
      by_cases zt : ty = 0
      · -- 22
        rw [if_pos zt] at eC45 eM78
        have f22 := zv_rff (φ := 22) (i := i) (h := h3) (by decide) (by decide)
        refine ⟨yc_W i u ty (zv_rf 22 i h3), zv_ru 22 k g2, ?_, ?_, .inl (bad 22 _ _ (by decide) (by decide) (fW _) ⟨g2, zfr_rfl, rfl⟩)⟩
        · rw [eC0, eC45, eC45F (zv_rf 22 i h3) 1 (zv_rf 22 i h3) (zv_ref1 (φ := 22) (by decide) J1 hi) (yc_asgFC (nb := nb) (n := n) f22 (by omega) HJ.1 B3 lp3 (by omega)) A3, RF _ _ f22]
        · rw [eM0, eM78]
          unfold f_Mo_lookAtLoop_78
          rw [show (22 : Int32) = nI 22 from rfl, zv_rule1 (by decide) n2 hk, Option.bind_some]
          have := asgF 22 (nI u) (by decide) (by decide) (.inr ⟨u, by omega, rfl⟩) v5 (nI u) 0
          unfold f_Mo_lookAtLoop_78 at this
          rw [zv_rule0, Option.bind_some] at this
          exact this
      · rw [if_neg zt] at eC45 eM78
        obtain ⟨h4, g4, x3, x4, x5⟩ := yc_asg (i := i) (k := k) (w := w) C3.1 hb hi hk hc hw v1 v2 v5 ma LL3 (by omega)
        have eM5 : f_Mo_lookAtLoop g2 (nI k) = if (g4.1 68 29) ≤ 0 then f_Mo_lookAtLoop_L125 zF (zs_uM g4 101 k ((g4.2.1 94) u)) (nI k) (nI u) 0 ((g4.2.1 76) k) else some g4 := by
          rw [eM78]
          unfold f_Mo_lookAtLoop_78
          rw [zv_rule0, Option.bind_some, if_pos (zi_in (by omega) hk)]
          have : (g2.2.1 74) (nI k).toNatClampNeg = w := by rw [nI_clamp (show k < 2147483648 by omega)]; exact mv
          rw [this, x4, Option.bind_some]
          simp only [if_pos (zi_in (show u < 2147483648 by omega) (show u < 8400 by omega)), if_pos (zi_in (show k < 2147483648 by omega) hk), nI_clamp (show u < 2147483648 by omega), nI_clamp (show k < 2147483648 by omega)]
        rcases x5 with ⟨y1, y2⟩ | ⟨φ, y0, y1, y2⟩
        · subst y1; subst y2
          have eC6 := eC45F h4 0 h4 zv_ref0 x3 A3
          rw [if_pos (by rw [n2]; decide), x2] at eM5
          have E5 : ∀ z j, ¬ z = 101 → (zs_uM g4 101 k (nI x)).2.1 z j = g4.2.1 z j := fun z j hz => by rw [zu_MM, if_neg (fun u => hz u.1)]
          have eM6 := yc_forM (g := zs_uM g4 101 k (nI x)) (k := k) (u := u) (ty := ty) (a := ka) (b := kb) (c := kc) (st := st) (T := T) hk (by omega) t1 (by rw [E5 _ _ (by decide)]; exact q8') (by rw [E5 _ _ (by decide)]; exact p1) p2 (by rw [E5 _ _ (by decide)]; exact p3) p4 (by rw [E5 _ _ (by decide)]; exact p5) p6 (by rw [E5 _ _ (by decide)]; exact k3) (by rw [E5 _ _ (by decide)]; exact k4) (by simp only [E5 _ _ (show ¬ (72 : Nat) = 101 by decide), E5 _ _ (show ¬ (74 : Nat) = 101 by decide), E5 _ _ (show ¬ (78 : Nat) = 101 by decide)]; exact hstM) (by rw [E5 _ _ (by decide), E5 _ _ (by decide), r2, r4]; exact hT)
          simp only [E5 _ _ (show ¬ (72 : Nat) = 101 by decide), E5 _ _ (show ¬ (74 : Nat) = 101 by decide)] at eM6
          rw [r1, r2, r3, r4, r5 ty] at eM6
          rw [show (g4.2.1 76) k = nI ka from p1, eM6] at eM5
          generalize hq : (yc_b ty ((h2.2.1 13) a) ((h2.2.1 16) a) || yc_b ty ((h2.2.1 13) b) ((h2.2.1 16) b) || (decide (zv_kc h2 cc) && yc_b ty ((h2.2.1 13) cc) ((h2.2.1 16) cc)) || decide (st = 0) || decide (¬ T ≤ 1000000)) = qb at eC6 eM5
          have J5 : ((zs_uM g4 101 k (nI x)).1 68 29) = 0 := n2
          cases qb with
          | true =>
            -- 36
            have eR : yc_R true 36 i h4 = zv_rf 36 i h4 := by unfold yc_R; rw [if_pos ⟨rfl, J1⟩]
            rw [eR] at eC6
            rw [if_pos rfl, show (36 : Int32) = nI 36 from rfl, zv_rule1 (by decide) J5 hk] at eM5
            exact ⟨_, _, eC0.trans (eC45.trans eC6), eM0.trans eM5, .inl (bad 36 _ _ (by decide) (by decide) (fW _) ⟨zs_uM g4 101 k (nI x), zfr_M (by decide) zfr_rfl, rfl⟩)⟩
          | false =>
            have eR : yc_R false 36 i h4 = h4 := by unfold yc_R; rw [if_neg (fun z => absurd z.1 (by decide))]
            rw [eR] at eC6
            rw [if_neg (by decide), zv_rule0] at eM5
            simp only [Bool.or_eq_false_iff, decide_eq_false_iff_not] at hq
            obtain ⟨⟨_, hq1⟩, hq2⟩ := hq
            obtain ⟨N, nn1, nn2⟩ := yc_ofN (hT0 hq1) (Classical.not_not.mp hq2)
            exact ⟨_, _, eC0.trans (eC45.trans eC6), eM0.trans eM5, .inr ⟨u, ty, x, v1, v2, v5, x1, t2, ⟨h12 ty t1 zt, v6.trans zi⟩, rfl, rfl, hq1, N, nn1, by rw [hT, nn2]⟩⟩
        · have hφ : 0 < φ ∧ φ < 1000 := by rcases y0 with e | e <;> omega
          subst y1; subst y2
          have f22 := zv_rff (φ := φ) (i := i) (h := h3) hφ.1 hφ.2
          refine ⟨yc_W i u ty (zv_rf φ i h3), zv_ru φ k g2, ?_, ?_, .inl (bad φ _ _ hφ.1 hφ.2 (fW _) ⟨g2, zfr_rfl, rfl⟩)⟩
          · rw [eC0, eC45, eC45F (zv_rf φ i h3) 0 h3 zv_ref0 x3 A3, RF _ _ f22]
          · rw [eM0, eM5, if_neg (zv_ruf0 hφ.1 hφ.2)]
    · -- 21
      have zi : ¬ ins = -1 := fun u => zs (s0.mpr u)
      have eV := zv_vaC1n (form := -1) (by decide) hi cv3 J1 v4 v3 v6
      rw [if_neg zi] at eV
      rw [if_neg zs] at eM25
      refine ⟨zv_rf 21 i h3, zv_ru 21 k g2, eC0.trans (jfF _ _ eV (zv_rff (by decide) (by decide))), ?_, .inl (bad 21 _ _ (by decide) (by decide) zfr_rfl ⟨g2, zfr_rfl, rfl⟩)⟩
      rw [eM0, eM25]
      unfold f_Mo_lookAtLoop_50 f_Mo_lookAtLoop_77
      rw [show (21 : Int32) = nI 21 from rfl, zv_rule1 (by decide) n2 hk, Option.bind_some, if_neg (zv_neg (show u < 2147483648 by omega)).2, if_pos (zi_in (by omega) (by omega))]
      have hx := asgF 21 (nI u) (by decide) (by decide) (.inr ⟨u, by omega, rfl⟩) v5 (nI u)
      show (if _ then f_Mo_lookAtLoop_78 (zv_ru 21 k g2) (nI k) (nI u) 1 else f_Mo_lookAtLoop_78 (zv_ru 21 k g2) (nI k) (nI u) 0) = _
      rw [hx 1, hx 0, ite_self]
