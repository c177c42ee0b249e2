section
/-! The judge: a FOR is left (20, 21, 22, 29, 30, 36). -/
/-- a FOR's constants, on both sides -/
def yc_pt (h2 g2 : zs_H) (P : Nat → Prop) (xl xm : Int32) (a b cc ka kb kc : Nat) (st : Int32) : Prop := (xl = nI a ∧ a < 32784 ∧ P a) ∧ ((h2.2.1 18) a = nI b ∧ b < 32784 ∧ P b) ∧ ((h2.2.1 18) b = nI cc ∧ cc < 32784 ∧ P cc) ∧ (xm = nI ka ∧ ka < 33500) ∧ ((g2.2.1 78) ka = nI kb ∧ kb < 33500) ∧ ((g2.2.1 78) kb = nI kc ∧ kc < 33500) ∧ (zv_kc h2 a ∧ zv_kc h2 b) ∧ ((zv_kc h2 cc ∧ st = (h2.2.1 16) cc) ∨ (¬ zv_kc h2 cc ∧ st = 1)) ∧ ((g2.2.1 72) ka = 30 ∨ (g2.2.1 72) ka = 31) ∧ ((g2.2.1 72) kb = 30 ∨ (g2.2.1 72) kb = 31) ∧ ((((g2.2.1 72) kc = 30 ∨ (g2.2.1 72) kc = 31) ∧ st = (g2.2.1 74) kc ∧ ∃ e, e < 33500 ∧ (g2.2.1 78) kc = nI e ∧ (g2.2.1 72) e = 11) ∨ ((g2.2.1 72) kc = 11 ∧ st = 1)) ∧ ((g2.2.1 72) ka = (h2.2.1 13) a ∧ (g2.2.1 74) ka = (h2.2.1 16) a ∧ (g2.2.1 72) kb = (h2.2.1 13) b ∧ (g2.2.1 74) kb = (h2.2.1 16) b) ∧ ∀ ty : Nat, (decide ((g2.2.1 72) kc = 30 ∨ (g2.2.1 72) kc = 31) && yc_b ty ((g2.2.1 72) kc) ((g2.2.1 74) kc)) = (decide (zv_kc h2 cc) && yc_b ty ((h2.2.1 13) cc) ((h2.2.1 16) cc))
theorem yc_parts {LC LM : List (List Int32)} {F : Nat → Nat} {bb : Nat} {h2 g2 : zs_H} {P Q Qm : Nat → Prop} {l : zt_T} {xl xm up y : Int32} (hA : zg_A 19 (zg_run 19 0 l) = true) (A : yb_F F bb h2 g2 P Q l xl xm (-1) (-1)) (cM2 : zt_M LC LM g2 l Qm up xm y) : ∃ a b cc ka kb kc st, yc_pt h2 g2 P xl xm a b cc ka kb kc st := by
  obtain ⟨c1', kv1, o1, lt1, c2', kv2, o2, lt2, hk1, hk2, gr⟩ := yc_g19 hA
  have two : ∀ {z : Nat} {w : Int32}, (z = 30 ∨ z = 31) → w = nI z → w = 30 ∨ w = 31 := by
    intro z w h1 h2
    rcases h1 with e | e <;> subst e
    · exact .inl h2
    · exact .inr h2
  rcases gr with ⟨kv3, o3, lt3, el⟩ | ⟨c3', kv3, o3, lt3, kv4, o4, lt4, hk3, el⟩
  · have A' := A
    have M' := cM2
    rw [el] at A' M'
    obtain ⟨a, ka, a1, a2, a3, a4, a5, a6, a7, a8, a9, B1, _, _, M1⟩ := yc_cst2 hk1 A' M'
    obtain ⟨b, kb, b1, b2, b3, b4, b5, b6, b7, b8, b9, B2, _, _, M2⟩ := yc_cst2 hk2 B1 M1
    obtain ⟨cc, kc, d1, d2, d3, d4, d5, d6, d7⟩ := yc_k11 B2
    have nkc : ¬ zv_kc h2 cc := by unfold zv_kc; rw [d6]; decide
    have nkm : ¬ ((g2.2.1 72) kc = 30 ∨ (g2.2.1 72) kc = 31) := by rw [d7]; decide
    exact ⟨a, b, cc, ka, kb, kc, 1, ⟨a3, a2, a1⟩, ⟨b3, b2, b1⟩, ⟨d3, d2, d1⟩, ⟨a5, a4⟩, ⟨b5, b4⟩, ⟨d5, d4⟩, ⟨two hk1 a6, two hk2 b6⟩, .inr ⟨nkc, rfl⟩, two hk1 a8, two hk2 b8, .inr ⟨d7, rfl⟩, ⟨by rw [a8, a6], by rw [a9, a7], by rw [b8, b6], by rw [b9, b7]⟩, fun ty => by rw [decide_eq_false nkc, decide_eq_false nkm, Bool.false_and, Bool.false_and]⟩
  · have A' := A
    have M' := cM2
    rw [el] at A' M'
    obtain ⟨a, ka, a1, a2, a3, a4, a5, a6, a7, a8, a9, B1, _, _, M1⟩ := yc_cst2 hk1 A' M'
    obtain ⟨b, kb, b1, b2, b3, b4, b5, b6, b7, b8, b9, B2, _, _, M2⟩ := yc_cst2 hk2 B1 M1
    obtain ⟨cc, kc, d1, d2, d3, d4, d5, d6, d7, d8, d9, B3', _, _, M3⟩ := yc_cst2 hk3 B2 M2
    obtain ⟨ee, ke, f1, f2, f3, f4, f5, f6, f7⟩ := yc_k11 B3'
    have ykc : zv_kc h2 cc := two hk3 d6
    have ykm : ((g2.2.1 72) kc = 30 ∨ (g2.2.1 72) kc = 31) := two hk3 d8
    exact ⟨a, b, cc, ka, kb, kc, kv3.2, ⟨a3, a2, a1⟩, ⟨b3, b2, b1⟩, ⟨d3, d2, d1⟩, ⟨a5, a4⟩, ⟨b5, b4⟩, ⟨d5, d4⟩, ⟨two hk1 a6, two hk2 b6⟩, .inl ⟨ykc, d7.symm⟩, two hk1 a8, two hk2 b8, .inl ⟨ykm, d9.symm, ke, f4, f5, f7⟩, ⟨by rw [a8, a6], by rw [a9, a7], by rw [b8, b6], by rw [b9, b7]⟩, fun ty => by rw [decide_eq_true ykc, decide_eq_true ykm, d8, d6, d9, d7]⟩
theorem yc_forJ {LC LM : List (List Int32)} {nb nf sz n i k up d c a b cc ka kb kc : Nat} {F : Nat → Nat} {h2 g2 h3 : zs_H} {P : Nat → Prop} {w p st : Int32} (C3 : yb_cx LC LM nb nf sz F h3 g2) (hh3 : h3 = zs_uF h2 38 12 (nI n)) (lp2 : (h2.1 38 12) = nI (n + 1)) (hn : n ≤ 239) (hi : i < 32784) (hk : k < 33500) (hc : c < 6000) (hw : zt_nr LC LM (nI c) w) (ck : (h2.2.1 13) i = 19) (cv : (h2.2.1 16) i = nI c) (pc : (h2.2.1 15) i = p) (mk : (g2.2.1 72) k = 19) (mv : (g2.2.1 74) k = w) (pm : (g2.2.1 73) k = p) (ma : (g2.2.1 75) k = nI up) (LL3 : yc_L LC LM h3 g2 up d) (hd : d ≤ 239) (pt : yc_pt h2 g2 P ((h2.2.1 17) i) ((g2.2.1 76) k) a b cc ka kb kc st) :
    ∃ h' g', f_Jd_leave h2 (nI i) = some h' ∧ f_Mo_lookAlone_54 g2 (nI k) (nI 19) = some g' ∧ (zv_Fb h3 g2 h' g' ∨ (∃ u ty x, F (nb - 1) ≤ u ∧ u < F nb ∧ f_Mo_variable g2 ((g2.1 68 54)) w = some (nI u) ∧ (h3.2.1 32) (32 + u) = nI x ∧ (h3.2.1 31) (32 + u) = nI ty ∧ ((ty = 1 ∨ ty = 2) ∧ (h3.2.1 30) (32 + u) = -1) ∧ h' = yc_W i u ty h3 ∧ g' = zs_uM g2 101 k (nI x) ∧ ¬ st = 0 ∧ ∃ n, n ≤ 1000000 ∧ f_Cd_times ((h2.2.1 16) a) ((h2.2.1 16) b) st = some (Int64.ofNat n))) := by
  have h12 : ∀ t : Nat, t < 3 → ¬ t = 0 → t = 1 ∨ t = 2 := by intro t h1 h2; omega
  have hz := zF_big
  have A3 : h3.2 = h2.2 := by rw [hh3]; rfl
  have lp3 : (h3.1 38 12) = nI n := by rw [hh3]; rfl
  have J1 : (h3.1 38 3) = 0 := C3.1.2.2.2.2.2.2.2.1
  have n2 : (g2.1 68 29) = 0 := C3.1.2.2.2.2.2.2.2.2
  have hb := C3.2.2.1
  have B3 : nb ≤ 568 := C3.1.2.1.1.2.2
  have V3 : F nb ≤ 5900 := C3.1.2.1.2.1.2.2
  have HJ := C3.1.2.2.2.2.2.2.1 hb
  have pc3 : (h3.2.1 15) i = p := by rw [A3]; exact pc
  have cv3 : (h3.2.1 16) i = nI c := by rw [A3]; exact cv
  obtain ⟨m, L, l1, l2', l3, l4, l5⟩ := id LL3
  have eC0 : f_Jd_leave h2 (nI i) = f_Jd_judgeFor h2 (nI i) := zv_lv19 hi ck
  have eCf : f_Jd_judgeFor h2 (nI i) = zd_B (f_Jd_variableAt h3 (nI i) (-1)) fun v2 h3 => (if ((h3.1 38 3)) = 0 then (if zd_in v2 6000 then (if ((h3.2.1 31) v2.toNatClampNeg) = 0 then f_Jd_judgeFor_45 h3 (nI i) v2 ((h3.2.1 31) v2.toNatClampNeg) 1 else f_Jd_judgeFor_45 h3 (nI i) v2 ((h3.2.1 31) v2.toNatClampNeg) 0) else none) else (some h3)) := by
    unfold f_Jd_judgeFor
    rw [lp2, show nI (n + 1) - 1 = nI n by rw [show (1 : Int32) = nI 1 from rfl, zi_sub (by omega)]; rfl, ← hh3]
  have eM0 : f_Mo_lookAlone_54 g2 (nI k) (nI 19) = f_Mo_lookAtLoop g2 (nI k) := by
    rw [zv_54S (by decide) (by decide) n2]
    unfold f_Mo_lookAtStatements
    simp (config := { decide := true }) only [if_pos (zi_in (show k < 2147483648 by omega) hk), nI_clamp (show k < 2147483648 by omega), mk, if_false, if_true, Option.bind_fun_some]
  have eMl : f_Mo_lookAtLoop g2 (nI k) = (f_Mo_variable g2 ((g2.1 68 54)) (w)).bind fun v3 => (if 0 ≤ v3 then f_Mo_lookAtLoop_25 g2 (nI k) v3 0 else f_Mo_lookAtLoop_25 g2 (nI k) v3 1) := by
    unfold f_Mo_lookAtLoop
    rw [if_pos (zi_in (by omega) hk), nI_clamp (show k < 2147483648 by omega), mv]
  -- behind a fault the model does nothing more
  have asgF : ∀ (φ : Nat) (v : Int32), 0 < φ → φ < 1000 → (v = -1 ∨ ∃ u, u < 5900 ∧ v = nI u) → f_Mo_variable g2 ((g2.1 68 54)) (w) = some v → ∀ x y, f_Mo_lookAtLoop_78 (zv_ru φ k g2) (nI k) x y = some (zv_ru φ k g2) := by
    intro φ v a1 a2 a3 a4 x y
    have nf := zv_ruf (φ := φ) (k := k) (g := g2) a1 a2
    refine yc_78F (w := w) nf (zv_ruf0 a1 a2) hk mv ?_
    exact yc_asgFM (m := m) (p := up) (L := L) nf a3 (by rw [yc_hereF C3.1 hb hc hw]; exact a4) (yc_Af l2' rfl rfl rfl) (by omega) hk ma
  have bad : ∀ (φ : Nat) (h' : zs_H) (g' : zs_H), 0 < φ → φ < 1000 → zfr [] [13, 14, 16, 17] [] (zv_rf φ i h3) h' → (∃ g4, zfr [] yc_g [] g2 g4 ∧ g' = zv_ru φ k g4) → zv_Fb h3 g2 h' g' := by
    intro φ h' g' a1 a2 a5 ⟨g4, a6, a7⟩
    exact zv_mkF (φ := φ) (h2 := h3) (g2 := g4) a1 a2 pc3 pm zfr_rfl a6 a5 (by rw [a7]; exact zfr_rfl)
  have jfF : ∀ (x : Int32) (hf : zs_H), f_Jd_variableAt h3 (nI i) (-1) = some (x, hf) → ¬ (hf.1 38 3) = 0 → f_Jd_judgeFor h2 (nI i) = some hf := by
    intro x hf e nf
    rw [eCf, e]
    show (if (hf.1 38 3) = 0 then _ else some hf) = _
    rw [if_neg nf]
  rcases zv_vCase C3.1 hb hc hw with ⟨z1, z2⟩ | ⟨u, ins, so, v1, v2, v3, v4, v5, v6, v7, v8, s0, s1, s2, QQ⟩
  · -- 20
    refine ⟨zv_rf 20 i h3, zv_ru 20 k g2, eC0.trans (jfF _ _ (zv_vaC0 hi cv3 J1 z1) (zv_rff (by decide) (by decide))), ?_, .inl (bad 20 _ _ (by decide) (by decide) zfr_rfl ⟨g2, zfr_rfl, rfl⟩)⟩
    · rw [eM0, eMl, z2, Option.bind_some, if_neg (by decide)]
      unfold f_Mo_lookAtLoop_25 f_Mo_lookAtLoop_49 f_Mo_lookAtLoop_50 f_Mo_lookAtLoop_77
      rw [show (20 : Int32) = nI 20 from rfl, zv_rule1 (by decide) n2 hk, Option.bind_some, if_pos (by decide), zv_rule0, Option.bind_some, if_pos (by decide)]
      exact asgF 20 (-1) (by decide) (by decide) (.inl rfl) z2 _ _
  · have eM25 : f_Mo_lookAtLoop g2 (nI k) = if so = 0 then f_Mo_lookAtLoop_50 g2 (nI k) (nI u) 0 else f_Mo_lookAtLoop_50 g2 (nI k) (nI u) 1 := by
      rw [eMl, v5, Option.bind_some, if_pos (zv_neg (show u < 2147483648 by omega)).1]
      unfold f_Mo_lookAtLoop_25 f_Mo_lookAtLoop_49
      rw [zv_rule0, Option.bind_some, if_neg (zv_neg (show u < 2147483648 by omega)).2, if_pos (zi_in (by omega) (by omega)), nI_clamp (show u < 2147483648 by omega)]
      simp only [v7, show (nI so = 0) ↔ so = 0 from zc_eq (k := 0) (by decide) (by omega)]
    by_cases zs : so = 0
    · have zi : ins = -1 := s0.mp zs
      subst zs
      have eV := zv_vaC1n (form := -1) (by decide) hi cv3 J1 v4 v3 v6
      rw [if_pos zi] at eV
      obtain ⟨ty, x, s', y', ⟨t1, t2⟩, ⟨x1, x2⟩, _, _, _, _, _, q8, _⟩ := QQ
      have q8' : (g2.2.1 93) u = nI ty := by
        rcases q8 with ⟨_, _, e, _⟩ | ⟨_, e, _⟩ | ⟨B, _, _, e, _⟩
        · exact e
        · rw [v7] at e; exact absurd e (by decide)
        · rw [v7] at e; exact absurd e (by decide)
      clear q8
      rw [if_pos rfl] at eM25
      have eC45 : f_Jd_judgeFor h2 (nI i) = if ty = 0 then f_Jd_judgeFor_45 h3 (nI i) (nI (32 + u)) (nI ty) 1 else f_Jd_judgeFor_45 h3 (nI i) (nI (32 + u)) (nI ty) 0 := by
        rw [eCf, eV]
        show (if (h3.1 38 3) = 0 then _ else _) = _
        rw [if_pos J1, if_pos (zi_in (by omega) (by omega)), nI_clamp (show 32 + u < 2147483648 by omega), t2]
        simp only [zv_t0 t1]
      have eM78 : f_Mo_lookAtLoop g2 (nI k) = if ty = 0 then f_Mo_lookAtLoop_78 g2 (nI k) (nI u) 1 else f_Mo_lookAtLoop_78 g2 (nI k) (nI u) 0 := by
        rw [eM25]
        unfold f_Mo_lookAtLoop_50 f_Mo_lookAtLoop_77
        rw [zv_rule0, Option.bind_some, if_neg (zv_neg (show u < 2147483648 by omega)).2, if_pos (zi_in (by omega) (by omega)), nI_clamp (show u < 2147483648 by omega), q8', zv_isn t1]
        by_cases z : ty = 0
        · rw [if_pos z, if_pos z, if_pos rfl]
        · rw [if_neg z, if_neg z, if_neg (by decide)]
      obtain ⟨⟨a1, a2, a3⟩, ⟨b1, b2, b3⟩, ⟨d1, d2, d3⟩, ⟨p1, p2⟩, ⟨p3, p4⟩, ⟨p5, p6⟩, ⟨k1, k2⟩, hst, k3, k4, hstM, ⟨r1, r2, r3, r4⟩, r5⟩ := pt
      obtain ⟨T, hT, hT0⟩ := yc_tmT ((h2.2.1 16) a) ((h2.2.1 16) b) st
      have L71 : ∀ h4 : zs_H, h4.2 = h2.2 → f_Jd_judgeFor_L71 zF h4 (nI i) (nI (32 + u)) (nI ty) (nI a) (nI 0) = some (yc_W i u ty (yc_R (yc_b ty ((h2.2.1 13) a) ((h2.2.1 16) a) || yc_b ty ((h2.2.1 13) b) ((h2.2.1 16) b) || (decide (zv_kc h2 cc) && yc_b ty ((h2.2.1 13) cc) ((h2.2.1 16) cc)) || decide (st = 0) || decide (¬ T ≤ 1000000)) 36 i h4)) := by
        intro h4 e4
        have := yc_forC (h := h4) (i := i) (u := u) (ty := ty) (a := a) (b := b) (c := cc) (st := st) (T := T) hi t1 (by rw [e4]; exact a1) a2 (by rw [e4]; exact b1) b2 (by rw [e4]; exact d1) d2 (by unfold zv_kc; rw [e4]; exact k1) (by unfold zv_kc; rw [e4]; exact k2) (by unfold zv_kc; rw [e4]; exact hst) (by rw [e4]; exact hT)
        rw [this]
        unfold zv_kc
        rw [e4]
      have RF : ∀ (q : Bool) (h4 : zs_H), ¬ (h4.1 38 3) = 0 → yc_R q 36 i h4 = h4 := fun q h4 hf => by unfold yc_R; rw [if_neg (fun z => hf z.2)]
      have eC45F : ∀ (h4 : zs_H) (A : Int32) (hx : zs_H), f_Jd_refuseIf h3 A 22 (nI i) = some hx → f_Jd_judgeAssigned hx (nI (32 + u)) (nI i) = some h4 → h4.2 = h2.2 → f_Jd_judgeFor_45 h3 (nI i) (nI (32 + u)) (nI ty) A = some (yc_W i u ty (yc_R (yc_b ty ((h2.2.1 13) a) ((h2.2.1 16) a) || yc_b ty ((h2.2.1 13) b) ((h2.2.1 16) b) || (decide (zv_kc h2 cc) && yc_b ty ((h2.2.1 13) cc) ((h2.2.1 16) cc)) || decide (st = 0) || decide (¬ T ≤ 1000000)) 36 i h4)) := by
        intro h4 A hx y1 y2 y3
        unfold f_Jd_judgeFor_45
        rw [y1, Option.bind_some, y2, Option.bind_some, if_pos (zi_in (by omega) hi), nI_clamp (show i < 2147483648 by omega), y3, show (h2.2.1 17) i = nI a from a1]
        exact L71 h4 y3
      have fW : ∀ h4 : zs_H, zfr [] [13, 14, 16, 17] [] h4 (yc_W i u ty h4) := fun h4 => zfr_M (by decide) (zfr_M (by decide) zfr_rfl)
      by_cases zt : ty = 0
      · -- 22
        rw [if_pos zt] at eC45 eM78
        have f22 := zv_rff (φ := 22) (i := i) (h := h3) (by decide) (by decide)
        refine ⟨yc_W i u ty (zv_rf 22 i h3), zv_ru 22 k g2, ?_, ?_, .inl (bad 22 _ _ (by decide) (by decide) (fW _) ⟨g2, zfr_rfl, rfl⟩)⟩
        · rw [eC0, eC45, eC45F (zv_rf 22 i h3) 1 (zv_rf 22 i h3) (zv_ref1 (φ := 22) (by decide) J1 hi) (yc_asgFC (nb := nb) (n := n) f22 (by omega) HJ.1 B3 lp3 (by omega)) A3, RF _ _ f22]
        · rw [eM0, eM78]
          unfold f_Mo_lookAtLoop_78
          rw [show (22 : Int32) = nI 22 from rfl, zv_rule1 (by decide) n2 hk, Option.bind_some]
          have := asgF 22 (nI u) (by decide) (by decide) (.inr ⟨u, by omega, rfl⟩) v5 (nI u) 0
          unfold f_Mo_lookAtLoop_78 at this
          rw [zv_rule0, Option.bind_some] at this
          exact this
      · rw [if_neg zt] at eC45 eM78
        obtain ⟨h4, g4, x3, x4, x5⟩ := yc_asg (i := i) (k := k) (w := w) C3.1 hb hi hk hc hw v1 v2 v5 ma LL3 (by omega)
        have eM5 : f_Mo_lookAtLoop g2 (nI k) = if (g4.1 68 29) ≤ 0 then f_Mo_lookAtLoop_L125 zF (zs_uM g4 101 k ((g4.2.1 94) u)) (nI k) (nI u) 0 ((g4.2.1 76) k) else some g4 := by
          rw [eM78]
          unfold f_Mo_lookAtLoop_78
          rw [zv_rule0, Option.bind_some, if_pos (zi_in (by omega) hk)]
          have : (g2.2.1 74) (nI k).toNatClampNeg = w := by rw [nI_clamp (show k < 2147483648 by omega)]; exact mv
          rw [this, x4, Option.bind_some]
          simp only [if_pos (zi_in (show u < 2147483648 by omega) (show u < 8400 by omega)), if_pos (zi_in (show k < 2147483648 by omega) hk), nI_clamp (show u < 2147483648 by omega), nI_clamp (show k < 2147483648 by omega)]
        rcases x5 with ⟨y1, y2⟩ | ⟨φ, y0, y1, y2⟩
        · subst y1; subst y2
          have eC6 := eC45F h4 0 h4 zv_ref0 x3 A3
          rw [if_pos (by rw [n2]; decide), x2] at eM5
          have E5 : ∀ z j, ¬ z = 101 → (zs_uM g4 101 k (nI x)).2.1 z j = g4.2.1 z j := fun z j hz => by rw [zu_MM, if_neg (fun u => hz u.1)]
          have eM6 := yc_forM (g := zs_uM g4 101 k (nI x)) (k := k) (u := u) (ty := ty) (a := ka) (b := kb) (c := kc) (st := st) (T := T) hk (by omega) t1 (by rw [E5 _ _ (by decide)]; exact q8') (by rw [E5 _ _ (by decide)]; exact p1) p2 (by rw [E5 _ _ (by decide)]; exact p3) p4 (by rw [E5 _ _ (by decide)]; exact p5) p6 (by rw [E5 _ _ (by decide)]; exact k3) (by rw [E5 _ _ (by decide)]; exact k4) (by simp only [E5 _ _ (show ¬ (72 : Nat) = 101 by decide), E5 _ _ (show ¬ (74 : Nat) = 101 by decide), E5 _ _ (show ¬ (78 : Nat) = 101 by decide)]; exact hstM) (by rw [E5 _ _ (by decide), E5 _ _ (by decide), r2, r4]; exact hT)
          simp only [E5 _ _ (show ¬ (72 : Nat) = 101 by decide), E5 _ _ (show ¬ (74 : Nat) = 101 by decide)] at eM6
          rw [r1, r2, r3, r4, r5 ty] at eM6
          rw [show (g4.2.1 76) k = nI ka from p1, eM6] at eM5
          generalize hq : (yc_b ty ((h2.2.1 13) a) ((h2.2.1 16) a) || yc_b ty ((h2.2.1 13) b) ((h2.2.1 16) b) || (decide (zv_kc h2 cc) && yc_b ty ((h2.2.1 13) cc) ((h2.2.1 16) cc)) || decide (st = 0) || decide (¬ T ≤ 1000000)) = qb at eC6 eM5
          have J5 : ((zs_uM g4 101 k (nI x)).1 68 29) = 0 := n2
          cases qb with
          | true =>
            -- 36
            have eR : yc_R true 36 i h4 = zv_rf 36 i h4 := by unfold yc_R; rw [if_pos ⟨rfl, J1⟩]
            rw [eR] at eC6
            rw [if_pos rfl, show (36 : Int32) = nI 36 from rfl, zv_rule1 (by decide) J5 hk] at eM5
            exact ⟨_, _, eC0.trans (eC45.trans eC6), eM0.trans eM5, .inl (bad 36 _ _ (by decide) (by decide) (fW _) ⟨zs_uM g4 101 k (nI x), zfr_M (by decide) zfr_rfl, rfl⟩)⟩
          | false =>
            have eR : yc_R false 36 i h4 = h4 := by unfold yc_R; rw [if_neg (fun z => absurd z.1 (by decide))]
            rw [eR] at eC6
            rw [if_neg (by decide), zv_rule0] at eM5
            simp only [Bool.or_eq_false_iff, decide_eq_false_iff_not] at hq
            obtain ⟨⟨_, hq1⟩, hq2⟩ := hq
            obtain ⟨N, nn1, nn2⟩ := yc_ofN (hT0 hq1) (Classical.not_not.mp hq2)
            exact ⟨_, _, eC0.trans (eC45.trans eC6), eM0.trans eM5, .inr ⟨u, ty, x, v1, v2, v5, x1, t2, ⟨h12 ty t1 zt, v6.trans zi⟩, rfl, rfl, hq1, N, nn1, by rw [hT, nn2]⟩⟩
        · have hφ : 0 < φ ∧ φ < 1000 := by rcases y0 with e | e <;> omega
          subst y1; subst y2
          have f22 := zv_rff (φ := φ) (i := i) (h := h3) hφ.1 hφ.2
          refine ⟨yc_W i u ty (zv_rf φ i h3), zv_ru φ k g2, ?_, ?_, .inl (bad φ _ _ hφ.1 hφ.2 (fW _) ⟨g2, zfr_rfl, rfl⟩)⟩
          · rw [eC0, eC45, eC45F (zv_rf φ i h3) 0 h3 zv_ref0 x3 A3, RF _ _ f22]
          · rw [eM0, eM5, if_neg (zv_ruf0 hφ.1 hφ.2)]
    · -- 21
      have zi : ¬ ins = -1 := fun u => zs (s0.mpr u)
      have eV := zv_vaC1n (form := -1) (by decide) hi cv3 J1 v4 v3 v6
      rw [if_neg zi] at eV
      rw [if_neg zs] at eM25
      refine ⟨zv_rf 21 i h3, zv_ru 21 k g2, eC0.trans (jfF _ _ eV (zv_rff (by decide) (by decide))), ?_, .inl (bad 21 _ _ (by decide) (by decide) zfr_rfl ⟨g2, zfr_rfl, rfl⟩)⟩
      rw [eM0, eM25]
      unfold f_Mo_lookAtLoop_50 f_Mo_lookAtLoop_77
      rw [show (21 : Int32) = nI 21 from rfl, zv_rule1 (by decide) n2 hk, Option.bind_some, if_neg (zv_neg (show u < 2147483648 by omega)).2, if_pos (zi_in (by omega) (by omega))]
      have hx := asgF 21 (nI u) (by decide) (by decide) (.inr ⟨u, by omega, rfl⟩) v5 (nI u)
      show (if _ then f_Mo_lookAtLoop_78 (zv_ru 21 k g2) (nI k) (nI u) 1 else f_Mo_lookAtLoop_78 (zv_ru 21 k g2) (nI k) (nI u) 0) = _
      rw [hx 1, hx 0, ite_self]
end
section
/-! The judge: a FOR is visited. -/
theorem yc_VN19 {kv : Int32 × Int32} {l : zt_T} (hA : zg_A 19 (zg_run 19 0 l) = true) (Ph : yc_Ph l) : yc_VN 19 kv l := by
  intro LC LM nb nf sz F h g i k up d D D' oc P Q y C nd hup LL hPs ow hd hD hD'
  obtain ⟨D, rfl⟩ : ∃ z, D = z + 1 := ⟨D - 1, by omega⟩
  obtain ⟨D', rfl⟩ : ∃ z, D' = z + 2 := ⟨D' - 2, by omega⟩
  obtain ⟨⟨hi, hk, hPi, hQk, hP, hQ⟩, ⟨c0, c1, c2, c3, c4⟩, cC, ⟨m0, m1, m2, m3⟩, cM⟩ := id nd
  rw [if_pos (by decide)] at m2
  obtain ⟨c, hc, ec, hw⟩ := yb_nr C m2
  obtain ⟨m, L, l1, l2, l3, l4, l5⟩ := id LL
  have hn : L.length ≤ 239 := by omega
  -- it is entered
  obtain ⟨h1, hh1⟩ : ∃ h1, h1 = zs_uF (zs_uM (zs_uF h 38 10 (nI (oc + 1))) 39 L.length (nI c)) 38 12 (nI (L.length + 1)) := ⟨_, rfl⟩
  have hen : f_Jd_enter h (nI i) = some h1 := by
    unfold f_Jd_enter
    simp (config := { decide := true }) only [if_pos (zi_in (show i < 2147483648 by omega) hi), nI_clamp (show i < 2147483648 by omega), show (h.2.1 13) i = 19 from c0, if_false, if_true, ow, nI_1, l3, if_neg (mt (zc_le (k := 240) (by decide) (show L.length < 2147483648 by omega)).mp (by omega)), if_pos (zi_in (show L.length < 2147483648 by omega) (show L.length < 240 by omega)), nI_clamp (show L.length < 2147483648 by omega), c2, ec, hh1]
  have f01 : zfr yc_f yc_m [] h h1 := by rw [hh1]; exact zfr_F (by decide) (zfr_M (by decide) (zfr_F (by decide) zfr_rfl))
  have A1 : ∀ z j, ¬ z = 39 → h1.2.1 z j = h.2.1 z j := fun z j hz => by rw [hh1]; show (zs_uM (zs_uF h 38 10 (nI (oc + 1))) 39 L.length (nI c)).2.1 z j = _; rw [zu_MM, if_neg (fun u => hz u.1)]; rfl
  have lp1 : (h1.1 38 12) = nI (L.length + 1) := by rw [hh1]; rfl
  have ow1 : (h1.1 38 10) = nI (oc + 1) := by rw [hh1]; rfl
  have ln1 : ∀ j, (h1.2.1 39) j = if j = L.length then nI c else (h.2.1 39) j := fun j => by
    rw [hh1]
    show (zs_uM (zs_uF h 38 10 (nI (oc + 1))) 39 L.length (nI c)).2.1 39 j = _
    rw [zu_MM]
    by_cases z : j = L.length
    · rw [if_pos ⟨rfl, z⟩, if_pos z]
    · rw [if_neg (fun u => z u.2), if_neg z]; rfl
  have C1 : yb_cx LC LM nb nf sz F h1 g := yc_cxf C f01 zfr_rfl
  have e17 : ∀ j, (h1.2.1 17) j = (h.2.1 17) j := fun j => A1 _ _ (by decide)
  have nd1 : yb_nd LC LM h1 g 19 kv l i k up P Q y := by
    refine ⟨nd.1, ⟨by rw [A1 _ _ (by decide)]; exact c0, by rw [A1 _ _ (by decide)]; exact c1, by rw [A1 _ _ (by decide)]; exact c2, by rw [A1 _ _ (by decide)]; exact c3, fun j hj => by rw [A1 _ _ (by decide)]; exact c4 j hj⟩, ?_, nd.2.2.2.1, nd.2.2.2.2⟩
    rw [e17]
    refine zt_fr l P P 0 _ y (fun j _ => ⟨fun kd k up z hz => by unfold zt_NC at hz ⊢; rw [A1 _ _ (by decide), A1 _ _ (by decide), A1 _ _ (by decide)]; exact hz, e17 j, A1 _ _ (by decide)⟩) (fun j hj => hj) cC
  have LL1 : yc_L LC LM h1 g k (d + 1) := by
    refine ⟨m + 1, (g.2.1 74) k :: L, by omega, ⟨hk, up, L, m3, l2, by rw [if_pos (show (g.2.1 72) k = 19 from m0)]⟩, by rw [lp1]; rfl, by show L.length + 1 ≤ d + 1; omega, fun j hj => ?_⟩
    have hj' : j < L.length + 1 := hj
    rw [show ((g.2.1 74) k :: L).length - 1 - j = L.length - j from by show L.length + 1 - 1 - j = _; omega, ln1]
    cases j with
    | zero => rw [if_pos (by omega)]; exact hw
    | succ j => rw [if_neg (by omega), show L.length - (j + 1) = L.length - 1 - j by omega]; exact l5 j (by omega)
  rcases yc_kids (D := D) (D' := D') hen C1 nd1 ⟨rfl, by decide, by decide, by decide, by decide, by decide⟩ LL1 Ph hPs ow1 hd (by omega) (by omega) with ⟨h', g', e1, e2, ⟨X, x1, x2⟩, e4, e5⟩ | ⟨h2, g2, e1, e2, O, A, n1, n2, ow'⟩
  · exact ⟨h', g', e1, e2, .inl ⟨⟨X, zfr_trans (zfr_w f01 (by decide) (by decide) (by decide)) x1, x2⟩, e4, e5⟩⟩
  obtain ⟨i1, i2, i3, i4⟩ := O.2.2.1 i hPi
  rw [e17] at A i4
  -- it is left
  obtain ⟨h3, hh3⟩ : ∃ h3, h3 = zs_uF h2 38 12 (nI L.length) := ⟨_, rfl⟩
  have f23 : zfr yc_f yc_m [] h2 h3 := by rw [hh3]; exact zfr_F (by decide) zfr_rfl
  have A3 : h3.2 = h2.2 := by rw [hh3]; rfl
  have ge : ∀ z, ¬ z ∈ yc_g → g2.2.1 z = g.2.1 z := fun z hz => O.2.1.2.1 z hz
  have C3 : yb_cx LC LM nb nf sz F h3 g2 := yc_cxf (yc_cxf C1 O.1 O.2.1) f23 zfr_rfl
  have lp2 : (h2.1 38 12) = nI (L.length + 1) := O.2.2.2.2.1.trans lp1
  have lp3 : (h3.1 38 12) = nI L.length := by rw [hh3]; rfl
  have f13 : zfr yc_f yc_m [] h h3 := zfr_trans f01 (zfr_trans O.1 f23)
  have LL3 : yc_L LC LM h3 g2 up d := by
    refine ⟨m, L, l1, yc_Af l2 (ge _ (by decide)) (ge _ (by decide)) (ge _ (by decide)), lp3, l4, fun j hj => ?_⟩
    rw [A3, O.2.2.2.2.2 (L.length + 1) (L.length - 1 - j) lp1 (by omega) (by omega), ln1, if_neg (by omega)]
    exact l5 j hj
  obtain ⟨a, b, cc, ka, kb, kc, st, pt⟩ := yc_parts hA A (yb_keepM O.2.1 cM)
  have pt' := pt
  rw [← i4, ← ge 76 (by decide)] at pt'
  obtain ⟨h', g', r1, r2, r3⟩ := yc_forJ (p := kv.1) C3 hh3 lp2 hn hi hk hc hw (i1.trans (by rw [A1 _ _ (by decide)]; exact c0)) (i3.trans (by rw [A1 _ _ (by decide)]; exact c2.trans ec)) (by rw [O.1.2.1 _ (by decide), A1 _ _ (by decide)]; exact c1) (by rw [ge _ (by decide)]; exact m0) (by rw [ge _ (by decide)]) (by rw [ge _ (by decide)]; exact m1 (by decide)) (by rw [ge _ (by decide)]; exact m3) LL3 (by omega) pt'
  refine ⟨h', g', by rw [e1, r1], by rw [e2, r2], ?_⟩
  rcases r3 with Fb | ⟨u, ty, x, u1, u2, u3, u4, u5, u6, u7, u8, u9, N, u10, u11⟩
  · obtain ⟨⟨φ, p, X⟩, f1, f2⟩ := Fb
    have xn := zv_Xn X
    exact .inl ⟨⟨⟨φ, p, X⟩, zfr_trans (zfr_w f13 (by decide) (by decide) (by decide)) f1, zfr_trans (zfr_w O.2.1 (by decide) (by decide) (by decide)) f2⟩, xn.1, xn.2⟩
  · right
    have hb := C.2.2.1
    have E4 : ∀ z j, ¬ j = i → h'.2.1 z j = h2.2.1 z j := fun z j hj => by
      rw [u7]
      unfold yc_W
      rw [zu_MM, if_neg (fun u => hj u.2), zu_MM, if_neg (fun u => hj u.2), A3]
    have G4 : ∀ z j, ¬ j = k → g'.2.1 z j = g2.2.1 z j := fun z j hj => by rw [u8, zu_MM, if_neg (fun u => hj u.2)]
    have f3' : zfr [] [13, 14, 16, 17] [] h3 h' := by rw [u7]; exact zfr_M (by decide) (zfr_M (by decide) zfr_rfl)
    have g2' : zfr [] yc_g [] g2 g' := by rw [u8]; exact zfr_M (by decide) zfr_rfl
    have fh : zfr yc_f yc_m [] h h' := zfr_trans f13 (zfr_w f3' (by decide) (by decide) (by decide))
    have fg : zfr [] yc_g [] g g' := zfr_trans O.2.1 g2'
    have lp' : (h'.1 38 12) = nI L.length := (f3'.1 _ _ List.not_mem_nil).trans lp3
    -- only this FOR's nodes have been written
    have out : yc_out (fun j => P j ∨ j = i) (fun j => Q j ∨ j = k) h g h' g' := by
      refine ⟨fh, fg, fun j hj => ?_, fun j hj => ?_, lp'.trans l3.symm, fun n j q1 q2 q3 => ?_⟩
      · have q1 : ¬ j = i := fun z => hj (.inr z)
        obtain ⟨w1, w2, w3, w4⟩ := O.2.2.1 j (fun z => hj (.inl z))
        exact ⟨by rw [E4 _ _ q1, w1]; exact A1 _ _ (by decide), by rw [E4 _ _ q1, w2]; exact A1 _ _ (by decide), by rw [E4 _ _ q1, w3]; exact A1 _ _ (by decide), by rw [E4 _ _ q1, w4]; exact A1 _ _ (by decide)⟩
      · have q1 : ¬ j = k := fun z => hj (.inr z)
        obtain ⟨w1, w2, w3⟩ := O.2.2.2.1 j (fun z => hj (.inl z))
        exact ⟨by rw [G4 _ _ q1, w1], by rw [G4 _ _ q1, w2], by rw [G4 _ _ q1, w3]⟩
      · have en : n = L.length := by rw [l3] at q1; exact ((nI_eq (by omega) (by omega)).mp q1).symm
        have : (h'.2.1 39) j = (h2.2.1 39) j := by rw [f3'.2.1 _ (by decide), A3]
        rw [this, O.2.2.2.2.2 (L.length + 1) j lp1 (by omega) (by omega), ln1, if_neg (by omega)]
    have C2 : yb_cx LC LM nb nf sz F h2 g2 := yc_cxf C1 O.1 O.2.1
    have A2 : yb_F F (nb - 1) h' g' P Q l ((h.2.1 17) i) ((g.2.1 76) k) (-1) (-1) := by
      refine yb_Ff ⟨fun j hj => ?_, fun j hj => ?_, fun j _ => ⟨?_, ?_, ?_, ?_, ?_⟩, fun b _ => ?_, yb_bF C2⟩ _ _ _ _ _ A
      · have q1 : ¬ j = i := fun z => hPi (by rw [← z]; exact hj)
        exact ⟨hP j hj, E4 _ _ q1, E4 _ _ q1, E4 _ _ q1, E4 _ _ q1, E4 _ _ q1⟩
      · have q1 : ¬ j = k := fun z => hQk (by rw [← z]; exact hj)
        exact ⟨G4 _ _ q1, fun _ _ => G4 _ _ q1, fun _ => G4 _ _ q1, G4 _ _ q1, G4 _ _ q1, G4 _ _ q1⟩
      · rw [f3'.2.1 _ (by decide), A3]
      · rw [f3'.2.1 _ (by decide), A3]
      · rw [f3'.2.1 _ (by decide), A3]
      · rw [f3'.2.1 _ (by decide), A3]
      · rw [f3'.2.1 _ (by decide), A3]
      · rw [f3'.2.1 _ (by decide), A3]
    have ef : (g'.2.1 76) k = (g.2.1 76) k := by rw [fg.2.1 _ (by decide)]
    have ii : ∀ z, ¬ z = 16 → ¬ z = 14 → h'.2.1 z i = h2.2.1 z i := fun z q1 q2 => by
      rw [u7]
      unfold yc_W
      rw [zu_MM, if_neg (fun u => q2 u.1), zu_MM, if_neg (fun u => q1 u.1), A3]
    have tyi : (h'.2.1 14) i = nI ty := by rw [u7]; unfold yc_W; rw [zu_MM, if_pos ⟨rfl, rfl⟩]
    have vai : (h'.2.1 16) i = nI (32 + u) := by rw [u7]; unfold yc_W; rw [zu_MM, if_neg (fun z => absurd z.1 (by decide)), zu_MM, if_pos ⟨rfl, rfl⟩]
    have VV : yb_V F (nb - 1) h' kv.2 u x := by rw [ec]; exact yb_mkV C3.1 hb hc hw u1 u2 u3 u4 f3'
    have FO : yb_fo h' P ((h.2.1 17) i) := by
      obtain ⟨⟨a1, a2, a3⟩, ⟨b1, b2, b3⟩, ⟨d1, d2, d3⟩, _, _, _, _, hst, _⟩ := pt
      have ni : ∀ z, P z → ¬ z = i := fun z hz q => hPi (by rw [← q]; exact hz)
      refine ⟨a, b, cc, st, ⟨a1, a3, by rw [E4 _ _ (ni a a3)]; exact b1, b3, by rw [E4 _ _ (ni b b3)]; exact d1, d3⟩, ?_, u9, N, u10, by rw [E4 _ _ (ni a a3), E4 _ _ (ni b b3)]; exact u11⟩
      unfold zv_kc
      rw [E4 _ _ (ni cc d3), E4 _ _ (ni cc d3)]
      exact hst
    have NN : yb_N F (nb - 1) h' g' P Q 19 kv.2 i k ((h.2.1 17) i) (zt_ln l) := .inl (.inr (.inr (.inr (.inr ⟨rfl, by rw [ii _ (by decide) (by decide)]; exact i1.trans (by rw [A1 _ _ (by decide)]; exact c0), by rw [ii _ (by decide) (by decide)]; exact i4, u, x, ty, VV, vai, tyi, by rw [f3'.2.1 _ (by decide)]; exact u5, ⟨u6.1, by rw [f3'.2.1 _ (by decide)]; exact u6.2⟩, by rw [u8, zu_MM, if_pos ⟨rfl, rfl⟩], FO⟩))))
    refine ⟨⟨out, i, k, (h.2.1 17) i, ⟨.inr rfl, hi, rfl⟩, ⟨.inr rfl, hk, rfl, by rw [fg.2.1 _ (by decide)]; exact m0⟩, yb_Nm (fun _ z => .inl z) (fun _ z => .inl z) NN, by rw [ef]; exact yb_Fm (fun _ z => .inl z) (fun _ z => .inl z) _ _ _ _ _ A2, rfl, rfl⟩, ?_, (g2'.1 _ _ List.not_mem_nil).trans n2, ?_⟩
    · rw [f3'.1 _ _ List.not_mem_nil, hh3]; exact n1
    · refine ⟨?_, fun _ => rfl, zg_ruE (by decide) (by decide)⟩
      rw [f3'.1 _ _ List.not_mem_nil, hh3]
      show (h2.1 38 10) = _
      rw [ow'.1]
      exact congrArg nI (show oc + 1 + yc_o l = oc + (1 + yc_o l + 0) by omega)
end
section
/-! The judge: the parameters of an invocation, one behind the other. -/
/-- what has been found has the name -/
theorem yp_vo {h : zs_H} {B w : Int32} : ∀ N (x r : Int32), f_Pl_variableOf_L7 h N B w x = some r → r = -1 ∨ (h.2.1 28) r.toNatClampNeg = w := by
  intro N
  induction N with
  | zero => intro x r e; cases e
  | succ N ih =>
    intro x r e
    have e' : f_Pl_variableOf_7 h (f_Pl_variableOf_L7 h N) B w x = some r := e
    unfold f_Pl_variableOf_7 at e'
    by_cases z1 : zd_in B 629
    · rw [if_pos z1] at e'
      by_cases z2 : (h.2.1 24) B.toNatClampNeg ≤ x
      · rw [if_pos z2] at e'; exact .inl (Option.some.inj e').symm
      · rw [if_neg z2] at e'
        by_cases z3 : zd_in x 6000
        · rw [if_pos z3] at e'
          by_cases z4 : (h.2.1 28) x.toNatClampNeg = w
          · rw [if_pos z4] at e'
            right
            rw [← Option.some.inj e']; exact z4
          · rw [if_neg z4] at e'; exact ih _ _ e'
        · rw [if_neg z3] at e'; cases e'
    · rw [if_neg z1] at e'; cases e'
theorem yp_von {h : zs_H} {B w : Int32} {cv : Nat} (hcv : cv < 6000) (e : f_Pl_variableOf h B w = some (nI cv)) : (h.2.1 28) cv = w := by
  unfold f_Pl_variableOf at e
  by_cases z : zd_in B 629
  · rw [if_pos z] at e
    rcases yp_vo _ _ _ e with q | q
    · exact absurd q (zc_m1 (by omega))
    · rw [nI_clamp (show cv < 2147483648 by omega)] at q; exact q
  · rw [if_neg z] at e; cases e
/-- parameters that have been judged, up to (e, e') -/
def yp_s (LC LM : List (List Int32)) (F : Nat → Nat) (bb B xx : Nat) (h g : zs_H) (P Q : Nat → Prop) : zt_T → Int32 → Int32 → Int32 → Int32 → Prop
  | .leaf, x, x', e, e' => x = e ∧ x' = e'
  | .inner _ kv _ _ r, x, x', e, e' => ∃ a b cv off c, (P a ∧ a < 32784 ∧ x = nI a) ∧ (Q b ∧ b < 33500 ∧ x' = nI b ∧ (g.2.1 72) b = 14) ∧ ((h.2.1 16) a = nI cv ∧ cv < 32 + F (bb + 1) ∧ cv < 6000 ∧ (h.2.1 32) cv = nI off ∧ (g.2.1 101) b = nI (xx + off) ∧ xx + off < 600000000 ∧ zi_B F B cv ∧ (h.2.1 29) cv = 1 ∧ yb_py h P cv a) ∧ (kv.2 = nI c ∧ c < 6000 ∧ f_Pl_variableOf h (nI B) (nI c) = some (nI cv) ∧ zt_nr LC LM (nI c) ((g.2.1 74) b)) ∧ yp_s LC LM F bb B xx h g P Q r ((h.2.1 18) a) ((g.2.1 78) b) e e'
section YP
variable {LC LM : List (List Int32)} {F : Nat → Nat} {bb B xx : Nat} {h g h' g' : zs_H} {P Q : Nat → Prop}
theorem yp_sf (hP : ∀ j, P j → (h'.2.1 16) j = (h.2.1 16) j ∧ (h'.2.1 18) j = (h.2.1 18) j ∧ (h'.2.1 17) j = (h.2.1 17) j ∧ (h'.2.1 14) j = (h.2.1 14) j) (hQ : ∀ j, Q j → (g'.2.1 101) j = (g.2.1 101) j ∧ (g'.2.1 72) j = (g.2.1 72) j ∧ (g'.2.1 74) j = (g.2.1 74) j ∧ (g'.2.1 78) j = (g.2.1 78) j) (hc : h'.2.1 32 = h.2.1 32 ∧ h'.2.1 29 = h.2.1 29 ∧ h'.2.1 31 = h.2.1 31) (hv : ∀ c, f_Pl_variableOf h' (nI B) c = f_Pl_variableOf h (nI B) c) : ∀ (t : zt_T) (x x' e e' : Int32), yp_s LC LM F bb B xx h g P Q t x x' e e' → yp_s LC LM F bb B xx h' g' P Q t x x' e e' := by
  intro t
  induction t with
  | leaf => intro x x' e e' A; exact A
  | inner kd kv o l r ihl ihr =>
    intro x x' e e' ⟨a, b, cv, off, c, ⟨a1, a2, a3⟩, ⟨b1, b2, b3, b4⟩, ⟨c1, c2, c3, c4, c5, c6⟩, ⟨d1, d2, d3, d4⟩, R⟩
    obtain ⟨p1, p2, p3, p4⟩ := hP a a1
    obtain ⟨ch, ch0, ch1, ch2, ch3⟩ := c6.2.2.2
    obtain ⟨q1, q2, q3, q4⟩ := hQ b b1
    exact ⟨a, b, cv, off, c, ⟨a1, a2, a3⟩, ⟨b1, b2, b3, by rw [q2]; exact b4⟩, ⟨by rw [p1]; exact c1, c2, c3, by rw [hc.1]; exact c4, by rw [q1]; exact c5, c6.1, c6.2.1, by rw [hc.2.1]; exact c6.2.2.1, ch, ch0, by rw [p3]; exact ch1, ch2, by rw [hc.2.2, (hP ch ch2).2.2.2]; exact ch3⟩, ⟨d1, d2, by rw [hv]; exact d3, by rw [q3]; exact d4⟩, by rw [p2, q4]; exact ihr _ _ _ _ R⟩
theorem yp_sm {P' Q' : Nat → Prop} (hP : ∀ j, P j → P' j) (hQ : ∀ j, Q j → Q' j) : ∀ (t : zt_T) (x x' e e' : Int32), yp_s LC LM F bb B xx h g P Q t x x' e e' → yp_s LC LM F bb B xx h g P' Q' t x x' e e' := by
  intro t
  induction t with
  | leaf => intro x x' e e' A; exact A
  | inner kd kv o l r ihl ihr =>
    intro x x' e e' ⟨a, b, cv, off, c, ⟨a1, a2, a3⟩, ⟨b1, b2, b3, b4⟩, ⟨c1, c2, c3, c4, c5, c6, c7, c8, c9⟩, d2, R⟩
    exact ⟨a, b, cv, off, c, ⟨hP _ a1, a2, a3⟩, ⟨hQ _ b1, b2, b3, b4⟩, ⟨c1, c2, c3, c4, c5, c6, c7, c8, yb_pym hP c9⟩, d2, ihr _ _ _ _ R⟩
theorem yp_sap : ∀ (t u : zt_T) (x x' y y' e e' : Int32), yp_s LC LM F bb B xx h g P Q t x x' y y' → yp_s LC LM F bb B xx h g P Q u y y' e e' → yp_s LC LM F bb B xx h g P Q (zt_ap t u) x x' e e' := by
  intro t
  induction t with
  | leaf => intro u x x' y y' e e' ⟨a1, a2⟩ B; rw [a1, a2]; exact B
  | inner kd kv o l r ihl ihr =>
    intro u x x' y y' e e' ⟨a, b, cv, off, c, A1, A2, A3, A4, R⟩ C
    exact ⟨a, b, cv, off, c, A1, A2, A3, A4, ihr u _ _ _ _ _ _ R C⟩
theorem yp_spr : ∀ (t : zt_T) (x x' e e' : Int32), yp_s LC LM F bb B xx h g P Q t x x' e e' → yb_pr F bb h g P Q B xx (zt_ln t) x x' := by
  intro t
  induction t with
  | leaf => intro x x' e e' _; trivial
  | inner kd kv o l r ihl ihr =>
    intro x x' e e' ⟨a, b, cv, off, c, ⟨a1, a2, a3⟩, ⟨b1, b2, b3, b4⟩, ⟨c1, c2, c3, c4, c5, c6⟩, _, R⟩
    show yb_pr F bb h g P Q B xx (1 + zt_ln r) x x'
    rw [Nat.add_comm]
    exact ⟨a, b, cv, off, ⟨a1, a2, a3⟩, ⟨b1, b2, b3, b4⟩, c1, c2, c4, c5, c6, ihr _ _ _ _ R⟩
/-- whether a name has been told before -/
def yp_in (c : Nat) : zt_T → Prop
  | .leaf => False
  | .inner _ kv _ _ r => kv.2 = nI c ∨ yp_in c r
theorem yp_uT {N : Nat} {x1 x3 : Int32} (x : Int32) : f_Jd_isToldBefore_L7 h (N + 1) x1 x x3 = f_Jd_isToldBefore_7 h (f_Jd_isToldBefore_L7 h N) x1 x x3 := rfl
theorem yp_tC {a0 c0 cv0 sz : Nat} (hsz : (h.1 12 6) = nI sz) (hs2 : sz < 100000) (ha0 : a0 < 32784) (hP : ∀ j, P j → ¬ j = a0) (hv0 : (h.2.1 16) a0 = nI cv0) (hc0 : c0 < 6000) (hcv0 : cv0 < 6000) (e0 : f_Pl_variableOf h (nI B) (nI c0) = some (nI cv0)) : ∀ (t : zt_T) (x x' e' : Int32) (turn N : Nat), yp_s LC LM F bb B xx h g P Q t x x' (nI a0) e' → turn + zt_ln t < sz → zt_ln t < N →
    (¬ yp_in c0 t → f_Jd_isToldBefore_L7 h N (nI a0) x (nI turn) = some 0) ∧ (yp_in c0 t → f_Jd_isToldBefore_L7 h N (nI a0) x (nI turn) = some 1) := by
  intro t
  induction t with
  | leaf =>
    intro x x' e' turn N S ht hN
    obtain ⟨N, rfl⟩ : ∃ z, N = z + 1 := ⟨N - 1, by omega⟩
    refine ⟨fun _ => ?_, fun z => z.elim⟩
    rw [S.1, yp_uT]
    unfold f_Jd_isToldBefore_7
    rw [if_neg (zc_m1 (show a0 < 2147483648 by omega)), if_pos rfl, ite_self]
  | inner kd kv o l r ihl ihr =>
    intro x x' e' turn N S ht hN
    have hl : zt_ln (.inner kd kv o l r) = 1 + zt_ln r := rfl
    obtain ⟨N, rfl⟩ : ∃ z, N = z + 1 := ⟨N - 1, by omega⟩
    obtain ⟨a, b, cv, off, c, ⟨a1, a2, a3⟩, _, ⟨c1, c2, c3, c4, c5, c6⟩, ⟨d1, d2, d3, d4⟩, R⟩ := S
    obtain ⟨i1, i2⟩ := ihr _ _ _ (turn + 1) N R (by omega) (by omega)
    have key : (nI cv = nI cv0) ↔ kv.2 = nI c0 := by
      rw [d1]
      constructor
      · intro z
        have e1 := yp_von c3 d3
        have e2 := yp_von hcv0 e0
        have : cv = cv0 := (nI_eq (by omega) (by omega)).mp z
        rw [this, e2] at e1
        exact e1.symm
      · intro z
        rw [z, e0] at d3
        exact (Option.some.inj d3).symm
    have st : f_Jd_isToldBefore_L7 h (N + 1) (nI a0) x (nI turn) = if nI cv = nI cv0 then some 1 else f_Jd_isToldBefore_L7 h N (nI a0) ((h.2.1 18) a) (nI (turn + 1)) := by
      rw [yp_uT]
      unfold f_Jd_isToldBefore_7
      rw [hsz, if_neg (mt (nI_leI (by omega) (by omega)).mp (by omega)), a3, if_neg (zc_m1 (show a < 2147483648 by omega)), if_neg (fun z => hP a a1 ((nI_eq (by omega) (by omega)).mp z)), if_pos (zi_in (by omega) a2), if_pos (zi_in (by omega) ha0), nI_clamp (show a < 2147483648 by omega), nI_clamp (show a0 < 2147483648 by omega), c1, hv0, nI_1]
    rw [st]
    by_cases z : nI cv = nI cv0
    · rw [if_pos z]
      exact ⟨fun n => absurd (.inl (key.mp z)) n, fun _ => rfl⟩
    · rw [if_neg z]
      exact ⟨fun n => i1 (fun u => n (.inr u)), fun n => n.elim (fun u => absurd (key.mpr u) z) i2⟩
theorem yp_uP {N : Nat} {x1 x2 x3 : Int32} (x : Int32) : f_Mo_lookAtParameter_L82 (N + 1) g x1 x2 x3 x = f_Mo_lookAtParameter_82 (f_Mo_lookAtParameter_L82 N) g x1 x2 x3 x := rfl
/-- one step of the model -/
theorem yp_1M {N b b0 : Nat} {x2 x3 : Int32} {g3 : zs_H} (hb : b < 33500) (hb0 : b0 < 33500) (hne : ¬ b = b0) (e : f_Mo_rule g (if (g.2.1 74) b = (g.2.1 74) b0 then 1 else 0) 33 (nI b0) = some g3) (e3 : g3.2 = g.2) : f_Mo_lookAtParameter_L82 (N + 1) g (nI b0) x2 x3 (nI b) = f_Mo_lookAtParameter_L82 N g3 (nI b0) x2 x3 ((g.2.1 78) b) := by
  rw [yp_uP]
  unfold f_Mo_lookAtParameter_82 f_Mo_lookAtParameter_110
  rw [if_neg (fun z => hne ((nI_eq (by omega) (by omega)).mp z)), if_pos (zi_in (by omega) hb), if_pos (zi_in (by omega) hb0)]
  simp only [nI_clamp (show b < 2147483648 by omega), nI_clamp (show b0 < 2147483648 by omega)]
  by_cases z : (g.2.1 74) b = (g.2.1 74) b0
  · rw [if_pos z] at e ⊢
    rw [e, Option.bind_some, e3, if_pos (zi_in (show b < 2147483648 by omega) hb)]
  · rw [if_neg z] at e ⊢
    rw [e, Option.bind_some, e3, if_pos (zi_in (show b < 2147483648 by omega) hb)]
theorem yp_tMF {b0 : Nat} {x2 x3 : Int32} (hf : ¬ (g.1 68 29) = 0) (hb0 : b0 < 33500) (hQ : ∀ j, Q j → ¬ j = b0) : ∀ (t : zt_T) (x x' e : Int32) (N : Nat), yp_s LC LM F bb B xx h g P Q t x x' e (nI b0) → zt_ln t < N → f_Mo_lookAtParameter_L82 N g (nI b0) x2 x3 x' = some g := by
  intro t
  induction t with
  | leaf =>
    intro x x' e N S hN
    obtain ⟨N, rfl⟩ : ∃ z, N = z + 1 := ⟨N - 1, by omega⟩
    rw [S.2, yp_uP]
    unfold f_Mo_lookAtParameter_82
    rw [if_pos rfl, if_neg hf]
  | inner kd kv o l r ihl ihr =>
    intro x x' e N S hN
    have hl : zt_ln (.inner kd kv o l r) = 1 + zt_ln r := rfl
    obtain ⟨N, rfl⟩ : ∃ z, N = z + 1 := ⟨N - 1, by omega⟩
    obtain ⟨a, b, cv, off, c, _, ⟨b1, b2, b3, b4⟩, _, _, R⟩ := S
    rw [b3, yp_1M (g := g) b2 hb0 (hQ b b1) (zv_ruleF hf) rfl]
    exact ihr _ _ _ N R (by omega)
theorem yp_tM {b0 c0 : Nat} {x2 x3 : Int32} (S0 : LC.Nodup ∧ LM.Nodup ∧ LC.length < 6000 ∧ LM.length < 8000) (hf : (g.1 68 29) = 0) (hb0 : b0 < 33500) (hQ : ∀ j, Q j → ¬ j = b0) (hw : zt_nr LC LM (nI c0) ((g.2.1 74) b0)) : ∀ (t : zt_T) (x x' e : Int32) (N : Nat), yp_s LC LM F bb B xx h g P Q t x x' e (nI b0) → zt_ln t < N →
    (¬ yp_in c0 t → ∃ N2, f_Mo_lookAtParameter_L82 N g (nI b0) x2 x3 x' = f_Mo_lookAtParameter_L82 (N2 + 1) g (nI b0) x2 x3 (nI b0)) ∧ (yp_in c0 t → f_Mo_lookAtParameter_L82 N g (nI b0) x2 x3 x' = some (zv_ru 33 b0 g)) := by
  intro t
  induction t with
  | leaf =>
    intro x x' e N S hN
    obtain ⟨N, rfl⟩ : ∃ z, N = z + 1 := ⟨N - 1, by omega⟩
    exact ⟨fun _ => ⟨N, by rw [S.2]⟩, fun z => z.elim⟩
  | inner kd kv o l r ihl ihr =>
    intro x x' e N S hN
    have hl : zt_ln (.inner kd kv o l r) = 1 + zt_ln r := rfl
    obtain ⟨N, rfl⟩ : ∃ z, N = z + 1 := ⟨N - 1, by omega⟩
    obtain ⟨a, b, cv, off, c, _, ⟨b1, b2, b3, b4⟩, _, ⟨d1, d2, d3, d4⟩, R⟩ := S
    have key : ((g.2.1 74) b = (g.2.1 74) b0) ↔ kv.2 = nI c0 := by
      rw [d1]; exact (zt_nr_inj S0.1 S0.2.1 d4 hw S0.2.2.1 S0.2.2.2).symm
    by_cases z : (g.2.1 74) b = (g.2.1 74) b0
    · refine ⟨fun n => absurd (.inl (key.mp z)) n, fun _ => ?_⟩
      rw [b3, yp_1M (g := g) (g3 := zv_ru 33 b0 g) b2 hb0 (hQ b b1) (by rw [if_pos z]; exact zv_rule1 (φ := 33) (by decide) hf hb0) rfl]
      have R' : yp_s LC LM F bb B xx h (zv_ru 33 b0 g) P Q r ((h.2.1 18) a) ((g.2.1 78) b) e (nI b0) := yp_sf (h := h) (g := g) (h' := h) (g' := zv_ru 33 b0 g) (fun _ _ => ⟨rfl, rfl, rfl, rfl⟩) (fun _ _ => ⟨rfl, rfl, rfl, rfl⟩) ⟨rfl, rfl, rfl⟩ (fun _ => rfl) _ _ _ _ _ R
      exact yp_tMF (zv_ruf (by decide) (by decide)) hb0 hQ r _ _ _ N R' (by omega)
    · obtain ⟨i1, i2⟩ := ihr _ _ _ N R (by omega)
      rw [b3, yp_1M (g := g) b2 hb0 (hQ b b1) (by rw [if_neg z]; exact zv_rule0) rfl]
      exact ⟨fun n => i1 (fun u => n (.inr u)), fun n => n.elim (fun u => absurd (key.mpr u) z) i2⟩
end YP
end
section
/-! The judge: a parameter (31, 32, 33). -/
theorem yp_vof {h h' : zs_H} (e1 : h'.2.1 23 = h.2.1 23) (e2 : h'.2.1 24 = h.2.1 24) (e3 : h'.2.1 28 = h.2.1 28) (x y : Int32) : f_Pl_variableOf h' x y = f_Pl_variableOf h x y := by
  have e7 : f_Pl_variableOf_7 h' = f_Pl_variableOf_7 h := by
    funext k7 x1 x2 x3
    unfold f_Pl_variableOf_7
    rw [e2, e3]
  have eL : f_Pl_variableOf_L7 h' = f_Pl_variableOf_L7 h := by
    unfold f_Pl_variableOf_L7
    rw [e7]
  unfold f_Pl_variableOf
  rw [eL, e1]
theorem yp_jp {LC LM : List (List Int32)} {nb nf sz u B a0 b0 c0 k e ke te : Nat} {F : Nat → Nat} {h g : zs_H} {P Q : Nat → Prop} {w : zt_T} {wk p x x' : Int32} (C : yb_cx LC LM nb nf sz F h g) (ha0 : a0 < 32784) (hb0 : b0 < 33500) (hk : k < 33500) (hP : ∀ j, P j → ¬ j = a0) (hQ : ∀ j, Q j → ¬ j = b0) (hln : zt_ln w < sz) (u1 : F (nb - 1) ≤ u) (u2 : u < F nb) (inv : (h.1 38 7) = nI (32 + u)) (fp : (h.1 38 8) = x) (hB : B < 8 + nb) (iB : (h.2.1 30) (32 + u) = nI B) (tB : (g.2.1 93) u = nI (if B < 9 then 100000 + B else B - 9)) (so : (g.2.1 92) u = 2) (hc0 : c0 < 6000) (cv : (h.2.1 16) a0 = nI c0) (cp : (h.2.1 15) a0 = p) (cc : (h.2.1 17) a0 = nI e) (he : e < 32784) (hea : ¬ e = a0) (ct : (h.2.1 14) e = nI te) (hte : te < 3) (hw : zt_nr LC LM (nI c0) ((g.2.1 74) b0)) (mp : (g.2.1 73) b0 = p) (ma : (g.2.1 75) b0 = nI k) (mk : (g.2.1 74) k = wk) (hv : f_Mo_variable g ((g.1 68 54)) wk = some (nI u)) (mf : (g.2.1 76) b0 = nI ke) (hke : ke < 33500) (mt' : (g.2.1 100) ke = nI te) (mx : (g.2.1 76) k = x') (S : ∀ xx, xx < 300000000 → (h.2.1 32) (32 + u) = nI xx → yp_s LC LM F (nb - 1) B xx h g P Q w x x' (nI a0) (nI b0)) :
    ∃ h' g', f_Jd_judgeParameter h (nI a0) = some h' ∧ f_Mo_lookAtParameter g (nI b0) = some g' ∧ (zv_Fb h g h' g' ∨ (∃ cv off xx, h' = zs_uM h 16 a0 (nI cv) ∧ g' = zs_uM g 101 b0 (nI (xx + off)) ∧ cv < 32 + F nb ∧ cv < 6000 ∧ (h.2.1 32) cv = nI off ∧ (h.2.1 32) (32 + u) = nI xx ∧ (xx + off < 600000000 ∧ zi_B F B cv ∧ (h.2.1 29) cv = 1 ∧ ((h.2.1 31) cv = 0 → nI te = 0)) ∧ f_Pl_variableOf h (nI B) (nI c0) = some (nI cv))) := by
  have hz := zF_big
  obtain ⟨I, si, hb, hsz, hs2⟩ := id C
  have J1 : (h.1 38 3) = 0 := I.2.2.2.2.2.2.2.1
  have J2 : (g.1 68 29) = 0 := I.2.2.2.2.2.2.2.2
  have V3 : F nb ≤ 5900 := I.2.1.2.1.2.2
  have B3 : nb ≤ 568 := I.2.1.1.2.2
  have QQ := I.2.2.2.1.2.1 (nb - 1) u (by omega) u1 (by rw [show nb - 1 + 1 = nb by omega]; exact u2) u2
  obtain ⟨xx, xx1, xx2, xx3⟩ : ∃ xx, (h.2.1 32) (32 + u) = nI xx ∧ (g.2.1 94) u = nI xx ∧ xx < 300000000 := by
    obtain ⟨_, x, _, _, _, ⟨x1, x2⟩, _, _, ⟨xl, _⟩, _⟩ := QQ
    exact ⟨x, x1, x2, xl⟩
  clear QQ
  have S' := S xx xx3 xx1
  have eC : f_Jd_judgeParameter h (nI a0) = (f_Pl_variableOf h (nI B) (nI c0)).bind fun v5 => (if v5 = (-1) then f_Jd_judgeParameter_56 h (nI a0) else (if zd_in v5 6000 then (if ((h.2.1 29) v5.toNatClampNeg) = 1 then ((f_Jd_isToldBefore (zs_uM h 16 a0 v5) (nI a0)).bind fun v10 => ((f_Jd_refuseIf (zs_uM h 16 a0 v5) v10 33 (nI a0)).bind fun h13 => (if zd_in (nI a0) 32784 then (if zd_in ((h13.2.1 17) (nI a0).toNatClampNeg) 32784 then (if zd_in v5 6000 then (if (f_Jd_fits ((h13.2.1 14) ((h13.2.1 17) (nI a0).toNatClampNeg).toNatClampNeg) ((h13.2.1 31) v5.toNatClampNeg)) = 0 then f_Jd_judgeParameter_124 h13 (nI a0) 1 else f_Jd_judgeParameter_124 h13 (nI a0) 0) else none) else none) else none))) else f_Jd_judgeParameter_56 h (nI a0)) else none)) := by
    unfold f_Jd_judgeParameter
    rw [inv, if_neg (zc_m1 (show 32 + u < 2147483648 by omega)), if_pos (zi_in (by omega) (by omega)), nI_clamp (show 32 + u < 2147483648 by omega), iB]
    have e1 : (nI a0).toNatClampNeg = a0 := nI_clamp (by omega)
    simp only [if_pos (zi_in (show a0 < 2147483648 by omega) ha0), e1, cv]
  have eM : f_Mo_lookAtParameter g (nI b0) = (f_Mo_pin g (nI (if B < 9 then 100000 + B else B - 9)) (nI 1) ((g.2.1 74) b0)).bind fun v9 => (if 0 ≤ v9 then f_Mo_lookAtParameter_63 g (nI b0) (nI u) v9 0 else f_Mo_lookAtParameter_63 g (nI b0) (nI u) v9 1) := by
    unfold f_Mo_lookAtParameter
    rw [if_pos (zi_in (by omega) hb0), nI_clamp (show b0 < 2147483648 by omega), ma, if_pos (zi_in (by omega) hk), nI_clamp (show k < 2147483648 by omega), mk, hv, Option.bind_some, if_neg (zv_neg (show u < 2147483648 by omega)).2, if_pos (zi_in (by omega) (by omega)), nI_clamp (show u < 2147483648 by omega), so, if_pos rfl, tB]
    rfl
  have e63 : ∀ (y v9 : Int32) (g3 : zs_H), f_Mo_rule g y 32 (nI b0) = some g3 → g3.2 = g.2 → f_Mo_lookAtParameter_63 g (nI b0) (nI u) v9 y = f_Mo_lookAtParameter_L82 zF g3 (nI b0) (nI u) v9 x' := by
    intro y v9 g3 e1 e2
    unfold f_Mo_lookAtParameter_63
    rw [e1, Option.bind_some, if_pos (zi_in (by omega) hb0), nI_clamp (show b0 < 2147483648 by omega), e2, ma, if_pos (zi_in (by omega) hk), nI_clamp (show k < 2147483648 by omega), mx]
  rcases zv_pinE (inp := 1) I si hb hc0 hw hB (by decide) with ⟨cw, pp, ty, off, ⟨⟨o1, oB⟩, o1'⟩, o2, o3, o4, o5, o6, o7, o8, o9, o10, o11⟩ | ⟨o1, o2⟩
  · have o3' : (h.2.1 29) cw = 1 := o3
    rw [o2, Option.bind_some, if_neg (zc_m1 (show cw < 2147483648 by omega)), if_pos (zi_in (by omega) o1)] at eC
    obtain ⟨h1, hh1⟩ : ∃ h1, h1 = zs_uM h 16 a0 (nI cw) := ⟨_, rfl⟩
    have f01 : zfr [] [13, 14, 16, 17] [] h h1 := by rw [hh1]; exact zfr_M (by decide) zfr_rfl
    have v0 : (h1.2.1 16) a0 = nI cw := by rw [hh1, zu_MM, if_pos ⟨rfl, rfl⟩]
    have vo : ∀ c, f_Pl_variableOf h1 (nI B) c = f_Pl_variableOf h (nI B) c := fun c => yp_vof (f01.2.1 _ (by decide)) (f01.2.1 _ (by decide)) (f01.2.1 _ (by decide)) _ _
    have S1 : yp_s LC LM F (nb - 1) B xx h1 g P Q w x x' (nI a0) (nI b0) := yp_sf (h := h) (g := g) (h' := h1) (g' := g) (fun j hj => ⟨by rw [hh1, zu_MM, if_neg (fun z => hP j hj z.2)], by rw [f01.2.1 _ (by decide)], by rw [hh1, zu_MM, if_neg (fun z => absurd z.1 (by decide))], by rw [hh1, zu_MM, if_neg (fun z => absurd z.1 (by decide))]⟩) (fun _ _ => ⟨rfl, rfl, rfl, rfl⟩) ⟨f01.2.1 _ (by decide), f01.2.1 _ (by decide), f01.2.1 _ (by decide)⟩ vo _ _ _ _ _ S'
    have J11 : (h1.1 38 3) = 0 := (f01.1 _ _ List.not_mem_nil).trans J1
    obtain ⟨tC0, tC1⟩ := yp_tC (a0 := a0) (c0 := c0) (cv0 := cw) (h := h1) (sz := sz) ((f01.1 _ _ List.not_mem_nil).trans hsz) (by omega) ha0 hP v0 hc0 o1 (by rw [vo]; exact o2) w x x' (nI b0) 0 zF S1 (by omega) (by omega)
    have fp1 : (h1.1 38 8) = x := (f01.1 _ _ List.not_mem_nil).trans fp
    obtain ⟨tM0, tM1⟩ := yp_tM (x2 := nI u) (x3 := nI pp) (b0 := b0) (c0 := c0) (LC := LC) (LM := LM) ⟨I.1.1, I.1.2.1, I.1.2.2.1, I.1.2.2.2.1⟩ J2 hb0 hQ hw w x x' (nI a0) zF S' (by omega)
    rw [o8, Option.bind_some, if_pos (zv_neg (show pp < 2147483648 by omega)).1, e63 0 (nI pp) g zv_rule0 rfl] at eM
    have eC2 : ∀ (y : Int32) (h13 : zs_H), f_Jd_isToldBefore h1 (nI a0) = some y → f_Jd_refuseIf h1 y 33 (nI a0) = some h13 → h13.2 = h1.2 → f_Jd_judgeParameter h (nI a0) = f_Jd_refuseIf h13 (if f_Jd_fits (nI te) (nI ty) = 0 then 1 else 0) 31 (nI a0) := by
      intro y h13 e1 e2 e3
      have n1 : (nI cw).toNatClampNeg = cw := nI_clamp (by omega)
      have n2 : (nI a0).toNatClampNeg = a0 := nI_clamp (by omega)
      have n3 : (nI e).toNatClampNeg = e := nI_clamp (by omega)
      have o3n : (h.2.1 29) (nI cw).toNatClampNeg = 1 := by rw [n1]; exact o3'
      rw [eC, if_pos o3n, ← hh1, e1, Option.bind_some, e2, Option.bind_some, if_pos (zi_in (by omega) ha0)]
      unfold f_Jd_judgeParameter_124
      simp only [n1, n2, n3, e3, show (h1.2.1 17) a0 = nI e by rw [hh1, zu_MM, if_neg (fun z => absurd z.1 (by decide))]; exact cc, if_pos (zi_in (show e < 2147483648 by omega) he), show (h1.2.1 14) e = nI te by rw [hh1, zu_MM, if_neg (fun z => absurd z.1 (by decide))]; exact ct, show (h1.2.1 31) cw = nI ty by rw [f01.2.1 _ (by decide)]; exact o4, Option.bind_fun_some, if_pos (zi_in (show cw < 2147483648 by omega) o1)]
      by_cases z : f_Jd_fits (nI te) (nI ty) = 0
      · rw [if_pos z, if_pos z]
      · rw [if_neg z, if_neg z]
    have tb : f_Jd_isToldBefore h1 (nI a0) = f_Jd_isToldBefore_L7 h1 zF (nI a0) x (nI 0) := by
      unfold f_Jd_isToldBefore
      rw [fp1]; rfl
    by_cases zt : yp_in c0 w
    · -- 33
      have r33 := zv_rff (φ := 33) (i := a0) (h := h1) (by decide) (by decide)
      rw [eC2 1 (zv_rf 33 a0 h1) (tb.trans (tC1 zt)) (zv_ref1 (φ := 33) (by decide) J11 ha0) rfl, zv_refF r33, eM, tM1 zt]
      exact ⟨_, _, rfl, rfl, .inl (zv_mkF (φ := 33) (by decide) (by decide) cp mp f01 zfr_rfl zfr_rfl zfr_rfl)⟩
    · obtain ⟨N2, eN⟩ := tM0 zt
      have eM2 : f_Mo_lookAtParameter g (nI b0) = (f_Mo_rule g (if f_Jd_fits (nI te) (nI ty) = 0 then 1 else 0) 31 (nI b0)).bind fun h2 => (f_Mo_pinCell h2 ((h2.2.1 93) u) 1 (nI pp)).bind fun v5 => some (zs_uM h2 101 b0 ((h2.2.1 94) u + v5)) := by
        rw [eM, eN, yp_uP]
        unfold f_Mo_lookAtParameter_82 f_Mo_lookAtParameter_170
        rw [if_pos rfl, if_pos J2]
        simp only [if_pos (zi_in (show b0 < 2147483648 by omega) hb0), nI_clamp (show b0 < 2147483648 by omega), mf, if_pos (zi_in (show ke < 2147483648 by omega) hke), if_pos (zi_in (show u < 2147483648 by omega) (show u < 8400 by omega)), nI_clamp (show u < 2147483648 by omega), tB, show f_Mo_pinType g (nI (if B < 9 then 100000 + B else B - 9)) 1 (nI pp) = some (nI ty) from o10, Option.bind_some, nI_clamp (show ke < 2147483648 by omega), mt']
        show (if f_Jd_fits (nI te) (nI ty) = 0 then _ else _) = _
        by_cases z : f_Jd_fits (nI te) (nI ty) = 0
        · rw [if_pos z, if_pos z]
        · rw [if_neg z, if_neg z]
      have fin : ∀ g3 : zs_H, g3.2 = g.2 → ((f_Mo_pinCell g3 ((g3.2.1 93) u) 1 (nI pp)).bind fun v5 => some (zs_uM g3 101 b0 ((g3.2.1 94) u + v5))) = some (zs_uM g3 101 b0 (nI (xx + off))) := by
        intro g3 e3
        have epc : f_Mo_pinCell g3 (nI (if B < 9 then 100000 + B else B - 9)) 1 (nI pp) = some (nI off) := by
          rw [← o11]
          unfold f_Mo_pinCell
          rw [e3]; rfl
        rw [e3, tB, epc, Option.bind_some, xx2, show nI xx + nI off = nI (xx + off) from (Int32.ofNat_add xx off).symm]
      rw [eC2 0 h1 (tb.trans (tC0 zt)) zv_ref0 rfl, eM2]
      by_cases z : f_Jd_fits (nI te) (nI ty) = 0
      · -- 31
        rw [if_pos z, show (31 : Int32) = nI 31 from rfl, zv_ref1 (by decide) J11 ha0, zv_rule1 (by decide) J2 hb0, Option.bind_some]
        have := fin (zv_ru 31 b0 g) rfl
        exact ⟨_, _, rfl, this, .inl (zv_mkF (φ := 31) (h2 := h1) (g2 := g) (by decide) (by decide) cp mp f01 zfr_rfl zfr_rfl (zfr_M (by decide) zfr_rfl))⟩
      · rw [if_neg z, zv_ref0, zv_rule0, Option.bind_some, fin g rfl]
        exact ⟨_, _, rfl, rfl, .inr ⟨cw, off, xx, hh1, rfl, o1', o1, o6, xx1, ⟨by omega, oB, o3', fun q => by
          rw [o4] at q
          rw [q] at z
          exact ya_fit0 te hte z⟩, o2⟩⟩
  · -- 32
    have e56 : f_Jd_judgeParameter_56 h (nI a0) = some (zv_rf 32 a0 h) := by
      unfold f_Jd_judgeParameter_56
      rw [show (32 : Int32) = nI 32 from rfl, zv_refu J1 ha0, Option.bind_some]; rfl
    have eC3 : f_Jd_judgeParameter h (nI a0) = some (zv_rf 32 a0 h) := by
      rw [eC]
      rcases o1 with o1 | ⟨cw, q1, q2, q3⟩
      · rw [o1, Option.bind_some, if_pos rfl, e56]
      · have n1 : (nI cw).toNatClampNeg = cw := nI_clamp (by omega)
        rw [q2, Option.bind_some, if_neg (zc_m1 (show cw < 2147483648 by omega)), if_pos (zi_in (by omega) q1), if_neg (show ¬ (h.2.1 29) (nI cw).toNatClampNeg = 1 by rw [n1]; exact q3), e56]
    have S32 : yp_s LC LM F (nb - 1) B xx h (zv_ru 32 b0 g) P Q w x x' (nI a0) (nI b0) := yp_sf (h := h) (g := g) (h' := h) (g' := zv_ru 32 b0 g) (fun _ _ => ⟨rfl, rfl, rfl, rfl⟩) (fun _ _ => ⟨rfl, rfl, rfl, rfl⟩) ⟨rfl, rfl, rfl⟩ (fun _ => rfl) _ _ _ _ _ S'
    rw [eC3, eM, o2, Option.bind_some, if_neg (by decide), e63 1 (-1) (zv_ru 32 b0 g) (zv_rule1 (φ := 32) (by decide) J2 hb0) rfl, yp_tMF (zv_ruf (by decide) (by decide)) hb0 hQ w x x' (nI a0) zF S32 (by omega)]
    exact ⟨_, _, rfl, rfl, .inl (zv_mkF (φ := 32) (by decide) (by decide) cp mp zfr_rfl zfr_rfl zfr_rfl zfr_rfl)⟩
end
section
/-! The judge: a parameter is visited. -/
def yp_I (nb : Nat) (F : Nat → Nat) (u B : Nat) (wk : Int32) (h g : zs_H) : Prop := F (nb - 1) ≤ u ∧ u < F nb ∧ (h.1 38 7) = nI (32 + u) ∧ B < 8 + nb ∧ (h.2.1 30) (32 + u) = nI B ∧ (g.2.1 93) u = nI (if B < 9 then 100000 + B else B - 9) ∧ (g.2.1 92) u = 2 ∧ f_Mo_variable g ((g.1 68 54)) wk = some (nI u)
def yp_O (wk : Int32) (h g : zs_H) : Prop := (h.1 38 7) = -1 ∧ (f_Mo_variable g ((g.1 68 54)) wk = some (-1) ∨ ∃ u, u < 5900 ∧ f_Mo_variable g ((g.1 68 54)) wk = some (nI u) ∧ ¬ (g.2.1 92) u = 2)
theorem yp_vom {g g' : zs_H} (e1 : g'.2.1 90 = g.2.1 90) (e2 : g'.2.1 91 = g.2.1 91) (e3 : (g'.1 68 33) = (g.1 68 33)) (e4 : (g'.1 68 41) = (g.1 68 41)) (x y : Int32) : f_Mo_variable g' x y = f_Mo_variable g x y := by
  have e27 : f_Mo_variable_33 g' = f_Mo_variable_33 g := by
    funext k7 x1 x2 x3 y0 y1
    unfold f_Mo_variable_33
    rw [e2]
  have e7 : f_Mo_variable_7 g' = f_Mo_variable_7 g := by
    funext k7 x1 x2 x3
    unfold f_Mo_variable_7
    rw [e27, e1, e3, e4]
  have eL : f_Mo_variable_L7 g' = f_Mo_variable_L7 g := by
    unfold f_Mo_variable_L7
    rw [e7]
  unfold f_Mo_variable
  rw [eL, e1]
section YPB
variable {LC LM : List (List Int32)} {nb nf sz : Nat} {F : Nat → Nat} {h g h' g' : zs_H} {P Q : Nat → Prop} {u B : Nat} {wk : Int32}
theorem yp_vof2 (O : yb_out P Q h g h' g') (x y : Int32) : f_Mo_variable g' x y = f_Mo_variable g x y := yp_vom (O.2.1.2.1 _ (by decide)) (O.2.1.2.1 _ (by decide)) (O.2.1.1 _ _ List.not_mem_nil) (O.2.1.1 _ _ List.not_mem_nil) x y
theorem yp_If (O : yb_out P Q h g h' g') (H : yp_I nb F u B wk h g) : yp_I nb F u B wk h' g' := by
  obtain ⟨a1, a2, a3, a4, a5, a6, a7, a8⟩ := H
  exact ⟨a1, a2, (O.1.1 _ _ List.not_mem_nil).trans a3, a4, by rw [O.1.2.1 _ (by decide)]; exact a5, by rw [O.2.1.2.1 _ (by decide)]; exact a6, by rw [O.2.1.2.1 _ (by decide)]; exact a7, by rw [yp_vof2 O, O.2.1.1 _ _ List.not_mem_nil]; exact a8⟩
theorem yp_Of (O : yb_out P Q h g h' g') (H : yp_O wk h g) : yp_O wk h' g' := by
  obtain ⟨a1, a2⟩ := H
  refine ⟨(O.1.1 _ _ List.not_mem_nil).trans a1, ?_⟩
  rw [yp_vof2 O, O.2.1.1 _ _ List.not_mem_nil]
  rcases a2 with z | ⟨u, z1, z2, z3⟩
  · exact .inl z
  · exact .inr ⟨u, z1, z2, by rw [O.2.1.2.1 _ (by decide)]; exact z3⟩
theorem yp_fM {N : Nat} {x1 x2 x : Int32} {R : zs_H → Int32 → Option zs_H} (hf : ¬ (g.1 68 29) = 0) : f_Mo_lookAlone_L28 R (N + 1) g x1 x2 x = some g := by
  rw [zv_uM]
  unfold f_Mo_lookAlone_28 f_Mo_lookAlone_54
  rw [if_neg hf, if_neg hf, ite_self]
theorem yp_par {a b k d D D' c0 ce : Nat} {kvp kve : Int32 × Int32} {oe : Unit} {lp le w : zt_T} {P1 Q1 Pw Qw : Nat → Prop} {z1 x x' : Int32} (C : yb_cx LC LM nb nf sz F h g) (nd : yb_nd LC LM h g 14 kvp lp a b k P1 Q1 z1) (hl : lp = .inner ce kve oe le .leaf) (hE : ce ∈ yb_E) (VN : yb_VN ce kve le) (hk : k < 33500) (mk : (g.2.1 74) k = wk) (mx : (g.2.1 76) k = x') (fp : (h.1 38 8) = x) (hP1s : ∀ j, P1 j → j < sz) (has : a < sz) (hd : d + zg_d lp ≤ 239) (hD : zg_d lp ≤ D) (hD' : 2 * zg_d lp < D') (hc0 : c0 < 6000) (ec : kvp.2 = nI c0) (hln : zt_ln w < sz) (hPw : ∀ j, Pw j → ¬ j = a ∧ ¬ P1 j) (hQw : ∀ j, Qw j → ¬ j = b ∧ ¬ Q1 j) (hio : yp_O wk h g ∨ (yp_I nb F u B wk h g ∧ ∀ xx, xx < 300000000 → (h.2.1 32) (32 + u) = nI xx → yp_s LC LM F (nb - 1) B xx h g Pw Qw w x x' (nI a) (nI b))) :
    ∃ h' g', f_Jd_visit (D + 1) h (nI a) (nI d) = some h' ∧ f_Mo_look (D' + 2) g (nI b) = some g' ∧ ((zv_Fb h g h' g' ∧ ¬ (h'.1 38 3) = 0 ∧ ¬ (g'.1 68 29) = 0) ∨ (yb_ok F (nb - 1) 14 kvp lp a b P1 Q1 h g h' g' ∧ (h'.1 38 3) = 0 ∧ (g'.1 68 29) = 0 ∧ (yp_I nb F u B wk h g → ¬ yp_O wk h g → ∀ xx, xx < 300000000 → (h.2.1 32) (32 + u) = nI xx → yp_s LC LM F (nb - 1) B xx h' g' (fun j => Pw j ∨ (P1 j ∨ j = a)) (fun j => Qw j ∨ (Q1 j ∨ j = b)) (zt_ap w (.inner 14 kvp () lp .leaf)) x x' ((h'.2.1 18) a) ((g'.2.1 78) b)))) := by
  obtain ⟨⟨hi, hb, hPi, hQk, hP, hQ⟩, ⟨c1, c2, c3, c4, c5⟩, cC, ⟨m0, m1, m2, m3⟩, cM⟩ := id nd
  subst hl
  have hdl : max (zg_d le + 1) 0 ≤ zg_d (.inner ce kve oe le .leaf) := zg_d1 (r := .leaf)
  have J1 : (h.1 38 3) = 0 := C.1.2.2.2.2.2.2.2.1
  have J2 : (g.1 68 29) = 0 := C.1.2.2.2.2.2.2.2.2
  have hsz := C.2.2.2.1
  have hs2 := C.2.2.2.2
  obtain ⟨e, P3, P4, y1, y2, ee, e1, e2, e3, e4, e5, e6, e7, e8, e9, e10⟩ := zv_hC cC
  obtain ⟨ke, Q3, Q4, y3, ek, k1, k2, k3, k4, k5, k6, k7, k8, k9, k10, k11⟩ := zv_hM cM
  have he := hP e e2
  have hke := hQ ke k2
  have e9' : (h.2.1 18) e = -1 := (show (h.2.1 18) e = -1 ∧ y2 = -1 from e9).1
  have k10' : (g.2.1 78) ke = -1 := (show (g.2.1 78) ke = -1 ∧ y3 = -1 from k10).1
  have nde : yb_nd LC LM h g ce kve le e ke b P3 Q3 y1 := ⟨⟨he, hke, fun z => (e6 e z).2.1 rfl, fun z => (k7 ke z).2.1 rfl, fun j hj => hP j (e6 j hj).1, fun j hj => hQ j (k7 j hj).1⟩, ⟨e3, e4, e5, c5 e e2, fun j hj => c5 j (e6 j hj).1⟩, e8, ⟨k3, k4, k5, k6⟩, k9⟩
  obtain ⟨D', rfl⟩ : ∃ z, D' = z + 1 := ⟨D' - 1, by omega⟩
  obtain ⟨h2, g2, v1, v2, v3⟩ := VN LC LM nb nf sz F h g e ke b 14 (d + 1) D D' P3 Q3 y1 C nde hb m0 (by decide) (by decide) (by decide) (fun j hj => hP1s j (e6 j hj).1) (by omega) (by omega) (by omega)
  have v2' := yb_lk1 hke (fun z => (k7 ke z).2.1 rfl) (by omega) v2
  have hzz : zF = 18446744073709551614 + 1 + 1 := rfl
  have eC := zv_vC (D := D) (d := d) (h := h) (i := a) (by omega) hi (zv_ent0 (kd := 14) hi (by decide) c1 (by decide))
  rw [ee, hzz, zv_stC (sz := sz) (by omega) (by omega) he J1 hsz v1] at eC
  have eM := (zv_lM (D' := D' + 1) (g := g) (k := b) (kd := 14) hb (by decide) (by decide) m0).trans (zv_aM (D' := D' + 1) (g := g) (k := b) (kd := 14) hb (by decide) (by decide) m0)
  rw [ek, hzz, zv_stM hke J2 v2'] at eM
  rcases v3 with ⟨Fb, n1, n2⟩ | ⟨⟨O2, A⟩, n1, n2⟩
  · rw [yb_fC n1] at eC
    rw [yp_fM n2] at eM
    exact ⟨h2, g2, eC, eM, .inl ⟨Fb, n1, n2⟩⟩
  · have O2' : yb_out P1 Q1 h g h2 g2 := yb_outm O2 (fun j z => z.elim (fun z => (e6 j z).1) (fun z => by rw [z]; exact e2)) (fun j z => z.elim (fun z => (k7 j z).1) (fun z => by rw [z]; exact k2))
    have C2 := yb_cxf C O2.1 O2.2.1
    have nx : (h2.2.1 18) e = -1 := by rw [O2.1.2.1 _ (by decide)]; exact e9'
    have bs : (g2.2.1 78) ke = -1 := by rw [O2.2.1.2.1 _ (by decide)]; exact k10'
    rw [nx] at eC A
    rw [bs] at eM A
    obtain ⟨i1, i2, i3, i4⟩ := O2'.2.2.1 a hPi
    have ge : ∀ z, ¬ z ∈ [100, 101, 102] → g2.2.1 z = g.2.1 z := fun z hz => O2.2.1.2.1 z hz
    have he' : ∀ z, ¬ z ∈ [13, 14, 16, 17] → h2.2.1 z = h.2.1 z := fun z hz => O2.1.2.1 z hz
    have mkd : (g2.2.1 72) b = 14 := by rw [ge _ (by decide)]; exact m0
    have eC2 : f_Jd_visit (D + 1) h (nI a) (nI d) = f_Jd_judgeParameter h2 (nI a) := by
      rw [eC, zv_enC]
      unfold f_Jd_visit_74
      rw [if_pos n1, Option.bind_fun_some, zv_lv14 hi (i1.trans c1)]
    have eM2 : f_Mo_look (D' + 1 + 2) g (nI b) = f_Mo_lookAtParameter g2 (nI b) := by
      rw [eM, zv_enM, zv_54S (by decide) (by decide) n2]
      unfold f_Mo_lookAtStatements
      simp (config := { decide := true }) only [if_pos (zi_in (show b < 2147483648 by omega) hb), nI_clamp (show b < 2147483648 by omega), mkd, if_false, if_true, Option.bind_fun_some]
    have A1 : yb_F F (nb - 1) h2 g2 P1 Q1 (.inner ce kve oe le .leaf) ((h.2.1 17) a) ((g.2.1 76) b) (-1) (-1) := by
      rw [ee, ek]
      exact yb_Fm (fun j z => z.elim (fun z => (e6 j z).1) (fun z => by rw [z]; exact e2)) (fun j z => z.elim (fun z => (k7 j z).1) (fun z => by rw [z]; exact k2)) _ _ _ _ _ A
    have kid : ∀ h' : zs_H, (h'.2.1 13) a = (h2.2.1 13) a → (h'.2.1 17) a = (h2.2.1 17) a → ∀ g', yb_N F (nb - 1) h' g' P1 Q1 14 kvp.2 a b ((h.2.1 17) a) (zt_ln (.inner ce kve oe le .leaf)) := by
      intro h' q1 q2 g'
      exact .inl (.inr (.inr (.inr (.inl ⟨rfl, by rw [q1]; exact i1.trans c1, by rw [q2]; exact i4⟩))))
    rcases hio with HO | ⟨HI, S⟩
    · have HO2 := yp_Of O2 HO
      have eC3 : f_Jd_judgeParameter h2 (nI a) = some h2 := by
        unfold f_Jd_judgeParameter
        rw [HO2.1, if_pos rfl]
      have eM3 : f_Mo_lookAtParameter g2 (nI b) = some g2 := by
        unfold f_Mo_lookAtParameter
        rw [if_pos (zi_in (by omega) hb), nI_clamp (show b < 2147483648 by omega), show (g2.2.1 75) b = nI k by rw [ge _ (by decide)]; exact m3, if_pos (zi_in (by omega) hk), nI_clamp (show k < 2147483648 by omega), show (g2.2.1 74) k = wk by rw [ge _ (by decide)]; exact mk]
        rcases HO2.2 with z | ⟨u', z1, z2, z3⟩
        · rw [z, Option.bind_some, if_pos (by decide)]
        · have n3 : (nI u').toNatClampNeg = u' := nI_clamp (by omega)
          rw [z2, Option.bind_some, if_neg (zv_neg (show u' < 2147483648 by omega)).2, if_pos (zi_in (by omega) (by omega)), if_neg (show ¬ (g2.2.1 92) (nI u').toNatClampNeg = 2 by rw [n3]; exact z3)]
      exact ⟨h2, g2, by rw [eC2, eC3], by rw [eM2, eM3], .inr ⟨yb_fin C nd O2' A1 yb_out0 (kid h2 rfl rfl g2), n1, n2, fun _ z => absurd HO z⟩⟩
    · obtain ⟨a1, a2, a3, a4, a5, a6, a7, a8⟩ := yp_If O2 HI
      rw [if_pos (by decide)] at m2
      obtain ⟨ex, kx, t, q1, q2, q3, q4, q5, q6, t1, t2, t3, _⟩ := yb_first hE A1
      have eex : ex = e := by rw [ee] at q3; exact ((nI_eq (by omega) (by omega)).mp q3).symm
      have ekx : kx = ke := by rw [ek] at q6; exact ((nI_eq (by omega) (by omega)).mp q6).symm
      subst eex; subst ekx
      have vo : ∀ c, f_Pl_variableOf h2 (nI B) c = f_Pl_variableOf h (nI B) c := fun c => yp_vof (he' _ (by decide)) (he' _ (by decide)) (he' _ (by decide)) _ _
      have S2 : ∀ xx, xx < 300000000 → (h2.2.1 32) (32 + u) = nI xx → yp_s LC LM F (nb - 1) B xx h2 g2 Pw Qw w x x' (nI a) (nI b) := fun xx hx3 hxx => yp_sf (h := h) (g := g) (fun j hj => ⟨(O2'.2.2.1 j (hPw j hj).2).2.2.1, by rw [he' _ (by decide)], (O2'.2.2.1 j (hPw j hj).2).2.2.2, (O2'.2.2.1 j (hPw j hj).2).2.1⟩) (fun j hj => ⟨(O2'.2.2.2 j (hQw j hj).2).2.1, by rw [ge _ (by decide)], by rw [ge _ (by decide)], by rw [ge _ (by decide)]⟩) ⟨he' _ (by decide), he' _ (by decide), he' _ (by decide)⟩ vo _ _ _ _ _ (S xx hx3 (by rw [← he' _ (by decide)]; exact hxx))
      obtain ⟨h', g', w1, w2, w3⟩ := yp_jp (p := kvp.1) (wk := wk) (x := x) (x' := x') (w := w) (P := Pw) (Q := Qw) (e := ex) (ke := kx) (te := t) (c0 := c0) C2 hi hb hk (fun j hj => (hPw j hj).1) (fun j hj => (hQw j hj).1) hln a1 a2 a3 ((O2.1.1 _ _ List.not_mem_nil).trans fp) a4 a5 a6 a7 hc0 (i3.trans (c3.trans ec)) (by rw [he' _ (by decide)]; exact c2) (i4.trans q3) he (fun z => hPi (by rw [← z]; exact e2)) t2 t1 (by rw [ge _ (by decide), ← ec]; exact m2) (by rw [ge _ (by decide)]; exact m1 (by decide)) (by rw [ge _ (by decide)]; exact m3) (by rw [ge _ (by decide)]; exact mk) a8 (by rw [ge _ (by decide)]; exact q6) hke t3 (by rw [ge _ (by decide)]; exact mx) S2
      refine ⟨h', g', by rw [eC2, w1], by rw [eM2, w2], ?_⟩
      rcases w3 with Fb | ⟨cv, off, xx, x1, x2, x3, x4, x5, x6, x7, x8⟩
      · obtain ⟨⟨φ, p, X⟩, f1, f2⟩ := Fb
        have xn := zv_Xn X
        exact .inl ⟨⟨⟨φ, p, X⟩, zfr_trans (zfr_w O2.1 (by decide) (by decide) (by decide)) f1, zfr_trans (zfr_w O2.2.1 (by decide) (by decide) (by decide)) f2⟩, xn.1, xn.2⟩
      · right
        have W : yb_out (fun j => j = a) (fun j => j = b) h2 g2 h' g' := by
          rw [x1, x2]
          exact yb_W6 _ (yb_W2 _ yb_out0)
        have wa : (h'.2.1 16) a = nI cv := by rw [x1, zu_MM, if_pos ⟨rfl, rfl⟩]
        have wb : (g'.2.1 101) b = nI (xx + off) := by rw [x2, zu_MM, if_pos ⟨rfl, rfl⟩]
        have ge2 : ∀ z, ¬ z ∈ [100, 101, 102] → g'.2.1 z = g2.2.1 z := fun z hz => W.2.1.2.1 z hz
        have he2 : ∀ z, ¬ z ∈ [13, 14, 16, 17] → h'.2.1 z = h2.2.1 z := fun z hz => W.1.2.1 z hz
        refine ⟨yb_fin C nd O2' A1 W (kid h' (by rw [x1, zu_MM, if_neg (fun z => absurd z.1 (by decide))]) (by rw [x1, zu_MM, if_neg (fun z => absurd z.1 (by decide))]) g'), (W.1.1 _ _ List.not_mem_nil).trans n1, (W.2.1.1 _ _ List.not_mem_nil).trans n2, fun _ _ xx' hx3' hxx' => ?_⟩
        have exx : xx' = xx := by
          have e0 : nI xx' = nI xx := by rw [← hxx', ← x6, he' _ (by decide)]
          exact (nI_eq (by omega) (by omega)).mp e0
        subst exx
        have vo2 : ∀ c, f_Pl_variableOf h' (nI B) c = f_Pl_variableOf h2 (nI B) c := fun c => yp_vof (he2 _ (by decide)) (he2 _ (by decide)) (he2 _ (by decide)) _ _
        refine yp_sap w _ _ _ _ _ _ _ (yp_sm (fun _ z => .inl z) (fun _ z => .inl z) _ _ _ _ _ (yp_sf (h := h2) (g := g2) (fun j hj => ⟨(W.2.2.1 j (hPw j hj).1).2.2.1, by rw [he2 _ (by decide)], (W.2.2.1 j (hPw j hj).1).2.2.2, (W.2.2.1 j (hPw j hj).1).2.1⟩) (fun j hj => ⟨(W.2.2.2 j (hQw j hj).1).2.1, by rw [ge2 _ (by decide)], by rw [ge2 _ (by decide)], by rw [ge2 _ (by decide)]⟩) ⟨he2 _ (by decide), he2 _ (by decide), he2 _ (by decide)⟩ vo2 _ _ _ _ _ (S2 xx' hx3' x6))) ?_
        exact ⟨a, b, cv, off, c0, ⟨.inr (.inr rfl), hi, rfl⟩, ⟨.inr (.inr rfl), hb, rfl, by rw [ge2 _ (by decide)]; exact mkd⟩, ⟨wa, by rw [show nb - 1 + 1 = nb by have := C.2.2.1; omega]; exact x3, x4, by rw [he2 _ (by decide)]; exact x5, wb, x7.1, x7.2.1, by rw [he2 _ (by decide)]; exact x7.2.2.1, ex, he, by rw [x1, zu_MM, if_neg (fun z => absurd z.1 (by decide))]; exact i4.trans q3, .inr (.inl q1), fun z => by
          rw [he2 _ (by decide)] at z
          rw [x1, zu_MM, if_neg (fun z => absurd z.1 (by decide)), t2]
          exact x7.2.2.2 z⟩, ⟨ec, hc0, by rw [vo2]; exact x8, by rw [ge2 _ (by decide), ge _ (by decide), ← ec]; exact m2⟩, rfl, rfl⟩
end YPB
end
section
/-! The judge: an invocation is visited (20, 21). -/
theorem zt_lnap : ∀ t u : zt_T, zt_ln (zt_ap t u) = zt_ln t + zt_ln u := by
  intro t u
  induction t with
  | leaf => show zt_ln u = 0 + zt_ln u; omega
  | inner kd kv o l r ihl ihr =>
    show 1 + zt_ln (zt_ap r u) = 1 + zt_ln r + zt_ln u
    rw [ihr]; omega
def yp_Ph : zt_T → Prop
  | .leaf => True
  | .inner kd _ _ l r => (kd = 14 ∧ ∃ ce kve oe le, l = .inner ce kve oe le .leaf ∧ ce ∈ yb_E ∧ yb_VN ce kve le) ∧ yp_Ph r
def yp_St (LC LM : List (List Int32)) (nb : Nat) (F : Nat → Nat) (i k u B : Nat) (wk : Int32) (l : zt_T) (P Q : Nat → Prop) (h1 g1 : zs_H) (uu : zt_T) (h g : zs_H) (x x' : Int32) : Prop :=
  ∃ (w : zt_T) (Pw Qw Pu Qu : Nat → Prop) (yu yu' : Int32), l = zt_ap w uu ∧ (zt_C h uu Pu x yu ∧ zt_M LC LM g uu Qu (nI k) x' yu') ∧ ((∀ j, Pu j → P j) ∧ (∀ j, Qu j → Q j) ∧ (∀ j, Pw j → P j ∧ ¬ Pu j) ∧ (∀ j, Qw j → Q j ∧ ¬ Qu j)) ∧ yb_F F (nb - 1) h g Pw Qw w ((h1.2.1 17) i) ((g1.2.1 76) k) x x' ∧ (∀ j, Pu j → (h.2.1 14) j = 0) ∧ yb_out P Q h1 g1 h g ∧ yp_Ph uu ∧ (zg_d uu ≤ zg_d l ∧ (h.1 38 3) = 0 ∧ (g.1 68 29) = 0) ∧ (yp_O wk h1 g1 ∨ (yp_I nb F u B wk h1 g1 ∧ ¬ yp_O wk h1 g1 ∧ ∀ xx, xx < 300000000 → (h1.2.1 32) (32 + u) = nI xx → yp_s LC LM F (nb - 1) B xx h g Pw Qw w ((h1.2.1 17) i) ((g1.2.1 76) k) x x'))
section YPC
variable {LC LM : List (List Int32)} {nb nf sz : Nat} {F : Nat → Nat} {h1 g1 h g : zs_H} {P Q : Nat → Prop} {u B : Nat} {wk : Int32}
theorem yp_step {i k d D D' c : Nat} {l lc r : zt_T} {kv : Int32 × Int32} {o : Unit} {x x' : Int32} (C : yb_cx LC LM nb nf sz F h1 g1) (hk : k < 33500) (mk : (g1.2.1 74) k = wk) (fp : (h1.1 38 8) = (h1.2.1 17) i) (hP : ∀ j, P j → j < 32784) (hPs : ∀ j, P j → j < sz) (hQ : ∀ j, Q j → j < 33500) (hPi : ¬ P i) (hls : zt_ln l ≤ sz) (hd : d + zg_d l ≤ 239) (hD : zg_d l ≤ D + 1) (hD' : 2 * zg_d l < D' + 2) (S : yp_St LC LM nb F i k u B wk l P Q h1 g1 (.inner c kv o lc r) h g x x') :
    zv_res (D + 1) (D' + 2) d sz h1 g1 (yp_St LC LM nb F i k u B wk l P Q h1 g1 r) h g x x' := by
  obtain ⟨w, Pw, Qw, Pu, Qu, yu, yu', e0, ⟨sC, sM⟩, ⟨p1, p2, p3, p4⟩, A, ty, O, ⟨⟨e14, ce, kve, oe, le, hlc, hE, VN⟩, Ph⟩, ⟨zd, J1, J2⟩, io⟩ := S
  subst e14
  have C2 : yb_cx LC LM nb nf sz F h g := yb_cxf C O.1 O.2.1
  have zd' : max (zg_d lc + 1) (zg_d r) ≤ zg_d l := Nat.le_trans zg_d1 zd
  obtain ⟨a, P1, P2, z1, z2, ea, a1, a2, a3, a4, a5, a6, a7, a8, a9, a10⟩ := zv_hC sC
  obtain ⟨b, Q1, Q2, z3, eb, b1, b2, b3, b4, b5, b6, b7, b8, b9, b10, b11⟩ := zv_hM sM
  have ha := hP a (p1 a a2)
  have hbb := hQ b (p2 b b2)
  have nd : yb_nd LC LM h g 14 kv lc a b k P1 Q1 z1 := ⟨⟨ha, hbb, fun z => (a6 a z).2.1 rfl, fun z => (b7 b z).2.1 rfl, fun j hj => hP j (p1 j (a6 j hj).1), fun j hj => hQ j (p2 j (b7 j hj).1)⟩, ⟨a3, a4, a5, ty a a2, fun j hj => ty j (a6 j hj).1⟩, a8, ⟨b3, b4, b5, b6⟩, b9⟩
  have b5' := b5
  rw [if_pos (by decide)] at b5'
  obtain ⟨c0, hc0, ec, _⟩ := yb_nr C2 b5'
  have hlw : zt_ln w < sz := by
    have : zt_ln l = zt_ln w + zt_ln (.inner 14 kv o lc r) := by rw [e0, zt_lnap]
    have h1 : zt_ln (.inner 14 kv o lc r) = 1 + zt_ln r := rfl
    omega
  have ge : ∀ z, ¬ z ∈ [100, 101, 102] → g.2.1 z = g1.2.1 z := fun z hz => O.2.1.2.1 z hz
  have ch : (h.2.1 17) i = (h1.2.1 17) i := (O.2.2.1 i hPi).2.2.2
  obtain ⟨h', g', v1, v2, v3⟩ := yp_par (u := u) (B := B) (wk := wk) (w := w) (Pw := Pw) (Qw := Qw) (x := (h1.2.1 17) i) (x' := (g1.2.1 76) k) (c0 := c0) (d := d + 1) (D := D) (D' := D') C2 nd hlc hE VN hk (by rw [ge _ (by decide)]; exact mk) (by rw [ge _ (by decide)]) ((O.1.1 _ _ List.not_mem_nil).trans fp) (fun j hj => hPs j (p1 j (a6 j hj).1)) (hPs a (p1 a a2)) (by omega) (by omega) (by omega) hc0 ec hlw (fun j hj => ⟨fun z => (p3 j hj).2 (by rw [z]; exact a2), fun z => (p3 j hj).2 (a6 j z).1⟩) (fun j hj => ⟨fun z => (p4 j hj).2 (by rw [z]; exact b2), fun z => (p4 j hj).2 (b7 j z).1⟩) (by
    rcases io with z | ⟨q1, q2, q3⟩
    · exact .inl (yp_Of O z)
    · refine .inr ⟨yp_If O q1, fun xx hx hxx => ?_⟩
      rw [← ea, ← eb]
      exact q3 xx hx (by rw [← O.1.2.1 _ (by decide)]; exact hxx))
  refine ⟨a, b, ea, ha, eb, hbb, J1, J2, C2.2.2.2.1, h', g', v1, v2, ?_⟩
  rcases v3 with ⟨⟨X, f1, f2⟩, n1, n2⟩ | ⟨⟨O2, Bk⟩, n1, n2, ss⟩
  · exact .inl ⟨⟨X, zfr_trans (zfr_w O.1 (by decide) (by decide) (by decide)) f1, zfr_trans (zfr_w O.2.1 (by decide) (by decide) (by decide)) f2⟩, n1, n2⟩
  · right
    have nx : (h'.2.1 18) a = (h.2.1 18) a := by rw [O2.1.2.1 _ (by decide)]
    have nb' : (g'.2.1 78) b = (g.2.1 78) b := by rw [O2.2.1.2.1 _ (by decide)]
    refine ⟨zt_ap w (.inner 14 kv o lc .leaf), fun j => Pw j ∨ (P1 j ∨ j = a), fun j => Qw j ∨ (Q1 j ∨ j = b), P2, Q2, z2, z3, ?_, ⟨?_, ?_⟩, ⟨fun j hj => p1 j (a7 j hj).1, fun j hj => p2 j (b8 j hj).1, fun j hj => ?_, fun j hj => ?_⟩, ?_, fun j hj => ?_, ?_, Ph, ⟨by omega, n1, n2⟩, ?_⟩
    · rw [zt_ap_as]; exact e0
    · rw [nx]
      exact yb_keepC O2 (fun j hj z => z.elim (fun z => (a6 j z).2.2 hj) (fun z => (a7 j hj).2 z)) a9
    · rw [nb']
      exact yb_keepM O2.2.1 b10
    · rcases hj with z | z | z
      · exact ⟨(p3 j z).1, fun u => (p3 j z).2 (a7 j u).1⟩
      · exact ⟨p1 j (a6 j z).1, (a6 j z).2.2⟩
      · exact ⟨by rw [z]; exact p1 a a2, fun u => (a7 j u).2 z⟩
    · rcases hj with z | z | z
      · exact ⟨(p4 j z).1, fun u => (p4 j z).2 (b8 j u).1⟩
      · exact ⟨p2 j (b7 j z).1, (b7 j z).2.2⟩
      · exact ⟨by rw [z]; exact p2 b b2, fun u => (b8 j u).2 z⟩
    · have A' := yb_keep C2 O2 (fun j hj => ⟨hP j (p3 j hj).1, fun z => (p3 j hj).2 (z.elim (fun z => (a6 j z).1) (fun z => by rw [z]; exact a2))⟩) (fun j hj z => (p4 j hj).2 (z.elim (fun z => (b7 j z).1) (fun z => by rw [z]; exact b2))) A
      refine yb_ap w _ _ _ _ _ _ _ (yb_Fm (fun _ z => .inl z) (fun _ z => .inl z) _ _ _ _ _ A') ?_
      rw [ea, eb]
      exact yb_Fm (fun _ z => .inr z) (fun _ z => .inr z) _ _ _ _ _ Bk
    · obtain ⟨t1, t2, _⟩ := O2.2.2.1 j (fun z => z.elim (fun z => (a6 j z).2.2 hj) (fun z => (a7 j hj).2 z))
      rw [t2]; exact ty j (a7 j hj).1
    · exact yb_outm (yb_outt O O2) (fun j z => z.elim id (fun z => z.elim (fun z => p1 j (a6 j z).1) (fun z => by rw [z]; exact p1 a a2))) (fun j z => z.elim id (fun z => z.elim (fun z => p2 j (b7 j z).1) (fun z => by rw [z]; exact p2 b b2)))
    · rcases io with z | ⟨q1, q2, q3⟩
      · exact .inl z
      · have nO : ¬ yp_O wk h g := fun z => by
          obtain ⟨z1, _⟩ := z
          have := (yp_If O q1).2.2.1
          rw [this] at z1
          exact zc_m1 (by have := C.1.2.1.2.1.2.2; have := q1.2.1; omega) z1
        exact .inr ⟨q1, q2, fun xx hx hxx => ss (yp_If O q1) nO xx hx (by rw [O.1.2.1 _ (by decide)]; exact hxx)⟩
end YPC
end
section
/-! The judge: an invocation is visited (20, 21). -/
theorem yp_o13 : ∀ {l : zt_T}, zg_ok l → yp_Ph l → yc_o l = 0 := by
  intro l
  induction l with
  | leaf => intro _ _; rfl
  | inner kd kv o lc r _ ihr =>
    intro ⟨_, okl, okr⟩ ⟨⟨e14, ce, kve, oe, le, hlc, hE, _⟩, Ph⟩
    subst e14
    show 0 + yc_o lc + yc_o r = 0
    rw [ihr okr Ph, yc_oE lc okl (by rw [hlc]; exact ⟨hE, trivial⟩)]
section YPD
variable {LC LM : List (List Int32)} {nb nf : Nat} {F : Nat → Nat} {h g : zs_H}
/-- 20, 21 at an invocation -/
theorem yp_lv {i k c : Nat} {q w p : Int32} (I : zv_I LC LM nb nf (F nb) F q h g) (hb : 0 < nb) (hi : i < 32784) (hk : k < 33500) (hc : c < 6000) (hw : zt_nr LC LM (nI c) w) (c0 : (h.2.1 13) i = 13) (c1 : (h.2.1 16) i = nI c) (c2 : (h.2.1 15) i = p) (m0 : (g.2.1 72) k = 13) (m1 : (g.2.1 74) k = w) (m2 : (g.2.1 73) k = p) :
    ∃ h' g', f_Jd_leave h (nI i) = some h' ∧ f_Mo_lookAlone_54 g (nI k) (nI 13) = some g' ∧ (zv_Fb h g h' g' ∨ (∃ u x B, F (nb - 1) ≤ u ∧ u < F nb ∧ B < 8 + nb ∧ (h.2.1 30) (32 + u) = nI B ∧ f_Mo_variable g ((g.1 68 54)) w = some (nI u) ∧ (g.2.1 92) u = 2 ∧ (h.2.1 32) (32 + u) = nI x ∧ h' = zs_uM h 16 i (nI (32 + u)) ∧ g' = zs_uM (zs_uM g 101 k (nI x)) 102 k (nI (if B < 9 then 100 + B else B - 9)))) := by
  have J1 : (h.1 38 3) = 0 := I.2.2.2.2.2.2.2.1
  have J2 : (g.1 68 29) = 0 := I.2.2.2.2.2.2.2.2
  have hB3 : nb ≤ 568 := I.2.1.1.2.2
  have V3 : F nb ≤ 5900 := I.2.1.2.1.2.2
  have eC : ∀ (v : Int32) (hf : zs_H), f_Jd_variableAt h (nI i) 0 = some (v, hf) → f_Jd_leave h (nI i) = some (zs_uM hf 16 i v) := by
    intro v hf e
    unfold f_Jd_leave
    simp (config := { decide := true }) only [if_pos (zi_in (show i < 2147483648 by omega) hi), nI_clamp (show i < 2147483648 by omega), c0, if_false, if_true, e]
    rfl
  have eM : f_Mo_lookAlone_54 g (nI k) (nI 13) = (f_Mo_lookAtInstance g (nI k)).bind fun h14 => (if ((h14.1 68 29)) = 0 then (if zd_in (nI k) 33500 then ((f_Mo_variable h14 ((h14.1 68 54)) ((h14.2.1 74) k)).bind fun v18 => (if zd_in v18 8400 then (if ((h14.2.1 93) v18.toNatClampNeg) < 100000 then f_Mo_lookAtStatements_200 (zs_uM h14 101 k ((h14.2.1 94) v18.toNatClampNeg)) ((h14.2.1 93) v18.toNatClampNeg) (nI k) else f_Mo_lookAtStatements_200 (zs_uM h14 101 k ((h14.2.1 94) v18.toNatClampNeg)) ((100 + ((h14.2.1 93) v18.toNatClampNeg)) - 100000) (nI k)) else none)) else none) else (some h14)) := by
    rw [zv_54S (by decide) (by decide) J2]
    unfold f_Mo_lookAtStatements
    simp (config := { decide := true }) only [if_pos (zi_in (show k < 2147483648 by omega) hk), nI_clamp (show k < 2147483648 by omega), m0, if_false, if_true]
  have eI : f_Mo_lookAtInstance g (nI k) = (f_Mo_variable g ((g.1 68 54)) w).bind fun v3 => (if 0 ≤ v3 then f_Mo_lookAtInstance_25 g (nI k) v3 0 else f_Mo_lookAtInstance_25 g (nI k) v3 1) := by
    unfold f_Mo_lookAtInstance
    rw [if_pos (zi_in (by omega) hk), nI_clamp (show k < 2147483648 by omega), m1]
  have bad : ∀ (φ : Nat), 0 < φ → φ < 1000 → f_Mo_lookAtInstance g (nI k) = some (zv_ru φ k g) → f_Mo_lookAlone_54 g (nI k) (nI 13) = some (zv_ru φ k g) := by
    intro φ a1 a2 e
    rw [eM, e, Option.bind_some, if_neg (zv_ruf a1 a2)]
  rcases zv_vCase I hb hc hw with ⟨z1, z2⟩ | ⟨u, ins, so, v1, v2, v3, v4, v5, v6, v7, v8, s0, s1, s2, Q⟩
  · refine ⟨_, zv_ru 20 k g, eC _ _ (zv_vaC0 hi c1 J1 z1), bad 20 (by decide) (by decide) ?_, .inl (zv_mkF (φ := 20) (by decide) (by decide) c2 m2 zfr_rfl zfr_rfl (zfr_M (by decide) zfr_rfl) zfr_rfl)⟩
    rw [eI, z2, Option.bind_some, if_neg (by decide)]
    unfold f_Mo_lookAtInstance_25 f_Mo_lookAtInstance_50 f_Mo_lookAtInstance_51
    rw [show (20 : Int32) = nI 20 from rfl, zv_rule1 (by decide) J2 hk, Option.bind_some, if_pos (by decide), zv_rule0, Option.bind_some]
    rfl
  · have eI3 : f_Mo_lookAtInstance g (nI k) = if so = 2 then some g else f_Mo_lookAtInstance_51 g (nI k) 1 := by
      rw [eI, v5, Option.bind_some, if_pos (zv_neg (show u < 2147483648 by omega)).1]
      unfold f_Mo_lookAtInstance_25 f_Mo_lookAtInstance_50
      rw [zv_rule0, Option.bind_some, if_neg (zv_neg (show u < 2147483648 by omega)).2, if_pos (zi_in (by omega) (by omega)), nI_clamp (show u < 2147483648 by omega)]
      simp only [v7, show (nI so = 2) ↔ so = 2 from zc_eq (k := 2) (by decide) (by omega)]
      unfold f_Mo_lookAtInstance_51
      rw [zv_rule0, Option.bind_some]
    by_cases z : so = 2
    · have zi : 0 ≤ ins := s2.mp z
      subst z
      have eV := zv_vaC1p (form := 0) (by decide) hi c1 J1 v4 v3 v6
      rw [if_pos zi] at eV
      rw [if_pos rfl] at eI3
      obtain ⟨x, x1, x2⟩ : ∃ x, (h.2.1 32) (32 + u) = nI x ∧ (g.2.1 94) u = nI x := by
        obtain ⟨_, x, _, _, _, ⟨x1, x2⟩, _⟩ := Q
        exact ⟨x, x1, x2⟩
      obtain ⟨B, b1, b2, b4⟩ : ∃ B, B < 8 + nb ∧ (h.2.1 30) (32 + u) = nI B ∧ (g.2.1 93) u = nI (if B < 9 then 100000 + B else B - 9) := by
        have h1 : 9 + (nb - 1) = 8 + nb := by omega
        obtain ⟨_, _, _, _, _, _, _, _, _, _, _, q8, _⟩ := Q
        rw [h1] at q8
        rcases q8 with ⟨_, e, _⟩ | ⟨_, e, _⟩ | ⟨B, a1, a2, a3, a4, _⟩
        · rw [v7] at e; exact absurd e (by decide)
        · rw [v7] at e; exact absurd e (by decide)
        · exact ⟨B, a1, a2, a4⟩
      clear Q
      have e200 : ∀ (y : Int32) (g3 : zs_H), f_Mo_lookAtStatements_200 g3 y (nI k) = some (zs_uM g3 102 k y) := by
        intro y g3
        unfold f_Mo_lookAtStatements_200
        rw [if_pos (zi_in (by omega) hk), nI_clamp (show k < 2147483648 by omega)]
      refine ⟨_, zs_uM (zs_uM g 101 k (nI x)) 102 k (nI (if B < 9 then 100 + B else B - 9)), eC _ _ eV, ?_, .inr ⟨u, x, B, v1, v2, b1, b2, v5, v7, x1, rfl, rfl⟩⟩
      rw [eM, eI3, Option.bind_some, if_pos J2, if_pos (zi_in (by omega) hk), m1, v5, Option.bind_some, if_pos (zi_in (by omega) (by omega))]
      have n3 : (nI u).toNatClampNeg = u := nI_clamp (by omega)
      simp only [n3, e200, b4, x2]
      by_cases z9 : B < 9
      · have t1 : ¬ nI (100000 + B) < 100000 := mt (zc_tl (k := 100000) (by decide) (by omega)).mp (by omega)
        have t2 : (100 : Int32) + nI (100000 + B) - 100000 = nI (100 + B) := by
          rw [show (100 : Int32) + nI (100000 + B) = nI (100 + (100000 + B)) from (Int32.ofNat_add 100 (100000 + B)).symm, show (100000 : Int32) = nI 100000 from rfl, zi_sub (by omega), show 100 + (100000 + B) - 100000 = 100 + B by omega]
        simp only [if_pos z9, if_neg t1, t2]
      · have t1 : nI (B - 9) < 100000 := (zc_tl (k := 100000) (by decide) (by omega)).mpr (by omega)
        simp only [if_neg z9, if_pos t1]
    · have zi : ¬ 0 ≤ ins := fun u => z (s2.mpr u)
      have eV := zv_vaC1p (form := 0) (by decide) hi c1 J1 v4 v3 v6
      rw [if_neg zi] at eV
      refine ⟨_, zv_ru 21 k g, eC _ _ eV, bad 21 (by decide) (by decide) ?_, .inl (zv_mkF (φ := 21) (by decide) (by decide) c2 m2 zfr_rfl zfr_rfl (zfr_M (by decide) zfr_rfl) zfr_rfl)⟩
      rw [eI3, if_neg z]
      unfold f_Mo_lookAtInstance_51
      rw [show (21 : Int32) = nI 21 from rfl, zv_rule1 (by decide) J2 hk, Option.bind_some]
      rfl
/-- an invocation is entered -/
theorem yp_en {i c : Nat} {q w : Int32} (I : zv_I LC LM nb nf (F nb) F q h g) (hb : 0 < nb) (hi : i < 32784) (hc : c < 6000) (hw : zt_nr LC LM (nI c) w) (c0 : (h.2.1 13) i = 13) (c1 : (h.2.1 16) i = nI c) :
    ∃ h1, f_Jd_enter h (nI i) = some h1 ∧ zfr [(38, 7), (38, 8)] [] [] h h1 ∧ (h1.1 38 8) = (h.2.1 17) i ∧ (yp_O w h1 g ∨ ∃ u B, yp_I nb F u B w h1 g ∧ ¬ yp_O w h1 g) := by
  have V3 : F nb ≤ 5900 := I.2.1.2.1.2.2
  have hB3 : nb ≤ 568 := I.2.1.1.2.2
  have eV : ∀ z y, f_Pl_variableHere (zs_uF h 38 8 z) y = f_Pl_variableHere h y := fun z y => rfl
  have eE : f_Jd_enter h (nI i) = (f_Pl_variableHere h (nI c)).bind fun v15 => (if v15 = (-1) then (some (zs_uF (zs_uF h 38 8 ((h.2.1 17) i)) 38 7 v15)) else (if zd_in v15 6000 then (if 0 ≤ ((h.2.1 30) v15.toNatClampNeg) then (some (zs_uF (zs_uF h 38 8 ((h.2.1 17) i)) 38 7 v15)) else (some (zs_uF (zs_uF (zs_uF h 38 8 ((h.2.1 17) i)) 38 7 v15) 38 7 (-1)))) else none)) := by
    unfold f_Jd_enter
    simp (config := { decide := true }) only [if_pos (zi_in (show i < 2147483648 by omega) hi), nI_clamp (show i < 2147483648 by omega), c0, if_false, if_true, c1, eV]
  rcases zv_vCase I hb hc hw with ⟨z1, z2⟩ | ⟨u, ins, so, v1, v2, v3, v4, v5, v6, v7, v8, s0, s1, s2, Q⟩
  · rw [eE, z1, Option.bind_some, if_pos rfl]
    exact ⟨_, rfl, zfr_F (by decide) (zfr_F (by decide) zfr_rfl), rfl, .inl ⟨rfl, .inl z2⟩⟩
  · have n3 : (nI (32 + u)).toNatClampNeg = 32 + u := nI_clamp (by omega)
    rw [eE, v4, Option.bind_some, if_neg (zc_m1 (show 32 + u < 2147483648 by omega)), if_pos (zi_in (by omega) (by omega))]
    by_cases z : so = 2
    · have zi : 0 ≤ (h.2.1 30) (nI (32 + u)).toNatClampNeg := by rw [n3, v6]; exact s2.mp z
      rw [if_pos zi]
      subst z
      obtain ⟨B, b1, b2, b4⟩ : ∃ B, B < 8 + nb ∧ (h.2.1 30) (32 + u) = nI B ∧ (g.2.1 93) u = nI (if B < 9 then 100000 + B else B - 9) := by
        have h1 : 9 + (nb - 1) = 8 + nb := by omega
        obtain ⟨_, _, _, _, _, _, _, _, _, _, _, q8, _⟩ := Q
        rw [h1] at q8
        rcases q8 with ⟨_, e, _⟩ | ⟨_, e, _⟩ | ⟨B, a1, a2, a3, a4, _⟩
        · rw [v7] at e; exact absurd e (by decide)
        · rw [v7] at e; exact absurd e (by decide)
        · exact ⟨B, a1, a2, a4⟩
      clear Q
      exact ⟨_, rfl, zfr_F (by decide) (zfr_F (by decide) zfr_rfl), rfl, .inr ⟨u, B, ⟨v1, v2, rfl, b1, b2, b4, v7, v5⟩, fun z => zc_m1 (show 32 + u < 2147483648 by omega) z.1⟩⟩
    · have zi : ¬ 0 ≤ (h.2.1 30) (nI (32 + u)).toNatClampNeg := by rw [n3, v6]; exact fun q => z (s2.mpr q)
      rw [if_neg zi]
      exact ⟨_, rfl, zfr_F (by decide) (zfr_F (by decide) (zfr_F (by decide) zfr_rfl)), rfl, .inl ⟨rfl, .inr ⟨u, by omega, v5, by rw [v7]; exact fun q => z ((zc_eq (k := 2) (by decide) (by omega)).mp q)⟩⟩⟩
end YPD
end
