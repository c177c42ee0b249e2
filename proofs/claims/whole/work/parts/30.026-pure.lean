section
/-! The judge: an invocation is visited; all statements. -/
theorem yc_VN13 {kv : Int32 × Int32} {l : zt_T} (hok : zg_ok l) (Ph : yp_Ph l) : yc_VN 13 kv l := by
  intro LC LM nb nf sz F h g i k up d D D' oc P Q y C nd hup LL hPs ow hd hD hD'
  have hz := zF_big
  obtain ⟨D, rfl⟩ : ∃ z, D = z + 1 := ⟨D - 1, by omega⟩
  obtain ⟨D', rfl⟩ : ∃ z, D' = z + 2 := ⟨D' - 2, by omega⟩
  obtain ⟨⟨hi, hk, hPi, hQk, hP, hQ⟩, ⟨c0, c1, c2, c3, c4⟩, cC, ⟨m0, m1, m2, m3⟩, cM⟩ := id nd
  rw [if_pos (by decide)] at m2
  obtain ⟨c, hc, ec, hw⟩ := yb_nr C m2
  have hb := C.2.2.1
  obtain ⟨h1, hen, f01, fp, io⟩ := yp_en C.1 hb hi hc hw c0 (c2.trans ec)
  have A1 : h1.2 = h.2 := by
    have : h1.2.1 = h.2.1 := funext fun z => f01.2.1 z List.not_mem_nil
    have t : h1.2.2 = h.2.2 := funext fun z => f01.2.2 z List.not_mem_nil
    exact Prod.ext this t
  have O0 : yc_out (fun _ => False) (fun _ => False) h g h1 g := ⟨zfr_w f01 (by decide) (by decide) (by decide), zfr_rfl, fun j _ => ⟨by rw [A1], by rw [A1], by rw [A1], by rw [A1]⟩, fun _ _ => ⟨rfl, rfl, rfl⟩, f01.1 _ _ (by decide), fun _ _ _ _ _ => by rw [A1]⟩
  have C1 := yc_cxf C O0.1 O0.2.1
  have nd1 : yb_nd LC LM h1 g 13 kv l i k up P Q y := ⟨nd.1, by rw [A1]; exact nd.2.1, by rw [A1]; exact yc_keepC O0 (fun _ _ z => z) cC, nd.2.2.2.1, nd.2.2.2.2⟩
  have hln := yb_ln nd hPs
  have J1 : (h1.1 38 3) = 0 := C1.1.2.2.2.2.2.2.2.1
  have J2 : (g.1 68 29) = 0 := C1.1.2.2.2.2.2.2.2.2
  have hsz : sz < 100000 := by have := C.2.2.2.2; omega
  have eC := zv_vC (D := D) (d := d) (h := h) (i := i) (by omega) hi hen
  have eM := (zv_lM (D' := D') (g := g) (k := k) (kd := 13) hk (by decide) (by decide) m0).trans (zv_aM (D' := D') (g := g) (k := k) (kd := 13) hk (by decide) (by decide) m0)
  have eo : yc_o (.inner 13 kv () l .leaf) = 0 := by
    show 0 + yc_o l + 0 = 0
    rw [yp_o13 hok Ph]
  obtain ⟨u, B, io'⟩ : ∃ u B, yp_O ((g.2.1 74) k) h1 g ∨ (yp_I nb F u B ((g.2.1 74) k) h1 g ∧ ¬ yp_O ((g.2.1 74) k) h1 g) := by
    rcases io with z | ⟨u, B, z⟩
    · exact ⟨0, 0, .inl z⟩
    · exact ⟨u, B, .inr z⟩
  have S0 : yp_St LC LM nb F i k u B ((g.2.1 74) k) l P Q h1 g l h1 g ((h1.2.1 17) i) ((g.2.1 76) k) := by
    refine ⟨.leaf, fun _ => False, fun _ => False, P, Q, y, (g.2.1 77) k, rfl, ⟨nd1.2.2.1, cM⟩, ⟨fun _ z => z, fun _ z => z, fun _ z => z.elim, fun _ z => z.elim⟩, ⟨rfl, rfl⟩, nd1.2.1.2.2.2.2, yb_out0, Ph, ⟨Nat.le_refl _, J1, J2⟩, ?_⟩
    rcases io' with z | ⟨z1, z2⟩
    · exact .inl z
    · exact .inr ⟨z1, z2, fun _ _ _ => ⟨rfl, rfl⟩⟩
  have stp : l = .leaf ∨ (∃ D1 D2, D = D1 + 1 ∧ D' = D2 + 2 ∧ zv_stp (D1 + 1) (D2 + 2) d sz (yp_St LC LM nb F i k u B ((g.2.1 74) k) l P Q h1 g) (zv_Fb h1 g)) := by
    cases l with
    | leaf => exact .inl rfl
    | inner kd kvx ox lx rx =>
      right
      have hd2 : 2 ≤ zg_d (.inner kd kvx ox lx rx) := by
        obtain ⟨⟨_, ce, kve, oe, le, hlc, _⟩, _⟩ := Ph
        have : max (zg_d lx + 1) (zg_d rx) ≤ zg_d (.inner kd kvx ox lx rx) := zg_d1
        have h3 : max (zg_d le + 1) 0 ≤ zg_d lx := by rw [hlc]; exact zg_d1 (r := .leaf)
        omega
      obtain ⟨D1, rfl⟩ : ∃ z, D = z + 1 := ⟨D - 1, by omega⟩
      obtain ⟨D2, rfl⟩ : ∃ z, D' = z + 2 := ⟨D' - 2, by omega⟩
      refine ⟨D1, D2, rfl, rfl, ?_⟩
      intro c' kv' w' lc r h' g' x x' S
      exact yp_step C1 hk rfl (by rw [fp, A1]) hP hPs hQ hPi hln hd (by omega) (by omega) S
  have hend : ∀ h' g' x x', yp_St LC LM nb F i k u B ((g.2.1 74) k) l P Q h1 g .leaf h' g' x x' → x = -1 ∧ x' = -1 := by
    intro h' g' x x' S
    obtain ⟨_, _, _, _, _, yu, yu', _, ⟨sC, sM⟩, _⟩ := S
    exact ⟨(show x = -1 ∧ yu = -1 from sC).1, (show x' = -1 ∧ yu' = -1 from sM).1⟩
  have walk : (∃ h' g', f_Jd_visit (D + 1) h (nI i) (nI d) = some h' ∧ f_Mo_look (D' + 2) g (nI k) = some g' ∧ zv_Fb h1 g h' g' ∧ ¬ (h'.1 38 3) = 0 ∧ ¬ (g'.1 68 29) = 0) ∨ (∃ h2 g2, f_Jd_visit (D + 1) h (nI i) (nI d) = f_Jd_visit_74 h2 (nI i) ∧ f_Mo_look (D' + 2) g (nI k) = f_Mo_lookAlone_54 g2 (nI k) (nI 13) ∧ yp_St LC LM nb F i k u B ((g.2.1 74) k) l P Q h1 g .leaf h2 g2 (-1) (-1)) := by
    rcases stp with el | ⟨D1, D2, e1, e2, st⟩
    · subst el
      right
      have x1 : (h1.2.1 17) i = -1 := (show (h1.2.1 17) i = -1 ∧ y = -1 from nd1.2.2.1).1
      have x2 : (g.2.1 76) k = -1 := (show (g.2.1 76) k = -1 ∧ (g.2.1 77) k = -1 from cM).1
      rw [x1, show zF = 18446744073709551615 + 1 from rfl, zv_enC] at eC
      rw [x2, show zF = 18446744073709551615 + 1 from rfl, zv_enM] at eM
      rw [x1, x2] at S0
      exact ⟨h1, g, eC, eM, S0⟩
    · subst e1; subst e2
      rcases zv_fold (i := i) (k := k) (kd := 13) (d := d) (by omega) hsz st hend l 0 zF zF h1 g _ _ S0 (by omega) (by omega) (by omega) with ⟨h', g', a1, a2, a3, a4, a5⟩ | ⟨h', g', a1, a2, a3⟩
      · exact .inl ⟨h', g', by rw [eC, a1], by rw [eM, a2], a3, a4, a5⟩
      · exact .inr ⟨h', g', by rw [eC, a2], by rw [eM, a3], a1⟩
  rcases walk with ⟨h', g', e1, e2, e3, e4, e5⟩ | ⟨h2, g2, e1, e2, w, Pw, Qw, Pu, Qu, yu, yu', e0, _, ⟨_, _, p3, p4⟩, A, _, O, _, ⟨_, n1, n2⟩, ios⟩
  · exact ⟨h', g', e1, e2, .inl ⟨yc_Fb0 O0 e3, e4, e5⟩⟩
  · rw [zt_ap_leaf] at e0
    subst e0
    have A' := yb_Fm (fun j z => (p3 j z).1) (fun j z => (p4 j z).1) _ _ _ _ _ A
    obtain ⟨i1, i2, i3, i4⟩ := O.2.2.1 i hPi
    have C2 := yb_cxf C1 O.1 O.2.1
    have ge : ∀ z, ¬ z ∈ yc_g → g2.2.1 z = g.2.1 z := fun z hz => O.2.1.2.1 z hz
    have kk : (h1.2.1 13) i = 13 := nd1.2.1.1
    obtain ⟨h', g', r1, r2, r3⟩ := yp_lv (p := kv.1) C2.1 hb hi hk hc hw (i1.trans kk) (i3.trans (nd1.2.1.2.2.1.trans ec)) (by rw [O.1.2.1 _ (by decide)]; exact nd1.2.1.2.1) (by rw [ge _ (by decide)]; exact m0) (by rw [ge _ (by decide)]) (by rw [ge _ (by decide)]; exact m1 (by decide))
    have eC' : f_Jd_visit (D + 1) h (nI i) (nI d) = some h' := by
      rw [e1]
      unfold f_Jd_visit_74
      rw [if_pos n1, Option.bind_fun_some, r1]
    refine ⟨h', g', eC', by rw [e2, r2], ?_⟩
    rcases r3 with Fb | ⟨u', x, B', u1, u2, u3, u4, u5, u6, u7, u8, u9⟩
    · obtain ⟨⟨φ, p, X⟩, _⟩ := id Fb
      have xn := zv_Xn X
      exact .inl ⟨yc_Fb0 O0 (yc_Fb1 (yc_outb O) Fb), xn.1, xn.2⟩
    · right
      have V3 : F nb ≤ 5900 := C.1.2.1.2.1.2.2
      have B3 : nb ≤ 568 := C.1.2.1.1.2.2
      have W : yb_out (fun j => j = i) (fun j => j = k) h2 g2 h' g' := by
        rw [u8, u9]
        exact yb_W7 _ (yb_W6 _ (yb_W2 _ yb_out0))
      -- it is the instance that was entered
      have key : u' = u ∧ B' = B ∧ ∀ xx, xx < 300000000 → (h1.2.1 32) (32 + u) = nI xx → yp_s LC LM F (nb - 1) B xx h2 g2 Pw Qw l ((h1.2.1 17) i) ((g.2.1 76) k) (-1) (-1) := by
        have hv : f_Mo_variable g2 ((g2.1 68 54)) ((g.2.1 74) k) = f_Mo_variable g ((g.1 68 54)) ((g.2.1 74) k) := by rw [yp_vof2 O, O.2.1.1 _ _ List.not_mem_nil]
        rcases ios with ⟨_, z⟩ | ⟨z1, z2, z3⟩
        · exfalso
          rcases z with z | ⟨u'', z1, z2, z3⟩
          · rw [hv, z] at u5
            exact zc_m1 (show u' < 2147483648 by omega) (Option.some.inj u5).symm
          · rw [hv, z2] at u5
            have : u'' = u' := (nI_eq (by omega) (by omega)).mp (Option.some.inj u5)
            rw [this] at z3
            exact z3 (by rw [← ge _ (by decide)]; exact u6)
        · have eu : u' = u := by
            rw [hv, z1.2.2.2.2.2.2.2] at u5
            exact ((nI_eq (by have := z1.2.1; omega) (by omega)).mp (Option.some.inj u5)).symm
          subst eu
          have eB : B' = B := by
            have q := z1.2.2.2.2.1
            rw [← O.1.2.1 _ (by decide), u4] at q
            exact (nI_eq (by omega) (by have := z1.2.2.2.1; omega)).mp q
          exact ⟨rfl, eB, z3⟩
      obtain ⟨ku, kB, ks⟩ := key
      subst ku; subst kB
      obtain ⟨z, zl, z1⟩ : ∃ z, z < 300000000 ∧ (h2.2.1 32) (32 + u') = nI z := by
        have QQ := C2.1.2.2.2.1.2.1 (nb - 1) u' (by omega) u1 (by rw [show nb - 1 + 1 = nb by omega]; exact u2) u2
        obtain ⟨_, z, _, _, _, ⟨z1, _⟩, _, _, ⟨zl, _⟩, _⟩ := QQ
        exact ⟨z, zl, z1⟩
      have ez : nI x = nI z := by rw [← u7, ← z1]
      rw [ez] at u9
      have ks' := ks z zl (by rw [← O.1.2.1 _ (by decide)]; exact z1)
      have ge2 : ∀ z, ¬ z ∈ yc_g → g'.2.1 z = g2.2.1 z := fun z hz => W.2.1.2.1 z hz
      have he2 : ∀ z, ¬ z ∈ [13, 14, 16, 17] → h'.2.1 z = h2.2.1 z := fun z hz => W.1.2.1 z hz
      have ks2 : yp_s LC LM F (nb - 1) B' z h' g' P Q l ((h1.2.1 17) i) ((g.2.1 76) k) (-1) (-1) := yp_sm (fun j z => (p3 j z).1) (fun j z => (p4 j z).1) _ _ _ _ _ (yp_sf (h := h2) (g := g2) (fun j hj => ⟨(W.2.2.1 j (fun q => hPi (by rw [← q]; exact (p3 j hj).1))).2.2.1, by rw [he2 _ (by decide)], (W.2.2.1 j (fun q => hPi (by rw [← q]; exact (p3 j hj).1))).2.2.2, (W.2.2.1 j (fun q => hPi (by rw [← q]; exact (p3 j hj).1))).2.1⟩) (fun j hj => ⟨(W.2.2.2 j (fun q => hQk (by rw [← q]; exact (p4 j hj).1))).2.1, by rw [ge2 _ (by decide)], by rw [ge2 _ (by decide)], by rw [ge2 _ (by decide)]⟩) ⟨he2 _ (by decide), he2 _ (by decide), he2 _ (by decide)⟩ (fun c => yp_vof (he2 _ (by decide)) (he2 _ (by decide)) (he2 _ (by decide)) _ _) _ _ _ _ _ ks')
      have NN : yb_N F (nb - 1) h' g' P Q 13 kv.2 i k ((h1.2.1 17) i) (zt_ln l) := by
        refine .inl (.inr (.inr (.inl ⟨rfl, ?_, ?_, u', z, B', ?_, ?_, ?_, by omega, ?_, ?_, ?_⟩)))
        · rw [u8, zu_MM, if_neg (fun z => absurd z.1 (by decide))]; exact i1.trans kk
        · rw [u8, zu_MM, if_neg (fun z => absurd z.1 (by decide))]; exact i4
        · rw [ec]
          exact yb_mkV C2.1 hb hc hw u1 u2 u5 z1 W.1
        · rw [u8, zu_MM, if_pos ⟨rfl, rfl⟩]
        · rw [he2 _ (by decide)]; exact u4
        · rw [u9, zu_MM, if_neg (fun z => absurd z.1 (by decide)), zu_MM, if_pos ⟨rfl, rfl⟩]
        · rw [u9, zu_MM, if_pos ⟨rfl, rfl⟩]
        · have : (g'.2.1 76) k = (g.2.1 76) k := by rw [ge2 _ (by decide), ge _ (by decide)]
          rw [this]
          exact yp_spr _ _ _ _ _ ks2
      refine ⟨yc_fin C1 nd1 O0 (yc_outb O) A' (yc_outb W) NN, (W.1.1 _ _ List.not_mem_nil).trans n1, (W.2.1.1 _ _ List.not_mem_nil).trans n2, ?_⟩
      refine ⟨?_, fun _ => rfl, zg_ruE (by decide) (by decide)⟩
      rw [W.1.1 _ _ List.not_mem_nil, O.1.1 _ _ List.not_mem_nil, f01.1 _ _ (by decide), ow, eo]
      rfl
/-- kinds at the top: expressions and statements -/
abbrev yc_SK : List Nat := [11, 12, 13, 15, 16, 17, 18, 19, 20, 21]
def yc_top : zt_T → Prop
  | .leaf => True
  | .inner kd _ _ _ r => (kd ∈ yb_E ∨ kd ∈ yc_SK) ∧ yc_top r
theorem yc_gt {kd : Nat} (hkd : kd ∈ [11, 12, 15, 16, 17, 18, 19]) : ∀ {l : zt_T} {st : Nat}, ¬ zg_run kd st l = 99 → yc_top l := by
  have key : ∀ r ∈ zg_R, r.1 ∈ [11, 12, 15, 16, 17, 18, 19] → ∀ c ∈ r.2.2.1, c ∈ yb_E ∨ c ∈ yc_SK := by decide +kernel
  intro l
  induction l with
  | leaf => intro _ _; trivial
  | inner c kv o lc r _ ihr =>
    intro st h
    have h1 : ¬ zg_run kd (zg_q kd st c) r = 99 := h
    have h2 : ¬ zg_q kd st c = 99 := fun z => h1 (by rw [z]; exact zv_q99 kd r)
    obtain ⟨cs, to, m1, m2, m3⟩ := zv_qR h2
    exact ⟨key _ m1 hkd c m2, ihr h1⟩
theorem yc_gA {kd : Nat} {l : zt_T} (h : zg_A kd (zg_run kd 0 l) = true) : ¬ zg_run kd 0 l = 99 := fun z => by
  rw [z, zv_A99] at h
  exact absurd h (by decide)
theorem yc_g14 {l : zt_T} (h : zg_A 14 (zg_run 14 0 l) = true) : ∃ c kv o lc, l = .inner c kv o lc .leaf ∧ c ∈ yb_E := by
  have key : ∀ r ∈ zg_R, r.1 = 14 → r.2 = (0, yb_E, 1) := by decide +kernel
  cases l with
  | leaf => exact absurd h (by decide)
  | inner c kv o lc r =>
    obtain ⟨cs, to, m1, m2, m3⟩ := zv_qR (yb_run h)
    have k1 := key _ m1 rfl
    simp only [Prod.mk.injEq] at k1
    obtain ⟨_, e2, e3⟩ := k1
    rw [e2] at m2
    have h' : zg_A 14 (zg_run 14 1 r) = true := by
      have : zg_run 14 0 (.inner c kv o lc r) = zg_run 14 1 r := by show zg_run 14 (zg_q 14 0 c) r = _; rw [m3, e3]
      rw [← this]; exact h
    cases r with
    | leaf => exact ⟨c, kv, o, lc, rfl, m2⟩
    | inner c2 kv2 o2 lc2 r2 =>
      obtain ⟨cs, to, m1, _, _⟩ := zv_qR (yb_run h')
      have k1 := key _ m1 rfl
      simp only [Prod.mk.injEq] at k1
      exact absurd k1.1 (by decide)
theorem yc_g13 : ∀ {l : zt_T} {st : Nat}, zg_ok l → ¬ zg_run 13 st l = 99 → yp_Ph l := by
  have key : ∀ r ∈ zg_R, r.1 = 13 → ∀ c ∈ r.2.2.1, c = 14 := by decide +kernel
  intro l
  induction l with
  | leaf => intro _ _ _; trivial
  | inner c kv o lc r _ ihr =>
    intro st ⟨⟨hA, hv⟩, okl, okr⟩ h
    have h1 : ¬ zg_run 13 (zg_q 13 st c) r = 99 := h
    have h2 : ¬ zg_q 13 st c = 99 := fun z => h1 (by rw [z]; exact zv_q99 13 r)
    obtain ⟨cs, to, m1, m2, m3⟩ := zv_qR h2
    have e14 := key _ m1 rfl c m2
    subst e14
    obtain ⟨ce, kve, oe, le, el, hE⟩ := yc_g14 hA
    refine ⟨⟨rfl, ce, kve, oe, le, el, hE, ?_⟩, ihr okr h1⟩
    have P := yb_all lc okl (by rw [el]; exact ⟨hE, trivial⟩)
    rw [el] at P
    exact P.1.2
/-- all statements can be visited -/
theorem yc_all : ∀ t : zt_T, zg_ok t → yc_top t → yc_Ph t := by
  intro t
  induction t with
  | leaf => intro _ _; trivial
  | inner kd kv o l r ihl ihr =>
    intro ⟨⟨hA, hv⟩, okl, okr⟩ ⟨hE, tr⟩
    refine ⟨?_, ihr okr tr⟩
    rcases hE with hE | hE
    · left
      have P := yb_all (.inner kd kv o l .leaf) ⟨⟨hA, hv⟩, okl, trivial⟩ ⟨hE, trivial⟩
      refine ⟨hE, P.1.2, ?_⟩
      have := yc_oE (.inner kd kv o l .leaf) ⟨⟨hA, hv⟩, okl, trivial⟩ ⟨hE, trivial⟩
      have e : yc_o (.inner kd kv o l .leaf) = (if kd = 16 ∨ kd = 19 then 1 else if kd = 22 then 156 else if kd = 25 ∧ 2 ≤ kv.2 then 1 else 0) + yc_o l + 0 := rfl
      omega
    · right
      have sub : ∀ {kd : Nat}, kd ∈ [11, 12, 15, 16, 17, 18, 19] → zg_A kd (zg_run kd 0 l) = true → yc_Ph l := fun h1 h2 => ihl okl (yc_gt h1 (yc_gA h2))
      have cs : kd = 11 ∨ kd = 12 ∨ kd = 13 ∨ kd = 15 ∨ kd = 16 ∨ kd = 17 ∨ kd = 18 ∨ kd = 19 ∨ kd = 20 ∨ kd = 21 := by
        simp only [yc_SK, List.mem_cons, List.not_mem_nil, or_false] at hE
        exact hE
      rcases cs with e | e | e | e | e | e | e | e | e | e <;> subst e
      · exact yc_VN11 (.inl rfl) (sub (by decide) hA)
      · exact yc_VN12 hA (sub (by decide) hA)
      · exact yc_VN13 okl (yc_g13 okl (yc_gA hA))
      · exact yc_VN15 hA (sub (by decide) hA)
      · exact yc_VN16 hA (sub (by decide) hA)
      · exact yc_VN11 (.inr (.inl rfl)) (sub (by decide) hA)
      · exact yc_VN18 hA (sub (by decide) hA)
      · exact yc_VN19 hA (sub (by decide) hA)
      · rw [zv_nolf (kd := 20) (by decide +kernel) hA]; exact yc_VN20
      · rw [zv_nolf (kd := 21) (by decide +kernel) hA]; exact yc_VN11 (.inr (.inr rfl)) trivial
end
section
/-! The judge: rungs: the walks through a row's cells and a rung's rows. -/
/-- the row here, and whether another one comes behind it -/
def yr_rw (h g : zs_H) (up : Nat) : Prop := ∃ ri, ri < 32784 ∧ (h.1 38 9) = nI ri ∧ ((h.2.1 18) ri = -1 ↔ (g.2.1 78) up < 0)
theorem yr_rwf {P Q : Nat → Prop} {h g h' g' : zs_H} {up : Nat} (H : yr_rw h g up) (O : yc_out P Q h g h' g') (e : (h'.1 38 9) = (h.1 38 9)) : yr_rw h' g' up := by
  obtain ⟨ri, r1, r2, r3⟩ := H
  exact ⟨ri, r1, e.trans r2, by rw [O.1.2.1 _ (by decide), O.2.1.2.1 _ (by decide)]; exact r3⟩
/-- both sides agree on whether another one comes behind -/
theorem yr_sib {LC LM : List (List Int32)} {h g : zs_H} {r : zt_T} {P Q : Nat → Prop} {x y x' y' up : Int32} (C : zt_C h r P x y) (M : zt_M LC LM g r Q up x' y') : x = -1 ↔ x' < 0 := by
  cases r with
  | leaf =>
    have e1 : x = -1 := (show x = -1 ∧ y = -1 from C).1
    have e2 : x' = -1 := (show x' = -1 ∧ y' = -1 from M).1
    rw [e1, e2]; decide
  | inner c kv o l r =>
    obtain ⟨a, _, _, _, _, ea, ha, _⟩ := zv_hC C
    obtain ⟨b, _, _, _, eb, hb, _⟩ := zv_hM M
    rw [ea, eb]
    exact ⟨fun z => absurd z (zc_m1 (by omega)), fun z => absurd z (zv_neg (show b < 2147483648 by omega)).2⟩
/-- visited in a row, in a rung -/
def yr_VN (kd : Nat) (kv : Int32 × Int32) (l : zt_T) : Prop := ∀ (LC LM : List (List Int32)) (nb nf sz : Nat) (F : Nat → Nat) (h g : zs_H) (i k up d D D' oc : Nat) (P Q : Nat → Prop) (y : Int32), yb_cx LC LM nb nf sz F h g → yb_nd LC LM h g kd kv l i k up P Q y → up < 33500 → yc_L LC LM h g up d → ((h.2.1 18) i = -1 ↔ (g.2.1 78) k < 0) → yr_rw h g up → (∀ j, P j → j < sz) → (h.1 38 10) = nI oc → d + zg_d l ≤ 239 → zg_d l < D → 2 * zg_d l + 2 < D' →
  ∃ h' g', f_Jd_visit D h (nI i) (nI d) = some h' ∧ f_Mo_look D' g (nI k) = some g' ∧ ((zv_Fb h g h' g' ∧ ¬ (h'.1 38 3) = 0 ∧ ¬ (g'.1 68 29) = 0) ∨ (yc_ok F (nb - 1) kd kv l i k P Q h g h' g' ∧ (h'.1 38 3) = 0 ∧ (g'.1 68 29) = 0 ∧ (h'.1 38 10) = nI (oc + yc_o (.inner kd kv () l .leaf)) ∧ (h'.1 38 9) = (h.1 38 9) ∧ (kd = 28 → (h.2.1 18) i = -1)))
def yr_Ph : zt_T → Prop
  | .leaf => True
  | .inner kd kv _ l r => yr_VN kd kv l ∧ yr_Ph r
def yr_St (LC LM : List (List Int32)) (nb : Nat) (F : Nat → Nat) (i k oc : Nat) (l : zt_T) (P Q : Nat → Prop) (h1 g1 : zs_H) (u : zt_T) (h g : zs_H) (x x' : Int32) : Prop :=
  ∃ (w : zt_T) (Pw Qw Pu Qu : Nat → Prop) (yu yu' : Int32), l = zt_ap w u ∧ (zt_C h u Pu x yu ∧ zt_M LC LM g u Qu (nI k) x' yu') ∧ ((∀ j, Pu j → P j) ∧ (∀ j, Qu j → Q j) ∧ (∀ j, Pw j → P j ∧ ¬ Pu j) ∧ (∀ j, Qw j → Q j ∧ ¬ Qu j)) ∧ yb_F F (nb - 1) h g Pw Qw w ((h1.2.1 17) i) ((g1.2.1 76) k) x x' ∧ (∀ j, Pu j → (h.2.1 14) j = 0) ∧ yc_out P Q h1 g1 h g ∧ yr_Ph u ∧ (zg_d u ≤ zg_d l ∧ (h.1 38 3) = 0 ∧ (g.1 68 29) = 0) ∧ (h.1 38 10) = nI (oc + yc_o w) ∧ (h.1 38 9) = (h1.1 38 9) ∧ zg_cl w ∧ (¬ u = .leaf → zg_n8 w)
section YR
variable {LC LM : List (List Int32)} {nb nf sz : Nat} {F : Nat → Nat} {h1 g1 h g h' g' : zs_H} {P Q : Nat → Prop}
theorem yr_step {i k d D D' c oc : Nat} {l lc r : zt_T} {kv : Int32 × Int32} {o : Unit} {x x' : Int32} (C : yb_cx LC LM nb nf sz F h1 g1) (LL : yc_L LC LM h1 g1 k (d + 1)) (hk : k < 33500) (hP : ∀ j, P j → j < 32784) (hPs : ∀ j, P j → j < sz) (hQ : ∀ j, Q j → j < 33500) (RW : yr_rw h1 g1 k) (hd : d + zg_d l ≤ 239) (hD : zg_d l ≤ D) (hD' : 2 * zg_d l < D') (S : yr_St LC LM nb F i k oc l P Q h1 g1 (.inner c kv o lc r) h g x x') :
    zv_res D D' d sz h1 g1 (yr_St LC LM nb F i k oc l P Q h1 g1 r) h g x x' := by
  obtain ⟨w, Pw, Qw, Pu, Qu, yu, yu', e0, ⟨sC, sM⟩, ⟨p1, p2, p3, p4⟩, A, ty, O, ⟨VN, Ph⟩, ⟨zd, J1, J2⟩, ow, rw, _, n8⟩ := S
  have C2 : yb_cx LC LM nb nf sz F h g := yc_cxf C O.1 O.2.1
  have zd' : max (zg_d lc + 1) (zg_d r) ≤ zg_d l := Nat.le_trans zg_d1 zd
  obtain ⟨a, P1, P2, z1, z2, ea, a1, a2, a3, a4, a5, a6, a7, a8, a9, a10⟩ := zv_hC sC
  obtain ⟨b, Q1, Q2, z3, eb, b1, b2, b3, b4, b5, b6, b7, b8, b9, b10, b11⟩ := zv_hM sM
  have ha := hP a (p1 a a2)
  have hbb := hQ b (p2 b b2)
  have nd : yb_nd LC LM h g c kv lc a b k P1 Q1 z1 := ⟨⟨ha, hbb, fun z => (a6 a z).2.1 rfl, fun z => (b7 b z).2.1 rfl, fun j hj => hP j (p1 j (a6 j hj).1), fun j hj => hQ j (p2 j (b7 j hj).1)⟩, ⟨a3, a4, a5, ty a a2, fun j hj => ty j (a6 j hj).1⟩, a8, ⟨b3, b4, b5, b6⟩, b9⟩
  -- both kinds of children
  have V : ∃ h' g', f_Jd_visit D h (nI a) (nI (d + 1)) = some h' ∧ f_Mo_look D' g (nI b) = some g' ∧ ((zv_Fb h g h' g' ∧ ¬ (h'.1 38 3) = 0 ∧ ¬ (g'.1 68 29) = 0) ∨ (yc_ok F (nb - 1) c kv lc a b P1 Q1 h g h' g' ∧ (h'.1 38 3) = 0 ∧ (g'.1 68 29) = 0 ∧ (h'.1 38 10) = nI (oc + yc_o w + yc_o (.inner c kv () lc .leaf)) ∧ (h'.1 38 9) = (h.1 38 9) ∧ (c = 28 → (h.2.1 18) a = -1))) := by
    obtain ⟨h', g', v1, v2, v3⟩ := VN LC LM nb nf sz F h g a b k (d + 1) D D' (oc + yc_o w) P1 Q1 z1 C2 nd hk (yc_Lf LL (by omega) O) (yr_sib a9 b10) (yr_rwf RW O rw) (fun j hj => hPs j (p1 j (a6 j hj).1)) ow (by omega) (by omega) (by omega)
    exact ⟨h', g', v1, v2, v3⟩
  obtain ⟨h', g', v1, v2, v3⟩ := V
  refine ⟨a, b, ea, ha, eb, hbb, J1, J2, C2.2.2.2.1, h', g', v1, v2, ?_⟩
  rcases v3 with ⟨⟨X, f1, f2⟩, n1, n2⟩ | ⟨⟨O2, B⟩, n1, n2, ow', rw', c8⟩
  · exact .inl ⟨⟨X, zfr_trans (zfr_w O.1 (by decide) (by decide) (by decide)) f1, zfr_trans (zfr_w O.2.1 (by decide) (by decide) (by decide)) f2⟩, n1, n2⟩
  · right
    have nx : (h'.2.1 18) a = (h.2.1 18) a := by rw [O2.1.2.1 _ (by decide)]
    have nb' : (g'.2.1 78) b = (g.2.1 78) b := by rw [O2.2.1.2.1 _ (by decide)]
    refine ⟨zt_ap w (.inner c kv o lc .leaf), fun j => Pw j ∨ (P1 j ∨ j = a), fun j => Qw j ∨ (Q1 j ∨ j = b), P2, Q2, z2, z3, ?_, ⟨?_, ?_⟩, ⟨fun j hj => p1 j (a7 j hj).1, fun j hj => p2 j (b8 j hj).1, fun j hj => ?_, fun j hj => ?_⟩, ?_, fun j hj => ?_, ?_, Ph, ⟨by omega, n1, n2⟩, ?_, rw'.trans rw, zg_clap w (n8 (fun z => (by cases z))) c kv o lc, fun hr => zg_n8ap w (n8 (fun z => (by cases z))) c kv o lc (fun z => ?_)⟩
    · rw [zt_ap_as]; exact e0
    · rw [nx]
      exact yc_keepC O2 (fun j hj z => z.elim (fun z => (a6 j z).2.2 hj) (fun z => (a7 j hj).2 z)) a9
    · rw [nb']
      exact yb_keepM O2.2.1 b10
    · rcases hj with z | z | z
      · exact ⟨(p3 j z).1, fun u => (p3 j z).2 (a7 j u).1⟩
      · exact ⟨p1 j (a6 j z).1, (a6 j z).2.2⟩
      · exact ⟨by rw [z]; exact p1 a a2, fun u => (a7 j u).2 z⟩
    · rcases hj with z | z | z
      · exact ⟨(p4 j z).1, fun u => (p4 j z).2 (b8 j u).1⟩
      · exact ⟨p2 j (b7 j z).1, (b7 j z).2.2⟩
      · exact ⟨by rw [z]; exact p2 b b2, fun u => (b8 j u).2 z⟩
    · have A' := yc_keep C2 O2 (fun j hj => ⟨hP j (p3 j hj).1, fun z => (p3 j hj).2 (z.elim (fun z => (a6 j z).1) (fun z => by rw [z]; exact a2))⟩) (fun j hj z => (p4 j hj).2 (z.elim (fun z => (b7 j z).1) (fun z => by rw [z]; exact b2))) A
      refine yb_ap w _ _ _ _ _ _ _ (yb_Fm (fun _ z => .inl z) (fun _ z => .inl z) _ _ _ _ _ A') ?_
      rw [ea, eb]
      exact yb_Fm (fun _ z => .inr z) (fun _ z => .inr z) _ _ _ _ _ B
    · obtain ⟨t1, t2, _⟩ := O2.2.2.1 j (fun z => z.elim (fun z => (a6 j z).2.2 hj) (fun z => (a7 j hj).2 z))
      rw [t2]; exact ty j (a7 j hj).1
    · exact yc_outm (yc_outt O O2) (fun j z => z.elim id (fun z => z.elim (fun z => p1 j (a6 j z).1) (fun z => by rw [z]; exact p1 a a2))) (fun j z => z.elim id (fun z => z.elim (fun z => p2 j (b7 j z).1) (fun z => by rw [z]; exact p2 b b2)))
    · rw [ow', yc_oap]
      exact congrArg nI (Nat.add_assoc oc (yc_o w) (yc_o (.inner c kv () lc .leaf)))
    · have q := c8 z
      cases r with
      | leaf => exact hr rfl
      | inner c2 kv2 o2 lc2 r2 =>
        obtain ⟨a', _, _, _, _, ea', _, a2', _⟩ := zv_hC a9
        have := hP a' (p1 a' (a7 a' a2').1)
        rw [q] at ea'
        exact absurd ea'.symm (zc_m1 (by omega))

theorem yr_kids {i k up d D D' kd oc : Nat} {kv : Int32 × Int32} {l : zt_T} {y : Int32} (hen : f_Jd_enter h (nI i) = some h1) (C : yb_cx LC LM nb nf sz F h1 g) (nd : yb_nd LC LM h1 g kd kv l i k up P Q y) (hkd : zt_km kd = kd ∧ 4 ≤ kd ∧ kd < 100 ∧ ¬ kd = 5 ∧ ¬ kd = 33 ∧ ¬ kd = 35) (LL : yc_L LC LM h1 g k (d + 1)) (RW : yr_rw h1 g k) (Ph : yr_Ph l) (hPs : ∀ j, P j → j < sz) (ow : (h1.1 38 10) = nI oc) (hd : d + zg_d l ≤ 239) (hD : zg_d l ≤ D) (hD' : 2 * zg_d l < D') :
    (∃ h' g', f_Jd_visit (D + 1) h (nI i) (nI d) = some h' ∧ f_Mo_look (D' + 2) g (nI k) = some g' ∧ zv_Fb h1 g h' g' ∧ ¬ (h'.1 38 3) = 0 ∧ ¬ (g'.1 68 29) = 0) ∨
    (∃ h2 g2, f_Jd_visit (D + 1) h (nI i) (nI d) = f_Jd_leave h2 (nI i) ∧ f_Mo_look (D' + 2) g (nI k) = f_Mo_lookAlone_54 g2 (nI k) (nI kd) ∧ yc_out P Q h1 g h2 g2 ∧ yb_F F (nb - 1) h2 g2 P Q l ((h1.2.1 17) i) ((g.2.1 76) k) (-1) (-1) ∧ (h2.1 38 3) = 0 ∧ (g2.1 68 29) = 0 ∧ (h2.1 38 10) = nI (oc + yc_o l) ∧ (h2.1 38 9) = (h1.1 38 9) ∧ zg_cl l) := by
  have hz := zF_big
  obtain ⟨⟨hi, hk, hPi, hQk, hP, hQ⟩, ⟨c0, c1, c2, c3, c4⟩, cC, ⟨m0, m1, m2, m3⟩, cM⟩ := id nd
  obtain ⟨k1, k2, k3, k4, k5, k6⟩ := hkd
  have hln := yb_ln nd hPs
  rw [k1] at m0
  have J1 : (h1.1 38 3) = 0 := C.1.2.2.2.2.2.2.2.1
  have J2 : (g.1 68 29) = 0 := C.1.2.2.2.2.2.2.2.2
  have hsz : sz < 100000 := by have := C.2.2.2.2; omega
  have eC := zv_vC (D := D) (d := d) (h := h) (i := i) (by omega) hi hen
  have eM := (zv_lM (D' := D') (g := g) (k := k) (kd := kd) hk k3 k6 m0).trans (zv_aM (D' := D') (g := g) (k := k) (kd := kd) hk k3 (.inr k2) m0)
  have S0 : yr_St LC LM nb F i k oc l P Q h1 g l h1 g ((h1.2.1 17) i) ((g.2.1 76) k) := ⟨.leaf, fun _ => False, fun _ => False, P, Q, y, (g.2.1 77) k, rfl, ⟨cC, cM⟩, ⟨fun _ z => z, fun _ z => z, fun _ z => z.elim, fun _ z => z.elim⟩, ⟨rfl, rfl⟩, c4, yc_out0, Ph, ⟨Nat.le_refl _, J1, J2⟩, ow, rfl, trivial, fun _ => trivial⟩
  have stp : zv_stp D D' d sz (yr_St LC LM nb F i k oc l P Q h1 g) (zv_Fb h1 g) := by
    intro c kv w lc r h' g' x x' S
    exact yr_step C LL hk hP hPs hQ RW hd hD hD' S
  have hend : ∀ h' g' x x', yr_St LC LM nb F i k oc l P Q h1 g .leaf h' g' x x' → x = -1 ∧ x' = -1 := by
    intro h' g' x x' S
    obtain ⟨_, _, _, _, _, yu, yu', _, ⟨sC, sM⟩, _⟩ := S
    exact ⟨(show x = -1 ∧ yu = -1 from sC).1, (show x' = -1 ∧ yu' = -1 from sM).1⟩
  rcases zv_fold (i := i) (k := k) (kd := kd) (d := d) (by omega) hsz stp hend l 0 zF zF h1 g _ _ S0 (by omega) (by omega) (by omega) with ⟨h', g', a1, a2, a3, a4, a5⟩ | ⟨h', g', a1, a2, a3⟩
  · exact .inl ⟨h', g', by rw [eC, a1], by rw [eM, a2], a3, a4, a5⟩
  · right
    obtain ⟨w, Pw, Qw, Pu, Qu, yu, yu', e0, _, ⟨_, _, p3, p4⟩, A, _, O, _, ⟨_, n1, n2⟩, ow', rw', cl, _⟩ := a1
    rw [zt_ap_leaf] at e0
    subst e0
    refine ⟨h', g', ?_, by rw [eM, a3], O, yb_Fm (fun j z => (p3 j z).1) (fun j z => (p4 j z).1) _ _ _ _ _ A, n1, n2, ow', rw', cl⟩
    rw [eC, a2]
    unfold f_Jd_visit_74
    rw [if_pos n1, Option.bind_fun_some]
end YR
/-- visited in a row, in a rung -/
def ys_VN (kd : Nat) (kv : Int32 × Int32) (l : zt_T) : Prop := ∀ (LC LM : List (List Int32)) (nb nf sz : Nat) (F : Nat → Nat) (h g : zs_H) (i k up d D D' oc : Nat) (P Q : Nat → Prop) (y : Int32), yb_cx LC LM nb nf sz F h g → yb_nd LC LM h g kd kv l i k up P Q y → up < 33500 → yc_L LC LM h g up d → ((h.2.1 18) i = -1 ↔ (g.2.1 78) k < 0) → (∀ j, P j → j < sz) → (h.1 38 10) = nI oc → d + zg_d l ≤ 239 → zg_d l < D → 2 * zg_d l + 2 < D' →
  ∃ h' g', f_Jd_visit D h (nI i) (nI d) = some h' ∧ f_Mo_look D' g (nI k) = some g' ∧ ((zv_Fb h g h' g' ∧ ¬ (h'.1 38 3) = 0 ∧ ¬ (g'.1 68 29) = 0) ∨ (yc_ok F (nb - 1) kd kv l i k P Q h g h' g' ∧ (h'.1 38 3) = 0 ∧ (g'.1 68 29) = 0 ∧ (h'.1 38 10) = nI (oc + yc_o (.inner kd kv () l .leaf)) ∧ zg_cl l))
def ys_Ph : zt_T → Prop
  | .leaf => True
  | .inner kd kv _ l r => ys_VN kd kv l ∧ ys_Ph r
def ys_St (LC LM : List (List Int32)) (nb : Nat) (F : Nat → Nat) (i k oc : Nat) (l : zt_T) (P Q : Nat → Prop) (h1 g1 : zs_H) (u : zt_T) (h g : zs_H) (x x' : Int32) : Prop :=
  ∃ (w : zt_T) (Pw Qw Pu Qu : Nat → Prop) (yu yu' : Int32), l = zt_ap w u ∧ (zt_C h u Pu x yu ∧ zt_M LC LM g u Qu (nI k) x' yu') ∧ ((∀ j, Pu j → P j) ∧ (∀ j, Qu j → Q j) ∧ (∀ j, Pw j → P j ∧ ¬ Pu j) ∧ (∀ j, Qw j → Q j ∧ ¬ Qu j)) ∧ yb_F F (nb - 1) h g Pw Qw w ((h1.2.1 17) i) ((g1.2.1 76) k) x x' ∧ (∀ j, Pu j → (h.2.1 14) j = 0) ∧ yc_out P Q h1 g1 h g ∧ ys_Ph u ∧ (zg_d u ≤ zg_d l ∧ (h.1 38 3) = 0 ∧ (g.1 68 29) = 0) ∧ (h.1 38 10) = nI (oc + yc_o w) ∧ zg_rc w
section YS
variable {LC LM : List (List Int32)} {nb nf sz : Nat} {F : Nat → Nat} {h1 g1 h g h' g' : zs_H} {P Q : Nat → Prop}
theorem ys_step {i k d D D' c oc : Nat} {l lc r : zt_T} {kv : Int32 × Int32} {o : Unit} {x x' : Int32} (C : yb_cx LC LM nb nf sz F h1 g1) (LL : yc_L LC LM h1 g1 k (d + 1)) (hk : k < 33500) (hP : ∀ j, P j → j < 32784) (hPs : ∀ j, P j → j < sz) (hQ : ∀ j, Q j → j < 33500) (hd : d + zg_d l ≤ 239) (hD : zg_d l ≤ D) (hD' : 2 * zg_d l < D') (S : ys_St LC LM nb F i k oc l P Q h1 g1 (.inner c kv o lc r) h g x x') :
    zv_res D D' d sz h1 g1 (ys_St LC LM nb F i k oc l P Q h1 g1 r) h g x x' := by
  obtain ⟨w, Pw, Qw, Pu, Qu, yu, yu', e0, ⟨sC, sM⟩, ⟨p1, p2, p3, p4⟩, A, ty, O, ⟨VN, Ph⟩, ⟨zd, J1, J2⟩, ow, rc⟩ := S
  have C2 : yb_cx LC LM nb nf sz F h g := yc_cxf C O.1 O.2.1
  have zd' : max (zg_d lc + 1) (zg_d r) ≤ zg_d l := Nat.le_trans zg_d1 zd
  obtain ⟨a, P1, P2, z1, z2, ea, a1, a2, a3, a4, a5, a6, a7, a8, a9, a10⟩ := zv_hC sC
  obtain ⟨b, Q1, Q2, z3, eb, b1, b2, b3, b4, b5, b6, b7, b8, b9, b10, b11⟩ := zv_hM sM
  have ha := hP a (p1 a a2)
  have hbb := hQ b (p2 b b2)
  have nd : yb_nd LC LM h g c kv lc a b k P1 Q1 z1 := ⟨⟨ha, hbb, fun z => (a6 a z).2.1 rfl, fun z => (b7 b z).2.1 rfl, fun j hj => hP j (p1 j (a6 j hj).1), fun j hj => hQ j (p2 j (b7 j hj).1)⟩, ⟨a3, a4, a5, ty a a2, fun j hj => ty j (a6 j hj).1⟩, a8, ⟨b3, b4, b5, b6⟩, b9⟩
  -- both kinds of children
  have V : ∃ h' g', f_Jd_visit D h (nI a) (nI (d + 1)) = some h' ∧ f_Mo_look D' g (nI b) = some g' ∧ ((zv_Fb h g h' g' ∧ ¬ (h'.1 38 3) = 0 ∧ ¬ (g'.1 68 29) = 0) ∨ (yc_ok F (nb - 1) c kv lc a b P1 Q1 h g h' g' ∧ (h'.1 38 3) = 0 ∧ (g'.1 68 29) = 0 ∧ (h'.1 38 10) = nI (oc + yc_o w + yc_o (.inner c kv () lc .leaf)) ∧ zg_cl lc)) := by
    obtain ⟨h', g', v1, v2, v3⟩ := VN LC LM nb nf sz F h g a b k (d + 1) D D' (oc + yc_o w) P1 Q1 z1 C2 nd hk (yc_Lf LL (by omega) O) (yr_sib a9 b10) (fun j hj => hPs j (p1 j (a6 j hj).1)) ow (by omega) (by omega) (by omega)
    exact ⟨h', g', v1, v2, v3⟩
  obtain ⟨h', g', v1, v2, v3⟩ := V
  refine ⟨a, b, ea, ha, eb, hbb, J1, J2, C2.2.2.2.1, h', g', v1, v2, ?_⟩
  rcases v3 with ⟨⟨X, f1, f2⟩, n1, n2⟩ | ⟨⟨O2, B⟩, n1, n2, ow', cl⟩
  · exact .inl ⟨⟨X, zfr_trans (zfr_w O.1 (by decide) (by decide) (by decide)) f1, zfr_trans (zfr_w O.2.1 (by decide) (by decide) (by decide)) f2⟩, n1, n2⟩
  · right
    have nx : (h'.2.1 18) a = (h.2.1 18) a := by rw [O2.1.2.1 _ (by decide)]
    have nb' : (g'.2.1 78) b = (g.2.1 78) b := by rw [O2.2.1.2.1 _ (by decide)]
    refine ⟨zt_ap w (.inner c kv o lc .leaf), fun j => Pw j ∨ (P1 j ∨ j = a), fun j => Qw j ∨ (Q1 j ∨ j = b), P2, Q2, z2, z3, ?_, ⟨?_, ?_⟩, ⟨fun j hj => p1 j (a7 j hj).1, fun j hj => p2 j (b8 j hj).1, fun j hj => ?_, fun j hj => ?_⟩, ?_, fun j hj => ?_, ?_, Ph, ⟨by omega, n1, n2⟩, ?_, zg_rcap _ _ rc ⟨cl, trivial⟩⟩
    · rw [zt_ap_as]; exact e0
    · rw [nx]
      exact yc_keepC O2 (fun j hj z => z.elim (fun z => (a6 j z).2.2 hj) (fun z => (a7 j hj).2 z)) a9
    · rw [nb']
      exact yb_keepM O2.2.1 b10
    · rcases hj with z | z | z
      · exact ⟨(p3 j z).1, fun u => (p3 j z).2 (a7 j u).1⟩
      · exact ⟨p1 j (a6 j z).1, (a6 j z).2.2⟩
      · exact ⟨by rw [z]; exact p1 a a2, fun u => (a7 j u).2 z⟩
    · rcases hj with z | z | z
      · exact ⟨(p4 j z).1, fun u => (p4 j z).2 (b8 j u).1⟩
      · exact ⟨p2 j (b7 j z).1, (b7 j z).2.2⟩
      · exact ⟨by rw [z]; exact p2 b b2, fun u => (b8 j u).2 z⟩
    · have A' := yc_keep C2 O2 (fun j hj => ⟨hP j (p3 j hj).1, fun z => (p3 j hj).2 (z.elim (fun z => (a6 j z).1) (fun z => by rw [z]; exact a2))⟩) (fun j hj z => (p4 j hj).2 (z.elim (fun z => (b7 j z).1) (fun z => by rw [z]; exact b2))) A
      refine yb_ap w _ _ _ _ _ _ _ (yb_Fm (fun _ z => .inl z) (fun _ z => .inl z) _ _ _ _ _ A') ?_
      rw [ea, eb]
      exact yb_Fm (fun _ z => .inr z) (fun _ z => .inr z) _ _ _ _ _ B
    · obtain ⟨t1, t2, _⟩ := O2.2.2.1 j (fun z => z.elim (fun z => (a6 j z).2.2 hj) (fun z => (a7 j hj).2 z))
      rw [t2]; exact ty j (a7 j hj).1
    · exact yc_outm (yc_outt O O2) (fun j z => z.elim id (fun z => z.elim (fun z => p1 j (a6 j z).1) (fun z => by rw [z]; exact p1 a a2))) (fun j z => z.elim id (fun z => z.elim (fun z => p2 j (b7 j z).1) (fun z => by rw [z]; exact p2 b b2)))
    · rw [ow', yc_oap]
      exact congrArg nI (Nat.add_assoc oc (yc_o w) (yc_o (.inner c kv () lc .leaf)))

theorem ys_kids {i k up d D D' kd oc : Nat} {kv : Int32 × Int32} {l : zt_T} {y : Int32} (hen : f_Jd_enter h (nI i) = some h1) (C : yb_cx LC LM nb nf sz F h1 g) (nd : yb_nd LC LM h1 g kd kv l i k up P Q y) (hkd : zt_km kd = kd ∧ 4 ≤ kd ∧ kd < 100 ∧ ¬ kd = 5 ∧ ¬ kd = 33 ∧ ¬ kd = 35) (LL : yc_L LC LM h1 g k (d + 1)) (Ph : ys_Ph l) (hPs : ∀ j, P j → j < sz) (ow : (h1.1 38 10) = nI oc) (hd : d + zg_d l ≤ 239) (hD : zg_d l ≤ D) (hD' : 2 * zg_d l < D') :
    (∃ h' g', f_Jd_visit (D + 1) h (nI i) (nI d) = some h' ∧ f_Mo_look (D' + 2) g (nI k) = some g' ∧ zv_Fb h1 g h' g' ∧ ¬ (h'.1 38 3) = 0 ∧ ¬ (g'.1 68 29) = 0) ∨
    (∃ h2 g2, f_Jd_visit (D + 1) h (nI i) (nI d) = f_Jd_leave h2 (nI i) ∧ f_Mo_look (D' + 2) g (nI k) = f_Mo_lookAlone_54 g2 (nI k) (nI kd) ∧ yc_out P Q h1 g h2 g2 ∧ yb_F F (nb - 1) h2 g2 P Q l ((h1.2.1 17) i) ((g.2.1 76) k) (-1) (-1) ∧ (h2.1 38 3) = 0 ∧ (g2.1 68 29) = 0 ∧ (h2.1 38 10) = nI (oc + yc_o l) ∧ zg_rc l) := by
  have hz := zF_big
  obtain ⟨⟨hi, hk, hPi, hQk, hP, hQ⟩, ⟨c0, c1, c2, c3, c4⟩, cC, ⟨m0, m1, m2, m3⟩, cM⟩ := id nd
  obtain ⟨k1, k2, k3, k4, k5, k6⟩ := hkd
  have hln := yb_ln nd hPs
  rw [k1] at m0
  have J1 : (h1.1 38 3) = 0 := C.1.2.2.2.2.2.2.2.1
  have J2 : (g.1 68 29) = 0 := C.1.2.2.2.2.2.2.2.2
  have hsz : sz < 100000 := by have := C.2.2.2.2; omega
  have eC := zv_vC (D := D) (d := d) (h := h) (i := i) (by omega) hi hen
  have eM := (zv_lM (D' := D') (g := g) (k := k) (kd := kd) hk k3 k6 m0).trans (zv_aM (D' := D') (g := g) (k := k) (kd := kd) hk k3 (.inr k2) m0)
  have S0 : ys_St LC LM nb F i k oc l P Q h1 g l h1 g ((h1.2.1 17) i) ((g.2.1 76) k) := ⟨.leaf, fun _ => False, fun _ => False, P, Q, y, (g.2.1 77) k, rfl, ⟨cC, cM⟩, ⟨fun _ z => z, fun _ z => z, fun _ z => z.elim, fun _ z => z.elim⟩, ⟨rfl, rfl⟩, c4, yc_out0, Ph, ⟨Nat.le_refl _, J1, J2⟩, ow, trivial⟩
  have stp : zv_stp D D' d sz (ys_St LC LM nb F i k oc l P Q h1 g) (zv_Fb h1 g) := by
    intro c kv w lc r h' g' x x' S
    exact ys_step C LL hk hP hPs hQ hd hD hD' S
  have hend : ∀ h' g' x x', ys_St LC LM nb F i k oc l P Q h1 g .leaf h' g' x x' → x = -1 ∧ x' = -1 := by
    intro h' g' x x' S
    obtain ⟨_, _, _, _, _, yu, yu', _, ⟨sC, sM⟩, _⟩ := S
    exact ⟨(show x = -1 ∧ yu = -1 from sC).1, (show x' = -1 ∧ yu' = -1 from sM).1⟩
  rcases zv_fold (i := i) (k := k) (kd := kd) (d := d) (by omega) hsz stp hend l 0 zF zF h1 g _ _ S0 (by omega) (by omega) (by omega) with ⟨h', g', a1, a2, a3, a4, a5⟩ | ⟨h', g', a1, a2, a3⟩
  · exact .inl ⟨h', g', by rw [eC, a1], by rw [eM, a2], a3, a4, a5⟩
  · right
    obtain ⟨w, Pw, Qw, Pu, Qu, yu, yu', e0, _, ⟨_, _, p3, p4⟩, A, _, O, _, ⟨_, n1, n2⟩, ow', rc⟩ := a1
    rw [zt_ap_leaf] at e0
    subst e0
    refine ⟨h', g', ?_, by rw [eM, a3], O, yb_Fm (fun j z => (p3 j z).1) (fun j z => (p4 j z).1) _ _ _ _ _ A, n1, n2, ow', rc⟩
    rw [eC, a2]
    unfold f_Jd_visit_74
    rw [if_pos n1, Option.bind_fun_some]
end YS
end
section
/-! The judge: a rung's cells are visited (39, 40, 41, 29, 30). -/
section YEG
variable {LC LM : List (List Int32)} {nb nf sz : Nat} {F : Nat → Nat} {h g : zs_H} {P Q : Nat → Prop}
/-- a node with one expression below it -/
theorem ye_one {a b k d D D' kd ce : Nat} {kvp kve : Int32 × Int32} {oe : Unit} {lp le : zt_T} {z1 : Int32} (C : yb_cx LC LM nb nf sz F h g) (nd : yb_nd LC LM h g kd kvp lp a b k P Q z1) (hkd : kd = 25 ∨ kd = 28) (hl : lp = .inner ce kve oe le .leaf) (VN : yb_VN ce kve le) (hPs : ∀ j, P j → j < sz) (has : 0 < sz) (hd : d + zg_d lp ≤ 239) (hD : zg_d lp ≤ D) (hD' : 2 * zg_d lp < D') :
    (∃ h' g', f_Jd_visit (D + 1) h (nI a) (nI d) = some h' ∧ f_Mo_look (D' + 2) g (nI b) = some g' ∧ zv_Fb h g h' g' ∧ ¬ (h'.1 38 3) = 0 ∧ ¬ (g'.1 68 29) = 0) ∨
    (∃ h2 g2, f_Jd_visit (D + 1) h (nI a) (nI d) = f_Jd_leave h2 (nI a) ∧ f_Mo_look (D' + 2) g (nI b) = f_Mo_lookAtRungs g2 (nI b) ∧ yb_out P Q h g h2 g2 ∧ yb_F F (nb - 1) h2 g2 P Q lp ((h.2.1 17) a) ((g.2.1 76) b) (-1) (-1) ∧ (h2.1 38 3) = 0 ∧ (g2.1 68 29) = 0) := by
  obtain ⟨⟨hi, hb, hPi, hQk, hP, hQ⟩, ⟨c1, c2, c3, c4, c5⟩, cC, ⟨m0, m1, m2, m3⟩, cM⟩ := id nd
  subst hl
  have ekm : zt_km kd = kd := by rcases hkd with e | e <;> rw [e] <;> rfl
  rw [ekm] at m0
  have hke' : ¬ kd ∈ [1, 2, 3, 4, 5, 13, 16, 19, 22, 24] := by rcases hkd with e | e <;> rw [e] <;> decide
  have hdl : max (zg_d le + 1) 0 ≤ zg_d (.inner ce kve oe le .leaf) := zg_d1 (r := .leaf)
  have J1 : (h.1 38 3) = 0 := C.1.2.2.2.2.2.2.2.1
  have J2 : (g.1 68 29) = 0 := C.1.2.2.2.2.2.2.2.2
  have hsz := C.2.2.2.1
  have hs2 := C.2.2.2.2
  obtain ⟨e, P3, P4, y1, y2, ee, e1, e2, e3, e4, e5, e6, e7, e8, e9, e10⟩ := zv_hC cC
  obtain ⟨ke, Q3, Q4, y3, ek, k1, k2, k3, k4, k5, k6, k7, k8, k9, k10, k11⟩ := zv_hM cM
  have he := hP e e2
  have hke := hQ ke k2
  have e9' : (h.2.1 18) e = -1 := (show (h.2.1 18) e = -1 ∧ y2 = -1 from e9).1
  have k10' : (g.2.1 78) ke = -1 := (show (g.2.1 78) ke = -1 ∧ y3 = -1 from k10).1
  have nde : yb_nd LC LM h g ce kve le e ke b P3 Q3 y1 := ⟨⟨he, hke, fun z => (e6 e z).2.1 rfl, fun z => (k7 ke z).2.1 rfl, fun j hj => hP j (e6 j hj).1, fun j hj => hQ j (k7 j hj).1⟩, ⟨e3, e4, e5, c5 e e2, fun j hj => c5 j (e6 j hj).1⟩, e8, ⟨k3, k4, k5, k6⟩, k9⟩
  obtain ⟨D', rfl⟩ : ∃ z, D' = z + 1 := ⟨D' - 1, by omega⟩
  obtain ⟨h2, g2, v1, v2, v3⟩ := VN LC LM nb nf sz F h g e ke b kd (d + 1) D D' P3 Q3 y1 C nde hb m0 (by omega) (by omega) (by omega) (fun j hj => hPs j (e6 j hj).1) (by omega) (by omega) (by omega)
  have v2' := yb_lk1 hke (fun z => (k7 ke z).2.1 rfl) (by omega) v2
  have hzz : zF = 18446744073709551614 + 1 + 1 := rfl
  have eC := zv_vC (D := D) (d := d) (h := h) (i := a) (by omega) hi (zv_ent0 (kd := kd) hi (by omega) c1 hke')
  rw [ee, hzz, zv_stC (sz := sz) has (by omega) he J1 hsz v1] at eC
  have eM := (zv_lM (D' := D' + 1) (g := g) (k := b) (kd := kd) hb (by omega) (by omega) m0).trans (zv_aM (D' := D' + 1) (g := g) (k := b) (kd := kd) hb (by omega) (by omega) m0)
  rw [ek, hzz, zv_stM hke J2 v2'] at eM
  rcases v3 with ⟨Fb, n1, n2⟩ | ⟨⟨O2, A⟩, n1, n2⟩
  · rw [yb_fC n1] at eC
    rw [yp_fM n2] at eM
    exact .inl ⟨h2, g2, eC, eM, Fb, n1, n2⟩
  · have O2' : yb_out P Q h g h2 g2 := yb_outm O2 (fun j z => z.elim (fun z => (e6 j z).1) (fun z => by rw [z]; exact e2)) (fun j z => z.elim (fun z => (k7 j z).1) (fun z => by rw [z]; exact k2))
    have nx : (h2.2.1 18) e = -1 := by rw [O2.1.2.1 _ (by decide)]; exact e9'
    have bs : (g2.2.1 78) ke = -1 := by rw [O2.2.1.2.1 _ (by decide)]; exact k10'
    rw [nx] at eC A
    rw [bs] at eM A
    refine .inr ⟨h2, g2, ?_, ?_, O2', ?_, n1, n2⟩
    · rw [eC, zv_enC]
      unfold f_Jd_visit_74
      rw [if_pos n1, Option.bind_fun_some]
    · rw [eM, zv_enM, zv_54R (by omega) (by omega) n2]
    · rw [ee, ek]
      exact yb_Fm (fun j z => z.elim (fun z => (e6 j z).1) (fun z => by rw [z]; exact e2)) (fun j z => z.elim (fun z => (k7 j z).1) (fun z => by rw [z]; exact k2)) _ _ _ _ _ A
end YEG
/-- wires, gaps, links -/
theorem yr_VN26 {kd : Nat} {kv : Int32 × Int32} (hkd : kd = 26 ∨ kd = 27 ∨ kd = 29) : yr_VN kd kv .leaf := by
  intro LC LM nb nf sz F h g i k up d D D' oc P Q y C nd hup LL sib RW hPs ow hd hD hD'
  have hd0 : zg_d .leaf = 0 := rfl
  obtain ⟨D, rfl⟩ : ∃ z, D = z + 1 := ⟨D - 1, by omega⟩
  obtain ⟨D', rfl⟩ : ∃ z, D' = z + 2 := ⟨D' - 2, by omega⟩
  obtain ⟨⟨hi, hk, hPi, hQk, hP, hQ⟩, ⟨c0, c1, c2, c3, c4⟩, cC, ⟨m0, m1, m2, m3⟩, cM⟩ := id nd
  have ekm : zt_km kd = kd := by rcases hkd with e | e | e <;> rw [e] <;> rfl
  rw [ekm] at m0
  have hke : ¬ kd ∈ [1, 2, 3, 4, 5, 13, 16, 19, 22, 24] := by rcases hkd with e | e | e <;> rw [e] <;> decide
  have J1 : (h.1 38 3) = 0 := C.1.2.2.2.2.2.2.2.1
  have J2 : (g.1 68 29) = 0 := C.1.2.2.2.2.2.2.2.2
  have x1 : (h.2.1 17) i = -1 := (show (h.2.1 17) i = -1 ∧ y = -1 from cC).1
  have x2 : (g.2.1 76) k = -1 := (show (g.2.1 76) k = -1 ∧ (g.2.1 77) k = -1 from cM).1
  obtain ⟨eC, eM⟩ := zv_leaf (D := D) (D' := D') (d := d) (kd := kd) (km := kd) (by omega) hi hk (by omega) (by omega) (by omega) hke c0 x1 (by omega) (by omega) (by omega) m0 x2 J1
  rw [zv_54R (by omega) (by omega) J2] at eM
  have A : yb_F F (nb - 1) h g P Q .leaf ((h.2.1 17) i) ((g.2.1 76) k) (-1) (-1) := ⟨x1, x2⟩
  have hpl : kd ∈ yb_pl := by rcases hkd with e | e | e <;> rw [e] <;> decide
  have eo : yc_o (.inner kd kv () .leaf .leaf) = 0 := by
    show (if kd = 16 ∨ kd = 19 then 1 else if kd = 22 then 156 else if kd = 25 ∧ 2 ≤ kv.2 then 1 else 0) + 0 + 0 = 0
    rw [if_neg (by omega), if_neg (by omega), if_neg (by omega)]
  have okk : yc_ok F (nb - 1) kd kv .leaf i k P Q h g h g := yc_pl C nd hpl (yb_sy0 (by omega) (by omega)) yc_out0 yc_out0 A
  by_cases e29 : kd = 29
  · subst e29
    obtain ⟨ri, r1, r2, r3⟩ := RW
    have lC : f_Jd_leave h (nI i) = f_Jd_refuseIf h (if (h.2.1 18) ri = -1 then 1 else 0) 40 (nI i) := by
      unfold f_Jd_leave f_Jd_leave_401
      simp (config := { decide := true }) only [if_pos (zi_in (show i < 2147483648 by omega) hi), nI_clamp (show i < 2147483648 by omega), show (h.2.1 13) i = 29 from c0, if_false, if_true, r2, if_pos (zi_in (show ri < 2147483648 by omega) r1), nI_clamp (show ri < 2147483648 by omega), Option.bind_fun_some]
      by_cases z : (h.2.1 18) ri = -1
      · rw [if_pos z, if_pos z]
      · rw [if_neg z, if_neg z]
    have lM : f_Mo_lookAtRungs g (nI k) = f_Mo_rule g (if (h.2.1 18) ri = -1 then 1 else 0) 40 (nI k) := by
      unfold f_Mo_lookAtRungs f_Mo_lookAtRungs_260
      simp (config := { decide := true }) only [if_pos (zi_in (show k < 2147483648 by omega) hk), nI_clamp (show k < 2147483648 by omega), show (g.2.1 72) k = 29 from m0, if_false, if_true, m3, if_pos (zi_in (show up < 2147483648 by omega) hup), nI_clamp (show up < 2147483648 by omega), Option.bind_fun_some]
      by_cases z : (h.2.1 18) ri = -1
      · rw [if_pos z, if_neg (fun q => absurd (r3.mp z) (Int32.not_lt.mpr q))]
      · rw [if_neg z, if_pos (Int32.not_lt.mp (fun q => z (r3.mpr q)))]
    obtain ⟨h', g', v1, v2, v3⟩ := zv_both (φ := 40) (C := (h.2.1 18) ri = -1) J1 J2 hi hk
    refine ⟨h', g', by rw [eC, lC]; exact v1, by rw [eM, lM]; exact v2, ?_⟩
    rcases v3 with ⟨_, y1, y2⟩ | ⟨_, y1, y2⟩
    · rw [y1, y2]
      exact .inr ⟨okk, J1, J2, by rw [ow, eo]; rfl, rfl, fun z => absurd z (by omega)⟩
    · rw [y1, y2]
      exact .inl (yc_mkF (φ := 40) (p := kv.1) (by decide) (by decide) c1 (m1 (by decide)))
  · have lC : f_Jd_leave h (nI i) = some h := by
      rcases hkd with e | e | e
      · subst e; exact zv_lv26 hi c0
      · subst e; exact zv_lv27 hi c0
      · exact absurd e e29
    have lM : f_Mo_lookAtRungs g (nI k) = some g := by
      unfold f_Mo_lookAtRungs
      rcases hkd with e | e | e
      · subst e; simp (config := { decide := true }) only [if_pos (zi_in (show k < 2147483648 by omega) hk), nI_clamp (show k < 2147483648 by omega), show (g.2.1 72) k = 26 from m0, if_false]
      · subst e; simp (config := { decide := true }) only [if_pos (zi_in (show k < 2147483648 by omega) hk), nI_clamp (show k < 2147483648 by omega), show (g.2.1 72) k = 27 from m0, if_false]
      · exact absurd e e29
    exact ⟨h, g, by rw [eC, lC], by rw [eM, lM], .inr ⟨okk, J1, J2, by rw [ow, eo]; rfl, rfl, fun z => absurd z (by omega)⟩⟩
/-- a contact -/
theorem yr_VN25 {kv : Int32 × Int32} {l le : zt_T} {ce : Nat} {kve : Int32 × Int32} {oe : Unit} (hv : zg_v 25 kv.2) (hl : l = .inner ce kve oe le .leaf) (hE : ce ∈ yb_E) (VN : yb_VN ce kve le) (hz : yc_o l = 0) : yr_VN 25 kv l := by
  intro LC LM nb nf sz F h g i k up d D D' oc P Q y C nd hup LL sib RW hPs ow hd hD hD'
  obtain ⟨D, rfl⟩ : ∃ z, D = z + 1 := ⟨D - 1, by omega⟩
  obtain ⟨D', rfl⟩ : ∃ z, D' = z + 2 := ⟨D' - 2, by omega⟩
  obtain ⟨⟨hi, hk, hPi, hQk, hP, hQ⟩, ⟨c0, c1, c2, c3, c4⟩, cC, ⟨m0, m1, m2, m3⟩, cM⟩ := id nd
  obtain ⟨s, hs, es⟩ : ∃ s, s < 4 ∧ kv.2 = nI s := by
    rcases hv with z | ⟨x, x1, x2, _⟩
    · exact absurd z (by decide)
    · exact ⟨x, x1, x2⟩
  have hs0 : 0 < sz := by
    have : zt_ln l ≤ sz := yb_ln nd hPs
    have h1 : zt_ln l = 1 := by rw [hl]; rfl
    omega
  rcases ye_one (D := D) (D' := D') C nd (.inl rfl) hl VN hPs hs0 hd (by omega) (by omega) with ⟨h', g', e1, e2, e3, e4, e5⟩ | ⟨h2, g2, e1, e2, O, A, n1, n2⟩
  · exact ⟨h', g', e1, e2, .inl ⟨e3, e4, e5⟩⟩
  · have A' := A
    rw [hl] at A'
    obtain ⟨a, ka, t, a1, a2, a3, b1, b2, b3, t1, t2, t3, _⟩ := yb_first hE A'
    obtain ⟨i1, i2, i3, i4⟩ := O.2.2.1 i hPi
    have ge : ∀ z, ¬ z ∈ yc_g → g2.2.1 z = g.2.1 z := fun z hz => O.2.1.2.1 z hz
    have lC : f_Jd_leave h2 (nI i) = (f_Jd_refuseIf h2 (if ¬ t = 0 then 1 else 0) 41 (nI i)).bind fun h3 => some (zs_uF h3 38 10 ((h3.1 38 10) + (if s < 2 then 0 else 1))) := by
      rw [zv_lv25 hi (i1.trans c0)]
      have e26 : ∀ y, f_Jd_judgeContact_26 h2 (nI i) y = (f_Jd_refuseIf h2 y 41 (nI i)).bind fun h3 => some (zs_uF h3 38 10 ((h3.1 38 10) + (if s < 2 then 0 else 1))) := by
        intro y
        unfold f_Jd_judgeContact_26 f_Jd_judgeContact_55
        have key : ∀ h3 : zs_H, f_Jd_refuseIf h2 y 41 (nI i) = some h3 → (h3.2.1 16) i = nI s := by
          intro h3 e
          by_cases zy : y = 0
          · rw [zy, zv_ref0] at e; rw [← Option.some.inj e]; exact i3.trans (c2.trans es)
          · rw [show (41 : Int32) = nI 41 from rfl, zv_ref1 zy n1 hi] at e; rw [← Option.some.inj e]; exact i3.trans (c2.trans es)
        cases e : f_Jd_refuseIf h2 y 41 (nI i) with
        | none => rfl
        | some h3 =>
          have kv3 := key h3 e
          rw [Option.bind_some, Option.bind_some]
          simp only [if_pos (zi_in (show i < 2147483648 by omega) hi), nI_clamp (show i < 2147483648 by omega), kv3, show (nI s < 2) ↔ s < 2 from zc_tl (k := 2) (by decide) (by omega)]
          by_cases z : s < 2
          · rw [if_pos z, if_pos z]
          · rw [if_neg z, if_neg z]
      unfold f_Jd_judgeContact
      simp only [if_pos (zi_in (show i < 2147483648 by omega) hi), nI_clamp (show i < 2147483648 by omega), show (h2.2.1 17) i = nI a from i4.trans a3, if_pos (zi_in (show a < 2147483648 by omega) a2), nI_clamp (show a < 2147483648 by omega), t2, zv_t0 t1, e26]
      by_cases z : t = 0
      · rw [if_pos z, if_neg (show ¬ ¬ t = 0 from fun q => q z)]
      · rw [if_neg z, if_pos z]
    have lM : f_Mo_lookAtRungs g2 (nI k) = f_Mo_rule g2 (if ¬ t = 0 then 1 else 0) 41 (nI k) := by
      unfold f_Mo_lookAtRungs f_Mo_lookAtRungs_165
      simp (config := { decide := true }) only [if_pos (zi_in (show k < 2147483648 by omega) hk), nI_clamp (show k < 2147483648 by omega), show (g2.2.1 72) k = 25 by rw [ge _ (by decide)]; exact m0, if_false, if_true, show (g2.2.1 76) k = nI ka by rw [ge _ (by decide)]; exact b3, if_pos (zi_in (show ka < 2147483648 by omega) b2), nI_clamp (show ka < 2147483648 by omega), t3, zv_t0 t1, Option.bind_fun_some]
      by_cases z : t = 0
      · rw [if_pos z, if_neg (show ¬ ¬ t = 0 from fun q => q z)]
      · rw [if_neg z, if_pos z]
    obtain ⟨h', g', v1, v2, v3⟩ := zv_both (φ := 41) (C := ¬ t = 0) n1 n2 hi hk
    have pc : (h2.2.1 15) i = kv.1 := by rw [O.1.2.1 _ (by decide)]; exact c1
    have pm : (g2.2.1 73) k = kv.1 := by rw [ge _ (by decide)]; exact m1 (by decide)
    rw [show (41 : Int32) = nI 41 from rfl, v1, Option.bind_some] at lC
    rw [show (41 : Int32) = nI 41 from rfl, v2] at lM
    refine ⟨_, _, by rw [e1, lC], by rw [e2, lM], ?_⟩
    rcases v3 with ⟨nt, y1, y2⟩ | ⟨_, y1, y2⟩
    · subst y1; subst y2
      right
      have W : yc_out (fun j => j = i) (fun j => j = k) h' g' (zs_uF h' 38 10 ((h'.1 38 10) + (if s < 2 then 0 else 1))) g' := yc_outm yc_own (fun _ z => z.elim) (fun _ z => z.elim)
      have ow2 : (h'.1 38 10) = nI oc := (O.1.1 _ _ List.not_mem_nil).trans ow
      refine ⟨yc_fin C nd yc_out0 (yc_outb O) A W (.inl (.inr (.inl ⟨by decide, i1.trans c0, i4, i3.trans c2, fun z => absurd z (by decide), fun _ => ⟨a, a3, a1, by
        show (h'.2.1 14) a = 0
        rw [t2, Decidable.not_not.mp nt]; rfl⟩⟩))), n1, n2, ?_, (show (h'.1 38 9) = _ from O.1.1 _ _ List.not_mem_nil), fun z => absurd z (by decide)⟩
      show (h'.1 38 10) + (if s < 2 then 0 else 1) = nI (oc + ((if 25 = 16 ∨ 25 = 19 then 1 else if 25 = 22 then 156 else if 25 = 25 ∧ 2 ≤ kv.2 then 1 else 0) + yc_o l + 0))
      rw [ow2, hz, es]
      have e2' : ((2 : Int32) ≤ nI s) ↔ 2 ≤ s := zc_le (k := 2) (by decide) (by omega)
      by_cases z : s < 2
      · rw [if_pos z, if_neg (by decide), if_neg (by decide), if_neg (fun q => by have := e2'.mp q.2; omega)]
        exact Int32.add_zero _
      · rw [if_neg z, if_neg (by decide), if_neg (by decide), if_pos ⟨rfl, e2'.mpr (by omega)⟩, nI_1]
    · rw [y2]
      left
      obtain ⟨f1, f2, f3⟩ := yc_mkF (φ := 41) (h := h2) (g := g2) (i := i) (k := k) (p := kv.1) (by decide) (by decide) pc pm
      refine ⟨⟨?_, ?_, ?_⟩, ?_, f3⟩
      · obtain ⟨⟨φ, p, X1, X2, X3, X4, X5, X6⟩, _⟩ := f1
        exact ⟨φ, p, X1, X2, by rw [y1]; exact X3, by rw [y1]; exact X4, X5, X6⟩
      · rw [y1]
        exact zfr_F (by decide) (yc_Fb1 (yc_outb O) f1).2.1
      · exact (yc_Fb1 (yc_outb O) f1).2.2
      · rw [y1]; exact f2
end
section
/-! The judge: a coil is visited (39, 41, 29, 30). -/
theorem yr_VN28 {kv : Int32 × Int32} {l le : zt_T} {kve : Int32 × Int32} {oe : Unit} (hl : l = .inner 6 kve oe le .leaf) (VN : yb_VN 6 kve le) (hz : yc_o l = 0) : yr_VN 28 kv l := by
  intro LC LM nb nf sz F h g i k up d D D' oc P Q y C nd hup LL sib RW hPs ow hd hD hD'
  obtain ⟨D, rfl⟩ : ∃ z, D = z + 1 := ⟨D - 1, by omega⟩
  obtain ⟨D', rfl⟩ : ∃ z, D' = z + 2 := ⟨D' - 2, by omega⟩
  obtain ⟨⟨hi, hk, hPi, hQk, hP, hQ⟩, ⟨c0, c1, c2, c3, c4⟩, cC, ⟨m0, m1, m2, m3⟩, cM⟩ := id nd
  have hs0 : 0 < sz := by
    have : zt_ln l ≤ sz := yb_ln nd hPs
    have h1 : zt_ln l = 1 := by rw [hl]; rfl
    omega
  rcases ye_one (D := D) (D' := D') C nd (.inr rfl) hl VN hPs hs0 hd (by omega) (by omega) with ⟨h', g', e1, e2, e3, e4, e5⟩ | ⟨h2, g2, e1, e2, O, A, n1, n2⟩
  · exact ⟨h', g', e1, e2, .inl ⟨e3, e4, e5⟩⟩
  · have A' := A
    rw [hl] at A'
    obtain ⟨a, ka, xl, ⟨a1, a2, a3⟩, ⟨b1, b2, b3, _⟩, N, _, _⟩ := A'
    obtain ⟨t, u, x, t1, t2, t3, V, hv⟩ := yc_tgt N (.inl rfl)
    obtain ⟨i1, i2, i3, i4⟩ := O.2.2.1 i hPi
    have ge : ∀ z, ¬ z ∈ yc_g → g2.2.1 z = g.2.1 z := fun z hz => O.2.1.2.1 z hz
    have C2 := yb_cxf C O.1 O.2.1
    have hb := C.2.2.1
    have cM' := cM
    rw [hl] at cM'
    obtain ⟨b', Q1, Q2, z3, q1, q2, q3, q4, q5, q6, _⟩ := zv_hM cM'
    have ekb : b' = ka := by rw [b3] at q1; exact ((nI_eq (by omega) (by omega)).mp q1).symm
    subst ekb
    rw [if_pos (by decide)] at q6
    obtain ⟨cn, hcn, ecn, hw⟩ := yb_nr C q6
    rw [ecn] at V
    obtain ⟨w1, w2, w3⟩ := yc_var C2.1 hb hcn hw V
    have V3 : F nb ≤ 5900 := C.1.2.1.2.1.2.2
    have B3 : nb ≤ 568 := C.1.2.1.1.2.2
    have HJ := C2.1.2.2.2.2.2.2.1 hb
    have abv : (g2.2.1 75) k = nI up := by rw [ge _ (by decide)]; exact m3
    have L2 := yc_Lf LL (by omega) (yc_outb O)
    obtain ⟨m, L, l1, l2, l3, l4, l5⟩ := id L2
    have pc : (h2.2.1 15) i = kv.1 := by rw [O.1.2.1 _ (by decide)]; exact c1
    have pm : (g2.2.1 73) k = kv.1 := by rw [ge _ (by decide)]; exact m1 (by decide)
    have nx : (h2.2.1 18) i = (h.2.1 18) i := by rw [O.1.2.1 _ (by decide)]
    have bs : (g2.2.1 78) k = (g.2.1 78) k := by rw [ge _ (by decide)]
    have fst : (g2.2.1 76) k = nI b' := by rw [ge _ (by decide)]; exact b3
    have vb : (g2.2.1 74) b' = (g.2.1 74) b' := by rw [ge _ (by decide)]
    -- the class
    have e53 : ∀ (h3 : zs_H) (y : Int32) (h4 : zs_H), h3.2 = h2.2 → f_Jd_refuseIf h3 y 41 (nI i) = some h4 → h4.2 = h2.2 → f_Jd_judgeCoil_53 h3 (nI i) (nI a) y = f_Jd_judgeAssigned h4 (nI (32 + u)) (nI i) := by
      intro h3 y h4 q1 q2 q3
      unfold f_Jd_judgeCoil_53
      rw [q2, Option.bind_some, if_pos (zi_in (by omega) a2), nI_clamp (show a < 2147483648 by omega), q3, hv, Option.bind_fun_some]
    have e29 : ∀ (y : Int32) (h3 : zs_H), f_Jd_refuseIf h2 y 39 (nI i) = some h3 → h3.2 = h2.2 → f_Jd_judgeCoil_29 h2 (nI i) (nI a) y = if t = 0 then f_Jd_judgeCoil_53 h3 (nI i) (nI a) 0 else f_Jd_judgeCoil_53 h3 (nI i) (nI a) 1 := by
      intro y h3 q1 q2
      unfold f_Jd_judgeCoil_29
      rw [q1, Option.bind_some, if_pos (zi_in (by omega) a2), q2]
      simp only [nI_clamp (show a < 2147483648 by omega), t2, zv_t0 t1]
    have eC : f_Jd_leave h2 (nI i) = if (h.2.1 18) i = -1 then f_Jd_judgeCoil_29 h2 (nI i) (nI a) 0 else f_Jd_judgeCoil_29 h2 (nI i) (nI a) 1 := by
      rw [zv_lv28 hi (i1.trans c0)]
      unfold f_Jd_judgeCoil
      simp only [if_pos (zi_in (show i < 2147483648 by omega) hi), nI_clamp (show i < 2147483648 by omega), nx, show (h2.2.1 17) i = nI a from i4.trans a3]
    -- the model
    have m215 : ∀ (g3 : zs_H) (y : Int32) (g4 : zs_H), f_Mo_rule g3 y 41 (nI k) = some g4 → g4.2 = g2.2 → f_Mo_lookAtRungs_215 g3 (nI k) y = f_Mo_lookAtAssigned g4 ((g.2.1 74) b') (nI k) := by
      intro g3 y g4 q1 q2
      unfold f_Mo_lookAtRungs_215
      rw [q1, Option.bind_some, if_pos (zi_in (by omega) hk), nI_clamp (show k < 2147483648 by omega), q2, fst, if_pos (zi_in (by omega) b2), nI_clamp (show b' < 2147483648 by omega), vb, Option.bind_fun_some]
    have m189 : ∀ (y : Int32) (g3 : zs_H), f_Mo_rule g2 y 39 (nI k) = some g3 → g3.2 = g2.2 → f_Mo_lookAtRungs_189 g2 (nI k) y = if t = 0 then f_Mo_lookAtRungs_215 g3 (nI k) 0 else f_Mo_lookAtRungs_215 g3 (nI k) 1 := by
      intro y g3 q1 q2
      unfold f_Mo_lookAtRungs_189
      rw [q1, Option.bind_some, if_pos (zi_in (by omega) hk), nI_clamp (show k < 2147483648 by omega), q2, fst, if_pos (zi_in (by omega) b2)]
      simp only [nI_clamp (show b' < 2147483648 by omega), t3, zv_t0 t1]
    have eM : f_Mo_lookAtRungs g2 (nI k) = if (h.2.1 18) i = -1 then f_Mo_lookAtRungs_189 g2 (nI k) 0 else f_Mo_lookAtRungs_189 g2 (nI k) 1 := by
      unfold f_Mo_lookAtRungs
      simp (config := { decide := true }) only [if_pos (zi_in (show k < 2147483648 by omega) hk), nI_clamp (show k < 2147483648 by omega), show (g2.2.1 72) k = 28 by rw [ge _ (by decide)]; exact m0, if_false, if_true, bs]
      by_cases z : (h.2.1 18) i = -1
      · rw [if_pos z, if_pos (sib.mp z)]
      · rw [if_neg z, if_neg (fun q => z (sib.mpr q))]
    -- behind a fault
    have asC : ∀ φ, 0 < φ → φ < 1000 → f_Jd_judgeAssigned (zv_rf φ i h2) (nI (32 + u)) (nI i) = some (zv_rf φ i h2) := fun φ a1 a2 => yc_asgFC (nb := nb) (n := L.length) (zv_rff a1 a2) (by omega) HJ.1 B3 l3 (by omega)
    have asM : ∀ φ, 0 < φ → φ < 1000 → f_Mo_lookAtAssigned (zv_ru φ k g2) ((g.2.1 74) b') (nI k) = some (zv_ru φ k g2) := fun φ a1 a2 => yc_asgFM (m := m) (p := up) (L := L) (zv_ruf a1 a2) (.inr ⟨u, by omega, rfl⟩) (by rw [yc_hereF C2.1 hb hcn hw]; exact w1) (yc_Af l2 rfl rfl rfl) (by omega) hk abv
    have bad : ∀ φ, 0 < φ → φ < 1000 → f_Jd_leave h2 (nI i) = some (zv_rf φ i h2) → f_Mo_lookAtRungs g2 (nI k) = some (zv_ru φ k g2) → ∃ h' g', f_Jd_visit (D + 1) h (nI i) (nI d) = some h' ∧ f_Mo_look (D' + 2) g (nI k) = some g' ∧ (zv_Fb h g h' g' ∧ ¬ (h'.1 38 3) = 0 ∧ ¬ (g'.1 68 29) = 0) := by
      intro φ a1 a2 a3 a4
      obtain ⟨f1, f2, f3⟩ := yc_mkF (φ := φ) (h := h2) (g := g2) (i := i) (k := k) (p := kv.1) a1 a2 pc pm
      exact ⟨_, _, by rw [e1, a3], by rw [e2, a4], yc_Fb1 (yc_outb O) f1, f2, f3⟩
    by_cases z : (h.2.1 18) i = -1
    · rw [if_pos z, e29 0 h2 zv_ref0 rfl] at eC
      rw [if_pos z, m189 0 g2 zv_rule0 rfl] at eM
      by_cases zt : t = 0
      · rw [if_pos zt, e53 h2 0 h2 rfl zv_ref0 rfl] at eC
        rw [if_pos zt, m215 g2 0 g2 zv_rule0 rfl] at eM
        obtain ⟨h3, g3, x1, x2, x3⟩ := yc_asg (i := i) (k := k) C2.1 hb hi hk hcn hw w2 w3 w1 abv L2 (by omega)
        rcases x3 with ⟨y1, y2⟩ | ⟨φ, y0, y1, y2⟩
        · subst y1; subst y2
          refine ⟨h3, g3, by rw [e1, eC, x1], by rw [e2, eM, x2], .inr ⟨yc_pl C nd (by decide) (yb_sy0 (by decide) (by decide)) yc_out0 (yc_outb O) A, n1, n2, ?_, O.1.1 _ _ List.not_mem_nil, fun _ => z⟩⟩
          rw [O.1.1 _ _ List.not_mem_nil, ow]
          exact congrArg nI (show oc = oc + (0 + yc_o l + 0) by omega)
        · have hφ : 0 < φ ∧ φ < 1000 := by rcases y0 with e | e <;> omega
          obtain ⟨h', g', r1, r2, r3⟩ := bad φ hφ.1 hφ.2 (by rw [eC, x1, y1]) (by rw [eM, x2, y2])
          exact ⟨h', g', r1, r2, .inl r3⟩
      · rw [if_neg zt, e53 h2 1 (zv_rf 41 i h2) rfl (zv_ref1 (φ := 41) (by decide) n1 hi) rfl, asC 41 (by decide) (by decide)] at eC
        rw [if_neg zt, m215 g2 1 (zv_ru 41 k g2) (zv_rule1 (φ := 41) (by decide) n2 hk) rfl, asM 41 (by decide) (by decide)] at eM
        obtain ⟨h', g', r1, r2, r3⟩ := bad 41 (by decide) (by decide) eC eM
        exact ⟨h', g', r1, r2, .inl r3⟩
    · have r39 := zv_rff (φ := 39) (i := i) (h := h2) (by decide) (by decide)
      have s39 := zv_ruf (φ := 39) (k := k) (g := g2) (by decide) (by decide)
      rw [if_neg z, e29 1 (zv_rf 39 i h2) (zv_ref1 (φ := 39) (by decide) n1 hi) rfl, e53 (zv_rf 39 i h2) 0 (zv_rf 39 i h2) rfl zv_ref0 rfl, e53 (zv_rf 39 i h2) 1 (zv_rf 39 i h2) rfl (zv_refF r39) rfl, ite_self, asC 39 (by decide) (by decide)] at eC
      rw [if_neg z, m189 1 (zv_ru 39 k g2) (zv_rule1 (φ := 39) (by decide) n2 hk) rfl, m215 (zv_ru 39 k g2) 0 (zv_ru 39 k g2) zv_rule0 rfl, m215 (zv_ru 39 k g2) 1 (zv_ru 39 k g2) (zv_ruleF s39) rfl, ite_self, asM 39 (by decide) (by decide)] at eM
      obtain ⟨h', g', r1, r2, r3⟩ := bad 39 (by decide) (by decide) eC eM
      exact ⟨h', g', r1, r2, .inl r3⟩
/-- a row -/
theorem ys_VN24 {kv : Int32 × Int32} {l : zt_T} (Ph : yr_Ph l) : ys_VN 24 kv l := by
  intro LC LM nb nf sz F h g i k up d D D' oc P Q y C nd hup LL sib hPs ow hd hD hD'
  obtain ⟨D, rfl⟩ : ∃ z, D = z + 1 := ⟨D - 1, by omega⟩
  obtain ⟨D', rfl⟩ : ∃ z, D' = z + 2 := ⟨D' - 2, by omega⟩
  obtain ⟨⟨hi, hk, hPi, hQk, hP, hQ⟩, ⟨c0, c1, c2, c3, c4⟩, cC, ⟨m0, m1, m2, m3⟩, cM⟩ := id nd
  have hen : f_Jd_enter h (nI i) = some (zs_uF h 38 9 (nI i)) := by
    unfold f_Jd_enter
    simp (config := { decide := true }) only [if_pos (zi_in (show i < 2147483648 by omega) hi), nI_clamp (show i < 2147483648 by omega), show (h.2.1 13) i = 24 from c0, if_false, if_true]
  have O0 : yc_out (fun _ => False) (fun _ => False) h g (zs_uF h 38 9 (nI i)) g := ⟨zfr_F (by decide) zfr_rfl, zfr_rfl, fun _ _ => ⟨rfl, rfl, rfl, rfl⟩, fun _ _ => ⟨rfl, rfl, rfl⟩, rfl, fun _ _ _ _ _ => rfl⟩
  have C1 := yc_cxf C O0.1 O0.2.1
  have nd1 : yb_nd LC LM (zs_uF h 38 9 (nI i)) g 24 kv l i k up P Q y := ⟨nd.1, nd.2.1, yc_keepC O0 (fun _ _ z => z) cC, nd.2.2.2.1, nd.2.2.2.2⟩
  rcases yr_kids (D := D) (D' := D') hen C1 nd1 ⟨rfl, by decide, by decide, by decide, by decide, by decide⟩ (yc_Ldn (yc_Lf LL (by omega) O0) hk m3 (by rw [m0]; decide)) ⟨i, hi, rfl, sib⟩ Ph hPs ow hd (by omega) (by omega) with ⟨h', g', e1, e2, e3, e4, e5⟩ | ⟨h2, g2, e1, e2, O, A, n1, n2, ow', _, cl⟩
  · exact ⟨h', g', e1, e2, .inl ⟨yc_Fb0 O0 e3, e4, e5⟩⟩
  · obtain ⟨i1, i2, i3, i4⟩ := O.2.2.1 i hPi
    have el : f_Jd_leave h2 (nI i) = some h2 := zv_lv24 hi (i1.trans c0)
    have em : f_Mo_lookAlone_54 g2 (nI k) (nI 24) = some g2 := by
      rw [zv_54R (by decide) (by decide) n2]
      unfold f_Mo_lookAtRungs
      simp (config := { decide := true }) only [if_pos (zi_in (show k < 2147483648 by omega) hk), nI_clamp (show k < 2147483648 by omega), show (g2.2.1 72) k = 24 by rw [O.2.1.2.1 _ (by decide)]; exact m0, if_false]
    have eo : yc_o (.inner 24 kv () l .leaf) = yc_o l := by
      show 0 + yc_o l + 0 = _; omega
    exact ⟨h2, g2, by rw [e1, el], by rw [e2, em], .inr ⟨yc_pl C1 nd1 (by decide) (yb_sy0 (by decide) (by decide)) O0 O A, n1, n2, by rw [ow', eo], cl⟩⟩
end
section
/-! The judge: a rung's form (38). -/
def yl_top : zt_T → Prop
  | .leaf => True
  | .inner kd _ _ _ r => (kd = 25 ∨ kd = 26 ∨ kd = 27 ∨ kd = 28 ∨ kd = 29) ∧ yl_top r
section YL
variable {F : Nat → Nat} {bb : Nat} {h g : zs_H} {P Q : Nat → Prop} {sz i k : Nat}
/-- a plain node -/
theorem yl_pl {kd i k n : Nat} {v xl : Int32} (hk : kd ∈ [22, 23, 24, 25, 26, 27, 28, 29]) (N : yb_N F bb h g P Q kd v i k xl n) : (h.2.1 13) i = nI kd ∧ (h.2.1 17) i = xl ∧ (h.2.1 16) i = v := by
  have key : ∀ z ∈ [22, 23, 24, 25, 26, 27, 28, 29], ¬ z = 38 ∧ ¬ z = 13 ∧ ¬ z = 14 ∧ ¬ z = 19 ∧ ¬ z = 6 ∧ ¬ (z = 30 ∨ z = 31) ∧ ¬ z = 32 ∧ ¬ z = 33 ∧ ¬ z = 34 ∧ ¬ z = 35 ∧ ¬ z = 36 := by decide
  obtain ⟨k1, k2, k3, k4, k5, k6, k7, k8, k9, k10, k11⟩ := key kd hk
  rcases N with N | ⟨t, t1, t2, t3, N⟩
  · rcases N with e | ⟨_, e⟩ | ⟨e, _⟩ | ⟨e, _⟩ | ⟨e, _⟩
    · exact absurd e k1
    · exact ⟨e.1, e.2.1, e.2.2.1⟩
    · exact absurd e k2
    · exact absurd e k3
    · exact absurd e k4
  · rcases N with ⟨e, _⟩ | ⟨e, _⟩ | ⟨e, _⟩ | ⟨e, _⟩ | ⟨e, _⟩ | ⟨e, _⟩ | ⟨e, _⟩ | ⟨e, _⟩
    · exact absurd e k5
    · exact absurd e k6
    · exact absurd e k7
    · exact absurd e k8
    · exact absurd e k9
    · exact absurd e k9
    · exact absurd e k10
    · exact absurd e k11
theorem yl_cC (hsz : (h.1 12 6) = nI sz) (hs2 : sz < 100000) : ∀ (t : zt_T) (x x' : Int32) (n turn N : Nat), yl_top t → yb_F F bb h g P Q t x x' (-1) (-1) → turn + zt_ln t ≤ sz → zt_ln t < N → f_Jd_cellsIn_L15 h N (nI n) x (nI turn) = some (nI (n + yl_n t)) := by
  have uL : ∀ (N : Nat) (x2 x4 x : Int32), f_Jd_cellsIn_L15 h (N + 1) x2 x x4 = f_Jd_cellsIn_15 h (f_Jd_cellsIn_L15 h N) x2 x x4 := fun _ _ _ _ => rfl
  intro t
  induction t with
  | leaf =>
    intro x x' n turn N _ A h1 h2
    obtain ⟨N, rfl⟩ : ∃ z, N = z + 1 := ⟨N - 1, by omega⟩
    rw [A.1, uL]
    unfold f_Jd_cellsIn_15
    rw [if_pos rfl, ite_self]
    rfl
  | inner kd kv o l r _ ihr =>
    intro x x' n turn N ⟨hk, hr⟩ ⟨a, b, xl, ⟨a1, a2, a3⟩, _, Nn, _, B⟩ h1 h2
    have hl : zt_ln (.inner kd kv o l r) = 1 + zt_ln r := rfl
    obtain ⟨N, rfl⟩ : ∃ z, N = z + 1 := ⟨N - 1, by omega⟩
    have ek := (yl_pl (by rcases hk with e | e | e | e | e <;> rw [e] <;> decide) Nn).1
    have e29 : (nI kd = 29) ↔ kd = 29 := zc_eq (k := 29) (by decide) (by omega)
    have e52 : ∀ z : Nat, f_Jd_cellsIn_52 h (f_Jd_cellsIn_L15 h N) (nI a) (nI turn) (nI z) (nI n) = some (nI (n + z + yl_n r)) := by
      intro z
      unfold f_Jd_cellsIn_52
      rw [if_pos (zi_in (by omega) a2), nI_clamp (show a < 2147483648 by omega), nI_1, show nI n + nI z = nI (n + z) from (Int32.ofNat_add n z).symm]
      exact ihr _ _ (n + z) (turn + 1) N hr B (by omega) (by omega)
    rw [uL, a3]
    unfold f_Jd_cellsIn_15
    rw [hsz, if_neg (mt (nI_leI (by omega) (by omega)).mp (by omega)), if_neg (zc_m1 (show a < 2147483648 by omega)), if_pos (zi_in (by omega) a2)]
    simp only [nI_clamp (show a < 2147483648 by omega), ek, e29]
    show (if kd = 29 then _ else _) = some (nI (n + ((if kd = 29 then 0 else 1) + yl_n r)))
    by_cases z : kd = 29
    · rw [if_pos z, if_pos z, show n + (0 + yl_n r) = n + 0 + yl_n r by omega]; exact e52 0
    · rw [if_neg z, if_neg z, show n + (1 + yl_n r) = n + 1 + yl_n r by omega]; exact e52 1
theorem yl_cM : ∀ (t : zt_T) (x x' : Int32) (n N : Nat), yl_top t → yb_F F bb h g P Q t x x' (-1) (-1) → zt_ln t < N → f_Mo_cellsIn_L9 g N (nI n) x' = some (nI (n + yl_n t)) := by
  have uL : ∀ (N : Nat) (x2 x : Int32), f_Mo_cellsIn_L9 g (N + 1) x2 x = f_Mo_cellsIn_9 g (f_Mo_cellsIn_L9 g N) x2 x := fun _ _ _ => rfl
  intro t
  induction t with
  | leaf =>
    intro x x' n N _ A h2
    obtain ⟨N, rfl⟩ : ∃ z, N = z + 1 := ⟨N - 1, by omega⟩
    rw [A.2, uL]
    unfold f_Mo_cellsIn_9
    rw [if_pos (by decide)]
    rfl
  | inner kd kv o l r _ ihr =>
    intro x x' n N ⟨hk, hr⟩ ⟨a, b, xl, _, ⟨b1, b2, b3, b4⟩, Nn, _, B⟩ h2
    have hl : zt_ln (.inner kd kv o l r) = 1 + zt_ln r := rfl
    obtain ⟨N, rfl⟩ : ∃ z, N = z + 1 := ⟨N - 1, by omega⟩
    have ekm : zt_km kd = kd := by rcases hk with e | e | e | e | e <;> rw [e] <;> rfl
    rw [ekm] at b4
    have e29 : (nI kd = 29) ↔ kd = 29 := zc_eq (k := 29) (by decide) (by omega)
    have e30 : ∀ z : Nat, f_Mo_cellsIn_30 g (f_Mo_cellsIn_L9 g N) (nI b) (nI z) (nI n) = some (nI (n + z + yl_n r)) := by
      intro z
      unfold f_Mo_cellsIn_30
      rw [if_pos (zi_in (by omega) b2), nI_clamp (show b < 2147483648 by omega), show nI n + nI z = nI (n + z) from (Int32.ofNat_add n z).symm]
      exact ihr _ _ (n + z) N hr B (by omega)
    rw [uL, b3]
    unfold f_Mo_cellsIn_9
    rw [if_neg (zv_neg (show b < 2147483648 by omega)).2, if_pos (zi_in (by omega) b2)]
    simp only [nI_clamp (show b < 2147483648 by omega), b4, e29]
    show (if kd = 29 then _ else _) = some (nI (n + ((if kd = 29 then 0 else 1) + yl_n r)))
    by_cases z : kd = 29
    · rw [if_pos z, if_pos z, show n + (0 + yl_n r) = n + 0 + yl_n r by omega]; exact e30 0
    · rw [if_neg z, if_neg z, show n + (1 + yl_n r) = n + 1 + yl_n r by omega]; exact e30 1
/-- the rows of a rung: how many cells each has -/
def yl_C (h : zs_H) : List Nat → Int32 → Prop
  | [], x => x = -1
  | n :: L, x => ∃ a, a < 32784 ∧ x = nI a ∧ n < 100000 ∧ f_Jd_cellsIn h (nI a) = some (nI n) ∧ yl_C h L ((h.2.1 18) a)
def yl_M (g : zs_H) : List Nat → Int32 → Prop
  | [], x => x = -1
  | n :: L, x => ∃ b, b < 33500 ∧ x = nI b ∧ n < 100000 ∧ f_Mo_cellsIn g (nI b) = some (nI n) ∧ yl_M g L ((g.2.1 78) b)
theorem yl_fC {h' : zs_H} (e1 : h'.2 = h.2) (e2 : (h'.1 12 6) = (h.1 12 6)) (x : Int32) : f_Jd_cellsIn h' x = f_Jd_cellsIn h x := by
  have e15 : f_Jd_cellsIn_15 h' = f_Jd_cellsIn_15 h := by
    funext k15 x2 x3 x4
    unfold f_Jd_cellsIn_15 f_Jd_cellsIn_52
    rw [e1, e2]
  have eL : f_Jd_cellsIn_L15 h' = f_Jd_cellsIn_L15 h := by
    unfold f_Jd_cellsIn_L15
    rw [e15]
  unfold f_Jd_cellsIn
  rw [eL, e1]
def yl_b (n0 : Nat) (M : List Nat) : Bool := M.any fun n => decide (12 < n) || decide (¬ n = n0)
theorem yl_38C (hsz : (h.1 12 6) = nI sz) (hs2 : sz < 100000) (hi : i < 32784) {n0 : Nat} : ∀ (M : List Nat) (x w : Int32) (r turn N : Nat) (q : Bool), (∀ n L, M = n :: L → (w = -1 ∧ n = n0) ∨ (w = nI n0 ∧ n0 < 100000)) → yl_C h M x → turn + M.length ≤ sz → M.length < N → r + M.length < 100000 → f_Jd_judgeRung_L18 N (yc_R q 38 i h) (nI i) (nI r) w x (nI turn) = some (yc_R (q || yl_b n0 M || decide (¬ M = [] ∧ 12 < r + M.length)) 38 i h) := by
  have uL : ∀ (N : Nat) (hh : zs_H) (x1 x2 x3 x x5 : Int32), f_Jd_judgeRung_L18 (N + 1) hh x1 x2 x3 x x5 = f_Jd_judgeRung_18 (f_Jd_judgeRung_L18 N) hh x1 x2 x3 x x5 := fun _ _ _ _ _ _ _ => rfl
  have R1 : ∀ q : Bool, ((yc_R q 38 i h).1 12 6) = nI sz := fun q => (yc_R2.2 _ _ (by decide) (by decide)).trans hsz
  intro M
  induction M with
  | nil =>
    intro x w r turn N q _ hC h1 h2 h3
    obtain ⟨N, rfl⟩ : ∃ z, N = z + 1 := ⟨N - 1, by omega⟩
    rw [show x = -1 from hC, uL]
    unfold f_Jd_judgeRung_18
    rw [if_pos rfl, ite_self, show (q || yl_b n0 [] || decide (¬ ([] : List Nat) = [] ∧ 12 < r + [].length)) = q from by rw [show yl_b n0 [] = false from rfl, decide_eq_false (fun z => z.1 rfl), Bool.or_false, Bool.or_false]]
  | cons n M ih =>
    intro x w r turn N q hw hC h1 h2 h3
    have hl : (n :: M).length = M.length + 1 := rfl
    obtain ⟨N, rfl⟩ : ∃ z, N = z + 1 := ⟨N - 1, by omega⟩
    obtain ⟨a, a1, a2, a3, a4, a5⟩ := hC
    have cI : f_Jd_cellsIn (yc_R q 38 i h) (nI a) = some (nI n) := by rw [yl_fC yc_R2.1 ((R1 q).trans hsz.symm)]; exact a4
    have w0 : ∃ w', w' = nI n0 ∧ n0 < 100000 ∧ f_Jd_judgeRung_L18 (N + 1) (yc_R q 38 i h) (nI i) (nI r) w x (nI turn) = f_Jd_judgeRung_55 (f_Jd_judgeRung_L18 N) (yc_R q 38 i h) (nI i) (nI r) (nI a) (nI turn) (nI n) w' := by
      rw [uL]
      unfold f_Jd_judgeRung_18
      rw [R1 q, if_neg (mt (nI_leI (by omega) (by omega)).mp (by omega)), a2, if_neg (zc_m1 (show a < 2147483648 by omega)), cI, Option.bind_some]
      rcases hw n M rfl with ⟨z1, z2⟩ | ⟨z1, z2⟩
      · rw [if_pos z1, z2]; exact ⟨_, rfl, by omega, rfl⟩
      · rw [z1, if_neg (zc_m1 (show n0 < 2147483648 by omega))]; exact ⟨_, rfl, z2, rfl⟩
    obtain ⟨w', w1, w2, w3⟩ := w0
    subst w1
    have e84 : ∀ (y : Int32) (b : Bool), y = (if b = true then 1 else 0) → f_Jd_judgeRung_84 (f_Jd_judgeRung_L18 N) (yc_R q 38 i h) (nI i) (nI (r + 1)) (nI n0) (nI a) (nI turn) y = some (yc_R ((q || b) || yl_b n0 M || decide (¬ M = [] ∧ 12 < (r + 1) + M.length)) 38 i h) := by
      intro y b hy
      unfold f_Jd_judgeRung_84
      rw [show (38 : Int32) = nI 38 from rfl, yc_Rf hi hy, Option.bind_some, if_pos (zi_in (by omega) a1), nI_clamp (show a < 2147483648 by omega), yc_RR (by decide) (by decide), yc_R2.1, nI_1]
      exact ih _ _ (r + 1) (turn + 1) N (q || b) (fun _ _ _ => .inr ⟨rfl, w2⟩) a5 (by omega) (by omega) (by omega)
    rw [w3]
    unfold f_Jd_judgeRung_55 f_Jd_judgeRung_79
    rw [nI_1]
    have t1 : ((12 : Int32) < nI (r + 1)) ↔ 12 < r + 1 := zc_lt (k := 12) (by decide) (by omega)
    have t2 : ((12 : Int32) < nI n) ↔ 12 < n := zc_lt (k := 12) (by decide) (by omega)
    have t3 : (nI n = nI n0) ↔ n = n0 := nI_eq (by omega) (by omega)
    have main : ∀ b : Bool, (b = true ↔ (12 < r + 1 ∨ 12 < n ∨ ¬ n = n0)) → (((q || b) || yl_b n0 M || decide (¬ M = [] ∧ 12 < (r + 1) + M.length)) = (q || yl_b n0 (n :: M) || decide (¬ (n :: M) = [] ∧ 12 < r + (n :: M).length))) := by
      intro b hb
      have e1 : yl_b n0 (n :: M) = ((decide (12 < n) || decide (¬ n = n0)) || yl_b n0 M) := rfl
      rw [e1, hl]
      have e2 : decide (¬ (n :: M) = [] ∧ 12 < r + (M.length + 1)) = decide (12 < r + (M.length + 1)) := by
        by_cases z : 12 < r + (M.length + 1)
        · rw [decide_eq_true z, decide_eq_true ⟨List.cons_ne_nil _ _, z⟩]
        · rw [decide_eq_false z, decide_eq_false (fun u => z u.2)]
      rw [e2]
      apply Bool.eq_iff_iff.mpr
      simp only [Bool.or_eq_true, decide_eq_true_eq, hb]
      constructor
      · rintro (((z | z | z | z) | z) | z)
        · exact .inl (.inl z)
        · exact .inr (by omega)
        · exact .inl (.inr (.inl (.inl z)))
        · exact .inl (.inr (.inl (.inr z)))
        · exact .inl (.inr (.inr z))
        · exact .inr (by omega)
      · rintro ((z | (z | z) | z) | z)
        · exact .inl (.inl (.inl z))
        · exact .inl (.inl (.inr (.inr (.inl z))))
        · exact .inl (.inl (.inr (.inr (.inr z))))
        · exact .inl (.inr z)
        · by_cases zM : M = []
          · subst zM
            exact .inl (.inl (.inr (.inl (by simpa using z))))
          · exact .inr ⟨zM, by omega⟩
    by_cases z1 : 12 < r + 1
    · rw [if_pos (t1.mpr z1), e84 1 true rfl, main true ⟨fun _ => .inl z1, fun _ => rfl⟩]
    · rw [if_neg (mt t1.mp z1)]
      by_cases z2 : 12 < n
      · rw [if_pos (t2.mpr z2), e84 1 true rfl, main true ⟨fun _ => .inr (.inl z2), fun _ => rfl⟩]
      · rw [if_neg (mt t2.mp z2)]
        by_cases z3 : n = n0
        · rw [if_pos (t3.mpr z3), e84 0 false rfl, main false ⟨fun z => absurd z (by decide), fun z => by omega⟩]
        · rw [if_neg (mt t3.mp z3), e84 1 true rfl, main true ⟨fun _ => .inr (.inr z3), fun _ => rfl⟩]
theorem yl_38M {n0 : Nat} (hk : k < 33500) (hn0 : n0 < 100000) (e0 : f_Mo_cellsIn g ((g.2.1 76) k) = some (nI n0)) : ∀ (M : List Nat) (x : Int32) (r N : Nat) (q : Bool), yl_M g M x → M.length < N → r + M.length < 100000 → f_Mo_lookAtRungs_L60 N g (nI k) (nI r) (if q = true then 1 else 0) x = f_Mo_rule g (if (q || yl_b n0 M || decide (12 < r + M.length)) = true then 1 else 0) 38 (nI k) := by
  have uL : ∀ (N : Nat) (x1 x2 x3 x : Int32), f_Mo_lookAtRungs_L60 (N + 1) g x1 x2 x3 x = f_Mo_lookAtRungs_60 (f_Mo_lookAtRungs_L60 N) g x1 x2 x3 x := fun _ _ _ _ _ => rfl
  intro M
  induction M with
  | nil =>
    intro x r N q hM h2 h3
    obtain ⟨N, rfl⟩ : ∃ z, N = z + 1 := ⟨N - 1, by omega⟩
    rw [show x = -1 from hM, uL]
    unfold f_Mo_lookAtRungs_60 f_Mo_lookAtRungs_131 f_Mo_lookAtRungs_136
    rw [if_pos (by decide), Option.bind_fun_some, Option.bind_fun_some]
    have t1 : (nI r ≤ (12 : Int32)) ↔ r ≤ 12 := zc_el (k := 12) (by decide) (by have : ([] : List Nat).length = 0 := rfl; omega)
    cases q with
    | true => rw [if_neg (by decide)]; rfl
    | false =>
      rw [if_pos (show (if false = true then (1 : Int32) else 0) = 0 from rfl)]
      have hr : r + ([] : List Nat).length = r := rfl
      rw [hr, show yl_b n0 [] = false from rfl, Bool.false_or, Bool.false_or]
      by_cases z : r ≤ 12
      · rw [if_pos (t1.mpr z), decide_eq_false (by omega)]; rfl
      · rw [if_neg (mt t1.mp z), decide_eq_true (by omega)]; rfl
  | cons n M ih =>
    intro x r N q hM h2 h3
    have hl : (n :: M).length = M.length + 1 := rfl
    obtain ⟨N, rfl⟩ : ∃ z, N = z + 1 := ⟨N - 1, by omega⟩
    obtain ⟨b, b1, b2, b3, b4, b5⟩ := hM
    have e107 : ∀ (c : Bool), f_Mo_lookAtRungs_107 (f_Mo_lookAtRungs_L60 N) g (nI k) (nI (r + 1)) (nI b) (if c = true then 1 else 0) = f_Mo_rule g (if (c || yl_b n0 M || decide (12 < r + 1 + M.length)) = true then 1 else 0) 38 (nI k) := by
      intro c
      unfold f_Mo_lookAtRungs_107
      rw [if_pos (zi_in (by omega) b1), nI_clamp (show b < 2147483648 by omega)]
      exact ih _ (r + 1) N c b5 (by omega) (by omega)
    have e1 : yl_b n0 (n :: M) = ((decide (12 < n) || decide (¬ n = n0)) || yl_b n0 M) := rfl
    rw [uL, b2, hl, e1, show r + (M.length + 1) = r + 1 + M.length by omega]
    unfold f_Mo_lookAtRungs_60 f_Mo_lookAtRungs_102
    rw [if_neg (zv_neg (show b < 2147483648 by omega)).2, nI_1, b4, Option.bind_some, Option.bind_some, if_pos (zi_in (by omega) hk), nI_clamp (show k < 2147483648 by omega), e0, Option.bind_some]
    have t2 : ((12 : Int32) < nI n) ↔ 12 < n := zc_lt (k := 12) (by decide) (by omega)
    have t3 : (nI n = nI n0) ↔ n = n0 := nI_eq (by omega) (by omega)
    have a1 := e107 true
    have a0 := e107 false
    rw [if_pos rfl] at a1
    rw [if_neg (by decide)] at a0
    cases q with
    | true => rw [if_neg (by decide), a1]; simp only [Bool.true_or]
    | false =>
      rw [if_pos (show (if false = true then (1 : Int32) else 0) = 0 from rfl)]
      by_cases z2 : 12 < n
      · rw [if_pos (t2.mpr z2), a1, decide_eq_true z2]; simp only [Bool.true_or, Bool.false_or]
      · rw [if_neg (mt t2.mp z2), decide_eq_false z2]
        by_cases z3 : n = n0
        · rw [if_pos (t3.mpr z3), a0, decide_eq_false (show ¬ ¬ n = n0 from fun q => q z3)]; simp only [Bool.false_or]
        · rw [if_neg (mt t3.mp z3), a1, decide_eq_true z3]; simp only [Bool.true_or, Bool.false_or]
end YL
end
section
/-! The judge: rungs and ladders are visited; all bodies. -/
theorem yl_gr {kd : Nat} {p : Nat → Prop} (key : ∀ r ∈ zg_R, r.1 = kd → ∀ c ∈ r.2.2.1, p c) {c : Nat} {st : Nat} {kv : Int32 × Int32} {o : Unit} {lc r : zt_T} (h : ¬ zg_run kd st (.inner c kv o lc r) = 99) : p c ∧ ¬ zg_run kd (zg_q kd st c) r = 99 := by
  have h1 : ¬ zg_run kd (zg_q kd st c) r = 99 := h
  have h2 : ¬ zg_q kd st c = 99 := fun z => h1 (by rw [z]; exact zv_q99 kd r)
  obtain ⟨cs, to, m1, m2, m3⟩ := zv_qR h2
  exact ⟨key _ m1 rfl c m2, h1⟩
theorem yl_g24 : ∀ {l : zt_T} {st : Nat}, ¬ zg_run 24 st l = 99 → yl_top l := by
  have key : ∀ r ∈ zg_R, r.1 = 24 → ∀ c ∈ r.2.2.1, (c = 25 ∨ c = 26 ∨ c = 27 ∨ c = 28 ∨ c = 29) := by decide +kernel
  intro l
  induction l with
  | leaf => intro _ _; trivial
  | inner c kv o lc r _ ihr =>
    intro st h
    obtain ⟨p, h1⟩ := yl_gr key h
    exact ⟨p, ihr h1⟩
/-- all rows -/
def yl_rows : zt_T → Prop
  | .leaf => True
  | .inner kd _ _ l r => (kd = 24 ∧ yl_top l) ∧ yl_rows r
theorem yl_g23 : ∀ {l : zt_T} {st : Nat}, zg_ok l → ¬ zg_run 23 st l = 99 → yl_rows l := by
  have key : ∀ r ∈ zg_R, r.1 = 23 → ∀ c ∈ r.2.2.1, c = 24 := by decide +kernel
  intro l
  induction l with
  | leaf => intro _ _ _; trivial
  | inner c kv o lc r _ ihr =>
    intro st ⟨⟨hA, _⟩, okl, okr⟩ h
    obtain ⟨p, h1⟩ := yl_gr key h
    subst p
    exact ⟨⟨rfl, yl_g24 (yc_gA hA)⟩, ihr okr h1⟩
/-- the rows of a rung as chains -/
theorem yl_ch {F : Nat → Nat} {bb : Nat} {h g : zs_H} {P Q : Nat → Prop} {sz : Nat} (hsz : (h.1 12 6) = nI sz) (hs2 : sz < 100000) : ∀ (t : zt_T) (x x' : Int32), yl_rows t → zt_sz t ≤ sz → yb_F F bb h g P Q t x x' (-1) (-1) → ∃ M : List Nat, M.length = zt_ln t ∧ yl_C h M x ∧ yl_M g M x' ∧ M = yl_ns t := by
  have hz := zF_big
  have yn : ∀ t, yl_n t ≤ zt_ln t := by
    intro t
    induction t with
    | leaf => exact Nat.le_refl _
    | inner kd kv o l r _ ihr => show (if kd = 29 then 0 else 1) + yl_n r ≤ 1 + zt_ln r; split <;> omega
  intro t
  induction t with
  | leaf => intro x x' _ _ ⟨a1, a2⟩; exact ⟨[], rfl, a1, a2, rfl⟩
  | inner kd kv o l r ihl ihr =>
    intro x x' ⟨⟨e24, ht⟩, hr⟩ hs ⟨a, b, xl, ⟨a1, a2, a3⟩, ⟨b1, b2, b3, b4⟩, N, A, B⟩
    have hs' : 1 + zt_sz l + zt_sz r ≤ sz := hs
    subst e24
    obtain ⟨M, l1, l2, l3, l4⟩ := ihr _ _ hr (by omega) B
    obtain ⟨_, k2, _⟩ := yl_pl (by decide) N
    have hln := zv_lnsz l
    have hyn := yn l
    refine ⟨yl_n l :: M, by show M.length + 1 = 1 + zt_ln r; omega, ⟨a, a2, a3, by omega, ?_, l2⟩, ⟨b, b2, b3, by omega, ?_, l3⟩, by rw [l4]; rfl⟩
    · unfold f_Jd_cellsIn
      rw [if_pos (zi_in (by omega) a2), nI_clamp (show a < 2147483648 by omega), k2]
      have := yl_cC hsz hs2 l xl ((g.2.1 76) b) 0 0 zF ht A (by omega) (by omega)
      rw [Nat.zero_add] at this
      exact this
    · unfold f_Mo_cellsIn
      rw [if_pos (zi_in (by omega) b2), nI_clamp (show b < 2147483648 by omega)]
      have := yl_cM l xl ((g.2.1 76) b) 0 zF ht A (by omega)
      rw [Nat.zero_add] at this
      exact this
/-- a rung -/
theorem yc_VN23 {kv : Int32 × Int32} {l : zt_T} (hok : zg_ok l) (hA : zg_A 23 (zg_run 23 0 l) = true) (Ph : ys_Ph l) : yc_VN 23 kv l := by
  intro LC LM nb nf sz F h g i k up d D D' oc P Q y C nd hup LL hPs ow hd hD hD'
  have hz := zF_big
  obtain ⟨D, rfl⟩ : ∃ z, D = z + 1 := ⟨D - 1, by omega⟩
  obtain ⟨D', rfl⟩ : ∃ z, D' = z + 2 := ⟨D' - 2, by omega⟩
  obtain ⟨⟨hi, hk, hPi, hQk, hP, hQ⟩, ⟨c0, c1, c2, c3, c4⟩, cC, ⟨m0, m1, m2, m3⟩, cM⟩ := id nd
  have hsl : zt_sz l ≤ sz := Nat.le_trans (zt_sz_le l P _ _ _ sz nd.2.2.1 hPs) (zc_cnt_le _ _)
  rcases ys_kids (D := D) (D' := D') (zv_ent0 (kd := 23) hi (by decide) c0 (by decide)) C nd ⟨rfl, by decide, by decide, by decide, by decide, by decide⟩ (yc_Ldn LL hk m3 (by rw [m0]; decide)) Ph hPs ow hd (by omega) (by omega) with ⟨h', g', e1, e2, e3, e4, e5⟩ | ⟨h2, g2, e1, e2, O, A, n1, n2, ow', rc⟩
  · exact ⟨h', g', e1, e2, .inl ⟨e3, e4, e5⟩⟩
  · obtain ⟨i1, i2, i3, i4⟩ := O.2.2.1 i hPi
    have C2 : yb_cx LC LM nb nf sz F h2 g2 := yc_cxf C O.1 O.2.1
    have hsz : (h2.1 12 6) = nI sz := C2.2.2.2.1
    have hs2 : sz < 100000 := by have := C2.2.2.2.2; omega
    have ge : ∀ z, ¬ z ∈ yc_g → g2.2.1 z = g.2.1 z := fun z hz => O.2.1.2.1 z hz
    obtain ⟨M, l1, l2, l3, l4⟩ := yl_ch hsz hs2 l _ _ (yl_g23 hok (yc_gA hA)) hsl A
    have hln := zv_lnsz l
    have hne : ∃ n0 M', M = n0 :: M' := by
      cases l with
      | leaf => exact absurd hA (by decide)
      | inner c kv1 o1 lc r =>
        cases M with
        | nil => exact absurd l1 (by show ¬ 0 = 1 + zt_ln r; omega)
        | cons n0 M' => exact ⟨n0, M', rfl⟩
    obtain ⟨n0, M', eM⟩ := hne
    have fst : (g2.2.1 76) k = (g.2.1 76) k := by rw [ge _ (by decide)]
    have n0h : n0 < 100000 ∧ f_Mo_cellsIn g2 ((g2.2.1 76) k) = some (nI n0) := by
      have z := l3
      rw [eM] at z
      obtain ⟨b, b1, b2, b3, b4, b5⟩ := z
      rw [fst, b2]
      exact ⟨b3, b4⟩
    have eC : f_Jd_leave h2 (nI i) = some (yc_R (yl_b n0 M || decide (12 < M.length)) 38 i h2) := by
      rw [zv_lv23 hi (i1.trans c0)]
      unfold f_Jd_judgeRung
      rw [if_pos (zi_in (by omega) hi), nI_clamp (show i < 2147483648 by omega), i4]
      have := yl_38C (h := h2) (i := i) (n0 := n0) hsz hs2 hi M ((h.2.1 17) i) (-1) 0 0 zF false (fun n L e => .inl ⟨rfl, by rw [eM] at e; injection e with e1 e2; exact e1.symm⟩) l2 (by omega) (by omega) (by omega)
      have ed : decide (¬ M = [] ∧ 12 < 0 + M.length) = decide (12 < M.length) := by
        rw [Nat.zero_add]
        by_cases z : 12 < M.length
        · rw [decide_eq_true z, decide_eq_true ⟨by rw [eM]; exact List.cons_ne_nil _ _, z⟩]
        · rw [decide_eq_false z, decide_eq_false (fun u => z u.2)]
      rw [ed, Bool.false_or, show yc_R false 38 i h2 = h2 from if_neg (fun z => absurd z.1 (by decide))] at this
      exact this
    have eM' : f_Mo_lookAlone_54 g2 (nI k) (nI 23) = f_Mo_rule g2 (if (yl_b n0 M || decide (12 < M.length)) = true then 1 else 0) 38 (nI k) := by
      rw [zv_54R (by decide) (by decide) n2]
      unfold f_Mo_lookAtRungs
      simp (config := { decide := true }) only [if_pos (zi_in (show k < 2147483648 by omega) hk), nI_clamp (show k < 2147483648 by omega), show (g2.2.1 72) k = 23 by rw [ge _ (by decide)]; exact m0, if_true]
      have := yl_38M (g := g2) (k := k) hk n0h.1 n0h.2 M ((g.2.1 76) k) 0 zF false l3 (by omega) (by omega)
      rw [Nat.zero_add, Bool.false_or] at this
      rw [fst]
      exact this
    have eo : yc_o (.inner 23 kv () l .leaf) = yc_o l := by
      show 0 + yc_o l + 0 = _; omega
    have ro : (yl_b n0 M || decide (12 < M.length)) = false → zg_ro l := by
      intro z
      rw [Bool.or_eq_false_iff] at z
      have z2 : ¬ 12 < M.length := of_decide_eq_false z.2
      have z1 : ∀ n, n ∈ M → n ≤ 12 ∧ n = n0 := by
        intro n hn
        have := List.any_eq_false.mp z.1 n hn
        rw [Bool.or_eq_true, decide_eq_true_eq, decide_eq_true_eq] at this
        omega
      refine ⟨rc, by omega, n0, (z1 n0 (by rw [eM]; exact List.mem_cons_self)).1, fun n hn => (z1 n (by rw [l4]; exact hn)).2⟩
    generalize (yl_b n0 M || decide (12 < M.length)) = B at eC eM' ro
    cases B with
    | false =>
      refine ⟨h2, g2, by rw [e1, eC]; exact congrArg some (if_neg (fun z => absurd z.1 (by decide))), by rw [e2, eM']; exact zv_rule0, .inr ⟨yc_pl C nd (by decide) (yb_sy0 (by decide) (by decide)) yc_out0 O A, n1, n2, by rw [ow', eo], fun _ => rfl, ro rfl, trivial⟩⟩
    | true =>
      obtain ⟨f1, f2, f3⟩ := yc_mkF (φ := 38) (h := h2) (g := g2) (i := i) (k := k) (p := kv.1) (by decide) (by decide) (by rw [O.1.2.1 _ (by decide)]; exact c1) (by rw [ge _ (by decide)]; exact m1 (by decide))
      exact ⟨zv_rf 38 i h2, zv_ru 38 k g2, by rw [e1, eC]; exact congrArg some (if_pos ⟨rfl, n1⟩), by rw [e2, eM']; exact zv_rule1 (by decide) n2 hk, .inl ⟨yc_Fb1 O f1, f2, f3⟩⟩
/-- a ladder -/
theorem yc_VN22 {kv : Int32 × Int32} {l : zt_T} (Ph : yc_Ph l) : yc_VN 22 kv l := by
  intro LC LM nb nf sz F h g i k up d D D' oc P Q y C nd hup LL hPs ow hd hD hD'
  obtain ⟨D, rfl⟩ : ∃ z, D = z + 1 := ⟨D - 1, by omega⟩
  obtain ⟨D', rfl⟩ : ∃ z, D' = z + 2 := ⟨D' - 2, by omega⟩
  obtain ⟨⟨hi, hk, hPi, hQk, hP, hQ⟩, ⟨c0, c1, c2, c3, c4⟩, cC, ⟨m0, m1, m2, m3⟩, cM⟩ := id nd
  have hen : f_Jd_enter h (nI i) = some (zs_uF h 38 10 (nI (oc + 156))) := by
    unfold f_Jd_enter
    simp (config := { decide := true }) only [if_pos (zi_in (show i < 2147483648 by omega) hi), nI_clamp (show i < 2147483648 by omega), show (h.2.1 13) i = 22 from c0, if_false, if_true, ow]
    rw [show nI (oc + 156) = nI oc + nI 156 from Int32.ofNat_add oc 156]
    rfl
  have O0 : yc_out (fun _ => False) (fun _ => False) h g (zs_uF h 38 10 (nI (oc + 156))) g := yc_own
  have C1 := yc_cxf C O0.1 O0.2.1
  have nd1 : yb_nd LC LM (zs_uF h 38 10 (nI (oc + 156))) g 22 kv l i k up P Q y := ⟨nd.1, nd.2.1, yc_keepC O0 (fun _ _ z => z) cC, nd.2.2.2.1, nd.2.2.2.2⟩
  rcases yc_kids (D := D) (D' := D') hen C1 nd1 ⟨rfl, by decide, by decide, by decide, by decide, by decide⟩ (yc_Ldn (yc_Lf LL (by omega) O0) hk m3 (by rw [m0]; decide)) Ph hPs rfl hd (by omega) (by omega) with ⟨h', g', e1, e2, e3, e4, e5⟩ | ⟨h2, g2, e1, e2, O, A, n1, n2, ow'⟩
  · exact ⟨h', g', e1, e2, .inl ⟨yc_Fb0 O0 e3, e4, e5⟩⟩
  · obtain ⟨i1, i2, i3, i4⟩ := O.2.2.1 i hPi
    have el : f_Jd_leave h2 (nI i) = some h2 := zv_lv22 hi (i1.trans c0)
    have em : f_Mo_lookAlone_54 g2 (nI k) (nI 22) = some g2 := by
      rw [zv_54R (by decide) (by decide) n2]
      unfold f_Mo_lookAtRungs
      simp (config := { decide := true }) only [if_pos (zi_in (show k < 2147483648 by omega) hk), nI_clamp (show k < 2147483648 by omega), show (g2.2.1 72) k = 22 by rw [O.2.1.2.1 _ (by decide)]; exact m0, if_false]
    have eo : oc + yc_o (.inner 22 kv () l .leaf) = oc + 156 + yc_o l := by
      show oc + (156 + yc_o l + 0) = _; omega
    exact ⟨h2, g2, by rw [e1, el], by rw [e2, em], .inr ⟨yc_pl C1 nd1 (by decide) (yb_sy0 (by decide) (by decide)) O0 O A, n1, n2, by rw [ow'.1, eo], fun _ => rfl, ow'.2.2, trivial⟩⟩
/-- a node with one child -/
theorem yl_g1 {kd : Nat} {cs : List Nat} (key : ∀ r ∈ zg_R, r.1 = kd → r.2 = (0, cs, 1)) (h0 : zg_A kd 0 = false) {l : zt_T} (h : zg_A kd (zg_run kd 0 l) = true) : ∃ c kv o lc, l = .inner c kv o lc .leaf ∧ c ∈ cs := by
  cases l with
  | leaf => exact absurd (h0.symm.trans h) (by decide)
  | inner c kv o lc r =>
    obtain ⟨cs', to, m1, m2, m3⟩ := zv_qR (yb_run h)
    have k1 := key _ m1 rfl
    simp only [Prod.mk.injEq] at k1
    obtain ⟨_, e2, e3⟩ := k1
    rw [e2] at m2
    have h' : zg_A kd (zg_run kd 1 r) = true := by
      have : zg_run kd 0 (.inner c kv o lc r) = zg_run kd 1 r := by show zg_run kd (zg_q kd 0 c) r = _; rw [m3, e3]
      rw [← this]; exact h
    cases r with
    | leaf => exact ⟨c, kv, o, lc, rfl, m2⟩
    | inner c2 kv2 o2 lc2 r2 =>
      obtain ⟨cs'', to, m1, _, _⟩ := zv_qR (yb_run h')
      have k1 := key _ m1 rfl
      simp only [Prod.mk.injEq] at k1
      exact absurd k1.1 (by decide)
/-- all cells -/
theorem yr_all : ∀ t : zt_T, zg_ok t → yl_top t → yr_Ph t := by
  intro t
  induction t with
  | leaf => intro _ _; trivial
  | inner kd kv o l r ihl ihr =>
    intro ⟨⟨hA, hv⟩, okl, okr⟩ ⟨hE, tr⟩
    refine ⟨?_, ihr okr tr⟩
    rcases hE with e | e | e | e | e <;> subst e
    · obtain ⟨c, kv1, o1, lc, el, hc⟩ := yl_g1 (kd := 25) (cs := [6, 33]) (by decide +kernel) (by decide) hA
      have hE : c ∈ yb_E := by
        simp only [List.mem_cons, List.not_mem_nil, or_false] at hc
        rcases hc with e | e <;> rw [e] <;> decide
      have tp : yb_top l := by rw [el]; exact ⟨hE, trivial⟩
      have P := yb_all l okl tp
      have z := yc_oE l okl tp
      rw [el] at P
      exact yr_VN25 hv el hE P.1.2 z
    · rw [zv_nolf (kd := 26) (by decide +kernel) hA]; exact yr_VN26 (.inl rfl)
    · rw [zv_nolf (kd := 27) (by decide +kernel) hA]; exact yr_VN26 (.inr (.inl rfl))
    · obtain ⟨c, kv1, o1, lc, el, hc⟩ := yl_g1 (kd := 28) (cs := [6]) (by decide +kernel) (by decide) hA
      have e6 : c = 6 := by
        simp only [List.mem_cons, List.not_mem_nil, or_false] at hc
        exact hc
      subst e6
      have tp : yb_top l := by rw [el]; exact ⟨by decide, trivial⟩
      have P := yb_all l okl tp
      have z := yc_oE l okl tp
      rw [el] at P
      exact yr_VN28 el P.1.2 z
    · rw [zv_nolf (kd := 29) (by decide +kernel) hA]; exact yr_VN26 (.inr (.inr rfl))
theorem ys_all : ∀ t : zt_T, zg_ok t → yl_rows t → ys_Ph t := by
  intro t
  induction t with
  | leaf => intro _ _; trivial
  | inner kd kv o l r ihl ihr =>
    intro ⟨⟨hA, hv⟩, okl, okr⟩ ⟨⟨e, hl⟩, tr⟩
    subst e
    exact ⟨ys_VN24 (yr_all l okl hl), ihr okr tr⟩
theorem yc_g22 : ∀ {l : zt_T} {st : Nat}, zg_ok l → ¬ zg_run 22 st l = 99 → yc_Ph l := by
  have key : ∀ r ∈ zg_R, r.1 = 22 → ∀ c ∈ r.2.2.1, c = 23 := by decide +kernel
  intro l
  induction l with
  | leaf => intro _ _ _; trivial
  | inner c kv o lc r _ ihr =>
    intro st ⟨⟨hA, _⟩, okl, okr⟩ h
    obtain ⟨p, h1⟩ := yl_gr key h
    subst p
    exact ⟨.inr (yc_VN23 okl hA (ys_all lc okl (yl_g23 okl (yc_gA hA)))), ihr okr h1⟩
/-- a body -/
theorem yc_body {kd : Nat} {kv : Int32 × Int32} {l : zt_T} (hk : kd = 11 ∨ kd = 22) (hA : zg_A kd (zg_run kd 0 l) = true) (hok : zg_ok l) : yc_VN kd kv l := by
  rcases hk with e | e <;> subst e
  · exact yc_VN11 (.inl rfl) (yc_all l hok (yc_gt (by decide) (yc_gA hA)))
  · exact yc_VN22 (yc_g22 hok (yc_gA hA))
end
