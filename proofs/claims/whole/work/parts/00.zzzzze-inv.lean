/-! The judge: an invocation is visited; all statements. -/
theorem yc_VN13 {kv : Int32 × Int32} {l : zt_T} (hok : zg_ok l) (Ph : yp_Ph l) : yc_VN 13 kv l := by
  intro LC LM nb nf sz F h g i k up d D D' oc P Q y C nd hup LL hPs ow hd hD hD'
  have hz := zF_big
  obtain ⟨D, rfl⟩ : ∃ z, D = z + 1 := ⟨D - 1, by omega⟩
  obtain ⟨D', rfl⟩ : ∃ z, D' = z + 2 := ⟨D' - 2, by omega⟩
  obtain ⟨⟨hi, hk, hPi, hQk, hP, hQ⟩, ⟨c0, c1, c2, c3, c4⟩, cC, ⟨m0, m1, m2, m3⟩, cM⟩ := id nd
  rw [if_pos (by decide)] at m2
  obtain ⟨c, hc, ec, hw⟩ := yb_nr C m2
  have hb := C.2.2.1
  obtain ⟨h1, hen, f01, fp, io⟩ := yp_en C.1 hb hi hc hw c0 (c2.trans ec)
  have A1 : h1.2 = h.2 := by
    have : h1.2.1 = h.2.1 := funext fun z => f01.2.1 z List.not_mem_nil
    have t : h1.2.2 = h.2.2 := funext fun z => f01.2.2 z List.not_mem_nil
    exact Prod.ext this t
  have O0 : yc_out (fun _ => False) (fun _ => False) h g h1 g := ⟨zfr_w f01 (by decide) (by decide) (by decide), zfr_rfl, fun j _ => ⟨by rw [A1], by rw [A1], by rw [A1], by rw [A1]⟩, fun _ _ => ⟨rfl, rfl, rfl⟩, f01.1 _ _ (by decide), fun _ _ _ _ _ => by rw [A1]⟩
  have C1 := yc_cxf C O0.1 O0.2.1
  have nd1 : yb_nd LC LM h1 g 13 kv l i k up P Q y := ⟨nd.1, by rw [A1]; exact nd.2.1, by rw [A1]; exact yc_keepC O0 (fun _ _ z => z) cC, nd.2.2.2.1, nd.2.2.2.2⟩
  have hln := yb_ln nd hPs
  have J1 : (h1.1 38 3) = 0 := C1.1.2.2.2.2.2.2.2.1
  have J2 : (g.1 68 29) = 0 := C1.1.2.2.2.2.2.2.2.2
  have hsz : sz < 100000 := by have := C.2.2.2.2; omega
  have eC := zv_vC (D := D) (d := d) (h := h) (i := i) (by omega) hi hen
  have eM := (zv_lM (D' := D') (g := g) (k := k) (kd := 13) hk (by decide) (by decide) m0).trans (zv_aM (D' := D') (g := g) (k := k) (kd := 13) hk (by decide) (by decide) m0)
  have eo : yc_o (.inner 13 kv () l .leaf) = 0 := by
    show 0 + yc_o l + 0 = 0
    rw [yp_o13 hok Ph]
  obtain ⟨u, B, io'⟩ : ∃ u B, yp_O ((g.2.1 74) k) h1 g ∨ (yp_I nb F u B ((g.2.1 74) k) h1 g ∧ ¬ yp_O ((g.2.1 74) k) h1 g) := by
    rcases io with z | ⟨u, B, z⟩
    · exact ⟨0, 0, .inl z⟩
    · exact ⟨u, B, .inr z⟩
  have S0 : yp_St LC LM nb F i k u B ((g.2.1 74) k) l P Q h1 g l h1 g ((h1.2.1 17) i) ((g.2.1 76) k) := by
    refine ⟨.leaf, fun _ => False, fun _ => False, P, Q, y, (g.2.1 77) k, rfl, ⟨nd1.2.2.1, cM⟩, ⟨fun _ z => z, fun _ z => z, fun _ z => z.elim, fun _ z => z.elim⟩, ⟨rfl, rfl⟩, nd1.2.1.2.2.2.2, yb_out0, Ph, ⟨Nat.le_refl _, J1, J2⟩, ?_⟩
    rcases io' with z | ⟨z1, z2⟩
    · exact .inl z
    · exact .inr ⟨z1, z2, fun _ _ _ => ⟨rfl, rfl⟩⟩
  have stp : l = .leaf ∨ (∃ D1 D2, D = D1 + 1 ∧ D' = D2 + 2 ∧ zv_stp (D1 + 1) (D2 + 2) d sz (yp_St LC LM nb F i k u B ((g.2.1 74) k) l P Q h1 g) (zv_Fb h1 g)) := by
    cases l with
    | leaf => exact .inl rfl
    | inner kd kvx ox lx rx =>
      right
      have hd2 : 2 ≤ zg_d (.inner kd kvx ox lx rx) := by
        obtain ⟨⟨_, ce, kve, oe, le, hlc, _⟩, _⟩ := Ph
        have : max (zg_d lx + 1) (zg_d rx) ≤ zg_d (.inner kd kvx ox lx rx) := zg_d1
        have h3 : max (zg_d le + 1) 0 ≤ zg_d lx := by rw [hlc]; exact zg_d1 (r := .leaf)
        omega
      obtain ⟨D1, rfl⟩ : ∃ z, D = z + 1 := ⟨D - 1, by omega⟩
      obtain ⟨D2, rfl⟩ : ∃ z, D' = z + 2 := ⟨D' - 2, by omega⟩
      refine ⟨D1, D2, rfl, rfl, ?_⟩
      intro c' kv' w' lc r h' g' x x' S
      exact yp_step C1 hk rfl (by rw [fp, A1]) hP hPs hQ hPi hln hd (by omega) (by omega) S
  have hend : ∀ h' g' x x', yp_St LC LM nb F i k u B ((g.2.1 74) k) l P Q h1 g .leaf h' g' x x' → x = -1 ∧ x' = -1 := by
    intro h' g' x x' S
    obtain ⟨_, _, _, _, _, yu, yu', _, ⟨sC, sM⟩, _⟩ := S
    exact ⟨(show x = -1 ∧ yu = -1 from sC).1, (show x' = -1 ∧ yu' = -1 from sM).1⟩
  have walk : (∃ h' g', f_Jd_visit (D + 1) h (nI i) (nI d) = some h' ∧ f_Mo_look (D' + 2) g (nI k) = some g' ∧ zv_Fb h1 g h' g' ∧ ¬ (h'.1 38 3) = 0 ∧ ¬ (g'.1 68 29) = 0) ∨ (∃ h2 g2, f_Jd_visit (D + 1) h (nI i) (nI d) = f_Jd_visit_74 h2 (nI i) ∧ f_Mo_look (D' + 2) g (nI k) = f_Mo_lookAlone_54 g2 (nI k) (nI 13) ∧ yp_St LC LM nb F i k u B ((g.2.1 74) k) l P Q h1 g .leaf h2 g2 (-1) (-1)) := by
    rcases stp with el | ⟨D1, D2, e1, e2, st⟩
    · subst el
      right
      have x1 : (h1.2.1 17) i = -1 := (show (h1.2.1 17) i = -1 ∧ y = -1 from nd1.2.2.1).1
      have x2 : (g.2.1 76) k = -1 := (show (g.2.1 76) k = -1 ∧ (g.2.1 77) k = -1 from cM).1
      rw [x1, show zF = 18446744073709551615 + 1 from rfl, zv_enC] at eC
      rw [x2, show zF = 18446744073709551615 + 1 from rfl, zv_enM] at eM
      rw [x1, x2] at S0
      exact ⟨h1, g, eC, eM, S0⟩
    · subst e1; subst e2
      rcases zv_fold (i := i) (k := k) (kd := 13) (d := d) (by omega) hsz st hend l 0 zF zF h1 g _ _ S0 (by omega) (by omega) (by omega) with ⟨h', g', a1, a2, a3, a4, a5⟩ | ⟨h', g', a1, a2, a3⟩
      · exact .inl ⟨h', g', by rw [eC, a1], by rw [eM, a2], a3, a4, a5⟩
      · exact .inr ⟨h', g', by rw [eC, a2], by rw [eM, a3], a1⟩
  rcases walk with ⟨h', g', e1, e2, e3, e4, e5⟩ | ⟨h2, g2, e1, e2, w, Pw, Qw, Pu, Qu, yu, yu', e0, _, ⟨_, _, p3, p4⟩, A, _, O, _, ⟨_, n1, n2⟩, ios⟩
  · exact ⟨h', g', e1, e2, .inl ⟨yc_Fb0 O0 e3, e4, e5⟩⟩
  · rw [zt_ap_leaf] at e0
    subst e0
    have A' := yb_Fm (fun j z => (p3 j z).1) (fun j z => (p4 j z).1) _ _ _ _ _ A
    obtain ⟨i1, i2, i3, i4⟩ := O.2.2.1 i hPi
    have C2 := yb_cxf C1 O.1 O.2.1
    have ge : ∀ z, ¬ z ∈ yc_g → g2.2.1 z = g.2.1 z := fun z hz => O.2.1.2.1 z hz
    have kk : (h1.2.1 13) i = 13 := nd1.2.1.1
    obtain ⟨h', g', r1, r2, r3⟩ := yp_lv (p := kv.1) C2.1 hb hi hk hc hw (i1.trans kk) (i3.trans (nd1.2.1.2.2.1.trans ec)) (by rw [O.1.2.1 _ (by decide)]; exact nd1.2.1.2.1) (by rw [ge _ (by decide)]; exact m0) (by rw [ge _ (by decide)]) (by rw [ge _ (by decide)]; exact m1 (by decide))
    have eC' : f_Jd_visit (D + 1) h (nI i) (nI d) = some h' := by
      rw [e1]
      unfold f_Jd_visit_74
      rw [if_pos n1, Option.bind_fun_some, r1]
    refine ⟨h', g', eC', by rw [e2, r2], ?_⟩
    rcases r3 with Fb | ⟨u', x, B', u1, u2, u3, u4, u5, u6, u7, u8, u9⟩
    · obtain ⟨⟨φ, p, X⟩, _⟩ := id Fb
      have xn := zv_Xn X
      exact .inl ⟨yc_Fb0 O0 (yc_Fb1 (yc_outb O) Fb), xn.1, xn.2⟩
    · right
      have V3 : F nb ≤ 5900 := C.1.2.1.2.1.2.2
      have B3 : nb ≤ 568 := C.1.2.1.1.2.2
      have W : yb_out (fun j => j = i) (fun j => j = k) h2 g2 h' g' := by
        rw [u8, u9]
        exact yb_W7 _ (yb_W6 _ (yb_W2 _ yb_out0))
      -- it is the instance that was entered
      have key : u' = u ∧ B' = B ∧ ∀ xx, xx < 300000000 → (h1.2.1 32) (32 + u) = nI xx → yp_s LC LM F (nb - 1) B xx h2 g2 Pw Qw l ((h1.2.1 17) i) ((g.2.1 76) k) (-1) (-1) := by
        have hv : f_Mo_variable g2 ((g2.1 68 54)) ((g.2.1 74) k) = f_Mo_variable g ((g.1 68 54)) ((g.2.1 74) k) := by rw [yp_vof2 O, O.2.1.1 _ _ List.not_mem_nil]
        rcases ios with ⟨_, z⟩ | ⟨z1, z2, z3⟩
        · exfalso
          rcases z with z | ⟨u'', z1, z2, z3⟩
          · rw [hv, z] at u5
            exact zc_m1 (show u' < 2147483648 by omega) (Option.some.inj u5).symm
          · rw [hv, z2] at u5
            have : u'' = u' := (nI_eq (by omega) (by omega)).mp (Option.some.inj u5)
            rw [this] at z3
            exact z3 (by rw [← ge _ (by decide)]; exact u6)
        · have eu : u' = u := by
            rw [hv, z1.2.2.2.2.2.2.2] at u5
            exact ((nI_eq (by have := z1.2.1; omega) (by omega)).mp (Option.some.inj u5)).symm
          subst eu
          have eB : B' = B := by
            have q := z1.2.2.2.2.1
            rw [← O.1.2.1 _ (by decide), u4] at q
            exact (nI_eq (by omega) (by have := z1.2.2.2.1; omega)).mp q
          exact ⟨rfl, eB, z3⟩
      obtain ⟨ku, kB, ks⟩ := key
      subst ku; subst kB
      obtain ⟨z, zl, z1⟩ : ∃ z, z < 300000000 ∧ (h2.2.1 32) (32 + u') = nI z := by
        have QQ := C2.1.2.2.2.1.2.1 (nb - 1) u' (by omega) u1 (by rw [show nb - 1 + 1 = nb by omega]; exact u2) u2
        obtain ⟨_, z, _, _, _, ⟨z1, _⟩, _, _, ⟨zl, _⟩, _⟩ := QQ
        exact ⟨z, zl, z1⟩
      have ez : nI x = nI z := by rw [← u7, ← z1]
      rw [ez] at u9
      have ks' := ks z zl (by rw [← O.1.2.1 _ (by decide)]; exact z1)
      have ge2 : ∀ z, ¬ z ∈ yc_g → g'.2.1 z = g2.2.1 z := fun z hz => W.2.1.2.1 z hz
      have he2 : ∀ z, ¬ z ∈ [13, 14, 16, 17] → h'.2.1 z = h2.2.1 z := fun z hz => W.1.2.1 z hz
      have ks2 : yp_s LC LM F (nb - 1) B' z h' g' P Q l ((h1.2.1 17) i) ((g.2.1 76) k) (-1) (-1) := yp_sm (fun j z => (p3 j z).1) (fun j z => (p4 j z).1) _ _ _ _ _ (yp_sf (h := h2) (g := g2) (fun j hj => ⟨(W.2.2.1 j (fun q => hPi (by rw [← q]; exact (p3 j hj).1))).2.2.1, by rw [he2 _ (by decide)], (W.2.2.1 j (fun q => hPi (by rw [← q]; exact (p3 j hj).1))).2.2.2, (W.2.2.1 j (fun q => hPi (by rw [← q]; exact (p3 j hj).1))).2.1⟩) (fun j hj => ⟨(W.2.2.2 j (fun q => hQk (by rw [← q]; exact (p4 j hj).1))).2.1, by rw [ge2 _ (by decide)], by rw [ge2 _ (by decide)], by rw [ge2 _ (by decide)]⟩) ⟨he2 _ (by decide), he2 _ (by decide), he2 _ (by decide)⟩ (fun c => yp_vof (he2 _ (by decide)) (he2 _ (by decide)) (he2 _ (by decide)) _ _) _ _ _ _ _ ks')
      have NN : yb_N F (nb - 1) h' g' P Q 13 kv.2 i k ((h1.2.1 17) i) (zt_ln l) := by
        refine .inl (.inr (.inr (.inl ⟨rfl, ?_, ?_, u', z, B', ?_, ?_, ?_, by omega, ?_, ?_, ?_⟩)))
        · rw [u8, zu_MM, if_neg (fun z => absurd z.1 (by decide))]; exact i1.trans kk
        · rw [u8, zu_MM, if_neg (fun z => absurd z.1 (by decide))]; exact i4
        · rw [ec]
          exact yb_mkV C2.1 hb hc hw u1 u2 u5 z1 W.1
        · rw [u8, zu_MM, if_pos ⟨rfl, rfl⟩]
        · rw [he2 _ (by decide)]; exact u4
        · rw [u9, zu_MM, if_neg (fun z => absurd z.1 (by decide)), zu_MM, if_pos ⟨rfl, rfl⟩]
        · rw [u9, zu_MM, if_pos ⟨rfl, rfl⟩]
        · have : (g'.2.1 76) k = (g.2.1 76) k := by rw [ge2 _ (by decide), ge _ (by decide)]
          rw [this]
          exact yp_spr _ _ _ _ _ ks2
      refine ⟨yc_fin C1 nd1 O0 (yc_outb O) A' (yc_outb W) NN, (W.1.1 _ _ List.not_mem_nil).trans n1, (W.2.1.1 _ _ List.not_mem_nil).trans n2, ?_⟩
      refine ⟨?_, fun _ => rfl, zg_ruE (by decide) (by decide)⟩
      rw [W.1.1 _ _ List.not_mem_nil, O.1.1 _ _ List.not_mem_nil, f01.1 _ _ (by decide), ow, eo]
      rfl
/-- kinds at the top: expressions and statements -/
abbrev yc_SK : List Nat := [11, 12, 13, 15, 16, 17, 18, 19, 20, 21]
def yc_top : zt_T → Prop
  | .leaf => True
  | .inner kd _ _ _ r => (kd ∈ yb_E ∨ kd ∈ yc_SK) ∧ yc_top r
theorem yc_gt {kd : Nat} (hkd : kd ∈ [11, 12, 15, 16, 17, 18, 19]) : ∀ {l : zt_T} {st : Nat}, ¬ zg_run kd st l = 99 → yc_top l := by
  have key : ∀ r ∈ zg_R, r.1 ∈ [11, 12, 15, 16, 17, 18, 19] → ∀ c ∈ r.2.2.1, c ∈ yb_E ∨ c ∈ yc_SK := by decide +kernel
  intro l
  induction l with
  | leaf => intro _ _; trivial
  | inner c kv o lc r _ ihr =>
    intro st h
    have h1 : ¬ zg_run kd (zg_q kd st c) r = 99 := h
    have h2 : ¬ zg_q kd st c = 99 := fun z => h1 (by rw [z]; exact zv_q99 kd r)
    obtain ⟨cs, to, m1, m2, m3⟩ := zv_qR h2
    exact ⟨key _ m1 hkd c m2, ihr h1⟩
theorem yc_gA {kd : Nat} {l : zt_T} (h : zg_A kd (zg_run kd 0 l) = true) : ¬ zg_run kd 0 l = 99 := fun z => by
  rw [z, zv_A99] at h
  exact absurd h (by decide)
theorem yc_g14 {l : zt_T} (h : zg_A 14 (zg_run 14 0 l) = true) : ∃ c kv o lc, l = .inner c kv o lc .leaf ∧ c ∈ yb_E := by
  have key : ∀ r ∈ zg_R, r.1 = 14 → r.2 = (0, yb_E, 1) := by decide +kernel
  cases l with
  | leaf => exact absurd h (by decide)
  | inner c kv o lc r =>
    obtain ⟨cs, to, m1, m2, m3⟩ := zv_qR (yb_run h)
    have k1 := key _ m1 rfl
    simp only [Prod.mk.injEq] at k1
    obtain ⟨_, e2, e3⟩ := k1
    rw [e2] at m2
    have h' : zg_A 14 (zg_run 14 1 r) = true := by
      have : zg_run 14 0 (.inner c kv o lc r) = zg_run 14 1 r := by show zg_run 14 (zg_q 14 0 c) r = _; rw [m3, e3]
      rw [← this]; exact h
    cases r with
    | leaf => exact ⟨c, kv, o, lc, rfl, m2⟩
    | inner c2 kv2 o2 lc2 r2 =>
      obtain ⟨cs, to, m1, _, _⟩ := zv_qR (yb_run h')
      have k1 := key _ m1 rfl
      simp only [Prod.mk.injEq] at k1
      exact absurd k1.1 (by decide)
theorem yc_g13 : ∀ {l : zt_T} {st : Nat}, zg_ok l → ¬ zg_run 13 st l = 99 → yp_Ph l := by
  have key : ∀ r ∈ zg_R, r.1 = 13 → ∀ c ∈ r.2.2.1, c = 14 := by decide +kernel
  intro l
  induction l with
  | leaf => intro _ _ _; trivial
  | inner c kv o lc r _ ihr =>
    intro st ⟨⟨hA, hv⟩, okl, okr⟩ h
    have h1 : ¬ zg_run 13 (zg_q 13 st c) r = 99 := h
    have h2 : ¬ zg_q 13 st c = 99 := fun z => h1 (by rw [z]; exact zv_q99 13 r)
    obtain ⟨cs, to, m1, m2, m3⟩ := zv_qR h2
    have e14 := key _ m1 rfl c m2
    subst e14
    obtain ⟨ce, kve, oe, le, el, hE⟩ := yc_g14 hA
    refine ⟨⟨rfl, ce, kve, oe, le, el, hE, ?_⟩, ihr okr h1⟩
    have P := yb_all lc okl (by rw [el]; exact ⟨hE, trivial⟩)
    rw [el] at P
    exact P.1.2
/-- all statements can be visited -/
theorem yc_all : ∀ t : zt_T, zg_ok t → yc_top t → yc_Ph t := by
  intro t
  induction t with
  | leaf => intro _ _; trivial
  | inner kd kv o l r ihl ihr =>
    intro ⟨⟨hA, hv⟩, okl, okr⟩ ⟨hE, tr⟩
    refine ⟨?_, ihr okr tr⟩
    rcases hE with hE | hE
    · left
      have P := yb_all (.inner kd kv o l .leaf) ⟨⟨hA, hv⟩, okl, trivial⟩ ⟨hE, trivial⟩
      refine ⟨hE, P.1.2, ?_⟩
      have := yc_oE (.inner kd kv o l .leaf) ⟨⟨hA, hv⟩, okl, trivial⟩ ⟨hE, trivial⟩
      have e : yc_o (.inner kd kv o l .leaf) = (if kd = 16 ∨ kd = 19 then 1 else if kd = 22 then 156 else if kd = 25 ∧ 2 ≤ kv.2 then 1 else 0) + yc_o l + 0 := rfl
      omega
    · right
      have sub : ∀ {kd : Nat}, kd ∈ [11, 12, 15, 16, 17, 18, 19] → zg_A kd (zg_run kd 0 l) = true → yc_Ph l := fun h1 h2 => ihl okl (yc_gt h1 (yc_gA h2))
      have cs : kd = 11 ∨ kd = 12 ∨ kd = 13 ∨ kd = 15 ∨ kd = 16 ∨ kd = 17 ∨ kd = 18 ∨ kd = 19 ∨ kd = 20 ∨ kd = 21 := by
        simp only [yc_SK, List.mem_cons, List.not_mem_nil, or_false] at hE
        exact hE
      rcases cs with e | e | e | e | e | e | e | e | e | e <;> subst e
      · exact yc_VN11 (.inl rfl) (sub (by decide) hA)
      · exact yc_VN12 hA (sub (by decide) hA)
      · exact yc_VN13 okl (yc_g13 okl (yc_gA hA))
      · exact yc_VN15 hA (sub (by decide) hA)
      · exact yc_VN16 hA (sub (by decide) hA)
      · exact yc_VN11 (.inr (.inl rfl)) (sub (by decide) hA)
      · exact yc_VN18 hA (sub (by decide) hA)
      · exact yc_VN19 hA (sub (by decide) hA)
      · rw [zv_nolf (kd := 20) (by decide +kernel) hA]; exact yc_VN20
      · rw [zv_nolf (kd := 21) (by decide +kernel) hA]; exact yc_VN11 (.inr (.inr rfl)) trivial
