section
/-! The judge: an expression is visited: elements, signs before one. -/
section YBI
variable {LC LM : List (List Int32)} {nb nf sz : Nat} {F : Nat → Nat} {h g h2 g2 h' g' : zs_H} {P Q : Nat → Prop} {i k up d D D' kd bb : Nat} {kv : Int32 × Int32} {l : zt_T} {y : Int32}
theorem yb_first {c : Nat} {kvc : Int32 × Int32} {o : Unit} {lc r : zt_T} {x x' e e' : Int32} (hc : c ∈ yb_E) (A : yb_F F bb h g P Q (.inner c kvc o lc r) x x' e e') : ∃ a ka t, P a ∧ a < 32784 ∧ x = nI a ∧ Q ka ∧ ka < 33500 ∧ x' = nI ka ∧ t < 3 ∧ (h.2.1 14) a = nI t ∧ (g.2.1 100) ka = nI t ∧ yb_F F bb h g P Q r ((h.2.1 18) a) ((g.2.1 78) ka) e e' := by
  obtain ⟨a, ka, xl, ⟨a1, a2, a3⟩, ⟨b1, b2, b3, _⟩, N, _, B⟩ := A
  rcases N with N | ⟨t, t1, t2, t3, _⟩
  · exact absurd hc (yb_SE N)
  · exact ⟨a, ka, t, a1, a2, a3, b1, b2, b3, t1, t2, t3, B⟩
theorem yb_foK {v : Int32} : ((zv_fo i v h).2.1 13) i = 30 ∧ ((zv_fo i v h).2.1 16) i = v ∧ ((zv_fo i v h).2.1 14) i = (h.2.1 14) i := by
  unfold zv_fo
  refine ⟨?_, ?_, ?_⟩
  · rw [zu_MM, if_neg (fun z => absurd z.1 (by decide)), zu_MM, if_neg (fun z => absurd z.1 (by decide)), zu_MM, if_pos ⟨rfl, rfl⟩]
  · rw [zu_MM, if_neg (fun z => absurd z.1 (by decide)), zu_MM, if_pos ⟨rfl, rfl⟩]
  · rw [zu_MM, if_neg (fun z => absurd z.1 (by decide)), zu_MM, if_neg (fun z => absurd z.1 (by decide)), zu_MM, if_neg (fun z => absurd z.1 (by decide))]
theorem yb_foW {v : Int32} (W : yb_out (fun j => j = i) (fun j => j = k) h g h' g') : yb_out (fun j => j = i) (fun j => j = k) h g (zv_fo i v h') g' := (yb_w1 (v := 0) (a := 0) (yb_w1 (v := 0) (a := 0) (yb_w1 (v := 0) (a := 0) W).2.2.1).2.1).2.2.2.1
theorem yb_W1 (z : Int32) (W : yb_out (fun j => j = i) (fun j => j = k) h g h' g') : yb_out (fun j => j = i) (fun j => j = k) h g (zs_uM h' 14 i z) g' := (yb_w1 (v := 0) (a := 0) W).1
theorem yb_W2 (z : Int32) (W : yb_out (fun j => j = i) (fun j => j = k) h g h' g') : yb_out (fun j => j = i) (fun j => j = k) h g (zs_uM h' 16 i z) g' := (yb_w1 (v := 0) (a := 0) W).2.1
theorem yb_W3 (z : Int32) (W : yb_out (fun j => j = i) (fun j => j = k) h g h' g') : yb_out (fun j => j = i) (fun j => j = k) h g (zs_uM h' 13 i z) g' := (yb_w1 (v := 0) (a := 0) W).2.2.1
theorem yb_W5 (z : Int32) (W : yb_out (fun j => j = i) (fun j => j = k) h g h' g') : yb_out (fun j => j = i) (fun j => j = k) h g h' (zs_uM g' 100 k z) := (yb_w1 (v := 0) (a := 0) W).2.2.2.2.1
theorem yb_W6 (z : Int32) (W : yb_out (fun j => j = i) (fun j => j = k) h g h' g') : yb_out (fun j => j = i) (fun j => j = k) h g h' (zs_uM g' 101 k z) := (yb_w1 (v := 0) (a := 0) W).2.2.2.2.2.1
theorem yb_W7 (z : Int32) (W : yb_out (fun j => j = i) (fun j => j = k) h g h' g') : yb_out (fun j => j = i) (fun j => j = k) h g h' (zs_uM g' 102 k z) := (yb_w1 (v := 0) (a := 0) W).2.2.2.2.2.2
/-- the variable that the judge has found -/
theorem yb_mkV {c u x : Nat} {q w : Int32} (I : zv_I LC LM nb nf (F nb) F q h g) (hb : 0 < nb) (hc : c < 6000) (hw : zt_nr LC LM (nI c) w) (u1 : F (nb - 1) ≤ u) (u2 : u < F nb) (e : f_Mo_variable g ((g.1 68 54)) w = some (nI u)) (hx : (h.2.1 32) (32 + u) = nI x) (f : zfr [] [13, 14, 16, 17] [] h h') : yb_V F (nb - 1) h' (nI c) u x := by
  have V3 : F nb ≤ 5900 := I.2.1.2.1.2.2
  obtain ⟨w1, w2⟩ := zv_uq I hb hc hw (by omega) e
  refine ⟨u1, by rw [show nb - 1 + 1 = nb by omega]; exact u2, by rw [f.2.1 _ (by decide)]; exact w1, fun j a1 a2 a3 => ?_, by rw [f.2.1 _ (by decide)]; exact hx⟩
  rw [show nb - 1 + 1 = nb by omega] at a2
  rw [f.2.1 _ (by decide)] at a3
  exact w2 j a1 a2 a3
end YBI
/-- an element -/
theorem yb_VN32 {kv : Int32 × Int32} {l : zt_T} (hA : zg_A 32 (zg_run 32 0 l) = true) (Ph : yb_Ph l) : yb_VN 32 kv l := by
  intro LC LM nb nf sz F h g i k up ku d D D' P Q y C nd hup mu hku h5 h33 hPs hd hD hD'
  obtain ⟨D, rfl⟩ : ∃ z, D = z + 1 := ⟨D - 1, by omega⟩
  obtain ⟨D', rfl⟩ : ∃ z, D' = z + 2 := ⟨D' - 2, by omega⟩
  obtain ⟨⟨hi, hk, hPi, hQk, hP, hQ⟩, ⟨c0, c1, c2, c3, c4⟩, cC, ⟨m0, m1, m2, m3⟩, cM⟩ := id nd
  rcases yb_kids (D := D) (D' := D') C nd (.inl rfl) Ph hPs hd (by omega) (by omega) with ⟨h', g', e1, e2, e3, e4, e5⟩ | ⟨h2, g2, e1, e2, O, A, n1, n2⟩
  · exact ⟨h', g', e1, yb_lk0 hk (km := 32) (by decide) (by decide) m0 e2, .inl ⟨e3, e4, e5⟩⟩
  · obtain ⟨c', kvc, o, lc, el, hcE⟩ := yb_g1 (.inl rfl) hA
    have A' := A
    rw [el] at A'
    obtain ⟨a, ka, t, a1, a2, a3, b1, b2, b3, t1, t2, t3, _⟩ := yb_first hcE A'
    rw [if_pos (by decide)] at m2
    obtain ⟨c, hc, ec, hw⟩ := yb_nr C m2
    have C2 := yb_cxf C O.1 O.2.1
    obtain ⟨i1, i2, i3, i4⟩ := O.2.2.1 i hPi
    have ge : ∀ z, ¬ z ∈ [100, 101, 102] → g2.2.1 z = g.2.1 z := fun z hz => O.2.1.2.1 z hz
    have he : ∀ z, ¬ z ∈ [13, 14, 16, 17] → h2.2.1 z = h.2.1 z := fun z hz => O.1.2.1 z hz
    have hb := C.2.2.1
    obtain ⟨h', g', v1, v2, v3⟩ := zv_elemE (p := kv.1) (a := a) (ka := ka) (tc := t) C2.1 hb hi hk hc hw (i1.trans c0) (i3.trans (c2.trans ec)) (by rw [he _ (by decide)]; exact c1) (i4.trans a3) a2 (fun z => hPi (by rw [← z]; exact a1)) t2 t1 (by rw [ge _ (by decide)]; exact m0) (by rw [ge _ (by decide)]) (by rw [ge _ (by decide)]; exact m1 (by decide)) (by rw [ge _ (by decide)]; exact b3) b2 t3
    have el2 : f_Mo_lookAlone (D' + 2) g (nI k) = some g' := by rw [e2, v2]
    refine ⟨h', g', by rw [e1, zv_lv32 hi (i1.trans c0), v1], yb_lk0 hk (km := 32) (by decide) (by decide) m0 el2, ?_⟩
    rcases v3 with ⟨X, f1, f2⟩ | ⟨u, ty, x, x1, x2, x3, x4, x5, x6, x7, x8, x9, x10, x11, x12⟩
    · obtain ⟨φ, p, X⟩ := X
      have xn := zv_Xn X
      exact .inl ⟨⟨⟨φ, p, X⟩, zfr_trans (zfr_w O.1 (by decide) (by decide) (by decide)) f1, zfr_trans (zfr_w O.2.1 (by decide) (by decide) (by decide)) f2⟩, xn.1, xn.2⟩
    · right
      have W : yb_out (fun j => j = i) (fun j => j = k) h2 g2 h' g' := by
        rw [x5, x6]
        exact yb_W6 _ (yb_W5 _ (yb_W1 _ (yb_W2 _ yb_out0)))
      refine ⟨yb_fin C nd O A W ?_, (W.1.1 _ _ List.not_mem_nil).trans n1, (W.2.1.1 _ _ List.not_mem_nil).trans n2⟩
      refine .inr ⟨ty, x3, ?_, ?_, .inr (.inr (.inl ⟨rfl, ?_, ?_, u, x, ?_, ?_, ?_, by rw [W.1.2.1 _ (by decide)]; exact (yb_so C2.1 hb x1 x2).2 x8, by rw [W.1.2.1 _ (by decide)]; exact x12⟩))⟩
      · rw [x5, zu_MM, if_pos ⟨rfl, rfl⟩]
      · rw [x6, zu_MM, if_neg (fun z => absurd z.1 (by decide)), zu_MM, if_pos ⟨rfl, rfl⟩]
      · rw [x5, zu_MM, if_neg (fun z => absurd z.1 (by decide)), zu_MM, if_neg (fun z => absurd z.1 (by decide))]; exact i1.trans c0
      · rw [x5, zu_MM, if_neg (fun z => absurd z.1 (by decide)), zu_MM, if_neg (fun z => absurd z.1 (by decide))]; exact i4
      · rw [show kv.2 = nI c from ec]
        exact yb_mkV C2.1 hb hc hw x1 x2 x7 x11 W.1
      · rw [x5, zu_MM, if_neg (fun z => absurd z.1 (by decide)), zu_MM, if_pos ⟨rfl, rfl⟩]
      · rw [x6, zu_MM, if_pos ⟨rfl, rfl⟩]
/-- a sign before one -/
theorem yb_VN36 {kv : Int32 × Int32} {l : zt_T} (hv : zg_v 36 kv.2) (hA : zg_A 36 (zg_run 36 0 l) = true) (Ph : yb_Ph l) : yb_VN 36 kv l := by
  intro LC LM nb nf sz F h g i k up ku d D D' P Q y C nd hup mu hku h5 h33 hPs hd hD hD'
  obtain ⟨D, rfl⟩ : ∃ z, D = z + 1 := ⟨D - 1, by omega⟩
  obtain ⟨D', rfl⟩ : ∃ z, D' = z + 2 := ⟨D' - 2, by omega⟩
  obtain ⟨⟨hi, hk, hPi, hQk, hP, hQ⟩, ⟨c0, c1, c2, c3, c4⟩, cC, ⟨m0, m1, m2, m3⟩, cM⟩ := id nd
  obtain ⟨s, hs, es⟩ : ∃ s, s < 2 ∧ kv.2 = nI s := by
    rcases hv with z | ⟨x, x1, x2, _⟩
    · exact absurd z (by decide)
    · exact ⟨x, x1, x2⟩
  rcases yb_kids (D := D) (D' := D') C nd (.inr (.inr rfl)) Ph hPs hd (by omega) (by omega) with ⟨h', g', e1, e2, e3, e4, e5⟩ | ⟨h2, g2, e1, e2, O, A, n1, n2⟩
  · exact ⟨h', g', e1, yb_lk0 hk (km := 36) (by decide) (by decide) m0 e2, .inl ⟨e3, e4, e5⟩⟩
  · obtain ⟨c', kvc, o, lc, el, hcE⟩ := yb_g1 (.inr rfl) hA
    have A' := A
    rw [el] at A'
    obtain ⟨a, ka, t, a1, a2, a3, b1, b2, b3, t1, t2, t3, _⟩ := yb_first hcE A'
    rw [if_neg (by decide)] at m2
    obtain ⟨i1, i2, i3, i4⟩ := O.2.2.1 i hPi
    have ge : ∀ z, ¬ z ∈ [100, 101, 102] → g2.2.1 z = g.2.1 z := fun z hz => O.2.1.2.1 z hz
    have he : ∀ z, ¬ z ∈ [13, 14, 16, 17] → h2.2.1 z = h.2.1 z := fun z hz => O.1.2.1 z hz
    have nai : ¬ a = i := fun z => hPi (by rw [← z]; exact a1)
    obtain ⟨h', g', v1, v2, v3⟩ := zv_oneE (p := kv.1) (a := a) (ka := ka) (ta := t) (s := s) n1 n2 hi hk hs (i3.trans (c2.trans es)) (by rw [he _ (by decide)]; exact c1) (i4.trans a3) a2 nai t2 t1 (by rw [ge _ (by decide)]; exact m0) (by rw [ge _ (by decide), m2, es]) (by rw [ge _ (by decide)]; exact m1 (by decide)) (by rw [ge _ (by decide)]; exact b3) b2 t3
    have el2 : f_Mo_lookAlone (D' + 2) g (nI k) = some g' := by rw [e2, v2]
    refine ⟨h', g', by rw [e1, zv_lv36 hi (i1.trans c0), v1], yb_lk0 hk (km := 36) (by decide) (by decide) m0 el2, ?_⟩
    rcases v3 with ⟨X, f1, f2⟩ | ⟨⟨eg, n0⟩, v3⟩
    · obtain ⟨φ, p, X⟩ := X
      have xn := zv_Xn X
      exact .inl ⟨⟨⟨φ, p, X⟩, zfr_trans (zfr_w O.1 (by decide) (by decide) (by decide)) f1, zfr_trans (zfr_w O.2.1 (by decide) (by decide) (by decide)) f2⟩, xn.1, xn.2⟩
    · right
      have tyM : (g'.2.1 100) k = nI t := by rw [eg, zu_MM, if_pos ⟨rfl, rfl⟩]
      rcases v3 with ⟨x1, x2⟩ | ⟨x1, x2⟩
      · have W : yb_out (fun j => j = i) (fun j => j = k) h2 g2 h' g' := by
          rw [x2, eg]
          exact yb_foW (yb_W5 _ (yb_W1 _ yb_out0))
        obtain ⟨w1, w2, w3, w4⟩ := W.2.2.1 a nai
        refine ⟨yb_fin C nd O A W ?_, (W.1.1 _ _ List.not_mem_nil).trans n1, (W.2.1.1 _ _ List.not_mem_nil).trans n2⟩
        refine .inr ⟨t, t1, ?_, tyM, .inr (.inr (.inr (.inr (.inr (.inr (.inr ⟨rfl, s, a, hs, es, a3, ⟨a1, fun z => by omega⟩, .inl ⟨?_, ?_, ?_⟩⟩))))))⟩
        · rw [x2, yb_foK.2.2, zu_MM, if_pos ⟨rfl, rfl⟩]
        · unfold zv_kc; rw [w1]; exact x1
        · rw [x2]; exact yb_foK.1
        · rw [w3, x2, yb_foK.2.1]
      · have W : yb_out (fun j => j = i) (fun j => j = k) h2 g2 h' g' := by
          rw [x2, eg]
          exact yb_W5 _ (yb_W1 _ yb_out0)
        obtain ⟨w1, w2, w3, w4⟩ := W.2.2.1 a nai
        refine ⟨yb_fin C nd O A W ?_, (W.1.1 _ _ List.not_mem_nil).trans n1, (W.2.1.1 _ _ List.not_mem_nil).trans n2⟩
        refine .inr ⟨t, t1, ?_, tyM, .inr (.inr (.inr (.inr (.inr (.inr (.inr ⟨rfl, s, a, hs, es, a3, ⟨a1, fun z => by omega⟩, .inr ⟨?_, ?_, ?_, ?_⟩⟩))))))⟩
        · rw [x2, zu_MM, if_pos ⟨rfl, rfl⟩]
        · unfold zv_kc; rw [w1]; exact x1
        · rw [x2, zu_MM, if_neg (fun z => absurd z.1 (by decide))]; exact i1.trans c0
        · rw [x2, zu_MM, if_neg (fun z => absurd z.1 (by decide))]; exact i3.trans c2
        · rw [x2, zu_MM, if_neg (fun z => absurd z.1 (by decide))]; exact i4
end
section
/-! The judge: an expression is visited: calls. -/
section YBJ
variable {LC LM : List (List Int32)} {nb nf sz : Nat} {F : Nat → Nat} {h g h2 g2 h' g' : zs_H} {P Q : Nat → Prop} {i k bb : Nat}
/-- the nodes of a forest, one after the other -/
theorem yb_mem {t : zt_T} {x x' : Int32} (A : yb_F F bb h g P Q t x x' (-1) (-1)) : x = -1 ∨ ∃ b, b < 32784 ∧ x = nI b ∧ P b ∧ ∃ t2 x2, yb_F F bb h g P Q t2 ((h.2.1 18) b) x2 (-1) (-1) := by
  cases t with
  | leaf => exact .inl A.1
  | inner kd kv o l r =>
    obtain ⟨a, ka, xl, ⟨a1, a2, a3⟩, _, _, _, B⟩ := A
    exact .inr ⟨a, a2, a3, a1, r, _, B⟩
theorem yb_mem3 {t : zt_T} {x x' x5 x6 : Int32} {a : Nat} (A : yb_F F bb h g P Q t x x' (-1) (-1)) (ea : x = nI a) (ha : a < 32784) (e5 : x5 = (h.2.1 18) a) (e6 : x6 = (if x5 = -1 then -1 else (h.2.1 18) x5.toNatClampNeg)) : yb_3 h P x a x5 x6 := by
  rcases yb_mem A with z | ⟨b, b1, b2, b3, t2, x2, B⟩
  · rw [ea] at z; exact absurd z (zc_m1 (by omega))
  · have eb : b = a := by rw [ea] at b2; exact ((nI_eq (by omega) (by omega)).mp b2).symm
    subst eb
    rw [← e5] at B
    refine ⟨ea, b3, e5, e6, ?_⟩
    rcases yb_mem B with z | ⟨c, c1, c2, c3, t3, x3, D⟩
    · exact ⟨.inl z, .inl (by rw [e6, if_pos z])⟩
    · have n5 : ¬ x5 = -1 := by rw [c2]; exact zc_m1 (by omega)
      have e6' : x6 = (h.2.1 18) c := by rw [e6, if_neg n5, c2, nI_clamp (show c < 2147483648 by omega)]
      refine ⟨.inr ⟨c, c1, c2, c3⟩, ?_⟩
      rw [← e6'] at D
      rcases yb_mem D with z | ⟨d, d1, d2, d3, _⟩
      · exact .inl z
      · exact .inr ⟨d, d1, d2, d3⟩
/-- the last one of three -/
theorem yb_last3 {l : zt_T} {up x y : Int32} {t1 t2 t3 : Nat} (hQ : ∀ j, Q j → j < 33500) (M : zt_M LC LM g l Q up x y) (A : ya_M g [t1, t2, t3] x) : ∃ kc, kc < 33500 ∧ y = nI kc ∧ (g.2.1 100) kc = nI t3 := by
  obtain ⟨k1, a1, a2, a3, _, k2, b1, b2, b3, _, k3, c1, c2, c3, _, c5⟩ := A
  have n1 : ¬ x = -1 := by rw [a2]; exact zc_m1 (by omega)
  have n2 : ¬ (g.2.1 78) k1 = -1 := by rw [b2]; exact zc_m1 (by omega)
  have n3 : ¬ (g.2.1 78) k2 = -1 := by rw [c2]; exact zc_m1 (by omega)
  have c5' : (g.2.1 78) k3 = -1 := c5
  cases l with
  | leaf => exact absurd (show x = -1 ∧ y = -1 from M).1 n1
  | inner c kv o lc r =>
    obtain ⟨d, Q1, Q2, z2, e1, e2, e3, _, _, _, _, _, e8, _, e10, e11⟩ := zv_hM M
    have hd1 : d = k1 := by rw [a2] at e1; exact ((nI_eq (by omega) (by omega)).mp e1).symm
    subst hd1
    cases r with
    | leaf => exact absurd (show (g.2.1 78) d = -1 ∧ z2 = -1 from e10).1 n2
    | inner c' kv' o' lc' r' =>
      obtain ⟨d', Q3, Q4, z3, f1, f2, f3, _, _, _, _, _, f8, _, f10, f11⟩ := zv_hM e10
      have hd2 : d' = k2 := by rw [b2] at f1; exact ((nI_eq (by omega) (by omega)).mp f1).symm
      subst hd2
      cases r' with
      | leaf => exact absurd (show (g.2.1 78) d' = -1 ∧ z3 = -1 from f10).1 n3
      | inner c'' kv'' o'' lc'' r'' =>
        obtain ⟨d'', Q5, Q6, z4, g1, g2, g3, _, _, _, _, _, g8, _, g10, g11⟩ := zv_hM f10
        have hd3 : d'' = k3 := by rw [c2] at g1; exact ((nI_eq (by omega) (by omega)).mp g1).symm
        subst hd3
        rw [c5'] at g10
        rcases zt_last r'' Q6 up _ _ g10 with ⟨_, _, w⟩ | ⟨i1, _, _, w1, w2, _⟩
        · rw [w, if_pos rfl] at g11
          have y3 : z3 = nI d'' := g11.trans c2
          rw [y3, if_neg (zc_m1 (by omega))] at f11
          rw [f11, if_neg (zc_m1 (by omega))] at e11
          exact ⟨d'', c1, e11, c3⟩
        · exact absurd w2.symm (zc_m1 (by omega))
end YBJ
section YBJ2
variable {LC LM : List (List Int32)} {nb nf sz : Nat} {F : Nat → Nat} {h g h2 g2 h' g' : zs_H} {P Q : Nat → Prop} {i k bb : Nat}
theorem yb_Wfr (C2 : yb_cx LC LM nb nf sz F h2 g2) (hPi : ¬ P i) (hQk : ¬ Q k) (hP : ∀ j, P j → j < 32784) (W : yb_out (fun j => j = i) (fun j => j = k) h2 g2 h' g') : yb_fr F (nb - 1) P Q h2 g2 h' g' := by
  refine ⟨fun j hj => ?_, fun j hj => ?_, fun j _ => ⟨?_, ?_, ?_, ?_, ?_⟩, fun b _ => ?_, yb_bF C2⟩
  · obtain ⟨w1, w2, w3, w4⟩ := W.2.2.1 j (fun z => hPi (by rw [← z]; exact hj))
    exact ⟨hP j hj, w1, w2, w3, w4, by rw [W.1.2.1 _ (by decide)]⟩
  · obtain ⟨w1, w2, w3⟩ := W.2.2.2 j (fun z => hQk (by rw [← z]; exact hj))
    exact ⟨w1, fun _ _ => w2, fun _ => w3, by rw [W.2.1.2.1 _ (by decide)], by rw [W.2.1.2.1 _ (by decide)], by rw [W.2.1.2.1 _ (by decide)]⟩
  · rw [W.1.2.1 _ (by decide)]
  · rw [W.1.2.1 _ (by decide)]
  · rw [W.1.2.1 _ (by decide)]
  · rw [W.1.2.1 _ (by decide)]
  · rw [W.1.2.1 _ (by decide)]
  · rw [W.1.2.1 _ (by decide)]
theorem yb_fitP : ∀ (ws : List Nat) (t : zt_T) (x x' : Int32), yb_F F bb h g P Q t x x' (-1) (-1) → ya_fit h ws x → yb_fit h P ws x := by
  intro ws
  induction ws with
  | nil => intro t x x' _ _; trivial
  | cons w ws ih =>
    intro t x x' A ⟨a, a1, a2, a3, a4⟩
    rcases yb_mem A with z | ⟨b, b1, b2, b3, t2, x2, B⟩
    · rw [a1] at z; exact absurd z (zc_m1 (by omega))
    · have eb : b = a := by rw [a1] at b2; exact ((nI_eq (by omega) (by omega)).mp b2).symm
      subst eb
      exact ⟨b, a1, a2, b3, a3, ih t2 _ x2 B a4⟩
end YBJ2
/-- a call -/
theorem yb_VN34 {kv : Int32 × Int32} {l : zt_T} (hA : zg_A 34 (zg_run 34 0 l) = true) (Ph : yb_Ph l) : yb_VN 34 kv l := by
  intro LC LM nb nf sz F h g i k up ku d D D' P Q y C nd hup mu hku h5 h33 hPs hd hD hD'
  obtain ⟨D, rfl⟩ : ∃ z, D = z + 1 := ⟨D - 1, by omega⟩
  obtain ⟨D', rfl⟩ : ∃ z, D' = z + 2 := ⟨D' - 2, by omega⟩
  obtain ⟨⟨hi, hk, hPi, hQk, hP, hQ⟩, ⟨c0, c1, c2, c3, c4⟩, cC, ⟨m0, m1, m2, m3⟩, cM⟩ := id nd
  rcases yb_kids (D := D) (D' := D') C nd (.inr (.inl rfl)) Ph hPs hd (by omega) (by omega) with ⟨h', g', e1, e2, e3, e4, e5⟩ | ⟨h2, g2, e1, e2, O, A, n1, n2⟩
  · exact ⟨h', g', e1, yb_lk0 hk (km := 34) (by decide) (by decide) m0 e2, .inl ⟨e3, e4, e5⟩⟩
  · rw [if_pos (by decide)] at m2
    obtain ⟨c, hc, ec, hw⟩ := yb_nr C m2
    have C2 := yb_cxf C O.1 O.2.1
    obtain ⟨i1, i2, i3, i4⟩ := O.2.2.1 i hPi
    have ge : ∀ z, ¬ z ∈ [100, 101, 102] → g2.2.1 z = g.2.1 z := fun z hz => O.2.1.2.1 z hz
    have he : ∀ z, ¬ z ∈ [13, 14, 16, 17] → h2.2.1 z = h.2.1 z := fun z hz => O.1.2.1 z hz
    have hb := C.2.2.1
    have hB3 : nb ≤ 568 := C.1.2.1.1.2.2
    obtain ⟨ts, l1, l2, l3⟩ := yb_chain (i0 := i) (fun j hj z => hPi (by rw [← z]; exact hj)) l _ _ (yb_top38 l (yb_g34 hA)) A
    have hln := yb_ln nd hPs
    have hsz2 := C.2.2.2.2
    have l2' : ya_C h2 i ts ((h2.2.1 17) i) := by rw [i4]; exact l2
    have l3' : ya_M g2 ts ((g2.2.1 76) k) := by rw [ge _ (by decide)]; exact l3
    have ck : (h2.2.1 13) i = 34 := i1.trans c0
    have mk : (g2.2.1 72) k = 34 := by rw [ge _ (by decide)]; exact m0
    have cp : (h2.2.1 15) i = kv.1 := by rw [he _ (by decide)]; exact c1
    have mp : (g2.2.1 73) k = kv.1 := by rw [ge _ (by decide)]; exact m1 (by decide)
    have mv : (g2.2.1 74) k = (g.2.1 74) k := by rw [ge _ (by decide)]
    by_cases hcF : 50 ≤ c ∧ c < 60
    · obtain ⟨h', g', v1, v2, v3⟩ := zv_stdE (p := kv.1) (sz := sz) C2.1 hb hi hk hc hw C2.2.2.2.1 (by omega) (by omega) hcF (i3.trans (c2.trans ec)) cp l2' mk mv mp l3' (fun t1 t2 t3 et => by
        rw [et] at l3'
        have := yb_last3 hQ (yb_keepM O.2.1 cM) (by rw [← ge 76 (by decide)]; exact l3')
        rw [ge 77 (by decide)]
        exact this)
      refine ⟨h', g', by rw [e1, zv_lv34 hi ck, v1], yb_lk0 hk (km := 34) (by decide) (by decide) m0 (by rw [e2, v2]), ?_⟩
      rcases v3 with ⟨X, f1, f2⟩ | ⟨s, ty, a, x5, x6, s1, s2, s3, s4, ⟨p1, p2, p3, p4, p5, p6⟩, eg, v3⟩
      · obtain ⟨φ, p, X⟩ := X
        have xn := zv_Xn X
        exact .inl ⟨⟨⟨φ, p, X⟩, zfr_trans (zfr_w O.1 (by decide) (by decide) (by decide)) f1, zfr_trans (zfr_w O.2.1 (by decide) (by decide) (by decide)) f2⟩, xn.1, xn.2⟩
      · right
        have tyM : (g'.2.1 100) k = nI ty := by rw [eg, zu_MM, if_pos ⟨rfl, rfl⟩]
        have meM : (g'.2.1 102) k = nI (100 + s) := by rw [eg, zu_MM, if_neg (fun z => absurd z.1 (by decide)), zu_MM, if_pos ⟨rfl, rfl⟩]
        have ec' : kv.2 = nI (50 + s) := by rw [s1]; exact ec
        rw [i4] at p1
        have hy3 : yb_3 h2 P ((h.2.1 17) i) a x5 x6 := yb_mem3 A p1 p2 p4 p5
        have W2 : yb_out (fun j => j = i) (fun j => j = k) h2 g2 (ya_h2 h2 i s ty) g' := by
          rw [eg]
          exact yb_W5 _ (yb_W7 _ (yb_W1 _ (yb_W2 _ (yb_W3 _ yb_out0))))
        -- the arguments stay
        have stay : ∀ W : yb_out (fun j => j = i) (fun j => j = k) h2 g2 h' g', yb_3 h' P ((h.2.1 17) i) a x5 x6 ∧ ((ya_con h' (nI a) ∧ ya_con h' x5 ∧ ya_con h' x6) ↔ (ya_con h2 (nI a) ∧ ya_con h2 x5 ∧ ya_con h2 x6)) ∧ (h'.2.1 16) a = (h2.2.1 16) a ∧ ya_val h' x5 = ya_val h2 x5 ∧ ya_val h' x6 = ya_val h2 x6 := by
          intro W
          have fr : yb_fr F (nb - 1) P Q h2 g2 h' g' := by
            refine ⟨fun j hj => ?_, fun j hj => ?_, fun j _ => ⟨?_, ?_, ?_, ?_, ?_⟩, fun b _ => ?_, yb_bF C2⟩
            · obtain ⟨w1, w2, w3, w4⟩ := W.2.2.1 j (fun z => hPi (by rw [← z]; exact hj))
              exact ⟨hP j hj, w1, w2, w3, w4, by rw [W.1.2.1 _ (by decide)]⟩
            · obtain ⟨w1, w2, w3⟩ := W.2.2.2 j (fun z => hQk (by rw [← z]; exact hj))
              exact ⟨w1, fun _ _ => w2, fun _ => w3, by rw [W.2.1.2.1 _ (by decide)], by rw [W.2.1.2.1 _ (by decide)], by rw [W.2.1.2.1 _ (by decide)]⟩
            · rw [W.1.2.1 _ (by decide)]
            · rw [W.1.2.1 _ (by decide)]
            · rw [W.1.2.1 _ (by decide)]
            · rw [W.1.2.1 _ (by decide)]
            · rw [W.1.2.1 _ (by decide)]
            · rw [W.1.2.1 _ (by decide)]
          obtain ⟨y1, y2, y3, y4, y5, y6⟩ := hy3
          have ca := yb_conf fr (x := nI a) (.inr ⟨a, p2, rfl, y2⟩)
          have c5 := yb_conf fr y5
          have c6 := yb_conf fr y6
          refine ⟨⟨y1, y2, by rw [(fr.1 a y2).2.2.2.2.2]; exact y3, by rw [W.1.2.1 _ (by decide)]; exact y4, y5, y6⟩, ?_, (fr.1 a y2).2.2.2.1, c5.2, c6.2⟩
          rw [ca.1, c5.1, c6.1]
        rcases v3 with ⟨v, x1, x2, x3⟩ | ⟨x1, x3⟩
        · have W : yb_out (fun j => j = i) (fun j => j = k) h2 g2 h' g' := by rw [x3]; exact yb_foW W2
          obtain ⟨w1, w2, w3, w4, w5⟩ := stay W
          refine ⟨yb_fin C nd O A W ?_, (W.1.1 _ _ List.not_mem_nil).trans n1, (W.2.1.1 _ _ List.not_mem_nil).trans n2⟩
          refine .inr ⟨ty, s3, ?_, tyM, .inr (.inr (.inr (.inr (.inr (.inl ⟨rfl, s, a, x5, x6, s2, ec', ⟨by omega, fun q => ((W.2.2.1 a p3).2.1).trans (p6.1 q), yb_stf (yb_Wfr C2 hPi hQk hP W) hy3.2.2.2.2.1 hy3.2.2.2.2.2 p6.2⟩, meM, w1, .inl ⟨w2.mpr x1, ?_, ?_⟩⟩)))))⟩
          · rw [x3, yb_foK.2.2]
            unfold ya_h2
            rw [zu_MM, if_pos ⟨rfl, rfl⟩]
          · rw [x3]; exact yb_foK.1
          · rw [w3, w4, w5, x2, x3, yb_foK.2.1]
        · have W : yb_out (fun j => j = i) (fun j => j = k) h2 g2 h' g' := by rw [x3]; exact W2
          obtain ⟨w1, w2, w3, w4, w5⟩ := stay W
          refine ⟨yb_fin C nd O A W ?_, (W.1.1 _ _ List.not_mem_nil).trans n1, (W.2.1.1 _ _ List.not_mem_nil).trans n2⟩
          refine .inr ⟨ty, s3, ?_, tyM, .inr (.inr (.inr (.inr (.inr (.inl ⟨rfl, s, a, x5, x6, s2, ec', ⟨by omega, fun q => ((W.2.2.1 a p3).2.1).trans (p6.1 q), yb_stf (yb_Wfr C2 hPi hQk hP W) hy3.2.2.2.2.1 hy3.2.2.2.2.2 p6.2⟩, meM, w1, .inr ⟨mt w2.mp x1, ?_, ?_, ?_⟩⟩)))))⟩
          · rw [x3]; unfold ya_h2; rw [zu_MM, if_pos ⟨rfl, rfl⟩]
          · rw [x3]; unfold ya_h2; rw [zu_MM, if_neg (fun z => absurd z.1 (by decide)), zu_MM, if_neg (fun z => absurd z.1 (by decide)), zu_MM, if_pos ⟨rfl, rfl⟩]
          · rw [x3]; unfold ya_h2; rw [zu_MM, if_neg (fun z => absurd z.1 (by decide)), zu_MM, if_pos ⟨rfl, rfl⟩]
          · rw [x3]; unfold ya_h2; rw [zu_MM, if_neg (fun z => absurd z.1 (by decide)), zu_MM, if_neg (fun z => absurd z.1 (by decide)), zu_MM, if_neg (fun z => absurd z.1 (by decide))]; exact i4
    · obtain ⟨h', g', v1, v2, v3⟩ := zv_ownE (p := kv.1) (sz := sz) C2.1 C2.2.1 hb hi hk hc hw C2.2.2.2.1 (by omega) (by omega) hcF (i3.trans (c2.trans ec)) cp l2' mk mv mp l3'
      refine ⟨h', g', by rw [e1, zv_lv34 hi ck, v1], yb_lk0 hk (km := 34) (by decide) (by decide) m0 (by rw [e2, v2]), ?_⟩
      rcases v3 with ⟨X, f1, f2⟩ | ⟨b, ty, b1, b2, ⟨b3, b3a, b3b, b3c⟩, b4, x1, x2, b5, b6⟩
      · obtain ⟨φ, p, X⟩ := X
        have xn := zv_Xn X
        exact .inl ⟨⟨⟨φ, p, X⟩, zfr_trans (zfr_w O.1 (by decide) (by decide) (by decide)) f1, zfr_trans (zfr_w O.2.1 (by decide) (by decide) (by decide)) f2⟩, xn.1, xn.2⟩
      · right
        have W : yb_out (fun j => j = i) (fun j => j = k) h2 g2 h' g' := by
          rw [x1, x2]
          exact yb_W5 _ (yb_W7 _ (yb_W1 _ (yb_W2 _ yb_out0)))
        refine ⟨yb_fin C nd O A W ?_, (W.1.1 _ _ List.not_mem_nil).trans n1, (W.2.1.1 _ _ List.not_mem_nil).trans n2⟩
        refine .inr ⟨ty, b2, ?_, ?_, .inr (.inr (.inr (.inr (.inl ⟨rfl, ?_, ?_, b, b1, ?_, ?_, ?_, ?_, ?_⟩))))⟩
        · rw [x1, zu_MM, if_pos ⟨rfl, rfl⟩]
        · rw [x2, zu_MM, if_pos ⟨rfl, rfl⟩]
        · rw [x1, zu_MM, if_neg (fun z => absurd z.1 (by decide)), zu_MM, if_neg (fun z => absurd z.1 (by decide))]; exact ck
        · rw [x1, zu_MM, if_neg (fun z => absurd z.1 (by decide)), zu_MM, if_neg (fun z => absurd z.1 (by decide))]; exact i4
        · rw [x1, zu_MM, if_neg (fun z => absurd z.1 (by decide)), zu_MM, if_pos ⟨rfl, rfl⟩]
        · rw [x2, zu_MM, if_neg (fun z => absurd z.1 (by decide)), zu_MM, if_pos ⟨rfl, rfl⟩]
        · rw [← l1, b4, yb_ilf _ _ (fun j _ _ => by rw [W.1.2.1 _ (by decide)])]
        · rw [W.1.2.1 _ (by decide)]; exact b3
        · have eil : zv_il h' (F (b + 1) - F b) (F b) = zv_il h2 (F (b + 1) - F b) (F b) := yb_ilf _ _ (fun j _ _ => by rw [W.1.2.1 _ (by decide)])
          have bF := yb_bF C2 b b1
          refine ⟨(C2.1.2.1.2.2.2.1 b (by omega)).1, c, ec, hc, hcF, b3a, by rw [W.1.2.1 _ (by decide)]; exact b3b, ?_⟩
          rw [eil]
          rw [i4] at b3c
          refine yb_fitf (yb_Wfr C2 hPi hQk hP W) _ _ (fun w hw => ?_) (yb_fitP _ l _ _ A b3c)
          obtain ⟨_, w2, _⟩ := zv_ilm h2 _ _ _ hw
          omega
end
section
/-! The judge: an expression is visited: outputs, signs between two; all expressions. -/
section YBM
variable {LC LM : List (List Int32)} {nb nf sz : Nat} {F : Nat → Nat} {h1 g1 h g h' g' : zs_H} {P Q : Nat → Prop}
theorem yb_stepL {i k ku d D D' c : Nat} {l lc r : zt_T} {kv : Int32 × Int32} {o : Unit} {x x' : Int32} (C : yb_cx LC LM nb nf sz F h1 g1) (hk : k < 33500) (hP : ∀ j, P j → j < 32784) (hPs : ∀ j, P j → j < sz) (hQ : ∀ j, Q j → j < 33500) (m1 : (g1.2.1 72) k = nI ku) (hku : ku < 100) (h5 : ¬ ku = 5) (h33 : ¬ ku = 33) (hd : d + zg_d l ≤ 240) (hD : zg_d l ≤ D) (hD' : 2 * zg_d l ≤ D') (S : yb_St LC LM nb F i k l P Q h1 g1 (.inner c kv o lc r) h g x x') :
    ∃ a b Q1, x = nI a ∧ a < 32784 ∧ x' = nI b ∧ b < 33500 ∧ (h.1 38 3) = 0 ∧ (g.1 68 29) = 0 ∧ (h.1 12 6) = nI sz ∧ (P a ∧ Q b ∧ (∀ j, Q1 j → Q j) ∧ ¬ Q1 b ∧ (g.2.1 75) b = nI k) ∧ ∃ h' g', f_Jd_visit D h (nI a) (nI (d + 1)) = some h' ∧ yb_lk D' Q1 (zg_d lc) g b g' ∧ ((zv_Fb h1 g1 h' g' ∧ ¬ (h'.1 38 3) = 0 ∧ ¬ (g'.1 68 29) = 0) ∨ (yb_St LC LM nb F i k l P Q h1 g1 r h' g' ((h'.2.1 18) a) ((g'.2.1 78) b) ∧ (h'.1 38 3) = 0 ∧ (g'.1 68 29) = 0 ∧ yb_out P Q h g h' g')) := by
  obtain ⟨w, Pw, Qw, Pu, Qu, yu, yu', e0, ⟨sC, sM⟩, ⟨p1, p2, p3, p4⟩, A, ty, O, ⟨⟨cE, VN⟩, Ph⟩, zd, J1, J2⟩ := S
  have C2 : yb_cx LC LM nb nf sz F h g := yb_cxf C O.1 O.2.1
  have zd' : max (zg_d lc + 1) (zg_d r) ≤ zg_d l := Nat.le_trans zg_d1 zd
  obtain ⟨a, P1, P2, z1, z2, ea, a1, a2, a3, a4, a5, a6, a7, a8, a9, a10⟩ := zv_hC sC
  obtain ⟨b, Q1, Q2, z3, eb, b1, b2, b3, b4, b5, b6, b7, b8, b9, b10, b11⟩ := zv_hM sM
  have ha := hP a (p1 a a2)
  have hbb := hQ b (p2 b b2)
  have nd : yb_nd LC LM h g c kv lc a b k P1 Q1 z1 := ⟨⟨ha, hbb, fun z => (a6 a z).2.1 rfl, fun z => (b7 b z).2.1 rfl, fun j hj => hP j (p1 j (a6 j hj).1), fun j hj => hQ j (p2 j (b7 j hj).1)⟩, ⟨a3, a4, a5, ty a a2, fun j hj => ty j (a6 j hj).1⟩, a8, ⟨b3, b4, b5, b6⟩, b9⟩
  obtain ⟨h', g', v1, v2, v3⟩ := VN LC LM nb nf sz F h g a b k ku (d + 1) D D' P1 Q1 z1 C2 nd hk (by rw [O.2.1.2.1 _ (by decide)]; exact m1) hku h5 h33 (fun j hj => hPs j (p1 j (a6 j hj).1)) (by omega) (by omega) (by omega)
  refine ⟨a, b, Q1, ea, ha, eb, hbb, J1, J2, C2.2.2.2.1, ⟨p1 a a2, p2 b b2, fun j hj => p2 j (b7 j hj).1, fun z => (b7 b z).2.1 rfl, b6⟩, h', g', v1, v2, ?_⟩
  rcases v3 with ⟨⟨X, f1, f2⟩, n1, n2⟩ | ⟨⟨O2, B⟩, n1, n2⟩
  · exact .inl ⟨⟨X, zfr_trans (zfr_w O.1 (by decide) (by decide) (by decide)) f1, zfr_trans (zfr_w O.2.1 (by decide) (by decide) (by decide)) f2⟩, n1, n2⟩
  · right
    have nx : (h'.2.1 18) a = (h.2.1 18) a := by rw [O2.1.2.1 _ (by decide)]
    have nb' : (g'.2.1 78) b = (g.2.1 78) b := by rw [O2.2.1.2.1 _ (by decide)]
    refine ⟨?_, n1, n2, yb_outm O2 (fun j z => z.elim (fun z => p1 j (a6 j z).1) (fun z => by rw [z]; exact p1 a a2)) (fun j z => z.elim (fun z => p2 j (b7 j z).1) (fun z => by rw [z]; exact p2 b b2))⟩
    refine ⟨zt_ap w (.inner c kv o lc .leaf), fun j => Pw j ∨ (P1 j ∨ j = a), fun j => Qw j ∨ (Q1 j ∨ j = b), P2, Q2, z2, z3, ?_, ⟨?_, ?_⟩, ⟨fun j hj => p1 j (a7 j hj).1, fun j hj => p2 j (b8 j hj).1, fun j hj => ?_, fun j hj => ?_⟩, ?_, fun j hj => ?_, ?_, Ph, by omega, n1, n2⟩
    · rw [zt_ap_as]; exact e0
    · rw [nx]
      exact yb_keepC O2 (fun j hj z => z.elim (fun z => (a6 j z).2.2 hj) (fun z => (a7 j hj).2 z)) a9
    · rw [nb']
      exact yb_keepM O2.2.1 b10
    · rcases hj with z | z | z
      · exact ⟨(p3 j z).1, fun u => (p3 j z).2 (a7 j u).1⟩
      · exact ⟨p1 j (a6 j z).1, (a6 j z).2.2⟩
      · exact ⟨by rw [z]; exact p1 a a2, fun u => (a7 j u).2 z⟩
    · rcases hj with z | z | z
      · exact ⟨(p4 j z).1, fun u => (p4 j z).2 (b8 j u).1⟩
      · exact ⟨p2 j (b7 j z).1, (b7 j z).2.2⟩
      · exact ⟨by rw [z]; exact p2 b b2, fun u => (b8 j u).2 z⟩
    · have A' := yb_keep C2 O2 (fun j hj => ⟨hP j (p3 j hj).1, fun z => (p3 j hj).2 (z.elim (fun z => (a6 j z).1) (fun z => by rw [z]; exact a2))⟩) (fun j hj z => (p4 j hj).2 (z.elim (fun z => (b7 j z).1) (fun z => by rw [z]; exact b2))) A
      refine yb_ap w _ _ _ _ _ _ _ (yb_Fm (fun _ z => .inl z) (fun _ z => .inl z) _ _ _ _ _ A') ?_
      rw [ea, eb]
      exact yb_Fm (fun _ z => .inr z) (fun _ z => .inr z) _ _ _ _ _ B
    · obtain ⟨t1, t2, _⟩ := O2.2.2.1 j (fun z => z.elim (fun z => (a6 j z).2.2 hj) (fun z => (a7 j hj).2 z))
      rw [t2]; exact ty j (a7 j hj).1
    · refine yb_outm (yb_outt O O2) (fun j z => z.elim id (fun z => z.elim (fun z => p1 j (a6 j z).1) (fun z => by rw [z]; exact p1 a a2))) (fun j z => z.elim id (fun z => z.elim (fun z => p2 j (b7 j z).1) (fun z => by rw [z]; exact p2 b b2)))
theorem yb_lkm {D' sp sp' k : Nat} (hs : sp ≤ sp') (H : yb_lk D' Q sp g k g') : yb_lk D' Q sp' g k g' := by
  intro n N hn hQ hN
  obtain ⟨a, b⟩ := H n N hn hQ (by omega)
  refine ⟨a, fun z => ?_⟩
  obtain ⟨N2, b1, b2⟩ := b z
  exact ⟨N2, by omega, b2⟩
theorem yb_last2 {up x y : Int32} {c c2 : Nat} {kv kv2 : Int32 × Int32} {o o2 : Unit} {lc lc2 : zt_T} {b : Nat} (hb : b < 2147483648) (M : zt_M LC LM g (.inner c kv o lc (.inner c2 kv2 o2 lc2 .leaf)) Q up x y) (e : x = nI b) : y = (g.2.1 78) b ∧ ¬ y = -1 := by
  obtain ⟨d, Q1, Q2, z2, e1, e2, e3, _, _, _, _, _, e8, _, e10, e11⟩ := zv_hM M
  have hd : d = b := by rw [e] at e1; exact ((nI_eq hb (by omega)).mp e1).symm
  subst hd
  obtain ⟨d', Q3, Q4, z3, f1, f2, f3, _, _, _, _, _, f8, _, f10, f11⟩ := zv_hM e10
  have f10' : (g.2.1 78) d' = -1 ∧ z3 = -1 := f10
  rw [f10'.2, if_pos rfl] at f11
  have n2 : ¬ z2 = -1 := by rw [f11, f1]; exact zc_m1 (by omega)
  rw [if_neg n2] at e11
  exact ⟨e11.trans f11, by rw [e11]; exact n2⟩
end YBM
/-- an output -/
theorem yb_VN33 {kv : Int32 × Int32} {l : zt_T} (hok : zg_ok l) (hA : zg_A 33 (zg_run 33 0 l) = true) : yb_VN 33 kv l := by
  intro LC LM nb nf sz F h g i k up ku d D D' P Q y C nd hup mu hku h5 h33 hPs hd hD hD'
  obtain ⟨kvf, o, el⟩ := yb_g33 hok hA
  subst el
  have hd1 : zg_d (.inner 38 kvf o .leaf .leaf) = 1 := rfl
  rw [hd1] at hd hD hD'
  obtain ⟨D, rfl⟩ : ∃ z, D = z + 1 + 1 := ⟨D - 2, by omega⟩
  obtain ⟨D', rfl⟩ : ∃ z, D' = z + 1 + 1 + 1 := ⟨D' - 3, by omega⟩
  obtain ⟨⟨hi, hk, hPi, hQk, hP, hQ⟩, ⟨c0, c1, c2, c3, c4⟩, cC, ⟨m0, m1, m2, m3⟩, cM⟩ := id nd
  obtain ⟨I, si, hb, hsz, hs2⟩ := id C
  have J1 : (h.1 38 3) = 0 := I.2.2.2.2.2.2.2.1
  have J2 : (g.1 68 29) = 0 := I.2.2.2.2.2.2.2.2
  obtain ⟨a, P1, P2, z1, z2, ea, a1, a2, a3, a4, a5, a6, a7, a8, a9, a10⟩ := zv_hC cC
  obtain ⟨b, Q1, Q2, z3, eb, b1, b2, b3, b4, b5, b6, b7, b8, b9, b10, b11⟩ := zv_hM cM
  have ha := hP a a2
  have hbb := hQ b b2
  have a8' : (h.2.1 17) a = -1 := (show (h.2.1 17) a = -1 ∧ z1 = -1 from a8).1
  have a9' : (h.2.1 18) a = -1 := (show (h.2.1 18) a = -1 ∧ z2 = -1 from a9).1
  have b9' : (g.2.1 76) b = -1 := (show (g.2.1 76) b = -1 ∧ (g.2.1 77) b = -1 from b9).1
  have b10' : (g.2.1 78) b = -1 := (show (g.2.1 78) b = -1 ∧ z3 = -1 from b10).1
  have hzz : zF = 18446744073709551615 + 1 := rfl
  have hzz2 : zF = 18446744073709551614 + 1 + 1 := rfl
  -- the field is visited
  have vf : f_Jd_visit (D + 1) h (nI a) (nI (d + 1)) = some h := by
    rw [zv_vC (by omega) ha (zv_ent0 (kd := 38) ha (by decide) a3 (by decide)), a8', hzz, zv_enC]
    unfold f_Jd_visit_74
    rw [if_pos J1, Option.bind_fun_some, zv_lv38 ha a3]
  have lf : f_Mo_look (D' + 1 + 1) g (nI b) = some g := by
    rw [zv_lM (kd := 6) hbb (by decide) (by decide) b3, zv_aM (kd := 6) hbb (by decide) (by decide) b3, b9', hzz, zv_enM, zv_54B (km := 6) (by decide) J2]
    unfold f_Mo_lookAtBlocks f_Mo_lookAtName
    simp (config := { decide := true }) only [if_pos (zi_in (show b < 2147483648 by omega) hbb), nI_clamp (show b < 2147483648 by omega), show (g.2.1 72) b = 6 from b3, if_false, if_true, Option.bind_fun_some, b6, if_pos (zi_in (show k < 2147483648 by omega) hk), nI_clamp (show k < 2147483648 by omega), show (g.2.1 72) k = 33 from m0]
  have eC : f_Jd_visit (D + 1 + 1) h (nI i) (nI d) = f_Jd_judgeVariable h (nI i) := by
    rw [zv_vC (by omega) hi (zv_ent0 (kd := 33) hi (by decide) c0 (by decide)), ea, hzz2, zv_stC (sz := sz) (by have := hPs a a2; omega) (by omega) ha J1 hsz vf, a9', zv_enC]
    unfold f_Jd_visit_74
    rw [if_pos J1, Option.bind_fun_some, zv_lv33 hi c0]
  have eM : f_Mo_lookAlone (D' + 1 + 1 + 1) g (nI k) = f_Mo_lookAtExpressions g (nI k) := by
    rw [zv_aM (kd := 33) hk (by decide) (by decide) m0, eb, hzz2, zv_stM hbb J2 lf, b10', zv_enM, zv_54E (km := 33) (by decide) (by decide) J2]
  rw [if_pos (by decide)] at m2 b5
  obtain ⟨c, hc, ec, hw⟩ := yb_nr C m2
  obtain ⟨cf, hcf, ecf, hwf⟩ := yb_nr C b5
  have nai : ¬ a = i := fun z => hPi (by rw [← z]; exact a2)
  have nbk : ¬ b = k := fun z => hQk (by rw [← z]; exact b2)
  obtain ⟨h', g', v1, v2, v3⟩ := zv_outE (p := kv.1) (a := a) (ka := b) (cf := cf) I si hb hi hk hc hw c0 (c2.trans ec) c1 ea ha nai hcf hwf (a5.trans ecf) m0 rfl (m1 (by decide)) eb hbb rfl
  refine ⟨h', g', by rw [eC, v1], yb_lk0 hk (km := 33) (by decide) (by decide) m0 (by rw [eM, v2]), ?_⟩
  rcases v3 with X | ⟨u, ty, t0, x, off, x1, x2, x3, x4, x5, x6, x7, x8, x9, x10⟩
  · obtain ⟨⟨φ, p, X⟩, f1, f2⟩ := X
    have xn := zv_Xn X
    exact .inl ⟨⟨⟨φ, p, X⟩, f1, f2⟩, xn.1, xn.2⟩
  · right
    have f1 : zfr [] [13, 14, 16, 17] [] h h' := by rw [x4]; exact zfr_M (by decide) (zfr_M (by decide) (zfr_M (by decide) (zfr_M (by decide) zfr_rfl)))
    have f2 : zfr [] [100, 101, 102] [] g g' := by rw [x5]; exact zfr_M (by decide) (zfr_M (by decide) zfr_rfl)
    have E : ∀ z j, ¬ j = i → ¬ j = a → h'.2.1 z j = h.2.1 z j := fun z j h1 h2 => by rw [x4, zu_MM, if_neg (fun u => h1 u.2), zu_MM, if_neg (fun u => h2 u.2), zu_MM, if_neg (fun u => h1 u.2), zu_MM, if_neg (fun u => h1 u.2)]
    have G : ∀ z j, ¬ j = k → g'.2.1 z j = g.2.1 z j := fun z j h1 => by rw [x5, zu_MM, if_neg (fun u => h1 u.2), zu_MM, if_neg (fun u => h1 u.2)]
    refine ⟨⟨⟨f1, f2, fun j hj => ?_, fun j hj => ?_⟩, i, k, (h.2.1 17) i, ⟨.inr rfl, hi, rfl⟩, ⟨.inr rfl, hk, rfl, by rw [f2.2.1 _ (by decide)]; exact m0⟩, ?_, ?_, rfl, rfl⟩, (f1.1 _ _ List.not_mem_nil).trans J1, (f2.1 _ _ List.not_mem_nil).trans J2⟩
    · have n1 : ¬ j = i := fun z => hj (.inr z)
      have n2 : ¬ j = a := fun z => hj (.inl (by rw [z]; exact a2))
      exact ⟨E _ _ n1 n2, E _ _ n1 n2, E _ _ n1 n2, E _ _ n1 n2⟩
    · have n1 : ¬ j = k := fun z => hj (.inr z)
      exact ⟨G _ _ n1, G _ _ n1, G _ _ n1⟩
    · refine .inr ⟨ty, x3, ?_, ?_, .inr (.inr (.inr (.inl ⟨rfl, ?_, ?_, a, u, x, off, ea, .inl a2, ?_, ?_, ?_, ?_, x10.1, by
        obtain ⟨_, B, cv, w1, w2, w3, w4, w5, w6⟩ := x10
        exact ⟨B, cv, by rw [f1.2.1 _ (by decide)]; exact w1, by omega, w3, by rw [show nb - 1 + 1 = nb by omega]; exact w4, by rw [f1.2.1 _ (by decide)]; exact w5, by rw [f1.2.1 _ (by decide)]; exact w6.1, by rw [f1.2.1 _ (by decide)]; exact w6.2⟩⟩)))⟩
      · rw [x4, zu_MM, if_pos ⟨rfl, rfl⟩]
      · rw [x5, zu_MM, if_neg (fun z => absurd z.1 (by decide)), zu_MM, if_pos ⟨rfl, rfl⟩]
      · rw [x4, zu_MM, if_neg (fun z => absurd z.1 (by decide)), zu_MM, if_neg (fun z => absurd z.1 (by decide)), zu_MM, if_neg (fun z => absurd z.1 (by decide)), zu_MM, if_neg (fun z => absurd z.1 (by decide))]; exact c0
      · rw [x4, zu_MM, if_neg (fun z => absurd z.1 (by decide)), zu_MM, if_neg (fun z => absurd z.1 (by decide)), zu_MM, if_neg (fun z => absurd z.1 (by decide)), zu_MM, if_neg (fun z => absurd z.1 (by decide))]
      · rw [show kv.2 = nI c from ec]
        exact yb_mkV I hb hc hw x1 x2 x6 x9 f1
      · rw [x4, zu_MM, if_neg (fun z => absurd z.1 (by decide)), zu_MM, if_neg (fun z => nai z.2.symm), zu_MM, if_neg (fun z => absurd z.1 (by decide)), zu_MM, if_pos ⟨rfl, rfl⟩]
      · rw [x4, zu_MM, if_neg (fun z => absurd z.1 (by decide)), zu_MM, if_pos ⟨rfl, rfl⟩]
      · rw [x5, zu_MM, if_pos ⟨rfl, rfl⟩]
    · refine ⟨a, b, -1, ⟨.inl a2, ha, ea⟩, ⟨.inl b2, hbb, by rw [f2.2.1 _ (by decide)]; exact eb, by rw [f2.2.1 _ (by decide)]; exact b3⟩, .inl (.inl rfl), ⟨rfl, by rw [f2.2.1 _ (by decide)]; exact b9'⟩, by rw [f1.2.1 _ (by decide)]; exact a9', by rw [f2.2.1 _ (by decide)]; exact b10'⟩
end
section
/-! The judge: signs between two are visited; all expressions. -/
theorem yb_fC {N : Nat} {h : zs_H} {x1 x2 x x4 : Int32} {R : zs_H → Int32 → Int32 → Option zs_H} (hf : ¬ (h.1 38 3) = 0) : f_Jd_visit_L26 R (N + 1) h x1 x2 x x4 = some h := by
  rw [zv_uC]
  unfold f_Jd_visit_26 f_Jd_visit_74
  rw [if_neg hf, if_neg hf, ite_self, ite_self]
/-- a sign between two -/
theorem yb_VN35 {kv : Int32 × Int32} {l : zt_T} (hv : zg_v 35 kv.2) (hA : zg_A 35 (zg_run 35 0 l) = true) (Ph : yb_Ph l) : yb_VN 35 kv l := by
  intro LC LM nb nf sz F h g i k up ku d D D' P Q y C nd hup mu hku h5 h33 hPs hd hD hD'
  obtain ⟨c1', kv1, o1, lc1, c2', kv2, o2, lc2, el, hE1, hE2⟩ := yb_g2 hA
  have hdl : max (zg_d lc1 + 1) (max (zg_d lc2 + 1) 0) ≤ zg_d l := by rw [el]; exact zg_d2 (r := .leaf)
  obtain ⟨D, rfl⟩ : ∃ z, D = z + 1 := ⟨D - 1, by omega⟩
  obtain ⟨D', rfl⟩ : ∃ z, D' = z + 1 := ⟨D' - 1, by omega⟩
  obtain ⟨⟨hi, hk, hPi, hQk, hP, hQ⟩, ⟨c0, c1, c2, c3, c4⟩, cC, ⟨m0, m1, m2, m3⟩, cM⟩ := id nd
  obtain ⟨s, hs, es⟩ : ∃ s, s < 14 ∧ kv.2 = nI s := by
    rcases hv with z | ⟨x, x1, x2, _⟩
    · exact absurd z (by decide)
    · exact ⟨x, x1, x2⟩
  rw [if_neg (by decide)] at m2
  have J1 : (h.1 38 3) = 0 := C.1.2.2.2.2.2.2.2.1
  have J2 : (g.1 68 29) = 0 := C.1.2.2.2.2.2.2.2.2
  have hs2 := C.2.2.2.2
  have hln := yb_ln nd hPs
  have hl2 : zt_ln l = 2 := by rw [el]; rfl
  have hzz : zF = 18446744073709551613 + 1 + 1 + 1 := rfl
  have eC0 := zv_vC (D := D) (d := d) (h := h) (i := i) (by omega) hi (zv_ent0 (kd := 35) hi (by decide) c0 (by decide))
  have S0 : yb_St LC LM nb F i k l P Q h g l h g ((h.2.1 17) i) ((g.2.1 76) k) := ⟨.leaf, fun _ => False, fun _ => False, P, Q, y, (g.2.1 77) k, rfl, ⟨cC, cM⟩, ⟨fun _ z => z, fun _ z => z, fun _ z => z.elim, fun _ z => z.elim⟩, ⟨rfl, rfl⟩, c4, yb_out0, Ph, Nat.le_refl _, J1, J2⟩
  have S0' : yb_St LC LM nb F i k l P Q h g (.inner c1' kv1 o1 lc1 (.inner c2' kv2 o2 lc2 .leaf)) h g ((h.2.1 17) i) ((g.2.1 76) k) := by rw [← el]; exact S0
  obtain ⟨a, b, Q1, a1, a2, a3, a4, _, _, a7, ⟨a8, a9, a10, a11, a12⟩, h1, g1, v1, v2, v3⟩ := yb_stepL (D := D) (D' := D' + 1) C hk hP hPs hQ m0 (by decide) (by decide) (by decide) hd (by omega) (by omega) S0'
  rw [a1, hzz, zv_stC (sz := sz) (by have := hPs a a8; omega) (by omega) a2 J1 a7 v1] at eC0
  rcases v3 with ⟨Fb, n1, n2⟩ | ⟨S1, n1, n2, O1⟩
  · rw [yb_fC n1] at eC0
    exact ⟨h1, g1, eC0, yb_lkm (by omega) (yb_lk35F hk m0 a3 a10 v2 n2), .inl ⟨Fb, n1, n2⟩⟩
  · obtain ⟨a', b', Q2, p1, p2, p3, p4, _, _, p7, ⟨p8, p9, p10, p11, p12⟩, h2, g2, w1, w2, w3⟩ := yb_stepL (D := D) (D' := D') C hk hP hPs hQ m0 (by decide) (by decide) (by decide) hd (by omega) (by omega) S1
    have el2 := yb_lk1 p4 p11 (by omega) w2
    obtain ⟨L1, L2⟩ := yb_last2 (show b < 2147483648 by omega) (by rw [← el]; exact cM) a3
    have gO1 : ∀ z, ¬ z ∈ [100, 101, 102] → g1.2.1 z = g.2.1 z := fun z hz => O1.2.1.2.1 z hz
    have la : (g1.2.1 77) k = nI b' := by rw [gO1 _ (by decide), L1, ← gO1 _ (by decide)]; exact p3
    have ab : (g1.2.1 75) b = nI k := by rw [gO1 _ (by decide)]; exact a12
    rw [p1, zv_stC (sz := sz) (by omega) (by omega) p2 n1 p7 w1] at eC0
    rcases w3 with ⟨Fb, k1, k2⟩ | ⟨S2, k1, k2, O2⟩
    · rw [yb_fC k1] at eC0
      exact ⟨h2, g2, eC0, yb_lkm (by omega) (yb_lk35 hk a4 (by omega) m0 a3 a10 a9 v2 n2 ab la el2 (.inl ⟨k2, rfl⟩)), .inl ⟨Fb, k1, k2⟩⟩
    · obtain ⟨w, Pw, Qw, Pu, Qu, yu, yu', e0, ⟨sC, sM⟩, ⟨_, _, q3, q4⟩, A, _, O, _, _, _, _⟩ := S2
      rw [zt_ap_leaf] at e0
      have ex : (h2.2.1 18) a' = -1 := (show (h2.2.1 18) a' = -1 ∧ yu = -1 from sC).1
      have ex' : (g2.2.1 78) b' = -1 := (show (g2.2.1 78) b' = -1 ∧ yu' = -1 from sM).1
      rw [← e0, ex, ex'] at A
      have A1 : yb_F F (nb - 1) h2 g2 P Q l ((h.2.1 17) i) ((g.2.1 76) k) (-1) (-1) := yb_Fm (fun j z => (q3 j z).1) (fun j z => (q4 j z).1) _ _ _ _ _ A
      have A2 := A1
      rw [el] at A2
      obtain ⟨x, kx, t, x1, x2, x3, x4, x5, x6, x7, x8, x9, B⟩ := yb_first hE1 A2
      obtain ⟨z, kz, tz, z1, z2, z3, z4, z5, z6, z7, z8, z9, _⟩ := yb_first hE2 B
      obtain ⟨i1, i2, i3, i4⟩ := O.2.2.1 i hPi
      have ge : ∀ z, ¬ z ∈ [100, 101, 102] → g2.2.1 z = g.2.1 z := fun z hz => O.2.1.2.1 z hz
      have he : ∀ z, ¬ z ∈ [13, 14, 16, 17] → h2.2.1 z = h.2.1 z := fun z hz => O.1.2.1 z hz
      have hxb : kx = b := by rw [a3] at x6; exact ((nI_eq (by omega) (by omega)).mp x6).symm
      have nxi : ¬ x = i := fun u => hPi (by rw [← u]; exact x1)
      have nzi : ¬ z = i := fun u => hPi (by rw [← u]; exact z1)
      have lst : (g2.2.1 77) k = nI kz := by rw [ge _ (by decide), L1, ← ge _ (by decide), ← hxb]; exact z6
      obtain ⟨h', g', r1, r2, r3⟩ := zv_twoE (p := kv.1) (a := x) (b := z) (ka := kx) (kb := kz) (ta := t) (tb := tz) (s := s) k1 k2 hi hk hs (i3.trans (c2.trans es)) (by rw [he _ (by decide)]; exact c1) (i4.trans x3) x2 z3 z2 x8 x7 z8 z7 (by rw [ge _ (by decide)]; exact m0) (by rw [ge _ (by decide), m2, es]) (by rw [ge _ (by decide)]; exact m1 (by decide)) (by rw [ge _ (by decide)]; exact x6) x5 lst z5 x9 z9
      have eC1 : f_Jd_visit (D + 1) h (nI i) (nI d) = some h' := by
        rw [eC0, ex, zv_enC]
        unfold f_Jd_visit_74
        rw [if_pos k1, Option.bind_fun_some, zv_lv35 hi (i1.trans c0), r1]
      refine ⟨h', g', eC1, yb_lkm (by omega) (yb_lk35 hk a4 (by omega) m0 a3 a10 a9 v2 n2 ab la el2 (.inr ⟨k2, r2⟩)), ?_⟩
      have ht := zv_ty2lt (s := s) x7 z7
      rcases r3 with ⟨X, f1, f2⟩ | ⟨⟨eg, nbad⟩, r3⟩
      · obtain ⟨φ, p, X⟩ := X
        have xn := zv_Xn X
        exact .inl ⟨⟨⟨φ, p, X⟩, zfr_trans (zfr_w O.1 (by decide) (by decide) (by decide)) f1, zfr_trans (zfr_w O.2.1 (by decide) (by decide) (by decide)) f2⟩, xn.1, xn.2⟩
      · right
        have tyM : (g'.2.1 100) k = nI (zv_ty2 t tz s) := by rw [eg, zu_MM, if_pos ⟨rfl, rfl⟩]
        have tt2 : ∀ W : yb_out (fun j => j = i) (fun j => j = k) h2 g2 h' g', yb_t2 h' s (zv_ty2 t tz s) x z := by
          intro W e
          rw [(W.2.2.1 x nxi).2.1, (W.2.2.1 z nzi).2.1, x8, z8]
          unfold zv_ty2 at e
          unfold zv_bad2 at nbad
          by_cases q : 2 < s ∧ s < 9
          · exact .inl q
          · rw [if_neg q] at e
            have e1 : t = 0 := by omega
            have e2 : tz = 0 := by omega
            refine .inr ⟨by omega, ?_, ?_⟩
            · rw [e1]; rfl
            · rw [e2]; rfl
        rcases r3 with ⟨v, y1, y2, y3⟩ | ⟨y1, y3⟩
        · have W : yb_out (fun j => j = i) (fun j => j = k) h2 g2 h' g' := by
            rw [y3, eg]
            exact yb_foW (yb_W5 _ (yb_W1 _ yb_out0))
          obtain ⟨u1, _, u3, _⟩ := W.2.2.1 x nxi
          obtain ⟨t1, _, t3, _⟩ := W.2.2.1 z nzi
          refine ⟨yb_fin C nd O A1 W ?_, (W.1.1 _ _ List.not_mem_nil).trans k1, (W.2.1.1 _ _ List.not_mem_nil).trans k2⟩
          refine .inr ⟨zv_ty2 t tz s, ht, ?_, tyM, .inr (.inr (.inr (.inr (.inr (.inr (.inl ⟨rfl, s, x, z, hs, es, x3, x1, ?_, ⟨z1, tt2 W⟩, .inl ⟨?_, ?_, ?_⟩⟩))))))⟩
          · rw [y3, yb_foK.2.2, zu_MM, if_pos ⟨rfl, rfl⟩]
          · rw [W.1.2.1 _ (by decide)]; exact z3
          · unfold zv_kc; rw [u1, t1, t3]; exact y1
          · rw [y3]; exact yb_foK.1
          · rw [u3, t3, y2, y3, yb_foK.2.1]
        · have W : yb_out (fun j => j = i) (fun j => j = k) h2 g2 h' g' := by
            rw [y3, eg]
            exact yb_W5 _ (yb_W1 _ yb_out0)
          obtain ⟨u1, _, u3, _⟩ := W.2.2.1 x nxi
          obtain ⟨t1, _, t3, _⟩ := W.2.2.1 z nzi
          refine ⟨yb_fin C nd O A1 W ?_, (W.1.1 _ _ List.not_mem_nil).trans k1, (W.2.1.1 _ _ List.not_mem_nil).trans k2⟩
          refine .inr ⟨zv_ty2 t tz s, ht, ?_, tyM, .inr (.inr (.inr (.inr (.inr (.inr (.inl ⟨rfl, s, x, z, hs, es, x3, x1, ?_, ⟨z1, tt2 W⟩, .inr ⟨?_, ?_, ?_, ?_⟩⟩))))))⟩
          · rw [y3, zu_MM, if_pos ⟨rfl, rfl⟩]
          · rw [W.1.2.1 _ (by decide)]; exact z3
          · unfold zv_kc; rw [u1, t1, t3]; exact y1
          · rw [y3, zu_MM, if_neg (fun z => absurd z.1 (by decide))]; exact i1.trans c0
          · rw [y3, zu_MM, if_neg (fun z => absurd z.1 (by decide))]; exact i3.trans c2
          · rw [y3, zu_MM, if_neg (fun z => absurd z.1 (by decide))]; exact i4
/-- all expressions can be visited -/
theorem yb_all : ∀ t : zt_T, zg_ok t → yb_top t → yb_Ph t := by
  intro t
  induction t with
  | leaf => intro _ _; trivial
  | inner kd kv o l r ihl ihr =>
    intro ⟨⟨hA, hv⟩, okl, okr⟩ ⟨hE, tr⟩
    refine ⟨⟨hE, ?_⟩, ihr okr tr⟩
    have cs : kd = 6 ∨ kd = 30 ∨ kd = 31 ∨ kd = 32 ∨ kd = 33 ∨ kd = 34 ∨ kd = 35 ∨ kd = 36 := by
      simp only [yb_E, List.mem_cons, List.not_mem_nil, or_false] at hE
      exact hE
    rcases cs with e | e | e | e | e | e | e | e <;> subst e
    · rw [zv_nolf (kd := 6) (by decide +kernel) hA]; exact yb_VN6 kv
    · rw [zv_nolf (kd := 30) (by decide +kernel) hA]; exact yb_VN30 (.inl rfl) kv
    · rw [zv_nolf (kd := 31) (by decide +kernel) hA]; exact yb_VN30 (.inr rfl) kv
    · obtain ⟨c, kvc, o', lc, el, hc⟩ := yb_g1 (.inl rfl) hA
      exact yb_VN32 hA (ihl okl (by rw [el]; exact ⟨hc, trivial⟩))
    · exact yb_VN33 okl hA
    · exact yb_VN34 hA (ihl okl (yb_g34 hA))
    · obtain ⟨c, kvc, o', lc, c2, kv2, o2, lc2, el, hc, hc2⟩ := yb_g2 hA
      exact yb_VN35 hv hA (ihl okl (by rw [el]; exact ⟨hc, hc2, trivial⟩))
    · obtain ⟨c, kvc, o', lc, el, hc⟩ := yb_g1 (.inr rfl) hA
      exact yb_VN36 hv hA (ihl okl (by rw [el]; exact ⟨hc, trivial⟩))
end
section
/-! The judge: the loops around a node; what may be assigned to (29, 30). -/
/-- the names of the FORs from a node upwards -/
def yc_A (g : zs_H) : Nat → Nat → List Int32 → Prop
  | 0, k, L => k < 33500 ∧ (g.2.1 75) k = -1 ∧ L = (if (g.2.1 72) k = 19 then [(g.2.1 74) k] else [])
  | m + 1, k, L => k < 33500 ∧ ∃ p L', (g.2.1 75) k = nI p ∧ yc_A g m p L' ∧ L = (if (g.2.1 72) k = 19 then (g.2.1 74) k :: L' else L')
theorem yc_Alt {g : zs_H} : ∀ m k L, yc_A g m k L → k < 33500 := by
  intro m
  cases m with
  | zero => intro k L h; exact h.1
  | succ m => intro k L h; exact h.1
def yc_L (LC LM : List (List Int32)) (h g : zs_H) (p d : Nat) : Prop := ∃ m L, m ≤ d ∧ yc_A g m p L ∧ (h.1 38 12) = nI L.length ∧ L.length ≤ d ∧ ∀ j, j < L.length → zt_nr LC LM ((h.2.1 39) (L.length - 1 - j)) (L.getD j 0)
section YC
variable {g : zs_H} {w : Int32}
theorem yc_47 {N p : Nat} {y : Int32} (hp : p < 33500) : f_Mo_isLoops_47 g (f_Mo_isLoops_L10 g N) w (nI p) y = f_Mo_isLoops_L10 g N w y ((g.2.1 75) p) := by
  unfold f_Mo_isLoops_47
  rw [if_pos (zi_in (by omega) hp), nI_clamp (show p < 2147483648 by omega)]
theorem yc_uL {N : Nat} {y : Int32} (x : Int32) : f_Mo_isLoops_L10 g (N + 1) w y x = f_Mo_isLoops_10 g (f_Mo_isLoops_L10 g N) w y x := rfl
theorem yc_end {N : Nat} {y : Int32} (hy : y = 0 ∨ y = 1) : f_Mo_isLoops_L10 g (N + 1) w y (-1) = some y := by
  rw [yc_uL]
  unfold f_Mo_isLoops_10
  rw [if_pos (by decide), if_pos hy]
theorem yc_one {N p : Nat} {y : Int32} (hp : p < 33500) (hy : y = 0 ∨ y = 1) : f_Mo_isLoops_L10 g (N + 1) w y (nI p) = f_Mo_isLoops_L10 g N w (if y = 1 ∨ ((g.2.1 72) p = 19 ∧ (g.2.1 74) p = w) then 1 else 0) ((g.2.1 75) p) := by
  rw [yc_uL]
  unfold f_Mo_isLoops_10 f_Mo_isLoops_42 f_Mo_isLoops_46
  rw [if_neg (zv_neg (show p < 2147483648 by omega)).2, yc_47 hp, yc_47 hp, if_pos (zi_in (by omega) hp), nI_clamp (show p < 2147483648 by omega)]
  rcases hy with e | e <;> subst e
  · rw [if_pos rfl]
    by_cases z1 : (g.2.1 72) p = 19
    · by_cases z2 : (g.2.1 74) p = w
      · rw [if_pos z1, if_pos z2, if_pos (.inr ⟨z1, z2⟩)]
      · rw [if_pos z1, if_neg z2, if_neg (fun u => u.elim (by decide) (fun u => z2 u.2))]
    · rw [if_neg z1, if_neg (fun u => u.elim (by decide) (fun u => z1 u.1))]
  · rw [if_neg (by decide), if_pos (.inl rfl)]
theorem yc_isL : ∀ m p L N y, yc_A g m p L → m + 1 < N → (y = 0 ∨ y = 1) → f_Mo_isLoops_L10 g N w y (nI p) = some (if y = 1 ∨ w ∈ L then 1 else 0) := by
  intro m
  induction m with
  | zero =>
    intro p L N y hA hN hy
    obtain ⟨N, rfl⟩ : ∃ z, N = z + 1 + 1 := ⟨N - 2, by omega⟩
    obtain ⟨hp, a1, a2⟩ := hA
    rw [yc_one hp hy, a1, yc_end (by split; exact .inr rfl; exact .inl rfl)]
    have : (y = 1 ∨ ((g.2.1 72) p = 19 ∧ (g.2.1 74) p = w)) ↔ (y = 1 ∨ w ∈ L) := by
      rw [a2]
      by_cases z : (g.2.1 72) p = 19
      · rw [if_pos z, List.mem_singleton]
        exact ⟨fun u => u.imp id (fun u => u.2.symm), fun u => u.imp id (fun u => ⟨z, u.symm⟩)⟩
      · rw [if_neg z]
        exact ⟨fun u => u.imp id (fun u => absurd u.1 z), fun u => u.imp id (fun u => absurd u List.not_mem_nil)⟩
    simp only [this]
  | succ m ih =>
    intro p L N y hA hN hy
    obtain ⟨N, rfl⟩ : ∃ z, N = z + 1 := ⟨N - 1, by omega⟩
    obtain ⟨hp, p', L', a1, a2, a3⟩ := hA
    rw [yc_one hp hy, a1, ih p' L' N _ a2 (by omega) (by split; exact .inr rfl; exact .inl rfl)]
    have : ((if y = 1 ∨ ((g.2.1 72) p = 19 ∧ (g.2.1 74) p = w) then (1 : Int32) else 0) = 1 ∨ w ∈ L') ↔ (y = 1 ∨ w ∈ L) := by
      rw [a3]
      by_cases zy : y = 1
      · simp only [zy, true_or, if_true]
      · by_cases z : (g.2.1 72) p = 19
        · by_cases z2 : (g.2.1 74) p = w
          · simp only [zy, z, z2, and_self, or_true, if_true, List.mem_cons, true_or]
          · have z3 : ¬ w = (g.2.1 74) p := fun u => z2 u.symm
            simp only [zy, z, z2, z3, and_false, or_false, if_false, if_true, List.mem_cons, false_or]
            exact ⟨fun u => u.elim (fun u => absurd u (by decide)) id, .inr⟩
        · simp only [zy, z, false_and, or_false, if_false, false_or]
          exact ⟨fun u => u.elim (fun u => absurd u (by decide)) id, .inr⟩
    simp only [this]
theorem yc_isLoops {m p k : Nat} {L : List Int32} (hA : yc_A g m p L) (hm : m < 1000) (hk : k < 33500) (e : (g.2.1 75) k = nI p) : f_Mo_isLoops g w (nI k) = some (if w ∈ L then 1 else 0) := by
  have hz := zF_big
  unfold f_Mo_isLoops
  rw [if_pos (zi_in (by omega) hk), nI_clamp (show k < 2147483648 by omega), e, yc_isL m p L zF 0 hA (by omega) (.inl rfl)]
  simp only [show ¬ (0 : Int32) = 1 by decide, false_or]
/-- whether there is a FOR above -/
theorem yc_413 {N p k : Nat} {y : Int32} (hp : p < 33500) : f_Mo_lookAtStatements_413 (f_Mo_lookAtStatements_L389 N) g (nI k) (nI p) y = f_Mo_lookAtStatements_L389 N g (nI k) y ((g.2.1 75) p) := by
  unfold f_Mo_lookAtStatements_413
  rw [if_pos (zi_in (by omega) hp), nI_clamp (show p < 2147483648 by omega)]
theorem yc_uX {N : Nat} {x1 y : Int32} (x : Int32) : f_Mo_lookAtStatements_L389 (N + 1) g x1 y x = f_Mo_lookAtStatements_389 (f_Mo_lookAtStatements_L389 N) g x1 y x := rfl
theorem yc_oneX {N p k : Nat} {y : Int32} (hp : p < 33500) (hy : y = 0 ∨ y = 1) : f_Mo_lookAtStatements_L389 (N + 1) g (nI k) y (nI p) = f_Mo_lookAtStatements_L389 N g (nI k) (if y = 1 ∨ (g.2.1 72) p = 19 then 1 else 0) ((g.2.1 75) p) := by
  rw [yc_uX]
  unfold f_Mo_lookAtStatements_389 f_Mo_lookAtStatements_408
  rw [if_neg (zv_neg (show p < 2147483648 by omega)).2, yc_413 hp, yc_413 hp, if_pos (zi_in (by omega) hp), nI_clamp (show p < 2147483648 by omega)]
  rcases hy with e | e <;> subst e
  · rw [if_pos rfl]
    by_cases z1 : (g.2.1 72) p = 19
    · rw [if_pos z1, if_pos (.inr z1)]
    · rw [if_neg z1, if_neg (fun u => u.elim (by decide) z1)]
  · rw [if_neg (by decide), if_pos (.inl rfl)]
theorem yc_exit {k : Nat} : ∀ m p L N y, yc_A g m p L → m + 1 < N → (y = 0 ∨ y = 1) → f_Mo_lookAtStatements_L389 N g (nI k) y (nI p) = f_Mo_lookAtStatements_434 g (nI k) (if y = 1 ∨ ¬ L = [] then 0 else 1) := by
  have fin : ∀ (N : Nat) (y : Int32), (y = 0 ∨ y = 1) → f_Mo_lookAtStatements_L389 (N + 1) g (nI k) y (-1) = f_Mo_lookAtStatements_434 g (nI k) (if y = 1 then 0 else 1) := by
    intro N y hy
    rw [yc_uX]
    unfold f_Mo_lookAtStatements_389
    rw [if_pos (by decide)]
    rcases hy with e | e <;> subst e <;> rfl
  intro m
  induction m with
  | zero =>
    intro p L N y hA hN hy
    obtain ⟨N, rfl⟩ : ∃ z, N = z + 1 + 1 := ⟨N - 2, by omega⟩
    obtain ⟨hp, a1, a2⟩ := hA
    rw [yc_oneX hp hy, a1, fin N _ (by split; exact .inr rfl; exact .inl rfl), a2]
    rcases hy with e | e <;> subst e
    · by_cases z : (g.2.1 72) p = 19
      · simp (config := { decide := true }) only [z, or_true, if_true]
        rw [if_pos (.inr (List.cons_ne_nil _ _))]
      · simp (config := { decide := true }) only [z, or_false, if_false]
    · simp (config := { decide := true }) only [true_or, if_true]
  | succ m ih =>
    intro p L N y hA hN hy
    obtain ⟨N, rfl⟩ : ∃ z, N = z + 1 := ⟨N - 1, by omega⟩
    obtain ⟨hp, p', L', a1, a2, a3⟩ := hA
    rw [yc_oneX hp hy, a1, ih p' L' N _ a2 (by omega) (by split; exact .inr rfl; exact .inl rfl), a3]
    rcases hy with e | e <;> subst e
    · by_cases z : (g.2.1 72) p = 19
      · simp (config := { decide := true }) only [z, or_true, if_true, true_or]
        rw [if_pos (.inr (List.cons_ne_nil _ _))]
      · simp (config := { decide := true }) only [z, or_false, if_false, false_or]
    · simp (config := { decide := true }) only [true_or, if_true]
end YC
section YCL
variable {h g : zs_H} {i u c n : Nat}
theorem yc_uA {N : Nat} {x1 x2 : Int32} (x : Int32) : f_Jd_judgeAssigned_L117 (N + 1) h x1 x2 x = f_Jd_judgeAssigned_117 (f_Jd_judgeAssigned_L117 N) h x1 x2 x := rfl
/-- behind a fault nothing more happens -/
theorem yc_lpF (hf : ¬ (h.1 38 3) = 0) (hl : (h.1 38 12) = nI n) (hn : n ≤ 240) (hu : u < 5900) : ∀ r j N, j + r = n → r < N → f_Jd_judgeAssigned_L117 N h (nI (32 + u)) (nI i) (nI j) = some h := by
  intro r
  induction r with
  | zero =>
    intro j N hj hN
    obtain ⟨N, rfl⟩ : ∃ z, N = z + 1 := ⟨N - 1, by omega⟩
    rw [yc_uA]
    unfold f_Jd_judgeAssigned_117
    rw [hl, if_pos ((nI_leI (by omega) (by omega)).mpr (by omega))]
  | succ r ih =>
    intro j N hj hN
    obtain ⟨N, rfl⟩ : ∃ z, N = z + 1 := ⟨N - 1, by omega⟩
    rw [yc_uA]
    unfold f_Jd_judgeAssigned_117 f_Jd_judgeAssigned_151
    rw [hl, if_neg (mt (nI_leI (by omega) (by omega)).mp (by omega)), if_pos (zi_in (by omega) (by omega)), if_pos (zi_in (by omega) (by omega)), zv_refF hf, zv_refF hf, ite_self, Option.bind_some, nI_1]
    exact ih (j + 1) N (by omega) (by omega)
theorem yc_lp (J1 : (h.1 38 3) = 0) (hi : i < 32784) (hl : (h.1 38 12) = nI n) (hn : n ≤ 240) (hu : u < 5900) (hc : (h.2.1 28) (32 + u) = nI c) : ∀ r j N, j + r = n → r < N →
    ((∀ a, j ≤ a → a < n → ¬ (h.2.1 39) a = nI c) → f_Jd_judgeAssigned_L117 N h (nI (32 + u)) (nI i) (nI j) = some h) ∧ ((∃ a, j ≤ a ∧ a < n ∧ (h.2.1 39) a = nI c) → f_Jd_judgeAssigned_L117 N h (nI (32 + u)) (nI i) (nI j) = some (zv_rf 30 i h)) := by
  intro r
  induction r with
  | zero =>
    intro j N hj hN
    obtain ⟨N, rfl⟩ : ∃ z, N = z + 1 := ⟨N - 1, by omega⟩
    refine ⟨fun _ => ?_, fun ⟨a, a1, a2, _⟩ => by omega⟩
    rw [yc_uA]
    unfold f_Jd_judgeAssigned_117
    rw [hl, if_pos ((nI_leI (by omega) (by omega)).mpr (by omega))]
  | succ r ih =>
    intro j N hj hN
    obtain ⟨N, rfl⟩ : ∃ z, N = z + 1 := ⟨N - 1, by omega⟩
    have e : f_Jd_judgeAssigned_L117 (N + 1) h (nI (32 + u)) (nI i) (nI j) = if (h.2.1 39) j = nI c then f_Jd_judgeAssigned_L117 N (zv_rf 30 i h) (nI (32 + u)) (nI i) (nI (j + 1)) else f_Jd_judgeAssigned_L117 N h (nI (32 + u)) (nI i) (nI (j + 1)) := by
      rw [yc_uA]
      unfold f_Jd_judgeAssigned_117 f_Jd_judgeAssigned_151
      rw [hl, if_neg (mt (nI_leI (by omega) (by omega)).mp (by omega)), if_pos (zi_in (by omega) (by omega)), if_pos (zi_in (by omega) (by omega)), show (30 : Int32) = nI 30 from rfl, zv_ref1 (by decide) J1 hi, zv_ref0, Option.bind_some, Option.bind_some, nI_1, nI_clamp (show j < 2147483648 by omega), nI_clamp (show 32 + u < 2147483648 by omega), hc]
      rfl
    obtain ⟨i1, i2⟩ := ih (j + 1) N (by omega) (by omega)
    by_cases z : (h.2.1 39) j = nI c
    · refine ⟨fun H => absurd z (H j (Nat.le_refl _) (by omega)), fun _ => ?_⟩
      rw [e, if_pos z]
      exact yc_lpF (h := zv_rf 30 i h) (n := n) (zv_rff (by decide) (by decide)) hl hn hu r (j + 1) N (by omega) (by omega)
    · refine ⟨fun H => ?_, fun ⟨a, a1, a2, a3⟩ => ?_⟩
      · rw [e, if_neg z]; exact i1 (fun a a1 a2 => H a (by omega) a2)
      · rw [e, if_neg z]
        have : ¬ a = j := fun q => z (by rw [← q]; exact a3)
        exact i2 ⟨a, by omega, a2, a3⟩
end YCL
end
section
/-! The judge: what may be assigned to (29, 30), both sides. -/
theorem yc_Af {g g' : zs_H} : ∀ {m p : Nat} {L : List Int32}, yc_A g m p L → g'.2.1 75 = g.2.1 75 → g'.2.1 72 = g.2.1 72 → g'.2.1 74 = g.2.1 74 → yc_A g' m p L := by
  intro m
  induction m with
  | zero =>
    intro p L ⟨a1, a2, a3⟩ e1 e2 e3
    exact ⟨a1, by rw [e1]; exact a2, by rw [e2, e3]; exact a3⟩
  | succ m ih =>
    intro p L ⟨a1, p', L', a2, a3, a4⟩ e1 e2 e3
    exact ⟨a1, p', L', by rw [e1]; exact a2, ih a3 e1 e2 e3, by rw [e2, e3]; exact a4⟩
section YN
variable {LC LM : List (List Int32)} {nb nf i k u c up d : Nat} {F : Nat → Nat} {q w : Int32} {h g : zs_H}
/-- 29 -/
theorem yc_29 (I : zv_I LC LM nb nf (F nb) F q h g) (hb : 0 < nb) (u1 : F (nb - 1) ≤ u) (u2 : u < F nb) (e : f_Mo_variable g ((g.1 68 54)) w = some (nI u)) : ∃ A : Int32, (A = 0 ∨ A = 1) ∧ f_Jd_judgeAssigned h (nI (32 + u)) (nI i) = f_Jd_judgeAssigned_108 h (nI (32 + u)) (nI i) A ∧ f_Mo_lookAtAssigned g w (nI k) = f_Mo_lookAtAssigned_70 g w (nI k) A := by
  have V3 : F nb ≤ 5900 := I.2.1.2.1.2.2
  have B3 : nb ≤ 568 := I.2.1.1.2.2
  have HJ := I.2.2.2.2.2.2.1 hb
  obtain ⟨s, s1, s2, s3⟩ := I.2.2.2.1.1 u u2
  have Q := I.2.2.2.1.2.1 (nb - 1) u (by omega) u1 (by rw [show nb - 1 + 1 = nb by omega]; exact u2) u2
  obtain ⟨kd, d1, d2, _⟩ := zv_cur I hb
  have hkd : kd < 2147483648 := by rcases d1 with z | z | z <;> omega
  have k3 : ((h.2.1 21) (8 + nb) = 3) ↔ kd = 3 := by rw [d2]; exact zc_eq (k := 3) (by decide) hkd
  obtain ⟨ty, x, s', y, _, ⟨x1, _⟩, _, _, ⟨xl, _⟩, _, _, _, q9⟩ := Q
  rw [show 9 + (nb - 1) = 8 + nb by omega] at q9
  have es : ((g.2.1 95) u = 1) ↔ (h.2.1 29) (32 + u) = 1 := by
    rw [s2, s3]
    have a1 : s = 0 ∨ s = 1 ∨ s = 2 ∨ s = 3 := by omega
    rcases a1 with e | e | e | e <;> subst e <;> decide
  -- the class
  have eC : f_Jd_judgeAssigned h (nI (32 + u)) (nI i) = f_Jd_judgeAssigned_108 h (nI (32 + u)) (nI i) (if (h.2.1 29) (32 + u) = 1 ∨ (kd = 3 ∧ (x < 256 ∨ (768 ≤ x ∧ x < 832))) then 1 else 0) := by
    have l256 : ((256 : Int32) ≤ nI x) ↔ 256 ≤ x := zc_le (k := 256) (by decide) (by omega)
    have l768 : (nI x < (768 : Int32)) ↔ x < 768 := zc_tl (k := 768) (by decide) (by omega)
    have l832 : ((832 : Int32) ≤ nI x) ↔ 832 ≤ x := zc_le (k := 832) (by decide) (by omega)
    unfold f_Jd_judgeAssigned f_Jd_judgeAssigned_24 f_Jd_judgeAssigned_48 f_Jd_judgeAssigned_49 f_Jd_judgeAssigned_81 f_Jd_judgeAssigned_77 f_Jd_judgeAssigned_82 f_Jd_judgeAssigned_103
    simp only [if_pos (zi_in (show 32 + u < 2147483648 by omega) (show 32 + u < 6000 by omega)), nI_clamp (show 32 + u < 2147483648 by omega), x1, l256, l768, l832, HJ.1, if_pos (zi_in (show 8 + nb < 2147483648 by omega) (show 8 + nb < 629 by omega)), nI_clamp (show 8 + nb < 2147483648 by omega), k3, show ¬ (1 : Int32) = 0 by decide, if_true, if_false]
    by_cases z1 : (h.2.1 29) (32 + u) = 1
    · simp only [z1, true_or, if_true, ite_self]
    · by_cases z2 : kd = 3
      · by_cases z3 : x < 256
        · have z4 : ¬ 256 ≤ x := by omega
          have z5 : x < 768 := by omega
          simp only [z1, z2, z3, z4, z5, if_true, if_false, true_or, and_self, or_true]
        · have z4 : 256 ≤ x := by omega
          by_cases z5 : x < 768
          · have z6 : ¬ 768 ≤ x := by omega
            simp only [z1, z2, z3, z4, z5, z6, if_true, if_false, false_and, or_self, and_false]
          · have z6 : 768 ≤ x := by omega
            by_cases z7 : 832 ≤ x
            · have z8 : ¬ x < 832 := by omega
              simp only [z1, z2, z3, z4, z5, z6, z7, z8, if_true, if_false, and_false, or_self]
            · have z8 : x < 832 := by omega
              simp only [z1, z2, z3, z4, z5, z6, z7, z8, if_true, if_false, and_self, or_true]
      · simp only [z1, z2, if_false, false_and, or_self, ite_self]
  have eM : f_Mo_lookAtAssigned g w (nI k) = f_Mo_lookAtAssigned_70 g w (nI k) (if (h.2.1 29) (32 + u) = 1 ∨ (kd = 3 ∧ (x < 256 ∨ (768 ≤ x ∧ x < 832))) then 1 else 0) := by
    unfold f_Mo_lookAtAssigned f_Mo_lookAtAssigned_24 f_Mo_lookAtAssigned_65 f_Mo_lookAtAssigned_69
    rw [e, Option.bind_some, if_pos (zv_neg (show u < 2147483648 by omega)).1, if_pos (zi_in (show u < 2147483648 by omega) (show u < 8400 by omega)), if_neg (zv_neg (show u < 2147483648 by omega)).2, if_pos (zi_in (show u < 2147483648 by omega) (show u < 8400 by omega))]
    simp only [nI_clamp (show u < 2147483648 by omega), es]
    by_cases z1 : (h.2.1 29) (32 + u) = 1
    · simp only [z1, true_or, if_true]
    · simp only [z1, if_false, false_or]
      rcases q9 with ⟨p1, p2, p3⟩ | ⟨p, p1, p2, p3, p4, p5, _⟩
      · rw [p1, if_pos (by decide)]
        have : ¬ (kd = 3 ∧ (x < 256 ∨ (768 ≤ x ∧ x < 832))) := fun z => by
          have := p3 (k3.mpr z.1)
          omega
        rw [if_neg this]
      · have hk3 := k3.mp p3
        rw [p2, if_neg (zv_neg (show p < 2147483648 by omega)).2, (zv_sh p p1).2]
        have e0 : (nI (p / 256) = 0) ↔ p / 256 = 0 := zc_eq (k := 0) (by decide) (by omega)
        have e3 : (nI (p / 256) = 3) ↔ p / 256 = 3 := zc_eq (k := 3) (by decide) (by omega)
        simp only [e0, e3]
        have key : (p / 256 = 0 ∨ p / 256 = 3) ↔ (kd = 3 ∧ (x < 256 ∨ (768 ≤ x ∧ x < 832))) := by
          rw [p4]
          unfold zv_pc
          split
          · constructor
            · intro z; exact ⟨hk3, by omega⟩
            · intro z; omega
          · constructor
            · intro z; exact ⟨hk3, by omega⟩
            · intro z; omega
        by_cases y0 : p / 256 = 0
        · rw [if_pos y0, if_pos (key.mp (.inl y0))]
        · by_cases y3 : p / 256 = 3
          · rw [if_neg y0, if_pos y3, if_pos (key.mp (.inr y3))]
          · rw [if_neg y0, if_neg y3, if_neg (fun z => (key.mpr z).elim y0 y3)]
  exact ⟨_, by split; exact .inr rfl; exact .inl rfl, eC, eM⟩
/-- both sides refuse it, or both go on -/
theorem yc_asg (I : zv_I LC LM nb nf (F nb) F q h g) (hb : 0 < nb) (hi : i < 32784) (hk : k < 33500) (hc : c < 6000) (hw : zt_nr LC LM (nI c) w) (u1 : F (nb - 1) ≤ u) (u2 : u < F nb) (e : f_Mo_variable g ((g.1 68 54)) w = some (nI u)) (hu : (g.2.1 75) k = nI up) (L : yc_L LC LM h g up d) (hd : d ≤ 240) :
    ∃ h' g', f_Jd_judgeAssigned h (nI (32 + u)) (nI i) = some h' ∧ f_Mo_lookAtAssigned g w (nI k) = some g' ∧ ((h' = h ∧ g' = g) ∨ ∃ φ, (φ = 29 ∨ φ = 30) ∧ h' = zv_rf φ i h ∧ g' = zv_ru φ k g) := by
  have hz := zF_big
  have J1 : (h.1 38 3) = 0 := I.2.2.2.2.2.2.2.1
  have J2 : (g.1 68 29) = 0 := I.2.2.2.2.2.2.2.2
  have V3 : F nb ≤ 5900 := I.2.1.2.1.2.2
  obtain ⟨m, L, l1, l2, l3, l4, l5⟩ := L
  obtain ⟨A, hA, eC, eM⟩ := yc_29 (i := i) (k := k) I hb u1 u2 e
  obtain ⟨n1, _⟩ := zv_uq I hb hc hw (by omega) e
  rw [eC, eM]
  unfold f_Jd_judgeAssigned_108 f_Mo_lookAtAssigned_70
  rcases hA with z | z
  · subst z
    rw [zv_ref0, zv_rule0, Option.bind_some, Option.bind_some, yc_isLoops l2 (by omega) hk hu, Option.bind_some]
    obtain ⟨p1, p2⟩ := yc_lp (h := h) (i := i) (u := u) (c := c) (n := L.length) J1 hi l3 (by omega) (by omega) n1 L.length 0 zF (by omega) (by omega)
    have S : LC.Nodup ∧ LM.Nodup ∧ LC.length < 6000 ∧ LM.length < 8000 := ⟨I.1.1, I.1.2.1, I.1.2.2.1, I.1.2.2.2.1⟩
    by_cases zm : w ∈ L
    · rw [if_pos zm, show (30 : Int32) = nI 30 from rfl, zv_rule1 (by decide) J2 hk, Option.bind_some]
      refine ⟨zv_rf 30 i h, zv_ru 30 k g, p2 ?_, rfl, .inr ⟨30, .inr rfl, rfl, rfl⟩⟩
      obtain ⟨j, j1, j2⟩ := List.mem_iff_getElem.mp zm
      have ee := l5 j j1
      rw [List.getD_eq_getElem?_getD, List.getElem?_eq_getElem j1, Option.getD_some, j2] at ee
      exact ⟨L.length - 1 - j, Nat.zero_le _, by omega, ((zt_nr_inj S.1 S.2.1 ee hw S.2.2.1 S.2.2.2).mpr rfl)⟩
    · rw [if_neg zm, zv_rule0, Option.bind_some]
      refine ⟨h, g, p1 (fun a _ a2 z => zm ?_), rfl, .inl ⟨rfl, rfl⟩⟩
      have ee := l5 (L.length - 1 - a) (by omega)
      rw [show L.length - 1 - (L.length - 1 - a) = a by omega] at ee
      have := (zt_nr_inj S.1 S.2.1 ee hw S.2.2.1 S.2.2.2).mp z
      rw [List.getD_eq_getElem?_getD, List.getElem?_eq_getElem (show L.length - 1 - a < L.length by omega), Option.getD_some] at this
      rw [← this]
      exact List.getElem_mem _
  · subst z
    have f29 := zv_rff (φ := 29) (i := i) (h := h) (by decide) (by decide)
    have g29 := zv_ruf (φ := 29) (k := k) (g := g) (by decide) (by decide)
    rw [show (29 : Int32) = nI 29 from rfl, zv_ref1 (by decide) J1 hi, zv_rule1 (by decide) J2 hk, Option.bind_some, Option.bind_some]
    refine ⟨zv_rf 29 i h, zv_ru 29 k g, yc_lpF (h := zv_rf 29 i h) (n := L.length) f29 l3 (by omega) (by omega) L.length 0 zF (by omega) (by omega), ?_, .inr ⟨29, .inl rfl, rfl, rfl⟩⟩
    show (f_Mo_isLoops (zv_ru 29 k g) w (nI k)).bind (fun v4 => (f_Mo_rule (zv_ru 29 k g) v4 30 (nI k)).bind fun h7 => some h7) = _
    rw [yc_isLoops (g := zv_ru 29 k g) (m := m) (p := up) (L := L) (yc_Af l2 rfl rfl rfl) (by omega) hk hu, Option.bind_some, zv_ruleF g29, Option.bind_some]
end YN
end
section
/-! The judge: statements: what is given, what comes out; the children one after the other. -/
abbrev yc_f : List (Nat × Nat) := [(38, 7), (38, 8), (38, 9), (38, 10), (38, 12)]
abbrev yc_m : List Nat := [13, 14, 16, 17, 39]
abbrev yc_g : List Nat := [100, 101, 102]
/-- how many cells a body has of its own -/
def yc_o : zt_T → Nat
  | .leaf => 0
  | .inner kd kv _ l r => (if kd = 16 ∨ kd = 19 then 1 else if kd = 22 then 156 else if kd = 25 ∧ 2 ≤ kv.2 then 1 else 0) + yc_o l + yc_o r
theorem yc_oap : ∀ t u, yc_o (zt_ap t u) = yc_o t + yc_o u := by
  intro t u
  induction t with
  | leaf => show yc_o u = 0 + yc_o u; omega
  | inner kd kv o l r ihl ihr =>
    show (if kd = 16 ∨ kd = 19 then 1 else if kd = 22 then 156 else if kd = 25 ∧ 2 ≤ kv.2 then 1 else 0) + yc_o l + yc_o (zt_ap r u) = (if kd = 16 ∨ kd = 19 then 1 else if kd = 22 then 156 else if kd = 25 ∧ 2 ≤ kv.2 then 1 else 0) + yc_o l + yc_o r + yc_o u
    rw [ihr]; omega
theorem yc_oE : ∀ t, zg_ok t → yb_top t → yc_o t = 0 := by
  intro t
  induction t with
  | leaf => intro _ _; rfl
  | inner kd kv o l r ihl ihr =>
    intro ⟨⟨hA, hv⟩, okl, okr⟩ ⟨hE, tr⟩
    show (if kd = 16 ∨ kd = 19 then 1 else if kd = 22 then 156 else if kd = 25 ∧ 2 ≤ kv.2 then 1 else 0) + yc_o l + yc_o r = 0
    have cs : kd = 6 ∨ kd = 30 ∨ kd = 31 ∨ kd = 32 ∨ kd = 33 ∨ kd = 34 ∨ kd = 35 ∨ kd = 36 := by
      simp only [yb_E, List.mem_cons, List.not_mem_nil, or_false] at hE
      exact hE
    have hl : yc_o l = 0 := by
      rcases cs with e | e | e | e | e | e | e | e <;> subst e
      · rw [zv_nolf (kd := 6) (by decide +kernel) hA]; rfl
      · rw [zv_nolf (kd := 30) (by decide +kernel) hA]; rfl
      · rw [zv_nolf (kd := 31) (by decide +kernel) hA]; rfl
      · obtain ⟨c, kvc, o', lc, el, hc⟩ := yb_g1 (.inl rfl) hA
        exact ihl okl (by rw [el]; exact ⟨hc, trivial⟩)
      · obtain ⟨kvf, o', el⟩ := yb_g33 okl hA
        rw [el]; rfl
      · exact ihl okl (yb_g34 hA)
      · obtain ⟨c, kvc, o', lc, c2, kv2, o2, lc2, el, hc, hc2⟩ := yb_g2 hA
        exact ihl okl (by rw [el]; exact ⟨hc, hc2, trivial⟩)
      · obtain ⟨c, kvc, o', lc, el, hc⟩ := yb_g1 (.inr rfl) hA
        exact ihl okl (by rw [el]; exact ⟨hc, trivial⟩)
    rw [hl, ihr okr tr, if_neg (by omega), if_neg (by omega), if_neg (by omega)]
def yc_out (P Q : Nat → Prop) (h1 g1 h g : zs_H) : Prop := zfr yc_f yc_m [] h1 h ∧ zfr [] yc_g [] g1 g ∧ (∀ j, ¬ P j → (h.2.1 13) j = (h1.2.1 13) j ∧ (h.2.1 14) j = (h1.2.1 14) j ∧ (h.2.1 16) j = (h1.2.1 16) j ∧ (h.2.1 17) j = (h1.2.1 17) j) ∧ (∀ j, ¬ Q j → (g.2.1 100) j = (g1.2.1 100) j ∧ (g.2.1 101) j = (g1.2.1 101) j ∧ (g.2.1 102) j = (g1.2.1 102) j) ∧ (h.1 38 12) = (h1.1 38 12) ∧ (∀ n j, (h1.1 38 12) = nI n → n < 1000 → j < n → (h.2.1 39) j = (h1.2.1 39) j)
theorem yc_out0 {P Q : Nat → Prop} {h g : zs_H} : yc_out P Q h g h g := ⟨zfr_rfl, zfr_rfl, fun _ _ => ⟨rfl, rfl, rfl, rfl⟩, fun _ _ => ⟨rfl, rfl, rfl⟩, rfl, fun _ _ _ _ _ => rfl⟩
theorem yc_outb {P Q : Nat → Prop} {h1 g1 h g : zs_H} (a : yb_out P Q h1 g1 h g) : yc_out P Q h1 g1 h g := ⟨zfr_w a.1 (by decide) (by decide) (by decide), a.2.1, a.2.2.1, a.2.2.2, a.1.1 _ _ List.not_mem_nil, fun _ _ _ _ _ => by rw [a.1.2.1 _ (by decide)]⟩
theorem yc_outt {P Q P' Q' : Nat → Prop} {h1 g1 h2 g2 h g : zs_H} (a : yc_out P' Q' h1 g1 h2 g2) (b : yc_out P Q h2 g2 h g) : yc_out (fun j => P' j ∨ P j) (fun j => Q' j ∨ Q j) h1 g1 h g := by
  obtain ⟨a1, a2, a3, a4, a5, a6⟩ := a
  obtain ⟨b1, b2, b3, b4, b5, b6⟩ := b
  refine ⟨zfr_trans a1 b1, zfr_trans a2 b2, fun j hj => ?_, fun j hj => ?_, b5.trans a5, fun n j h1 h2 h3 => (b6 n j (a5.trans h1) h2 h3).trans (a6 n j h1 h2 h3)⟩
  · obtain ⟨x1, x2, x3, x4⟩ := a3 j (fun z => hj (.inl z))
    obtain ⟨y1, y2, y3, y4⟩ := b3 j (fun z => hj (.inr z))
    exact ⟨y1.trans x1, y2.trans x2, y3.trans x3, y4.trans x4⟩
  · obtain ⟨x1, x2, x3⟩ := a4 j (fun z => hj (.inl z))
    obtain ⟨y1, y2, y3⟩ := b4 j (fun z => hj (.inr z))
    exact ⟨y1.trans x1, y2.trans x2, y3.trans x3⟩
theorem yc_outm {P Q P' Q' : Nat → Prop} {h1 g1 h g : zs_H} (a : yc_out P Q h1 g1 h g) (hP : ∀ j, P j → P' j) (hQ : ∀ j, Q j → Q' j) : yc_out P' Q' h1 g1 h g := ⟨a.1, a.2.1, fun j hj => a.2.2.1 j (fun z => hj (hP j z)), fun j hj => a.2.2.2.1 j (fun z => hj (hQ j z)), a.2.2.2.2⟩
section YCO
variable {LC LM : List (List Int32)} {nb nf sz : Nat} {F : Nat → Nat} {h1 g1 h g h' g' : zs_H} {P Q : Nat → Prop}
theorem yc_cxf (C : yb_cx LC LM nb nf sz F h1 g1) (f1 : zfr yc_f yc_m [] h1 h) (f2 : zfr [] yc_g [] g1 g) : yb_cx LC LM nb nf sz F h g := by
  obtain ⟨I, si, hb, hs, hs2⟩ := C
  refine ⟨zv_Ifr I (zfr_w f1 (by decide) (by decide) (by decide)) (zfr_w f2 (by decide) (by decide) (by decide)), fun v hv hh => ?_, hb, (f1.1 _ _ (by decide)).trans hs, hs2⟩
  rw [f1.2.1 _ (by decide)] at hh ⊢
  exact si v hv hh
theorem yc_Lf {p d : Nat} (L : yc_L LC LM h g p d) (hd : d < 1000) (O : yc_out P Q h g h' g') : yc_L LC LM h' g' p d := by
  obtain ⟨m, L, l1, l2, l3, l4, l5⟩ := L
  refine ⟨m, L, l1, yc_Af l2 (O.2.1.2.1 _ (by decide)) (O.2.1.2.1 _ (by decide)) (O.2.1.2.1 _ (by decide)), O.2.2.2.2.1.trans l3, l4, fun j hj => ?_⟩
  rw [O.2.2.2.2.2 L.length (L.length - 1 - j) l3 (by omega) (by omega)]
  exact l5 j hj
theorem yc_keep {Pw Qw P1 Q1 : Nat → Prop} (C : yb_cx LC LM nb nf sz F h g) (O : yc_out P1 Q1 h g h' g') (hP : ∀ j, Pw j → j < 32784 ∧ ¬ P1 j) (hQ : ∀ j, Qw j → ¬ Q1 j) {t : zt_T} {x x' e e' : Int32} (A : yb_F F (nb - 1) h g Pw Qw t x x' e e') : yb_F F (nb - 1) h' g' Pw Qw t x x' e e' := by
  obtain ⟨f1, f2, o1, o2, _⟩ := O
  refine yb_Ff ⟨fun j hj => ?_, fun j hj => ?_, fun j _ => ⟨?_, ?_, ?_, ?_, ?_⟩, fun b _ => ?_, yb_bF C⟩ _ _ _ _ _ A
  · obtain ⟨a1, a2, a3, a4⟩ := o1 j (hP j hj).2
    exact ⟨(hP j hj).1, a1, a2, a3, a4, by rw [f1.2.1 _ (by decide)]⟩
  · obtain ⟨a1, a2, a3⟩ := o2 j (hQ j hj)
    exact ⟨a1, fun _ _ => a2, fun _ => a3, by rw [f2.2.1 _ (by decide)], by rw [f2.2.1 _ (by decide)], by rw [f2.2.1 _ (by decide)]⟩
  · rw [f1.2.1 _ (by decide)]
  · rw [f1.2.1 _ (by decide)]
  · rw [f1.2.1 _ (by decide)]
  · rw [f1.2.1 _ (by decide)]
  · rw [f1.2.1 _ (by decide)]
  · rw [f1.2.1 _ (by decide)]
theorem yc_keepC {Pu P1 Q1 : Nat → Prop} (O : yc_out P1 Q1 h g h' g') (hP : ∀ j, Pu j → ¬ P1 j) {t : zt_T} {x y : Int32} (A : zt_C h t Pu x y) : zt_C h' t Pu x y := by
  obtain ⟨f1, f2, o1, o2, _⟩ := O
  refine zt_fr t Pu Pu 0 x y (fun i hi => ?_) (fun i hi => hi) A
  obtain ⟨a1, a2, a3, a4⟩ := o1 i (hP i hi)
  exact ⟨fun kd k up z hz => by unfold zt_NC at hz ⊢; rw [a1, a3, f1.2.1 15 (by decide)]; exact hz, a4, by rw [f1.2.1 _ (by decide)]⟩
end YCO
/-- EXITs that are in no loop here -/
def zg_x : zt_T → Nat
  | .leaf => 0
  | .inner kd _ _ l r => (if kd = 20 then 1 else if kd = 11 ∨ kd = 15 ∨ kd = 16 ∨ kd = 17 then zg_x l else 0) + zg_x r
theorem zg_xap : ∀ t u, zg_x (zt_ap t u) = zg_x t + zg_x u := by
  intro t u
  induction t with
  | leaf => show zg_x u = 0 + zg_x u; omega
  | inner kd kv o l r _ ihr =>
    show (if kd = 20 then 1 else if kd = 11 ∨ kd = 15 ∨ kd = 16 ∨ kd = 17 then zg_x l else 0) + zg_x (zt_ap r u) = (if kd = 20 then 1 else if kd = 11 ∨ kd = 15 ∨ kd = 16 ∨ kd = 17 then zg_x l else 0) + zg_x r + zg_x u
    rw [ihr, Nat.add_assoc]
theorem zg_xl {kd : Nat} {kv : Int32 × Int32} {o : Unit} {l : zt_T} (h : ¬ kd = 20) (e : zg_x l = 0) : zg_x (.inner kd kv o l .leaf) = 0 := by
  show (if kd = 20 then 1 else if kd = 11 ∨ kd = 15 ∨ kd = 16 ∨ kd = 17 then zg_x l else 0) + 0 = 0
  rw [if_neg h, e, ite_self]
theorem zg_xE {kd : Nat} {kv : Int32 × Int32} {o : Unit} {l : zt_T} (h : kd ∈ yb_E) : zg_x (.inner kd kv o l .leaf) = 0 := by
  have ce : ∀ z, z ∈ yb_E → (¬ z = 20 ∧ ¬ (z = 11 ∨ z = 15 ∨ z = 16 ∨ z = 17)) := by decide
  obtain ⟨q1, q2⟩ := ce kd h
  show (if kd = 20 then 1 else if kd = 11 ∨ kd = 15 ∨ kd = 16 ∨ kd = 17 then zg_x l else 0) + 0 = 0
  rw [if_neg q1, if_neg q2]
/-- how many cells a row has -/
def yl_n : zt_T → Nat
  | .leaf => 0
  | .inner kd _ _ _ r => (if kd = 29 then 0 else 1) + yl_n r
def yl_ns : zt_T → List Nat
  | .leaf => []
  | .inner _ _ _ l r => yl_n l :: yl_ns r
/-- no coil in a row; a coil at its end alone -/
def zg_n8 : zt_T → Prop
  | .leaf => True
  | .inner kd _ _ _ r => ¬ kd = 28 ∧ zg_n8 r
def zg_cl : zt_T → Prop
  | .leaf => True
  | .inner kd _ _ _ r => (kd = 28 → r = .leaf) ∧ zg_cl r
def zg_rc : zt_T → Prop
  | .leaf => True
  | .inner _ _ _ l r => zg_cl l ∧ zg_rc r
theorem zg_clap : ∀ w : zt_T, zg_n8 w → ∀ (c : Nat) (kv : Int32 × Int32) (o : Unit) (lc : zt_T), zg_cl (zt_ap w (.inner c kv o lc .leaf)) := by
  intro w
  induction w with
  | leaf => intro _ c kv o lc; exact ⟨fun _ => rfl, trivial⟩
  | inner kd k v l r _ ihr => intro ⟨h1, h2⟩ c kv o lc; exact ⟨fun z => absurd z h1, ihr h2 c kv o lc⟩
theorem zg_n8ap : ∀ w : zt_T, zg_n8 w → ∀ (c : Nat) (kv : Int32 × Int32) (o : Unit) (lc : zt_T), ¬ c = 28 → zg_n8 (zt_ap w (.inner c kv o lc .leaf)) := by
  intro w
  induction w with
  | leaf => intro _ c kv o lc h; exact ⟨h, trivial⟩
  | inner kd k v l r _ ihr => intro ⟨h1, h2⟩ c kv o lc h; exact ⟨h1, ihr h2 c kv o lc h⟩
theorem zg_rcap : ∀ w u : zt_T, zg_rc w → zg_rc u → zg_rc (zt_ap w u) := by
  intro w
  induction w with
  | leaf => intro u _ h; exact h
  | inner kd k v l r _ ihr => intro u ⟨h1, h2⟩ h; exact ⟨h1, ihr u h2 h⟩
/-- the form of a rung -/
def zg_ro (l : zt_T) : Prop := zg_rc l ∧ zt_ln l ≤ 12 ∧ ∃ n0, n0 ≤ 12 ∧ ∀ n, n ∈ yl_ns l → n = n0
def zg_ru : zt_T → Prop
  | .leaf => True
  | .inner kd _ _ l r => (if kd = 23 then zg_ro l else if kd = 22 then zg_ru l else True) ∧ zg_ru r
theorem zg_ruE {kd : Nat} {kv : Int32 × Int32} {o : Unit} {l : zt_T} (h1 : ¬ kd = 23) (h2 : ¬ kd = 22) : zg_ru (.inner kd kv o l .leaf) := by
  refine ⟨?_, trivial⟩
  rw [if_neg h1, if_neg h2]
  trivial
theorem zg_ruap : ∀ w u : zt_T, zg_ru w → zg_ru u → zg_ru (zt_ap w u) := by
  intro w
  induction w with
  | leaf => intro u _ h; exact h
  | inner kd k v l r _ ihr => intro u ⟨h1, h2⟩ h; exact ⟨h1, ihr u h2 h⟩
/-- the own cells are counted; no EXIT without a loop; all rungs have their form -/
def yc_ow (h h' : zs_H) (oc : Nat) (t : zt_T) : Prop := (h'.1 38 10) = nI (oc + yc_o t) ∧ ((h.1 38 12) = 0 → zg_x t = 0) ∧ zg_ru t
def yc_ok (F : Nat → Nat) (bb kd : Nat) (kv : Int32 × Int32) (l : zt_T) (i k : Nat) (P Q : Nat → Prop) (h g h' g' : zs_H) : Prop := yc_out (fun j => P j ∨ j = i) (fun j => Q j ∨ j = k) h g h' g' ∧ yb_F F bb h' g' (fun j => P j ∨ j = i) (fun j => Q j ∨ j = k) (.inner kd kv () l .leaf) (nI i) (nI k) ((h'.2.1 18) i) ((g'.2.1 78) k)
/-- this statement can be visited, wherever it stands -/
def yc_VN (kd : Nat) (kv : Int32 × Int32) (l : zt_T) : Prop := ∀ (LC LM : List (List Int32)) (nb nf sz : Nat) (F : Nat → Nat) (h g : zs_H) (i k up d D D' oc : Nat) (P Q : Nat → Prop) (y : Int32), yb_cx LC LM nb nf sz F h g → yb_nd LC LM h g kd kv l i k up P Q y → up < 33500 → yc_L LC LM h g up d → (∀ j, P j → j < sz) → (h.1 38 10) = nI oc → d + zg_d l ≤ 239 → zg_d l < D → 2 * zg_d l + 2 < D' →
  ∃ h' g', f_Jd_visit D h (nI i) (nI d) = some h' ∧ f_Mo_look D' g (nI k) = some g' ∧ ((zv_Fb h g h' g' ∧ ¬ (h'.1 38 3) = 0 ∧ ¬ (g'.1 68 29) = 0) ∨ (yc_ok F (nb - 1) kd kv l i k P Q h g h' g' ∧ (h'.1 38 3) = 0 ∧ (g'.1 68 29) = 0 ∧ yc_ow h h' oc (.inner kd kv () l .leaf)))
/-- all trees of a forest can be visited -/
def yc_Ph : zt_T → Prop
  | .leaf => True
  | .inner kd kv _ l r => ((kd ∈ yb_E ∧ yb_VN kd kv l ∧ yc_o l = 0) ∨ yc_VN kd kv l) ∧ yc_Ph r
/-- the state of the walk through the children -/
def yc_St (LC LM : List (List Int32)) (nb : Nat) (F : Nat → Nat) (i k oc : Nat) (l : zt_T) (P Q : Nat → Prop) (h1 g1 : zs_H) (u : zt_T) (h g : zs_H) (x x' : Int32) : Prop :=
  ∃ (w : zt_T) (Pw Qw Pu Qu : Nat → Prop) (yu yu' : Int32), l = zt_ap w u ∧ (zt_C h u Pu x yu ∧ zt_M LC LM g u Qu (nI k) x' yu') ∧ ((∀ j, Pu j → P j) ∧ (∀ j, Qu j → Q j) ∧ (∀ j, Pw j → P j ∧ ¬ Pu j) ∧ (∀ j, Qw j → Q j ∧ ¬ Qu j)) ∧ yb_F F (nb - 1) h g Pw Qw w ((h1.2.1 17) i) ((g1.2.1 76) k) x x' ∧ (∀ j, Pu j → (h.2.1 14) j = 0) ∧ yc_out P Q h1 g1 h g ∧ yc_Ph u ∧ (zg_d u ≤ zg_d l ∧ (h.1 38 3) = 0 ∧ (g.1 68 29) = 0) ∧ yc_ow h1 h oc w
section YCS
variable {LC LM : List (List Int32)} {nb nf sz : Nat} {F : Nat → Nat} {h1 g1 h g h' g' : zs_H} {P Q : Nat → Prop}
theorem yc_step {i k ku d D D' c oc : Nat} {l lc r : zt_T} {kv : Int32 × Int32} {o : Unit} {x x' : Int32} (C : yb_cx LC LM nb nf sz F h1 g1) (LL : yc_L LC LM h1 g1 k (d + 1)) (hk : k < 33500) (hP : ∀ j, P j → j < 32784) (hPs : ∀ j, P j → j < sz) (hQ : ∀ j, Q j → j < 33500) (m1 : (g1.2.1 72) k = nI ku) (hku : ku < 100) (h5 : ¬ ku = 5) (h33 : ¬ ku = 33) (hd : d + zg_d l ≤ 239) (hD : zg_d l ≤ D) (hD' : 2 * zg_d l < D') (S : yc_St LC LM nb F i k oc l P Q h1 g1 (.inner c kv o lc r) h g x x') :
    zv_res D D' d sz h1 g1 (yc_St LC LM nb F i k oc l P Q h1 g1 r) h g x x' := by
  obtain ⟨w, Pw, Qw, Pu, Qu, yu, yu', e0, ⟨sC, sM⟩, ⟨p1, p2, p3, p4⟩, A, ty, O, ⟨VN, Ph⟩, ⟨zd, J1, J2⟩, ow⟩ := S
  have C2 : yb_cx LC LM nb nf sz F h g := yc_cxf C O.1 O.2.1
  have zd' : max (zg_d lc + 1) (zg_d r) ≤ zg_d l := Nat.le_trans zg_d1 zd
  obtain ⟨a, P1, P2, z1, z2, ea, a1, a2, a3, a4, a5, a6, a7, a8, a9, a10⟩ := zv_hC sC
  obtain ⟨b, Q1, Q2, z3, eb, b1, b2, b3, b4, b5, b6, b7, b8, b9, b10, b11⟩ := zv_hM sM
  have ha := hP a (p1 a a2)
  have hbb := hQ b (p2 b b2)
  have nd : yb_nd LC LM h g c kv lc a b k P1 Q1 z1 := ⟨⟨ha, hbb, fun z => (a6 a z).2.1 rfl, fun z => (b7 b z).2.1 rfl, fun j hj => hP j (p1 j (a6 j hj).1), fun j hj => hQ j (p2 j (b7 j hj).1)⟩, ⟨a3, a4, a5, ty a a2, fun j hj => ty j (a6 j hj).1⟩, a8, ⟨b3, b4, b5, b6⟩, b9⟩
  -- both kinds of children
  have V : ∃ h' g', f_Jd_visit D h (nI a) (nI (d + 1)) = some h' ∧ f_Mo_look D' g (nI b) = some g' ∧ ((zv_Fb h g h' g' ∧ ¬ (h'.1 38 3) = 0 ∧ ¬ (g'.1 68 29) = 0) ∨ (yc_ok F (nb - 1) c kv lc a b P1 Q1 h g h' g' ∧ (h'.1 38 3) = 0 ∧ (g'.1 68 29) = 0 ∧ yc_ow h h' (oc + yc_o w) (.inner c kv () lc .leaf))) := by
    rcases VN with ⟨cE, VN, zo⟩ | VN
    · obtain ⟨D', rfl⟩ : ∃ z, D' = z + 1 := ⟨D' - 1, by omega⟩
      obtain ⟨h', g', v1, v2, v3⟩ := VN LC LM nb nf sz F h g a b k ku (d + 1) D D' P1 Q1 z1 C2 nd hk (by rw [O.2.1.2.1 _ (by decide)]; exact m1) hku h5 h33 (fun j hj => hPs j (p1 j (a6 j hj).1)) (by omega) (by omega) (by omega)
      refine ⟨h', g', v1, yb_lk1 hbb (fun z => (b7 b z).2.1 rfl) (by omega) v2, ?_⟩
      rcases v3 with v3 | ⟨⟨O2, B⟩, n1, n2⟩
      · exact .inl v3
      · have ce : ∀ z, z ∈ yb_E → (¬ z = 16 ∧ ¬ z = 19 ∧ ¬ z = 22 ∧ ¬ z = 25) := by decide
        obtain ⟨q1, q2, q3, q4⟩ := ce c cE
        have ez : yc_o (.inner c kv () lc .leaf) = 0 := by
          show (if c = 16 ∨ c = 19 then 1 else if c = 22 then 156 else if c = 25 ∧ 2 ≤ kv.2 then 1 else 0) + yc_o lc + 0 = 0
          rw [zo, if_neg (by omega), if_neg q3, if_neg (fun z => q4 z.1)]
        exact .inr ⟨⟨yc_outb O2, B⟩, n1, n2, by rw [O2.1.1 _ _ List.not_mem_nil, ow.1, ez]; rfl, fun _ => zg_xE cE, zg_ruE (fun z => by rw [z] at cE; exact absurd cE (by decide)) q3⟩
    · obtain ⟨h', g', v1, v2, v3⟩ := VN LC LM nb nf sz F h g a b k (d + 1) D D' (oc + yc_o w) P1 Q1 z1 C2 nd hk (yc_Lf LL (by omega) O) (fun j hj => hPs j (p1 j (a6 j hj).1)) ow.1 (by omega) (by omega) (by omega)
      exact ⟨h', g', v1, v2, v3⟩
  obtain ⟨h', g', v1, v2, v3⟩ := V
  refine ⟨a, b, ea, ha, eb, hbb, J1, J2, C2.2.2.2.1, h', g', v1, v2, ?_⟩
  rcases v3 with ⟨⟨X, f1, f2⟩, n1, n2⟩ | ⟨⟨O2, B⟩, n1, n2, ow'⟩
  · exact .inl ⟨⟨X, zfr_trans (zfr_w O.1 (by decide) (by decide) (by decide)) f1, zfr_trans (zfr_w O.2.1 (by decide) (by decide) (by decide)) f2⟩, n1, n2⟩
  · right
    have nx : (h'.2.1 18) a = (h.2.1 18) a := by rw [O2.1.2.1 _ (by decide)]
    have nb' : (g'.2.1 78) b = (g.2.1 78) b := by rw [O2.2.1.2.1 _ (by decide)]
    refine ⟨zt_ap w (.inner c kv o lc .leaf), fun j => Pw j ∨ (P1 j ∨ j = a), fun j => Qw j ∨ (Q1 j ∨ j = b), P2, Q2, z2, z3, ?_, ⟨?_, ?_⟩, ⟨fun j hj => p1 j (a7 j hj).1, fun j hj => p2 j (b8 j hj).1, fun j hj => ?_, fun j hj => ?_⟩, ?_, fun j hj => ?_, ?_, Ph, ⟨by omega, n1, n2⟩, ?_⟩
    · rw [zt_ap_as]; exact e0
    · rw [nx]
      exact yc_keepC O2 (fun j hj z => z.elim (fun z => (a6 j z).2.2 hj) (fun z => (a7 j hj).2 z)) a9
    · rw [nb']
      exact yb_keepM O2.2.1 b10
    · rcases hj with z | z | z
      · exact ⟨(p3 j z).1, fun u => (p3 j z).2 (a7 j u).1⟩
      · exact ⟨p1 j (a6 j z).1, (a6 j z).2.2⟩
      · exact ⟨by rw [z]; exact p1 a a2, fun u => (a7 j u).2 z⟩
    · rcases hj with z | z | z
      · exact ⟨(p4 j z).1, fun u => (p4 j z).2 (b8 j u).1⟩
      · exact ⟨p2 j (b7 j z).1, (b7 j z).2.2⟩
      · exact ⟨by rw [z]; exact p2 b b2, fun u => (b8 j u).2 z⟩
    · have A' := yc_keep C2 O2 (fun j hj => ⟨hP j (p3 j hj).1, fun z => (p3 j hj).2 (z.elim (fun z => (a6 j z).1) (fun z => by rw [z]; exact a2))⟩) (fun j hj z => (p4 j hj).2 (z.elim (fun z => (b7 j z).1) (fun z => by rw [z]; exact b2))) A
      refine yb_ap w _ _ _ _ _ _ _ (yb_Fm (fun _ z => .inl z) (fun _ z => .inl z) _ _ _ _ _ A') ?_
      rw [ea, eb]
      exact yb_Fm (fun _ z => .inr z) (fun _ z => .inr z) _ _ _ _ _ B
    · obtain ⟨t1, t2, _⟩ := O2.2.2.1 j (fun z => z.elim (fun z => (a6 j z).2.2 hj) (fun z => (a7 j hj).2 z))
      rw [t2]; exact ty j (a7 j hj).1
    · exact yc_outm (yc_outt O O2) (fun j z => z.elim id (fun z => z.elim (fun z => p1 j (a6 j z).1) (fun z => by rw [z]; exact p1 a a2))) (fun j z => z.elim id (fun z => z.elim (fun z => p2 j (b7 j z).1) (fun z => by rw [z]; exact p2 b b2)))
    · refine ⟨?_, fun z => ?_, zg_ruap _ _ ow.2.2 ow'.2.2⟩
      · rw [ow'.1, yc_oap]
        exact congrArg nI (Nat.add_assoc oc (yc_o w) (yc_o (.inner c kv () lc .leaf)))
      · rw [zg_xap, ow.2.1 z, ow'.2.1 (O.2.2.2.2.1.trans z)]
/-- the children of a statement -/
theorem yc_kids {i k up d D D' kd oc : Nat} {kv : Int32 × Int32} {l : zt_T} {y : Int32} (hen : f_Jd_enter h (nI i) = some h1) (C : yb_cx LC LM nb nf sz F h1 g) (nd : yb_nd LC LM h1 g kd kv l i k up P Q y) (hkd : zt_km kd = kd ∧ 4 ≤ kd ∧ kd < 100 ∧ ¬ kd = 5 ∧ ¬ kd = 33 ∧ ¬ kd = 35) (LL : yc_L LC LM h1 g k (d + 1)) (Ph : yc_Ph l) (hPs : ∀ j, P j → j < sz) (ow : (h1.1 38 10) = nI oc) (hd : d + zg_d l ≤ 239) (hD : zg_d l ≤ D) (hD' : 2 * zg_d l < D') :
    (∃ h' g', f_Jd_visit (D + 1) h (nI i) (nI d) = some h' ∧ f_Mo_look (D' + 2) g (nI k) = some g' ∧ zv_Fb h1 g h' g' ∧ ¬ (h'.1 38 3) = 0 ∧ ¬ (g'.1 68 29) = 0) ∨
    (∃ h2 g2, f_Jd_visit (D + 1) h (nI i) (nI d) = f_Jd_leave h2 (nI i) ∧ f_Mo_look (D' + 2) g (nI k) = f_Mo_lookAlone_54 g2 (nI k) (nI kd) ∧ yc_out P Q h1 g h2 g2 ∧ yb_F F (nb - 1) h2 g2 P Q l ((h1.2.1 17) i) ((g.2.1 76) k) (-1) (-1) ∧ (h2.1 38 3) = 0 ∧ (g2.1 68 29) = 0 ∧ yc_ow h1 h2 oc l) := by
  have hz := zF_big
  obtain ⟨⟨hi, hk, hPi, hQk, hP, hQ⟩, ⟨c0, c1, c2, c3, c4⟩, cC, ⟨m0, m1, m2, m3⟩, cM⟩ := id nd
  obtain ⟨k1, k2, k3, k4, k5, k6⟩ := hkd
  have hln := yb_ln nd hPs
  rw [k1] at m0
  have J1 : (h1.1 38 3) = 0 := C.1.2.2.2.2.2.2.2.1
  have J2 : (g.1 68 29) = 0 := C.1.2.2.2.2.2.2.2.2
  have hsz : sz < 100000 := by have := C.2.2.2.2; omega
  have eC := zv_vC (D := D) (d := d) (h := h) (i := i) (by omega) hi hen
  have eM := (zv_lM (D' := D') (g := g) (k := k) (kd := kd) hk k3 k6 m0).trans (zv_aM (D' := D') (g := g) (k := k) (kd := kd) hk k3 (.inr k2) m0)
  have S0 : yc_St LC LM nb F i k oc l P Q h1 g l h1 g ((h1.2.1 17) i) ((g.2.1 76) k) := ⟨.leaf, fun _ => False, fun _ => False, P, Q, y, (g.2.1 77) k, rfl, ⟨cC, cM⟩, ⟨fun _ z => z, fun _ z => z, fun _ z => z.elim, fun _ z => z.elim⟩, ⟨rfl, rfl⟩, c4, yc_out0, Ph, ⟨Nat.le_refl _, J1, J2⟩, ow, fun _ => rfl, trivial⟩
  have stp : zv_stp D D' d sz (yc_St LC LM nb F i k oc l P Q h1 g) (zv_Fb h1 g) := by
    intro c kv w lc r h' g' x x' S
    exact yc_step C LL hk hP hPs hQ m0 k3 k4 k5 hd hD hD' S
  have hend : ∀ h' g' x x', yc_St LC LM nb F i k oc l P Q h1 g .leaf h' g' x x' → x = -1 ∧ x' = -1 := by
    intro h' g' x x' S
    obtain ⟨_, _, _, _, _, yu, yu', _, ⟨sC, sM⟩, _⟩ := S
    exact ⟨(show x = -1 ∧ yu = -1 from sC).1, (show x' = -1 ∧ yu' = -1 from sM).1⟩
  rcases zv_fold (i := i) (k := k) (kd := kd) (d := d) (by omega) hsz stp hend l 0 zF zF h1 g _ _ S0 (by omega) (by omega) (by omega) with ⟨h', g', a1, a2, a3, a4, a5⟩ | ⟨h', g', a1, a2, a3⟩
  · exact .inl ⟨h', g', by rw [eC, a1], by rw [eM, a2], a3, a4, a5⟩
  · right
    obtain ⟨w, Pw, Qw, Pu, Qu, yu, yu', e0, _, ⟨_, _, p3, p4⟩, A, _, O, _, ⟨_, n1, n2⟩, ow'⟩ := a1
    rw [zt_ap_leaf] at e0
    subst e0
    refine ⟨h', g', ?_, by rw [eM, a3], O, yb_Fm (fun j z => (p3 j z).1) (fun j z => (p4 j z).1) _ _ _ _ _ A, n1, n2, ow'⟩
    rw [eC, a2]
    unfold f_Jd_visit_74
    rw [if_pos n1, Option.bind_fun_some]
end YCS
end
