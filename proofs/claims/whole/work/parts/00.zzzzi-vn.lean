/-! The judge: an expression is visited: elements, signs before one. -/
section YBI
variable {LC LM : List (List Int32)} {nb nf sz : Nat} {F : Nat → Nat} {h g h2 g2 h' g' : zs_H} {P Q : Nat → Prop} {i k up d D D' kd bb : Nat} {kv : Int32 × Int32} {l : zt_T} {y : Int32}
theorem yb_first {c : Nat} {kvc : Int32 × Int32} {o : Unit} {lc r : zt_T} {x x' e e' : Int32} (hc : c ∈ yb_E) (A : yb_F F bb h g P Q (.inner c kvc o lc r) x x' e e') : ∃ a ka t, P a ∧ a < 32784 ∧ x = nI a ∧ Q ka ∧ ka < 33500 ∧ x' = nI ka ∧ t < 3 ∧ (h.2.1 14) a = nI t ∧ (g.2.1 100) ka = nI t ∧ yb_F F bb h g P Q r ((h.2.1 18) a) ((g.2.1 78) ka) e e' := by
  obtain ⟨a, ka, xl, ⟨a1, a2, a3⟩, ⟨b1, b2, b3, _⟩, N, _, B⟩ := A
  rcases N with N | ⟨t, t1, t2, t3, _⟩
  · exact absurd hc (yb_SE N)
  · exact ⟨a, ka, t, a1, a2, a3, b1, b2, b3, t1, t2, t3, B⟩
theorem yb_foK {v : Int32} : ((zv_fo i v h).2.1 13) i = 30 ∧ ((zv_fo i v h).2.1 16) i = v ∧ ((zv_fo i v h).2.1 14) i = (h.2.1 14) i := by
  unfold zv_fo
  refine ⟨?_, ?_, ?_⟩
  · rw [zu_MM, if_neg (fun z => absurd z.1 (by decide)), zu_MM, if_neg (fun z => absurd z.1 (by decide)), zu_MM, if_pos ⟨rfl, rfl⟩]
  · rw [zu_MM, if_neg (fun z => absurd z.1 (by decide)), zu_MM, if_pos ⟨rfl, rfl⟩]
  · rw [zu_MM, if_neg (fun z => absurd z.1 (by decide)), zu_MM, if_neg (fun z => absurd z.1 (by decide)), zu_MM, if_neg (fun z => absurd z.1 (by decide))]
theorem yb_foW {v : Int32} (W : yb_out (fun j => j = i) (fun j => j = k) h g h' g') : yb_out (fun j => j = i) (fun j => j = k) h g (zv_fo i v h') g' := (yb_w1 (v := 0) (a := 0) (yb_w1 (v := 0) (a := 0) (yb_w1 (v := 0) (a := 0) W).2.2.1).2.1).2.2.2.1
theorem yb_W1 (z : Int32) (W : yb_out (fun j => j = i) (fun j => j = k) h g h' g') : yb_out (fun j => j = i) (fun j => j = k) h g (zs_uM h' 14 i z) g' := (yb_w1 (v := 0) (a := 0) W).1
theorem yb_W2 (z : Int32) (W : yb_out (fun j => j = i) (fun j => j = k) h g h' g') : yb_out (fun j => j = i) (fun j => j = k) h g (zs_uM h' 16 i z) g' := (yb_w1 (v := 0) (a := 0) W).2.1
theorem yb_W3 (z : Int32) (W : yb_out (fun j => j = i) (fun j => j = k) h g h' g') : yb_out (fun j => j = i) (fun j => j = k) h g (zs_uM h' 13 i z) g' := (yb_w1 (v := 0) (a := 0) W).2.2.1
theorem yb_W5 (z : Int32) (W : yb_out (fun j => j = i) (fun j => j = k) h g h' g') : yb_out (fun j => j = i) (fun j => j = k) h g h' (zs_uM g' 100 k z) := (yb_w1 (v := 0) (a := 0) W).2.2.2.2.1
theorem yb_W6 (z : Int32) (W : yb_out (fun j => j = i) (fun j => j = k) h g h' g') : yb_out (fun j => j = i) (fun j => j = k) h g h' (zs_uM g' 101 k z) := (yb_w1 (v := 0) (a := 0) W).2.2.2.2.2.1
theorem yb_W7 (z : Int32) (W : yb_out (fun j => j = i) (fun j => j = k) h g h' g') : yb_out (fun j => j = i) (fun j => j = k) h g h' (zs_uM g' 102 k z) := (yb_w1 (v := 0) (a := 0) W).2.2.2.2.2.2
/-- the variable that the judge has found -/
theorem yb_mkV {c u x : Nat} {q w : Int32} (I : zv_I LC LM nb nf (F nb) F q h g) (hb : 0 < nb) (hc : c < 6000) (hw : zt_nr LC LM (nI c) w) (u1 : F (nb - 1) ≤ u) (u2 : u < F nb) (e : f_Mo_variable g ((g.1 68 54)) w = some (nI u)) (hx : (h.2.1 32) (32 + u) = nI x) (f : zfr [] [13, 14, 16, 17] [] h h') : yb_V F (nb - 1) h' (nI c) u x := by
  have V3 : F nb ≤ 5900 := I.2.1.2.1.2.2
  obtain ⟨w1, w2⟩ := zv_uq I hb hc hw (by omega) e
  refine ⟨u1, by rw [show nb - 1 + 1 = nb by omega]; exact u2, by rw [f.2.1 _ (by decide)]; exact w1, fun j a1 a2 a3 => ?_, by rw [f.2.1 _ (by decide)]; exact hx⟩
  rw [show nb - 1 + 1 = nb by omega] at a2
  rw [f.2.1 _ (by decide)] at a3
  exact w2 j a1 a2 a3
end YBI
/-- an element -/
theorem yb_VN32 {kv : Int32 × Int32} {l : zt_T} (hA : zg_A 32 (zg_run 32 0 l) = true) (Ph : yb_Ph l) : yb_VN 32 kv l := by
  intro LC LM nb nf sz F h g i k up ku d D D' P Q y C nd hup mu hku h5 h33 hPs hd hD hD'
  obtain ⟨D, rfl⟩ : ∃ z, D = z + 1 := ⟨D - 1, by omega⟩
  obtain ⟨D', rfl⟩ : ∃ z, D' = z + 2 := ⟨D' - 2, by omega⟩
  obtain ⟨⟨hi, hk, hPi, hQk, hP, hQ⟩, ⟨c0, c1, c2, c3, c4⟩, cC, ⟨m0, m1, m2, m3⟩, cM⟩ := id nd
  rcases yb_kids (D := D) (D' := D') C nd (.inl rfl) Ph hPs hd (by omega) (by omega) with ⟨h', g', e1, e2, e3, e4, e5⟩ | ⟨h2, g2, e1, e2, O, A, n1, n2⟩
  · exact ⟨h', g', e1, yb_lk0 hk (km := 32) (by decide) (by decide) m0 e2, .inl ⟨e3, e4, e5⟩⟩
  · obtain ⟨c', kvc, o, lc, el, hcE⟩ := yb_g1 (.inl rfl) hA
    have A' := A
    rw [el] at A'
    obtain ⟨a, ka, t, a1, a2, a3, b1, b2, b3, t1, t2, t3, _⟩ := yb_first hcE A'
    rw [if_pos (by decide)] at m2
    obtain ⟨c, hc, ec, hw⟩ := yb_nr C m2
    have C2 := yb_cxf C O.1 O.2.1
    obtain ⟨i1, i2, i3, i4⟩ := O.2.2.1 i hPi
    have ge : ∀ z, ¬ z ∈ [100, 101, 102] → g2.2.1 z = g.2.1 z := fun z hz => O.2.1.2.1 z hz
    have he : ∀ z, ¬ z ∈ [13, 14, 16, 17] → h2.2.1 z = h.2.1 z := fun z hz => O.1.2.1 z hz
    have hb := C.2.2.1
    obtain ⟨h', g', v1, v2, v3⟩ := zv_elemE (p := kv.1) (a := a) (ka := ka) (tc := t) C2.1 hb hi hk hc hw (i1.trans c0) (i3.trans (c2.trans ec)) (by rw [he _ (by decide)]; exact c1) (i4.trans a3) a2 (fun z => hPi (by rw [← z]; exact a1)) t2 t1 (by rw [ge _ (by decide)]; exact m0) (by rw [ge _ (by decide)]) (by rw [ge _ (by decide)]; exact m1 (by decide)) (by rw [ge _ (by decide)]; exact b3) b2 t3
    have el2 : f_Mo_lookAlone (D' + 2) g (nI k) = some g' := by rw [e2, v2]
    refine ⟨h', g', by rw [e1, zv_lv32 hi (i1.trans c0), v1], yb_lk0 hk (km := 32) (by decide) (by decide) m0 el2, ?_⟩
    rcases v3 with ⟨X, f1, f2⟩ | ⟨u, ty, x, x1, x2, x3, x4, x5, x6, x7, x8, x9, x10, x11, x12⟩
    · obtain ⟨φ, p, X⟩ := X
      have xn := zv_Xn X
      exact .inl ⟨⟨⟨φ, p, X⟩, zfr_trans (zfr_w O.1 (by decide) (by decide) (by decide)) f1, zfr_trans (zfr_w O.2.1 (by decide) (by decide) (by decide)) f2⟩, xn.1, xn.2⟩
    · right
      have W : yb_out (fun j => j = i) (fun j => j = k) h2 g2 h' g' := by
        rw [x5, x6]
        exact yb_W6 _ (yb_W5 _ (yb_W1 _ (yb_W2 _ yb_out0)))
      refine ⟨yb_fin C nd O A W ?_, (W.1.1 _ _ List.not_mem_nil).trans n1, (W.2.1.1 _ _ List.not_mem_nil).trans n2⟩
      refine .inr ⟨ty, x3, ?_, ?_, .inr (.inr (.inl ⟨rfl, ?_, ?_, u, x, ?_, ?_, ?_, by rw [W.1.2.1 _ (by decide)]; exact (yb_so C2.1 hb x1 x2).2 x8, by rw [W.1.2.1 _ (by decide)]; exact x12⟩))⟩
      · rw [x5, zu_MM, if_pos ⟨rfl, rfl⟩]
      · rw [x6, zu_MM, if_neg (fun z => absurd z.1 (by decide)), zu_MM, if_pos ⟨rfl, rfl⟩]
      · rw [x5, zu_MM, if_neg (fun z => absurd z.1 (by decide)), zu_MM, if_neg (fun z => absurd z.1 (by decide))]; exact i1.trans c0
      · rw [x5, zu_MM, if_neg (fun z => absurd z.1 (by decide)), zu_MM, if_neg (fun z => absurd z.1 (by decide))]; exact i4
      · rw [show kv.2 = nI c from ec]
        exact yb_mkV C2.1 hb hc hw x1 x2 x7 x11 W.1
      · rw [x5, zu_MM, if_neg (fun z => absurd z.1 (by decide)), zu_MM, if_pos ⟨rfl, rfl⟩]
      · rw [x6, zu_MM, if_pos ⟨rfl, rfl⟩]
/-- a sign before one -/
theorem yb_VN36 {kv : Int32 × Int32} {l : zt_T} (hv : zg_v 36 kv.2) (hA : zg_A 36 (zg_run 36 0 l) = true) (Ph : yb_Ph l) : yb_VN 36 kv l := by
  intro LC LM nb nf sz F h g i k up ku d D D' P Q y C nd hup mu hku h5 h33 hPs hd hD hD'
  obtain ⟨D, rfl⟩ : ∃ z, D = z + 1 := ⟨D - 1, by omega⟩
  obtain ⟨D', rfl⟩ : ∃ z, D' = z + 2 := ⟨D' - 2, by omega⟩
  obtain ⟨⟨hi, hk, hPi, hQk, hP, hQ⟩, ⟨c0, c1, c2, c3, c4⟩, cC, ⟨m0, m1, m2, m3⟩, cM⟩ := id nd
  obtain ⟨s, hs, es⟩ : ∃ s, s < 2 ∧ kv.2 = nI s := by
    rcases hv with z | ⟨x, x1, x2, _⟩
    · exact absurd z (by decide)
    · exact ⟨x, x1, x2⟩
  rcases yb_kids (D := D) (D' := D') C nd (.inr (.inr rfl)) Ph hPs hd (by omega) (by omega) with ⟨h', g', e1, e2, e3, e4, e5⟩ | ⟨h2, g2, e1, e2, O, A, n1, n2⟩
  · exact ⟨h', g', e1, yb_lk0 hk (km := 36) (by decide) (by decide) m0 e2, .inl ⟨e3, e4, e5⟩⟩
  · obtain ⟨c', kvc, o, lc, el, hcE⟩ := yb_g1 (.inr rfl) hA
    have A' := A
    rw [el] at A'
    obtain ⟨a, ka, t, a1, a2, a3, b1, b2, b3, t1, t2, t3, _⟩ := yb_first hcE A'
    rw [if_neg (by decide)] at m2
    obtain ⟨i1, i2, i3, i4⟩ := O.2.2.1 i hPi
    have ge : ∀ z, ¬ z ∈ [100, 101, 102] → g2.2.1 z = g.2.1 z := fun z hz => O.2.1.2.1 z hz
    have he : ∀ z, ¬ z ∈ [13, 14, 16, 17] → h2.2.1 z = h.2.1 z := fun z hz => O.1.2.1 z hz
    have nai : ¬ a = i := fun z => hPi (by rw [← z]; exact a1)
    obtain ⟨h', g', v1, v2, v3⟩ := zv_oneE (p := kv.1) (a := a) (ka := ka) (ta := t) (s := s) n1 n2 hi hk hs (i3.trans (c2.trans es)) (by rw [he _ (by decide)]; exact c1) (i4.trans a3) a2 nai t2 t1 (by rw [ge _ (by decide)]; exact m0) (by rw [ge _ (by decide), m2, es]) (by rw [ge _ (by decide)]; exact m1 (by decide)) (by rw [ge _ (by decide)]; exact b3) b2 t3
    have el2 : f_Mo_lookAlone (D' + 2) g (nI k) = some g' := by rw [e2, v2]
    refine ⟨h', g', by rw [e1, zv_lv36 hi (i1.trans c0), v1], yb_lk0 hk (km := 36) (by decide) (by decide) m0 el2, ?_⟩
    rcases v3 with ⟨X, f1, f2⟩ | ⟨⟨eg, n0⟩, v3⟩
    · obtain ⟨φ, p, X⟩ := X
      have xn := zv_Xn X
      exact .inl ⟨⟨⟨φ, p, X⟩, zfr_trans (zfr_w O.1 (by decide) (by decide) (by decide)) f1, zfr_trans (zfr_w O.2.1 (by decide) (by decide) (by decide)) f2⟩, xn.1, xn.2⟩
    · right
      have tyM : (g'.2.1 100) k = nI t := by rw [eg, zu_MM, if_pos ⟨rfl, rfl⟩]
      rcases v3 with ⟨x1, x2⟩ | ⟨x1, x2⟩
      · have W : yb_out (fun j => j = i) (fun j => j = k) h2 g2 h' g' := by
          rw [x2, eg]
          exact yb_foW (yb_W5 _ (yb_W1 _ yb_out0))
        obtain ⟨w1, w2, w3, w4⟩ := W.2.2.1 a nai
        refine ⟨yb_fin C nd O A W ?_, (W.1.1 _ _ List.not_mem_nil).trans n1, (W.2.1.1 _ _ List.not_mem_nil).trans n2⟩
        refine .inr ⟨t, t1, ?_, tyM, .inr (.inr (.inr (.inr (.inr (.inr (.inr ⟨rfl, s, a, hs, es, a3, ⟨a1, fun z => by omega⟩, .inl ⟨?_, ?_, ?_⟩⟩))))))⟩
        · rw [x2, yb_foK.2.2, zu_MM, if_pos ⟨rfl, rfl⟩]
        · unfold zv_kc; rw [w1]; exact x1
        · rw [x2]; exact yb_foK.1
        · rw [w3, x2, yb_foK.2.1]
      · have W : yb_out (fun j => j = i) (fun j => j = k) h2 g2 h' g' := by
          rw [x2, eg]
          exact yb_W5 _ (yb_W1 _ yb_out0)
        obtain ⟨w1, w2, w3, w4⟩ := W.2.2.1 a nai
        refine ⟨yb_fin C nd O A W ?_, (W.1.1 _ _ List.not_mem_nil).trans n1, (W.2.1.1 _ _ List.not_mem_nil).trans n2⟩
        refine .inr ⟨t, t1, ?_, tyM, .inr (.inr (.inr (.inr (.inr (.inr (.inr ⟨rfl, s, a, hs, es, a3, ⟨a1, fun z => by omega⟩, .inr ⟨?_, ?_, ?_, ?_⟩⟩))))))⟩
        · rw [x2, zu_MM, if_pos ⟨rfl, rfl⟩]
        · unfold zv_kc; rw [w1]; exact x1
        · rw [x2, zu_MM, if_neg (fun z => absurd z.1 (by decide))]; exact i1.trans c0
        · rw [x2, zu_MM, if_neg (fun z => absurd z.1 (by decide))]; exact i3.trans c2
        · rw [x2, zu_MM, if_neg (fun z => absurd z.1 (by decide))]; exact i4
