/-! The judge: a FOR is visited. -/
theorem yc_VN19 {kv : Int32 × Int32} {l : zt_T} (hA : zg_A 19 (zg_run 19 0 l) = true) (Ph : yc_Ph l) : yc_VN 19 kv l := by
  intro LC LM nb nf sz F h g i k up d D D' oc P Q y C nd hup LL hPs ow hd hD hD'
  obtain ⟨D, rfl⟩ : ∃ z, D = z + 1 := ⟨D - 1, by omega⟩
  obtain ⟨D', rfl⟩ : ∃ z, D' = z + 2 := ⟨D' - 2, by omega⟩
  obtain ⟨⟨hi, hk, hPi, hQk, hP, hQ⟩, ⟨c0, c1, c2, c3, c4⟩, cC, ⟨m0, m1, m2, m3⟩, cM⟩ := id nd
  rw [if_pos (by decide)] at m2
  obtain ⟨c, hc, ec, hw⟩ := yb_nr C m2
  obtain ⟨m, L, l1, l2, l3, l4, l5⟩ := id LL
  have hn : L.length ≤ 239 := by omega
  -- it is entered
  obtain ⟨h1, hh1⟩ : ∃ h1, h1 = zs_uF (zs_uM (zs_uF h 38 10 (nI (oc + 1))) 39 L.length (nI c)) 38 12 (nI (L.length + 1)) := ⟨_, rfl⟩
  have hen : f_Jd_enter h (nI i) = some h1 := by
    unfold f_Jd_enter
    simp (config := { decide := true }) only [if_pos (zi_in (show i < 2147483648 by omega) hi), nI_clamp (show i < 2147483648 by omega), show (h.2.1 13) i = 19 from c0, if_false, if_true, ow, nI_1, l3, if_neg (mt (zc_le (k := 240) (by decide) (show L.length < 2147483648 by omega)).mp (by omega)), if_pos (zi_in (show L.length < 2147483648 by omega) (show L.length < 240 by omega)), nI_clamp (show L.length < 2147483648 by omega), c2, ec, hh1]
  have f01 : zfr yc_f yc_m [] h h1 := by rw [hh1]; exact zfr_F (by decide) (zfr_M (by decide) (zfr_F (by decide) zfr_rfl))
  have A1 : ∀ z j, ¬ z = 39 → h1.2.1 z j = h.2.1 z j := fun z j hz => by rw [hh1]; show (zs_uM (zs_uF h 38 10 (nI (oc + 1))) 39 L.length (nI c)).2.1 z j = _; rw [zu_MM, if_neg (fun u => hz u.1)]; rfl
  have lp1 : (h1.1 38 12) = nI (L.length + 1) := by rw [hh1]; rfl
  have ow1 : (h1.1 38 10) = nI (oc + 1) := by rw [hh1]; rfl
  have ln1 : ∀ j, (h1.2.1 39) j = if j = L.length then nI c else (h.2.1 39) j := fun j => by
    rw [hh1]
    show (zs_uM (zs_uF h 38 10 (nI (oc + 1))) 39 L.length (nI c)).2.1 39 j = _
    rw [zu_MM]
    by_cases z : j = L.length
    · rw [if_pos ⟨rfl, z⟩, if_pos z]
    · rw [if_neg (fun u => z u.2), if_neg z]; rfl
  have C1 : yb_cx LC LM nb nf sz F h1 g := yc_cxf C f01 zfr_rfl
  have e17 : ∀ j, (h1.2.1 17) j = (h.2.1 17) j := fun j => A1 _ _ (by decide)
  have nd1 : yb_nd LC LM h1 g 19 kv l i k up P Q y := by
    refine ⟨nd.1, ⟨by rw [A1 _ _ (by decide)]; exact c0, by rw [A1 _ _ (by decide)]; exact c1, by rw [A1 _ _ (by decide)]; exact c2, by rw [A1 _ _ (by decide)]; exact c3, fun j hj => by rw [A1 _ _ (by decide)]; exact c4 j hj⟩, ?_, nd.2.2.2.1, nd.2.2.2.2⟩
    rw [e17]
    refine zt_fr l P P 0 _ y (fun j _ => ⟨fun kd k up z hz => by unfold zt_NC at hz ⊢; rw [A1 _ _ (by decide), A1 _ _ (by decide), A1 _ _ (by decide)]; exact hz, e17 j, A1 _ _ (by decide)⟩) (fun j hj => hj) cC
  have LL1 : yc_L LC LM h1 g k (d + 1) := by
    refine ⟨m + 1, (g.2.1 74) k :: L, by omega, ⟨hk, up, L, m3, l2, by rw [if_pos (show (g.2.1 72) k = 19 from m0)]⟩, by rw [lp1]; rfl, by show L.length + 1 ≤ d + 1; omega, fun j hj => ?_⟩
    have hj' : j < L.length + 1 := hj
    rw [show ((g.2.1 74) k :: L).length - 1 - j = L.length - j from by show L.length + 1 - 1 - j = _; omega, ln1]
    cases j with
    | zero => rw [if_pos (by omega)]; exact hw
    | succ j => rw [if_neg (by omega), show L.length - (j + 1) = L.length - 1 - j by omega]; exact l5 j (by omega)
  rcases yc_kids (D := D) (D' := D') hen C1 nd1 ⟨rfl, by decide, by decide, by decide, by decide, by decide⟩ LL1 Ph hPs ow1 hd (by omega) (by omega) with ⟨h', g', e1, e2, ⟨X, x1, x2⟩, e4, e5⟩ | ⟨h2, g2, e1, e2, O, A, n1, n2, ow'⟩
  · exact ⟨h', g', e1, e2, .inl ⟨⟨X, zfr_trans (zfr_w f01 (by decide) (by decide) (by decide)) x1, x2⟩, e4, e5⟩⟩
  obtain ⟨i1, i2, i3, i4⟩ := O.2.2.1 i hPi
  rw [e17] at A i4
  -- it is left
  obtain ⟨h3, hh3⟩ : ∃ h3, h3 = zs_uF h2 38 12 (nI L.length) := ⟨_, rfl⟩
  have f23 : zfr yc_f yc_m [] h2 h3 := by rw [hh3]; exact zfr_F (by decide) zfr_rfl
  have A3 : h3.2 = h2.2 := by rw [hh3]; rfl
  have ge : ∀ z, ¬ z ∈ yc_g → g2.2.1 z = g.2.1 z := fun z hz => O.2.1.2.1 z hz
  have C3 : yb_cx LC LM nb nf sz F h3 g2 := yc_cxf (yc_cxf C1 O.1 O.2.1) f23 zfr_rfl
  have lp2 : (h2.1 38 12) = nI (L.length + 1) := O.2.2.2.2.1.trans lp1
  have lp3 : (h3.1 38 12) = nI L.length := by rw [hh3]; rfl
  have f13 : zfr yc_f yc_m [] h h3 := zfr_trans f01 (zfr_trans O.1 f23)
  have LL3 : yc_L LC LM h3 g2 up d := by
    refine ⟨m, L, l1, yc_Af l2 (ge _ (by decide)) (ge _ (by decide)) (ge _ (by decide)), lp3, l4, fun j hj => ?_⟩
    rw [A3, O.2.2.2.2.2 (L.length + 1) (L.length - 1 - j) lp1 (by omega) (by omega), ln1, if_neg (by omega)]
    exact l5 j hj
  obtain ⟨a, b, cc, ka, kb, kc, st, pt⟩ := yc_parts hA A (yb_keepM O.2.1 cM)
  have pt' := pt
  rw [← i4, ← ge 76 (by decide)] at pt'
  obtain ⟨h', g', r1, r2, r3⟩ := yc_forJ (p := kv.1) C3 hh3 lp2 hn hi hk hc hw (i1.trans (by rw [A1 _ _ (by decide)]; exact c0)) (i3.trans (by rw [A1 _ _ (by decide)]; exact c2.trans ec)) (by rw [O.1.2.1 _ (by decide), A1 _ _ (by decide)]; exact c1) (by rw [ge _ (by decide)]; exact m0) (by rw [ge _ (by decide)]) (by rw [ge _ (by decide)]; exact m1 (by decide)) (by rw [ge _ (by decide)]; exact m3) LL3 (by omega) pt'
  refine ⟨h', g', by rw [e1, r1], by rw [e2, r2], ?_⟩
  rcases r3 with Fb | ⟨u, ty, x, u1, u2, u3, u4, u5, u6, u7, u8, u9, N, u10, u11⟩
  · obtain ⟨⟨φ, p, X⟩, f1, f2⟩ := Fb
    have xn := zv_Xn X
    exact .inl ⟨⟨⟨φ, p, X⟩, zfr_trans (zfr_w f13 (by decide) (by decide) (by decide)) f1, zfr_trans (zfr_w O.2.1 (by decide) (by decide) (by decide)) f2⟩, xn.1, xn.2⟩
  · right
    have hb := C.2.2.1
    have E4 : ∀ z j, ¬ j = i → h'.2.1 z j = h2.2.1 z j := fun z j hj => by
      rw [u7]
      unfold yc_W
      rw [zu_MM, if_neg (fun u => hj u.2), zu_MM, if_neg (fun u => hj u.2), A3]
    have G4 : ∀ z j, ¬ j = k → g'.2.1 z j = g2.2.1 z j := fun z j hj => by rw [u8, zu_MM, if_neg (fun u => hj u.2)]
    have f3' : zfr [] [13, 14, 16, 17] [] h3 h' := by rw [u7]; exact zfr_M (by decide) (zfr_M (by decide) zfr_rfl)
    have g2' : zfr [] yc_g [] g2 g' := by rw [u8]; exact zfr_M (by decide) zfr_rfl
    have fh : zfr yc_f yc_m [] h h' := zfr_trans f13 (zfr_w f3' (by decide) (by decide) (by decide))
    have fg : zfr [] yc_g [] g g' := zfr_trans O.2.1 g2'
    have lp' : (h'.1 38 12) = nI L.length := (f3'.1 _ _ List.not_mem_nil).trans lp3
    -- only this FOR's nodes have been written
    have out : yc_out (fun j => P j ∨ j = i) (fun j => Q j ∨ j = k) h g h' g' := by
      refine ⟨fh, fg, fun j hj => ?_, fun j hj => ?_, lp'.trans l3.symm, fun n j q1 q2 q3 => ?_⟩
      · have q1 : ¬ j = i := fun z => hj (.inr z)
        obtain ⟨w1, w2, w3, w4⟩ := O.2.2.1 j (fun z => hj (.inl z))
        exact ⟨by rw [E4 _ _ q1, w1]; exact A1 _ _ (by decide), by rw [E4 _ _ q1, w2]; exact A1 _ _ (by decide), by rw [E4 _ _ q1, w3]; exact A1 _ _ (by decide), by rw [E4 _ _ q1, w4]; exact A1 _ _ (by decide)⟩
      · have q1 : ¬ j = k := fun z => hj (.inr z)
        obtain ⟨w1, w2, w3⟩ := O.2.2.2.1 j (fun z => hj (.inl z))
        exact ⟨by rw [G4 _ _ q1, w1], by rw [G4 _ _ q1, w2], by rw [G4 _ _ q1, w3]⟩
      · have en : n = L.length := by rw [l3] at q1; exact ((nI_eq (by omega) (by omega)).mp q1).symm
        have : (h'.2.1 39) j = (h2.2.1 39) j := by rw [f3'.2.1 _ (by decide), A3]
        rw [this, O.2.2.2.2.2 (L.length + 1) j lp1 (by omega) (by omega), ln1, if_neg (by omega)]
    have C2 : yb_cx LC LM nb nf sz F h2 g2 := yc_cxf C1 O.1 O.2.1
    have A2 : yb_F F (nb - 1) h' g' P Q l ((h.2.1 17) i) ((g.2.1 76) k) (-1) (-1) := by
      refine yb_Ff ⟨fun j hj => ?_, fun j hj => ?_, fun j _ => ⟨?_, ?_, ?_, ?_, ?_⟩, fun b _ => ?_, yb_bF C2⟩ _ _ _ _ _ A
      · have q1 : ¬ j = i := fun z => hPi (by rw [← z]; exact hj)
        exact ⟨hP j hj, E4 _ _ q1, E4 _ _ q1, E4 _ _ q1, E4 _ _ q1, E4 _ _ q1⟩
      · have q1 : ¬ j = k := fun z => hQk (by rw [← z]; exact hj)
        exact ⟨G4 _ _ q1, fun _ _ => G4 _ _ q1, fun _ => G4 _ _ q1, G4 _ _ q1, G4 _ _ q1, G4 _ _ q1⟩
      · rw [f3'.2.1 _ (by decide), A3]
      · rw [f3'.2.1 _ (by decide), A3]
      · rw [f3'.2.1 _ (by decide), A3]
      · rw [f3'.2.1 _ (by decide), A3]
      · rw [f3'.2.1 _ (by decide), A3]
      · rw [f3'.2.1 _ (by decide), A3]
    have ef : (g'.2.1 76) k = (g.2.1 76) k := by rw [fg.2.1 _ (by decide)]
    have ii : ∀ z, ¬ z = 16 → ¬ z = 14 → h'.2.1 z i = h2.2.1 z i := fun z q1 q2 => by
      rw [u7]
      unfold yc_W
      rw [zu_MM, if_neg (fun u => q2 u.1), zu_MM, if_neg (fun u => q1 u.1), A3]
    have tyi : (h'.2.1 14) i = nI ty := by rw [u7]; unfold yc_W; rw [zu_MM, if_pos ⟨rfl, rfl⟩]
    have vai : (h'.2.1 16) i = nI (32 + u) := by rw [u7]; unfold yc_W; rw [zu_MM, if_neg (fun z => absurd z.1 (by decide)), zu_MM, if_pos ⟨rfl, rfl⟩]
    have VV : yb_V F (nb - 1) h' kv.2 u x := by rw [ec]; exact yb_mkV C3.1 hb hc hw u1 u2 u3 u4 f3'
    have FO : yb_fo h' P ((h.2.1 17) i) := by
      obtain ⟨⟨a1, a2, a3⟩, ⟨b1, b2, b3⟩, ⟨d1, d2, d3⟩, _, _, _, _, hst, _⟩ := pt
      have ni : ∀ z, P z → ¬ z = i := fun z hz q => hPi (by rw [← q]; exact hz)
      refine ⟨a, b, cc, st, ⟨a1, a3, by rw [E4 _ _ (ni a a3)]; exact b1, b3, by rw [E4 _ _ (ni b b3)]; exact d1, d3⟩, ?_, u9, N, u10, by rw [E4 _ _ (ni a a3), E4 _ _ (ni b b3)]; exact u11⟩
      unfold zv_kc
      rw [E4 _ _ (ni cc d3), E4 _ _ (ni cc d3)]
      exact hst
    have NN : yb_N F (nb - 1) h' g' P Q 19 kv.2 i k ((h.2.1 17) i) (zt_ln l) := .inl (.inr (.inr (.inr (.inr ⟨rfl, by rw [ii _ (by decide) (by decide)]; exact i1.trans (by rw [A1 _ _ (by decide)]; exact c0), by rw [ii _ (by decide) (by decide)]; exact i4, u, x, ty, VV, vai, tyi, by rw [f3'.2.1 _ (by decide)]; exact u5, ⟨u6.1, by rw [f3'.2.1 _ (by decide)]; exact u6.2⟩, by rw [u8, zu_MM, if_pos ⟨rfl, rfl⟩], FO⟩))))
    refine ⟨⟨out, i, k, (h.2.1 17) i, ⟨.inr rfl, hi, rfl⟩, ⟨.inr rfl, hk, rfl, by rw [fg.2.1 _ (by decide)]; exact m0⟩, yb_Nm (fun _ z => .inl z) (fun _ z => .inl z) NN, by rw [ef]; exact yb_Fm (fun _ z => .inl z) (fun _ z => .inl z) _ _ _ _ _ A2, rfl, rfl⟩, ?_, (g2'.1 _ _ List.not_mem_nil).trans n2, ?_⟩
    · rw [f3'.1 _ _ List.not_mem_nil, hh3]; exact n1
    · refine ⟨?_, fun _ => rfl, zg_ruE (by decide) (by decide)⟩
      rw [f3'.1 _ _ List.not_mem_nil, hh3]
      show (h2.1 38 10) = _
      rw [ow'.1]
      exact congrArg nI (show oc + 1 + yc_o l = oc + (1 + yc_o l + 0) by omega)
