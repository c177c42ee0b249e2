/-! The judge: an expression is visited: names, constants, elements, signs before one, calls. -/
section YBH
variable {LC LM : List (List Int32)} {nb nf sz : Nat} {F : Nat → Nat} {h g h2 g2 h' g' : zs_H} {P Q : Nat → Prop} {i k up d D D' kd : Nat} {kv : Int32 × Int32} {l : zt_T} {y : Int32}
theorem zv_uq {c u : Nat} {q w : Int32} (I : zv_I LC LM nb nf (F nb) F q h g) (hb : 0 < nb) (hc : c < 6000) (hw : zt_nr LC LM (nI c) w) (hu : u < 2147483648) (e : f_Mo_variable g ((g.1 68 54)) w = some (nI u)) : (h.2.1 28) (32 + u) = nI c ∧ ∀ j, F (nb - 1) ≤ j → j < F nb → (h.2.1 28) (32 + j) = nI c → j = u := by
  obtain ⟨HS, HB, HN, HV, HC, HT, HJ, J1, J2⟩ := I
  have V3 : F nb ≤ 5900 := HB.2.1.2.2
  rw [(HJ hb).2] at e
  rcases zv_here HS HB HN hb hc hw with ⟨v, v1, v2, v3, v4, v5⟩ | ⟨z1, z2, _⟩
  · rw [v5] at e
    have ev : v = u := (nI_eq (by omega) hu).mp (Option.some.inj e)
    subst ev
    refine ⟨v3, fun j j1 j2 j3 => ?_⟩
    obtain ⟨c1, a1, a2, a3⟩ := HN.2.2 j j1 j2
    obtain ⟨c2, b1, b2, b3⟩ := HN.2.2 v v1 v2
    have ec1 : c1 = c := by rw [j3] at a2; exact ((nI_eq (by omega) (by omega)).mp a2).symm
    have ec2 : c2 = c := by rw [v3] at b2; exact ((nI_eq (by omega) (by omega)).mp b2).symm
    rw [ec1] at a3
    rw [ec2, a3] at b3
    have := (nI_eq (by omega) (by omega)).mp b3
    omega
  · rw [z2] at e
    exact absurd (Option.some.inj e).symm (zc_m1 (by omega))
/-- what has been written at the node itself -/
theorem yb_fin (C : yb_cx LC LM nb nf sz F h g) (nd : yb_nd LC LM h g kd kv l i k up P Q y) (O : yb_out P Q h g h2 g2) (A : yb_F F (nb - 1) h2 g2 P Q l ((h.2.1 17) i) ((g.2.1 76) k) (-1) (-1)) (W : yb_out (fun j => j = i) (fun j => j = k) h2 g2 h' g') (N : yb_N F (nb - 1) h' g' P Q kd kv.2 i k ((h.2.1 17) i) (zt_ln l)) : yb_ok F (nb - 1) kd kv l i k P Q h g h' g' := by
  obtain ⟨⟨hi, hk, hPi, hQk, hP, hQ⟩, _, _, ⟨m0, _⟩, _⟩ := nd
  have C2 := yb_cxf C O.1 O.2.1
  have A2 := yb_keep C2 W (fun j hj => ⟨hP j hj, fun z => hPi (by rw [← z]; exact hj)⟩) (fun j hj z => hQk (by rw [← z]; exact hj)) A
  have ef : (g'.2.1 76) k = (g.2.1 76) k := by rw [W.2.1.2.1 _ (by decide), O.2.1.2.1 _ (by decide)]
  exact ⟨yb_outt O W, i, k, (h.2.1 17) i, ⟨.inr rfl, hi, rfl⟩, ⟨.inr rfl, hk, rfl, by rw [W.2.1.2.1 _ (by decide), O.2.1.2.1 _ (by decide)]; exact m0⟩, yb_Nm (fun _ z => .inl z) (fun _ z => .inl z) N, by rw [ef]; exact yb_Fm (fun _ z => .inl z) (fun _ z => .inl z) _ _ _ _ _ A2, rfl, rfl⟩
theorem yb_w1 {z v : Int32} {a : Nat} (W : yb_out (fun j => j = i) (fun j => j = k) h g h' g') : yb_out (fun j => j = i) (fun j => j = k) h g (zs_uM h' 14 i z) g' ∧ yb_out (fun j => j = i) (fun j => j = k) h g (zs_uM h' 16 i z) g' ∧ yb_out (fun j => j = i) (fun j => j = k) h g (zs_uM h' 13 i z) g' ∧ yb_out (fun j => j = i) (fun j => j = k) h g (zs_uM h' 17 i z) g' ∧ yb_out (fun j => j = i) (fun j => j = k) h g h' (zs_uM g' 100 k z) ∧ yb_out (fun j => j = i) (fun j => j = k) h g h' (zs_uM g' 101 k z) ∧ yb_out (fun j => j = i) (fun j => j = k) h g h' (zs_uM g' 102 k z) := by
  obtain ⟨f1, f2, o1, o2⟩ := W
  have E : ∀ (c x j : Nat) (hh : zs_H), ¬ j = i → (zs_uM hh c i z).2.1 x j = hh.2.1 x j := fun c x j hh hj => by rw [zu_MM, if_neg (fun u => hj u.2)]
  have G : ∀ (c x j : Nat) (hh : zs_H), ¬ j = k → (zs_uM hh c k z).2.1 x j = hh.2.1 x j := fun c x j hh hj => by rw [zu_MM, if_neg (fun u => hj u.2)]
  refine ⟨⟨zfr_M (by decide) f1, f2, fun j hj => ?_, o2⟩, ⟨zfr_M (by decide) f1, f2, fun j hj => ?_, o2⟩, ⟨zfr_M (by decide) f1, f2, fun j hj => ?_, o2⟩, ⟨zfr_M (by decide) f1, f2, fun j hj => ?_, o2⟩, ⟨f1, zfr_M (by decide) f2, o1, fun j hj => ?_⟩, ⟨f1, zfr_M (by decide) f2, o1, fun j hj => ?_⟩, ⟨f1, zfr_M (by decide) f2, o1, fun j hj => ?_⟩⟩
  · rw [E _ _ _ _ hj, E _ _ _ _ hj, E _ _ _ _ hj, E _ _ _ _ hj]; exact o1 j hj
  · rw [E _ _ _ _ hj, E _ _ _ _ hj, E _ _ _ _ hj, E _ _ _ _ hj]; exact o1 j hj
  · rw [E _ _ _ _ hj, E _ _ _ _ hj, E _ _ _ _ hj, E _ _ _ _ hj]; exact o1 j hj
  · rw [E _ _ _ _ hj, E _ _ _ _ hj, E _ _ _ _ hj, E _ _ _ _ hj]; exact o1 j hj
  · rw [G _ _ _ _ hj, G _ _ _ _ hj, G _ _ _ _ hj]; exact o2 j hj
  · rw [G _ _ _ _ hj, G _ _ _ _ hj, G _ _ _ _ hj]; exact o2 j hj
  · rw [G _ _ _ _ hj, G _ _ _ _ hj, G _ _ _ _ hj]; exact o2 j hj
/-- the name of a node -/
theorem yb_nr (C : yb_cx LC LM nb nf sz F h g) (hw : zt_nr LC LM kv.2 ((g.2.1 74) k)) : ∃ c, c < 6000 ∧ kv.2 = nI c ∧ zt_nr LC LM (nI c) ((g.2.1 74) k) := by
  obtain ⟨c, kk, w1, w2, w3, w4, w5, w6⟩ := id hw
  have hL : LC.length < 6000 := C.1.1.2.2.1
  exact ⟨c, by omega, w1, by rw [← w1]; exact hw⟩
end YBH
/-- a name -/
theorem yb_VN6 (kv : Int32 × Int32) : yb_VN 6 kv .leaf := by
  intro LC LM nb nf sz F h g i k up ku d D D' P Q y C nd hup mu hku h5 h33 hPs hd hD hD'
  obtain ⟨D, rfl⟩ : ∃ z, D = z + 1 := ⟨D - 1, by have : zg_d .leaf = 0 := rfl; omega⟩
  obtain ⟨D', rfl⟩ : ∃ z, D' = z + 1 := ⟨D' - 1, by omega⟩
  have hd0 : zg_d .leaf = 0 := rfl
  obtain ⟨e1, e2⟩ := yb_lf (D := D) (D' := D') (d := d) C nd (.inl rfl) (by omega)
  obtain ⟨⟨hi, hk, hPi, hQk, hP, hQ⟩, ⟨c0, c1, c2, c3, c4⟩, cC, ⟨m0, m1, m2, m3⟩, cM⟩ := id nd
  rw [if_pos (by decide)] at m2
  obtain ⟨c, hc, ec, hw⟩ := yb_nr C m2
  obtain ⟨I, si, hb, _, _⟩ := id C
  have J1 : (h.1 38 3) = 0 := I.2.2.2.2.2.2.2.1
  have J2 : (g.1 68 29) = 0 := I.2.2.2.2.2.2.2.2
  obtain ⟨h', g', v1, v2, v3⟩ := zv_nameE (up := up) (ku := ku) I hb hi hk hc hw c0 (c2.trans ec) m0 rfl m3 hup mu hku h5 h33
  refine ⟨h', g', by rw [e1, zv_lv6 hi c0, v1], yb_lk0 hk (km := 6) (by decide) (by decide) m0 (by rw [e2, zv_54B (by decide) J2, v2]), ?_⟩
  rcases v3 with ⟨φ, f1, f2, Y⟩ | ⟨v, ty, x, x1, x2, x3, x4, x5, x6, x7, x8, x9, x10, x11⟩
  · obtain ⟨X, y1, y2⟩ := zv_YX Y f1 f2 c1 (m1 (by decide))
    have xn := zv_Xn X
    exact .inl ⟨⟨⟨φ, _, X⟩, zfr_w y1 (fun _ z => z) (by decide) (by decide), y2⟩, xn.1, xn.2⟩
  · right
    have V3 : F nb ≤ 5900 := I.2.1.2.1.2.2
    obtain ⟨u1, u2⟩ := zv_uq I hb hc hw (by omega) x6
    have W : yb_out (fun j => j = i) (fun j => j = k) h g h' g' := by
      rw [x4, x5]
      exact (yb_w1 (v := 0) (a := 0) (yb_w1 (v := 0) (a := 0) (yb_w1 (v := 0) (a := 0) (yb_w1 (v := 0) (a := 0) yb_out0).2.1).1).2.2.2.2.1).2.2.2.2.2.1
    have j1 : (h'.1 38 3) = 0 := (W.1.1 _ _ List.not_mem_nil).trans J1
    have j2 : (g'.1 68 29) = 0 := (W.2.1.1 _ _ List.not_mem_nil).trans J2
    have eN : ∀ z, ¬ z ∈ [13, 14, 16, 17] → h'.2.1 z = h.2.1 z := fun z hz => W.1.2.1 z hz
    refine ⟨yb_fin C nd yb_out0 ⟨(show (h.2.1 17) i = -1 ∧ y = -1 from cC).1, (show (g.2.1 76) k = -1 ∧ (g.2.1 77) k = -1 from cM).1⟩ W ?_, j1, j2⟩
    refine .inr ⟨ty, x3, ?_, ?_, .inl ⟨rfl, ?_, v, x, ?_, ?_, ?_, by rw [eN _ (by decide)]; exact (yb_so I hb x1 x2).1 x7, by rw [eN _ (by decide)]; exact x11⟩⟩
    · rw [x4, zu_MM, if_pos ⟨rfl, rfl⟩]
    · rw [x5, zu_MM, if_neg (fun z => absurd z.1 (by decide)), zu_MM, if_pos ⟨rfl, rfl⟩]
    · rw [x4, zu_MM, if_neg (fun z => absurd z.1 (by decide)), zu_MM, if_neg (fun z => absurd z.1 (by decide))]; exact c0
    · rw [show kv.2 = nI c from ec]
      refine ⟨x1, by rw [show nb - 1 + 1 = nb by omega]; exact x2, by rw [eN _ (by decide)]; exact u1, fun j a1 a2 a3 => ?_, by rw [eN _ (by decide)]; exact x10⟩
      rw [show nb - 1 + 1 = nb by omega] at a2
      rw [eN _ (by decide)] at a3
      exact u2 j a1 a2 a3
    · rw [x4, zu_MM, if_neg (fun z => absurd z.1 (by decide)), zu_MM, if_pos ⟨rfl, rfl⟩]
    · rw [x5, zu_MM, if_pos ⟨rfl, rfl⟩]
/-- a constant -/
theorem yb_VN30 {kd : Nat} (hkd : kd = 30 ∨ kd = 31) (kv : Int32 × Int32) : yb_VN kd kv .leaf := by
  intro LC LM nb nf sz F h g i k up ku d D D' P Q y C nd hup mu hku h5 h33 hPs hd hD hD'
  have hd0 : zg_d .leaf = 0 := rfl
  obtain ⟨D, rfl⟩ : ∃ z, D = z + 1 := ⟨D - 1, by omega⟩
  obtain ⟨D', rfl⟩ : ∃ z, D' = z + 1 := ⟨D' - 1, by omega⟩
  obtain ⟨⟨hi, hk, hPi, hQk, hP, hQ⟩, ⟨c0, c1, c2, c3, c4⟩, cC, ⟨m0, m1, m2, m3⟩, cM⟩ := id nd
  have ekm : zt_km kd = kd := by rcases hkd with e | e <;> rw [e] <;> rfl
  have enk : ¬ zt_nk kd = true := by rcases hkd with e | e <;> rw [e] <;> decide
  rw [ekm] at m0
  rw [if_neg enk] at m2
  have J1 : (h.1 38 3) = 0 := C.1.2.2.2.2.2.2.2.1
  have J2 : (g.1 68 29) = 0 := C.1.2.2.2.2.2.2.2.2
  obtain ⟨h', g', v1, v2, v3, v4, v5, v6, v7, v8⟩ := zv_const (D := D) (D' := D') (d := d) (by omega) hi hk hkd c0 (show (h.2.1 17) i = -1 ∧ y = -1 from cC).1 c2 c3 m0 (show (g.2.1 76) k = -1 ∧ (g.2.1 77) k = -1 from cM).1 m2 J1 J2
  rw [zv_lM hk (by omega) (by omega) m0] at v2
  refine ⟨h', g', v1, yb_lk0 hk (km := kd) (by omega) (by omega) m0 v2, .inr ⟨?_, (v7.1 _ _ List.not_mem_nil).trans J1, (v8.1 _ _ List.not_mem_nil).trans J2⟩⟩
  have E7 : ∀ z, ¬ z ∈ [14] → h'.2.1 z = h.2.1 z := fun z hz => v7.2.1 z hz
  have E8 : ∀ z, ¬ z ∈ [100] → g'.2.1 z = g.2.1 z := fun z hz => v8.2.1 z hz
  have W : yb_out (fun j => j = i) (fun j => j = k) h g h' g' := ⟨zfr_w v7 (by decide) (by decide) (by decide), zfr_w v8 (by decide) (by decide) (by decide), fun j hj => ⟨by rw [E7 _ (by decide)], v5 j hj, by rw [E7 _ (by decide)], by rw [E7 _ (by decide)]⟩, fun j hj => ⟨v6 j hj, by rw [E8 _ (by decide)], by rw [E8 _ (by decide)]⟩⟩
  refine yb_fin C nd yb_out0 ⟨(show (h.2.1 17) i = -1 ∧ y = -1 from cC).1, (show (g.2.1 76) k = -1 ∧ (g.2.1 77) k = -1 from cM).1⟩ W ?_
  obtain ⟨ty, t1, t2, t4, t5⟩ : ∃ ty, ty < 3 ∧ (if kd = 31 then (0 : Int32) else if 32767 < kv.2 then 2 else 1) = nI ty ∧ (kd = 30 → ¬ ty = 0) ∧ (kd = 31 → ty = 0) := by
    split
    · exact ⟨0, by decide, rfl, fun z => by omega, fun _ => rfl⟩
    · split
      · exact ⟨2, by decide, rfl, fun _ => by decide, fun z => by omega⟩
      · exact ⟨1, by decide, rfl, fun _ => by decide, fun z => by omega⟩
  exact .inr ⟨ty, t1, by rw [v3, t2], by rw [v4, t2], .inr (.inl ⟨hkd, by rw [E7 _ (by decide)]; exact c0, by rw [E7 _ (by decide)]; exact c2, t4, t5⟩)⟩
