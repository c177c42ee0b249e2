/-! The judge: an array's type. -/
section ZVA
variable {D D' d i k kd sz : Nat} {h g h' g' : zs_H}
theorem zv_stC {a turn N : Nat} (ht : turn < sz) (hsz : sz < 100000) (ha : a < 32784) (J1 : (h.1 38 3) = 0) (es : (h.1 12 6) = nI sz) (e : f_Jd_visit D h (nI a) (nI (d + 1)) = some h') : f_Jd_visit_L26 (f_Jd_visit D) (N + 1) h (nI i) (nI d) (nI a) (nI turn) = f_Jd_visit_L26 (f_Jd_visit D) N h' (nI i) (nI d) ((h'.2.1 18) a) (nI (turn + 1)) := by
  show f_Jd_visit_26 (f_Jd_visit D) (f_Jd_visit_L26 (f_Jd_visit D) N) h (nI i) (nI d) (nI a) (nI turn) = _
  unfold f_Jd_visit_26
  rw [es, if_neg (mt (nI_leI (by omega) (by omega)).mp (by omega)), if_neg (zc_m1 (by omega)), if_pos J1, nI_1, e, Option.bind_some, if_pos (zi_in (by omega) ha), nI_clamp (by omega), nI_1]
theorem zv_stM {b N : Nat} (hb : b < 33500) (J2 : (g.1 68 29) = 0) (e : f_Mo_look D' g (nI b) = some g') : f_Mo_lookAlone_L28 (f_Mo_look D') (N + 1) g (nI k) (nI kd) (nI b) = f_Mo_lookAlone_L28 (f_Mo_look D') N g' (nI k) (nI kd) ((g'.2.1 78) b) := by
  show f_Mo_lookAlone_28 (f_Mo_look D') (f_Mo_lookAlone_L28 (f_Mo_look D') N) g (nI k) (nI kd) (nI b) = _
  unfold f_Mo_lookAlone_28
  rw [if_neg (mt (zc_tl (k := 0) (by decide) (by omega)).mp (by omega)), if_pos J2, e, Option.bind_some, if_pos (zi_in (by omega) hb), nI_clamp (by omega)]
theorem zv_uC {N : Nat} {x1 x2 x4 : Int32} {R : zs_H → Int32 → Int32 → Option zs_H} (x : Int32) : f_Jd_visit_L26 R (N + 1) h x1 x2 x x4 = f_Jd_visit_26 R (f_Jd_visit_L26 R N) h x1 x2 x x4 := rfl
theorem zv_uM {N : Nat} {x1 x2 : Int32} {R : zs_H → Int32 → Option zs_H} (x : Int32) : f_Mo_lookAlone_L28 R (N + 1) g x1 x2 x = f_Mo_lookAlone_28 R (f_Mo_lookAlone_L28 R N) g x1 x2 x := rfl
theorem zv_enC {N : Nat} {x1 x2 x4 : Int32} {R : zs_H → Int32 → Int32 → Option zs_H} : f_Jd_visit_L26 R (N + 1) h x1 x2 (-1) x4 = f_Jd_visit_74 h x1 := by
  rw [zv_uC]
  unfold f_Jd_visit_26
  rw [if_pos rfl, ite_self]
theorem zv_enM {N : Nat} {x1 x2 : Int32} {R : zs_H → Int32 → Option zs_H} : f_Mo_lookAlone_L28 R (N + 1) g x1 x2 (-1) = f_Mo_lookAlone_54 g x1 x2 := by
  rw [zv_uM]
  unfold f_Mo_lookAlone_28
  rw [if_pos (by decide)]
theorem zv_vC {h1 : zs_H} (hd : d ≤ 240) (hi : i < 32784) (hen : f_Jd_enter h (nI i) = some h1) : f_Jd_visit (D + 1) h (nI i) (nI d) = f_Jd_visit_L26 (f_Jd_visit D) zF h1 (nI i) (nI d) ((h1.2.1 17) i) (nI 0) := by
  show g_Jd_visit (f_Jd_visit D) h (nI i) (nI d) = _
  unfold g_Jd_visit
  rw [if_pos ((zc_el (k := 240) (by decide) (by omega)).mpr hd), hen, Option.bind_some, if_pos (zi_in (by omega) hi), nI_clamp (by omega)]
  rfl
theorem zv_aM (hk : k < 33500) (hkd : kd < 100) (hkb : kd = 0 ∨ 4 ≤ kd) (m1 : (g.2.1 72) k = nI kd) : f_Mo_lookAlone (D' + 1) g (nI k) = f_Mo_lookAlone_L28 (f_Mo_look D') zF g (nI k) (nI kd) ((g.2.1 76) k) := by
  show g_Mo_lookAlone (f_Mo_look D') g (nI k) = _
  unfold g_Mo_lookAlone f_Mo_lookAlone_21
  simp only [if_pos (zi_in (show k < 2147483648 by omega) hk), nI_clamp (show k < 2147483648 by omega), m1]
  rcases hkb with z | z
  · rw [if_pos ((zc_el (k := 0) (by decide) (by omega)).mpr (by omega))]
  · rw [if_neg (mt (zc_el (k := 0) (by decide) (by omega)).mp (by omega)), if_pos ((zc_le (k := 4) (by decide) (by omega)).mpr z)]
theorem zv_uL2 {N : Nat} {R A : zs_H → Int32 → Option zs_H} {x1 : Int32} (x : Int32) : f_Mo_look_L2 R A (N + 1) g x1 x = f_Mo_look_2 R A (f_Mo_look_L2 R A N) g x1 x := rfl
theorem zv_uL28 {N : Nat} {R : zs_H → Int32 → Option zs_H} {x1 : Int32} (x : Int32) : f_Mo_look_L28 R (N + 1) g x1 x = f_Mo_look_28 R (f_Mo_look_L28 R N) g x1 x := rfl
theorem zv_lM (hk : k < 33500) (hkd : kd < 100) (h35 : ¬ kd = 35) (m1 : (g.2.1 72) k = nI kd) : f_Mo_look (D' + 2) g (nI k) = f_Mo_lookAlone (D' + 1) g (nI k) := by
  show f_Mo_look_L2 (f_Mo_look (D' + 1)) (f_Mo_lookAlone (D' + 1)) zF g (nI k) (nI k) = _
  rw [show zF = 18446744073709551615 + 1 from rfl, zv_uL2]
  unfold f_Mo_look_2
  rw [if_pos (zi_in (by omega) hk), nI_clamp (by omega), m1, if_neg (fun z => h35 ((zc_eq (k := 35) (by decide) (by omega)).mp z))]
  have : ∀ g2 : zs_H, f_Mo_look_L28 (f_Mo_look (D' + 1)) zF g2 (nI k) (nI k) = some g2 := by
    intro g2
    rw [show zF = 18446744073709551615 + 1 from rfl, zv_uL28]
    unfold f_Mo_look_28
    rw [if_pos rfl]
  rw [show (fun h4 => f_Mo_look_L28 (f_Mo_look (D' + 1)) zF h4 (nI k) (nI k)) = some from funext this, show (some : zs_H → Option zs_H) = fun x => some x from rfl, Option.bind_fun_some]
/-- an array's type: two constants and a type -/
theorem zv_vArray {LC LM : List (List Int32)} {nb nf ns i1 i2 i3 k1 k2 k3 a1 a2 : Nat} {F : Nat → Nat} {q v1 v2 v3 p : Int32} (I : zv_I LC LM nb nf ns F q h g) (hd : d < 240) (hb : 0 < nb) (hsz : 3 ≤ sz) (hsz2 : sz < 100000) (es : (h.1 12 6) = nI sz) (hi : i < 32784) (hk : k < 33500) (hi1 : i1 < 32784) (hi2 : i2 < 32784) (hi3 : i3 < 32784) (hk1 : k1 < 33500) (hk2 : k2 < 33500) (hk3 : k3 < 33500) (hn : ¬ i2 = i1 ∧ ¬ i3 = i1 ∧ ¬ i3 = i2) (ha1 : a1 = 30 ∨ a1 = 31) (ha2 : a2 = 30 ∨ a2 = 31)
    (c0 : (h.2.1 13) i = 9) (c1 : (h.2.1 17) i = nI i1) (n1 : (h.2.1 18) i1 = nI i2) (n2 : (h.2.1 18) i2 = nI i3) (n3 : (h.2.1 18) i3 = -1) (d1 : (h.2.1 13) i1 = nI a1) (d2 : (h.2.1 13) i2 = nI a2) (d3 : (h.2.1 13) i3 = 8) (f1 : (h.2.1 17) i1 = -1) (f2 : (h.2.1 17) i2 = -1) (f3 : (h.2.1 17) i3 = -1) (w1 : (h.2.1 16) i1 = v1) (w2 : (h.2.1 16) i2 = v2) (t1 : (h.2.1 14) i1 = 0) (t2 : (h.2.1 14) i2 = 0) (cp : (h.2.1 15) i = p)
    (m0 : (g.2.1 72) k = 9) (m1 : (g.2.1 76) k = nI k1) (b1 : (g.2.1 78) k1 = nI k2) (b2 : (g.2.1 78) k2 = nI k3) (b3 : (g.2.1 78) k3 = -1) (e1 : (g.2.1 72) k1 = nI a1) (e2 : (g.2.1 72) k2 = nI a2) (e3 : (g.2.1 72) k3 = 8) (g1 : (g.2.1 76) k1 = -1) (g2 : (g.2.1 76) k2 = -1) (g3 : (g.2.1 76) k3 = -1) (u1 : (g.2.1 74) k1 = v1) (u2 : (g.2.1 74) k2 = v2) (u3 : (g.2.1 74) k3 = v3) (mp : (g.2.1 73) k = p) :
    ∃ h' g', f_Jd_visit (D + 2) h (nI i) (nI d) = some h' ∧ f_Mo_look (D' + 4) g (nI k) = some g' ∧ zfr zv_cf (14 :: zv_cm) [] h h' ∧ zfr zv_mf zv_mm [] g g' ∧ (∀ j, ¬ j = i1 → ¬ j = i2 → (h'.2.1 14) j = (h.2.1 14) j) ∧ (∀ j, ¬ j = k1 → ¬ j = k2 → ¬ j = k3 → (g'.2.1 100) j = (g.2.1 100) j) ∧ g'.2.1 101 = g.2.1 101 ∧ g'.2.1 102 = g.2.1 102 ∧
      ((∃ φ, zv_X φ p h' g') ∨ (zv_I LC LM nb nf ns F q h' g' ∧ zfr [] [14] [] h h' ∧ zfr [] [100] [] g g' ∧ ¬ a1 = 31 ∧ ¬ a2 = 31 ∧ ¬ v2.toInt64 - v1.toInt64 < 0 ∧ v2.toInt64 - v1.toInt64 ≤ 255)) := by
  have J1 : (h.1 38 3) = 0 := I.2.2.2.2.2.2.2.1
  have J2 : (g.1 68 29) = 0 := I.2.2.2.2.2.2.2.2
  obtain ⟨h1, x1, y1, y2, y3, y4, y5, y6, y7, y8⟩ := zv_const (D := D) (D' := D') (d := d + 1) (by omega) hi1 hk1 ha1 d1 f1 w1 t1 e1 g1 u1 J1 J2
  have A1 : ∀ z, ¬ z = 14 → h1.2.1 z = h.2.1 z := fun z hz => y7.2.1 z (by simpa using hz)
  have M1 : ∀ z, ¬ z = 100 → x1.2.1 z = g.2.1 z := fun z hz => y8.2.1 z (by simpa using hz)
  have j1 : (h1.1 38 3) = 0 := (y7.1 _ _ List.not_mem_nil).trans J1
  have j2 : (x1.1 68 29) = 0 := (y8.1 _ _ List.not_mem_nil).trans J2
  obtain ⟨h2, x2, z1, z2, z3, z4, z5, z6, z7, z8⟩ := zv_const (D := D) (D' := D') (d := d + 1) (h := h1) (g := x1) (v := v2) (by omega) hi2 hk2 ha2 (by rw [A1 13 (by decide)]; exact d2) (by rw [A1 17 (by decide)]; exact f2) (by rw [A1 16 (by decide)]; exact w2) (by rw [y5 i2 hn.1]; exact t2) (by rw [M1 72 (by decide)]; exact e2) (by rw [M1 76 (by decide)]; exact g2) (by rw [M1 74 (by decide)]; exact u2) j1 j2
  have A2 : ∀ z, ¬ z = 14 → h2.2.1 z = h.2.1 z := fun z hz => (z7.2.1 z (by simpa using hz)).trans (A1 z hz)
  have M2 : ∀ z, ¬ z = 100 → x2.2.1 z = g.2.1 z := fun z hz => (z8.2.1 z (by simpa using hz)).trans (M1 z hz)
  have F2 : zfr [] [14] [] h h2 := zfr_trans y7 z7
  have G2 : zfr [] [100] [] g x2 := zfr_trans y8 z8
  have l1 : (h2.1 38 3) = 0 := (F2.1 _ _ List.not_mem_nil).trans J1
  have l2 : (x2.1 68 29) = 0 := (G2.1 _ _ List.not_mem_nil).trans J2
  obtain ⟨q1, q2⟩ := zv_vType (D := D) (D' := D') (d := d + 1) (h := h2) (g := x2) (v := v3) (by omega) hi3 hk3 l1 l2 (by rw [A2 13 (by decide)]; exact d3) (by rw [A2 17 (by decide)]; exact f3) (by rw [M2 72 (by decide)]; exact e3) (by rw [M2 76 (by decide)]; exact g3) (by rw [M2 74 (by decide)]; exact u3)
  obtain ⟨x3, hx3⟩ : ∃ x3, x3 = zs_uM x2 100 k3 v3 := ⟨_, rfl⟩
  rw [← hx3] at q2
  have G3 : zfr [] [100] [] g x3 := by rw [hx3]; exact zfr_M (by decide) G2
  have M3 : ∀ z, ¬ z = 100 → x3.2.1 z = g.2.1 z := fun z hz => G3.2.1 z (by simpa using hz)
  have l3 : (x3.1 68 29) = 0 := (G3.1 _ _ List.not_mem_nil).trans J2
  have eC : f_Jd_visit (D + 2) h (nI i) (nI d) = f_Jd_judgeArray h2 (nI i) := by
    rw [zv_vC (D := D + 1) (by omega) hi (zv_ent0 hi (by decide) c0 (by decide)), c1, show zF = 18446744073709551612 + 1 + 1 + 1 + 1 from rfl, zv_stC (sz := sz) (by omega) hsz2 hi1 J1 es y1, A1 18 (by decide), n1, zv_stC (sz := sz) (by omega) hsz2 hi2 j1 ((y7.1 _ _ List.not_mem_nil).trans es) z1, A2 18 (by decide), n2, zv_stC (sz := sz) (by omega) hsz2 hi3 l1 ((F2.1 _ _ List.not_mem_nil).trans es) q1, A2 18 (by decide), n3, zv_enC]
    unfold f_Jd_visit_74
    rw [if_pos l1, Option.bind_fun_some, zv_lv9 hi (by rw [A2 13 (by decide)]; exact c0)]
  have eM : f_Mo_look (D' + 4) g (nI k) = f_Mo_lookAtBlocks x3 (nI k) := by
    rw [zv_lM (D' := D' + 2) (kd := 9) hk (by decide) (by decide) m0, zv_aM (D' := D' + 2) (kd := 9) hk (by decide) (by decide) m0, m1, show zF = 18446744073709551612 + 1 + 1 + 1 + 1 from rfl, zv_stM hk1 J2 y2, M1 78 (by decide), b1, zv_stM hk2 j2 z2, M2 78 (by decide), b2, zv_stM hk3 l2 q2, M3 78 (by decide), b3, zv_enM, zv_54B (by decide) l3]
  have I2 : zv_I LC LM nb nf ns F q h2 x3 := zv_Ifr I (zfr_w F2 (by decide) (by decide) (by decide)) (zfr_w G3 (by decide) (by decide) (by decide))
  obtain ⟨h', g', r1, r2, r3⟩ := zv_array (v1 := v1) (v2 := v2) I2 hb hi hk hi1 hi2 hk1 hk2 (show a1 < 100 by omega) (show a2 < 100 by omega) (by rw [A2 17 (by decide)]; exact c1) (by rw [A2 18 (by decide)]; exact n1) (by rw [A2 13 (by decide)]; exact d1) (by rw [A2 13 (by decide)]; exact d2) (by rw [A2 16 (by decide)]; exact w1) (by rw [A2 16 (by decide)]; exact w2) (by rw [M3 72 (by decide)]; exact m0) (by rw [M3 76 (by decide)]; exact m1) (by rw [M3 78 (by decide)]; exact b1) (by rw [M3 72 (by decide)]; exact e1) (by rw [M3 72 (by decide)]; exact e2) (by rw [M3 74 (by decide)]; exact u1) (by rw [M3 74 (by decide)]; exact u2)
  have ty2 : ∀ j, ¬ j = i1 → ¬ j = i2 → (h2.2.1 14) j = (h.2.1 14) j := fun j n1 n2 => (z5 j n2).trans (y5 j n1)
  have ty3 : ∀ j, ¬ j = k1 → ¬ j = k2 → ¬ j = k3 → (x3.2.1 100) j = (g.2.1 100) j := fun j n1 n2 n3 => by
    rw [hx3, zu_MM, if_neg (fun u => n3 u.2)]; exact (z6 j n2).trans (y6 j n1)
  have FF : zfr zv_cf (14 :: zv_cm) [] h h2 := zfr_w F2 (by decide) (by decide) (by decide)
  have GG : zfr zv_mf zv_mm [] g x3 := zfr_w G3 (by decide) (by decide) (by decide)
  rcases r3 with ⟨s1, s2, s3, s4, s5, s6⟩ | Y
  · subst s1; subst s2
    exact ⟨h', g', by rw [eC, r1], by rw [eM, r2], FF, GG, ty2, ty3, M3 101 (by decide), M3 102 (by decide), .inr ⟨I2, F2, G3, s3, s4, s5, s6⟩⟩
  · obtain ⟨Y1, Y2, Y3⟩ := zv_YX Y (by decide) (by decide) (show (h2.2.1 15) i = p by rw [A2 15 (by decide)]; exact cp) (show (x3.2.1 73) k = p by rw [M3 73 (by decide)]; exact mp)
    obtain ⟨o1, o2⟩ := Y
    refine ⟨h', g', by rw [eC, r1], by rw [eM, r2], zfr_trans FF (zfr_w Y2 (fun x hx => hx) (by decide) (by decide)), zfr_trans GG Y3, fun j n1 n2 => ?_, fun j n1 n2 n3 => ?_, ?_, ?_, .inl ⟨16, Y1⟩⟩
    · rw [o1]; exact ty2 j n1 n2
    · rw [o2]; exact ty3 j n1 n2 n3
    · rw [o2]; exact M3 101 (by decide)
    · rw [o2]; exact M3 102 (by decide)
end ZVA
