/-! The judge: signs between two are visited; all expressions. -/
theorem yb_fC {N : Nat} {h : zs_H} {x1 x2 x x4 : Int32} {R : zs_H → Int32 → Int32 → Option zs_H} (hf : ¬ (h.1 38 3) = 0) : f_Jd_visit_L26 R (N + 1) h x1 x2 x x4 = some h := by
  rw [zv_uC]
  unfold f_Jd_visit_26 f_Jd_visit_74
  rw [if_neg hf, if_neg hf, ite_self, ite_self]
/-- a sign between two -/
theorem yb_VN35 {kv : Int32 × Int32} {l : zt_T} (hv : zg_v 35 kv.2) (hA : zg_A 35 (zg_run 35 0 l) = true) (Ph : yb_Ph l) : yb_VN 35 kv l := by
  intro LC LM nb nf sz F h g i k up ku d D D' P Q y C nd hup mu hku h5 h33 hPs hd hD hD'
  obtain ⟨c1', kv1, o1, lc1, c2', kv2, o2, lc2, el, hE1, hE2⟩ := yb_g2 hA
  have hdl : max (zg_d lc1 + 1) (max (zg_d lc2 + 1) 0) ≤ zg_d l := by rw [el]; exact zg_d2 (r := .leaf)
  obtain ⟨D, rfl⟩ : ∃ z, D = z + 1 := ⟨D - 1, by omega⟩
  obtain ⟨D', rfl⟩ : ∃ z, D' = z + 1 := ⟨D' - 1, by omega⟩
  obtain ⟨⟨hi, hk, hPi, hQk, hP, hQ⟩, ⟨c0, c1, c2, c3, c4⟩, cC, ⟨m0, m1, m2, m3⟩, cM⟩ := id nd
  obtain ⟨s, hs, es⟩ : ∃ s, s < 14 ∧ kv.2 = nI s := by
    rcases hv with z | ⟨x, x1, x2, _⟩
    · exact absurd z (by decide)
    · exact ⟨x, x1, x2⟩
  rw [if_neg (by decide)] at m2
  have J1 : (h.1 38 3) = 0 := C.1.2.2.2.2.2.2.2.1
  have J2 : (g.1 68 29) = 0 := C.1.2.2.2.2.2.2.2.2
  have hs2 := C.2.2.2.2
  have hln := yb_ln nd hPs
  have hl2 : zt_ln l = 2 := by rw [el]; rfl
  have hzz : zF = 18446744073709551613 + 1 + 1 + 1 := rfl
  have eC0 := zv_vC (D := D) (d := d) (h := h) (i := i) (by omega) hi (zv_ent0 (kd := 35) hi (by decide) c0 (by decide))
  have S0 : yb_St LC LM nb F i k l P Q h g l h g ((h.2.1 17) i) ((g.2.1 76) k) := ⟨.leaf, fun _ => False, fun _ => False, P, Q, y, (g.2.1 77) k, rfl, ⟨cC, cM⟩, ⟨fun _ z => z, fun _ z => z, fun _ z => z.elim, fun _ z => z.elim⟩, ⟨rfl, rfl⟩, c4, yb_out0, Ph, Nat.le_refl _, J1, J2⟩
  have S0' : yb_St LC LM nb F i k l P Q h g (.inner c1' kv1 o1 lc1 (.inner c2' kv2 o2 lc2 .leaf)) h g ((h.2.1 17) i) ((g.2.1 76) k) := by rw [← el]; exact S0
  obtain ⟨a, b, Q1, a1, a2, a3, a4, _, _, a7, ⟨a8, a9, a10, a11, a12⟩, h1, g1, v1, v2, v3⟩ := yb_stepL (D := D) (D' := D' + 1) C hk hP hPs hQ m0 (by decide) (by decide) (by decide) hd (by omega) (by omega) S0'
  rw [a1, hzz, zv_stC (sz := sz) (by have := hPs a a8; omega) (by omega) a2 J1 a7 v1] at eC0
  rcases v3 with ⟨Fb, n1, n2⟩ | ⟨S1, n1, n2, O1⟩
  · rw [yb_fC n1] at eC0
    exact ⟨h1, g1, eC0, yb_lkm (by omega) (yb_lk35F hk m0 a3 a10 v2 n2), .inl ⟨Fb, n1, n2⟩⟩
  · obtain ⟨a', b', Q2, p1, p2, p3, p4, _, _, p7, ⟨p8, p9, p10, p11, p12⟩, h2, g2, w1, w2, w3⟩ := yb_stepL (D := D) (D' := D') C hk hP hPs hQ m0 (by decide) (by decide) (by decide) hd (by omega) (by omega) S1
    have el2 := yb_lk1 p4 p11 (by omega) w2
    obtain ⟨L1, L2⟩ := yb_last2 (show b < 2147483648 by omega) (by rw [← el]; exact cM) a3
    have gO1 : ∀ z, ¬ z ∈ [100, 101, 102] → g1.2.1 z = g.2.1 z := fun z hz => O1.2.1.2.1 z hz
    have la : (g1.2.1 77) k = nI b' := by rw [gO1 _ (by decide), L1, ← gO1 _ (by decide)]; exact p3
    have ab : (g1.2.1 75) b = nI k := by rw [gO1 _ (by decide)]; exact a12
    rw [p1, zv_stC (sz := sz) (by omega) (by omega) p2 n1 p7 w1] at eC0
    rcases w3 with ⟨Fb, k1, k2⟩ | ⟨S2, k1, k2, O2⟩
    · rw [yb_fC k1] at eC0
      exact ⟨h2, g2, eC0, yb_lkm (by omega) (yb_lk35 hk a4 (by omega) m0 a3 a10 a9 v2 n2 ab la el2 (.inl ⟨k2, rfl⟩)), .inl ⟨Fb, k1, k2⟩⟩
    · obtain ⟨w, Pw, Qw, Pu, Qu, yu, yu', e0, ⟨sC, sM⟩, ⟨_, _, q3, q4⟩, A, _, O, _, _, _, _⟩ := S2
      rw [zt_ap_leaf] at e0
      have ex : (h2.2.1 18) a' = -1 := (show (h2.2.1 18) a' = -1 ∧ yu = -1 from sC).1
      have ex' : (g2.2.1 78) b' = -1 := (show (g2.2.1 78) b' = -1 ∧ yu' = -1 from sM).1
      rw [← e0, ex, ex'] at A
      have A1 : yb_F F (nb - 1) h2 g2 P Q l ((h.2.1 17) i) ((g.2.1 76) k) (-1) (-1) := yb_Fm (fun j z => (q3 j z).1) (fun j z => (q4 j z).1) _ _ _ _ _ A
      have A2 := A1
      rw [el] at A2
      obtain ⟨x, kx, t, x1, x2, x3, x4, x5, x6, x7, x8, x9, B⟩ := yb_first hE1 A2
      obtain ⟨z, kz, tz, z1, z2, z3, z4, z5, z6, z7, z8, z9, _⟩ := yb_first hE2 B
      obtain ⟨i1, i2, i3, i4⟩ := O.2.2.1 i hPi
      have ge : ∀ z, ¬ z ∈ [100, 101, 102] → g2.2.1 z = g.2.1 z := fun z hz => O.2.1.2.1 z hz
      have he : ∀ z, ¬ z ∈ [13, 14, 16, 17] → h2.2.1 z = h.2.1 z := fun z hz => O.1.2.1 z hz
      have hxb : kx = b := by rw [a3] at x6; exact ((nI_eq (by omega) (by omega)).mp x6).symm
      have nxi : ¬ x = i := fun u => hPi (by rw [← u]; exact x1)
      have nzi : ¬ z = i := fun u => hPi (by rw [← u]; exact z1)
      have lst : (g2.2.1 77) k = nI kz := by rw [ge _ (by decide), L1, ← ge _ (by decide), ← hxb]; exact z6
      obtain ⟨h', g', r1, r2, r3⟩ := zv_twoE (p := kv.1) (a := x) (b := z) (ka := kx) (kb := kz) (ta := t) (tb := tz) (s := s) k1 k2 hi hk hs (i3.trans (c2.trans es)) (by rw [he _ (by decide)]; exact c1) (i4.trans x3) x2 z3 z2 x8 x7 z8 z7 (by rw [ge _ (by decide)]; exact m0) (by rw [ge _ (by decide), m2, es]) (by rw [ge _ (by decide)]; exact m1 (by decide)) (by rw [ge _ (by decide)]; exact x6) x5 lst z5 x9 z9
      have eC1 : f_Jd_visit (D + 1) h (nI i) (nI d) = some h' := by
        rw [eC0, ex, zv_enC]
        unfold f_Jd_visit_74
        rw [if_pos k1, Option.bind_fun_some, zv_lv35 hi (i1.trans c0), r1]
      refine ⟨h', g', eC1, yb_lkm (by omega) (yb_lk35 hk a4 (by omega) m0 a3 a10 a9 v2 n2 ab la el2 (.inr ⟨k2, r2⟩)), ?_⟩
      have ht := zv_ty2lt (s := s) x7 z7
      rcases r3 with ⟨X, f1, f2⟩ | ⟨⟨eg, nbad⟩, r3⟩
      · obtain ⟨φ, p, X⟩ := X
        have xn := zv_Xn X
        exact .inl ⟨⟨⟨φ, p, X⟩, zfr_trans (zfr_w O.1 (by decide) (by decide) (by decide)) f1, zfr_trans (zfr_w O.2.1 (by decide) (by decide) (by decide)) f2⟩, xn.1, xn.2⟩
      · right
        have tyM : (g'.2.1 100) k = nI (zv_ty2 t tz s) := by rw [eg, zu_MM, if_pos ⟨rfl, rfl⟩]
        have tt2 : ∀ W : yb_out (fun j => j = i) (fun j => j = k) h2 g2 h' g', yb_t2 h' s (zv_ty2 t tz s) x z := by
          intro W e
          rw [(W.2.2.1 x nxi).2.1, (W.2.2.1 z nzi).2.1, x8, z8]
          unfold zv_ty2 at e
          unfold zv_bad2 at nbad
          by_cases q : 2 < s ∧ s < 9
          · exact .inl q
          · rw [if_neg q] at e
            have e1 : t = 0 := by omega
            have e2 : tz = 0 := by omega
            refine .inr ⟨by omega, ?_, ?_⟩
            · rw [e1]; rfl
            · rw [e2]; rfl
        rcases r3 with ⟨v, y1, y2, y3⟩ | ⟨y1, y3⟩
        · have W : yb_out (fun j => j = i) (fun j => j = k) h2 g2 h' g' := by
            rw [y3, eg]
            exact yb_foW (yb_W5 _ (yb_W1 _ yb_out0))
          obtain ⟨u1, _, u3, _⟩ := W.2.2.1 x nxi
          obtain ⟨t1, _, t3, _⟩ := W.2.2.1 z nzi
          refine ⟨yb_fin C nd O A1 W ?_, (W.1.1 _ _ List.not_mem_nil).trans k1, (W.2.1.1 _ _ List.not_mem_nil).trans k2⟩
          refine .inr ⟨zv_ty2 t tz s, ht, ?_, tyM, .inr (.inr (.inr (.inr (.inr (.inr (.inl ⟨rfl, s, x, z, hs, es, x3, x1, ?_, ⟨z1, tt2 W⟩, .inl ⟨?_, ?_, ?_⟩⟩))))))⟩
          · rw [y3, yb_foK.2.2, zu_MM, if_pos ⟨rfl, rfl⟩]
          · rw [W.1.2.1 _ (by decide)]; exact z3
          · unfold zv_kc; rw [u1, t1, t3]; exact y1
          · rw [y3]; exact yb_foK.1
          · rw [u3, t3, y2, y3, yb_foK.2.1]
        · have W : yb_out (fun j => j = i) (fun j => j = k) h2 g2 h' g' := by
            rw [y3, eg]
            exact yb_W5 _ (yb_W1 _ yb_out0)
          obtain ⟨u1, _, u3, _⟩ := W.2.2.1 x nxi
          obtain ⟨t1, _, t3, _⟩ := W.2.2.1 z nzi
          refine ⟨yb_fin C nd O A1 W ?_, (W.1.1 _ _ List.not_mem_nil).trans k1, (W.2.1.1 _ _ List.not_mem_nil).trans k2⟩
          refine .inr ⟨zv_ty2 t tz s, ht, ?_, tyM, .inr (.inr (.inr (.inr (.inr (.inr (.inl ⟨rfl, s, x, z, hs, es, x3, x1, ?_, ⟨z1, tt2 W⟩, .inr ⟨?_, ?_, ?_, ?_⟩⟩))))))⟩
          · rw [y3, zu_MM, if_pos ⟨rfl, rfl⟩]
          · rw [W.1.2.1 _ (by decide)]; exact z3
          · unfold zv_kc; rw [u1, t1, t3]; exact y1
          · rw [y3, zu_MM, if_neg (fun z => absurd z.1 (by decide))]; exact i1.trans c0
          · rw [y3, zu_MM, if_neg (fun z => absurd z.1 (by decide))]; exact i3.trans c2
          · rw [y3, zu_MM, if_neg (fun z => absurd z.1 (by decide))]; exact i4
/-- all expressions can be visited -/
theorem yb_all : ∀ t : zt_T, zg_ok t → yb_top t → yb_Ph t := by
  intro t
  induction t with
  | leaf => intro _ _; trivial
  | inner kd kv o l r ihl ihr =>
    intro ⟨⟨hA, hv⟩, okl, okr⟩ ⟨hE, tr⟩
    refine ⟨⟨hE, ?_⟩, ihr okr tr⟩
    have cs : kd = 6 ∨ kd = 30 ∨ kd = 31 ∨ kd = 32 ∨ kd = 33 ∨ kd = 34 ∨ kd = 35 ∨ kd = 36 := by
      simp only [yb_E, List.mem_cons, List.not_mem_nil, or_false] at hE
      exact hE
    rcases cs with e | e | e | e | e | e | e | e <;> subst e
    · rw [zv_nolf (kd := 6) (by decide +kernel) hA]; exact yb_VN6 kv
    · rw [zv_nolf (kd := 30) (by decide +kernel) hA]; exact yb_VN30 (.inl rfl) kv
    · rw [zv_nolf (kd := 31) (by decide +kernel) hA]; exact yb_VN30 (.inr rfl) kv
    · obtain ⟨c, kvc, o', lc, el, hc⟩ := yb_g1 (.inl rfl) hA
      exact yb_VN32 hA (ihl okl (by rw [el]; exact ⟨hc, trivial⟩))
    · exact yb_VN33 okl hA
    · exact yb_VN34 hA (ihl okl (yb_g34 hA))
    · obtain ⟨c, kvc, o', lc, c2, kv2, o2, lc2, el, hc, hc2⟩ := yb_g2 hA
      exact yb_VN35 hv hA (ihl okl (by rw [el]; exact ⟨hc, hc2, trivial⟩))
    · obtain ⟨c, kvc, o', lc, el, hc⟩ := yb_g1 (.inr rfl) hA
      exact yb_VN36 hv hA (ihl okl (by rw [el]; exact ⟨hc, trivial⟩))
