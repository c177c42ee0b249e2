/-! The reading once more: how many nodes a text has. -/
section ZF2
variable {h0 g0 h g : zs_H} {T : Nat → Int32} {n K : Nat} {LC LM : List (List Int32)} {j s m : Nat} {y : Int32} {u : zt_T}
theorem jp_textL : ∀ (r N N' : Nat) {c : Nat} {y : Int32} {u : zt_T} {LM : List (List Int32)} {j s m : Nat} {h g : zs_H}, zk_R h0 g0 T n K LC u y LM j s m h g → K < j + r → r + 2 ≤ N → r + 2 ≤ N' → c ≤ j → zq_vl y → ∃ φ h' g', f_Ps_parse_L64 N h 0 y (nI c) = some (nI φ, h') ∧ f_Mo_readText_L57 N' g 0 = some (nI φ, g') ∧ φ < 1000 ∧ zq_f h0 h' ∧ zfr zx_fs2 zx_ms2 [] g0 g' ∧ (φ = 0 → ∃ t LM s m, zk_TX LC LM t s m h' g' ∧ m ≤ 1 + 2 * K) ∧ (¬ φ = 0 → (h'.1 19 0) = (g'.1 68 11)) := by
  intro r
  induction r with
  | zero => intro N N' c y u LM j s m h g R hr; have := zk_bK R.1; omega
  | succ r ih =>
    intro N N' c y u LM j s m h g R hr hN hN' hc vy
    obtain ⟨N, rfl⟩ : ∃ z, N = z + 3 := ⟨N - 3, by omega⟩
    obtain ⟨N', rfl⟩ : ∃ z, N' = z + 3 := ⟨N' - 3, by omega⟩
    obtain ⟨L, ⟨c1, c2, c3, c4, c5⟩, ⟨m1, m2, m3, m4, m5, m6⟩, ⟨w1, w1b⟩, w2, ⟨n1, n2, n3, n4⟩⟩ := R
    have bK := zk_bK L
    obtain ⟨x1, x2, x3, x4, x5, x6, x7⟩ := zk_dd L
    have k0 := (zk_kind L).2.2.2
    have hf := L.2.2.2.1.1
    have mf := L.2.2.2.2.2.2.1
    have e1 : f_Ps_parse_L64 (N + 3) h 0 y (nI c) = f_Ps_parse_64 (f_Ps_parse_L64 (N + 2)) h 0 y (nI c) := rfl
    have e2 : f_Mo_readText_L57 (N' + 3) g 0 = f_Mo_readText_57 (f_Mo_readText_L57 (N' + 2)) g 0 := rfl
    rw [e1, e2]
    unfold f_Ps_parse_64 f_Mo_readText_57
    rw [if_neg (mt (zc_le (k := 16384) (t := c) (by decide) (by omega)).mp (by omega)), if_pos mf]
    by_cases t6 : (h.1 19 5) = 6
    · rw [if_pos t6, if_pos (k0.mpr t6)]
      unfold f_Ps_parse_107 f_Mo_readText_79 f_Mo_readText_92 f_Mo_readText_119
      rw [if_pos mf, if_pos (Or.inr rfl), if_neg (show ¬ (1 : Int32) = 0 by decide), hf]
      have H : zt_M LC LM g (zt_n 0 0 0 u) (fun i => i < m) (-1) (nI 0) (nI 0) := by
        refine zo_mk (P1 := fun i => 0 < i ∧ i < m) (by decide) ⟨m1, fun _ => m2, ?_⟩ m4 m5 (by omega) (fun i hi => by omega) m6
        rw [if_neg (by decide)]; exact m3
      have fT : zfr [(68, 22)] [] [] g (zs_uF g 68 22 1) := zfr_F (by decide) zfr_rfl
      have W : zg_T [0] 187 (zt_n 0 0 0 u) := zg_n w1 rfl (Or.inl rfl) (by decide)
      have hdd : zg_d (zt_n 0 0 0 u) ≤ 1000 := by obtain ⟨_, _, _, _, _, _, _, z⟩ := W; omega
      obtain ⟨g', e3, f3⟩ := zm_number (g := zs_uF g 68 22 1) H (by omega) hdd
      rw [e3, Option.bind_some]
      have fg : zfr [(68, 22)] [79, 80] [] g g' := zfr_trans (zfr_w fT (by decide) (by decide) (by decide)) (zfr_w f3 (by decide) (by decide) (by decide))
      have mf' : (g'.1 68 10) = 0 := (fg.1 _ _ (by decide)).trans mf
      rw [mf']
      have hn := L.2.2.1.2.2.1
      have mm := L.2.2.2.2.2
      obtain ⟨q1, q2, q3, q4, q5, q6, q7, q8, q9, q10, q11, _⟩ := mm
      have hb := q11.1
      have hbn : (zl_at T n j).2.2.1 ≤ n := by
        have hT := L.2.2.1.2.2.2.2.2.2.2.2.1
        have hbs := zq_bs hT j (fun i hi => L.2.2.1.2.2.2.1 i (by omega))
        have hkd := zl_tok_kd (n := n) (b := zl_bs T n j) hT hbs
        by_cases c0 : (zl_at T n j).1 = 0
        · have := zl_tok_0 (b := zl_bs T n j) c0
          unfold zl_at; omega
        · exact (hkd.2.2.2.1 (fun z => z.elim c0 q3)).2
      refine ⟨0, h, g', rfl, rfl, by decide, L.1, zfr_trans (zfr_w L.2.1 (by decide) (by decide) (by decide)) (zfr_w fg (by decide) (by decide) (by decide)), fun _ => ⟨zt_n 0 0 0 u, LM, s, m, ⟨⟨W, u, rfl, by have := zk_place L; omega⟩, by rw [zg_c_n (by decide)]; omega, L.2.2.2.1.2.2.2.2.2.1, by omega, ?_, (fg.1 _ _ (by decide)).trans x4, by omega, ?_, zn_fr fg (by decide) (by decide) (by decide) q9, q10, by omega⟩, by omega⟩, fun z => absurd rfl z⟩
      · exact zt_Cm (fun i hi => by omega) (zt_Cp (ip := 0) (by decide) (by omega) c1 c2 c3 c4 c5)
      · refine zo_Mk (List.prefix_refl _) (fun i hi => ?_) H
        exact ⟨congrFun (fg.2.1 _ (by decide)) i, congrFun (fg.2.1 _ (by decide)) i, congrFun (fg.2.1 _ (by decide)) i, congrFun (fg.2.1 _ (by decide)) i, congrFun (fg.2.1 _ (by decide)) i, congrFun (fg.2.1 _ (by decide)) i, congrFun (fg.2.1 _ (by decide)) i⟩
    · rw [if_neg t6, if_neg (fun z => t6 (k0.mp z)), if_pos hf]
      obtain ⟨x, h2, g2, e3, e4, G⟩ := zk_block (b := 0) L (by omega) (by omega) (by omega)
      rw [e3, zo_B, show f_Mo_readBlock g 0 = some g2 from e4, Option.bind_some]
      rcases G with ⟨⟨t, LM2, j2, s2, m2', a, ⟨r0, r0c⟩, r1, r2, r3, r4, r5, r6, r7, r8, r9, r10, r11, r12, r13⟩, jj, g1', g2', g3'⟩ | ⟨vx, φ, w, mz, y1, y2, z1, z2⟩
      · have bK2 := zk_bK r2
        have ejj : jj = j2 := (nI_eq (by omega) (by omega)).mp (g1'.symm.trans r2.2.2.2.1.2.1)
        subst ejj
        have hln : zt_ln t = 1 := by obtain ⟨_, _, _, _, et, _⟩ := r0; rw [et]; rfl
        obtain ⟨k1, k2, k3, k4, k5⟩ := r12 0 (by omega)
        have c5' : zt_C h2 u (fun i => 0 < i ∧ i < s) ((h2.2.1 17) 0) y := by rw [k4]; exact zt_Ck r12 (fun i hi => hi.2) c5
        subst r8
        obtain ⟨h3, e5, e6, e7, f7⟩ := zq_hangC (ip := 0) (a := a) (by omega) (fun i hi => by omega) c5' r11 (fun i hi z => by omega) (by omega) (by omega) (by omega)
        rw [show f_Tr_hang h2 0 y (nI a) = some (nI a, h3) from e5, zo_B, nI_1]
        obtain ⟨⟨l0, l1, l2, l3, l4, l5⟩, M2⟩ := r13 (fun i => 0 < i ∧ i < m) u (fun i hi => hi) m6
        obtain ⟨d1, d2, d3, d4, d5⟩ := e7 0
        refine ih (N + 2) (N' + 2) (c := c + 1) (y := nI a) (u := zt_ap u t) (LM := LM2) (j := jj) (s := s2) (m := m2') ⟨zk_cf r2 f7 (by decide), ⟨d1.trans (k1.trans c1), d2.trans (k2.trans c2), d3.trans (k3.trans c3), (d5 (by omega)).trans (k5.trans c4), zt_Cm (fun i hi => by omega) e6⟩, ⟨l1.trans m1, l2.trans m2, l3.trans m3, l4.trans m4, l5.trans m5, zt_Mm (fun i hi => by omega) M2⟩, ⟨zg_U1 w1 r0 (by decide), by rw [zt_ln_ap, hln]; omega⟩, by rw [zg_c_ap]; omega, by omega⟩ (by omega) (by omega) (by omega) (by omega) (Or.inr ⟨a, by omega, rfl⟩)
      · obtain ⟨⟨xa, ha⟩, ea, va, za⟩ := zz_hang z1 (x1 := 0) ⟨0, by decide, rfl⟩ vy vx
        rw [ea, zo_B, nI_1]
        obtain ⟨⟨xb, hb⟩, eb, vb, zb⟩ := zz_parseL (N := N) (c := c + 1) za (Or.inr va) (by omega)
        obtain ⟨gb, ec, wb, fb⟩ := zxb_rt (N := N' + 1) (x := 0) z2
        have vb : xb = nI φ := vb
        subst vb
        obtain ⟨zz, zf, zp⟩ := zb
        have hφ := zz.2.2.2.1
        have hφ2 := zz.2.2.2.2.1
        refine ⟨φ, hb, gb, eb, ec, hφ2, zz.1, zfr_trans (zfr_w z2.1 (by decide) (by decide) (by decide)) (zfr_w fb (by decide) (by decide) (by decide)), fun z => by omega, fun _ => zp.trans wb.symm⟩
/-- a text is read -/
theorem jp_parse (HS : zq_S h T n K LC) (HX : zl_X g T n) : ∃ φ h' g', f_Ps_parse h = some (nI φ, h') ∧ f_Mo_readText g = some (nI φ, g') ∧ φ < 1000 ∧ zq_f h h' ∧ zfr zx_fs2 zx_ms2 [] g g' ∧ (φ = 0 → ∃ t LM s m, zk_TX LC LM t s m h' g' ∧ m ≤ 1 + 2 * K) ∧ (¬ φ = 0 → (h'.1 19 0) = (g'.1 68 11)) := by
  have hT := HS.2.2.2.2.2.2.2.2.1
  have hn := HS.2.2.1
  have hKn := HS.2.1
  have hF0 : zl_F (zl_at T n 0) := zl_Ftok hT
  have hck := (zl_ckA hF0).2.2.2.2.2.2.2.2.1
  obtain ⟨t1, t2, t3, t4⟩ := HS.1.1 0 (by omega)
  unfold f_Ps_parse f_Mo_readText
  obtain ⟨h1, hh1⟩ : ∃ h1, h1 = zs_uF (zs_uF (zs_uF (zs_uF (zs_uF (zs_uF h 19 3 0) 19 4 0) 19 5 (h.2.1 9 0)) 19 6 (h.2.1 10 0)) 19 7 0) 12 6 0 := ⟨_, rfl⟩
  obtain ⟨g1, hg1⟩ : ∃ g1, g1 = zs_uF (zs_uF (zs_uF (zs_uF (zs_uF (zs_uF (zs_uF (zs_uF (zs_uF g 68 10 0) 68 11 (-1)) 68 14 0) 68 3 0) 68 25 0) 68 13 0) 68 12 0) 68 8 0) 68 22 0 := ⟨_, rfl⟩
  rw [← hh1, ← hg1]
  have fh1 : zq_f h h1 := by rw [hh1]; exact zfr_F (by decide) (zfr_F (by decide) (zfr_F (by decide) (zfr_F (by decide) (zfr_F (by decide) (zfr_F (by decide) zfr_rfl)))))
  have fg1 : zfr zx_fs2 zx_ms2 [] g g1 := by rw [hg1]; exact zfr_F (by decide) (zfr_F (by decide) (zfr_F (by decide) (zfr_F (by decide) (zfr_F (by decide) (zfr_F (by decide) (zfr_F (by decide) (zfr_F (by decide) (zfr_F (by decide) zfr_rfl))))))))
  obtain ⟨h3, e1, qA⟩ := zq_add (h := h1) (s := 0) (kd := 0) (p := 0) (v := 0) (by rw [hh1]; rfl) (by decide) (by decide) (by decide)
  rw [show f_Tr_add h1 0 0 0 = some (nI 0, h3) from e1, zo_B]
  have fh3 : zq_f h h3 := zfr_trans fh1 (zfr_w qA.2.2.2.2.2.2 (by decide) (by decide) (by decide))
  have HS3 := zq_S_f fh3 HS
  have ff := qA.2.2.2.2.2.2
  have a1 : (h3.1 19 3) = 0 := (ff.1 _ _ (by decide)).trans (by rw [hh1]; rfl)
  have a2 : (h3.1 19 4) = nI 0 := (ff.1 _ _ (by decide)).trans (by rw [hh1]; rfl)
  have a3 : (h3.1 19 5) = nI (zl_ck (zl_at T n 0)) := (ff.1 _ _ (by decide)).trans ((by rw [hh1]; rfl : (h1.1 19 5) = h.2.1 9 0).trans t1)
  have a4 : (h3.1 19 6) = nI (zl_at T n 0).2.1 := (ff.1 _ _ (by decide)).trans ((by rw [hh1]; rfl : (h1.1 19 6) = h.2.1 10 0).trans t2)
  have a5 : (h3.1 19 7) = nI 0 := (ff.1 _ _ (by decide)).trans (by rw [hh1]; rfl)
  have HX1 : zl_X g1 T n := by
    refine ⟨(fg1.1 _ _ (by decide)).trans HX.1, HX.2.1, fun i hi => ?_⟩
    rw [fg1.2.1 _ (by decide)]; exact HX.2.2 i hi
  have HM1 : zn_M g1 [] := ⟨by rw [hg1]; rfl, by decide, fun k hk => absurd hk (Nat.not_lt_zero k)⟩
  obtain ⟨g2, e2, q1, q2, q3⟩ := zl_next HX1 hT (b := 0) (by rw [hg1]; rfl) (Nat.zero_le n) HM1 (by decide)
  rw [e2, Option.bind_some]
  have eat : zl_tok T n 0 = zl_at T n 0 := rfl
  rw [eat] at q2 q3
  have hX2 : zl_X g2 T n := by
    refine ⟨(q1.1 _ _ (by decide)).trans HX1.1, HX1.2.1, fun i hi => ?_⟩
    rw [q1.2.1 _ (by decide)]; exact HX1.2.2 i hi
  have md2 : (g2.1 68 14) = nI 0 := (q1.1 _ _ (by decide)).trans (by rw [hg1]; rfl)
  obtain ⟨g3, e3, qN⟩ := zx_node (g := g2) (m := 0) (kd := 0) (p := 0) (v := 0) (kn := 0) md2 (by decide) rfl
  rw [e3, zo_B]
  have hW3 : zx_W g3 1 := zx_W_N (m := 0) (fun i hi => absurd hi (Nat.not_lt_zero i)) qN
  obtain ⟨p1, p2, p3, p4, p5, p6, p7, p8, p9⟩ := qN
  have f13 : zx_f g1 g3 := zfr_trans (zfr_w q1 (by decide) (by decide) (by decide)) (zfr_w p9 (by decide) (by decide) (by decide))
  have hX3 : zl_X g3 T n := by
    refine ⟨(p9.1 _ _ (by decide)).trans hX2.1, hX2.2.1, fun i hi => ?_⟩
    rw [p9.2.1 _ (by decide)]; exact hX2.2.2 i hi
  have ft1 : (g1.1 68 10) = 0 := by rw [hg1]; rfl
  rw [show (nI 0 : Int32) = 0 from rfl]
  by_cases c9 : (zl_at T n 0).1 = 9
  · have hK0 : K = 0 := by
      refine Nat.le_zero.mp (Nat.le_of_not_lt fun z => ?_)
      exact HS.2.2.2.1 0 z (Or.inr c9)
    obtain ⟨y1, y2, y3, b', y4, y5, y6⟩ := q2 c9
    obtain ⟨y7, y8⟩ := y1 ft1
    have hv := hF0.2.2.2 c9
    have Z1 : zq_Z h T n K LC (zl_at T n 0).2.2.2 (zl_at T n 0).2.1 h3 := by
      refine ⟨fh3, HS3, Or.inr ⟨a1, ?_, by rw [a2, hK0], a4, by rw [hK0]; exact c9, by rw [hK0]⟩, hv.1, by omega, 1, qA.1, by decide⟩
      rw [a3, ((zl_ckA hF0).2.2.2.2.1).mpr c9]; rfl
    have Z2 : zx_B g1 T n (zl_at T n 0).2.2.2 (zl_at T n 0).2.1 1 0 g3 := by
      refine ⟨f13, hX3, hn, hT, (p9.1 _ _ (by decide)).trans y7, (p9.1 _ _ (by decide)).trans y8, ⟨hv.1, by omega⟩, ⟨[], b', zn_fr p9 (by decide) (by decide) (by decide) y3, (p9.1 _ _ (by decide)).trans y4, y5, by show 2 * 0 ≤ b' + 1; omega, Or.inl (by show 2 * 0 ≤ b'; omega)⟩, p1, hW3, 0, ?_, Nat.le_refl 0⟩
      rw [p9.1 _ _ (by decide), q1.1 _ _ (by decide), hg1]; rfl
    obtain ⟨⟨xb, hb⟩, eb, vb, zb⟩ := zz_parseL (N := 18446744073709551614) (c := 0) Z1 zq_vl_n (by decide)
    obtain ⟨gb, ec, wb, fb⟩ := zxb_rt (N := 18446744073709551615) (x := 0) Z2
    have vb : xb = nI (zl_at T n 0).2.2.2 := vb
    subst vb
    obtain ⟨zz, zf, zp⟩ := zb
    exact ⟨(zl_at T n 0).2.2.2, hb, gb, eb, ec, by omega, zz.1, zfr_trans fg1 (zfr_trans (zfr_w f13 (by decide) (by decide) (by decide)) (zfr_w fb (by decide) (by decide) (by decide))), fun z => by omega, fun _ => zp.trans wb.symm⟩
  · obtain ⟨y1, y2, y3, y4, y5, y6, y7⟩ := q3 c9
    have hbb : ∀ LM : List (List Int32), LM.length ≤ (if (zl_at T n 0).1 = 1 then 1 else 0) → zl_J T n (zl_at T n 0).2.2.1 LM.length := by
      intro LM hl
      by_cases c1 : (zl_at T n 0).1 = 1
      · have := zl_J_nm (T := T) (n := n) (b := 0) (c := 0) hT (Nat.zero_le n) ⟨by omega, Or.inl (by omega)⟩ c1
        rw [if_pos c1] at hl
        by_cases c2 : LM.length = 1
        · rw [c2]; exact this
        · have : LM.length = 0 := by omega
          rw [this]; exact ⟨by omega, Or.inl (by omega)⟩
      · rw [if_neg c1] at hl
        have : LM.length = 0 := by omega
        rw [this]; exact ⟨by omega, Or.inl (by omega)⟩
    have mk : ∀ LM : List (List Int32), zn_M g2 LM → LM.Nodup → LM.length ≤ (if (zl_at T n 0).1 = 1 then 1 else 0) → ((zl_at T n 0).1 = 1 → (g2.1 68 9) = nI (LM.idxOf (zl_cn T n 0)) ∧ zl_cn T n 0 ∈ LM) → (¬ (zl_at T n 0).1 = 1 → ¬ (zl_at T n 0).1 = 0 → (g2.1 68 9) = nI (zl_at T n 0).2.2.2) → zk_L h g1 T n K LC h3 g3 LM 0 0 1 1 0 0 := by
      intro LM w1 w2 w3 w4 w5
      refine ⟨fh3, f13, HS3, ⟨a1, a2, a3, a4, a5, qA.1, by decide⟩, Nat.zero_le K, hX3, (p9.1 _ _ (by decide)).trans (y1.trans ft1), c9, (p9.1 _ _ (by decide)).trans y3, (p9.1 _ _ (by decide)).trans y4, (p9.1 _ _ (by decide)).trans y5, fun z => ⟨(p9.1 _ _ (by decide)).trans (w4 z).1, (w4 z).2⟩, fun z y => (p9.1 _ _ (by decide)).trans (w5 z y), zn_fr p9 (by decide) (by decide) (by decide) w1, w2, hbb LM w3, ?_, by decide, p1, hW3, ?_, ?_⟩
      · rw [p9.1 _ _ (by decide), q1.1 _ _ (by decide), hg1]; rfl
      · rw [p9.1 _ _ (by decide), q1.1 _ _ (by decide), hg1]; rfl
      · rw [p9.1 _ _ (by decide), q1.1 _ _ (by decide), hg1]; rfl
    have L : ∃ LM, zk_L h g1 T n K LC h3 g3 LM 0 0 1 1 0 0 := by
      by_cases c1 : (zl_at T n 0).1 = 1
      · obtain ⟨u1, u2⟩ := y6 c1
        have ecn : zl_nm T n (zl_at T n 0).2.1 (zl_at T n 0).2.2.1 = zl_cn T n 0 := rfl
        rw [ecn, if_neg (List.not_mem_nil)] at u2
        rw [ecn] at u1
        refine ⟨[zl_cn T n 0], mk _ u2 (List.nodup_cons.mpr ⟨List.not_mem_nil, List.nodup_nil⟩) (by rw [if_pos c1]; exact Nat.le_refl 1) (fun _ => ⟨?_, List.mem_singleton.mpr rfl⟩) (fun z => absurd c1 z)⟩
        rw [u1]
        have := zl_idxn (L := []) (c := zl_cn T n 0) List.not_mem_nil
        rw [show ([] : List (List Int32)) ++ [zl_cn T n 0] = [zl_cn T n 0] from rfl] at this
        rw [this]
      · obtain ⟨u1, u2⟩ := y7 c1
        exact ⟨[], mk [] u1 List.nodup_nil (Nat.zero_le _) (fun z => absurd z c1) (fun _ z => u2 z)⟩
    obtain ⟨LM, L⟩ := L
    obtain ⟨r1, r2, r3, r4, r5, r6, r7⟩ := qA
    have R : zk_R h g1 T n K LC .leaf (-1) LM 0 1 1 h3 g3 := by
      refine ⟨L, ⟨by rw [r2, if_pos rfl]; rfl, by rw [r3, if_pos rfl]; rfl, by rw [r4, if_pos rfl], by rw [r6, if_pos rfl], by rw [r5, if_pos rfl], rfl⟩, ⟨by rw [p2, if_pos rfl]; rfl, by rw [p3, if_pos rfl], by rw [p4, if_pos rfl], by rw [p5, if_pos rfl], by rw [p8, if_pos rfl], by rw [p6, if_pos rfl], by rw [p7, if_pos rfl]⟩, ⟨zg_U0, Nat.zero_le _⟩, Nat.le_refl 0, by omega⟩
    obtain ⟨φ, h', g', e4, e5, e6, e7, e8, e9, e10⟩ := jp_textL (K + 1) zF zF (c := 0) R (by omega) (by have := zF_big; omega) (by have := zF_big; omega) (Nat.le_refl 0) zq_vl_n
    exact ⟨φ, h', g', e4, e5, e6, e7, zfr_trans fg1 e8, e9, e10⟩
end ZF2
