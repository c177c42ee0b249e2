section
/-! The judge: statements are visited: bodies, assignments (31), IF and CASE (34), ranges (35), EXIT (37), RETURN. -/
section YCP
variable {LC LM : List (List Int32)} {nb nf sz : Nat} {F : Nat → Nat} {h g h1 h2 g2 h' g' : zs_H} {P Q : Nat → Prop} {i k up d D D' kd : Nat} {kv : Int32 × Int32} {l : zt_T} {y : Int32}
theorem yc_fin (C : yb_cx LC LM nb nf sz F h1 g) (nd : yb_nd LC LM h1 g kd kv l i k up P Q y) (O0 : yc_out (fun _ => False) (fun _ => False) h g h1 g) (O : yc_out P Q h1 g h2 g2) (A : yb_F F (nb - 1) h2 g2 P Q l ((h1.2.1 17) i) ((g.2.1 76) k) (-1) (-1)) (W : yc_out (fun j => j = i) (fun j => j = k) h2 g2 h' g') (N : yb_N F (nb - 1) h' g' P Q kd kv.2 i k ((h1.2.1 17) i) (zt_ln l)) : yc_ok F (nb - 1) kd kv l i k P Q h g h' g' := by
  obtain ⟨⟨hi, hk, hPi, hQk, hP, hQ⟩, _, _, ⟨m0, _⟩, _⟩ := nd
  have C2 := yc_cxf C O.1 O.2.1
  have A2 := yc_keep C2 W (fun j hj => ⟨hP j hj, fun z => hPi (by rw [← z]; exact hj)⟩) (fun j hj z => hQk (by rw [← z]; exact hj)) A
  have ef : (g'.2.1 76) k = (g.2.1 76) k := by rw [W.2.1.2.1 _ (by decide), O.2.1.2.1 _ (by decide)]
  exact ⟨yc_outm (yc_outt (yc_outt O0 O) W) (fun j z => z.elim (fun z => z.elim (fun z => z.elim) .inl) .inr) (fun j z => z.elim (fun z => z.elim (fun z => z.elim) .inl) .inr), i, k, (h1.2.1 17) i, ⟨.inr rfl, hi, rfl⟩, ⟨.inr rfl, hk, rfl, by rw [W.2.1.2.1 _ (by decide), O.2.1.2.1 _ (by decide)]; exact m0⟩, yb_Nm (fun _ z => .inl z) (fun _ z => .inl z) N, by rw [ef]; exact yb_Fm (fun _ z => .inl z) (fun _ z => .inl z) _ _ _ _ _ A2, rfl, rfl⟩
/-- a plain node, nothing more is written -/
theorem yc_pl (C : yb_cx LC LM nb nf sz F h1 g) (nd : yb_nd LC LM h1 g kd kv l i k up P Q y) (hkd : kd ∈ yb_pl) (hsy : yb_sy h2 P kd ((h1.2.1 17) i)) (O0 : yc_out (fun _ => False) (fun _ => False) h g h1 g) (O : yc_out P Q h1 g h2 g2) (A : yb_F F (nb - 1) h2 g2 P Q l ((h1.2.1 17) i) ((g.2.1 76) k) (-1) (-1)) : yc_ok F (nb - 1) kd kv l i k P Q h g h2 g2 := by
  refine yc_fin C nd O0 O A yc_out0 ?_
  obtain ⟨⟨hi, hk, hPi, hQk, hP, hQ⟩, ⟨c0, c1, c2, c3, c4⟩, _⟩ := nd
  obtain ⟨i1, i2, i3, i4⟩ := O.2.2.1 i hPi
  exact .inl (.inr (.inl ⟨hkd, i1.trans c0, i4, i3.trans c2, hsy⟩))
theorem yc_Fb0 (O0 : yc_out (fun _ => False) (fun _ => False) h g h1 g) (B : zv_Fb h1 g h' g') : zv_Fb h g h' g' := ⟨B.1, zfr_trans (zfr_w O0.1 (by decide) (by decide) (by decide)) B.2.1, B.2.2⟩
theorem yc_Fb1 (O : yc_out P Q h g h2 g2) (B : zv_Fb h2 g2 h' g') : zv_Fb h g h' g' := ⟨B.1, zfr_trans (zfr_w O.1 (by decide) (by decide) (by decide)) B.2.1, zfr_trans (zfr_w O.2.1 (by decide) (by decide) (by decide)) B.2.2⟩
/-- the loops below a node that is no FOR -/
theorem yc_Ldn (L : yc_L LC LM h g up d) (hk : k < 33500) (e : (g.2.1 75) k = nI up) (hn : ¬ (g.2.1 72) k = 19) : yc_L LC LM h g k (d + 1) := by
  obtain ⟨m, L, l1, l2, l3, l4, l5⟩ := L
  exact ⟨m + 1, L, by omega, ⟨hk, up, L, e, l2, by rw [if_neg hn]⟩, l3, by omega, l5⟩
/-- the variable of a name that has been judged -/
theorem yc_var {c u x : Nat} {q w : Int32} (I : zv_I LC LM nb nf (F nb) F q h g) (hb : 0 < nb) (hc : c < 6000) (hw : zt_nr LC LM (nI c) w) (V : yb_V F (nb - 1) h (nI c) u x) : f_Mo_variable g ((g.1 68 54)) w = some (nI u) ∧ F (nb - 1) ≤ u ∧ u < F nb := by
  obtain ⟨v1, v2, v3, v4, _⟩ := V
  rw [show nb - 1 + 1 = nb by omega] at v2 v4
  obtain ⟨HS, HB, HN, HV, HC, HT, HJ, J1, J2⟩ := I
  rw [(HJ hb).2]
  rcases zv_here HS HB HN hb hc hw with ⟨v, w1, w2, w3, w4, w5⟩ | ⟨_, _, z⟩
  · rw [v4 v w1 w2 w3] at w5
    exact ⟨w5, v1, v2⟩
  · exact absurd v3 (z u v1 v2)
theorem yc_mkF {φ : Nat} {p : Int32} (h3 : 0 < φ) (h4 : φ < 1000) (c : (h.2.1 15) i = p) (m : (g.2.1 73) k = p) : zv_Fb h g (zv_rf φ i h) (zv_ru φ k g) ∧ ¬ ((zv_rf φ i h).1 38 3) = 0 ∧ ¬ ((zv_ru φ k g).1 68 29) = 0 := ⟨zv_mkF h3 h4 c m zfr_rfl zfr_rfl zfr_rfl zfr_rfl, zv_rff h3 h4, zv_ruf h3 h4⟩
end YCP
/-- a body, a choice, RETURN -/
theorem yc_VN11 {kd : Nat} {kv : Int32 × Int32} {l : zt_T} (hkd : kd = 11 ∨ kd = 17 ∨ kd = 21) (Ph : yc_Ph l) : yc_VN kd kv l := by
  intro LC LM nb nf sz F h g i k up d D D' oc P Q y C nd hup LL hPs ow hd hD hD'
  obtain ⟨D, rfl⟩ : ∃ z, D = z + 1 := ⟨D - 1, by omega⟩
  obtain ⟨D', rfl⟩ : ∃ z, D' = z + 2 := ⟨D' - 2, by omega⟩
  obtain ⟨⟨hi, hk, hPi, hQk, hP, hQ⟩, ⟨c0, c1, c2, c3, c4⟩, cC, ⟨m0, m1, m2, m3⟩, cM⟩ := id nd
  have ekm : zt_km kd = kd := by rcases hkd with e | e | e <;> rw [e] <;> rfl
  rw [ekm] at m0
  have hke : ¬ kd ∈ [1, 2, 3, 4, 5, 13, 16, 19, 22, 24] := by rcases hkd with e | e | e <;> rw [e] <;> decide
  have hpl : kd ∈ yb_pl := by rcases hkd with e | e | e <;> rw [e] <;> decide
  have eo : yc_o (.inner kd kv () l .leaf) = yc_o l := by
    show (if kd = 16 ∨ kd = 19 then 1 else if kd = 22 then 156 else if kd = 25 ∧ 2 ≤ kv.2 then 1 else 0) + yc_o l + 0 = _
    rw [if_neg (by omega), if_neg (by omega), if_neg (by omega)]; omega
  rcases yc_kids (D := D) (D' := D') (zv_ent0 hi (by omega) c0 hke) C nd ⟨ekm, by omega, by omega, by omega, by omega, by omega⟩ (yc_Ldn LL hk m3 (by rw [m0]; rcases hkd with e | e | e <;> rw [e] <;> decide)) Ph hPs ow hd (by omega) (by omega) with ⟨h', g', e1, e2, e3, e4, e5⟩ | ⟨h2, g2, e1, e2, O, A, n1, n2, ow'⟩
  · exact ⟨h', g', e1, e2, .inl ⟨e3, e4, e5⟩⟩
  · obtain ⟨i1, i2, i3, i4⟩ := O.2.2.1 i hPi
    have el : f_Jd_leave h2 (nI i) = some h2 := by
      rcases hkd with e | e | e <;> subst e
      · exact zv_lv11 hi (i1.trans c0)
      · exact zv_lv17 hi (i1.trans c0)
      · exact zv_lv21 hi (i1.trans c0)
    have em : f_Mo_lookAlone_54 g2 (nI k) (nI kd) = some g2 := by
      rw [zv_54S (by omega) (by omega) n2]
      unfold f_Mo_lookAtStatements
      have mk : (g2.2.1 72) k = nI kd := by rw [O.2.1.2.1 _ (by decide)]; exact m0
      rcases hkd with e | e | e <;> subst e <;> simp (config := { decide := true }) only [if_pos (zi_in (show k < 2147483648 by omega) hk), nI_clamp (show k < 2147483648 by omega), mk, if_false]
    exact ⟨h2, g2, by rw [e1, el], by rw [e2, em], .inr ⟨yc_pl C nd hpl (yb_sy0 (by omega) (by omega)) yc_out0 O A, n1, n2, by rw [ow'.1, eo], fun z => zg_xl (by omega) (ow'.2.1 z), zg_ruE (by omega) (by omega)⟩⟩
/-- EXIT (37) -/
theorem yc_VN20 {kv : Int32 × Int32} : yc_VN 20 kv .leaf := by
  intro LC LM nb nf sz F h g i k up d D D' oc P Q y C nd hup LL hPs ow hd hD hD'
  have hz := zF_big
  have hd0 : zg_d .leaf = 0 := rfl
  obtain ⟨D, rfl⟩ : ∃ z, D = z + 1 := ⟨D - 1, by omega⟩
  obtain ⟨D', rfl⟩ : ∃ z, D' = z + 2 := ⟨D' - 2, by omega⟩
  obtain ⟨⟨hi, hk, hPi, hQk, hP, hQ⟩, ⟨c0, c1, c2, c3, c4⟩, cC, ⟨m0, m1, m2, m3⟩, cM⟩ := id nd
  rcases yc_kids (D := D) (D' := D') (zv_ent0 (kd := 20) hi (by decide) c0 (by decide)) C nd ⟨rfl, by decide, by decide, by decide, by decide, by decide⟩ (yc_Ldn LL hk m3 (by rw [m0]; decide)) trivial hPs ow hd (by omega) (by omega) with ⟨h', g', e1, e2, e3, e4, e5⟩ | ⟨h2, g2, e1, e2, O, A, n1, n2, ow'⟩
  · exact ⟨h', g', e1, e2, .inl ⟨e3, e4, e5⟩⟩
  · obtain ⟨i1, i2, i3, i4⟩ := O.2.2.1 i hPi
    have L2 := yc_Lf LL (by omega) O
    obtain ⟨m, L, l1, l2, l3, l4, l5⟩ := L2
    have e0 : (nI L.length = 0) ↔ L.length = 0 := zc_eq (k := 0) (by decide) (by omega)
    have el : f_Jd_leave h2 (nI i) = f_Jd_refuseIf h2 (if ¬ L = [] then 0 else 1) 37 (nI i) := by
      unfold f_Jd_leave f_Jd_leave_346
      simp (config := { decide := true }) only [if_pos (zi_in (show i < 2147483648 by omega) hi), nI_clamp (show i < 2147483648 by omega), show (h2.2.1 13) i = 20 from i1.trans c0, if_false, if_true, l3, Option.bind_fun_some, e0]
      cases L with
      | nil => rfl
      | cons a b => rw [if_neg (by show ¬ b.length + 1 = 0; omega), if_pos (List.cons_ne_nil _ _)]
    have em : f_Mo_lookAlone_54 g2 (nI k) (nI 20) = f_Mo_rule g2 (if ¬ L = [] then 0 else 1) 37 (nI k) := by
      rw [zv_54S (by decide) (by decide) n2]
      unfold f_Mo_lookAtStatements
      simp (config := { decide := true }) only [if_pos (zi_in (show k < 2147483648 by omega) hk), nI_clamp (show k < 2147483648 by omega), show (g2.2.1 72) k = 20 by rw [O.2.1.2.1 _ (by decide)]; exact m0, if_false, if_true, show (g2.2.1 75) k = nI up by rw [O.2.1.2.1 _ (by decide)]; exact m3]
      rw [yc_exit m up L zF 0 l2 (by omega) (.inl rfl)]
      unfold f_Mo_lookAtStatements_434
      rw [Option.bind_fun_some]
      simp only [show ¬ (0 : Int32) = 1 by decide, false_or]
    obtain ⟨h', g', v1, v2, v3⟩ := zv_both (φ := 37) (C := L = []) n1 n2 hi hk
    have ei : ∀ a b : Int32, (if ¬ L = [] then a else b) = if L = [] then b else a := fun a b => by by_cases z : L = [] <;> simp only [z, not_true, not_false_iff, if_true, if_false]
    rw [ei] at el em
    refine ⟨h', g', by rw [e1, el]; exact v1, by rw [e2, em]; exact v2, ?_⟩
    rcases v3 with ⟨x0, x1, x2⟩ | ⟨_, x1, x2⟩
    · rw [x1, x2]
      exact .inr ⟨yc_pl C nd (by decide) (yb_sy0 (by decide) (by decide)) yc_out0 O A, n1, n2, by rw [ow'.1]; rfl, fun z => absurd (e0.mp (l3.symm.trans (O.2.2.2.2.1.trans z))) (fun q => x0 (List.eq_nil_of_length_eq_zero q)), zg_ruE (by decide) (by decide)⟩
    · rw [x1, x2]
      obtain ⟨f1, f2, f3⟩ := yc_mkF (φ := 37) (h := h2) (g := g2) (i := i) (k := k) (p := kv.1) (by decide) (by decide) (by rw [O.1.2.1 _ (by decide)]; exact c1) (by rw [O.2.1.2.1 _ (by decide)]; exact m1 (by decide))
      exact .inl ⟨yc_Fb1 O f1, f2, f3⟩
end
section
/-! The judge: statements are visited: assignments (29, 30, 31), CASE (34), ranges (35). -/
theorem yc_g12 {l : zt_T} (h : zg_A 12 (zg_run 12 0 l) = true) : ∃ c kv o lc c2 kv2 o2 lc2, l = .inner c kv o lc (.inner c2 kv2 o2 lc2 .leaf) ∧ (c = 6 ∨ c = 32) ∧ c2 ∈ yb_E := by
  have key : ∀ r ∈ zg_R, r.1 = 12 → r.2 = (0, [6, 32], 1) ∨ r.2 = (1, yb_E, 2) := by decide +kernel
  cases l with
  | leaf => exact absurd h (by decide)
  | inner c kv o lc r =>
    obtain ⟨cs, to, m1, m2, m3⟩ := zv_qR (yb_run h)
    have k1 := key _ m1 rfl
    simp only [Prod.mk.injEq] at k1
    obtain ⟨e2, e3⟩ : cs = [6, 32] ∧ to = 1 := by
      rcases k1 with ⟨_, a, b⟩ | ⟨a, _⟩
      · exact ⟨a, b⟩
      · exact absurd a (by decide)
    rw [e2] at m2
    have h' : zg_A 12 (zg_run 12 1 r) = true := by
      have : zg_run 12 0 (.inner c kv o lc r) = zg_run 12 1 r := by show zg_run 12 (zg_q 12 0 c) r = _; rw [m3, e3]
      rw [← this]; exact h
    cases r with
    | leaf => exact absurd h' (by decide)
    | inner c2 kv2 o2 lc2 r2 =>
      obtain ⟨cs, to, n1, n2, n3⟩ := zv_qR (yb_run h')
      have k1 := key _ n1 rfl
      simp only [Prod.mk.injEq] at k1
      obtain ⟨e2, e3⟩ : cs = yb_E ∧ to = 2 := by
        rcases k1 with ⟨a, _⟩ | ⟨_, a, b⟩
        · exact absurd a (by decide)
        · exact ⟨a, b⟩
      rw [e2] at n2
      have h2 : zg_A 12 (zg_run 12 2 r2) = true := by
        have : zg_run 12 1 (.inner c2 kv2 o2 lc2 r2) = zg_run 12 2 r2 := by show zg_run 12 (zg_q 12 1 c2) r2 = _; rw [n3, e3]
        rw [← this]; exact h'
      have m2' : c = 6 ∨ c = 32 := by
        simp only [List.mem_cons, List.not_mem_nil, or_false] at m2
        exact m2
      cases r2 with
      | leaf => exact ⟨c, kv, o, lc, c2, kv2, o2, lc2, rfl, m2', n2⟩
      | inner c3 kv3 o3 lc3 r3 =>
        obtain ⟨cs, to, n1, _, _⟩ := zv_qR (yb_run h2)
        have k1 := key _ n1 rfl
        simp only [Prod.mk.injEq] at k1
        rcases k1 with ⟨a, _⟩ | ⟨a, _⟩ <;> exact absurd a (by decide)
theorem yc_tgt {F : Nat → Nat} {bb : Nat} {h g : zs_H} {P Q : Nat → Prop} {c : Nat} {v : Int32} {i k : Nat} {xl : Int32} {n : Nat} (N : yb_N F bb h g P Q c v i k xl n) (hc : c = 6 ∨ c = 32) : ∃ ty u x, ty < 3 ∧ (h.2.1 14) i = nI ty ∧ (g.2.1 100) k = nI ty ∧ yb_V F bb h v u x ∧ (h.2.1 16) i = nI (32 + u) := by
  rcases N with N | ⟨ty, t1, t2, t3, N⟩
  · exact absurd (by rcases hc with e | e <;> rw [e] <;> decide) (yb_SE N)
  · rcases N with ⟨e, n1, u, x, n2, n3, n4⟩ | ⟨e, n1, n2⟩ | ⟨e, n1, n2, u, x, n3, n4, n5⟩ | ⟨e, _⟩ | ⟨e, _⟩ | ⟨e, _⟩ | ⟨e, _⟩ | ⟨e, _⟩
    · exact ⟨ty, u, x, t1, t2, t3, n2, n3⟩
    · rcases e with e | e <;> omega
    · exact ⟨ty, u, x, t1, t2, t3, n3, n4⟩
    all_goals omega
/-- an assignment -/
theorem yc_VN12 {kv : Int32 × Int32} {l : zt_T} (hA : zg_A 12 (zg_run 12 0 l) = true) (Ph : yc_Ph l) : yc_VN 12 kv l := by
  intro LC LM nb nf sz F h g i k up d D D' oc P Q y C nd hup LL hPs ow hd hD hD'
  obtain ⟨D, rfl⟩ : ∃ z, D = z + 1 := ⟨D - 1, by omega⟩
  obtain ⟨D', rfl⟩ : ∃ z, D' = z + 2 := ⟨D' - 2, by omega⟩
  obtain ⟨⟨hi, hk, hPi, hQk, hP, hQ⟩, ⟨c0, c1, c2, c3, c4⟩, cC, ⟨m0, m1, m2, m3⟩, cM⟩ := id nd
  rcases yc_kids (D := D) (D' := D') (zv_ent0 (kd := 12) hi (by decide) c0 (by decide)) C nd ⟨rfl, by decide, by decide, by decide, by decide, by decide⟩ (yc_Ldn LL hk m3 (by rw [m0]; decide)) Ph hPs ow hd (by omega) (by omega) with ⟨h', g', e1, e2, e3, e4, e5⟩ | ⟨h2, g2, e1, e2, O, A, n1, n2, ow'⟩
  · exact ⟨h', g', e1, e2, .inl ⟨e3, e4, e5⟩⟩
  · obtain ⟨c', kv1, o1, lc1, c2', kv2, o2, lc2, el, hc1, hE2⟩ := yc_g12 hA
    obtain ⟨i1, i2, i3, i4⟩ := O.2.2.1 i hPi
    have ge : ∀ z, ¬ z ∈ yc_g → g2.2.1 z = g.2.1 z := fun z hz => O.2.1.2.1 z hz
    have he : ∀ z, ¬ z ∈ yc_m → h2.2.1 z = h.2.1 z := fun z hz => O.1.2.1 z hz
    have C2 := yc_cxf C O.1 O.2.1
    have hb := C.2.2.1
    have A' := A
    rw [el] at A'
    obtain ⟨a, ka, xl, ⟨a1, a2, a3⟩, ⟨b1, b2, b3, _⟩, N, _, B⟩ := A'
    obtain ⟨ta, u, x, t1, t2, t3, V, hv⟩ := yc_tgt N hc1
    obtain ⟨b, kb, tb, p1, p2, p3, p4, p5, p6, p7, p8, p9, _⟩ := yb_first hE2 B
    -- the target's name
    have cM' := cM
    rw [el] at cM'
    obtain ⟨b', Q1, Q2, z3, q1, q2, q3, q4, q5, q6, _⟩ := zv_hM cM'
    have ekb : b' = ka := by rw [b3] at q1; exact ((nI_eq (by omega) (by omega)).mp q1).symm
    subst ekb
    rw [if_pos (by rcases hc1 with e | e <;> rw [e] <;> decide)] at q6
    obtain ⟨cn, hcn, ecn, hw⟩ := yb_nr C q6
    rw [ecn] at V
    obtain ⟨w1, w2, w3⟩ := yc_var C2.1 hb hcn hw V
    obtain ⟨L1, _⟩ := yb_last2 (show b' < 2147483648 by omega) cM' b3
    have lst : (g2.2.1 77) k = nI kb := by rw [ge _ (by decide), L1, ← ge _ (by decide)]; exact p6
    have fst : (g2.2.1 76) k = nI b' := by rw [ge _ (by decide)]; exact b3
    have abv : (g2.2.1 75) k = nI up := by rw [ge _ (by decide)]; exact m3
    have L2 := yc_Lf LL (by omega) O
    obtain ⟨h3, g3, x1, x2, x3⟩ := yc_asg (i := i) (k := k) C2.1 hb hi hk hcn hw w2 w3 w1 abv L2 (by omega)
    have hh : h3.2 = h2.2 ∧ g3.2 = g2.2 := by
      rcases x3 with ⟨z1, z2⟩ | ⟨φ, _, z1, z2⟩
      · rw [z1, z2]; exact ⟨rfl, rfl⟩
      · rw [z1, z2]; exact ⟨rfl, rfl⟩
    have eC : f_Jd_leave h2 (nI i) = f_Jd_refuseIf h3 (if f_Jd_fits (nI tb) (nI ta) = 0 then 1 else 0) 31 (nI i) := by
      rw [zv_lv12 hi (i1.trans c0)]
      unfold f_Jd_judgeAssignment f_Jd_judgeAssignment_62
      simp only [if_pos (zi_in (show i < 2147483648 by omega) hi), nI_clamp (show i < 2147483648 by omega), show (h2.2.1 17) i = nI a from i4.trans a3, if_pos (zi_in (show a < 2147483648 by omega) a2), nI_clamp (show a < 2147483648 by omega), hv, x1, Option.bind_some, hh.1, p3, if_pos (zi_in (show b < 2147483648 by omega) p2), nI_clamp (show b < 2147483648 by omega), t2, p8, Option.bind_fun_some]
      split <;> rfl
    have eM : f_Mo_lookAlone_54 g2 (nI k) (nI 12) = if (g3.1 68 29) = 0 then f_Mo_rule g3 (if f_Jd_fits (nI tb) (nI ta) = 0 then 1 else 0) 31 (nI k) else some g3 := by
      rw [zv_54S (by decide) (by decide) n2]
      unfold f_Mo_lookAtStatements f_Mo_lookAtStatements_113 f_Mo_lookAtStatements_112 f_Mo_lookAtStatements_113
      simp (config := { decide := true }) only [if_pos (zi_in (show k < 2147483648 by omega) hk), nI_clamp (show k < 2147483648 by omega), show (g2.2.1 72) k = 12 by rw [ge _ (by decide)]; exact m0, if_false, if_true, fst, if_pos (zi_in (show b' < 2147483648 by omega) b2), nI_clamp (show b' < 2147483648 by omega), show (g2.2.1 74) b' = (g.2.1 74) b' by rw [ge _ (by decide)], x2, Option.bind_some, hh.2, lst, if_pos (zi_in (show kb < 2147483648 by omega) p5), nI_clamp (show kb < 2147483648 by omega), t3, p9, Option.bind_fun_some, zv_rule0]
      by_cases z : (g3.1 68 29) = 0
      · rw [if_pos z, if_pos z]
        show (if f_Jd_fits (nI tb) (nI ta) = 0 then _ else _) = _
        by_cases zf : f_Jd_fits (nI tb) (nI ta) = 0
        · rw [if_pos zf, if_pos zf]
        · rw [if_neg zf, if_neg zf, zv_rule0]
      · rw [if_neg z, if_neg z]
    have pc : (h2.2.1 15) i = kv.1 := by rw [he _ (by decide)]; exact c1
    have pm : (g2.2.1 73) k = kv.1 := by rw [ge _ (by decide)]; exact m1 (by decide)
    have eo : yc_o (.inner 12 kv () l .leaf) = yc_o l := by
      show 0 + yc_o l + 0 = _; omega
    rcases x3 with ⟨z1, z2⟩ | ⟨φ, z0, z1, z2⟩
    · rw [z2, if_pos n2] at eM
      rw [z1] at eC
      obtain ⟨h', g', v1, v2, v3⟩ := zv_both (φ := 31) (C := f_Jd_fits (nI tb) (nI ta) = 0) n1 n2 hi hk
      refine ⟨h', g', by rw [e1, eC]; exact v1, by rw [e2, eM]; exact v2, ?_⟩
      rcases v3 with ⟨nf, y1, y2⟩ | ⟨_, y1, y2⟩
      · rw [y1, y2]
        exact .inr ⟨yc_pl C nd (by decide) ⟨fun _ => ⟨a, b, a3, a1, p3, p1, fun z => by
          rw [p8]
          rw [t2] at z
          rw [z] at nf
          exact ya_fit0 tb p7 nf⟩, fun z => absurd z (by decide)⟩ yc_out0 O A, n1, n2, by rw [ow'.1, eo], fun z => zg_xl (by decide) (ow'.2.1 z), zg_ruE (by decide) (by decide)⟩
      · rw [y1, y2]
        obtain ⟨f1, f2, f3⟩ := yc_mkF (φ := 31) (h := h2) (g := g2) (i := i) (k := k) (p := kv.1) (by decide) (by decide) pc pm
        exact .inl ⟨yc_Fb1 O f1, f2, f3⟩
    · have hφ : 0 < φ ∧ φ < 1000 := by rcases z0 with e | e <;> omega
      obtain ⟨f1, f2, f3⟩ := yc_mkF (φ := φ) (h := h2) (g := g2) (i := i) (k := k) (p := kv.1) hφ.1 hφ.2 pc pm
      rw [z1, zv_refF f2] at eC
      rw [z2, if_neg f3] at eM
      exact ⟨_, _, by rw [e1, eC], by rw [e2, eM], .inl ⟨yc_Fb1 O f1, f2, f3⟩⟩
end
section
/-! The judge: statements are visited: CASE and IF (34). -/
section YDR
variable {h g : zs_H} {i k sz : Nat}
/-- children of an IF: 9 is a body, else the type of a condition -/
def yd_C (h : zs_H) : List Nat → Int32 → Prop
  | [], x => x = -1
  | t :: l, x => ∃ a, a < 32784 ∧ x = nI a ∧ ((t = 9 ∧ (h.2.1 13) a = 11) ∨ (t < 3 ∧ ¬ (h.2.1 13) a = 11 ∧ (h.2.1 14) a = nI t)) ∧ yd_C h l ((h.2.1 18) a)
def yd_M (g : zs_H) : List Nat → Int32 → Prop
  | [], x => x = -1
  | t :: l, x => ∃ b, b < 33500 ∧ x = nI b ∧ ((t = 9 ∧ (g.2.1 72) b = 11) ∨ (t < 3 ∧ ¬ (g.2.1 72) b = 11 ∧ (g.2.1 100) b = nI t)) ∧ yd_M g l ((g.2.1 78) b)
theorem yd_uC {N : Nat} {x1 x3 : Int32} (x : Int32) : f_Jd_judgeIf_L12 (N + 1) h x1 x x3 = f_Jd_judgeIf_12 (f_Jd_judgeIf_L12 N) h x1 x x3 := rfl
theorem yd_uM {N : Nat} {x1 : Int32} (x : Int32) : f_Mo_lookAtStatements_L219 (N + 1) g x1 x = f_Mo_lookAtStatements_219 (f_Mo_lookAtStatements_L219 N) g x1 x := rfl
theorem yd_stC {N turn t : Nat} {l : List Nat} {x : Int32} (hsz : (h.1 12 6) = nI sz) (hs2 : sz < 100000) (ht : turn < sz) (H : yd_C h (t :: l) x) : ∃ x2, yd_C h l x2 ∧ ∀ h2 : zs_H, h2.2 = h.2 → f_Jd_refuseIf h (if t = 9 ∨ t = 0 then 0 else 1) 34 (nI i) = some h2 → f_Jd_judgeIf_L12 (N + 1) h (nI i) x (nI turn) = f_Jd_judgeIf_L12 N h2 (nI i) x2 (nI (turn + 1)) := by
  obtain ⟨a, a1, a2, a3, a4⟩ := H
  refine ⟨_, a4, fun h2 e2 e => ?_⟩
  rw [yd_uC]
  unfold f_Jd_judgeIf_12 f_Jd_judgeIf_59 f_Jd_judgeIf_60
  rw [hsz, if_neg (mt (nI_leI (by omega) (by omega)).mp (by omega)), a2, if_neg (zc_m1 (by omega)), if_pos (zi_in (by omega) a1)]
  have fin : ((some h2 : Option zs_H).bind fun h2 => (if zd_in (nI a) 32784 then f_Jd_judgeIf_L12 N h2 (nI i) ((h2.2.1 18) (nI a).toNatClampNeg) (nI turn + 1) else none)) = f_Jd_judgeIf_L12 N h2 (nI i) ((h.2.1 18) a) (nI (turn + 1)) := by
    rw [Option.bind_some, if_pos (zi_in (by omega) a1), nI_clamp (show a < 2147483648 by omega), e2, nI_1]
  rcases a3 with ⟨z1, z2⟩ | ⟨z1, z2, z3⟩
  · rw [if_pos (.inl z1)] at e
    have : (h.2.1 13) (nI a).toNatClampNeg = 11 := by rw [nI_clamp (show a < 2147483648 by omega)]; exact z2
    rw [if_pos this, e]
    exact fin
  · by_cases z0 : t = 0
    · rw [if_pos (.inr z0)] at e
      have : (h.2.1 14) (nI a).toNatClampNeg = 0 := by rw [nI_clamp (show a < 2147483648 by omega), z3, z0]; rfl
      rw [if_pos this, e, ite_self]
      exact fin
    · rw [if_neg (by omega)] at e
      have n1 : ¬ (h.2.1 14) (nI a).toNatClampNeg = 0 := by rw [nI_clamp (show a < 2147483648 by omega), z3]; exact mt (zv_t0 z1).mp z0
      have n2 : ¬ (h.2.1 13) (nI a).toNatClampNeg = 11 := by rw [nI_clamp (show a < 2147483648 by omega)]; exact z2
      rw [if_neg n2, if_neg n1, e]
      exact fin
theorem yd_stM {N t : Nat} {l : List Nat} {x : Int32} (H : yd_M g (t :: l) x) : ∃ x2, yd_M g l x2 ∧ ∀ g2 : zs_H, g2.2 = g.2 → f_Mo_rule g (if t = 9 ∨ t = 0 then 0 else 1) 34 (nI k) = some g2 → f_Mo_lookAtStatements_L219 (N + 1) g (nI k) x = f_Mo_lookAtStatements_L219 N g2 (nI k) x2 := by
  obtain ⟨a, a1, a2, a3, a4⟩ := H
  refine ⟨_, a4, fun h2 e2 e => ?_⟩
  rw [yd_uM]
  unfold f_Mo_lookAtStatements_219 f_Mo_lookAtStatements_248 f_Mo_lookAtStatements_249
  rw [a2, if_neg (zv_neg (show a < 2147483648 by omega)).2, if_pos (zi_in (by omega) a1)]
  have fin : ((some h2 : Option zs_H).bind fun h2 => (if zd_in (nI a) 33500 then f_Mo_lookAtStatements_L219 N h2 (nI k) ((h2.2.1 78) (nI a).toNatClampNeg) else none)) = f_Mo_lookAtStatements_L219 N h2 (nI k) ((g.2.1 78) a) := by
    rw [Option.bind_some, if_pos (zi_in (by omega) a1), nI_clamp (show a < 2147483648 by omega), e2]
  rcases a3 with ⟨z1, z2⟩ | ⟨z1, z2, z3⟩
  · rw [if_pos (.inl z1)] at e
    have : (g.2.1 72) (nI a).toNatClampNeg = 11 := by rw [nI_clamp (show a < 2147483648 by omega)]; exact z2
    rw [if_pos this, e]
    exact fin
  · by_cases z0 : t = 0
    · rw [if_pos (.inr z0)] at e
      have : (g.2.1 100) (nI a).toNatClampNeg = 0 := by rw [nI_clamp (show a < 2147483648 by omega), z3, z0]; rfl
      rw [if_pos this, e, ite_self]
      exact fin
    · rw [if_neg (by omega)] at e
      have n1 : ¬ (g.2.1 100) (nI a).toNatClampNeg = 0 := by rw [nI_clamp (show a < 2147483648 by omega), z3]; exact mt (zv_t0 z1).mp z0
      have n2 : ¬ (g.2.1 72) (nI a).toNatClampNeg = 11 := by rw [nI_clamp (show a < 2147483648 by omega)]; exact z2
      rw [if_neg n2, if_neg n1, e]
      exact fin
theorem yd_Cf {h' : zs_H} (e : h'.2 = h.2) : ∀ l x, yd_C h l x → yd_C h' l x := by
  intro l
  induction l with
  | nil => intro x H; exact H
  | cons t l ih =>
    intro x ⟨a, a1, a2, a3, a4⟩
    exact ⟨a, a1, a2, by rw [e]; exact a3, by rw [e]; exact ih _ a4⟩
theorem yd_Mf {g' : zs_H} (e : g'.2 = g.2) : ∀ l x, yd_M g l x → yd_M g' l x := by
  intro l
  induction l with
  | nil => intro x H; exact H
  | cons t l ih =>
    intro x ⟨a, a1, a2, a3, a4⟩
    exact ⟨a, a1, a2, by rw [e]; exact a3, by rw [e]; exact ih _ a4⟩
theorem yd_enC {N : Nat} {x1 x3 : Int32} : f_Jd_judgeIf_L12 (N + 1) h x1 (-1) x3 = some h := by
  rw [yd_uC]
  unfold f_Jd_judgeIf_12
  rw [if_pos rfl, ite_self]
theorem yd_enM {N : Nat} {x1 : Int32} : f_Mo_lookAtStatements_L219 (N + 1) g x1 (-1) = some g := by
  rw [yd_uM]
  unfold f_Mo_lookAtStatements_219
  rw [if_pos (by decide)]
/-- behind a fault -/
theorem yd_F (hsz : (h.1 12 6) = nI sz) (hs2 : sz < 100000) (hf : ¬ (h.1 38 3) = 0) (hg : ¬ (g.1 68 29) = 0) : ∀ l x x' turn N N', yd_C h l x → yd_M g l x' → turn + l.length ≤ sz → l.length < N → l.length < N' → f_Jd_judgeIf_L12 N h (nI i) x (nI turn) = some h ∧ f_Mo_lookAtStatements_L219 N' g (nI k) x' = some g := by
  intro l
  induction l with
  | nil =>
    intro x x' turn N N' hC hM h1 h2 h3
    obtain ⟨N, rfl⟩ : ∃ z, N = z + 1 := ⟨N - 1, by omega⟩
    obtain ⟨N', rfl⟩ : ∃ z, N' = z + 1 := ⟨N' - 1, by omega⟩
    rw [show x = -1 from hC, show x' = -1 from hM, yd_enC, yd_enM]
    exact ⟨rfl, rfl⟩
  | cons t l ih =>
    intro x x' turn N N' hC hM h1 h2 h3
    have hl : (t :: l).length = l.length + 1 := rfl
    obtain ⟨N, rfl⟩ : ∃ z, N = z + 1 := ⟨N - 1, by omega⟩
    obtain ⟨N', rfl⟩ : ∃ z, N' = z + 1 := ⟨N' - 1, by omega⟩
    obtain ⟨x2, c1, c2⟩ := yd_stC (i := i) (N := N) (turn := turn) hsz hs2 (by omega) hC
    obtain ⟨x3, m1, m2⟩ := yd_stM (k := k) (N := N') hM
    rw [c2 h rfl (zv_refF hf), m2 g rfl (zv_ruleF hg)]
    exact ih x2 x3 (turn + 1) N N' c1 m1 (by omega) (by omega) (by omega)
/-- 34 -/
theorem yd_34 (hsz : (h.1 12 6) = nI sz) (hs2 : sz < 100000) (J1 : (h.1 38 3) = 0) (J2 : (g.1 68 29) = 0) (hi : i < 32784) (hk : k < 33500) : ∀ l x x' turn N N', yd_C h l x → yd_M g l x' → turn + l.length ≤ sz → l.length < N → l.length < N' →
    (f_Jd_judgeIf_L12 N h (nI i) x (nI turn) = some h ∧ f_Mo_lookAtStatements_L219 N' g (nI k) x' = some g) ∨ (f_Jd_judgeIf_L12 N h (nI i) x (nI turn) = some (zv_rf 34 i h) ∧ f_Mo_lookAtStatements_L219 N' g (nI k) x' = some (zv_ru 34 k g)) := by
  intro l
  induction l with
  | nil =>
    intro x x' turn N N' hC hM h1 h2 h3
    obtain ⟨N, rfl⟩ : ∃ z, N = z + 1 := ⟨N - 1, by omega⟩
    obtain ⟨N', rfl⟩ : ∃ z, N' = z + 1 := ⟨N' - 1, by omega⟩
    rw [show x = -1 from hC, show x' = -1 from hM, yd_enC, yd_enM]
    exact .inl ⟨rfl, rfl⟩
  | cons t l ih =>
    intro x x' turn N N' hC hM h1 h2 h3
    have hl : (t :: l).length = l.length + 1 := rfl
    obtain ⟨N, rfl⟩ : ∃ z, N = z + 1 := ⟨N - 1, by omega⟩
    obtain ⟨N', rfl⟩ : ∃ z, N' = z + 1 := ⟨N' - 1, by omega⟩
    obtain ⟨x2, c1, c2⟩ := yd_stC (i := i) (N := N) (turn := turn) hsz hs2 (by omega) hC
    obtain ⟨x3, m1, m2⟩ := yd_stM (k := k) (N := N') hM
    by_cases z : t = 9 ∨ t = 0
    · rw [if_pos z] at c2 m2
      rw [c2 h rfl zv_ref0, m2 g rfl zv_rule0]
      exact ih x2 x3 (turn + 1) N N' c1 m1 (by omega) (by omega) (by omega)
    · rw [if_neg z] at c2 m2
      rw [c2 (zv_rf 34 i h) rfl (zv_ref1 (φ := 34) (by decide) J1 hi), m2 (zv_ru 34 k g) rfl (zv_rule1 (φ := 34) (by decide) J2 hk)]
      exact .inr (yd_F (h := zv_rf 34 i h) (g := zv_ru 34 k g) hsz hs2 (zv_rff (by decide) (by decide)) (zv_ruf (by decide) (by decide)) l x2 x3 (turn + 1) N N' (yd_Cf (h := h) (h' := zv_rf 34 i h) rfl _ _ c1) (yd_Mf (g := g) (g' := zv_ru 34 k g) rfl _ _ m1) (by omega) (by omega) (by omega))
end YDR
/-- kinds at the top: expressions and bodies -/
def yd_top : zt_T → Prop
  | .leaf => True
  | .inner kd _ _ _ r => (kd ∈ yb_E ∨ kd = 11) ∧ yd_top r
theorem yd_g15 : ∀ {l : zt_T} {st : Nat}, ¬ zg_run 15 st l = 99 → yd_top l := by
  have key : ∀ r ∈ zg_R, r.1 = 15 → ∀ c ∈ r.2.2.1, c ∈ yb_E ∨ c = 11 := by decide +kernel
  intro l
  induction l with
  | leaf => intro _ _; trivial
  | inner c kv o lc r _ ihr =>
    intro st h
    have h1 : ¬ zg_run 15 (zg_q 15 st c) r = 99 := h
    have h2 : ¬ zg_q 15 st c = 99 := fun z => h1 (by rw [z]; exact zv_q99 15 r)
    obtain ⟨cs, to, m1, m2, m3⟩ := zv_qR h2
    exact ⟨key _ m1 rfl c m2, ihr h1⟩
theorem yd_kn {F : Nat → Nat} {bb : Nat} {h g : zs_H} {P Q : Nat → Prop} {c : Nat} {v : Int32} {i k : Nat} {xl : Int32} {n : Nat} (hc : c ∈ yb_E) (N : yb_N F bb h g P Q c v i k xl n) : ∃ t, t < 3 ∧ (h.2.1 14) i = nI t ∧ (g.2.1 100) k = nI t ∧ ¬ (h.2.1 13) i = 11 := by
  rcases N with N | ⟨t, t1, t2, t3, N⟩
  · exact absurd hc (yb_SE N)
  · refine ⟨t, t1, t2, t3, ?_⟩
    rcases N with ⟨_, e, _⟩ | ⟨z, e, _⟩ | ⟨_, e, _⟩ | ⟨_, e, _⟩ | ⟨_, e, _⟩ | ⟨_, s, a, x5, x6, _, _, _, _, _, ⟨_, e, _⟩ | ⟨_, e, _⟩⟩ | ⟨_, s, a, b, _, _, _, _, _, _, ⟨_, e, _⟩ | ⟨_, e, _⟩⟩ | ⟨_, s, a, _, _, _, _, ⟨_, e, _⟩ | ⟨_, e, _⟩⟩
    · rw [e]; decide
    · rw [e]; rcases z with z | z <;> rw [z] <;> decide
    all_goals (rw [e]; decide)
theorem yd_ch {F : Nat → Nat} {bb : Nat} {h g : zs_H} {P Q : Nat → Prop} : ∀ (t : zt_T) (x x' : Int32), yd_top t → yb_F F bb h g P Q t x x' (-1) (-1) → ∃ ts : List Nat, ts.length = zt_ln t ∧ yd_C h ts x ∧ yd_M g ts x' := by
  intro t
  induction t with
  | leaf => intro x x' _ ⟨a1, a2⟩; exact ⟨[], rfl, a1, a2⟩
  | inner kd kv o l r ihl ihr =>
    intro x x' ⟨hE, hr⟩ ⟨i, k, xl, ⟨i1, i2, i3⟩, ⟨k1, k2, k3, k4⟩, N, A, B⟩
    obtain ⟨ts, l1, l2, l3⟩ := ihr _ _ hr B
    rcases hE with hE | hE
    · obtain ⟨t, t1, t2, t3, t4⟩ := yd_kn hE N
      have key : ∀ c ∈ yb_E, ¬ nI (zt_km c) = 11 := by decide
      exact ⟨t :: ts, by show ts.length + 1 = 1 + zt_ln r; omega, ⟨i, i2, i3, .inr ⟨t1, t4, t2⟩, l2⟩, k, k2, k3, .inr ⟨t1, by rw [k4]; exact key kd hE, t3⟩, l3⟩
    · subst hE
      have ek : (h.2.1 13) i = 11 := by
        rcases N with N | ⟨t, t1, t2, t3, N⟩
        · rcases N with e | ⟨_, e, _⟩ | ⟨e, _⟩ | ⟨e, _⟩ | ⟨e, _⟩
          · exact absurd e (by decide)
          · exact e
          · exact absurd e (by decide)
          · exact absurd e (by decide)
          · exact absurd e (by decide)
        · rcases N with ⟨e, _⟩ | ⟨e, _⟩ | ⟨e, _⟩ | ⟨e, _⟩ | ⟨e, _⟩ | ⟨e, _⟩ | ⟨e, _⟩ | ⟨e, _⟩
          · exact absurd e (by decide)
          · exact absurd e (by decide)
          all_goals exact absurd e (by decide)
      exact ⟨9 :: ts, by show ts.length + 1 = 1 + zt_ln r; omega, ⟨i, i2, i3, .inl ⟨rfl, ek⟩, l2⟩, k, k2, k3, .inl ⟨rfl, k4⟩, l3⟩
/-- IF -/
theorem yc_VN15 {kv : Int32 × Int32} {l : zt_T} (hA : zg_A 15 (zg_run 15 0 l) = true) (Ph : yc_Ph l) : yc_VN 15 kv l := by
  intro LC LM nb nf sz F h g i k up d D D' oc P Q y C nd hup LL hPs ow hd hD hD'
  have hz := zF_big
  obtain ⟨D, rfl⟩ : ∃ z, D = z + 1 := ⟨D - 1, by omega⟩
  obtain ⟨D', rfl⟩ : ∃ z, D' = z + 2 := ⟨D' - 2, by omega⟩
  obtain ⟨⟨hi, hk, hPi, hQk, hP, hQ⟩, ⟨c0, c1, c2, c3, c4⟩, cC, ⟨m0, m1, m2, m3⟩, cM⟩ := id nd
  rcases yc_kids (D := D) (D' := D') (zv_ent0 (kd := 15) hi (by decide) c0 (by decide)) C nd ⟨rfl, by decide, by decide, by decide, by decide, by decide⟩ (yc_Ldn LL hk m3 (by rw [m0]; decide)) Ph hPs ow hd (by omega) (by omega) with ⟨h', g', e1, e2, e3, e4, e5⟩ | ⟨h2, g2, e1, e2, O, A, n1, n2, ow'⟩
  · exact ⟨h', g', e1, e2, .inl ⟨e3, e4, e5⟩⟩
  · obtain ⟨i1, i2, i3, i4⟩ := O.2.2.1 i hPi
    have C2 := yc_cxf C O.1 O.2.1
    have hln := yb_ln nd hPs
    have hs2 := C.2.2.2.2
    obtain ⟨ts, l1, l2, l3⟩ := yd_ch l _ _ (yd_g15 (fun z => by rw [z, zv_A99] at hA; exact absurd hA (by decide))) A
    have eC : f_Jd_leave h2 (nI i) = f_Jd_judgeIf_L12 zF h2 (nI i) ((h.2.1 17) i) (nI 0) := by
      rw [zv_lv15 hi (i1.trans c0)]
      unfold f_Jd_judgeIf
      rw [if_pos (zi_in (by omega) hi), nI_clamp (show i < 2147483648 by omega), i4]; rfl
    have eM : f_Mo_lookAlone_54 g2 (nI k) (nI 15) = f_Mo_lookAtStatements_L219 zF g2 (nI k) ((g.2.1 76) k) := by
      rw [zv_54S (by decide) (by decide) n2]
      unfold f_Mo_lookAtStatements
      simp (config := { decide := true }) only [if_pos (zi_in (show k < 2147483648 by omega) hk), nI_clamp (show k < 2147483648 by omega), show (g2.2.1 72) k = 15 by rw [O.2.1.2.1 _ (by decide)]; exact m0, if_false, if_true, show (g2.2.1 76) k = (g.2.1 76) k by rw [O.2.1.2.1 _ (by decide)]]
    have eo : yc_o (.inner 15 kv () l .leaf) = yc_o l := by
      show 0 + yc_o l + 0 = _; omega
    rcases yd_34 (h := h2) (g := g2) (i := i) (k := k) C2.2.2.2.1 (by omega) n1 n2 hi hk ts _ _ 0 zF zF l2 l3 (by omega) (by omega) (by omega) with ⟨v1, v2⟩ | ⟨v1, v2⟩
    · exact ⟨h2, g2, by rw [e1, eC, v1], by rw [e2, eM, v2], .inr ⟨yc_pl C nd (by decide) (yb_sy0 (by decide) (by decide)) yc_out0 O A, n1, n2, by rw [ow'.1, eo], fun z => zg_xl (by decide) (ow'.2.1 z), zg_ruE (by decide) (by decide)⟩⟩
    · obtain ⟨f1, f2, f3⟩ := yc_mkF (φ := 34) (h := h2) (g := g2) (i := i) (k := k) (p := kv.1) (by decide) (by decide) (by rw [O.1.2.1 _ (by decide)]; exact c1) (by rw [O.2.1.2.1 _ (by decide)]; exact m1 (by decide))
      exact ⟨_, _, by rw [e1, eC, v1], by rw [e2, eM, v2], .inl ⟨yc_Fb1 O f1, f2, f3⟩⟩
end
section
/-! The judge: statements are visited: CASE (34), ranges (35). -/
theorem yc_g16 {l : zt_T} (h : zg_A 16 (zg_run 16 0 l) = true) : ∃ c kv o lc r, l = .inner c kv o lc r ∧ c ∈ yb_E := by
  have key : ∀ r ∈ zg_R, r.1 = 16 → r.2.1 = 0 → r.2.2.1 = yb_E := by decide +kernel
  cases l with
  | leaf => exact absurd h (by decide)
  | inner c kv o lc r =>
    obtain ⟨cs, to, m1, m2, m3⟩ := zv_qR (yb_run h)
    have k1 : cs = yb_E := key _ m1 rfl rfl
    rw [k1] at m2
    exact ⟨c, kv, o, lc, r, rfl, m2⟩
/-- ownCells grows when a node is entered -/
theorem yc_own {h g : zs_H} {z : Int32} : yc_out (fun _ => False) (fun _ => False) h g (zs_uF h 38 10 z) g := ⟨zfr_F (by decide) zfr_rfl, zfr_rfl, fun _ _ => ⟨rfl, rfl, rfl, rfl⟩, fun _ _ => ⟨rfl, rfl, rfl⟩, rfl, fun _ _ _ _ _ => rfl⟩
/-- CASE -/
theorem yc_VN16 {kv : Int32 × Int32} {l : zt_T} (hA : zg_A 16 (zg_run 16 0 l) = true) (Ph : yc_Ph l) : yc_VN 16 kv l := by
  intro LC LM nb nf sz F h g i k up d D D' oc P Q y C nd hup LL hPs ow hd hD hD'
  obtain ⟨D, rfl⟩ : ∃ z, D = z + 1 := ⟨D - 1, by omega⟩
  obtain ⟨D', rfl⟩ : ∃ z, D' = z + 2 := ⟨D' - 2, by omega⟩
  obtain ⟨⟨hi, hk, hPi, hQk, hP, hQ⟩, ⟨c0, c1, c2, c3, c4⟩, cC, ⟨m0, m1, m2, m3⟩, cM⟩ := id nd
  have hen : f_Jd_enter h (nI i) = some (zs_uF h 38 10 (nI (oc + 1))) := by
    unfold f_Jd_enter
    simp (config := { decide := true }) only [if_pos (zi_in (show i < 2147483648 by omega) hi), nI_clamp (show i < 2147483648 by omega), show (h.2.1 13) i = 16 from c0, if_false, if_true, ow, nI_1]
  have O0 : yc_out (fun _ => False) (fun _ => False) h g (zs_uF h 38 10 (nI (oc + 1))) g := yc_own
  have C1 := yc_cxf C O0.1 O0.2.1
  have nd1 : yb_nd LC LM (zs_uF h 38 10 (nI (oc + 1))) g 16 kv l i k up P Q y := ⟨nd.1, nd.2.1, yc_keepC O0 (fun _ _ z => z) cC, nd.2.2.2.1, nd.2.2.2.2⟩
  rcases yc_kids (D := D) (D' := D') hen C1 nd1 ⟨rfl, by decide, by decide, by decide, by decide, by decide⟩ (yc_Ldn (yc_Lf LL (by omega) O0) hk m3 (by rw [m0]; decide)) Ph hPs rfl hd (by omega) (by omega) with ⟨h', g', e1, e2, e3, e4, e5⟩ | ⟨h2, g2, e1, e2, O, A, n1, n2, ow'⟩
  · exact ⟨h', g', e1, e2, .inl ⟨yc_Fb0 O0 e3, e4, e5⟩⟩
  · obtain ⟨i1, i2, i3, i4⟩ := O.2.2.1 i hPi
    obtain ⟨c', kv1, o1, lc1, r1, el, hE⟩ := yc_g16 hA
    have A' := A
    rw [el] at A'
    obtain ⟨a, ka, t, a1, a2, a3, b1, b2, b3, t1, t2, t3, _⟩ := yb_first hE A'
    have ge : ∀ z, ¬ z ∈ yc_g → g2.2.1 z = g.2.1 z := fun z hz => O.2.1.2.1 z hz
    have eC : f_Jd_leave h2 (nI i) = f_Jd_refuseIf h2 (if t = 0 then 1 else 0) 34 (nI i) := by
      unfold f_Jd_leave f_Jd_leave_308
      simp (config := { decide := true }) only [if_pos (zi_in (show i < 2147483648 by omega) hi), nI_clamp (show i < 2147483648 by omega), show (h2.2.1 13) i = 16 from i1.trans c0, if_false, if_true, show (h2.2.1 17) i = nI a from i4.trans a3, if_pos (zi_in (show a < 2147483648 by omega) a2), nI_clamp (show a < 2147483648 by omega), t2, zv_t0 t1, Option.bind_fun_some]
      by_cases z : t = 0
      · rw [if_pos z, if_pos z]
      · rw [if_neg z, if_neg z]
    have eM : f_Mo_lookAlone_54 g2 (nI k) (nI 16) = f_Mo_rule g2 (if t = 0 then 1 else 0) 34 (nI k) := by
      rw [zv_54S (by decide) (by decide) n2]
      unfold f_Mo_lookAtStatements f_Mo_lookAtStatements_291
      simp (config := { decide := true }) only [if_pos (zi_in (show k < 2147483648 by omega) hk), nI_clamp (show k < 2147483648 by omega), show (g2.2.1 72) k = 16 by rw [ge _ (by decide)]; exact m0, if_false, if_true, show (g2.2.1 76) k = nI ka by rw [ge _ (by decide)]; exact b3, if_pos (zi_in (show ka < 2147483648 by omega) b2), nI_clamp (show ka < 2147483648 by omega), t3, zv_isn t1, Option.bind_fun_some]
      by_cases z : t = 0
      · simp (config := { decide := true }) only [z, if_true]
      · simp (config := { decide := true }) only [z, if_false]
    have eo : oc + yc_o (.inner 16 kv () l .leaf) = oc + 1 + yc_o l := by
      show oc + (1 + yc_o l + 0) = _; omega
    obtain ⟨h', g', v1, v2, v3⟩ := zv_both (φ := 34) (C := t = 0) n1 n2 hi hk
    refine ⟨h', g', by rw [e1, eC]; exact v1, by rw [e2, eM]; exact v2, ?_⟩
    rcases v3 with ⟨_, y1, y2⟩ | ⟨_, y1, y2⟩
    · rw [y1, y2]
      exact .inr ⟨yc_pl C1 nd1 (by decide) (yb_sy0 (by decide) (by decide)) O0 O A, n1, n2, by rw [ow'.1, eo], fun z => zg_xl (by decide) (ow'.2.1 z), zg_ruE (by decide) (by decide)⟩
    · rw [y1, y2]
      obtain ⟨f1, f2, f3⟩ := yc_mkF (φ := 34) (h := h2) (g := g2) (i := i) (k := k) (p := kv.1) (by decide) (by decide) (by rw [O.1.2.1 _ (by decide)]; exact c1) (by rw [ge _ (by decide)]; exact m1 (by decide))
      exact .inl ⟨yc_Fb0 O0 (yc_Fb1 O f1), f2, f3⟩
theorem yc_g18 {l : zt_T} (h : zg_A 18 (zg_run 18 0 l) = true) : ∃ c kv o lc, (c = 30 ∨ c = 31) ∧ (l = .inner c kv o lc .leaf ∨ ∃ c2 kv2 o2 lc2, l = .inner c kv o lc (.inner c2 kv2 o2 lc2 .leaf) ∧ (c2 = 30 ∨ c2 = 31)) := by
  have key : ∀ r ∈ zg_R, r.1 = 18 → r.2 = (0, [30, 31], 1) ∨ r.2 = (1, [30, 31], 2) := by decide +kernel
  cases l with
  | leaf => exact absurd h (by decide)
  | inner c kv o lc r =>
    obtain ⟨cs, to, m1, m2, m3⟩ := zv_qR (yb_run h)
    have k1 := key _ m1 rfl
    simp only [Prod.mk.injEq] at k1
    obtain ⟨e2, e3⟩ : cs = [30, 31] ∧ to = 1 := by
      rcases k1 with ⟨_, a, b⟩ | ⟨a, _⟩
      · exact ⟨a, b⟩
      · exact absurd a (by decide)
    rw [e2] at m2
    have m2' : c = 30 ∨ c = 31 := by simp only [List.mem_cons, List.not_mem_nil, or_false] at m2; exact m2
    have h' : zg_A 18 (zg_run 18 1 r) = true := by
      have : zg_run 18 0 (.inner c kv o lc r) = zg_run 18 1 r := by show zg_run 18 (zg_q 18 0 c) r = _; rw [m3, e3]
      rw [← this]; exact h
    cases r with
    | leaf => exact ⟨c, kv, o, lc, m2', .inl rfl⟩
    | inner c2 kv2 o2 lc2 r2 =>
      obtain ⟨cs, to, n1, n2, n3⟩ := zv_qR (yb_run h')
      have k1 := key _ n1 rfl
      simp only [Prod.mk.injEq] at k1
      obtain ⟨e2, e3⟩ : cs = [30, 31] ∧ to = 2 := by
        rcases k1 with ⟨a, _⟩ | ⟨_, a, b⟩
        · exact absurd a (by decide)
        · exact ⟨a, b⟩
      rw [e2] at n2
      have n2' : c2 = 30 ∨ c2 = 31 := by simp only [List.mem_cons, List.not_mem_nil, or_false] at n2; exact n2
      have h2 : zg_A 18 (zg_run 18 2 r2) = true := by
        have : zg_run 18 1 (.inner c2 kv2 o2 lc2 r2) = zg_run 18 2 r2 := by show zg_run 18 (zg_q 18 1 c2) r2 = _; rw [n3, e3]
        rw [← this]; exact h'
      cases r2 with
      | leaf => exact ⟨c, kv, o, lc, m2', .inr ⟨c2, kv2, o2, lc2, rfl, n2'⟩⟩
      | inner c3 kv3 o3 lc3 r3 =>
        obtain ⟨cs, to, n1, _, _⟩ := zv_qR (yb_run h2)
        have k1 := key _ n1 rfl
        simp only [Prod.mk.injEq] at k1
        rcases k1 with ⟨a, _⟩ | ⟨a, _⟩ <;> exact absurd a (by decide)
/-- a constant that has been judged -/
theorem yc_cst {F : Nat → Nat} {bb : Nat} {h g : zs_H} {P Q : Nat → Prop} {c : Nat} {kv : Int32 × Int32} {o : Unit} {lc r : zt_T} {x x' e e' : Int32} (hc : c = 30 ∨ c = 31) (A : yb_F F bb h g P Q (.inner c kv o lc r) x x' e e') : ∃ a ka, P a ∧ a < 32784 ∧ x = nI a ∧ Q ka ∧ ka < 33500 ∧ x' = nI ka ∧ (h.2.1 13) a = nI c ∧ (h.2.1 16) a = kv.2 ∧ (g.2.1 72) ka = nI c ∧ yb_F F bb h g P Q r ((h.2.1 18) a) ((g.2.1 78) ka) e e' := by
  obtain ⟨a, ka, xl, ⟨a1, a2, a3⟩, ⟨b1, b2, b3, b4⟩, N, _, B⟩ := A
  have ek : zt_km c = c := by rcases hc with e | e <;> rw [e] <;> rfl
  rw [ek] at b4
  refine ⟨a, ka, a1, a2, a3, b1, b2, b3, ?_⟩
  have : (h.2.1 13) a = nI c ∧ (h.2.1 16) a = kv.2 := by
    rcases N with N | ⟨t, t1, t2, t3, N⟩
    · exact absurd (by rcases hc with e | e <;> rw [e] <;> decide) (yb_SE N)
    · rcases N with ⟨e, _⟩ | ⟨_, n1, n2⟩ | ⟨e, _⟩ | ⟨e, _⟩ | ⟨e, _⟩ | ⟨e, _⟩ | ⟨e, _⟩ | ⟨e, _⟩
      · omega
      · exact ⟨n1, n2.1⟩
      all_goals omega
  exact ⟨this.1, this.2, b4, B⟩
/-- a range -/
theorem yc_VN18 {kv : Int32 × Int32} {l : zt_T} (hA : zg_A 18 (zg_run 18 0 l) = true) (Ph : yc_Ph l) : yc_VN 18 kv l := by
  intro LC LM nb nf sz F h g i k up d D D' oc P Q y C nd hup LL hPs ow hd hD hD'
  obtain ⟨D, rfl⟩ : ∃ z, D = z + 1 := ⟨D - 1, by omega⟩
  obtain ⟨D', rfl⟩ : ∃ z, D' = z + 2 := ⟨D' - 2, by omega⟩
  obtain ⟨⟨hi, hk, hPi, hQk, hP, hQ⟩, ⟨c0, c1, c2, c3, c4⟩, cC, ⟨m0, m1, m2, m3⟩, cM⟩ := id nd
  rcases yc_kids (D := D) (D' := D') (zv_ent0 (kd := 18) hi (by decide) c0 (by decide)) C nd ⟨rfl, by decide, by decide, by decide, by decide, by decide⟩ (yc_Ldn LL hk m3 (by rw [m0]; decide)) Ph hPs ow hd (by omega) (by omega) with ⟨h', g', e1, e2, e3, e4, e5⟩ | ⟨h2, g2, e1, e2, O, A, n1, n2, ow'⟩
  · exact ⟨h', g', e1, e2, .inl ⟨e3, e4, e5⟩⟩
  · obtain ⟨i1, i2, i3, i4⟩ := O.2.2.1 i hPi
    have ge : ∀ z, ¬ z ∈ yc_g → g2.2.1 z = g.2.1 z := fun z hz => O.2.1.2.1 z hz
    have pc : (h2.2.1 15) i = kv.1 := by rw [O.1.2.1 _ (by decide)]; exact c1
    have pm : (g2.2.1 73) k = kv.1 := by rw [ge _ (by decide)]; exact m1 (by decide)
    have eo : yc_o (.inner 18 kv () l .leaf) = yc_o l := by
      show 0 + yc_o l + 0 = _; omega
    have fin : ∀ (B : Prop) [Decidable B], f_Jd_leave h2 (nI i) = f_Jd_refuseIf h2 (if B then 1 else 0) 35 (nI i) → f_Mo_lookAlone_54 g2 (nI k) (nI 18) = f_Mo_rule g2 (if B then 1 else 0) 35 (nI k) → ∃ h' g', f_Jd_visit (D + 1) h (nI i) (nI d) = some h' ∧ f_Mo_look (D' + 2) g (nI k) = some g' ∧ ((zv_Fb h g h' g' ∧ ¬ (h'.1 38 3) = 0 ∧ ¬ (g'.1 68 29) = 0) ∨ (yc_ok F (nb - 1) 18 kv l i k P Q h g h' g' ∧ (h'.1 38 3) = 0 ∧ (g'.1 68 29) = 0 ∧ yc_ow h h' oc (.inner 18 kv () l .leaf))) := by
      intro B _ eC eM
      obtain ⟨h', g', v1, v2, v3⟩ := zv_both (φ := 35) (C := B) n1 n2 hi hk
      refine ⟨h', g', by rw [e1, eC]; exact v1, by rw [e2, eM]; exact v2, ?_⟩
      rcases v3 with ⟨_, y1, y2⟩ | ⟨_, y1, y2⟩
      · rw [y1, y2]
        exact .inr ⟨yc_pl C nd (by decide) (yb_sy0 (by decide) (by decide)) yc_out0 O A, n1, n2, by rw [ow'.1, eo], fun z => zg_xl (by decide) (ow'.2.1 z), zg_ruE (by decide) (by decide)⟩
      · rw [y1, y2]
        obtain ⟨f1, f2, f3⟩ := yc_mkF (φ := 35) (h := h2) (g := g2) (i := i) (k := k) (p := kv.1) (by decide) (by decide) pc pm
        exact .inl ⟨yc_Fb1 O f1, f2, f3⟩
    obtain ⟨c', kv1, o1, lc1, hc, el⟩ := yc_g18 hA
    have e31 : ∀ c : Nat, (c = 30 ∨ c = 31) → ((nI c = 31) ↔ c = 31) := fun c h => zc_eq (k := 31) (by decide) (by omega)
    have cM' := cM
    rcases el with el | ⟨c2', kv2, o2, lc2, el, hc2⟩
    · have A' := A
      rw [el] at A' cM'
      obtain ⟨a, ka, a1, a2, a3, b1, b2, b3, t1, t2, t3, ⟨z1, z2⟩⟩ := yc_cst hc A'
      obtain ⟨b', Q1, Q2, z3, q1, q2, q3, q4, q5, q6, q7, _, _, _, q11, q12⟩ := zv_hM cM'
      have ekb : b' = ka := by rw [b3] at q1; exact ((nI_eq (by omega) (by omega)).mp q1).symm
      subst ekb
      have q11' : (g.2.1 78) b' = -1 ∧ z3 = -1 := q11
      rw [q11'.2, if_pos rfl, b3] at q12
      refine fin (c' = 31) ?_ ?_
      · rw [zv_lv18 hi (i1.trans c0)]
        unfold f_Jd_judgeRange f_Jd_judgeRange_39 f_Jd_judgeRange_91
        simp only [if_pos (zi_in (show i < 2147483648 by omega) hi), nI_clamp (show i < 2147483648 by omega), show (h2.2.1 17) i = nI a from i4.trans a3, if_pos (zi_in (show a < 2147483648 by omega) a2), nI_clamp (show a < 2147483648 by omega), t1, e31 c' hc, z1, if_true, Option.bind_fun_some]
        by_cases z : c' = 31
        · rw [if_pos z, if_pos z]
        · rw [if_neg z, if_neg z]
      · rw [zv_54S (by decide) (by decide) n2]
        unfold f_Mo_lookAtStatements f_Mo_lookAtStatements_358 f_Mo_lookAtStatements_363
        simp (config := { decide := true }) only [if_pos (zi_in (show k < 2147483648 by omega) hk), nI_clamp (show k < 2147483648 by omega), show (g2.2.1 72) k = 18 by rw [ge _ (by decide)]; exact m0, if_false, if_true, show (g2.2.1 76) k = nI b' by rw [ge _ (by decide)]; exact b3, show (g2.2.1 77) k = nI b' by rw [ge _ (by decide)]; exact q12, if_pos (zi_in (show b' < 2147483648 by omega) b2), nI_clamp (show b' < 2147483648 by omega), t3, e31 c' hc, Option.bind_fun_some, Int32.le_refl]
        by_cases z : c' = 31
        · rw [if_pos z, if_pos z]
        · rw [if_neg z, if_neg z, if_neg z]
    · have A' := A
      rw [el] at A' cM'
      obtain ⟨a, ka, a1, a2, a3, b1, b2, b3, t1, t2, t3, B⟩ := yc_cst hc A'
      obtain ⟨b, kb, p1, p2, p3, p4, p5, p6, r1, r2, r3, ⟨z1, z2⟩⟩ := yc_cst hc2 B
      obtain ⟨b', Q1, Q2, z3, q1, q2, q3, q4, q5, q6, q7, _, _, _, q11, q12⟩ := zv_hM cM'
      have ekb : b' = ka := by rw [b3] at q1; exact ((nI_eq (by omega) (by omega)).mp q1).symm
      subst ekb
      obtain ⟨L1, _⟩ := yb_last2 (show b' < 2147483648 by omega) cM' b3
      obtain ⟨b'', Q3, Q4, z4, s1, s2, s3, s4, s5, s6, s7, _⟩ := zv_hM q11
      have p6' : (g.2.1 78) b' = nI kb := by rw [← ge _ (by decide)]; exact p6
      have ekc : b'' = kb := by rw [p6'] at s1; exact ((nI_eq (by omega) (by omega)).mp s1).symm
      subst ekc
      have nk1 : ¬ zt_nk c' = true := by rcases hc with e | e <;> rw [e] <;> decide
      have nk2 : ¬ zt_nk c2' = true := by rcases hc2 with e | e <;> rw [e] <;> decide
      rw [if_neg nk1] at q6
      rw [if_neg nk2] at s6
      refine fin (c' = 31 ∨ c2' = 31 ∨ ¬ kv1.2 ≤ kv2.2) ?_ ?_
      · rw [zv_lv18 hi (i1.trans c0)]
        unfold f_Jd_judgeRange f_Jd_judgeRange_39 f_Jd_judgeRange_83 f_Jd_judgeRange_88 f_Jd_judgeRange_91
        simp only [if_pos (zi_in (show i < 2147483648 by omega) hi), nI_clamp (show i < 2147483648 by omega), show (h2.2.1 17) i = nI a from i4.trans a3, if_pos (zi_in (show a < 2147483648 by omega) a2), nI_clamp (show a < 2147483648 by omega), t1, e31 c' hc, p3, zc_m1 (show b < 2147483648 by omega), if_false, if_pos (zi_in (show b < 2147483648 by omega) p2), nI_clamp (show b < 2147483648 by omega), r1, e31 c2' hc2, t2, r2, Option.bind_fun_some]
        by_cases y1 : c' = 31 <;> by_cases y2 : c2' = 31 <;> by_cases y3 : kv1.2 ≤ kv2.2 <;> simp only [y1, y2, y3, if_true, if_false, true_or, or_true, or_self, not_true, not_false_iff, or_false] <;> rfl
      · rw [zv_54S (by decide) (by decide) n2]
        unfold f_Mo_lookAtStatements f_Mo_lookAtStatements_358 f_Mo_lookAtStatements_363
        simp (config := { decide := true }) only [if_pos (zi_in (show k < 2147483648 by omega) hk), nI_clamp (show k < 2147483648 by omega), show (g2.2.1 72) k = 18 by rw [ge _ (by decide)]; exact m0, if_false, if_true, show (g2.2.1 76) k = nI b' by rw [ge _ (by decide)]; exact b3, show (g2.2.1 77) k = nI b'' by rw [ge _ (by decide), L1]; exact p6', if_pos (zi_in (show b' < 2147483648 by omega) b2), nI_clamp (show b' < 2147483648 by omega), if_pos (zi_in (show b'' < 2147483648 by omega) p5), nI_clamp (show b'' < 2147483648 by omega), t3, r3, e31 c' hc, e31 c2' hc2, show (g2.2.1 74) b' = kv1.2 by rw [ge _ (by decide)]; exact q6, show (g2.2.1 74) b'' = kv2.2 by rw [ge _ (by decide)]; exact s6, Option.bind_fun_some]
        by_cases y1 : c' = 31 <;> by_cases y2 : c2' = 31 <;> by_cases y3 : kv1.2 ≤ kv2.2 <;> simp only [y1, y2, y3, if_true, if_false, true_or, or_true, or_self, not_true, not_false_iff, or_false]
end
section
/-! How often a FOR goes round. -/
theorem yc_div {x y : Int64} {X Y : Int} (hx : x.toInt = X) (hy : y.toInt = Y) (h1 : -8589934592 ≤ X) (h2 : X ≤ 8589934592) : (x / y + 1).toInt = X.tdiv Y + 1 ∧ (X.tdiv Y).natAbs ≤ X.natAbs := by
  have hb : (X.tdiv Y).natAbs ≤ X.natAbs := Int.natAbs_tdiv_le_natAbs X Y
  refine ⟨?_, hb⟩
  have e : (x / y).toInt = X.tdiv Y := by
    rw [Int64.toInt_div, hx, hy, zv_bmod (by omega) (by omega)]
  rw [Int64.toInt_add, e, show (1 : Int64).toInt = 1 from rfl, zv_bmod (by omega) (by omega)]
theorem yc_tm {a b st : Int32} (hs : ¬ st = 0) : ∃ T : Int64, f_Cd_times a b st = some T ∧ 0 ≤ T.toInt ∧ T = (if b.toInt64 - a.toInt64 = 0 ∨ (0 < b.toInt64 - a.toInt64 ↔ 0 < st.toInt64) then (b.toInt64 - a.toInt64) / st.toInt64 + 1 else 0) := by
  have a1 := Int32.le_toInt a
  have a2 := Int32.toInt_lt a
  have b1 := Int32.le_toInt b
  have b2 := Int32.toInt_lt b
  have s1 := Int32.le_toInt st
  have s2 := Int32.toInt_lt st
  have eS : st.toInt64.toInt = st.toInt := Int32.toInt_toInt64 st
  have hS : ¬ st.toInt = 0 := fun z => hs (Int32.toInt_inj.mp (by rw [z]; rfl))
  have eW := (zv_i64 a b).1
  have eV := (zv_i64 b a).1
  have z64 : (0 : Int64).toInt = 0 := rfl
  have iS : (0 < st.toInt64) ↔ 0 < st.toInt := by rw [Int64.lt_iff_toInt_lt, eS, z64]
  have iW : (0 < b.toInt64 - a.toInt64) ↔ 0 < b.toInt - a.toInt := by rw [Int64.lt_iff_toInt_lt, eW, z64]
  have iW0 : (b.toInt64 - a.toInt64 = 0) ↔ b.toInt - a.toInt = 0 := by rw [← Int64.toInt_inj, eW, z64]
  have nW : (b.toInt64 - a.toInt64 < 0) ↔ b.toInt - a.toInt < 0 := by rw [Int64.lt_iff_toInt_lt, eW, z64]
  have nV : (a.toInt64 - b.toInt64 < 0) ↔ a.toInt - b.toInt < 0 := by rw [Int64.lt_iff_toInt_lt, eV, z64]
  have c0 : (st ≤ 0) ↔ st.toInt ≤ 0 := by rw [Int32.le_iff_toInt_le]; rfl
  obtain ⟨d1, d2⟩ := yc_div (x := b.toInt64 - a.toInt64) (y := st.toInt64) eW eS (by omega) (by omega)
  unfold f_Cd_times f_Cd_times_17 zd_absl
  by_cases zp : 0 < st.toInt
  · rw [if_neg (mt c0.mp (by omega)), if_pos (iS.mpr zp)]
    have n0 : ¬ st.toInt64 = 0 := fun z => by rw [z, z64] at eS; omega
    by_cases zw : b.toInt - a.toInt < 0
    · rw [if_pos (nW.mpr zw)]
      refine ⟨_, rfl, by rw [z64]; omega, ?_⟩
      rw [if_neg (fun u => by
        rcases u with u | u
        · have := iW0.mp u; omega
        · have := iW.mp (u.mpr (iS.mpr zp)); omega)]
    · rw [if_neg (mt nW.mp zw), if_neg n0, if_neg n0]
      refine ⟨_, rfl, ?_, ?_⟩
      · rw [d1]
        have := Int.tdiv_nonneg (show 0 ≤ b.toInt - a.toInt by omega) (show 0 ≤ st.toInt by omega)
        omega
      · rw [if_pos]
        by_cases z0 : b.toInt - a.toInt = 0
        · exact .inl (iW0.mpr z0)
        · exact .inr ⟨fun _ => iS.mpr zp, fun _ => iW.mpr (by omega)⟩
  · have eN : (-st.toInt64).toInt = -st.toInt := by
      rw [Int64.toInt_neg, eS, zv_bmod (by omega) (by omega)]
    have n0 : ¬ -st.toInt64 = 0 := fun z => by rw [z, z64] at eN; omega
    rw [if_pos (c0.mpr (by omega)), if_neg (mt iS.mp zp)]
    obtain ⟨f1, f2⟩ := yc_div (x := a.toInt64 - b.toInt64) (y := -st.toInt64) eV eN (by omega) (by omega)
    by_cases zw : a.toInt - b.toInt < 0
    · rw [if_pos (nV.mpr zw)]
      refine ⟨_, rfl, by rw [z64]; omega, ?_⟩
      rw [if_neg (fun u => by
        rcases u with u | u
        · have := iW0.mp u; omega
        · have := iS.mp (u.mp (iW.mpr (by omega))); omega)]
    · rw [if_neg (mt nV.mp zw), if_neg n0, if_neg n0]
      refine ⟨_, rfl, ?_, ?_⟩
      · rw [f1]
        have := Int.tdiv_nonneg (show 0 ≤ a.toInt - b.toInt by omega) (show 0 ≤ -st.toInt by omega)
        omega
      · rw [if_pos]
        · apply Int64.toInt_inj.mp
          rw [f1, d1, show a.toInt - b.toInt = -(b.toInt - a.toInt) by omega, Int.neg_tdiv_neg]
        · by_cases z0 : b.toInt - a.toInt = 0
          · exact .inl (iW0.mpr z0)
          · exact .inr ⟨fun u => by have := iW.mp u; omega, fun u => by have := iS.mp u; omega⟩
theorem yc_ofN {T : Int64} (h1 : 0 ≤ T.toInt) (h2 : T ≤ 1000000) : ∃ n, n ≤ 1000000 ∧ T = Int64.ofNat n := by
  rw [Int64.le_iff_toInt_le, show (1000000 : Int64).toInt = 1000000 from rfl] at h2
  refine ⟨T.toInt.toNat, by omega, ?_⟩
  apply Int64.toInt_inj.mp
  rw [Int64.toInt_ofNat', zv_bmod (by omega) (by omega)]
  omega
end
section
/-! The judge: the constants of a FOR (36). -/
def yc_R (b : Bool) (φ i : Nat) (h : zs_H) : zs_H := if b = true ∧ (h.1 38 3) = 0 then zv_rf φ i h else h
section YFU
variable {h g : zs_H} {i k u ty : Nat}
theorem yc_R2 {b : Bool} {φ : Nat} : (yc_R b φ i h).2 = h.2 ∧ (∀ p q, ¬ (p, q) = (38, 3) → ¬ (p, q) = (38, 0) → (yc_R b φ i h).1 p q = h.1 p q) := by
  unfold yc_R
  split
  · refine ⟨rfl, fun p q h1 h2 => ?_⟩
    unfold zv_rf
    rw [zu_FF, if_neg (fun z => h2 (by rw [z.1, z.2])), zu_FF, if_neg (fun z => h1 (by rw [z.1, z.2]))]
  · exact ⟨rfl, fun _ _ _ _ => rfl⟩
theorem yc_Rf {φ : Nat} {b : Bool} {x : Int32} (hi : i < 32784) (hx : x = if b = true then 1 else 0) : f_Jd_refuseIf h x (nI φ) (nI i) = some (yc_R b φ i h) := by
  unfold yc_R
  subst hx
  cases b with
  | false => rw [if_neg (by decide), zv_ref0, if_neg (fun z => absurd z.1 (by decide))]
  | true =>
    rw [if_pos rfl]
    by_cases z : (h.1 38 3) = 0
    · rw [zv_ref1 (by decide) z hi, if_pos ⟨rfl, z⟩]; rfl
    · rw [zv_refF z, if_neg (fun u => z u.2)]
theorem yc_RR {φ : Nat} {b c : Bool} (h1 : 0 < φ) (h2 : φ < 1000) : yc_R c φ i (yc_R b φ i h) = yc_R (b || c) φ i h := by
  unfold yc_R
  cases b with
  | false => rw [if_neg (fun z : false = true ∧ (h.1 38 3) = 0 => absurd z.1 (by decide))]; rfl
  | true =>
    by_cases z : (h.1 38 3) = 0
    · rw [if_pos (⟨rfl, z⟩ : true = true ∧ (h.1 38 3) = 0), if_neg (fun u => zv_rff (φ := φ) (i := i) (h := h) h1 h2 u.2), if_pos (⟨rfl, z⟩ : (true || c) = true ∧ (h.1 38 3) = 0)]
    · rw [if_neg (fun u : true = true ∧ (h.1 38 3) = 0 => z u.2), if_neg (fun u => z u.2), if_neg (fun u => z u.2)]
/-- whether a constant is wrong for a type -/
def yc_b (ty : Nat) (kd : Int32) (v : Int32) : Bool := decide (kd = 31) || (decide (ty = 1) && (decide (v < -32768) || decide (32767 < v)))
theorem yc_u71 {N : Nat} {x1 x2 x3 x5 : Int32} (x : Int32) : f_Jd_judgeFor_L71 (N + 1) h x1 x2 x3 x x5 = f_Jd_judgeFor_71 (f_Jd_judgeFor_L71 N) h x1 x2 x3 x x5 := rfl
theorem yc_71 {N x turn : Nat} (hi : i < 32784) (hx : x < 32784) (ht : turn < 3) (hty : ty < 3) (hk : zv_kc h x) : f_Jd_judgeFor_L71 (N + 1) h (nI i) (nI (32 + u)) (nI ty) (nI x) (nI turn) = f_Jd_judgeFor_L71 N (yc_R (yc_b ty ((h.2.1 13) x) ((h.2.1 16) x)) 36 i h) (nI i) (nI (32 + u)) (nI ty) ((h.2.1 18) x) (nI (turn + 1)) := by
  rw [yc_u71]
  have e120 : ∀ y : Int32, y = (if yc_b ty ((h.2.1 13) x) ((h.2.1 16) x) = true then 1 else 0) → f_Jd_judgeFor_120 (f_Jd_judgeFor_L71 N) h (nI i) (nI (32 + u)) (nI ty) (nI x) (nI turn) y = f_Jd_judgeFor_L71 N (yc_R (yc_b ty ((h.2.1 13) x) ((h.2.1 16) x)) 36 i h) (nI i) (nI (32 + u)) (nI ty) ((h.2.1 18) x) (nI (turn + 1)) := by
    intro y hy
    unfold f_Jd_judgeFor_120
    rw [show (36 : Int32) = nI 36 from rfl, yc_Rf hi hy, Option.bind_some, if_pos (zi_in (by omega) hx), nI_clamp (show x < 2147483648 by omega), yc_R2.1, nI_1]
  unfold f_Jd_judgeFor_71 f_Jd_judgeFor_115 f_Jd_isInRange
  rw [if_neg (mt (zc_le (k := 3) (by decide) (by omega)).mp (by omega)), zv_isC1 hx hk, Option.bind_some, if_neg (by decide), if_pos (zi_in (by omega) hx), if_pos (zi_in (by omega) hx)]
  simp only [nI_clamp (show x < 2147483648 by omega), show (nI ty = 1) ↔ ty = 1 from zc_eq (k := 1) (by decide) (by omega)]
  by_cases z1 : (h.2.1 13) x = 31
  · rw [if_pos z1]
    exact e120 1 (by unfold yc_b; simp only [z1, decide_true, Bool.true_or, if_true])
  · rw [if_neg z1]
    by_cases z2 : ty = 1
    · by_cases z3 : (h.2.1 16) x < -32768
      · rw [if_pos z2, if_pos z3, Option.bind_some, if_pos rfl]
        exact e120 1 (by unfold yc_b; simp only [z1, z2, z3, decide_true, decide_false, Bool.true_or, Bool.or_true, Bool.true_and, Bool.false_or, if_true])
      · by_cases z4 : 32767 < (h.2.1 16) x
        · rw [if_pos z2, if_neg z3, if_pos z4, Option.bind_some, if_pos rfl]
          exact e120 1 (by unfold yc_b; simp only [z1, z2, z3, z4, decide_true, decide_false, Bool.or_true, Bool.true_and, Bool.false_or, if_true])
        · rw [if_pos z2, if_neg z3, if_neg z4, Option.bind_some, if_neg (by decide)]
          exact e120 0 (by unfold yc_b; simp only [z1, z2, z3, z4, decide_true, decide_false, Bool.or_self, Bool.true_and]; rfl)
    · simp only [z2, if_false, Option.bind_some, show ¬ (1 : Int32) = 0 by decide]
      exact e120 0 (by unfold yc_b; simp only [z1, z2, decide_false, Bool.false_and, Bool.or_self]; rfl)
theorem yc_71e {N x turn : Nat} (hx : x < 32784) (ht : turn ≤ 3) (hk : turn = 3 ∨ ¬ zv_kc h x) : f_Jd_judgeFor_L71 (N + 1) h (nI i) (nI (32 + u)) (nI ty) (nI x) (nI turn) = f_Jd_judgeFor_144 h (nI i) (nI (32 + u)) (nI ty) := by
  rw [yc_u71]
  unfold f_Jd_judgeFor_71
  rcases hk with z | z
  · rw [if_pos ((zc_le (k := 3) (by decide) (by omega)).mpr (by omega))]
  · rw [zv_isC0 hx z, Option.bind_some, if_pos rfl, ite_self]
theorem yc_71x {N : Nat} {x : Int32} : f_Jd_judgeFor_L71 (N + 1) h (nI i) (nI (32 + u)) (nI ty) x (nI 3) = f_Jd_judgeFor_144 h (nI i) (nI (32 + u)) (nI ty) := by
  rw [yc_u71]
  unfold f_Jd_judgeFor_71
  rw [if_pos ((zc_le (k := 3) (by decide) (by omega)).mpr (by omega))]
/-- what is written in the end -/
def yc_W (i u ty : Nat) (h : zs_H) : zs_H := zs_uM (zs_uM h 16 i (nI (32 + u))) 14 i (nI ty)
theorem yc_144 {a b c : Nat} {st : Int32} {T : Int64} (hi : i < 32784) (hty : ty < 3) (c1 : (h.2.1 17) i = nI a) (ha : a < 32784) (c2 : (h.2.1 18) a = nI b) (hb : b < 32784) (c3 : (h.2.1 18) b = nI c) (hc : c < 32784) (hst : (zv_kc h c ∧ st = (h.2.1 16) c) ∨ (¬ zv_kc h c ∧ st = 1)) (hT : f_Cd_times ((h.2.1 16) a) ((h.2.1 16) b) st = some T) : f_Jd_judgeFor_144 h (nI i) (nI (32 + u)) (nI ty) = some (yc_W i u ty (yc_R (decide (st = 0) || decide (¬ T ≤ 1000000)) 36 i h)) := by
  have sec : ∀ h2 : zs_H, h2.2 = h.2 → f_Tr_second h2 (nI i) = some (nI b) := by
    intro h2 e
    unfold f_Tr_second
    rw [e, if_pos (zi_in (by omega) hi), nI_clamp (show i < 2147483648 by omega), c1, if_neg (zc_m1 (by omega)), if_pos (zi_in (by omega) ha), nI_clamp (show a < 2147483648 by omega), c2]
  have stp : f_Tr_stepOf h (nI i) = some st := by
    unfold f_Tr_stepOf f_Tr_stepOf_21
    rw [sec h rfl, Option.bind_some, if_neg (zc_m1 (by omega)), if_pos (zi_in (by omega) hb), nI_clamp (show b < 2147483648 by omega), c3]
    rcases hst with ⟨z1, z2⟩ | ⟨z1, z2⟩
    · rw [zv_isC1 hc z1, Option.bind_some, if_neg (by decide), if_pos (zi_in (by omega) hc), nI_clamp (show c < 2147483648 by omega), z2]
    · rw [zv_isC0 hc z1, Option.bind_some, if_pos rfl, z2]
  have e226 : ∀ (h2 : zs_H) (y : Int32) (q : Bool), y = (if q = true then 1 else 0) → f_Jd_judgeFor_226 h2 (nI i) (nI (32 + u)) (nI ty) y = some (yc_W i u ty (yc_R q 36 i h2)) := by
    intro h2 y q hy
    unfold f_Jd_judgeFor_226
    rw [show (36 : Int32) = nI 36 from rfl, yc_Rf hi hy, Option.bind_some, if_pos (zi_in (by omega) hi), nI_clamp (show i < 2147483648 by omega), zv_nar3 hty]
    rfl
  have e165 : ∀ (y : Int32) (q : Bool), y = (if q = true then 1 else 0) → f_Jd_judgeFor_165 h (nI i) (nI (32 + u)) (nI ty) st y = some (yc_W i u ty (yc_R (q || decide (¬ T ≤ 1000000)) 36 i h)) := by
    intro y q hy
    unfold f_Jd_judgeFor_165
    rw [show (36 : Int32) = nI 36 from rfl, yc_Rf hi hy, Option.bind_some, if_pos (zi_in (by omega) hi), nI_clamp (show i < 2147483648 by omega), yc_R2.1, c1, if_pos (zi_in (by omega) ha), sec _ yc_R2.1, Option.bind_some, if_pos (zi_in (by omega) hb), nI_clamp (show a < 2147483648 by omega), nI_clamp (show b < 2147483648 by omega), hT, Option.bind_some, ← yc_RR (by decide) (by decide)]
    by_cases z : T ≤ 1000000
    · rw [if_pos z]
      exact e226 _ 0 _ (by rw [if_neg (by simp only [decide_eq_true_eq]; exact fun n => n z)])
    · rw [if_neg z]
      exact e226 _ 1 _ (by rw [if_pos (by simp only [decide_eq_true_eq]; exact z)])
  unfold f_Jd_judgeFor_144
  rw [stp, Option.bind_some]
  by_cases z : st = 0
  · rw [if_pos z]
    exact e165 1 _ (by rw [if_pos (by simp only [decide_eq_true_eq]; exact z)])
  · rw [if_neg z]
    exact e165 0 _ (by rw [if_neg (by simp only [decide_eq_true_eq]; exact z)])
/-- the class: all of it behind the assignment's rules -/
theorem yc_forC {a b c : Nat} {st : Int32} {T : Int64} (hi : i < 32784) (hty : ty < 3) (c1 : (h.2.1 17) i = nI a) (ha : a < 32784) (c2 : (h.2.1 18) a = nI b) (hb : b < 32784) (c3 : (h.2.1 18) b = nI c) (hc : c < 32784) (ka : zv_kc h a) (kb : zv_kc h b) (hst : (zv_kc h c ∧ st = (h.2.1 16) c) ∨ (¬ zv_kc h c ∧ st = 1)) (hT : f_Cd_times ((h.2.1 16) a) ((h.2.1 16) b) st = some T) : f_Jd_judgeFor_L71 zF h (nI i) (nI (32 + u)) (nI ty) (nI a) (nI 0) = some (yc_W i u ty (yc_R (yc_b ty ((h.2.1 13) a) ((h.2.1 16) a) || yc_b ty ((h.2.1 13) b) ((h.2.1 16) b) || (decide (zv_kc h c) && yc_b ty ((h.2.1 13) c) ((h.2.1 16) c)) || decide (st = 0) || decide (¬ T ≤ 1000000)) 36 i h)) := by
  have hz : zF = 18446744073709551612 + 1 + 1 + 1 + 1 := rfl
  rw [hz, yc_71 hi ha (by decide) hty ka, c2]
  have K : ∀ {q : Bool} {x : Nat}, zv_kc (yc_R q 36 i h) x ↔ zv_kc h x := fun {q x} => by unfold zv_kc; rw [yc_R2.1]
  have V : ∀ {q : Bool}, (yc_R q 36 i h).2 = h.2 := yc_R2.1
  rw [yc_71 hi hb (by decide) hty (K.mpr kb), V, c3, yc_RR (by decide) (by decide)]
  rcases hst with ⟨z1, z2⟩ | ⟨z1, z2⟩
  · rw [yc_71 hi hc (by decide) hty (K.mpr z1), V, yc_RR (by decide) (by decide), yc_71x]
    rw [yc_144 (st := st) (T := T) hi hty (by rw [V]; exact c1) ha (by rw [V]; exact c2) hb (by rw [V]; exact c3) hc (.inl ⟨K.mpr z1, by rw [V]; exact z2⟩) (by rw [V]; exact hT), yc_RR (by decide) (by decide)]
    simp only [z1, decide_true, Bool.true_and, Bool.or_assoc]
  · rw [yc_71e hc (by decide) (.inr (mt K.mp z1)), yc_144 (st := st) (T := T) hi hty (by rw [V]; exact c1) ha (by rw [V]; exact c2) hb (by rw [V]; exact c3) hc (.inr ⟨mt K.mp z1, z2⟩) (by rw [V]; exact hT), yc_RR (by decide) (by decide)]
    simp only [z1, decide_false, Bool.false_and, Bool.or_false, Bool.or_assoc]
end YFU
end
section
/-! The judge: the constants of a FOR (36): the model. -/
section YFV
variable {g : zs_H} {k u ty : Nat}
theorem yc_u125 {N : Nat} {x1 x2 x3 : Int32} (x : Int32) : f_Mo_lookAtLoop_L125 (N + 1) g x1 x2 x3 x = f_Mo_lookAtLoop_125 (f_Mo_lookAtLoop_L125 N) g x1 x2 x3 x := rfl
theorem yc_125 {N x : Nat} {q : Bool} (hx : x < 33500) (hu : u < 5900) (hty : ty < 3) (hk : (g.2.1 72) x = 30 ∨ (g.2.1 72) x = 31) (ht : (g.2.1 93) u = nI ty) : f_Mo_lookAtLoop_L125 (N + 1) g (nI k) (nI u) (if q = true then 1 else 0) (nI x) = f_Mo_lookAtLoop_L125 N g (nI k) (nI u) (if (q || yc_b ty ((g.2.1 72) x) ((g.2.1 74) x)) = true then 1 else 0) ((g.2.1 78) x) := by
  rw [yc_u125]
  have e194 : ∀ y : Int32, f_Mo_lookAtLoop_194 (f_Mo_lookAtLoop_L125 N) g (nI k) (nI u) (nI x) y = f_Mo_lookAtLoop_L125 N g (nI k) (nI u) y ((g.2.1 78) x) := by
    intro y
    unfold f_Mo_lookAtLoop_194
    rw [if_pos (zi_in (by omega) hx), nI_clamp (show x < 2147483648 by omega)]
  have n29 : ¬ (g.2.1 72) x ≤ 29 := by rcases hk with e | e <;> rw [e] <;> decide
  unfold f_Mo_lookAtLoop_125 f_Mo_lookAtLoop_189 f_Mo_lookAtLoop_193
  simp only [if_pos (zi_in (show x < 2147483648 by omega) hx), nI_clamp (show x < 2147483648 by omega), n29, if_false, e194, if_pos (zi_in (show u < 2147483648 by omega) (show u < 8400 by omega)), nI_clamp (show u < 2147483648 by omega), ht, show (nI ty = 1) ↔ ty = 1 from zc_eq (k := 1) (by decide) (by omega)]
  cases q with
  | true => rw [if_neg (by decide)]; rfl
  | false =>
    rw [if_pos (by decide), Bool.false_or]
    unfold yc_b
    have e67 : ((g.2.1 74) x ≤ 32767) ↔ ¬ 32767 < (g.2.1 74) x := Int32.not_lt.symm
    by_cases z1 : (g.2.1 72) x = 31
    · rw [if_pos z1]; simp only [z1, decide_true, Bool.true_or, if_true]
    · rw [if_neg z1]
      by_cases z2 : ty = 1
      · rw [if_pos z2]
        by_cases z3 : (g.2.1 74) x < -32768
        · rw [if_pos z3]; simp only [z1, z2, z3, decide_true, decide_false, Bool.true_or, Bool.or_true, Bool.true_and, Bool.false_or, if_true]
        · rw [if_neg z3]
          by_cases z4 : 32767 < (g.2.1 74) x
          · rw [if_neg (fun z => (e67.mp z) z4)]; simp only [z1, z2, z3, z4, decide_true, decide_false, Bool.or_true, Bool.true_and, Bool.false_or, if_true]
          · rw [if_pos (e67.mpr z4)]; simp (config := { decide := true }) only [z1, z2, z3, z4, decide_true, decide_false, Bool.or_self, Bool.true_and, if_false]
      · rw [if_neg z2]; simp (config := { decide := true }) only [z1, z2, decide_false, Bool.false_and, Bool.or_self, if_false]
/-- the number of times -/
theorem yc_258 {a b : Nat} {q : Bool} {S : Int64} (ha : a < 33500) (hb : b < 33500) : f_Mo_lookAtLoop_258 g (nI k) (if q = true then 1 else 0) (nI a) (nI b) S = f_Mo_rule g (if (q || decide (S = 0) || decide (¬ (if ((g.2.1 74) b).toInt64 - ((g.2.1 74) a).toInt64 = 0 ∨ (0 < ((g.2.1 74) b).toInt64 - ((g.2.1 74) a).toInt64 ↔ 0 < S) then (((g.2.1 74) b).toInt64 - ((g.2.1 74) a).toInt64) / S + 1 else 0) ≤ 1000000)) = true then 1 else 0) 36 (nI k) := by
  unfold f_Mo_lookAtLoop_258
  rw [if_pos (zi_in (by omega) hb), if_pos (zi_in (by omega) ha), nI_clamp (show a < 2147483648 by omega), nI_clamp (show b < 2147483648 by omega)]
  obtain ⟨w, hw⟩ : ∃ w, w = ((g.2.1 74) b).toInt64 - ((g.2.1 74) a).toInt64 := ⟨_, rfl⟩
  rw [← hw]
  have e290 : f_Mo_lookAtLoop_290 g (nI k) S w = f_Mo_rule g 1 36 (nI k) := by
    unfold f_Mo_lookAtLoop_290 f_Mo_lookAtLoop_295 f_Mo_lookAtLoop_334 f_Mo_lookAtLoop_345 f_Mo_lookAtLoop_361 f_Mo_lookAtLoop_366
    rw [if_neg (by decide), if_neg (by decide), Option.bind_fun_some]
  cases q with
  | true => rw [if_pos rfl, if_neg (by decide), e290]; rfl
  | false =>
    rw [if_pos (show (if false = true then (1 : Int32) else 0) = 0 from rfl)]
    by_cases zS : S = 0
    · rw [if_pos zS, e290]; simp only [zS, decide_true, Bool.or_true, Bool.true_or, Bool.false_or, if_true]
    · rw [if_neg zS]
      have e345 : ∀ T : Int64, f_Mo_lookAtLoop_345 g (nI k) 0 T = f_Mo_rule g (if decide (¬ T ≤ 1000000) = true then 1 else 0) 36 (nI k) := by
        intro T
        unfold f_Mo_lookAtLoop_345 f_Mo_lookAtLoop_361 f_Mo_lookAtLoop_366
        rw [if_pos rfl, Option.bind_fun_some, Option.bind_fun_some]
        by_cases z : T ≤ 1000000
        · rw [if_pos z, if_neg (by simp only [decide_eq_true_eq]; exact fun n => n z)]
        · rw [if_neg z, if_pos (by simp only [decide_eq_true_eq]; exact z)]
      have e338 : f_Mo_lookAtLoop_338 g (nI k) 0 S w = f_Mo_rule g (if decide (¬ w / S + 1 ≤ 1000000) = true then 1 else 0) 36 (nI k) := by
        unfold f_Mo_lookAtLoop_338
        rw [if_neg zS, e345]
      have e334 : f_Mo_lookAtLoop_334 g (nI k) 0 = f_Mo_rule g (if decide (¬ (0 : Int64) ≤ 1000000) = true then 1 else 0) 36 (nI k) := by
        unfold f_Mo_lookAtLoop_334
        rw [e345]
      have lS : (S ≤ 0) ↔ ¬ 0 < S := Int64.not_lt.symm
      have lw : (w ≤ 0) ↔ ¬ 0 < w := Int64.not_lt.symm
      unfold f_Mo_lookAtLoop_295 f_Mo_lookAtLoop_319 f_Mo_lookAtLoop_331
      simp only [if_true, e338, e334, zS, decide_false, Bool.false_or, lS, lw]
      by_cases y0 : w = 0
      · simp only [y0, true_or, if_true]
      · by_cases y1 : 0 < w
        · by_cases y2 : 0 < S
          · simp only [y0, y1, y2, not_true, if_false, if_true, false_or]
          · simp (config := { decide := true }) only [y0, y1, y2, not_true, not_false_iff, if_false, if_true, false_or, iff_false]
        · by_cases y2 : 0 < S
          · simp (config := { decide := true }) only [y0, y1, y2, not_true, not_false_iff, if_false, if_true, false_or, false_iff]
          · simp only [y0, y1, y2, not_false_iff, if_false, if_true, false_or]
theorem yc_forM {a b c : Nat} {st : Int32} {T : Int64} (hk : k < 33500) (hu : u < 5900) (hty : ty < 3) (ht : (g.2.1 93) u = nI ty) (m1 : (g.2.1 76) k = nI a) (ha : a < 33500) (m2 : (g.2.1 78) a = nI b) (hb : b < 33500) (m3 : (g.2.1 78) b = nI c) (hc : c < 33500) (ka : (g.2.1 72) a = 30 ∨ (g.2.1 72) a = 31) (kb : (g.2.1 72) b = 30 ∨ (g.2.1 72) b = 31) (hst : (((g.2.1 72) c = 30 ∨ (g.2.1 72) c = 31) ∧ st = (g.2.1 74) c ∧ ∃ e, e < 33500 ∧ (g.2.1 78) c = nI e ∧ (g.2.1 72) e = 11) ∨ ((g.2.1 72) c = 11 ∧ st = 1)) (hT : f_Cd_times ((g.2.1 74) a) ((g.2.1 74) b) st = some T) : f_Mo_lookAtLoop_L125 zF g (nI k) (nI u) 0 (nI a) = f_Mo_rule g (if (yc_b ty ((g.2.1 72) a) ((g.2.1 74) a) || yc_b ty ((g.2.1 72) b) ((g.2.1 74) b) || (decide ((g.2.1 72) c = 30 ∨ (g.2.1 72) c = 31) && yc_b ty ((g.2.1 72) c) ((g.2.1 74) c)) || decide (st = 0) || decide (¬ T ≤ 1000000)) = true then 1 else 0) 36 (nI k) := by
  have hz : zF = 18446744073709551612 + 1 + 1 + 1 + 1 := rfl
  have i64 : (st.toInt64 = 0) ↔ st = 0 := by
    rw [← Int64.toInt_inj, Int32.toInt_toInt64, ← Int32.toInt_inj]; rfl
  -- behind the constants
  have fin : ∀ (N x : Nat) (q : Bool), x < 33500 → (g.2.1 72) x = 11 → f_Mo_lookAtLoop_L125 (N + 1) g (nI k) (nI u) (if q = true then 1 else 0) (nI x) = f_Mo_lookAtLoop_258 g (nI k) (if q = true then 1 else 0) (nI a) (nI b) st.toInt64 := by
    intro N x q hx hk11
    rw [yc_u125]
    unfold f_Mo_lookAtLoop_125
    simp only [if_pos (zi_in (show x < 2147483648 by omega) hx), nI_clamp (show x < 2147483648 by omega), hk11, show ((11 : Int32) ≤ 29) by decide, if_true, if_pos (zi_in (show k < 2147483648 by omega) hk), nI_clamp (show k < 2147483648 by omega), m1, if_pos (zi_in (show a < 2147483648 by omega) ha), nI_clamp (show a < 2147483648 by omega), m2, if_pos (zi_in (show b < 2147483648 by omega) hb), nI_clamp (show b < 2147483648 by omega), m3, if_pos (zi_in (show c < 2147483648 by omega) hc), nI_clamp (show c < 2147483648 by omega)]
    rcases hst with ⟨z1, z2, _⟩ | ⟨z1, z2⟩
    · have : ¬ (g.2.1 72) c = 11 := by rcases z1 with e | e <;> rw [e] <;> decide
      rw [if_neg this, z2]
    · rw [if_pos z1, z2]; rfl
  have last : ∀ q : Bool, f_Mo_lookAtLoop_258 g (nI k) (if q = true then 1 else 0) (nI a) (nI b) st.toInt64 = f_Mo_rule g (if (q || decide (st = 0) || decide (¬ T ≤ 1000000)) = true then 1 else 0) 36 (nI k) := by
    intro q
    rw [yc_258 ha hb]
    by_cases z : st = 0
    · have zz : decide (st.toInt64 = 0) = true := by rw [decide_eq_true_eq]; exact i64.mpr z
      have z2 : decide (st = 0) = true := by rw [decide_eq_true_eq]; exact z
      rw [zz, z2]
      simp only [Bool.or_true, Bool.true_or]
    · obtain ⟨T', t1, t2, t3⟩ := yc_tm (a := (g.2.1 74) a) (b := (g.2.1 74) b) z
      have eT : T' = T := Option.some.inj (t1.symm.trans hT)
      rw [← t3, eT]
      simp only [i64]
  have e1 := yc_125 (k := k) (N := 18446744073709551612 + 1 + 1 + 1) (q := false) ha hu hty ka ht
  rw [m2, Bool.false_or] at e1
  rw [hz]
  refine Eq.trans e1 ?_
  rw [yc_125 hb hu hty kb ht, m3]
  rcases hst with ⟨z1, z2, e, e1, e2, e3⟩ | ⟨z1, z2⟩
  · rw [yc_125 hc hu hty z1 ht, e2, fin _ e _ e1 e3, last]
    simp only [z1, decide_true, Bool.true_and]
  · have n1 : ¬ ((g.2.1 72) c = 30 ∨ (g.2.1 72) c = 31) := by rw [z1]; decide
    rw [fin _ c _ hc z1, last]
    simp only [n1, decide_false, Bool.false_and, Bool.or_false]
end YFV
end
section
/-! The judge: what a FOR's rules do behind a fault; its parts. -/
theorem yc_ex {α : Type} {f : Int32 → α} {c : Prop} [Decidable c] {x y : α} (hx : ∃ A, x = f A) (hy : ∃ A, y = f A) : ∃ A, (if c then x else y) = f A := by
  by_cases z : c
  · rw [if_pos z]; exact hx
  · rw [if_neg z]; exact hy
section YGW
variable {h g : zs_H} {i k u nb n : Nat}
/-- the class, behind a fault -/
theorem yc_asgFC (hf : ¬ (h.1 38 3) = 0) (hu : u < 5900) (hb : (h.1 38 4) = nI (8 + nb)) (hnb : nb ≤ 568) (hl : (h.1 38 12) = nI n) (hn : n ≤ 240) : f_Jd_judgeAssigned h (nI (32 + u)) (nI i) = some h := by
  have hz := zF_big
  have : ∃ A, f_Jd_judgeAssigned h (nI (32 + u)) (nI i) = f_Jd_judgeAssigned_108 h (nI (32 + u)) (nI i) A := by
    unfold f_Jd_judgeAssigned f_Jd_judgeAssigned_24 f_Jd_judgeAssigned_48 f_Jd_judgeAssigned_49 f_Jd_judgeAssigned_81 f_Jd_judgeAssigned_77 f_Jd_judgeAssigned_82 f_Jd_judgeAssigned_103
    simp only [if_pos (zi_in (show 32 + u < 2147483648 by omega) (show 32 + u < 6000 by omega)), hb, if_pos (zi_in (show 8 + nb < 2147483648 by omega) (show 8 + nb < 629 by omega))]
    repeat' (first | exact ⟨_, rfl⟩ | apply yc_ex)
  obtain ⟨A, e⟩ := this
  rw [e]
  unfold f_Jd_judgeAssigned_108
  rw [zv_refF hf, Option.bind_some]
  exact yc_lpF hf hl hn hu n 0 zF (by omega) (by omega)
/-- the model, behind a fault -/
theorem yc_asgFM {m p : Nat} {L : List Int32} {v w : Int32} (hg : ¬ (g.1 68 29) = 0) (hv : v = -1 ∨ ∃ u, u < 5900 ∧ v = nI u) (e : f_Mo_variable g ((g.1 68 54)) w = some v) (hA : yc_A g m p L) (hm : m < 1000) (hk : k < 33500) (ea : (g.2.1 75) k = nI p) : f_Mo_lookAtAssigned g w (nI k) = some g := by
  have e70 : ∀ A, f_Mo_lookAtAssigned_70 g w (nI k) A = some g := by
    intro A
    unfold f_Mo_lookAtAssigned_70
    rw [zv_ruleF hg, Option.bind_some, yc_isLoops hA hm hk ea, Option.bind_some, zv_ruleF hg, Option.bind_some]
  have : ∃ A, f_Mo_lookAtAssigned g w (nI k) = f_Mo_lookAtAssigned_70 g w (nI k) A := by
    unfold f_Mo_lookAtAssigned f_Mo_lookAtAssigned_24 f_Mo_lookAtAssigned_65 f_Mo_lookAtAssigned_69
    rw [e, Option.bind_some]
    rcases hv with z | ⟨u, z1, z2⟩
    · rw [z, if_neg (by decide), if_pos (by decide)]; exact ⟨_, rfl⟩
    · rw [z2]
      simp only [(zv_neg (show u < 2147483648 by omega)).1, (zv_neg (show u < 2147483648 by omega)).2, if_true, if_false, if_pos (zi_in (show u < 2147483648 by omega) (show u < 8400 by omega))]
      repeat' (first | exact ⟨_, rfl⟩ | apply yc_ex)
  obtain ⟨A, e2⟩ := this
  rw [e2, e70]
theorem yc_78F {x y w : Int32} (hg : ¬ (g.1 68 29) = 0) (hg0 : ¬ (g.1 68 29) ≤ 0) (hk : k < 33500) (hw : (g.2.1 74) k = w) (e : f_Mo_lookAtAssigned g w (nI k) = some g) : f_Mo_lookAtLoop_78 g (nI k) x y = some g := by
  unfold f_Mo_lookAtLoop_78
  rw [zv_ruleF hg, Option.bind_some, if_pos (zi_in (by omega) hk)]
  have : (g.2.1 74) (nI k).toNatClampNeg = w := by rw [nI_clamp (show k < 2147483648 by omega)]; exact hw
  rw [this, e, Option.bind_some, if_neg hg0]
/-- the name is looked up behind a fault as before -/
theorem yc_hereF {LC LM : List (List Int32)} {nf c φ k' : Nat} {F : Nat → Nat} {q w : Int32} (I : zv_I LC LM nb nf (F nb) F q h g) (hb : 0 < nb) (hc : c < 6000) (hw : zt_nr LC LM (nI c) w) : f_Mo_variable (zv_ru φ k' g) (((zv_ru φ k' g).1 68 54)) w = f_Mo_variable g ((g.1 68 54)) w := by
  obtain ⟨HS, HB, HN, HV, HC, HT, HJ, J1, J2⟩ := I
  have a := zv_here HS HB HN hb hc hw
  have b := zv_here (g := zv_ru φ k' g) (h := h) (F := F) (nb := nb) HS HB HN hb hc hw
  have eh : ((zv_ru φ k' g).1 68 54) = (g.1 68 54) := rfl
  rw [eh, (HJ hb).2]
  rcases a with ⟨v, _, _, _, v4, v5⟩ | ⟨z1, z2, _⟩
  · rcases b with ⟨v', _, _, _, v4', v5'⟩ | ⟨y1, y2, _⟩
    · rw [v5, v5', show nI v' = nI v from ?_]
      rw [v4] at v4'
      have V3 : F nb ≤ 5900 := HB.2.1.2.2
      have := (nI_eq (by omega) (by omega)).mp (Option.some.inj v4')
      rw [show v' = v by omega]
    · rw [v4] at y1
      exact absurd (Option.some.inj y1) (zc_m1 (by have V3 : F nb ≤ 5900 := HB.2.1.2.2; omega))
  · rcases b with ⟨v', _, _, _, v4', v5'⟩ | ⟨y1, y2, _⟩
    · rw [z1] at v4'
      exact absurd (Option.some.inj v4').symm (zc_m1 (by have V3 : F nb ≤ 5900 := HB.2.1.2.2; omega))
    · rw [z2, y2]
theorem yc_tmT (a b st : Int32) : ∃ T, f_Cd_times a b st = some T ∧ (¬ st = 0 → 0 ≤ T.toInt) := by
  by_cases z : st = 0
  · subst z
    have : f_Cd_times a b 0 = some 0 := by
      unfold f_Cd_times f_Cd_times_17
      rw [if_pos (by decide), if_pos (show zd_absl ((0 : Int32).toInt64) = 0 by decide), ite_self]
    exact ⟨0, this, fun n => absurd rfl n⟩
  · obtain ⟨T, t1, t2, _⟩ := yc_tm (a := a) (b := b) z
    exact ⟨T, t1, fun _ => t2⟩
end YGW
section YGP
variable {LC LM : List (List Int32)} {F : Nat → Nat} {bb : Nat} {h g : zs_H} {P Q Qm : Nat → Prop}
/-- a constant, with the model's value -/
theorem yc_cst2 {c : Nat} {kv : Int32 × Int32} {o : Unit} {lc r : zt_T} {x x' e e' up y : Int32} (hc : c = 30 ∨ c = 31) (A : yb_F F bb h g P Q (.inner c kv o lc r) x x' e e') (M : zt_M LC LM g (.inner c kv o lc r) Qm up x' y) : ∃ a ka, P a ∧ a < 32784 ∧ x = nI a ∧ ka < 33500 ∧ x' = nI ka ∧ (h.2.1 13) a = nI c ∧ (h.2.1 16) a = kv.2 ∧ (g.2.1 72) ka = nI c ∧ (g.2.1 74) ka = kv.2 ∧ yb_F F bb h g P Q r ((h.2.1 18) a) ((g.2.1 78) ka) e e' ∧ ∃ Q2 y2, zt_M LC LM g r Q2 up ((g.2.1 78) ka) y2 := by
  obtain ⟨a, ka, a1, a2, a3, b1, b2, b3, t1, t2, t3, B⟩ := yc_cst hc A
  obtain ⟨b', Q1, Q2, z3, q1, q2, q3, q4, q5, q6, q7, _, _, _, q11, q12⟩ := zv_hM M
  have ekb : b' = ka := by rw [b3] at q1; exact ((nI_eq (by omega) (by omega)).mp q1).symm
  subst ekb
  rw [if_neg (by rcases hc with e | e <;> rw [e] <;> decide)] at q6
  exact ⟨a, b', a1, a2, a3, b2, b3, t1, t2, t3, q6, B, Q2, z3, q11⟩
theorem yc_k11 {kv : Int32 × Int32} {o : Unit} {lc r : zt_T} {x x' e e' : Int32} (A : yb_F F bb h g P Q (.inner 11 kv o lc r) x x' e e') : ∃ a ka, P a ∧ a < 32784 ∧ x = nI a ∧ ka < 33500 ∧ x' = nI ka ∧ (h.2.1 13) a = 11 ∧ (g.2.1 72) ka = 11 := by
  obtain ⟨a, ka, xl, ⟨a1, a2, a3⟩, ⟨b1, b2, b3, b4⟩, N, _, _⟩ := A
  refine ⟨a, ka, a1, a2, a3, b2, b3, ?_, b4⟩
  rcases N with N | ⟨t, t1, t2, t3, N⟩
  · rcases N with e | ⟨_, e, _⟩ | ⟨e, _⟩ | ⟨e, _⟩ | ⟨e, _⟩
    · exact absurd e (by decide)
    · exact e
    · exact absurd e (by decide)
    · exact absurd e (by decide)
    · exact absurd e (by decide)
  · rcases N with ⟨e, _⟩ | ⟨e, _⟩ | ⟨e, _⟩ | ⟨e, _⟩ | ⟨e, _⟩ | ⟨e, _⟩ | ⟨e, _⟩ | ⟨e, _⟩
    · exact absurd e (by decide)
    · exact absurd e (by decide)
    all_goals exact absurd e (by decide)
end YGP
theorem yc_g19 {l : zt_T} (h : zg_A 19 (zg_run 19 0 l) = true) : ∃ c1 kv1 o1 l1 c2 kv2 o2 l2, (c1 = 30 ∨ c1 = 31) ∧ (c2 = 30 ∨ c2 = 31) ∧ ((∃ kv3 o3 l3, l = .inner c1 kv1 o1 l1 (.inner c2 kv2 o2 l2 (.inner 11 kv3 o3 l3 .leaf))) ∨ ∃ c3 kv3 o3 l3 kv4 o4 l4, (c3 = 30 ∨ c3 = 31) ∧ l = .inner c1 kv1 o1 l1 (.inner c2 kv2 o2 l2 (.inner c3 kv3 o3 l3 (.inner 11 kv4 o4 l4 .leaf)))) := by
  have key : ∀ r ∈ zg_R, r.1 = 19 → r.2 = (0, [30, 31], 1) ∨ r.2 = (1, [30, 31], 2) ∨ r.2 = (2, [30, 31], 3) ∨ r.2 = (2, [11], 4) ∨ r.2 = (3, [11], 4) := by decide +kernel
  have two : ∀ c, c ∈ [30, 31] → c = 30 ∨ c = 31 := by intro c hc; simp only [List.mem_cons, List.not_mem_nil, or_false] at hc; exact hc
  have nxt : ∀ (st c : Nat) (kv : Int32 × Int32) (o : Unit) (lc r : zt_T) (to : Nat), zg_A 19 (zg_run 19 st (.inner c kv o lc r)) = true → zg_q 19 st c = to → zg_A 19 (zg_run 19 to r) = true := by
    intro st c kv o lc r to h e
    have : zg_run 19 st (.inner c kv o lc r) = zg_run 19 to r := by show zg_run 19 (zg_q 19 st c) r = _; rw [e]
    rw [← this]; exact h
  have end4 : ∀ r, zg_A 19 (zg_run 19 4 r) = true → r = .leaf := by
    intro r hr
    cases r with
    | leaf => rfl
    | inner c kv o lc r =>
      obtain ⟨cs, to, m1, m2, m3⟩ := zv_qR (yb_run hr)
      have k1 := key _ m1 rfl
      simp only [Prod.mk.injEq] at k1
      rcases k1 with ⟨a, _⟩ | ⟨a, _⟩ | ⟨a, _⟩ | ⟨a, _⟩ | ⟨a, _⟩ <;> exact absurd a (by decide)
  cases l with
  | leaf => exact absurd h (by decide)
  | inner c1 kv1 o1 l1 r1 =>
    obtain ⟨cs, to, m1, m2, m3⟩ := zv_qR (yb_run h)
    have k1 := key _ m1 rfl
    simp only [Prod.mk.injEq] at k1
    obtain ⟨e2, e3⟩ : cs = [30, 31] ∧ to = 1 := by
      rcases k1 with ⟨_, a, b⟩ | ⟨a, _⟩ | ⟨a, _⟩ | ⟨a, _⟩ | ⟨a, _⟩
      · exact ⟨a, b⟩
      all_goals exact absurd a (by decide)
    rw [e2] at m2
    have h1 := nxt 0 c1 kv1 o1 l1 r1 1 h (m3.trans e3)
    cases r1 with
    | leaf => exact absurd h1 (by decide)
    | inner c2 kv2 o2 l2 r2 =>
      obtain ⟨cs, to, n1, n2, n3⟩ := zv_qR (yb_run h1)
      have k1 := key _ n1 rfl
      simp only [Prod.mk.injEq] at k1
      obtain ⟨e2, e3⟩ : cs = [30, 31] ∧ to = 2 := by
        rcases k1 with ⟨a, _⟩ | ⟨_, a, b⟩ | ⟨a, _⟩ | ⟨a, _⟩ | ⟨a, _⟩
        · exact absurd a (by decide)
        · exact ⟨a, b⟩
        all_goals exact absurd a (by decide)
      rw [e2] at n2
      have h2 := nxt 1 c2 kv2 o2 l2 r2 2 h1 (n3.trans e3)
      refine ⟨c1, kv1, o1, l1, c2, kv2, o2, l2, two _ m2, two _ n2, ?_⟩
      cases r2 with
      | leaf => exact absurd h2 (by decide)
      | inner c3 kv3 o3 l3 r3 =>
        obtain ⟨cs, to, p1, p2, p3⟩ := zv_qR (yb_run h2)
        have k1 := key _ p1 rfl
        simp only [Prod.mk.injEq] at k1
        rcases k1 with ⟨a, _⟩ | ⟨a, _⟩ | ⟨_, a, b⟩ | ⟨_, a, b⟩ | ⟨a, _⟩
        · exact absurd a (by decide)
        · exact absurd a (by decide)
        · rw [a] at p2
          have h3 := nxt 2 c3 kv3 o3 l3 r3 3 h2 (p3.trans b)
          cases r3 with
          | leaf => exact absurd h3 (by decide)
          | inner c4 kv4 o4 l4 r4 =>
            obtain ⟨cs, to, q1, q2, q3⟩ := zv_qR (yb_run h3)
            have k1 := key _ q1 rfl
            simp only [Prod.mk.injEq] at k1
            rcases k1 with ⟨a, _⟩ | ⟨a, _⟩ | ⟨a, _⟩ | ⟨a, _⟩ | ⟨_, a, b⟩
            · exact absurd a (by decide)
            · exact absurd a (by decide)
            · exact absurd a (by decide)
            · exact absurd a (by decide)
            · rw [a] at q2
              have ec := List.mem_singleton.mp q2
              have er := end4 r4 (nxt 3 c4 kv4 o4 l4 r4 4 h3 (q3.trans b))
              subst ec; subst er
              exact .inr ⟨c3, kv3, o3, l3, kv4, o4, l4, two _ p2, rfl⟩
        · rw [a] at p2
          have ec := List.mem_singleton.mp p2
          have er := end4 r3 (nxt 2 c3 kv3 o3 l3 r3 4 h2 (p3.trans b))
          subst ec; subst er
          exact .inl ⟨kv3, o3, l3, rfl⟩
        · exact absurd a (by decide)
end
