/-! The judge: statements are visited: bodies, assignments (31), IF and CASE (34), ranges (35), EXIT (37), RETURN. -/
section YCP
variable {LC LM : List (List Int32)} {nb nf sz : Nat} {F : Nat → Nat} {h g h1 h2 g2 h' g' : zs_H} {P Q : Nat → Prop} {i k up d D D' kd : Nat} {kv : Int32 × Int32} {l : zt_T} {y : Int32}
theorem yc_fin (C : yb_cx LC LM nb nf sz F h1 g) (nd : yb_nd LC LM h1 g kd kv l i k up P Q y) (O0 : yc_out (fun _ => False) (fun _ => False) h g h1 g) (O : yc_out P Q h1 g h2 g2) (A : yb_F F (nb - 1) h2 g2 P Q l ((h1.2.1 17) i) ((g.2.1 76) k) (-1) (-1)) (W : yc_out (fun j => j = i) (fun j => j = k) h2 g2 h' g') (N : yb_N F (nb - 1) h' g' P Q kd kv.2 i k ((h1.2.1 17) i) (zt_ln l)) : yc_ok F (nb - 1) kd kv l i k P Q h g h' g' := by
  obtain ⟨⟨hi, hk, hPi, hQk, hP, hQ⟩, _, _, ⟨m0, _⟩, _⟩ := nd
  have C2 := yc_cxf C O.1 O.2.1
  have A2 := yc_keep C2 W (fun j hj => ⟨hP j hj, fun z => hPi (by rw [← z]; exact hj)⟩) (fun j hj z => hQk (by rw [← z]; exact hj)) A
  have ef : (g'.2.1 76) k = (g.2.1 76) k := by rw [W.2.1.2.1 _ (by decide), O.2.1.2.1 _ (by decide)]
  exact ⟨yc_outm (yc_outt (yc_outt O0 O) W) (fun j z => z.elim (fun z => z.elim (fun z => z.elim) .inl) .inr) (fun j z => z.elim (fun z => z.elim (fun z => z.elim) .inl) .inr), i, k, (h1.2.1 17) i, ⟨.inr rfl, hi, rfl⟩, ⟨.inr rfl, hk, rfl, by rw [W.2.1.2.1 _ (by decide), O.2.1.2.1 _ (by decide)]; exact m0⟩, yb_Nm (fun _ z => .inl z) (fun _ z => .inl z) N, by rw [ef]; exact yb_Fm (fun _ z => .inl z) (fun _ z => .inl z) _ _ _ _ _ A2, rfl, rfl⟩
/-- a plain node, nothing more is written -/
theorem yc_pl (C : yb_cx LC LM nb nf sz F h1 g) (nd : yb_nd LC LM h1 g kd kv l i k up P Q y) (hkd : kd ∈ yb_pl) (hsy : yb_sy h2 P kd ((h1.2.1 17) i)) (O0 : yc_out (fun _ => False) (fun _ => False) h g h1 g) (O : yc_out P Q h1 g h2 g2) (A : yb_F F (nb - 1) h2 g2 P Q l ((h1.2.1 17) i) ((g.2.1 76) k) (-1) (-1)) : yc_ok F (nb - 1) kd kv l i k P Q h g h2 g2 := by
  refine yc_fin C nd O0 O A yc_out0 ?_
  obtain ⟨⟨hi, hk, hPi, hQk, hP, hQ⟩, ⟨c0, c1, c2, c3, c4⟩, _⟩ := nd
  obtain ⟨i1, i2, i3, i4⟩ := O.2.2.1 i hPi
  exact .inl (.inr (.inl ⟨hkd, i1.trans c0, i4, i3.trans c2, hsy⟩))
theorem yc_Fb0 (O0 : yc_out (fun _ => False) (fun _ => False) h g h1 g) (B : zv_Fb h1 g h' g') : zv_Fb h g h' g' := ⟨B.1, zfr_trans (zfr_w O0.1 (by decide) (by decide) (by decide)) B.2.1, B.2.2⟩
theorem yc_Fb1 (O : yc_out P Q h g h2 g2) (B : zv_Fb h2 g2 h' g') : zv_Fb h g h' g' := ⟨B.1, zfr_trans (zfr_w O.1 (by decide) (by decide) (by decide)) B.2.1, zfr_trans (zfr_w O.2.1 (by decide) (by decide) (by decide)) B.2.2⟩
/-- the loops below a node that is no FOR -/
theorem yc_Ldn (L : yc_L LC LM h g up d) (hk : k < 33500) (e : (g.2.1 75) k = nI up) (hn : ¬ (g.2.1 72) k = 19) : yc_L LC LM h g k (d + 1) := by
  obtain ⟨m, L, l1, l2, l3, l4, l5⟩ := L
  exact ⟨m + 1, L, by omega, ⟨hk, up, L, e, l2, by rw [if_neg hn]⟩, l3, by omega, l5⟩
/-- the variable of a name that has been judged -/
theorem yc_var {c u x : Nat} {q w : Int32} (I : zv_I LC LM nb nf (F nb) F q h g) (hb : 0 < nb) (hc : c < 6000) (hw : zt_nr LC LM (nI c) w) (V : yb_V F (nb - 1) h (nI c) u x) : f_Mo_variable g ((g.1 68 54)) w = some (nI u) ∧ F (nb - 1) ≤ u ∧ u < F nb := by
  obtain ⟨v1, v2, v3, v4, _⟩ := V
  rw [show nb - 1 + 1 = nb by omega] at v2 v4
  obtain ⟨HS, HB, HN, HV, HC, HT, HJ, J1, J2⟩ := I
  rw [(HJ hb).2]
  rcases zv_here HS HB HN hb hc hw with ⟨v, w1, w2, w3, w4, w5⟩ | ⟨_, _, z⟩
  · rw [v4 v w1 w2 w3] at w5
    exact ⟨w5, v1, v2⟩
  · exact absurd v3 (z u v1 v2)
theorem yc_mkF {φ : Nat} {p : Int32} (h3 : 0 < φ) (h4 : φ < 1000) (c : (h.2.1 15) i = p) (m : (g.2.1 73) k = p) : zv_Fb h g (zv_rf φ i h) (zv_ru φ k g) ∧ ¬ ((zv_rf φ i h).1 38 3) = 0 ∧ ¬ ((zv_ru φ k g).1 68 29) = 0 := ⟨zv_mkF h3 h4 c m zfr_rfl zfr_rfl zfr_rfl zfr_rfl, zv_rff h3 h4, zv_ruf h3 h4⟩
end YCP
/-- a body, a choice, RETURN -/
theorem yc_VN11 {kd : Nat} {kv : Int32 × Int32} {l : zt_T} (hkd : kd = 11 ∨ kd = 17 ∨ kd = 21) (Ph : yc_Ph l) : yc_VN kd kv l := by
  intro LC LM nb nf sz F h g i k up d D D' oc P Q y C nd hup LL hPs ow hd hD hD'
  obtain ⟨D, rfl⟩ : ∃ z, D = z + 1 := ⟨D - 1, by omega⟩
  obtain ⟨D', rfl⟩ : ∃ z, D' = z + 2 := ⟨D' - 2, by omega⟩
  obtain ⟨⟨hi, hk, hPi, hQk, hP, hQ⟩, ⟨c0, c1, c2, c3, c4⟩, cC, ⟨m0, m1, m2, m3⟩, cM⟩ := id nd
  have ekm : zt_km kd = kd := by rcases hkd with e | e | e <;> rw [e] <;> rfl
  rw [ekm] at m0
  have hke : ¬ kd ∈ [1, 2, 3, 4, 5, 13, 16, 19, 22, 24] := by rcases hkd with e | e | e <;> rw [e] <;> decide
  have hpl : kd ∈ yb_pl := by rcases hkd with e | e | e <;> rw [e] <;> decide
  have eo : yc_o (.inner kd kv () l .leaf) = yc_o l := by
    show (if kd = 16 ∨ kd = 19 then 1 else if kd = 22 then 156 else if kd = 25 ∧ 2 ≤ kv.2 then 1 else 0) + yc_o l + 0 = _
    rw [if_neg (by omega), if_neg (by omega), if_neg (by omega)]; omega
  rcases yc_kids (D := D) (D' := D') (zv_ent0 hi (by omega) c0 hke) C nd ⟨ekm, by omega, by omega, by omega, by omega, by omega⟩ (yc_Ldn LL hk m3 (by rw [m0]; rcases hkd with e | e | e <;> rw [e] <;> decide)) Ph hPs ow hd (by omega) (by omega) with ⟨h', g', e1, e2, e3, e4, e5⟩ | ⟨h2, g2, e1, e2, O, A, n1, n2, ow'⟩
  · exact ⟨h', g', e1, e2, .inl ⟨e3, e4, e5⟩⟩
  · obtain ⟨i1, i2, i3, i4⟩ := O.2.2.1 i hPi
    have el : f_Jd_leave h2 (nI i) = some h2 := by
      rcases hkd with e | e | e <;> subst e
      · exact zv_lv11 hi (i1.trans c0)
      · exact zv_lv17 hi (i1.trans c0)
      · exact zv_lv21 hi (i1.trans c0)
    have em : f_Mo_lookAlone_54 g2 (nI k) (nI kd) = some g2 := by
      rw [zv_54S (by omega) (by omega) n2]
      unfold f_Mo_lookAtStatements
      have mk : (g2.2.1 72) k = nI kd := by rw [O.2.1.2.1 _ (by decide)]; exact m0
      rcases hkd with e | e | e <;> subst e <;> simp (config := { decide := true }) only [if_pos (zi_in (show k < 2147483648 by omega) hk), nI_clamp (show k < 2147483648 by omega), mk, if_false]
    exact ⟨h2, g2, by rw [e1, el], by rw [e2, em], .inr ⟨yc_pl C nd hpl (yb_sy0 (by omega) (by omega)) yc_out0 O A, n1, n2, by rw [ow'.1, eo], fun z => zg_xl (by omega) (ow'.2.1 z), zg_ruE (by omega) (by omega)⟩⟩
/-- EXIT (37) -/
theorem yc_VN20 {kv : Int32 × Int32} : yc_VN 20 kv .leaf := by
  intro LC LM nb nf sz F h g i k up d D D' oc P Q y C nd hup LL hPs ow hd hD hD'
  have hz := zF_big
  have hd0 : zg_d .leaf = 0 := rfl
  obtain ⟨D, rfl⟩ : ∃ z, D = z + 1 := ⟨D - 1, by omega⟩
  obtain ⟨D', rfl⟩ : ∃ z, D' = z + 2 := ⟨D' - 2, by omega⟩
  obtain ⟨⟨hi, hk, hPi, hQk, hP, hQ⟩, ⟨c0, c1, c2, c3, c4⟩, cC, ⟨m0, m1, m2, m3⟩, cM⟩ := id nd
  rcases yc_kids (D := D) (D' := D') (zv_ent0 (kd := 20) hi (by decide) c0 (by decide)) C nd ⟨rfl, by decide, by decide, by decide, by decide, by decide⟩ (yc_Ldn LL hk m3 (by rw [m0]; decide)) trivial hPs ow hd (by omega) (by omega) with ⟨h', g', e1, e2, e3, e4, e5⟩ | ⟨h2, g2, e1, e2, O, A, n1, n2, ow'⟩
  · exact ⟨h', g', e1, e2, .inl ⟨e3, e4, e5⟩⟩
  · obtain ⟨i1, i2, i3, i4⟩ := O.2.2.1 i hPi
    have L2 := yc_Lf LL (by omega) O
    obtain ⟨m, L, l1, l2, l3, l4, l5⟩ := L2
    have e0 : (nI L.length = 0) ↔ L.length = 0 := zc_eq (k := 0) (by decide) (by omega)
    have el : f_Jd_leave h2 (nI i) = f_Jd_refuseIf h2 (if ¬ L = [] then 0 else 1) 37 (nI i) := by
      unfold f_Jd_leave f_Jd_leave_346
      simp (config := { decide := true }) only [if_pos (zi_in (show i < 2147483648 by omega) hi), nI_clamp (show i < 2147483648 by omega), show (h2.2.1 13) i = 20 from i1.trans c0, if_false, if_true, l3, Option.bind_fun_some, e0]
      cases L with
      | nil => rfl
      | cons a b => rw [if_neg (by show ¬ b.length + 1 = 0; omega), if_pos (List.cons_ne_nil _ _)]
    have em : f_Mo_lookAlone_54 g2 (nI k) (nI 20) = f_Mo_rule g2 (if ¬ L = [] then 0 else 1) 37 (nI k) := by
      rw [zv_54S (by decide) (by decide) n2]
      unfold f_Mo_lookAtStatements
      simp (config := { decide := true }) only [if_pos (zi_in (show k < 2147483648 by omega) hk), nI_clamp (show k < 2147483648 by omega), show (g2.2.1 72) k = 20 by rw [O.2.1.2.1 _ (by decide)]; exact m0, if_false, if_true, show (g2.2.1 75) k = nI up by rw [O.2.1.2.1 _ (by decide)]; exact m3]
      rw [yc_exit m up L zF 0 l2 (by omega) (.inl rfl)]
      unfold f_Mo_lookAtStatements_434
      rw [Option.bind_fun_some]
      simp only [show ¬ (0 : Int32) = 1 by decide, false_or]
    obtain ⟨h', g', v1, v2, v3⟩ := zv_both (φ := 37) (C := L = []) n1 n2 hi hk
    have ei : ∀ a b : Int32, (if ¬ L = [] then a else b) = if L = [] then b else a := fun a b => by by_cases z : L = [] <;> simp only [z, not_true, not_false_iff, if_true, if_false]
    rw [ei] at el em
    refine ⟨h', g', by rw [e1, el]; exact v1, by rw [e2, em]; exact v2, ?_⟩
    rcases v3 with ⟨x0, x1, x2⟩ | ⟨_, x1, x2⟩
    · rw [x1, x2]
      exact .inr ⟨yc_pl C nd (by decide) (yb_sy0 (by decide) (by decide)) yc_out0 O A, n1, n2, by rw [ow'.1]; rfl, fun z => absurd (e0.mp (l3.symm.trans (O.2.2.2.2.1.trans z))) (fun q => x0 (List.eq_nil_of_length_eq_zero q)), zg_ruE (by decide) (by decide)⟩
    · rw [x1, x2]
      obtain ⟨f1, f2, f3⟩ := yc_mkF (φ := 37) (h := h2) (g := g2) (i := i) (k := k) (p := kv.1) (by decide) (by decide) (by rw [O.1.2.1 _ (by decide)]; exact c1) (by rw [O.2.1.2.1 _ (by decide)]; exact m1 (by decide))
      exact .inl ⟨yc_Fb1 O f1, f2, f3⟩
