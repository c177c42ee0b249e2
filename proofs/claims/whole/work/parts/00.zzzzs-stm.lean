/-! The judge: statements are visited: CASE (34), ranges (35). -/
theorem yc_g16 {l : zt_T} (h : zg_A 16 (zg_run 16 0 l) = true) : ∃ c kv o lc r, l = .inner c kv o lc r ∧ c ∈ yb_E := by
  have key : ∀ r ∈ zg_R, r.1 = 16 → r.2.1 = 0 → r.2.2.1 = yb_E := by decide +kernel
  cases l with
  | leaf => exact absurd h (by decide)
  | inner c kv o lc r =>
    obtain ⟨cs, to, m1, m2, m3⟩ := zv_qR (yb_run h)
    have k1 : cs = yb_E := key _ m1 rfl rfl
    rw [k1] at m2
    exact ⟨c, kv, o, lc, r, rfl, m2⟩
/-- ownCells grows when a node is entered -/
theorem yc_own {h g : zs_H} {z : Int32} : yc_out (fun _ => False) (fun _ => False) h g (zs_uF h 38 10 z) g := ⟨zfr_F (by decide) zfr_rfl, zfr_rfl, fun _ _ => ⟨rfl, rfl, rfl, rfl⟩, fun _ _ => ⟨rfl, rfl, rfl⟩, rfl, fun _ _ _ _ _ => rfl⟩
/-- CASE -/
theorem yc_VN16 {kv : Int32 × Int32} {l : zt_T} (hA : zg_A 16 (zg_run 16 0 l) = true) (Ph : yc_Ph l) : yc_VN 16 kv l := by
  intro LC LM nb nf sz F h g i k up d D D' oc P Q y C nd hup LL hPs ow hd hD hD'
  obtain ⟨D, rfl⟩ : ∃ z, D = z + 1 := ⟨D - 1, by omega⟩
  obtain ⟨D', rfl⟩ : ∃ z, D' = z + 2 := ⟨D' - 2, by omega⟩
  obtain ⟨⟨hi, hk, hPi, hQk, hP, hQ⟩, ⟨c0, c1, c2, c3, c4⟩, cC, ⟨m0, m1, m2, m3⟩, cM⟩ := id nd
  have hen : f_Jd_enter h (nI i) = some (zs_uF h 38 10 (nI (oc + 1))) := by
    unfold f_Jd_enter
    simp (config := { decide := true }) only [if_pos (zi_in (show i < 2147483648 by omega) hi), nI_clamp (show i < 2147483648 by omega), show (h.2.1 13) i = 16 from c0, if_false, if_true, ow, nI_1]
  have O0 : yc_out (fun _ => False) (fun _ => False) h g (zs_uF h 38 10 (nI (oc + 1))) g := yc_own
  have C1 := yc_cxf C O0.1 O0.2.1
  have nd1 : yb_nd LC LM (zs_uF h 38 10 (nI (oc + 1))) g 16 kv l i k up P Q y := ⟨nd.1, nd.2.1, yc_keepC O0 (fun _ _ z => z) cC, nd.2.2.2.1, nd.2.2.2.2⟩
  rcases yc_kids (D := D) (D' := D') hen C1 nd1 ⟨rfl, by decide, by decide, by decide, by decide, by decide⟩ (yc_Ldn (yc_Lf LL (by omega) O0) hk m3 (by rw [m0]; decide)) Ph hPs rfl hd (by omega) (by omega) with ⟨h', g', e1, e2, e3, e4, e5⟩ | ⟨h2, g2, e1, e2, O, A, n1, n2, ow'⟩
  · exact ⟨h', g', e1, e2, .inl ⟨yc_Fb0 O0 e3, e4, e5⟩⟩
  · obtain ⟨i1, i2, i3, i4⟩ := O.2.2.1 i hPi
    obtain ⟨c', kv1, o1, lc1, r1, el, hE⟩ := yc_g16 hA
    have A' := A
    rw [el] at A'
    obtain ⟨a, ka, t, a1, a2, a3, b1, b2, b3, t1, t2, t3, _⟩ := yb_first hE A'
    have ge : ∀ z, ¬ z ∈ yc_g → g2.2.1 z = g.2.1 z := fun z hz => O.2.1.2.1 z hz
    have eC : f_Jd_leave h2 (nI i) = f_Jd_refuseIf h2 (if t = 0 then 1 else 0) 34 (nI i) := by
      unfold f_Jd_leave f_Jd_leave_308
      simp (config := { decide := true }) only [if_pos (zi_in (show i < 2147483648 by omega) hi), nI_clamp (show i < 2147483648 by omega), show (h2.2.1 13) i = 16 from i1.trans c0, if_false, if_true, show (h2.2.1 17) i = nI a from i4.trans a3, if_pos (zi_in (show a < 2147483648 by omega) a2), nI_clamp (show a < 2147483648 by omega), t2, zv_t0 t1, Option.bind_fun_some]
      by_cases z : t = 0
      · rw [if_pos z, if_pos z]
      · rw [if_neg z, if_neg z]
    have eM : f_Mo_lookAlone_54 g2 (nI k) (nI 16) = f_Mo_rule g2 (if t = 0 then 1 else 0) 34 (nI k) := by
      rw [zv_54S (by decide) (by decide) n2]
      unfold f_Mo_lookAtStatements f_Mo_lookAtStatements_291
      simp (config := { decide := true }) only [if_pos (zi_in (show k < 2147483648 by omega) hk), nI_clamp (show k < 2147483648 by omega), show (g2.2.1 72) k = 16 by rw [ge _ (by decide)]; exact m0, if_false, if_true, show (g2.2.1 76) k = nI ka by rw [ge _ (by decide)]; exact b3, if_pos (zi_in (show ka < 2147483648 by omega) b2), nI_clamp (show ka < 2147483648 by omega), t3, zv_isn t1, Option.bind_fun_some]
      by_cases z : t = 0
      · simp (config := { decide := true }) only [z, if_true]
      · simp (config := { decide := true }) only [z, if_false]
    have eo : oc + yc_o (.inner 16 kv () l .leaf) = oc + 1 + yc_o l := by
      show oc + (1 + yc_o l + 0) = _; omega
    obtain ⟨h', g', v1, v2, v3⟩ := zv_both (φ := 34) (C := t = 0) n1 n2 hi hk
    refine ⟨h', g', by rw [e1, eC]; exact v1, by rw [e2, eM]; exact v2, ?_⟩
    rcases v3 with ⟨_, y1, y2⟩ | ⟨_, y1, y2⟩
    · rw [y1, y2]
      exact .inr ⟨yc_pl C1 nd1 (by decide) (yb_sy0 (by decide) (by decide)) O0 O A, n1, n2, by rw [ow'.1, eo], fun z => zg_xl (by decide) (ow'.2.1 z), zg_ruE (by decide) (by decide)⟩
    · rw [y1, y2]
      obtain ⟨f1, f2, f3⟩ := yc_mkF (φ := 34) (h := h2) (g := g2) (i := i) (k := k) (p := kv.1) (by decide) (by decide) (by rw [O.1.2.1 _ (by decide)]; exact c1) (by rw [ge _ (by decide)]; exact m1 (by decide))
      exact .inl ⟨yc_Fb0 O0 (yc_Fb1 O f1), f2, f3⟩
theorem yc_g18 {l : zt_T} (h : zg_A 18 (zg_run 18 0 l) = true) : ∃ c kv o lc, (c = 30 ∨ c = 31) ∧ (l = .inner c kv o lc .leaf ∨ ∃ c2 kv2 o2 lc2, l = .inner c kv o lc (.inner c2 kv2 o2 lc2 .leaf) ∧ (c2 = 30 ∨ c2 = 31)) := by
  have key : ∀ r ∈ zg_R, r.1 = 18 → r.2 = (0, [30, 31], 1) ∨ r.2 = (1, [30, 31], 2) := by decide +kernel
  cases l with
  | leaf => exact absurd h (by decide)
  | inner c kv o lc r =>
    obtain ⟨cs, to, m1, m2, m3⟩ := zv_qR (yb_run h)
    have k1 := key _ m1 rfl
    simp only [Prod.mk.injEq] at k1
    obtain ⟨e2, e3⟩ : cs = [30, 31] ∧ to = 1 := by
      rcases k1 with ⟨_, a, b⟩ | ⟨a, _⟩
      · exact ⟨a, b⟩
      · exact absurd a (by decide)
    rw [e2] at m2
    have m2' : c = 30 ∨ c = 31 := by simp only [List.mem_cons, List.not_mem_nil, or_false] at m2; exact m2
    have h' : zg_A 18 (zg_run 18 1 r) = true := by
      have : zg_run 18 0 (.inner c kv o lc r) = zg_run 18 1 r := by show zg_run 18 (zg_q 18 0 c) r = _; rw [m3, e3]
      rw [← this]; exact h
    cases r with
    | leaf => exact ⟨c, kv, o, lc, m2', .inl rfl⟩
    | inner c2 kv2 o2 lc2 r2 =>
      obtain ⟨cs, to, n1, n2, n3⟩ := zv_qR (yb_run h')
      have k1 := key _ n1 rfl
      simp only [Prod.mk.injEq] at k1
      obtain ⟨e2, e3⟩ : cs = [30, 31] ∧ to = 2 := by
        rcases k1 with ⟨a, _⟩ | ⟨_, a, b⟩
        · exact absurd a (by decide)
        · exact ⟨a, b⟩
      rw [e2] at n2
      have n2' : c2 = 30 ∨ c2 = 31 := by simp only [List.mem_cons, List.not_mem_nil, or_false] at n2; exact n2
      have h2 : zg_A 18 (zg_run 18 2 r2) = true := by
        have : zg_run 18 1 (.inner c2 kv2 o2 lc2 r2) = zg_run 18 2 r2 := by show zg_run 18 (zg_q 18 1 c2) r2 = _; rw [n3, e3]
        rw [← this]; exact h'
      cases r2 with
      | leaf => exact ⟨c, kv, o, lc, m2', .inr ⟨c2, kv2, o2, lc2, rfl, n2'⟩⟩
      | inner c3 kv3 o3 lc3 r3 =>
        obtain ⟨cs, to, n1, _, _⟩ := zv_qR (yb_run h2)
        have k1 := key _ n1 rfl
        simp only [Prod.mk.injEq] at k1
        rcases k1 with ⟨a, _⟩ | ⟨a, _⟩ <;> exact absurd a (by decide)
/-- a constant that has been judged -/
theorem yc_cst {F : Nat → Nat} {bb : Nat} {h g : zs_H} {P Q : Nat → Prop} {c : Nat} {kv : Int32 × Int32} {o : Unit} {lc r : zt_T} {x x' e e' : Int32} (hc : c = 30 ∨ c = 31) (A : yb_F F bb h g P Q (.inner c kv o lc r) x x' e e') : ∃ a ka, P a ∧ a < 32784 ∧ x = nI a ∧ Q ka ∧ ka < 33500 ∧ x' = nI ka ∧ (h.2.1 13) a = nI c ∧ (h.2.1 16) a = kv.2 ∧ (g.2.1 72) ka = nI c ∧ yb_F F bb h g P Q r ((h.2.1 18) a) ((g.2.1 78) ka) e e' := by
  obtain ⟨a, ka, xl, ⟨a1, a2, a3⟩, ⟨b1, b2, b3, b4⟩, N, _, B⟩ := A
  have ek : zt_km c = c := by rcases hc with e | e <;> rw [e] <;> rfl
  rw [ek] at b4
  refine ⟨a, ka, a1, a2, a3, b1, b2, b3, ?_⟩
  have : (h.2.1 13) a = nI c ∧ (h.2.1 16) a = kv.2 := by
    rcases N with N | ⟨t, t1, t2, t3, N⟩
    · exact absurd (by rcases hc with e | e <;> rw [e] <;> decide) (yb_SE N)
    · rcases N with ⟨e, _⟩ | ⟨_, n1, n2⟩ | ⟨e, _⟩ | ⟨e, _⟩ | ⟨e, _⟩ | ⟨e, _⟩ | ⟨e, _⟩ | ⟨e, _⟩
      · omega
      · exact ⟨n1, n2.1⟩
      all_goals omega
  exact ⟨this.1, this.2, b4, B⟩
/-- a range -/
theorem yc_VN18 {kv : Int32 × Int32} {l : zt_T} (hA : zg_A 18 (zg_run 18 0 l) = true) (Ph : yc_Ph l) : yc_VN 18 kv l := by
  intro LC LM nb nf sz F h g i k up d D D' oc P Q y C nd hup LL hPs ow hd hD hD'
  obtain ⟨D, rfl⟩ : ∃ z, D = z + 1 := ⟨D - 1, by omega⟩
  obtain ⟨D', rfl⟩ : ∃ z, D' = z + 2 := ⟨D' - 2, by omega⟩
  obtain ⟨⟨hi, hk, hPi, hQk, hP, hQ⟩, ⟨c0, c1, c2, c3, c4⟩, cC, ⟨m0, m1, m2, m3⟩, cM⟩ := id nd
  rcases yc_kids (D := D) (D' := D') (zv_ent0 (kd := 18) hi (by decide) c0 (by decide)) C nd ⟨rfl, by decide, by decide, by decide, by decide, by decide⟩ (yc_Ldn LL hk m3 (by rw [m0]; decide)) Ph hPs ow hd (by omega) (by omega) with ⟨h', g', e1, e2, e3, e4, e5⟩ | ⟨h2, g2, e1, e2, O, A, n1, n2, ow'⟩
  · exact ⟨h', g', e1, e2, .inl ⟨e3, e4, e5⟩⟩
  · obtain ⟨i1, i2, i3, i4⟩ := O.2.2.1 i hPi
    have ge : ∀ z, ¬ z ∈ yc_g → g2.2.1 z = g.2.1 z := fun z hz => O.2.1.2.1 z hz
    have pc : (h2.2.1 15) i = kv.1 := by rw [O.1.2.1 _ (by decide)]; exact c1
    have pm : (g2.2.1 73) k = kv.1 := by rw [ge _ (by decide)]; exact m1 (by decide)
    have eo : yc_o (.inner 18 kv () l .leaf) = yc_o l := by
      show 0 + yc_o l + 0 = _; omega
    have fin : ∀ (B : Prop) [Decidable B], f_Jd_leave h2 (nI i) = f_Jd_refuseIf h2 (if B then 1 else 0) 35 (nI i) → f_Mo_lookAlone_54 g2 (nI k) (nI 18) = f_Mo_rule g2 (if B then 1 else 0) 35 (nI k) → ∃ h' g', f_Jd_visit (D + 1) h (nI i) (nI d) = some h' ∧ f_Mo_look (D' + 2) g (nI k) = some g' ∧ ((zv_Fb h g h' g' ∧ ¬ (h'.1 38 3) = 0 ∧ ¬ (g'.1 68 29) = 0) ∨ (yc_ok F (nb - 1) 18 kv l i k P Q h g h' g' ∧ (h'.1 38 3) = 0 ∧ (g'.1 68 29) = 0 ∧ yc_ow h h' oc (.inner 18 kv () l .leaf))) := by
      intro B _ eC eM
      obtain ⟨h', g', v1, v2, v3⟩ := zv_both (φ := 35) (C := B) n1 n2 hi hk
      refine ⟨h', g', by rw [e1, eC]; exact v1, by rw [e2, eM]; exact v2, ?_⟩
      rcases v3 with ⟨_, y1, y2⟩ | ⟨_, y1, y2⟩
      · rw [y1, y2]
        exact .inr ⟨yc_pl C nd (by decide) (yb_sy0 (by decide) (by decide)) yc_out0 O A, n1, n2, by rw [ow'.1, eo], fun z => zg_xl (by decide) (ow'.2.1 z), zg_ruE (by decide) (by decide)⟩
      · rw [y1, y2]
        obtain ⟨f1, f2, f3⟩ := yc_mkF (φ := 35) (h := h2) (g := g2) (i := i) (k := k) (p := kv.1) (by decide) (by decide) pc pm
        exact .inl ⟨yc_Fb1 O f1, f2, f3⟩
    obtain ⟨c', kv1, o1, lc1, hc, el⟩ := yc_g18 hA
    have e31 : ∀ c : Nat, (c = 30 ∨ c = 31) → ((nI c = 31) ↔ c = 31) := fun c h => zc_eq (k := 31) (by decide) (by omega)
    have cM' := cM
    rcases el with el | ⟨c2', kv2, o2, lc2, el, hc2⟩
    · have A' := A
      rw [el] at A' cM'
      obtain ⟨a, ka, a1, a2, a3, b1, b2, b3, t1, t2, t3, ⟨z1, z2⟩⟩ := yc_cst hc A'
      obtain ⟨b', Q1, Q2, z3, q1, q2, q3, q4, q5, q6, q7, _, _, _, q11, q12⟩ := zv_hM cM'
      have ekb : b' = ka := by rw [b3] at q1; exact ((nI_eq (by omega) (by omega)).mp q1).symm
      subst ekb
      have q11' : (g.2.1 78) b' = -1 ∧ z3 = -1 := q11
      rw [q11'.2, if_pos rfl, b3] at q12
      refine fin (c' = 31) ?_ ?_
      · rw [zv_lv18 hi (i1.trans c0)]
        unfold f_Jd_judgeRange f_Jd_judgeRange_39 f_Jd_judgeRange_91
        simp only [if_pos (zi_in (show i < 2147483648 by omega) hi), nI_clamp (show i < 2147483648 by omega), show (h2.2.1 17) i = nI a from i4.trans a3, if_pos (zi_in (show a < 2147483648 by omega) a2), nI_clamp (show a < 2147483648 by omega), t1, e31 c' hc, z1, if_true, Option.bind_fun_some]
        by_cases z : c' = 31
        · rw [if_pos z, if_pos z]
        · rw [if_neg z, if_neg z]
      · rw [zv_54S (by decide) (by decide) n2]
        unfold f_Mo_lookAtStatements f_Mo_lookAtStatements_358 f_Mo_lookAtStatements_363
        simp (config := { decide := true }) only [if_pos (zi_in (show k < 2147483648 by omega) hk), nI_clamp (show k < 2147483648 by omega), show (g2.2.1 72) k = 18 by rw [ge _ (by decide)]; exact m0, if_false, if_true, show (g2.2.1 76) k = nI b' by rw [ge _ (by decide)]; exact b3, show (g2.2.1 77) k = nI b' by rw [ge _ (by decide)]; exact q12, if_pos (zi_in (show b' < 2147483648 by omega) b2), nI_clamp (show b' < 2147483648 by omega), t3, e31 c' hc, Option.bind_fun_some, Int32.le_refl]
        by_cases z : c' = 31
        · rw [if_pos z, if_pos z]
        · rw [if_neg z, if_neg z, if_neg z]
    · have A' := A
      rw [el] at A' cM'
      obtain ⟨a, ka, a1, a2, a3, b1, b2, b3, t1, t2, t3, B⟩ := yc_cst hc A'
      obtain ⟨b, kb, p1, p2, p3, p4, p5, p6, r1, r2, r3, ⟨z1, z2⟩⟩ := yc_cst hc2 B
      obtain ⟨b', Q1, Q2, z3, q1, q2, q3, q4, q5, q6, q7, _, _, _, q11, q12⟩ := zv_hM cM'
      have ekb : b' = ka := by rw [b3] at q1; exact ((nI_eq (by omega) (by omega)).mp q1).symm
      subst ekb
      obtain ⟨L1, _⟩ := yb_last2 (show b' < 2147483648 by omega) cM' b3
      obtain ⟨b'', Q3, Q4, z4, s1, s2, s3, s4, s5, s6, s7, _⟩ := zv_hM q11
      have p6' : (g.2.1 78) b' = nI kb := by rw [← ge _ (by decide)]; exact p6
      have ekc : b'' = kb := by rw [p6'] at s1; exact ((nI_eq (by omega) (by omega)).mp s1).symm
      subst ekc
      have nk1 : ¬ zt_nk c' = true := by rcases hc with e | e <;> rw [e] <;> decide
      have nk2 : ¬ zt_nk c2' = true := by rcases hc2 with e | e <;> rw [e] <;> decide
      rw [if_neg nk1] at q6
      rw [if_neg nk2] at s6
      refine fin (c' = 31 ∨ c2' = 31 ∨ ¬ kv1.2 ≤ kv2.2) ?_ ?_
      · rw [zv_lv18 hi (i1.trans c0)]
        unfold f_Jd_judgeRange f_Jd_judgeRange_39 f_Jd_judgeRange_83 f_Jd_judgeRange_88 f_Jd_judgeRange_91
        simp only [if_pos (zi_in (show i < 2147483648 by omega) hi), nI_clamp (show i < 2147483648 by omega), show (h2.2.1 17) i = nI a from i4.trans a3, if_pos (zi_in (show a < 2147483648 by omega) a2), nI_clamp (show a < 2147483648 by omega), t1, e31 c' hc, p3, zc_m1 (show b < 2147483648 by omega), if_false, if_pos (zi_in (show b < 2147483648 by omega) p2), nI_clamp (show b < 2147483648 by omega), r1, e31 c2' hc2, t2, r2, Option.bind_fun_some]
        by_cases y1 : c' = 31 <;> by_cases y2 : c2' = 31 <;> by_cases y3 : kv1.2 ≤ kv2.2 <;> simp only [y1, y2, y3, if_true, if_false, true_or, or_true, or_self, not_true, not_false_iff, or_false] <;> rfl
      · rw [zv_54S (by decide) (by decide) n2]
        unfold f_Mo_lookAtStatements f_Mo_lookAtStatements_358 f_Mo_lookAtStatements_363
        simp (config := { decide := true }) only [if_pos (zi_in (show k < 2147483648 by omega) hk), nI_clamp (show k < 2147483648 by omega), show (g2.2.1 72) k = 18 by rw [ge _ (by decide)]; exact m0, if_false, if_true, show (g2.2.1 76) k = nI b' by rw [ge _ (by decide)]; exact b3, show (g2.2.1 77) k = nI b'' by rw [ge _ (by decide), L1]; exact p6', if_pos (zi_in (show b' < 2147483648 by omega) b2), nI_clamp (show b' < 2147483648 by omega), if_pos (zi_in (show b'' < 2147483648 by omega) p5), nI_clamp (show b'' < 2147483648 by omega), t3, r3, e31 c' hc, e31 c2' hc2, show (g2.2.1 74) b' = kv1.2 by rw [ge _ (by decide)]; exact q6, show (g2.2.1 74) b'' = kv2.2 by rw [ge _ (by decide)]; exact s6, Option.bind_fun_some]
        by_cases y1 : c' = 31 <;> by_cases y2 : c2' = 31 <;> by_cases y3 : kv1.2 ≤ kv2.2 <;> simp only [y1, y2, y3, if_true, if_false, true_or, or_true, or_self, not_true, not_false_iff, or_false]
