/-! The judge: statements are visited: assignments (29, 30, 31), CASE (34), ranges (35). -/
theorem yc_g12 {l : zt_T} (h : zg_A 12 (zg_run 12 0 l) = true) : ∃ c kv o lc c2 kv2 o2 lc2, l = .inner c kv o lc (.inner c2 kv2 o2 lc2 .leaf) ∧ (c = 6 ∨ c = 32) ∧ c2 ∈ yb_E := by
  have key : ∀ r ∈ zg_R, r.1 = 12 → r.2 = (0, [6, 32], 1) ∨ r.2 = (1, yb_E, 2) := by decide +kernel
  cases l with
  | leaf => exact absurd h (by decide)
  | inner c kv o lc r =>
    obtain ⟨cs, to, m1, m2, m3⟩ := zv_qR (yb_run h)
    have k1 := key _ m1 rfl
    simp only [Prod.mk.injEq] at k1
    obtain ⟨e2, e3⟩ : cs = [6, 32] ∧ to = 1 := by
      rcases k1 with ⟨_, a, b⟩ | ⟨a, _⟩
      · exact ⟨a, b⟩
      · exact absurd a (by decide)
    rw [e2] at m2
    have h' : zg_A 12 (zg_run 12 1 r) = true := by
      have : zg_run 12 0 (.inner c kv o lc r) = zg_run 12 1 r := by show zg_run 12 (zg_q 12 0 c) r = _; rw [m3, e3]
      rw [← this]; exact h
    cases r with
    | leaf => exact absurd h' (by decide)
    | inner c2 kv2 o2 lc2 r2 =>
      obtain ⟨cs, to, n1, n2, n3⟩ := zv_qR (yb_run h')
      have k1 := key _ n1 rfl
      simp only [Prod.mk.injEq] at k1
      obtain ⟨e2, e3⟩ : cs = yb_E ∧ to = 2 := by
        rcases k1 with ⟨a, _⟩ | ⟨_, a, b⟩
        · exact absurd a (by decide)
        · exact ⟨a, b⟩
      rw [e2] at n2
      have h2 : zg_A 12 (zg_run 12 2 r2) = true := by
        have : zg_run 12 1 (.inner c2 kv2 o2 lc2 r2) = zg_run 12 2 r2 := by show zg_run 12 (zg_q 12 1 c2) r2 = _; rw [n3, e3]
        rw [← this]; exact h'
      have m2' : c = 6 ∨ c = 32 := by
        simp only [List.mem_cons, List.not_mem_nil, or_false] at m2
        exact m2
      cases r2 with
      | leaf => exact ⟨c, kv, o, lc, c2, kv2, o2, lc2, rfl, m2', n2⟩
      | inner c3 kv3 o3 lc3 r3 =>
        obtain ⟨cs, to, n1, _, _⟩ := zv_qR (yb_run h2)
        have k1 := key _ n1 rfl
        simp only [Prod.mk.injEq] at k1
        rcases k1 with ⟨a, _⟩ | ⟨a, _⟩ <;> exact absurd a (by decide)
theorem yc_tgt {F : Nat → Nat} {bb : Nat} {h g : zs_H} {P Q : Nat → Prop} {c : Nat} {v : Int32} {i k : Nat} {xl : Int32} {n : Nat} (N : yb_N F bb h g P Q c v i k xl n) (hc : c = 6 ∨ c = 32) : ∃ ty u x, ty < 3 ∧ (h.2.1 14) i = nI ty ∧ (g.2.1 100) k = nI ty ∧ yb_V F bb h v u x ∧ (h.2.1 16) i = nI (32 + u) := by
  rcases N with N | ⟨ty, t1, t2, t3, N⟩
  · exact absurd (by rcases hc with e | e <;> rw [e] <;> decide) (yb_SE N)
  · rcases N with ⟨e, n1, u, x, n2, n3, n4⟩ | ⟨e, n1, n2⟩ | ⟨e, n1, n2, u, x, n3, n4, n5⟩ | ⟨e, _⟩ | ⟨e, _⟩ | ⟨e, _⟩ | ⟨e, _⟩ | ⟨e, _⟩
    · exact ⟨ty, u, x, t1, t2, t3, n2, n3⟩
    · rcases e with e | e <;> omega
    · exact ⟨ty, u, x, t1, t2, t3, n3, n4⟩
    all_goals omega
/-- an assignment -/
theorem yc_VN12 {kv : Int32 × Int32} {l : zt_T} (hA : zg_A 12 (zg_run 12 0 l) = true) (Ph : yc_Ph l) : yc_VN 12 kv l := by
  intro LC LM nb nf sz F h g i k up d D D' oc P Q y C nd hup LL hPs ow hd hD hD'
  obtain ⟨D, rfl⟩ : ∃ z, D = z + 1 := ⟨D - 1, by omega⟩
  obtain ⟨D', rfl⟩ : ∃ z, D' = z + 2 := ⟨D' - 2, by omega⟩
  obtain ⟨⟨hi, hk, hPi, hQk, hP, hQ⟩, ⟨c0, c1, c2, c3, c4⟩, cC, ⟨m0, m1, m2, m3⟩, cM⟩ := id nd
  rcases yc_kids (D := D) (D' := D') (zv_ent0 (kd := 12) hi (by decide) c0 (by decide)) C nd ⟨rfl, by decide, by decide, by decide, by decide, by decide⟩ (yc_Ldn LL hk m3 (by rw [m0]; decide)) Ph hPs ow hd (by omega) (by omega) with ⟨h', g', e1, e2, e3, e4, e5⟩ | ⟨h2, g2, e1, e2, O, A, n1, n2, ow'⟩
  · exact ⟨h', g', e1, e2, .inl ⟨e3, e4, e5⟩⟩
  · obtain ⟨c', kv1, o1, lc1, c2', kv2, o2, lc2, el, hc1, hE2⟩ := yc_g12 hA
    obtain ⟨i1, i2, i3, i4⟩ := O.2.2.1 i hPi
    have ge : ∀ z, ¬ z ∈ yc_g → g2.2.1 z = g.2.1 z := fun z hz => O.2.1.2.1 z hz
    have he : ∀ z, ¬ z ∈ yc_m → h2.2.1 z = h.2.1 z := fun z hz => O.1.2.1 z hz
    have C2 := yc_cxf C O.1 O.2.1
    have hb := C.2.2.1
    have A' := A
    rw [el] at A'
    obtain ⟨a, ka, xl, ⟨a1, a2, a3⟩, ⟨b1, b2, b3, _⟩, N, _, B⟩ := A'
    obtain ⟨ta, u, x, t1, t2, t3, V, hv⟩ := yc_tgt N hc1
    obtain ⟨b, kb, tb, p1, p2, p3, p4, p5, p6, p7, p8, p9, _⟩ := yb_first hE2 B
    -- the target's name
    have cM' := cM
    rw [el] at cM'
    obtain ⟨b', Q1, Q2, z3, q1, q2, q3, q4, q5, q6, _⟩ := zv_hM cM'
    have ekb : b' = ka := by rw [b3] at q1; exact ((nI_eq (by omega) (by omega)).mp q1).symm
    subst ekb
    rw [if_pos (by rcases hc1 with e | e <;> rw [e] <;> decide)] at q6
    obtain ⟨cn, hcn, ecn, hw⟩ := yb_nr C q6
    rw [ecn] at V
    obtain ⟨w1, w2, w3⟩ := yc_var C2.1 hb hcn hw V
    obtain ⟨L1, _⟩ := yb_last2 (show b' < 2147483648 by omega) cM' b3
    have lst : (g2.2.1 77) k = nI kb := by rw [ge _ (by decide), L1, ← ge _ (by decide)]; exact p6
    have fst : (g2.2.1 76) k = nI b' := by rw [ge _ (by decide)]; exact b3
    have abv : (g2.2.1 75) k = nI up := by rw [ge _ (by decide)]; exact m3
    have L2 := yc_Lf LL (by omega) O
    obtain ⟨h3, g3, x1, x2, x3⟩ := yc_asg (i := i) (k := k) C2.1 hb hi hk hcn hw w2 w3 w1 abv L2 (by omega)
    have hh : h3.2 = h2.2 ∧ g3.2 = g2.2 := by
      rcases x3 with ⟨z1, z2⟩ | ⟨φ, _, z1, z2⟩
      · rw [z1, z2]; exact ⟨rfl, rfl⟩
      · rw [z1, z2]; exact ⟨rfl, rfl⟩
    have eC : f_Jd_leave h2 (nI i) = f_Jd_refuseIf h3 (if f_Jd_fits (nI tb) (nI ta) = 0 then 1 else 0) 31 (nI i) := by
      rw [zv_lv12 hi (i1.trans c0)]
      unfold f_Jd_judgeAssignment f_Jd_judgeAssignment_62
      simp only [if_pos (zi_in (show i < 2147483648 by omega) hi), nI_clamp (show i < 2147483648 by omega), show (h2.2.1 17) i = nI a from i4.trans a3, if_pos (zi_in (show a < 2147483648 by omega) a2), nI_clamp (show a < 2147483648 by omega), hv, x1, Option.bind_some, hh.1, p3, if_pos (zi_in (show b < 2147483648 by omega) p2), nI_clamp (show b < 2147483648 by omega), t2, p8, Option.bind_fun_some]
      split <;> rfl
    have eM : f_Mo_lookAlone_54 g2 (nI k) (nI 12) = if (g3.1 68 29) = 0 then f_Mo_rule g3 (if f_Jd_fits (nI tb) (nI ta) = 0 then 1 else 0) 31 (nI k) else some g3 := by
      rw [zv_54S (by decide) (by decide) n2]
      unfold f_Mo_lookAtStatements f_Mo_lookAtStatements_113 f_Mo_lookAtStatements_112 f_Mo_lookAtStatements_113
      simp (config := { decide := true }) only [if_pos (zi_in (show k < 2147483648 by omega) hk), nI_clamp (show k < 2147483648 by omega), show (g2.2.1 72) k = 12 by rw [ge _ (by decide)]; exact m0, if_false, if_true, fst, if_pos (zi_in (show b' < 2147483648 by omega) b2), nI_clamp (show b' < 2147483648 by omega), show (g2.2.1 74) b' = (g.2.1 74) b' by rw [ge _ (by decide)], x2, Option.bind_some, hh.2, lst, if_pos (zi_in (show kb < 2147483648 by omega) p5), nI_clamp (show kb < 2147483648 by omega), t3, p9, Option.bind_fun_some, zv_rule0]
      by_cases z : (g3.1 68 29) = 0
      · rw [if_pos z, if_pos z]
        show (if f_Jd_fits (nI tb) (nI ta) = 0 then _ else _) = _
        by_cases zf : f_Jd_fits (nI tb) (nI ta) = 0
        · rw [if_pos zf, if_pos zf]
        · rw [if_neg zf, if_neg zf, zv_rule0]
      · rw [if_neg z, if_neg z]
    have pc : (h2.2.1 15) i = kv.1 := by rw [he _ (by decide)]; exact c1
    have pm : (g2.2.1 73) k = kv.1 := by rw [ge _ (by decide)]; exact m1 (by decide)
    have eo : yc_o (.inner 12 kv () l .leaf) = yc_o l := by
      show 0 + yc_o l + 0 = _; omega
    rcases x3 with ⟨z1, z2⟩ | ⟨φ, z0, z1, z2⟩
    · rw [z2, if_pos n2] at eM
      rw [z1] at eC
      obtain ⟨h', g', v1, v2, v3⟩ := zv_both (φ := 31) (C := f_Jd_fits (nI tb) (nI ta) = 0) n1 n2 hi hk
      refine ⟨h', g', by rw [e1, eC]; exact v1, by rw [e2, eM]; exact v2, ?_⟩
      rcases v3 with ⟨nf, y1, y2⟩ | ⟨_, y1, y2⟩
      · rw [y1, y2]
        exact .inr ⟨yc_pl C nd (by decide) ⟨fun _ => ⟨a, b, a3, a1, p3, p1, fun z => by
          rw [p8]
          rw [t2] at z
          rw [z] at nf
          exact ya_fit0 tb p7 nf⟩, fun z => absurd z (by decide)⟩ yc_out0 O A, n1, n2, by rw [ow'.1, eo], fun z => zg_xl (by decide) (ow'.2.1 z), zg_ruE (by decide) (by decide)⟩
      · rw [y1, y2]
        obtain ⟨f1, f2, f3⟩ := yc_mkF (φ := 31) (h := h2) (g := g2) (i := i) (k := k) (p := kv.1) (by decide) (by decide) pc pm
        exact .inl ⟨yc_Fb1 O f1, f2, f3⟩
    · have hφ : 0 < φ ∧ φ < 1000 := by rcases z0 with e | e <;> omega
      obtain ⟨f1, f2, f3⟩ := yc_mkF (φ := φ) (h := h2) (g := g2) (i := i) (k := k) (p := kv.1) hφ.1 hφ.2 pc pm
      rw [z1, zv_refF f2] at eC
      rw [z2, if_neg f3] at eM
      exact ⟨_, _, by rw [e1, eC], by rw [e2, eM], .inl ⟨yc_Fb1 O f1, f2, f3⟩⟩
