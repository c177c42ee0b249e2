/-! The judge: rungs and ladders are visited; all bodies. -/
theorem yl_gr {kd : Nat} {p : Nat → Prop} (key : ∀ r ∈ zg_R, r.1 = kd → ∀ c ∈ r.2.2.1, p c) {c : Nat} {st : Nat} {kv : Int32 × Int32} {o : Unit} {lc r : zt_T} (h : ¬ zg_run kd st (.inner c kv o lc r) = 99) : p c ∧ ¬ zg_run kd (zg_q kd st c) r = 99 := by
  have h1 : ¬ zg_run kd (zg_q kd st c) r = 99 := h
  have h2 : ¬ zg_q kd st c = 99 := fun z => h1 (by rw [z]; exact zv_q99 kd r)
  obtain ⟨cs, to, m1, m2, m3⟩ := zv_qR h2
  exact ⟨key _ m1 rfl c m2, h1⟩
theorem yl_g24 : ∀ {l : zt_T} {st : Nat}, ¬ zg_run 24 st l = 99 → yl_top l := by
  have key : ∀ r ∈ zg_R, r.1 = 24 → ∀ c ∈ r.2.2.1, (c = 25 ∨ c = 26 ∨ c = 27 ∨ c = 28 ∨ c = 29) := by decide +kernel
  intro l
  induction l with
  | leaf => intro _ _; trivial
  | inner c kv o lc r _ ihr =>
    intro st h
    obtain ⟨p, h1⟩ := yl_gr key h
    exact ⟨p, ihr h1⟩
/-- all rows -/
def yl_rows : zt_T → Prop
  | .leaf => True
  | .inner kd _ _ l r => (kd = 24 ∧ yl_top l) ∧ yl_rows r
theorem yl_g23 : ∀ {l : zt_T} {st : Nat}, zg_ok l → ¬ zg_run 23 st l = 99 → yl_rows l := by
  have key : ∀ r ∈ zg_R, r.1 = 23 → ∀ c ∈ r.2.2.1, c = 24 := by decide +kernel
  intro l
  induction l with
  | leaf => intro _ _ _; trivial
  | inner c kv o lc r _ ihr =>
    intro st ⟨⟨hA, _⟩, okl, okr⟩ h
    obtain ⟨p, h1⟩ := yl_gr key h
    subst p
    exact ⟨⟨rfl, yl_g24 (yc_gA hA)⟩, ihr okr h1⟩
/-- the rows of a rung as chains -/
theorem yl_ch {F : Nat → Nat} {bb : Nat} {h g : zs_H} {P Q : Nat → Prop} {sz : Nat} (hsz : (h.1 12 6) = nI sz) (hs2 : sz < 100000) : ∀ (t : zt_T) (x x' : Int32), yl_rows t → zt_sz t ≤ sz → yb_F F bb h g P Q t x x' (-1) (-1) → ∃ M : List Nat, M.length = zt_ln t ∧ yl_C h M x ∧ yl_M g M x' ∧ M = yl_ns t := by
  have hz := zF_big
  have yn : ∀ t, yl_n t ≤ zt_ln t := by
    intro t
    induction t with
    | leaf => exact Nat.le_refl _
    | inner kd kv o l r _ ihr => show (if kd = 29 then 0 else 1) + yl_n r ≤ 1 + zt_ln r; split <;> omega
  intro t
  induction t with
  | leaf => intro x x' _ _ ⟨a1, a2⟩; exact ⟨[], rfl, a1, a2, rfl⟩
  | inner kd kv o l r ihl ihr =>
    intro x x' ⟨⟨e24, ht⟩, hr⟩ hs ⟨a, b, xl, ⟨a1, a2, a3⟩, ⟨b1, b2, b3, b4⟩, N, A, B⟩
    have hs' : 1 + zt_sz l + zt_sz r ≤ sz := hs
    subst e24
    obtain ⟨M, l1, l2, l3, l4⟩ := ihr _ _ hr (by omega) B
    obtain ⟨_, k2, _⟩ := yl_pl (by decide) N
    have hln := zv_lnsz l
    have hyn := yn l
    refine ⟨yl_n l :: M, by show M.length + 1 = 1 + zt_ln r; omega, ⟨a, a2, a3, by omega, ?_, l2⟩, ⟨b, b2, b3, by omega, ?_, l3⟩, by rw [l4]; rfl⟩
    · unfold f_Jd_cellsIn
      rw [if_pos (zi_in (by omega) a2), nI_clamp (show a < 2147483648 by omega), k2]
      have := yl_cC hsz hs2 l xl ((g.2.1 76) b) 0 0 zF ht A (by omega) (by omega)
      rw [Nat.zero_add] at this
      exact this
    · unfold f_Mo_cellsIn
      rw [if_pos (zi_in (by omega) b2), nI_clamp (show b < 2147483648 by omega)]
      have := yl_cM l xl ((g.2.1 76) b) 0 zF ht A (by omega)
      rw [Nat.zero_add] at this
      exact this
/-- a rung -/
theorem yc_VN23 {kv : Int32 × Int32} {l : zt_T} (hok : zg_ok l) (hA : zg_A 23 (zg_run 23 0 l) = true) (Ph : ys_Ph l) : yc_VN 23 kv l := by
  intro LC LM nb nf sz F h g i k up d D D' oc P Q y C nd hup LL hPs ow hd hD hD'
  have hz := zF_big
  obtain ⟨D, rfl⟩ : ∃ z, D = z + 1 := ⟨D - 1, by omega⟩
  obtain ⟨D', rfl⟩ : ∃ z, D' = z + 2 := ⟨D' - 2, by omega⟩
  obtain ⟨⟨hi, hk, hPi, hQk, hP, hQ⟩, ⟨c0, c1, c2, c3, c4⟩, cC, ⟨m0, m1, m2, m3⟩, cM⟩ := id nd
  have hsl : zt_sz l ≤ sz := Nat.le_trans (zt_sz_le l P _ _ _ sz nd.2.2.1 hPs) (zc_cnt_le _ _)
  rcases ys_kids (D := D) (D' := D') (zv_ent0 (kd := 23) hi (by decide) c0 (by decide)) C nd ⟨rfl, by decide, by decide, by decide, by decide, by decide⟩ (yc_Ldn LL hk m3 (by rw [m0]; decide)) Ph hPs ow hd (by omega) (by omega) with ⟨h', g', e1, e2, e3, e4, e5⟩ | ⟨h2, g2, e1, e2, O, A, n1, n2, ow', rc⟩
  · exact ⟨h', g', e1, e2, .inl ⟨e3, e4, e5⟩⟩
  · obtain ⟨i1, i2, i3, i4⟩ := O.2.2.1 i hPi
    have C2 : yb_cx LC LM nb nf sz F h2 g2 := yc_cxf C O.1 O.2.1
    have hsz : (h2.1 12 6) = nI sz := C2.2.2.2.1
    have hs2 : sz < 100000 := by have := C2.2.2.2.2; omega
    have ge : ∀ z, ¬ z ∈ yc_g → g2.2.1 z = g.2.1 z := fun z hz => O.2.1.2.1 z hz
    obtain ⟨M, l1, l2, l3, l4⟩ := yl_ch hsz hs2 l _ _ (yl_g23 hok (yc_gA hA)) hsl A
    have hln := zv_lnsz l
    have hne : ∃ n0 M', M = n0 :: M' := by
      cases l with
      | leaf => exact absurd hA (by decide)
      | inner c kv1 o1 lc r =>
        cases M with
        | nil => exact absurd l1 (by show ¬ 0 = 1 + zt_ln r; omega)
        | cons n0 M' => exact ⟨n0, M', rfl⟩
    obtain ⟨n0, M', eM⟩ := hne
    have fst : (g2.2.1 76) k = (g.2.1 76) k := by rw [ge _ (by decide)]
    have n0h : n0 < 100000 ∧ f_Mo_cellsIn g2 ((g2.2.1 76) k) = some (nI n0) := by
      have z := l3
      rw [eM] at z
      obtain ⟨b, b1, b2, b3, b4, b5⟩ := z
      rw [fst, b2]
      exact ⟨b3, b4⟩
    have eC : f_Jd_leave h2 (nI i) = some (yc_R (yl_b n0 M || decide (12 < M.length)) 38 i h2) := by
      rw [zv_lv23 hi (i1.trans c0)]
      unfold f_Jd_judgeRung
      rw [if_pos (zi_in (by omega) hi), nI_clamp (show i < 2147483648 by omega), i4]
      have := yl_38C (h := h2) (i := i) (n0 := n0) hsz hs2 hi M ((h.2.1 17) i) (-1) 0 0 zF false (fun n L e => .inl ⟨rfl, by rw [eM] at e; injection e with e1 e2; exact e1.symm⟩) l2 (by omega) (by omega) (by omega)
      have ed : decide (¬ M = [] ∧ 12 < 0 + M.length) = decide (12 < M.length) := by
        rw [Nat.zero_add]
        by_cases z : 12 < M.length
        · rw [decide_eq_true z, decide_eq_true ⟨by rw [eM]; exact List.cons_ne_nil _ _, z⟩]
        · rw [decide_eq_false z, decide_eq_false (fun u => z u.2)]
      rw [ed, Bool.false_or, show yc_R false 38 i h2 = h2 from if_neg (fun z => absurd z.1 (by decide))] at this
      exact this
    have eM' : f_Mo_lookAlone_54 g2 (nI k) (nI 23) = f_Mo_rule g2 (if (yl_b n0 M || decide (12 < M.length)) = true then 1 else 0) 38 (nI k) := by
      rw [zv_54R (by decide) (by decide) n2]
      unfold f_Mo_lookAtRungs
      simp (config := { decide := true }) only [if_pos (zi_in (show k < 2147483648 by omega) hk), nI_clamp (show k < 2147483648 by omega), show (g2.2.1 72) k = 23 by rw [ge _ (by decide)]; exact m0, if_true]
      have := yl_38M (g := g2) (k := k) hk n0h.1 n0h.2 M ((g.2.1 76) k) 0 zF false l3 (by omega) (by omega)
      rw [Nat.zero_add, Bool.false_or] at this
      rw [fst]
      exact this
    have eo : yc_o (.inner 23 kv () l .leaf) = yc_o l := by
      show 0 + yc_o l + 0 = _; omega
    have ro : (yl_b n0 M || decide (12 < M.length)) = false → zg_ro l := by
      intro z
      rw [Bool.or_eq_false_iff] at z
      have z2 : ¬ 12 < M.length := of_decide_eq_false z.2
      have z1 : ∀ n, n ∈ M → n ≤ 12 ∧ n = n0 := by
        intro n hn
        have := List.any_eq_false.mp z.1 n hn
        rw [Bool.or_eq_true, decide_eq_true_eq, decide_eq_true_eq] at this
        omega
      refine ⟨rc, by omega, n0, (z1 n0 (by rw [eM]; exact List.mem_cons_self)).1, fun n hn => (z1 n (by rw [l4]; exact hn)).2⟩
    generalize (yl_b n0 M || decide (12 < M.length)) = B at eC eM' ro
    cases B with
    | false =>
      refine ⟨h2, g2, by rw [e1, eC]; exact congrArg some (if_neg (fun z => absurd z.1 (by decide))), by rw [e2, eM']; exact zv_rule0, .inr ⟨yc_pl C nd (by decide) (yb_sy0 (by decide) (by decide)) yc_out0 O A, n1, n2, by rw [ow', eo], fun _ => rfl, ro rfl, trivial⟩⟩
    | true =>
      obtain ⟨f1, f2, f3⟩ := yc_mkF (φ := 38) (h := h2) (g := g2) (i := i) (k := k) (p := kv.1) (by decide) (by decide) (by rw [O.1.2.1 _ (by decide)]; exact c1) (by rw [ge _ (by decide)]; exact m1 (by decide))
      exact ⟨zv_rf 38 i h2, zv_ru 38 k g2, by rw [e1, eC]; exact congrArg some (if_pos ⟨rfl, n1⟩), by rw [e2, eM']; exact zv_rule1 (by decide) n2 hk, .inl ⟨yc_Fb1 O f1, f2, f3⟩⟩
/-- a ladder -/
theorem yc_VN22 {kv : Int32 × Int32} {l : zt_T} (Ph : yc_Ph l) : yc_VN 22 kv l := by
  intro LC LM nb nf sz F h g i k up d D D' oc P Q y C nd hup LL hPs ow hd hD hD'
  obtain ⟨D, rfl⟩ : ∃ z, D = z + 1 := ⟨D - 1, by omega⟩
  obtain ⟨D', rfl⟩ : ∃ z, D' = z + 2 := ⟨D' - 2, by omega⟩
  obtain ⟨⟨hi, hk, hPi, hQk, hP, hQ⟩, ⟨c0, c1, c2, c3, c4⟩, cC, ⟨m0, m1, m2, m3⟩, cM⟩ := id nd
  have hen : f_Jd_enter h (nI i) = some (zs_uF h 38 10 (nI (oc + 156))) := by
    unfold f_Jd_enter
    simp (config := { decide := true }) only [if_pos (zi_in (show i < 2147483648 by omega) hi), nI_clamp (show i < 2147483648 by omega), show (h.2.1 13) i = 22 from c0, if_false, if_true, ow]
    rw [show nI (oc + 156) = nI oc + nI 156 from Int32.ofNat_add oc 156]
    rfl
  have O0 : yc_out (fun _ => False) (fun _ => False) h g (zs_uF h 38 10 (nI (oc + 156))) g := yc_own
  have C1 := yc_cxf C O0.1 O0.2.1
  have nd1 : yb_nd LC LM (zs_uF h 38 10 (nI (oc + 156))) g 22 kv l i k up P Q y := ⟨nd.1, nd.2.1, yc_keepC O0 (fun _ _ z => z) cC, nd.2.2.2.1, nd.2.2.2.2⟩
  rcases yc_kids (D := D) (D' := D') hen C1 nd1 ⟨rfl, by decide, by decide, by decide, by decide, by decide⟩ (yc_Ldn (yc_Lf LL (by omega) O0) hk m3 (by rw [m0]; decide)) Ph hPs rfl hd (by omega) (by omega) with ⟨h', g', e1, e2, e3, e4, e5⟩ | ⟨h2, g2, e1, e2, O, A, n1, n2, ow'⟩
  · exact ⟨h', g', e1, e2, .inl ⟨yc_Fb0 O0 e3, e4, e5⟩⟩
  · obtain ⟨i1, i2, i3, i4⟩ := O.2.2.1 i hPi
    have el : f_Jd_leave h2 (nI i) = some h2 := zv_lv22 hi (i1.trans c0)
    have em : f_Mo_lookAlone_54 g2 (nI k) (nI 22) = some g2 := by
      rw [zv_54R (by decide) (by decide) n2]
      unfold f_Mo_lookAtRungs
      simp (config := { decide := true }) only [if_pos (zi_in (show k < 2147483648 by omega) hk), nI_clamp (show k < 2147483648 by omega), show (g2.2.1 72) k = 22 by rw [O.2.1.2.1 _ (by decide)]; exact m0, if_false]
    have eo : oc + yc_o (.inner 22 kv () l .leaf) = oc + 156 + yc_o l := by
      show oc + (156 + yc_o l + 0) = _; omega
    exact ⟨h2, g2, by rw [e1, el], by rw [e2, em], .inr ⟨yc_pl C1 nd1 (by decide) (yb_sy0 (by decide) (by decide)) O0 O A, n1, n2, by rw [ow'.1, eo], fun _ => rfl, ow'.2.2, trivial⟩⟩
/-- a node with one child -/
theorem yl_g1 {kd : Nat} {cs : List Nat} (key : ∀ r ∈ zg_R, r.1 = kd → r.2 = (0, cs, 1)) (h0 : zg_A kd 0 = false) {l : zt_T} (h : zg_A kd (zg_run kd 0 l) = true) : ∃ c kv o lc, l = .inner c kv o lc .leaf ∧ c ∈ cs := by
  cases l with
  | leaf => exact absurd (h0.symm.trans h) (by decide)
  | inner c kv o lc r =>
    obtain ⟨cs', to, m1, m2, m3⟩ := zv_qR (yb_run h)
    have k1 := key _ m1 rfl
    simp only [Prod.mk.injEq] at k1
    obtain ⟨_, e2, e3⟩ := k1
    rw [e2] at m2
    have h' : zg_A kd (zg_run kd 1 r) = true := by
      have : zg_run kd 0 (.inner c kv o lc r) = zg_run kd 1 r := by show zg_run kd (zg_q kd 0 c) r = _; rw [m3, e3]
      rw [← this]; exact h
    cases r with
    | leaf => exact ⟨c, kv, o, lc, rfl, m2⟩
    | inner c2 kv2 o2 lc2 r2 =>
      obtain ⟨cs'', to, m1, _, _⟩ := zv_qR (yb_run h')
      have k1 := key _ m1 rfl
      simp only [Prod.mk.injEq] at k1
      exact absurd k1.1 (by decide)
/-- all cells -/
theorem yr_all : ∀ t : zt_T, zg_ok t → yl_top t → yr_Ph t := by
  intro t
  induction t with
  | leaf => intro _ _; trivial
  | inner kd kv o l r ihl ihr =>
    intro ⟨⟨hA, hv⟩, okl, okr⟩ ⟨hE, tr⟩
    refine ⟨?_, ihr okr tr⟩
    rcases hE with e | e | e | e | e <;> subst e
    · obtain ⟨c, kv1, o1, lc, el, hc⟩ := yl_g1 (kd := 25) (cs := [6, 33]) (by decide +kernel) (by decide) hA
      have hE : c ∈ yb_E := by
        simp only [List.mem_cons, List.not_mem_nil, or_false] at hc
        rcases hc with e | e <;> rw [e] <;> decide
      have tp : yb_top l := by rw [el]; exact ⟨hE, trivial⟩
      have P := yb_all l okl tp
      have z := yc_oE l okl tp
      rw [el] at P
      exact yr_VN25 hv el hE P.1.2 z
    · rw [zv_nolf (kd := 26) (by decide +kernel) hA]; exact yr_VN26 (.inl rfl)
    · rw [zv_nolf (kd := 27) (by decide +kernel) hA]; exact yr_VN26 (.inr (.inl rfl))
    · obtain ⟨c, kv1, o1, lc, el, hc⟩ := yl_g1 (kd := 28) (cs := [6]) (by decide +kernel) (by decide) hA
      have e6 : c = 6 := by
        simp only [List.mem_cons, List.not_mem_nil, or_false] at hc
        exact hc
      subst e6
      have tp : yb_top l := by rw [el]; exact ⟨by decide, trivial⟩
      have P := yb_all l okl tp
      have z := yc_oE l okl tp
      rw [el] at P
      exact yr_VN28 el P.1.2 z
    · rw [zv_nolf (kd := 29) (by decide +kernel) hA]; exact yr_VN26 (.inr (.inr rfl))
theorem ys_all : ∀ t : zt_T, zg_ok t → yl_rows t → ys_Ph t := by
  intro t
  induction t with
  | leaf => intro _ _; trivial
  | inner kd kv o l r ihl ihr =>
    intro ⟨⟨hA, hv⟩, okl, okr⟩ ⟨⟨e, hl⟩, tr⟩
    subst e
    exact ⟨ys_VN24 (yr_all l okl hl), ihr okr tr⟩
theorem yc_g22 : ∀ {l : zt_T} {st : Nat}, zg_ok l → ¬ zg_run 22 st l = 99 → yc_Ph l := by
  have key : ∀ r ∈ zg_R, r.1 = 22 → ∀ c ∈ r.2.2.1, c = 23 := by decide +kernel
  intro l
  induction l with
  | leaf => intro _ _ _; trivial
  | inner c kv o lc r _ ihr =>
    intro st ⟨⟨hA, _⟩, okl, okr⟩ h
    obtain ⟨p, h1⟩ := yl_gr key h
    subst p
    exact ⟨.inr (yc_VN23 okl hA (ys_all lc okl (yl_g23 okl (yc_gA hA)))), ihr okr h1⟩
/-- a body -/
theorem yc_body {kd : Nat} {kv : Int32 × Int32} {l : zt_T} (hk : kd = 11 ∨ kd = 22) (hA : zg_A kd (zg_run kd 0 l) = true) (hok : zg_ok l) : yc_VN kd kv l := by
  rcases hk with e | e <;> subst e
  · exact yc_VN11 (.inl rfl) (yc_all l hok (yc_gt (by decide) (yc_gA hA)))
  · exact yc_VN22 (yc_g22 hok (yc_gA hA))
