section
/-! Both readers in step: FOR. -/
/-- a node whose name comes later: as it is, and as it would be without a name -/
theorem zx_add0 {LC LM : List (List Int32)} {g : zs_H} {m b kn : Nat} {kv p v : Int32} (Hm : (g.1 68 14) = nI m) (hm : m < 33500) (HW : zx_W g m) (hb : b < m) (hk : kv = nI kn) : ∃ g' gH, f_Mo_add g (nI b) kv p v = some (nI m, g') ∧ zx_AP LC LM LM b m (m + 1) (zt_n 7 p 0 .leaf) g gH ∧ (∀ i, i < m → (g'.2.1 72) i = (gH.2.1 72) i ∧ (g'.2.1 73) i = (gH.2.1 73) i ∧ (g'.2.1 74) i = (gH.2.1 74) i ∧ (g'.2.1 75) i = (gH.2.1 75) i ∧ (g'.2.1 76) i = (gH.2.1 76) i ∧ (g'.2.1 77) i = (gH.2.1 77) i ∧ (g'.2.1 78) i = (gH.2.1 78) i) ∧ (g'.2.1 78) m = (gH.2.1 78) m ∧ (gH.2.1 77) b = nI m ∧ zx_W g' (m + 1) ∧ (g'.1 68 14) = nI (m + 1) ∧ (g'.2.1 72) m = nI kn ∧ (g'.2.1 73) m = p ∧ (g'.2.1 75) m = nI b ∧ (g'.2.1 76) m = -1 ∧ (g'.2.1 77) m = -1 ∧ (g'.2.1 77) b = nI m ∧ zfr [(68, 14)] [72, 73, 74, 75, 76, 77, 78] [] g g' := by
  obtain ⟨g1, e1, q⟩ := zx_node (p := p) (v := v) Hm hm hk
  have hW1 := zx_W_N HW q
  have hka := zx_ka_N q
  obtain ⟨q1, q2, q3, q4, q5, q6, q7, q8, q9⟩ := q
  obtain ⟨g2, e2, hH, hW2⟩ := zx_hang (a := m) (b := b) (show m + 1 ≤ 33500 by omega) (by omega) (by omega) hW1
  have f2 := hH.2.2.2
  have hbm : ¬ m = b := by omega
  obtain ⟨u1, hu1⟩ : ∃ u1, u1 = zs_uM (zs_uM g1 72 m 7) 74 m 0 := ⟨_, rfl⟩
  obtain ⟨u2, hu2⟩ : ∃ u2, u2 = zs_uM (zs_uM g2 72 m 7) 74 m 0 := ⟨_, rfl⟩
  have k1 : ∀ i, (u1.2.1 72) i = if i = m then 7 else (g1.2.1 72) i := fun i => by rw [hu1]; simp [zu_MM]
  have v1 : ∀ i, (u1.2.1 74) i = if i = m then 0 else (g1.2.1 74) i := fun i => by rw [hu1]; simp [zu_MM]
  have k2 : ∀ i, (u2.2.1 72) i = if i = m then 7 else (g2.2.1 72) i := fun i => by rw [hu2]; simp [zu_MM]
  have v2 : ∀ i, (u2.2.1 74) i = if i = m then 0 else (g2.2.1 74) i := fun i => by rw [hu2]; simp [zu_MM]
  have o1 : ∀ a, ¬ a = 72 → ¬ a = 74 → u1.2.1 a = g1.2.1 a := fun a x y => by rw [hu1]; funext i; simp [zu_MM, x, y]
  have o2 : ∀ a, ¬ a = 72 → ¬ a = 74 → u2.2.1 a = g2.2.1 a := fun a x y => by rw [hu2]; funext i; simp [zu_MM, x, y]
  have hHu : zx_H m b u1 u2 := by
    unfold zx_H
    rw [o1 75 (by decide) (by decide), o1 77 (by decide) (by decide), o1 76 (by decide) (by decide), o1 78 (by decide) (by decide), o2 75 (by decide) (by decide), o2 77 (by decide) (by decide), o2 76 (by decide) (by decide), o2 78 (by decide) (by decide)]
    refine ⟨hH.1, hH.2.1, hH.2.2.1, ?_, ?_, ?_⟩
    · intro a c q; rw [hu1, hu2]; exact f2.1 a c q
    · intro a q
      by_cases c1 : a = 72
      · subst c1; funext i; rw [k1, k2, f2.2.1 _ (by decide)]
      · by_cases c2 : a = 74
        · subst c2; funext i; rw [v1, v2, f2.2.1 _ (by decide)]
        · rw [o1 a c1 c2, o2 a c1 c2]; exact f2.2.1 a q
    · intro a q; rw [hu1, hu2]; exact f2.2.2 a q
  have hkau : zx_ka m g u1 := fun i hi => by
    obtain ⟨x1, x2, x3, x4, x5, x6, x7⟩ := hka i hi
    refine ⟨by rw [k1, if_neg (by omega)]; exact x1, ?_, by rw [v1, if_neg (by omega)]; exact x3, ?_, ?_, ?_, ?_⟩
    · rw [o1 _ (by decide) (by decide)]; exact x2
    · rw [o1 _ (by decide) (by decide)]; exact x4
    · rw [o1 _ (by decide) (by decide)]; exact x5
    · rw [o1 _ (by decide) (by decide)]; exact x6
    · rw [o1 _ (by decide) (by decide)]; exact x7
  have hNf : zt_Nf LC LM u1 m 7 p 0 := by
    refine ⟨by rw [k1, if_pos rfl]; rfl, fun _ => by rw [o1 _ (by decide) (by decide), q3, if_pos rfl], ?_⟩
    rw [if_neg (by decide), v1, if_pos rfl]
  refine ⟨g2, u2, ?_, fun P u hP H => ⟨?_, ?_⟩, ?_, ?_, ?_, hW2, (f2.1 _ _ (by decide)).trans q1, ?_, ?_, ?_, ?_, ?_, by rw [hH.2.1, if_pos rfl], zfr_trans (zfr_w q9 (by decide) (by decide) (by decide)) (zfr_w f2 (by decide) (by decide) (by decide))⟩
  · unfold f_Mo_add
    rw [e1]
    show (f_Mo_hang g1 (nI m) (nI b)).bind _ = _
    rw [e2]; rfl
  · refine zx_kp_t (zx_ka_kp hkau hb) ?_
    obtain ⟨H1, H2, H3, H4⟩ := hHu
    obtain ⟨_, _, _, _, k5, k6, _⟩ := hkau b hb
    have hbs : ∀ i, i ≤ b → (u2.2.1 78) i = (u1.2.1 78) i ∧ (i < b → (u2.2.1 76) i = (u1.2.1 76) i) := by
      intro i hi
      rcases H3 with ⟨e3, e4, e5⟩ | ⟨e3, e4, c, c1, c2, e5⟩
      · exact ⟨e5 i, fun z => by rw [e4, if_neg (by omega)]⟩
      · have hc : b < c := by
          rcases zt_last u P _ _ _ H with ⟨_, z, _⟩ | ⟨_, j, _, _, _, j1, j2, j3⟩
          · rw [← k5] at z; exact absurd z e3
          · rw [← k6, c2] at j3
            have := (nI_eq (by omega) (by omega)).mp j3
            have := hP j j1
            omega
        exact ⟨by rw [e5, if_neg (by omega)], fun _ => e4 i⟩
    exact ⟨fun i hi => ⟨congrFun (H4.2.1 _ (by decide)) i, congrFun (H4.2.1 _ (by decide)) i, congrFun (H4.2.1 _ (by decide)) i, by rw [H1, if_neg (by omega)], (hbs i (by omega)).2 hi, by rw [H2, if_neg (by omega)], (hbs i (by omega)).1⟩, congrFun (H4.2.1 _ (by decide)) b, congrFun (H4.2.1 _ (by decide)) b, congrFun (H4.2.1 _ (by decide)) b, by rw [H1, if_neg (by omega)], (hbs b (Nat.le_refl b)).1⟩
  · obtain ⟨_, _, _, _, k5, k6, _⟩ := hkau b hb
    have H1 := zt_Mk (List.prefix_refl LM) hkau (fun i hi => (hP i hi).2) H
    rw [← k5, ← k6] at H1
    have h5 : (u1.2.1 76) m = -1 := by rw [o1 _ (by decide) (by decide), q6, if_pos rfl]
    have h6 : (u1.2.1 77) m = -1 := by rw [o1 _ (by decide) (by decide), q7, if_pos rfl]
    have h8 : (u1.2.1 78) m = -1 := by rw [o1 _ (by decide) (by decide), q8, if_pos rfl]
    have r := zx_hangM (l := .leaf) (Q := fun _ => False) (by omega) hHu H1 hNf h8 ⟨h5, h6⟩ (fun i hi => ⟨fun z => z, fun z => by have := (hP i hi).2; omega⟩) (fun z => by have := (hP b z).1; omega) (fun z => z) hbm (fun z => z)
    refine zt_Mm (fun i hi => ?_) r
    rcases hi with z | z | z
    · exact Or.inl z
    · exact Or.inr ⟨by omega, by omega⟩
    · exact z.elim
  · intro i hi
    refine ⟨by rw [k2, if_neg (by omega)], ?_, by rw [v2, if_neg (by omega)], ?_, ?_, ?_, ?_⟩
    · rw [o2 _ (by decide) (by decide)]
    · rw [o2 _ (by decide) (by decide)]
    · rw [o2 _ (by decide) (by decide)]
    · rw [o2 _ (by decide) (by decide)]
    · rw [o2 _ (by decide) (by decide)]
  · rw [o2 _ (by decide) (by decide)]
  · rw [o2 _ (by decide) (by decide), hH.2.1, if_pos rfl]
  · rw [f2.2.1 _ (by decide), q2, if_pos rfl]
  · rw [f2.2.1 _ (by decide), q3, if_pos rfl]
  · rw [hH.1, if_pos rfl]
  · rcases hH.2.2.1 with ⟨_, e4, _⟩ | ⟨_, e4, _⟩
    · rw [e4, if_neg hbm, q6, if_pos rfl]
    · rw [e4, q6, if_pos rfl]
  · rw [hH.2.1, if_neg hbm, q7, if_pos rfl]
section ZYf
variable {h0 g0 h g g1 h' g' : zs_H} {T : Nat → Int32} {n K : Nat} {LC LM LM' : List (List Int32)} {j d s m o q b kd j' d' s' m' e st D f M0 M : Nat} {p v y : Int32} {u : zt_T} {X : Int32 → zs_H → zs_H → Prop}
theorem zk_wW (H : zk_L h0 g0 T n K LC h g LM j d s m o q) (c : Nat) (hc : c < 41) {x : Int32} (hx : x = nI (128 + c)) : ¬ f_Mo_isWord g (nI c) = 0 ↔ (h.1 19 5) = x := by
  rw [zk_word H hc, hx]
  by_cases z : (h.1 19 5) = nI (128 + c)
  · rw [if_pos z]; exact ⟨fun _ => z, fun _ => by decide⟩
  · rw [if_neg z]; exact ⟨fun w => absurd rfl w, fun w => absurd w z⟩
theorem zk_kW (H : zk_L h0 g0 T n K LC h g LM j d s m o q) : ¬ (if (g.1 68 6) = 1 then (1 : Int32) else 0) = 0 ↔ (h.1 19 5) = 8 := by
  rw [← (zk_kind H).1]
  by_cases z : (g.1 68 6) = 1 <;> simp [z]
theorem zk_nameE {g2 : zs_H} (e : f_Mo_want g (if (g.1 68 6) = 1 then 1 else 0) = some g2) : f_Mo_name g = some ((g.1 68 9), g2) := by
  unfold f_Mo_name f_Mo_name_19
  by_cases z : (g.1 68 6) = 1
  · rw [if_pos z] at e ⊢; rw [e]; rfl
  · rw [if_neg z] at e ⊢; rw [e]; rfl
theorem zk_nm8 (H : zk_L h0 g0 T n K LC h g LM j d s m o q) (h8 : (h.1 19 5) = 8) : zt_nr LC LM (h.2.1 11 ((h.1 19 4)).toNatClampNeg) ((g.1 68 9)) :=
  (zk_nm H ((zc_eq (k := 1) (by decide) (by have := (zk_F H).1; omega)).mp (by rw [← H.2.2.2.2.2.2.2.2.2.2.1]; exact (zk_kind H).1.mpr h8))).2
/-- a node, its word, and its name -/
theorem zk_Inm {h1 g2 : zs_H} {LM1 : List (List Int32)} {d2 D : Nat} {km x : Int32} {FA : zs_H → Option (Int32 × zs_H)} {FB : Int32 → Int32 → zs_H → Option zs_H} (L0 : zk_L h0 g0 T n K LC h1 g2 LM1 j d2 (s + 1) m o q) (hp0 : LM <+: LM1) (hkp : zq_kp s h h1) (hn : (h1.2.1 13) s = nI kd ∧ (h1.2.1 15) s = nI (zl_at T n j).2.1 ∧ (h1.2.1 18) s = -1 ∧ (h1.2.1 17) s = -1) (hka : zx_ka m g g2) (hs : s < 32784) (hm : m < 33500) (hb : b < m) (hkm : km = nI (zt_km kd)) (hnk : zt_nk kd = true) (h11 : ¬ kd = 11) (hx : (h1.1 19 5) = x) (h6 : ¬ x = 6) (bad : ∀ φ w h2 g2 a, zq_Z h0 T n K LC φ w h2 → zx_B g0 T n φ w (m + 1) o g2 → zk_G h0 g0 T n K LC M0 M o X (FA h2) (FB (nI m) a g2)) (good : ∀ h2 g2 a LM2 vc, zk_I h0 g0 T n K LC LM j s m o q b kd (nI (zl_at T n j).2.1) vc h g g2 .leaf (-1) LM2 (j + 2) d2 (s + 1) (m + 1) 4 0 D 3 h2 g2 → zk_G h0 g0 T n K LC M0 M o X (FA h2) (FB (nI m) a g2)) : zk_G h0 g0 T n K LC M0 M o X ((f_Ps_take h1 x).bind fun h7 => (if zd_in ((h7.1 19 4)) 16385 then (if zd_in (nI s) 32784 then ((f_Ps_take (zs_uM h7 16 (nI s).toNatClampNeg (h7.2.1 11 ((h7.1 19 4)).toNatClampNeg)) 8).bind FA) else none) else none)) (zd_B (f_Mo_add g2 (nI b) km ((g2.1 68 7)) 0) fun v2 h3 => ((f_Mo_next h3).bind fun h5 => (zd_B (f_Mo_name h5) fun v7 h8 => (if zd_in v2 33500 then FB v2 ((h5.1 68 7)) (zs_uM h8 74 v2.toNatClampNeg v7) else none)))) := by
  have bK := zk_bK L0
  have m4 := L0.2.2.2.2.2.2.2.2.1
  obtain ⟨x1, x2, x3, x4, x5, x6, x7⟩ := zk_dd L0
  obtain ⟨g3, gH, e1, aH, kH, bH, lH, W3, md3, kd3, pl3, ab3, fi3, la3, lb3, f3⟩ := zx_add0 (LC := LC) (LM := LM1) (kn := zt_km kd) (p := (g2.1 68 7)) (v := 0) x4 hm x5 hb hkm
  rw [e1, zo_B]
  have L3 := zk_mf L0 f3 md3 W3
  obtain ⟨h7, g5, e2, e3, f7, f5, R⟩ := zk_step L3 (zk_notE L3 (by rw [hx]; exact h6))
  rw [hx] at e2
  have hinm : zd_in (nI m) 33500 := zi_in (by omega) hm
  have ecm : (nI m).toNatClampNeg = m := nI_clamp (by omega)
  rw [e2, e3, Option.bind_some, Option.bind_some]
  have bad2 : ∀ φ w h2 g2 a, zq_Z h0 T n K LC φ w h2 → zx_B g0 T n φ w (m + 1) o g2 → zk_G h0 g0 T n K LC M0 M o X ((f_Ps_take h2 8).bind FA) (FB (nI m) a g2) := by
    intro φ w hz gz a z1 z2
    obtain ⟨hy, ey, z3⟩ := zz_take (x := 8) z1
    rw [ey, Option.bind_some]
    exact bad φ w hy gz a z3 z2
  rcases R with ⟨LM5, hp5, L5⟩ | ⟨φ, w, z1, z2⟩
  · rw [if_pos (zk_atI L5), if_pos (zi_in (by omega) hs), nI_clamp (by omega)]
    obtain ⟨vc, hvc⟩ : ∃ vc, vc = h7.2.1 11 ((h7.1 19 4)).toNatClampNeg := ⟨_, rfl⟩
    rw [← hvc]
    have fV : zfr [] [16] [] h7 (zs_uM h7 16 s vc) := zfr_M (by decide) zfr_rfl
    have ev : ∀ i, (zs_uM h7 16 s vc).2.1 16 i = if i = s then vc else (h7.2.1 16) i := fun i => by simp [zu_MM]
    have L6 := zk_cf L5 fV (by decide)
    obtain ⟨h8, g8, e4, e5, R⟩ := zk_want L6 (x := 8) (y := if (g5.1 68 6) = 1 then 1 else 0) (zk_kW L6) (by decide)
    rw [e4, zk_nameE e5, zo_B, Option.bind_some, if_pos hinm, ecm]
    rcases R with ⟨φ, w, z1, z2⟩ | ⟨t8, ⟨f8, fg8, LM8, hp8, L8⟩ | ⟨φ, w, z1, z2⟩⟩
    · exact bad φ w h8 _ _ z1 (zxb_uM z2 (Or.inr (Or.inl rfl)))
    · have nr : zt_nr LC LM5 vc ((g5.1 68 9)) := by rw [hvc]; exact zk_nm8 L5 t8
      obtain ⟨vm, hvm⟩ : ∃ vm, vm = (g5.1 68 9) := ⟨_, rfl⟩
      rw [← hvm] at nr ⊢
      have gV : zfr [] [74] [] g8 (zs_uM g8 74 m vm) := zfr_M (by decide) zfr_rfl
      have eg : ∀ i, (zs_uM g8 74 m vm).2.1 74 i = if i = m then vm else (g8.2.1 74) i := fun i => by simp [zu_MM]
      have ka58 : zx_ka (m + 1) g3 g8 := zx_ka_t (zx_ka_l f5) (zx_ka_l fg8) (Nat.le_refl _)
      obtain ⟨t1, t2, t3, t4, t5, t6, t7⟩ := ka58 m (by omega)
      have hd := zk_dd L8
      have L9 := zk_mf L8 (zfr_w gV (by decide) (by decide) (by decide)) (m' := m + 1) hd.2.2.2.1 hd.2.2.2.2.1
      have hN : zt_Nf LC LM8 (zs_uM g8 74 m vm) m kd (nI (zl_at T n j).2.1) vc := by
        refine ⟨t1.trans kd3, fun _ => t2.trans (pl3.trans m4), ?_⟩
        rw [if_pos hnk, eg, if_pos rfl]; exact zt_nrm hp8 nr
      have k17 : zq_kp (s + 1) h1 h7 := zq_kp_f f7
      have k68 : zq_kp (s + 1) (zs_uM h7 16 s vc) h8 := zq_kp_f f8
      have kp18 : zq_kp s h1 h8 := zq_kp_t (zq_kp_t (fun i hi => k17 i (by omega)) (fun i hi => ⟨rfl, rfl, by rw [ev, if_neg (by omega)], rfl, rfl⟩ : zq_kp s h7 (zs_uM h7 16 s vc)) (Nat.le_refl s)) (fun i hi => k68 i (by omega)) (Nat.le_refl s)
      obtain ⟨r1, r2, r3, r4, r5⟩ := k17 s (by omega)
      obtain ⟨w1, w2, w3, w4, w5⟩ := k68 s (by omega)
      have e11 : (if kd = 37 then 1 else 0) ≤ 1 := by split <;> omega
      refine good h8 _ _ LM8 vc ⟨L9, hp0.trans (hp5.trans hp8), zq_kp_t hkp kp18 (Nat.le_refl s), ⟨w1.trans (r1.trans hn.1), w2.trans (r2.trans hn.2.1), w3.trans (by rw [ev, if_pos rfl]), w5.trans (r5.trans hn.2.2.1), w4.trans (r4.trans hn.2.2.2), rfl⟩, ⟨LM8, ⟨hp0.trans (hp5.trans hp8), List.prefix_refl _⟩, ?_, t5.trans fi3, t6.trans la3, hN, t4.trans ab3, ?_, zx_AP_0 (List.prefix_refl _) (fun i _ => ⟨rfl, rfl, rfl, rfl, rfl, rfl, rfl⟩) (by omega)⟩, by omega, zg_U0, by show 2 * 0 + 3 ≤ _; omega⟩
      · refine zx_AP_n2 hm (by omega) hb (zx_AP_t (zx_AP_0 hp0 hka hb) aH (Nat.le_refl m) (by omega) hb) (hp5.trans hp8) ⟨t5.trans fi3, t6.trans la3⟩ hN (t4.trans ab3) lH (fun i hi => ?_) (t7.trans bH)
        obtain ⟨y1, y2, y3, y4, y5, y6, y7⟩ := ka58 i (by omega)
        obtain ⟨z1, z2, z3, z4, z5, z6, z7⟩ := kH i hi
        exact ⟨y1.trans z1, y2.trans z2, by rw [eg, if_neg (by omega)]; exact y3.trans z3, y4.trans z4, y5.trans z5, y6.trans z6, y7.trans z7⟩
      · obtain ⟨y1, y2, y3, y4, y5, y6, y7⟩ := ka58 b (by omega)
        exact y6.trans lb3
    · exact bad φ w h8 _ _ z1 (zxb_uM z2 (Or.inr (Or.inl rfl)))
  · rw [if_pos (zq_at z1), if_pos (zi_in (by omega) hs), zx_name z2, zo_B, if_pos hinm]
    exact bad2 φ w _ _ _ (zz_uM z1 (by decide)) (zxb_uM z2 (Or.inr (Or.inl rfl)))
/-- FOR -/
theorem zk_for {Dc Dm b : Nat} (SS : d < 60 → zk_SS h0 g0 T n K LC (d + 1)) (H : zk_L h0 g0 T n K LC h g LM j d s m 0 0) (ht : (h.1 19 5) = 151) (hDc : 3 * (60 - d) + 1 ≤ Dc) (hDm : 4 * (60 - d) + 1 ≤ Dm) (hs : s ≤ 2 * j + 10) (hm : m ≤ 2 * j + 10) (hb : b < m) : zk_G h0 g0 T n K LC m 20950 0 (zk_T h0 g0 T n K LC LM (zg_T zg_Sx (3 * (60 - d) + 4)) j d s m 0 0 b h g) (g_Ps_forStatement (f_Ps_statements Dc) h) ((f_Mo_open g).bind fun h2 => (g_Mo_loop (g_Mo_body (f_Mo_statements Dm)) h2 (nI b)).bind fun h6 => f_Mo_opened_42 h6) := by
  have bK := zk_bK H
  have v0 : zq_v (nI s) := ⟨s, by omega, rfl⟩
  obtain ⟨Dc, rfl⟩ : ∃ z, Dc = z + 1 := ⟨Dc - 1, by omega⟩
  unfold g_Ps_forStatement g_Mo_loop
  simp only [zd_Bb, zd_ib, Option.bind_assoc]
  have endm : ∀ φ w gz m2, m ≤ m2 → m2 ≤ 20950 → zx_B g0 T n φ w m2 0 gz → zw ((f_Mo_loop_68 (g_Mo_body (f_Mo_statements Dm)) gz (nI m)).bind fun h10 => f_Mo_opened_42 h10) (fun g' => ∃ m', (m ≤ m' ∧ m' ≤ 20950) ∧ zx_B g0 T n φ w m' 0 g') := by
    intro φ w gz m2 q1 q2 z2
    unfold f_Mo_loop_68 f_Mo_opened_42
    rw [Option.bind_assoc, zw_bind]
    refine zw_mono (zxb_body z2) fun g3 z3 => ?_
    rw [zx_wantWord z3]
    exact zw_some.mpr ⟨m2, by omega, zx_uF z3 (Or.inl rfl)⟩
  have endc : ∀ φ w hz x2, zq_v x2 → zq_Z h0 T n K LC φ w hz → zw (f_Ps_forStatement_124 (f_Ps_statements (Dc + 1)) hz (nI s) x2) (fun p => zq_v p.1 ∧ zq_Z h0 T n K LC φ w p.2) := by
    intro φ w hz x2 v2 z1
    unfold f_Ps_forStatement_124
    repeat' first
      | with_reducible exact zw_some.mpr ⟨by assumption, by assumption⟩
      | with_reducible exact zw_some.mpr ⟨by assumption, zz_open (by assumption)⟩
      | (rw [zw_B]; with_reducible refine zw_mono (zz_expression (by assumption)) ?_; rintro _ ⟨_, _⟩)
      | (rw [zw_B]; with_reducible refine zw_mono (zz_operand (by assumption)) ?_; rintro _ ⟨_, _⟩)
      | (rw [zw_B]; with_reducible refine zw_mono (zz_statements (by assumption)) ?_; rintro _ ⟨_, _⟩)
      | (rw [zw_bind]; with_reducible refine zw_mono (zz_take (zz_uM (by assumption) (by decide))) ?_; intro _ _)
      | (rw [zw_bind]; with_reducible refine zw_mono (zz_take (by assumption)) ?_; intro _ _)
      | (rw [zw_B]; with_reducible refine zw_mono (zz_constant (by assumption)) ?_; rintro _ ⟨_, _⟩)
      | (rw [zw_B]; with_reducible refine zw_mono (zz_simpleType (by assumption)) ?_; rintro _ ⟨_, _⟩)
      | (rw [zw_B]; with_reducible refine zw_mono (zz_type (by assumption)) ?_; rintro _ ⟨_, _⟩)
      | (rw [zw_B]; with_reducible refine zw_mono (zz_whole (by assumption)) ?_; rintro _ ⟨_, _⟩)
      | (rw [zw_B]; with_reducible refine zw_mono (zz_add (by assumption)) ?_; rintro _ ⟨_, _⟩)
      | (rw [zw_B]; with_reducible refine zw_mono (zz_hang (by assumption) (by assumption) (by first | assumption | exact zq_vl_n | exact zq_vl_v (by assumption)) (by assumption)) ?_; rintro _ ⟨_, _⟩)
      | rw [if_pos (zq_at (by assumption))]
      | rw [zz_isCell (by assumption), if_pos rfl]
      | rw [if_neg (zq_ne (by assumption) (by decide) (by decide))]
      | rw [Option.bind_assoc]
      | rw [Option.bind_some]
      | rw [if_pos (zi_in (by omega) (by omega))]
  obtain ⟨h1, e1, L1, qA⟩ := zk_cadd H (kd := 19) (kv := 19) (v := 0) (by omega) (by decide) rfl
  rw [e1, zo_B]
  obtain ⟨h2, g2, e2, e3, R⟩ := zk_deep L1
  rw [e2, e3, Option.bind_some, Option.bind_some]
  rcases R with ⟨hd, L2, f1, f2⟩ | ⟨φ, w, z1, z2⟩
  · obtain ⟨q1, q2, q3, q4, q5, q6, q7⟩ := id qA
    have kf := zq_kp_f (s := s + 1) f1
    obtain ⟨c1, c2, c3, c4, c5⟩ := kf s (by omega)
    refine zk_Inm (D := 3 * (60 - d) + 2) (kd := 19) (j := j) (h := h) (g := g) (LM := LM) (b := b) (FB := fun v2 _ h8 => (f_Mo_wantSign h8 256).bind fun h11 => (f_Mo_constant h11 v2).bind fun h13 => (f_Mo_wantWord h13 24).bind fun h15 => (f_Mo_constant h15 v2).bind fun h17 => if (f_Mo_isWord h17 25) = 0 then ((f_Mo_loop_68 (g_Mo_body (f_Mo_statements Dm)) h17 v2).bind fun h10 => f_Mo_opened_42 h10) else ((f_Mo_next h17).bind fun h21 => (f_Mo_constant h21 v2).bind fun h23 => (f_Mo_loop_68 (g_Mo_body (f_Mo_statements Dm)) h23 v2).bind fun h10 => f_Mo_opened_42 h10)) L2 (List.prefix_refl _) (zq_kp_t (zq_kp_A qA) kf (by omega)) ⟨c1.trans (by rw [q2, if_pos rfl]), c2.trans (by rw [q3, if_pos rfl]), c5.trans (by rw [q6, if_pos rfl]), c4.trans (by rw [q5, if_pos rfl])⟩ (zx_ka_f f2) (by omega) (by omega) hb rfl rfl (by decide) (by rw [L2.2.2.2.1.2.2.1, ← H.2.2.2.1.2.2.1]; exact ht) (by decide) ?_ fun h4 g4 a LM4 vc I4 => ?_
    · intro φ w hz gz a z1 z2
      refine zk_Gf (φ := φ) (w := w) ?_ ?_
      · repeat' first
          | with_reducible exact zw_some.mpr ⟨by assumption, by assumption⟩
          | with_reducible exact zw_some.mpr ⟨by assumption, zz_open (by assumption)⟩
          | (rw [zw_B]; with_reducible refine zw_mono (zz_expression (by assumption)) ?_; rintro _ ⟨_, _⟩)
          | (rw [zw_B]; with_reducible refine zw_mono (zz_operand (by assumption)) ?_; rintro _ ⟨_, _⟩)
          | (rw [zw_B]; with_reducible refine zw_mono (zz_statements (by assumption)) ?_; rintro _ ⟨_, _⟩)
          | (rw [zw_bind]; with_reducible refine zw_mono (zz_take (zz_uM (by assumption) (by decide))) ?_; intro _ _)
          | (rw [zw_bind]; with_reducible refine zw_mono (zz_take (by assumption)) ?_; intro _ _)
          | (rw [zw_B]; with_reducible refine zw_mono (zz_constant (by assumption)) ?_; rintro _ ⟨_, _⟩)
          | (rw [zw_B]; with_reducible refine zw_mono (zz_simpleType (by assumption)) ?_; rintro _ ⟨_, _⟩)
          | (rw [zw_B]; with_reducible refine zw_mono (zz_type (by assumption)) ?_; rintro _ ⟨_, _⟩)
          | (rw [zw_B]; with_reducible refine zw_mono (zz_whole (by assumption)) ?_; rintro _ ⟨_, _⟩)
          | (rw [zw_B]; with_reducible refine zw_mono (zz_add (by assumption)) ?_; rintro _ ⟨_, _⟩)
          | (rw [zw_B]; with_reducible refine zw_mono (zz_hang (by assumption) (by assumption) (by first | assumption | exact zq_vl_n | exact zq_vl_v (by assumption)) (by assumption)) ?_; rintro _ ⟨_, _⟩)
          | rw [if_pos (zq_at (by assumption))]
          | rw [zz_isCell (by assumption), if_pos rfl]
          | rw [if_neg (zq_ne (by assumption) (by decide) (by decide))]
          | rw [Option.bind_assoc]
          | rw [Option.bind_some]
          | rw [if_pos (zi_in (by omega) (by omega))]
        exact endc φ w _ _ (by assumption) (by assumption)
      · repeat' first
          | (with_reducible refine zw_some.mpr ⟨_, ⟨?_, ?_⟩, by assumption⟩ <;> omega)
          | (with_reducible refine zw_some.mpr ⟨_, ⟨?_, ?_⟩, zx_Om (by assumption) ?_⟩ <;> omega)
          | (with_reducible refine zw_some.mpr ⟨_, ⟨?_, ?_⟩, zx_Om (zx_uF (by assumption) (Or.inl rfl)) ?_⟩ <;> omega)
          | (with_reducible refine zw_mono (zxb_142 (by assumption) (by omega)) ?_; intro _ z; exact ⟨_, by omega, z⟩)
          | (with_reducible refine zw_mono (zxb_142c (by assumption) (by omega)) ?_; intro _ z; exact ⟨_, by omega, z⟩)
          | (rw [zw_bind]; with_reducible refine zw_mono (zxb_body (by assumption)) ?_; intro _ _)
          | (rw [zw_bind]; with_reducible refine zw_mono (zxw_expr4 (by assumption)) ?_; intro _ _)
          | (rw [zw_bind]; with_reducible refine zw_mono (zxw_next2 (by assumption)) ?_; intro _ _)
          | (rw [zw_bind]; with_reducible refine zw_mono (zx_open (by assumption)) ?_; intro _ _)
          | (rw [zw_bind]; with_reducible refine zw_mono (zxw_expression (by assumption)) ?_; intro _ _)
          | (rw [zw_bind]; with_reducible refine zw_mono (zxw_operand (by assumption)) ?_; intro _ _)
          | (rw [zw_bind]; with_reducible refine zw_mono (zxb_keep (by assumption) (by omega)) ?_; intro _ _)
          | (rw [zw_B]; with_reducible refine zw_mono (zxb_node (by assumption) (by omega) rfl) ?_; rintro _ ⟨e1, _⟩; try rw [e1])
          | (rw [zw_bind]; with_reducible refine zw_mono (zxw_wantSign (zxb_uM (by assumption) (by decide))) ?_; intro _ _)
          | (rw [zw_bind]; with_reducible refine zw_mono (zxw_wantSign (by assumption)) ?_; intro _ _)
          | (rw [zw_bind]; with_reducible refine zw_mono (zxw_wantWord (by assumption)) ?_; intro _ _)
          | (rw [zw_bind]; with_reducible refine zw_mono (zxw_want (by assumption)) ?_; intro _ _)
          | (rw [zw_bind]; with_reducible refine zw_mono (zx_next (by assumption)) ?_; intro _ _)
          | (rw [zw_bind]; with_reducible refine zw_mono (zxb_constant (by assumption) (by omega) (by omega)) ?_; intro _ _)
          | (rw [zw_bind]; with_reducible refine zw_mono (zxw_simple (by assumption) (by omega) (by omega)) ?_; rintro _ ⟨_, _, _, _⟩)
          | (rw [zw_B]; with_reducible refine zw_mono (zxb_add (by assumption) (by omega) rfl (by omega)) ?_; rintro _ ⟨e1, _⟩; try rw [e1])
          | rw [zx_isSign (by assumption), if_pos rfl]
          | rw [zx_isWord (by assumption), if_pos rfl]
          | rw [if_neg (zx_ne (by assumption))]
          | rw [if_neg (zx_pos (by assumption))]
          | rw [if_pos (show (0 : Int32) ≤ 0 by decide)]
          | rw [Option.bind_assoc]
          | rw [Option.bind_some]
          | rw [zx_name (by assumption), zo_B]
          | rw [if_pos (zi_in (by omega) (by omega))]
        refine endm φ w _ _ ?_ ?_ (by assumption) <;> omega
    have b4 := zk_Ib I4
    refine zk_sA I4 (zk_wantS I4.1 (c := 256) (k := 1) (by decide) (by decide)) ?_ fun h5 g5 LM5 I5 => ?_
    · intro φ w hz gz z1 z2
      refine zk_Gf (φ := φ) (w := w) ?_ ?_
      · repeat' first
          | with_reducible exact zw_some.mpr ⟨by assumption, by assumption⟩
          | with_reducible exact zw_some.mpr ⟨by assumption, zz_open (by assumption)⟩
          | (rw [zw_B]; with_reducible refine zw_mono (zz_expression (by assumption)) ?_; rintro _ ⟨_, _⟩)
          | (rw [zw_B]; with_reducible refine zw_mono (zz_operand (by assumption)) ?_; rintro _ ⟨_, _⟩)
          | (rw [zw_B]; with_reducible refine zw_mono (zz_statements (by assumption)) ?_; rintro _ ⟨_, _⟩)
          | (rw [zw_bind]; with_reducible refine zw_mono (zz_take (zz_uM (by assumption) (by decide))) ?_; intro _ _)
          | (rw [zw_bind]; with_reducible refine zw_mono (zz_take (by assumption)) ?_; intro _ _)
          | (rw [zw_B]; with_reducible refine zw_mono (zz_constant (by assumption)) ?_; rintro _ ⟨_, _⟩)
          | (rw [zw_B]; with_reducible refine zw_mono (zz_simpleType (by assumption)) ?_; rintro _ ⟨_, _⟩)
          | (rw [zw_B]; with_reducible refine zw_mono (zz_type (by assumption)) ?_; rintro _ ⟨_, _⟩)
          | (rw [zw_B]; with_reducible refine zw_mono (zz_whole (by assumption)) ?_; rintro _ ⟨_, _⟩)
          | (rw [zw_B]; with_reducible refine zw_mono (zz_add (by assumption)) ?_; rintro _ ⟨_, _⟩)
          | (rw [zw_B]; with_reducible refine zw_mono (zz_hang (by assumption) (by assumption) (by first | assumption | exact zq_vl_n | exact zq_vl_v (by assumption)) (by assumption)) ?_; rintro _ ⟨_, _⟩)
          | rw [if_pos (zq_at (by assumption))]
          | rw [zz_isCell (by assumption), if_pos rfl]
          | rw [if_neg (zq_ne (by assumption) (by decide) (by decide))]
          | rw [Option.bind_assoc]
          | rw [Option.bind_some]
          | rw [if_pos (zi_in (by omega) (by omega))]
        exact endc φ w _ _ (by assumption) (by assumption)
      · repeat' first
          | (with_reducible refine zw_some.mpr ⟨_, ⟨?_, ?_⟩, by assumption⟩ <;> omega)
          | (with_reducible refine zw_some.mpr ⟨_, ⟨?_, ?_⟩, zx_Om (by assumption) ?_⟩ <;> omega)
          | (with_reducible refine zw_some.mpr ⟨_, ⟨?_, ?_⟩, zx_Om (zx_uF (by assumption) (Or.inl rfl)) ?_⟩ <;> omega)
          | (with_reducible refine zw_mono (zxb_142 (by assumption) (by omega)) ?_; intro _ z; exact ⟨_, by omega, z⟩)
          | (with_reducible refine zw_mono (zxb_142c (by assumption) (by omega)) ?_; intro _ z; exact ⟨_, by omega, z⟩)
          | (rw [zw_bind]; with_reducible refine zw_mono (zxb_body (by assumption)) ?_; intro _ _)
          | (rw [zw_bind]; with_reducible refine zw_mono (zxw_expr4 (by assumption)) ?_; intro _ _)
          | (rw [zw_bind]; with_reducible refine zw_mono (zxw_next2 (by assumption)) ?_; intro _ _)
          | (rw [zw_bind]; with_reducible refine zw_mono (zx_open (by assumption)) ?_; intro _ _)
          | (rw [zw_bind]; with_reducible refine zw_mono (zxw_expression (by assumption)) ?_; intro _ _)
          | (rw [zw_bind]; with_reducible refine zw_mono (zxw_operand (by assumption)) ?_; intro _ _)
          | (rw [zw_bind]; with_reducible refine zw_mono (zxb_keep (by assumption) (by omega)) ?_; intro _ _)
          | (rw [zw_B]; with_reducible refine zw_mono (zxb_node (by assumption) (by omega) rfl) ?_; rintro _ ⟨e1, _⟩; try rw [e1])
          | (rw [zw_bind]; with_reducible refine zw_mono (zxw_wantSign (zxb_uM (by assumption) (by decide))) ?_; intro _ _)
          | (rw [zw_bind]; with_reducible refine zw_mono (zxw_wantSign (by assumption)) ?_; intro _ _)
          | (rw [zw_bind]; with_reducible refine zw_mono (zxw_wantWord (by assumption)) ?_; intro _ _)
          | (rw [zw_bind]; with_reducible refine zw_mono (zxw_want (by assumption)) ?_; intro _ _)
          | (rw [zw_bind]; with_reducible refine zw_mono (zx_next (by assumption)) ?_; intro _ _)
          | (rw [zw_bind]; with_reducible refine zw_mono (zxb_constant (by assumption) (by omega) (by omega)) ?_; intro _ _)
          | (rw [zw_bind]; with_reducible refine zw_mono (zxw_simple (by assumption) (by omega) (by omega)) ?_; rintro _ ⟨_, _, _, _⟩)
          | (rw [zw_B]; with_reducible refine zw_mono (zxb_add (by assumption) (by omega) rfl (by omega)) ?_; rintro _ ⟨e1, _⟩; try rw [e1])
          | rw [zx_isSign (by assumption), if_pos rfl]
          | rw [zx_isWord (by assumption), if_pos rfl]
          | rw [if_neg (zx_ne (by assumption))]
          | rw [if_neg (zx_pos (by assumption))]
          | rw [if_pos (show (0 : Int32) ≤ 0 by decide)]
          | rw [Option.bind_assoc]
          | rw [Option.bind_some]
          | rw [zx_name (by assumption), zo_B]
          | rw [if_pos (zi_in (by omega) (by omega))]
        refine endm φ w _ _ ?_ ?_ (by assumption) <;> omega
    have b5 := zk_Ib I5
    refine zk_sK2 (e2 := 2) (e3 := 1) (S := [30, 31]) (st' := 1) I5 (zk_GM (zk_constG I5.1 (by omega) (by omega) (by omega)) (Nat.le_refl _) (Nat.le_refl 20900) (fun x h g R => zk_TTm R (Nat.le_refl _) (fun t W => zg_Tm W (fun _ z => z) (by omega)))) (by decide) (by omega) ?_ fun x6 h6 g6 u6 LM6 j6 s6 m6 vx6 hj6 I6 => ?_
    · intro φ w mz xz hz gz w1 w2 vz z1 z2
      refine zk_Gf (φ := φ) (w := w) ?_ ?_
      · repeat' first
          | with_reducible exact zw_some.mpr ⟨by assumption, by assumption⟩
          | with_reducible exact zw_some.mpr ⟨by assumption, zz_open (by assumption)⟩
          | (rw [zw_B]; with_reducible refine zw_mono (zz_expression (by assumption)) ?_; rintro _ ⟨_, _⟩)
          | (rw [zw_B]; with_reducible refine zw_mono (zz_operand (by assumption)) ?_; rintro _ ⟨_, _⟩)
          | (rw [zw_B]; with_reducible refine zw_mono (zz_statements (by assumption)) ?_; rintro _ ⟨_, _⟩)
          | (rw [zw_bind]; with_reducible refine zw_mono (zz_take (zz_uM (by assumption) (by decide))) ?_; intro _ _)
          | (rw [zw_bind]; with_reducible refine zw_mono (zz_take (by assumption)) ?_; intro _ _)
          | (rw [zw_B]; with_reducible refine zw_mono (zz_constant (by assumption)) ?_; rintro _ ⟨_, _⟩)
          | (rw [zw_B]; with_reducible refine zw_mono (zz_simpleType (by assumption)) ?_; rintro _ ⟨_, _⟩)
          | (rw [zw_B]; with_reducible refine zw_mono (zz_type (by assumption)) ?_; rintro _ ⟨_, _⟩)
          | (rw [zw_B]; with_reducible refine zw_mono (zz_whole (by assumption)) ?_; rintro _ ⟨_, _⟩)
          | (rw [zw_B]; with_reducible refine zw_mono (zz_add (by assumption)) ?_; rintro _ ⟨_, _⟩)
          | (rw [zw_B]; with_reducible refine zw_mono (zz_hang (by assumption) (by assumption) (by first | assumption | exact zq_vl_n | exact zq_vl_v (by assumption)) (by assumption)) ?_; rintro _ ⟨_, _⟩)
          | rw [if_pos (zq_at (by assumption))]
          | rw [zz_isCell (by assumption), if_pos rfl]
          | rw [if_neg (zq_ne (by assumption) (by decide) (by decide))]
          | rw [Option.bind_assoc]
          | rw [Option.bind_some]
          | rw [if_pos (zi_in (by omega) (by omega))]
        exact endc φ w _ _ (by assumption) (by assumption)
      · repeat' first
          | (with_reducible refine zw_some.mpr ⟨_, ⟨?_, ?_⟩, by assumption⟩ <;> omega)
          | (with_reducible refine zw_some.mpr ⟨_, ⟨?_, ?_⟩, zx_Om (by assumption) ?_⟩ <;> omega)
          | (with_reducible refine zw_some.mpr ⟨_, ⟨?_, ?_⟩, zx_Om (zx_uF (by assumption) (Or.inl rfl)) ?_⟩ <;> omega)
          | (with_reducible refine zw_mono (zxb_142 (by assumption) (by omega)) ?_; intro _ z; exact ⟨_, by omega, z⟩)
          | (with_reducible refine zw_mono (zxb_142c (by assumption) (by omega)) ?_; intro _ z; exact ⟨_, by omega, z⟩)
          | (rw [zw_bind]; with_reducible refine zw_mono (zxb_body (by assumption)) ?_; intro _ _)
          | (rw [zw_bind]; with_reducible refine zw_mono (zxw_expr4 (by assumption)) ?_; intro _ _)
          | (rw [zw_bind]; with_reducible refine zw_mono (zxw_next2 (by assumption)) ?_; intro _ _)
          | (rw [zw_bind]; with_reducible refine zw_mono (zx_open (by assumption)) ?_; intro _ _)
          | (rw [zw_bind]; with_reducible refine zw_mono (zxw_expression (by assumption)) ?_; intro _ _)
          | (rw [zw_bind]; with_reducible refine zw_mono (zxw_operand (by assumption)) ?_; intro _ _)
          | (rw [zw_bind]; with_reducible refine zw_mono (zxb_keep (by assumption) (by omega)) ?_; intro _ _)
          | (rw [zw_B]; with_reducible refine zw_mono (zxb_node (by assumption) (by omega) rfl) ?_; rintro _ ⟨e1, _⟩; try rw [e1])
          | (rw [zw_bind]; with_reducible refine zw_mono (zxw_wantSign (zxb_uM (by assumption) (by decide))) ?_; intro _ _)
          | (rw [zw_bind]; with_reducible refine zw_mono (zxw_wantSign (by assumption)) ?_; intro _ _)
          | (rw [zw_bind]; with_reducible refine zw_mono (zxw_wantWord (by assumption)) ?_; intro _ _)
          | (rw [zw_bind]; with_reducible refine zw_mono (zxw_want (by assumption)) ?_; intro _ _)
          | (rw [zw_bind]; with_reducible refine zw_mono (zx_next (by assumption)) ?_; intro _ _)
          | (rw [zw_bind]; with_reducible refine zw_mono (zxb_constant (by assumption) (by omega) (by omega)) ?_; intro _ _)
          | (rw [zw_bind]; with_reducible refine zw_mono (zxw_simple (by assumption) (by omega) (by omega)) ?_; rintro _ ⟨_, _, _, _⟩)
          | (rw [zw_B]; with_reducible refine zw_mono (zxb_add (by assumption) (by omega) rfl (by omega)) ?_; rintro _ ⟨e1, _⟩; try rw [e1])
          | rw [zx_isSign (by assumption), if_pos rfl]
          | rw [zx_isWord (by assumption), if_pos rfl]
          | rw [if_neg (zx_ne (by assumption))]
          | rw [if_neg (zx_pos (by assumption))]
          | rw [if_pos (show (0 : Int32) ≤ 0 by decide)]
          | rw [Option.bind_assoc]
          | rw [Option.bind_some]
          | rw [zx_name (by assumption), zo_B]
          | rw [if_pos (zi_in (by omega) (by omega))]
        refine endm φ w _ _ ?_ ?_ (by assumption) <;> omega
    have b6 := zk_Ib I6
    refine zk_sA I6 (zk_wantW I6.1 (c := 24) (by decide)) ?_ fun h7 g7 LM7 I7 => ?_
    · intro φ w hz gz z1 z2
      refine zk_Gf (φ := φ) (w := w) ?_ ?_
      · repeat' first
          | with_reducible exact zw_some.mpr ⟨by assumption, by assumption⟩
          | with_reducible exact zw_some.mpr ⟨by assumption, zz_open (by assumption)⟩
          | (rw [zw_B]; with_reducible refine zw_mono (zz_expression (by assumption)) ?_; rintro _ ⟨_, _⟩)
          | (rw [zw_B]; with_reducible refine zw_mono (zz_operand (by assumption)) ?_; rintro _ ⟨_, _⟩)
          | (rw [zw_B]; with_reducible refine zw_mono (zz_statements (by assumption)) ?_; rintro _ ⟨_, _⟩)
          | (rw [zw_bind]; with_reducible refine zw_mono (zz_take (zz_uM (by assumption) (by decide))) ?_; intro _ _)
          | (rw [zw_bind]; with_reducible refine zw_mono (zz_take (by assumption)) ?_; intro _ _)
          | (rw [zw_B]; with_reducible refine zw_mono (zz_constant (by assumption)) ?_; rintro _ ⟨_, _⟩)
          | (rw [zw_B]; with_reducible refine zw_mono (zz_simpleType (by assumption)) ?_; rintro _ ⟨_, _⟩)
          | (rw [zw_B]; with_reducible refine zw_mono (zz_type (by assumption)) ?_; rintro _ ⟨_, _⟩)
          | (rw [zw_B]; with_reducible refine zw_mono (zz_whole (by assumption)) ?_; rintro _ ⟨_, _⟩)
          | (rw [zw_B]; with_reducible refine zw_mono (zz_add (by assumption)) ?_; rintro _ ⟨_, _⟩)
          | (rw [zw_B]; with_reducible refine zw_mono (zz_hang (by assumption) (by assumption) (by first | assumption | exact zq_vl_n | exact zq_vl_v (by assumption)) (by assumption)) ?_; rintro _ ⟨_, _⟩)
          | rw [if_pos (zq_at (by assumption))]
          | rw [zz_isCell (by assumption), if_pos rfl]
          | rw [if_neg (zq_ne (by assumption) (by decide) (by decide))]
          | rw [Option.bind_assoc]
          | rw [Option.bind_some]
          | rw [if_pos (zi_in (by omega) (by omega))]
        exact endc φ w _ _ (by assumption) (by assumption)
      · repeat' first
          | (with_reducible refine zw_some.mpr ⟨_, ⟨?_, ?_⟩, by assumption⟩ <;> omega)
          | (with_reducible refine zw_some.mpr ⟨_, ⟨?_, ?_⟩, zx_Om (by assumption) ?_⟩ <;> omega)
          | (with_reducible refine zw_some.mpr ⟨_, ⟨?_, ?_⟩, zx_Om (zx_uF (by assumption) (Or.inl rfl)) ?_⟩ <;> omega)
          | (with_reducible refine zw_mono (zxb_142 (by assumption) (by omega)) ?_; intro _ z; exact ⟨_, by omega, z⟩)
          | (with_reducible refine zw_mono (zxb_142c (by assumption) (by omega)) ?_; intro _ z; exact ⟨_, by omega, z⟩)
          | (rw [zw_bind]; with_reducible refine zw_mono (zxb_body (by assumption)) ?_; intro _ _)
          | (rw [zw_bind]; with_reducible refine zw_mono (zxw_expr4 (by assumption)) ?_; intro _ _)
          | (rw [zw_bind]; with_reducible refine zw_mono (zxw_next2 (by assumption)) ?_; intro _ _)
          | (rw [zw_bind]; with_reducible refine zw_mono (zx_open (by assumption)) ?_; intro _ _)
          | (rw [zw_bind]; with_reducible refine zw_mono (zxw_expression (by assumption)) ?_; intro _ _)
          | (rw [zw_bind]; with_reducible refine zw_mono (zxw_operand (by assumption)) ?_; intro _ _)
          | (rw [zw_bind]; with_reducible refine zw_mono (zxb_keep (by assumption) (by omega)) ?_; intro _ _)
          | (rw [zw_B]; with_reducible refine zw_mono (zxb_node (by assumption) (by omega) rfl) ?_; rintro _ ⟨e1, _⟩; try rw [e1])
          | (rw [zw_bind]; with_reducible refine zw_mono (zxw_wantSign (zxb_uM (by assumption) (by decide))) ?_; intro _ _)
          | (rw [zw_bind]; with_reducible refine zw_mono (zxw_wantSign (by assumption)) ?_; intro _ _)
          | (rw [zw_bind]; with_reducible refine zw_mono (zxw_wantWord (by assumption)) ?_; intro _ _)
          | (rw [zw_bind]; with_reducible refine zw_mono (zxw_want (by assumption)) ?_; intro _ _)
          | (rw [zw_bind]; with_reducible refine zw_mono (zx_next (by assumption)) ?_; intro _ _)
          | (rw [zw_bind]; with_reducible refine zw_mono (zxb_constant (by assumption) (by omega) (by omega)) ?_; intro _ _)
          | (rw [zw_bind]; with_reducible refine zw_mono (zxw_simple (by assumption) (by omega) (by omega)) ?_; rintro _ ⟨_, _, _, _⟩)
          | (rw [zw_B]; with_reducible refine zw_mono (zxb_add (by assumption) (by omega) rfl (by omega)) ?_; rintro _ ⟨e1, _⟩; try rw [e1])
          | rw [zx_isSign (by assumption), if_pos rfl]
          | rw [zx_isWord (by assumption), if_pos rfl]
          | rw [if_neg (zx_ne (by assumption))]
          | rw [if_neg (zx_pos (by assumption))]
          | rw [if_pos (show (0 : Int32) ≤ 0 by decide)]
          | rw [Option.bind_assoc]
          | rw [Option.bind_some]
          | rw [zx_name (by assumption), zo_B]
          | rw [if_pos (zi_in (by omega) (by omega))]
        refine endm φ w _ _ ?_ ?_ (by assumption) <;> omega
    have b7 := zk_Ib I7
    refine zk_sK2 (e2 := 2) (e3 := 1) (S := [30, 31]) (st' := 2) I7 (zk_GM (zk_constG I7.1 (by omega) (by omega) (by omega)) (Nat.le_refl _) (Nat.le_refl 20900) (fun x h g R => zk_TTm R (Nat.le_refl _) (fun t W => zg_Tm W (fun _ z => z) (by omega)))) (by decide) (by omega) ?_ fun x8 h8 g8 u8 LM8 j8 s8 m8 vx8 hj8 I8 => ?_
    · intro φ w mz xz hz gz w1 w2 vz z1 z2
      refine zk_Gf (φ := φ) (w := w) ?_ ?_
      · repeat' first
          | with_reducible exact zw_some.mpr ⟨by assumption, by assumption⟩
          | with_reducible exact zw_some.mpr ⟨by assumption, zz_open (by assumption)⟩
          | (rw [zw_B]; with_reducible refine zw_mono (zz_expression (by assumption)) ?_; rintro _ ⟨_, _⟩)
          | (rw [zw_B]; with_reducible refine zw_mono (zz_operand (by assumption)) ?_; rintro _ ⟨_, _⟩)
          | (rw [zw_B]; with_reducible refine zw_mono (zz_statements (by assumption)) ?_; rintro _ ⟨_, _⟩)
          | (rw [zw_bind]; with_reducible refine zw_mono (zz_take (zz_uM (by assumption) (by decide))) ?_; intro _ _)
          | (rw [zw_bind]; with_reducible refine zw_mono (zz_take (by assumption)) ?_; intro _ _)
          | (rw [zw_B]; with_reducible refine zw_mono (zz_constant (by assumption)) ?_; rintro _ ⟨_, _⟩)
          | (rw [zw_B]; with_reducible refine zw_mono (zz_simpleType (by assumption)) ?_; rintro _ ⟨_, _⟩)
          | (rw [zw_B]; with_reducible refine zw_mono (zz_type (by assumption)) ?_; rintro _ ⟨_, _⟩)
          | (rw [zw_B]; with_reducible refine zw_mono (zz_whole (by assumption)) ?_; rintro _ ⟨_, _⟩)
          | (rw [zw_B]; with_reducible refine zw_mono (zz_add (by assumption)) ?_; rintro _ ⟨_, _⟩)
          | (rw [zw_B]; with_reducible refine zw_mono (zz_hang (by assumption) (by assumption) (by first | assumption | exact zq_vl_n | exact zq_vl_v (by assumption)) (by assumption)) ?_; rintro _ ⟨_, _⟩)
          | rw [if_pos (zq_at (by assumption))]
          | rw [zz_isCell (by assumption), if_pos rfl]
          | rw [if_neg (zq_ne (by assumption) (by decide) (by decide))]
          | rw [Option.bind_assoc]
          | rw [Option.bind_some]
          | rw [if_pos (zi_in (by omega) (by omega))]
        exact endc φ w _ _ (by assumption) (by assumption)
      · repeat' first
          | (with_reducible refine zw_some.mpr ⟨_, ⟨?_, ?_⟩, by assumption⟩ <;> omega)
          | (with_reducible refine zw_some.mpr ⟨_, ⟨?_, ?_⟩, zx_Om (by assumption) ?_⟩ <;> omega)
          | (with_reducible refine zw_some.mpr ⟨_, ⟨?_, ?_⟩, zx_Om (zx_uF (by assumption) (Or.inl rfl)) ?_⟩ <;> omega)
          | (with_reducible refine zw_mono (zxb_142 (by assumption) (by omega)) ?_; intro _ z; exact ⟨_, by omega, z⟩)
          | (with_reducible refine zw_mono (zxb_142c (by assumption) (by omega)) ?_; intro _ z; exact ⟨_, by omega, z⟩)
          | (rw [zw_bind]; with_reducible refine zw_mono (zxb_body (by assumption)) ?_; intro _ _)
          | (rw [zw_bind]; with_reducible refine zw_mono (zxw_expr4 (by assumption)) ?_; intro _ _)
          | (rw [zw_bind]; with_reducible refine zw_mono (zxw_next2 (by assumption)) ?_; intro _ _)
          | (rw [zw_bind]; with_reducible refine zw_mono (zx_open (by assumption)) ?_; intro _ _)
          | (rw [zw_bind]; with_reducible refine zw_mono (zxw_expression (by assumption)) ?_; intro _ _)
          | (rw [zw_bind]; with_reducible refine zw_mono (zxw_operand (by assumption)) ?_; intro _ _)
          | (rw [zw_bind]; with_reducible refine zw_mono (zxb_keep (by assumption) (by omega)) ?_; intro _ _)
          | (rw [zw_B]; with_reducible refine zw_mono (zxb_node (by assumption) (by omega) rfl) ?_; rintro _ ⟨e1, _⟩; try rw [e1])
          | (rw [zw_bind]; with_reducible refine zw_mono (zxw_wantSign (zxb_uM (by assumption) (by decide))) ?_; intro _ _)
          | (rw [zw_bind]; with_reducible refine zw_mono (zxw_wantSign (by assumption)) ?_; intro _ _)
          | (rw [zw_bind]; with_reducible refine zw_mono (zxw_wantWord (by assumption)) ?_; intro _ _)
          | (rw [zw_bind]; with_reducible refine zw_mono (zxw_want (by assumption)) ?_; intro _ _)
          | (rw [zw_bind]; with_reducible refine zw_mono (zx_next (by assumption)) ?_; intro _ _)
          | (rw [zw_bind]; with_reducible refine zw_mono (zxb_constant (by assumption) (by omega) (by omega)) ?_; intro _ _)
          | (rw [zw_bind]; with_reducible refine zw_mono (zxw_simple (by assumption) (by omega) (by omega)) ?_; rintro _ ⟨_, _, _, _⟩)
          | (rw [zw_B]; with_reducible refine zw_mono (zxb_add (by assumption) (by omega) rfl (by omega)) ?_; rintro _ ⟨e1, _⟩; try rw [e1])
          | rw [zx_isSign (by assumption), if_pos rfl]
          | rw [zx_isWord (by assumption), if_pos rfl]
          | rw [if_neg (zx_ne (by assumption))]
          | rw [if_neg (zx_pos (by assumption))]
          | rw [if_pos (show (0 : Int32) ≤ 0 by decide)]
          | rw [Option.bind_assoc]
          | rw [Option.bind_some]
          | rw [zx_name (by assumption), zo_B]
          | rw [if_pos (zi_in (by omega) (by omega))]
        refine endm φ w _ _ ?_ ?_ (by assumption) <;> omega
    have b8 := zk_Ib I8
    have fin : ∀ {u2 : zt_T} {y2 : Int32} {LM2 : List (List Int32)} {j2 s2 m2 e2 st2 f2 : Nat} {h2 g2 : zs_H}, zk_I h0 g0 T n K LC LM j s m 0 0 b 19 (nI (zl_at T n j).2.1) vc h g g4 u2 y2 LM2 j2 (d + 1) s2 m2 e2 st2 (3 * (60 - d) + 2) f2 h2 g2 → (st2 = 2 ∨ st2 = 3) → zq_v y2 → 1 ≤ f2 → zk_G h0 g0 T n K LC m 20950 0 (zk_T h0 g0 T n K LC LM (zg_T zg_Sx (3 * (60 - d) + 4)) j d s m 0 0 b h g) (f_Ps_forStatement_124 (f_Ps_statements (Dc + 1)) h2 (nI s) y2) ((f_Mo_loop_68 (g_Mo_body (f_Mo_statements Dm)) g2 (nI m)).bind fun h10 => f_Mo_opened_42 h10) := by
      intro u2 y2 LM2 j2 s2 m2 e2 st2 f2 h2 g2 I2 hst2 vy2 hf2
      have b2 := zk_Ib I2
      unfold f_Ps_forStatement_124 f_Mo_loop_68 f_Mo_opened_42
      rw [Option.bind_assoc]
      refine zk_sBody (st' := 4) (SS hd) I2 (x := 154) (yy := f_Mo_isWord g2 26) (zk_wW I2.1 26 (by decide) rfl) (by decide) (by omega) (by omega) hs hm (by rcases hst2 with z | z <;> subst z <;> rfl) (by omega) ?_ fun x3 h3 g3 u3 LM3 j3 s3 m3 vx3 hj3 I3 => ?_
      · intro φ w mz xz hz gz w1 w2 vz z1 z2
        refine zk_Gf (φ := φ) (w := w) ?_ ?_
        · repeat' first
            | with_reducible exact zw_some.mpr ⟨by assumption, by assumption⟩
            | with_reducible exact zw_some.mpr ⟨by assumption, zz_open (by assumption)⟩
            | (rw [zw_B]; with_reducible refine zw_mono (zz_expression (by assumption)) ?_; rintro _ ⟨_, _⟩)
            | (rw [zw_B]; with_reducible refine zw_mono (zz_operand (by assumption)) ?_; rintro _ ⟨_, _⟩)
            | (rw [zw_B]; with_reducible refine zw_mono (zz_statements (by assumption)) ?_; rintro _ ⟨_, _⟩)
            | (rw [zw_bind]; with_reducible refine zw_mono (zz_take (zz_uM (by assumption) (by decide))) ?_; intro _ _)
            | (rw [zw_bind]; with_reducible refine zw_mono (zz_take (by assumption)) ?_; intro _ _)
            | (rw [zw_B]; with_reducible refine zw_mono (zz_constant (by assumption)) ?_; rintro _ ⟨_, _⟩)
            | (rw [zw_B]; with_reducible refine zw_mono (zz_simpleType (by assumption)) ?_; rintro _ ⟨_, _⟩)
            | (rw [zw_B]; with_reducible refine zw_mono (zz_type (by assumption)) ?_; rintro _ ⟨_, _⟩)
            | (rw [zw_B]; with_reducible refine zw_mono (zz_whole (by assumption)) ?_; rintro _ ⟨_, _⟩)
            | (rw [zw_B]; with_reducible refine zw_mono (zz_add (by assumption)) ?_; rintro _ ⟨_, _⟩)
            | (rw [zw_B]; with_reducible refine zw_mono (zz_hang (by assumption) (by assumption) (by first | assumption | exact zq_vl_n | exact zq_vl_v (by assumption)) (by assumption)) ?_; rintro _ ⟨_, _⟩)
            | rw [if_pos (zq_at (by assumption))]
            | rw [zz_isCell (by assumption), if_pos rfl]
            | rw [if_neg (zq_ne (by assumption) (by decide) (by decide))]
            | rw [Option.bind_assoc]
            | rw [Option.bind_some]
            | rw [if_pos (zi_in (by omega) (by omega))]
        · repeat' first
            | (with_reducible refine zw_some.mpr ⟨_, ⟨?_, ?_⟩, by assumption⟩ <;> omega)
            | (with_reducible refine zw_some.mpr ⟨_, ⟨?_, ?_⟩, zx_Om (by assumption) ?_⟩ <;> omega)
            | (with_reducible refine zw_some.mpr ⟨_, ⟨?_, ?_⟩, zx_Om (zx_uF (by assumption) (Or.inl rfl)) ?_⟩ <;> omega)
            | (with_reducible refine zw_mono (zxb_142 (by assumption) (by omega)) ?_; intro _ z; exact ⟨_, by omega, z⟩)
            | (with_reducible refine zw_mono (zxb_142c (by assumption) (by omega)) ?_; intro _ z; exact ⟨_, by omega, z⟩)
            | (rw [zw_bind]; with_reducible refine zw_mono (zxb_body (by assumption)) ?_; intro _ _)
            | (rw [zw_bind]; with_reducible refine zw_mono (zxw_expr4 (by assumption)) ?_; intro _ _)
            | (rw [zw_bind]; with_reducible refine zw_mono (zxw_next2 (by assumption)) ?_; intro _ _)
            | (rw [zw_bind]; with_reducible refine zw_mono (zx_open (by assumption)) ?_; intro _ _)
            | (rw [zw_bind]; with_reducible refine zw_mono (zxw_expression (by assumption)) ?_; intro _ _)
            | (rw [zw_bind]; with_reducible refine zw_mono (zxw_operand (by assumption)) ?_; intro _ _)
            | (rw [zw_bind]; with_reducible refine zw_mono (zxb_keep (by assumption) (by omega)) ?_; intro _ _)
            | (rw [zw_B]; with_reducible refine zw_mono (zxb_node (by assumption) (by omega) rfl) ?_; rintro _ ⟨e1, _⟩; try rw [e1])
            | (rw [zw_bind]; with_reducible refine zw_mono (zxw_wantSign (zxb_uM (by assumption) (by decide))) ?_; intro _ _)
            | (rw [zw_bind]; with_reducible refine zw_mono (zxw_wantSign (by assumption)) ?_; intro _ _)
            | (rw [zw_bind]; with_reducible refine zw_mono (zxw_wantWord (by assumption)) ?_; intro _ _)
            | (rw [zw_bind]; with_reducible refine zw_mono (zxw_want (by assumption)) ?_; intro _ _)
            | (rw [zw_bind]; with_reducible refine zw_mono (zx_next (by assumption)) ?_; intro _ _)
            | (rw [zw_bind]; with_reducible refine zw_mono (zxb_constant (by assumption) (by omega) (by omega)) ?_; intro _ _)
            | (rw [zw_bind]; with_reducible refine zw_mono (zxw_simple (by assumption) (by omega) (by omega)) ?_; rintro _ ⟨_, _, _, _⟩)
            | (rw [zw_B]; with_reducible refine zw_mono (zxb_add (by assumption) (by omega) rfl (by omega)) ?_; rintro _ ⟨e1, _⟩; try rw [e1])
            | rw [zx_isSign (by assumption), if_pos rfl]
            | rw [zx_isWord (by assumption), if_pos rfl]
            | rw [if_neg (zx_ne (by assumption))]
            | rw [if_neg (zx_pos (by assumption))]
            | rw [if_pos (show (0 : Int32) ≤ 0 by decide)]
            | rw [Option.bind_assoc]
            | rw [Option.bind_some]
            | rw [zx_name (by assumption), zo_B]
            | rw [if_pos (zi_in (by omega) (by omega))]
      simp only [Option.bind_assoc, Option.bind_some]
      have b3 := zk_Ib I3
      refine zk_sA I3 (zk_wantW I3.1 (c := 27) (by decide)) ?_ fun h9 g9 LM9 I9 => ?_
      · intro φ w hz gz z1 z2
        refine zk_Gf (φ := φ) (w := w) ?_ ?_
        · repeat' first
            | with_reducible exact zw_some.mpr ⟨by assumption, by assumption⟩
            | with_reducible exact zw_some.mpr ⟨by assumption, zz_open (by assumption)⟩
            | (rw [zw_B]; with_reducible refine zw_mono (zz_expression (by assumption)) ?_; rintro _ ⟨_, _⟩)
            | (rw [zw_B]; with_reducible refine zw_mono (zz_operand (by assumption)) ?_; rintro _ ⟨_, _⟩)
            | (rw [zw_B]; with_reducible refine zw_mono (zz_statements (by assumption)) ?_; rintro _ ⟨_, _⟩)
            | (rw [zw_bind]; with_reducible refine zw_mono (zz_take (zz_uM (by assumption) (by decide))) ?_; intro _ _)
            | (rw [zw_bind]; with_reducible refine zw_mono (zz_take (by assumption)) ?_; intro _ _)
            | (rw [zw_B]; with_reducible refine zw_mono (zz_constant (by assumption)) ?_; rintro _ ⟨_, _⟩)
            | (rw [zw_B]; with_reducible refine zw_mono (zz_simpleType (by assumption)) ?_; rintro _ ⟨_, _⟩)
            | (rw [zw_B]; with_reducible refine zw_mono (zz_type (by assumption)) ?_; rintro _ ⟨_, _⟩)
            | (rw [zw_B]; with_reducible refine zw_mono (zz_whole (by assumption)) ?_; rintro _ ⟨_, _⟩)
            | (rw [zw_B]; with_reducible refine zw_mono (zz_add (by assumption)) ?_; rintro _ ⟨_, _⟩)
            | (rw [zw_B]; with_reducible refine zw_mono (zz_hang (by assumption) (by assumption) (by first | assumption | exact zq_vl_n | exact zq_vl_v (by assumption)) (by assumption)) ?_; rintro _ ⟨_, _⟩)
            | rw [if_pos (zq_at (by assumption))]
            | rw [zz_isCell (by assumption), if_pos rfl]
            | rw [if_neg (zq_ne (by assumption) (by decide) (by decide))]
            | rw [Option.bind_assoc]
            | rw [Option.bind_some]
            | rw [if_pos (zi_in (by omega) (by omega))]
        · repeat' first
            | (with_reducible refine zw_some.mpr ⟨_, ⟨?_, ?_⟩, by assumption⟩ <;> omega)
            | (with_reducible refine zw_some.mpr ⟨_, ⟨?_, ?_⟩, zx_Om (by assumption) ?_⟩ <;> omega)
            | (with_reducible refine zw_some.mpr ⟨_, ⟨?_, ?_⟩, zx_Om (zx_uF (by assumption) (Or.inl rfl)) ?_⟩ <;> omega)
            | (with_reducible refine zw_mono (zxb_142 (by assumption) (by omega)) ?_; intro _ z; exact ⟨_, by omega, z⟩)
            | (with_reducible refine zw_mono (zxb_142c (by assumption) (by omega)) ?_; intro _ z; exact ⟨_, by omega, z⟩)
            | (rw [zw_bind]; with_reducible refine zw_mono (zxb_body (by assumption)) ?_; intro _ _)
            | (rw [zw_bind]; with_reducible refine zw_mono (zxw_expr4 (by assumption)) ?_; intro _ _)
            | (rw [zw_bind]; with_reducible refine zw_mono (zxw_next2 (by assumption)) ?_; intro _ _)
            | (rw [zw_bind]; with_reducible refine zw_mono (zx_open (by assumption)) ?_; intro _ _)
            | (rw [zw_bind]; with_reducible refine zw_mono (zxw_expression (by assumption)) ?_; intro _ _)
            | (rw [zw_bind]; with_reducible refine zw_mono (zxw_operand (by assumption)) ?_; intro _ _)
            | (rw [zw_bind]; with_reducible refine zw_mono (zxb_keep (by assumption) (by omega)) ?_; intro _ _)
            | (rw [zw_B]; with_reducible refine zw_mono (zxb_node (by assumption) (by omega) rfl) ?_; rintro _ ⟨e1, _⟩; try rw [e1])
            | (rw [zw_bind]; with_reducible refine zw_mono (zxw_wantSign (zxb_uM (by assumption) (by decide))) ?_; intro _ _)
            | (rw [zw_bind]; with_reducible refine zw_mono (zxw_wantSign (by assumption)) ?_; intro _ _)
            | (rw [zw_bind]; with_reducible refine zw_mono (zxw_wantWord (by assumption)) ?_; intro _ _)
            | (rw [zw_bind]; with_reducible refine zw_mono (zxw_want (by assumption)) ?_; intro _ _)
            | (rw [zw_bind]; with_reducible refine zw_mono (zx_next (by assumption)) ?_; intro _ _)
            | (rw [zw_bind]; with_reducible refine zw_mono (zxb_constant (by assumption) (by omega) (by omega)) ?_; intro _ _)
            | (rw [zw_bind]; with_reducible refine zw_mono (zxw_simple (by assumption) (by omega) (by omega)) ?_; rintro _ ⟨_, _, _, _⟩)
            | (rw [zw_B]; with_reducible refine zw_mono (zxb_add (by assumption) (by omega) rfl (by omega)) ?_; rintro _ ⟨e1, _⟩; try rw [e1])
            | rw [zx_isSign (by assumption), if_pos rfl]
            | rw [zx_isWord (by assumption), if_pos rfl]
            | rw [if_neg (zx_ne (by assumption))]
            | rw [if_neg (zx_pos (by assumption))]
            | rw [if_pos (show (0 : Int32) ≤ 0 by decide)]
            | rw [Option.bind_assoc]
            | rw [Option.bind_some]
            | rw [zx_name (by assumption), zo_B]
            | rw [if_pos (zi_in (by omega) (by omega))]
      have I10 := zk_Io I9 (d2 := d) (zfr_F (by decide) zfr_rfl) (zfr_F (by decide) zfr_rfl) (zk_close I9.1)
      exact ⟨nI s, _, _, rfl, rfl, Or.inl (zk_Tof (zk_IdF (S := zg_Sx) I10 rfl (Or.inl rfl) (by decide) (by omega)) (by omega))⟩
    rw [show f_Mo_isWord g8 25 = if (h8.1 19 5) = nI 153 then 1 else 0 from zk_word I8.1 (c := 25) (by decide)]
    by_cases c : (h8.1 19 5) = 153
    · rw [if_pos c, if_pos (show (h8.1 19 5) = nI 153 from c), if_neg (show ¬ (1 : Int32) = 0 by decide)]
      refine zk_sN I8 c (by decide) ?_ fun h9 g9 LM9 I9 => ?_
      · intro φ w hz gz z1 z2
        refine zk_Gf (φ := φ) (w := w) ?_ ?_
        · repeat' first
            | with_reducible exact zw_some.mpr ⟨by assumption, by assumption⟩
            | with_reducible exact zw_some.mpr ⟨by assumption, zz_open (by assumption)⟩
            | (rw [zw_B]; with_reducible refine zw_mono (zz_expression (by assumption)) ?_; rintro _ ⟨_, _⟩)
            | (rw [zw_B]; with_reducible refine zw_mono (zz_operand (by assumption)) ?_; rintro _ ⟨_, _⟩)
            | (rw [zw_B]; with_reducible refine zw_mono (zz_statements (by assumption)) ?_; rintro _ ⟨_, _⟩)
            | (rw [zw_bind]; with_reducible refine zw_mono (zz_take (zz_uM (by assumption) (by decide))) ?_; intro _ _)
            | (rw [zw_bind]; with_reducible refine zw_mono (zz_take (by assumption)) ?_; intro _ _)
            | (rw [zw_B]; with_reducible refine zw_mono (zz_constant (by assumption)) ?_; rintro _ ⟨_, _⟩)
            | (rw [zw_B]; with_reducible refine zw_mono (zz_simpleType (by assumption)) ?_; rintro _ ⟨_, _⟩)
            | (rw [zw_B]; with_reducible refine zw_mono (zz_type (by assumption)) ?_; rintro _ ⟨_, _⟩)
            | (rw [zw_B]; with_reducible refine zw_mono (zz_whole (by assumption)) ?_; rintro _ ⟨_, _⟩)
            | (rw [zw_B]; with_reducible refine zw_mono (zz_add (by assumption)) ?_; rintro _ ⟨_, _⟩)
            | (rw [zw_B]; with_reducible refine zw_mono (zz_hang (by assumption) (by assumption) (by first | assumption | exact zq_vl_n | exact zq_vl_v (by assumption)) (by assumption)) ?_; rintro _ ⟨_, _⟩)
            | rw [if_pos (zq_at (by assumption))]
            | rw [zz_isCell (by assumption), if_pos rfl]
            | rw [if_neg (zq_ne (by assumption) (by decide) (by decide))]
            | rw [Option.bind_assoc]
            | rw [Option.bind_some]
            | rw [if_pos (zi_in (by omega) (by omega))]
          exact endc φ w _ _ (by assumption) (by assumption)
        · repeat' first
            | (with_reducible refine zw_some.mpr ⟨_, ⟨?_, ?_⟩, by assumption⟩ <;> omega)
            | (with_reducible refine zw_some.mpr ⟨_, ⟨?_, ?_⟩, zx_Om (by assumption) ?_⟩ <;> omega)
            | (with_reducible refine zw_some.mpr ⟨_, ⟨?_, ?_⟩, zx_Om (zx_uF (by assumption) (Or.inl rfl)) ?_⟩ <;> omega)
            | (with_reducible refine zw_mono (zxb_142 (by assumption) (by omega)) ?_; intro _ z; exact ⟨_, by omega, z⟩)
            | (with_reducible refine zw_mono (zxb_142c (by assumption) (by omega)) ?_; intro _ z; exact ⟨_, by omega, z⟩)
            | (rw [zw_bind]; with_reducible refine zw_mono (zxb_body (by assumption)) ?_; intro _ _)
            | (rw [zw_bind]; with_reducible refine zw_mono (zxw_expr4 (by assumption)) ?_; intro _ _)
            | (rw [zw_bind]; with_reducible refine zw_mono (zxw_next2 (by assumption)) ?_; intro _ _)
            | (rw [zw_bind]; with_reducible refine zw_mono (zx_open (by assumption)) ?_; intro _ _)
            | (rw [zw_bind]; with_reducible refine zw_mono (zxw_expression (by assumption)) ?_; intro _ _)
            | (rw [zw_bind]; with_reducible refine zw_mono (zxw_operand (by assumption)) ?_; intro _ _)
            | (rw [zw_bind]; with_reducible refine zw_mono (zxb_keep (by assumption) (by omega)) ?_; intro _ _)
            | (rw [zw_B]; with_reducible refine zw_mono (zxb_node (by assumption) (by omega) rfl) ?_; rintro _ ⟨e1, _⟩; try rw [e1])
            | (rw [zw_bind]; with_reducible refine zw_mono (zxw_wantSign (zxb_uM (by assumption) (by decide))) ?_; intro _ _)
            | (rw [zw_bind]; with_reducible refine zw_mono (zxw_wantSign (by assumption)) ?_; intro _ _)
            | (rw [zw_bind]; with_reducible refine zw_mono (zxw_wantWord (by assumption)) ?_; intro _ _)
            | (rw [zw_bind]; with_reducible refine zw_mono (zxw_want (by assumption)) ?_; intro _ _)
            | (rw [zw_bind]; with_reducible refine zw_mono (zx_next (by assumption)) ?_; intro _ _)
            | (rw [zw_bind]; with_reducible refine zw_mono (zxb_constant (by assumption) (by omega) (by omega)) ?_; intro _ _)
            | (rw [zw_bind]; with_reducible refine zw_mono (zxw_simple (by assumption) (by omega) (by omega)) ?_; rintro _ ⟨_, _, _, _⟩)
            | (rw [zw_B]; with_reducible refine zw_mono (zxb_add (by assumption) (by omega) rfl (by omega)) ?_; rintro _ ⟨e1, _⟩; try rw [e1])
            | rw [zx_isSign (by assumption), if_pos rfl]
            | rw [zx_isWord (by assumption), if_pos rfl]
            | rw [if_neg (zx_ne (by assumption))]
            | rw [if_neg (zx_pos (by assumption))]
            | rw [if_pos (show (0 : Int32) ≤ 0 by decide)]
            | rw [Option.bind_assoc]
            | rw [Option.bind_some]
            | rw [zx_name (by assumption), zo_B]
            | rw [if_pos (zi_in (by omega) (by omega))]
          refine endm φ w _ _ ?_ ?_ (by assumption) <;> omega
      have b9 := zk_Ib I9
      refine zk_sK2 (e2 := 2) (e3 := 1) (S := [30, 31]) (st' := 3) I9 (zk_GM (zk_constG I9.1 (by omega) (by omega) (by omega)) (Nat.le_refl _) (Nat.le_refl 20900) (fun x h g R => zk_TTm R (Nat.le_refl _) (fun t W => zg_Tm W (fun _ z => z) (by omega)))) (by decide) (by omega) ?_ fun x10 h10 g10 u10 LM10 j10 s10 m10 vx10 hj10 I10 => ?_
      · intro φ w mz xz hz gz w1 w2 vz z1 z2
        refine zk_Gf (φ := φ) (w := w) ?_ ?_
        · repeat' first
            | with_reducible exact zw_some.mpr ⟨by assumption, by assumption⟩
            | with_reducible exact zw_some.mpr ⟨by assumption, zz_open (by assumption)⟩
            | (rw [zw_B]; with_reducible refine zw_mono (zz_expression (by assumption)) ?_; rintro _ ⟨_, _⟩)
            | (rw [zw_B]; with_reducible refine zw_mono (zz_operand (by assumption)) ?_; rintro _ ⟨_, _⟩)
            | (rw [zw_B]; with_reducible refine zw_mono (zz_statements (by assumption)) ?_; rintro _ ⟨_, _⟩)
            | (rw [zw_bind]; with_reducible refine zw_mono (zz_take (zz_uM (by assumption) (by decide))) ?_; intro _ _)
            | (rw [zw_bind]; with_reducible refine zw_mono (zz_take (by assumption)) ?_; intro _ _)
            | (rw [zw_B]; with_reducible refine zw_mono (zz_constant (by assumption)) ?_; rintro _ ⟨_, _⟩)
            | (rw [zw_B]; with_reducible refine zw_mono (zz_simpleType (by assumption)) ?_; rintro _ ⟨_, _⟩)
            | (rw [zw_B]; with_reducible refine zw_mono (zz_type (by assumption)) ?_; rintro _ ⟨_, _⟩)
            | (rw [zw_B]; with_reducible refine zw_mono (zz_whole (by assumption)) ?_; rintro _ ⟨_, _⟩)
            | (rw [zw_B]; with_reducible refine zw_mono (zz_add (by assumption)) ?_; rintro _ ⟨_, _⟩)
            | (rw [zw_B]; with_reducible refine zw_mono (zz_hang (by assumption) (by assumption) (by first | assumption | exact zq_vl_n | exact zq_vl_v (by assumption)) (by assumption)) ?_; rintro _ ⟨_, _⟩)
            | rw [if_pos (zq_at (by assumption))]
            | rw [zz_isCell (by assumption), if_pos rfl]
            | rw [if_neg (zq_ne (by assumption) (by decide) (by decide))]
            | rw [Option.bind_assoc]
            | rw [Option.bind_some]
            | rw [if_pos (zi_in (by omega) (by omega))]
          exact endc φ w _ _ (by assumption) (by assumption)
        · repeat' first
            | (with_reducible refine zw_some.mpr ⟨_, ⟨?_, ?_⟩, by assumption⟩ <;> omega)
            | (with_reducible refine zw_some.mpr ⟨_, ⟨?_, ?_⟩, zx_Om (by assumption) ?_⟩ <;> omega)
            | (with_reducible refine zw_some.mpr ⟨_, ⟨?_, ?_⟩, zx_Om (zx_uF (by assumption) (Or.inl rfl)) ?_⟩ <;> omega)
            | (with_reducible refine zw_mono (zxb_142 (by assumption) (by omega)) ?_; intro _ z; exact ⟨_, by omega, z⟩)
            | (with_reducible refine zw_mono (zxb_142c (by assumption) (by omega)) ?_; intro _ z; exact ⟨_, by omega, z⟩)
            | (rw [zw_bind]; with_reducible refine zw_mono (zxb_body (by assumption)) ?_; intro _ _)
            | (rw [zw_bind]; with_reducible refine zw_mono (zxw_expr4 (by assumption)) ?_; intro _ _)
            | (rw [zw_bind]; with_reducible refine zw_mono (zxw_next2 (by assumption)) ?_; intro _ _)
            | (rw [zw_bind]; with_reducible refine zw_mono (zx_open (by assumption)) ?_; intro _ _)
            | (rw [zw_bind]; with_reducible refine zw_mono (zxw_expression (by assumption)) ?_; intro _ _)
            | (rw [zw_bind]; with_reducible refine zw_mono (zxw_operand (by assumption)) ?_; intro _ _)
            | (rw [zw_bind]; with_reducible refine zw_mono (zxb_keep (by assumption) (by omega)) ?_; intro _ _)
            | (rw [zw_B]; with_reducible refine zw_mono (zxb_node (by assumption) (by omega) rfl) ?_; rintro _ ⟨e1, _⟩; try rw [e1])
            | (rw [zw_bind]; with_reducible refine zw_mono (zxw_wantSign (zxb_uM (by assumption) (by decide))) ?_; intro _ _)
            | (rw [zw_bind]; with_reducible refine zw_mono (zxw_wantSign (by assumption)) ?_; intro _ _)
            | (rw [zw_bind]; with_reducible refine zw_mono (zxw_wantWord (by assumption)) ?_; intro _ _)
            | (rw [zw_bind]; with_reducible refine zw_mono (zxw_want (by assumption)) ?_; intro _ _)
            | (rw [zw_bind]; with_reducible refine zw_mono (zx_next (by assumption)) ?_; intro _ _)
            | (rw [zw_bind]; with_reducible refine zw_mono (zxb_constant (by assumption) (by omega) (by omega)) ?_; intro _ _)
            | (rw [zw_bind]; with_reducible refine zw_mono (zxw_simple (by assumption) (by omega) (by omega)) ?_; rintro _ ⟨_, _, _, _⟩)
            | (rw [zw_B]; with_reducible refine zw_mono (zxb_add (by assumption) (by omega) rfl (by omega)) ?_; rintro _ ⟨e1, _⟩; try rw [e1])
            | rw [zx_isSign (by assumption), if_pos rfl]
            | rw [zx_isWord (by assumption), if_pos rfl]
            | rw [if_neg (zx_ne (by assumption))]
            | rw [if_neg (zx_pos (by assumption))]
            | rw [if_pos (show (0 : Int32) ≤ 0 by decide)]
            | rw [Option.bind_assoc]
            | rw [Option.bind_some]
            | rw [zx_name (by assumption), zo_B]
            | rw [if_pos (zi_in (by omega) (by omega))]
          refine endm φ w _ _ ?_ ?_ (by assumption) <;> omega
      exact fin I10 (Or.inr rfl) vx10 (by omega)
    · rw [if_neg c, if_neg (show ¬ (h8.1 19 5) = nI 153 from c), if_pos (show (0 : Int32) = 0 from rfl)]
      exact fin I8 (Or.inl rfl) vx8 (by omega)
  · obtain ⟨⟨x, g3⟩, e4, e5, z3⟩ := zxb_add (kd := 19) (kn := 19) (p := (g2.1 68 7)) (v := 0) (b := b) z2 (by omega) rfl hb
    rw [e4, zo_B, show x = nI m from e5]
    refine zk_Gf (φ := φ) (w := w) ?_ ?_
    · repeat' first
        | with_reducible exact zw_some.mpr ⟨by assumption, by assumption⟩
        | with_reducible exact zw_some.mpr ⟨by assumption, zz_open (by assumption)⟩
        | (rw [zw_B]; with_reducible refine zw_mono (zz_expression (by assumption)) ?_; rintro _ ⟨_, _⟩)
        | (rw [zw_B]; with_reducible refine zw_mono (zz_operand (by assumption)) ?_; rintro _ ⟨_, _⟩)
        | (rw [zw_B]; with_reducible refine zw_mono (zz_statements (by assumption)) ?_; rintro _ ⟨_, _⟩)
        | (rw [zw_bind]; with_reducible refine zw_mono (zz_take (zz_uM (by assumption) (by decide))) ?_; intro _ _)
        | (rw [zw_bind]; with_reducible refine zw_mono (zz_take (by assumption)) ?_; intro _ _)
        | (rw [zw_B]; with_reducible refine zw_mono (zz_constant (by assumption)) ?_; rintro _ ⟨_, _⟩)
        | (rw [zw_B]; with_reducible refine zw_mono (zz_simpleType (by assumption)) ?_; rintro _ ⟨_, _⟩)
        | (rw [zw_B]; with_reducible refine zw_mono (zz_type (by assumption)) ?_; rintro _ ⟨_, _⟩)
        | (rw [zw_B]; with_reducible refine zw_mono (zz_whole (by assumption)) ?_; rintro _ ⟨_, _⟩)
        | (rw [zw_B]; with_reducible refine zw_mono (zz_add (by assumption)) ?_; rintro _ ⟨_, _⟩)
        | (rw [zw_B]; with_reducible refine zw_mono (zz_hang (by assumption) (by assumption) (by first | assumption | exact zq_vl_n | exact zq_vl_v (by assumption)) (by assumption)) ?_; rintro _ ⟨_, _⟩)
        | rw [if_pos (zq_at (by assumption))]
        | rw [zz_isCell (by assumption), if_pos rfl]
        | rw [if_neg (zq_ne (by assumption) (by decide) (by decide))]
        | rw [Option.bind_assoc]
        | rw [Option.bind_some]
        | rw [if_pos (zi_in (by omega) (by omega))]
      exact endc φ w _ _ (by assumption) (by assumption)
    · repeat' first
        | (with_reducible refine zw_some.mpr ⟨_, ⟨?_, ?_⟩, by assumption⟩ <;> omega)
        | (with_reducible refine zw_some.mpr ⟨_, ⟨?_, ?_⟩, zx_Om (by assumption) ?_⟩ <;> omega)
        | (with_reducible refine zw_some.mpr ⟨_, ⟨?_, ?_⟩, zx_Om (zx_uF (by assumption) (Or.inl rfl)) ?_⟩ <;> omega)
        | (with_reducible refine zw_mono (zxb_142 (by assumption) (by omega)) ?_; intro _ z; exact ⟨_, by omega, z⟩)
        | (with_reducible refine zw_mono (zxb_142c (by assumption) (by omega)) ?_; intro _ z; exact ⟨_, by omega, z⟩)
        | (rw [zw_bind]; with_reducible refine zw_mono (zxb_body (by assumption)) ?_; intro _ _)
        | (rw [zw_bind]; with_reducible refine zw_mono (zxw_expr4 (by assumption)) ?_; intro _ _)
        | (rw [zw_bind]; with_reducible refine zw_mono (zxw_next2 (by assumption)) ?_; intro _ _)
        | (rw [zw_bind]; with_reducible refine zw_mono (zx_open (by assumption)) ?_; intro _ _)
        | (rw [zw_bind]; with_reducible refine zw_mono (zxw_expression (by assumption)) ?_; intro _ _)
        | (rw [zw_bind]; with_reducible refine zw_mono (zxw_operand (by assumption)) ?_; intro _ _)
        | (rw [zw_bind]; with_reducible refine zw_mono (zxb_keep (by assumption) (by omega)) ?_; intro _ _)
        | (rw [zw_B]; with_reducible refine zw_mono (zxb_node (by assumption) (by omega) rfl) ?_; rintro _ ⟨e1, _⟩; try rw [e1])
        | (rw [zw_bind]; with_reducible refine zw_mono (zxw_wantSign (zxb_uM (by assumption) (by decide))) ?_; intro _ _)
        | (rw [zw_bind]; with_reducible refine zw_mono (zxw_wantSign (by assumption)) ?_; intro _ _)
        | (rw [zw_bind]; with_reducible refine zw_mono (zxw_wantWord (by assumption)) ?_; intro _ _)
        | (rw [zw_bind]; with_reducible refine zw_mono (zxw_want (by assumption)) ?_; intro _ _)
        | (rw [zw_bind]; with_reducible refine zw_mono (zx_next (by assumption)) ?_; intro _ _)
        | (rw [zw_bind]; with_reducible refine zw_mono (zxb_constant (by assumption) (by omega) (by omega)) ?_; intro _ _)
        | (rw [zw_bind]; with_reducible refine zw_mono (zxw_simple (by assumption) (by omega) (by omega)) ?_; rintro _ ⟨_, _, _, _⟩)
        | (rw [zw_B]; with_reducible refine zw_mono (zxb_add (by assumption) (by omega) rfl (by omega)) ?_; rintro _ ⟨e1, _⟩; try rw [e1])
        | rw [zx_isSign (by assumption), if_pos rfl]
        | rw [zx_isWord (by assumption), if_pos rfl]
        | rw [if_neg (zx_ne (by assumption))]
        | rw [if_neg (zx_pos (by assumption))]
        | rw [if_pos (show (0 : Int32) ≤ 0 by decide)]
        | rw [Option.bind_assoc]
        | rw [Option.bind_some]
        | rw [zx_name (by assumption), zo_B]
        | rw [if_pos (zi_in (by omega) (by omega))]
      refine endm φ w _ _ ?_ ?_ (by assumption) <;> omega
end ZYf
end
