/-! Both readers in step: bodies, IF. -/
theorem zy_ps (d : Nat) : f_Ps_statements (d + 1) = g_Ps_statements (f_Ps_statement d) := rfl
theorem zy_pt (d : Nat) : f_Ps_statement (d + 1) = g_Ps_statement (f_Ps_caseStatement d) (f_Ps_forStatement d) (f_Ps_ifStatement d) := rfl
theorem zy_pi (d : Nat) : f_Ps_ifStatement (d + 1) = g_Ps_ifStatement (f_Ps_statements d) := rfl
theorem zy_pc (d : Nat) : f_Ps_caseStatement (d + 1) = g_Ps_caseStatement (f_Ps_statements d) := rfl
theorem zy_pf (d : Nat) : f_Ps_forStatement (d + 1) = g_Ps_forStatement (f_Ps_statements d) := rfl
theorem zy_xs (d : Nat) : f_Mo_statements (d + 1) = g_Mo_statements (f_Mo_opened d) := by
  delta f_Mo_statements f_Mo_opened zy_Mo_body
  rw [zd_s]
theorem zy_xo (d : Nat) : f_Mo_opened (d + 1) = g_Mo_opened (f_Mo_cases d) (f_Mo_choose d) (f_Mo_loop d) := rfl
theorem zy_xh (d : Nat) : f_Mo_choose (d + 1) = g_Mo_choose (f_Mo_body d) := rfl
theorem zy_xc (d : Nat) : f_Mo_cases (d + 1) = g_Mo_cases (f_Mo_body d) := rfl
theorem zy_xl (d : Nat) : f_Mo_loop (d + 1) = g_Mo_loop (f_Mo_body d) := rfl
theorem zy_xb (d : Nat) : f_Mo_body (d + 1) = g_Mo_body (f_Mo_statements d) := rfl
abbrev zg_Sx : List Nat := [12, 13, 15, 16, 19, 20, 21]
section ZWz
variable {h0 g0 h g : zs_H} {T : Nat → Int32} {n K φ w m O : Nat} {LC : List (List Int32)}
theorem zz_isStatement (H : zq_Z h0 T n K LC φ w h) : f_Ps_isStatement h = 0 := by
  unfold f_Ps_isStatement
  rw [if_neg (zq_ne H (by decide) (by decide)), if_neg (zq_ne H (by decide) (by decide)), if_neg (zq_ne H (by decide) (by decide)), if_neg (zq_ne H (by decide) (by decide)), if_neg (zq_ne H (by decide) (by decide)), if_neg (zq_ne H (by decide) (by decide)), if_neg (zq_ne H (by decide) (by decide))]
theorem zz_isConstant (H : zq_Z h0 T n K LC φ w h) : f_Ps_isConstant h = 0 := by
  unfold f_Ps_isConstant
  rw [if_neg (zq_ne H (by decide) (by decide)), if_neg (zq_ne H (by decide) (by decide)), if_neg (zq_ne H (by decide) (by decide)), if_neg (zq_ne H (by decide) (by decide))]
theorem zz_stL {r : zs_H → Option (Int32 × zs_H)} {N : Nat} {x1 x2 x3 : Int32} (H : zq_Z h0 T n K LC φ w h) (h1 : zq_v x1) : zw (f_Ps_statements_L19 r (N + 1) h x1 x2 x3) (fun p => zq_v p.1 ∧ zq_Z h0 T n K LC φ w p.2) := by
  show zw (f_Ps_statements_19 r (f_Ps_statements_L19 r N) h x1 x2 x3) _
  unfold f_Ps_statements_19
  rw [zz_isStatement H, if_pos (show (0 : Int32) = 0 from rfl)]
  split <;> exact zw_some.mpr ⟨h1, H⟩
theorem zz_statements {d : Nat} (H : zq_Z h0 T n K LC φ w h) : zw (f_Ps_statements (d + 1) h) (fun p => zq_v p.1 ∧ zq_Z h0 T n K LC φ w p.2) := by
  rw [zy_ps]
  unfold g_Ps_statements
  rw [show zF = 18446744073709551615 + 1 from rfl, zw_B]
  refine zw_mono (zz_add H) ?_
  rintro _ ⟨a, b⟩
  exact zz_stL b a
theorem zxb_stL {r : zs_H → Int32 → Option zs_H} {N : Nat} {x : Int32} (H : zx_B g0 T n φ w m O g) : f_Mo_statements_L0 r (N + 1) g x = some g := by
  show f_Mo_statements_0 r (f_Mo_statements_L0 r N) g x = _
  unfold f_Mo_statements_0
  rw [if_neg (zx_ne H)]
theorem zxb_body {r : zs_H → Int32 → Option zs_H} {x1 x2 : Int32} (H : zx_B g0 T n φ w m O g) : zw (g_Mo_body r g x1 x2) (zx_B g0 T n φ w m O) := by
  unfold g_Mo_body
  rw [zx_want H, Option.bind_some, if_neg (zx_ne H), zw_some]
  exact H
theorem zxw_expr4 {x : Int32} (H : zx_B g0 T n φ w m O g) : zw (f_Mo_expression 400 g x) (zx_B g0 T n φ w m O) := zxw_expression (d := 399) H
end ZWz
section ZWs
variable (h0 g0 : zs_H) (T : Nat → Int32) (n K : Nat) (LC : List (List Int32))
def zk_SS (d0 : Nat) : Prop := ∀ {h g : zs_H} {LM : List (List Int32)} {j d s m D D' b : Nat} {p : Int32}, zk_L h0 g0 T n K LC h g LM j d s m 0 0 → d0 ≤ d → 3 * (60 - d) + 4 ≤ D → 4 * (60 - d) + 5 ≤ D' → s ≤ 2 * j + 9 → m ≤ 2 * j + 9 → b < m → zk_G h0 g0 T n K LC m 20950 0 (zk_TT h0 g0 T n K LC LM (zg_T [11] (3 * (60 - d) + 5)) 0 j d s m 0 0 b h g) (f_Ps_statements D h) (zd_B (f_Mo_add g (nI b) 11 p 0) fun v5 h6 => (f_Mo_statements D' h6 v5).bind fun h8 => some h8)
end ZWs
section ZWw
variable {h0 g0 h g g1 h' g' : zs_H} {T : Nat → Int32} {n K : Nat} {LC LM LM' : List (List Int32)} {j d s m o q b kd j' d' s' m' e st D f M0 M : Nat} {p v y : Int32} {u : zt_T} {X : Int32 → zs_H → zs_H → Prop}
theorem zk_SSm {a b : Nat} (w : a ≤ b) (O : zk_SS h0 g0 T n K LC a) : zk_SS h0 g0 T n K LC b := by
  intro h g LM j d s m D D' b' p H h1
  exact O H (by omega)
theorem zk_wexprD {b D' : Nat} (H : zk_L h0 g0 T n K LC h g LM j d s m 0 0) (hD : 245 ≤ D') (h7 : s ≤ 2 * j + 12) (h8 : m ≤ 2 * j + 12) (hb : b < m) : zk_G h0 g0 T n K LC m 20900 0 (zk_TT h0 g0 T n K LC LM (zg_T zg_E (2 * (60 - d) + 2)) 1 j d s m 0 0 b h g) (f_Ps_wholeExpression h) (f_Mo_expression D' g (nI b)) := by
  obtain ⟨x1, x2, x3, x4, x5, x6, x7⟩ := zk_dd H
  obtain ⟨x, h', g', e1, e2, R⟩ := zk_expr0 (D := 400) (D' := D') (zk_allE 61 0 (by omega)).2 H (Nat.zero_le _) (Nat.zero_le _) (Nat.zero_le _) (by omega) (by omega) h7 h8 hb
  unfold f_Ps_wholeExpression
  rw [e1, zo_B, e2]
  refine ⟨x, _, g', rfl, rfl, ?_⟩
  rcases R with ⟨t, LM', j', d', s', m', a, ⟨r0, r0c⟩, r1, ⟨r2, r2a, r2b⟩, r3, ⟨r4, r5, r6, r7, r8⟩, ⟨r9, r9a, r9b⟩, r10, r11, r12, r13⟩ | ⟨vx, φ, w, m', w1, w2, z1, z2⟩
  · refine Or.inl (zk_TTof ⟨t, LM', j', s', m', a, ⟨zg_Tm r0 (fun _ z => z) (by omega), by omega⟩, r1, r3 _ d (by rw [if_pos rfl]) (zfr_F (by decide) zfr_rfl) (by rw [← x1]; rfl), r4, r5, r6, r7, r8, r9, r9a, r9b, r10, r11, r12⟩)
  · exact Or.inr ⟨vx, φ, w, m', w1, w2, zz_open z1, z2⟩
/-- a body begins -/
theorem zk_I0b (H : zk_L h0 g0 T n K LC h g LM j d s m o q) {b D : Nat} {p : Int32} (hs : s < 32784) (hm : m < 33500) (hb : b < m) : ∃ h1 g1, f_Tr_add h 11 ((h.1 19 6)) 0 = some (nI s, h1) ∧ f_Mo_add g (nI b) 11 p 0 = some (nI m, g1) ∧ zk_I h0 g0 T n K LC LM j s m o q b 11 (nI (zl_at T n j).2.1) 0 h g g1 .leaf (-1) LM j d (s + 1) (m + 1) 0 0 D 1 h1 g1 := by
  obtain ⟨h1, e1, L1, qA⟩ := zk_cadd H (kd := 11) (kv := 11) (v := 0) hs (by decide) rfl
  obtain ⟨g1, e2, L2, qM, q1, q2, q3, q4, q5, q6, q7⟩ := zk_madd L1 (b := b) (kd := 11) (kv := 11) (p := p) (v := 0) (v' := 0) hm hb rfl (by rw [if_neg (by decide)])
  have hN : zt_Nf LC LM g1 m 11 (nI (zl_at T n j).2.1) 0 := ⟨q1.1, fun z => absurd rfl z, q1.2.2⟩
  refine ⟨h1, g1, e1, e2, L2, List.prefix_refl _, zq_kp_A qA, ?_, ⟨LM, ⟨List.prefix_refl _, List.prefix_refl _⟩, zx_AP_n2 hm (Nat.le_refl _) hb qM (List.prefix_refl _) ⟨q3, q4⟩ hN q2 q6 (fun i _ => ⟨rfl, rfl, rfl, rfl, rfl, rfl, rfl⟩) rfl, q3, q4, hN, q2, q6, zx_AP_0 (List.prefix_refl _) (fun i _ => ⟨rfl, rfl, rfl, rfl, rfl, rfl, rfl⟩) (by omega)⟩, by omega, zg_U0, by show 2 * 0 + 1 ≤ _; omega⟩
  obtain ⟨a1, a2, a3, a4, a5, a6, a7⟩ := qA
  exact ⟨by rw [a2, if_pos rfl], by rw [a3, if_pos rfl], by rw [a4, if_pos rfl], by rw [a6, if_pos rfl], by rw [a5, if_pos rfl], rfl⟩
/-- both give a node that has no children yet another value -/
theorem zk_Iset2 (I : zk_I h0 g0 T n K LC LM j s m o q b kd p v h g g1 .leaf (-1) LM' j' d' s' (m + 1) e st D f h' g') {h2 g2 : zs_H} {LM2 : List (List Int32)} {j2 d2 : Nat} {v2 w2 : Int32} (L2 : zk_L h0 g0 T n K LC h2 g2 LM2 j2 d2 s' (m + 1) o q) (hj : j' ≤ j2) (hp : LM' <+: LM2) (hk : zq_kp s h' h2) (hn : (h2.2.1 13) s = (h'.2.1 13) s ∧ (h2.2.1 15) s = (h'.2.1 15) s ∧ (h2.2.1 16) s = v2 ∧ (h2.2.1 18) s = (h'.2.1 18) s ∧ (h2.2.1 17) s = (h'.2.1 17) s) (ka : zx_ka (m + 1) g' g2) (hv : if zt_nk kd = true then zt_nr LC LM2 v2 w2 else w2 = v2) : zk_I h0 g0 T n K LC LM j s m o q b kd p v2 h g (zs_uM g2 74 m w2) .leaf (-1) LM2 j2 d2 s' (m + 1) (e + 2 * (j2 - j')) st D (f + (j2 - j')) h2 (zs_uM g2 74 m w2) := by
  obtain ⟨i1, i2, i3, ⟨c1, c2, c3, c4, c5⟩, ⟨LM1, ⟨p1, p2⟩, m1, m2, m3, m4, m5, m6, m7⟩, ⟨n1, n2, n3, n4, n5, n6, n7, n8⟩, w1, w2'⟩ := I
  have gV : zfr [] [74] [] g2 (zs_uM g2 74 m w2) := zfr_M (by decide) zfr_rfl
  have eg : ∀ i, (zs_uM g2 74 m w2).2.1 74 i = if i = m then w2 else (g2.2.1 74) i := fun i => by simp [zu_MM]
  obtain ⟨a1, a2⟩ := m7 (fun _ => False) .leaf (fun i z => z.elim) ⟨m2, m3⟩
  obtain ⟨k0, k1, k2, k3, k4, k5⟩ := a1
  obtain ⟨t1, t2, t3, t4, t5, t6, t7⟩ := ka m (by omega)
  have hd := zk_dd L2
  have L3 := zk_mf L2 (zfr_w gV (by decide) (by decide) (by decide)) (m' := m + 1) hd.2.2.2.1 hd.2.2.2.2.1
  have hN : zt_Nf LC LM2 (zs_uM g2 74 m w2) m kd p v2 := by
    refine ⟨t1.trans (k1.trans m4.1), fun z => t2.trans (k2.trans (m4.2.1 z)), ?_⟩
    rw [eg, if_pos rfl]; exact hv
  refine ⟨L3, i2.trans hp, zq_kp_t i3 hk (Nat.le_refl s), ⟨hn.1.trans c1, hn.2.1.trans c2, hn.2.2.1, hn.2.2.2.1.trans c4, hn.2.2.2.2.trans c5.1, rfl⟩, ⟨LM2, ⟨i2.trans hp, List.prefix_refl _⟩, ?_, t5.trans a2.1, t6.trans a2.2, hN, t4.trans (k4.trans m5), ?_, zx_AP_0 (List.prefix_refl _) (fun i _ => ⟨rfl, rfl, rfl, rfl, rfl, rfl, rfl⟩) (by omega)⟩, by omega, w1, by omega⟩
  · refine zx_AP_n2 n8 (by omega) n6 m1 (p2.trans hp) ⟨t5.trans a2.1, t6.trans a2.2⟩ hN (t4.trans (k4.trans m5)) m6 (fun i hi => ?_) (t7.trans k5)
    obtain ⟨x1, x2, x3, x4, x5, x6, x7⟩ := k0 i hi
    obtain ⟨y1, y2, y3, y4, y5, y6, y7⟩ := ka i (by omega)
    exact ⟨y1.trans x1, y2.trans x2, by rw [eg, if_neg (by omega)]; exact y3.trans x3, y4.trans x4, y5.trans x5, y6.trans x6, y7.trans x7⟩
  · obtain ⟨x1, x2, x3, x4, x5, x6, x7⟩ := k0 b n6
    obtain ⟨y1, y2, y3, y4, y5, y6, y7⟩ := ka b (by omega)
    exact y6.trans (x6.trans m6)
/-- a word or sign, then a body -/
theorem zk_sBody {Dc Dm st' : Nat} (SS : zk_SS h0 g0 T n K LC d') (I : zk_I h0 g0 T n K LC LM j s m 0 0 b kd p v h g g1 u y LM' j' d' s' m' e st D f h' g') {x yy : Int32} {FA : Int32 → zs_H → Option (Int32 × zs_H)} {FB : zs_H → Option zs_H} (hxy : ¬ yy = 0 ↔ (h'.1 19 5) = x) (hx6 : ¬ x = 6) (hDc : 3 * (60 - d') + 4 ≤ Dc) (hDm : 4 * (60 - d') + 5 ≤ Dm) (hs : s ≤ 2 * j + 10) (hm : m ≤ 2 * j + 10) (hq : zg_q kd st 11 = st') (hD : 3 * (60 - d') + 5 ≤ D) (bad : ∀ φ w m2 x h2 g2, m' ≤ m2 → m2 ≤ 20950 → zq_v x → zq_Z h0 T n K LC φ w h2 → zx_B g0 T n φ w m2 0 g2 → zk_G h0 g0 T n K LC M0 M 0 X (zd_B (f_Tr_hang h2 (nI s) y x) FA) (FB g2)) (good : ∀ x h3 g2 u3 LM3 j3 s3 m3, zq_v x → j' < j3 → zk_I h0 g0 T n K LC LM j s m 0 0 b kd p v h g g1 u3 x LM3 j3 d' s3 m3 (e + 1) st' D (f + 1) h3 g2 → zk_G h0 g0 T n K LC M0 M 0 X (FA x h3) (FB g2)) : zk_G h0 g0 T n K LC M0 M 0 X ((f_Ps_take h' x).bind fun h2 => zd_B (f_Ps_statements Dc h2) fun x2 h3 => zd_B (f_Tr_hang h3 (nI s) y x2) FA) ((g_Mo_body (f_Mo_statements Dm) g' (nI m) yy).bind FB) := by
  have b1 := zk_Ib I
  obtain ⟨Dc, rfl⟩ : ∃ z, Dc = z + 1 := ⟨Dc - 1, by omega⟩
  unfold g_Mo_body
  obtain ⟨h2, g2, e1, e2, R⟩ := zk_want I.1 hxy hx6
  rw [e1, e2, Option.bind_some, Option.bind_some]
  have bad2 : ∀ φ w, zq_Z h0 T n K LC φ w h2 → zx_B g0 T n φ w m' 0 g2 → zk_G h0 g0 T n K LC M0 M 0 X (zd_B (f_Ps_statements (Dc + 1) h2) fun x2 h3 => zd_B (f_Tr_hang h3 (nI s) y x2) FA) ((if (g2.1 68 10) = 0 then (zd_B (f_Mo_add g2 (nI m) 11 ((g'.1 68 7)) 0) fun v5 h6 => ((f_Mo_statements Dm h6 v5).bind fun h8 => (some h8))) else (some g2)).bind FB) := by
    intro φ w z1 z2
    rw [if_neg (zx_ne z2), Option.bind_some]
    obtain ⟨⟨x2, h3⟩, e3, v3, z3⟩ := zz_statements (d := Dc) z1
    rw [e3, zo_B]
    exact bad φ w m' x2 h3 g2 (Nat.le_refl _) (by omega) v3 z3 z2
  rcases R with ⟨φ, w, z1, z2⟩ | ⟨_, ⟨f1, f2, LM2, hp, L2⟩ | ⟨φ, w, z1, z2⟩⟩
  · exact bad2 φ w z1 z2
  · have I2 := zk_It I f1 f2 hp L2
    rw [if_pos L2.2.2.2.2.2.2.1]
    refine zk_sK2 (e2 := 0) (e3 := e + 1) (S := [11]) (st' := st') I2 (zk_GM (SS (p := (g'.1 68 7)) L2 (Nat.le_refl _) hDc hDm (by omega) (by omega) (by omega)) (Nat.le_refl _) (Nat.le_refl 20950) (fun x h g R => zk_TTm R (Nat.le_refl _) (fun t W => zg_Tm W (fun _ z => z) hD))) (fun c hc => by rw [List.mem_singleton.mp hc]; exact hq) (by omega) bad (fun x h3 g3 u3 LM3 j3 s3 m3 vx hj I3 => good x h3 g3 u3 LM3 j3 s3 m3 vx (by omega) I3)
  · exact bad2 φ w z1 z2
/-- IF ends -/
theorem zk_ifE {Dc Dm : Nat} (SS : zk_SS h0 g0 T n K LC (d + 1)) (I : zk_I h0 g0 T n K LC LM j s m 0 0 b 15 p 0 h g g1 u y LM' j' (d + 1) s' m' e 2 (3 * (60 - d) + 3) f h' g') (vy : zq_v y) (hd : d < 60) (he : 1 ≤ e) (hf : 1 ≤ f) (hDc : 3 * (60 - d) + 1 ≤ Dc) (hDm : 4 * (60 - d) + 1 ≤ Dm) (hs : s ≤ 2 * j + 10) (hm : m ≤ 2 * j + 10) : zk_G h0 g0 T n K LC m 20950 0 (zk_T h0 g0 T n K LC LM (zg_T zg_Sx (3 * (60 - d) + 4)) j d s m 0 0 b h g) (f_Ps_ifStatement_94 (f_Ps_statements Dc) h' (nI s) y) ((f_Mo_choose_56 (g_Mo_body (f_Mo_statements Dm)) g' (nI m)).bind fun h10 => f_Mo_opened_42 h10) := by
  have v0 := zk_Iv I
  have b1 := zk_Ib I
  unfold f_Ps_ifStatement_94 f_Mo_choose_56 f_Mo_choose_71 f_Mo_opened_42 f_Ps_ifStatement_125
  have fin : ∀ {u2 : zt_T} {y2 : Int32} {LM2 : List (List Int32)} {j2 s2 m2 e2 st2 f2 : Nat} {h2 g2 : zs_H}, zk_I h0 g0 T n K LC LM j s m 0 0 b 15 p 0 h g g1 u2 y2 LM2 j2 (d + 1) s2 m2 e2 st2 (3 * (60 - d) + 3) f2 h2 g2 → (st2 = 2 ∨ st2 = 3) → 1 ≤ e2 → 1 ≤ f2 → zk_G h0 g0 T n K LC m 20950 0 (zk_T h0 g0 T n K LC LM (zg_T zg_Sx (3 * (60 - d) + 4)) j d s m 0 0 b h g) ((f_Ps_take h2 148).bind fun h2 => (some (nI s, (zs_uF h2 19 7 ((h2.1 19 7) - 1))))) ((f_Mo_wantWord g2 20).bind fun h2 => some (zs_uF h2 68 12 ((h2.1 68 12) - 1))) := by
    intro u2 y2 LM2 j2 s2 m2 e2 st2 f2 h2 g2 I2 hst he2 hf2
    have b2 := zk_Ib I2
    refine zk_sA I2 (zk_wantW I2.1 (c := 20) (by decide)) ?_ fun h3 g3 LM3 I3 => ?_
    · intro φ w hz gz z1 z2
      refine zk_Gf (φ := φ) (w := w) ?_ ?_
      · repeat' first
          | with_reducible exact zw_some.mpr ⟨by assumption, by assumption⟩
          | with_reducible exact zw_some.mpr ⟨by assumption, zz_open (by assumption)⟩
          | (rw [zw_B]; with_reducible refine zw_mono (zz_expression (by assumption)) ?_; rintro _ ⟨_, _⟩)
          | (rw [zw_B]; with_reducible refine zw_mono (zz_operand (by assumption)) ?_; rintro _ ⟨_, _⟩)
          | (rw [zw_B]; with_reducible refine zw_mono (zz_statements (by assumption)) ?_; rintro _ ⟨_, _⟩)
          | (rw [zw_bind]; with_reducible refine zw_mono (zz_take (by assumption)) ?_; intro _ _)
          | (rw [zw_B]; with_reducible refine zw_mono (zz_constant (by assumption)) ?_; rintro _ ⟨_, _⟩)
          | (rw [zw_B]; with_reducible refine zw_mono (zz_simpleType (by assumption)) ?_; rintro _ ⟨_, _⟩)
          | (rw [zw_B]; with_reducible refine zw_mono (zz_type (by assumption)) ?_; rintro _ ⟨_, _⟩)
          | (rw [zw_B]; with_reducible refine zw_mono (zz_whole (by assumption)) ?_; rintro _ ⟨_, _⟩)
          | (rw [zw_B]; with_reducible refine zw_mono (zz_add (by assumption)) ?_; rintro _ ⟨_, _⟩)
          | (rw [zw_B]; with_reducible refine zw_mono (zz_hang (by assumption) (by assumption) (by first | assumption | exact zq_vl_n | exact zq_vl_v (by assumption)) (by assumption)) ?_; rintro _ ⟨_, _⟩)
          | rw [if_pos (zq_at (by assumption))]
          | rw [zz_isCell (by assumption), if_pos rfl]
          | rw [if_neg (zq_ne (by assumption) (by decide) (by decide))]
          | rw [Option.bind_assoc]
          | rw [Option.bind_some]
      · repeat' first
          | (with_reducible refine zw_some.mpr ⟨_, ⟨?_, ?_⟩, by assumption⟩ <;> omega)
          | (with_reducible refine zw_some.mpr ⟨_, ⟨?_, ?_⟩, zx_Om (by assumption) ?_⟩ <;> omega)
          | (with_reducible refine zw_some.mpr ⟨_, ⟨?_, ?_⟩, zx_Om (zx_uF (by assumption) (Or.inl rfl)) ?_⟩ <;> omega)
          | (with_reducible refine zw_mono (zxb_142 (by assumption) (by omega)) ?_; intro _ z; exact ⟨_, by omega, z⟩)
          | (with_reducible refine zw_mono (zxb_142c (by assumption) (by omega)) ?_; intro _ z; exact ⟨_, by omega, z⟩)
          | (rw [zw_bind]; with_reducible refine zw_mono (zxb_body (by assumption)) ?_; intro _ _)
          | (rw [zw_bind]; with_reducible refine zw_mono (zxw_expr4 (by assumption)) ?_; intro _ _)
          | (rw [zw_bind]; with_reducible refine zw_mono (zxw_next2 (by assumption)) ?_; intro _ _)
          | (rw [zw_bind]; with_reducible refine zw_mono (zx_open (by assumption)) ?_; intro _ _)
          | (rw [zw_bind]; with_reducible refine zw_mono (zxw_expression (by assumption)) ?_; intro _ _)
          | (rw [zw_bind]; with_reducible refine zw_mono (zxw_operand (by assumption)) ?_; intro _ _)
          | (rw [zw_bind]; with_reducible refine zw_mono (zxb_keep (by assumption) (by omega)) ?_; intro _ _)
          | (rw [zw_B]; with_reducible refine zw_mono (zxb_node (by assumption) (by omega) rfl) ?_; rintro _ ⟨e1, _⟩; try rw [e1])
          | (rw [zw_bind]; with_reducible refine zw_mono (zxw_wantSign (by assumption)) ?_; intro _ _)
          | (rw [zw_bind]; with_reducible refine zw_mono (zxw_wantWord (by assumption)) ?_; intro _ _)
          | (rw [zw_bind]; with_reducible refine zw_mono (zxw_want (by assumption)) ?_; intro _ _)
          | (rw [zw_bind]; with_reducible refine zw_mono (zx_next (by assumption)) ?_; intro _ _)
          | (rw [zw_bind]; with_reducible refine zw_mono (zxb_constant (by assumption) (by omega) (by omega)) ?_; intro _ _)
          | (rw [zw_bind]; with_reducible refine zw_mono (zxw_simple (by assumption) (by omega) (by omega)) ?_; rintro _ ⟨_, _, _, _⟩)
          | (rw [zw_B]; with_reducible refine zw_mono (zxb_add (by assumption) (by omega) rfl (by omega)) ?_; rintro _ ⟨e1, _⟩; try rw [e1])
          | rw [zx_isSign (by assumption), if_pos rfl]
          | rw [zx_isWord (by assumption), if_pos rfl]
          | rw [if_neg (zx_ne (by assumption))]
          | rw [if_neg (zx_pos (by assumption))]
          | rw [if_pos (show (0 : Int32) ≤ 0 by decide)]
          | rw [Option.bind_assoc]
          | rw [Option.bind_some]
    have I4 := zk_Io I3 (d2 := d) (zfr_F (by decide) zfr_rfl) (zfr_F (by decide) zfr_rfl) (zk_close I3.1)
    exact ⟨nI s, _, _, rfl, rfl, Or.inl (zk_Tof (zk_IdT (S := zg_Sx) I4 (by rcases hst with z | z <;> subst z <;> rfl) (Or.inl rfl) (by decide) (by omega) (by decide)) (by omega))⟩
  rw [show f_Mo_isWord g' 19 = if (h'.1 19 5) = nI 147 then 1 else 0 from zk_word I.1 (c := 19) (by decide)]
  by_cases c : (h'.1 19 5) = 147
  · rw [if_pos c, if_pos (show (h'.1 19 5) = nI 147 from c), if_neg (show ¬ (1 : Int32) = 0 by decide), Option.bind_assoc]
    refine zk_sBody (st' := 3) SS I ⟨fun _ => c, fun _ => by decide⟩ (by decide) (by omega) (by omega) hs hm (by decide) (by omega) ?_ fun x h3 g3 u3 LM3 j3 s3 m3 vx hj I3 => ?_
    · intro φ w mz xz hz gz w1 w2 vz z1 z2
      refine zk_Gf (φ := φ) (w := w) ?_ ?_
      · repeat' first
          | with_reducible exact zw_some.mpr ⟨by assumption, by assumption⟩
          | with_reducible exact zw_some.mpr ⟨by assumption, zz_open (by assumption)⟩
          | (rw [zw_B]; with_reducible refine zw_mono (zz_expression (by assumption)) ?_; rintro _ ⟨_, _⟩)
          | (rw [zw_B]; with_reducible refine zw_mono (zz_operand (by assumption)) ?_; rintro _ ⟨_, _⟩)
          | (rw [zw_B]; with_reducible refine zw_mono (zz_statements (by assumption)) ?_; rintro _ ⟨_, _⟩)
          | (rw [zw_bind]; with_reducible refine zw_mono (zz_take (by assumption)) ?_; intro _ _)
          | (rw [zw_B]; with_reducible refine zw_mono (zz_constant (by assumption)) ?_; rintro _ ⟨_, _⟩)
          | (rw [zw_B]; with_reducible refine zw_mono (zz_simpleType (by assumption)) ?_; rintro _ ⟨_, _⟩)
          | (rw [zw_B]; with_reducible refine zw_mono (zz_type (by assumption)) ?_; rintro _ ⟨_, _⟩)
          | (rw [zw_B]; with_reducible refine zw_mono (zz_whole (by assumption)) ?_; rintro _ ⟨_, _⟩)
          | (rw [zw_B]; with_reducible refine zw_mono (zz_add (by assumption)) ?_; rintro _ ⟨_, _⟩)
          | (rw [zw_B]; with_reducible refine zw_mono (zz_hang (by assumption) (by assumption) (by first | assumption | exact zq_vl_n | exact zq_vl_v (by assumption)) (by assumption)) ?_; rintro _ ⟨_, _⟩)
          | rw [if_pos (zq_at (by assumption))]
          | rw [zz_isCell (by assumption), if_pos rfl]
          | rw [if_neg (zq_ne (by assumption) (by decide) (by decide))]
          | rw [Option.bind_assoc]
          | rw [Option.bind_some]
      · repeat' first
          | (with_reducible refine zw_some.mpr ⟨_, ⟨?_, ?_⟩, by assumption⟩ <;> omega)
          | (with_reducible refine zw_some.mpr ⟨_, ⟨?_, ?_⟩, zx_Om (by assumption) ?_⟩ <;> omega)
          | (with_reducible refine zw_some.mpr ⟨_, ⟨?_, ?_⟩, zx_Om (zx_uF (by assumption) (Or.inl rfl)) ?_⟩ <;> omega)
          | (with_reducible refine zw_mono (zxb_142 (by assumption) (by omega)) ?_; intro _ z; exact ⟨_, by omega, z⟩)
          | (with_reducible refine zw_mono (zxb_142c (by assumption) (by omega)) ?_; intro _ z; exact ⟨_, by omega, z⟩)
          | (rw [zw_bind]; with_reducible refine zw_mono (zxb_body (by assumption)) ?_; intro _ _)
          | (rw [zw_bind]; with_reducible refine zw_mono (zxw_expr4 (by assumption)) ?_; intro _ _)
          | (rw [zw_bind]; with_reducible refine zw_mono (zxw_next2 (by assumption)) ?_; intro _ _)
          | (rw [zw_bind]; with_reducible refine zw_mono (zx_open (by assumption)) ?_; intro _ _)
          | (rw [zw_bind]; with_reducible refine zw_mono (zxw_expression (by assumption)) ?_; intro _ _)
          | (rw [zw_bind]; with_reducible refine zw_mono (zxw_operand (by assumption)) ?_; intro _ _)
          | (rw [zw_bind]; with_reducible refine zw_mono (zxb_keep (by assumption) (by omega)) ?_; intro _ _)
          | (rw [zw_B]; with_reducible refine zw_mono (zxb_node (by assumption) (by omega) rfl) ?_; rintro _ ⟨e1, _⟩; try rw [e1])
          | (rw [zw_bind]; with_reducible refine zw_mono (zxw_wantSign (by assumption)) ?_; intro _ _)
          | (rw [zw_bind]; with_reducible refine zw_mono (zxw_wantWord (by assumption)) ?_; intro _ _)
          | (rw [zw_bind]; with_reducible refine zw_mono (zxw_want (by assumption)) ?_; intro _ _)
          | (rw [zw_bind]; with_reducible refine zw_mono (zx_next (by assumption)) ?_; intro _ _)
          | (rw [zw_bind]; with_reducible refine zw_mono (zxb_constant (by assumption) (by omega) (by omega)) ?_; intro _ _)
          | (rw [zw_bind]; with_reducible refine zw_mono (zxw_simple (by assumption) (by omega) (by omega)) ?_; rintro _ ⟨_, _, _, _⟩)
          | (rw [zw_B]; with_reducible refine zw_mono (zxb_add (by assumption) (by omega) rfl (by omega)) ?_; rintro _ ⟨e1, _⟩; try rw [e1])
          | rw [zx_isSign (by assumption), if_pos rfl]
          | rw [zx_isWord (by assumption), if_pos rfl]
          | rw [if_neg (zx_ne (by assumption))]
          | rw [if_neg (zx_pos (by assumption))]
          | rw [if_pos (show (0 : Int32) ≤ 0 by decide)]
          | rw [Option.bind_assoc]
          | rw [Option.bind_some]
    simp only [Option.bind_assoc, Option.bind_some]
    exact fin I3 (Or.inr rfl) (by omega) (by omega)
  · rw [if_neg c, if_neg (show ¬ (h'.1 19 5) = nI 147 from c), if_pos (show (0 : Int32) = 0 from rfl)]
    simp only [Option.bind_assoc, Option.bind_some]
    exact fin I (Or.inl rfl) he hf
/-- the branches of an IF -/
theorem zk_ifL {Dc Dm : Nat} (SS : zk_SS h0 g0 T n K LC (d + 1)) (hd : d < 60) (hDc : 3 * (60 - d) + 1 ≤ Dc) (hDm : 4 * (60 - d) + 1 ≤ Dm) (hs : s ≤ 2 * j + 10) (hm : m ≤ 2 * j + 10) : ∀ (r N N' : Nat) {c : Nat} {wd : Int32} {y : Int32} {u : zt_T} {LM' : List (List Int32)} {j' s' m' e st f : Nat} {h' g' : zs_H}, zk_I h0 g0 T n K LC LM j s m 0 0 b 15 p 0 h g g1 u y LM' j' (d + 1) s' m' e st (3 * (60 - d) + 3) f h' g' → (st = 0 ∨ st = 2) → (h'.1 19 5) = wd → ¬ wd = 6 → K < j' + r → r + 2 ≤ N → r + 2 ≤ N' → c ≤ j' → zq_vl y → 1 ≤ f → zk_G h0 g0 T n K LC m 20950 0 (zk_T h0 g0 T n K LC LM (zg_T zg_Sx (3 * (60 - d) + 4)) j d s m 0 0 b h g) (f_Ps_ifStatement_L28 (f_Ps_statements Dc) N h' (nI s) y wd (nI c)) ((f_Mo_choose_L15 (g_Mo_body (f_Mo_statements Dm)) N' g' (nI m) 1).bind fun h10 => f_Mo_opened_42 h10) := by
  intro r
  induction r with
  | zero => intro N N' c wd y u LM' j' s' m' e st f h' g' I _ _ _ hr; have := zk_Ib I; omega
  | succ r ih =>
    intro N N' c wd y u LM' j' s' m' e st f h' g' I hst hwd hw6 hr hN hN' hc vy hf
    have v0 := zk_Iv I
    have b1 := zk_Ib I
    obtain ⟨N, rfl⟩ : ∃ z, N = z + 3 := ⟨N - 3, by omega⟩
    obtain ⟨N', rfl⟩ : ∃ z, N' = z + 3 := ⟨N' - 3, by omega⟩
    obtain ⟨Dc, rfl⟩ : ∃ z, Dc = z + 1 := ⟨Dc - 1, by omega⟩
    show zk_G _ _ _ _ _ _ _ _ _ _ (f_Ps_ifStatement_28 (f_Ps_statements (Dc + 1)) (f_Ps_ifStatement_L28 (f_Ps_statements (Dc + 1)) (N + 2)) h' (nI s) y wd (nI c)) ((f_Mo_choose_15 (g_Mo_body (f_Mo_statements Dm)) (f_Mo_choose_L15 (g_Mo_body (f_Mo_statements Dm)) (N' + 2)) g' (nI m) 1).bind fun h10 => f_Mo_opened_42 h10)
    unfold f_Ps_ifStatement_28 f_Mo_choose_15
    rw [if_neg (mt (zc_le (k := 16384) (t := c) (by decide) (by omega)).mp (by omega)), if_pos hwd, if_neg (show ¬ (1 : Int32) = 0 by decide), if_pos I.1.2.2.2.2.2.2.1]
    simp only [Option.bind_assoc]
    -- behind a fault both loops end
    have endc : ∀ φ w hz x2, zq_Z h0 T n K LC φ w hz → zw (f_Ps_ifStatement_L28 (f_Ps_statements (Dc + 1)) (N + 2) hz (nI s) x2 146 (nI c + 1)) (fun p => zq_v p.1 ∧ zq_Z h0 T n K LC φ w p.2) := by
      intro φ w hz x2 z1
      show zw (f_Ps_ifStatement_28 (f_Ps_statements (Dc + 1)) (f_Ps_ifStatement_L28 (f_Ps_statements (Dc + 1)) (N + 1)) hz (nI s) x2 146 (nI c + 1)) _
      unfold f_Ps_ifStatement_28 f_Ps_ifStatement_94 f_Ps_ifStatement_125
      rw [if_neg (zq_ne z1 (by decide) (by decide)), if_neg (zq_ne z1 (by decide) (by decide))]
      split
      · repeat' first
          | with_reducible exact zw_some.mpr ⟨by assumption, by assumption⟩
          | with_reducible exact zw_some.mpr ⟨by assumption, zz_open (by assumption)⟩
          | (rw [zw_B]; with_reducible refine zw_mono (zz_expression (by assumption)) ?_; rintro _ ⟨_, _⟩)
          | (rw [zw_B]; with_reducible refine zw_mono (zz_operand (by assumption)) ?_; rintro _ ⟨_, _⟩)
          | (rw [zw_B]; with_reducible refine zw_mono (zz_statements (by assumption)) ?_; rintro _ ⟨_, _⟩)
          | (rw [zw_bind]; with_reducible refine zw_mono (zz_take (by assumption)) ?_; intro _ _)
          | (rw [zw_B]; with_reducible refine zw_mono (zz_constant (by assumption)) ?_; rintro _ ⟨_, _⟩)
          | (rw [zw_B]; with_reducible refine zw_mono (zz_simpleType (by assumption)) ?_; rintro _ ⟨_, _⟩)
          | (rw [zw_B]; with_reducible refine zw_mono (zz_type (by assumption)) ?_; rintro _ ⟨_, _⟩)
          | (rw [zw_B]; with_reducible refine zw_mono (zz_whole (by assumption)) ?_; rintro _ ⟨_, _⟩)
          | (rw [zw_B]; with_reducible refine zw_mono (zz_add (by assumption)) ?_; rintro _ ⟨_, _⟩)
          | (rw [zw_B]; with_reducible refine zw_mono (zz_hang (by assumption) (by assumption) (by first | assumption | exact zq_vl_n | exact zq_vl_v (by assumption)) (by assumption)) ?_; rintro _ ⟨_, _⟩)
          | rw [if_pos (zq_at (by assumption))]
          | rw [zz_isCell (by assumption), if_pos rfl]
          | rw [if_neg (zq_ne (by assumption) (by decide) (by decide))]
          | rw [Option.bind_assoc]
          | rw [Option.bind_some]
      · repeat' first
          | with_reducible exact zw_some.mpr ⟨by assumption, by assumption⟩
          | with_reducible exact zw_some.mpr ⟨by assumption, zz_open (by assumption)⟩
          | (rw [zw_B]; with_reducible refine zw_mono (zz_expression (by assumption)) ?_; rintro _ ⟨_, _⟩)
          | (rw [zw_B]; with_reducible refine zw_mono (zz_operand (by assumption)) ?_; rintro _ ⟨_, _⟩)
          | (rw [zw_B]; with_reducible refine zw_mono (zz_statements (by assumption)) ?_; rintro _ ⟨_, _⟩)
          | (rw [zw_bind]; with_reducible refine zw_mono (zz_take (by assumption)) ?_; intro _ _)
          | (rw [zw_B]; with_reducible refine zw_mono (zz_constant (by assumption)) ?_; rintro _ ⟨_, _⟩)
          | (rw [zw_B]; with_reducible refine zw_mono (zz_simpleType (by assumption)) ?_; rintro _ ⟨_, _⟩)
          | (rw [zw_B]; with_reducible refine zw_mono (zz_type (by assumption)) ?_; rintro _ ⟨_, _⟩)
          | (rw [zw_B]; with_reducible refine zw_mono (zz_whole (by assumption)) ?_; rintro _ ⟨_, _⟩)
          | (rw [zw_B]; with_reducible refine zw_mono (zz_add (by assumption)) ?_; rintro _ ⟨_, _⟩)
          | (rw [zw_B]; with_reducible refine zw_mono (zz_hang (by assumption) (by assumption) (by first | assumption | exact zq_vl_n | exact zq_vl_v (by assumption)) (by assumption)) ?_; rintro _ ⟨_, _⟩)
          | rw [if_pos (zq_at (by assumption))]
          | rw [zz_isCell (by assumption), if_pos rfl]
          | rw [if_neg (zq_ne (by assumption) (by decide) (by decide))]
          | rw [Option.bind_assoc]
          | rw [Option.bind_some]
    have endm : ∀ φ w gz m2, m ≤ m2 → m2 ≤ 20950 → zx_B g0 T n φ w m2 0 gz → zw ((f_Mo_choose_L15 (g_Mo_body (f_Mo_statements Dm)) (N' + 2) gz (nI m) (f_Mo_isWord gz 18)).bind fun h10 => f_Mo_opened_42 h10) (fun g' => ∃ m', (m ≤ m' ∧ m' ≤ 20950) ∧ zx_B g0 T n φ w m' 0 g') := by
      intro φ w gz m2 hm1 hm2 z2
      rw [zx_isWord z2]
      show zw ((f_Mo_choose_15 (g_Mo_body (f_Mo_statements Dm)) (f_Mo_choose_L15 (g_Mo_body (f_Mo_statements Dm)) (N' + 1)) gz (nI m) 0).bind fun h10 => f_Mo_opened_42 h10) _
      unfold f_Mo_choose_15 f_Mo_choose_56 f_Mo_choose_71 f_Mo_opened_42
      rw [if_pos (show (0 : Int32) = 0 from rfl), zx_isWord z2, if_pos (show (0 : Int32) = 0 from rfl), zx_wantWord z2, Option.bind_some, Option.bind_some, zw_some]
      exact ⟨m2, by omega, zx_uF z2 (Or.inl rfl)⟩
    refine zk_sN I hwd hw6 ?_ fun h2 g2 LM2 I2 => ?_
    · intro φ w hz gz z1 z2
      refine zk_Gf (φ := φ) (w := w) ?_ ?_
      · repeat' first
          | with_reducible exact zw_some.mpr ⟨by assumption, by assumption⟩
          | with_reducible exact zw_some.mpr ⟨by assumption, zz_open (by assumption)⟩
          | (rw [zw_B]; with_reducible refine zw_mono (zz_expression (by assumption)) ?_; rintro _ ⟨_, _⟩)
          | (rw [zw_B]; with_reducible refine zw_mono (zz_operand (by assumption)) ?_; rintro _ ⟨_, _⟩)
          | (rw [zw_B]; with_reducible refine zw_mono (zz_statements (by assumption)) ?_; rintro _ ⟨_, _⟩)
          | (rw [zw_bind]; with_reducible refine zw_mono (zz_take (by assumption)) ?_; intro _ _)
          | (rw [zw_B]; with_reducible refine zw_mono (zz_constant (by assumption)) ?_; rintro _ ⟨_, _⟩)
          | (rw [zw_B]; with_reducible refine zw_mono (zz_simpleType (by assumption)) ?_; rintro _ ⟨_, _⟩)
          | (rw [zw_B]; with_reducible refine zw_mono (zz_type (by assumption)) ?_; rintro _ ⟨_, _⟩)
          | (rw [zw_B]; with_reducible refine zw_mono (zz_whole (by assumption)) ?_; rintro _ ⟨_, _⟩)
          | (rw [zw_B]; with_reducible refine zw_mono (zz_add (by assumption)) ?_; rintro _ ⟨_, _⟩)
          | (rw [zw_B]; with_reducible refine zw_mono (zz_hang (by assumption) (by assumption) (by first | assumption | exact zq_vl_n | exact zq_vl_v (by assumption)) (by assumption)) ?_; rintro _ ⟨_, _⟩)
          | rw [if_pos (zq_at (by assumption))]
          | rw [zz_isCell (by assumption), if_pos rfl]
          | rw [if_neg (zq_ne (by assumption) (by decide) (by decide))]
          | rw [Option.bind_assoc]
          | rw [Option.bind_some]
        exact endc φ w _ _ (by assumption)
      · repeat' first
          | (with_reducible refine zw_some.mpr ⟨_, ⟨?_, ?_⟩, by assumption⟩ <;> omega)
          | (with_reducible refine zw_some.mpr ⟨_, ⟨?_, ?_⟩, zx_Om (by assumption) ?_⟩ <;> omega)
          | (with_reducible refine zw_some.mpr ⟨_, ⟨?_, ?_⟩, zx_Om (zx_uF (by assumption) (Or.inl rfl)) ?_⟩ <;> omega)
          | (with_reducible refine zw_mono (zxb_142 (by assumption) (by omega)) ?_; intro _ z; exact ⟨_, by omega, z⟩)
          | (with_reducible refine zw_mono (zxb_142c (by assumption) (by omega)) ?_; intro _ z; exact ⟨_, by omega, z⟩)
          | (rw [zw_bind]; with_reducible refine zw_mono (zxb_body (by assumption)) ?_; intro _ _)
          | (rw [zw_bind]; with_reducible refine zw_mono (zxw_expr4 (by assumption)) ?_; intro _ _)
          | (rw [zw_bind]; with_reducible refine zw_mono (zxw_next2 (by assumption)) ?_; intro _ _)
          | (rw [zw_bind]; with_reducible refine zw_mono (zx_open (by assumption)) ?_; intro _ _)
          | (rw [zw_bind]; with_reducible refine zw_mono (zxw_expression (by assumption)) ?_; intro _ _)
          | (rw [zw_bind]; with_reducible refine zw_mono (zxw_operand (by assumption)) ?_; intro _ _)
          | (rw [zw_bind]; with_reducible refine zw_mono (zxb_keep (by assumption) (by omega)) ?_; intro _ _)
          | (rw [zw_B]; with_reducible refine zw_mono (zxb_node (by assumption) (by omega) rfl) ?_; rintro _ ⟨e1, _⟩; try rw [e1])
          | (rw [zw_bind]; with_reducible refine zw_mono (zxw_wantSign (by assumption)) ?_; intro _ _)
          | (rw [zw_bind]; with_reducible refine zw_mono (zxw_wantWord (by assumption)) ?_; intro _ _)
          | (rw [zw_bind]; with_reducible refine zw_mono (zxw_want (by assumption)) ?_; intro _ _)
          | (rw [zw_bind]; with_reducible refine zw_mono (zx_next (by assumption)) ?_; intro _ _)
          | (rw [zw_bind]; with_reducible refine zw_mono (zxb_constant (by assumption) (by omega) (by omega)) ?_; intro _ _)
          | (rw [zw_bind]; with_reducible refine zw_mono (zxw_simple (by assumption) (by omega) (by omega)) ?_; rintro _ ⟨_, _, _, _⟩)
          | (rw [zw_B]; with_reducible refine zw_mono (zxb_add (by assumption) (by omega) rfl (by omega)) ?_; rintro _ ⟨e1, _⟩; try rw [e1])
          | rw [zx_isSign (by assumption), if_pos rfl]
          | rw [zx_isWord (by assumption), if_pos rfl]
          | rw [if_neg (zx_ne (by assumption))]
          | rw [if_neg (zx_pos (by assumption))]
          | rw [if_pos (show (0 : Int32) ≤ 0 by decide)]
          | rw [Option.bind_assoc]
          | rw [Option.bind_some]
        refine endm φ w _ _ ?_ ?_ (by assumption) <;> omega
    have b2 := zk_Ib I2
    refine zk_sK2 (e2 := 1) (e3 := e + 2) (S := zg_E) (st' := 1) I2 (zk_GM (zk_wexprD I2.1 (by decide) (by omega) (by omega) (by omega)) (Nat.le_refl _) (Nat.le_refl 20900) (fun x h g R => zk_TTm R (Nat.le_refl _) (fun t W => zg_Tm W (fun _ z => z) (by omega)))) (by rcases hst with z | z <;> subst z <;> decide) (by omega) ?_ fun x3 h3 g3 u3 LM3 j3 s3 m3 vx3 hj3 I3 => ?_
    · intro φ w mz xz hz gz w1 w2 vz z1 z2
      refine zk_Gf (φ := φ) (w := w) ?_ ?_
      · repeat' first
          | with_reducible exact zw_some.mpr ⟨by assumption, by assumption⟩
          | with_reducible exact zw_some.mpr ⟨by assumption, zz_open (by assumption)⟩
          | (rw [zw_B]; with_reducible refine zw_mono (zz_expression (by assumption)) ?_; rintro _ ⟨_, _⟩)
          | (rw [zw_B]; with_reducible refine zw_mono (zz_operand (by assumption)) ?_; rintro _ ⟨_, _⟩)
          | (rw [zw_B]; with_reducible refine zw_mono (zz_statements (by assumption)) ?_; rintro _ ⟨_, _⟩)
          | (rw [zw_bind]; with_reducible refine zw_mono (zz_take (by assumption)) ?_; intro _ _)
          | (rw [zw_B]; with_reducible refine zw_mono (zz_constant (by assumption)) ?_; rintro _ ⟨_, _⟩)
          | (rw [zw_B]; with_reducible refine zw_mono (zz_simpleType (by assumption)) ?_; rintro _ ⟨_, _⟩)
          | (rw [zw_B]; with_reducible refine zw_mono (zz_type (by assumption)) ?_; rintro _ ⟨_, _⟩)
          | (rw [zw_B]; with_reducible refine zw_mono (zz_whole (by assumption)) ?_; rintro _ ⟨_, _⟩)
          | (rw [zw_B]; with_reducible refine zw_mono (zz_add (by assumption)) ?_; rintro _ ⟨_, _⟩)
          | (rw [zw_B]; with_reducible refine zw_mono (zz_hang (by assumption) (by assumption) (by first | assumption | exact zq_vl_n | exact zq_vl_v (by assumption)) (by assumption)) ?_; rintro _ ⟨_, _⟩)
          | rw [if_pos (zq_at (by assumption))]
          | rw [zz_isCell (by assumption), if_pos rfl]
          | rw [if_neg (zq_ne (by assumption) (by decide) (by decide))]
          | rw [Option.bind_assoc]
          | rw [Option.bind_some]
        exact endc φ w _ _ (by assumption)
      · repeat' first
          | (with_reducible refine zw_some.mpr ⟨_, ⟨?_, ?_⟩, by assumption⟩ <;> omega)
          | (with_reducible refine zw_some.mpr ⟨_, ⟨?_, ?_⟩, zx_Om (by assumption) ?_⟩ <;> omega)
          | (with_reducible refine zw_some.mpr ⟨_, ⟨?_, ?_⟩, zx_Om (zx_uF (by assumption) (Or.inl rfl)) ?_⟩ <;> omega)
          | (with_reducible refine zw_mono (zxb_142 (by assumption) (by omega)) ?_; intro _ z; exact ⟨_, by omega, z⟩)
          | (with_reducible refine zw_mono (zxb_142c (by assumption) (by omega)) ?_; intro _ z; exact ⟨_, by omega, z⟩)
          | (rw [zw_bind]; with_reducible refine zw_mono (zxb_body (by assumption)) ?_; intro _ _)
          | (rw [zw_bind]; with_reducible refine zw_mono (zxw_expr4 (by assumption)) ?_; intro _ _)
          | (rw [zw_bind]; with_reducible refine zw_mono (zxw_next2 (by assumption)) ?_; intro _ _)
          | (rw [zw_bind]; with_reducible refine zw_mono (zx_open (by assumption)) ?_; intro _ _)
          | (rw [zw_bind]; with_reducible refine zw_mono (zxw_expression (by assumption)) ?_; intro _ _)
          | (rw [zw_bind]; with_reducible refine zw_mono (zxw_operand (by assumption)) ?_; intro _ _)
          | (rw [zw_bind]; with_reducible refine zw_mono (zxb_keep (by assumption) (by omega)) ?_; intro _ _)
          | (rw [zw_B]; with_reducible refine zw_mono (zxb_node (by assumption) (by omega) rfl) ?_; rintro _ ⟨e1, _⟩; try rw [e1])
          | (rw [zw_bind]; with_reducible refine zw_mono (zxw_wantSign (by assumption)) ?_; intro _ _)
          | (rw [zw_bind]; with_reducible refine zw_mono (zxw_wantWord (by assumption)) ?_; intro _ _)
          | (rw [zw_bind]; with_reducible refine zw_mono (zxw_want (by assumption)) ?_; intro _ _)
          | (rw [zw_bind]; with_reducible refine zw_mono (zx_next (by assumption)) ?_; intro _ _)
          | (rw [zw_bind]; with_reducible refine zw_mono (zxb_constant (by assumption) (by omega) (by omega)) ?_; intro _ _)
          | (rw [zw_bind]; with_reducible refine zw_mono (zxw_simple (by assumption) (by omega) (by omega)) ?_; rintro _ ⟨_, _, _, _⟩)
          | (rw [zw_B]; with_reducible refine zw_mono (zxb_add (by assumption) (by omega) rfl (by omega)) ?_; rintro _ ⟨e1, _⟩; try rw [e1])
          | rw [zx_isSign (by assumption), if_pos rfl]
          | rw [zx_isWord (by assumption), if_pos rfl]
          | rw [if_neg (zx_ne (by assumption))]
          | rw [if_neg (zx_pos (by assumption))]
          | rw [if_pos (show (0 : Int32) ≤ 0 by decide)]
          | rw [Option.bind_assoc]
          | rw [Option.bind_some]
        refine endm φ w _ _ ?_ ?_ (by assumption) <;> omega
    have b3 := zk_Ib I3
    refine zk_sBody (st' := 2) SS I3 (yy := f_Mo_isWord g3 17) (x := 145) (by rw [show f_Mo_isWord g3 17 = if (h3.1 19 5) = nI 145 then 1 else 0 from zk_word I3.1 (c := 17) (by decide)]; by_cases z : (h3.1 19 5) = 145; (rw [if_pos (show (h3.1 19 5) = nI 145 from z)]; exact ⟨fun _ => z, fun _ => by decide⟩); (rw [if_neg (show ¬ (h3.1 19 5) = nI 145 from z)]; exact ⟨fun w => absurd rfl w, fun w => absurd w z⟩)) (by decide) (by omega) (by omega) hs hm (by decide) (by omega) ?_ fun x4 h4 g4 u4 LM4 j4 s4 m4 vx4 hj4 I4 => ?_
    · intro φ w mz xz hz gz w1 w2 vz z1 z2
      refine zk_Gf (φ := φ) (w := w) ?_ ?_
      · repeat' first
          | with_reducible exact zw_some.mpr ⟨by assumption, by assumption⟩
          | with_reducible exact zw_some.mpr ⟨by assumption, zz_open (by assumption)⟩
          | (rw [zw_B]; with_reducible refine zw_mono (zz_expression (by assumption)) ?_; rintro _ ⟨_, _⟩)
          | (rw [zw_B]; with_reducible refine zw_mono (zz_operand (by assumption)) ?_; rintro _ ⟨_, _⟩)
          | (rw [zw_B]; with_reducible refine zw_mono (zz_statements (by assumption)) ?_; rintro _ ⟨_, _⟩)
          | (rw [zw_bind]; with_reducible refine zw_mono (zz_take (by assumption)) ?_; intro _ _)
          | (rw [zw_B]; with_reducible refine zw_mono (zz_constant (by assumption)) ?_; rintro _ ⟨_, _⟩)
          | (rw [zw_B]; with_reducible refine zw_mono (zz_simpleType (by assumption)) ?_; rintro _ ⟨_, _⟩)
          | (rw [zw_B]; with_reducible refine zw_mono (zz_type (by assumption)) ?_; rintro _ ⟨_, _⟩)
          | (rw [zw_B]; with_reducible refine zw_mono (zz_whole (by assumption)) ?_; rintro _ ⟨_, _⟩)
          | (rw [zw_B]; with_reducible refine zw_mono (zz_add (by assumption)) ?_; rintro _ ⟨_, _⟩)
          | (rw [zw_B]; with_reducible refine zw_mono (zz_hang (by assumption) (by assumption) (by first | assumption | exact zq_vl_n | exact zq_vl_v (by assumption)) (by assumption)) ?_; rintro _ ⟨_, _⟩)
          | rw [if_pos (zq_at (by assumption))]
          | rw [zz_isCell (by assumption), if_pos rfl]
          | rw [if_neg (zq_ne (by assumption) (by decide) (by decide))]
          | rw [Option.bind_assoc]
          | rw [Option.bind_some]
        exact endc φ w _ _ (by assumption)
      · exact endm φ w _ _ (by omega) (by omega) z2
    have b4 := zk_Ib I4
    rw [nI_1]
    rw [show f_Mo_isWord g4 18 = if (h4.1 19 5) = nI 146 then 1 else 0 from zk_word I4.1 (c := 18) (by decide)]
    by_cases c46 : (h4.1 19 5) = 146
    · rw [if_pos (show (h4.1 19 5) = nI 146 from c46)]
      exact ih (N + 2) (N' + 2) (c := c + 1) I4 (Or.inr rfl) c46 (by decide) (by omega) (by omega) (by omega) (by omega) (zq_vl_v vx4) (by omega)
    · rw [if_neg (show ¬ (h4.1 19 5) = nI 146 from c46)]
      have ec : f_Ps_ifStatement_L28 (f_Ps_statements (Dc + 1)) (N + 2) h4 (nI s) x4 146 (nI (c + 1)) = f_Ps_ifStatement_94 (f_Ps_statements (Dc + 1)) h4 (nI s) x4 := by
        show f_Ps_ifStatement_28 (f_Ps_statements (Dc + 1)) (f_Ps_ifStatement_L28 (f_Ps_statements (Dc + 1)) (N + 1)) h4 (nI s) x4 146 (nI (c + 1)) = _
        unfold f_Ps_ifStatement_28
        rw [if_neg c46]
        split <;> rfl
      have em : f_Mo_choose_L15 (g_Mo_body (f_Mo_statements Dm)) (N' + 2) g4 (nI m) 0 = f_Mo_choose_56 (g_Mo_body (f_Mo_statements Dm)) g4 (nI m) := by
        show f_Mo_choose_15 (g_Mo_body (f_Mo_statements Dm)) (f_Mo_choose_L15 (g_Mo_body (f_Mo_statements Dm)) (N' + 1)) g4 (nI m) 0 = _
        unfold f_Mo_choose_15
        rw [if_pos (show (0 : Int32) = 0 from rfl)]
      rw [ec, em]
      exact zk_ifE SS I4 vx4 hd (by omega) (by omega) hDc hDm hs hm
/-- IF -/
theorem zk_if {Dc Dm b : Nat} (SS : d < 60 → zk_SS h0 g0 T n K LC (d + 1)) (H : zk_L h0 g0 T n K LC h g LM j d s m 0 0) (ht : (h.1 19 5) = 144) (hDc : 3 * (60 - d) + 1 ≤ Dc) (hDm : 4 * (60 - d) + 1 ≤ Dm) (hs : s ≤ 2 * j + 10) (hm : m ≤ 2 * j + 10) (hb : b < m) : zk_G h0 g0 T n K LC m 20950 0 (zk_T h0 g0 T n K LC LM (zg_T zg_Sx (3 * (60 - d) + 4)) j d s m 0 0 b h g) (g_Ps_ifStatement (f_Ps_statements Dc) h) ((f_Mo_open g).bind fun h2 => (g_Mo_choose (g_Mo_body (f_Mo_statements Dm)) h2 (nI b)).bind fun h10 => f_Mo_opened_42 h10) := by
  have bK := zk_bK H
  have v0 : zq_v (nI s) := ⟨s, by omega, rfl⟩
  obtain ⟨Dc, rfl⟩ : ∃ z, Dc = z + 1 := ⟨Dc - 1, by omega⟩
  unfold g_Ps_ifStatement g_Mo_choose
  rw [show zF = 18446744073709551614 + 2 from rfl]
  obtain ⟨h1, e1, L1, qA⟩ := zk_cadd H (kd := 15) (kv := 15) (v := 0) (by omega) (by decide) rfl
  rw [e1, zo_B]
  obtain ⟨h2, g2, e2, e3, R⟩ := zk_deep L1
  rw [e2, e3, Option.bind_some, Option.bind_some]
  rcases R with ⟨hd, L2, f1, f2⟩ | ⟨φ, w, z1, z2⟩
  · obtain ⟨q1, q2, q3, q4, q5, q6, q7⟩ := id qA
    have kf := zq_kp_f (s := s + 1) f1
    obtain ⟨c1, c2, c3, c4, c5⟩ := kf s (by omega)
    obtain ⟨g3, e4, I⟩ := zk_I1 (D := 3 * (60 - d) + 3) (j := j) (h := h) (g := g) (LM := LM) (km := 15) (w := 0) (b := b) (kd := 15) (v := 0) (p := nI (zl_at T n j).2.1) L2 (List.prefix_refl _) (Nat.le_refl _) (zq_kp_t (zq_kp_A qA) kf (by omega)) ⟨c1.trans (by rw [q2, if_pos rfl]), c2.trans (by rw [q3, if_pos rfl]), c3.trans (by rw [q4, if_pos rfl]), c5.trans (by rw [q6, if_pos rfl]), c4.trans (by rw [q5, if_pos rfl])⟩ (zx_ka_f f2) (by omega) (by omega) hb rfl (by rw [if_neg (by decide)])
    have m4 := L2.2.2.2.2.2.2.2.2.1
    rw [m4, e4, zo_B]
    exact zk_ifL (SS hd) hd hDc hDm hs hm (K + 1) _ _ (c := 0) (wd := 144) I (Or.inl rfl) (by rw [L2.2.2.2.1.2.2.1, ← H.2.2.2.1.2.2.1]; exact ht) (by decide) (by omega) (by omega) (by omega) (by omega) zq_vl_n (by omega)
  · refine zk_Gf (φ := φ) (w := w) ?_ ?_
    · show zw (f_Ps_ifStatement_28 (f_Ps_statements (Dc + 1)) (f_Ps_ifStatement_L28 (f_Ps_statements (Dc + 1)) (18446744073709551614 + 1)) h2 (nI s) (-1) 144 0) _
      unfold f_Ps_ifStatement_28 f_Ps_ifStatement_94 f_Ps_ifStatement_125
      rw [if_neg (zq_ne z1 (by decide) (by decide)), if_neg (zq_ne z1 (by decide) (by decide))]
      split
      · repeat' first
          | with_reducible exact zw_some.mpr ⟨by assumption, by assumption⟩
          | with_reducible exact zw_some.mpr ⟨by assumption, zz_open (by assumption)⟩
          | (rw [zw_B]; with_reducible refine zw_mono (zz_expression (by assumption)) ?_; rintro _ ⟨_, _⟩)
          | (rw [zw_B]; with_reducible refine zw_mono (zz_operand (by assumption)) ?_; rintro _ ⟨_, _⟩)
          | (rw [zw_B]; with_reducible refine zw_mono (zz_statements (by assumption)) ?_; rintro _ ⟨_, _⟩)
          | (rw [zw_bind]; with_reducible refine zw_mono (zz_take (by assumption)) ?_; intro _ _)
          | (rw [zw_B]; with_reducible refine zw_mono (zz_constant (by assumption)) ?_; rintro _ ⟨_, _⟩)
          | (rw [zw_B]; with_reducible refine zw_mono (zz_simpleType (by assumption)) ?_; rintro _ ⟨_, _⟩)
          | (rw [zw_B]; with_reducible refine zw_mono (zz_type (by assumption)) ?_; rintro _ ⟨_, _⟩)
          | (rw [zw_B]; with_reducible refine zw_mono (zz_whole (by assumption)) ?_; rintro _ ⟨_, _⟩)
          | (rw [zw_B]; with_reducible refine zw_mono (zz_add (by assumption)) ?_; rintro _ ⟨_, _⟩)
          | (rw [zw_B]; with_reducible refine zw_mono (zz_hang (by assumption) (by assumption) (by first | assumption | exact zq_vl_n | exact zq_vl_v (by assumption)) (by assumption)) ?_; rintro _ ⟨_, _⟩)
          | rw [if_pos (zq_at (by assumption))]
          | rw [zz_isCell (by assumption), if_pos rfl]
          | rw [if_neg (zq_ne (by assumption) (by decide) (by decide))]
          | rw [Option.bind_assoc]
          | rw [Option.bind_some]
      · repeat' first
          | with_reducible exact zw_some.mpr ⟨by assumption, by assumption⟩
          | with_reducible exact zw_some.mpr ⟨by assumption, zz_open (by assumption)⟩
          | (rw [zw_B]; with_reducible refine zw_mono (zz_expression (by assumption)) ?_; rintro _ ⟨_, _⟩)
          | (rw [zw_B]; with_reducible refine zw_mono (zz_operand (by assumption)) ?_; rintro _ ⟨_, _⟩)
          | (rw [zw_B]; with_reducible refine zw_mono (zz_statements (by assumption)) ?_; rintro _ ⟨_, _⟩)
          | (rw [zw_bind]; with_reducible refine zw_mono (zz_take (by assumption)) ?_; intro _ _)
          | (rw [zw_B]; with_reducible refine zw_mono (zz_constant (by assumption)) ?_; rintro _ ⟨_, _⟩)
          | (rw [zw_B]; with_reducible refine zw_mono (zz_simpleType (by assumption)) ?_; rintro _ ⟨_, _⟩)
          | (rw [zw_B]; with_reducible refine zw_mono (zz_type (by assumption)) ?_; rintro _ ⟨_, _⟩)
          | (rw [zw_B]; with_reducible refine zw_mono (zz_whole (by assumption)) ?_; rintro _ ⟨_, _⟩)
          | (rw [zw_B]; with_reducible refine zw_mono (zz_add (by assumption)) ?_; rintro _ ⟨_, _⟩)
          | (rw [zw_B]; with_reducible refine zw_mono (zz_hang (by assumption) (by assumption) (by first | assumption | exact zq_vl_n | exact zq_vl_v (by assumption)) (by assumption)) ?_; rintro _ ⟨_, _⟩)
          | rw [if_pos (zq_at (by assumption))]
          | rw [zz_isCell (by assumption), if_pos rfl]
          | rw [if_neg (zq_ne (by assumption) (by decide) (by decide))]
          | rw [Option.bind_assoc]
          | rw [Option.bind_some]
    · obtain ⟨⟨x, g3⟩, e4, e5, z3⟩ := zxb_add (kd := 15) (kn := 15) (p := (g2.1 68 7)) (v := 0) (b := b) z2 (by omega) rfl hb
      rw [e4, zo_B]
      show zw ((f_Mo_choose_15 (g_Mo_body (f_Mo_statements Dm)) (f_Mo_choose_L15 (g_Mo_body (f_Mo_statements Dm)) (18446744073709551614 + 1)) g3 x 1).bind fun h10 => f_Mo_opened_42 h10) _
      unfold f_Mo_choose_15 f_Mo_choose_56 f_Mo_choose_71 f_Mo_opened_42
      rw [if_neg (show ¬ (1 : Int32) = 0 by decide), if_neg (zx_ne z3), zx_isWord z3, if_pos (show (0 : Int32) = 0 from rfl), zx_wantWord z3, Option.bind_some, Option.bind_some, zw_some]
      exact ⟨m + 1, by omega, zx_uF z3 (Or.inl rfl)⟩
end ZWw
