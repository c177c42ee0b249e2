section
/-! Both readers in step: CASE, FOR. -/
theorem zd_BB {α β γ : Type} {A : Option (α × zs_H)} {F : α → zs_H → Option (β × zs_H)} {G : β → zs_H → Option γ} : zd_B (zd_B A F) G = zd_B A fun a h => zd_B (F a h) G := by cases A <;> rfl
theorem zd_bB {α β γ : Type} {A : Option α} {F : α → Option (β × zs_H)} {G : β → zs_H → Option γ} : zd_B (A.bind F) G = A.bind fun a => zd_B (F a) G := by cases A <;> rfl
theorem zd_iB {α β : Type} {c : Prop} [Decidable c] {A B : Option (α × zs_H)} {G : α → zs_H → Option β} : zd_B (if c then A else B) G = if c then zd_B A G else zd_B B G := by split <;> rfl
theorem zd_Bb {α β γ : Type} {A : Option (α × zs_H)} {F : α → zs_H → Option β} {G : β → Option γ} : (zd_B A F).bind G = zd_B A fun a h => (F a h).bind G := by cases A <;> rfl
theorem zd_ib {α β : Type} {c : Prop} [Decidable c] {A B : Option α} {G : α → Option β} : (if c then A else B).bind G = if c then A.bind G else B.bind G := by split <;> rfl
section ZXz
variable {h0 g0 h g : zs_H} {T : Nat → Int32} {n K φ w m O : Nat} {LC : List (List Int32)}
theorem zz_rgL {N : Nat} {x1 x2 x4 : Int32} (H : zq_Z h0 T n K LC φ w h) (v1 : zq_v x1) (v2 : zq_v x2) : zw (f_Ps_ranges_L7 (N + 1) h x1 x2 0 x4) (fun p => zq_v p.1 ∧ zq_Z h0 T n K LC φ w p.2) := by
  show zw (f_Ps_ranges_7 (f_Ps_ranges_L7 N) h x1 x2 0 x4) _
  unfold f_Ps_ranges_7
  rw [if_pos (show (0 : Int32) = 0 from rfl)]
  split <;> exact zw_some.mpr ⟨v2, H⟩
theorem zz_rg80 {N : Nat} {x1 x2 x4 x5 : Int32} (H : zq_Z h0 T n K LC φ w h) (v1 : zq_v x1) (v2 : zq_vl x2) (v5 : zq_v x5) : zw (f_Ps_ranges_80 (f_Ps_ranges_L7 (N + 1)) h x1 x2 x4 x5) (fun p => zq_v p.1 ∧ zq_Z h0 T n K LC φ w p.2) := by
  unfold f_Ps_ranges_80
  rw [zw_B]
  refine zw_mono (zz_hang H v1 v2 v5) ?_
  rintro ⟨a, b⟩ ⟨c1, c2⟩
  rw [if_neg (zq_ne c2 (by decide) (by decide))]
  unfold f_Ps_ranges_106 f_Ps_ranges_119
  rw [if_pos (show (0 : Int32) = 0 from rfl), zw_bind]
  exact zw_mono (zz_take c2) fun h' z => zz_rgL z v1 c1
theorem zxb_r51 {rb : zs_H → Int32 → Int32 → Option zs_H} {k : zs_H → Int32 → Option zs_H} {N : Nat} {g : zs_H} {x2 x3 x4 : Int32} (H : zx_B g0 T n φ w m O g) : f_Mo_cases_L51 rb k (N + 1) g x2 x3 x4 = f_Mo_cases_123 rb k g x2 x3 := by
  show f_Mo_cases_51 rb k (f_Mo_cases_L51 rb k N) g x2 x3 x4 = _
  unfold f_Mo_cases_51
  split
  · rfl
  · rw [if_neg (zx_ne H)]
theorem zxb_r103 {rb : zs_H → Int32 → Int32 → Option zs_H} {k : zs_H → Int32 → Option zs_H} {N : Nat} {g : zs_H} {x2 x3 : Int32} (H : zx_B g0 T n φ w m O g) : f_Mo_cases_103 rb k (f_Mo_cases_L51 rb k (N + 1)) g x2 x3 = f_Mo_cases_123 rb k g x2 x3 := by
  unfold f_Mo_cases_103 f_Mo_cases_120
  rw [zx_isSign H, if_pos rfl, zxb_r51 H]
theorem zxb_beg (H : zx_B g0 T n φ w m O g) : f_Mo_beginsConstant g = 0 := by
  unfold f_Mo_beginsConstant
  rw [if_neg (zx_ne H)]
theorem zxb_c28 {rb : zs_H → Int32 → Int32 → Option zs_H} {N : Nat} {x : Int32} (H : zx_B g0 T n φ w m O g) : f_Mo_cases_L28 rb (N + 1) g x = some g := by
  show f_Mo_cases_28 rb (f_Mo_cases_L28 rb N) g x = _
  unfold f_Mo_cases_28 f_Mo_cases_152
  rw [zxb_beg H, if_pos rfl, zx_isWord H, if_pos rfl, zx_wantWord H]; rfl
theorem zxb_123 {rs : zs_H → Int32 → Option zs_H} {k : zs_H → Int32 → Option zs_H} {x2 x3 : Int32} (H : zx_B g0 T n φ w m O g) : f_Mo_cases_123 (g_Mo_body rs) k g x2 x3 = k g x2 := by
  unfold f_Mo_cases_123 g_Mo_body
  rw [zx_want H, Option.bind_some, if_neg (zx_ne H), Option.bind_some]
theorem zz_cs {Dc N : Nat} {x1 x2 x3 : Int32} (H : zq_Z h0 T n K LC φ w h) (v1 : zq_v x1) : zw (f_Ps_caseStatement_L49 (f_Ps_statements (Dc + 1)) (N + 1) h x1 x2 x3) (fun p => zq_v p.1 ∧ zq_Z h0 T n K LC φ w p.2) := by
  show zw (f_Ps_caseStatement_49 (f_Ps_statements (Dc + 1)) (f_Ps_caseStatement_L49 (f_Ps_statements (Dc + 1)) N) h x1 x2 x3) _
  unfold f_Ps_caseStatement_49 f_Ps_caseStatement_121 f_Ps_caseStatement_152
  rw [zz_isConstant H, if_pos (show (0 : Int32) = 0 from rfl)]
  split
  · repeat' first
      | with_reducible exact zw_some.mpr ⟨by assumption, by assumption⟩
      | with_reducible exact zw_some.mpr ⟨by assumption, zz_open (by assumption)⟩
      | (rw [zw_B]; with_reducible refine zw_mono (zz_expression (by assumption)) ?_; rintro _ ⟨_, _⟩)
      | (rw [zw_B]; with_reducible refine zw_mono (zz_operand (by assumption)) ?_; rintro _ ⟨_, _⟩)
      | (rw [zw_B]; with_reducible refine zw_mono (zz_statements (by assumption)) ?_; rintro _ ⟨_, _⟩)
      | (rw [zw_bind]; with_reducible refine zw_mono (zz_take (by assumption)) ?_; intro _ _)
      | (rw [zw_B]; with_reducible refine zw_mono (zz_constant (by assumption)) ?_; rintro _ ⟨_, _⟩)
      | (rw [zw_B]; with_reducible refine zw_mono (zz_simpleType (by assumption)) ?_; rintro _ ⟨_, _⟩)
      | (rw [zw_B]; with_reducible refine zw_mono (zz_type (by assumption)) ?_; rintro _ ⟨_, _⟩)
      | (rw [zw_B]; with_reducible refine zw_mono (zz_whole (by assumption)) ?_; rintro _ ⟨_, _⟩)
      | (rw [zw_B]; with_reducible refine zw_mono (zz_add (by assumption)) ?_; rintro _ ⟨_, _⟩)
      | (rw [zw_B]; with_reducible refine zw_mono (zz_hang (by assumption) (by assumption) (by first | assumption | exact zq_vl_n | exact zq_vl_v (by assumption)) (by assumption)) ?_; rintro _ ⟨_, _⟩)
      | rw [if_pos (zq_at (by assumption))]
      | rw [zz_isCell (by assumption), if_pos rfl]
      | rw [if_neg (zq_ne (by assumption) (by decide) (by decide))]
      | rw [Option.bind_assoc]
      | rw [Option.bind_some]
  · repeat' first
      | with_reducible exact zw_some.mpr ⟨by assumption, by assumption⟩
      | with_reducible exact zw_some.mpr ⟨by assumption, zz_open (by assumption)⟩
      | (rw [zw_B]; with_reducible refine zw_mono (zz_expression (by assumption)) ?_; rintro _ ⟨_, _⟩)
      | (rw [zw_B]; with_reducible refine zw_mono (zz_operand (by assumption)) ?_; rintro _ ⟨_, _⟩)
      | (rw [zw_B]; with_reducible refine zw_mono (zz_statements (by assumption)) ?_; rintro _ ⟨_, _⟩)
      | (rw [zw_bind]; with_reducible refine zw_mono (zz_take (by assumption)) ?_; intro _ _)
      | (rw [zw_B]; with_reducible refine zw_mono (zz_constant (by assumption)) ?_; rintro _ ⟨_, _⟩)
      | (rw [zw_B]; with_reducible refine zw_mono (zz_simpleType (by assumption)) ?_; rintro _ ⟨_, _⟩)
      | (rw [zw_B]; with_reducible refine zw_mono (zz_type (by assumption)) ?_; rintro _ ⟨_, _⟩)
      | (rw [zw_B]; with_reducible refine zw_mono (zz_whole (by assumption)) ?_; rintro _ ⟨_, _⟩)
      | (rw [zw_B]; with_reducible refine zw_mono (zz_add (by assumption)) ?_; rintro _ ⟨_, _⟩)
      | (rw [zw_B]; with_reducible refine zw_mono (zz_hang (by assumption) (by assumption) (by first | assumption | exact zq_vl_n | exact zq_vl_v (by assumption)) (by assumption)) ?_; rintro _ ⟨_, _⟩)
      | rw [if_pos (zq_at (by assumption))]
      | rw [zz_isCell (by assumption), if_pos rfl]
      | rw [if_neg (zq_ne (by assumption) (by decide) (by decide))]
      | rw [Option.bind_assoc]
      | rw [Option.bind_some]
end ZXz
section ZX
variable {h0 g0 h g g1 h' g' : zs_H} {T : Nat → Int32} {n K : Nat} {LC LM LM' : List (List Int32)} {j d s m o q b kd j' d' s' m' e st D f M0 M : Nat} {p v y : Int32} {u : zt_T} {X : Int32 → zs_H → zs_H → Prop}
theorem zk_constG (H : zk_L h0 g0 T n K LC h g LM j d s m o q) {b : Nat} (hb : b < m) (hs : s ≤ 2 * j + 12) (hm : m ≤ 2 * j + 12) : zk_G h0 g0 T n K LC m 20900 o (zk_TT h0 g0 T n K LC LM (zg_T [30, 31] 1) 2 j d s m o q b h g) (f_Ps_constant h) (f_Mo_constant g (nI b)) := by
  have bK := zk_bK H
  have R := zk_constant2 H hb (by omega) (by omega)
  exact zk_GM R (Nat.le_refl _) (by omega) (fun _ _ _ z => z)
theorem zk_isCon (H : zk_L h0 g0 T n K LC h g LM j d s m o q) : f_Mo_beginsConstant g = 0 ↔ f_Ps_isConstant h = 0 := by
  have m2 := H.2.2.2.2.2.2.1
  obtain ⟨k1, k3, k4, k0⟩ := zk_kind H
  unfold f_Mo_beginsConstant f_Ps_isConstant
  rw [if_pos m2, show f_Mo_isSign g 45 = if (h.1 19 5) = nI 45 then 1 else 0 from zk_sign H (c := 45) (k := 45) (by decide), show f_Mo_isWord g 35 = if (h.1 19 5) = nI 163 then 1 else 0 from zk_word H (c := 35) (by decide), show f_Mo_isWord g 36 = if (h.1 19 5) = nI 164 then 1 else 0 from zk_word H (c := 36) (by decide)]
  by_cases a : (h.1 19 5) = 45
  · rw [if_pos a, if_pos (show (h.1 19 5) = nI 45 from a)]
    by_cases z : (g.1 68 6) = 3
    · rw [if_pos z]
    · rw [if_neg z, if_neg (show ¬ (1 : Int32) = 0 by decide)]
  rw [if_neg a, if_neg (show ¬ (h.1 19 5) = nI 45 from a), if_pos (show (0 : Int32) = 0 from rfl)]
  by_cases b9 : (h.1 19 5) = 9
  · rw [if_pos b9, if_pos (k3.mpr b9)]
  rw [if_neg b9, if_neg (fun z => b9 (k3.mp z))]
  by_cases c : (h.1 19 5) = 163
  · rw [if_pos c, if_pos (show (h.1 19 5) = nI 163 from c), if_neg (show ¬ (1 : Int32) = 0 by decide)]
  rw [if_neg c, if_neg (show ¬ (h.1 19 5) = nI 163 from c), if_pos (show (0 : Int32) = 0 from rfl)]
  by_cases d : (h.1 19 5) = 164
  · rw [if_pos d, if_pos (show (h.1 19 5) = nI 164 from d), if_neg (show ¬ (1 : Int32) = 0 by decide)]
  · rw [if_neg d, if_neg (show ¬ (h.1 19 5) = nI 164 from d), if_pos (show (0 : Int32) = 0 from rfl)]
/-- the ranges of a choice, and its body; what comes then is told from outside -/
theorem zk_rgL {Dc Dm N0 : Nat} {x2 : Int32} {FA : Int32 → zs_H → Option (Int32 × zs_H)} {F : zs_H → Option zs_H} (SS : zk_SS h0 g0 T n K LC d') (hDc : 3 * (60 - d') + 4 ≤ Dc + 1) (hDm : 4 * (60 - d') + 5 ≤ Dm) (hs : s ≤ 2 * j + 10) (hm : m ≤ 2 * j + 10) (bad : ∀ φ w m2 h2 g2, m ≤ m2 → m2 ≤ 20950 → zq_Z h0 T n K LC φ w h2 → zx_B g0 T n φ w m2 0 g2 → zk_G h0 g0 T n K LC M0 M 0 X (FA (nI s) h2) ((f_Mo_cases_L28 (g_Mo_body (f_Mo_statements Dm)) N0 g2 x2).bind F)) (good : ∀ h2 g2, zk_TT h0 g0 T n K LC LM (zg_T [17] (3 * (60 - d') + 6)) 1 j d' s m 0 0 b h g (nI s) h2 g2 → zk_G h0 g0 T n K LC M0 M 0 X (FA (nI s) h2) ((f_Mo_cases_L28 (g_Mo_body (f_Mo_statements Dm)) N0 g2 x2).bind F)) : ∀ (r N N' : Nat) {c : Nat} {y : Int32} {u : zt_T} {LM' : List (List Int32)} {j' s' m' e st f : Nat} {h' g' : zs_H}, zk_I h0 g0 T n K LC LM j s m 0 0 b 17 p 0 h g g1 u y LM' j' d' s' m' e st (3 * (60 - d') + 5) f h' g' → (st = 0 ∨ st = 1) → K < j' + r → r + 2 ≤ N → r + 2 ≤ N' → c ≤ j' → zq_vl y → 1 ≤ f → zk_G h0 g0 T n K LC M0 M 0 X (zd_B (f_Ps_ranges_L7 N h' (nI s) y 1 (nI c)) fun v11 h12 => (zd_B (f_Ps_statements (Dc + 1) h12) fun v14 h15 => (zd_B (f_Tr_hang h15 (nI s) v11 v14) fun v17 h18 => FA (nI s) h18))) ((f_Mo_cases_L51 (g_Mo_body (f_Mo_statements Dm)) (f_Mo_cases_L28 (g_Mo_body (f_Mo_statements Dm)) N0) N' g' x2 (nI m) 1).bind F) := by
  intro r
  induction r with
  | zero => intro N N' c y u LM' j' s' m' e st f h' g' I _ hr; have := zk_Ib I; omega
  | succ r ih =>
    intro N N' c y u LM' j' s' m' e st f h' g' I hst hr hN hN' hc vy hf
    have v0 := zk_Iv I
    have b1 := zk_Ib I
    have vs' : zq_v (nI s') := ⟨s', by omega, rfl⟩
    obtain ⟨N, rfl⟩ : ∃ z, N = z + 3 := ⟨N - 3, by omega⟩
    obtain ⟨N', rfl⟩ : ∃ z, N' = z + 3 := ⟨N' - 3, by omega⟩
    have gaB : ∀ φ w hz gz m2 x, m ≤ m2 → m2 ≤ 20950 → zq_v x → zq_Z h0 T n K LC φ w hz → zx_B g0 T n φ w m2 0 gz → zk_G h0 g0 T n K LC M0 M 0 X (zd_B (f_Ps_statements (Dc + 1) hz) fun v14 h15 => (zd_B (f_Tr_hang h15 (nI s) x v14) fun v17 h18 => FA (nI s) h18)) ((f_Mo_cases_L28 (g_Mo_body (f_Mo_statements Dm)) N0 gz x2).bind F) := by
      intro φ w hz gz m2 x q1 q2 vx z1 z2
      obtain ⟨⟨x3, h3⟩, e3, v3, z3⟩ := zz_statements (d := Dc) z1
      rw [e3, zo_B]
      obtain ⟨⟨x4, h4⟩, e4, v4, z4⟩ := zz_hang z3 v0 (zq_vl_v vx) v3
      rw [e4, zo_B]
      exact bad φ w m2 h4 gz q1 q2 z4 z2
    have r80B : ∀ φ w hz gz m2 x5, m ≤ m2 → m2 ≤ 20950 → zq_v x5 → zq_Z h0 T n K LC φ w hz → zx_B g0 T n φ w m2 0 gz → zk_G h0 g0 T n K LC M0 M 0 X (zd_B (f_Ps_ranges_80 (f_Ps_ranges_L7 (N + 2)) hz (nI s) y (nI c) x5) fun v11 h12 => (zd_B (f_Ps_statements (Dc + 1) h12) fun v14 h15 => (zd_B (f_Tr_hang h15 (nI s) v11 v14) fun v17 h18 => FA (nI s) h18))) ((f_Mo_cases_103 (g_Mo_body (f_Mo_statements Dm)) (f_Mo_cases_L28 (g_Mo_body (f_Mo_statements Dm)) N0) (f_Mo_cases_L51 (g_Mo_body (f_Mo_statements Dm)) (f_Mo_cases_L28 (g_Mo_body (f_Mo_statements Dm)) N0) (N' + 2)) gz x2 (nI m)).bind F) := by
      intro φ w hz gz m2 x5 q1 q2 v5 z1 z2
      obtain ⟨⟨x3, h3⟩, e3, v3, z3⟩ := zz_rg80 (N := N + 1) (x4 := nI c) z1 v0 vy v5
      rw [e3, zo_B, zxb_r103 z2, zxb_123 z2]
      exact gaB φ w h3 gz m2 x3 q1 q2 v3 z3 z2
    show zk_G _ _ _ _ _ _ _ _ _ _ (zd_B (f_Ps_ranges_7 (f_Ps_ranges_L7 (N + 2)) h' (nI s) y 1 (nI c)) fun v11 h12 => (zd_B (f_Ps_statements (Dc + 1) h12) fun v14 h15 => (zd_B (f_Tr_hang h15 (nI s) v11 v14) fun v17 h18 => FA (nI s) h18))) ((f_Mo_cases_51 (g_Mo_body (f_Mo_statements Dm)) (f_Mo_cases_L28 (g_Mo_body (f_Mo_statements Dm)) N0) (f_Mo_cases_L51 (g_Mo_body (f_Mo_statements Dm)) (f_Mo_cases_L28 (g_Mo_body (f_Mo_statements Dm)) N0) (N' + 2)) g' x2 (nI m) 1).bind F)
    unfold f_Ps_ranges_7 f_Mo_cases_51
    rw [if_neg (mt (zc_le (k := 16384) (t := c) (by decide) (by omega)).mp (by omega)), if_neg (show ¬ (1 : Int32) = 0 by decide), if_neg (show ¬ (1 : Int32) = 0 by decide), if_pos I.1.2.2.2.2.2.2.1]
    simp only [zd_BB, zd_bB, zd_iB, zd_Bb, zd_ib, Option.bind_assoc]
    obtain ⟨ha, ga, e1, e2, IR⟩ := zk_I0 I.1 (b := m) (kd := 18) (kc := 18) (km := 18) (D := 1) (v := 0) (w := 0) (by omega) (by omega) (by omega) (by decide) rfl rfl (by rw [if_neg (by decide)])
    rw [e1, e2, zo_B, zo_B]
    have bR := zk_Ib IR
    have tail : ∀ {u2 : zt_T} {y2 : Int32} {LM2 : List (List Int32)} {j2 s2 m2 e2 st2 f2 : Nat} {h2 g2 : zs_H}, zk_I h0 g0 T n K LC LM' j' s' m' 0 0 m 18 (nI (zl_at T n j').2.1) 0 h' g' ga u2 y2 LM2 j2 d' s2 m2 e2 st2 1 f2 h2 g2 → (st2 = 1 ∨ st2 = 2) → 1 ≤ e2 → 1 ≤ f2 → zk_G h0 g0 T n K LC M0 M 0 X (zd_B (f_Ps_ranges_80 (f_Ps_ranges_L7 (N + 2)) h2 (nI s) y (nI c) (nI s')) fun v11 h12 => (zd_B (f_Ps_statements (Dc + 1) h12) fun v14 h15 => (zd_B (f_Tr_hang h15 (nI s) v11 v14) fun v17 h18 => FA (nI s) h18))) ((f_Mo_cases_103 (g_Mo_body (f_Mo_statements Dm)) (f_Mo_cases_L28 (g_Mo_body (f_Mo_statements Dm)) N0) (f_Mo_cases_L51 (g_Mo_body (f_Mo_statements Dm)) (f_Mo_cases_L28 (g_Mo_body (f_Mo_statements Dm)) N0) (N' + 2)) g2 x2 (nI m)).bind F) := by
      intro u2 y2 LM2 j2 s2 m2 e2 st2 f2 h2 g2 I2 hst2 he2 hf2
      have b2 := zk_Ib I2
      have R := zk_IdT (S := [18]) I2 (by rcases hst2 with z | z <;> subst z <;> rfl) (Or.inl rfl) (by decide) hf2 (by decide)
      obtain ⟨h3, u3, LM3, j3, s3, m3, e4, hj3, I3⟩ := zk_Ic2 (st' := 1) (e3 := e) I (zk_TTm R (Nat.le_refl _) (fun t W => zg_Tm W (fun _ z => z) (by omega))) (by rcases hst with z | z <;> subst z <;> decide) (by omega)
      have b3 := zk_Ib I3
      unfold f_Ps_ranges_80 f_Mo_cases_103 f_Mo_cases_120 f_Ps_ranges_106 f_Ps_ranges_119
      rw [e4, zo_B, show f_Mo_isSign g2 44 = if (h3.1 19 5) = nI 44 then 1 else 0 from zk_sign I3.1 (c := 44) (k := 44) (by decide)]
      by_cases c44 : (h3.1 19 5) = 44
      · rw [if_pos c44, if_pos (show (h3.1 19 5) = nI 44 from c44), if_neg (show ¬ (1 : Int32) = 0 by decide), if_neg (show ¬ (1 : Int32) = 0 by decide), zd_bB, Option.bind_assoc]
        refine zk_sN I3 c44 (by decide) ?_ fun h5 g5 LM5 I5 => ?_
        · intro φ w hz gz z1 z2
          rw [show f_Ps_ranges_L7 (N + 2) hz (nI s) (nI s') 1 (nI c + 1) = f_Ps_ranges_7 (f_Ps_ranges_L7 (N + 1)) hz (nI s) (nI s') 1 (nI c + 1) from rfl, zxb_r51 z2, zxb_123 z2]
          have : zw (f_Ps_ranges_7 (f_Ps_ranges_L7 (N + 1)) hz (nI s) (nI s') 1 (nI c + 1)) (fun p => zq_v p.1 ∧ zq_Z h0 T n K LC φ w p.2) := by
            unfold f_Ps_ranges_7
            split
            · exact zw_some.mpr ⟨vs', z1⟩
            rw [if_neg (show ¬ (1 : Int32) = 0 by decide)]
            repeat' first
              | with_reducible exact zw_some.mpr ⟨by assumption, by assumption⟩
              | with_reducible exact zw_some.mpr ⟨by assumption, zz_open (by assumption)⟩
              | (rw [zw_B]; with_reducible refine zw_mono (zz_expression (by assumption)) ?_; rintro _ ⟨_, _⟩)
              | (rw [zw_B]; with_reducible refine zw_mono (zz_operand (by assumption)) ?_; rintro _ ⟨_, _⟩)
              | (rw [zw_B]; with_reducible refine zw_mono (zz_statements (by assumption)) ?_; rintro _ ⟨_, _⟩)
              | (rw [zw_bind]; with_reducible refine zw_mono (zz_take (by assumption)) ?_; intro _ _)
              | (rw [zw_B]; with_reducible refine zw_mono (zz_constant (by assumption)) ?_; rintro _ ⟨_, _⟩)
              | (rw [zw_B]; with_reducible refine zw_mono (zz_simpleType (by assumption)) ?_; rintro _ ⟨_, _⟩)
              | (rw [zw_B]; with_reducible refine zw_mono (zz_type (by assumption)) ?_; rintro _ ⟨_, _⟩)
              | (rw [zw_B]; with_reducible refine zw_mono (zz_whole (by assumption)) ?_; rintro _ ⟨_, _⟩)
              | (rw [zw_B]; with_reducible refine zw_mono (zz_add (by assumption)) ?_; rintro _ ⟨_, _⟩)
              | (rw [zw_B]; with_reducible refine zw_mono (zz_hang (by assumption) (by assumption) (by first | assumption | exact zq_vl_n | exact zq_vl_v (by assumption)) (by assumption)) ?_; rintro _ ⟨_, _⟩)
              | rw [if_pos (zq_at (by assumption))]
              | rw [zz_isCell (by assumption), if_pos rfl]
              | rw [if_neg (zq_ne (by assumption) (by decide) (by decide))]
              | rw [Option.bind_assoc]
              | rw [Option.bind_some]
            exact zz_rg80 (by assumption) v0 (zq_vl_v vs') (by assumption)
          obtain ⟨⟨x3, hy⟩, e5, v3, z3⟩ := this
          rw [e5, zo_B]
          exact gaB φ w hy gz _ x3 (by omega) (by omega) v3 z3 z2
        have b5 := zk_Ib I5
        rw [nI_1]
        exact ih (N + 2) (N' + 2) (c := c + 1) I5 (Or.inr rfl) (by omega) (by omega) (by omega) (by omega) (zq_vl_v vs') (by omega)
      · rw [if_neg c44, if_neg (show ¬ (h3.1 19 5) = nI 44 from c44), if_pos (show (0 : Int32) = 0 from rfl), if_pos (show (0 : Int32) = 0 from rfl)]
        have ec : ∀ hz, f_Ps_ranges_L7 (N + 2) hz (nI s) (nI s') 0 (nI c + 1) = some (nI s', hz) := by
          intro hz
          show f_Ps_ranges_7 (f_Ps_ranges_L7 (N + 1)) hz (nI s) (nI s') 0 (nI c + 1) = _
          unfold f_Ps_ranges_7
          rw [if_pos (show (0 : Int32) = 0 from rfl)]
          split <;> rfl
        have em : f_Mo_cases_L51 (g_Mo_body (f_Mo_statements Dm)) (f_Mo_cases_L28 (g_Mo_body (f_Mo_statements Dm)) N0) (N' + 2) g2 x2 (nI m) 0 = f_Mo_cases_123 (g_Mo_body (f_Mo_statements Dm)) (f_Mo_cases_L28 (g_Mo_body (f_Mo_statements Dm)) N0) g2 x2 (nI m) := by
          show f_Mo_cases_51 (g_Mo_body (f_Mo_statements Dm)) (f_Mo_cases_L28 (g_Mo_body (f_Mo_statements Dm)) N0) (f_Mo_cases_L51 (g_Mo_body (f_Mo_statements Dm)) (f_Mo_cases_L28 (g_Mo_body (f_Mo_statements Dm)) N0) (N' + 1)) g2 x2 (nI m) 0 = _
          unfold f_Mo_cases_51
          rw [if_pos (show (0 : Int32) = 0 from rfl)]
        simp only [ec, zd_bB, zo_B]
        rw [em]
        unfold f_Mo_cases_123
        rw [Option.bind_assoc]
        refine zk_sBody (st' := 2) SS I3 (x := 58) (yy := f_Mo_isSign g2 58) (by rw [show f_Mo_isSign g2 58 = if (h3.1 19 5) = nI 58 then 1 else 0 from zk_sign I3.1 (c := 58) (k := 58) (by decide)]; by_cases z : (h3.1 19 5) = 58; (rw [if_pos (show (h3.1 19 5) = nI 58 from z)]; exact ⟨fun _ => z, fun _ => by decide⟩); (rw [if_neg (show ¬ (h3.1 19 5) = nI 58 from z)]; exact ⟨fun w => absurd rfl w, fun w => absurd w z⟩)) (by decide) hDc hDm hs hm (by decide) (Nat.le_refl _) ?_ fun x4 h4 g4 u4 LM4 j4 s4 m4 vx4 hj4 I4 => ?_
        · intro φ w mz xz hz gz w1 w2 vz z1 z2
          obtain ⟨⟨x4, h4⟩, e4, v4, z4⟩ := zz_hang z1 v0 (zq_vl_v vs') vz
          rw [e4, zo_B]
          exact bad φ w mz h4 gz (by omega) w2 z4 z2
        · exact good h4 g4 (zk_TTm (zk_IdT (S := [17]) I4 rfl (Or.inl rfl) (by decide) (by omega) (by decide)) (by omega) (fun _ z => z))
    refine zk_sK2 (e2 := 2) (e3 := 1) (S := [30, 31]) (st' := 1) IR (zk_constG IR.1 (by omega) (by omega) (by omega)) (by decide) (by omega) ?_ fun x3 h3 g3 u3 LM3 j3 s3 m3 vx3 hj3 I3 => ?_
    · intro φ w mz xz hz gz w1 w2 vz z1 z2
      obtain ⟨⟨x4, h4⟩, e4, v4, z4⟩ := zz_hang z1 vs' zq_vl_n vz
      rw [e4, zo_B, if_neg (zq_ne z4 (by decide) (by decide)), zx_isSign z2, if_pos rfl]
      exact r80B φ w h4 gz mz (nI s') (by omega) (by omega) vs' z4 z2
    have b3 := zk_Ib I3
    rw [show f_Mo_isSign g3 257 = if (h3.1 19 5) = nI 2 then 1 else 0 from zk_sign I3.1 (c := 257) (k := 2) (by decide)]
    by_cases c2 : (h3.1 19 5) = 2
    · rw [if_pos c2, if_pos (show (h3.1 19 5) = nI 2 from c2), if_neg (show ¬ (1 : Int32) = 0 by decide)]
      refine zk_sN I3 c2 (by decide) ?_ fun h4 g4 LM4 I4 => ?_
      · intro φ w hz gz z1 z2
        obtain ⟨⟨x4, h4⟩, e4, v4, z4⟩ := zz_constant z1
        rw [e4, zo_B]
        obtain ⟨⟨x5, h5⟩, e5, v5, z5⟩ := zz_hang z4 vs' (zq_vl_v vx3) v4
        rw [e5, zo_B]
        obtain ⟨g5, e6, z6⟩ := zxb_constant (b := m') z2 (by omega) (by omega)
        rw [e6, Option.bind_some]
        exact r80B φ w h5 g5 _ (nI s') (by omega) (by omega) vs' z5 z6
      have b4 := zk_Ib I4
      refine zk_sK2 (e2 := 2) (e3 := 1) (S := [30, 31]) (st' := 2) I4 (zk_constG I4.1 (by omega) (by omega) (by omega)) (by decide) (by omega) ?_ fun x5 h5 g5 u5 LM5 j5 s5 m5 vx5 hj5 I5 => ?_
      · intro φ w mz xz hz gz w1 w2 vz z1 z2
        obtain ⟨⟨x4, h4⟩, e4, v4, z4⟩ := zz_hang z1 vs' (zq_vl_v vx3) vz
        rw [e4, zo_B]
        exact r80B φ w h4 gz mz (nI s') (by omega) (by omega) vs' z4 z2
      exact tail I5 (Or.inr rfl) (by omega) (by omega)
    · rw [if_neg c2, if_neg (show ¬ (h3.1 19 5) = nI 2 from c2), if_pos (show (0 : Int32) = 0 from rfl)]
      exact tail I3 (Or.inl rfl) (by omega) (by omega)
/-- CASE ends -/
theorem zk_csE {Dc Dm : Nat} (SS : zk_SS h0 g0 T n K LC (d + 1)) (I : zk_I h0 g0 T n K LC LM j s m 0 0 b 16 p 0 h g g1 u y LM' j' (d + 1) s' m' e 1 (3 * (60 - d) + 3) f h' g') (vy : zq_v y) (hd : d < 60) (he : 1 ≤ e) (hf : 1 ≤ f) (hDc : 3 * (60 - d) + 1 ≤ Dc) (hDm : 4 * (60 - d) + 1 ≤ Dm) (hs : s ≤ 2 * j + 10) (hm : m ≤ 2 * j + 10) : zk_G h0 g0 T n K LC m 20950 0 (zk_T h0 g0 T n K LC LM (zg_T zg_Sx (3 * (60 - d) + 4)) j d s m 0 0 b h g) (f_Ps_caseStatement_121 (f_Ps_statements Dc) h' (nI s) y) ((if (f_Mo_isWord g' 19) = 0 then f_Mo_cases_152 g' else ((g_Mo_body (f_Mo_statements Dm) g' (nI m) 1).bind fun h6 => f_Mo_cases_152 h6)).bind fun h10 => f_Mo_opened_42 h10) := by
  have v0 := zk_Iv I
  have b1 := zk_Ib I
  unfold f_Ps_caseStatement_121 f_Mo_cases_152 f_Mo_opened_42 f_Ps_caseStatement_152
  have fin : ∀ {u2 : zt_T} {y2 : Int32} {LM2 : List (List Int32)} {j2 s2 m2 e2 st2 f2 : Nat} {h2 g2 : zs_H}, zk_I h0 g0 T n K LC LM j s m 0 0 b 16 p 0 h g g1 u2 y2 LM2 j2 (d + 1) s2 m2 e2 st2 (3 * (60 - d) + 3) f2 h2 g2 → (st2 = 1 ∨ st2 = 2) → 1 ≤ e2 → 1 ≤ f2 → zk_G h0 g0 T n K LC m 20950 0 (zk_T h0 g0 T n K LC LM (zg_T zg_Sx (3 * (60 - d) + 4)) j d s m 0 0 b h g) ((f_Ps_take h2 150).bind fun h2 => (some (nI s, (zs_uF h2 19 7 ((h2.1 19 7) - 1))))) ((f_Mo_wantWord g2 22).bind fun h2 => some (zs_uF h2 68 12 ((h2.1 68 12) - 1))) := by
    intro u2 y2 LM2 j2 s2 m2 e2 st2 f2 h2 g2 I2 hst he2 hf2
    have b2 := zk_Ib I2
    refine zk_sA I2 (zk_wantW I2.1 (c := 22) (by decide)) ?_ fun h3 g3 LM3 I3 => ?_
    · intro φ w hz gz z1 z2
      refine zk_Gf (φ := φ) (w := w) ?_ ?_
      · repeat' first
          | with_reducible exact zw_some.mpr ⟨by assumption, by assumption⟩
          | with_reducible exact zw_some.mpr ⟨by assumption, zz_open (by assumption)⟩
          | (rw [zw_B]; with_reducible refine zw_mono (zz_expression (by assumption)) ?_; rintro _ ⟨_, _⟩)
          | (rw [zw_B]; with_reducible refine zw_mono (zz_operand (by assumption)) ?_; rintro _ ⟨_, _⟩)
          | (rw [zw_B]; with_reducible refine zw_mono (zz_statements (by assumption)) ?_; rintro _ ⟨_, _⟩)
          | (rw [zw_bind]; with_reducible refine zw_mono (zz_take (by assumption)) ?_; intro _ _)
          | (rw [zw_B]; with_reducible refine zw_mono (zz_constant (by assumption)) ?_; rintro _ ⟨_, _⟩)
          | (rw [zw_B]; with_reducible refine zw_mono (zz_simpleType (by assumption)) ?_; rintro _ ⟨_, _⟩)
          | (rw [zw_B]; with_reducible refine zw_mono (zz_type (by assumption)) ?_; rintro _ ⟨_, _⟩)
          | (rw [zw_B]; with_reducible refine zw_mono (zz_whole (by assumption)) ?_; rintro _ ⟨_, _⟩)
          | (rw [zw_B]; with_reducible refine zw_mono (zz_add (by assumption)) ?_; rintro _ ⟨_, _⟩)
          | (rw [zw_B]; with_reducible refine zw_mono (zz_hang (by assumption) (by assumption) (by first | assumption | exact zq_vl_n | exact zq_vl_v (by assumption)) (by assumption)) ?_; rintro _ ⟨_, _⟩)
          | rw [if_pos (zq_at (by assumption))]
          | rw [zz_isCell (by assumption), if_pos rfl]
          | rw [if_neg (zq_ne (by assumption) (by decide) (by decide))]
          | rw [Option.bind_assoc]
          | rw [Option.bind_some]
      · repeat' first
          | (with_reducible refine zw_some.mpr ⟨_, ⟨?_, ?_⟩, by assumption⟩ <;> omega)
          | (with_reducible refine zw_some.mpr ⟨_, ⟨?_, ?_⟩, zx_Om (by assumption) ?_⟩ <;> omega)
          | (with_reducible refine zw_some.mpr ⟨_, ⟨?_, ?_⟩, zx_Om (zx_uF (by assumption) (Or.inl rfl)) ?_⟩ <;> omega)
          | (with_reducible refine zw_mono (zxb_142 (by assumption) (by omega)) ?_; intro _ z; exact ⟨_, by omega, z⟩)
          | (with_reducible refine zw_mono (zxb_142c (by assumption) (by omega)) ?_; intro _ z; exact ⟨_, by omega, z⟩)
          | (rw [zw_bind]; with_reducible refine zw_mono (zxb_body (by assumption)) ?_; intro _ _)
          | (rw [zw_bind]; with_reducible refine zw_mono (zxw_expr4 (by assumption)) ?_; intro _ _)
          | (rw [zw_bind]; with_reducible refine zw_mono (zxw_next2 (by assumption)) ?_; intro _ _)
          | (rw [zw_bind]; with_reducible refine zw_mono (zx_open (by assumption)) ?_; intro _ _)
          | (rw [zw_bind]; with_reducible refine zw_mono (zxw_expression (by assumption)) ?_; intro _ _)
          | (rw [zw_bind]; with_reducible refine zw_mono (zxw_operand (by assumption)) ?_; intro _ _)
          | (rw [zw_bind]; with_reducible refine zw_mono (zxb_keep (by assumption) (by omega)) ?_; intro _ _)
          | (rw [zw_B]; with_reducible refine zw_mono (zxb_node (by assumption) (by omega) rfl) ?_; rintro _ ⟨e1, _⟩; try rw [e1])
          | (rw [zw_bind]; with_reducible refine zw_mono (zxw_wantSign (by assumption)) ?_; intro _ _)
          | (rw [zw_bind]; with_reducible refine zw_mono (zxw_wantWord (by assumption)) ?_; intro _ _)
          | (rw [zw_bind]; with_reducible refine zw_mono (zxw_want (by assumption)) ?_; intro _ _)
          | (rw [zw_bind]; with_reducible refine zw_mono (zx_next (by assumption)) ?_; intro _ _)
          | (rw [zw_bind]; with_reducible refine zw_mono (zxb_constant (by assumption) (by omega) (by omega)) ?_; intro _ _)
          | (rw [zw_bind]; with_reducible refine zw_mono (zxw_simple (by assumption) (by omega) (by omega)) ?_; rintro _ ⟨_, _, _, _⟩)
          | (rw [zw_B]; with_reducible refine zw_mono (zxb_add (by assumption) (by omega) rfl (by omega)) ?_; rintro _ ⟨e1, _⟩; try rw [e1])
          | rw [zx_isSign (by assumption), if_pos rfl]
          | rw [zx_isWord (by assumption), if_pos rfl]
          | rw [if_neg (zx_ne (by assumption))]
          | rw [if_neg (zx_pos (by assumption))]
          | rw [if_pos (show (0 : Int32) ≤ 0 by decide)]
          | rw [Option.bind_assoc]
          | rw [Option.bind_some]
    have I4 := zk_Io I3 (d2 := d) (zfr_F (by decide) zfr_rfl) (zfr_F (by decide) zfr_rfl) (zk_close I3.1)
    exact ⟨nI s, _, _, rfl, rfl, Or.inl (zk_Tof (zk_IdT (S := zg_Sx) I4 (by rcases hst with z | z <;> subst z <;> rfl) (Or.inl rfl) (by decide) (by omega) (by decide)) (by omega))⟩
  rw [show f_Mo_isWord g' 19 = if (h'.1 19 5) = nI 147 then 1 else 0 from zk_word I.1 (c := 19) (by decide)]
  by_cases c : (h'.1 19 5) = 147
  · rw [if_pos c, if_pos (show (h'.1 19 5) = nI 147 from c), if_neg (show ¬ (1 : Int32) = 0 by decide), Option.bind_assoc]
    refine zk_sBody (st' := 2) SS I ⟨fun _ => c, fun _ => by decide⟩ (by decide) (by omega) (by omega) hs hm (by decide) (by omega) ?_ fun x h3 g3 u3 LM3 j3 s3 m3 vx hj I3 => ?_
    · intro φ w mz xz hz gz w1 w2 vz z1 z2
      refine zk_Gf (φ := φ) (w := w) ?_ ?_
      · repeat' first
          | with_reducible exact zw_some.mpr ⟨by assumption, by assumption⟩
          | with_reducible exact zw_some.mpr ⟨by assumption, zz_open (by assumption)⟩
          | (rw [zw_B]; with_reducible refine zw_mono (zz_expression (by assumption)) ?_; rintro _ ⟨_, _⟩)
          | (rw [zw_B]; with_reducible refine zw_mono (zz_operand (by assumption)) ?_; rintro _ ⟨_, _⟩)
          | (rw [zw_B]; with_reducible refine zw_mono (zz_statements (by assumption)) ?_; rintro _ ⟨_, _⟩)
          | (rw [zw_bind]; with_reducible refine zw_mono (zz_take (by assumption)) ?_; intro _ _)
          | (rw [zw_B]; with_reducible refine zw_mono (zz_constant (by assumption)) ?_; rintro _ ⟨_, _⟩)
          | (rw [zw_B]; with_reducible refine zw_mono (zz_simpleType (by assumption)) ?_; rintro _ ⟨_, _⟩)
          | (rw [zw_B]; with_reducible refine zw_mono (zz_type (by assumption)) ?_; rintro _ ⟨_, _⟩)
          | (rw [zw_B]; with_reducible refine zw_mono (zz_whole (by assumption)) ?_; rintro _ ⟨_, _⟩)
          | (rw [zw_B]; with_reducible refine zw_mono (zz_add (by assumption)) ?_; rintro _ ⟨_, _⟩)
          | (rw [zw_B]; with_reducible refine zw_mono (zz_hang (by assumption) (by assumption) (by first | assumption | exact zq_vl_n | exact zq_vl_v (by assumption)) (by assumption)) ?_; rintro _ ⟨_, _⟩)
          | rw [if_pos (zq_at (by assumption))]
          | rw [zz_isCell (by assumption), if_pos rfl]
          | rw [if_neg (zq_ne (by assumption) (by decide) (by decide))]
          | rw [Option.bind_assoc]
          | rw [Option.bind_some]
      · repeat' first
          | (with_reducible refine zw_some.mpr ⟨_, ⟨?_, ?_⟩, by assumption⟩ <;> omega)
          | (with_reducible refine zw_some.mpr ⟨_, ⟨?_, ?_⟩, zx_Om (by assumption) ?_⟩ <;> omega)
          | (with_reducible refine zw_some.mpr ⟨_, ⟨?_, ?_⟩, zx_Om (zx_uF (by assumption) (Or.inl rfl)) ?_⟩ <;> omega)
          | (with_reducible refine zw_mono (zxb_142 (by assumption) (by omega)) ?_; intro _ z; exact ⟨_, by omega, z⟩)
          | (with_reducible refine zw_mono (zxb_142c (by assumption) (by omega)) ?_; intro _ z; exact ⟨_, by omega, z⟩)
          | (rw [zw_bind]; with_reducible refine zw_mono (zxb_body (by assumption)) ?_; intro _ _)
          | (rw [zw_bind]; with_reducible refine zw_mono (zxw_expr4 (by assumption)) ?_; intro _ _)
          | (rw [zw_bind]; with_reducible refine zw_mono (zxw_next2 (by assumption)) ?_; intro _ _)
          | (rw [zw_bind]; with_reducible refine zw_mono (zx_open (by assumption)) ?_; intro _ _)
          | (rw [zw_bind]; with_reducible refine zw_mono (zxw_expression (by assumption)) ?_; intro _ _)
          | (rw [zw_bind]; with_reducible refine zw_mono (zxw_operand (by assumption)) ?_; intro _ _)
          | (rw [zw_bind]; with_reducible refine zw_mono (zxb_keep (by assumption) (by omega)) ?_; intro _ _)
          | (rw [zw_B]; with_reducible refine zw_mono (zxb_node (by assumption) (by omega) rfl) ?_; rintro _ ⟨e1, _⟩; try rw [e1])
          | (rw [zw_bind]; with_reducible refine zw_mono (zxw_wantSign (by assumption)) ?_; intro _ _)
          | (rw [zw_bind]; with_reducible refine zw_mono (zxw_wantWord (by assumption)) ?_; intro _ _)
          | (rw [zw_bind]; with_reducible refine zw_mono (zxw_want (by assumption)) ?_; intro _ _)
          | (rw [zw_bind]; with_reducible refine zw_mono (zx_next (by assumption)) ?_; intro _ _)
          | (rw [zw_bind]; with_reducible refine zw_mono (zxb_constant (by assumption) (by omega) (by omega)) ?_; intro _ _)
          | (rw [zw_bind]; with_reducible refine zw_mono (zxw_simple (by assumption) (by omega) (by omega)) ?_; rintro _ ⟨_, _, _, _⟩)
          | (rw [zw_B]; with_reducible refine zw_mono (zxb_add (by assumption) (by omega) rfl (by omega)) ?_; rintro _ ⟨e1, _⟩; try rw [e1])
          | rw [zx_isSign (by assumption), if_pos rfl]
          | rw [zx_isWord (by assumption), if_pos rfl]
          | rw [if_neg (zx_ne (by assumption))]
          | rw [if_neg (zx_pos (by assumption))]
          | rw [if_pos (show (0 : Int32) ≤ 0 by decide)]
          | rw [Option.bind_assoc]
          | rw [Option.bind_some]
    simp only [Option.bind_assoc, Option.bind_some]
    exact fin I3 (Or.inr rfl) (by omega) (by omega)
  · rw [if_neg c, if_neg (show ¬ (h'.1 19 5) = nI 147 from c), if_pos (show (0 : Int32) = 0 from rfl)]
    simp only [Option.bind_assoc, Option.bind_some]
    exact fin I (Or.inl rfl) he hf
/-- the choices of a CASE -/
theorem zk_csL {Dc Dm : Nat} (SS : zk_SS h0 g0 T n K LC (d + 1)) (hd : d < 60) (hDc : 3 * (60 - d) + 1 ≤ Dc + 1) (hDm : 4 * (60 - d) + 1 ≤ Dm) (hs : s ≤ 2 * j + 10) (hm : m ≤ 2 * j + 10) : ∀ (r N N' : Nat) {c : Nat} {y : Int32} {u : zt_T} {LM' : List (List Int32)} {j' s' m' e f : Nat} {h' g' : zs_H}, zk_I h0 g0 T n K LC LM j s m 0 0 b 16 p 0 h g g1 u y LM' j' (d + 1) s' m' e 1 (3 * (60 - d) + 3) f h' g' → K < j' + r → r + 2 ≤ N → r + 2 ≤ N' → c ≤ j' → zq_v y → 4 ≤ e → 1 ≤ f → zk_G h0 g0 T n K LC m 20950 0 (zk_T h0 g0 T n K LC LM (zg_T zg_Sx (3 * (60 - d) + 4)) j d s m 0 0 b h g) (f_Ps_caseStatement_L49 (f_Ps_statements (Dc + 1)) N h' (nI s) y (nI c)) ((f_Mo_cases_L28 (g_Mo_body (f_Mo_statements Dm)) N' g' (nI m)).bind fun h10 => f_Mo_opened_42 h10) := by
  intro r
  induction r with
  | zero => intro N N' c y u LM' j' s' m' e f h' g' I hr; have := zk_Ib I; omega
  | succ r ih =>
    intro N N' c y u LM' j' s' m' e f h' g' I hr hN hN' hc vy he hf
    have v0 := zk_Iv I
    have b1 := zk_Ib I
    obtain ⟨N, rfl⟩ : ∃ z, N = z + 2 := ⟨N - 2, by omega⟩
    obtain ⟨N', rfl⟩ : ∃ z, N' = z + 2 := ⟨N' - 2, by omega⟩
    show zk_G _ _ _ _ _ _ _ _ _ _ (f_Ps_caseStatement_49 (f_Ps_statements (Dc + 1)) (f_Ps_caseStatement_L49 (f_Ps_statements (Dc + 1)) (N + 1)) h' (nI s) y (nI c)) ((f_Mo_cases_28 (g_Mo_body (f_Mo_statements Dm)) (f_Mo_cases_L28 (g_Mo_body (f_Mo_statements Dm)) (N' + 1)) g' (nI m)).bind fun h10 => f_Mo_opened_42 h10)
    unfold f_Ps_caseStatement_49 f_Mo_cases_28
    rw [if_neg (mt (zc_le (k := 16384) (t := c) (by decide) (by omega)).mp (by omega))]
    have hic := zk_isCon I.1
    by_cases cc : f_Ps_isConstant h' = 0
    · rw [if_pos cc, if_pos (hic.mpr cc)]
      exact zk_csE SS I vy hd (by omega) hf hDc hDm hs hm
    · rw [if_neg cc, if_neg (fun z => cc (hic.mp z))]
      obtain ⟨ha, h1, g2, e1, e2, e3, Ic, fin⟩ := zk_Ihc I (k2 := 17) (D2 := 3 * (60 - (d + 1)) + 5) (kc := 17) (km := 17) (v2 := 0) (w2 := 0) (by decide) rfl rfl (by rw [if_neg (by decide)]) (by omega) (by omega)
      have vs' : zq_v (nI s') := ⟨s', by omega, rfl⟩
      have j6 : (h'.1 19 3) = 0 := I.1.2.2.2.1.1
      rw [e1, zo_B, e2, zo_B, e3, zo_B]
      unfold f_Ps_ranges
      have bc := zk_Ib Ic
      refine zk_rgL (Dc := Dc) (Dm := Dm) (N0 := N' + 1) (x2 := nI m) (FA := fun _ h18 => f_Ps_caseStatement_L49 (f_Ps_statements (Dc + 1)) (N + 1) h18 (nI s) (nI s') (nI c + 1)) SS (by omega) (by omega) (by omega) (by omega) ?_ ?_ (K + 1) zF zF (c := 0) Ic (Or.inl rfl) (by omega) (by have := zF_big; omega) (by have := zF_big; omega) (by omega) zq_vl_n (by omega)
      · intro φ w m2 h2 gz q1 q2 z1 z2
        refine zk_Gf (φ := φ) (w := w) (zz_cs z1 v0) ?_
        rw [zxb_c28 z2, Option.bind_some]
        unfold f_Mo_opened_42
        exact zw_some.mpr ⟨m2, by omega, zx_uF z2 (Or.inl rfl)⟩
      · intro h2 gz R
        obtain ⟨u3, LM3, j3, s3, m3, hj3, I3⟩ := fin (st' := 1) (e3 := e) (x := 0) (zk_TTm R (Nat.le_refl _) (fun t W => zg_Tm W (fun _ z => z) (by omega))) (by decide) (by omega)
        have b3 := zk_Ib I3
        have hjj : j' < j3 := by
          obtain ⟨t, LMt, jt, st, mt, at', _, _, Lt, t1, t2, t3, _⟩ := R
          have e5 : (h2.1 19 4) = nI jt := Lt.2.2.2.1.2.1
          have e6 : (h2.1 19 4) = nI j3 := I3.1.2.2.2.1.2.1
          have bt := zk_bK Lt
          have := (nI_eq (by omega) (by omega)).mp (e5.symm.trans e6)
          omega
        show zk_G _ _ _ _ _ _ _ _ _ _ (f_Ps_caseStatement_L49 (f_Ps_statements (Dc + 1)) (N + 1) h2 (nI s) (nI s') (nI c + 1)) _
        rw [nI_1]
        exact ih (N + 1) (N' + 1) (c := c + 1) I3 (by omega) (by omega) (by omega) (by omega) vs' he hf
/-- CASE -/
theorem zk_case {Dc Dm b : Nat} (SS : d < 60 → zk_SS h0 g0 T n K LC (d + 1)) (H : zk_L h0 g0 T n K LC h g LM j d s m 0 0) (ht : (h.1 19 5) = 149) (hDc : 3 * (60 - d) + 1 ≤ Dc) (hDm : 4 * (60 - d) + 1 ≤ Dm) (hs : s ≤ 2 * j + 10) (hm : m ≤ 2 * j + 10) (hb : b < m) : zk_G h0 g0 T n K LC m 20950 0 (zk_T h0 g0 T n K LC LM (zg_T zg_Sx (3 * (60 - d) + 4)) j d s m 0 0 b h g) (g_Ps_caseStatement (f_Ps_statements Dc) h) ((f_Mo_open g).bind fun h2 => (g_Mo_cases (g_Mo_body (f_Mo_statements Dm)) h2 (nI b)).bind fun h8 => f_Mo_opened_42 h8) := by
  have bK := zk_bK H
  have v0 : zq_v (nI s) := ⟨s, by omega, rfl⟩
  obtain ⟨Dc, rfl⟩ : ∃ z, Dc = z + 1 := ⟨Dc - 1, by omega⟩
  unfold g_Ps_caseStatement g_Mo_cases
  simp only [zd_Bb, Option.bind_assoc]
  have endm : ∀ φ w gz m2, m ≤ m2 → m2 ≤ 20950 → zx_B g0 T n φ w m2 0 gz → zw ((f_Mo_cases_L28 (g_Mo_body (f_Mo_statements Dm)) zF gz (nI m)).bind fun h10 => f_Mo_opened_42 h10) (fun g' => ∃ m', (m ≤ m' ∧ m' ≤ 20950) ∧ zx_B g0 T n φ w m' 0 g') := by
    intro φ w gz m2 q1 q2 z2
    rw [show zF = 18446744073709551615 + 1 from rfl, zxb_c28 z2, Option.bind_some]
    unfold f_Mo_opened_42
    exact zw_some.mpr ⟨m2, by omega, zx_uF z2 (Or.inl rfl)⟩
  have endc : ∀ φ w hz x2, zq_Z h0 T n K LC φ w hz → zw (f_Ps_caseStatement_L49 (f_Ps_statements (Dc + 1)) zF hz (nI s) x2 0) (fun p => zq_v p.1 ∧ zq_Z h0 T n K LC φ w p.2) := by
    intro φ w hz x2 z1
    rw [show zF = 18446744073709551615 + 1 from rfl]
    exact zz_cs z1 v0
  obtain ⟨h1, e1, L1, qA⟩ := zk_cadd H (kd := 16) (kv := 16) (v := 0) (by omega) (by decide) rfl
  rw [e1, zo_B]
  obtain ⟨h2, g2, e2, e3, R⟩ := zk_deep L1
  rw [e2, e3, Option.bind_some, Option.bind_some]
  rcases R with ⟨hd, L2, f1, f2⟩ | ⟨φ, w, z1, z2⟩
  · obtain ⟨q1, q2, q3, q4, q5, q6, q7⟩ := id qA
    have kf := zq_kp_f (s := s + 1) f1
    obtain ⟨c1, c2, c3, c4, c5⟩ := kf s (by omega)
    obtain ⟨g3, e4, I⟩ := zk_I1 (D := 3 * (60 - d) + 3) (j := j) (h := h) (g := g) (LM := LM) (km := 16) (w := 0) (b := b) (kd := 16) (v := 0) (p := nI (zl_at T n j).2.1) L2 (List.prefix_refl _) (Nat.le_refl _) (zq_kp_t (zq_kp_A qA) kf (by omega)) ⟨c1.trans (by rw [q2, if_pos rfl]), c2.trans (by rw [q3, if_pos rfl]), c3.trans (by rw [q4, if_pos rfl]), c5.trans (by rw [q6, if_pos rfl]), c4.trans (by rw [q5, if_pos rfl])⟩ (zx_ka_f f2) (by omega) (by omega) hb rfl (by rw [if_neg (by decide)])
    have m4 := L2.2.2.2.2.2.2.2.2.1
    rw [m4, e4, zo_B]
    refine zk_sN I (x := 149) (by rw [L2.2.2.2.1.2.2.1, ← H.2.2.2.1.2.2.1]; exact ht) (by decide) ?_ fun h4 g4 LM4 I4 => ?_
    · intro φ w hz gz z1 z2
      refine zk_Gf (φ := φ) (w := w) ?_ ?_
      · repeat' first
          | with_reducible exact zw_some.mpr ⟨by assumption, by assumption⟩
          | with_reducible exact zw_some.mpr ⟨by assumption, zz_open (by assumption)⟩
          | (rw [zw_B]; with_reducible refine zw_mono (zz_expression (by assumption)) ?_; rintro _ ⟨_, _⟩)
          | (rw [zw_B]; with_reducible refine zw_mono (zz_operand (by assumption)) ?_; rintro _ ⟨_, _⟩)
          | (rw [zw_B]; with_reducible refine zw_mono (zz_statements (by assumption)) ?_; rintro _ ⟨_, _⟩)
          | (rw [zw_bind]; with_reducible refine zw_mono (zz_take (by assumption)) ?_; intro _ _)
          | (rw [zw_B]; with_reducible refine zw_mono (zz_constant (by assumption)) ?_; rintro _ ⟨_, _⟩)
          | (rw [zw_B]; with_reducible refine zw_mono (zz_simpleType (by assumption)) ?_; rintro _ ⟨_, _⟩)
          | (rw [zw_B]; with_reducible refine zw_mono (zz_type (by assumption)) ?_; rintro _ ⟨_, _⟩)
          | (rw [zw_B]; with_reducible refine zw_mono (zz_whole (by assumption)) ?_; rintro _ ⟨_, _⟩)
          | (rw [zw_B]; with_reducible refine zw_mono (zz_add (by assumption)) ?_; rintro _ ⟨_, _⟩)
          | (rw [zw_B]; with_reducible refine zw_mono (zz_hang (by assumption) (by assumption) (by first | assumption | exact zq_vl_n | exact zq_vl_v (by assumption)) (by assumption)) ?_; rintro _ ⟨_, _⟩)
          | rw [if_pos (zq_at (by assumption))]
          | rw [zz_isCell (by assumption), if_pos rfl]
          | rw [if_neg (zq_ne (by assumption) (by decide) (by decide))]
          | rw [Option.bind_assoc]
          | rw [Option.bind_some]
        exact endc φ w _ _ (by assumption)
      · repeat' first
          | (with_reducible refine zw_some.mpr ⟨_, ⟨?_, ?_⟩, by assumption⟩ <;> omega)
          | (with_reducible refine zw_some.mpr ⟨_, ⟨?_, ?_⟩, zx_Om (by assumption) ?_⟩ <;> omega)
          | (with_reducible refine zw_some.mpr ⟨_, ⟨?_, ?_⟩, zx_Om (zx_uF (by assumption) (Or.inl rfl)) ?_⟩ <;> omega)
          | (with_reducible refine zw_mono (zxb_142 (by assumption) (by omega)) ?_; intro _ z; exact ⟨_, by omega, z⟩)
          | (with_reducible refine zw_mono (zxb_142c (by assumption) (by omega)) ?_; intro _ z; exact ⟨_, by omega, z⟩)
          | (rw [zw_bind]; with_reducible refine zw_mono (zxb_body (by assumption)) ?_; intro _ _)
          | (rw [zw_bind]; with_reducible refine zw_mono (zxw_expr4 (by assumption)) ?_; intro _ _)
          | (rw [zw_bind]; with_reducible refine zw_mono (zxw_next2 (by assumption)) ?_; intro _ _)
          | (rw [zw_bind]; with_reducible refine zw_mono (zx_open (by assumption)) ?_; intro _ _)
          | (rw [zw_bind]; with_reducible refine zw_mono (zxw_expression (by assumption)) ?_; intro _ _)
          | (rw [zw_bind]; with_reducible refine zw_mono (zxw_operand (by assumption)) ?_; intro _ _)
          | (rw [zw_bind]; with_reducible refine zw_mono (zxb_keep (by assumption) (by omega)) ?_; intro _ _)
          | (rw [zw_B]; with_reducible refine zw_mono (zxb_node (by assumption) (by omega) rfl) ?_; rintro _ ⟨e1, _⟩; try rw [e1])
          | (rw [zw_bind]; with_reducible refine zw_mono (zxw_wantSign (by assumption)) ?_; intro _ _)
          | (rw [zw_bind]; with_reducible refine zw_mono (zxw_wantWord (by assumption)) ?_; intro _ _)
          | (rw [zw_bind]; with_reducible refine zw_mono (zxw_want (by assumption)) ?_; intro _ _)
          | (rw [zw_bind]; with_reducible refine zw_mono (zx_next (by assumption)) ?_; intro _ _)
          | (rw [zw_bind]; with_reducible refine zw_mono (zxb_constant (by assumption) (by omega) (by omega)) ?_; intro _ _)
          | (rw [zw_bind]; with_reducible refine zw_mono (zxw_simple (by assumption) (by omega) (by omega)) ?_; rintro _ ⟨_, _, _, _⟩)
          | (rw [zw_B]; with_reducible refine zw_mono (zxb_add (by assumption) (by omega) rfl (by omega)) ?_; rintro _ ⟨e1, _⟩; try rw [e1])
          | rw [zx_isSign (by assumption), if_pos rfl]
          | rw [zx_isWord (by assumption), if_pos rfl]
          | rw [if_neg (zx_ne (by assumption))]
          | rw [if_neg (zx_pos (by assumption))]
          | rw [if_pos (show (0 : Int32) ≤ 0 by decide)]
          | rw [Option.bind_assoc]
          | rw [Option.bind_some]
        refine endm φ w _ _ ?_ ?_ (by assumption) <;> omega
    have b4 := zk_Ib I4
    refine zk_sK2 (e2 := 1) (e3 := 2) (S := zg_E) (st' := 1) I4 (zk_GM (zk_wexprD I4.1 (by decide) (by omega) (by omega) (by omega)) (Nat.le_refl _) (Nat.le_refl 20900) (fun x h g R => zk_TTm R (Nat.le_refl _) (fun t W => zg_Tm W (fun _ z => z) (by omega)))) (by decide) (by omega) ?_ fun x5 h5 g5 u5 LM5 j5 s5 m5 vx5 hj5 I5 => ?_
    · intro φ w mz xz hz gz w1 w2 vz z1 z2
      refine zk_Gf (φ := φ) (w := w) ?_ ?_
      · repeat' first
          | with_reducible exact zw_some.mpr ⟨by assumption, by assumption⟩
          | with_reducible exact zw_some.mpr ⟨by assumption, zz_open (by assumption)⟩
          | (rw [zw_B]; with_reducible refine zw_mono (zz_expression (by assumption)) ?_; rintro _ ⟨_, _⟩)
          | (rw [zw_B]; with_reducible refine zw_mono (zz_operand (by assumption)) ?_; rintro _ ⟨_, _⟩)
          | (rw [zw_B]; with_reducible refine zw_mono (zz_statements (by assumption)) ?_; rintro _ ⟨_, _⟩)
          | (rw [zw_bind]; with_reducible refine zw_mono (zz_take (by assumption)) ?_; intro _ _)
          | (rw [zw_B]; with_reducible refine zw_mono (zz_constant (by assumption)) ?_; rintro _ ⟨_, _⟩)
          | (rw [zw_B]; with_reducible refine zw_mono (zz_simpleType (by assumption)) ?_; rintro _ ⟨_, _⟩)
          | (rw [zw_B]; with_reducible refine zw_mono (zz_type (by assumption)) ?_; rintro _ ⟨_, _⟩)
          | (rw [zw_B]; with_reducible refine zw_mono (zz_whole (by assumption)) ?_; rintro _ ⟨_, _⟩)
          | (rw [zw_B]; with_reducible refine zw_mono (zz_add (by assumption)) ?_; rintro _ ⟨_, _⟩)
          | (rw [zw_B]; with_reducible refine zw_mono (zz_hang (by assumption) (by assumption) (by first | assumption | exact zq_vl_n | exact zq_vl_v (by assumption)) (by assumption)) ?_; rintro _ ⟨_, _⟩)
          | rw [if_pos (zq_at (by assumption))]
          | rw [zz_isCell (by assumption), if_pos rfl]
          | rw [if_neg (zq_ne (by assumption) (by decide) (by decide))]
          | rw [Option.bind_assoc]
          | rw [Option.bind_some]
        exact endc φ w _ _ (by assumption)
      · repeat' first
          | (with_reducible refine zw_some.mpr ⟨_, ⟨?_, ?_⟩, by assumption⟩ <;> omega)
          | (with_reducible refine zw_some.mpr ⟨_, ⟨?_, ?_⟩, zx_Om (by assumption) ?_⟩ <;> omega)
          | (with_reducible refine zw_some.mpr ⟨_, ⟨?_, ?_⟩, zx_Om (zx_uF (by assumption) (Or.inl rfl)) ?_⟩ <;> omega)
          | (with_reducible refine zw_mono (zxb_142 (by assumption) (by omega)) ?_; intro _ z; exact ⟨_, by omega, z⟩)
          | (with_reducible refine zw_mono (zxb_142c (by assumption) (by omega)) ?_; intro _ z; exact ⟨_, by omega, z⟩)
          | (rw [zw_bind]; with_reducible refine zw_mono (zxb_body (by assumption)) ?_; intro _ _)
          | (rw [zw_bind]; with_reducible refine zw_mono (zxw_expr4 (by assumption)) ?_; intro _ _)
          | (rw [zw_bind]; with_reducible refine zw_mono (zxw_next2 (by assumption)) ?_; intro _ _)
          | (rw [zw_bind]; with_reducible refine zw_mono (zx_open (by assumption)) ?_; intro _ _)
          | (rw [zw_bind]; with_reducible refine zw_mono (zxw_expression (by assumption)) ?_; intro _ _)
          | (rw [zw_bind]; with_reducible refine zw_mono (zxw_operand (by assumption)) ?_; intro _ _)
          | (rw [zw_bind]; with_reducible refine zw_mono (zxb_keep (by assumption) (by omega)) ?_; intro _ _)
          | (rw [zw_B]; with_reducible refine zw_mono (zxb_node (by assumption) (by omega) rfl) ?_; rintro _ ⟨e1, _⟩; try rw [e1])
          | (rw [zw_bind]; with_reducible refine zw_mono (zxw_wantSign (by assumption)) ?_; intro _ _)
          | (rw [zw_bind]; with_reducible refine zw_mono (zxw_wantWord (by assumption)) ?_; intro _ _)
          | (rw [zw_bind]; with_reducible refine zw_mono (zxw_want (by assumption)) ?_; intro _ _)
          | (rw [zw_bind]; with_reducible refine zw_mono (zx_next (by assumption)) ?_; intro _ _)
          | (rw [zw_bind]; with_reducible refine zw_mono (zxb_constant (by assumption) (by omega) (by omega)) ?_; intro _ _)
          | (rw [zw_bind]; with_reducible refine zw_mono (zxw_simple (by assumption) (by omega) (by omega)) ?_; rintro _ ⟨_, _, _, _⟩)
          | (rw [zw_B]; with_reducible refine zw_mono (zxb_add (by assumption) (by omega) rfl (by omega)) ?_; rintro _ ⟨e1, _⟩; try rw [e1])
          | rw [zx_isSign (by assumption), if_pos rfl]
          | rw [zx_isWord (by assumption), if_pos rfl]
          | rw [if_neg (zx_ne (by assumption))]
          | rw [if_neg (zx_pos (by assumption))]
          | rw [if_pos (show (0 : Int32) ≤ 0 by decide)]
          | rw [Option.bind_assoc]
          | rw [Option.bind_some]
        refine endm φ w _ _ ?_ ?_ (by assumption) <;> omega
    have b5 := zk_Ib I5
    refine zk_sA I5 (zk_wantW I5.1 (c := 15) (by decide)) ?_ fun h6 g6 LM6 I6 => ?_
    · intro φ w hz gz z1 z2
      exact zk_Gf (φ := φ) (w := w) (endc φ w _ _ z1) (endm φ w _ _ (by omega) (by omega) z2)
    have b6 := zk_Ib I6
    exact zk_csL (SS hd) hd hDc hDm hs hm (K + 1) zF zF (c := 0) I6 (by omega) (by have := zF_big; omega) (by have := zF_big; omega) (by omega) vx5 (by omega) (by omega)
  · obtain ⟨⟨x, g3⟩, e4, e5, z3⟩ := zxb_add (kd := 16) (kn := 16) (p := (g2.1 68 7)) (v := 0) (b := b) z2 (by omega) rfl hb
    rw [e4, zo_B, show x = nI m from e5]
    refine zk_Gf (φ := φ) (w := w) ?_ ?_
    · repeat' first
        | with_reducible exact zw_some.mpr ⟨by assumption, by assumption⟩
        | with_reducible exact zw_some.mpr ⟨by assumption, zz_open (by assumption)⟩
        | (rw [zw_B]; with_reducible refine zw_mono (zz_expression (by assumption)) ?_; rintro _ ⟨_, _⟩)
        | (rw [zw_B]; with_reducible refine zw_mono (zz_operand (by assumption)) ?_; rintro _ ⟨_, _⟩)
        | (rw [zw_B]; with_reducible refine zw_mono (zz_statements (by assumption)) ?_; rintro _ ⟨_, _⟩)
        | (rw [zw_bind]; with_reducible refine zw_mono (zz_take (by assumption)) ?_; intro _ _)
        | (rw [zw_B]; with_reducible refine zw_mono (zz_constant (by assumption)) ?_; rintro _ ⟨_, _⟩)
        | (rw [zw_B]; with_reducible refine zw_mono (zz_simpleType (by assumption)) ?_; rintro _ ⟨_, _⟩)
        | (rw [zw_B]; with_reducible refine zw_mono (zz_type (by assumption)) ?_; rintro _ ⟨_, _⟩)
        | (rw [zw_B]; with_reducible refine zw_mono (zz_whole (by assumption)) ?_; rintro _ ⟨_, _⟩)
        | (rw [zw_B]; with_reducible refine zw_mono (zz_add (by assumption)) ?_; rintro _ ⟨_, _⟩)
        | (rw [zw_B]; with_reducible refine zw_mono (zz_hang (by assumption) (by assumption) (by first | assumption | exact zq_vl_n | exact zq_vl_v (by assumption)) (by assumption)) ?_; rintro _ ⟨_, _⟩)
        | rw [if_pos (zq_at (by assumption))]
        | rw [zz_isCell (by assumption), if_pos rfl]
        | rw [if_neg (zq_ne (by assumption) (by decide) (by decide))]
        | rw [Option.bind_assoc]
        | rw [Option.bind_some]
      exact endc φ w _ _ (by assumption)
    · repeat' first
        | (with_reducible refine zw_some.mpr ⟨_, ⟨?_, ?_⟩, by assumption⟩ <;> omega)
        | (with_reducible refine zw_some.mpr ⟨_, ⟨?_, ?_⟩, zx_Om (by assumption) ?_⟩ <;> omega)
        | (with_reducible refine zw_some.mpr ⟨_, ⟨?_, ?_⟩, zx_Om (zx_uF (by assumption) (Or.inl rfl)) ?_⟩ <;> omega)
        | (with_reducible refine zw_mono (zxb_142 (by assumption) (by omega)) ?_; intro _ z; exact ⟨_, by omega, z⟩)
        | (with_reducible refine zw_mono (zxb_142c (by assumption) (by omega)) ?_; intro _ z; exact ⟨_, by omega, z⟩)
        | (rw [zw_bind]; with_reducible refine zw_mono (zxb_body (by assumption)) ?_; intro _ _)
        | (rw [zw_bind]; with_reducible refine zw_mono (zxw_expr4 (by assumption)) ?_; intro _ _)
        | (rw [zw_bind]; with_reducible refine zw_mono (zxw_next2 (by assumption)) ?_; intro _ _)
        | (rw [zw_bind]; with_reducible refine zw_mono (zx_open (by assumption)) ?_; intro _ _)
        | (rw [zw_bind]; with_reducible refine zw_mono (zxw_expression (by assumption)) ?_; intro _ _)
        | (rw [zw_bind]; with_reducible refine zw_mono (zxw_operand (by assumption)) ?_; intro _ _)
        | (rw [zw_bind]; with_reducible refine zw_mono (zxb_keep (by assumption) (by omega)) ?_; intro _ _)
        | (rw [zw_B]; with_reducible refine zw_mono (zxb_node (by assumption) (by omega) rfl) ?_; rintro _ ⟨e1, _⟩; try rw [e1])
        | (rw [zw_bind]; with_reducible refine zw_mono (zxw_wantSign (by assumption)) ?_; intro _ _)
        | (rw [zw_bind]; with_reducible refine zw_mono (zxw_wantWord (by assumption)) ?_; intro _ _)
        | (rw [zw_bind]; with_reducible refine zw_mono (zxw_want (by assumption)) ?_; intro _ _)
        | (rw [zw_bind]; with_reducible refine zw_mono (zx_next (by assumption)) ?_; intro _ _)
        | (rw [zw_bind]; with_reducible refine zw_mono (zxb_constant (by assumption) (by omega) (by omega)) ?_; intro _ _)
        | (rw [zw_bind]; with_reducible refine zw_mono (zxw_simple (by assumption) (by omega) (by omega)) ?_; rintro _ ⟨_, _, _, _⟩)
        | (rw [zw_B]; with_reducible refine zw_mono (zxb_add (by assumption) (by omega) rfl (by omega)) ?_; rintro _ ⟨e1, _⟩; try rw [e1])
        | rw [zx_isSign (by assumption), if_pos rfl]
        | rw [zx_isWord (by assumption), if_pos rfl]
        | rw [if_neg (zx_ne (by assumption))]
        | rw [if_neg (zx_pos (by assumption))]
        | rw [if_pos (show (0 : Int32) ≤ 0 by decide)]
        | rw [Option.bind_assoc]
        | rw [Option.bind_some]
      refine endm φ w _ _ ?_ ?_ (by assumption) <;> omega
end ZX
end
