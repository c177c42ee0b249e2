section
/-! Both readers in step: assignments, invocations. -/
section ZZz
variable {h0 g0 h g : zs_H} {T : Nat → Int32} {n K φ w m O : Nat} {LC : List (List Int32)}
theorem zz_asg92 {x1 : Int32} (H : zq_Z h0 T n K LC φ w h) (v1 : zq_v x1) : zw (f_Ps_assignment_92 h x1) (fun p => zq_v p.1 ∧ zq_Z h0 T n K LC φ w p.2) := by
  unfold f_Ps_assignment_92
  repeat' first
    | with_reducible exact zw_some.mpr ⟨by assumption, by assumption⟩
    | with_reducible exact zw_some.mpr ⟨by assumption, zz_open (by assumption)⟩
    | (rw [zw_B]; with_reducible refine zw_mono (zz_expression (by assumption)) ?_; rintro _ ⟨_, _⟩)
    | (rw [zw_B]; with_reducible refine zw_mono (zz_operand (by assumption)) ?_; rintro _ ⟨_, _⟩)
    | (rw [zw_B]; with_reducible refine zw_mono (zz_statements (by assumption)) ?_; rintro _ ⟨_, _⟩)
    | (rw [zw_bind]; with_reducible refine zw_mono (zz_take (zz_uM (by assumption) (by decide))) ?_; intro _ _)
    | (rw [zw_bind]; with_reducible refine zw_mono (zz_take (by assumption)) ?_; intro _ _)
    | (rw [zw_B]; with_reducible refine zw_mono (zz_constant (by assumption)) ?_; rintro _ ⟨_, _⟩)
    | (rw [zw_B]; with_reducible refine zw_mono (zz_simpleType (by assumption)) ?_; rintro _ ⟨_, _⟩)
    | (rw [zw_B]; with_reducible refine zw_mono (zz_type (by assumption)) ?_; rintro _ ⟨_, _⟩)
    | (rw [zw_B]; with_reducible refine zw_mono (zz_whole (by assumption)) ?_; rintro _ ⟨_, _⟩)
    | (rw [zw_B]; with_reducible refine zw_mono (zz_add (by assumption)) ?_; rintro _ ⟨_, _⟩)
    | (rw [zw_B]; with_reducible refine zw_mono (zz_hang (by assumption) (by assumption) (by first | assumption | exact zq_vl_n | exact zq_vl_v (by assumption)) (by assumption)) ?_; rintro _ ⟨_, _⟩)
    | rw [if_pos (zq_at (by assumption))]
    | rw [zz_isCell (by assumption), if_pos rfl]
    | rw [if_neg (zq_ne (by assumption) (by decide) (by decide))]
    | rw [Option.bind_assoc]
    | rw [Option.bind_some]
    | rw [if_pos (zi_in (by omega) (by omega))]
theorem zxb_82 {a : Nat} (H : zx_B g0 T n φ w m O g) (ha : a < 33500) : zw (f_Mo_named_82 g (nI a)) (zx_B g0 T n φ w m O) := by
  unfold f_Mo_named_82
  rw [if_pos (zi_in (by omega) ha), zw_bind]
  refine zw_mono (zxw_wantSign (zxb_uM H (Or.inl rfl))) fun g1 z1 => ?_
  rw [zw_bind]
  exact zw_mono (zxw_expr4 z1) fun g2 z2 => zw_some.mpr z2
theorem zz_inv170 {x1 : Int32} (H : zq_Z h0 T n K LC φ w h) (v1 : zq_v x1) : zw (f_Ps_invocation_170 h x1) (fun p => zq_v p.1 ∧ zq_Z h0 T n K LC φ w p.2) := by
  unfold f_Ps_invocation_170
  repeat' first
    | with_reducible exact zw_some.mpr ⟨by assumption, by assumption⟩
    | with_reducible exact zw_some.mpr ⟨by assumption, zz_open (by assumption)⟩
    | (rw [zw_B]; with_reducible refine zw_mono (zz_expression (by assumption)) ?_; rintro _ ⟨_, _⟩)
    | (rw [zw_B]; with_reducible refine zw_mono (zz_operand (by assumption)) ?_; rintro _ ⟨_, _⟩)
    | (rw [zw_B]; with_reducible refine zw_mono (zz_statements (by assumption)) ?_; rintro _ ⟨_, _⟩)
    | (rw [zw_bind]; with_reducible refine zw_mono (zz_take (zz_uM (by assumption) (by decide))) ?_; intro _ _)
    | (rw [zw_bind]; with_reducible refine zw_mono (zz_take (by assumption)) ?_; intro _ _)
    | (rw [zw_B]; with_reducible refine zw_mono (zz_constant (by assumption)) ?_; rintro _ ⟨_, _⟩)
    | (rw [zw_B]; with_reducible refine zw_mono (zz_simpleType (by assumption)) ?_; rintro _ ⟨_, _⟩)
    | (rw [zw_B]; with_reducible refine zw_mono (zz_type (by assumption)) ?_; rintro _ ⟨_, _⟩)
    | (rw [zw_B]; with_reducible refine zw_mono (zz_whole (by assumption)) ?_; rintro _ ⟨_, _⟩)
    | (rw [zw_B]; with_reducible refine zw_mono (zz_add (by assumption)) ?_; rintro _ ⟨_, _⟩)
    | (rw [zw_B]; with_reducible refine zw_mono (zz_hang (by assumption) (by assumption) (by first | assumption | exact zq_vl_n | exact zq_vl_v (by assumption)) (by assumption)) ?_; rintro _ ⟨_, _⟩)
    | rw [if_pos (zq_at (by assumption))]
    | rw [zz_isCell (by assumption), if_pos rfl]
    | rw [if_neg (zq_ne (by assumption) (by decide) (by decide))]
    | rw [Option.bind_assoc]
    | rw [Option.bind_some]
    | rw [if_pos (zi_in (by omega) (by omega))]
theorem zz_inv0 {N : Nat} {x1 x2 x4 : Int32} (H : zq_Z h0 T n K LC φ w h) (v1 : zq_v x1) : zw (f_Ps_invocation_L62 (N + 1) h x1 x2 0 x4) (fun p => zq_v p.1 ∧ zq_Z h0 T n K LC φ w p.2) := by
  show zw (f_Ps_invocation_62 (f_Ps_invocation_L62 N) h x1 x2 0 x4) _
  unfold f_Ps_invocation_62
  rw [if_pos (show (0 : Int32) = 0 from rfl)]
  split <;> exact zz_inv170 H v1
theorem zz_invL {N : Nat} {x1 x2 x3 x4 : Int32} (H : zq_Z h0 T n K LC φ w h) (v1 : zq_v x1) (v2 : zq_vl x2) : zw (f_Ps_invocation_L62 (N + 2) h x1 x2 x3 x4) (fun p => zq_v p.1 ∧ zq_Z h0 T n K LC φ w p.2) := by
  show zw (f_Ps_invocation_62 (f_Ps_invocation_L62 (N + 1)) h x1 x2 x3 x4) _
  unfold f_Ps_invocation_62
  split
  · exact zz_inv170 H v1
  split
  · exact zz_inv170 H v1
  repeat' first
    | with_reducible exact zw_some.mpr ⟨by assumption, by assumption⟩
    | with_reducible exact zw_some.mpr ⟨by assumption, zz_open (by assumption)⟩
    | (rw [zw_B]; with_reducible refine zw_mono (zz_expression (by assumption)) ?_; rintro _ ⟨_, _⟩)
    | (rw [zw_B]; with_reducible refine zw_mono (zz_operand (by assumption)) ?_; rintro _ ⟨_, _⟩)
    | (rw [zw_B]; with_reducible refine zw_mono (zz_statements (by assumption)) ?_; rintro _ ⟨_, _⟩)
    | (rw [zw_bind]; with_reducible refine zw_mono (zz_take (zz_uM (by assumption) (by decide))) ?_; intro _ _)
    | (rw [zw_bind]; with_reducible refine zw_mono (zz_take (by assumption)) ?_; intro _ _)
    | (rw [zw_B]; with_reducible refine zw_mono (zz_constant (by assumption)) ?_; rintro _ ⟨_, _⟩)
    | (rw [zw_B]; with_reducible refine zw_mono (zz_simpleType (by assumption)) ?_; rintro _ ⟨_, _⟩)
    | (rw [zw_B]; with_reducible refine zw_mono (zz_type (by assumption)) ?_; rintro _ ⟨_, _⟩)
    | (rw [zw_B]; with_reducible refine zw_mono (zz_whole (by assumption)) ?_; rintro _ ⟨_, _⟩)
    | (rw [zw_B]; with_reducible refine zw_mono (zz_add (by assumption)) ?_; rintro _ ⟨_, _⟩)
    | (rw [zw_B]; with_reducible refine zw_mono (zz_hang (by assumption) (by assumption) (by first | assumption | exact zq_vl_n | exact zq_vl_v (by assumption)) (by assumption)) ?_; rintro _ ⟨_, _⟩)
    | rw [if_pos (zq_at (by assumption))]
    | rw [zz_isCell (by assumption), if_pos rfl]
    | rw [if_neg (zq_ne (by assumption) (by decide) (by decide))]
    | rw [Option.bind_assoc]
    | rw [Option.bind_some]
    | rw [if_pos (zi_in (by omega) (by omega))]
  unfold f_Ps_invocation_153 f_Ps_invocation_164
  rw [if_pos rfl]
  exact zz_inv0 (by assumption) v1
theorem zxb_inv0 {N : Nat} {x : Int32} (H : zx_B g0 T n φ w m O g) : zw (f_Mo_invoke_L32 (N + 1) g x 0) (zx_B g0 T n φ w m O) := by
  show zw (f_Mo_invoke_32 (f_Mo_invoke_L32 N) g x 0) _
  unfold f_Mo_invoke_32
  rw [if_pos rfl, zx_wantSign H, Option.bind_some, zw_some]
  exact zx_uF H (Or.inl rfl)
end ZZz
section ZZa
variable {h0 g0 h g g1 h' g' : zs_H} {T : Nat → Int32} {n K : Nat} {LC LM LM' LM1 : List (List Int32)} {j d s m o q b kd j' d' s' m' e st D f M0 M : Nat} {p v y : Int32} {u : zt_T} {X : Int32 → zs_H → zs_H → Prop}
/-- an assignment, from its sign on -/
theorem zk_asg92 {g3 h9 g9 : zs_H} (a12 : zx_AP LC LM LM1 b m (m + 1) (zt_n 12 0 0 .leaf) g g3) (hp1 : LM <+: LM1) (hN12 : (g3.2.1 72) m = nI 12 ∧ (g3.2.1 74) m = 0 ∧ (g3.2.1 75) m = nI b ∧ (g3.2.1 76) m = -1 ∧ (g3.2.1 77) m = -1 ∧ (g3.2.1 77) b = nI m) (R : zk_TT h0 g0 T n K LC LM1 (zg_T [6, 32] (3 * (60 - d) + 3)) e j d s (m + 1) 0 0 m h g3 (nI s) h9 g9) (he : 2 ≤ e) (hs : s ≤ 2 * j + 10) (hm : m ≤ 2 * j + 10) (hb : b < m) : zk_G h0 g0 T n K LC m 20950 0 (zk_T h0 g0 T n K LC LM (zg_T zg_Sx (3 * (60 - d) + 4)) j d s m 0 0 b h g) (f_Ps_assignment_92 h9 (nI s)) (f_Mo_named_82 g9 (nI m)) := by
  have vv := zk_TTv R
  obtain ⟨t9, LM9, j9, s9, m9, a, ⟨W9, cc9⟩, hp9, L9, n1, n2, n3, n4, n5, ea, n6, n7, C9, kp9, ap9⟩ := R
  have bK := zk_bK L9
  rw [← ea] at C9
  have vs9 : zq_v (nI s9) := ⟨s9, by omega, rfl⟩
  unfold f_Ps_assignment_92 f_Mo_named_82
  rw [if_pos (zi_in (by omega) (by omega)), nI_clamp (by omega)]
  obtain ⟨h10, e1, L10, qA⟩ := zk_cadd L9 (kd := 12) (kv := 12) (v := 0) (by omega) (by decide) rfl
  rw [e1, zo_B]
  have m4 := L9.2.2.2.2.2.2.2.2.1
  rw [m4]
  obtain ⟨gp, hgp⟩ : ∃ gp, gp = zs_uM g9 73 m (nI (zl_at T n j9).2.1) := ⟨_, rfl⟩
  rw [← hgp]
  have fp : zfr [] [73] [] g9 gp := by rw [hgp]; exact zfr_M (by decide) zfr_rfl
  have epl : ∀ i, (gp.2.1 73) i = if i = m then nI (zl_at T n j9).2.1 else (g9.2.1 73) i := fun i => by rw [hgp]; simp [zu_MM]
  have eo : ∀ k, ¬ k = 73 → gp.2.1 k = g9.2.1 k := fun k hk => fp.2.1 k (by simpa using hk)
  obtain ⟨x1, x2, x3, x4, x5, x6, x7⟩ := zk_dd L10
  have Lp : zk_L h0 g0 T n K LC h10 gp LM9 j9 d (s9 + 1) m9 0 0 := by
    refine zk_mf L10 (zfr_w fp (by decide) (by decide) (by decide)) ((fp.1 _ _ (by decide)).trans x4) ?_
    unfold zx_W
    rw [eo _ (by decide), eo _ (by decide)]; exact x5
  obtain ⟨h11, g11, e2, e3, R⟩ := zk_wantS Lp (c := 256) (k := 1) (by decide) (by decide)
  rw [show f_Ps_take h10 1 = some h11 from e2, show f_Mo_wantSign gp 256 = some g11 from e3, Option.bind_some, Option.bind_some]
  have bad : ∀ φ w, zq_Z h0 T n K LC φ w h11 → zx_B g0 T n φ w m9 0 g11 → zk_G h0 g0 T n K LC m 20950 0 (zk_T h0 g0 T n K LC LM (zg_T zg_Sx (3 * (60 - d) + 4)) j d s m 0 0 b h g) (zd_B (f_Tr_hang h11 (nI s9) (-1) (nI s)) fun v7 h8 => (zd_B (f_Ps_wholeExpression h8) fun v10 h11 => (zd_B (f_Tr_hang h11 (nI s9) (nI s) v10) fun v13 h14 => (some (nI s9, h14))))) ((f_Mo_expression 400 g11 (nI m)).bind fun h5 => some h5) := by
    intro φ w z1 z2
    refine zk_Gf (φ := φ) (w := w) ?_ ?_
    · repeat' first
        | with_reducible exact zw_some.mpr ⟨by assumption, by assumption⟩
        | with_reducible exact zw_some.mpr ⟨by assumption, zz_open (by assumption)⟩
        | (rw [zw_B]; with_reducible refine zw_mono (zz_expression (by assumption)) ?_; rintro _ ⟨_, _⟩)
        | (rw [zw_B]; with_reducible refine zw_mono (zz_operand (by assumption)) ?_; rintro _ ⟨_, _⟩)
        | (rw [zw_B]; with_reducible refine zw_mono (zz_statements (by assumption)) ?_; rintro _ ⟨_, _⟩)
        | (rw [zw_bind]; with_reducible refine zw_mono (zz_take (zz_uM (by assumption) (by decide))) ?_; intro _ _)
        | (rw [zw_bind]; with_reducible refine zw_mono (zz_take (by assumption)) ?_; intro _ _)
        | (rw [zw_B]; with_reducible refine zw_mono (zz_constant (by assumption)) ?_; rintro _ ⟨_, _⟩)
        | (rw [zw_B]; with_reducible refine zw_mono (zz_simpleType (by assumption)) ?_; rintro _ ⟨_, _⟩)
        | (rw [zw_B]; with_reducible refine zw_mono (zz_type (by assumption)) ?_; rintro _ ⟨_, _⟩)
        | (rw [zw_B]; with_reducible refine zw_mono (zz_whole (by assumption)) ?_; rintro _ ⟨_, _⟩)
        | (rw [zw_B]; with_reducible refine zw_mono (zz_add (by assumption)) ?_; rintro _ ⟨_, _⟩)
        | (rw [zw_B]; with_reducible refine zw_mono (zz_hang (by assumption) (by assumption) (by first | assumption | exact zq_vl_n | exact zq_vl_v (by assumption)) (by assumption)) ?_; rintro _ ⟨_, _⟩)
        | rw [if_pos (zq_at (by assumption))]
        | rw [zz_isCell (by assumption), if_pos rfl]
        | rw [if_neg (zq_ne (by assumption) (by decide) (by decide))]
        | rw [Option.bind_assoc]
        | rw [Option.bind_some]
        | rw [if_pos (zi_in (by omega) (by omega))]
    · repeat' first
        | (with_reducible refine zw_some.mpr ⟨_, ⟨?_, ?_⟩, by assumption⟩ <;> omega)
        | (with_reducible refine zw_some.mpr ⟨_, ⟨?_, ?_⟩, zx_Om (by assumption) ?_⟩ <;> omega)
        | (with_reducible refine zw_some.mpr ⟨_, ⟨?_, ?_⟩, zx_Om (zx_uF (by assumption) (Or.inl rfl)) ?_⟩ <;> omega)
        | (with_reducible refine zw_mono (zxb_142 (by assumption) (by omega)) ?_; intro _ z; exact ⟨_, by omega, z⟩)
        | (with_reducible refine zw_mono (zxb_142c (by assumption) (by omega)) ?_; intro _ z; exact ⟨_, by omega, z⟩)
        | (rw [zw_bind]; with_reducible refine zw_mono (zxb_body (by assumption)) ?_; intro _ _)
        | (rw [zw_bind]; with_reducible refine zw_mono (zxw_expr4 (by assumption)) ?_; intro _ _)
        | (rw [zw_bind]; with_reducible refine zw_mono (zxw_next2 (by assumption)) ?_; intro _ _)
        | (rw [zw_bind]; with_reducible refine zw_mono (zx_open (by assumption)) ?_; intro _ _)
        | (rw [zw_bind]; with_reducible refine zw_mono (zxw_expression (by assumption)) ?_; intro _ _)
        | (rw [zw_bind]; with_reducible refine zw_mono (zxw_operand (by assumption)) ?_; intro _ _)
        | (rw [zw_bind]; with_reducible refine zw_mono (zxb_keep (by assumption) (by omega)) ?_; intro _ _)
        | (rw [zw_B]; with_reducible refine zw_mono (zxb_node (by assumption) (by omega) rfl) ?_; rintro _ ⟨e1, _⟩; try rw [e1])
        | (rw [zw_bind]; with_reducible refine zw_mono (zxw_wantSign (zxb_uM (by assumption) (by decide))) ?_; intro _ _)
        | (rw [zw_bind]; with_reducible refine zw_mono (zxw_wantSign (by assumption)) ?_; intro _ _)
        | (rw [zw_bind]; with_reducible refine zw_mono (zxw_wantWord (by assumption)) ?_; intro _ _)
        | (rw [zw_bind]; with_reducible refine zw_mono (zxw_want (by assumption)) ?_; intro _ _)
        | (rw [zw_bind]; with_reducible refine zw_mono (zx_next (by assumption)) ?_; intro _ _)
        | (rw [zw_bind]; with_reducible refine zw_mono (zxb_constant (by assumption) (by omega) (by omega)) ?_; intro _ _)
        | (rw [zw_bind]; with_reducible refine zw_mono (zxw_simple (by assumption) (by omega) (by omega)) ?_; rintro _ ⟨_, _, _, _⟩)
        | (rw [zw_B]; with_reducible refine zw_mono (zxb_add (by assumption) (by omega) rfl (by omega)) ?_; rintro _ ⟨e1, _⟩; try rw [e1])
        | rw [zx_isSign (by assumption), if_pos rfl]
        | rw [zx_isWord (by assumption), if_pos rfl]
        | rw [if_neg (zx_ne (by assumption))]
        | rw [if_neg (zx_pos (by assumption))]
        | rw [if_pos (show (0 : Int32) ≤ 0 by decide)]
        | rw [Option.bind_assoc]
        | rw [Option.bind_some]
        | rw [zx_name (by assumption), zo_B]
        | rw [if_pos (zi_in (by omega) (by omega))]
  rcases R with ⟨φ, w, z1, z2⟩ | ⟨_, ⟨f1, f2, LM11, hp11, L11⟩ | ⟨φ, w, z1, z2⟩⟩
  · exact bad φ w z1 z2
  · have kA := zq_kp_A qA
    have k11 := zq_kp_f (s := s9 + 1) f1
    have k911 : zq_kp s9 h9 h11 := zq_kp_t kA k11 (by omega)
    have C11 := zt_Ck k911 (fun i hi => hi.2) C9
    obtain ⟨q1, q2, q3, q4, q5, q6, q7⟩ := qA
    obtain ⟨r1, r2, r3, r4, r5⟩ := k11 s9 (by omega)
    obtain ⟨h12, e4, C12, e5, f12⟩ := zq_hangC (h := h11) (ip := s9) (a := s) (y := -1) (t := .leaf) (P := fun _ => False) (by omega) (fun i hi => hi.elim) ⟨by rw [r4, q5, if_pos rfl], rfl⟩ C11 (fun i hi => hi.elim) (fun z => z) (by omega) (by omega)
    rw [e4, zo_B]
    have L12 := zk_cf L11 f12 (by decide)
    obtain ⟨x, h13, g13, e6, e7, R⟩ := zk_wexprD (b := m) (D' := 400) L12 (by decide) (by omega) (by omega) (by omega)
    rw [e6, e7, zo_B, Option.bind_some]
    rcases R with ⟨t13, LM13, j13, s13, m13, a13, ⟨W13, cc13⟩, hp13, L13, p1, p2, p3, p4, p5, ea13, p6, p7, C13, kp13, ap13⟩ | ⟨vx, φ, w, m2, w1, w2, z1, z2⟩
    · have bK13 := zk_bK L13
      subst ea13
      obtain ⟨y1, y2, y3, y4, y5⟩ := kp13 s9 (by omega)
      have C12' : zt_C h13 t9 (fun i => s ≤ i ∧ i < s9) ((h13.2.1 17) s9) (nI s) := by
        rw [y4]
        exact zt_Ck kp13 (fun i hi => by omega) (zt_Cm (fun i hi => hi.elim (fun z => z.elim) (fun z => z)) C12)
      obtain ⟨h14, e8, C14, e9, f14⟩ := zq_hangC (h := h13) (ip := s9) (a := a13) (by omega) (fun i hi => by omega) C12' C13 (fun i hi z => by omega) (by omega) (by omega) (by omega)
      rw [e8]
      -- the model's side
      obtain ⟨kp39, M9⟩ := ap9 (fun _ => False) .leaf (fun i z => z.elim) ⟨hN12.2.2.2.1, hN12.2.2.2.2.1⟩
      obtain ⟨k0, k1, k2, k3, k4, k5⟩ := kp39
      have Mp : zt_M LC LM9 gp t9 (fun i => m < i ∧ i < m9) (nI m) ((gp.2.1 76) m) ((gp.2.1 77) m) := by
        rw [eo 76 (by decide), eo 77 (by decide)]
        refine zo_Mk (List.prefix_refl _) (fun i hi => ?_) (zt_Mm (fun i hi => hi.elim (fun z => z.elim) (fun z => by omega)) M9)
        exact ⟨congrFun (eo _ (by decide)) i, by rw [epl, if_neg (by omega)], congrFun (eo _ (by decide)) i, congrFun (eo _ (by decide)) i, congrFun (eo _ (by decide)) i, congrFun (eo _ (by decide)) i, congrFun (eo _ (by decide)) i⟩
      have ka := zx_ka_l (m := m9) f2
      have Mq : zt_M LC LM11 g11 t9 (fun i => m < i ∧ i < m9) (nI m) ((g11.2.1 76) m) ((g11.2.1 77) m) := by
        obtain ⟨_, _, _, _, b5, b6, _⟩ := ka m (by omega)
        rw [b5, b6]
        exact zt_Mk hp11 ka (fun i hi => hi.2) Mp
      obtain ⟨kp1113, M13⟩ := ap13 (fun i => m < i ∧ i < m9) t9 (fun i hi => hi) Mq
      obtain ⟨l0, l1, l2, l3, l4, l5⟩ := kp1113
      obtain ⟨b1, b2, b3, b4, b5, b6, b7⟩ := ka m (by omega)
      have hN : zt_Nf LC LM13 g13 m 12 (nI (zl_at T n j9).2.1) 0 := by
        refine ⟨?_, fun _ => ?_, ?_⟩
        · rw [l1, b1, eo _ (by decide), k1]; exact hN12.1
        · rw [l2, b2, epl, if_pos rfl]
        · rw [if_neg (by decide), l3, b3, eo _ (by decide), k3]; exact hN12.2.1
      refine ⟨nI s9, h14, g13, rfl, rfl, Or.inl ⟨zt_n 12 (nI (zl_at T n j9).2.1) 0 (zt_ap t9 t13), LM13, j13, s13, m13, s9, ⟨zg_n (zg_U1 (st := 1) (st' := 2) (S := zg_E) (zg_U1 (u := .leaf) (st := 0) (st' := 1) (S := [6, 32]) zg_U0 W9 (by decide)) (zg_Tm W13 (fun _ z => z) (by omega)) (by decide)) rfl (Or.inl rfl) (by decide), by rw [zg_c_n (by decide), zg_c_ap]; omega⟩, hp1.trans (hp9.trans (hp11.trans hp13)), zk_cf L13 f14 (by decide), by omega, by omega, by omega, by omega, by omega, rfl, by omega, by omega, ?_, ?_, ?_⟩⟩
      · obtain ⟨d1, d2, d3, d4, d5⟩ := e5 s9
        obtain ⟨c1, c2, c3, c4, c5⟩ := e9 s9
        refine zt_Cm (fun i hi => by omega) (zt_Cp (ip := s9) (by omega) (by omega) ?_ ?_ ?_ ?_ C14)
        · exact c1.trans (y1.trans (d1.trans (r1.trans (by rw [q2, if_pos rfl]))))
        · exact c2.trans (y2.trans (d2.trans (r2.trans (by rw [q3, if_pos rfl]))))
        · exact c3.trans (y3.trans (d3.trans (r3.trans (by rw [q4, if_pos rfl]))))
        · exact (c5 (by omega)).trans (y5.trans ((d5 (fun z => z)).trans (r5.trans (by rw [q6, if_pos rfl]))))
      · intro i hi
        obtain ⟨a1, a2, a3, a4, a5⟩ := kp9 i hi
        obtain ⟨b1, b2, b3, b4, b5⟩ := k911 i (by omega)
        obtain ⟨c1, c2, c3, c4, c5⟩ := e5 i
        obtain ⟨d1, d2, d3, d4, d5⟩ := kp13 i (by omega)
        obtain ⟨z1, z2, z3, z4, z5⟩ := e9 i
        exact ⟨z1.trans (d1.trans (c1.trans (b1.trans a1))), z2.trans (d2.trans (c2.trans (b2.trans a2))), z3.trans (d3.trans (c3.trans (b3.trans a3))), (z4 (by omega)).trans (d4.trans ((c4 (by omega)).trans (b4.trans a4))), (z5 (by omega)).trans (d5.trans ((c5 (fun z => z)).trans (b5.trans a5)))⟩
      · refine zx_AP_n2 (by omega) (by omega) hb a12 (hp9.trans (hp11.trans hp13)) (zt_Mm (fun i hi => by omega) M13) hN ?_ hN12.2.2.2.2.2 (fun i hi => ?_) ?_
        · rw [l4, b4, eo _ (by decide), k4]; exact hN12.2.2.1
        · obtain ⟨a1, a2, a3, a4, a5, a6, a7⟩ := k0 i hi
          obtain ⟨c1, c2, c3, c4, c5, c6, c7⟩ := ka i (by omega)
          obtain ⟨d1, d2, d3, d4, d5, d6, d7⟩ := l0 i hi
          rw [eo _ (by decide)] at c1 c3 c4 c5 c6 c7
          rw [epl, if_neg (by omega)] at c2
          exact ⟨d1.trans (c1.trans a1), d2.trans (c2.trans a2), d3.trans (c3.trans a3), d4.trans (c4.trans a4), d5.trans (c5.trans a5), d6.trans (c6.trans a6), d7.trans (c7.trans a7)⟩
        · rw [l5, b7, eo _ (by decide), k5]
    · refine zk_Gf (φ := φ) (w := w) ?_ ?_
      · repeat' first
          | with_reducible exact zw_some.mpr ⟨by assumption, by assumption⟩
          | with_reducible exact zw_some.mpr ⟨by assumption, zz_open (by assumption)⟩
          | (rw [zw_B]; with_reducible refine zw_mono (zz_expression (by assumption)) ?_; rintro _ ⟨_, _⟩)
          | (rw [zw_B]; with_reducible refine zw_mono (zz_operand (by assumption)) ?_; rintro _ ⟨_, _⟩)
          | (rw [zw_B]; with_reducible refine zw_mono (zz_statements (by assumption)) ?_; rintro _ ⟨_, _⟩)
          | (rw [zw_bind]; with_reducible refine zw_mono (zz_take (zz_uM (by assumption) (by decide))) ?_; intro _ _)
          | (rw [zw_bind]; with_reducible refine zw_mono (zz_take (by assumption)) ?_; intro _ _)
          | (rw [zw_B]; with_reducible refine zw_mono (zz_constant (by assumption)) ?_; rintro _ ⟨_, _⟩)
          | (rw [zw_B]; with_reducible refine zw_mono (zz_simpleType (by assumption)) ?_; rintro _ ⟨_, _⟩)
          | (rw [zw_B]; with_reducible refine zw_mono (zz_type (by assumption)) ?_; rintro _ ⟨_, _⟩)
          | (rw [zw_B]; with_reducible refine zw_mono (zz_whole (by assumption)) ?_; rintro _ ⟨_, _⟩)
          | (rw [zw_B]; with_reducible refine zw_mono (zz_add (by assumption)) ?_; rintro _ ⟨_, _⟩)
          | (rw [zw_B]; with_reducible refine zw_mono (zz_hang (by assumption) (by assumption) (by first | assumption | exact zq_vl_n | exact zq_vl_v (by assumption)) (by assumption)) ?_; rintro _ ⟨_, _⟩)
          | rw [if_pos (zq_at (by assumption))]
          | rw [zz_isCell (by assumption), if_pos rfl]
          | rw [if_neg (zq_ne (by assumption) (by decide) (by decide))]
          | rw [Option.bind_assoc]
          | rw [Option.bind_some]
          | rw [if_pos (zi_in (by omega) (by omega))]
      · repeat' first
          | (with_reducible refine zw_some.mpr ⟨_, ⟨?_, ?_⟩, by assumption⟩ <;> omega)
          | (with_reducible refine zw_some.mpr ⟨_, ⟨?_, ?_⟩, zx_Om (by assumption) ?_⟩ <;> omega)
          | (with_reducible refine zw_some.mpr ⟨_, ⟨?_, ?_⟩, zx_Om (zx_uF (by assumption) (Or.inl rfl)) ?_⟩ <;> omega)
          | (with_reducible refine zw_mono (zxb_142 (by assumption) (by omega)) ?_; intro _ z; exact ⟨_, by omega, z⟩)
          | (with_reducible refine zw_mono (zxb_142c (by assumption) (by omega)) ?_; intro _ z; exact ⟨_, by omega, z⟩)
          | (rw [zw_bind]; with_reducible refine zw_mono (zxb_body (by assumption)) ?_; intro _ _)
          | (rw [zw_bind]; with_reducible refine zw_mono (zxw_expr4 (by assumption)) ?_; intro _ _)
          | (rw [zw_bind]; with_reducible refine zw_mono (zxw_next2 (by assumption)) ?_; intro _ _)
          | (rw [zw_bind]; with_reducible refine zw_mono (zx_open (by assumption)) ?_; intro _ _)
          | (rw [zw_bind]; with_reducible refine zw_mono (zxw_expression (by assumption)) ?_; intro _ _)
          | (rw [zw_bind]; with_reducible refine zw_mono (zxw_operand (by assumption)) ?_; intro _ _)
          | (rw [zw_bind]; with_reducible refine zw_mono (zxb_keep (by assumption) (by omega)) ?_; intro _ _)
          | (rw [zw_B]; with_reducible refine zw_mono (zxb_node (by assumption) (by omega) rfl) ?_; rintro _ ⟨e1, _⟩; try rw [e1])
          | (rw [zw_bind]; with_reducible refine zw_mono (zxw_wantSign (zxb_uM (by assumption) (by decide))) ?_; intro _ _)
          | (rw [zw_bind]; with_reducible refine zw_mono (zxw_wantSign (by assumption)) ?_; intro _ _)
          | (rw [zw_bind]; with_reducible refine zw_mono (zxw_wantWord (by assumption)) ?_; intro _ _)
          | (rw [zw_bind]; with_reducible refine zw_mono (zxw_want (by assumption)) ?_; intro _ _)
          | (rw [zw_bind]; with_reducible refine zw_mono (zx_next (by assumption)) ?_; intro _ _)
          | (rw [zw_bind]; with_reducible refine zw_mono (zxb_constant (by assumption) (by omega) (by omega)) ?_; intro _ _)
          | (rw [zw_bind]; with_reducible refine zw_mono (zxw_simple (by assumption) (by omega) (by omega)) ?_; rintro _ ⟨_, _, _, _⟩)
          | (rw [zw_B]; with_reducible refine zw_mono (zxb_add (by assumption) (by omega) rfl (by omega)) ?_; rintro _ ⟨e1, _⟩; try rw [e1])
          | rw [zx_isSign (by assumption), if_pos rfl]
          | rw [zx_isWord (by assumption), if_pos rfl]
          | rw [if_neg (zx_ne (by assumption))]
          | rw [if_neg (zx_pos (by assumption))]
          | rw [if_pos (show (0 : Int32) ≤ 0 by decide)]
          | rw [Option.bind_assoc]
          | rw [Option.bind_some]
          | rw [zx_name (by assumption), zo_B]
          | rw [if_pos (zi_in (by omega) (by omega))]
  · exact bad φ w z1 z2
/-- the token behind a name, as the class looks at it ahead -/
theorem zk_ahead (H : zk_L h0 g0 T n K LC h g LM j d s m o q) (hE : ¬ (zl_at T n j).1 = 0) : ¬ (h.1 8 3) ≤ (h.1 19 4) + 1 ∧ zd_in ((h.1 19 4) + 1) 16385 ∧ (h.2.1 9) ((h.1 19 4) + 1).toNatClampNeg = nI (zl_ck (zl_at T n (j + 1))) := by
  have hlt := zk_lt H hE
  obtain ⟨a1, a2, a3, a4, a5, a6⟩ := H
  obtain ⟨s1, s2, s3, s4, s5, s6, s7, s8, s9, s10⟩ := a3
  obtain ⟨t1, t2, t3, t4⟩ := s1.1 (j + 1) (by omega)
  rw [a4.2.1, nI_1, s1.2, nI_clamp (by omega)]
  exact ⟨mt (nI_leI (by omega) (by omega)).mp (by omega), zi_in (by omega) (by omega), t1⟩
/-- an assignment -/
theorem zk_assign {b : Nat} (H : zk_L h0 g0 T n K LC h g LM j d s m 0 0) (ht : (h.1 19 5) = 8) (h40 : ¬ zl_ck (zl_at T n (j + 1)) = 40) (hs : s ≤ 2 * j + 10) (hm : m ≤ 2 * j + 10) (hb : b < m) : zk_G h0 g0 T n K LC m 20950 0 (zk_T h0 g0 T n K LC LM (zg_T zg_Sx (3 * (60 - d) + 4)) j d s m 0 0 b h g) (f_Ps_assignment h) (f_Mo_named g (nI b)) := by
  have bK := zk_bK H
  have x3 := (zk_dd H).2.2.1
  have m4 := H.2.2.2.2.2.2.2.2.1
  have nr := zk_nm8 H ht
  have v0 : zq_v (nI s) := ⟨s, by omega, rfl⟩
  have z0 : (0 : Int32) = 0 := rfl
  have e01 : ¬ (1 : Int32) = 0 := by decide
  unfold f_Ps_assignment f_Mo_named
  rw [if_pos (zk_atI H)]
  obtain ⟨vc, hvc⟩ : ∃ vc, vc = h.2.1 11 ((h.1 19 4)).toNatClampNeg := ⟨_, rfl⟩
  rw [← hvc] at nr ⊢
  obtain ⟨h1, e1, L1, qA⟩ := zk_cadd H (kd := 6) (kv := 6) (v := vc) (by omega) (by decide) rfl
  rw [e1, zo_B]
  obtain ⟨h2, g2, e2, e3, R⟩ := zk_want L1 (x := 8) (y := if (g.1 68 6) = 1 then 1 else 0) (zk_kW L1) (by decide)
  rw [e2, Option.bind_some, zk_nameE e3, zo_B]
  obtain ⟨vm, hvm⟩ : ∃ vm, vm = (g.1 68 9) := ⟨_, rfl⟩
  rw [← hvm] at nr ⊢
  have bad : ∀ φ w, zq_Z h0 T n K LC φ w h2 → zx_B g0 T n φ w m 0 g2 → zk_G h0 g0 T n K LC m 20950 0 (zk_T h0 g0 T n K LC LM (zg_T zg_Sx (3 * (60 - d) + 4)) j d s m 0 0 b h g) (f_Ps_assignment_92 h2 (nI s)) (zd_B (f_Mo_add g2 (nI b) 12 0 0) fun v7 h8 => (if (f_Mo_isSign h8 91) = 0 then (zd_B (f_Mo_add h8 v7 6 ((g.1 68 7)) vm) fun v12 h13 => f_Mo_named_82 h13 v7) else (zd_B (f_Mo_add h8 v7 32 ((g.1 68 7)) vm) fun v15 h16 => ((f_Mo_element 400 h16 v15).bind fun h18 => f_Mo_named_82 h18 v7)))) := by
    intro φ w z1 z2
    refine zk_Gf (φ := φ) (w := w) (zz_asg92 z1 v0) ?_
    obtain ⟨⟨x, g3⟩, e4, e5, z3⟩ := zxb_add (kd := 12) (kn := 12) (p := 0) (v := 0) (b := b) z2 (by omega) rfl hb
    rw [e4, zo_B, show x = nI m from e5, zx_isSign z3, if_pos z0]
    obtain ⟨⟨x, g4⟩, e4, e5, z4⟩ := zxb_add (kd := 6) (kn := 6) (p := (g.1 68 7)) (v := vm) (b := m) z3 (by omega) rfl (by omega)
    rw [e4, zo_B]
    exact zw_mono (zxb_82 z4 (by omega)) fun g5 z5 => ⟨_, by omega, z5⟩
  rcases R with ⟨φ, w, z1, z2⟩ | ⟨_, ⟨f1, f2, LM2, hp, L2⟩ | ⟨φ, w, z1, z2⟩⟩
  · rw [if_neg (zq_ne z1 (by decide) (by decide)), zx_isSign z2, if_pos z0]
    exact bad φ w z1 z2
  · have nr2 := zt_nrm hp nr
    have kA := zq_kp_A qA
    have kf := zq_kp_f (s := s + 1) f1
    obtain ⟨c1, c2, c3, c4, c5⟩ := kf s (by omega)
    have hn2 : (h2.2.1 13) s = nI 6 ∧ (h2.2.1 15) s = nI (zl_at T n j).2.1 ∧ (h2.2.1 16) s = vc ∧ (h2.2.1 18) s = -1 ∧ (h2.2.1 17) s = -1 := by
      obtain ⟨q1, q2, q3, q4, q5, q6, q7⟩ := qA
      exact ⟨c1.trans (by rw [q2, if_pos rfl]), c2.trans (by rw [q3, if_pos rfl]), c3.trans (by rw [q4, if_pos rfl]), c5.trans (by rw [q6, if_pos rfl]), c4.trans (by rw [q5, if_pos rfl])⟩
    have kp2 : zq_kp s h h2 := zq_kp_t kA kf (by omega)
    have ka2 := zx_ka_l (m := m) f2
    have n40 : ¬ (h2.1 19 5) = nI 40 := fun z => h40 ((zk_tok L2 (by decide)).mp z)
    obtain ⟨g3, e4, L3, qM, q1, q2, q3, q4, q5, q6, q7⟩ := zk_madd L2 (b := b) (kd := 12) (kv := 12) (p := 0) (v := 0) (v' := 0) (by omega) hb rfl (by rw [if_neg (by decide)])
    have a12 : zx_AP LC LM LM2 b m (m + 1) (zt_n 12 0 0 .leaf) g g3 := zx_AP_t (zx_AP_0 hp ka2 hb) qM (Nat.le_refl m) (by omega) hb
    have hN12 : (g3.2.1 72) m = nI 12 ∧ (g3.2.1 74) m = 0 ∧ (g3.2.1 75) m = nI b ∧ (g3.2.1 76) m = -1 ∧ (g3.2.1 77) m = -1 ∧ (g3.2.1 77) b = nI m := ⟨q1.1, by have := q1.2.2; rwa [if_neg (by decide)] at this, q2, q3, q4, q6⟩
    rw [show f_Mo_isSign g2 40 = if (h2.1 19 5) = nI 40 then 1 else 0 from zk_sign L2 (c := 40) (k := 40) (by decide), if_neg n40, if_pos z0, e4, zo_B, show f_Mo_isSign g3 91 = if (h2.1 19 5) = nI 91 then 1 else 0 from zk_sign L3 (c := 91) (k := 91) (by decide), m4]
    by_cases t91 : (h2.1 19 5) = 91
    · have hin : zd_in (nI s) 32784 := zi_in (by omega) (by omega)
      rw [if_pos t91, if_pos (show (h2.1 19 5) = nI 91 from t91), if_neg e01, if_pos hin, show (nI s).toNatClampNeg = s from nI_clamp (by omega)]
      have fV : zfr [] [13] [] h2 (zs_uM h2 13 s 32) := zfr_M (by decide) zfr_rfl
      have ek : ∀ i, (zs_uM h2 13 s 32).2.1 13 i = if i = s then 32 else (h2.2.1 13) i := fun i => by simp [zu_MM]
      obtain ⟨g4, e5, I⟩ := zk_I1 (D := 3 * (60 - d) + 2) (j := j) (h := h) (g := g3) (LM := LM2) (s := s) (m := m + 1) (b := m) (kd := 32) (km := 32) (p := nI (zl_at T n j).2.1) (v := vc) (w := vm) (zk_cf L3 fV (by decide)) (List.prefix_refl _) (by omega) (zq_kp_t kp2 (fun i hi => ⟨by rw [ek, if_neg (by omega)], rfl, rfl, rfl, rfl⟩) (Nat.le_refl s)) ⟨by rw [ek, if_pos rfl]; rfl, hn2.2.1, hn2.2.2.1, hn2.2.2.2.1, hn2.2.2.2.2⟩ (fun i _ => ⟨rfl, rfl, rfl, rfl, rfl, rfl, rfl⟩) (by omega) (by omega) (by omega) rfl (by rw [if_pos (by decide)]; exact nr2)
      rw [e5, zo_B, show f_Mo_element 400 = g_Mo_element (f_Mo_expression 399) from rfl]
      unfold g_Mo_element
      simp only [Option.bind_assoc, Option.bind_some]
      have b1 := zk_Ib I
      have endm : ∀ φ w gz m2, m ≤ m2 → m2 ≤ 20950 → zx_B g0 T n φ w m2 0 gz → zw (f_Mo_named_82 (zs_uF gz 68 12 ((gz.1 68 12) - 1)) (nI m)) (fun g' => ∃ m', (m ≤ m' ∧ m' ≤ 20950) ∧ zx_B g0 T n φ w m' 0 g') := by
        intro φ w gz m2 u1 u2 z2
        exact zw_mono (zxb_82 (zx_uF z2 (Or.inl rfl)) (by omega)) fun g5 z5 => ⟨_, by omega, z5⟩
      have endc : ∀ φ w hz, zq_Z h0 T n K LC φ w hz → zw (f_Ps_assignment_92 (zs_uF hz 19 7 ((hz.1 19 7) - 1)) (nI s)) (fun p => zq_v p.1 ∧ zq_Z h0 T n K LC φ w p.2) := fun φ w hz z1 => zz_asg92 (zz_open z1) v0
      obtain ⟨h5, g5, e6, e7, R⟩ := zk_deep I.1
      rw [show f_Ps_deepen (zs_uM h2 13 s (vp_nar .byte 32)) = some h5 from e6, e7, Option.bind_some, Option.bind_some]
      rcases R with ⟨hd, L5, f5, f6⟩ | ⟨φ, w, z1, z2⟩
      · have I5 := zk_Io I f5 f6 L5
        have b5 := zk_Ib I5
        refine zk_sA I5 (zk_wantS I5.1 (c := 91) (k := 91) (by decide) (by decide)) ?_ fun h6 g6 LM6 I6 => ?_
        · intro φ w hz gz z1 z2
          refine zk_Gf (φ := φ) (w := w) ?_ ?_
          · repeat' first
              | with_reducible exact zw_some.mpr ⟨by assumption, by assumption⟩
              | with_reducible exact zw_some.mpr ⟨by assumption, zz_open (by assumption)⟩
              | (rw [zw_B]; with_reducible refine zw_mono (zz_expression (by assumption)) ?_; rintro _ ⟨_, _⟩)
              | (rw [zw_B]; with_reducible refine zw_mono (zz_operand (by assumption)) ?_; rintro _ ⟨_, _⟩)
              | (rw [zw_B]; with_reducible refine zw_mono (zz_statements (by assumption)) ?_; rintro _ ⟨_, _⟩)
              | (rw [zw_bind]; with_reducible refine zw_mono (zz_take (zz_uM (by assumption) (by decide))) ?_; intro _ _)
              | (rw [zw_bind]; with_reducible refine zw_mono (zz_take (by assumption)) ?_; intro _ _)
              | (rw [zw_B]; with_reducible refine zw_mono (zz_constant (by assumption)) ?_; rintro _ ⟨_, _⟩)
              | (rw [zw_B]; with_reducible refine zw_mono (zz_simpleType (by assumption)) ?_; rintro _ ⟨_, _⟩)
              | (rw [zw_B]; with_reducible refine zw_mono (zz_type (by assumption)) ?_; rintro _ ⟨_, _⟩)
              | (rw [zw_B]; with_reducible refine zw_mono (zz_whole (by assumption)) ?_; rintro _ ⟨_, _⟩)
              | (rw [zw_B]; with_reducible refine zw_mono (zz_add (by assumption)) ?_; rintro _ ⟨_, _⟩)
              | (rw [zw_B]; with_reducible refine zw_mono (zz_hang (by assumption) (by assumption) (by first | assumption | exact zq_vl_n | exact zq_vl_v (by assumption)) (by assumption)) ?_; rintro _ ⟨_, _⟩)
              | rw [if_pos (zq_at (by assumption))]
              | rw [zz_isCell (by assumption), if_pos rfl]
              | rw [if_neg (zq_ne (by assumption) (by decide) (by decide))]
              | rw [Option.bind_assoc]
              | rw [Option.bind_some]
              | rw [if_pos (zi_in (by omega) (by omega))]
            exact endc φ w _ (by assumption)
          · repeat' first
              | (with_reducible refine zw_some.mpr ⟨_, ⟨?_, ?_⟩, by assumption⟩ <;> omega)
              | (with_reducible refine zw_some.mpr ⟨_, ⟨?_, ?_⟩, zx_Om (by assumption) ?_⟩ <;> omega)
              | (with_reducible refine zw_some.mpr ⟨_, ⟨?_, ?_⟩, zx_Om (zx_uF (by assumption) (Or.inl rfl)) ?_⟩ <;> omega)
              | (with_reducible refine zw_mono (zxb_142 (by assumption) (by omega)) ?_; intro _ z; exact ⟨_, by omega, z⟩)
              | (with_reducible refine zw_mono (zxb_142c (by assumption) (by omega)) ?_; intro _ z; exact ⟨_, by omega, z⟩)
              | (rw [zw_bind]; with_reducible refine zw_mono (zxb_body (by assumption)) ?_; intro _ _)
              | (rw [zw_bind]; with_reducible refine zw_mono (zxw_expr4 (by assumption)) ?_; intro _ _)
              | (rw [zw_bind]; with_reducible refine zw_mono (zxw_next2 (by assumption)) ?_; intro _ _)
              | (rw [zw_bind]; with_reducible refine zw_mono (zx_open (by assumption)) ?_; intro _ _)
              | (rw [zw_bind]; with_reducible refine zw_mono (zxw_expression (by assumption)) ?_; intro _ _)
              | (rw [zw_bind]; with_reducible refine zw_mono (zxw_operand (by assumption)) ?_; intro _ _)
              | (rw [zw_bind]; with_reducible refine zw_mono (zxb_keep (by assumption) (by omega)) ?_; intro _ _)
              | (rw [zw_B]; with_reducible refine zw_mono (zxb_node (by assumption) (by omega) rfl) ?_; rintro _ ⟨e1, _⟩; try rw [e1])
              | (rw [zw_bind]; with_reducible refine zw_mono (zxw_wantSign (zxb_uM (by assumption) (by decide))) ?_; intro _ _)
              | (rw [zw_bind]; with_reducible refine zw_mono (zxw_wantSign (by assumption)) ?_; intro _ _)
              | (rw [zw_bind]; with_reducible refine zw_mono (zxw_wantWord (by assumption)) ?_; intro _ _)
              | (rw [zw_bind]; with_reducible refine zw_mono (zxw_want (by assumption)) ?_; intro _ _)
              | (rw [zw_bind]; with_reducible refine zw_mono (zx_next (by assumption)) ?_; intro _ _)
              | (rw [zw_bind]; with_reducible refine zw_mono (zxb_constant (by assumption) (by omega) (by omega)) ?_; intro _ _)
              | (rw [zw_bind]; with_reducible refine zw_mono (zxw_simple (by assumption) (by omega) (by omega)) ?_; rintro _ ⟨_, _, _, _⟩)
              | (rw [zw_B]; with_reducible refine zw_mono (zxb_add (by assumption) (by omega) rfl (by omega)) ?_; rintro _ ⟨e1, _⟩; try rw [e1])
              | rw [zx_isSign (by assumption), if_pos rfl]
              | rw [zx_isWord (by assumption), if_pos rfl]
              | rw [if_neg (zx_ne (by assumption))]
              | rw [if_neg (zx_pos (by assumption))]
              | rw [if_pos (show (0 : Int32) ≤ 0 by decide)]
              | rw [Option.bind_assoc]
              | rw [Option.bind_some]
              | rw [zx_name (by assumption), zo_B]
              | rw [if_pos (zi_in (by omega) (by omega))]
            refine endm φ w _ _ ?_ ?_ (by assumption) <;> omega
        have b6 := zk_Ib I6
        refine zk_sK2 (e2 := 1) (e3 := 2) (S := zg_E) (st' := 1) I6 (zk_GM (zk_wexprD (D' := 399) I6.1 (by decide) (by omega) (by omega) (by omega)) (Nat.le_refl _) (Nat.le_refl 20900) (fun x h g R => zk_TTm R (Nat.le_refl _) (fun t W => zg_Tm W (fun _ z => z) (by omega)))) (by decide) (by omega) ?_ fun x7 h7 g7 u7 LM7 j7 s7 m7 vx7 hj7 I7 => ?_
        · intro φ w mz xz hz gz w1 w2 vz z1 z2
          refine zk_Gf (φ := φ) (w := w) ?_ ?_
          · repeat' first
              | with_reducible exact zw_some.mpr ⟨by assumption, by assumption⟩
              | with_reducible exact zw_some.mpr ⟨by assumption, zz_open (by assumption)⟩
              | (rw [zw_B]; with_reducible refine zw_mono (zz_expression (by assumption)) ?_; rintro _ ⟨_, _⟩)
              | (rw [zw_B]; with_reducible refine zw_mono (zz_operand (by assumption)) ?_; rintro _ ⟨_, _⟩)
              | (rw [zw_B]; with_reducible refine zw_mono (zz_statements (by assumption)) ?_; rintro _ ⟨_, _⟩)
              | (rw [zw_bind]; with_reducible refine zw_mono (zz_take (zz_uM (by assumption) (by decide))) ?_; intro _ _)
              | (rw [zw_bind]; with_reducible refine zw_mono (zz_take (by assumption)) ?_; intro _ _)
              | (rw [zw_B]; with_reducible refine zw_mono (zz_constant (by assumption)) ?_; rintro _ ⟨_, _⟩)
              | (rw [zw_B]; with_reducible refine zw_mono (zz_simpleType (by assumption)) ?_; rintro _ ⟨_, _⟩)
              | (rw [zw_B]; with_reducible refine zw_mono (zz_type (by assumption)) ?_; rintro _ ⟨_, _⟩)
              | (rw [zw_B]; with_reducible refine zw_mono (zz_whole (by assumption)) ?_; rintro _ ⟨_, _⟩)
              | (rw [zw_B]; with_reducible refine zw_mono (zz_add (by assumption)) ?_; rintro _ ⟨_, _⟩)
              | (rw [zw_B]; with_reducible refine zw_mono (zz_hang (by assumption) (by assumption) (by first | assumption | exact zq_vl_n | exact zq_vl_v (by assumption)) (by assumption)) ?_; rintro _ ⟨_, _⟩)
              | rw [if_pos (zq_at (by assumption))]
              | rw [zz_isCell (by assumption), if_pos rfl]
              | rw [if_neg (zq_ne (by assumption) (by decide) (by decide))]
              | rw [Option.bind_assoc]
              | rw [Option.bind_some]
              | rw [if_pos (zi_in (by omega) (by omega))]
            exact endc φ w _ (by assumption)
          · repeat' first
              | (with_reducible refine zw_some.mpr ⟨_, ⟨?_, ?_⟩, by assumption⟩ <;> omega)
              | (with_reducible refine zw_some.mpr ⟨_, ⟨?_, ?_⟩, zx_Om (by assumption) ?_⟩ <;> omega)
              | (with_reducible refine zw_some.mpr ⟨_, ⟨?_, ?_⟩, zx_Om (zx_uF (by assumption) (Or.inl rfl)) ?_⟩ <;> omega)
              | (with_reducible refine zw_mono (zxb_142 (by assumption) (by omega)) ?_; intro _ z; exact ⟨_, by omega, z⟩)
              | (with_reducible refine zw_mono (zxb_142c (by assumption) (by omega)) ?_; intro _ z; exact ⟨_, by omega, z⟩)
              | (rw [zw_bind]; with_reducible refine zw_mono (zxb_body (by assumption)) ?_; intro _ _)
              | (rw [zw_bind]; with_reducible refine zw_mono (zxw_expr4 (by assumption)) ?_; intro _ _)
              | (rw [zw_bind]; with_reducible refine zw_mono (zxw_next2 (by assumption)) ?_; intro _ _)
              | (rw [zw_bind]; with_reducible refine zw_mono (zx_open (by assumption)) ?_; intro _ _)
              | (rw [zw_bind]; with_reducible refine zw_mono (zxw_expression (by assumption)) ?_; intro _ _)
              | (rw [zw_bind]; with_reducible refine zw_mono (zxw_operand (by assumption)) ?_; intro _ _)
              | (rw [zw_bind]; with_reducible refine zw_mono (zxb_keep (by assumption) (by omega)) ?_; intro _ _)
              | (rw [zw_B]; with_reducible refine zw_mono (zxb_node (by assumption) (by omega) rfl) ?_; rintro _ ⟨e1, _⟩; try rw [e1])
              | (rw [zw_bind]; with_reducible refine zw_mono (zxw_wantSign (zxb_uM (by assumption) (by decide))) ?_; intro _ _)
              | (rw [zw_bind]; with_reducible refine zw_mono (zxw_wantSign (by assumption)) ?_; intro _ _)
              | (rw [zw_bind]; with_reducible refine zw_mono (zxw_wantWord (by assumption)) ?_; intro _ _)
              | (rw [zw_bind]; with_reducible refine zw_mono (zxw_want (by assumption)) ?_; intro _ _)
              | (rw [zw_bind]; with_reducible refine zw_mono (zx_next (by assumption)) ?_; intro _ _)
              | (rw [zw_bind]; with_reducible refine zw_mono (zxb_constant (by assumption) (by omega) (by omega)) ?_; intro _ _)
              | (rw [zw_bind]; with_reducible refine zw_mono (zxw_simple (by assumption) (by omega) (by omega)) ?_; rintro _ ⟨_, _, _, _⟩)
              | (rw [zw_B]; with_reducible refine zw_mono (zxb_add (by assumption) (by omega) rfl (by omega)) ?_; rintro _ ⟨e1, _⟩; try rw [e1])
              | rw [zx_isSign (by assumption), if_pos rfl]
              | rw [zx_isWord (by assumption), if_pos rfl]
              | rw [if_neg (zx_ne (by assumption))]
              | rw [if_neg (zx_pos (by assumption))]
              | rw [if_pos (show (0 : Int32) ≤ 0 by decide)]
              | rw [Option.bind_assoc]
              | rw [Option.bind_some]
              | rw [zx_name (by assumption), zo_B]
              | rw [if_pos (zi_in (by omega) (by omega))]
            refine endm φ w _ _ ?_ ?_ (by assumption) <;> omega
        have b7 := zk_Ib I7
        refine zk_sA I7 (zk_wantS I7.1 (c := 93) (k := 93) (by decide) (by decide)) ?_ fun h8 g8 LM8 I8 => ?_
        · intro φ w hz gz z1 z2
          exact zk_Gf (φ := φ) (w := w) (endc φ w _ z1) (endm φ w _ _ (by omega) (by omega) z2)
        have I9 := zk_Io I8 (d2 := d) (zfr_F (by decide) zfr_rfl) (zfr_F (by decide) zfr_rfl) (zk_close I8.1)
        exact zk_asg92 a12 hp hN12 (zk_TTm (zk_IdT (S := [6, 32]) I9 rfl (Or.inl rfl) (by decide) (by omega) (by decide)) (Nat.le_refl _) (fun t W => W)) (by omega) hs hm hb
      · refine zk_Gf (φ := φ) (w := w) ?_ ?_
        · repeat' first
            | with_reducible exact zw_some.mpr ⟨by assumption, by assumption⟩
            | with_reducible exact zw_some.mpr ⟨by assumption, zz_open (by assumption)⟩
            | (rw [zw_B]; with_reducible refine zw_mono (zz_expression (by assumption)) ?_; rintro _ ⟨_, _⟩)
            | (rw [zw_B]; with_reducible refine zw_mono (zz_operand (by assumption)) ?_; rintro _ ⟨_, _⟩)
            | (rw [zw_B]; with_reducible refine zw_mono (zz_statements (by assumption)) ?_; rintro _ ⟨_, _⟩)
            | (rw [zw_bind]; with_reducible refine zw_mono (zz_take (zz_uM (by assumption) (by decide))) ?_; intro _ _)
            | (rw [zw_bind]; with_reducible refine zw_mono (zz_take (by assumption)) ?_; intro _ _)
            | (rw [zw_B]; with_reducible refine zw_mono (zz_constant (by assumption)) ?_; rintro _ ⟨_, _⟩)
            | (rw [zw_B]; with_reducible refine zw_mono (zz_simpleType (by assumption)) ?_; rintro _ ⟨_, _⟩)
            | (rw [zw_B]; with_reducible refine zw_mono (zz_type (by assumption)) ?_; rintro _ ⟨_, _⟩)
            | (rw [zw_B]; with_reducible refine zw_mono (zz_whole (by assumption)) ?_; rintro _ ⟨_, _⟩)
            | (rw [zw_B]; with_reducible refine zw_mono (zz_add (by assumption)) ?_; rintro _ ⟨_, _⟩)
            | (rw [zw_B]; with_reducible refine zw_mono (zz_hang (by assumption) (by assumption) (by first | assumption | exact zq_vl_n | exact zq_vl_v (by assumption)) (by assumption)) ?_; rintro _ ⟨_, _⟩)
            | rw [if_pos (zq_at (by assumption))]
            | rw [zz_isCell (by assumption), if_pos rfl]
            | rw [if_neg (zq_ne (by assumption) (by decide) (by decide))]
            | rw [Option.bind_assoc]
            | rw [Option.bind_some]
            | rw [if_pos (zi_in (by omega) (by omega))]
          exact endc φ w _ (by assumption)
        · rw [zw_bind]
          refine zw_mono (zxw_wantSign z2) fun g6 z6 => ?_
          rw [zw_bind]
          refine zw_mono (zxw_expression (d := 398) z6) fun g7 z7 => ?_
          rw [zw_bind]
          refine zw_mono (zxw_wantSign z7) fun g8 z8 => ?_
          refine endm φ w _ _ ?_ ?_ z8 <;> omega
    · rw [if_neg t91, if_neg (show ¬ (h2.1 19 5) = nI 91 from t91), if_pos z0]
      obtain ⟨g4, e5, I⟩ := zk_I1 (D := 3 * (60 - d) + 2) (j := j) (h := h) (g := g3) (LM := LM2) (s := s) (m := m + 1) (b := m) (kd := 6) (km := 6) (p := nI (zl_at T n j).2.1) (v := vc) (w := vm) L3 (List.prefix_refl _) (by omega) kp2 hn2 (fun i _ => ⟨rfl, rfl, rfl, rfl, rfl, rfl, rfl⟩) (by omega) (by omega) (by omega) rfl (by rw [if_pos (by decide)]; exact nr2)
      rw [e5, zo_B]
      exact zk_asg92 a12 hp hN12 (zk_TTm (zk_IdT (S := [6, 32]) I rfl (Or.inl rfl) (by decide) (by omega) (by decide)) (Nat.le_refl _) (fun t W => W)) (by omega) hs hm hb
  · rw [if_neg (zq_ne z1 (by decide) (by decide)), zx_isSign z2, if_pos z0]
    exact bad φ w z1 z2
end ZZa
end
section
/-! Both readers in step: invocations, statements. -/
section ZAa
variable {h0 g0 h g g1 h' g' : zs_H} {T : Nat → Int32} {n K : Nat} {LC LM LM' LM1 : List (List Int32)} {j d s m o q b kd j' d' s' m' e st D f M0 M : Nat} {p v y : Int32} {u : zt_T} {X : Int32 → zs_H → zs_H → Prop}
theorem zx_inv0E {N : Nat} {x : Int32} {g : zs_H} : f_Mo_invoke_L32 (N + 1) g x 0 = (f_Mo_wantSign g 41).bind fun h3 => some (zs_uF h3 68 12 ((h3.1 68 12) - 1)) := by
  show f_Mo_invoke_32 (f_Mo_invoke_L32 N) g x 0 = _
  unfold f_Mo_invoke_32
  rw [if_pos rfl]
theorem zq_inv0E {N : Nat} {x1 x2 x4 : Int32} {h : zs_H} : f_Ps_invocation_L62 (N + 1) h x1 x2 0 x4 = f_Ps_invocation_170 h x1 := by
  show f_Ps_invocation_62 (f_Ps_invocation_L62 N) h x1 x2 0 x4 = _
  unfold f_Ps_invocation_62
  rw [if_pos (show (0 : Int32) = 0 from rfl)]
  split <;> rfl
/-- an invocation ends -/
theorem zk_inE (I : zk_I h0 g0 T n K LC LM j s m 0 0 b 13 p v h g g1 u y LM' j' (d + 1) s' m' e 0 (3 * (60 - d) + 3) f h' g') (he : 1 ≤ e) (hf : 1 ≤ f) (hs : s ≤ 2 * j + 10) (hm : m ≤ 2 * j + 10) : zk_G h0 g0 T n K LC m 20950 0 (zk_T h0 g0 T n K LC LM (zg_T zg_Sx (3 * (60 - d) + 4)) j d s m 0 0 b h g) (f_Ps_invocation_170 h' (nI s)) ((f_Mo_wantSign g' 41).bind fun h3 => some (zs_uF h3 68 12 ((h3.1 68 12) - 1))) := by
  have v0 := zk_Iv I
  have b1 := zk_Ib I
  unfold f_Ps_invocation_170
  refine zk_sA I (zk_wantS I.1 (c := 41) (k := 41) (by decide) (by decide)) ?_ fun h3 g3 LM3 I3 => ?_
  · intro φ w hz gz z1 z2
    refine zk_Gf (φ := φ) (w := w) ?_ ?_
    · repeat' first
        | with_reducible exact zw_some.mpr ⟨by assumption, by assumption⟩
        | with_reducible exact zw_some.mpr ⟨by assumption, zz_open (by assumption)⟩
        | (rw [zw_B]; with_reducible refine zw_mono (zz_expression (by assumption)) ?_; rintro _ ⟨_, _⟩)
        | (rw [zw_B]; with_reducible refine zw_mono (zz_operand (by assumption)) ?_; rintro _ ⟨_, _⟩)
        | (rw [zw_B]; with_reducible refine zw_mono (zz_statements (by assumption)) ?_; rintro _ ⟨_, _⟩)
        | (rw [zw_bind]; with_reducible refine zw_mono (zz_take (zz_uM (by assumption) (by decide))) ?_; intro _ _)
        | (rw [zw_bind]; with_reducible refine zw_mono (zz_take (by assumption)) ?_; intro _ _)
        | (rw [zw_B]; with_reducible refine zw_mono (zz_constant (by assumption)) ?_; rintro _ ⟨_, _⟩)
        | (rw [zw_B]; with_reducible refine zw_mono (zz_simpleType (by assumption)) ?_; rintro _ ⟨_, _⟩)
        | (rw [zw_B]; with_reducible refine zw_mono (zz_type (by assumption)) ?_; rintro _ ⟨_, _⟩)
        | (rw [zw_B]; with_reducible refine zw_mono (zz_whole (by assumption)) ?_; rintro _ ⟨_, _⟩)
        | (rw [zw_B]; with_reducible refine zw_mono (zz_add (by assumption)) ?_; rintro _ ⟨_, _⟩)
        | (rw [zw_B]; with_reducible refine zw_mono (zz_hang (by assumption) (by assumption) (by first | assumption | exact zq_vl_n | exact zq_vl_v (by assumption)) (by assumption)) ?_; rintro _ ⟨_, _⟩)
        | rw [if_pos (zq_at (by assumption))]
        | rw [zz_isCell (by assumption), if_pos rfl]
        | rw [if_neg (zq_ne (by assumption) (by decide) (by decide))]
        | rw [Option.bind_assoc]
        | rw [Option.bind_some]
        | rw [if_pos (zi_in (by omega) (by omega))]
    · repeat' first
        | (with_reducible refine zw_some.mpr ⟨_, ⟨?_, ?_⟩, by assumption⟩ <;> omega)
        | (with_reducible refine zw_some.mpr ⟨_, ⟨?_, ?_⟩, zx_Om (by assumption) ?_⟩ <;> omega)
        | (with_reducible refine zw_some.mpr ⟨_, ⟨?_, ?_⟩, zx_Om (zx_uF (by assumption) (Or.inl rfl)) ?_⟩ <;> omega)
        | (with_reducible refine zw_mono (zxb_142 (by assumption) (by omega)) ?_; intro _ z; exact ⟨_, by omega, z⟩)
        | (with_reducible refine zw_mono (zxb_142c (by assumption) (by omega)) ?_; intro _ z; exact ⟨_, by omega, z⟩)
        | (rw [zw_bind]; with_reducible refine zw_mono (zxb_body (by assumption)) ?_; intro _ _)
        | (rw [zw_bind]; with_reducible refine zw_mono (zxw_expr4 (by assumption)) ?_; intro _ _)
        | (rw [zw_bind]; with_reducible refine zw_mono (zxw_next2 (by assumption)) ?_; intro _ _)
        | (rw [zw_bind]; with_reducible refine zw_mono (zx_open (by assumption)) ?_; intro _ _)
        | (rw [zw_bind]; with_reducible refine zw_mono (zxw_expression (by assumption)) ?_; intro _ _)
        | (rw [zw_bind]; with_reducible refine zw_mono (zxw_operand (by assumption)) ?_; intro _ _)
        | (rw [zw_bind]; with_reducible refine zw_mono (zxb_keep (by assumption) (by omega)) ?_; intro _ _)
        | (rw [zw_B]; with_reducible refine zw_mono (zxb_node (by assumption) (by omega) rfl) ?_; rintro _ ⟨e1, _⟩; try rw [e1])
        | (rw [zw_bind]; with_reducible refine zw_mono (zxw_wantSign (zxb_uM (by assumption) (by decide))) ?_; intro _ _)
        | (rw [zw_bind]; with_reducible refine zw_mono (zxw_wantSign (by assumption)) ?_; intro _ _)
        | (rw [zw_bind]; with_reducible refine zw_mono (zxw_wantWord (by assumption)) ?_; intro _ _)
        | (rw [zw_bind]; with_reducible refine zw_mono (zxw_want (by assumption)) ?_; intro _ _)
        | (rw [zw_bind]; with_reducible refine zw_mono (zx_next (by assumption)) ?_; intro _ _)
        | (rw [zw_bind]; with_reducible refine zw_mono (zxb_constant (by assumption) (by omega) (by omega)) ?_; intro _ _)
        | (rw [zw_bind]; with_reducible refine zw_mono (zxw_simple (by assumption) (by omega) (by omega)) ?_; rintro _ ⟨_, _, _, _⟩)
        | (rw [zw_B]; with_reducible refine zw_mono (zxb_add (by assumption) (by omega) rfl (by omega)) ?_; rintro _ ⟨e1, _⟩; try rw [e1])
        | rw [zx_isSign (by assumption), if_pos rfl]
        | rw [zx_isWord (by assumption), if_pos rfl]
        | rw [if_neg (zx_ne (by assumption))]
        | rw [if_neg (zx_pos (by assumption))]
        | rw [if_pos (show (0 : Int32) ≤ 0 by decide)]
        | rw [Option.bind_assoc]
        | rw [Option.bind_some]
        | rw [zx_name (by assumption), zo_B]
        | rw [if_pos (zi_in (by omega) (by omega))]
  have I4 := zk_Io I3 (d2 := d) (zfr_F (by decide) zfr_rfl) (zfr_F (by decide) zfr_rfl) (zk_close I3.1)
  exact ⟨nI s, _, _, rfl, rfl, Or.inl (zk_Tof (zk_IdT (S := zg_Sx) I4 rfl (Or.inl rfl) (by decide) (by omega) (by decide)) (by omega))⟩
/-- the parameters of an invocation -/
theorem zk_inL (hd : d < 60) (hs : s ≤ 2 * j + 10) (hm : m ≤ 2 * j + 10) : ∀ (r N N' : Nat) {c : Nat} {y : Int32} {u : zt_T} {LM' : List (List Int32)} {j' s' m' e f : Nat} {h' g' : zs_H}, zk_I h0 g0 T n K LC LM j s m 0 0 b 13 p v h g g1 u y LM' j' (d + 1) s' m' e 0 (3 * (60 - d) + 3) f h' g' → K < j' + r → r + 2 ≤ N → r + 2 ≤ N' → c ≤ j' → zq_vl y → 2 ≤ e → 1 ≤ f → zk_G h0 g0 T n K LC m 20950 0 (zk_T h0 g0 T n K LC LM (zg_T zg_Sx (3 * (60 - d) + 4)) j d s m 0 0 b h g) (f_Ps_invocation_L62 N h' (nI s) y 1 (nI c)) (f_Mo_invoke_L32 N' g' (nI m) 1) := by
  intro r
  induction r with
  | zero => intro N N' c y u LM' j' s' m' e f h' g' I hr; have := zk_Ib I; omega
  | succ r ih =>
    intro N N' c y u LM' j' s' m' e f h' g' I hr hN hN' hc vy he hf
    have v0 := zk_Iv I
    have b1 := zk_Ib I
    have vs' : zq_v (nI s') := ⟨s', by omega, rfl⟩
    obtain ⟨N, rfl⟩ : ∃ z, N = z + 3 := ⟨N - 3, by omega⟩
    obtain ⟨N', rfl⟩ : ∃ z, N' = z + 3 := ⟨N' - 3, by omega⟩
    show zk_G _ _ _ _ _ _ _ _ _ _ (f_Ps_invocation_62 (f_Ps_invocation_L62 (N + 2)) h' (nI s) y 1 (nI c)) (f_Mo_invoke_32 (f_Mo_invoke_L32 (N' + 2)) g' (nI m) 1)
    unfold f_Ps_invocation_62 f_Mo_invoke_32
    have e01 : ¬ (1 : Int32) = 0 := by decide
    rw [if_neg (mt (zc_le (k := 16384) (t := c) (by decide) (by omega)).mp (by omega)), if_neg e01, if_neg e01, if_pos (zk_atI I.1)]
    -- behind a fault
    have endm : ∀ φ w gz m2, m ≤ m2 → m2 ≤ 20950 → zx_B g0 T n φ w m2 0 gz → zw (f_Mo_invoke_83 (f_Mo_invoke_L32 (N' + 2)) gz (nI m) 0) (fun g' => ∃ m', (m ≤ m' ∧ m' ≤ 20950) ∧ zx_B g0 T n φ w m' 0 g') := by
      intro φ w gz m2 u1 u2 z2
      unfold f_Mo_invoke_83
      exact zw_mono (zxb_inv0 z2) fun g5 z5 => ⟨_, by omega, z5⟩
    have endc : ∀ φ w hz x2, zq_v x2 → zq_Z h0 T n K LC φ w hz → zw (f_Ps_invocation_153 (f_Ps_invocation_L62 (N + 2)) hz (nI s) x2 (nI c) 0) (fun p => zq_v p.1 ∧ zq_Z h0 T n K LC φ w p.2) := by
      intro φ w hz x2 v2 z1
      unfold f_Ps_invocation_153 f_Ps_invocation_164
      rw [if_pos rfl]
      exact zz_inv0 z1 v0
    have m4 := I.1.2.2.2.2.2.2.2.2.1
    obtain ⟨vc, hvc⟩ : ∃ vc, vc = h'.2.1 11 ((h'.1 19 4)).toNatClampNeg := ⟨_, rfl⟩
    obtain ⟨vm, hvm⟩ : ∃ vm, vm = (g'.1 68 9) := ⟨_, rfl⟩
    rw [← hvc]
    obtain ⟨h1, e1, L1, qA⟩ := zk_cadd I.1 (kd := 14) (kv := 14) (v := vc) (by omega) (by decide) rfl
    rw [e1, zo_B]
    obtain ⟨h2, g2, e2, e3, R⟩ := zk_want L1 (x := 8) (y := if (g'.1 68 6) = 1 then 1 else 0) (zk_kW L1) (by decide)
    rw [e2, Option.bind_some, zk_nameE e3, zo_B, ← hvm]
    have bad : ∀ φ w, zq_Z h0 T n K LC φ w h2 → zx_B g0 T n φ w m' 0 g2 → zk_G h0 g0 T n K LC m 20950 0 (zk_T h0 g0 T n K LC LM (zg_T zg_Sx (3 * (60 - d) + 4)) j d s m 0 0 b h g) ((f_Ps_take h2 1).bind fun h10 => (zd_B (f_Ps_wholeExpression h10) fun v12 h13 => (zd_B (f_Tr_hang h13 (nI s') (-1) v12) fun v15 h16 => (zd_B (f_Tr_hang h16 (nI s) y (nI s')) fun v18 h19 => (if (h19.1 19 5) = 44 then f_Ps_invocation_153 (f_Ps_invocation_L62 (N + 2)) h19 (nI s) v18 (nI c) 1 else f_Ps_invocation_153 (f_Ps_invocation_L62 (N + 2)) h19 (nI s) v18 (nI c) 0))))) (zd_B (f_Mo_add g2 (nI m) 14 ((g'.1 68 7)) vm) fun v8 h9 => ((f_Mo_wantSign h9 256).bind fun h11 => ((f_Mo_expression 400 h11 v8).bind fun h13 => (if (f_Mo_isSign h13 44) = 0 then f_Mo_invoke_83 (f_Mo_invoke_L32 (N' + 2)) h13 (nI m) (f_Mo_isSign h13 44) else ((f_Mo_next h13).bind fun h17 => f_Mo_invoke_83 (f_Mo_invoke_L32 (N' + 2)) h17 (nI m) (f_Mo_isSign h13 44)))))) := by
      intro φ w z1 z2
      refine zk_Gf (φ := φ) (w := w) ?_ ?_
      · rw [zw_bind]
        refine zw_mono (zz_take z1) fun ha za => ?_
        rw [zw_B]
        refine zw_mono (zz_whole za) ?_
        rintro ⟨xb, hb⟩ ⟨vb, zb⟩
        rw [zw_B]
        refine zw_mono (zz_hang zb vs' zq_vl_n vb) ?_
        rintro ⟨xc, hc⟩ ⟨vc, zc⟩
        rw [zw_B]
        refine zw_mono (zz_hang zc v0 vy vs') ?_
        rintro ⟨xd, hd⟩ ⟨vd, zd⟩
        rw [if_neg (zq_ne zd (by decide) (by decide))]
        exact endc φ w hd xd vd zd
      · obtain ⟨⟨x, g3⟩, e4, e5, z3⟩ := zxb_add (kd := 14) (kn := 14) (p := (g'.1 68 7)) (v := vm) (b := m) z2 (by omega) rfl (by omega)
        rw [e4, zo_B, zw_bind]
        refine zw_mono (zxw_wantSign z3) fun ga za => ?_
        rw [zw_bind]
        refine zw_mono (zxw_expr4 za) fun gb zb => ?_
        rw [zx_isSign zb, if_pos rfl]
        exact endm φ w gb _ (by omega) (by omega) zb
    rcases R with ⟨φ, w, z1, z2⟩ | ⟨t8, ⟨f1, f2, LM2, hp, L2⟩ | ⟨φ, w, z1, z2⟩⟩
    · exact bad φ w z1 z2
    · have t8' : (h'.1 19 5) = 8 := by rw [← t8, L1.2.2.2.1.2.2.1, I.1.2.2.2.1.2.2.1]
      have nr : zt_nr LC LM' vc vm := by rw [hvc, hvm]; exact zk_nm8 I.1 t8'
      have nr2 := zt_nrm hp nr
      have kA := zq_kp_A qA
      have kf := zq_kp_f (s := s' + 1) f1
      obtain ⟨c1, c2, c3, c4, c5⟩ := kf s' (by omega)
      obtain ⟨q1, q2, q3, q4, q5, q6, q7⟩ := qA
      rw [m4]
      obtain ⟨g3, e4, IP⟩ := zk_I1 (D := 3 * (60 - d) + 2) (j := j') (h := h') (g := g') (LM := LM') (s := s') (m := m') (b := m) (kd := 14) (km := 14) (p := nI (zl_at T n j').2.1) (v := vc) (w := vm) L2 hp (by omega) (zq_kp_t kA kf (by omega)) ⟨c1.trans (by rw [q2, if_pos rfl]), c2.trans (by rw [q3, if_pos rfl]), c3.trans (by rw [q4, if_pos rfl]), c5.trans (by rw [q6, if_pos rfl]), c4.trans (by rw [q5, if_pos rfl])⟩ (zx_ka_l f2) (by omega) (by omega) (by omega) rfl (by rw [if_pos (by decide)]; exact nr2)
      rw [e4, zo_B]
      have b3 := zk_Ib IP
      refine zk_sA IP (zk_wantS IP.1 (c := 256) (k := 1) (by decide) (by decide)) ?_ fun h5 g5 LM5 I5 => ?_
      · intro φ w hz gz z1 z2
        refine zk_Gf (φ := φ) (w := w) ?_ ?_
        · repeat' first
            | with_reducible exact zw_some.mpr ⟨by assumption, by assumption⟩
            | with_reducible exact zw_some.mpr ⟨by assumption, zz_open (by assumption)⟩
            | (rw [zw_B]; with_reducible refine zw_mono (zz_expression (by assumption)) ?_; rintro _ ⟨_, _⟩)
            | (rw [zw_B]; with_reducible refine zw_mono (zz_operand (by assumption)) ?_; rintro _ ⟨_, _⟩)
            | (rw [zw_B]; with_reducible refine zw_mono (zz_statements (by assumption)) ?_; rintro _ ⟨_, _⟩)
            | (rw [zw_bind]; with_reducible refine zw_mono (zz_take (zz_uM (by assumption) (by decide))) ?_; intro _ _)
            | (rw [zw_bind]; with_reducible refine zw_mono (zz_take (by assumption)) ?_; intro _ _)
            | (rw [zw_B]; with_reducible refine zw_mono (zz_constant (by assumption)) ?_; rintro _ ⟨_, _⟩)
            | (rw [zw_B]; with_reducible refine zw_mono (zz_simpleType (by assumption)) ?_; rintro _ ⟨_, _⟩)
            | (rw [zw_B]; with_reducible refine zw_mono (zz_type (by assumption)) ?_; rintro _ ⟨_, _⟩)
            | (rw [zw_B]; with_reducible refine zw_mono (zz_whole (by assumption)) ?_; rintro _ ⟨_, _⟩)
            | (rw [zw_B]; with_reducible refine zw_mono (zz_add (by assumption)) ?_; rintro _ ⟨_, _⟩)
            | (rw [zw_B]; with_reducible refine zw_mono (zz_hang (by assumption) (by assumption) (by first | assumption | exact zq_vl_n | exact zq_vl_v (by assumption)) (by assumption)) ?_; rintro _ ⟨_, _⟩)
            | rw [if_pos (zq_at (by assumption))]
            | rw [zz_isCell (by assumption), if_pos rfl]
            | rw [if_neg (zq_ne (by assumption) (by decide) (by decide))]
            | rw [Option.bind_assoc]
            | rw [Option.bind_some]
            | rw [if_pos (zi_in (by omega) (by omega))]
          exact endc φ w _ _ (by assumption) (by assumption)
        · repeat' first
            | (with_reducible refine zw_some.mpr ⟨_, ⟨?_, ?_⟩, by assumption⟩ <;> omega)
            | (with_reducible refine zw_some.mpr ⟨_, ⟨?_, ?_⟩, zx_Om (by assumption) ?_⟩ <;> omega)
            | (with_reducible refine zw_some.mpr ⟨_, ⟨?_, ?_⟩, zx_Om (zx_uF (by assumption) (Or.inl rfl)) ?_⟩ <;> omega)
            | (with_reducible refine zw_mono (zxb_142 (by assumption) (by omega)) ?_; intro _ z; exact ⟨_, by omega, z⟩)
            | (with_reducible refine zw_mono (zxb_142c (by assumption) (by omega)) ?_; intro _ z; exact ⟨_, by omega, z⟩)
            | (rw [zw_bind]; with_reducible refine zw_mono (zxb_body (by assumption)) ?_; intro _ _)
            | (rw [zw_bind]; with_reducible refine zw_mono (zxw_expr4 (by assumption)) ?_; intro _ _)
            | (rw [zw_bind]; with_reducible refine zw_mono (zxw_next2 (by assumption)) ?_; intro _ _)
            | (rw [zw_bind]; with_reducible refine zw_mono (zx_open (by assumption)) ?_; intro _ _)
            | (rw [zw_bind]; with_reducible refine zw_mono (zxw_expression (by assumption)) ?_; intro _ _)
            | (rw [zw_bind]; with_reducible refine zw_mono (zxw_operand (by assumption)) ?_; intro _ _)
            | (rw [zw_bind]; with_reducible refine zw_mono (zxb_keep (by assumption) (by omega)) ?_; intro _ _)
            | (rw [zw_B]; with_reducible refine zw_mono (zxb_node (by assumption) (by omega) rfl) ?_; rintro _ ⟨e1, _⟩; try rw [e1])
            | (rw [zw_bind]; with_reducible refine zw_mono (zxw_wantSign (zxb_uM (by assumption) (by decide))) ?_; intro _ _)
            | (rw [zw_bind]; with_reducible refine zw_mono (zxw_wantSign (by assumption)) ?_; intro _ _)
            | (rw [zw_bind]; with_reducible refine zw_mono (zxw_wantWord (by assumption)) ?_; intro _ _)
            | (rw [zw_bind]; with_reducible refine zw_mono (zxw_want (by assumption)) ?_; intro _ _)
            | (rw [zw_bind]; with_reducible refine zw_mono (zx_next (by assumption)) ?_; intro _ _)
            | (rw [zw_bind]; with_reducible refine zw_mono (zxb_constant (by assumption) (by omega) (by omega)) ?_; intro _ _)
            | (rw [zw_bind]; with_reducible refine zw_mono (zxw_simple (by assumption) (by omega) (by omega)) ?_; rintro _ ⟨_, _, _, _⟩)
            | (rw [zw_B]; with_reducible refine zw_mono (zxb_add (by assumption) (by omega) rfl (by omega)) ?_; rintro _ ⟨e1, _⟩; try rw [e1])
            | rw [zx_isSign (by assumption), if_pos rfl]
            | rw [zx_isWord (by assumption), if_pos rfl]
            | rw [if_neg (zx_ne (by assumption))]
            | rw [if_neg (zx_pos (by assumption))]
            | rw [if_pos (show (0 : Int32) ≤ 0 by decide)]
            | rw [Option.bind_assoc]
            | rw [Option.bind_some]
            | rw [zx_name (by assumption), zo_B]
            | rw [if_pos (zi_in (by omega) (by omega))]
          refine endm φ w _ _ ?_ ?_ (by assumption) <;> omega
      have b5 := zk_Ib I5
      refine zk_sK2 (e2 := 1) (e3 := 4) (S := zg_E) (st' := 1) I5 (zk_GM (zk_wexprD (D' := 400) I5.1 (by decide) (by omega) (by omega) (by omega)) (Nat.le_refl _) (Nat.le_refl 20900) (fun x h g R => zk_TTm R (Nat.le_refl _) (fun t W => zg_Tm W (fun _ z => z) (by omega)))) (by decide) (by omega) ?_ fun x7 h7 g7 u7 LM7 j7 s7 m7 vx7 hj7 I7 => ?_
      · intro φ w mz xz hz gz w1 w2 vz z1 z2
        refine zk_Gf (φ := φ) (w := w) ?_ ?_
        · repeat' first
            | with_reducible exact zw_some.mpr ⟨by assumption, by assumption⟩
            | with_reducible exact zw_some.mpr ⟨by assumption, zz_open (by assumption)⟩
            | (rw [zw_B]; with_reducible refine zw_mono (zz_expression (by assumption)) ?_; rintro _ ⟨_, _⟩)
            | (rw [zw_B]; with_reducible refine zw_mono (zz_operand (by assumption)) ?_; rintro _ ⟨_, _⟩)
            | (rw [zw_B]; with_reducible refine zw_mono (zz_statements (by assumption)) ?_; rintro _ ⟨_, _⟩)
            | (rw [zw_bind]; with_reducible refine zw_mono (zz_take (zz_uM (by assumption) (by decide))) ?_; intro _ _)
            | (rw [zw_bind]; with_reducible refine zw_mono (zz_take (by assumption)) ?_; intro _ _)
            | (rw [zw_B]; with_reducible refine zw_mono (zz_constant (by assumption)) ?_; rintro _ ⟨_, _⟩)
            | (rw [zw_B]; with_reducible refine zw_mono (zz_simpleType (by assumption)) ?_; rintro _ ⟨_, _⟩)
            | (rw [zw_B]; with_reducible refine zw_mono (zz_type (by assumption)) ?_; rintro _ ⟨_, _⟩)
            | (rw [zw_B]; with_reducible refine zw_mono (zz_whole (by assumption)) ?_; rintro _ ⟨_, _⟩)
            | (rw [zw_B]; with_reducible refine zw_mono (zz_add (by assumption)) ?_; rintro _ ⟨_, _⟩)
            | (rw [zw_B]; with_reducible refine zw_mono (zz_hang (by assumption) (by assumption) (by first | assumption | exact zq_vl_n | exact zq_vl_v (by assumption)) (by assumption)) ?_; rintro _ ⟨_, _⟩)
            | rw [if_pos (zq_at (by assumption))]
            | rw [zz_isCell (by assumption), if_pos rfl]
            | rw [if_neg (zq_ne (by assumption) (by decide) (by decide))]
            | rw [Option.bind_assoc]
            | rw [Option.bind_some]
            | rw [if_pos (zi_in (by omega) (by omega))]
          exact endc φ w _ _ (by assumption) (by assumption)
        · rw [zx_isSign z2, if_pos rfl]
          refine endm φ w _ _ ?_ ?_ z2 <;> omega
      have b7 := zk_Ib I7
      have R := zk_IdT (S := [14]) I7 rfl (Or.inl rfl) (by decide) (by omega) (by decide)
      obtain ⟨h8, u8, LM8, j8, s8, m8, e8, hj8, I8⟩ := zk_Ic (st' := 0) I (zk_Tof R (by omega)) (by decide)
      have b8 := zk_Ib I8
      rw [e8, zo_B]
      unfold f_Ps_invocation_153 f_Ps_invocation_164 f_Mo_invoke_83
      rw [show f_Mo_isSign g7 44 = if (h8.1 19 5) = nI 44 then 1 else 0 from zk_sign I8.1 (c := 44) (k := 44) (by decide)]
      by_cases c44 : (h8.1 19 5) = 44
      · rw [if_pos c44, if_pos (show (h8.1 19 5) = nI 44 from c44), if_neg e01, if_neg e01, nI_1]
        refine zk_sN I8 c44 (by decide) ?_ fun h9 g9 LM9 I9 => ?_
        · intro φ w hz gz z1 z2
          refine zk_Gf (φ := φ) (w := w) (zz_invL z1 v0 (zq_vl_v vs')) ?_
          show zw (f_Mo_invoke_32 (f_Mo_invoke_L32 (N' + 1)) gz (nI m) 1) _
          unfold f_Mo_invoke_32
          rw [if_neg e01, zx_name z2, zo_B]
          obtain ⟨⟨x, g3⟩, e4, e5, z3⟩ := zxb_add (kd := 14) (kn := 14) (p := (gz.1 68 7)) (v := (gz.1 68 9)) (b := m) z2 (by omega) rfl (by omega)
          rw [e4, zo_B, zw_bind]
          refine zw_mono (zxw_wantSign z3) fun ga za => ?_
          rw [zw_bind]
          refine zw_mono (zxw_expr4 za) fun gb zb => ?_
          unfold f_Mo_invoke_83
          rw [zx_isSign zb, if_pos rfl]
          exact zw_mono (zxb_inv0 zb) fun g5 z5 => ⟨_, by omega, z5⟩
        exact ih (N + 2) (N' + 2) (c := c + 1) I9 (by omega) (by omega) (by omega) (by omega) (zq_vl_v vs') (by omega) (by omega)
      · rw [if_neg c44, if_neg (show ¬ (h8.1 19 5) = nI 44 from c44), if_pos (show (0 : Int32) = 0 from rfl), if_pos (show (0 : Int32) = 0 from rfl), zq_inv0E, zx_inv0E]
        exact zk_inE I8 (by omega) hf hs hm
    · exact bad φ w z1 z2
/-- an invocation -/
theorem zk_invoc {b : Nat} (H : zk_L h0 g0 T n K LC h g LM j d s m 0 0) (ht : (h.1 19 5) = 8) (h40 : zl_ck (zl_at T n (j + 1)) = 40) (hs : s ≤ 2 * j + 10) (hm : m ≤ 2 * j + 10) (hb : b < m) : zk_G h0 g0 T n K LC m 20950 0 (zk_T h0 g0 T n K LC LM (zg_T zg_Sx (3 * (60 - d) + 4)) j d s m 0 0 b h g) (f_Ps_invocation h) (f_Mo_named g (nI b)) := by
  have bK := zk_bK H
  have m4 := H.2.2.2.2.2.2.2.2.1
  have nr := zk_nm8 H ht
  have v0 : zq_v (nI s) := ⟨s, by omega, rfl⟩
  have z0 : (0 : Int32) = 0 := rfl
  have e01 : ¬ (1 : Int32) = 0 := by decide
  unfold f_Ps_invocation f_Mo_named
  rw [if_pos (zk_atI H)]
  obtain ⟨vc, hvc⟩ : ∃ vc, vc = h.2.1 11 ((h.1 19 4)).toNatClampNeg := ⟨_, rfl⟩
  obtain ⟨vm, hvm⟩ : ∃ vm, vm = (g.1 68 9) := ⟨_, rfl⟩
  rw [← hvc] at nr ⊢
  obtain ⟨h1, e1, L1, qA⟩ := zk_cadd H (kd := 13) (kv := 13) (v := vc) (by omega) (by decide) rfl
  rw [e1, zo_B]
  have t81 : (h1.1 19 5) = 8 := by rw [L1.2.2.2.1.2.2.1, ← H.2.2.2.1.2.2.1]; exact ht
  obtain ⟨h2, g2, e2, e3, R⟩ := zk_want L1 (x := 8) (y := if (g.1 68 6) = 1 then 1 else 0) (zk_kW L1) (by decide)
  rw [e2, Option.bind_some, zk_nameE e3, zo_B, ← hvm]
  rw [← hvm] at nr
  have hE := zk_notE L1 (by rw [t81]; decide)
  have tk2 : (h2.1 19 5) = nI 40 := by
    obtain ⟨h2', e4, C2, _⟩ := zq_take1 L1.2.2.1 L1.2.2.2.1 (zk_lt L1 hE)
    rw [← L1.2.2.2.1.2.2.1, t81, e2] at e4
    cases e4
    rw [C2.2.2.1, h40]
  rcases R with ⟨φ, w, z1, z2⟩ | ⟨_, ⟨f1, f2, LM2, hp, L2⟩ | ⟨φ, w, z1, z2⟩⟩
  · exact absurd tk2 (zq_ne z1 (by decide) (by decide))
  · have nr2 := zt_nrm hp nr
    have kA := zq_kp_A qA
    have kf := zq_kp_f (s := s + 1) f1
    obtain ⟨c1, c2, c3, c4, c5⟩ := kf s (by omega)
    obtain ⟨q1, q2, q3, q4, q5, q6, q7⟩ := qA
    rw [show f_Mo_isSign g2 40 = if (h2.1 19 5) = nI 40 then 1 else 0 from zk_sign L2 (c := 40) (k := 40) (by decide), if_pos tk2, if_neg e01, m4]
    obtain ⟨g3, e4, I⟩ := zk_I1 (D := 3 * (60 - d) + 3) (j := j) (h := h) (g := g) (LM := LM) (s := s) (m := m) (b := b) (kd := 13) (km := 13) (p := nI (zl_at T n j).2.1) (v := vc) (w := vm) L2 hp (by omega) (zq_kp_t kA kf (by omega)) ⟨c1.trans (by rw [q2, if_pos rfl]), c2.trans (by rw [q3, if_pos rfl]), c3.trans (by rw [q4, if_pos rfl]), c5.trans (by rw [q6, if_pos rfl]), c4.trans (by rw [q5, if_pos rfl])⟩ (zx_ka_l f2) (by omega) (by omega) hb rfl (by rw [if_pos (by decide)]; exact nr2)
    rw [e4, zo_B, zm_bs]
    have b1 := zk_Ib I
    unfold f_Mo_invoke f_Mo_invoke_30 f_Mo_invoke_31 f_Ps_invocation_58
    rw [show zF = 18446744073709551614 + 2 from rfl]
    have badm : ∀ φ w gz, zx_B g0 T n φ w (m + 1) 0 gz → zw (if (gz.1 68 10) = 0 then (if (f_Mo_isSign gz 41) = 0 then f_Mo_invoke_L32 (18446744073709551614 + 2) gz (nI m) 1 else f_Mo_invoke_L32 (18446744073709551614 + 2) gz (nI m) 0) else f_Mo_invoke_L32 (18446744073709551614 + 2) gz (nI m) 0) (fun g' => ∃ m', (m ≤ m' ∧ m' ≤ 20950) ∧ zx_B g0 T n φ w m' 0 g') := by
      intro φ w gz z2
      rw [if_neg (zx_ne z2)]
      exact zw_mono (zxb_inv0 z2) fun g5 z5 => ⟨_, by omega, z5⟩
    have badc : ∀ φ w hz, zq_Z h0 T n K LC φ w hz → zw (if (hz.1 19 5) = 41 then f_Ps_invocation_L62 (18446744073709551614 + 2) hz (nI s) (-1) 0 0 else f_Ps_invocation_L62 (18446744073709551614 + 2) hz (nI s) (-1) 1 0) (fun p => zq_v p.1 ∧ zq_Z h0 T n K LC φ w p.2) := by
      intro φ w hz z1
      rw [if_neg (zq_ne z1 (by decide) (by decide))]
      exact zz_invL z1 v0 zq_vl_n
    obtain ⟨h5, g5, e6, e7, R⟩ := zk_deep I.1
    rw [e6, e7, Option.bind_some, Option.bind_some]
    rcases R with ⟨hd, L5, f5, f6⟩ | ⟨φ, w, z1, z2⟩
    · have I5 := zk_Io I f5 f6 L5
      refine zk_sA I5 (zk_wantS I5.1 (c := 40) (k := 40) (by decide) (by decide)) ?_ fun h6 g6 LM6 I6 => ?_
      · intro φ w hz gz z1 z2
        exact zk_Gf (φ := φ) (w := w) (badc φ w hz z1) (badm φ w gz z2)
      have b6 := zk_Ib I6
      rw [if_pos I6.1.2.2.2.2.2.2.1, show f_Mo_isSign g6 41 = if (h6.1 19 5) = nI 41 then 1 else 0 from zk_sign I6.1 (c := 41) (k := 41) (by decide)]
      by_cases c41 : (h6.1 19 5) = 41
      · rw [if_pos c41, if_pos (show (h6.1 19 5) = nI 41 from c41), if_neg e01, zq_inv0E, zx_inv0E]
        exact zk_inE I6 (by omega) (by omega) hs hm
      · rw [if_neg c41, if_neg (show ¬ (h6.1 19 5) = nI 41 from c41), if_pos z0]
        exact zk_inL hd hs hm (K + 1) _ _ (c := 0) I6 (by omega) (by omega) (by omega) (by omega) zq_vl_n (by omega) (by omega)
    · refine zk_Gf (φ := φ) (w := w) ?_ ?_
      · rw [zw_bind]
        exact zw_mono (zz_take z1) fun hz z1 => badc φ w hz z1
      · rw [zw_bind]
        exact zw_mono (zxw_wantSign z2) fun gz z2 => badm φ w gz z2
  · exact absurd tk2 (zq_ne z1 (by decide) (by decide))
end ZAa
end
