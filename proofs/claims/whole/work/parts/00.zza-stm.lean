/-! Both readers in step: invocations, statements. -/
section ZAa
variable {h0 g0 h g g1 h' g' : zs_H} {T : Nat → Int32} {n K : Nat} {LC LM LM' LM1 : List (List Int32)} {j d s m o q b kd j' d' s' m' e st D f M0 M : Nat} {p v y : Int32} {u : zt_T} {X : Int32 → zs_H → zs_H → Prop}
theorem zx_inv0E {N : Nat} {x : Int32} {g : zs_H} : f_Mo_invoke_L32 (N + 1) g x 0 = (f_Mo_wantSign g 41).bind fun h3 => some (zs_uF h3 68 12 ((h3.1 68 12) - 1)) := by
  show f_Mo_invoke_32 (f_Mo_invoke_L32 N) g x 0 = _
  unfold f_Mo_invoke_32
  rw [if_pos rfl]
theorem zq_inv0E {N : Nat} {x1 x2 x4 : Int32} {h : zs_H} : f_Ps_invocation_L62 (N + 1) h x1 x2 0 x4 = f_Ps_invocation_170 h x1 := by
  show f_Ps_invocation_62 (f_Ps_invocation_L62 N) h x1 x2 0 x4 = _
  unfold f_Ps_invocation_62
  rw [if_pos (show (0 : Int32) = 0 from rfl)]
  split <;> rfl
/-- an invocation ends -/
theorem zk_inE (I : zk_I h0 g0 T n K LC LM j s m 0 0 b 13 p v h g g1 u y LM' j' (d + 1) s' m' e 0 (3 * (60 - d) + 3) f h' g') (he : 1 ≤ e) (hf : 1 ≤ f) (hs : s ≤ 2 * j + 10) (hm : m ≤ 2 * j + 10) : zk_G h0 g0 T n K LC m 20950 0 (zk_T h0 g0 T n K LC LM (zg_T zg_Sx (3 * (60 - d) + 4)) j d s m 0 0 b h g) (f_Ps_invocation_170 h' (nI s)) ((f_Mo_wantSign g' 41).bind fun h3 => some (zs_uF h3 68 12 ((h3.1 68 12) - 1))) := by
  have v0 := zk_Iv I
  have b1 := zk_Ib I
  unfold f_Ps_invocation_170
  refine zk_sA I (zk_wantS I.1 (c := 41) (k := 41) (by decide) (by decide)) ?_ fun h3 g3 LM3 I3 => ?_
  · intro φ w hz gz z1 z2
    refine zk_Gf (φ := φ) (w := w) ?_ ?_
    · repeat' first
        | with_reducible exact zw_some.mpr ⟨by assumption, by assumption⟩
        | with_reducible exact zw_some.mpr ⟨by assumption, zz_open (by assumption)⟩
        | (rw [zw_B]; with_reducible refine zw_mono (zz_expression (by assumption)) ?_; rintro _ ⟨_, _⟩)
        | (rw [zw_B]; with_reducible refine zw_mono (zz_operand (by assumption)) ?_; rintro _ ⟨_, _⟩)
        | (rw [zw_B]; with_reducible refine zw_mono (zz_statements (by assumption)) ?_; rintro _ ⟨_, _⟩)
        | (rw [zw_bind]; with_reducible refine zw_mono (zz_take (zz_uM (by assumption) (by decide))) ?_; intro _ _)
        | (rw [zw_bind]; with_reducible refine zw_mono (zz_take (by assumption)) ?_; intro _ _)
        | (rw [zw_B]; with_reducible refine zw_mono (zz_constant (by assumption)) ?_; rintro _ ⟨_, _⟩)
        | (rw [zw_B]; with_reducible refine zw_mono (zz_simpleType (by assumption)) ?_; rintro _ ⟨_, _⟩)
        | (rw [zw_B]; with_reducible refine zw_mono (zz_type (by assumption)) ?_; rintro _ ⟨_, _⟩)
        | (rw [zw_B]; with_reducible refine zw_mono (zz_whole (by assumption)) ?_; rintro _ ⟨_, _⟩)
        | (rw [zw_B]; with_reducible refine zw_mono (zz_add (by assumption)) ?_; rintro _ ⟨_, _⟩)
        | (rw [zw_B]; with_reducible refine zw_mono (zz_hang (by assumption) (by assumption) (by first | assumption | exact zq_vl_n | exact zq_vl_v (by assumption)) (by assumption)) ?_; rintro _ ⟨_, _⟩)
        | rw [if_pos (zq_at (by assumption))]
        | rw [zz_isCell (by assumption), if_pos rfl]
        | rw [if_neg (zq_ne (by assumption) (by decide) (by decide))]
        | rw [Option.bind_assoc]
        | rw [Option.bind_some]
        | rw [if_pos (zi_in (by omega) (by omega))]
    · repeat' first
        | (with_reducible refine zw_some.mpr ⟨_, ⟨?_, ?_⟩, by assumption⟩ <;> omega)
        | (with_reducible refine zw_some.mpr ⟨_, ⟨?_, ?_⟩, zx_Om (by assumption) ?_⟩ <;> omega)
        | (with_reducible refine zw_some.mpr ⟨_, ⟨?_, ?_⟩, zx_Om (zx_uF (by assumption) (Or.inl rfl)) ?_⟩ <;> omega)
        | (with_reducible refine zw_mono (zxb_142 (by assumption) (by omega)) ?_; intro _ z; exact ⟨_, by omega, z⟩)
        | (with_reducible refine zw_mono (zxb_142c (by assumption) (by omega)) ?_; intro _ z; exact ⟨_, by omega, z⟩)
        | (rw [zw_bind]; with_reducible refine zw_mono (zxb_body (by assumption)) ?_; intro _ _)
        | (rw [zw_bind]; with_reducible refine zw_mono (zxw_expr4 (by assumption)) ?_; intro _ _)
        | (rw [zw_bind]; with_reducible refine zw_mono (zxw_next2 (by assumption)) ?_; intro _ _)
        | (rw [zw_bind]; with_reducible refine zw_mono (zx_open (by assumption)) ?_; intro _ _)
        | (rw [zw_bind]; with_reducible refine zw_mono (zxw_expression (by assumption)) ?_; intro _ _)
        | (rw [zw_bind]; with_reducible refine zw_mono (zxw_operand (by assumption)) ?_; intro _ _)
        | (rw [zw_bind]; with_reducible refine zw_mono (zxb_keep (by assumption) (by omega)) ?_; intro _ _)
        | (rw [zw_B]; with_reducible refine zw_mono (zxb_node (by assumption) (by omega) rfl) ?_; rintro _ ⟨e1, _⟩; try rw [e1])
        | (rw [zw_bind]; with_reducible refine zw_mono (zxw_wantSign (zxb_uM (by assumption) (by decide))) ?_; intro _ _)
        | (rw [zw_bind]; with_reducible refine zw_mono (zxw_wantSign (by assumption)) ?_; intro _ _)
        | (rw [zw_bind]; with_reducible refine zw_mono (zxw_wantWord (by assumption)) ?_; intro _ _)
        | (rw [zw_bind]; with_reducible refine zw_mono (zxw_want (by assumption)) ?_; intro _ _)
        | (rw [zw_bind]; with_reducible refine zw_mono (zx_next (by assumption)) ?_; intro _ _)
        | (rw [zw_bind]; with_reducible refine zw_mono (zxb_constant (by assumption) (by omega) (by omega)) ?_; intro _ _)
        | (rw [zw_bind]; with_reducible refine zw_mono (zxw_simple (by assumption) (by omega) (by omega)) ?_; rintro _ ⟨_, _, _, _⟩)
        | (rw [zw_B]; with_reducible refine zw_mono (zxb_add (by assumption) (by omega) rfl (by omega)) ?_; rintro _ ⟨e1, _⟩; try rw [e1])
        | rw [zx_isSign (by assumption), if_pos rfl]
        | rw [zx_isWord (by assumption), if_pos rfl]
        | rw [if_neg (zx_ne (by assumption))]
        | rw [if_neg (zx_pos (by assumption))]
        | rw [if_pos (show (0 : Int32) ≤ 0 by decide)]
        | rw [Option.bind_assoc]
        | rw [Option.bind_some]
        | rw [zx_name (by assumption), zo_B]
        | rw [if_pos (zi_in (by omega) (by omega))]
  have I4 := zk_Io I3 (d2 := d) (zfr_F (by decide) zfr_rfl) (zfr_F (by decide) zfr_rfl) (zk_close I3.1)
  exact ⟨nI s, _, _, rfl, rfl, Or.inl (zk_Tof (zk_IdT (S := zg_Sx) I4 rfl (Or.inl rfl) (by decide) (by omega) (by decide)) (by omega))⟩
/-- the parameters of an invocation -/
theorem zk_inL (hd : d < 60) (hs : s ≤ 2 * j + 10) (hm : m ≤ 2 * j + 10) : ∀ (r N N' : Nat) {c : Nat} {y : Int32} {u : zt_T} {LM' : List (List Int32)} {j' s' m' e f : Nat} {h' g' : zs_H}, zk_I h0 g0 T n K LC LM j s m 0 0 b 13 p v h g g1 u y LM' j' (d + 1) s' m' e 0 (3 * (60 - d) + 3) f h' g' → K < j' + r → r + 2 ≤ N → r + 2 ≤ N' → c ≤ j' → zq_vl y → 2 ≤ e → 1 ≤ f → zk_G h0 g0 T n K LC m 20950 0 (zk_T h0 g0 T n K LC LM (zg_T zg_Sx (3 * (60 - d) + 4)) j d s m 0 0 b h g) (f_Ps_invocation_L62 N h' (nI s) y 1 (nI c)) (f_Mo_invoke_L32 N' g' (nI m) 1) := by
  intro r
  induction r with
  | zero => intro N N' c y u LM' j' s' m' e f h' g' I hr; have := zk_Ib I; omega
  | succ r ih =>
    intro N N' c y u LM' j' s' m' e f h' g' I hr hN hN' hc vy he hf
    have v0 := zk_Iv I
    have b1 := zk_Ib I
    have vs' : zq_v (nI s') := ⟨s', by omega, rfl⟩
    obtain ⟨N, rfl⟩ : ∃ z, N = z + 3 := ⟨N - 3, by omega⟩
    obtain ⟨N', rfl⟩ : ∃ z, N' = z + 3 := ⟨N' - 3, by omega⟩
    show zk_G _ _ _ _ _ _ _ _ _ _ (f_Ps_invocation_62 (f_Ps_invocation_L62 (N + 2)) h' (nI s) y 1 (nI c)) (f_Mo_invoke_32 (f_Mo_invoke_L32 (N' + 2)) g' (nI m) 1)
    unfold f_Ps_invocation_62 f_Mo_invoke_32
    have e01 : ¬ (1 : Int32) = 0 := by decide
    rw [if_neg (mt (zc_le (k := 16384) (t := c) (by decide) (by omega)).mp (by omega)), if_neg e01, if_neg e01, if_pos (zk_atI I.1)]
    -- behind a fault
    have endm : ∀ φ w gz m2, m ≤ m2 → m2 ≤ 20950 → zx_B g0 T n φ w m2 0 gz → zw (f_Mo_invoke_83 (f_Mo_invoke_L32 (N' + 2)) gz (nI m) 0) (fun g' => ∃ m', (m ≤ m' ∧ m' ≤ 20950) ∧ zx_B g0 T n φ w m' 0 g') := by
      intro φ w gz m2 u1 u2 z2
      unfold f_Mo_invoke_83
      exact zw_mono (zxb_inv0 z2) fun g5 z5 => ⟨_, by omega, z5⟩
    have endc : ∀ φ w hz x2, zq_v x2 → zq_Z h0 T n K LC φ w hz → zw (f_Ps_invocation_153 (f_Ps_invocation_L62 (N + 2)) hz (nI s) x2 (nI c) 0) (fun p => zq_v p.1 ∧ zq_Z h0 T n K LC φ w p.2) := by
      intro φ w hz x2 v2 z1
      unfold f_Ps_invocation_153 f_Ps_invocation_164
      rw [if_pos rfl]
      exact zz_inv0 z1 v0
    have m4 := I.1.2.2.2.2.2.2.2.2.1
    obtain ⟨vc, hvc⟩ : ∃ vc, vc = h'.2.1 11 ((h'.1 19 4)).toNatClampNeg := ⟨_, rfl⟩
    obtain ⟨vm, hvm⟩ : ∃ vm, vm = (g'.1 68 9) := ⟨_, rfl⟩
    rw [← hvc]
    obtain ⟨h1, e1, L1, qA⟩ := zk_cadd I.1 (kd := 14) (kv := 14) (v := vc) (by omega) (by decide) rfl
    rw [e1, zo_B]
    obtain ⟨h2, g2, e2, e3, R⟩ := zk_want L1 (x := 8) (y := if (g'.1 68 6) = 1 then 1 else 0) (zk_kW L1) (by decide)
    rw [e2, Option.bind_some, zk_nameE e3, zo_B, ← hvm]
    have bad : ∀ φ w, zq_Z h0 T n K LC φ w h2 → zx_B g0 T n φ w m' 0 g2 → zk_G h0 g0 T n K LC m 20950 0 (zk_T h0 g0 T n K LC LM (zg_T zg_Sx (3 * (60 - d) + 4)) j d s m 0 0 b h g) ((f_Ps_take h2 1).bind fun h10 => (zd_B (f_Ps_wholeExpression h10) fun v12 h13 => (zd_B (f_Tr_hang h13 (nI s') (-1) v12) fun v15 h16 => (zd_B (f_Tr_hang h16 (nI s) y (nI s')) fun v18 h19 => (if (h19.1 19 5) = 44 then f_Ps_invocation_153 (f_Ps_invocation_L62 (N + 2)) h19 (nI s) v18 (nI c) 1 else f_Ps_invocation_153 (f_Ps_invocation_L62 (N + 2)) h19 (nI s) v18 (nI c) 0))))) (zd_B (f_Mo_add g2 (nI m) 14 ((g'.1 68 7)) vm) fun v8 h9 => ((f_Mo_wantSign h9 256).bind fun h11 => ((f_Mo_expression 400 h11 v8).bind fun h13 => (if (f_Mo_isSign h13 44) = 0 then f_Mo_invoke_83 (f_Mo_invoke_L32 (N' + 2)) h13 (nI m) (f_Mo_isSign h13 44) else ((f_Mo_next h13).bind fun h17 => f_Mo_invoke_83 (f_Mo_invoke_L32 (N' + 2)) h17 (nI m) (f_Mo_isSign h13 44)))))) := by
      intro φ w z1 z2
      refine zk_Gf (φ := φ) (w := w) ?_ ?_
      · rw [zw_bind]
        refine zw_mono (zz_take z1) fun ha za => ?_
        rw [zw_B]
        refine zw_mono (zz_whole za) ?_
        rintro ⟨xb, hb⟩ ⟨vb, zb⟩
        rw [zw_B]
        refine zw_mono (zz_hang zb vs' zq_vl_n vb) ?_
        rintro ⟨xc, hc⟩ ⟨vc, zc⟩
        rw [zw_B]
        refine zw_mono (zz_hang zc v0 vy vs') ?_
        rintro ⟨xd, hd⟩ ⟨vd, zd⟩
        rw [if_neg (zq_ne zd (by decide) (by decide))]
        exact endc φ w hd xd vd zd
      · obtain ⟨⟨x, g3⟩, e4, e5, z3⟩ := zxb_add (kd := 14) (kn := 14) (p := (g'.1 68 7)) (v := vm) (b := m) z2 (by omega) rfl (by omega)
        rw [e4, zo_B, zw_bind]
        refine zw_mono (zxw_wantSign z3) fun ga za => ?_
        rw [zw_bind]
        refine zw_mono (zxw_expr4 za) fun gb zb => ?_
        rw [zx_isSign zb, if_pos rfl]
        exact endm φ w gb _ (by omega) (by omega) zb
    rcases R with ⟨φ, w, z1, z2⟩ | ⟨t8, ⟨f1, f2, LM2, hp, L2⟩ | ⟨φ, w, z1, z2⟩⟩
    · exact bad φ w z1 z2
    · have t8' : (h'.1 19 5) = 8 := by rw [← t8, L1.2.2.2.1.2.2.1, I.1.2.2.2.1.2.2.1]
      have nr : zt_nr LC LM' vc vm := by rw [hvc, hvm]; exact zk_nm8 I.1 t8'
      have nr2 := zt_nrm hp nr
      have kA := zq_kp_A qA
      have kf := zq_kp_f (s := s' + 1) f1
      obtain ⟨c1, c2, c3, c4, c5⟩ := kf s' (by omega)
      obtain ⟨q1, q2, q3, q4, q5, q6, q7⟩ := qA
      rw [m4]
      obtain ⟨g3, e4, IP⟩ := zk_I1 (D := 3 * (60 - d) + 2) (j := j') (h := h') (g := g') (LM := LM') (s := s') (m := m') (b := m) (kd := 14) (km := 14) (p := nI (zl_at T n j').2.1) (v := vc) (w := vm) L2 hp (by omega) (zq_kp_t kA kf (by omega)) ⟨c1.trans (by rw [q2, if_pos rfl]), c2.trans (by rw [q3, if_pos rfl]), c3.trans (by rw [q4, if_pos rfl]), c5.trans (by rw [q6, if_pos rfl]), c4.trans (by rw [q5, if_pos rfl])⟩ (zx_ka_l f2) (by omega) (by omega) (by omega) rfl (by rw [if_pos (by decide)]; exact nr2)
      rw [e4, zo_B]
      have b3 := zk_Ib IP
      refine zk_sA IP (zk_wantS IP.1 (c := 256) (k := 1) (by decide) (by decide)) ?_ fun h5 g5 LM5 I5 => ?_
      · intro φ w hz gz z1 z2
        refine zk_Gf (φ := φ) (w := w) ?_ ?_
        · repeat' first
            | with_reducible exact zw_some.mpr ⟨by assumption, by assumption⟩
            | with_reducible exact zw_some.mpr ⟨by assumption, zz_open (by assumption)⟩
            | (rw [zw_B]; with_reducible refine zw_mono (zz_expression (by assumption)) ?_; rintro _ ⟨_, _⟩)
            | (rw [zw_B]; with_reducible refine zw_mono (zz_operand (by assumption)) ?_; rintro _ ⟨_, _⟩)
            | (rw [zw_B]; with_reducible refine zw_mono (zz_statements (by assumption)) ?_; rintro _ ⟨_, _⟩)
            | (rw [zw_bind]; with_reducible refine zw_mono (zz_take (zz_uM (by assumption) (by decide))) ?_; intro _ _)
            | (rw [zw_bind]; with_reducible refine zw_mono (zz_take (by assumption)) ?_; intro _ _)
            | (rw [zw_B]; with_reducible refine zw_mono (zz_constant (by assumption)) ?_; rintro _ ⟨_, _⟩)
            | (rw [zw_B]; with_reducible refine zw_mono (zz_simpleType (by assumption)) ?_; rintro _ ⟨_, _⟩)
            | (rw [zw_B]; with_reducible refine zw_mono (zz_type (by assumption)) ?_; rintro _ ⟨_, _⟩)
            | (rw [zw_B]; with_reducible refine zw_mono (zz_whole (by assumption)) ?_; rintro _ ⟨_, _⟩)
            | (rw [zw_B]; with_reducible refine zw_mono (zz_add (by assumption)) ?_; rintro _ ⟨_, _⟩)
            | (rw [zw_B]; with_reducible refine zw_mono (zz_hang (by assumption) (by assumption) (by first | assumption | exact zq_vl_n | exact zq_vl_v (by assumption)) (by assumption)) ?_; rintro _ ⟨_, _⟩)
            | rw [if_pos (zq_at (by assumption))]
            | rw [zz_isCell (by assumption), if_pos rfl]
            | rw [if_neg (zq_ne (by assumption) (by decide) (by decide))]
            | rw [Option.bind_assoc]
            | rw [Option.bind_some]
            | rw [if_pos (zi_in (by omega) (by omega))]
          exact endc φ w _ _ (by assumption) (by assumption)
        · repeat' first
            | (with_reducible refine zw_some.mpr ⟨_, ⟨?_, ?_⟩, by assumption⟩ <;> omega)
            | (with_reducible refine zw_some.mpr ⟨_, ⟨?_, ?_⟩, zx_Om (by assumption) ?_⟩ <;> omega)
            | (with_reducible refine zw_some.mpr ⟨_, ⟨?_, ?_⟩, zx_Om (zx_uF (by assumption) (Or.inl rfl)) ?_⟩ <;> omega)
            | (with_reducible refine zw_mono (zxb_142 (by assumption) (by omega)) ?_; intro _ z; exact ⟨_, by omega, z⟩)
            | (with_reducible refine zw_mono (zxb_142c (by assumption) (by omega)) ?_; intro _ z; exact ⟨_, by omega, z⟩)
            | (rw [zw_bind]; with_reducible refine zw_mono (zxb_body (by assumption)) ?_; intro _ _)
            | (rw [zw_bind]; with_reducible refine zw_mono (zxw_expr4 (by assumption)) ?_; intro _ _)
            | (rw [zw_bind]; with_reducible refine zw_mono (zxw_next2 (by assumption)) ?_; intro _ _)
            | (rw [zw_bind]; with_reducible refine zw_mono (zx_open (by assumption)) ?_; intro _ _)
            | (rw [zw_bind]; with_reducible refine zw_mono (zxw_expression (by assumption)) ?_; intro _ _)
            | (rw [zw_bind]; with_reducible refine zw_mono (zxw_operand (by assumption)) ?_; intro _ _)
            | (rw [zw_bind]; with_reducible refine zw_mono (zxb_keep (by assumption) (by omega)) ?_; intro _ _)
            | (rw [zw_B]; with_reducible refine zw_mono (zxb_node (by assumption) (by omega) rfl) ?_; rintro _ ⟨e1, _⟩; try rw [e1])
            | (rw [zw_bind]; with_reducible refine zw_mono (zxw_wantSign (zxb_uM (by assumption) (by decide))) ?_; intro _ _)
            | (rw [zw_bind]; with_reducible refine zw_mono (zxw_wantSign (by assumption)) ?_; intro _ _)
            | (rw [zw_bind]; with_reducible refine zw_mono (zxw_wantWord (by assumption)) ?_; intro _ _)
            | (rw [zw_bind]; with_reducible refine zw_mono (zxw_want (by assumption)) ?_; intro _ _)
            | (rw [zw_bind]; with_reducible refine zw_mono (zx_next (by assumption)) ?_; intro _ _)
            | (rw [zw_bind]; with_reducible refine zw_mono (zxb_constant (by assumption) (by omega) (by omega)) ?_; intro _ _)
            | (rw [zw_bind]; with_reducible refine zw_mono (zxw_simple (by assumption) (by omega) (by omega)) ?_; rintro _ ⟨_, _, _, _⟩)
            | (rw [zw_B]; with_reducible refine zw_mono (zxb_add (by assumption) (by omega) rfl (by omega)) ?_; rintro _ ⟨e1, _⟩; try rw [e1])
            | rw [zx_isSign (by assumption), if_pos rfl]
            | rw [zx_isWord (by assumption), if_pos rfl]
            | rw [if_neg (zx_ne (by assumption))]
            | rw [if_neg (zx_pos (by assumption))]
            | rw [if_pos (show (0 : Int32) ≤ 0 by decide)]
            | rw [Option.bind_assoc]
            | rw [Option.bind_some]
            | rw [zx_name (by assumption), zo_B]
            | rw [if_pos (zi_in (by omega) (by omega))]
          refine endm φ w _ _ ?_ ?_ (by assumption) <;> omega
      have b5 := zk_Ib I5
      refine zk_sK2 (e2 := 1) (e3 := 4) (S := zg_E) (st' := 1) I5 (zk_GM (zk_wexprD (D' := 400) I5.1 (by decide) (by omega) (by omega) (by omega)) (Nat.le_refl _) (Nat.le_refl 20900) (fun x h g R => zk_TTm R (Nat.le_refl _) (fun t W => zg_Tm W (fun _ z => z) (by omega)))) (by decide) (by omega) ?_ fun x7 h7 g7 u7 LM7 j7 s7 m7 vx7 hj7 I7 => ?_
      · intro φ w mz xz hz gz w1 w2 vz z1 z2
        refine zk_Gf (φ := φ) (w := w) ?_ ?_
        · repeat' first
            | with_reducible exact zw_some.mpr ⟨by assumption, by assumption⟩
            | with_reducible exact zw_some.mpr ⟨by assumption, zz_open (by assumption)⟩
            | (rw [zw_B]; with_reducible refine zw_mono (zz_expression (by assumption)) ?_; rintro _ ⟨_, _⟩)
            | (rw [zw_B]; with_reducible refine zw_mono (zz_operand (by assumption)) ?_; rintro _ ⟨_, _⟩)
            | (rw [zw_B]; with_reducible refine zw_mono (zz_statements (by assumption)) ?_; rintro _ ⟨_, _⟩)
            | (rw [zw_bind]; with_reducible refine zw_mono (zz_take (zz_uM (by assumption) (by decide))) ?_; intro _ _)
            | (rw [zw_bind]; with_reducible refine zw_mono (zz_take (by assumption)) ?_; intro _ _)
            | (rw [zw_B]; with_reducible refine zw_mono (zz_constant (by assumption)) ?_; rintro _ ⟨_, _⟩)
            | (rw [zw_B]; with_reducible refine zw_mono (zz_simpleType (by assumption)) ?_; rintro _ ⟨_, _⟩)
            | (rw [zw_B]; with_reducible refine zw_mono (zz_type (by assumption)) ?_; rintro _ ⟨_, _⟩)
            | (rw [zw_B]; with_reducible refine zw_mono (zz_whole (by assumption)) ?_; rintro _ ⟨_, _⟩)
            | (rw [zw_B]; with_reducible refine zw_mono (zz_add (by assumption)) ?_; rintro _ ⟨_, _⟩)
            | (rw [zw_B]; with_reducible refine zw_mono (zz_hang (by assumption) (by assumption) (by first | assumption | exact zq_vl_n | exact zq_vl_v (by assumption)) (by assumption)) ?_; rintro _ ⟨_, _⟩)
            | rw [if_pos (zq_at (by assumption))]
            | rw [zz_isCell (by assumption), if_pos rfl]
            | rw [if_neg (zq_ne (by assumption) (by decide) (by decide))]
            | rw [Option.bind_assoc]
            | rw [Option.bind_some]
            | rw [if_pos (zi_in (by omega) (by omega))]
          exact endc φ w _ _ (by assumption) (by assumption)
        · rw [zx_isSign z2, if_pos rfl]
          refine endm φ w _ _ ?_ ?_ z2 <;> omega
      have b7 := zk_Ib I7
      have R := zk_IdT (S := [14]) I7 rfl (Or.inl rfl) (by decide) (by omega) (by decide)
      obtain ⟨h8, u8, LM8, j8, s8, m8, e8, hj8, I8⟩ := zk_Ic (st' := 0) I (zk_Tof R (by omega)) (by decide)
      have b8 := zk_Ib I8
      rw [e8, zo_B]
      unfold f_Ps_invocation_153 f_Ps_invocation_164 f_Mo_invoke_83
      rw [show f_Mo_isSign g7 44 = if (h8.1 19 5) = nI 44 then 1 else 0 from zk_sign I8.1 (c := 44) (k := 44) (by decide)]
      by_cases c44 : (h8.1 19 5) = 44
      · rw [if_pos c44, if_pos (show (h8.1 19 5) = nI 44 from c44), if_neg e01, if_neg e01, nI_1]
        refine zk_sN I8 c44 (by decide) ?_ fun h9 g9 LM9 I9 => ?_
        · intro φ w hz gz z1 z2
          refine zk_Gf (φ := φ) (w := w) (zz_invL z1 v0 (zq_vl_v vs')) ?_
          show zw (f_Mo_invoke_32 (f_Mo_invoke_L32 (N' + 1)) gz (nI m) 1) _
          unfold f_Mo_invoke_32
          rw [if_neg e01, zx_name z2, zo_B]
          obtain ⟨⟨x, g3⟩, e4, e5, z3⟩ := zxb_add (kd := 14) (kn := 14) (p := (gz.1 68 7)) (v := (gz.1 68 9)) (b := m) z2 (by omega) rfl (by omega)
          rw [e4, zo_B, zw_bind]
          refine zw_mono (zxw_wantSign z3) fun ga za => ?_
          rw [zw_bind]
          refine zw_mono (zxw_expr4 za) fun gb zb => ?_
          unfold f_Mo_invoke_83
          rw [zx_isSign zb, if_pos rfl]
          exact zw_mono (zxb_inv0 zb) fun g5 z5 => ⟨_, by omega, z5⟩
        exact ih (N + 2) (N' + 2) (c := c + 1) I9 (by omega) (by omega) (by omega) (by omega) (zq_vl_v vs') (by omega) (by omega)
      · rw [if_neg c44, if_neg (show ¬ (h8.1 19 5) = nI 44 from c44), if_pos (show (0 : Int32) = 0 from rfl), if_pos (show (0 : Int32) = 0 from rfl), zq_inv0E, zx_inv0E]
        exact zk_inE I8 (by omega) hf hs hm
    · exact bad φ w z1 z2
/-- an invocation -/
theorem zk_invoc {b : Nat} (H : zk_L h0 g0 T n K LC h g LM j d s m 0 0) (ht : (h.1 19 5) = 8) (h40 : zl_ck (zl_at T n (j + 1)) = 40) (hs : s ≤ 2 * j + 10) (hm : m ≤ 2 * j + 10) (hb : b < m) : zk_G h0 g0 T n K LC m 20950 0 (zk_T h0 g0 T n K LC LM (zg_T zg_Sx (3 * (60 - d) + 4)) j d s m 0 0 b h g) (f_Ps_invocation h) (f_Mo_named g (nI b)) := by
  have bK := zk_bK H
  have m4 := H.2.2.2.2.2.2.2.2.1
  have nr := zk_nm8 H ht
  have v0 : zq_v (nI s) := ⟨s, by omega, rfl⟩
  have z0 : (0 : Int32) = 0 := rfl
  have e01 : ¬ (1 : Int32) = 0 := by decide
  unfold f_Ps_invocation f_Mo_named
  rw [if_pos (zk_atI H)]
  obtain ⟨vc, hvc⟩ : ∃ vc, vc = h.2.1 11 ((h.1 19 4)).toNatClampNeg := ⟨_, rfl⟩
  obtain ⟨vm, hvm⟩ : ∃ vm, vm = (g.1 68 9) := ⟨_, rfl⟩
  rw [← hvc] at nr ⊢
  obtain ⟨h1, e1, L1, qA⟩ := zk_cadd H (kd := 13) (kv := 13) (v := vc) (by omega) (by decide) rfl
  rw [e1, zo_B]
  have t81 : (h1.1 19 5) = 8 := by rw [L1.2.2.2.1.2.2.1, ← H.2.2.2.1.2.2.1]; exact ht
  obtain ⟨h2, g2, e2, e3, R⟩ := zk_want L1 (x := 8) (y := if (g.1 68 6) = 1 then 1 else 0) (zk_kW L1) (by decide)
  rw [e2, Option.bind_some, zk_nameE e3, zo_B, ← hvm]
  rw [← hvm] at nr
  have hE := zk_notE L1 (by rw [t81]; decide)
  have tk2 : (h2.1 19 5) = nI 40 := by
    obtain ⟨h2', e4, C2, _⟩ := zq_take1 L1.2.2.1 L1.2.2.2.1 (zk_lt L1 hE)
    rw [← L1.2.2.2.1.2.2.1, t81, e2] at e4
    cases e4
    rw [C2.2.2.1, h40]
  rcases R with ⟨φ, w, z1, z2⟩ | ⟨_, ⟨f1, f2, LM2, hp, L2⟩ | ⟨φ, w, z1, z2⟩⟩
  · exact absurd tk2 (zq_ne z1 (by decide) (by decide))
  · have nr2 := zt_nrm hp nr
    have kA := zq_kp_A qA
    have kf := zq_kp_f (s := s + 1) f1
    obtain ⟨c1, c2, c3, c4, c5⟩ := kf s (by omega)
    obtain ⟨q1, q2, q3, q4, q5, q6, q7⟩ := qA
    rw [show f_Mo_isSign g2 40 = if (h2.1 19 5) = nI 40 then 1 else 0 from zk_sign L2 (c := 40) (k := 40) (by decide), if_pos tk2, if_neg e01, m4]
    obtain ⟨g3, e4, I⟩ := zk_I1 (D := 3 * (60 - d) + 3) (j := j) (h := h) (g := g) (LM := LM) (s := s) (m := m) (b := b) (kd := 13) (km := 13) (p := nI (zl_at T n j).2.1) (v := vc) (w := vm) L2 hp (by omega) (zq_kp_t kA kf (by omega)) ⟨c1.trans (by rw [q2, if_pos rfl]), c2.trans (by rw [q3, if_pos rfl]), c3.trans (by rw [q4, if_pos rfl]), c5.trans (by rw [q6, if_pos rfl]), c4.trans (by rw [q5, if_pos rfl])⟩ (zx_ka_l f2) (by omega) (by omega) hb rfl (by rw [if_pos (by decide)]; exact nr2)
    rw [e4, zo_B, zm_bs]
    have b1 := zk_Ib I
    unfold f_Mo_invoke f_Mo_invoke_30 f_Mo_invoke_31 f_Ps_invocation_58
    rw [show zF = 18446744073709551614 + 2 from rfl]
    have badm : ∀ φ w gz, zx_B g0 T n φ w (m + 1) 0 gz → zw (if (gz.1 68 10) = 0 then (if (f_Mo_isSign gz 41) = 0 then f_Mo_invoke_L32 (18446744073709551614 + 2) gz (nI m) 1 else f_Mo_invoke_L32 (18446744073709551614 + 2) gz (nI m) 0) else f_Mo_invoke_L32 (18446744073709551614 + 2) gz (nI m) 0) (fun g' => ∃ m', (m ≤ m' ∧ m' ≤ 20950) ∧ zx_B g0 T n φ w m' 0 g') := by
      intro φ w gz z2
      rw [if_neg (zx_ne z2)]
      exact zw_mono (zxb_inv0 z2) fun g5 z5 => ⟨_, by omega, z5⟩
    have badc : ∀ φ w hz, zq_Z h0 T n K LC φ w hz → zw (if (hz.1 19 5) = 41 then f_Ps_invocation_L62 (18446744073709551614 + 2) hz (nI s) (-1) 0 0 else f_Ps_invocation_L62 (18446744073709551614 + 2) hz (nI s) (-1) 1 0) (fun p => zq_v p.1 ∧ zq_Z h0 T n K LC φ w p.2) := by
      intro φ w hz z1
      rw [if_neg (zq_ne z1 (by decide) (by decide))]
      exact zz_invL z1 v0 zq_vl_n
    obtain ⟨h5, g5, e6, e7, R⟩ := zk_deep I.1
    rw [e6, e7, Option.bind_some, Option.bind_some]
    rcases R with ⟨hd, L5, f5, f6⟩ | ⟨φ, w, z1, z2⟩
    · have I5 := zk_Io I f5 f6 L5
      refine zk_sA I5 (zk_wantS I5.1 (c := 40) (k := 40) (by decide) (by decide)) ?_ fun h6 g6 LM6 I6 => ?_
      · intro φ w hz gz z1 z2
        exact zk_Gf (φ := φ) (w := w) (badc φ w hz z1) (badm φ w gz z2)
      have b6 := zk_Ib I6
      rw [if_pos I6.1.2.2.2.2.2.2.1, show f_Mo_isSign g6 41 = if (h6.1 19 5) = nI 41 then 1 else 0 from zk_sign I6.1 (c := 41) (k := 41) (by decide)]
      by_cases c41 : (h6.1 19 5) = 41
      · rw [if_pos c41, if_pos (show (h6.1 19 5) = nI 41 from c41), if_neg e01, zq_inv0E, zx_inv0E]
        exact zk_inE I6 (by omega) (by omega) hs hm
      · rw [if_neg c41, if_neg (show ¬ (h6.1 19 5) = nI 41 from c41), if_pos z0]
        exact zk_inL hd hs hm (K + 1) _ _ (c := 0) I6 (by omega) (by omega) (by omega) (by omega) zq_vl_n (by omega) (by omega)
    · refine zk_Gf (φ := φ) (w := w) ?_ ?_
      · rw [zw_bind]
        exact zw_mono (zz_take z1) fun hz z1 => badc φ w hz z1
      · rw [zw_bind]
        exact zw_mono (zxw_wantSign z2) fun gz z2 => badm φ w gz z2
  · exact absurd tk2 (zq_ne z1 (by decide) (by decide))
end ZAa
