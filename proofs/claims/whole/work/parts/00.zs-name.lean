/-! Both readers in step: operands with a name. -/
section ZSz
variable {h0 g0 h g : zs_H} {T : Nat → Int32} {n K φ w m O : Nat} {LC : List (List Int32)}
theorem zz_274 {x1 : Int32} (H : zq_Z h0 T n K LC φ w h) (v1 : zq_v x1) : zw (f_Ps_namedOperand_274 h x1) (fun p => zq_v p.1 ∧ zq_Z h0 T n K LC φ w p.2) := by
  unfold f_Ps_namedOperand_274
  repeat' first
    | with_reducible exact zw_some.mpr ⟨by assumption, by assumption⟩
    | with_reducible exact zw_some.mpr ⟨by assumption, zz_open (by assumption)⟩
    | (rw [zw_B]; with_reducible refine zw_mono (zz_expression (by assumption)) ?_; rintro _ ⟨_, _⟩)
    | (rw [zw_B]; with_reducible refine zw_mono (zz_operand (by assumption)) ?_; rintro _ ⟨_, _⟩)
    | (rw [zw_bind]; with_reducible refine zw_mono (zz_take (by assumption)) ?_; intro _ _)
    | (rw [zw_B]; with_reducible refine zw_mono (zz_constant (by assumption)) ?_; rintro _ ⟨_, _⟩)
    | (rw [zw_B]; with_reducible refine zw_mono (zz_simpleType (by assumption)) ?_; rintro _ ⟨_, _⟩)
    | (rw [zw_B]; with_reducible refine zw_mono (zz_type (by assumption)) ?_; rintro _ ⟨_, _⟩)
    | (rw [zw_B]; with_reducible refine zw_mono (zz_whole (by assumption)) ?_; rintro _ ⟨_, _⟩)
    | (rw [zw_B]; with_reducible refine zw_mono (zz_add (by assumption)) ?_; rintro _ ⟨_, _⟩)
    | (rw [zw_B]; with_reducible refine zw_mono (zz_hang (by assumption) (by assumption) (by first | assumption | exact zq_vl_n | exact zq_vl_v (by assumption)) (by assumption)) ?_; rintro _ ⟨_, _⟩)
    | rw [if_pos (zq_at (by assumption))]
    | rw [zz_isCell (by assumption), if_pos rfl]
    | rw [if_neg (zq_ne (by assumption) (by decide) (by decide))]
theorem zz_L216 {d N : Nat} {x1 x2 x3 x4 : Int32} (H : zq_Z h0 T n K LC φ w h) (v1 : zq_v x1) (v2 : zq_vl x2) : zw (f_Ps_namedOperand_L216 (f_Ps_expression (d + 2)) (N + 2) h x1 x2 x3 x4) (fun p => zq_v p.1 ∧ zq_Z h0 T n K LC φ w p.2) := by
  show zw (f_Ps_namedOperand_216 (f_Ps_expression (d + 2)) (f_Ps_namedOperand_L216 (f_Ps_expression (d + 2)) (N + 1)) h x1 x2 x3 x4) _
  unfold f_Ps_namedOperand_216
  by_cases c : 16384 ≤ x4
  · rw [if_pos c]; exact zz_274 H v1
  rw [if_neg c]
  by_cases c3 : x3 = 0
  · rw [if_pos c3]; exact zz_274 H v1
  rw [if_neg c3, zw_B]
  refine zw_mono (zz_expression H) ?_
  rintro ⟨v4, h5⟩ ⟨y1, y2⟩
  rw [zw_B]
  refine zw_mono (zz_hang y2 v1 v2 y1) ?_
  rintro ⟨v7, h8⟩ ⟨y3, y4⟩
  rw [if_neg (zq_ne y4 (by decide) (by decide))]
  unfold f_Ps_namedOperand_257 f_Ps_namedOperand_268
  rw [if_pos rfl]
  show zw (f_Ps_namedOperand_216 (f_Ps_expression (d + 2)) (f_Ps_namedOperand_L216 (f_Ps_expression (d + 2)) N) h8 x1 v7 0 (x4 + 1)) _
  unfold f_Ps_namedOperand_216
  by_cases c5 : 16384 ≤ x4 + 1
  · rw [if_pos c5]; exact zz_274 y4 v1
  · rw [if_neg c5, if_pos rfl]; exact zz_274 y4 v1
theorem zxb_call0 {d N : Nat} {x1 : Int32} (H : zx_B g0 T n φ w m O g) : zw (f_Mo_call_L32 (f_Mo_expression d) (N + 1) g x1 0) (zx_B g0 T n φ w m O) := by
  show zw (f_Mo_call_32 (f_Mo_expression d) (f_Mo_call_L32 (f_Mo_expression d) N) g x1 0) _
  unfold f_Mo_call_32
  rw [if_pos rfl, zx_wantSign H, Option.bind_some, zw_some]
  exact zx_uF H (Or.inl rfl)
theorem zxb_callL {d N : Nat} {x1 x2 : Int32} (H : zx_B g0 T n φ w m O g) : zw (f_Mo_call_L32 (f_Mo_expression (d + 1)) (N + 2) g x1 x2) (zx_B g0 T n φ w m O) := by
  by_cases c : x2 = 0
  · subst c; exact zxb_call0 H
  show zw (f_Mo_call_32 (f_Mo_expression (d + 1)) (f_Mo_call_L32 (f_Mo_expression (d + 1)) (N + 1)) g x1 x2) _
  unfold f_Mo_call_32
  rw [if_neg c, zxb_expression H, Option.bind_some, zx_isSign H, if_pos rfl]
  exact zxb_call0 H
theorem zxb_142 {x : Int32} (H : zx_B g0 T n φ w m O g) (hO : O < 200) : zw (f_Mo_nameOperand_142 g x) (zx_B g0 T n φ w m (O + 1)) := by
  unfold f_Mo_nameOperand_142
  rw [zw_bind]
  exact zw_mono (zxb_keep H hO) fun g' z => zw_some.mpr z
end ZSz
section ZS
variable {h0 g0 h g h' g' : zs_H} {T : Nat → Int32} {n K : Nat} {LC LM LM' : List (List Int32)} {j d s m o q kd j' d' s' m' e st D : Nat} {p v y : Int32} {u : zt_T}
/-- the model keeps it -/
theorem zk_142 (I : zk_J h0 g0 T n K LC LM j d s m o q kd p v h g u y LM' j' d' s' m' e st D h' g') (ho : o < 200) (ha : zg_A kd st = true) (hv : zg_b kd = 0) (hS : kd ∈ zg_E) (h37 : ¬ kd = 37) (hj : j < j') (he : 1 ≤ e) (hD : D ≤ (60 - d) + (d' - d) + 1) : zk_G h0 g0 T n K LC m 20900 (o + 1) (zk_X h0 g0 T n K LC LM j d s m o q 0 0 h g) (some (nI s, h')) (f_Mo_nameOperand_142 g' (nI m)) := by
  have b := zk_Jb I
  obtain ⟨g6, e14, L6, fin⟩ := zk_Jk I ho ha (Or.inl hv) hS h37
  unfold f_Mo_nameOperand_142
  rw [e14]
  exact ⟨nI s, h', g6, rfl, rfl, Or.inl (fin zk_Yr L6 (Nat.le_refl _) (by omega) (by omega) (by omega) (by omega))⟩
/-- closed, and kept -/
theorem zk_142c (I : zk_J h0 g0 T n K LC LM j d s m o q kd p v h g u y LM' j' d' s' m' e st D h' g') (ho : o < 200) (ha : zg_A kd st = true) (hv : zg_b kd = 0) (hS : kd ∈ zg_E) (h37 : ¬ kd = 37) (hj : j < j') (he : 1 ≤ e) (hd : d + 1 ≤ d') (hD : D ≤ (60 - d) + (d' - d)) : zk_G h0 g0 T n K LC m 20900 (o + 1) (zk_X h0 g0 T n K LC LM j d s m o q 0 0 h g) (some (nI s, zs_uF h' 19 7 (h'.1 19 7 - 1))) (f_Mo_nameOperand_142 (zs_uF g' 68 12 (g'.1 68 12 - 1)) (nI m)) := by
  obtain ⟨z, rfl⟩ : ∃ z, d' = z + 1 := ⟨d' - 1, by omega⟩
  have b := zk_Jb I
  have L := zk_close I.1
  exact zk_142 (zk_Jt I (zk_Yo (fs := [(19, 7)]) (fs' := [(68, 12)]) (zfr_F (by decide) zfr_rfl) (zfr_F (by decide) zfr_rfl)) (by omega) (Nat.le_refl _) L) ho ha hv hS h37 hj (by omega) (by omega)
/-- an output of an instance -/
theorem zk_nout (I : zk_J h0 g0 T n K LC LM j d s m o q 33 p v h g .leaf (-1) LM' j' d' s' m' e 0 1 h' g') (ho : o < 200) (hj : j < j') (he : 2 ≤ e) (hs : s' ≤ 20800) (hm : m' ≤ 20800) (ht : (h'.1 19 5) = 46) : zk_G h0 g0 T n K LC m 20900 (o + 1) (zk_X h0 g0 T n K LC LM j d s m o q 0 0 h g) ((f_Ps_take h' 46).bind fun h31 => (if zd_in (h31.1 19 4) 16385 then (zd_B (f_Tr_add h31 38 (h31.1 19 6) (h31.2.1 11 (h31.1 19 4).toNatClampNeg)) fun v34 h35 => (zd_B (f_Tr_hang h35 (nI s) (-1) v34) fun v37 h38 => ((f_Ps_take h38 8).bind fun h40 => (some (nI s, h40))))) else none)) ((f_Mo_next g').bind fun h13 => (zd_B (f_Mo_add h13 (nI m) 6 (h13.1 68 7) (h13.1 68 9)) fun v15 h16 => (if (h16.1 68 6) = 1 then f_Mo_nameOperand_122 h16 (nI m) 1 else f_Mo_nameOperand_122 h16 (nI m) 0))) := by
  have b := zk_Jb I
  have v0 : zq_v (nI s) := ⟨s, by omega, rfl⟩
  obtain ⟨h3, g3, e5, e6, f3, f4, R⟩ := zk_step I.1 (zk_notE I.1 (by rw [ht]; decide))
  rw [ht] at e5
  rw [e5, e6, Option.bind_some, Option.bind_some]
  rcases R with ⟨LM3, hp, L3⟩ | ⟨φ, w, z1, z2⟩
  · have J2 := zk_Jt I (zk_Yk ⟨f3, f4⟩ hp) (by omega) (by omega) L3
    have b2 := zk_Jb J2
    have m4 := L3.2.2.2.2.2.2.2.2.1
    rw [if_pos (zk_atI L3)]
    obtain ⟨h4, e7, L4, qA⟩ := zk_cadd L3 (kd := 38) (kv := 38) (v := h3.2.1 11 (h3.1 19 4).toNatClampNeg) (by omega) (by omega) rfl
    have etk : (h4.1 19 5) = (h3.1 19 5) := by rw [L4.2.2.2.1.2.2.1, L3.2.2.2.1.2.2.1]
    rw [e7, zo_B]
    by_cases c : (h3.1 19 5) = 8
    · have hk1 : (zl_at T n (j' + 1)).1 = 1 := by
        have := ((zk_kind L3).1).mpr c
        rw [L3.2.2.2.2.2.2.2.2.2.2.1] at this
        exact (zc_eq (k := 1) (by decide) (by have := (zk_F L3).1; omega)).mp this
      obtain ⟨g5, e8, L5, qM, q1, q2, q3, q4, q5, q6, q7⟩ := zk_madd L4 (b := m) (kd := 38) (kv := 6) (p := (g3.1 68 7)) (v := (g3.1 68 9)) (v' := h3.2.1 11 (h3.1 19 4).toNatClampNeg) (by omega) (by omega) rfl (by rw [if_pos (by decide)]; exact (zk_nm L3 hk1).2)
      rw [e8, zo_B]
      rw [m4] at qM
      obtain ⟨h6, e9, J6⟩ := zk_Jc0 (e' := e + 1) (st' := 1) (D' := 1) (S := [38]) J2 (zg_n (D := 0) zg_U0 rfl (Or.inl rfl) (List.mem_singleton.mpr rfl)) (zg_c_n (by decide)) (List.prefix_refl _) L5 (by omega) (a := s') ⟨by omega, by omega⟩ (zt_Cm (fun i hi => by omega) (zt_Cn (by omega) qA)) (zq_kp_A qA) qM (zo_fr_f q7 (by decide) (by decide) (by decide)) (by decide) (Nat.le_refl _)
      rw [e9, zo_B]
      obtain ⟨h7, g7, e10, e11, R⟩ := zk_want J6.1 (x := 8) (y := 1) ⟨fun _ => by rw [J6.1.2.2.2.1.2.2.1, ← L3.2.2.2.1.2.2.1]; exact c, fun _ => by decide⟩ (by decide)
      have ek : (g5.1 68 6) = 1 := by rw [q7.1 _ _ (by decide)]; exact ((zk_kind L3).1).mpr c
      rw [if_pos ek]
      unfold f_Mo_nameOperand_122
      rw [e10, e11, Option.bind_some, Option.bind_some]
      rcases R with ⟨φ, w, z1, z2⟩ | ⟨_, ⟨f5, f6, LM5, hp5, L7⟩ | ⟨φ, w, z1, z2⟩⟩
      · exact zk_Gf (φ := φ) (w := w) (zw_some.mpr ⟨v0, z1⟩) (zw_mono (zxb_142 z2 ho) fun g' z => ⟨_, by omega, z⟩)
      · exact zk_142 (zk_Jt J6 (zk_Yk ⟨f5, f6⟩ hp5) (by omega) (by omega) L7) ho rfl rfl (by decide) (by decide) (by omega) (by omega) (by omega)
      · exact zk_Gf (φ := φ) (w := w) (zw_some.mpr ⟨v0, z1⟩) (zw_mono (zxb_142 z2 ho) fun g' z => ⟨_, by omega, z⟩)
    · obtain ⟨i1, i3, ⟨c1, c2, c3, c4, c5⟩, _⟩ := J2
      obtain ⟨k1, k2, k3, k4, k5⟩ := zq_kp_A qA s (by omega)
      have c5' : zt_C h4 .leaf (fun i => s < i ∧ i < s') ((h4.2.1 17) s) (-1) := by rw [k4]; exact c5
      obtain ⟨h5, e8, _, e9, e10⟩ := zq_hangC (ip := s) (a := s') (by omega) (fun i hi => by omega) c5' (zt_Cn (by omega) qA) (fun i hi z => by omega) (by omega) (by omega) (by omega)
      rw [e8, zo_B]
      have L5 := zk_cf L4 e10 (by decide)
      obtain ⟨g5, e11, L6, q7⟩ := zk_madd0 L5 (b := m) (kn := 6) (kv := 6) (p := (g3.1 68 7)) (v := (g3.1 68 9)) (by omega) (by omega) rfl
      rw [e11, zo_B, if_neg (show ¬ (g5.1 68 6) = 1 by rw [q7]; exact fun z => c (((zk_kind L3).1).mp z))]
      unfold f_Mo_nameOperand_122
      have ne : ¬ (h5.1 19 5) = 8 := by rw [L6.2.2.2.1.2.2.1, ← L3.2.2.2.1.2.2.1]; exact c
      obtain ⟨h7, g7, e12, e13, R⟩ := zk_want L6 (x := 8) (y := 0) ⟨fun z => absurd rfl z, fun z => absurd z ne⟩ (by decide)
      rw [e12, e13, Option.bind_some, Option.bind_some]
      rcases R with ⟨φ, w, z1, z2⟩ | ⟨z, _⟩
      · exact zk_Gf (φ := φ) (w := w) (zw_some.mpr ⟨v0, z1⟩) (zw_mono (zxb_142 z2 ho) fun g' z => ⟨_, by omega, z⟩)
      · exact absurd z ne
  · refine zk_Gf (φ := φ) (w := w) ?_ ?_
    · repeat' first
        | with_reducible exact zw_some.mpr ⟨by assumption, by assumption⟩
        | with_reducible exact zw_some.mpr ⟨by assumption, zz_open (by assumption)⟩
        | (rw [zw_B]; with_reducible refine zw_mono (zz_expression (by assumption)) ?_; rintro _ ⟨_, _⟩)
        | (rw [zw_B]; with_reducible refine zw_mono (zz_operand (by assumption)) ?_; rintro _ ⟨_, _⟩)
        | (rw [zw_bind]; with_reducible refine zw_mono (zz_take (by assumption)) ?_; intro _ _)
        | (rw [zw_B]; with_reducible refine zw_mono (zz_constant (by assumption)) ?_; rintro _ ⟨_, _⟩)
        | (rw [zw_B]; with_reducible refine zw_mono (zz_simpleType (by assumption)) ?_; rintro _ ⟨_, _⟩)
        | (rw [zw_B]; with_reducible refine zw_mono (zz_type (by assumption)) ?_; rintro _ ⟨_, _⟩)
        | (rw [zw_B]; with_reducible refine zw_mono (zz_whole (by assumption)) ?_; rintro _ ⟨_, _⟩)
        | (rw [zw_B]; with_reducible refine zw_mono (zz_add (by assumption)) ?_; rintro _ ⟨_, _⟩)
        | (rw [zw_B]; with_reducible refine zw_mono (zz_hang (by assumption) (by assumption) (by first | assumption | exact zq_vl_n | exact zq_vl_v (by assumption)) (by assumption)) ?_; rintro _ ⟨_, _⟩)
        | rw [if_pos (zq_at (by assumption))]
        | rw [zz_isCell (by assumption), if_pos rfl]
        | rw [if_neg (zq_ne (by assumption) (by decide) (by decide))]
    · rw [zw_B]
      refine zw_mono (zxb_add (kn := 6) z2 (by omega) rfl (by omega)) fun q z => ?_
      unfold f_Mo_nameOperand_122
      split
      · rw [zw_bind]
        exact zw_mono (zxw_want z.2) fun g' z => zw_mono (zxb_142 z ho) fun g' z => ⟨_, by omega, z⟩
      · rw [zw_bind]
        exact zw_mono (zxw_want z.2) fun g' z => zw_mono (zxb_142 z ho) fun g' z => ⟨_, by omega, z⟩
end ZS
