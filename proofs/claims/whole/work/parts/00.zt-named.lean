/-! Both readers in step: elements, calls, names. -/
section ZTm
variable {g0 g : zs_H} {T : Nat → Int32} {n φ w m O : Nat}
theorem zxb_142c {x v : Int32} (H : zx_B g0 T n φ w m O g) (hO : O < 200) : zw (f_Mo_nameOperand_142 (zs_uF g 68 12 v) x) (zx_B g0 T n φ w m (O + 1)) := zxb_142 (zx_uF H (Or.inl rfl)) hO
theorem zy_L216 {r : zs_H → Int32 → Option (Int32 × zs_H)} {N : Nat} {h : zs_H} {x1 x2 x4 : Int32} : f_Ps_namedOperand_L216 r (N + 1) h x1 x2 0 x4 = f_Ps_namedOperand_274 h x1 := by
  show f_Ps_namedOperand_216 r (f_Ps_namedOperand_L216 r N) h x1 x2 0 x4 = _
  unfold f_Ps_namedOperand_216
  rw [if_pos (show (0 : Int32) = 0 from rfl)]
  split <;> rfl
theorem zy_L32 {r : zs_H → Int32 → Option zs_H} {N : Nat} {g : zs_H} {x1 : Int32} : f_Mo_call_L32 r (N + 1) g x1 0 = (f_Mo_wantSign g 41).bind fun h3 => some (zs_uF h3 68 12 ((h3.1 68 12) - 1)) := by
  show f_Mo_call_32 r (f_Mo_call_L32 r N) g x1 0 = _
  unfold f_Mo_call_32
  rw [if_pos rfl]
end ZTm
section ZT
variable {h0 g0 h g h' g' : zs_H} {T : Nat → Int32} {n K : Nat} {LC LM LM' : List (List Int32)} {j d s m o q kd j' d' s' m' e st D : Nat} {p v y : Int32} {u : zt_T}
/-- an element of a row -/
theorem zk_nel {D1 D2 : Nat} (EP : d < 60 → zk_EP h0 g0 T n K LC (d + 1)) (I : zk_J h0 g0 T n K LC LM j d s m o q 32 p v h g .leaf (-1) LM' j' d s' m' e 0 1 h' g') (ho : o ≤ d) (hq : q ≤ d + 1) (hq1 : 1 ≤ q) (hD1 : 3 * (60 - d) + 2 ≤ D1) (hD2 : 4 * (60 - d) + 1 ≤ D2) (hj : j < j') (he : 2 ≤ e) (hs : s ≤ 2 * j + 12) (hm : m ≤ 2 * j + 12) : zk_G h0 g0 T n K LC m 20900 (o + 1) (zk_X h0 g0 T n K LC LM j d s m o q 0 0 h g) ((f_Ps_deepen h').bind fun h18 => ((f_Ps_take h18 91).bind fun h20 => (zd_B (f_Ps_expression D1 h20 0) fun v22 h23 => (zd_B (f_Tr_hang h23 (nI s) (-1) v22) fun v25 h26 => ((f_Ps_take h26 93).bind fun h28 => (some (nI s, (zs_uF h28 19 7 ((h28.1 19 7) - 1))))))))) ((g_Mo_element (f_Mo_expression D2) g' (nI m)).bind fun h19 => f_Mo_nameOperand_142 h19 (nI m)) := by
  have b := zk_Jb I
  have v0 : zq_v (nI s) := ⟨s, by omega, rfl⟩
  obtain ⟨D1, rfl⟩ : ∃ z, D1 = z + 2 := ⟨D1 - 2, by omega⟩
  obtain ⟨D2, rfl⟩ : ∃ z, D2 = z + 1 := ⟨D2 - 1, by omega⟩
  unfold g_Mo_element
  simp only [Option.bind_assoc, Option.bind_some]
  obtain ⟨h2, g2, e3, e4, R⟩ := zk_deep I.1
  rw [e3, e4, Option.bind_some, Option.bind_some]
  rcases R with ⟨hd, L2, f1, f2⟩ | ⟨φ, w, z1, z2⟩
  · have J2 := zk_Jt I (zk_Yo f1 f2) (by omega) (Nat.le_refl j') L2
    obtain ⟨h3, g3, e5, e6, R⟩ := zk_wantS J2.1 (c := 91) (k := 91) (by decide) (by decide)
    rw [show f_Ps_take h2 91 = some h3 from e5, show f_Mo_wantSign g2 91 = some g3 from e6, Option.bind_some, Option.bind_some]
    rcases R with ⟨φ, w, z1, z2⟩ | ⟨_, ⟨f3, f4, LM3, hp, L3⟩ | ⟨φ, w, z1, z2⟩⟩
    · refine zk_Gf (φ := φ) (w := w) ?_ ?_
      · repeat' first
          | with_reducible exact zw_some.mpr ⟨by assumption, by assumption⟩
          | with_reducible exact zw_some.mpr ⟨by assumption, zz_open (by assumption)⟩
          | (rw [zw_B]; with_reducible refine zw_mono (zz_expression (by assumption)) ?_; rintro _ ⟨_, _⟩)
          | (rw [zw_B]; with_reducible refine zw_mono (zz_operand (by assumption)) ?_; rintro _ ⟨_, _⟩)
          | (rw [zw_bind]; with_reducible refine zw_mono (zz_take (by assumption)) ?_; intro _ _)
          | (rw [zw_B]; with_reducible refine zw_mono (zz_constant (by assumption)) ?_; rintro _ ⟨_, _⟩)
          | (rw [zw_B]; with_reducible refine zw_mono (zz_simpleType (by assumption)) ?_; rintro _ ⟨_, _⟩)
          | (rw [zw_B]; with_reducible refine zw_mono (zz_type (by assumption)) ?_; rintro _ ⟨_, _⟩)
          | (rw [zw_B]; with_reducible refine zw_mono (zz_whole (by assumption)) ?_; rintro _ ⟨_, _⟩)
          | (rw [zw_B]; with_reducible refine zw_mono (zz_add (by assumption)) ?_; rintro _ ⟨_, _⟩)
          | (rw [zw_B]; with_reducible refine zw_mono (zz_hang (by assumption) (by assumption) (by first | assumption | exact zq_vl_n | exact zq_vl_v (by assumption)) (by assumption)) ?_; rintro _ ⟨_, _⟩)
          | rw [if_pos (zq_at (by assumption))]
          | rw [zz_isCell (by assumption), if_pos rfl]
          | rw [if_neg (zq_ne (by assumption) (by decide) (by decide))]
      · repeat' first
          | (with_reducible refine zw_some.mpr ⟨_, ⟨?_, ?_⟩, by assumption⟩ <;> omega)
          | (with_reducible refine zw_some.mpr ⟨_, ⟨?_, ?_⟩, zx_Om (by assumption) ?_⟩ <;> omega)
          | (with_reducible refine zw_some.mpr ⟨_, ⟨?_, ?_⟩, zx_Om (zx_uF (by assumption) (Or.inl rfl)) ?_⟩ <;> omega)
          | (with_reducible refine zw_mono (zxb_142 (by assumption) (by omega)) ?_; intro _ z; exact ⟨_, by omega, z⟩)
          | (with_reducible refine zw_mono (zxb_142c (by assumption) (by omega)) ?_; intro _ z; exact ⟨_, by omega, z⟩)
          | (rw [zw_bind]; with_reducible refine zw_mono (zxw_next2 (by assumption)) ?_; intro _ _)
          | (rw [zw_bind]; with_reducible refine zw_mono (zx_open (by assumption)) ?_; intro _ _)
          | (rw [zw_bind]; with_reducible refine zw_mono (zxw_expression (by assumption)) ?_; intro _ _)
          | (rw [zw_bind]; with_reducible refine zw_mono (zxw_operand (by assumption)) ?_; intro _ _)
          | (rw [zw_bind]; with_reducible refine zw_mono (zxb_keep (by assumption) (by omega)) ?_; intro _ _)
          | (rw [zw_B]; with_reducible refine zw_mono (zxb_node (by assumption) (by omega) rfl) ?_; rintro _ ⟨e1, _⟩; try rw [e1])
          | (rw [zw_bind]; with_reducible refine zw_mono (zxw_wantSign (by assumption)) ?_; intro _ _)
          | (rw [zw_bind]; with_reducible refine zw_mono (zxw_wantWord (by assumption)) ?_; intro _ _)
          | (rw [zw_bind]; with_reducible refine zw_mono (zxw_want (by assumption)) ?_; intro _ _)
          | (rw [zw_bind]; with_reducible refine zw_mono (zx_next (by assumption)) ?_; intro _ _)
          | (rw [zw_bind]; with_reducible refine zw_mono (zxb_constant (by assumption) (by omega) (by omega)) ?_; intro _ _)
          | (rw [zw_bind]; with_reducible refine zw_mono (zxw_simple (by assumption) (by omega) (by omega)) ?_; rintro _ ⟨_, _, _, _⟩)
          | (rw [zw_B]; with_reducible refine zw_mono (zxb_add (by assumption) (by omega) rfl (by omega)) ?_; rintro _ ⟨e1, _⟩; try rw [e1])
          | rw [zx_isSign (by assumption), if_pos rfl]
          | rw [zx_isWord (by assumption), if_pos rfl]
          | rw [if_neg (zx_ne (by assumption))]
          | rw [if_neg (zx_pos (by assumption))]
          | rw [if_pos (show (0 : Int32) ≤ 0 by decide)]
    · have J3 := zk_Jt J2 (zk_Yk ⟨f3, f4⟩ hp) (by omega) (by omega) L3
      have b3 := zk_Jb J3
      obtain ⟨x, h4, g4, e7, e8, R⟩ := EP hd (D := D1 + 2) (D' := D2 + 1) (b := m) L3 (Nat.le_refl _) (by omega) (by omega) hq1 (by omega) (by omega) (by omega) (by omega) (by omega)
      rw [e7, e8, zo_B, Option.bind_some]
      rcases R with R | ⟨vx, φ, w, m2, w1, w2, z1, z2⟩
      · obtain ⟨h5, u5, LM5, j5, d5, s5, m5, e9, lt5, ld5, vx, J5⟩ := zk_Jc (dd := d + 1) (st' := 1) J3 R (by decide) (Nat.le_refl _) (by omega)
        rw [e9, zo_B]
        have b5 := zk_Jb J5
        obtain ⟨h6, g6, e10, e11, R⟩ := zk_wantS J5.1 (c := 93) (k := 93) (by decide) (by decide)
        rw [show f_Ps_take h5 93 = some h6 from e10, show f_Mo_wantSign g4 93 = some g6 from e11, Option.bind_some, Option.bind_some]
        rcases R with ⟨φ, w, z1, z2⟩ | ⟨_, ⟨f5, f6, LM6, hp6, L6⟩ | ⟨φ, w, z1, z2⟩⟩
        · refine zk_Gf (φ := φ) (w := w) ?_ ?_
          · repeat' first
              | with_reducible exact zw_some.mpr ⟨by assumption, by assumption⟩
              | with_reducible exact zw_some.mpr ⟨by assumption, zz_open (by assumption)⟩
              | (rw [zw_B]; with_reducible refine zw_mono (zz_expression (by assumption)) ?_; rintro _ ⟨_, _⟩)
              | (rw [zw_B]; with_reducible refine zw_mono (zz_operand (by assumption)) ?_; rintro _ ⟨_, _⟩)
              | (rw [zw_bind]; with_reducible refine zw_mono (zz_take (by assumption)) ?_; intro _ _)
              | (rw [zw_B]; with_reducible refine zw_mono (zz_constant (by assumption)) ?_; rintro _ ⟨_, _⟩)
              | (rw [zw_B]; with_reducible refine zw_mono (zz_simpleType (by assumption)) ?_; rintro _ ⟨_, _⟩)
              | (rw [zw_B]; with_reducible refine zw_mono (zz_type (by assumption)) ?_; rintro _ ⟨_, _⟩)
              | (rw [zw_B]; with_reducible refine zw_mono (zz_whole (by assumption)) ?_; rintro _ ⟨_, _⟩)
              | (rw [zw_B]; with_reducible refine zw_mono (zz_add (by assumption)) ?_; rintro _ ⟨_, _⟩)
              | (rw [zw_B]; with_reducible refine zw_mono (zz_hang (by assumption) (by assumption) (by first | assumption | exact zq_vl_n | exact zq_vl_v (by assumption)) (by assumption)) ?_; rintro _ ⟨_, _⟩)
              | rw [if_pos (zq_at (by assumption))]
              | rw [zz_isCell (by assumption), if_pos rfl]
              | rw [if_neg (zq_ne (by assumption) (by decide) (by decide))]
          · repeat' first
              | (with_reducible refine zw_some.mpr ⟨_, ⟨?_, ?_⟩, by assumption⟩ <;> omega)
              | (with_reducible refine zw_some.mpr ⟨_, ⟨?_, ?_⟩, zx_Om (by assumption) ?_⟩ <;> omega)
              | (with_reducible refine zw_some.mpr ⟨_, ⟨?_, ?_⟩, zx_Om (zx_uF (by assumption) (Or.inl rfl)) ?_⟩ <;> omega)
              | (with_reducible refine zw_mono (zxb_142 (by assumption) (by omega)) ?_; intro _ z; exact ⟨_, by omega, z⟩)
              | (with_reducible refine zw_mono (zxb_142c (by assumption) (by omega)) ?_; intro _ z; exact ⟨_, by omega, z⟩)
              | (rw [zw_bind]; with_reducible refine zw_mono (zxw_next2 (by assumption)) ?_; intro _ _)
              | (rw [zw_bind]; with_reducible refine zw_mono (zx_open (by assumption)) ?_; intro _ _)
              | (rw [zw_bind]; with_reducible refine zw_mono (zxw_expression (by assumption)) ?_; intro _ _)
              | (rw [zw_bind]; with_reducible refine zw_mono (zxw_operand (by assumption)) ?_; intro _ _)
              | (rw [zw_bind]; with_reducible refine zw_mono (zxb_keep (by assumption) (by omega)) ?_; intro _ _)
              | (rw [zw_B]; with_reducible refine zw_mono (zxb_node (by assumption) (by omega) rfl) ?_; rintro _ ⟨e1, _⟩; try rw [e1])
              | (rw [zw_bind]; with_reducible refine zw_mono (zxw_wantSign (by assumption)) ?_; intro _ _)
              | (rw [zw_bind]; with_reducible refine zw_mono (zxw_wantWord (by assumption)) ?_; intro _ _)
              | (rw [zw_bind]; with_reducible refine zw_mono (zxw_want (by assumption)) ?_; intro _ _)
              | (rw [zw_bind]; with_reducible refine zw_mono (zx_next (by assumption)) ?_; intro _ _)
              | (rw [zw_bind]; with_reducible refine zw_mono (zxb_constant (by assumption) (by omega) (by omega)) ?_; intro _ _)
              | (rw [zw_bind]; with_reducible refine zw_mono (zxw_simple (by assumption) (by omega) (by omega)) ?_; rintro _ ⟨_, _, _, _⟩)
              | (rw [zw_B]; with_reducible refine zw_mono (zxb_add (by assumption) (by omega) rfl (by omega)) ?_; rintro _ ⟨e1, _⟩; try rw [e1])
              | rw [zx_isSign (by assumption), if_pos rfl]
              | rw [zx_isWord (by assumption), if_pos rfl]
              | rw [if_neg (zx_ne (by assumption))]
              | rw [if_neg (zx_pos (by assumption))]
              | rw [if_pos (show (0 : Int32) ≤ 0 by decide)]
        · have J6 := zk_Jt J5 (zk_Yk ⟨f5, f6⟩ hp6) (by omega) (by omega) L6
          exact zk_142c J6 (by omega) rfl rfl (by decide) (by decide) (by omega) (by omega) (by omega) (by omega)
        · refine zk_Gf (φ := φ) (w := w) ?_ ?_
          · repeat' first
              | with_reducible exact zw_some.mpr ⟨by assumption, by assumption⟩
              | with_reducible exact zw_some.mpr ⟨by assumption, zz_open (by assumption)⟩
              | (rw [zw_B]; with_reducible refine zw_mono (zz_expression (by assumption)) ?_; rintro _ ⟨_, _⟩)
              | (rw [zw_B]; with_reducible refine zw_mono (zz_operand (by assumption)) ?_; rintro _ ⟨_, _⟩)
              | (rw [zw_bind]; with_reducible refine zw_mono (zz_take (by assumption)) ?_; intro _ _)
              | (rw [zw_B]; with_reducible refine zw_mono (zz_constant (by assumption)) ?_; rintro _ ⟨_, _⟩)
              | (rw [zw_B]; with_reducible refine zw_mono (zz_simpleType (by assumption)) ?_; rintro _ ⟨_, _⟩)
              | (rw [zw_B]; with_reducible refine zw_mono (zz_type (by assumption)) ?_; rintro _ ⟨_, _⟩)
              | (rw [zw_B]; with_reducible refine zw_mono (zz_whole (by assumption)) ?_; rintro _ ⟨_, _⟩)
              | (rw [zw_B]; with_reducible refine zw_mono (zz_add (by assumption)) ?_; rintro _ ⟨_, _⟩)
              | (rw [zw_B]; with_reducible refine zw_mono (zz_hang (by assumption) (by assumption) (by first | assumption | exact zq_vl_n | exact zq_vl_v (by assumption)) (by assumption)) ?_; rintro _ ⟨_, _⟩)
              | rw [if_pos (zq_at (by assumption))]
              | rw [zz_isCell (by assumption), if_pos rfl]
              | rw [if_neg (zq_ne (by assumption) (by decide) (by decide))]
          · repeat' first
              | (with_reducible refine zw_some.mpr ⟨_, ⟨?_, ?_⟩, by assumption⟩ <;> omega)
              | (with_reducible refine zw_some.mpr ⟨_, ⟨?_, ?_⟩, zx_Om (by assumption) ?_⟩ <;> omega)
              | (with_reducible refine zw_some.mpr ⟨_, ⟨?_, ?_⟩, zx_Om (zx_uF (by assumption) (Or.inl rfl)) ?_⟩ <;> omega)
              | (with_reducible refine zw_mono (zxb_142 (by assumption) (by omega)) ?_; intro _ z; exact ⟨_, by omega, z⟩)
              | (with_reducible refine zw_mono (zxb_142c (by assumption) (by omega)) ?_; intro _ z; exact ⟨_, by omega, z⟩)
              | (rw [zw_bind]; with_reducible refine zw_mono (zxw_next2 (by assumption)) ?_; intro _ _)
              | (rw [zw_bind]; with_reducible refine zw_mono (zx_open (by assumption)) ?_; intro _ _)
              | (rw [zw_bind]; with_reducible refine zw_mono (zxw_expression (by assumption)) ?_; intro _ _)
              | (rw [zw_bind]; with_reducible refine zw_mono (zxw_operand (by assumption)) ?_; intro _ _)
              | (rw [zw_bind]; with_reducible refine zw_mono (zxb_keep (by assumption) (by omega)) ?_; intro _ _)
              | (rw [zw_B]; with_reducible refine zw_mono (zxb_node (by assumption) (by omega) rfl) ?_; rintro _ ⟨e1, _⟩; try rw [e1])
              | (rw [zw_bind]; with_reducible refine zw_mono (zxw_wantSign (by assumption)) ?_; intro _ _)
              | (rw [zw_bind]; with_reducible refine zw_mono (zxw_wantWord (by assumption)) ?_; intro _ _)
              | (rw [zw_bind]; with_reducible refine zw_mono (zxw_want (by assumption)) ?_; intro _ _)
              | (rw [zw_bind]; with_reducible refine zw_mono (zx_next (by assumption)) ?_; intro _ _)
              | (rw [zw_bind]; with_reducible refine zw_mono (zxb_constant (by assumption) (by omega) (by omega)) ?_; intro _ _)
              | (rw [zw_bind]; with_reducible refine zw_mono (zxw_simple (by assumption) (by omega) (by omega)) ?_; rintro _ ⟨_, _, _, _⟩)
              | (rw [zw_B]; with_reducible refine zw_mono (zxb_add (by assumption) (by omega) rfl (by omega)) ?_; rintro _ ⟨e1, _⟩; try rw [e1])
              | rw [zx_isSign (by assumption), if_pos rfl]
              | rw [zx_isWord (by assumption), if_pos rfl]
              | rw [if_neg (zx_ne (by assumption))]
              | rw [if_neg (zx_pos (by assumption))]
              | rw [if_pos (show (0 : Int32) ≤ 0 by decide)]
      · refine zk_Gf (φ := φ) (w := w) ?_ ?_
        · repeat' first
            | with_reducible exact zw_some.mpr ⟨by assumption, by assumption⟩
            | with_reducible exact zw_some.mpr ⟨by assumption, zz_open (by assumption)⟩
            | (rw [zw_B]; with_reducible refine zw_mono (zz_expression (by assumption)) ?_; rintro _ ⟨_, _⟩)
            | (rw [zw_B]; with_reducible refine zw_mono (zz_operand (by assumption)) ?_; rintro _ ⟨_, _⟩)
            | (rw [zw_bind]; with_reducible refine zw_mono (zz_take (by assumption)) ?_; intro _ _)
            | (rw [zw_B]; with_reducible refine zw_mono (zz_constant (by assumption)) ?_; rintro _ ⟨_, _⟩)
            | (rw [zw_B]; with_reducible refine zw_mono (zz_simpleType (by assumption)) ?_; rintro _ ⟨_, _⟩)
            | (rw [zw_B]; with_reducible refine zw_mono (zz_type (by assumption)) ?_; rintro _ ⟨_, _⟩)
            | (rw [zw_B]; with_reducible refine zw_mono (zz_whole (by assumption)) ?_; rintro _ ⟨_, _⟩)
            | (rw [zw_B]; with_reducible refine zw_mono (zz_add (by assumption)) ?_; rintro _ ⟨_, _⟩)
            | (rw [zw_B]; with_reducible refine zw_mono (zz_hang (by assumption) (by assumption) (by first | assumption | exact zq_vl_n | exact zq_vl_v (by assumption)) (by assumption)) ?_; rintro _ ⟨_, _⟩)
            | rw [if_pos (zq_at (by assumption))]
            | rw [zz_isCell (by assumption), if_pos rfl]
            | rw [if_neg (zq_ne (by assumption) (by decide) (by decide))]
        · repeat' first
            | (with_reducible refine zw_some.mpr ⟨_, ⟨?_, ?_⟩, by assumption⟩ <;> omega)
            | (with_reducible refine zw_some.mpr ⟨_, ⟨?_, ?_⟩, zx_Om (by assumption) ?_⟩ <;> omega)
            | (with_reducible refine zw_some.mpr ⟨_, ⟨?_, ?_⟩, zx_Om (zx_uF (by assumption) (Or.inl rfl)) ?_⟩ <;> omega)
            | (with_reducible refine zw_mono (zxb_142 (by assumption) (by omega)) ?_; intro _ z; exact ⟨_, by omega, z⟩)
            | (with_reducible refine zw_mono (zxb_142c (by assumption) (by omega)) ?_; intro _ z; exact ⟨_, by omega, z⟩)
            | (rw [zw_bind]; with_reducible refine zw_mono (zxw_next2 (by assumption)) ?_; intro _ _)
            | (rw [zw_bind]; with_reducible refine zw_mono (zx_open (by assumption)) ?_; intro _ _)
            | (rw [zw_bind]; with_reducible refine zw_mono (zxw_expression (by assumption)) ?_; intro _ _)
            | (rw [zw_bind]; with_reducible refine zw_mono (zxw_operand (by assumption)) ?_; intro _ _)
            | (rw [zw_bind]; with_reducible refine zw_mono (zxb_keep (by assumption) (by omega)) ?_; intro _ _)
            | (rw [zw_B]; with_reducible refine zw_mono (zxb_node (by assumption) (by omega) rfl) ?_; rintro _ ⟨e1, _⟩; try rw [e1])
            | (rw [zw_bind]; with_reducible refine zw_mono (zxw_wantSign (by assumption)) ?_; intro _ _)
            | (rw [zw_bind]; with_reducible refine zw_mono (zxw_wantWord (by assumption)) ?_; intro _ _)
            | (rw [zw_bind]; with_reducible refine zw_mono (zxw_want (by assumption)) ?_; intro _ _)
            | (rw [zw_bind]; with_reducible refine zw_mono (zx_next (by assumption)) ?_; intro _ _)
            | (rw [zw_bind]; with_reducible refine zw_mono (zxb_constant (by assumption) (by omega) (by omega)) ?_; intro _ _)
            | (rw [zw_bind]; with_reducible refine zw_mono (zxw_simple (by assumption) (by omega) (by omega)) ?_; rintro _ ⟨_, _, _, _⟩)
            | (rw [zw_B]; with_reducible refine zw_mono (zxb_add (by assumption) (by omega) rfl (by omega)) ?_; rintro _ ⟨e1, _⟩; try rw [e1])
            | rw [zx_isSign (by assumption), if_pos rfl]
            | rw [zx_isWord (by assumption), if_pos rfl]
            | rw [if_neg (zx_ne (by assumption))]
            | rw [if_neg (zx_pos (by assumption))]
            | rw [if_pos (show (0 : Int32) ≤ 0 by decide)]
    · refine zk_Gf (φ := φ) (w := w) ?_ ?_
      · repeat' first
          | with_reducible exact zw_some.mpr ⟨by assumption, by assumption⟩
          | with_reducible exact zw_some.mpr ⟨by assumption, zz_open (by assumption)⟩
          | (rw [zw_B]; with_reducible refine zw_mono (zz_expression (by assumption)) ?_; rintro _ ⟨_, _⟩)
          | (rw [zw_B]; with_reducible refine zw_mono (zz_operand (by assumption)) ?_; rintro _ ⟨_, _⟩)
          | (rw [zw_bind]; with_reducible refine zw_mono (zz_take (by assumption)) ?_; intro _ _)
          | (rw [zw_B]; with_reducible refine zw_mono (zz_constant (by assumption)) ?_; rintro _ ⟨_, _⟩)
          | (rw [zw_B]; with_reducible refine zw_mono (zz_simpleType (by assumption)) ?_; rintro _ ⟨_, _⟩)
          | (rw [zw_B]; with_reducible refine zw_mono (zz_type (by assumption)) ?_; rintro _ ⟨_, _⟩)
          | (rw [zw_B]; with_reducible refine zw_mono (zz_whole (by assumption)) ?_; rintro _ ⟨_, _⟩)
          | (rw [zw_B]; with_reducible refine zw_mono (zz_add (by assumption)) ?_; rintro _ ⟨_, _⟩)
          | (rw [zw_B]; with_reducible refine zw_mono (zz_hang (by assumption) (by assumption) (by first | assumption | exact zq_vl_n | exact zq_vl_v (by assumption)) (by assumption)) ?_; rintro _ ⟨_, _⟩)
          | rw [if_pos (zq_at (by assumption))]
          | rw [zz_isCell (by assumption), if_pos rfl]
          | rw [if_neg (zq_ne (by assumption) (by decide) (by decide))]
      · repeat' first
          | (with_reducible refine zw_some.mpr ⟨_, ⟨?_, ?_⟩, by assumption⟩ <;> omega)
          | (with_reducible refine zw_some.mpr ⟨_, ⟨?_, ?_⟩, zx_Om (by assumption) ?_⟩ <;> omega)
          | (with_reducible refine zw_some.mpr ⟨_, ⟨?_, ?_⟩, zx_Om (zx_uF (by assumption) (Or.inl rfl)) ?_⟩ <;> omega)
          | (with_reducible refine zw_mono (zxb_142 (by assumption) (by omega)) ?_; intro _ z; exact ⟨_, by omega, z⟩)
          | (with_reducible refine zw_mono (zxb_142c (by assumption) (by omega)) ?_; intro _ z; exact ⟨_, by omega, z⟩)
          | (rw [zw_bind]; with_reducible refine zw_mono (zxw_next2 (by assumption)) ?_; intro _ _)
          | (rw [zw_bind]; with_reducible refine zw_mono (zx_open (by assumption)) ?_; intro _ _)
          | (rw [zw_bind]; with_reducible refine zw_mono (zxw_expression (by assumption)) ?_; intro _ _)
          | (rw [zw_bind]; with_reducible refine zw_mono (zxw_operand (by assumption)) ?_; intro _ _)
          | (rw [zw_bind]; with_reducible refine zw_mono (zxb_keep (by assumption) (by omega)) ?_; intro _ _)
          | (rw [zw_B]; with_reducible refine zw_mono (zxb_node (by assumption) (by omega) rfl) ?_; rintro _ ⟨e1, _⟩; try rw [e1])
          | (rw [zw_bind]; with_reducible refine zw_mono (zxw_wantSign (by assumption)) ?_; intro _ _)
          | (rw [zw_bind]; with_reducible refine zw_mono (zxw_wantWord (by assumption)) ?_; intro _ _)
          | (rw [zw_bind]; with_reducible refine zw_mono (zxw_want (by assumption)) ?_; intro _ _)
          | (rw [zw_bind]; with_reducible refine zw_mono (zx_next (by assumption)) ?_; intro _ _)
          | (rw [zw_bind]; with_reducible refine zw_mono (zxb_constant (by assumption) (by omega) (by omega)) ?_; intro _ _)
          | (rw [zw_bind]; with_reducible refine zw_mono (zxw_simple (by assumption) (by omega) (by omega)) ?_; rintro _ ⟨_, _, _, _⟩)
          | (rw [zw_B]; with_reducible refine zw_mono (zxb_add (by assumption) (by omega) rfl (by omega)) ?_; rintro _ ⟨e1, _⟩; try rw [e1])
          | rw [zx_isSign (by assumption), if_pos rfl]
          | rw [zx_isWord (by assumption), if_pos rfl]
          | rw [if_neg (zx_ne (by assumption))]
          | rw [if_neg (zx_pos (by assumption))]
          | rw [if_pos (show (0 : Int32) ≤ 0 by decide)]
  · refine zk_Gf (φ := φ) (w := w) ?_ ?_
    · repeat' first
        | with_reducible exact zw_some.mpr ⟨by assumption, by assumption⟩
        | with_reducible exact zw_some.mpr ⟨by assumption, zz_open (by assumption)⟩
        | (rw [zw_B]; with_reducible refine zw_mono (zz_expression (by assumption)) ?_; rintro _ ⟨_, _⟩)
        | (rw [zw_B]; with_reducible refine zw_mono (zz_operand (by assumption)) ?_; rintro _ ⟨_, _⟩)
        | (rw [zw_bind]; with_reducible refine zw_mono (zz_take (by assumption)) ?_; intro _ _)
        | (rw [zw_B]; with_reducible refine zw_mono (zz_constant (by assumption)) ?_; rintro _ ⟨_, _⟩)
        | (rw [zw_B]; with_reducible refine zw_mono (zz_simpleType (by assumption)) ?_; rintro _ ⟨_, _⟩)
        | (rw [zw_B]; with_reducible refine zw_mono (zz_type (by assumption)) ?_; rintro _ ⟨_, _⟩)
        | (rw [zw_B]; with_reducible refine zw_mono (zz_whole (by assumption)) ?_; rintro _ ⟨_, _⟩)
        | (rw [zw_B]; with_reducible refine zw_mono (zz_add (by assumption)) ?_; rintro _ ⟨_, _⟩)
        | (rw [zw_B]; with_reducible refine zw_mono (zz_hang (by assumption) (by assumption) (by first | assumption | exact zq_vl_n | exact zq_vl_v (by assumption)) (by assumption)) ?_; rintro _ ⟨_, _⟩)
        | rw [if_pos (zq_at (by assumption))]
        | rw [zz_isCell (by assumption), if_pos rfl]
        | rw [if_neg (zq_ne (by assumption) (by decide) (by decide))]
    · repeat' first
        | (with_reducible refine zw_some.mpr ⟨_, ⟨?_, ?_⟩, by assumption⟩ <;> omega)
        | (with_reducible refine zw_some.mpr ⟨_, ⟨?_, ?_⟩, zx_Om (by assumption) ?_⟩ <;> omega)
        | (with_reducible refine zw_some.mpr ⟨_, ⟨?_, ?_⟩, zx_Om (zx_uF (by assumption) (Or.inl rfl)) ?_⟩ <;> omega)
        | (with_reducible refine zw_mono (zxb_142 (by assumption) (by omega)) ?_; intro _ z; exact ⟨_, by omega, z⟩)
        | (with_reducible refine zw_mono (zxb_142c (by assumption) (by omega)) ?_; intro _ z; exact ⟨_, by omega, z⟩)
        | (rw [zw_bind]; with_reducible refine zw_mono (zxw_next2 (by assumption)) ?_; intro _ _)
        | (rw [zw_bind]; with_reducible refine zw_mono (zx_open (by assumption)) ?_; intro _ _)
        | (rw [zw_bind]; with_reducible refine zw_mono (zxw_expression (by assumption)) ?_; intro _ _)
        | (rw [zw_bind]; with_reducible refine zw_mono (zxw_operand (by assumption)) ?_; intro _ _)
        | (rw [zw_bind]; with_reducible refine zw_mono (zxb_keep (by assumption) (by omega)) ?_; intro _ _)
        | (rw [zw_B]; with_reducible refine zw_mono (zxb_node (by assumption) (by omega) rfl) ?_; rintro _ ⟨e1, _⟩; try rw [e1])
        | (rw [zw_bind]; with_reducible refine zw_mono (zxw_wantSign (by assumption)) ?_; intro _ _)
        | (rw [zw_bind]; with_reducible refine zw_mono (zxw_wantWord (by assumption)) ?_; intro _ _)
        | (rw [zw_bind]; with_reducible refine zw_mono (zxw_want (by assumption)) ?_; intro _ _)
        | (rw [zw_bind]; with_reducible refine zw_mono (zx_next (by assumption)) ?_; intro _ _)
        | (rw [zw_bind]; with_reducible refine zw_mono (zxb_constant (by assumption) (by omega) (by omega)) ?_; intro _ _)
        | (rw [zw_bind]; with_reducible refine zw_mono (zxw_simple (by assumption) (by omega) (by omega)) ?_; rintro _ ⟨_, _, _, _⟩)
        | (rw [zw_B]; with_reducible refine zw_mono (zxb_add (by assumption) (by omega) rfl (by omega)) ?_; rintro _ ⟨e1, _⟩; try rw [e1])
        | rw [zx_isSign (by assumption), if_pos rfl]
        | rw [zx_isWord (by assumption), if_pos rfl]
        | rw [if_neg (zx_ne (by assumption))]
        | rw [if_neg (zx_pos (by assumption))]
        | rw [if_pos (show (0 : Int32) ≤ 0 by decide)]
/-- a call ends -/
theorem zk_ncE (I : zk_J h0 g0 T n K LC LM j d s m o q 34 p v h g u y LM' j' d' s' m' e 0 D h' g') (ho : o < 200) (hj : j < j') (he : 2 ≤ e) (hd : d + 1 ≤ d') (hD : D ≤ (60 - d) + (d' - d)) (hm : m ≤ 2 * j + 12) : zk_G h0 g0 T n K LC m 20900 (o + 1) (zk_X h0 g0 T n K LC LM j d s m o q 0 0 h g) (f_Ps_namedOperand_274 h' (nI s)) ((f_Mo_wantSign g' 41).bind fun h3 => f_Mo_nameOperand_142 (zs_uF h3 68 12 ((h3.1 68 12) - 1)) (nI m)) := by
  have b := zk_Jb I
  have v0 : zq_v (nI s) := ⟨s, by omega, rfl⟩
  unfold f_Ps_namedOperand_274
  obtain ⟨h6, g6, e10, e11, R⟩ := zk_wantS I.1 (c := 41) (k := 41) (by decide) (by decide)
  rw [show f_Ps_take h' 41 = some h6 from e10, show f_Mo_wantSign g' 41 = some g6 from e11, Option.bind_some, Option.bind_some]
  rcases R with ⟨φ, w, z1, z2⟩ | ⟨_, ⟨f5, f6, LM6, hp6, L6⟩ | ⟨φ, w, z1, z2⟩⟩
  · refine zk_Gf (φ := φ) (w := w) ?_ ?_
    · repeat' first
        | with_reducible exact zw_some.mpr ⟨by assumption, by assumption⟩
        | with_reducible exact zw_some.mpr ⟨by assumption, zz_open (by assumption)⟩
        | (rw [zw_B]; with_reducible refine zw_mono (zz_expression (by assumption)) ?_; rintro _ ⟨_, _⟩)
        | (rw [zw_B]; with_reducible refine zw_mono (zz_operand (by assumption)) ?_; rintro _ ⟨_, _⟩)
        | (rw [zw_bind]; with_reducible refine zw_mono (zz_take (by assumption)) ?_; intro _ _)
        | (rw [zw_B]; with_reducible refine zw_mono (zz_constant (by assumption)) ?_; rintro _ ⟨_, _⟩)
        | (rw [zw_B]; with_reducible refine zw_mono (zz_simpleType (by assumption)) ?_; rintro _ ⟨_, _⟩)
        | (rw [zw_B]; with_reducible refine zw_mono (zz_type (by assumption)) ?_; rintro _ ⟨_, _⟩)
        | (rw [zw_B]; with_reducible refine zw_mono (zz_whole (by assumption)) ?_; rintro _ ⟨_, _⟩)
        | (rw [zw_B]; with_reducible refine zw_mono (zz_add (by assumption)) ?_; rintro _ ⟨_, _⟩)
        | (rw [zw_B]; with_reducible refine zw_mono (zz_hang (by assumption) (by assumption) (by first | assumption | exact zq_vl_n | exact zq_vl_v (by assumption)) (by assumption)) ?_; rintro _ ⟨_, _⟩)
        | rw [if_pos (zq_at (by assumption))]
        | rw [zz_isCell (by assumption), if_pos rfl]
        | rw [if_neg (zq_ne (by assumption) (by decide) (by decide))]
    · repeat' first
        | (with_reducible refine zw_some.mpr ⟨_, ⟨?_, ?_⟩, by assumption⟩ <;> omega)
        | (with_reducible refine zw_some.mpr ⟨_, ⟨?_, ?_⟩, zx_Om (by assumption) ?_⟩ <;> omega)
        | (with_reducible refine zw_some.mpr ⟨_, ⟨?_, ?_⟩, zx_Om (zx_uF (by assumption) (Or.inl rfl)) ?_⟩ <;> omega)
        | (with_reducible refine zw_mono (zxb_142 (by assumption) (by omega)) ?_; intro _ z; exact ⟨_, by omega, z⟩)
        | (with_reducible refine zw_mono (zxb_142c (by assumption) (by omega)) ?_; intro _ z; exact ⟨_, by omega, z⟩)
        | (rw [zw_bind]; with_reducible refine zw_mono (zxw_next2 (by assumption)) ?_; intro _ _)
        | (rw [zw_bind]; with_reducible refine zw_mono (zx_open (by assumption)) ?_; intro _ _)
        | (rw [zw_bind]; with_reducible refine zw_mono (zxw_expression (by assumption)) ?_; intro _ _)
        | (rw [zw_bind]; with_reducible refine zw_mono (zxw_operand (by assumption)) ?_; intro _ _)
        | (rw [zw_bind]; with_reducible refine zw_mono (zxb_keep (by assumption) (by omega)) ?_; intro _ _)
        | (rw [zw_B]; with_reducible refine zw_mono (zxb_node (by assumption) (by omega) rfl) ?_; rintro _ ⟨e1, _⟩; try rw [e1])
        | (rw [zw_bind]; with_reducible refine zw_mono (zxw_wantSign (by assumption)) ?_; intro _ _)
        | (rw [zw_bind]; with_reducible refine zw_mono (zxw_wantWord (by assumption)) ?_; intro _ _)
        | (rw [zw_bind]; with_reducible refine zw_mono (zxw_want (by assumption)) ?_; intro _ _)
        | (rw [zw_bind]; with_reducible refine zw_mono (zx_next (by assumption)) ?_; intro _ _)
        | (rw [zw_bind]; with_reducible refine zw_mono (zxb_constant (by assumption) (by omega) (by omega)) ?_; intro _ _)
        | (rw [zw_bind]; with_reducible refine zw_mono (zxw_simple (by assumption) (by omega) (by omega)) ?_; rintro _ ⟨_, _, _, _⟩)
        | (rw [zw_B]; with_reducible refine zw_mono (zxb_add (by assumption) (by omega) rfl (by omega)) ?_; rintro _ ⟨e1, _⟩; try rw [e1])
        | rw [zx_isSign (by assumption), if_pos rfl]
        | rw [zx_isWord (by assumption), if_pos rfl]
        | rw [if_neg (zx_ne (by assumption))]
        | rw [if_neg (zx_pos (by assumption))]
        | rw [if_pos (show (0 : Int32) ≤ 0 by decide)]
  · have J6 := zk_Jt I (zk_Yk ⟨f5, f6⟩ hp6) (by omega) (by omega) L6
    exact zk_142c J6 ho rfl rfl (by decide) (by decide) (by omega) (by omega) (by omega) (by omega)
  · refine zk_Gf (φ := φ) (w := w) ?_ ?_
    · repeat' first
        | with_reducible exact zw_some.mpr ⟨by assumption, by assumption⟩
        | with_reducible exact zw_some.mpr ⟨by assumption, zz_open (by assumption)⟩
        | (rw [zw_B]; with_reducible refine zw_mono (zz_expression (by assumption)) ?_; rintro _ ⟨_, _⟩)
        | (rw [zw_B]; with_reducible refine zw_mono (zz_operand (by assumption)) ?_; rintro _ ⟨_, _⟩)
        | (rw [zw_bind]; with_reducible refine zw_mono (zz_take (by assumption)) ?_; intro _ _)
        | (rw [zw_B]; with_reducible refine zw_mono (zz_constant (by assumption)) ?_; rintro _ ⟨_, _⟩)
        | (rw [zw_B]; with_reducible refine zw_mono (zz_simpleType (by assumption)) ?_; rintro _ ⟨_, _⟩)
        | (rw [zw_B]; with_reducible refine zw_mono (zz_type (by assumption)) ?_; rintro _ ⟨_, _⟩)
        | (rw [zw_B]; with_reducible refine zw_mono (zz_whole (by assumption)) ?_; rintro _ ⟨_, _⟩)
        | (rw [zw_B]; with_reducible refine zw_mono (zz_add (by assumption)) ?_; rintro _ ⟨_, _⟩)
        | (rw [zw_B]; with_reducible refine zw_mono (zz_hang (by assumption) (by assumption) (by first | assumption | exact zq_vl_n | exact zq_vl_v (by assumption)) (by assumption)) ?_; rintro _ ⟨_, _⟩)
        | rw [if_pos (zq_at (by assumption))]
        | rw [zz_isCell (by assumption), if_pos rfl]
        | rw [if_neg (zq_ne (by assumption) (by decide) (by decide))]
    · repeat' first
        | (with_reducible refine zw_some.mpr ⟨_, ⟨?_, ?_⟩, by assumption⟩ <;> omega)
        | (with_reducible refine zw_some.mpr ⟨_, ⟨?_, ?_⟩, zx_Om (by assumption) ?_⟩ <;> omega)
        | (with_reducible refine zw_some.mpr ⟨_, ⟨?_, ?_⟩, zx_Om (zx_uF (by assumption) (Or.inl rfl)) ?_⟩ <;> omega)
        | (with_reducible refine zw_mono (zxb_142 (by assumption) (by omega)) ?_; intro _ z; exact ⟨_, by omega, z⟩)
        | (with_reducible refine zw_mono (zxb_142c (by assumption) (by omega)) ?_; intro _ z; exact ⟨_, by omega, z⟩)
        | (rw [zw_bind]; with_reducible refine zw_mono (zxw_next2 (by assumption)) ?_; intro _ _)
        | (rw [zw_bind]; with_reducible refine zw_mono (zx_open (by assumption)) ?_; intro _ _)
        | (rw [zw_bind]; with_reducible refine zw_mono (zxw_expression (by assumption)) ?_; intro _ _)
        | (rw [zw_bind]; with_reducible refine zw_mono (zxw_operand (by assumption)) ?_; intro _ _)
        | (rw [zw_bind]; with_reducible refine zw_mono (zxb_keep (by assumption) (by omega)) ?_; intro _ _)
        | (rw [zw_B]; with_reducible refine zw_mono (zxb_node (by assumption) (by omega) rfl) ?_; rintro _ ⟨e1, _⟩; try rw [e1])
        | (rw [zw_bind]; with_reducible refine zw_mono (zxw_wantSign (by assumption)) ?_; intro _ _)
        | (rw [zw_bind]; with_reducible refine zw_mono (zxw_wantWord (by assumption)) ?_; intro _ _)
        | (rw [zw_bind]; with_reducible refine zw_mono (zxw_want (by assumption)) ?_; intro _ _)
        | (rw [zw_bind]; with_reducible refine zw_mono (zx_next (by assumption)) ?_; intro _ _)
        | (rw [zw_bind]; with_reducible refine zw_mono (zxb_constant (by assumption) (by omega) (by omega)) ?_; intro _ _)
        | (rw [zw_bind]; with_reducible refine zw_mono (zxw_simple (by assumption) (by omega) (by omega)) ?_; rintro _ ⟨_, _, _, _⟩)
        | (rw [zw_B]; with_reducible refine zw_mono (zxb_add (by assumption) (by omega) rfl (by omega)) ?_; rintro _ ⟨e1, _⟩; try rw [e1])
        | rw [zx_isSign (by assumption), if_pos rfl]
        | rw [zx_isWord (by assumption), if_pos rfl]
        | rw [if_neg (zx_ne (by assumption))]
        | rw [if_neg (zx_pos (by assumption))]
        | rw [if_pos (show (0 : Int32) ≤ 0 by decide)]
/-- a call's operands -/
theorem zk_ncL {D1 D2 : Nat} (EP : zk_EP h0 g0 T n K LC (d + 1)) (ho : o ≤ d) (hq : q ≤ d + 1) (hq1 : 1 ≤ q) (hD1 : 3 * (60 - d) + 2 ≤ D1 + 2) (hD2 : 4 * (60 - d) + 1 ≤ D2 + 1) (hs : s ≤ 2 * j + 12) (hm : m ≤ 2 * j + 12) (hd6 : d < 60) : ∀ (r N N' : Nat) {c : Nat} {y : Int32} {u : zt_T} {LM' : List (List Int32)} {j' d' s' m' e : Nat} {h' g' : zs_H}, zk_J h0 g0 T n K LC LM j d s m o q 34 p v h g u y LM' j' d' s' m' e 0 ((60 - (d + 1)) + (d' - (d + 1)) + 2) h' g' → K < j' + r → r + 2 ≤ N → r + 2 ≤ N' → c ≤ j' → zq_vl y → d + 1 ≤ d' → j < j' → 2 ≤ e → zk_G h0 g0 T n K LC m 20900 (o + 1) (zk_X h0 g0 T n K LC LM j d s m o q 0 0 h g) (f_Ps_namedOperand_L216 (f_Ps_expression (D1 + 2)) N h' (nI s) y 1 (nI c)) ((f_Mo_call_L32 (f_Mo_expression (D2 + 1)) N' g' (nI m) 1).bind fun h11 => f_Mo_nameOperand_142 h11 (nI m)) := by
  intro r
  induction r with
  | zero => intro N N' c y u LM' j' d' s' m' e h' g' I hr; have := zk_Jb I; omega
  | succ r ih =>
    intro N N' c y u LM' j' d' s' m' e h' g' I hr hN hN' hc vy hd hj he
    have b := zk_Jb I
    have v0 : zq_v (nI s) := ⟨s, by omega, rfl⟩
    obtain ⟨N, rfl⟩ : ∃ z, N = z + 3 := ⟨N - 3, by omega⟩
    obtain ⟨N', rfl⟩ : ∃ z, N' = z + 3 := ⟨N' - 3, by omega⟩
    show zk_G _ _ _ _ _ _ _ _ _ _ (f_Ps_namedOperand_216 (f_Ps_expression (D1 + 2)) (f_Ps_namedOperand_L216 (f_Ps_expression (D1 + 2)) (N + 2)) h' (nI s) y 1 (nI c)) ((f_Mo_call_32 (f_Mo_expression (D2 + 1)) (f_Mo_call_L32 (f_Mo_expression (D2 + 1)) (N' + 2)) g' (nI m) 1).bind fun h11 => f_Mo_nameOperand_142 h11 (nI m))
    unfold f_Ps_namedOperand_216 f_Mo_call_32
    rw [if_neg (mt (zc_le (k := 16384) (t := c) (by decide) (by omega)).mp (by omega)), if_neg (show ¬ (1 : Int32) = 0 by decide), if_neg (show ¬ (1 : Int32) = 0 by decide)]
    obtain ⟨x, h4, g4, e7, e8, R⟩ := EP (D := D1 + 2) (D' := D2 + 1) (b := m) I.1 hd (by omega) (by omega) hq1 (by omega) (by omega) (by omega) (by omega) (by omega)
    rw [e7, e8, zo_B, Option.bind_some]
    rcases R with R | ⟨vx, φ, w, m2, w1, w2, z1, z2⟩
    · obtain ⟨h5, u5, LM5, j5, d5, s5, m5, e9, lt5, ld5, vx, J5⟩ := zk_Jc (dd := d + 1) (st' := 0) I R (by decide) hd (Nat.le_refl _)
      rw [e9, zo_B]
      have b5 := zk_Jb J5
      rw [show f_Mo_isSign g4 44 = if (h5.1 19 5) = nI 44 then 1 else 0 from zk_sign J5.1 (c := 44) (k := 44) (by decide)]
      unfold f_Ps_namedOperand_257 f_Ps_namedOperand_268
      by_cases c44 : (h5.1 19 5) = 44
      · rw [if_pos c44, if_pos (show (h5.1 19 5) = nI 44 from c44), if_neg (show ¬ (1 : Int32) = 0 by decide), if_neg (show ¬ (1 : Int32) = 0 by decide)]
        obtain ⟨h6, g6, e10, e11, f5, f6, R⟩ := zk_step J5.1 (zk_notE J5.1 (by rw [c44]; decide))
        rw [c44] at e10
        rw [e10, e11, Option.bind_some, Option.bind_some, nI_1]
        rcases R with ⟨LM6, hp6, L6⟩ | ⟨φ, w, z1, z2⟩
        · have J6 := zk_Jt J5 (zk_Yk ⟨f5, f6⟩ hp6) (by omega) (by omega) L6
          exact ih (N + 2) (N' + 2) (c := c + 1) J6 (by omega) (by omega) (by omega) (by omega) (zq_vl_v vx) (by omega) (by omega) (by omega)
        · refine zk_Gf (φ := φ) (w := w) (zz_L216 z1 v0 (zq_vl_v vx)) ?_
          rw [zw_bind]
          exact zw_mono (zxb_callL z2) fun g' z => zw_mono (zxb_142 z (by omega)) fun g' z => ⟨_, by omega, z⟩
      · rw [if_neg c44, if_neg (show ¬ (h5.1 19 5) = nI 44 from c44), if_pos (show (0 : Int32) = 0 from rfl), if_pos (show (0 : Int32) = 0 from rfl), zy_L216, zy_L32, Option.bind_assoc]
        exact zk_ncE J5 (by omega) (by omega) he (by omega) (by omega) hm
    · refine zk_Gf (φ := φ) (w := w) ?_ ?_
      · rw [zw_B]
        refine zw_mono (zz_hang z1 v0 vy vx) ?_
        rintro ⟨v7, h8⟩ ⟨y3, y4⟩
        rw [if_neg (zq_ne y4 (by decide) (by decide))]
        unfold f_Ps_namedOperand_257 f_Ps_namedOperand_268
        rw [if_pos rfl]
        exact zz_L216 y4 v0 (zq_vl_v y3)
      · rw [zx_isSign z2, if_pos rfl, zw_bind]
        exact zw_mono (zxb_callL z2) fun g' z => zw_mono (zxb_142 z (by omega)) fun g' z => ⟨_, by omega, z⟩
/-- a call -/
theorem zk_ncall {D1 D2 : Nat} (EP : d < 60 → zk_EP h0 g0 T n K LC (d + 1)) (I : zk_J h0 g0 T n K LC LM j d s m o q 34 p v h g .leaf (-1) LM' j' d s' m' e 0 1 h' g') (ho : o ≤ d) (hq : q ≤ d + 1) (hq1 : 1 ≤ q) (hD1 : 3 * (60 - d) + 2 ≤ D1) (hD2 : 4 * (60 - d) + 1 ≤ D2) (hj : j < j') (he : 2 ≤ e) (hs : s ≤ 2 * j + 12) (hm : m ≤ 2 * j + 12) : zk_G h0 g0 T n K LC m 20900 (o + 1) (zk_X h0 g0 T n K LC LM j d s m o q 0 0 h g) ((f_Ps_deepen h').bind fun h12 => ((f_Ps_take h12 40).bind fun h14 => (if (h14.1 19 5) = 41 then f_Ps_namedOperand_212 (f_Ps_expression D1) h14 (nI s) (-1) 0 else f_Ps_namedOperand_212 (f_Ps_expression D1) h14 (nI s) (-1) 1))) ((g_Mo_call (f_Mo_expression D2) g' (nI m)).bind fun h11 => f_Mo_nameOperand_142 h11 (nI m)) := by
  have b := zk_Jb I
  have v0 : zq_v (nI s) := ⟨s, by omega, rfl⟩
  obtain ⟨D1, rfl⟩ : ∃ z, D1 = z + 2 := ⟨D1 - 2, by omega⟩
  obtain ⟨D2, rfl⟩ : ∃ z, D2 = z + 1 := ⟨D2 - 1, by omega⟩
  unfold g_Mo_call f_Ps_namedOperand_212 f_Mo_call_30 f_Mo_call_31
  simp only [Option.bind_assoc]
  rw [show zF = 18446744073709551614 + 2 from rfl]
  obtain ⟨h2, g2, e3, e4, R⟩ := zk_deep I.1
  rw [e3, e4, Option.bind_some, Option.bind_some]
  have badm : ∀ φ w g3, zx_B g0 T n φ w m' o g3 → zw ((if (g3.1 68 10) = 0 then (if (f_Mo_isSign g3 41) = 0 then f_Mo_call_L32 (f_Mo_expression (D2 + 1)) (18446744073709551614 + 2) g3 (nI m) 1 else f_Mo_call_L32 (f_Mo_expression (D2 + 1)) (18446744073709551614 + 2) g3 (nI m) 0) else f_Mo_call_L32 (f_Mo_expression (D2 + 1)) (18446744073709551614 + 2) g3 (nI m) 0).bind fun h11 => f_Mo_nameOperand_142 h11 (nI m)) (fun g' => ∃ m', (m ≤ m' ∧ m' ≤ 20900) ∧ zx_B g0 T n φ w m' (o + 1) g') := by
    intro φ w g3 z2
    rw [if_neg (zx_ne z2), zw_bind]
    exact zw_mono (zxb_callL z2) fun g' z => zw_mono (zxb_142 z (by omega)) fun g' z => ⟨_, by omega, z⟩
  have badc : ∀ φ w h3, zq_Z h0 T n K LC φ w h3 → zw (if (h3.1 19 5) = 41 then f_Ps_namedOperand_L216 (f_Ps_expression (D1 + 2)) (18446744073709551614 + 2) h3 (nI s) (-1) 0 0 else f_Ps_namedOperand_L216 (f_Ps_expression (D1 + 2)) (18446744073709551614 + 2) h3 (nI s) (-1) 1 0) (fun p => zq_v p.1 ∧ zq_Z h0 T n K LC φ w p.2) := by
    intro φ w h3 z1
    rw [if_neg (zq_ne z1 (by decide) (by decide))]
    exact zz_L216 z1 v0 zq_vl_n
  rcases R with ⟨hd, L2, f1, f2⟩ | ⟨φ, w, z1, z2⟩
  · have J2 := zk_Jt I (zk_Yo f1 f2) (by omega) (Nat.le_refl j') L2
    obtain ⟨h3, g3, e5, e6, R⟩ := zk_wantS J2.1 (c := 40) (k := 40) (by decide) (by decide)
    rw [show f_Ps_take h2 40 = some h3 from e5, show f_Mo_wantSign g2 40 = some g3 from e6, Option.bind_some, Option.bind_some]
    rcases R with ⟨φ, w, z1, z2⟩ | ⟨_, ⟨f3, f4, LM3, hp, L3⟩ | ⟨φ, w, z1, z2⟩⟩
    · exact zk_Gf (φ := φ) (w := w) (badc φ w h3 z1) (badm φ w g3 z2)
    · have J3 := zk_Jt J2 (zk_Yk ⟨f3, f4⟩ hp) (by omega) (by omega) L3
      have b3 := zk_Jb J3
      have m2 := L3.2.2.2.2.2.2.1
      rw [if_pos m2, show f_Mo_isSign g3 41 = if (h3.1 19 5) = nI 41 then 1 else 0 from zk_sign L3 (c := 41) (k := 41) (by decide)]
      by_cases c41 : (h3.1 19 5) = 41
      · rw [if_pos c41, if_pos (show (h3.1 19 5) = nI 41 from c41), if_neg (show ¬ (1 : Int32) = 0 by decide), zy_L216, zy_L32, Option.bind_assoc]
        exact zk_ncE J3 (by omega) (by omega) (by omega) (by omega) (by omega) hm
      · rw [if_neg c41, if_neg (show ¬ (h3.1 19 5) = nI 41 from c41), if_pos (show (0 : Int32) = 0 from rfl)]
        have J3' : zk_J h0 g0 T n K LC LM j d s m o q 34 p v h g .leaf (-1) LM3 (j' + 1) (d + 1) s' m' (e + 2 * (j' - j') + 2 * (j' + 1 - j')) 0 ((60 - (d + 1)) + (d + 1 - (d + 1)) + 2) h3 g3 := ⟨J3.1, J3.2.1, J3.2.2.1, J3.2.2.2.1, J3.2.2.2.2.1, J3.2.2.2.2.2.1, zg_U0, J3.2.2.2.2.2.2.2⟩
        exact zk_ncL (EP hd) ho hq hq1 hD1 hD2 hs hm hd (K + 1) _ _ (c := 0) J3' (by omega) (by omega) (by omega) (by omega) zq_vl_n (by omega) (by omega) (by omega)
    · exact zk_Gf (φ := φ) (w := w) (badc φ w h3 z1) (badm φ w g3 z2)
  · refine zk_Gf (φ := φ) (w := w) ?_ ?_
    · rw [zw_bind]
      exact zw_mono (zz_take z1) fun h3 z1 => badc φ w h3 z1
    · rw [zw_bind]
      exact zw_mono (zxw_wantSign z2) fun g3 z2 => badm φ w g3 z2
/-- an operand with a name -/
theorem zk_named {D1 D2 : Nat} (EP : d < 60 → zk_EP h0 g0 T n K LC (d + 1)) (H : zk_L h0 g0 T n K LC h g LM j d s m o q) (ho : o ≤ d) (hq : q ≤ d + 1) (hq1 : 1 ≤ q) (hD1 : 3 * (60 - d) + 2 ≤ D1) (hD2 : 4 * (60 - d) + 1 ≤ D2) (hs : s ≤ 2 * j + 12) (hm : m ≤ 2 * j + 12) (ht : (h.1 19 5) = 8) : zk_G h0 g0 T n K LC m 20900 (o + 1) (zk_X h0 g0 T n K LC LM j d s m o q 0 0 h g) (g_Ps_namedOperand (f_Ps_expression D1) h) (g_Mo_nameOperand (g_Mo_call (f_Mo_expression D2)) (g_Mo_element (f_Mo_expression D2)) g) := by
  have bK := zk_bK H
  have x3 := (zk_dd H).2.2.1
  have m4 := H.2.2.2.2.2.2.2.2.1
  have hk := (zk_kind H).1
  have hk1 : (zl_at T n j).1 = 1 := (zc_eq (k := 1) (by decide) (by have := (zk_F H).1; omega)).mp (by rw [← H.2.2.2.2.2.2.2.2.2.2.1]; exact hk.mpr ht)
  obtain ⟨_, nr⟩ := zk_nm H hk1
  have v0 : zq_v (nI s) := ⟨s, by omega, rfl⟩
  unfold g_Ps_namedOperand g_Mo_nameOperand
  rw [if_pos (zk_atI H)]
  obtain ⟨vc, hvc⟩ : ∃ vc, vc = h.2.1 11 ((h.1 19 4)).toNatClampNeg := ⟨_, rfl⟩
  rw [← hvc] at nr ⊢
  obtain ⟨h1, e1, L1, qA⟩ := zk_cadd H (kd := 6) (kv := 6) (v := vc) (by omega) (by decide) rfl
  rw [e1, zo_B]
  have etk : (h1.1 19 5) = (h.1 19 5) := by rw [L1.2.2.2.1.2.2.1, H.2.2.2.1.2.2.1]
  obtain ⟨h2, g2, e2, e3, R⟩ := zk_want L1 (x := 8) (y := 1) ⟨fun _ => by rw [etk]; exact ht, fun _ => by decide⟩ (by decide)
  have en : f_Mo_name g = some ((g.1 68 9), g2) := by
    unfold f_Mo_name f_Mo_name_19
    rw [if_pos (hk.mpr ht), e3]; rfl
  rw [e2, Option.bind_some, en, zo_B]
  obtain ⟨vm, hvm⟩ : ∃ vm, vm = (g.1 68 9) := ⟨_, rfl⟩
  rw [← hvm] at nr ⊢
  have bad : ∀ φ w, zq_Z h0 T n K LC φ w h2 → zx_B g0 T n φ w m o g2 → zk_G h0 g0 T n K LC m 20900 (o + 1) (zk_X h0 g0 T n K LC LM j d s m o q 0 0 h g) (some (nI s, h2)) (f_Mo_nameOperand_55 (g_Mo_call (f_Mo_expression D2)) (g_Mo_element (f_Mo_expression D2)) g2 ((g.1 68 7)) vm 6) := by
    intro φ w z1 z2
    refine zk_Gf (φ := φ) (w := w) (zw_some.mpr ⟨v0, z1⟩) ?_
    unfold f_Mo_nameOperand_55
    rw [zw_B]
    refine zw_mono (zxb_node (kn := 6) z2 (by omega) rfl) fun q z => ?_
    rw [zx_isSign z.2, zx_isSign z.2, zx_isSign z.2, if_pos rfl, if_pos rfl, if_pos rfl]
    exact zw_mono (zxb_142 z.2 (by omega)) fun g' z => ⟨_, by omega, z⟩
  rcases R with ⟨φ, w, z1, z2⟩ | ⟨_, ⟨f1, f2, LM2, hp, L2⟩ | ⟨φ, w, z1, z2⟩⟩
  · rw [if_neg (zq_ne z1 (by decide) (by decide)), if_neg (zq_ne z1 (by decide) (by decide)), if_neg (zq_ne z1 (by decide) (by decide)), zx_isSign z2, zx_isSign z2, zx_isSign z2, if_pos rfl, if_pos rfl, if_pos rfl]
    exact bad φ w z1 z2
  · have nr2 := zt_nrm hp nr
    have kA := zq_kp_A qA
    have kf := zq_kp_f (s := s + 1) f1
    obtain ⟨c1, c2, c3, c4, c5⟩ := kf s (by omega)
    have hn2 : (h2.2.1 13) s = nI 6 ∧ (h2.2.1 15) s = nI (zl_at T n j).2.1 ∧ (h2.2.1 16) s = vc ∧ (h2.2.1 18) s = -1 ∧ (h2.2.1 17) s = -1 := by
      obtain ⟨q1, q2, q3, q4, q5, q6, q7⟩ := qA
      exact ⟨c1.trans (by rw [q2, if_pos rfl]), c2.trans (by rw [q3, if_pos rfl]), c3.trans (by rw [q4, if_pos rfl]), c5.trans (by rw [q6, if_pos rfl]), c4.trans (by rw [q5, if_pos rfl])⟩
    have Y2 : zk_Y s m o LM h g LM2 h2 g2 := ⟨zq_kp_t kA kf (by omega), zx_ka_l f2, zo_fr_f f2 (by decide) (by decide) (by decide), hp⟩
    have mk : ∀ kd, kd < 128 → zt_km kd = kd → zt_nk kd = true → ∃ g3, f_Mo_node g2 (nI kd) ((g.1 68 7)) vm = some (nI m, g3) ∧ zk_J h0 g0 T n K LC LM j d s m o q kd (nI (zl_at T n j).2.1) vc h g .leaf (-1) LM2 (j + 1) d (s + 1) (m + 1) (2 * (j + 1 - j)) 0 1 (zs_uM h2 13 s (nI kd)) g3 := by
      intro kd k1 k2 k3
      have fV : zfr [] [13] [] h2 (zs_uM h2 13 s (nI kd)) := zfr_M (by decide) zfr_rfl
      have ek : ∀ i, (zs_uM h2 13 s (nI kd)).2.1 13 i = if i = s then nI kd else (h2.2.1 13) i := fun i => by simp [zu_MM]
      have Y3 : zk_Y s m o LM h g LM2 (zs_uM h2 13 s (nI kd)) g2 := ⟨zq_kp_t Y2.1 (fun i hi => ⟨by rw [ek, if_neg (by omega)], rfl, rfl, rfl, rfl⟩) (Nat.le_refl s), Y2.2⟩
      rw [m4]
      exact zk_J1 (D := 1) (kd := kd) (km := nI kd) (w := vm) (v := vc) (p := nI (zl_at T n j).2.1) (zk_cf L2 fV (by decide)) Y3 (by omega) (Nat.le_refl d) ⟨by rw [ek, if_pos rfl], hn2.2.1, hn2.2.2.1, hn2.2.2.2.1, hn2.2.2.2.2⟩ (by omega) (by omega) (by rw [k2]) (by rw [if_pos k3]; exact nr2)
    rw [show f_Mo_isSign g2 91 = if (h2.1 19 5) = nI 91 then 1 else 0 from zk_sign L2 (c := 91) (k := 91) (by decide), show f_Mo_isSign g2 46 = if (h2.1 19 5) = nI 46 then 1 else 0 from zk_sign L2 (c := 46) (k := 46) (by decide), show f_Mo_isSign g2 40 = if (h2.1 19 5) = nI 40 then 1 else 0 from zk_sign L2 (c := 40) (k := 40) (by decide)]
    unfold f_Mo_nameOperand_55
    have hin : zd_in (nI s) 32784 := zi_in (by omega) (by omega)
    have ecl : (nI s).toNatClampNeg = s := nI_clamp (by omega)
    have e01 : ¬ (1 : Int32) = 0 := by decide
    by_cases t46 : (h2.1 19 5) = 46
    · have n91 : ¬ (h2.1 19 5) = nI 91 := by rw [t46]; decide
      obtain ⟨g3, e4, J⟩ := mk 33 (by decide) rfl rfl
      rw [if_neg n91, if_pos (show (0 : Int32) = 0 from rfl), if_pos t46, if_pos hin, if_pos (show (h2.1 19 5) = nI 46 from t46), if_neg e01, ecl]
      rw [show f_Mo_node g2 33 ((g.1 68 7)) vm = some (nI m, g3) from e4, zo_B, show f_Mo_isSign g3 91 = if (h2.1 19 5) = nI 91 then 1 else 0 from zk_sign J.1 (c := 91) (k := 91) (by decide), if_neg n91, if_pos (show (0 : Int32) = 0 from rfl), show f_Mo_isSign g3 46 = if (h2.1 19 5) = nI 46 then 1 else 0 from zk_sign J.1 (c := 46) (k := 46) (by decide), if_pos (show (h2.1 19 5) = nI 46 from t46), if_neg e01]
      exact zk_nout J (by omega) (by omega) (by omega) (by omega) (by omega) t46
    have n46 : ¬ (h2.1 19 5) = nI 46 := t46
    by_cases t91 : (h2.1 19 5) = 91
    · obtain ⟨g3, e4, J⟩ := mk 32 (by decide) rfl rfl
      rw [if_neg t46, if_pos t91, if_pos hin, if_pos (show (h2.1 19 5) = nI 91 from t91), if_neg e01, ecl]
      rw [show f_Mo_node g2 32 ((g.1 68 7)) vm = some (nI m, g3) from e4, zo_B, show f_Mo_isSign g3 91 = if (h2.1 19 5) = nI 91 then 1 else 0 from zk_sign J.1 (c := 91) (k := 91) (by decide), if_pos (show (h2.1 19 5) = nI 91 from t91), if_neg e01]
      exact zk_nel EP J ho hq hq1 hD1 hD2 (by omega) (by omega) hs hm
    have n91 : ¬ (h2.1 19 5) = nI 91 := t91
    by_cases t40 : (h2.1 19 5) = 40
    · obtain ⟨g3, e4, J⟩ := mk 34 (by decide) rfl rfl
      rw [if_neg t46, if_neg t91, if_pos t40, if_pos hin, if_neg n91, if_neg n46, if_pos (show (h2.1 19 5) = nI 40 from t40), if_pos (show (0 : Int32) = 0 from rfl), if_pos (show (0 : Int32) = 0 from rfl), if_neg e01, ecl]
      rw [show f_Mo_node g2 34 ((g.1 68 7)) vm = some (nI m, g3) from e4, zo_B, show f_Mo_isSign g3 91 = if (h2.1 19 5) = nI 91 then 1 else 0 from zk_sign J.1 (c := 91) (k := 91) (by decide), if_neg n91, if_pos (show (0 : Int32) = 0 from rfl), show f_Mo_isSign g3 46 = if (h2.1 19 5) = nI 46 then 1 else 0 from zk_sign J.1 (c := 46) (k := 46) (by decide), if_neg n46, if_pos (show (0 : Int32) = 0 from rfl), show f_Mo_isSign g3 40 = if (h2.1 19 5) = nI 40 then 1 else 0 from zk_sign J.1 (c := 40) (k := 40) (by decide), if_pos (show (h2.1 19 5) = nI 40 from t40), if_neg e01]
      exact zk_ncall EP J ho hq hq1 hD1 hD2 (by omega) (by omega) hs hm
    have n40 : ¬ (h2.1 19 5) = nI 40 := t40
    have eh : zs_uM h2 13 s (nI 6) = h2 := by
      unfold zs_uM
      refine Prod.ext rfl (Prod.ext ?_ rfl)
      funext a b
      show (if a = 13 ∧ b = s then nI 6 else h2.2.1 a b) = h2.2.1 a b
      by_cases z : a = 13 ∧ b = s
      · rw [if_pos z, z.1, z.2]; exact hn2.1.symm
      · rw [if_neg z]
    obtain ⟨g3, e4, J⟩ := mk 6 (by decide) rfl rfl
    rw [eh] at J
    rw [if_neg t46, if_neg t91, if_neg t40, if_neg n91, if_neg n46, if_neg n40, if_pos (show (0 : Int32) = 0 from rfl), if_pos (show (0 : Int32) = 0 from rfl), if_pos (show (0 : Int32) = 0 from rfl)]
    rw [show f_Mo_node g2 6 ((g.1 68 7)) vm = some (nI m, g3) from e4, zo_B, show f_Mo_isSign g3 91 = if (h2.1 19 5) = nI 91 then 1 else 0 from zk_sign J.1 (c := 91) (k := 91) (by decide), if_neg n91, if_pos (show (0 : Int32) = 0 from rfl), show f_Mo_isSign g3 46 = if (h2.1 19 5) = nI 46 then 1 else 0 from zk_sign J.1 (c := 46) (k := 46) (by decide), if_neg n46, if_pos (show (0 : Int32) = 0 from rfl), show f_Mo_isSign g3 40 = if (h2.1 19 5) = nI 40 then 1 else 0 from zk_sign J.1 (c := 40) (k := 40) (by decide), if_neg n40, if_pos (show (0 : Int32) = 0 from rfl)]
    exact zk_142 J (by omega) rfl rfl (by decide) (by decide) (by omega) (by omega) (by omega)
  · rw [if_neg (zq_ne z1 (by decide) (by decide)), if_neg (zq_ne z1 (by decide) (by decide)), if_neg (zq_ne z1 (by decide) (by decide)), zx_isSign z2, zx_isSign z2, zx_isSign z2, if_pos rfl, if_pos rfl, if_pos rfl]
    exact bad φ w z1 z2
end ZT
