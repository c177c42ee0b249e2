section
/-! Both readers in step: elements, calls, names. -/
section ZTm
variable {g0 g : zs_H} {T : Nat → Int32} {n φ w m O : Nat}
theorem zxb_142c {x v : Int32} (H : zx_B g0 T n φ w m O g) (hO : O < 200) : zw (f_Mo_nameOperand_142 (zs_uF g 68 12 v) x) (zx_B g0 T n φ w m (O + 1)) := zxb_142 (zx_uF H (Or.inl rfl)) hO
theorem zy_L216 {r : zs_H → Int32 → Option (Int32 × zs_H)} {N : Nat} {h : zs_H} {x1 x2 x4 : Int32} : f_Ps_namedOperand_L216 r (N + 1) h x1 x2 0 x4 = f_Ps_namedOperand_274 h x1 := by
  show f_Ps_namedOperand_216 r (f_Ps_namedOperand_L216 r N) h x1 x2 0 x4 = _
  unfold f_Ps_namedOperand_216
  rw [if_pos (show (0 : Int32) = 0 from rfl)]
  split <;> rfl
theorem zy_L32 {r : zs_H → Int32 → Option zs_H} {N : Nat} {g : zs_H} {x1 : Int32} : f_Mo_call_L32 r (N + 1) g x1 0 = (f_Mo_wantSign g 41).bind fun h3 => some (zs_uF h3 68 12 ((h3.1 68 12) - 1)) := by
  show f_Mo_call_32 r (f_Mo_call_L32 r N) g x1 0 = _
  unfold f_Mo_call_32
  rw [if_pos rfl]
end ZTm
section ZT
variable {h0 g0 h g h' g' : zs_H} {T : Nat → Int32} {n K : Nat} {LC LM LM' : List (List Int32)} {j d s m o q kd j' d' s' m' e st D : Nat} {p v y : Int32} {u : zt_T}
/-- an element of a row -/
theorem zk_nel {D1 D2 : Nat} (EP : d < 60 → zk_EP h0 g0 T n K LC (d + 1)) (I : zk_J h0 g0 T n K LC LM j d s m o q 32 p v h g .leaf (-1) LM' j' d s' m' e 0 1 h' g') (ho : o ≤ d) (hq : q ≤ d + 1) (hq1 : 1 ≤ q) (hD1 : 3 * (60 - d) + 2 ≤ D1) (hD2 : 4 * (60 - d) + 1 ≤ D2) (hj : j < j') (he : 2 ≤ e) (hs : s ≤ 2 * j + 12) (hm : m ≤ 2 * j + 12) : zk_G h0 g0 T n K LC m 20900 (o + 1) (zk_X h0 g0 T n K LC LM j d s m o q 0 0 h g) ((f_Ps_deepen h').bind fun h18 => ((f_Ps_take h18 91).bind fun h20 => (zd_B (f_Ps_expression D1 h20 0) fun v22 h23 => (zd_B (f_Tr_hang h23 (nI s) (-1) v22) fun v25 h26 => ((f_Ps_take h26 93).bind fun h28 => (some (nI s, (zs_uF h28 19 7 ((h28.1 19 7) - 1))))))))) ((g_Mo_element (f_Mo_expression D2) g' (nI m)).bind fun h19 => f_Mo_nameOperand_142 h19 (nI m)) := by
  have b := zk_Jb I
  have v0 : zq_v (nI s) := ⟨s, by omega, rfl⟩
  obtain ⟨D1, rfl⟩ : ∃ z, D1 = z + 2 := ⟨D1 - 2, by omega⟩
  obtain ⟨D2, rfl⟩ : ∃ z, D2 = z + 1 := ⟨D2 - 1, by omega⟩
  unfold g_Mo_element
  simp only [Option.bind_assoc, Option.bind_some]
  obtain ⟨h2, g2, e3, e4, R⟩ := zk_deep I.1
  rw [e3, e4, Option.bind_some, Option.bind_some]
  rcases R with ⟨hd, L2, f1, f2⟩ | ⟨φ, w, z1, z2⟩
  · have J2 := zk_Jt I (zk_Yo f1 f2) (by omega) (Nat.le_refl j') L2
    obtain ⟨h3, g3, e5, e6, R⟩ := zk_wantS J2.1 (c := 91) (k := 91) (by decide) (by decide)
    rw [show f_Ps_take h2 91 = some h3 from e5, show f_Mo_wantSign g2 91 = some g3 from e6, Option.bind_some, Option.bind_some]
    rcases R with ⟨φ, w, z1, z2⟩ | ⟨_, ⟨f3, f4, LM3, hp, L3⟩ | ⟨φ, w, z1, z2⟩⟩
    · refine zk_Gf (φ := φ) (w := w) ?_ ?_
      · repeat' first
          | with_reducible exact zw_some.mpr ⟨by assumption, by assumption⟩
          | with_reducible exact zw_some.mpr ⟨by assumption, zz_open (by assumption)⟩
          | (rw [zw_B]; with_reducible refine zw_mono (zz_expression (by assumption)) ?_; rintro _ ⟨_, _⟩)
          | (rw [zw_B]; with_reducible refine zw_mono (zz_operand (by assumption)) ?_; rintro _ ⟨_, _⟩)
          | (rw [zw_bind]; with_reducible refine zw_mono (zz_take (by assumption)) ?_; intro _ _)
          | (rw [zw_B]; with_reducible refine zw_mono (zz_constant (by assumption)) ?_; rintro _ ⟨_, _⟩)
          | (rw [zw_B]; with_reducible refine zw_mono (zz_simpleType (by assumption)) ?_; rintro _ ⟨_, _⟩)
          | (rw [zw_B]; with_reducible refine zw_mono (zz_type (by assumption)) ?_; rintro _ ⟨_, _⟩)
          | (rw [zw_B]; with_reducible refine zw_mono (zz_whole (by assumption)) ?_; rintro _ ⟨_, _⟩)
          | (rw [zw_B]; with_reducible refine zw_mono (zz_add (by assumption)) ?_; rintro _ ⟨_, _⟩)
          | (rw [zw_B]; with_reducible refine zw_mono (zz_hang (by assumption) (by assumption) (by first | assumption | exact zq_vl_n | exact zq_vl_v (by assumption)) (by assumption)) ?_; rintro _ ⟨_, _⟩)
          | rw [if_pos (zq_at (by assumption))]
          | rw [zz_isCell (by assumption), if_pos rfl]
          | rw [if_neg (zq_ne (by assumption) (by decide) (by decide))]
      · repeat' first
          | (with_reducible refine zw_some.mpr ⟨_, ⟨?_, ?_⟩, by assumption⟩ <;> omega)
          | (with_reducible refine zw_some.mpr ⟨_, ⟨?_, ?_⟩, zx_Om (by assumption) ?_⟩ <;> omega)
          | (with_reducible refine zw_some.mpr ⟨_, ⟨?_, ?_⟩, zx_Om (zx_uF (by assumption) (Or.inl rfl)) ?_⟩ <;> omega)
          | (with_reducible refine zw_mono (zxb_142 (by assumption) (by omega)) ?_; intro _ z; exact ⟨_, by omega, z⟩)
          | (with_reducible refine zw_mono (zxb_142c (by assumption) (by omega)) ?_; intro _ z; exact ⟨_, by omega, z⟩)
          | (rw [zw_bind]; with_reducible refine zw_mono (zxw_next2 (by assumption)) ?_; intro _ _)
          | (rw [zw_bind]; with_reducible refine zw_mono (zx_open (by assumption)) ?_; intro _ _)
          | (rw [zw_bind]; with_reducible refine zw_mono (zxw_expression (by assumption)) ?_; intro _ _)
          | (rw [zw_bind]; with_reducible refine zw_mono (zxw_operand (by assumption)) ?_; intro _ _)
          | (rw [zw_bind]; with_reducible refine zw_mono (zxb_keep (by assumption) (by omega)) ?_; intro _ _)
          | (rw [zw_B]; with_reducible refine zw_mono (zxb_node (by assumption) (by omega) rfl) ?_; rintro _ ⟨e1, _⟩; try rw [e1])
          | (rw [zw_bind]; with_reducible refine zw_mono (zxw_wantSign (by assumption)) ?_; intro _ _)
          | (rw [zw_bind]; with_reducible refine zw_mono (zxw_wantWord (by assumption)) ?_; intro _ _)
          | (rw [zw_bind]; with_reducible refine zw_mono (zxw_want (by assumption)) ?_; intro _ _)
          | (rw [zw_bind]; with_reducible refine zw_mono (zx_next (by assumption)) ?_; intro _ _)
          | (rw [zw_bind]; with_reducible refine zw_mono (zxb_constant (by assumption) (by omega) (by omega)) ?_; intro _ _)
          | (rw [zw_bind]; with_reducible refine zw_mono (zxw_simple (by assumption) (by omega) (by omega)) ?_; rintro _ ⟨_, _, _, _⟩)
          | (rw [zw_B]; with_reducible refine zw_mono (zxb_add (by assumption) (by omega) rfl (by omega)) ?_; rintro _ ⟨e1, _⟩; try rw [e1])
          | rw [zx_isSign (by assumption), if_pos rfl]
          | rw [zx_isWord (by assumption), if_pos rfl]
          | rw [if_neg (zx_ne (by assumption))]
          | rw [if_neg (zx_pos (by assumption))]
          | rw [if_pos (show (0 : Int32) ≤ 0 by decide)]
    · have J3 := zk_Jt J2 (zk_Yk ⟨f3, f4⟩ hp) (by omega) (by omega) L3
      have b3 := zk_Jb J3
      obtain ⟨x, h4, g4, e7, e8, R⟩ := EP hd (D := D1 + 2) (D' := D2 + 1) (b := m) L3 (Nat.le_refl _) (by omega) (by omega) hq1 (by omega) (by omega) (by omega) (by omega) (by omega)
      rw [e7, e8, zo_B, Option.bind_some]
      rcases R with R | ⟨vx, φ, w, m2, w1, w2, z1, z2⟩
      · obtain ⟨h5, u5, LM5, j5, d5, s5, m5, e9, lt5, ld5, vx, J5⟩ := zk_Jc (dd := d + 1) (st' := 1) J3 R (by decide) (Nat.le_refl _) (by omega)
        rw [e9, zo_B]
        have b5 := zk_Jb J5
        obtain ⟨h6, g6, e10, e11, R⟩ := zk_wantS J5.1 (c := 93) (k := 93) (by decide) (by decide)
        rw [show f_Ps_take h5 93 = some h6 from e10, show f_Mo_wantSign g4 93 = some g6 from e11, Option.bind_some, Option.bind_some]
        rcases R with ⟨φ, w, z1, z2⟩ | ⟨_, ⟨f5, f6, LM6, hp6, L6⟩ | ⟨φ, w, z1, z2⟩⟩
        · refine zk_Gf (φ := φ) (w := w) ?_ ?_
          · repeat' first
              | with_reducible exact zw_some.mpr ⟨by assumption, by assumption⟩
              | with_reducible exact zw_some.mpr ⟨by assumption, zz_open (by assumption)⟩
              | (rw [zw_B]; with_reducible refine zw_mono (zz_expression (by assumption)) ?_; rintro _ ⟨_, _⟩)
              | (rw [zw_B]; with_reducible refine zw_mono (zz_operand (by assumption)) ?_; rintro _ ⟨_, _⟩)
              | (rw [zw_bind]; with_reducible refine zw_mono (zz_take (by assumption)) ?_; intro _ _)
              | (rw [zw_B]; with_reducible refine zw_mono (zz_constant (by assumption)) ?_; rintro _ ⟨_, _⟩)
              | (rw [zw_B]; with_reducible refine zw_mono (zz_simpleType (by assumption)) ?_; rintro _ ⟨_, _⟩)
              | (rw [zw_B]; with_reducible refine zw_mono (zz_type (by assumption)) ?_; rintro _ ⟨_, _⟩)
              | (rw [zw_B]; with_reducible refine zw_mono (zz_whole (by assumption)) ?_; rintro _ ⟨_, _⟩)
              | (rw [zw_B]; with_reducible refine zw_mono (zz_add (by assumption)) ?_; rintro _ ⟨_, _⟩)
              | (rw [zw_B]; with_reducible refine zw_mono (zz_hang (by assumption) (by assumption) (by first | assumption | exact zq_vl_n | exact zq_vl_v (by assumption)) (by assumption)) ?_; rintro _ ⟨_, _⟩)
              | rw [if_pos (zq_at (by assumption))]
              | rw [zz_isCell (by assumption), if_pos rfl]
              | rw [if_neg (zq_ne (by assumption) (by decide) (by decide))]
          · repeat' first
              | (with_reducible refine zw_some.mpr ⟨_, ⟨?_, ?_⟩, by assumption⟩ <;> omega)
              | (with_reducible refine zw_some.mpr ⟨_, ⟨?_, ?_⟩, zx_Om (by assumption) ?_⟩ <;> omega)
              | (with_reducible refine zw_some.mpr ⟨_, ⟨?_, ?_⟩, zx_Om (zx_uF (by assumption) (Or.inl rfl)) ?_⟩ <;> omega)
              | (with_reducible refine zw_mono (zxb_142 (by assumption) (by omega)) ?_; intro _ z; exact ⟨_, by omega, z⟩)
              | (with_reducible refine zw_mono (zxb_142c (by assumption) (by omega)) ?_; intro _ z; exact ⟨_, by omega, z⟩)
              | (rw [zw_bind]; with_reducible refine zw_mono (zxw_next2 (by assumption)) ?_; intro _ _)
              | (rw [zw_bind]; with_reducible refine zw_mono (zx_open (by assumption)) ?_; intro _ _)
              | (rw [zw_bind]; with_reducible refine zw_mono (zxw_expression (by assumption)) ?_; intro _ _)
              | (rw [zw_bind]; with_reducible refine zw_mono (zxw_operand (by assumption)) ?_; intro _ _)
              | (rw [zw_bind]; with_reducible refine zw_mono (zxb_keep (by assumption) (by omega)) ?_; intro _ _)
              | (rw [zw_B]; with_reducible refine zw_mono (zxb_node (by assumption) (by omega) rfl) ?_; rintro _ ⟨e1, _⟩; try rw [e1])
              | (rw [zw_bind]; with_reducible refine zw_mono (zxw_wantSign (by assumption)) ?_; intro _ _)
              | (rw [zw_bind]; with_reducible refine zw_mono (zxw_wantWord (by assumption)) ?_; intro _ _)
              | (rw [zw_bind]; with_reducible refine zw_mono (zxw_want (by assumption)) ?_; intro _ _)
              | (rw [zw_bind]; with_reducible refine zw_mono (zx_next (by assumption)) ?_; intro _ _)
              | (rw [zw_bind]; with_reducible refine zw_mono (zxb_constant (by assumption) (by omega) (by omega)) ?_; intro _ _)
              | (rw [zw_bind]; with_reducible refine zw_mono (zxw_simple (by assumption) (by omega) (by omega)) ?_; rintro _ ⟨_, _, _, _⟩)
              | (rw [zw_B]; with_reducible refine zw_mono (zxb_add (by assumption) (by omega) rfl (by omega)) ?_; rintro _ ⟨e1, _⟩; try rw [e1])
              | rw [zx_isSign (by assumption), if_pos rfl]
              | rw [zx_isWord (by assumption), if_pos rfl]
              | rw [if_neg (zx_ne (by assumption))]
              | rw [if_neg (zx_pos (by assumption))]
              | rw [if_pos (show (0 : Int32) ≤ 0 by decide)]
        · have J6 := zk_Jt J5 (zk_Yk ⟨f5, f6⟩ hp6) (by omega) (by omega) L6
          exact zk_142c J6 (by omega) rfl rfl (by decide) (by decide) (by omega) (by omega) (by omega) (by omega)
        · refine zk_Gf (φ := φ) (w := w) ?_ ?_
          · repeat' first
              | with_reducible exact zw_some.mpr ⟨by assumption, by assumption⟩
              | with_reducible exact zw_some.mpr ⟨by assumption, zz_open (by assumption)⟩
              | (rw [zw_B]; with_reducible refine zw_mono (zz_expression (by assumption)) ?_; rintro _ ⟨_, _⟩)
              | (rw [zw_B]; with_reducible refine zw_mono (zz_operand (by assumption)) ?_; rintro _ ⟨_, _⟩)
              | (rw [zw_bind]; with_reducible refine zw_mono (zz_take (by assumption)) ?_; intro _ _)
              | (rw [zw_B]; with_reducible refine zw_mono (zz_constant (by assumption)) ?_; rintro _ ⟨_, _⟩)
              | (rw [zw_B]; with_reducible refine zw_mono (zz_simpleType (by assumption)) ?_; rintro _ ⟨_, _⟩)
              | (rw [zw_B]; with_reducible refine zw_mono (zz_type (by assumption)) ?_; rintro _ ⟨_, _⟩)
              | (rw [zw_B]; with_reducible refine zw_mono (zz_whole (by assumption)) ?_; rintro _ ⟨_, _⟩)
              | (rw [zw_B]; with_reducible refine zw_mono (zz_add (by assumption)) ?_; rintro _ ⟨_, _⟩)
              | (rw [zw_B]; with_reducible refine zw_mono (zz_hang (by assumption) (by assumption) (by first | assumption | exact zq_vl_n | exact zq_vl_v (by assumption)) (by assumption)) ?_; rintro _ ⟨_, _⟩)
              | rw [if_pos (zq_at (by assumption))]
              | rw [zz_isCell (by assumption), if_pos rfl]
              | rw [if_neg (zq_ne (by assumption) (by decide) (by decide))]
          · repeat' first
              | (with_reducible refine zw_some.mpr ⟨_, ⟨?_, ?_⟩, by assumption⟩ <;> omega)
              | (with_reducible refine zw_some.mpr ⟨_, ⟨?_, ?_⟩, zx_Om (by assumption) ?_⟩ <;> omega)
              | (with_reducible refine zw_some.mpr ⟨_, ⟨?_, ?_⟩, zx_Om (zx_uF (by assumption) (Or.inl rfl)) ?_⟩ <;> omega)
              | (with_reducible refine zw_mono (zxb_142 (by assumption) (by omega)) ?_; intro _ z; exact ⟨_, by omega, z⟩)
              | (with_reducible refine zw_mono (zxb_142c (by assumption) (by omega)) ?_; intro _ z; exact ⟨_, by omega, z⟩)
              | (rw [zw_bind]; with_reducible refine zw_mono (zxw_next2 (by assumption)) ?_; intro _ _)
              | (rw [zw_bind]; with_reducible refine zw_mono (zx_open (by assumption)) ?_; intro _ _)
              | (rw [zw_bind]; with_reducible refine zw_mono (zxw_expression (by assumption)) ?_; intro _ _)
              | (rw [zw_bind]; with_reducible refine zw_mono (zxw_operand (by assumption)) ?_; intro _ _)
              | (rw [zw_bind]; with_reducible refine zw_mono (zxb_keep (by assumption) (by omega)) ?_; intro _ _)
              | (rw [zw_B]; with_reducible refine zw_mono (zxb_node (by assumption) (by omega) rfl) ?_; rintro _ ⟨e1, _⟩; try rw [e1])
              | (rw [zw_bind]; with_reducible refine zw_mono (zxw_wantSign (by assumption)) ?_; intro _ _)
              | (rw [zw_bind]; with_reducible refine zw_mono (zxw_wantWord (by assumption)) ?_; intro _ _)
              | (rw [zw_bind]; with_reducible refine zw_mono (zxw_want (by assumption)) ?_; intro _ _)
              | (rw [zw_bind]; with_reducible refine zw_mono (zx_next (by assumption)) ?_; intro _ _)
              | (rw [zw_bind]; with_reducible refine zw_mono (zxb_constant (by assumption) (by omega) (by omega)) ?_; intro _ _)
              | (rw [zw_bind]; with_reducible refine zw_mono (zxw_simple (by assumption) (by omega) (by omega)) ?_; rintro _ ⟨_, _, _, _⟩)
              | (rw [zw_B]; with_reducible refine zw_mono (zxb_add (by assumption) (by omega) rfl (by omega)) ?_; rintro _ ⟨e1, _⟩; try rw [e1])
              | rw [zx_isSign (by assumption), if_pos rfl]
              | rw [zx_isWord (by assumption), if_pos rfl]
              | rw [if_neg (zx_ne (by assumption))]
              | rw [if_neg (zx_pos (by assumption))]
              | rw [if_pos (show (0 : Int32) ≤ 0 by decide)]
      · refine zk_Gf (φ := φ) (w := w) ?_ ?_
        · repeat' first
            | with_reducible exact zw_some.mpr ⟨by assumption, by assumption⟩
            | with_reducible exact zw_some.mpr ⟨by assumption, zz_open (by assumption)⟩
            | (rw [zw_B]; with_reducible refine zw_mono (zz_expression (by assumption)) ?_; rintro _ ⟨_, _⟩)
            | (rw [zw_B]; with_reducible refine zw_mono (zz_operand (by assumption)) ?_; rintro _ ⟨_, _⟩)
            | (rw [zw_bind]; with_reducible refine zw_mono (zz_take (by assumption)) ?_; intro _ _)
            | (rw [zw_B]; with_reducible refine zw_mono (zz_constant (by assumption)) ?_; rintro _ ⟨_, _⟩)
            | (rw [zw_B]; with_reducible refine zw_mono (zz_simpleType (by assumption)) ?_; rintro _ ⟨_, _⟩)
            | (rw [zw_B]; with_reducible refine zw_mono (zz_type (by assumption)) ?_; rintro _ ⟨_, _⟩)
            | (rw [zw_B]; with_reducible refine zw_mono (zz_whole (by assumption)) ?_; rintro _ ⟨_, _⟩)
            | (rw [zw_B]; with_reducible refine zw_mono (zz_add (by assumption)) ?_; rintro _ ⟨_, _⟩)
            | (rw [zw_B]; with_reducible refine zw_mono (zz_hang (by assumption) (by assumption) (by first | assumption | exact zq_vl_n | exact zq_vl_v (by assumption)) (by assumption)) ?_; rintro _ ⟨_, _⟩)
            | rw [if_pos (zq_at (by assumption))]
            | rw [zz_isCell (by assumption), if_pos rfl]
            | rw [if_neg (zq_ne (by assumption) (by decide) (by decide))]
        · repeat' first
            | (with_reducible refine zw_some.mpr ⟨_, ⟨?_, ?_⟩, by assumption⟩ <;> omega)
            | (with_reducible refine zw_some.mpr ⟨_, ⟨?_, ?_⟩, zx_Om (by assumption) ?_⟩ <;> omega)
            | (with_reducible refine zw_some.mpr ⟨_, ⟨?_, ?_⟩, zx_Om (zx_uF (by assumption) (Or.inl rfl)) ?_⟩ <;> omega)
            | (with_reducible refine zw_mono (zxb_142 (by assumption) (by omega)) ?_; intro _ z; exact ⟨_, by omega, z⟩)
            | (with_reducible refine zw_mono (zxb_142c (by assumption) (by omega)) ?_; intro _ z; exact ⟨_, by omega, z⟩)
            | (rw [zw_bind]; with_reducible refine zw_mono (zxw_next2 (by assumption)) ?_; intro _ _)
            | (rw [zw_bind]; with_reducible refine zw_mono (zx_open (by assumption)) ?_; intro _ _)
            | (rw [zw_bind]; with_reducible refine zw_mono (zxw_expression (by assumption)) ?_; intro _ _)
            | (rw [zw_bind]; with_reducible refine zw_mono (zxw_operand (by assumption)) ?_; intro _ _)
            | (rw [zw_bind]; with_reducible refine zw_mono (zxb_keep (by assumption) (by omega)) ?_; intro _ _)
            | (rw [zw_B]; with_reducible refine zw_mono (zxb_node (by assumption) (by omega) rfl) ?_; rintro _ ⟨e1, _⟩; try rw [e1])
            | (rw [zw_bind]; with_reducible refine zw_mono (zxw_wantSign (by assumption)) ?_; intro _ _)
            | (rw [zw_bind]; with_reducible refine zw_mono (zxw_wantWord (by assumption)) ?_; intro _ _)
            | (rw [zw_bind]; with_reducible refine zw_mono (zxw_want (by assumption)) ?_; intro _ _)
            | (rw [zw_bind]; with_reducible refine zw_mono (zx_next (by assumption)) ?_; intro _ _)
            | (rw [zw_bind]; with_reducible refine zw_mono (zxb_constant (by assumption) (by omega) (by omega)) ?_; intro _ _)
            | (rw [zw_bind]; with_reducible refine zw_mono (zxw_simple (by assumption) (by omega) (by omega)) ?_; rintro _ ⟨_, _, _, _⟩)
            | (rw [zw_B]; with_reducible refine zw_mono (zxb_add (by assumption) (by omega) rfl (by omega)) ?_; rintro _ ⟨e1, _⟩; try rw [e1])
            | rw [zx_isSign (by assumption), if_pos rfl]
            | rw [zx_isWord (by assumption), if_pos rfl]
            | rw [if_neg (zx_ne (by assumption))]
            | rw [if_neg (zx_pos (by assumption))]
            | rw [if_pos (show (0 : Int32) ≤ 0 by decide)]
    · refine zk_Gf (φ := φ) (w := w) ?_ ?_
      · repeat' first
          | with_reducible exact zw_some.mpr ⟨by assumption, by assumption⟩
          | with_reducible exact zw_some.mpr ⟨by assumption, zz_open (by assumption)⟩
          | (rw [zw_B]; with_reducible refine zw_mono (zz_expression (by assumption)) ?_; rintro _ ⟨_, _⟩)
          | (rw [zw_B]; with_reducible refine zw_mono (zz_operand (by assumption)) ?_; rintro _ ⟨_, _⟩)
          | (rw [zw_bind]; with_reducible refine zw_mono (zz_take (by assumption)) ?_; intro _ _)
          | (rw [zw_B]; with_reducible refine zw_mono (zz_constant (by assumption)) ?_; rintro _ ⟨_, _⟩)
          | (rw [zw_B]; with_reducible refine zw_mono (zz_simpleType (by assumption)) ?_; rintro _ ⟨_, _⟩)
          | (rw [zw_B]; with_reducible refine zw_mono (zz_type (by assumption)) ?_; rintro _ ⟨_, _⟩)
          | (rw [zw_B]; with_reducible refine zw_mono (zz_whole (by assumption)) ?_; rintro _ ⟨_, _⟩)
          | (rw [zw_B]; with_reducible refine zw_mono (zz_add (by assumption)) ?_; rintro _ ⟨_, _⟩)
          | (rw [zw_B]; with_reducible refine zw_mono (zz_hang (by assumption) (by assumption) (by first | assumption | exact zq_vl_n | exact zq_vl_v (by assumption)) (by assumption)) ?_; rintro _ ⟨_, _⟩)
          | rw [if_pos (zq_at (by assumption))]
          | rw [zz_isCell (by assumption), if_pos rfl]
          | rw [if_neg (zq_ne (by assumption) (by decide) (by decide))]
      · repeat' first
          | (with_reducible refine zw_some.mpr ⟨_, ⟨?_, ?_⟩, by assumption⟩ <;> omega)
          | (with_reducible refine zw_some.mpr ⟨_, ⟨?_, ?_⟩, zx_Om (by assumption) ?_⟩ <;> omega)
          | (with_reducible refine zw_some.mpr ⟨_, ⟨?_, ?_⟩, zx_Om (zx_uF (by assumption) (Or.inl rfl)) ?_⟩ <;> omega)
          | (with_reducible refine zw_mono (zxb_142 (by assumption) (by omega)) ?_; intro _ z; exact ⟨_, by omega, z⟩)
          | (with_reducible refine zw_mono (zxb_142c (by assumption) (by omega)) ?_; intro _ z; exact ⟨_, by omega, z⟩)
          | (rw [zw_bind]; with_reducible refine zw_mono (zxw_next2 (by assumption)) ?_; intro _ _)
          | (rw [zw_bind]; with_reducible refine zw_mono (zx_open (by assumption)) ?_; intro _ _)
          | (rw [zw_bind]; with_reducible refine zw_mono (zxw_expression (by assumption)) ?_; intro _ _)
          | (rw [zw_bind]; with_reducible refine zw_mono (zxw_operand (by assumption)) ?_; intro _ _)
          | (rw [zw_bind]; with_reducible refine zw_mono (zxb_keep (by assumption) (by omega)) ?_; intro _ _)
          | (rw [zw_B]; with_reducible refine zw_mono (zxb_node (by assumption) (by omega) rfl) ?_; rintro _ ⟨e1, _⟩; try rw [e1])
          | (rw [zw_bind]; with_reducible refine zw_mono (zxw_wantSign (by assumption)) ?_; intro _ _)
          | (rw [zw_bind]; with_reducible refine zw_mono (zxw_wantWord (by assumption)) ?_; intro _ _)
          | (rw [zw_bind]; with_reducible refine zw_mono (zxw_want (by assumption)) ?_; intro _ _)
          | (rw [zw_bind]; with_reducible refine zw_mono (zx_next (by assumption)) ?_; intro _ _)
          | (rw [zw_bind]; with_reducible refine zw_mono (zxb_constant (by assumption) (by omega) (by omega)) ?_; intro _ _)
          | (rw [zw_bind]; with_reducible refine zw_mono (zxw_simple (by assumption) (by omega) (by omega)) ?_; rintro _ ⟨_, _, _, _⟩)
          | (rw [zw_B]; with_reducible refine zw_mono (zxb_add (by assumption) (by omega) rfl (by omega)) ?_; rintro _ ⟨e1, _⟩; try rw [e1])
          | rw [zx_isSign (by assumption), if_pos rfl]
          | rw [zx_isWord (by assumption), if_pos rfl]
          | rw [if_neg (zx_ne (by assumption))]
          | rw [if_neg (zx_pos (by assumption))]
          | rw [if_pos (show (0 : Int32) ≤ 0 by decide)]
  · refine zk_Gf (φ := φ) (w := w) ?_ ?_
    · repeat' first
        | with_reducible exact zw_some.mpr ⟨by assumption, by assumption⟩
        | with_reducible exact zw_some.mpr ⟨by assumption, zz_open (by assumption)⟩
        | (rw [zw_B]; with_reducible refine zw_mono (zz_expression (by assumption)) ?_; rintro _ ⟨_, _⟩)
        | (rw [zw_B]; with_reducible refine zw_mono (zz_operand (by assumption)) ?_; rintro _ ⟨_, _⟩)
        | (rw [zw_bind]; with_reducible refine zw_mono (zz_take (by assumption)) ?_; intro _ _)
        | (rw [zw_B]; with_reducible refine zw_mono (zz_constant (by assumption)) ?_; rintro _ ⟨_, _⟩)
        | (rw [zw_B]; with_reducible refine zw_mono (zz_simpleType (by assumption)) ?_; rintro _ ⟨_, _⟩)
        | (rw [zw_B]; with_reducible refine zw_mono (zz_type (by assumption)) ?_; rintro _ ⟨_, _⟩)
        | (rw [zw_B]; with_reducible refine zw_mono (zz_whole (by assumption)) ?_; rintro _ ⟨_, _⟩)
        | (rw [zw_B]; with_reducible refine zw_mono (zz_add (by assumption)) ?_; rintro _ ⟨_, _⟩)
        | (rw [zw_B]; with_reducible refine zw_mono (zz_hang (by assumption) (by assumption) (by first | assumption | exact zq_vl_n | exact zq_vl_v (by assumption)) (by assumption)) ?_; rintro _ ⟨_, _⟩)
        | rw [if_pos (zq_at (by assumption))]
        | rw [zz_isCell (by assumption), if_pos rfl]
        | rw [if_neg (zq_ne (by assumption) (by decide) (by decide))]
    · repeat' first
        | (with_reducible refine zw_some.mpr ⟨_, ⟨?_, ?_⟩, by assumption⟩ <;> omega)
        | (with_reducible refine zw_some.mpr ⟨_, ⟨?_, ?_⟩, zx_Om (by assumption) ?_⟩ <;> omega)
        | (with_reducible refine zw_some.mpr ⟨_, ⟨?_, ?_⟩, zx_Om (zx_uF (by assumption) (Or.inl rfl)) ?_⟩ <;> omega)
        | (with_reducible refine zw_mono (zxb_142 (by assumption) (by omega)) ?_; intro _ z; exact ⟨_, by omega, z⟩)
        | (with_reducible refine zw_mono (zxb_142c (by assumption) (by omega)) ?_; intro _ z; exact ⟨_, by omega, z⟩)
        | (rw [zw_bind]; with_reducible refine zw_mono (zxw_next2 (by assumption)) ?_; intro _ _)
        | (rw [zw_bind]; with_reducible refine zw_mono (zx_open (by assumption)) ?_; intro _ _)
        | (rw [zw_bind]; with_reducible refine zw_mono (zxw_expression (by assumption)) ?_; intro _ _)
        | (rw [zw_bind]; with_reducible refine zw_mono (zxw_operand (by assumption)) ?_; intro _ _)
        | (rw [zw_bind]; with_reducible refine zw_mono (zxb_keep (by assumption) (by omega)) ?_; intro _ _)
        | (rw [zw_B]; with_reducible refine zw_mono (zxb_node (by assumption) (by omega) rfl) ?_; rintro _ ⟨e1, _⟩; try rw [e1])
        | (rw [zw_bind]; with_reducible refine zw_mono (zxw_wantSign (by assumption)) ?_; intro _ _)
        | (rw [zw_bind]; with_reducible refine zw_mono (zxw_wantWord (by assumption)) ?_; intro _ _)
        | (rw [zw_bind]; with_reducible refine zw_mono (zxw_want (by assumption)) ?_; intro _ _)
        | (rw [zw_bind]; with_reducible refine zw_mono (zx_next (by assumption)) ?_; intro _ _)
        | (rw [zw_bind]; with_reducible refine zw_mono (zxb_constant (by assumption) (by omega) (by omega)) ?_; intro _ _)
        | (rw [zw_bind]; with_reducible refine zw_mono (zxw_simple (by assumption) (by omega) (by omega)) ?_; rintro _ ⟨_, _, _, _⟩)
        | (rw [zw_B]; with_reducible refine zw_mono (zxb_add (by assumption) (by omega) rfl (by omega)) ?_; rintro _ ⟨e1, _⟩; try rw [e1])
        | rw [zx_isSign (by assumption), if_pos rfl]
        | rw [zx_isWord (by assumption), if_pos rfl]
        | rw [if_neg (zx_ne (by assumption))]
        | rw [if_neg (zx_pos (by assumption))]
        | rw [if_pos (show (0 : Int32) ≤ 0 by decide)]
/-- a call ends -/
theorem zk_ncE (I : zk_J h0 g0 T n K LC LM j d s m o q 34 p v h g u y LM' j' d' s' m' e 0 D h' g') (ho : o < 200) (hj : j < j') (he : 2 ≤ e) (hd : d + 1 ≤ d') (hD : D ≤ (60 - d) + (d' - d)) (hm : m ≤ 2 * j + 12) : zk_G h0 g0 T n K LC m 20900 (o + 1) (zk_X h0 g0 T n K LC LM j d s m o q 0 0 h g) (f_Ps_namedOperand_274 h' (nI s)) ((f_Mo_wantSign g' 41).bind fun h3 => f_Mo_nameOperand_142 (zs_uF h3 68 12 ((h3.1 68 12) - 1)) (nI m)) := by
  have b := zk_Jb I
  have v0 : zq_v (nI s) := ⟨s, by omega, rfl⟩
  unfold f_Ps_namedOperand_274
  obtain ⟨h6, g6, e10, e11, R⟩ := zk_wantS I.1 (c := 41) (k := 41) (by decide) (by decide)
  rw [show f_Ps_take h' 41 = some h6 from e10, show f_Mo_wantSign g' 41 = some g6 from e11, Option.bind_some, Option.bind_some]
  rcases R with ⟨φ, w, z1, z2⟩ | ⟨_, ⟨f5, f6, LM6, hp6, L6⟩ | ⟨φ, w, z1, z2⟩⟩
  · refine zk_Gf (φ := φ) (w := w) ?_ ?_
    · repeat' first
        | with_reducible exact zw_some.mpr ⟨by assumption, by assumption⟩
        | with_reducible exact zw_some.mpr ⟨by assumption, zz_open (by assumption)⟩
        | (rw [zw_B]; with_reducible refine zw_mono (zz_expression (by assumption)) ?_; rintro _ ⟨_, _⟩)
        | (rw [zw_B]; with_reducible refine zw_mono (zz_operand (by assumption)) ?_; rintro _ ⟨_, _⟩)
        | (rw [zw_bind]; with_reducible refine zw_mono (zz_take (by assumption)) ?_; intro _ _)
        | (rw [zw_B]; with_reducible refine zw_mono (zz_constant (by assumption)) ?_; rintro _ ⟨_, _⟩)
        | (rw [zw_B]; with_reducible refine zw_mono (zz_simpleType (by assumption)) ?_; rintro _ ⟨_, _⟩)
        | (rw [zw_B]; with_reducible refine zw_mono (zz_type (by assumption)) ?_; rintro _ ⟨_, _⟩)
        | (rw [zw_B]; with_reducible refine zw_mono (zz_whole (by assumption)) ?_; rintro _ ⟨_, _⟩)
        | (rw [zw_B]; with_reducible refine zw_mono (zz_add (by assumption)) ?_; rintro _ ⟨_, _⟩)
        | (rw [zw_B]; with_reducible refine zw_mono (zz_hang (by assumption) (by assumption) (by first | assumption | exact zq_vl_n | exact zq_vl_v (by assumption)) (by assumption)) ?_; rintro _ ⟨_, _⟩)
        | rw [if_pos (zq_at (by assumption))]
        | rw [zz_isCell (by assumption), if_pos rfl]
        | rw [if_neg (zq_ne (by assumption) (by decide) (by decide))]
    · repeat' first
        | (with_reducible refine zw_some.mpr ⟨_, ⟨?_, ?_⟩, by assumption⟩ <;> omega)
        | (with_reducible refine zw_some.mpr ⟨_, ⟨?_, ?_⟩, zx_Om (by assumption) ?_⟩ <;> omega)
        | (with_reducible refine zw_some.mpr ⟨_, ⟨?_, ?_⟩, zx_Om (zx_uF (by assumption) (Or.inl rfl)) ?_⟩ <;> omega)
        | (with_reducible refine zw_mono (zxb_142 (by assumption) (by omega)) ?_; intro _ z; exact ⟨_, by omega, z⟩)
        | (with_reducible refine zw_mono (zxb_142c (by assumption) (by omega)) ?_; intro _ z; exact ⟨_, by omega, z⟩)
        | (rw [zw_bind]; with_reducible refine zw_mono (zxw_next2 (by assumption)) ?_; intro _ _)
        | (rw [zw_bind]; with_reducible refine zw_mono (zx_open (by assumption)) ?_; intro _ _)
        | (rw [zw_bind]; with_reducible refine zw_mono (zxw_expression (by assumption)) ?_; intro _ _)
        | (rw [zw_bind]; with_reducible refine zw_mono (zxw_operand (by assumption)) ?_; intro _ _)
        | (rw [zw_bind]; with_reducible refine zw_mono (zxb_keep (by assumption) (by omega)) ?_; intro _ _)
        | (rw [zw_B]; with_reducible refine zw_mono (zxb_node (by assumption) (by omega) rfl) ?_; rintro _ ⟨e1, _⟩; try rw [e1])
        | (rw [zw_bind]; with_reducible refine zw_mono (zxw_wantSign (by assumption)) ?_; intro _ _)
        | (rw [zw_bind]; with_reducible refine zw_mono (zxw_wantWord (by assumption)) ?_; intro _ _)
        | (rw [zw_bind]; with_reducible refine zw_mono (zxw_want (by assumption)) ?_; intro _ _)
        | (rw [zw_bind]; with_reducible refine zw_mono (zx_next (by assumption)) ?_; intro _ _)
        | (rw [zw_bind]; with_reducible refine zw_mono (zxb_constant (by assumption) (by omega) (by omega)) ?_; intro _ _)
        | (rw [zw_bind]; with_reducible refine zw_mono (zxw_simple (by assumption) (by omega) (by omega)) ?_; rintro _ ⟨_, _, _, _⟩)
        | (rw [zw_B]; with_reducible refine zw_mono (zxb_add (by assumption) (by omega) rfl (by omega)) ?_; rintro _ ⟨e1, _⟩; try rw [e1])
        | rw [zx_isSign (by assumption), if_pos rfl]
        | rw [zx_isWord (by assumption), if_pos rfl]
        | rw [if_neg (zx_ne (by assumption))]
        | rw [if_neg (zx_pos (by assumption))]
        | rw [if_pos (show (0 : Int32) ≤ 0 by decide)]
  · have J6 := zk_Jt I (zk_Yk ⟨f5, f6⟩ hp6) (by omega) (by omega) L6
    exact zk_142c J6 ho rfl rfl (by decide) (by decide) (by omega) (by omega) (by omega) (by omega)
  · refine zk_Gf (φ := φ) (w := w) ?_ ?_
    · repeat' first
        | with_reducible exact zw_some.mpr ⟨by assumption, by assumption⟩
        | with_reducible exact zw_some.mpr ⟨by assumption, zz_open (by assumption)⟩
        | (rw [zw_B]; with_reducible refine zw_mono (zz_expression (by assumption)) ?_; rintro _ ⟨_, _⟩)
        | (rw [zw_B]; with_reducible refine zw_mono (zz_operand (by assumption)) ?_; rintro _ ⟨_, _⟩)
        | (rw [zw_bind]; with_reducible refine zw_mono (zz_take (by assumption)) ?_; intro _ _)
        | (rw [zw_B]; with_reducible refine zw_mono (zz_constant (by assumption)) ?_; rintro _ ⟨_, _⟩)
        | (rw [zw_B]; with_reducible refine zw_mono (zz_simpleType (by assumption)) ?_; rintro _ ⟨_, _⟩)
        | (rw [zw_B]; with_reducible refine zw_mono (zz_type (by assumption)) ?_; rintro _ ⟨_, _⟩)
        | (rw [zw_B]; with_reducible refine zw_mono (zz_whole (by assumption)) ?_; rintro _ ⟨_, _⟩)
        | (rw [zw_B]; with_reducible refine zw_mono (zz_add (by assumption)) ?_; rintro _ ⟨_, _⟩)
        | (rw [zw_B]; with_reducible refine zw_mono (zz_hang (by assumption) (by assumption) (by first | assumption | exact zq_vl_n | exact zq_vl_v (by assumption)) (by assumption)) ?_; rintro _ ⟨_, _⟩)
        | rw [if_pos (zq_at (by assumption))]
        | rw [zz_isCell (by assumption), if_pos rfl]
        | rw [if_neg (zq_ne (by assumption) (by decide) (by decide))]
    · repeat' first
        | (with_reducible refine zw_some.mpr ⟨_, ⟨?_, ?_⟩, by assumption⟩ <;> omega)
        | (with_reducible refine zw_some.mpr ⟨_, ⟨?_, ?_⟩, zx_Om (by assumption) ?_⟩ <;> omega)
        | (with_reducible refine zw_some.mpr ⟨_, ⟨?_, ?_⟩, zx_Om (zx_uF (by assumption) (Or.inl rfl)) ?_⟩ <;> omega)
        | (with_reducible refine zw_mono (zxb_142 (by assumption) (by omega)) ?_; intro _ z; exact ⟨_, by omega, z⟩)
        | (with_reducible refine zw_mono (zxb_142c (by assumption) (by omega)) ?_; intro _ z; exact ⟨_, by omega, z⟩)
        | (rw [zw_bind]; with_reducible refine zw_mono (zxw_next2 (by assumption)) ?_; intro _ _)
        | (rw [zw_bind]; with_reducible refine zw_mono (zx_open (by assumption)) ?_; intro _ _)
        | (rw [zw_bind]; with_reducible refine zw_mono (zxw_expression (by assumption)) ?_; intro _ _)
        | (rw [zw_bind]; with_reducible refine zw_mono (zxw_operand (by assumption)) ?_; intro _ _)
        | (rw [zw_bind]; with_reducible refine zw_mono (zxb_keep (by assumption) (by omega)) ?_; intro _ _)
        | (rw [zw_B]; with_reducible refine zw_mono (zxb_node (by assumption) (by omega) rfl) ?_; rintro _ ⟨e1, _⟩; try rw [e1])
        | (rw [zw_bind]; with_reducible refine zw_mono (zxw_wantSign (by assumption)) ?_; intro _ _)
        | (rw [zw_bind]; with_reducible refine zw_mono (zxw_wantWord (by assumption)) ?_; intro _ _)
        | (rw [zw_bind]; with_reducible refine zw_mono (zxw_want (by assumption)) ?_; intro _ _)
        | (rw [zw_bind]; with_reducible refine zw_mono (zx_next (by assumption)) ?_; intro _ _)
        | (rw [zw_bind]; with_reducible refine zw_mono (zxb_constant (by assumption) (by omega) (by omega)) ?_; intro _ _)
        | (rw [zw_bind]; with_reducible refine zw_mono (zxw_simple (by assumption) (by omega) (by omega)) ?_; rintro _ ⟨_, _, _, _⟩)
        | (rw [zw_B]; with_reducible refine zw_mono (zxb_add (by assumption) (by omega) rfl (by omega)) ?_; rintro _ ⟨e1, _⟩; try rw [e1])
        | rw [zx_isSign (by assumption), if_pos rfl]
        | rw [zx_isWord (by assumption), if_pos rfl]
        | rw [if_neg (zx_ne (by assumption))]
        | rw [if_neg (zx_pos (by assumption))]
        | rw [if_pos (show (0 : Int32) ≤ 0 by decide)]
/-- a call's operands -/
theorem zk_ncL {D1 D2 : Nat} (EP : zk_EP h0 g0 T n K LC (d + 1)) (ho : o ≤ d) (hq : q ≤ d + 1) (hq1 : 1 ≤ q) (hD1 : 3 * (60 - d) + 2 ≤ D1 + 2) (hD2 : 4 * (60 - d) + 1 ≤ D2 + 1) (hs : s ≤ 2 * j + 12) (hm : m ≤ 2 * j + 12) (hd6 : d < 60) : ∀ (r N N' : Nat) {c : Nat} {y : Int32} {u : zt_T} {LM' : List (List Int32)} {j' d' s' m' e : Nat} {h' g' : zs_H}, zk_J h0 g0 T n K LC LM j d s m o q 34 p v h g u y LM' j' d' s' m' e 0 ((60 - (d + 1)) + (d' - (d + 1)) + 2) h' g' → K < j' + r → r + 2 ≤ N → r + 2 ≤ N' → c ≤ j' → zq_vl y → d + 1 ≤ d' → j < j' → 2 ≤ e → zk_G h0 g0 T n K LC m 20900 (o + 1) (zk_X h0 g0 T n K LC LM j d s m o q 0 0 h g) (f_Ps_namedOperand_L216 (f_Ps_expression (D1 + 2)) N h' (nI s) y 1 (nI c)) ((f_Mo_call_L32 (f_Mo_expression (D2 + 1)) N' g' (nI m) 1).bind fun h11 => f_Mo_nameOperand_142 h11 (nI m)) := by
  intro r
  induction r with
  | zero => intro N N' c y u LM' j' d' s' m' e h' g' I hr; have := zk_Jb I; omega
  | succ r ih =>
    intro N N' c y u LM' j' d' s' m' e h' g' I hr hN hN' hc vy hd hj he
    have b := zk_Jb I
    have v0 : zq_v (nI s) := ⟨s, by omega, rfl⟩
    obtain ⟨N, rfl⟩ : ∃ z, N = z + 3 := ⟨N - 3, by omega⟩
    obtain ⟨N', rfl⟩ : ∃ z, N' = z + 3 := ⟨N' - 3, by omega⟩
    show zk_G _ _ _ _ _ _ _ _ _ _ (f_Ps_namedOperand_216 (f_Ps_expression (D1 + 2)) (f_Ps_namedOperand_L216 (f_Ps_expression (D1 + 2)) (N + 2)) h' (nI s) y 1 (nI c)) ((f_Mo_call_32 (f_Mo_expression (D2 + 1)) (f_Mo_call_L32 (f_Mo_expression (D2 + 1)) (N' + 2)) g' (nI m) 1).bind fun h11 => f_Mo_nameOperand_142 h11 (nI m))
    unfold f_Ps_namedOperand_216 f_Mo_call_32
    rw [if_neg (mt (zc_le (k := 16384) (t := c) (by decide) (by omega)).mp (by omega)), if_neg (show ¬ (1 : Int32) = 0 by decide), if_neg (show ¬ (1 : Int32) = 0 by decide)]
    obtain ⟨x, h4, g4, e7, e8, R⟩ := EP (D := D1 + 2) (D' := D2 + 1) (b := m) I.1 hd (by omega) (by omega) hq1 (by omega) (by omega) (by omega) (by omega) (by omega)
    rw [e7, e8, zo_B, Option.bind_some]
    rcases R with R | ⟨vx, φ, w, m2, w1, w2, z1, z2⟩
    · obtain ⟨h5, u5, LM5, j5, d5, s5, m5, e9, lt5, ld5, vx, J5⟩ := zk_Jc (dd := d + 1) (st' := 0) I R (by decide) hd (Nat.le_refl _)
      rw [e9, zo_B]
      have b5 := zk_Jb J5
      rw [show f_Mo_isSign g4 44 = if (h5.1 19 5) = nI 44 then 1 else 0 from zk_sign J5.1 (c := 44) (k := 44) (by decide)]
      unfold f_Ps_namedOperand_257 f_Ps_namedOperand_268
      by_cases c44 : (h5.1 19 5) = 44
      · rw [if_pos c44, if_pos (show (h5.1 19 5) = nI 44 from c44), if_neg (show ¬ (1 : Int32) = 0 by decide), if_neg (show ¬ (1 : Int32) = 0 by decide)]
        obtain ⟨h6, g6, e10, e11, f5, f6, R⟩ := zk_step J5.1 (zk_notE J5.1 (by rw [c44]; decide))
        rw [c44] at e10
        rw [e10, e11, Option.bind_some, Option.bind_some, nI_1]
        rcases R with ⟨LM6, hp6, L6⟩ | ⟨φ, w, z1, z2⟩
        · have J6 := zk_Jt J5 (zk_Yk ⟨f5, f6⟩ hp6) (by omega) (by omega) L6
          exact ih (N + 2) (N' + 2) (c := c + 1) J6 (by omega) (by omega) (by omega) (by omega) (zq_vl_v vx) (by omega) (by omega) (by omega)
        · refine zk_Gf (φ := φ) (w := w) (zz_L216 z1 v0 (zq_vl_v vx)) ?_
          rw [zw_bind]
          exact zw_mono (zxb_callL z2) fun g' z => zw_mono (zxb_142 z (by omega)) fun g' z => ⟨_, by omega, z⟩
      · rw [if_neg c44, if_neg (show ¬ (h5.1 19 5) = nI 44 from c44), if_pos (show (0 : Int32) = 0 from rfl), if_pos (show (0 : Int32) = 0 from rfl), zy_L216, zy_L32, Option.bind_assoc]
        exact zk_ncE J5 (by omega) (by omega) he (by omega) (by omega) hm
    · refine zk_Gf (φ := φ) (w := w) ?_ ?_
      · rw [zw_B]
        refine zw_mono (zz_hang z1 v0 vy vx) ?_
        rintro ⟨v7, h8⟩ ⟨y3, y4⟩
        rw [if_neg (zq_ne y4 (by decide) (by decide))]
        unfold f_Ps_namedOperand_257 f_Ps_namedOperand_268
        rw [if_pos rfl]
        exact zz_L216 y4 v0 (zq_vl_v y3)
      · rw [zx_isSign z2, if_pos rfl, zw_bind]
        exact zw_mono (zxb_callL z2) fun g' z => zw_mono (zxb_142 z (by omega)) fun g' z => ⟨_, by omega, z⟩
/-- a call -/
theorem zk_ncall {D1 D2 : Nat} (EP : d < 60 → zk_EP h0 g0 T n K LC (d + 1)) (I : zk_J h0 g0 T n K LC LM j d s m o q 34 p v h g .leaf (-1) LM' j' d s' m' e 0 1 h' g') (ho : o ≤ d) (hq : q ≤ d + 1) (hq1 : 1 ≤ q) (hD1 : 3 * (60 - d) + 2 ≤ D1) (hD2 : 4 * (60 - d) + 1 ≤ D2) (hj : j < j') (he : 2 ≤ e) (hs : s ≤ 2 * j + 12) (hm : m ≤ 2 * j + 12) : zk_G h0 g0 T n K LC m 20900 (o + 1) (zk_X h0 g0 T n K LC LM j d s m o q 0 0 h g) ((f_Ps_deepen h').bind fun h12 => ((f_Ps_take h12 40).bind fun h14 => (if (h14.1 19 5) = 41 then f_Ps_namedOperand_212 (f_Ps_expression D1) h14 (nI s) (-1) 0 else f_Ps_namedOperand_212 (f_Ps_expression D1) h14 (nI s) (-1) 1))) ((g_Mo_call (f_Mo_expression D2) g' (nI m)).bind fun h11 => f_Mo_nameOperand_142 h11 (nI m)) := by
  have b := zk_Jb I
  have v0 : zq_v (nI s) := ⟨s, by omega, rfl⟩
  obtain ⟨D1, rfl⟩ : ∃ z, D1 = z + 2 := ⟨D1 - 2, by omega⟩
  obtain ⟨D2, rfl⟩ : ∃ z, D2 = z + 1 := ⟨D2 - 1, by omega⟩
  unfold g_Mo_call f_Ps_namedOperand_212 f_Mo_call_30 f_Mo_call_31
  simp only [Option.bind_assoc]
  rw [show zF = 18446744073709551614 + 2 from rfl]
  obtain ⟨h2, g2, e3, e4, R⟩ := zk_deep I.1
  rw [e3, e4, Option.bind_some, Option.bind_some]
  have badm : ∀ φ w g3, zx_B g0 T n φ w m' o g3 → zw ((if (g3.1 68 10) = 0 then (if (f_Mo_isSign g3 41) = 0 then f_Mo_call_L32 (f_Mo_expression (D2 + 1)) (18446744073709551614 + 2) g3 (nI m) 1 else f_Mo_call_L32 (f_Mo_expression (D2 + 1)) (18446744073709551614 + 2) g3 (nI m) 0) else f_Mo_call_L32 (f_Mo_expression (D2 + 1)) (18446744073709551614 + 2) g3 (nI m) 0).bind fun h11 => f_Mo_nameOperand_142 h11 (nI m)) (fun g' => ∃ m', (m ≤ m' ∧ m' ≤ 20900) ∧ zx_B g0 T n φ w m' (o + 1) g') := by
    intro φ w g3 z2
    rw [if_neg (zx_ne z2), zw_bind]
    exact zw_mono (zxb_callL z2) fun g' z => zw_mono (zxb_142 z (by omega)) fun g' z => ⟨_, by omega, z⟩
  have badc : ∀ φ w h3, zq_Z h0 T n K LC φ w h3 → zw (if (h3.1 19 5) = 41 then f_Ps_namedOperand_L216 (f_Ps_expression (D1 + 2)) (18446744073709551614 + 2) h3 (nI s) (-1) 0 0 else f_Ps_namedOperand_L216 (f_Ps_expression (D1 + 2)) (18446744073709551614 + 2) h3 (nI s) (-1) 1 0) (fun p => zq_v p.1 ∧ zq_Z h0 T n K LC φ w p.2) := by
    intro φ w h3 z1
    rw [if_neg (zq_ne z1 (by decide) (by decide))]
    exact zz_L216 z1 v0 zq_vl_n
  rcases R with ⟨hd, L2, f1, f2⟩ | ⟨φ, w, z1, z2⟩
  · have J2 := zk_Jt I (zk_Yo f1 f2) (by omega) (Nat.le_refl j') L2
    obtain ⟨h3, g3, e5, e6, R⟩ := zk_wantS J2.1 (c := 40) (k := 40) (by decide) (by decide)
    rw [show f_Ps_take h2 40 = some h3 from e5, show f_Mo_wantSign g2 40 = some g3 from e6, Option.bind_some, Option.bind_some]
    rcases R with ⟨φ, w, z1, z2⟩ | ⟨_, ⟨f3, f4, LM3, hp, L3⟩ | ⟨φ, w, z1, z2⟩⟩
    · exact zk_Gf (φ := φ) (w := w) (badc φ w h3 z1) (badm φ w g3 z2)
    · have J3 := zk_Jt J2 (zk_Yk ⟨f3, f4⟩ hp) (by omega) (by omega) L3
      have b3 := zk_Jb J3
      have m2 := L3.2.2.2.2.2.2.1
      rw [if_pos m2, show f_Mo_isSign g3 41 = if (h3.1 19 5) = nI 41 then 1 else 0 from zk_sign L3 (c := 41) (k := 41) (by decide)]
      by_cases c41 : (h3.1 19 5) = 41
      · rw [if_pos c41, if_pos (show (h3.1 19 5) = nI 41 from c41), if_neg (show ¬ (1 : Int32) = 0 by decide), zy_L216, zy_L32, Option.bind_assoc]
        exact zk_ncE J3 (by omega) (by omega) (by omega) (by omega) (by omega) hm
      · rw [if_neg c41, if_neg (show ¬ (h3.1 19 5) = nI 41 from c41), if_pos (show (0 : Int32) = 0 from rfl)]
        have J3' : zk_J h0 g0 T n K LC LM j d s m o q 34 p v h g .leaf (-1) LM3 (j' + 1) (d + 1) s' m' (e + 2 * (j' - j') + 2 * (j' + 1 - j')) 0 ((60 - (d + 1)) + (d + 1 - (d + 1)) + 2) h3 g3 := ⟨J3.1, J3.2.1, J3.2.2.1, J3.2.2.2.1, J3.2.2.2.2.1, J3.2.2.2.2.2.1, zg_U0, J3.2.2.2.2.2.2.2⟩
        exact zk_ncL (EP hd) ho hq hq1 hD1 hD2 hs hm hd (K + 1) _ _ (c := 0) J3' (by omega) (by omega) (by omega) (by omega) zq_vl_n (by omega) (by omega) (by omega)
    · exact zk_Gf (φ := φ) (w := w) (badc φ w h3 z1) (badm φ w g3 z2)
  · refine zk_Gf (φ := φ) (w := w) ?_ ?_
    · rw [zw_bind]
      exact zw_mono (zz_take z1) fun h3 z1 => badc φ w h3 z1
    · rw [zw_bind]
      exact zw_mono (zxw_wantSign z2) fun g3 z2 => badm φ w g3 z2
/-- an operand with a name -/
theorem zk_named {D1 D2 : Nat} (EP : d < 60 → zk_EP h0 g0 T n K LC (d + 1)) (H : zk_L h0 g0 T n K LC h g LM j d s m o q) (ho : o ≤ d) (hq : q ≤ d + 1) (hq1 : 1 ≤ q) (hD1 : 3 * (60 - d) + 2 ≤ D1) (hD2 : 4 * (60 - d) + 1 ≤ D2) (hs : s ≤ 2 * j + 12) (hm : m ≤ 2 * j + 12) (ht : (h.1 19 5) = 8) : zk_G h0 g0 T n K LC m 20900 (o + 1) (zk_X h0 g0 T n K LC LM j d s m o q 0 0 h g) (g_Ps_namedOperand (f_Ps_expression D1) h) (g_Mo_nameOperand (g_Mo_call (f_Mo_expression D2)) (g_Mo_element (f_Mo_expression D2)) g) := by
  have bK := zk_bK H
  have x3 := (zk_dd H).2.2.1
  have m4 := H.2.2.2.2.2.2.2.2.1
  have hk := (zk_kind H).1
  have hk1 : (zl_at T n j).1 = 1 := (zc_eq (k := 1) (by decide) (by have := (zk_F H).1; omega)).mp (by rw [← H.2.2.2.2.2.2.2.2.2.2.1]; exact hk.mpr ht)
  obtain ⟨_, nr⟩ := zk_nm H hk1
  have v0 : zq_v (nI s) := ⟨s, by omega, rfl⟩
  unfold g_Ps_namedOperand g_Mo_nameOperand
  rw [if_pos (zk_atI H)]
  obtain ⟨vc, hvc⟩ : ∃ vc, vc = h.2.1 11 ((h.1 19 4)).toNatClampNeg := ⟨_, rfl⟩
  rw [← hvc] at nr ⊢
  obtain ⟨h1, e1, L1, qA⟩ := zk_cadd H (kd := 6) (kv := 6) (v := vc) (by omega) (by decide) rfl
  rw [e1, zo_B]
  have etk : (h1.1 19 5) = (h.1 19 5) := by rw [L1.2.2.2.1.2.2.1, H.2.2.2.1.2.2.1]
  obtain ⟨h2, g2, e2, e3, R⟩ := zk_want L1 (x := 8) (y := 1) ⟨fun _ => by rw [etk]; exact ht, fun _ => by decide⟩ (by decide)
  have en : f_Mo_name g = some ((g.1 68 9), g2) := by
    unfold f_Mo_name f_Mo_name_19
    rw [if_pos (hk.mpr ht), e3]; rfl
  rw [e2, Option.bind_some, en, zo_B]
  obtain ⟨vm, hvm⟩ : ∃ vm, vm = (g.1 68 9) := ⟨_, rfl⟩
  rw [← hvm] at nr ⊢
  have bad : ∀ φ w, zq_Z h0 T n K LC φ w h2 → zx_B g0 T n φ w m o g2 → zk_G h0 g0 T n K LC m 20900 (o + 1) (zk_X h0 g0 T n K LC LM j d s m o q 0 0 h g) (some (nI s, h2)) (f_Mo_nameOperand_55 (g_Mo_call (f_Mo_expression D2)) (g_Mo_element (f_Mo_expression D2)) g2 ((g.1 68 7)) vm 6) := by
    intro φ w z1 z2
    refine zk_Gf (φ := φ) (w := w) (zw_some.mpr ⟨v0, z1⟩) ?_
    unfold f_Mo_nameOperand_55
    rw [zw_B]
    refine zw_mono (zxb_node (kn := 6) z2 (by omega) rfl) fun q z => ?_
    rw [zx_isSign z.2, zx_isSign z.2, zx_isSign z.2, if_pos rfl, if_pos rfl, if_pos rfl]
    exact zw_mono (zxb_142 z.2 (by omega)) fun g' z => ⟨_, by omega, z⟩
  rcases R with ⟨φ, w, z1, z2⟩ | ⟨_, ⟨f1, f2, LM2, hp, L2⟩ | ⟨φ, w, z1, z2⟩⟩
  · rw [if_neg (zq_ne z1 (by decide) (by decide)), if_neg (zq_ne z1 (by decide) (by decide)), if_neg (zq_ne z1 (by decide) (by decide)), zx_isSign z2, zx_isSign z2, zx_isSign z2, if_pos rfl, if_pos rfl, if_pos rfl]
    exact bad φ w z1 z2
  · have nr2 := zt_nrm hp nr
    have kA := zq_kp_A qA
    have kf := zq_kp_f (s := s + 1) f1
    obtain ⟨c1, c2, c3, c4, c5⟩ := kf s (by omega)
    have hn2 : (h2.2.1 13) s = nI 6 ∧ (h2.2.1 15) s = nI (zl_at T n j).2.1 ∧ (h2.2.1 16) s = vc ∧ (h2.2.1 18) s = -1 ∧ (h2.2.1 17) s = -1 := by
      obtain ⟨q1, q2, q3, q4, q5, q6, q7⟩ := qA
      exact ⟨c1.trans (by rw [q2, if_pos rfl]), c2.trans (by rw [q3, if_pos rfl]), c3.trans (by rw [q4, if_pos rfl]), c5.trans (by rw [q6, if_pos rfl]), c4.trans (by rw [q5, if_pos rfl])⟩
    have Y2 : zk_Y s m o LM h g LM2 h2 g2 := ⟨zq_kp_t kA kf (by omega), zx_ka_l f2, zo_fr_f f2 (by decide) (by decide) (by decide), hp⟩
    have mk : ∀ kd, kd < 128 → zt_km kd = kd → zt_nk kd = true → ∃ g3, f_Mo_node g2 (nI kd) ((g.1 68 7)) vm = some (nI m, g3) ∧ zk_J h0 g0 T n K LC LM j d s m o q kd (nI (zl_at T n j).2.1) vc h g .leaf (-1) LM2 (j + 1) d (s + 1) (m + 1) (2 * (j + 1 - j)) 0 1 (zs_uM h2 13 s (nI kd)) g3 := by
      intro kd k1 k2 k3
      have fV : zfr [] [13] [] h2 (zs_uM h2 13 s (nI kd)) := zfr_M (by decide) zfr_rfl
      have ek : ∀ i, (zs_uM h2 13 s (nI kd)).2.1 13 i = if i = s then nI kd else (h2.2.1 13) i := fun i => by simp [zu_MM]
      have Y3 : zk_Y s m o LM h g LM2 (zs_uM h2 13 s (nI kd)) g2 := ⟨zq_kp_t Y2.1 (fun i hi => ⟨by rw [ek, if_neg (by omega)], rfl, rfl, rfl, rfl⟩) (Nat.le_refl s), Y2.2⟩
      rw [m4]
      exact zk_J1 (D := 1) (kd := kd) (km := nI kd) (w := vm) (v := vc) (p := nI (zl_at T n j).2.1) (zk_cf L2 fV (by decide)) Y3 (by omega) (Nat.le_refl d) ⟨by rw [ek, if_pos rfl], hn2.2.1, hn2.2.2.1, hn2.2.2.2.1, hn2.2.2.2.2⟩ (by omega) (by omega) (by rw [k2]) (by rw [if_pos k3]; exact nr2)
    rw [show f_Mo_isSign g2 91 = if (h2.1 19 5) = nI 91 then 1 else 0 from zk_sign L2 (c := 91) (k := 91) (by decide), show f_Mo_isSign g2 46 = if (h2.1 19 5) = nI 46 then 1 else 0 from zk_sign L2 (c := 46) (k := 46) (by decide), show f_Mo_isSign g2 40 = if (h2.1 19 5) = nI 40 then 1 else 0 from zk_sign L2 (c := 40) (k := 40) (by decide)]
    unfold f_Mo_nameOperand_55
    have hin : zd_in (nI s) 32784 := zi_in (by omega) (by omega)
    have ecl : (nI s).toNatClampNeg = s := nI_clamp (by omega)
    have e01 : ¬ (1 : Int32) = 0 := by decide
    by_cases t46 : (h2.1 19 5) = 46
    · have n91 : ¬ (h2.1 19 5) = nI 91 := by rw [t46]; decide
      obtain ⟨g3, e4, J⟩ := mk 33 (by decide) rfl rfl
      rw [if_neg n91, if_pos (show (0 : Int32) = 0 from rfl), if_pos t46, if_pos hin, if_pos (show (h2.1 19 5) = nI 46 from t46), if_neg e01, ecl]
      rw [show f_Mo_node g2 33 ((g.1 68 7)) vm = some (nI m, g3) from e4, zo_B, show f_Mo_isSign g3 91 = if (h2.1 19 5) = nI 91 then 1 else 0 from zk_sign J.1 (c := 91) (k := 91) (by decide), if_neg n91, if_pos (show (0 : Int32) = 0 from rfl), show f_Mo_isSign g3 46 = if (h2.1 19 5) = nI 46 then 1 else 0 from zk_sign J.1 (c := 46) (k := 46) (by decide), if_pos (show (h2.1 19 5) = nI 46 from t46), if_neg e01]
      exact zk_nout J (by omega) (by omega) (by omega) (by omega) (by omega) t46
    have n46 : ¬ (h2.1 19 5) = nI 46 := t46
    by_cases t91 : (h2.1 19 5) = 91
    · obtain ⟨g3, e4, J⟩ := mk 32 (by decide) rfl rfl
      rw [if_neg t46, if_pos t91, if_pos hin, if_pos (show (h2.1 19 5) = nI 91 from t91), if_neg e01, ecl]
      rw [show f_Mo_node g2 32 ((g.1 68 7)) vm = some (nI m, g3) from e4, zo_B, show f_Mo_isSign g3 91 = if (h2.1 19 5) = nI 91 then 1 else 0 from zk_sign J.1 (c := 91) (k := 91) (by decide), if_pos (show (h2.1 19 5) = nI 91 from t91), if_neg e01]
      exact zk_nel EP J ho hq hq1 hD1 hD2 (by omega) (by omega) hs hm
    have n91 : ¬ (h2.1 19 5) = nI 91 := t91
    by_cases t40 : (h2.1 19 5) = 40
    · obtain ⟨g3, e4, J⟩ := mk 34 (by decide) rfl rfl
      rw [if_neg t46, if_neg t91, if_pos t40, if_pos hin, if_neg n91, if_neg n46, if_pos (show (h2.1 19 5) = nI 40 from t40), if_pos (show (0 : Int32) = 0 from rfl), if_pos (show (0 : Int32) = 0 from rfl), if_neg e01, ecl]
      rw [show f_Mo_node g2 34 ((g.1 68 7)) vm = some (nI m, g3) from e4, zo_B, show f_Mo_isSign g3 91 = if (h2.1 19 5) = nI 91 then 1 else 0 from zk_sign J.1 (c := 91) (k := 91) (by decide), if_neg n91, if_pos (show (0 : Int32) = 0 from rfl), show f_Mo_isSign g3 46 = if (h2.1 19 5) = nI 46 then 1 else 0 from zk_sign J.1 (c := 46) (k := 46) (by decide), if_neg n46, if_pos (show (0 : Int32) = 0 from rfl), show f_Mo_isSign g3 40 = if (h2.1 19 5) = nI 40 then 1 else 0 from zk_sign J.1 (c := 40) (k := 40) (by decide), if_pos (show (h2.1 19 5) = nI 40 from t40), if_neg e01]
      exact zk_ncall EP J ho hq hq1 hD1 hD2 (by omega) (by omega) hs hm
    have n40 : ¬ (h2.1 19 5) = nI 40 := t40
    have eh : zs_uM h2 13 s (nI 6) = h2 := by
      unfold zs_uM
      refine Prod.ext rfl (Prod.ext ?_ rfl)
      funext a b
      show (if a = 13 ∧ b = s then nI 6 else h2.2.1 a b) = h2.2.1 a b
      by_cases z : a = 13 ∧ b = s
      · rw [if_pos z, z.1, z.2]; exact hn2.1.symm
      · rw [if_neg z]
    obtain ⟨g3, e4, J⟩ := mk 6 (by decide) rfl rfl
    rw [eh] at J
    rw [if_neg t46, if_neg t91, if_neg t40, if_neg n91, if_neg n46, if_neg n40, if_pos (show (0 : Int32) = 0 from rfl), if_pos (show (0 : Int32) = 0 from rfl), if_pos (show (0 : Int32) = 0 from rfl)]
    rw [show f_Mo_node g2 6 ((g.1 68 7)) vm = some (nI m, g3) from e4, zo_B, show f_Mo_isSign g3 91 = if (h2.1 19 5) = nI 91 then 1 else 0 from zk_sign J.1 (c := 91) (k := 91) (by decide), if_neg n91, if_pos (show (0 : Int32) = 0 from rfl), show f_Mo_isSign g3 46 = if (h2.1 19 5) = nI 46 then 1 else 0 from zk_sign J.1 (c := 46) (k := 46) (by decide), if_neg n46, if_pos (show (0 : Int32) = 0 from rfl), show f_Mo_isSign g3 40 = if (h2.1 19 5) = nI 40 then 1 else 0 from zk_sign J.1 (c := 40) (k := 40) (by decide), if_neg n40, if_pos (show (0 : Int32) = 0 from rfl)]
    exact zk_142 J (by omega) rfl rfl (by decide) (by decide) (by omega) (by omega) (by omega)
  · rw [if_neg (zq_ne z1 (by decide) (by decide)), if_neg (zq_ne z1 (by decide) (by decide)), if_neg (zq_ne z1 (by decide) (by decide)), zx_isSign z2, zx_isSign z2, zx_isSign z2, if_pos rfl, if_pos rfl, if_pos rfl]
    exact bad φ w z1 z2
end ZT
end
section
/-! Both readers in step: operands, expressions. -/
theorem zo_Bs {A : Option (Int32 × zs_H)} : (zd_B A fun a h => some (a, h)) = A := by cases A <;> rfl
theorem zm_bs {α : Type} {A : Option α} : (A.bind fun a => some a) = A := by cases A <;> rfl
theorem zo_Slv {LC LM : List (List Int32)} {g : zs_H} {f o k : Nat} {t : zt_T} {P : Nat → Prop} {lv lv' : Nat} (H : zo_S LC LM g f o k t P lv) (h : lv' ≤ lv) : zo_S LC LM g f o k t P lv' := by
  cases f with
  | zero => exact H
  | succ f =>
    rcases H with H | ⟨k0, k1, t0, t1, P0, P1, sg, pl, r1, r2, r3, r4, r5, r6, r7⟩
    · exact Or.inl H
    · exact Or.inr ⟨k0, k1, t0, t1, P0, P1, sg, pl, r1, r2, r3, r4, r5, by omega, r7⟩
theorem zo_Sup {LC LM : List (List Int32)} {g : zs_H} {f o k : Nat} {t : zt_T} {P : Nat → Prop} {lv : Nat} (H : zo_S LC LM g f o k t P lv) : ∀ w, zo_S LC LM g (f + w) o k t P lv := by
  intro w
  induction w with
  | zero => exact H
  | succ w ih => exact zo_Sm (f + w) ih (fun _ z => z) (Nat.le_refl _)
theorem zy_L13 {r : zs_H → Int32 → Option (Int32 × zs_H)} {N : Nat} {h : zs_H} {x1 x2 x4 : Int32} : f_Ps_expression_L13 r (N + 1) h x1 x2 (-1) x4 = some (x2, h) := by
  show f_Ps_expression_13 r (f_Ps_expression_L13 r N) h x1 x2 (-1) x4 = _
  unfold f_Ps_expression_13
  rw [if_pos (show (-1 : Int32) < 0 by decide)]
  split <;> rfl
theorem zz_L13 {h0 h : zs_H} {T : Nat → Int32} {n K φ w : Nat} {LC : List (List Int32)} {r : zs_H → Int32 → Option (Int32 × zs_H)} {N : Nat} {x1 x2 x4 : Int32} (H : zq_Z h0 T n K LC φ w h) (v2 : zq_v x2) : zw (f_Ps_expression_L13 r (N + 1) h x1 x2 (f_Ps_operator h) x4) (fun p => zq_v p.1 ∧ zq_Z h0 T n K LC φ w p.2) := by
  rw [zz_operator H, zy_L13, zw_some]
  exact ⟨v2, H⟩
section ZUu
variable {h0 g0 h g h' g' : zs_H} {T : Nat → Int32} {n K : Nat} {LC LM LM' : List (List Int32)} {j d s m o q : Nat}
theorem zk_OPm {a b : Nat} (w : a ≤ b) (O : zk_OP h0 g0 T n K LC a) : zk_OP h0 g0 T n K LC b := by
  intro h g LM j d s m o q D D' H h1
  exact O H (by omega)
theorem zk_EPm {a b : Nat} (w : a ≤ b) (O : zk_EP h0 g0 T n K LC a) : zk_EP h0 g0 T n K LC b := by
  intro h g LM j d s m o q D D' b' H h1
  exact O H (by omega)
theorem zk_OPof {d0 : Nat} (OP : zk_OP h0 g0 T n K LC (d0 + 1)) (EP : zk_EP h0 g0 T n K LC (d0 + 1)) : zk_OP h0 g0 T n K LC d0 := by
  intro h g LM j d s m o q D D' H h1 h2 h3 h4 h5 h6 h7 h8
  have OP' : d < 60 → zk_OP h0 g0 T n K LC (d + 1) := fun _ => zk_OPm (by omega) OP
  have EP' : d < 60 → zk_EP h0 g0 T n K LC (d + 1) := fun _ => zk_EPm (by omega) EP
  have bK := zk_bK H
  have x3 := (zk_dd H).2.2.1
  have m2 := H.2.2.2.2.2.2.1
  have m4 := H.2.2.2.2.2.2.2.2.1
  obtain ⟨D, rfl⟩ : ∃ z, D = z + 2 := ⟨D - 2, by omega⟩
  obtain ⟨D', rfl⟩ : ∃ z, D' = z + 3 := ⟨D' - 3, by omega⟩
  rw [zy_o, zy_mo, zy_n, zy_mn, zy_mc, zy_ml, zy_mb]
  unfold g_Ps_operand g_Mo_operand
  have z0 : (0 : Int32) = 0 := rfl
  have e01 : ¬ (1 : Int32) = 0 := by decide
  rw [if_pos (show (g.1 68 10) ≤ 0 by rw [m2]; decide), show f_Mo_isSign g 45 = if (h.1 19 5) = nI 45 then 1 else 0 from zk_sign H (c := 45) (k := 45) (by decide), show f_Mo_isSign g 40 = if (h.1 19 5) = nI 40 then 1 else 0 from zk_sign H (c := 40) (k := 40) (by decide), show f_Mo_isWord g 34 = if (h.1 19 5) = nI 162 then 1 else 0 from zk_word H (c := 34) (by decide), show f_Mo_isWord g 35 = if (h.1 19 5) = nI 163 then 1 else 0 from zk_word H (c := 35) (by decide), show f_Mo_isWord g 36 = if (h.1 19 5) = nI 164 then 1 else 0 from zk_word H (c := 36) (by decide)]
  obtain ⟨k1, k3, k4, k0⟩ := zk_kind H
  by_cases t8 : (h.1 19 5) = 8
  · have n45 : ¬ (h.1 19 5) = nI 45 := by rw [t8]; decide
    have n40 : ¬ (h.1 19 5) = nI 40 := by rw [t8]; decide
    have n162 : ¬ (h.1 19 5) = nI 162 := by rw [t8]; decide
    have n163 : ¬ (h.1 19 5) = nI 163 := by rw [t8]; decide
    have n164 : ¬ (h.1 19 5) = nI 164 := by rw [t8]; decide
    have n3 : ¬ (g.1 68 6) = 3 := fun z => by have := k3.mp z; rw [t8] at this; exact absurd this (by decide)
    rw [if_pos t8, if_neg n45, if_pos z0, if_neg n162, if_pos z0, if_neg n3, if_neg n163, if_pos z0, if_neg n164, if_pos z0, if_neg n40, if_pos z0, if_pos (k1.mpr t8), zo_Bs, zm_bs]
    exact zk_named EP' H h2 h3 h4 (by omega) (by omega) h7 h8 t8
  have n1 : ¬ (g.1 68 6) = 1 := fun z => t8 (k1.mp z)
  by_cases t40 : (h.1 19 5) = 40
  · have n45 : ¬ (h.1 19 5) = nI 45 := by rw [t40]; decide
    have n162 : ¬ (h.1 19 5) = nI 162 := by rw [t40]; decide
    have n163 : ¬ (h.1 19 5) = nI 163 := by rw [t40]; decide
    have n164 : ¬ (h.1 19 5) = nI 164 := by rw [t40]; decide
    have n3 : ¬ (g.1 68 6) = 3 := fun z => by have := k3.mp z; rw [t40] at this; exact absurd this (by decide)
    rw [if_neg t8, if_pos t40, if_neg n45, if_pos z0, if_neg n162, if_pos z0, if_neg n3, if_neg n163, if_pos z0, if_neg n164, if_pos z0, if_pos (show (h.1 19 5) = nI 40 from t40), if_neg e01, zm_bs]
    exact zk_brk EP' H h2 h3 h4 (by omega) (by omega) h7 h8 t40
  have n40 : ¬ (h.1 19 5) = nI 40 := t40
  by_cases t45 : (h.1 19 5) = 45
  · have kd5 := (zk_sgv H (c := 45) (k := 45) (by decide) t45).1
    rw [if_neg t8, if_neg t40, if_pos t45, if_pos t45, if_pos (show (h.1 19 5) = nI 45 from t45), if_neg e01]
    unfold f_Mo_operand_26
    rw [if_pos kd5]
    exact zk_one (c := 0) OP' H h2 h3 h4 (by omega) (by omega) h7 h8 (by decide) (by rw [t45]; decide)
  have n45 : ¬ (h.1 19 5) = nI 45 := t45
  by_cases t162 : (h.1 19 5) = 162
  · have kw := (zk_wd H 34 (by decide)).mp t162
    rw [if_neg t8, if_neg t40, if_neg t45, if_neg t45, if_pos t162, if_neg n45, if_pos z0, if_pos (show (h.1 19 5) = nI 162 from t162), if_neg e01]
    unfold f_Mo_operand_26
    rw [if_neg (show ¬ (g.1 68 6) = 5 by rw [kw.1]; decide)]
    exact zk_one (c := 1) OP' H h2 h3 h4 (by omega) (by omega) h7 h8 (by decide) (by rw [t162]; decide)
  have n162 : ¬ (h.1 19 5) = nI 162 := t162
  by_cases t163 : (h.1 19 5) = 163
  · have kw := (zk_wd H 35 (by decide)).mp t163
    have n3 : ¬ (g.1 68 6) = 3 := by rw [kw.1]; decide
    rw [if_neg t8, if_neg t40, if_neg t45, if_neg t162, if_pos t163, if_pos t163, if_neg n45, if_pos z0, if_neg n162, if_pos z0, if_neg n3, if_pos (show (h.1 19 5) = nI 163 from t163), if_neg e01]
    unfold f_Mo_operand_162 f_Ps_operand_189
    exact zk_olf (kd := 31) (x := 163) (X := fun h3 => (h3.1 19 5)) H h2 h7 h8 (by decide) rfl rfl rfl (by decide) (by decide) rfl (Or.inr ⟨1, by decide, rfl, fun z => by omega⟩) (by rw [kw.2]; rfl) t163 (by decide) (fun h3 z => by rw [z]; exact t163)
  have n163 : ¬ (h.1 19 5) = nI 163 := t163
  by_cases t164 : (h.1 19 5) = 164
  · have kw := (zk_wd H 36 (by decide)).mp t164
    have n3 : ¬ (g.1 68 6) = 3 := by rw [kw.1]; decide
    rw [if_neg t8, if_neg t40, if_neg t45, if_neg t162, if_neg t163, if_pos t164, if_neg t163, if_neg n45, if_pos z0, if_neg n162, if_pos z0, if_neg n3, if_neg n163, if_pos z0, if_pos (show (h.1 19 5) = nI 164 from t164), if_neg e01]
    unfold f_Mo_operand_162 f_Ps_operand_189
    exact zk_olf (kd := 31) (x := 164) (X := fun h3 => (h3.1 19 5)) H h2 h7 h8 (by decide) rfl rfl rfl (by decide) (by decide) rfl (Or.inr ⟨0, by decide, rfl, fun z => by omega⟩) (by rw [kw.2]; rfl) t164 (by decide) (fun h3 z => by rw [z]; exact t164)
  have n164 : ¬ (h.1 19 5) = nI 164 := t164
  rw [if_neg t8, if_neg t40, if_neg t45, if_neg t162, if_neg t163, if_neg t164, if_neg n45, if_pos z0, if_neg n162, if_pos z0, if_neg n163, if_neg n164, if_neg n40, if_pos (zk_atI H)]
  by_cases t9 : (h.1 19 5) = 9
  · rw [if_pos (k3.mpr t9)]
    have hk1 : (zl_at T n j).1 = 3 := (zc_eq (k := 3) (by decide) (by have := (zk_F H).1; omega)).mp (by rw [← H.2.2.2.2.2.2.2.2.2.2.1]; exact k3.mpr t9)
    obtain ⟨_, v1, v2⟩ := zk_num H (Or.inl hk1)
    exact zk_olf (kd := 30) (x := 9) (X := fun _ => 9) H h2 h7 h8 (by decide) rfl rfl rfl (by decide) (by decide) rfl (Or.inl rfl) (by rw [v1, v2]) t9 (by decide) (fun h3 z => rfl)
  · rw [if_neg (fun z => t9 (k3.mp z)), if_pos z0, if_pos z0, if_pos z0, if_neg n1]
    obtain ⟨h1', e1, L1, qA⟩ := zk_cadd H (kd := 30) (kv := 30) (v := h.2.1 11 ((h.1 19 4)).toNatClampNeg) (by omega) (by decide) rfl
    have etk : (h1'.1 19 5) = (h.1 19 5) := by rw [L1.2.2.2.1.2.2.1, H.2.2.2.1.2.2.1]
    rw [e1, zo_B]
    obtain ⟨hz, gz, e2, e3, φ, w, z1, z2⟩ := zk_wrong L1 (x := 9) (by rw [etk]; exact t9)
    rw [e2, e3]
    exact ⟨nI s, hz, gz, rfl, rfl, Or.inr ⟨⟨s, by omega, rfl⟩, φ, w, m, by omega, by omega, z1, zx_Om z2 (by omega)⟩⟩
/-- operands and signs of an expression -/
theorem zk_exL {d0 lv D D' : Nat} (EX : zk_EX h0 g0 T n K LC (d0 + 1)) (hd0 : d0 ≤ d) (ho : o ≤ d) (hq : q ≤ d + 1) (hq1 : 1 ≤ q) (hD : 3 * (60 - d) + 4 ≤ D) (hD' : 4 * (60 - d) + 4 ≤ D') (hs : s ≤ 2 * j + 12) (hm : m ≤ 2 * j + 12) (hlv : lv ≤ 7) : ∀ (r N c : Nat) {x : Int32} {h1 g1 : zs_H} {k lvc : Nat}, zk_X h0 g0 T n K LC LM j d s m o q lvc k h g x h1 g1 → (f_Ps_operator h1 = -1 ∨ ∃ sg, sg < 14 ∧ f_Ps_operator h1 = nI sg ∧ (k = 0 ∨ zo_lv sg ≤ lvc)) → (k = 0 ∨ lv ≤ lvc) → 60 < k + r → r + 1 ≤ N → c ≤ k → ∃ x' h' g' k', d + k' ≤ 61 ∧ k ≤ k' ∧ f_Ps_expression_L13 (f_Ps_expression D) N h1 (nI lv) x (f_Ps_operator h1) (nI c) = some (x', h') ∧ (∀ N x1 x2 x3, f_Mo_expression_L38 (f_Mo_operand D') (N + (k' - k)) g1 x1 x2 x3 (f_Mo_signAt g1) = f_Mo_expression_L38 (f_Mo_operand D') N g' x1 x2 x3 (f_Mo_signAt g')) ∧ ((zk_X h0 g0 T n K LC LM j d s m o q lv k' h g x' h' g' ∧ (f_Ps_operator h' = -1 ∨ ∃ sg, sg < 14 ∧ f_Ps_operator h' = nI sg ∧ zo_lv sg < lv)) ∨ zk_Z h0 g0 T n K LC m 20900 (o + k' + 1) x' h' g') := by
  intro r
  induction r with
  | zero =>
    intro N c x h1 g1 k lvc X _ _ hk
    obtain ⟨t, LM1, j1, d1, s1, m1, a, _, _, L1, ⟨_, r4, _⟩, _⟩ := X
    have := (zk_dd L1).2.2.1
    omega
  | succ r ih =>
    intro N c x h1 g1 k lvc X hop hlc hk hN hc
    obtain ⟨N, rfl⟩ : ∃ z, N = z + 2 := ⟨N - 2, by omega⟩
    obtain ⟨D', rfl⟩ : ∃ z, D' = z + 1 := ⟨D' - 1, by omega⟩
    obtain ⟨D, rfl⟩ : ∃ z, D = z + 2 := ⟨D - 2, by omega⟩
    have X' : zk_X h0 g0 T n K LC LM j d s m o q lv k h g x h1 g1 := by
      obtain ⟨t, LM1, j1, d1, s1, m1, a, r0, r1, r2, r3, r4, r5, r6, r7, r8, r9⟩ := X
      refine ⟨t, LM1, j1, d1, s1, m1, a, r0, r1, r2, r3, r4, r5, r6, ?_, r8, r9⟩
      rcases hlc with e | e
      · subst e; exact r7
      · exact zo_Slv r7 e
    have hk60 : d + k ≤ 60 := by
      obtain ⟨t, LM1, j1, d1, s1, m1, a, _, _, L1, ⟨_, r4, _⟩, _⟩ := X
      have := (zk_dd L1).2.2.1
      omega
    rcases hop with e | ⟨sg, hsg, eop, hle⟩
    · exact ⟨x, h1, g1, k, by omega, Nat.le_refl k, by rw [e, zy_L13], fun N x1 x2 x3 => by rw [Nat.sub_self]; rfl, Or.inl ⟨X', Or.inl e⟩⟩
    have hsgI : (nI sg).toNatClampNeg = sg := nI_clamp (by omega)
    have hl6 := zo_l6 sg
    have e13 : ∀ M, f_Ps_expression_L13 (f_Ps_expression (D + 2)) (M + 1) h1 (nI lv) x (f_Ps_operator h1) (nI c) = f_Ps_expression_13 (f_Ps_expression (D + 2)) (f_Ps_expression_L13 (f_Ps_expression (D + 2)) M) h1 (nI lv) x (nI sg) (nI c) := fun M => by rw [eop]; rfl
    rw [e13 (N + 1)]
    unfold f_Ps_expression_13
    rw [if_neg (mt (zc_le (k := 16384) (t := c) (by decide) (by omega)).mp (by omega)), if_neg (nI_pos (by omega)), if_pos (zi_in (by omega) hsg), show zt_0.getD (nI sg).toNatClampNeg 0 = nI (zo_lv sg) by rw [hsgI]; exact zo_lvT sg hsg]
    by_cases clv : zo_lv sg < lv
    · rw [if_pos ((nI_ltI (by omega) (by omega)).mpr clv)]
      exact ⟨x, h1, g1, k, by omega, Nat.le_refl k, rfl, fun N x1 x2 x3 => by rw [Nat.sub_self]; rfl, Or.inl ⟨X', Or.inr ⟨sg, hsg, eop, clv⟩⟩⟩
    rw [if_neg (mt (nI_ltI (by omega) (by omega)).mp clv)]
    clear X'
    obtain ⟨t, LM1, j1, d1, s1, m1, a, ⟨r0, r0c⟩, r1, L1, ⟨n1, n2, n3, n4, n5, n6⟩, ⟨ex, n7, n8⟩, C1, kp1, S1, ka1, fr1⟩ := X
    have bK1 := zk_bK L1
    obtain ⟨y1, y2, y3, y4, y5, y6, y7⟩ := zk_dd L1
    have vs1 : zq_v (nI s1) := ⟨s1, by omega, rfl⟩
    have vx : zq_v x := ⟨a, by omega, ex⟩
    have m41 := L1.2.2.2.2.2.2.2.2.1
    obtain ⟨h2, e1, L2, qA⟩ := zk_cadd L1 (kd := 35) (kv := 35) (v := nI sg) (by omega) (by decide) rfl
    rw [e1, zo_B]
    have etk2 : (h2.1 19 5) = (h1.1 19 5) := by rw [L2.2.2.2.1.2.2.1, L1.2.2.2.1.2.2.1]
    have ntk : ¬ (h1.1 19 5) = 6 := by
      rcases zk_opr L1 with z | ⟨sg', _, _, z⟩
      · rw [eop] at z; exact absurd z (zc_m1 (by omega))
      · exact z
    obtain ⟨gB, hgB⟩ : ∃ gB, gB = zs_uM (zs_uM g1 82 (o + k) (nI sg)) 83 (o + k) ((g1.1 68 7)) := ⟨_, rfl⟩
    have fB : zfr [] [82, 83] [] g1 gB := by rw [hgB]; exact zfr_M (by decide) (zfr_M (by decide) zfr_rfl)
    have eB1 : ∀ i, (gB.2.1 82) i = if i = o + k then nI sg else (g1.2.1 82) i := fun i => by rw [hgB]; simp [zu_MM]
    have eB2 : ∀ i, (gB.2.1 83) i = if i = o + k then (g1.1 68 7) else (g1.2.1 83) i := fun i => by rw [hgB]; simp [zu_MM]
    have eBk : ∀ i, ¬ i = 82 → ¬ i = 83 → gB.2.1 i = g1.2.1 i := fun i a1 a2 => fB.2.1 i (by simp [a1, a2])
    have LB : zk_L h0 g0 T n K LC h2 gB LM1 j1 d1 (s1 + 1) m1 (o + k + 1) q := by
      have W : zx_W gB m1 := by unfold zx_W; rw [eBk _ (by decide) (by decide), eBk _ (by decide) (by decide)]; exact y5
      exact zk_hg L2 zfr_rfl (zfr_w fB (by decide) (by decide) (by decide)) L2.2.2.2.1.2.2.2.2.1 ((fB.1 _ _ (by decide)).trans y2) y3 ((fB.1 _ _ (by decide)).trans y4) W ((fB.1 _ _ (by decide)).trans y6) ((fB.1 _ _ (by decide)).trans y7)
    have e38 : ∀ M x1 x2 x3, f_Mo_expression_L38 (f_Mo_operand (D' + 1)) (M + 1) g1 x1 x2 x3 (f_Mo_signAt g1) = (f_Mo_open gB).bind fun h5 => ((f_Mo_next2 h5).bind fun h7 => ((f_Mo_operand (D' + 1) h7).bind fun h9 => f_Mo_expression_L38 (f_Mo_operand (D' + 1)) M h9 x1 x2 x3 (f_Mo_signAt h9))) := by
      intro M x1 x2 x3
      rw [zk_oper L1, eop]
      show f_Mo_expression_38 (f_Mo_operand (D' + 1)) (f_Mo_expression_L38 (f_Mo_operand (D' + 1)) M) g1 x1 x2 x3 (nI sg) = _
      unfold f_Mo_expression_38
      have eo : (g1.1 68 25) - 1 = nI (o + k) := by rw [y6, show (1 : Int32) = nI 1 from rfl, zi_sub (by omega)]; rfl
      rw [if_neg (nI_pos (by omega)), eo, if_pos (zi_in (by omega) (by omega)), nI_clamp (by omega), hgB]
    obtain ⟨h3, g3, e3, e4, R⟩ := zk_deep LB
    rw [e3, Option.bind_some]
    have badc : ∀ φ w hz, zq_Z h0 T n K LC φ w hz → zw (zd_B (f_Tr_hang hz (nI s1) (-1) x) fun v13 h14 => (if zd_in (nI sg) 14 then (zd_B (f_Ps_expression (D + 2) h14 (nI (zo_lv sg) + 1)) fun v17 h18 => (zd_B (f_Tr_hang h18 (nI s1) x v17) fun v20 h21 => f_Ps_expression_L13 (f_Ps_expression (D + 2)) (N + 1) h21 (nI lv) (nI s1) (f_Ps_operator h21) (nI c + 1))) else none)) (fun p => zq_v p.1 ∧ zq_Z h0 T n K LC φ w p.2) := by
      intro φ w hz z1
      rw [zw_B]
      refine zw_mono (zz_hang z1 vs1 zq_vl_n vx) ?_
      rintro ⟨v7, h8⟩ ⟨a1, a2⟩
      rw [if_pos (zi_in (by omega) hsg), zw_B]
      refine zw_mono (zz_expression a2) ?_
      rintro ⟨v8, h9⟩ ⟨a3, a4⟩
      rw [zw_B]
      refine zw_mono (zz_hang a4 vs1 (zq_vl_v vx) a3) ?_
      rintro ⟨v9, h10⟩ ⟨a5, a6⟩
      exact zz_L13 a6 vs1
    have fin1 : ∀ φ w gz, zx_B g0 T n φ w m1 (o + k + 1) gz → (∀ M x1 x2 x3, f_Mo_expression_L38 (f_Mo_operand (D' + 1)) (M + 1) g1 x1 x2 x3 (f_Mo_signAt g1) = (f_Mo_operand (D' + 1) gz).bind fun h9 => f_Mo_expression_L38 (f_Mo_operand (D' + 1)) M h9 x1 x2 x3 (f_Mo_signAt h9)) → ∀ {A : Option (Int32 × zs_H)}, zw A (fun p => zq_v p.1 ∧ zq_Z h0 T n K LC φ w p.2) → ∃ x' h' g' k', d + k' ≤ 61 ∧ k ≤ k' ∧ A = some (x', h') ∧ (∀ N x1 x2 x3, f_Mo_expression_L38 (f_Mo_operand (D' + 1)) (N + (k' - k)) g1 x1 x2 x3 (f_Mo_signAt g1) = f_Mo_expression_L38 (f_Mo_operand (D' + 1)) N g' x1 x2 x3 (f_Mo_signAt g')) ∧ ((zk_X h0 g0 T n K LC LM j d s m o q lv k' h g x' h' g' ∧ (f_Ps_operator h' = -1 ∨ ∃ sg, sg < 14 ∧ f_Ps_operator h' = nI sg ∧ zo_lv sg < lv)) ∨ zk_Z h0 g0 T n K LC m 20900 (o + k' + 1) x' h' g') := by
      rintro φ w gz z2 em A ⟨⟨x', h'⟩, eA, v1, z1⟩
      refine ⟨x', h', gz, k + 1, by omega, by omega, eA, fun M x1 x2 x3 => ?_, Or.inr ⟨v1, φ, w, m1, by omega, by omega, z1, zx_Om z2 (by omega)⟩⟩
      rw [Nat.add_sub_cancel_left, em, zxb_operand z2]; rfl
    rcases R with ⟨hd, LD, f1, f2⟩ | ⟨φ, w, z1, z2⟩
    · obtain ⟨h4, g4, e5, e6, f3, f4, R⟩ := zk_step LD (zk_notE LD (by rw [LD.2.2.2.1.2.2.1, ← L1.2.2.2.1.2.2.1]; exact ntk))
      rw [e5, Option.bind_some]
      have em : ∀ M x1 x2 x3, f_Mo_expression_L38 (f_Mo_operand (D' + 1)) (M + 1) g1 x1 x2 x3 (f_Mo_signAt g1) = (f_Mo_operand (D' + 1) g4).bind fun h9 => f_Mo_expression_L38 (f_Mo_operand (D' + 1)) M h9 x1 x2 x3 (f_Mo_signAt h9) := fun M x1 x2 x3 => by
        rw [e38, e4, Option.bind_some, zk_nx2 LD, e6, Option.bind_some]
      rcases R with ⟨LM4, hp, LE⟩ | ⟨φ, w, z1, z2⟩
      · have kA := zq_kp_A qA
        have k12 : zq_kp (s1 + 1) h2 h4 := zq_kp_t (zq_kp_f f1) (zq_kp_f f3) (Nat.le_refl _)
        have k14 : zq_kp s1 h1 h4 := zq_kp_t kA k12 (by omega)
        have C4 : zt_C h4 t (fun i => s ≤ i ∧ i < s1) (nI a) (nI a) := zt_Ck k14 (fun i hi => hi.2) C1
        have hn4 : (h4.2.1 13) s1 = nI 35 ∧ (h4.2.1 15) s1 = nI (zl_at T n j1).2.1 ∧ (h4.2.1 16) s1 = nI sg ∧ (h4.2.1 18) s1 = -1 ∧ (h4.2.1 17) s1 = -1 := by
          obtain ⟨q1, q2, q3, q4, q5, q6, q7⟩ := qA
          obtain ⟨c1, c2, c3, c4, c5⟩ := k12 s1 (by omega)
          exact ⟨c1.trans (by rw [q2, if_pos rfl]), c2.trans (by rw [q3, if_pos rfl]), c3.trans (by rw [q4, if_pos rfl]), c5.trans (by rw [q6, if_pos rfl]), c4.trans (by rw [q5, if_pos rfl])⟩
        subst ex
        obtain ⟨h5, e7, C5, e8, f5⟩ := zq_hangC (h := h4) (ip := s1) (a := a) (y := -1) (t := .leaf) (P := fun _ => False) (by omega) (fun i hi => hi.elim) ⟨hn4.2.2.2.2, rfl⟩ C4 (fun i hi => hi.elim) (fun z => z) (by omega) (by omega)
        have L5 := zk_cf LE f5 (by decide)
        rw [e7, zo_B, if_pos (zi_in (by omega) hsg), nI_1]
        obtain ⟨x6, h6, g6, k2, hk2, e9, e10, R⟩ := EX (D := D + 2) (D' := D' + 1) (lv := zo_lv sg + 1) L5 (by omega) (by omega) (by omega) hq1 (by omega) (by omega) (by omega) (by omega) (by omega)
        rw [e9, zo_B]
        have em2 : ∀ M x1 x2 x3, f_Mo_expression_L38 (f_Mo_operand (D' + 1)) (M + (k2 + 1)) g1 x1 x2 x3 (f_Mo_signAt g1) = f_Mo_expression_L38 (f_Mo_operand (D' + 1)) M g6 x1 x2 x3 (f_Mo_signAt g6) := fun M x1 x2 x3 => by
          rw [show M + (k2 + 1) = M + k2 + 1 from rfl, em, e10]
        rcases R with ⟨⟨t2, LM6, j6, d6, s6, m6, a6, ⟨u0, u0c⟩, u1, L6, ⟨v1, v2, v3, v4, v5, v6⟩, ⟨ex6, v7, v8⟩, C6, kp6, S6, ka6, fr6⟩, stop6⟩ | ⟨vx6, φ, w, m7, w1, w2, z1, z2⟩
        · have bK6 := zk_bK L6
          have y36 := (zk_dd L6).2.2.1
          subst ex6
          obtain ⟨x1, x2, x3, x4, x5⟩ := kp6 s1 (by omega)
          have C5' : zt_C h6 t (fun i => s ≤ i ∧ i < s1) ((h6.2.1 17) s1) (nI a) := by
            rw [x4]
            exact zt_Ck kp6 (fun i hi => by omega) (zt_Cm (fun i hi => hi.elim (fun z => z.elim) (fun z => z)) C5)
          obtain ⟨h7, e11, C7, e12, f7⟩ := zq_hangC (h := h6) (ip := s1) (a := a6) (by omega) (fun i hi => by omega) C5' C6 (fun i hi z => by omega) (by omega) (by omega) (by omega)
          rw [e11, zo_B, nI_1]
          have L7 := zk_cf L6 f7 (by decide)
          have eop7 : f_Ps_operator h7 = f_Ps_operator h6 := by
            have : (h7.1 19 5) = (h6.1 19 5) := f7.1 _ _ List.not_mem_nil
            unfold f_Ps_operator; rw [this]
          have hn7 : (h7.2.1 13) s1 = nI 35 ∧ (h7.2.1 15) s1 = nI (zl_at T n j1).2.1 ∧ (h7.2.1 16) s1 = nI sg ∧ (h7.2.1 18) s1 = -1 := by
            obtain ⟨b1, b2, b3, b4, b5⟩ := e8 s1
            obtain ⟨c1, c2, c3, c4, c5⟩ := e12 s1
            exact ⟨c1.trans (x1.trans (b1.trans hn4.1)), c2.trans (x2.trans (b2.trans hn4.2.1)), c3.trans (x3.trans (b3.trans hn4.2.2.1)), (c5 (by omega)).trans (x5.trans ((b5 (fun z => z)).trans hn4.2.2.2.1))⟩
          have ka14 : zx_ka m1 g1 g4 := zx_ka_t (zx_ka_t (fun i _ => ⟨congrFun (eBk _ (by decide) (by decide)) i, congrFun (eBk _ (by decide) (by decide)) i, congrFun (eBk _ (by decide) (by decide)) i, congrFun (eBk _ (by decide) (by decide)) i, congrFun (eBk _ (by decide) (by decide)) i, congrFun (eBk _ (by decide) (by decide)) i, congrFun (eBk _ (by decide) (by decide)) i⟩) (zx_ka_f f2) (Nat.le_refl _)) (zx_ka_l f4) (Nat.le_refl _)
          have frB4 : zo_fr (o + k + 1) gB g4 := zo_fr_t (zo_fr_f f2 (by decide) (by decide) (by decide)) (zo_fr_f f4 (by decide) (by decide) (by decide)) (Nat.le_refl _)
          have frB6 := zo_fr_t frB4 fr6 (Nat.le_refl _)
          have ka16 : zx_ka m1 g1 g6 := zx_ka_t ka14 ka6 (Nat.le_refl _)
          have eparts : (gB.2.1 81) = (g1.2.1 81) := eBk _ (by decide) (by decide)
          have X7 : zk_X h0 g0 T n K LC LM j d s m o q (zo_lv sg) (k + 1 + k2) h g (nI s1) h7 g6 := by
            refine ⟨zt_n 35 (nI (zl_at T n j1).2.1) (nI sg) (zt_ap t t2), LM6, j6, d6, s6, m6, s1, ⟨zg_Tm (zg_n (zg_U1 (kd := 35) (st := 1) (st' := 2) (S := zg_E) (D := (60 - d) + (d6 - d) + 1) (zg_U1 (u := .leaf) (st := 0) (st' := 1) (S := zg_E) zg_U0 (zg_Tm r0 (fun _ z => z) (by omega)) (by decide)) (zg_Tm u0 (fun _ z => z) (by omega)) (by decide)) rfl (Or.inr ⟨sg, hsg, rfl, fun z => by omega⟩) (by decide)) (fun _ z => z) (by omega), by rw [zg_c_n (by decide), zg_c_ap, r0c, u0c]⟩, r1.trans (hp.trans u1), ?_, ⟨by omega, by omega, by omega, by omega, by omega, by omega⟩, ⟨rfl, by omega, by omega⟩, ?_, ?_, ?_, zx_ka_t ka1 ka16 (by omega), ?_⟩
            · have : o + (k + 1 + k2) + 1 = o + k + 1 + k2 + 1 := by omega
              rw [this]; exact L7
            · exact zt_Cm (fun i hi => by omega) (zt_Cp (ip := s1) (by omega) (by omega) hn7.1 hn7.2.1 hn7.2.2.1 hn7.2.2.2 C7)
            · intro i hi
              obtain ⟨b1, b2, b3, b4, b5⟩ := kp1 i hi
              obtain ⟨c1, c2, c3, c4, c5⟩ := k14 i (by omega)
              obtain ⟨d1, d2, d3, d4, d5⟩ := e8 i
              obtain ⟨p1, p2, p3, p4, p5⟩ := kp6 i (by omega)
              obtain ⟨q1, q2, q3, q4, q5⟩ := e12 i
              exact ⟨q1.trans (p1.trans (d1.trans (c1.trans b1))), q2.trans (p2.trans (d2.trans (c2.trans b2))), q3.trans (p3.trans (d3.trans (c3.trans b3))), (q4 (by omega)).trans (p4.trans ((d4 (by omega)).trans (c4.trans b4))), (q5 (by omega)).trans (p5.trans ((d5 (fun z => z)).trans (c5.trans b5)))⟩
            · have efk : k + 1 + k2 = (k + k2) + 1 := by omega
              have hS : zo_S LC LM6 g6 ((k + k2) + 1) o (k + 1 + k2) (zt_n 35 (nI (zl_at T n j1).2.1) (nI sg) (zt_ap t t2)) (fun i => m ≤ i ∧ i < m6) (zo_lv sg) := by
                refine Or.inr ⟨k, k2, t, t2, fun i => m ≤ i ∧ i < m1, fun i => m1 ≤ i ∧ i < m6, sg, nI (zl_at T n j1).2.1, rfl, rfl, ?_, ?_, hsg, Nat.le_refl _, fun i hi => by omega, fun i hi => by omega, ?_, ?_⟩
                · rw [(frB6 (o + k) (by omega)).2.1, eB1, if_pos rfl]
                · rw [(frB6 (o + k) (by omega)).2.2, eB2, if_pos rfl, m41]
                · refine zo_Sup (zo_Sk (hp.trans u1) k (P := fun i => m ≤ i ∧ i < m1) (lv := zo_lv sg) ?_ (fun i hi => ka16 i hi.2) (fun i h1 h2 => ?_) (fun i h1 h2 => ?_)) k2
                  · rcases hle with e | e
                    · subst e; exact S1
                    · exact zo_Slv S1 e
                  · rw [(frB6 i (by omega)).1, eparts]
                  · rw [(frB6 i (by omega)).2.1, (frB6 i (by omega)).2.2, eB1, eB2, if_neg (by omega), if_neg (by omega)]; exact ⟨rfl, rfl⟩
                · have := zo_Sup S6 k
                  rw [Nat.add_comm] at this; exact this
              rw [← efk] at hS; exact hS
            · intro i hi
              obtain ⟨a1, a2, a3⟩ := fr1 i hi
              obtain ⟨b1, b2, b3⟩ := frB6 i (by omega)
              rw [eparts] at b1
              rw [eB1, if_neg (by omega)] at b2
              rw [eB2, if_neg (by omega)] at b3
              exact ⟨b1.trans a1, b2.trans a2, b3.trans a3⟩
          have stop7 : f_Ps_operator h7 = -1 ∨ ∃ sg', sg' < 14 ∧ f_Ps_operator h7 = nI sg' ∧ (k + 1 + k2 = 0 ∨ zo_lv sg' ≤ zo_lv sg) := by
            rw [eop7]
            rcases stop6 with z | ⟨sg', z1, z2, z3⟩
            · exact Or.inl z
            · exact Or.inr ⟨sg', z1, z2, Or.inr (by omega)⟩
          obtain ⟨x', h', g', k', i1, i2, i3, i4, i5⟩ := ih (N + 1) (c + 1) X7 stop7 (Or.inr (by omega)) (by omega) (by omega) (by omega)
          refine ⟨x', h', g', k', i1, by omega, i3, fun M x1 x2 x3 => ?_, i5⟩
          rw [show M + (k' - k) = (M + (k' - (k + 1 + k2))) + (k2 + 1) by omega, em2, i4]
        · obtain ⟨⟨x', h'⟩, eA, v1, z3⟩ : zw (zd_B (f_Tr_hang h6 (nI s1) (nI a) x6) fun v20 h21 => f_Ps_expression_L13 (f_Ps_expression (D + 2)) (N + 1) h21 (nI lv) (nI s1) (f_Ps_operator h21) (nI c + 1)) (fun p => zq_v p.1 ∧ zq_Z h0 T n K LC φ w p.2) := by
            rw [zw_B]
            refine zw_mono (zz_hang z1 vs1 (zq_vl_v vx) vx6) ?_
            rintro ⟨v9, h10⟩ ⟨a5, a6⟩
            exact zz_L13 a6 vs1
          exact ⟨x', h', g6, k + 1 + k2, by omega, by omega, eA, fun M x1 x2 x3 => by rw [show M + (k + 1 + k2 - k) = M + (k2 + 1) by omega, em2], Or.inr ⟨v1, φ, w, m7, by omega, w2, z3, zx_Om z2 (by omega)⟩⟩
      · exact fin1 φ w g4 z2 em (badc φ w h4 z1)
    · refine fin1 φ w g3 z2 (fun M x1 x2 x3 => ?_) ?_
      · rw [e38, e4, Option.bind_some, zx_next2 z2, Option.bind_some]
      · rw [zw_bind]
        exact zw_mono (zz_take z1) fun h3 z1 => badc φ w h3 z1
theorem zk_EXof {d0 : Nat} (OP : zk_OP h0 g0 T n K LC d0) (EX : zk_EX h0 g0 T n K LC (d0 + 1)) : zk_EX h0 g0 T n K LC d0 := by
  intro h g LM j d s m o q D D' lv H h1 h2 h3 h4 h5 h6 h7 h8 h9
  have x3 := (zk_dd H).2.2.1
  obtain ⟨D, rfl⟩ : ∃ z, D = z + 1 := ⟨D - 1, by omega⟩
  obtain ⟨x, ha, ga, e1, e2, R⟩ := OP (D := D) (D' := D') H h1 h2 h3 h4 (by omega) (by omega) h7 h8
  rw [zy_e]
  unfold g_Ps_expression
  rw [e1, zo_B, e2]
  rcases R with X | ⟨vx, φ, w, m', w1, w2, z1, z2⟩
  · have hop : f_Ps_operator ha = -1 ∨ ∃ sg, sg < 14 ∧ f_Ps_operator ha = nI sg ∧ (0 = 0 ∨ zo_lv sg ≤ 0) := by
      obtain ⟨t, LM1, j1, d1, s1, m1, a, _, _, L1, _⟩ := X
      rcases zk_opr L1 with z | ⟨sg, z1, z2, _⟩
      · exact Or.inl z
      · exact Or.inr ⟨sg, z1, z2, Or.inl rfl⟩
    obtain ⟨x', h', g', k', i1, _, i3, i4, i5⟩ := zk_exL (lv := lv) (D := D) (D' := D') EX h1 h2 h3 h4 (by omega) (by omega) h7 h8 h9 61 zF 0 X hop (Or.inl rfl) (by omega) (by decide) (Nat.le_refl 0)
    exact ⟨x', h', g', k', i1, i3, fun N x1 x2 x3 => i4 N x1 x2 x3, i5⟩
  · refine ⟨x, ha, ga, 0, by omega, ?_, fun N x1 x2 x3 => rfl, Or.inr ⟨vx, φ, w, m', w1, w2, z1, z2⟩⟩
    rw [zz_operator z1, zy_L]
theorem zk_allE : ∀ w d0, 61 ≤ d0 + w → zk_OP h0 g0 T n K LC d0 ∧ zk_EX h0 g0 T n K LC d0 := by
  intro w
  induction w with
  | zero =>
    intro d0 hd
    refine ⟨?_, ?_⟩
    · intro h g LM j d s m o q D D' H h1
      have := (zk_dd H).2.2.1
      omega
    · intro h g LM j d s m o q D D' lv H h1
      have := (zk_dd H).2.2.1
      omega
  | succ w ih =>
    intro d0 hd
    obtain ⟨a, b⟩ := ih (d0 + 1) (by omega)
    have OP : zk_OP h0 g0 T n K LC d0 := zk_OPof a (zk_EPof b)
    exact ⟨OP, zk_EXof OP b⟩
/-- a whole expression -/
theorem zk_wexpr {b : Nat} (H : zk_L h0 g0 T n K LC h g LM j d s m 0 0) (h7 : s ≤ 2 * j + 12) (h8 : m ≤ 2 * j + 12) (hb : b < m) : zk_G h0 g0 T n K LC m 20900 0 (zk_T h0 g0 T n K LC LM (zg_T zg_E (2 * (60 - d) + 2)) j d s m 0 0 b h g) (f_Ps_wholeExpression h) (f_Mo_expression 400 g (nI b)) := zk_whole (zk_allE 61 0 (by omega)).2 H h7 h8 hb
end ZUu
end
