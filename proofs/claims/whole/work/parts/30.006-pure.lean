section
/-! Both readers in step: ladders. -/
section ZIb
variable {h0 h : zs_H} {T : Nat → Int32} {n K φ w : Nat} {LC : List (List Int32)}
theorem zz_ladderCell (H : zq_Z h0 T n K LC φ w h) : zw (f_Ps_ladderCell h) (fun p => zq_v p.1 ∧ zq_Z h0 T n K LC φ w p.2) := by
  repeat' first
    | with_reducible exact zw_some.mpr ⟨by assumption, by assumption⟩
    | (rw [zw_bind]; with_reducible refine zw_mono (zz_take (by assumption)) ?_; intro _ _)
    | (rw [zw_B]; with_reducible refine zw_mono (zz_constant (by assumption)) ?_; rintro _ ⟨_, _⟩)
    | (rw [zw_B]; with_reducible refine zw_mono (zz_simpleType (by assumption)) ?_; rintro _ ⟨_, _⟩)
    | (rw [zw_B]; with_reducible refine zw_mono (zz_type (by assumption)) ?_; rintro _ ⟨_, _⟩)
    | (rw [zw_B]; with_reducible refine zw_mono (zz_whole (by assumption)) ?_; rintro _ ⟨_, _⟩)
    | (rw [zw_B]; with_reducible refine zw_mono (zz_add (by assumption)) ?_; rintro _ ⟨_, _⟩)
    | (rw [zw_B]; with_reducible refine zw_mono (zz_hang (by assumption) (by assumption) (by first | assumption | exact zq_vl_n | exact zq_vl_v (by assumption)) (by assumption)) ?_; rintro _ ⟨_, _⟩)
    | rw [if_pos (zq_at (by assumption))]
    | rw [zz_isCell (by assumption), if_pos rfl]
    | rw [if_neg (zq_ne (by assumption) (by decide) (by decide))]
    | unfold f_Ps_ladderCell
    | unfold f_Ps_ladderCell_121
    | unfold f_Ps_ladderCell_150
    | unfold f_Ps_ladderCell_153
theorem zz_row_L {N : Nat} {x1 x2 x3 : Int32} (H : zq_Z h0 T n K LC φ w h) (h1 : zq_v x1) : zw (f_Ps_row_L31 (N + 1) h x1 x2 x3) (fun p => zq_v p.1 ∧ zq_Z h0 T n K LC φ w p.2) := by
  show zw (f_Ps_row_31 (f_Ps_row_L31 N) h x1 x2 x3) _
  unfold f_Ps_row_31
  split
  · repeat' first
      | with_reducible exact zw_some.mpr ⟨by assumption, by assumption⟩
      | (rw [zw_bind]; with_reducible refine zw_mono (zz_take (by assumption)) ?_; intro _ _)
      | (rw [zw_B]; with_reducible refine zw_mono (zz_constant (by assumption)) ?_; rintro _ ⟨_, _⟩)
      | (rw [zw_B]; with_reducible refine zw_mono (zz_simpleType (by assumption)) ?_; rintro _ ⟨_, _⟩)
      | (rw [zw_B]; with_reducible refine zw_mono (zz_type (by assumption)) ?_; rintro _ ⟨_, _⟩)
      | (rw [zw_B]; with_reducible refine zw_mono (zz_whole (by assumption)) ?_; rintro _ ⟨_, _⟩)
      | (rw [zw_B]; with_reducible refine zw_mono (zz_add (by assumption)) ?_; rintro _ ⟨_, _⟩)
      | (rw [zw_B]; with_reducible refine zw_mono (zz_hang (by assumption) (by assumption) (by first | assumption | exact zq_vl_n | exact zq_vl_v (by assumption)) (by assumption)) ?_; rintro _ ⟨_, _⟩)
      | rw [if_pos (zq_at (by assumption))]
      | rw [zz_isCell (by assumption), if_pos rfl]
      | rw [if_neg (zq_ne (by assumption) (by decide) (by decide))]
      | unfold f_Ps_row_113
  · repeat' first
      | with_reducible exact zw_some.mpr ⟨by assumption, by assumption⟩
      | (rw [zw_bind]; with_reducible refine zw_mono (zz_take (by assumption)) ?_; intro _ _)
      | (rw [zw_B]; with_reducible refine zw_mono (zz_constant (by assumption)) ?_; rintro _ ⟨_, _⟩)
      | (rw [zw_B]; with_reducible refine zw_mono (zz_simpleType (by assumption)) ?_; rintro _ ⟨_, _⟩)
      | (rw [zw_B]; with_reducible refine zw_mono (zz_type (by assumption)) ?_; rintro _ ⟨_, _⟩)
      | (rw [zw_B]; with_reducible refine zw_mono (zz_whole (by assumption)) ?_; rintro _ ⟨_, _⟩)
      | (rw [zw_B]; with_reducible refine zw_mono (zz_add (by assumption)) ?_; rintro _ ⟨_, _⟩)
      | (rw [zw_B]; with_reducible refine zw_mono (zz_hang (by assumption) (by assumption) (by first | assumption | exact zq_vl_n | exact zq_vl_v (by assumption)) (by assumption)) ?_; rintro _ ⟨_, _⟩)
      | rw [if_pos (zq_at (by assumption))]
      | rw [zz_isCell (by assumption), if_pos rfl]
      | rw [if_neg (zq_ne (by assumption) (by decide) (by decide))]
      | unfold f_Ps_row_113
theorem zz_row (H : zq_Z h0 T n K LC φ w h) : zw (f_Ps_row h) (fun p => zq_v p.1 ∧ zq_Z h0 T n K LC φ w p.2) := by
  unfold f_Ps_row
  rw [zF_9, zw_B]
  refine zw_mono (zz_add H) ?_
  rintro _ ⟨_, _⟩
  rw [zw_B]
  refine zw_mono (zz_ladderCell (by assumption)) ?_
  rintro _ ⟨_, _⟩
  repeat' first
    | with_reducible exact zw_some.mpr ⟨by assumption, by assumption⟩
    | (rw [zw_bind]; with_reducible refine zw_mono (zz_take (by assumption)) ?_; intro _ _)
    | (rw [zw_B]; with_reducible refine zw_mono (zz_constant (by assumption)) ?_; rintro _ ⟨_, _⟩)
    | (rw [zw_B]; with_reducible refine zw_mono (zz_simpleType (by assumption)) ?_; rintro _ ⟨_, _⟩)
    | (rw [zw_B]; with_reducible refine zw_mono (zz_type (by assumption)) ?_; rintro _ ⟨_, _⟩)
    | (rw [zw_B]; with_reducible refine zw_mono (zz_whole (by assumption)) ?_; rintro _ ⟨_, _⟩)
    | (rw [zw_B]; with_reducible refine zw_mono (zz_add (by assumption)) ?_; rintro _ ⟨_, _⟩)
    | (rw [zw_B]; with_reducible refine zw_mono (zz_hang (by assumption) (by assumption) (by first | assumption | exact zq_vl_n | exact zq_vl_v (by assumption)) (by assumption)) ?_; rintro _ ⟨_, _⟩)
    | rw [if_pos (zq_at (by assumption))]
    | rw [zz_isCell (by assumption), if_pos rfl]
    | rw [if_neg (zq_ne (by assumption) (by decide) (by decide))]
  exact zz_row_L (N := 18446744073709551607 + 8) (by assumption) (by assumption)
theorem zz_ladder_L26 {N : Nat} {x1 x2 x3 : Int32} (H : zq_Z h0 T n K LC φ w h) (h1 : zq_v x1) : zw (f_Ps_ladder_L26 (N + 1) h x1 x2 x3) (fun p => zq_v p.1 ∧ zq_Z h0 T n K LC φ w p.2) := by
  show zw (f_Ps_ladder_26 (f_Ps_ladder_L26 N) h x1 x2 x3) _
  unfold f_Ps_ladder_26
  split
  · repeat' first
      | with_reducible exact zw_some.mpr ⟨by assumption, by assumption⟩
      | (rw [zw_bind]; with_reducible refine zw_mono (zz_take (by assumption)) ?_; intro _ _)
      | (rw [zw_B]; with_reducible refine zw_mono (zz_constant (by assumption)) ?_; rintro _ ⟨_, _⟩)
      | (rw [zw_B]; with_reducible refine zw_mono (zz_simpleType (by assumption)) ?_; rintro _ ⟨_, _⟩)
      | (rw [zw_B]; with_reducible refine zw_mono (zz_type (by assumption)) ?_; rintro _ ⟨_, _⟩)
      | (rw [zw_B]; with_reducible refine zw_mono (zz_whole (by assumption)) ?_; rintro _ ⟨_, _⟩)
      | (rw [zw_B]; with_reducible refine zw_mono (zz_add (by assumption)) ?_; rintro _ ⟨_, _⟩)
      | (rw [zw_B]; with_reducible refine zw_mono (zz_hang (by assumption) (by assumption) (by first | assumption | exact zq_vl_n | exact zq_vl_v (by assumption)) (by assumption)) ?_; rintro _ ⟨_, _⟩)
      | rw [if_pos (zq_at (by assumption))]
      | rw [zz_isCell (by assumption), if_pos rfl]
      | rw [if_neg (zq_ne (by assumption) (by decide) (by decide))]
      | unfold f_Ps_ladder_148
  · repeat' first
      | with_reducible exact zw_some.mpr ⟨by assumption, by assumption⟩
      | (rw [zw_bind]; with_reducible refine zw_mono (zz_take (by assumption)) ?_; intro _ _)
      | (rw [zw_B]; with_reducible refine zw_mono (zz_constant (by assumption)) ?_; rintro _ ⟨_, _⟩)
      | (rw [zw_B]; with_reducible refine zw_mono (zz_simpleType (by assumption)) ?_; rintro _ ⟨_, _⟩)
      | (rw [zw_B]; with_reducible refine zw_mono (zz_type (by assumption)) ?_; rintro _ ⟨_, _⟩)
      | (rw [zw_B]; with_reducible refine zw_mono (zz_whole (by assumption)) ?_; rintro _ ⟨_, _⟩)
      | (rw [zw_B]; with_reducible refine zw_mono (zz_add (by assumption)) ?_; rintro _ ⟨_, _⟩)
      | (rw [zw_B]; with_reducible refine zw_mono (zz_hang (by assumption) (by assumption) (by first | assumption | exact zq_vl_n | exact zq_vl_v (by assumption)) (by assumption)) ?_; rintro _ ⟨_, _⟩)
      | rw [if_pos (zq_at (by assumption))]
      | rw [zz_isCell (by assumption), if_pos rfl]
      | rw [if_neg (zq_ne (by assumption) (by decide) (by decide))]
      | unfold f_Ps_ladder_148
theorem zz_ladder_L85 {N N' : Nat} {x1 x2 x3 x4 x5 x6 : Int32} (H : zq_Z h0 T n K LC φ w h) (h1 : zq_v x1) (h2 : zq_vl x2) (h4 : zq_v x4) : zw (f_Ps_ladder_L85 (f_Ps_ladder_L26 (N' + 1)) (N + 1) h x1 x2 x3 x4 x5 x6) (fun p => zq_v p.1 ∧ zq_Z h0 T n K LC φ w p.2) := by
  show zw (f_Ps_ladder_85 (f_Ps_ladder_L26 (N' + 1)) (f_Ps_ladder_L85 (f_Ps_ladder_L26 (N' + 1)) N) h x1 x2 x3 x4 x5 x6) _
  unfold f_Ps_ladder_85
  split
  · repeat' first
      | with_reducible exact zw_some.mpr ⟨by assumption, by assumption⟩
      | (rw [zw_bind]; with_reducible refine zw_mono (zz_take (by assumption)) ?_; intro _ _)
      | (rw [zw_B]; with_reducible refine zw_mono (zz_constant (by assumption)) ?_; rintro _ ⟨_, _⟩)
      | (rw [zw_B]; with_reducible refine zw_mono (zz_simpleType (by assumption)) ?_; rintro _ ⟨_, _⟩)
      | (rw [zw_B]; with_reducible refine zw_mono (zz_type (by assumption)) ?_; rintro _ ⟨_, _⟩)
      | (rw [zw_B]; with_reducible refine zw_mono (zz_whole (by assumption)) ?_; rintro _ ⟨_, _⟩)
      | (rw [zw_B]; with_reducible refine zw_mono (zz_add (by assumption)) ?_; rintro _ ⟨_, _⟩)
      | (rw [zw_B]; with_reducible refine zw_mono (zz_hang (by assumption) (by assumption) (by first | assumption | exact zq_vl_n | exact zq_vl_v (by assumption)) (by assumption)) ?_; rintro _ ⟨_, _⟩)
      | rw [if_pos (zq_at (by assumption))]
      | rw [zz_isCell (by assumption), if_pos rfl]
      | rw [if_neg (zq_ne (by assumption) (by decide) (by decide))]
      | unfold f_Ps_ladder_123
    exact zz_ladder_L26 (by assumption) (by assumption)
  · repeat' first
      | with_reducible exact zw_some.mpr ⟨by assumption, by assumption⟩
      | (rw [zw_bind]; with_reducible refine zw_mono (zz_take (by assumption)) ?_; intro _ _)
      | (rw [zw_B]; with_reducible refine zw_mono (zz_constant (by assumption)) ?_; rintro _ ⟨_, _⟩)
      | (rw [zw_B]; with_reducible refine zw_mono (zz_simpleType (by assumption)) ?_; rintro _ ⟨_, _⟩)
      | (rw [zw_B]; with_reducible refine zw_mono (zz_type (by assumption)) ?_; rintro _ ⟨_, _⟩)
      | (rw [zw_B]; with_reducible refine zw_mono (zz_whole (by assumption)) ?_; rintro _ ⟨_, _⟩)
      | (rw [zw_B]; with_reducible refine zw_mono (zz_add (by assumption)) ?_; rintro _ ⟨_, _⟩)
      | (rw [zw_B]; with_reducible refine zw_mono (zz_hang (by assumption) (by assumption) (by first | assumption | exact zq_vl_n | exact zq_vl_v (by assumption)) (by assumption)) ?_; rintro _ ⟨_, _⟩)
      | rw [if_pos (zq_at (by assumption))]
      | rw [zz_isCell (by assumption), if_pos rfl]
      | rw [if_neg (zq_ne (by assumption) (by decide) (by decide))]
      | unfold f_Ps_ladder_123
    exact zz_ladder_L26 (by assumption) (by assumption)
end ZIb
section ZIm
variable {g0 g : zs_H} {T : Nat → Int32} {n φ w m O : Nat}
theorem zxb_readCell {x : Int32} (H : zx_B g0 T n φ w m O g) : zw (f_Mo_readCell g x) (zx_B g0 T n φ w m O) := by
  unfold f_Mo_readCell
  rw [if_neg (zx_pos H), zw_some]; exact H
theorem zxb_row_L {N : Nat} {x : Int32} (H : zx_B g0 T n φ w m O g) : zw (f_Mo_row_L18 (N + 1) g x) (zx_B g0 T n φ w m O) := by
  show zw (f_Mo_row_18 (f_Mo_row_L18 N) g x) _
  unfold f_Mo_row_18 f_Mo_row_68
  rw [if_neg (zx_ne H), zw_bind]
  exact zw_mono (zxw_wantSign H) fun g' z => zw_some.mpr z
theorem zxb_row {b : Nat} (H : zx_B g0 T n φ w m O g) (hm : m < 33500) (hb : b < m) : zw (f_Mo_row g (nI b)) (zx_B g0 T n φ w (m + 1) O) := by
  unfold f_Mo_row
  rw [zF_9, zw_B]
  refine zw_mono (zxb_add (kn := 24) H hm rfl hb) fun p z => ?_
  rw [zw_bind]
  exact zw_mono (zxb_readCell z.2) fun g' z => zxb_row_L (N := 18446744073709551607 + 8) z
theorem zxb_ladder_L17 {N : Nat} {x : Int32} (H : zx_B g0 T n φ w m O g) : zw (f_Mo_ladder_L17 (N + 1) g x) (zx_B g0 T n φ w m O) := by
  show zw (f_Mo_ladder_17 (f_Mo_ladder_L17 N) g x) _
  unfold f_Mo_ladder_17
  rw [zx_isWord H, if_pos rfl, zw_bind]
  exact zw_mono (zxw_wantWord H) fun g' z => zw_some.mpr z
theorem zxb_ladder_L48 {N N' : Nat} {x2 x3 : Int32} (H : zx_B g0 T n φ w m O g) : zw (f_Mo_ladder_L48 (f_Mo_ladder_L17 (N' + 1)) (N + 1) g x2 x3) (zx_B g0 T n φ w m O) := by
  show zw (f_Mo_ladder_48 (f_Mo_ladder_L17 (N' + 1)) (f_Mo_ladder_L48 (f_Mo_ladder_L17 (N' + 1)) N) g x2 x3) _
  unfold f_Mo_ladder_48 f_Mo_ladder_72
  rw [if_neg (zx_ne H), zw_bind]
  exact zw_mono (zxw_wantWord H) fun g' z => zxb_ladder_L17 z
end ZIm
section ZI
variable {h0 g0 h g g1 h' g' : zs_H} {T : Nat → Int32} {n K : Nat} {LC LM LM' : List (List Int32)} {j d s m o q b kd j' d' s' m' e st D f M0 M : Nat} {p v y : Int32} {u : zt_T} {X : Int32 → zs_H → zs_H → Prop}
/-- wires and gaps -/
theorem zk_wire (H : zk_L h0 g0 T n K LC h g LM j d s m o q) {b kd : Nat} (hb : b < m) (hs : s ≤ 2 * j + 12) (hm : m ≤ 2 * j + 12) (hkd : kd = 26 ∨ kd = 27) (ht : ¬ (h.1 19 5) = 6) : zk_G h0 g0 T n K LC m 20700 o (zk_T h0 g0 T n K LC LM (zg_T [25, 26, 27, 28] 3) j d s m o q b h g) (f_Ps_ladderCell_52 h (nI kd)) (f_Mo_readCell_49 g (nI kd) (nI b)) := by
  have hK := zk_bK H
  unfold f_Ps_ladderCell_52 f_Mo_readCell_49
  obtain ⟨h1, g1, e1, e2, I⟩ := zk_I0 H (b := b) (kd := kd) (kc := nI kd) (km := nI kd) (D := 2) (v := 0) (w := 0) (by omega) (by omega) hb (by omega) rfl (by rcases hkd with z | z <;> subst z <;> rfl) (by rw [if_neg (by rcases hkd with z | z <;> subst z <;> decide)])
  rw [e1, e2, zo_B, zo_B]
  have v0 := zk_Iv I
  refine zk_sN I rfl (by rw [I.1.2.2.2.1.2.2.1, ← H.2.2.2.1.2.2.1]; exact ht) ?_ fun h2 g2 LM2 I2 => ?_
  · intro φ w hz gz z1 z2
    refine zk_Gf (φ := φ) (w := w) ?_ ?_
    · repeat' first
        | with_reducible exact zw_some.mpr ⟨by assumption, by assumption⟩
        | (rw [zw_bind]; with_reducible refine zw_mono (zz_take (by assumption)) ?_; intro _ _)
        | (rw [zw_B]; with_reducible refine zw_mono (zz_constant (by assumption)) ?_; rintro _ ⟨_, _⟩)
        | (rw [zw_B]; with_reducible refine zw_mono (zz_simpleType (by assumption)) ?_; rintro _ ⟨_, _⟩)
        | (rw [zw_B]; with_reducible refine zw_mono (zz_type (by assumption)) ?_; rintro _ ⟨_, _⟩)
        | (rw [zw_B]; with_reducible refine zw_mono (zz_whole (by assumption)) ?_; rintro _ ⟨_, _⟩)
        | (rw [zw_B]; with_reducible refine zw_mono (zz_add (by assumption)) ?_; rintro _ ⟨_, _⟩)
        | (rw [zw_B]; with_reducible refine zw_mono (zz_hang (by assumption) (by assumption) (by first | assumption | exact zq_vl_n | exact zq_vl_v (by assumption)) (by assumption)) ?_; rintro _ ⟨_, _⟩)
        | rw [if_pos (zq_at (by assumption))]
        | rw [zz_isCell (by assumption), if_pos rfl]
        | rw [if_neg (zq_ne (by assumption) (by decide) (by decide))]
    · repeat' first
        | (with_reducible refine zw_some.mpr ⟨_, ⟨?_, ?_⟩, by assumption⟩ <;> omega)
        | (rw [zw_bind]; with_reducible refine zw_mono (zxw_wantSign (by assumption)) ?_; intro _ _)
        | (rw [zw_bind]; with_reducible refine zw_mono (zxw_wantWord (by assumption)) ?_; intro _ _)
        | (rw [zw_bind]; with_reducible refine zw_mono (zxw_want (by assumption)) ?_; intro _ _)
        | (rw [zw_bind]; with_reducible refine zw_mono (zx_next (by assumption)) ?_; intro _ _)
        | (rw [zw_bind]; with_reducible refine zw_mono (zxb_constant (by assumption) (by omega) (by omega)) ?_; intro _ _)
        | (rw [zw_bind]; with_reducible refine zw_mono (zxw_simple (by assumption) (by omega) (by omega)) ?_; rintro _ ⟨_, _, _, _⟩)
        | (rw [zw_B]; with_reducible refine zw_mono (zxb_add (by assumption) (by omega) rfl (by omega)) ?_; rintro _ ⟨e1, _⟩; try rw [e1])
        | rw [zx_isSign (by assumption), if_pos rfl]
        | rw [zx_isWord (by assumption), if_pos rfl]
        | rw [if_neg (zx_ne (by assumption))]
        | rw [if_neg (zx_pos (by assumption))]
        | rw [if_pos (show (0 : Int32) ≤ 0 by decide)]
  exact ⟨nI s, h2, g2, rfl, rfl, Or.inl (zk_Id I2 (by omega) (by omega) (by rcases hkd with z | z <;> subst z <;> rfl) (by rcases hkd with z | z <;> subst z <;> exact Or.inl rfl) (by rcases hkd with z | z <;> subst z <;> decide) (by omega) (by omega))⟩
/-- coils -/
theorem zk_coil92 {h2 g2 : zs_H} {LM2 : List (List Int32)} {j2 how : Nat} (L2 : zk_L h0 g0 T n K LC h2 g2 LM2 j2 d (s + 1) m o q) {b : Nat} (hb : b < m) (hs : s ≤ 2 * j + 12) (hm : m ≤ 2 * j + 12) (hp : LM <+: LM2) (hj : j < j2) (hkp : zq_kp s h h2) (hn : (h2.2.1 13) s = nI 28 ∧ (h2.2.1 15) s = p ∧ (h2.2.1 16) s = nI how ∧ (h2.2.1 18) s = -1 ∧ (h2.2.1 17) s = -1) (hka : zx_ka m g g2) (hh : how < 4) : zk_G h0 g0 T n K LC m 20700 o (zk_T h0 g0 T n K LC LM (zg_T [25, 26, 27, 28] 3) j d s m o q b h g) (f_Ps_coil_92 h2 (nI s)) (f_Mo_readCell_127 g2 (nI b) p (nI how)) := by
  have hK := zk_bK L2
  obtain ⟨g3, e1, I⟩ := zk_I1 (D := 2) (j := j) (h := h) (g := g) (LM := LM) (km := 28) (w := nI how) L2 hp (by omega) hkp hn hka (by omega) (by omega) hb rfl (by rw [if_neg (by decide)])
  unfold f_Ps_coil_92 f_Mo_readCell_127
  rw [e1, zo_B, if_pos (zk_atI I.1)]
  have v0 := zk_Iv I
  have b1 := zk_Ib I
  have hk := (zk_kind I.1).1
  refine zk_sLf (k2 := 6) (st' := 1) (f' := 1 + (j2 - j) + 1) (yy := if (g3.1 68 6) = 1 then 1 else 0) (FB := fun h2 => (f_Mo_wantSign h2 41).bind fun h4 => some h4) (x := 8) (FA := fun v9 h12 => (f_Ps_take h12 41).bind fun h11 => some (nI s, h11)) I (by decide) rfl rfl ?_ (by decide) ?_ (by decide) rfl (by decide) (by rw [if_neg (by decide)]; omega) (by omega) (by omega) ?_ ?_ fun h3 g3 u3 LM3 I3 => ?_
  · rw [← hk]; by_cases z : (g3.1 68 6) = 1 <;> simp [z]
  · intro z
    have hk1 : (zl_at T n j2).1 = 1 := (zc_eq (k := 1) (by decide) (by have := (zk_F I.1).1; omega)).mp (by rw [← I.1.2.2.2.2.2.2.2.2.2.2.1]; exact hk.mpr z)
    obtain ⟨_, n2⟩ := zk_nm I.1 hk1
    rw [if_pos (by decide)]
    exact ⟨n2, Or.inl rfl⟩
  · intro x gx hx _
    rw [hx]
    by_cases z : (g3.1 68 6) = 1
    · rw [if_pos z, if_pos z]; rfl
    · rw [if_neg z, if_neg z]; rfl
  · intro φ w xz hz gz vz z1 z2
    refine zk_Gf (φ := φ) (w := w) ?_ ?_
    · repeat' first
        | with_reducible exact zw_some.mpr ⟨by assumption, by assumption⟩
        | (rw [zw_bind]; with_reducible refine zw_mono (zz_take (by assumption)) ?_; intro _ _)
        | (rw [zw_B]; with_reducible refine zw_mono (zz_constant (by assumption)) ?_; rintro _ ⟨_, _⟩)
        | (rw [zw_B]; with_reducible refine zw_mono (zz_simpleType (by assumption)) ?_; rintro _ ⟨_, _⟩)
        | (rw [zw_B]; with_reducible refine zw_mono (zz_type (by assumption)) ?_; rintro _ ⟨_, _⟩)
        | (rw [zw_B]; with_reducible refine zw_mono (zz_whole (by assumption)) ?_; rintro _ ⟨_, _⟩)
        | (rw [zw_B]; with_reducible refine zw_mono (zz_add (by assumption)) ?_; rintro _ ⟨_, _⟩)
        | (rw [zw_B]; with_reducible refine zw_mono (zz_hang (by assumption) (by assumption) (by first | assumption | exact zq_vl_n | exact zq_vl_v (by assumption)) (by assumption)) ?_; rintro _ ⟨_, _⟩)
        | rw [if_pos (zq_at (by assumption))]
        | rw [zz_isCell (by assumption), if_pos rfl]
        | rw [if_neg (zq_ne (by assumption) (by decide) (by decide))]
    · repeat' first
        | (with_reducible refine zw_some.mpr ⟨_, ⟨?_, ?_⟩, by assumption⟩ <;> omega)
        | (rw [zw_bind]; with_reducible refine zw_mono (zxw_wantSign (by assumption)) ?_; intro _ _)
        | (rw [zw_bind]; with_reducible refine zw_mono (zxw_wantWord (by assumption)) ?_; intro _ _)
        | (rw [zw_bind]; with_reducible refine zw_mono (zxw_want (by assumption)) ?_; intro _ _)
        | (rw [zw_bind]; with_reducible refine zw_mono (zx_next (by assumption)) ?_; intro _ _)
        | (rw [zw_bind]; with_reducible refine zw_mono (zxb_constant (by assumption) (by omega) (by omega)) ?_; intro _ _)
        | (rw [zw_bind]; with_reducible refine zw_mono (zxw_simple (by assumption) (by omega) (by omega)) ?_; rintro _ ⟨_, _, _, _⟩)
        | (rw [zw_B]; with_reducible refine zw_mono (zxb_add (by assumption) (by omega) rfl (by omega)) ?_; rintro _ ⟨e1, _⟩; try rw [e1])
        | rw [zx_isSign (by assumption), if_pos rfl]
        | rw [zx_isWord (by assumption), if_pos rfl]
        | rw [if_neg (zx_ne (by assumption))]
        | rw [if_neg (zx_pos (by assumption))]
        | rw [if_pos (show (0 : Int32) ≤ 0 by decide)]
  refine zk_sA I3 (zk_wantS I3.1 (c := 41) (k := 41) (by decide) (by decide)) ?_ fun h4 g4 LM4 I4 => ?_
  · intro φ w hz gz z1 z2
    refine zk_Gf (φ := φ) (w := w) ?_ ?_
    · repeat' first
        | with_reducible exact zw_some.mpr ⟨by assumption, by assumption⟩
        | (rw [zw_bind]; with_reducible refine zw_mono (zz_take (by assumption)) ?_; intro _ _)
        | (rw [zw_B]; with_reducible refine zw_mono (zz_constant (by assumption)) ?_; rintro _ ⟨_, _⟩)
        | (rw [zw_B]; with_reducible refine zw_mono (zz_simpleType (by assumption)) ?_; rintro _ ⟨_, _⟩)
        | (rw [zw_B]; with_reducible refine zw_mono (zz_type (by assumption)) ?_; rintro _ ⟨_, _⟩)
        | (rw [zw_B]; with_reducible refine zw_mono (zz_whole (by assumption)) ?_; rintro _ ⟨_, _⟩)
        | (rw [zw_B]; with_reducible refine zw_mono (zz_add (by assumption)) ?_; rintro _ ⟨_, _⟩)
        | (rw [zw_B]; with_reducible refine zw_mono (zz_hang (by assumption) (by assumption) (by first | assumption | exact zq_vl_n | exact zq_vl_v (by assumption)) (by assumption)) ?_; rintro _ ⟨_, _⟩)
        | rw [if_pos (zq_at (by assumption))]
        | rw [zz_isCell (by assumption), if_pos rfl]
        | rw [if_neg (zq_ne (by assumption) (by decide) (by decide))]
    · repeat' first
        | (with_reducible refine zw_some.mpr ⟨_, ⟨?_, ?_⟩, by assumption⟩ <;> omega)
        | (rw [zw_bind]; with_reducible refine zw_mono (zxw_wantSign (by assumption)) ?_; intro _ _)
        | (rw [zw_bind]; with_reducible refine zw_mono (zxw_wantWord (by assumption)) ?_; intro _ _)
        | (rw [zw_bind]; with_reducible refine zw_mono (zxw_want (by assumption)) ?_; intro _ _)
        | (rw [zw_bind]; with_reducible refine zw_mono (zx_next (by assumption)) ?_; intro _ _)
        | (rw [zw_bind]; with_reducible refine zw_mono (zxb_constant (by assumption) (by omega) (by omega)) ?_; intro _ _)
        | (rw [zw_bind]; with_reducible refine zw_mono (zxw_simple (by assumption) (by omega) (by omega)) ?_; rintro _ ⟨_, _, _, _⟩)
        | (rw [zw_B]; with_reducible refine zw_mono (zxb_add (by assumption) (by omega) rfl (by omega)) ?_; rintro _ ⟨e1, _⟩; try rw [e1])
        | rw [zx_isSign (by assumption), if_pos rfl]
        | rw [zx_isWord (by assumption), if_pos rfl]
        | rw [if_neg (zx_ne (by assumption))]
        | rw [if_neg (zx_pos (by assumption))]
        | rw [if_pos (show (0 : Int32) ≤ 0 by decide)]
  have b4 := zk_Ib I4
  exact ⟨nI s, h4, g4, rfl, rfl, Or.inl (zk_Id I4 (by omega) (by omega) rfl (Or.inr ⟨how, by show _ < 4; omega, rfl, fun z => absurd z (by decide)⟩) (by decide) (by omega) (by decide))⟩
theorem zk_coil (H : zk_L h0 g0 T n K LC h g LM j d s m o q) {b : Nat} (hb : b < m) (hs : s ≤ 2 * j + 12) (hm : m ≤ 2 * j + 12) (ht : (h.1 19 5) = 40) : zk_G h0 g0 T n K LC m 20700 o (zk_T h0 g0 T n K LC LM (zg_T [25, 26, 27, 28] 3) j d s m o q b h g) (f_Ps_coil h) ((f_Mo_next g).bind fun h11 => (if (f_Mo_isSign h11 47) = 0 then (if (f_Mo_isSign h11 43) = 0 then (if (f_Mo_isSign h11 45) = 0 then f_Mo_readCell_118 h11 (nI b) ((g.1 68 7)) 0 else f_Mo_readCell_118 h11 (nI b) ((g.1 68 7)) 3) else f_Mo_readCell_118 h11 (nI b) ((g.1 68 7)) 2) else f_Mo_readCell_118 h11 (nI b) ((g.1 68 7)) 1)) := by
  have hK := zk_bK H
  have m4 := H.2.2.2.2.2.2.2.2.1
  have v0 : zq_v (nI s) := ⟨s, by omega, rfl⟩
  unfold f_Ps_coil
  obtain ⟨h1, e1, L1, qA⟩ := zk_cadd H (kd := 28) (kv := 28) (v := 0) (by omega) (by decide) rfl
  rw [e1, zo_B]
  refine zk_lN L1 (by rw [L1.2.2.2.1.2.2.1, ← H.2.2.2.1.2.2.1]; exact ht) (by decide) ?_ fun h2 g2 LM2 tf hp L2 => ?_
  · intro φ w hz gz z1 z2
    refine zk_Gf (φ := φ) (w := w) ?_ ?_
    · repeat' first
        | with_reducible exact zw_some.mpr ⟨by assumption, by assumption⟩
        | (rw [zw_bind]; with_reducible refine zw_mono (zz_take (by assumption)) ?_; intro _ _)
        | (rw [zw_B]; with_reducible refine zw_mono (zz_constant (by assumption)) ?_; rintro _ ⟨_, _⟩)
        | (rw [zw_B]; with_reducible refine zw_mono (zz_simpleType (by assumption)) ?_; rintro _ ⟨_, _⟩)
        | (rw [zw_B]; with_reducible refine zw_mono (zz_type (by assumption)) ?_; rintro _ ⟨_, _⟩)
        | (rw [zw_B]; with_reducible refine zw_mono (zz_whole (by assumption)) ?_; rintro _ ⟨_, _⟩)
        | (rw [zw_B]; with_reducible refine zw_mono (zz_add (by assumption)) ?_; rintro _ ⟨_, _⟩)
        | (rw [zw_B]; with_reducible refine zw_mono (zz_hang (by assumption) (by assumption) (by first | assumption | exact zq_vl_n | exact zq_vl_v (by assumption)) (by assumption)) ?_; rintro _ ⟨_, _⟩)
        | rw [if_pos (zq_at (by assumption))]
        | rw [zz_isCell (by assumption), if_pos rfl]
        | rw [if_neg (zq_ne (by assumption) (by decide) (by decide))]
        | unfold f_Ps_coil_92
    · repeat' first
        | (with_reducible refine zw_some.mpr ⟨_, ⟨?_, ?_⟩, by assumption⟩ <;> omega)
        | (rw [zw_bind]; with_reducible refine zw_mono (zxw_wantSign (by assumption)) ?_; intro _ _)
        | (rw [zw_bind]; with_reducible refine zw_mono (zxw_wantWord (by assumption)) ?_; intro _ _)
        | (rw [zw_bind]; with_reducible refine zw_mono (zxw_want (by assumption)) ?_; intro _ _)
        | (rw [zw_bind]; with_reducible refine zw_mono (zx_next (by assumption)) ?_; intro _ _)
        | (rw [zw_bind]; with_reducible refine zw_mono (zxb_constant (by assumption) (by omega) (by omega)) ?_; intro _ _)
        | (rw [zw_bind]; with_reducible refine zw_mono (zxw_simple (by assumption) (by omega) (by omega)) ?_; rintro _ ⟨_, _, _, _⟩)
        | (rw [zw_B]; with_reducible refine zw_mono (zxb_add (by assumption) (by omega) rfl (by omega)) ?_; rintro _ ⟨e1, _⟩; try rw [e1])
        | rw [zx_isSign (by assumption), if_pos rfl]
        | rw [zx_isWord (by assumption), if_pos rfl]
        | rw [if_neg (zx_ne (by assumption))]
        | rw [if_neg (zx_pos (by assumption))]
        | rw [if_pos (show (0 : Int32) ≤ 0 by decide)]
        | unfold f_Mo_readCell_118
        | unfold f_Mo_readCell_127
        | unfold f_Mo_readCell_170
        | split
  have kA := zq_kp_A qA
  have kf := zq_kp_f (s := s + 1) tf.1
  have ka := zx_ka_l (m := m) tf.2
  have K2 := zk_bK L2
  obtain ⟨q1, q2, q3, q4, q5, q6, q7⟩ := qA
  obtain ⟨r1, r2, r3, r4, r5⟩ := kf s (by omega)
  have hn : (h2.2.1 13) s = nI 28 ∧ (h2.2.1 15) s = (g.1 68 7) ∧ (h2.2.1 16) s = nI 0 ∧ (h2.2.1 18) s = -1 ∧ (h2.2.1 17) s = -1 := by
    rw [r1, r2, r3, r4, r5, q2, q3, q4, q5, q6, m4]
    iterate 5 rw [if_pos rfl]
    exact ⟨rfl, rfl, rfl, rfl, rfl⟩
  have hkp : zq_kp s h h2 := zq_kp_t kA kf (by omega)
  have s47 := zk_sign L2 (c := 47) (k := 47) (by decide)
  have s43 := zk_sign L2 (c := 43) (k := 43) (by decide)
  have s45 := zk_sign L2 (c := 45) (k := 45) (by decide)
  rw [show f_Mo_isSign g2 47 = _ from s47, show f_Mo_isSign g2 43 = _ from s43, show f_Mo_isSign g2 45 = _ from s45]
  have hw : ∀ how c : Nat, 1 ≤ how → how < 4 → (h2.1 19 5) = nI c → ¬ c = 6 → c < 200 → zk_G h0 g0 T n K LC m 20700 o (zk_T h0 g0 T n K LC LM (zg_T [25, 26, 27, 28] 3) j d s m o q b h g) (f_Ps_coil_83 h2 (nI s) (nI how) (nI s)) (f_Mo_readCell_118 g2 (nI b) ((g.1 68 7)) (nI how)) := by
    intro how c h1 h2' tk c6 c2
    unfold f_Ps_coil_83 f_Mo_readCell_118
    rw [if_pos (zi_in (by omega) (by omega)), nI_clamp (by omega), if_neg (mt (zc_el (k := 0) (by decide) (by omega)).mp (by omega))]
    have fV : zfr [] [16] [] h2 (zs_uM h2 16 s (nI how)) := zfr_M (by decide) zfr_rfl
    have L3 := zk_cf L2 fV (by decide)
    refine zk_lN L3 rfl (fun z => ?_) ?_ fun h3 g3 LM3 tf3 hp3 L4 => ?_
    · rw [tk] at z
      have := (zc_eq (k := 6) (by decide) (by omega)).mp z
      omega
    · intro φ w hz gz z1 z2
      refine zk_Gf (φ := φ) (w := w) ?_ ?_
      · repeat' first
          | with_reducible exact zw_some.mpr ⟨by assumption, by assumption⟩
          | (rw [zw_bind]; with_reducible refine zw_mono (zz_take (by assumption)) ?_; intro _ _)
          | (rw [zw_B]; with_reducible refine zw_mono (zz_constant (by assumption)) ?_; rintro _ ⟨_, _⟩)
          | (rw [zw_B]; with_reducible refine zw_mono (zz_simpleType (by assumption)) ?_; rintro _ ⟨_, _⟩)
          | (rw [zw_B]; with_reducible refine zw_mono (zz_type (by assumption)) ?_; rintro _ ⟨_, _⟩)
          | (rw [zw_B]; with_reducible refine zw_mono (zz_whole (by assumption)) ?_; rintro _ ⟨_, _⟩)
          | (rw [zw_B]; with_reducible refine zw_mono (zz_add (by assumption)) ?_; rintro _ ⟨_, _⟩)
          | (rw [zw_B]; with_reducible refine zw_mono (zz_hang (by assumption) (by assumption) (by first | assumption | exact zq_vl_n | exact zq_vl_v (by assumption)) (by assumption)) ?_; rintro _ ⟨_, _⟩)
          | rw [if_pos (zq_at (by assumption))]
          | rw [zz_isCell (by assumption), if_pos rfl]
          | rw [if_neg (zq_ne (by assumption) (by decide) (by decide))]
          | unfold f_Ps_coil_92
      · repeat' first
          | (with_reducible refine zw_some.mpr ⟨_, ⟨?_, ?_⟩, by assumption⟩ <;> omega)
          | (rw [zw_bind]; with_reducible refine zw_mono (zxw_wantSign (by assumption)) ?_; intro _ _)
          | (rw [zw_bind]; with_reducible refine zw_mono (zxw_wantWord (by assumption)) ?_; intro _ _)
          | (rw [zw_bind]; with_reducible refine zw_mono (zxw_want (by assumption)) ?_; intro _ _)
          | (rw [zw_bind]; with_reducible refine zw_mono (zx_next (by assumption)) ?_; intro _ _)
          | (rw [zw_bind]; with_reducible refine zw_mono (zxb_constant (by assumption) (by omega) (by omega)) ?_; intro _ _)
          | (rw [zw_bind]; with_reducible refine zw_mono (zxw_simple (by assumption) (by omega) (by omega)) ?_; rintro _ ⟨_, _, _, _⟩)
          | (rw [zw_B]; with_reducible refine zw_mono (zxb_add (by assumption) (by omega) rfl (by omega)) ?_; rintro _ ⟨e1, _⟩; try rw [e1])
          | rw [zx_isSign (by assumption), if_pos rfl]
          | rw [zx_isWord (by assumption), if_pos rfl]
          | rw [if_neg (zx_ne (by assumption))]
          | rw [if_neg (zx_pos (by assumption))]
          | rw [if_pos (show (0 : Int32) ≤ 0 by decide)]
          | unfold f_Mo_readCell_127
          | unfold f_Mo_readCell_170
          | split
    have kf3 := zq_kp_f (s := s + 1) tf3.1
    obtain ⟨t1, t2, t3, t4, t5⟩ := kf3 s (by omega)
    refine zk_coil92 (how := how) L4 hb hs hm (hp.trans hp3) (by omega) ?_ ?_ (zx_ka_t ka (zx_ka_l (m := m) tf3.2) (Nat.le_refl m)) h2'
    · intro i hi
      obtain ⟨x1, x2, x3, x4, x5⟩ := hkp i hi
      obtain ⟨y1, y2, y3, y4, y5⟩ := kf3 i (by omega)
      have ev : (zs_uM h2 16 s (nI how)).2.1 16 i = (h2.2.1 16) i := by
        show (if 16 = 16 ∧ i = s then nI how else _) = _
        rw [if_neg (by omega)]
      exact ⟨y1.trans x1, y2.trans x2, y3.trans (ev.trans x3), y4.trans x4, y5.trans x5⟩
    · refine ⟨t1.trans hn.1, t2.trans hn.2.1, t3.trans ?_, t5.trans hn.2.2.2.1, t4.trans hn.2.2.2.2⟩
      show (if 16 = 16 ∧ s = s then nI how else _) = _
      rw [if_pos ⟨rfl, rfl⟩]
  unfold f_Ps_coil_48
  by_cases t47 : (h2.1 19 5) = 47
  · rw [if_pos t47, if_pos t47, if_pos (show (h2.1 19 5) = nI 47 from t47), if_neg (by decide)]
    exact hw 1 47 (by decide) (by decide) t47 (by decide) (by decide)
  · rw [if_neg t47, if_neg t47, if_neg (show ¬ (h2.1 19 5) = nI 47 from t47), if_pos rfl]
    by_cases t43 : (h2.1 19 5) = 43
    · rw [if_pos t43, if_pos t43, if_pos (show (h2.1 19 5) = nI 43 from t43), if_neg (by decide)]
      exact hw 2 43 (by decide) (by decide) t43 (by decide) (by decide)
    · rw [if_neg t43, if_neg t43, if_neg (show ¬ (h2.1 19 5) = nI 43 from t43), if_pos rfl]
      by_cases t45 : (h2.1 19 5) = 45
      · rw [if_pos t45, if_pos (show (h2.1 19 5) = nI 45 from t45), if_neg (by decide)]
        exact hw 3 45 (by decide) (by decide) t45 (by decide) (by decide)
      · rw [if_neg t45, if_neg (show ¬ (h2.1 19 5) = nI 45 from t45), if_pos rfl]
        unfold f_Mo_readCell_118
        rw [if_pos (show (0 : Int32) ≤ 0 by decide)]
        exact zk_coil92 (how := 0) L2 hb hs hm hp (by omega) hkp hn ka (by decide)
/-- a contact's variable -/
theorem zk_con (I : zk_I h0 g0 T n K LC LM j s m o q b 25 p v h g g1 .leaf (-1) LM' j' d' s' m' e 0 2 f h' g') (hv25 : zg_v 25 v) (hf : 1 ≤ f) (hs : s ≤ 2 * j + 12) (hm : m ≤ 2 * j + 12) : zk_G h0 g0 T n K LC m 20700 o (zk_T h0 g0 T n K LC LM (zg_T [25, 26, 27, 28] 3) j d' s m o q b h g) (f_Ps_ladderCell_153 h' (nI s)) (f_Mo_contact_65 g' (nI m)) := by
  have v0 := zk_Iv I
  have b1 := zk_Ib I
  have hk := (zk_kind I.1).1
  have m4 := I.1.2.2.2.2.2.2.2.2.1
  have e65 : f_Mo_contact_65 g' (nI m) = f_Mo_contact_90 g' (nI m) ((g'.1 68 7)) ((g'.1 68 9)) (if (g'.1 68 6) = 1 then 1 else 0) := by
    unfold f_Mo_contact_65
    by_cases z : (g'.1 68 6) = 1
    · rw [if_pos z, if_pos z]
    · rw [if_neg z, if_neg z]
  rw [e65]
  unfold f_Ps_ladderCell_153 f_Mo_contact_90
  rw [if_pos (zk_atI I.1)]
  obtain ⟨h1, e1, L1, qA⟩ := zk_cadd I.1 (kd := 6) (kv := 6) (v := h'.2.1 11 ((h'.1 19 4)).toNatClampNeg) (by omega) (by decide) rfl
  rw [e1, zo_B]
  have vs' : zq_v (nI s') := ⟨s', by omega, rfl⟩
  have etk : (h1.1 19 5) = (h'.1 19 5) := by rw [L1.2.2.2.1.2.2.1, I.1.2.2.2.1.2.2.1]
  refine zk_lA L1 (zk_want L1 (x := 8) (y := if (g'.1 68 6) = 1 then 1 else 0) (by rw [etk, ← hk]; by_cases z : (g'.1 68 6) = 1 <;> simp [z]) (by decide)) ?_ fun h2 g2 LM2 tk tf hp L2 => ?_
  · intro φ w hz gz z1 z2
    refine zk_Gf (φ := φ) (w := w) ?_ ?_
    · repeat' first
        | with_reducible exact zw_some.mpr ⟨by assumption, by assumption⟩
        | (rw [zw_bind]; with_reducible refine zw_mono (zz_take (by assumption)) ?_; intro _ _)
        | (rw [zw_B]; with_reducible refine zw_mono (zz_constant (by assumption)) ?_; rintro _ ⟨_, _⟩)
        | (rw [zw_B]; with_reducible refine zw_mono (zz_simpleType (by assumption)) ?_; rintro _ ⟨_, _⟩)
        | (rw [zw_B]; with_reducible refine zw_mono (zz_type (by assumption)) ?_; rintro _ ⟨_, _⟩)
        | (rw [zw_B]; with_reducible refine zw_mono (zz_whole (by assumption)) ?_; rintro _ ⟨_, _⟩)
        | (rw [zw_B]; with_reducible refine zw_mono (zz_add (by assumption)) ?_; rintro _ ⟨_, _⟩)
        | (rw [zw_B]; with_reducible refine zw_mono (zz_hang (by assumption) (by assumption) (by first | assumption | exact zq_vl_n | exact zq_vl_v (by assumption)) (by assumption)) ?_; rintro _ ⟨_, _⟩)
        | rw [if_pos (zq_at (by assumption))]
        | rw [zz_isCell (by assumption), if_pos rfl]
        | rw [if_neg (zq_ne (by assumption) (by decide) (by decide))]
    · repeat' first
        | (with_reducible refine zw_some.mpr ⟨_, ⟨?_, ?_⟩, by assumption⟩ <;> omega)
        | (rw [zw_bind]; with_reducible refine zw_mono (zxw_wantSign (by assumption)) ?_; intro _ _)
        | (rw [zw_bind]; with_reducible refine zw_mono (zxw_wantWord (by assumption)) ?_; intro _ _)
        | (rw [zw_bind]; with_reducible refine zw_mono (zxw_want (by assumption)) ?_; intro _ _)
        | (rw [zw_bind]; with_reducible refine zw_mono (zx_next (by assumption)) ?_; intro _ _)
        | (rw [zw_bind]; with_reducible refine zw_mono (zxb_constant (by assumption) (by omega) (by omega)) ?_; intro _ _)
        | (rw [zw_bind]; with_reducible refine zw_mono (zxw_simple (by assumption) (by omega) (by omega)) ?_; rintro _ ⟨_, _, _, _⟩)
        | (rw [zw_B]; with_reducible refine zw_mono (zxb_add (by assumption) (by omega) rfl (by omega)) ?_; rintro _ ⟨e1, _⟩; try rw [e1])
        | rw [zx_isSign (by assumption), if_pos rfl]
        | rw [zx_isWord (by assumption), if_pos rfl]
        | rw [if_neg (zx_ne (by assumption))]
        | rw [if_neg (zx_pos (by assumption))]
        | rw [if_pos (show (0 : Int32) ≤ 0 by decide)]
        | unfold f_Mo_contact_150
        | split
  rw [etk] at tk
  have hk1 : (zl_at T n j').1 = 1 := (zc_eq (k := 1) (by decide) (by have := (zk_F I.1).1; omega)).mp (by rw [← I.1.2.2.2.2.2.2.2.2.2.2.1]; exact hk.mpr tk)
  obtain ⟨_, nr⟩ := zk_nm I.1 hk1
  obtain ⟨vc, hvc⟩ : ∃ vc, vc = h'.2.1 11 ((h'.1 19 4)).toNatClampNeg := ⟨_, rfl⟩
  obtain ⟨vm, hvm⟩ : ∃ vm, vm = (g'.1 68 9) := ⟨_, rfl⟩
  rw [← hvc, ← hvm] at nr
  rw [← hvc] at qA
  rw [← hvm, m4]
  have nr2 := zt_nrm hp nr
  have kA := zq_kp_A qA
  have kf := zq_kp_f (s := s' + 1) tf.1
  have ka := zx_ka_l (m := m') tf.2
  have K2 := zk_bK L2
  have hch : (h'.2.1 17) s = -1 := I.2.2.2.1.2.2.2.2.1
  have hlt := b1.2.2.2.1
  obtain ⟨x1, x2, x3, x4, x5⟩ := kA s hlt
  obtain ⟨y1, y2, y3, y4, y5⟩ := kf s (by omega)
  have htn := zt_Ck kf (fun i hi => by omega) (zt_Cn (by omega) qA)
  obtain ⟨h3, e2, t2, e3, e4⟩ := zq_hangC (h := h2) (ip := s) (a := s') (y := -1) (t := .leaf) (P := fun _ => False) (by omega) (fun i hi => hi.elim) ⟨by rw [y4, x4, hch], rfl⟩ htn (fun i hi => hi.elim) (fun z => z) (by omega) (by omega)
  rw [e2, zo_B]
  have L3 := zk_cf L2 e4 (by decide)
  -- the class's nodes up to here
  have hkp : zq_kp s h' h3 := by
    intro i hi
    obtain ⟨a1, a2, a3, a4, a5⟩ := kA i (by omega)
    obtain ⟨c1, c2, c3, c4, c5⟩ := kf i (by omega)
    obtain ⟨d1, d2, d3, d4, d5⟩ := e3 i
    exact ⟨d1.trans (c1.trans a1), d2.trans (c2.trans a2), d3.trans (c3.trans a3), (d4 (by omega)).trans (c4.trans a4), (d5 (fun z => z)).trans (c5.trans a5)⟩
  have hns : (h3.2.1 13) s = (h'.2.1 13) s ∧ (h3.2.1 15) s = (h'.2.1 15) s ∧ (h3.2.1 16) s = (h'.2.1 16) s ∧ (h3.2.1 18) s = (h'.2.1 18) s ∧ (h3.2.1 17) s = nI s' := by
    obtain ⟨d1, d2, d3, d4, d5⟩ := e3 s
    refine ⟨d1.trans (y1.trans x1), d2.trans (y2.trans x2), d3.trans (y3.trans x3), (d5 (fun z => z)).trans (y5.trans x5), ?_⟩
    obtain ⟨i, P1, P2, a1, a2, q1, q2, q3, _⟩ := t2
    rcases q1 with z | z
    · exact z.elim
    · rw [q3, z]
  have hnn : (h3.2.1 13) s' = nI 6 ∧ (h3.2.1 15) s' = nI (zl_at T n j').2.1 ∧ (h3.2.1 16) s' = vc ∧ (h3.2.1 18) s' = -1 ∧ (h3.2.1 17) s' = -1 := by
    obtain ⟨d1, d2, d3, d4, d5⟩ := e3 s'
    obtain ⟨c1, c2, c3, c4, c5⟩ := kf s' (by omega)
    obtain ⟨q1, q2, q3, q4, q5, q6, q7⟩ := qA
    exact ⟨d1.trans (c1.trans (by rw [q2, if_pos rfl])), d2.trans (c2.trans (by rw [q3, if_pos rfl])), d3.trans (c3.trans (by rw [q4, if_pos rfl])), (d5 (fun z => z)).trans (c5.trans (by rw [q6, if_pos rfl])), (d4 (by omega)).trans (c4.trans (by rw [q5, if_pos rfl]))⟩
  rw [show f_Mo_isSign g2 46 = if (h3.1 19 5) = nI 46 then 1 else 0 from zk_sign L3 (c := 46) (k := 46) (by decide)]
  by_cases c : (h3.1 19 5) = 46
  · rw [if_pos c, if_pos (show (h3.1 19 5) = nI 46 from c), if_neg (show ¬ (1 : Int32) = 0 by decide), if_pos (show zd_in (nI s') 32784 from zi_in (by omega) (by omega)), nI_clamp (by omega)]
    have fV : zfr [] [13] [] h3 (zs_uM h3 13 s' 33) := zfr_M (by decide) zfr_rfl
    have L4 := zk_cf L3 fV (by decide)
    have ek : ∀ i, (zs_uM h3 13 s' 33).2.1 13 i = if i = s' then 33 else (h3.2.1 13) i := fun i => by simp [zu_MM]
    obtain ⟨g3, e5, I5⟩ := zk_I1 (D := 1) (j := j' + 1) (h := h3) (g := g2) (LM := LM2) (s := s') (m := m') (b := m) (kd := 33) (km := 33) (p := nI (zl_at T n j').2.1) (v := vc) (w := vm) L4 (List.prefix_refl _) (Nat.le_refl _) (fun i hi => ⟨by rw [ek, if_neg (by omega)], rfl, rfl, rfl, rfl⟩) ⟨by rw [ek, if_pos rfl]; rfl, hnn.2.1, hnn.2.2.1, hnn.2.2.2.1, hnn.2.2.2.2⟩ (fun i _ => ⟨rfl, rfl, rfl, rfl, rfl, rfl, rfl⟩) (by omega) (by omega) (by omega) rfl (by rw [if_pos (by decide)]; exact nr2)
    rw [e5, zo_B]
    have b5 := zk_Ib I5
    refine zk_sN I5 (x := 46) c (by decide) ?_ fun h6 g6 LM6 I6 => ?_
    · intro φ w hz gz z1 z2
      refine zk_Gf (φ := φ) (w := w) ?_ ?_
      · repeat' first
          | with_reducible exact zw_some.mpr ⟨by assumption, by assumption⟩
          | (rw [zw_bind]; with_reducible refine zw_mono (zz_take (by assumption)) ?_; intro _ _)
          | (rw [zw_B]; with_reducible refine zw_mono (zz_constant (by assumption)) ?_; rintro _ ⟨_, _⟩)
          | (rw [zw_B]; with_reducible refine zw_mono (zz_simpleType (by assumption)) ?_; rintro _ ⟨_, _⟩)
          | (rw [zw_B]; with_reducible refine zw_mono (zz_type (by assumption)) ?_; rintro _ ⟨_, _⟩)
          | (rw [zw_B]; with_reducible refine zw_mono (zz_whole (by assumption)) ?_; rintro _ ⟨_, _⟩)
          | (rw [zw_B]; with_reducible refine zw_mono (zz_add (by assumption)) ?_; rintro _ ⟨_, _⟩)
          | (rw [zw_B]; with_reducible refine zw_mono (zz_hang (by assumption) (by assumption) (by first | assumption | exact zq_vl_n | exact zq_vl_v (by assumption)) (by assumption)) ?_; rintro _ ⟨_, _⟩)
          | rw [if_pos (zq_at (by assumption))]
          | rw [zz_isCell (by assumption), if_pos rfl]
          | rw [if_neg (zq_ne (by assumption) (by decide) (by decide))]
      · repeat' first
          | (with_reducible refine zw_some.mpr ⟨_, ⟨?_, ?_⟩, by assumption⟩ <;> omega)
          | (rw [zw_bind]; with_reducible refine zw_mono (zxw_wantSign (by assumption)) ?_; intro _ _)
          | (rw [zw_bind]; with_reducible refine zw_mono (zxw_wantWord (by assumption)) ?_; intro _ _)
          | (rw [zw_bind]; with_reducible refine zw_mono (zxw_want (by assumption)) ?_; intro _ _)
          | (rw [zw_bind]; with_reducible refine zw_mono (zx_next (by assumption)) ?_; intro _ _)
          | (rw [zw_bind]; with_reducible refine zw_mono (zxb_constant (by assumption) (by omega) (by omega)) ?_; intro _ _)
          | (rw [zw_bind]; with_reducible refine zw_mono (zxw_simple (by assumption) (by omega) (by omega)) ?_; rintro _ ⟨_, _, _, _⟩)
          | (rw [zw_B]; with_reducible refine zw_mono (zxb_add (by assumption) (by omega) rfl (by omega)) ?_; rintro _ ⟨e1, _⟩; try rw [e1])
          | rw [zx_isSign (by assumption), if_pos rfl]
          | rw [zx_isWord (by assumption), if_pos rfl]
          | rw [if_neg (zx_ne (by assumption))]
          | rw [if_neg (zx_pos (by assumption))]
          | rw [if_pos (show (0 : Int32) ≤ 0 by decide)]
          | unfold f_Mo_contact_150
          | split
    have b6 := zk_Ib I6
    rw [if_pos (zk_atI I6.1)]
    have hk6 := (zk_kind I6.1).1
    refine zk_sLf (k2 := 38) (st' := 1) (f' := 1) (yy := if (g6.1 68 6) = 1 then 1 else 0) (FB := fun h2 => some h2) (x := 8) (FA := fun v9 h12 => some (nI s, h12)) I6 (by decide) rfl rfl ?_ (by decide) ?_ (by decide) rfl (by decide) (by rw [if_neg (by decide)]; omega) (by omega) (by omega) ?_ ?_ fun h7 g7 u7 LM7 I7 => ?_
    · rw [← hk6]; by_cases z : (g6.1 68 6) = 1 <;> simp [z]
    · intro z
      have hk1 : (zl_at T n (j' + 1 + 1)).1 = 1 := (zc_eq (k := 1) (by decide) (by have := (zk_F I6.1).1; omega)).mp (by rw [← I6.1.2.2.2.2.2.2.2.2.2.2.1]; exact hk6.mpr z)
      obtain ⟨_, n2⟩ := zk_nm I6.1 hk1
      rw [if_pos (by decide)]
      exact ⟨n2, Or.inl rfl⟩
    · intro x gx hx _
      rw [hx]
      by_cases z : (g6.1 68 6) = 1
      · rw [if_pos z, if_pos z]; rfl
      · rw [if_neg z, if_neg z]; rfl
    · intro φ w xz hz gz vz z1 z2
      refine zk_Gf (φ := φ) (w := w) ?_ ?_
      · repeat' first
          | with_reducible exact zw_some.mpr ⟨by assumption, by assumption⟩
          | (rw [zw_bind]; with_reducible refine zw_mono (zz_take (by assumption)) ?_; intro _ _)
          | (rw [zw_B]; with_reducible refine zw_mono (zz_constant (by assumption)) ?_; rintro _ ⟨_, _⟩)
          | (rw [zw_B]; with_reducible refine zw_mono (zz_simpleType (by assumption)) ?_; rintro _ ⟨_, _⟩)
          | (rw [zw_B]; with_reducible refine zw_mono (zz_type (by assumption)) ?_; rintro _ ⟨_, _⟩)
          | (rw [zw_B]; with_reducible refine zw_mono (zz_whole (by assumption)) ?_; rintro _ ⟨_, _⟩)
          | (rw [zw_B]; with_reducible refine zw_mono (zz_add (by assumption)) ?_; rintro _ ⟨_, _⟩)
          | (rw [zw_B]; with_reducible refine zw_mono (zz_hang (by assumption) (by assumption) (by first | assumption | exact zq_vl_n | exact zq_vl_v (by assumption)) (by assumption)) ?_; rintro _ ⟨_, _⟩)
          | rw [if_pos (zq_at (by assumption))]
          | rw [zz_isCell (by assumption), if_pos rfl]
          | rw [if_neg (zq_ne (by assumption) (by decide) (by decide))]
      · repeat' first
          | (with_reducible refine zw_some.mpr ⟨_, ⟨?_, ?_⟩, by assumption⟩ <;> omega)
          | (rw [zw_bind]; with_reducible refine zw_mono (zxw_wantSign (by assumption)) ?_; intro _ _)
          | (rw [zw_bind]; with_reducible refine zw_mono (zxw_wantWord (by assumption)) ?_; intro _ _)
          | (rw [zw_bind]; with_reducible refine zw_mono (zxw_want (by assumption)) ?_; intro _ _)
          | (rw [zw_bind]; with_reducible refine zw_mono (zx_next (by assumption)) ?_; intro _ _)
          | (rw [zw_bind]; with_reducible refine zw_mono (zxb_constant (by assumption) (by omega) (by omega)) ?_; intro _ _)
          | (rw [zw_bind]; with_reducible refine zw_mono (zxw_simple (by assumption) (by omega) (by omega)) ?_; rintro _ ⟨_, _, _, _⟩)
          | (rw [zw_B]; with_reducible refine zw_mono (zxb_add (by assumption) (by omega) rfl (by omega)) ?_; rintro _ ⟨e1, _⟩; try rw [e1])
          | rw [zx_isSign (by assumption), if_pos rfl]
          | rw [zx_isWord (by assumption), if_pos rfl]
          | rw [if_neg (zx_ne (by assumption))]
          | rw [if_neg (zx_pos (by assumption))]
          | rw [if_pos (show (0 : Int32) ≤ 0 by decide)]
    obtain ⟨t, LMt, jt, st, mt, at', ⟨r0, r0c⟩, r1, r2, r3, r4, r5, r6, r7, r8, r9, r10, r11, r12, r13⟩ := zk_Id (S := [33]) I7 (by omega) (by omega) rfl (Or.inl rfl) (by decide) (by omega) (by decide)
    have Kt := zk_bK r2
    have eat : at' = s' := (nI_eq (by omega) (by omega)).mp r8.symm
    subst eat
    obtain ⟨z1, z2, z3, z4, z5⟩ := r12 s hlt
    have I8 := zk_Ihg (S := [33]) (st' := 1) (e' := e + 1) I r0 (by omega) (hp.trans r1) r2 (by omega) r4 (by omega) r6 (by omega) r11 (zq_kp_t hkp r12 (by omega)) ⟨z1.trans hns.1, z2.trans hns.2.1, z3.trans hns.2.2.1, z5.trans hns.2.2.2.1, z4.trans hns.2.2.2.2⟩ (zx_AP_t (zx_AP_0 hp ka (by omega)) r13 (Nat.le_refl _) (by omega) (by omega)) (by decide)
    exact ⟨nI s, h7, g7, rfl, rfl, Or.inl (zk_Id I8 (by omega) (by omega) rfl hv25 (by decide) hf (by decide))⟩
  · rw [if_neg c, if_neg (show ¬ (h3.1 19 5) = nI 46 from c), if_pos rfl]
    obtain ⟨g3, e5, L5, qM, _⟩ := zk_madd L3 (b := m) (kd := 6) (kv := 6) (p := nI (zl_at T n j').2.1) (v := vm) (v' := vc) (by omega) (by omega) rfl (by rw [if_pos (by decide)]; exact nr2)
    rw [e5, zo_B]
    have hWt : zg_T [6] 2 (zt_n 6 (nI (zl_at T n j').2.1) vc .leaf) := zg_Tm (zg_n (S := [6]) (D := 0) zg_U0 rfl (Or.inl rfl) (by decide)) (fun _ z => z) (by decide)
    have htn3 : zt_C h3 (zt_n 6 (nI (zl_at T n j').2.1) vc .leaf) (fun i => s' ≤ i ∧ i < s' + 1) (nI s') (nI s') := zt_Cm (P := fun i => i = s' ∨ False) (fun i hi => by rcases hi with z | z; omega; exact z.elim) (zt_Cp (t := .leaf) (y := -1) (P := fun _ => False) (by omega) (fun z => z) hnn.1 hnn.2.1 hnn.2.2.1 hnn.2.2.2.1 ⟨hnn.2.2.2.2, rfl⟩)
    have I8 := zk_Ihg (S := [6]) (st' := 1) (e' := e + 1) I hWt (by rw [zg_c_n (by decide)]; exact Nat.zero_le _) hp L5 (by omega) (by omega) (by omega) (by omega) (by omega) htn3 hkp hns (zx_AP_t (zx_AP_0 hp ka (by omega)) qM (Nat.le_refl _) (by omega) (by omega)) (by decide)
    exact ⟨nI s, h3, g3, rfl, rfl, Or.inl (zk_Id I8 (by omega) (by omega) rfl hv25 (by decide) hf (by decide))⟩
end ZI
end
section
/-! Both readers in step: cells, rows, rungs. -/
theorem zk_isCt {h h1 : zs_H} (e : (h1.1 19 5) = (h.1 19 5)) : f_Ps_isCell h1 = f_Ps_isCell h := by
  unfold f_Ps_isCell
  rw [e]
theorem zk_isC1 {h : zs_H} {x : Int32} (e : (h.1 19 5) = x) (hx : x = 8 ∨ x = 47 ∨ x = 62 ∨ x = 60 ∨ x = 45 ∨ x = 42 ∨ x = 40) : ¬ f_Ps_isCell h = 0 := by
  unfold f_Ps_isCell
  rw [e]
  rcases hx with z | z | z | z | z | z | z <;> subst z <;> decide
theorem zk_isC0 {h : zs_H} (z : f_Ps_isCell h = 0) : ¬ (h.1 19 5) = 8 ∧ ¬ (h.1 19 5) = 47 ∧ ¬ (h.1 19 5) = 62 ∧ ¬ (h.1 19 5) = 60 ∧ ¬ (h.1 19 5) = 45 ∧ ¬ (h.1 19 5) = 42 ∧ ¬ (h.1 19 5) = 40 := by
  refine ⟨?_, ?_, ?_, ?_, ?_, ?_, ?_⟩ <;> intro e <;> exact zk_isC1 e (by decide) z
theorem zk_isC2 {h : zs_H} (a : ¬ (h.1 19 5) = 8 ∧ ¬ (h.1 19 5) = 47 ∧ ¬ (h.1 19 5) = 62 ∧ ¬ (h.1 19 5) = 60 ∧ ¬ (h.1 19 5) = 45 ∧ ¬ (h.1 19 5) = 42 ∧ ¬ (h.1 19 5) = 40) : f_Ps_isCell h = 0 := by
  unfold f_Ps_isCell
  rw [if_neg a.1, if_neg a.2.1, if_neg a.2.2.1, if_neg a.2.2.2.1, if_neg a.2.2.2.2.1, if_neg a.2.2.2.2.2.1, if_neg a.2.2.2.2.2.2]
section ZJ
variable {h0 g0 h g g1 h' g' : zs_H} {T : Nat → Int32} {n K : Nat} {LC LM LM' : List (List Int32)} {j d s m o q b kd j' d' s' m' e st D f M0 M : Nat} {p v y : Int32} {u : zt_T} {X : Int32 → zs_H → zs_H → Prop}
theorem zk_con121 (H : zk_L h0 g0 T n K LC h g LM j d s m o q) {b how : Nat} (hb : b < m) (hs : s ≤ 2 * j + 12) (hm : m ≤ 2 * j + 12) (hh : how < 4) (hc : (how = 0 ∧ ((h.1 19 5) = 8 ∨ f_Ps_isCell h = 0)) ∨ (1 ≤ how ∧ ¬ (h.1 19 5) = 8 ∧ ¬ f_Ps_isCell h = 0 ∧ ¬ (h.1 19 5) = 6)) : zk_G h0 g0 T n K LC m 20700 o (zk_T h0 g0 T n K LC LM (zg_T [25, 26, 27, 28] 3) j d s m o q b h g) (f_Ps_ladderCell_121 h (nI how) ((h.1 19 6)) 25) (f_Mo_contact_48 g (nI how) ((g.1 68 7)) 25 (nI b)) := by
  have hK := zk_bK H
  unfold f_Ps_ladderCell_121 f_Mo_contact_48
  obtain ⟨h1, g1, e1, e2, I⟩ := zk_I0 H (b := b) (kd := 25) (kc := 25) (km := 25) (D := 2) (v := nI how) (w := nI how) (by omega) (by omega) hb (by decide) rfl rfl (by rw [if_neg (by decide)])
  have v0 := zk_Iv I
  have hv : (g1.2.1 74) m = nI how := by
    obtain ⟨LM1, _, _, _, _, nf, _⟩ := I.2.2.2.2.1
    have := nf.2.2
    rwa [if_neg (by decide)] at this
  have hv25 : zg_v 25 (nI how) := Or.inr ⟨how, by show _ < 4; omega, rfl, fun z => absurd z (by decide)⟩
  have etk : (h1.1 19 5) = (h.1 19 5) := by rw [I.1.2.2.2.1.2.2.1, H.2.2.2.1.2.2.1]
  rw [e1, e2, zo_B, zo_B, if_pos (zi_in (by omega) (by omega)), nI_clamp (by omega), hv, zk_isCt etk, etk]
  rcases hc with ⟨c1, c2⟩ | ⟨c1, c2, c3, c4⟩
  · subst c1
    rw [if_pos (show nI 0 ≤ 0 by decide)]
    by_cases c8 : (h.1 19 5) = 8
    · rw [if_pos c8]
      exact zk_con I hv25 (by omega) hs hm
    · rcases c2 with c2 | c2
      · exact absurd c2 c8
      · rw [if_neg c8, if_pos c2]
        have hk := (zk_kind I.1).1
        unfold f_Ps_ladderCell_150 f_Mo_contact_65
        rw [if_neg (fun z => c8 (by rw [← etk]; exact hk.mp z))]
        unfold f_Mo_contact_90
        obtain ⟨h2, g2, e3, e4, φ, w, z1, z2⟩ := zk_wrong I.1 (x := -1) (by rw [I.1.2.2.2.1.2.2.1]; exact zc_m1 (by have := (zl_ckA (zk_F I.1)).2.2.2.2.2.2.2.2.1; omega))
        have e5 : f_Mo_want g1 0 = some g2 := by
          unfold f_Mo_want
          rw [if_pos I.1.2.2.2.2.2.2.1, if_pos rfl, e4]; rfl
        rw [e3, e5, Option.bind_some, Option.bind_some]
        refine zk_Gf (φ := φ) (w := w) ?_ ?_
        · repeat' first
            | with_reducible exact zw_some.mpr ⟨by assumption, by assumption⟩
            | (rw [zw_bind]; with_reducible refine zw_mono (zz_take (by assumption)) ?_; intro _ _)
            | (rw [zw_B]; with_reducible refine zw_mono (zz_constant (by assumption)) ?_; rintro _ ⟨_, _⟩)
            | (rw [zw_B]; with_reducible refine zw_mono (zz_simpleType (by assumption)) ?_; rintro _ ⟨_, _⟩)
            | (rw [zw_B]; with_reducible refine zw_mono (zz_type (by assumption)) ?_; rintro _ ⟨_, _⟩)
            | (rw [zw_B]; with_reducible refine zw_mono (zz_whole (by assumption)) ?_; rintro _ ⟨_, _⟩)
            | (rw [zw_B]; with_reducible refine zw_mono (zz_add (by assumption)) ?_; rintro _ ⟨_, _⟩)
            | (rw [zw_B]; with_reducible refine zw_mono (zz_hang (by assumption) (by assumption) (by first | assumption | exact zq_vl_n | exact zq_vl_v (by assumption)) (by assumption)) ?_; rintro _ ⟨_, _⟩)
            | rw [if_pos (zq_at (by assumption))]
            | rw [zz_isCell (by assumption), if_pos rfl]
            | rw [if_neg (zq_ne (by assumption) (by decide) (by decide))]
            | unfold f_Ps_ladderCell_153
        · repeat' first
            | (with_reducible refine zw_some.mpr ⟨_, ⟨?_, ?_⟩, by assumption⟩ <;> omega)
            | (rw [zw_bind]; with_reducible refine zw_mono (zxw_wantSign (by assumption)) ?_; intro _ _)
            | (rw [zw_bind]; with_reducible refine zw_mono (zxw_wantWord (by assumption)) ?_; intro _ _)
            | (rw [zw_bind]; with_reducible refine zw_mono (zxw_want (by assumption)) ?_; intro _ _)
            | (rw [zw_bind]; with_reducible refine zw_mono (zx_next (by assumption)) ?_; intro _ _)
            | (rw [zw_bind]; with_reducible refine zw_mono (zxb_constant (by assumption) (by omega) (by omega)) ?_; intro _ _)
            | (rw [zw_bind]; with_reducible refine zw_mono (zxw_simple (by assumption) (by omega) (by omega)) ?_; rintro _ ⟨_, _, _, _⟩)
            | (rw [zw_B]; with_reducible refine zw_mono (zxb_add (by assumption) (by omega) rfl (by omega)) ?_; rintro _ ⟨e1, _⟩; try rw [e1])
            | rw [zx_isSign (by assumption), if_pos rfl]
            | rw [zx_isWord (by assumption), if_pos rfl]
            | rw [if_neg (zx_ne (by assumption))]
            | rw [if_neg (zx_pos (by assumption))]
            | rw [if_pos (show (0 : Int32) ≤ 0 by decide)]
            | unfold f_Mo_contact_150
            | split
  · rw [if_neg c2, if_neg c3, if_neg (mt (zc_el (k := 0) (by decide) (by omega)).mp (by omega))]
    unfold f_Ps_ladderCell_150
    refine zk_sN I etk c4 ?_ fun h2 g2 LM2 I2 => ?_
    · intro φ w hz gz z1 z2
      refine zk_Gf (φ := φ) (w := w) ?_ ?_
      · repeat' first
          | with_reducible exact zw_some.mpr ⟨by assumption, by assumption⟩
          | (rw [zw_bind]; with_reducible refine zw_mono (zz_take (by assumption)) ?_; intro _ _)
          | (rw [zw_B]; with_reducible refine zw_mono (zz_constant (by assumption)) ?_; rintro _ ⟨_, _⟩)
          | (rw [zw_B]; with_reducible refine zw_mono (zz_simpleType (by assumption)) ?_; rintro _ ⟨_, _⟩)
          | (rw [zw_B]; with_reducible refine zw_mono (zz_type (by assumption)) ?_; rintro _ ⟨_, _⟩)
          | (rw [zw_B]; with_reducible refine zw_mono (zz_whole (by assumption)) ?_; rintro _ ⟨_, _⟩)
          | (rw [zw_B]; with_reducible refine zw_mono (zz_add (by assumption)) ?_; rintro _ ⟨_, _⟩)
          | (rw [zw_B]; with_reducible refine zw_mono (zz_hang (by assumption) (by assumption) (by first | assumption | exact zq_vl_n | exact zq_vl_v (by assumption)) (by assumption)) ?_; rintro _ ⟨_, _⟩)
          | rw [if_pos (zq_at (by assumption))]
          | rw [zz_isCell (by assumption), if_pos rfl]
          | rw [if_neg (zq_ne (by assumption) (by decide) (by decide))]
          | unfold f_Ps_ladderCell_153
      · repeat' first
          | (with_reducible refine zw_some.mpr ⟨_, ⟨?_, ?_⟩, by assumption⟩ <;> omega)
          | (rw [zw_bind]; with_reducible refine zw_mono (zxw_wantSign (by assumption)) ?_; intro _ _)
          | (rw [zw_bind]; with_reducible refine zw_mono (zxw_wantWord (by assumption)) ?_; intro _ _)
          | (rw [zw_bind]; with_reducible refine zw_mono (zxw_want (by assumption)) ?_; intro _ _)
          | (rw [zw_bind]; with_reducible refine zw_mono (zx_next (by assumption)) ?_; intro _ _)
          | (rw [zw_bind]; with_reducible refine zw_mono (zxb_constant (by assumption) (by omega) (by omega)) ?_; intro _ _)
          | (rw [zw_bind]; with_reducible refine zw_mono (zxw_simple (by assumption) (by omega) (by omega)) ?_; rintro _ ⟨_, _, _, _⟩)
          | (rw [zw_B]; with_reducible refine zw_mono (zxb_add (by assumption) (by omega) rfl (by omega)) ?_; rintro _ ⟨e1, _⟩; try rw [e1])
          | rw [zx_isSign (by assumption), if_pos rfl]
          | rw [zx_isWord (by assumption), if_pos rfl]
          | rw [if_neg (zx_ne (by assumption))]
          | rw [if_neg (zx_pos (by assumption))]
          | rw [if_pos (show (0 : Int32) ≤ 0 by decide)]
          | unfold f_Mo_contact_65
          | unfold f_Mo_contact_90
          | unfold f_Mo_contact_150
          | split
    exact zk_con I2 hv25 (by omega) hs hm
theorem zk_cell (H : zk_L h0 g0 T n K LC h g LM j d s m o q) {b : Nat} (hb : b < m) (hs : s ≤ 2 * j + 12) (hm : m ≤ 2 * j + 12) : zk_G h0 g0 T n K LC m 20700 o (zk_T h0 g0 T n K LC LM (zg_T [25, 26, 27, 28] 3) j d s m o q b h g) (f_Ps_ladderCell h) (f_Mo_readCell g (nI b)) := by
  have m2 := H.2.2.2.2.2.2.1
  unfold f_Ps_ladderCell f_Mo_readCell
  rw [if_pos (show (g.1 68 10) ≤ 0 by rw [m2]; decide)]
  rw [show f_Mo_isSign g 45 = if (h.1 19 5) = nI 45 then 1 else 0 from zk_sign H (c := 45) (k := 45) (by decide), show f_Mo_isSign g 42 = if (h.1 19 5) = nI 42 then 1 else 0 from zk_sign H (c := 42) (k := 42) (by decide), show f_Mo_isSign g 40 = if (h.1 19 5) = nI 40 then 1 else 0 from zk_sign H (c := 40) (k := 40) (by decide)]
  by_cases t40 : (h.1 19 5) = 40
  · rw [if_pos t40, if_pos (show (h.1 19 5) = nI 40 from t40), if_neg (show ¬ (h.1 19 5) = nI 45 by rw [t40]; decide), if_neg (show ¬ (h.1 19 5) = nI 42 by rw [t40]; decide), if_pos rfl, if_pos rfl, if_neg (by decide)]
    obtain ⟨x, h', g', e1, e2, e3⟩ := zk_coil H hb hs hm t40
    rw [e1, zo_B]
    exact ⟨x, h', g', rfl, e2, e3⟩
  · rw [if_neg t40, if_neg (show ¬ (h.1 19 5) = nI 40 from t40)]
    by_cases t45 : (h.1 19 5) = 45
    · rw [if_pos t45, if_pos (show (h.1 19 5) = nI 45 from t45), if_neg (show ¬ (1 : Int32) = 0 by decide)]
      unfold f_Ps_ladderCell_32 f_Mo_readCell_31
      rw [if_pos t45, if_pos (show (g.1 68 9) = 45 from (zk_sgv H (c := 45) (k := 45) (by decide) t45).2)]
      exact zk_wire (kd := 26) H hb hs hm (Or.inl rfl) (by rw [t45]; decide)
    · rw [if_neg t45, if_neg (show ¬ (h.1 19 5) = nI 45 from t45), if_pos rfl]
      by_cases t42 : (h.1 19 5) = 42
      · rw [if_pos t42, if_pos (show (h.1 19 5) = nI 42 from t42), if_neg (show ¬ (1 : Int32) = 0 by decide)]
        unfold f_Ps_ladderCell_32 f_Mo_readCell_31
        rw [if_neg t45, if_neg (show ¬ (g.1 68 9) = 45 by rw [(zk_sgv H (c := 42) (k := 42) (by decide) t42).2]; decide)]
        exact zk_wire (kd := 27) H hb hs hm (Or.inr rfl) (by rw [t42]; decide)
      · rw [if_neg t42, if_neg (show ¬ (h.1 19 5) = nI 42 from t42), if_pos rfl, if_pos rfl]
        unfold f_Mo_contact
        rw [show f_Mo_isSign g 47 = if (h.1 19 5) = nI 47 then 1 else 0 from zk_sign H (c := 47) (k := 47) (by decide), show f_Mo_isSign g 62 = if (h.1 19 5) = nI 62 then 1 else 0 from zk_sign H (c := 62) (k := 62) (by decide), show f_Mo_isSign g 60 = if (h.1 19 5) = nI 60 then 1 else 0 from zk_sign H (c := 60) (k := 60) (by decide)]
        have fin : ∀ how : Nat, how < 4 → ((how = 0 ∧ ((h.1 19 5) = 8 ∨ f_Ps_isCell h = 0)) ∨ (1 ≤ how ∧ ¬ (h.1 19 5) = 8 ∧ ¬ f_Ps_isCell h = 0 ∧ ¬ (h.1 19 5) = 6)) → zk_G h0 g0 T n K LC m 20700 o (zk_T h0 g0 T n K LC LM (zg_T [25, 26, 27, 28] 3) j d s m o q b h g) (f_Ps_ladderCell_121 h (nI how) ((h.1 19 6)) 25) ((f_Mo_contact_48 g (nI how) ((g.1 68 7)) 25 (nI b)).bind fun h9 => some h9) := by
          intro how hh hc
          obtain ⟨x, h', g', e1, e2, e3⟩ := zk_con121 H hb hs hm hh hc
          exact ⟨x, h', g', e1, by rw [e2]; rfl, e3⟩
        by_cases t47 : (h.1 19 5) = 47
        · rw [if_pos t47, if_pos (show (h.1 19 5) = nI 47 from t47), if_neg (show ¬ (1 : Int32) = 0 by decide)]
          exact fin 1 (by decide) (Or.inr ⟨by decide, by rw [t47]; decide, zk_isC1 t47 (by decide), by rw [t47]; decide⟩)
        · rw [if_neg t47, if_neg (show ¬ (h.1 19 5) = nI 47 from t47), if_pos rfl]
          by_cases t62 : (h.1 19 5) = 62
          · rw [if_pos t62, if_pos (show (h.1 19 5) = nI 62 from t62), if_neg (show ¬ (1 : Int32) = 0 by decide)]
            exact fin 2 (by decide) (Or.inr ⟨by decide, by rw [t62]; decide, zk_isC1 t62 (by decide), by rw [t62]; decide⟩)
          · rw [if_neg t62, if_neg (show ¬ (h.1 19 5) = nI 62 from t62), if_pos rfl]
            by_cases t60 : (h.1 19 5) = 60
            · rw [if_pos t60, if_pos (show (h.1 19 5) = nI 60 from t60), if_neg (show ¬ (1 : Int32) = 0 by decide)]
              exact fin 3 (by decide) (Or.inr ⟨by decide, by rw [t60]; decide, zk_isC1 t60 (by decide), by rw [t60]; decide⟩)
            · rw [if_neg t60, if_neg (show ¬ (h.1 19 5) = nI 60 from t60), if_pos rfl]
              refine fin 0 (by decide) (Or.inl ⟨rfl, ?_⟩)
              by_cases t8 : (h.1 19 5) = 8
              · exact Or.inl t8
              · exact Or.inr (zk_isC2 ⟨t8, t47, t62, t60, t45, t42, t40⟩)
/-- the model reads a cell where none can be: the fault is the class's -/
theorem zk_cellX (H : zk_L h0 g0 T n K LC h g LM j d s m o q) {b : Nat} {x : Int32} (hb : b < m) (hm : m + 2 < 33500) (hx : ¬ (h.1 19 5) = x) (hc : f_Ps_isCell h = 0) : ∃ h' g' φ w, f_Ps_take h x = some h' ∧ f_Mo_readCell g (nI b) = some g' ∧ zq_Z h0 T n K LC φ w h' ∧ zx_B g0 T n φ w (m + 2) o g' := by
  obtain ⟨t8, t47, t62, t60, t45, t42, t40⟩ := zk_isC0 hc
  have m2 := H.2.2.2.2.2.2.1
  unfold f_Mo_readCell f_Mo_contact
  rw [if_pos (show (g.1 68 10) ≤ 0 by rw [m2]; decide)]
  rw [show f_Mo_isSign g 45 = if (h.1 19 5) = nI 45 then 1 else 0 from zk_sign H (c := 45) (k := 45) (by decide), show f_Mo_isSign g 42 = if (h.1 19 5) = nI 42 then 1 else 0 from zk_sign H (c := 42) (k := 42) (by decide), show f_Mo_isSign g 40 = if (h.1 19 5) = nI 40 then 1 else 0 from zk_sign H (c := 40) (k := 40) (by decide), show f_Mo_isSign g 47 = if (h.1 19 5) = nI 47 then 1 else 0 from zk_sign H (c := 47) (k := 47) (by decide), show f_Mo_isSign g 62 = if (h.1 19 5) = nI 62 then 1 else 0 from zk_sign H (c := 62) (k := 62) (by decide), show f_Mo_isSign g 60 = if (h.1 19 5) = nI 60 then 1 else 0 from zk_sign H (c := 60) (k := 60) (by decide)]
  rw [if_neg (show ¬ (h.1 19 5) = nI 45 from t45), if_neg (show ¬ (h.1 19 5) = nI 42 from t42), if_neg (show ¬ (h.1 19 5) = nI 40 from t40), if_neg (show ¬ (h.1 19 5) = nI 47 from t47), if_neg (show ¬ (h.1 19 5) = nI 62 from t62), if_neg (show ¬ (h.1 19 5) = nI 60 from t60)]
  iterate 6 rw [if_pos rfl]
  unfold f_Mo_contact_48
  obtain ⟨g1, e1, L1, _, nf, _⟩ := zk_madd H (b := b) (kd := 25) (kv := 25) (p := (g.1 68 7)) (v := 0) (v' := 0) (by omega) hb rfl (by rw [if_neg (by decide)])
  have hv : (g1.2.1 74) m = 0 := by
    have := nf.2.2
    rwa [if_neg (by decide)] at this
  rw [e1, zo_B, if_pos (zi_in (by omega) (by omega)), nI_clamp (by omega), hv, if_pos (by decide)]
  have hk := (zk_kind L1).1
  unfold f_Mo_contact_65
  rw [if_neg (fun z => t8 (hk.mp z))]
  unfold f_Mo_contact_90
  obtain ⟨h2, g2, e3, e4, φ, w, z1, z2⟩ := zk_wrong L1 hx
  have e5 : f_Mo_want g1 0 = some g2 := by
    unfold f_Mo_want
    rw [if_pos L1.2.2.2.2.2.2.1, if_pos rfl, e4]; rfl
  rw [e5, Option.bind_some, zx_isSign z2, if_pos rfl]
  obtain ⟨⟨x1, g3⟩, e6, e7, z3⟩ := zxb_add (p := (g1.1 68 7)) (v := (g1.1 68 9)) (kd := 6) (kn := 6) (b := m) z2 (by omega) rfl (by omega)
  refine ⟨h2, g3, φ, w, e3, ?_, z1, z3⟩
  rw [e6]; rfl
end ZJ
end
