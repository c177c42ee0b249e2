/-! Both readers in step: cells, rows, rungs. -/
theorem zk_isCt {h h1 : zs_H} (e : (h1.1 19 5) = (h.1 19 5)) : f_Ps_isCell h1 = f_Ps_isCell h := by
  unfold f_Ps_isCell
  rw [e]
theorem zk_isC1 {h : zs_H} {x : Int32} (e : (h.1 19 5) = x) (hx : x = 8 ∨ x = 47 ∨ x = 62 ∨ x = 60 ∨ x = 45 ∨ x = 42 ∨ x = 40) : ¬ f_Ps_isCell h = 0 := by
  unfold f_Ps_isCell
  rw [e]
  rcases hx with z | z | z | z | z | z | z <;> subst z <;> decide
theorem zk_isC0 {h : zs_H} (z : f_Ps_isCell h = 0) : ¬ (h.1 19 5) = 8 ∧ ¬ (h.1 19 5) = 47 ∧ ¬ (h.1 19 5) = 62 ∧ ¬ (h.1 19 5) = 60 ∧ ¬ (h.1 19 5) = 45 ∧ ¬ (h.1 19 5) = 42 ∧ ¬ (h.1 19 5) = 40 := by
  refine ⟨?_, ?_, ?_, ?_, ?_, ?_, ?_⟩ <;> intro e <;> exact zk_isC1 e (by decide) z
theorem zk_isC2 {h : zs_H} (a : ¬ (h.1 19 5) = 8 ∧ ¬ (h.1 19 5) = 47 ∧ ¬ (h.1 19 5) = 62 ∧ ¬ (h.1 19 5) = 60 ∧ ¬ (h.1 19 5) = 45 ∧ ¬ (h.1 19 5) = 42 ∧ ¬ (h.1 19 5) = 40) : f_Ps_isCell h = 0 := by
  unfold f_Ps_isCell
  rw [if_neg a.1, if_neg a.2.1, if_neg a.2.2.1, if_neg a.2.2.2.1, if_neg a.2.2.2.2.1, if_neg a.2.2.2.2.2.1, if_neg a.2.2.2.2.2.2]
section ZJ
variable {h0 g0 h g g1 h' g' : zs_H} {T : Nat → Int32} {n K : Nat} {LC LM LM' : List (List Int32)} {j d s m o q b kd j' d' s' m' e st D f M0 M : Nat} {p v y : Int32} {u : zt_T} {X : Int32 → zs_H → zs_H → Prop}
theorem zk_con121 (H : zk_L h0 g0 T n K LC h g LM j d s m o q) {b how : Nat} (hb : b < m) (hs : s ≤ 2 * j + 12) (hm : m ≤ 2 * j + 12) (hh : how < 4) (hc : (how = 0 ∧ ((h.1 19 5) = 8 ∨ f_Ps_isCell h = 0)) ∨ (1 ≤ how ∧ ¬ (h.1 19 5) = 8 ∧ ¬ f_Ps_isCell h = 0 ∧ ¬ (h.1 19 5) = 6)) : zk_G h0 g0 T n K LC m 20700 o (zk_T h0 g0 T n K LC LM (zg_T [25, 26, 27, 28] 3) j d s m o q b h g) (f_Ps_ladderCell_121 h (nI how) ((h.1 19 6)) 25) (f_Mo_contact_48 g (nI how) ((g.1 68 7)) 25 (nI b)) := by
  have hK := zk_bK H
  unfold f_Ps_ladderCell_121 f_Mo_contact_48
  obtain ⟨h1, g1, e1, e2, I⟩ := zk_I0 H (b := b) (kd := 25) (kc := 25) (km := 25) (D := 2) (v := nI how) (w := nI how) (by omega) (by omega) hb (by decide) rfl rfl (by rw [if_neg (by decide)])
  have v0 := zk_Iv I
  have hv : (g1.2.1 74) m = nI how := by
    obtain ⟨LM1, _, _, _, _, nf, _⟩ := I.2.2.2.2.1
    have := nf.2.2
    rwa [if_neg (by decide)] at this
  have hv25 : zg_v 25 (nI how) := Or.inr ⟨how, by show _ < 4; omega, rfl, fun z => absurd z (by decide)⟩
  have etk : (h1.1 19 5) = (h.1 19 5) := by rw [I.1.2.2.2.1.2.2.1, H.2.2.2.1.2.2.1]
  rw [e1, e2, zo_B, zo_B, if_pos (zi_in (by omega) (by omega)), nI_clamp (by omega), hv, zk_isCt etk, etk]
  rcases hc with ⟨c1, c2⟩ | ⟨c1, c2, c3, c4⟩
  · subst c1
    rw [if_pos (show nI 0 ≤ 0 by decide)]
    by_cases c8 : (h.1 19 5) = 8
    · rw [if_pos c8]
      exact zk_con I hv25 (by omega) hs hm
    · rcases c2 with c2 | c2
      · exact absurd c2 c8
      · rw [if_neg c8, if_pos c2]
        have hk := (zk_kind I.1).1
        unfold f_Ps_ladderCell_150 f_Mo_contact_65
        rw [if_neg (fun z => c8 (by rw [← etk]; exact hk.mp z))]
        unfold f_Mo_contact_90
        obtain ⟨h2, g2, e3, e4, φ, w, z1, z2⟩ := zk_wrong I.1 (x := -1) (by rw [I.1.2.2.2.1.2.2.1]; exact zc_m1 (by have := (zl_ckA (zk_F I.1)).2.2.2.2.2.2.2.2.1; omega))
        have e5 : f_Mo_want g1 0 = some g2 := by
          unfold f_Mo_want
          rw [if_pos I.1.2.2.2.2.2.2.1, if_pos rfl, e4]; rfl
        rw [e3, e5, Option.bind_some, Option.bind_some]
        refine zk_Gf (φ := φ) (w := w) ?_ ?_
        · repeat' first
            | with_reducible exact zw_some.mpr ⟨by assumption, by assumption⟩
            | (rw [zw_bind]; with_reducible refine zw_mono (zz_take (by assumption)) ?_; intro _ _)
            | (rw [zw_B]; with_reducible refine zw_mono (zz_constant (by assumption)) ?_; rintro _ ⟨_, _⟩)
            | (rw [zw_B]; with_reducible refine zw_mono (zz_simpleType (by assumption)) ?_; rintro _ ⟨_, _⟩)
            | (rw [zw_B]; with_reducible refine zw_mono (zz_type (by assumption)) ?_; rintro _ ⟨_, _⟩)
            | (rw [zw_B]; with_reducible refine zw_mono (zz_whole (by assumption)) ?_; rintro _ ⟨_, _⟩)
            | (rw [zw_B]; with_reducible refine zw_mono (zz_add (by assumption)) ?_; rintro _ ⟨_, _⟩)
            | (rw [zw_B]; with_reducible refine zw_mono (zz_hang (by assumption) (by assumption) (by first | assumption | exact zq_vl_n | exact zq_vl_v (by assumption)) (by assumption)) ?_; rintro _ ⟨_, _⟩)
            | rw [if_pos (zq_at (by assumption))]
            | rw [zz_isCell (by assumption), if_pos rfl]
            | rw [if_neg (zq_ne (by assumption) (by decide) (by decide))]
            | unfold f_Ps_ladderCell_153
        · repeat' first
            | (with_reducible refine zw_some.mpr ⟨_, ⟨?_, ?_⟩, by assumption⟩ <;> omega)
            | (rw [zw_bind]; with_reducible refine zw_mono (zxw_wantSign (by assumption)) ?_; intro _ _)
            | (rw [zw_bind]; with_reducible refine zw_mono (zxw_wantWord (by assumption)) ?_; intro _ _)
            | (rw [zw_bind]; with_reducible refine zw_mono (zxw_want (by assumption)) ?_; intro _ _)
            | (rw [zw_bind]; with_reducible refine zw_mono (zx_next (by assumption)) ?_; intro _ _)
            | (rw [zw_bind]; with_reducible refine zw_mono (zxb_constant (by assumption) (by omega) (by omega)) ?_; intro _ _)
            | (rw [zw_bind]; with_reducible refine zw_mono (zxw_simple (by assumption) (by omega) (by omega)) ?_; rintro _ ⟨_, _, _, _⟩)
            | (rw [zw_B]; with_reducible refine zw_mono (zxb_add (by assumption) (by omega) rfl (by omega)) ?_; rintro _ ⟨e1, _⟩; try rw [e1])
            | rw [zx_isSign (by assumption), if_pos rfl]
            | rw [zx_isWord (by assumption), if_pos rfl]
            | rw [if_neg (zx_ne (by assumption))]
            | rw [if_neg (zx_pos (by assumption))]
            | rw [if_pos (show (0 : Int32) ≤ 0 by decide)]
            | unfold f_Mo_contact_150
            | split
  · rw [if_neg c2, if_neg c3, if_neg (mt (zc_el (k := 0) (by decide) (by omega)).mp (by omega))]
    unfold f_Ps_ladderCell_150
    refine zk_sN I etk c4 ?_ fun h2 g2 LM2 I2 => ?_
    · intro φ w hz gz z1 z2
      refine zk_Gf (φ := φ) (w := w) ?_ ?_
      · repeat' first
          | with_reducible exact zw_some.mpr ⟨by assumption, by assumption⟩
          | (rw [zw_bind]; with_reducible refine zw_mono (zz_take (by assumption)) ?_; intro _ _)
          | (rw [zw_B]; with_reducible refine zw_mono (zz_constant (by assumption)) ?_; rintro _ ⟨_, _⟩)
          | (rw [zw_B]; with_reducible refine zw_mono (zz_simpleType (by assumption)) ?_; rintro _ ⟨_, _⟩)
          | (rw [zw_B]; with_reducible refine zw_mono (zz_type (by assumption)) ?_; rintro _ ⟨_, _⟩)
          | (rw [zw_B]; with_reducible refine zw_mono (zz_whole (by assumption)) ?_; rintro _ ⟨_, _⟩)
          | (rw [zw_B]; with_reducible refine zw_mono (zz_add (by assumption)) ?_; rintro _ ⟨_, _⟩)
          | (rw [zw_B]; with_reducible refine zw_mono (zz_hang (by assumption) (by assumption) (by first | assumption | exact zq_vl_n | exact zq_vl_v (by assumption)) (by assumption)) ?_; rintro _ ⟨_, _⟩)
          | rw [if_pos (zq_at (by assumption))]
          | rw [zz_isCell (by assumption), if_pos rfl]
          | rw [if_neg (zq_ne (by assumption) (by decide) (by decide))]
          | unfold f_Ps_ladderCell_153
      · repeat' first
          | (with_reducible refine zw_some.mpr ⟨_, ⟨?_, ?_⟩, by assumption⟩ <;> omega)
          | (rw [zw_bind]; with_reducible refine zw_mono (zxw_wantSign (by assumption)) ?_; intro _ _)
          | (rw [zw_bind]; with_reducible refine zw_mono (zxw_wantWord (by assumption)) ?_; intro _ _)
          | (rw [zw_bind]; with_reducible refine zw_mono (zxw_want (by assumption)) ?_; intro _ _)
          | (rw [zw_bind]; with_reducible refine zw_mono (zx_next (by assumption)) ?_; intro _ _)
          | (rw [zw_bind]; with_reducible refine zw_mono (zxb_constant (by assumption) (by omega) (by omega)) ?_; intro _ _)
          | (rw [zw_bind]; with_reducible refine zw_mono (zxw_simple (by assumption) (by omega) (by omega)) ?_; rintro _ ⟨_, _, _, _⟩)
          | (rw [zw_B]; with_reducible refine zw_mono (zxb_add (by assumption) (by omega) rfl (by omega)) ?_; rintro _ ⟨e1, _⟩; try rw [e1])
          | rw [zx_isSign (by assumption), if_pos rfl]
          | rw [zx_isWord (by assumption), if_pos rfl]
          | rw [if_neg (zx_ne (by assumption))]
          | rw [if_neg (zx_pos (by assumption))]
          | rw [if_pos (show (0 : Int32) ≤ 0 by decide)]
          | unfold f_Mo_contact_65
          | unfold f_Mo_contact_90
          | unfold f_Mo_contact_150
          | split
    exact zk_con I2 hv25 (by omega) hs hm
theorem zk_cell (H : zk_L h0 g0 T n K LC h g LM j d s m o q) {b : Nat} (hb : b < m) (hs : s ≤ 2 * j + 12) (hm : m ≤ 2 * j + 12) : zk_G h0 g0 T n K LC m 20700 o (zk_T h0 g0 T n K LC LM (zg_T [25, 26, 27, 28] 3) j d s m o q b h g) (f_Ps_ladderCell h) (f_Mo_readCell g (nI b)) := by
  have m2 := H.2.2.2.2.2.2.1
  unfold f_Ps_ladderCell f_Mo_readCell
  rw [if_pos (show (g.1 68 10) ≤ 0 by rw [m2]; decide)]
  rw [show f_Mo_isSign g 45 = if (h.1 19 5) = nI 45 then 1 else 0 from zk_sign H (c := 45) (k := 45) (by decide), show f_Mo_isSign g 42 = if (h.1 19 5) = nI 42 then 1 else 0 from zk_sign H (c := 42) (k := 42) (by decide), show f_Mo_isSign g 40 = if (h.1 19 5) = nI 40 then 1 else 0 from zk_sign H (c := 40) (k := 40) (by decide)]
  by_cases t40 : (h.1 19 5) = 40
  · rw [if_pos t40, if_pos (show (h.1 19 5) = nI 40 from t40), if_neg (show ¬ (h.1 19 5) = nI 45 by rw [t40]; decide), if_neg (show ¬ (h.1 19 5) = nI 42 by rw [t40]; decide), if_pos rfl, if_pos rfl, if_neg (by decide)]
    obtain ⟨x, h', g', e1, e2, e3⟩ := zk_coil H hb hs hm t40
    rw [e1, zo_B]
    exact ⟨x, h', g', rfl, e2, e3⟩
  · rw [if_neg t40, if_neg (show ¬ (h.1 19 5) = nI 40 from t40)]
    by_cases t45 : (h.1 19 5) = 45
    · rw [if_pos t45, if_pos (show (h.1 19 5) = nI 45 from t45), if_neg (show ¬ (1 : Int32) = 0 by decide)]
      unfold f_Ps_ladderCell_32 f_Mo_readCell_31
      rw [if_pos t45, if_pos (show (g.1 68 9) = 45 from (zk_sgv H (c := 45) (k := 45) (by decide) t45).2)]
      exact zk_wire (kd := 26) H hb hs hm (Or.inl rfl) (by rw [t45]; decide)
    · rw [if_neg t45, if_neg (show ¬ (h.1 19 5) = nI 45 from t45), if_pos rfl]
      by_cases t42 : (h.1 19 5) = 42
      · rw [if_pos t42, if_pos (show (h.1 19 5) = nI 42 from t42), if_neg (show ¬ (1 : Int32) = 0 by decide)]
        unfold f_Ps_ladderCell_32 f_Mo_readCell_31
        rw [if_neg t45, if_neg (show ¬ (g.1 68 9) = 45 by rw [(zk_sgv H (c := 42) (k := 42) (by decide) t42).2]; decide)]
        exact zk_wire (kd := 27) H hb hs hm (Or.inr rfl) (by rw [t42]; decide)
      · rw [if_neg t42, if_neg (show ¬ (h.1 19 5) = nI 42 from t42), if_pos rfl, if_pos rfl]
        unfold f_Mo_contact
        rw [show f_Mo_isSign g 47 = if (h.1 19 5) = nI 47 then 1 else 0 from zk_sign H (c := 47) (k := 47) (by decide), show f_Mo_isSign g 62 = if (h.1 19 5) = nI 62 then 1 else 0 from zk_sign H (c := 62) (k := 62) (by decide), show f_Mo_isSign g 60 = if (h.1 19 5) = nI 60 then 1 else 0 from zk_sign H (c := 60) (k := 60) (by decide)]
        have fin : ∀ how : Nat, how < 4 → ((how = 0 ∧ ((h.1 19 5) = 8 ∨ f_Ps_isCell h = 0)) ∨ (1 ≤ how ∧ ¬ (h.1 19 5) = 8 ∧ ¬ f_Ps_isCell h = 0 ∧ ¬ (h.1 19 5) = 6)) → zk_G h0 g0 T n K LC m 20700 o (zk_T h0 g0 T n K LC LM (zg_T [25, 26, 27, 28] 3) j d s m o q b h g) (f_Ps_ladderCell_121 h (nI how) ((h.1 19 6)) 25) ((f_Mo_contact_48 g (nI how) ((g.1 68 7)) 25 (nI b)).bind fun h9 => some h9) := by
          intro how hh hc
          obtain ⟨x, h', g', e1, e2, e3⟩ := zk_con121 H hb hs hm hh hc
          exact ⟨x, h', g', e1, by rw [e2]; rfl, e3⟩
        by_cases t47 : (h.1 19 5) = 47
        · rw [if_pos t47, if_pos (show (h.1 19 5) = nI 47 from t47), if_neg (show ¬ (1 : Int32) = 0 by decide)]
          exact fin 1 (by decide) (Or.inr ⟨by decide, by rw [t47]; decide, zk_isC1 t47 (by decide), by rw [t47]; decide⟩)
        · rw [if_neg t47, if_neg (show ¬ (h.1 19 5) = nI 47 from t47), if_pos rfl]
          by_cases t62 : (h.1 19 5) = 62
          · rw [if_pos t62, if_pos (show (h.1 19 5) = nI 62 from t62), if_neg (show ¬ (1 : Int32) = 0 by decide)]
            exact fin 2 (by decide) (Or.inr ⟨by decide, by rw [t62]; decide, zk_isC1 t62 (by decide), by rw [t62]; decide⟩)
          · rw [if_neg t62, if_neg (show ¬ (h.1 19 5) = nI 62 from t62), if_pos rfl]
            by_cases t60 : (h.1 19 5) = 60
            · rw [if_pos t60, if_pos (show (h.1 19 5) = nI 60 from t60), if_neg (show ¬ (1 : Int32) = 0 by decide)]
              exact fin 3 (by decide) (Or.inr ⟨by decide, by rw [t60]; decide, zk_isC1 t60 (by decide), by rw [t60]; decide⟩)
            · rw [if_neg t60, if_neg (show ¬ (h.1 19 5) = nI 60 from t60), if_pos rfl]
              refine fin 0 (by decide) (Or.inl ⟨rfl, ?_⟩)
              by_cases t8 : (h.1 19 5) = 8
              · exact Or.inl t8
              · exact Or.inr (zk_isC2 ⟨t8, t47, t62, t60, t45, t42, t40⟩)
/-- the model reads a cell where none can be: the fault is the class's -/
theorem zk_cellX (H : zk_L h0 g0 T n K LC h g LM j d s m o q) {b : Nat} {x : Int32} (hb : b < m) (hm : m + 2 < 33500) (hx : ¬ (h.1 19 5) = x) (hc : f_Ps_isCell h = 0) : ∃ h' g' φ w, f_Ps_take h x = some h' ∧ f_Mo_readCell g (nI b) = some g' ∧ zq_Z h0 T n K LC φ w h' ∧ zx_B g0 T n φ w (m + 2) o g' := by
  obtain ⟨t8, t47, t62, t60, t45, t42, t40⟩ := zk_isC0 hc
  have m2 := H.2.2.2.2.2.2.1
  unfold f_Mo_readCell f_Mo_contact
  rw [if_pos (show (g.1 68 10) ≤ 0 by rw [m2]; decide)]
  rw [show f_Mo_isSign g 45 = if (h.1 19 5) = nI 45 then 1 else 0 from zk_sign H (c := 45) (k := 45) (by decide), show f_Mo_isSign g 42 = if (h.1 19 5) = nI 42 then 1 else 0 from zk_sign H (c := 42) (k := 42) (by decide), show f_Mo_isSign g 40 = if (h.1 19 5) = nI 40 then 1 else 0 from zk_sign H (c := 40) (k := 40) (by decide), show f_Mo_isSign g 47 = if (h.1 19 5) = nI 47 then 1 else 0 from zk_sign H (c := 47) (k := 47) (by decide), show f_Mo_isSign g 62 = if (h.1 19 5) = nI 62 then 1 else 0 from zk_sign H (c := 62) (k := 62) (by decide), show f_Mo_isSign g 60 = if (h.1 19 5) = nI 60 then 1 else 0 from zk_sign H (c := 60) (k := 60) (by decide)]
  rw [if_neg (show ¬ (h.1 19 5) = nI 45 from t45), if_neg (show ¬ (h.1 19 5) = nI 42 from t42), if_neg (show ¬ (h.1 19 5) = nI 40 from t40), if_neg (show ¬ (h.1 19 5) = nI 47 from t47), if_neg (show ¬ (h.1 19 5) = nI 62 from t62), if_neg (show ¬ (h.1 19 5) = nI 60 from t60)]
  iterate 6 rw [if_pos rfl]
  unfold f_Mo_contact_48
  obtain ⟨g1, e1, L1, _, nf, _⟩ := zk_madd H (b := b) (kd := 25) (kv := 25) (p := (g.1 68 7)) (v := 0) (v' := 0) (by omega) hb rfl (by rw [if_neg (by decide)])
  have hv : (g1.2.1 74) m = 0 := by
    have := nf.2.2
    rwa [if_neg (by decide)] at this
  rw [e1, zo_B, if_pos (zi_in (by omega) (by omega)), nI_clamp (by omega), hv, if_pos (by decide)]
  have hk := (zk_kind L1).1
  unfold f_Mo_contact_65
  rw [if_neg (fun z => t8 (hk.mp z))]
  unfold f_Mo_contact_90
  obtain ⟨h2, g2, e3, e4, φ, w, z1, z2⟩ := zk_wrong L1 hx
  have e5 : f_Mo_want g1 0 = some g2 := by
    unfold f_Mo_want
    rw [if_pos L1.2.2.2.2.2.2.1, if_pos rfl, e4]; rfl
  rw [e5, Option.bind_some, zx_isSign z2, if_pos rfl]
  obtain ⟨⟨x1, g3⟩, e6, e7, z3⟩ := zxb_add (p := (g1.1 68 7)) (v := (g1.1 68 9)) (kd := 6) (kn := 6) (b := m) z2 (by omega) rfl (by omega)
  refine ⟨h2, g3, φ, w, e3, ?_, z1, z3⟩
  rw [e6]; rfl
end ZJ
