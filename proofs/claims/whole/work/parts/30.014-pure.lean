section
/-! Both readers in step: statements. -/
/-- one statement of the model -/
def zm_stm (ro : zs_H → Int32 → Option zs_H) (g : zs_H) (x : Int32) : Option zs_H := if (g.1 68 6) = 1 then f_Mo_named g x else if (g.1 68 9) = 28 then (zd_B (f_Mo_add g x 20 ((g.1 68 7)) 0) fun _ h3 => f_Mo_next h3) else if (g.1 68 9) = 29 then (zd_B (f_Mo_add g x 21 ((g.1 68 7)) 0) fun _ h3 => f_Mo_next h3) else ro g x
theorem zm_69 {ro : zs_H → Int32 → Option zs_H} {k : zs_H → Int32 → Option zs_H} {g : zs_H} {x : Int32} (hk : (g.1 68 6) = 1 ∨ (g.1 68 6) = 2) : f_Mo_statements_69 ro k g x = (zm_stm ro g x).bind fun h => f_Mo_statements_158 ro k h x := by
  unfold f_Mo_statements_69 zm_stm f_Mo_statements_119 f_Mo_statements_145
  by_cases c1 : (g.1 68 6) = 1
  · rw [if_pos c1, if_pos c1]
  rw [if_neg c1, if_neg c1]
  have c2 : (g.1 68 6) = 2 := hk.resolve_left c1
  rw [if_pos c2]
  by_cases c28 : (g.1 68 9) = 28
  · rw [if_pos c28, if_pos c28, if_pos c2, if_pos c28, zd_Bb]
  rw [if_neg c28, if_neg c28]
  by_cases c29 : (g.1 68 9) = 29
  · rw [if_pos c29, if_pos c29, if_pos c2, if_neg c28, zd_Bb]
  · simp only [if_neg c28, if_neg c29]
section ZBa
variable {h0 g0 h g g1 h' g' : zs_H} {T : Nat → Int32} {n K : Nat} {LC LM LM' LM1 : List (List Int32)} {j d s m o q b kd j' d' s' m' e st D f M0 M : Nat} {p v y : Int32} {u : zt_T} {X : Int32 → zs_H → zs_H → Prop}
/-- EXIT and RETURN -/
theorem zk_lst {b kd : Nat} (H : zk_L h0 g0 T n K LC h g LM j d s m 0 0) (hkd : kd = 20 ∨ kd = 21) (h6 : ¬ (h.1 19 5) = 6) (hs : s ≤ 2 * j + 10) (hm : m ≤ 2 * j + 10) (hb : b < m) : zk_G h0 g0 T n K LC m 20950 0 (zk_T h0 g0 T n K LC LM (zg_T zg_Sx (3 * (60 - d) + 4)) j d s m 0 0 b h g) (f_Ps_statement_141 h (nI kd)) (zd_B (f_Mo_add g (nI b) (nI kd) ((g.1 68 7)) 0) fun _ h3 => f_Mo_next h3) := by
  have bK := zk_bK H
  unfold f_Ps_statement_141
  obtain ⟨h1, g1, e1, e2, I⟩ := zk_I0 H (b := b) (kd := kd) (kc := nI kd) (km := nI kd) (D := 0) (v := 0) (w := 0) (by omega) (by omega) hb (by omega) rfl (by rcases hkd with z | z <;> subst z <;> rfl) (by rw [if_neg (by rcases hkd with z | z <;> subst z <;> decide)])
  rw [e1, e2, zo_B, zo_B]
  have v0 := zk_Iv I
  rw [← zm_bs (A := f_Mo_next g1)]
  refine zk_sN I rfl (by rw [I.1.2.2.2.1.2.2.1, ← H.2.2.2.1.2.2.1]; exact h6) ?_ fun h2 g2 LM2 I2 => ?_
  · intro φ w hz gz z1 z2
    refine zk_Gf (φ := φ) (w := w) ?_ ?_
    · repeat' first
        | with_reducible exact zw_some.mpr ⟨by assumption, by assumption⟩
        | with_reducible exact zw_some.mpr ⟨by assumption, zz_open (by assumption)⟩
        | (rw [zw_B]; with_reducible refine zw_mono (zz_expression (by assumption)) ?_; rintro _ ⟨_, _⟩)
        | (rw [zw_B]; with_reducible refine zw_mono (zz_operand (by assumption)) ?_; rintro _ ⟨_, _⟩)
        | (rw [zw_B]; with_reducible refine zw_mono (zz_statements (by assumption)) ?_; rintro _ ⟨_, _⟩)
        | (rw [zw_bind]; with_reducible refine zw_mono (zz_take (zz_uM (by assumption) (by decide))) ?_; intro _ _)
        | (rw [zw_bind]; with_reducible refine zw_mono (zz_take (by assumption)) ?_; intro _ _)
        | (rw [zw_B]; with_reducible refine zw_mono (zz_constant (by assumption)) ?_; rintro _ ⟨_, _⟩)
        | (rw [zw_B]; with_reducible refine zw_mono (zz_simpleType (by assumption)) ?_; rintro _ ⟨_, _⟩)
        | (rw [zw_B]; with_reducible refine zw_mono (zz_type (by assumption)) ?_; rintro _ ⟨_, _⟩)
        | (rw [zw_B]; with_reducible refine zw_mono (zz_whole (by assumption)) ?_; rintro _ ⟨_, _⟩)
        | (rw [zw_B]; with_reducible refine zw_mono (zz_add (by assumption)) ?_; rintro _ ⟨_, _⟩)
        | (rw [zw_B]; with_reducible refine zw_mono (zz_hang (by assumption) (by assumption) (by first | assumption | exact zq_vl_n | exact zq_vl_v (by assumption)) (by assumption)) ?_; rintro _ ⟨_, _⟩)
        | rw [if_pos (zq_at (by assumption))]
        | rw [zz_isCell (by assumption), if_pos rfl]
        | rw [if_neg (zq_ne (by assumption) (by decide) (by decide))]
        | rw [Option.bind_assoc]
        | rw [Option.bind_some]
        | rw [if_pos (zi_in (by omega) (by omega))]
    · repeat' first
        | (with_reducible refine zw_some.mpr ⟨_, ⟨?_, ?_⟩, by assumption⟩ <;> omega)
        | (with_reducible refine zw_some.mpr ⟨_, ⟨?_, ?_⟩, zx_Om (by assumption) ?_⟩ <;> omega)
        | (with_reducible refine zw_some.mpr ⟨_, ⟨?_, ?_⟩, zx_Om (zx_uF (by assumption) (Or.inl rfl)) ?_⟩ <;> omega)
        | (with_reducible refine zw_mono (zxb_142 (by assumption) (by omega)) ?_; intro _ z; exact ⟨_, by omega, z⟩)
        | (with_reducible refine zw_mono (zxb_142c (by assumption) (by omega)) ?_; intro _ z; exact ⟨_, by omega, z⟩)
        | (rw [zw_bind]; with_reducible refine zw_mono (zxb_body (by assumption)) ?_; intro _ _)
        | (rw [zw_bind]; with_reducible refine zw_mono (zxw_expr4 (by assumption)) ?_; intro _ _)
        | (rw [zw_bind]; with_reducible refine zw_mono (zxw_next2 (by assumption)) ?_; intro _ _)
        | (rw [zw_bind]; with_reducible refine zw_mono (zx_open (by assumption)) ?_; intro _ _)
        | (rw [zw_bind]; with_reducible refine zw_mono (zxw_expression (by assumption)) ?_; intro _ _)
        | (rw [zw_bind]; with_reducible refine zw_mono (zxw_operand (by assumption)) ?_; intro _ _)
        | (rw [zw_bind]; with_reducible refine zw_mono (zxb_keep (by assumption) (by omega)) ?_; intro _ _)
        | (rw [zw_B]; with_reducible refine zw_mono (zxb_node (by assumption) (by omega) rfl) ?_; rintro _ ⟨e1, _⟩; try rw [e1])
        | (rw [zw_bind]; with_reducible refine zw_mono (zxw_wantSign (zxb_uM (by assumption) (by decide))) ?_; intro _ _)
        | (rw [zw_bind]; with_reducible refine zw_mono (zxw_wantSign (by assumption)) ?_; intro _ _)
        | (rw [zw_bind]; with_reducible refine zw_mono (zxw_wantWord (by assumption)) ?_; intro _ _)
        | (rw [zw_bind]; with_reducible refine zw_mono (zxw_want (by assumption)) ?_; intro _ _)
        | (rw [zw_bind]; with_reducible refine zw_mono (zx_next (by assumption)) ?_; intro _ _)
        | (rw [zw_bind]; with_reducible refine zw_mono (zxb_constant (by assumption) (by omega) (by omega)) ?_; intro _ _)
        | (rw [zw_bind]; with_reducible refine zw_mono (zxw_simple (by assumption) (by omega) (by omega)) ?_; rintro _ ⟨_, _, _, _⟩)
        | (rw [zw_B]; with_reducible refine zw_mono (zxb_add (by assumption) (by omega) rfl (by omega)) ?_; rintro _ ⟨e1, _⟩; try rw [e1])
        | rw [zx_isSign (by assumption), if_pos rfl]
        | rw [zx_isWord (by assumption), if_pos rfl]
        | rw [if_neg (zx_ne (by assumption))]
        | rw [if_neg (zx_pos (by assumption))]
        | rw [if_pos (show (0 : Int32) ≤ 0 by decide)]
        | rw [Option.bind_assoc]
        | rw [Option.bind_some]
        | rw [zx_name (by assumption), zo_B]
        | rw [if_pos (zi_in (by omega) (by omega))]
  exact ⟨nI s, h2, g2, rfl, rfl, Or.inl (zk_Tof (zk_TTm (zk_IdT (S := zg_Sx) I2 (by rcases hkd with z | z <;> subst z <;> rfl) (by rcases hkd with z | z <;> subst z <;> exact Or.inl rfl) (by rcases hkd with z | z <;> subst z <;> decide) (by omega) (by omega)) (Nat.le_refl _) (fun t W => zg_Tm W (fun _ z => z) (by omega))) (by omega))⟩
/-- one statement -/
theorem zk_stmt {Dc Dm b : Nat} (SS : d < 60 → zk_SS h0 g0 T n K LC (d + 1)) (H : zk_L h0 g0 T n K LC h g LM j d s m 0 0) (ht : (h.1 19 5) = 8 ∨ (h.1 19 5) = 144 ∨ (h.1 19 5) = 149 ∨ (h.1 19 5) = 151 ∨ (h.1 19 5) = 156 ∨ (h.1 19 5) = 157) (hDc : 3 * (60 - d) + 1 ≤ Dc) (hDm : 4 * (60 - d) + 1 ≤ Dm) (hs : s ≤ 2 * j + 10) (hm : m ≤ 2 * j + 10) (hb : b < m) : ((g.1 68 6) = 1 ∨ (g.1 68 6) = 2) ∧ zk_G h0 g0 T n K LC m 20950 0 (zk_T h0 g0 T n K LC LM (zg_T zg_Sx (3 * (60 - d) + 4)) j d s m 0 0 b h g) (f_Ps_statement (Dc + 2) h) (zm_stm (f_Mo_opened (Dm + 3)) g (nI b)) := by
  obtain ⟨k1, k3, k4, k0⟩ := zk_kind H
  have e01 : ¬ (1 : Int32) = 0 := by decide
  have z0 : (0 : Int32) = 0 := rfl
  rw [zy_pt, zy_pi, zy_pc, zy_pf, zy_xo, zy_xh, zy_xc, zy_xl, zy_xb]
  unfold g_Ps_statement zm_stm g_Mo_opened
  by_cases t8 : (h.1 19 5) = 8
  · have hk := k1.mpr t8
    refine ⟨Or.inl hk, ?_⟩
    have hE := zk_notE H (by rw [t8]; decide)
    obtain ⟨a1, a2, a3⟩ := zk_ahead H hE
    have hF := (zl_ckA (zk_F' H.2.2.1 (j + 1))).2.2.2.2.2.2.2.2.1
    rw [if_pos t8, if_neg a1, if_pos a2, a3, if_pos hk]
    unfold f_Ps_statement_102 f_Ps_statement_103
    by_cases c : zl_ck (zl_at T n (j + 1)) = 40
    · rw [if_pos (show nI (zl_ck (zl_at T n (j + 1))) = 40 by rw [c]; rfl), if_neg e01, zo_Bs]
      exact zk_invoc H t8 c hs hm hb
    · rw [if_neg (fun z => c ((zc_eq (k := 40) (by decide) (by omega)).mp z)), if_pos z0, zo_Bs]
      exact zk_assign H t8 c hs hm hb
  have n1 : ¬ (g.1 68 6) = 1 := fun z => t8 (k1.mp z)
  rw [if_neg t8, if_neg n1]
  by_cases t144 : (h.1 19 5) = 144
  · have kw := (zk_wd H 16 (by decide)).mp t144
    refine ⟨Or.inr kw.1, ?_⟩
    rw [if_pos t144, kw.2, if_neg (show ¬ nI 16 = 28 by decide), if_neg (show ¬ nI 16 = 29 by decide), zo_Bs]
    simp only [if_pos (show nI 16 = 16 from rfl)]
    exact zk_if SS H t144 hDc hDm hs hm hb
  rw [if_neg t144]
  by_cases t149 : (h.1 19 5) = 149
  · have kw := (zk_wd H 21 (by decide)).mp t149
    refine ⟨Or.inr kw.1, ?_⟩
    rw [if_pos t149, kw.2, if_neg (show ¬ nI 21 = 28 by decide), if_neg (show ¬ nI 21 = 29 by decide), zo_Bs]
    simp only [if_neg (show ¬ nI 21 = 16 by decide), if_pos (show nI 21 = 21 from rfl)]
    exact zk_case SS H t149 hDc hDm hs hm hb
  rw [if_neg t149]
  by_cases t151 : (h.1 19 5) = 151
  · have kw := (zk_wd H 23 (by decide)).mp t151
    refine ⟨Or.inr kw.1, ?_⟩
    rw [if_pos t151, kw.2, if_neg (show ¬ nI 23 = 28 by decide), if_neg (show ¬ nI 23 = 29 by decide), zo_Bs]
    simp only [if_neg (show ¬ nI 23 = 16 by decide), if_neg (show ¬ nI 23 = 21 by decide)]
    exact zk_for SS H t151 hDc hDm hs hm hb
  rw [if_neg t151]
  by_cases t156 : (h.1 19 5) = 156
  · have kw := (zk_wd H 28 (by decide)).mp t156
    refine ⟨Or.inr kw.1, ?_⟩
    rw [if_pos t156, kw.2, if_pos (show nI 28 = 28 from rfl)]
    exact zk_lst (kd := 20) H (Or.inl rfl) (by rw [t156]; decide) hs hm hb
  have t157 : (h.1 19 5) = 157 := by
    rcases ht with z | z | z | z | z | z
    · exact absurd z t8
    · exact absurd z t144
    · exact absurd z t149
    · exact absurd z t151
    · exact absurd z t156
    · exact z
  have kw := (zk_wd H 29 (by decide)).mp t157
  refine ⟨Or.inr kw.1, ?_⟩
  rw [if_neg t156, kw.2, if_neg (show ¬ nI 29 = 28 by decide), if_pos (show nI 29 = 29 from rfl)]
  exact zk_lst (kd := 21) H (Or.inr rfl) (by rw [t157]; decide) hs hm hb
/-- which token begins a statement, in the model -/
theorem zk_st0 {ro : zs_H → Int32 → Option zs_H} {k : zs_H → Int32 → Option zs_H} {x : Int32} (H : zk_L h0 g0 T n K LC h g LM j d s m o q) : f_Mo_statements_0 ro k g x = if f_Ps_isStatement h = 0 then some g else f_Mo_statements_69 ro k g x := by
  obtain ⟨k1, k3, k4, k0⟩ := zk_kind H
  have e01 : ¬ (1 : Int32) = 0 := by decide
  have z0 : (0 : Int32) = 0 := rfl
  unfold f_Mo_statements_0 f_Ps_isStatement
  rw [if_pos H.2.2.2.2.2.2.1, show f_Mo_isSign g 59 = if (h.1 19 5) = nI 59 then 1 else 0 from zk_sign H (c := 59) (k := 59) (by decide), show f_Mo_isWord g 16 = if (h.1 19 5) = nI 144 then 1 else 0 from zk_word H (c := 16) (by decide), show f_Mo_isWord g 21 = if (h.1 19 5) = nI 149 then 1 else 0 from zk_word H (c := 21) (by decide), show f_Mo_isWord g 23 = if (h.1 19 5) = nI 151 then 1 else 0 from zk_word H (c := 23) (by decide), show f_Mo_isWord g 28 = if (h.1 19 5) = nI 156 then 1 else 0 from zk_word H (c := 28) (by decide), show f_Mo_isWord g 29 = if (h.1 19 5) = nI 157 then 1 else 0 from zk_word H (c := 29) (by decide)]
  by_cases t8 : (h.1 19 5) = 8
  · rw [if_pos (k1.mpr t8), if_neg (show ¬ (h.1 19 5) = 59 by rw [t8]; decide), if_pos t8, if_neg e01]
  rw [if_neg (fun z => t8 (k1.mp z)), if_neg t8]
  by_cases a : (h.1 19 5) = 59
  · rw [if_pos a, if_pos (show (h.1 19 5) = nI 59 from a), if_neg e01, if_neg e01]
  rw [if_neg a, if_neg (show ¬ (h.1 19 5) = nI 59 from a), if_pos z0]
  by_cases b : (h.1 19 5) = 144
  · rw [if_pos b, if_pos (show (h.1 19 5) = nI 144 from b), if_neg e01, if_neg e01]
  rw [if_neg b, if_neg (show ¬ (h.1 19 5) = nI 144 from b), if_pos z0]
  by_cases c : (h.1 19 5) = 149
  · rw [if_pos c, if_pos (show (h.1 19 5) = nI 149 from c), if_neg e01, if_neg e01]
  rw [if_neg c, if_neg (show ¬ (h.1 19 5) = nI 149 from c), if_pos z0]
  by_cases d : (h.1 19 5) = 151
  · rw [if_pos d, if_pos (show (h.1 19 5) = nI 151 from d), if_neg e01, if_neg e01]
  rw [if_neg d, if_neg (show ¬ (h.1 19 5) = nI 151 from d), if_pos z0]
  by_cases e : (h.1 19 5) = 156
  · rw [if_pos e, if_pos (show (h.1 19 5) = nI 156 from e), if_neg e01, if_neg e01]
  rw [if_neg e, if_neg (show ¬ (h.1 19 5) = nI 156 from e), if_pos z0]
  by_cases f : (h.1 19 5) = 157
  · rw [if_pos f, if_pos (show (h.1 19 5) = nI 157 from f), if_neg e01]
  · rw [if_neg f, if_neg (show ¬ (h.1 19 5) = nI 157 from f), if_pos z0]
/-- one statement behind the other -/
theorem zk_stL {Dc Dm : Nat} (SS : d < 60 → zk_SS h0 g0 T n K LC (d + 1)) (hDc : 3 * (60 - d) + 1 ≤ Dc) (hDm : 4 * (60 - d) + 1 ≤ Dm) (hs : s ≤ 2 * j + 9) (hm : m ≤ 2 * j + 9) : ∀ (r N N' : Nat) {c : Nat} {y : Int32} {u : zt_T} {LM' : List (List Int32)} {j' s' m' e f : Nat} {h' g' : zs_H}, zk_I h0 g0 T n K LC LM j s m 0 0 b 11 p 0 h g g1 u y LM' j' d s' m' e 0 (3 * (60 - d) + 4) f h' g' → K < j' + r → r + 1 ≤ N → r + 1 ≤ N' → c ≤ j' → zq_vl y → 1 ≤ f → zk_G h0 g0 T n K LC m 20950 0 (zk_TT h0 g0 T n K LC LM (zg_T [11] (3 * (60 - d) + 5)) 0 j d s m 0 0 b h g) (f_Ps_statements_L19 (f_Ps_statement (Dc + 2)) N h' (nI s) y (nI c)) (f_Mo_statements_L0 (f_Mo_opened (Dm + 3)) N' g' (nI m)) := by
  intro r
  induction r with
  | zero => intro N N' c y u LM' j' s' m' e f h' g' I hr; have := zk_Ib I; omega
  | succ r ih =>
    intro N N' c y u LM' j' s' m' e f h' g' I hr hN hN' hc vy hf
    have v0 := zk_Iv I
    have b1 := zk_Ib I
    have e01 : ¬ (1 : Int32) = 0 := by decide
    obtain ⟨N, rfl⟩ : ∃ z, N = z + 2 := ⟨N - 2, by omega⟩
    obtain ⟨N', rfl⟩ : ∃ z, N' = z + 2 := ⟨N' - 2, by omega⟩
    show zk_G _ _ _ _ _ _ _ _ _ _ (f_Ps_statements_19 (f_Ps_statement (Dc + 2)) (f_Ps_statements_L19 (f_Ps_statement (Dc + 2)) (N + 1)) h' (nI s) y (nI c)) (f_Mo_statements_0 (f_Mo_opened (Dm + 3)) (f_Mo_statements_L0 (f_Mo_opened (Dm + 3)) (N' + 1)) g' (nI m))
    rw [zk_st0 I.1]
    unfold f_Ps_statements_19
    rw [if_neg (mt (zc_le (k := 16384) (t := c) (by decide) (by omega)).mp (by omega))]
    have badT : ∀ φ w hz gz m2 x2, m ≤ m2 → m2 ≤ 20950 → zq_Z h0 T n K LC φ w hz → zx_B g0 T n φ w m2 0 gz → zk_G h0 g0 T n K LC m 20950 0 (zk_TT h0 g0 T n K LC LM (zg_T [11] (3 * (60 - d) + 5)) 0 j d s m 0 0 b h g) (f_Ps_statements_L19 (f_Ps_statement (Dc + 2)) (N + 1) hz (nI s) x2 (nI c + 1)) (f_Mo_statements_L0 (f_Mo_opened (Dm + 3)) (N' + 1) gz (nI m)) := by
      intro φ w hz gz m2 x2 q1 q2 z1 z2
      refine zk_Gf (φ := φ) (w := w) (zz_stL z1 v0) ?_
      rw [zxb_stL z2, zw_some]
      exact ⟨m2, by omega, z2⟩
    by_cases cs : f_Ps_isStatement h' = 0
    · rw [if_pos cs, if_pos cs]
      exact ⟨nI s, h', g', rfl, rfl, Or.inl (zk_TTm (zk_IdT (S := [11]) I rfl (Or.inl rfl) (by decide) hf (by decide)) (by omega) (fun _ z => z))⟩
    rw [if_neg cs, if_neg cs]
    by_cases t59 : (h'.1 19 5) = 59
    · rw [if_pos t59]
      have sg := zk_sgv I.1 (c := 59) (k := 59) (by decide) t59
      have em : f_Mo_statements_69 (f_Mo_opened (Dm + 3)) (f_Mo_statements_L0 (f_Mo_opened (Dm + 3)) (N' + 1)) g' (nI m) = f_Mo_statements_158 (f_Mo_opened (Dm + 3)) (f_Mo_statements_L0 (f_Mo_opened (Dm + 3)) (N' + 1)) g' (nI m) := by
        unfold f_Mo_statements_69 f_Mo_statements_119
        rw [if_neg (show ¬ (g'.1 68 6) = 1 by rw [sg.1]; decide), if_neg (show ¬ (g'.1 68 6) = 2 by rw [sg.1]; decide), if_neg (show ¬ (g'.1 68 6) = 2 by rw [sg.1]; decide)]
      rw [em]
      unfold f_Ps_statements_56 f_Mo_statements_158
      refine zk_sA I (zk_wantS I.1 (c := 59) (k := 59) (by decide) (by decide)) ?_ fun h3 g3 LM3 I3 => ?_
      · intro φ w hz gz z1 z2
        exact badT φ w hz gz _ _ (by omega) (by omega) z1 z2
      rw [nI_1]
      exact ih (N + 1) (N' + 1) (c := c + 1) I3 (by omega) (by omega) (by omega) (by omega) vy (by omega)
    · rw [if_neg t59]
      have ht : (h'.1 19 5) = 8 ∨ (h'.1 19 5) = 144 ∨ (h'.1 19 5) = 149 ∨ (h'.1 19 5) = 151 ∨ (h'.1 19 5) = 156 ∨ (h'.1 19 5) = 157 := by
        by_cases a8 : (h'.1 19 5) = 8
        · exact Or.inl a8
        by_cases a1 : (h'.1 19 5) = 144
        · exact Or.inr (Or.inl a1)
        by_cases a2 : (h'.1 19 5) = 149
        · exact Or.inr (Or.inr (Or.inl a2))
        by_cases a3 : (h'.1 19 5) = 151
        · exact Or.inr (Or.inr (Or.inr (Or.inl a3)))
        by_cases a4 : (h'.1 19 5) = 156
        · exact Or.inr (Or.inr (Or.inr (Or.inr (Or.inl a4))))
        by_cases a5 : (h'.1 19 5) = 157
        · exact Or.inr (Or.inr (Or.inr (Or.inr (Or.inr a5))))
        exfalso
        apply cs
        unfold f_Ps_isStatement
        rw [if_neg t59, if_neg a8, if_neg a1, if_neg a2, if_neg a3, if_neg a4, if_neg a5]
      obtain ⟨hk, G⟩ := zk_stmt (b := m) SS I.1 ht hDc hDm (by omega) (by omega) (by omega)
      rw [zm_69 hk]
      refine zk_sK2 (e2 := 1) (e3 := e) (S := zg_Sx) (st' := 0) I (zk_GM G (Nat.le_refl _) (Nat.le_refl 20950) (fun x h g R => zk_TTof R)) (by decide) (by omega) ?_ fun x3 h3 g3 u3 LM3 j3 s3 m3 vx3 hj3 I3 => ?_
      · intro φ w mz xz hz gz w1 w2 vz z1 z2
        obtain ⟨⟨x4, h4⟩, e4, v4, z4⟩ := zz_hang z1 v0 vy vz
        rw [e4, zo_B]
        unfold f_Ps_statements_56 f_Mo_statements_158
        obtain ⟨h5, e5, z5⟩ := zz_take (x := 59) z4
        rw [e5, zx_wantSign z2, Option.bind_some, Option.bind_some]
        exact badT φ w h5 gz _ _ (by omega) (by omega) z5 z2
      have b3 := zk_Ib I3
      unfold f_Ps_statements_56 f_Mo_statements_158
      refine zk_sA I3 (zk_wantS I3.1 (c := 59) (k := 59) (by decide) (by decide)) ?_ fun h4 g4 LM4 I4 => ?_
      · intro φ w hz gz z1 z2
        exact badT φ w hz gz _ _ (by omega) (by omega) z1 z2
      rw [nI_1]
      exact ih (N + 1) (N' + 1) (c := c + 1) I4 (by omega) (by omega) (by omega) (by omega) (zq_vl_v vx3) (by omega)
theorem zk_SSof {d0 : Nat} (SS : zk_SS h0 g0 T n K LC (d0 + 1)) : zk_SS h0 g0 T n K LC d0 := by
  intro h g LM j d s m D D' b p H h1 h2 h3 h4 h5 h6
  have bK := zk_bK H
  obtain ⟨D, rfl⟩ : ∃ z, D = z + 3 := ⟨D - 3, by omega⟩
  obtain ⟨D', rfl⟩ : ∃ z, D' = z + 4 := ⟨D' - 4, by omega⟩
  obtain ⟨ha, ga, e1, e2, I⟩ := zk_I0b H (b := b) (D := 3 * (60 - d) + 4) (p := p) (by omega) (by omega) h6
  rw [zy_ps, zy_xs]
  unfold g_Ps_statements g_Mo_statements
  rw [e1, e2, zo_B, zo_B, zm_bs]
  exact zk_stL (fun _ => zk_SSm (by omega) SS) (by omega) (by omega) h4 h5 (K + 1) zF zF (c := 0) I (by omega) (by have := zF_big; omega) (by have := zF_big; omega) (by omega) zq_vl_n (by omega)
theorem zk_SSall : ∀ w d0, 61 ≤ d0 + w → zk_SS h0 g0 T n K LC d0 := by
  intro w
  induction w with
  | zero =>
    intro d0 hd h g LM j d s m D D' b p H h1
    have := (zk_dd H).2.2.1
    omega
  | succ w ih => intro d0 hd; exact zk_SSof (ih (d0 + 1) (by omega))
end ZBa
end
section
/-! Both readers in step: blocks. -/
section ZCz
variable {h0 g0 h g : zs_H} {T : Nat → Int32} {n K φ w m O : Nat} {LC : List (List Int32)}
theorem zz_isSection (H : zq_Z h0 T n K LC φ w h) : f_Ps_isSection h = 0 := by
  unfold f_Ps_isSection
  rw [if_pos (by rcases zq_tk H with z | z <;> rw [z] <;> decide)]
theorem zz_b156 {x1 x3 x4 : Int32} (H : zq_Z h0 T n K LC φ w h) (v3 : zq_v x3) (v4 : zq_vl x4) : zw (f_Ps_block_156 h x1 x3 x4) (fun p => zq_v p.1 ∧ zq_Z h0 T n K LC φ w p.2) := by
  unfold f_Ps_block_156 f_Ps_block_184
  rw [if_neg (zq_ne H (by decide) (by decide)), zw_B]
  refine zw_mono (zz_statements (d := 399) H) ?_
  rintro ⟨xa, ha⟩ ⟨va, za⟩
  repeat' first
    | with_reducible exact zw_some.mpr ⟨by assumption, by assumption⟩
    | with_reducible exact zw_some.mpr ⟨by assumption, zz_open (by assumption)⟩
    | (rw [zw_B]; with_reducible refine zw_mono (zz_expression (by assumption)) ?_; rintro _ ⟨_, _⟩)
    | (rw [zw_B]; with_reducible refine zw_mono (zz_operand (by assumption)) ?_; rintro _ ⟨_, _⟩)
    | (rw [zw_B]; with_reducible refine zw_mono (zz_statements (by assumption)) ?_; rintro _ ⟨_, _⟩)
    | (rw [zw_bind]; with_reducible refine zw_mono (zz_take (zz_uM (by assumption) (by decide))) ?_; intro _ _)
    | (rw [zw_bind]; with_reducible refine zw_mono (zz_take (by assumption)) ?_; intro _ _)
    | (rw [zw_B]; with_reducible refine zw_mono (zz_constant (by assumption)) ?_; rintro _ ⟨_, _⟩)
    | (rw [zw_B]; with_reducible refine zw_mono (zz_simpleType (by assumption)) ?_; rintro _ ⟨_, _⟩)
    | (rw [zw_B]; with_reducible refine zw_mono (zz_type (by assumption)) ?_; rintro _ ⟨_, _⟩)
    | (rw [zw_B]; with_reducible refine zw_mono (zz_whole (by assumption)) ?_; rintro _ ⟨_, _⟩)
    | (rw [zw_B]; with_reducible refine zw_mono (zz_add (by assumption)) ?_; rintro _ ⟨_, _⟩)
    | (rw [zw_B]; with_reducible refine zw_mono (zz_hang (by assumption) (by assumption) (by first | assumption | exact zq_vl_n | exact zq_vl_v (by assumption)) (by assumption)) ?_; rintro _ ⟨_, _⟩)
    | rw [if_pos (zq_at (by assumption))]
    | rw [zz_isCell (by assumption), if_pos rfl]
    | rw [if_neg (zq_ne (by assumption) (by decide) (by decide))]
    | rw [Option.bind_assoc]
    | rw [Option.bind_some]
    | rw [if_pos (zi_in (by omega) (by omega))]
theorem zz_b119 {N : Nat} {x1 x3 x4 x5 : Int32} (H : zq_Z h0 T n K LC φ w h) (v3 : zq_v x3) (v4 : zq_vl x4) : zw (f_Ps_block_L119 (N + 1) h x1 x3 x4 x5) (fun p => zq_v p.1 ∧ zq_Z h0 T n K LC φ w p.2) := by
  show zw (f_Ps_block_119 (f_Ps_block_L119 N) h x1 x3 x4 x5) _
  unfold f_Ps_block_119
  rw [zz_isSection H, if_pos (show (0 : Int32) = 0 from rfl)]
  split <;> exact zz_b156 H v3 v4
theorem zxb_st4 {x : Int32} (H : zx_B g0 T n φ w m O g) : f_Mo_statements 400 g x = some g := by
  rw [show (400 : Nat) = 399 + 1 from rfl, zy_xs]
  unfold g_Mo_statements
  rw [show zF = 18446744073709551615 + 1 from rfl, zxb_stL H]
theorem zxb_b106 {N a : Nat} {x2 x4 : Int32} (H : zx_B g0 T n φ w m O g) (hm : m < 33500) (ha : a < m) : zw (f_Mo_readBlock_L106 (N + 1) g x2 (nI a) x4) (zx_B g0 T n φ w (m + 1) O) := by
  show zw (f_Mo_readBlock_106 (f_Mo_readBlock_L106 N) g x2 (nI a) x4) _
  unfold f_Mo_readBlock_106 f_Mo_readBlock_226
  rw [zx_isWord H, zx_isWord H, zx_isWord H, zx_isWord H, if_pos rfl, if_pos rfl, if_pos rfl, if_pos rfl]
  obtain ⟨⟨x, g3⟩, e4, e5, z3⟩ := zxb_add (kd := 11) (kn := 11) (p := x4) (v := 0) (b := a) H hm rfl ha
  rw [e4, zo_B, zxb_st4 z3, Option.bind_some, zx_wantWord z3, Option.bind_some, zw_some]
  exact z3
end ZCz
section ZC
variable {h0 g0 h g g1 h' g' : zs_H} {T : Nat → Int32} {n K : Nat} {LC LM LM' LM1 : List (List Int32)} {j d s m o q b kd j' d' s' m' e st D f M0 M : Nat} {p v y : Int32} {u : zt_T} {X : Int32 → zs_H → zs_H → Prop}
theorem zk_isSec (H : zk_L h0 g0 T n K LC h g LM j d s m o q) : (f_Ps_isSection h = 0 ∧ ¬ (h.1 19 5) = nI 134 ∧ ¬ (h.1 19 5) = nI 135 ∧ ¬ (h.1 19 5) = nI 136) ∨ (¬ f_Ps_isSection h = 0 ∧ ∃ c, 6 ≤ c ∧ c ≤ 8 ∧ (h.1 19 5) = nI (128 + c)) := by
  have hF := (zl_ckA (zk_F H)).2.2.2.2.2.2.2.2.1
  unfold f_Ps_isSection
  rw [H.2.2.2.1.2.2.1]
  by_cases c1 : zl_ck (zl_at T n j) < 134
  · rw [if_pos ((zc_tl (k := 134) (by decide) (by omega)).mpr c1)]
    exact Or.inl ⟨rfl, fun z => by have := (nI_eq (by omega) (by omega)).mp z; omega, fun z => by have := (nI_eq (by omega) (by omega)).mp z; omega, fun z => by have := (nI_eq (by omega) (by omega)).mp z; omega⟩
  rw [if_neg (mt (zc_tl (k := 134) (by decide) (by omega)).mp c1)]
  by_cases c2 : 136 < zl_ck (zl_at T n j)
  · rw [if_pos ((zc_lt (k := 136) (by decide) (by omega)).mpr c2)]
    exact Or.inl ⟨rfl, fun z => by have := (nI_eq (by omega) (by omega)).mp z; omega, fun z => by have := (nI_eq (by omega) (by omega)).mp z; omega, fun z => by have := (nI_eq (by omega) (by omega)).mp z; omega⟩
  rw [if_neg (mt (zc_lt (k := 136) (by decide) (by omega)).mp c2)]
  exact Or.inr ⟨by decide, zl_ck (zl_at T n j) - 128, by omega, by omega, by rw [show 128 + (zl_ck (zl_at T n j) - 128) = zl_ck (zl_at T n j) by omega]⟩
def zg_bs (kd : Nat) : Nat := if kd = 1 then 1 else 0
/-- where tokens are: each behind the one before -/
theorem zl_pb {h : zs_H} {T : Nat → Int32} {n K : Nat} {LC : List (List Int32)} (HS : zq_S h T n K LC) : ∀ a b, a < b → b ≤ K → (zl_at T n a).2.2.1 ≤ (zl_at T n b).2.1 ∧ (zl_at T n a).2.1 ≤ (zl_at T n a).2.2.1 := by
  intro a b
  have hT := HS.2.2.2.2.2.2.2.2.1
  have hbs : ∀ j, j ≤ K → zl_kd (zl_at T n j) n (zl_bs T n j) := fun j hj => zl_tok_kd (n := n) (b := zl_bs T n j) hT (zq_bs hT j (fun i hi => HS.2.2.2.1 i (by omega)))
  induction b with
  | zero => intro h; omega
  | succ b ih =>
    intro hab hb
    have h1 := (hbs (b + 1) hb).1
    have h2 := (hbs b (by omega)).2.2.2.1 (HS.2.2.2.1 b (by omega))
    have e : zl_bs T n (b + 1) = (zl_at T n b).2.2.1 := rfl
    by_cases c : a = b
    · subst c; omega
    · have := ih (by omega) (by omega)
      omega
/-- how long a word is -/
theorem zl_wl {h : zs_H} {T : Nat → Int32} {n K a : Nat} {LC : List (List Int32)} (HS : zq_S h T n K LC) (ha : a ≤ K) (h2 : (zl_at T n a).1 = 2) : (zl_at T n a).2.2.1 = (zl_at T n a).2.1 + (zl_W.getD (zl_at T n a).2.2.2 []).length := by
  have hT := HS.2.2.2.2.2.2.2.2.1
  have hkd := zl_tok_kd (n := n) (b := zl_bs T n a) hT (zq_bs hT a (fun i hi => HS.2.2.2.1 i (by omega)))
  have h3 := (hkd.2.2.2.1 (fun z => z.elim (fun w => by have : (zl_at T n a).1 = 0 := w; omega) (fun w => by have : (zl_at T n a).1 = 9 := w; omega))).1
  obtain ⟨t1, t2, t3, t4, t5, t6⟩ := zl_tok_nm (T := T) (n := n) (b := zl_bs T n a) (Or.inr h2)
  have hm := t5.mp h2
  have he := t6 h2
  have hl := List.idxOf_lt_length_of_mem hm
  have e1 : zl_W.getD (zl_at T n a).2.2.2 [] = zl_nm T n (zl_at T n a).2.1 (zl_at T n a).2.2.1 := by
    show zl_W.getD (zl_tok T n (zl_bs T n a)).2.2.2 [] = _
    rw [he, List.getD_eq_getElem?_getD, List.getElem?_eq_getElem hl]
    exact List.getElem_idxOf hl
  rw [e1]
  have e2 : (zl_nm T n (zl_at T n a).2.1 (zl_at T n a).2.2.1).length = (zl_at T n a).2.2.1 - (zl_at T n a).2.1 := zl_nm_len
  have h4 : (zl_at T n a).2.1 < (zl_at T n a).2.2.1 := h3
  omega
/-- a block has been read; it has at least 18 bytes -/
def zk_TB (h0 g0 : zs_H) (T : Nat → Int32) (n K : Nat) (LC LM : List (List Int32)) (j s m b : Nat) (h g : zs_H) (x : Int32) (h' g' : zs_H) : Prop := zk_T h0 g0 T n K LC LM (zg_T [1, 2, 3] 186) j 0 s m 0 0 b h g x h' g' ∧ ∃ jj, (h'.1 19 4) = nI jj ∧ jj ≤ 10240 ∧ (zl_at T n j).2.1 + 18 ≤ (zl_at T n jj).2.1
/-- a block's sections and its body -/
theorem zk_blL {wd : Nat} (hwd : (zl_at T n j).1 = 2 ∧ (zl_at T n j).2.2.2 = wd) (hkd : (kd = 1 ∧ wd = 0) ∨ (kd = 2 ∧ wd = 2) ∨ (kd = 3 ∧ wd = 4)) (hs : s ≤ 2 * j + 10) (hm : m ≤ 2 * j + 10) : ∀ (r N N' : Nat) {c : Nat} {y a : Int32} {u : zt_T} {LM' : List (List Int32)} {j' s' m' e f : Nat} {h' g' : zs_H}, zk_I h0 g0 T n K LC LM j s m 0 0 b kd p v h g g1 u y LM' j' 0 s' m' e (zg_bs kd) 185 f h' g' → K < j' + r → r + 2 ≤ N → r + 2 ≤ N' → c ≤ j' → zq_vl y → 2 ≤ e → 1 ≤ f → j < j' → zk_G h0 g0 T n K LC m 20960 0 (zk_TB h0 g0 T n K LC LM j s m b h g) (f_Ps_block_L119 N h' (nI (128 + wd)) (nI s) y (nI c)) (f_Mo_readBlock_L106 N' g' (nI wd) (nI m) a) := by
  intro r
  induction r with
  | zero => intro N N' c y a u LM' j' s' m' e f h' g' I hr; have := zk_Ib I; omega
  | succ r ih =>
    intro N N' c y a u LM' j' s' m' e f h' g' I hr hN hN' hc vy he hf hjj0
    have v0 := zk_Iv I
    have b1 := zk_Ib I
    have e01 : ¬ (1 : Int32) = 0 := by decide
    have z0 : (0 : Int32) = 0 := rfl
    obtain ⟨N, rfl⟩ : ∃ z, N = z + 2 := ⟨N - 2, by omega⟩
    obtain ⟨N', rfl⟩ : ∃ z, N' = z + 2 := ⟨N' - 2, by omega⟩
    show zk_G _ _ _ _ _ _ _ _ _ _ (f_Ps_block_119 (f_Ps_block_L119 (N + 1)) h' (nI (128 + wd)) (nI s) y (nI c)) (f_Mo_readBlock_106 (f_Mo_readBlock_L106 (N' + 1)) g' (nI wd) (nI m) a)
    unfold f_Ps_block_119 f_Mo_readBlock_106
    rw [if_neg (mt (zc_le (k := 16384) (t := c) (by decide) (by omega)).mp (by omega)), show f_Mo_isWord g' 6 = if (h'.1 19 5) = nI 134 then 1 else 0 from zk_word I.1 (c := 6) (by decide), show f_Mo_isWord g' 7 = if (h'.1 19 5) = nI 135 then 1 else 0 from zk_word I.1 (c := 7) (by decide), show f_Mo_isWord g' 8 = if (h'.1 19 5) = nI 136 then 1 else 0 from zk_word I.1 (c := 8) (by decide), show f_Mo_isWord g' 37 = if (h'.1 19 5) = nI 165 then 1 else 0 from zk_word I.1 (c := 37) (by decide)]
    -- the end of a block
    have fin : ∀ {u2 : zt_T} {y2 : Int32} {LM2 : List (List Int32)} {j2 s2 m2 e2 f2 : Nat} {h2 g2 : zs_H}, zk_I h0 g0 T n K LC LM j s m 0 0 b kd p v h g g1 u2 y2 LM2 j2 0 s2 m2 e2 2 185 f2 h2 g2 → 1 ≤ f2 → j < j2 → zk_G h0 g0 T n K LC m 20960 0 (zk_TB h0 g0 T n K LC LM j s m b h g) ((f_Ps_take h2 (nI (128 + wd) + 1)).bind fun h5 => (some (nI s, h5))) (f_Mo_readBlock_226 g2 (nI wd)) := by
      intro u2 y2 LM2 j2 s2 m2 e2 f2 h2 g2 I2 hf2 hj2
      have b2 := zk_Ib I2
      unfold f_Mo_readBlock_226
      rw [nI_1, nI_1]
      obtain ⟨h3, g3, ea, eb, R⟩ := zk_wantW I2.1 (c := wd + 1) (by omega)
      rw [show f_Ps_take h2 (nI (128 + wd + 1)) = some h3 from ea, eb, Option.bind_some, Option.bind_some]
      have bad : ∀ φ w, zq_Z h0 T n K LC φ w h3 → zx_B g0 T n φ w m2 0 g3 → zk_G h0 g0 T n K LC m 20960 0 (zk_TB h0 g0 T n K LC LM j s m b h g) (some (nI s, h3)) (some g3) := fun φ w z1 z2 => zk_Gf (φ := φ) (w := w) (zw_some.mpr ⟨v0, z1⟩) (zw_some.mpr ⟨m2, by omega, z2⟩)
      rcases R with ⟨φ, w, z1, z2⟩ | ⟨tk, ⟨fa, fb, LM3, hp, L3⟩ | ⟨φ, w, z1, z2⟩⟩
      · exact bad φ w z1 z2
      rotate_left
      · exact bad φ w z1 z2
      have I3 := zk_It I2 fa fb hp L3
      have b3 := zk_Ib I3
      have hw2 : (zl_at T n j2).1 = 2 ∧ (zl_at T n j2).2.2.2 = wd + 1 := ((zl_ckA (zk_F I2.1)).2.2.1 (wd + 1) (by omega)).mp ((zk_tok I2.1 (by omega)).mp tk)
      have HS := I2.1.2.2.1
      have p1 := zl_wl HS (by omega) hwd.1
      have p2 := zl_wl HS (by omega) hw2.1
      have p3 := zl_pb HS j j2 hj2 (by omega)
      have p4 := zl_pb HS j2 (j2 + 1) (by omega) (by omega)
      have p5 : 18 ≤ (zl_W.getD (zl_at T n j).2.2.2 []).length + (zl_W.getD (zl_at T n j2).2.2.2 []).length := by
        rw [hwd.2, hw2.2]
        rcases hkd with ⟨_, z⟩ | ⟨_, z⟩ | ⟨_, z⟩ <;> subst z <;> decide
      exact ⟨nI s, _, _, rfl, rfl, Or.inl ⟨zk_Tof (zk_IdT (S := [1, 2, 3]) I3 (by rcases hkd with ⟨z, _⟩ | ⟨z, _⟩ | ⟨z, _⟩ <;> subst z <;> rfl) (by rcases hkd with ⟨z, _⟩ | ⟨z, _⟩ | ⟨z, _⟩ <;> subst z <;> exact Or.inl rfl) (by rcases hkd with ⟨z, _⟩ | ⟨z, _⟩ | ⟨z, _⟩ <;> subst z <;> decide) (by omega) (by omega)) (by omega), j2 + 1, L3.2.2.2.1.2.1, by omega, by omega⟩⟩
    have badE : ∀ φ w mz xz hz gz, m ≤ mz → mz ≤ 20960 → zq_v xz → zq_Z h0 T n K LC φ w hz → zx_B g0 T n φ w mz 0 gz → zk_G h0 g0 T n K LC m 20960 0 (zk_TB h0 g0 T n K LC LM j s m b h g) (zd_B (f_Tr_hang hz (nI s) y xz) fun v2 h3 => ((f_Ps_take h3 (nI (128 + wd) + 1)).bind fun h5 => (some (nI s, h5)))) (f_Mo_readBlock_226 gz (nI wd)) := by
      intro φ w mz xz hz gz w1 w2 vz z1 z2
      unfold f_Mo_readBlock_226
      refine zk_Gf (φ := φ) (w := w) ?_ ?_
      · repeat' first
          | with_reducible exact zw_some.mpr ⟨by assumption, by assumption⟩
          | with_reducible exact zw_some.mpr ⟨by assumption, zz_open (by assumption)⟩
          | (rw [zw_B]; with_reducible refine zw_mono (zz_expression (by assumption)) ?_; rintro _ ⟨_, _⟩)
          | (rw [zw_B]; with_reducible refine zw_mono (zz_operand (by assumption)) ?_; rintro _ ⟨_, _⟩)
          | (rw [zw_B]; with_reducible refine zw_mono (zz_statements (by assumption)) ?_; rintro _ ⟨_, _⟩)
          | (rw [zw_bind]; with_reducible refine zw_mono (zz_take (zz_uM (by assumption) (by decide))) ?_; intro _ _)
          | (rw [zw_bind]; with_reducible refine zw_mono (zz_take (by assumption)) ?_; intro _ _)
          | (rw [zw_B]; with_reducible refine zw_mono (zz_constant (by assumption)) ?_; rintro _ ⟨_, _⟩)
          | (rw [zw_B]; with_reducible refine zw_mono (zz_simpleType (by assumption)) ?_; rintro _ ⟨_, _⟩)
          | (rw [zw_B]; with_reducible refine zw_mono (zz_type (by assumption)) ?_; rintro _ ⟨_, _⟩)
          | (rw [zw_B]; with_reducible refine zw_mono (zz_whole (by assumption)) ?_; rintro _ ⟨_, _⟩)
          | (rw [zw_B]; with_reducible refine zw_mono (zz_add (by assumption)) ?_; rintro _ ⟨_, _⟩)
          | (rw [zw_B]; with_reducible refine zw_mono (zz_hang (by assumption) (by assumption) (by first | assumption | exact zq_vl_n | exact zq_vl_v (by assumption)) (by assumption)) ?_; rintro _ ⟨_, _⟩)
          | rw [if_pos (zq_at (by assumption))]
          | rw [zz_isCell (by assumption), if_pos rfl]
          | rw [if_neg (zq_ne (by assumption) (by decide) (by decide))]
          | rw [Option.bind_assoc]
          | rw [Option.bind_some]
          | rw [if_pos (zi_in (by omega) (by omega))]
      · repeat' first
          | (with_reducible refine zw_some.mpr ⟨_, ⟨?_, ?_⟩, by assumption⟩ <;> omega)
          | (with_reducible refine zw_some.mpr ⟨_, ⟨?_, ?_⟩, zx_Om (by assumption) ?_⟩ <;> omega)
          | (with_reducible refine zw_some.mpr ⟨_, ⟨?_, ?_⟩, zx_Om (zx_uF (by assumption) (Or.inl rfl)) ?_⟩ <;> omega)
          | (with_reducible refine zw_mono (zxb_142 (by assumption) (by omega)) ?_; intro _ z; exact ⟨_, by omega, z⟩)
          | (with_reducible refine zw_mono (zxb_142c (by assumption) (by omega)) ?_; intro _ z; exact ⟨_, by omega, z⟩)
          | (rw [zw_bind]; with_reducible refine zw_mono (zxb_body (by assumption)) ?_; intro _ _)
          | (rw [zw_bind]; with_reducible refine zw_mono (zxw_expr4 (by assumption)) ?_; intro _ _)
          | (rw [zw_bind]; with_reducible refine zw_mono (zxw_next2 (by assumption)) ?_; intro _ _)
          | (rw [zw_bind]; with_reducible refine zw_mono (zx_open (by assumption)) ?_; intro _ _)
          | (rw [zw_bind]; with_reducible refine zw_mono (zxw_expression (by assumption)) ?_; intro _ _)
          | (rw [zw_bind]; with_reducible refine zw_mono (zxw_operand (by assumption)) ?_; intro _ _)
          | (rw [zw_bind]; with_reducible refine zw_mono (zxb_keep (by assumption) (by omega)) ?_; intro _ _)
          | (rw [zw_B]; with_reducible refine zw_mono (zxb_node (by assumption) (by omega) rfl) ?_; rintro _ ⟨e1, _⟩; try rw [e1])
          | (rw [zw_bind]; with_reducible refine zw_mono (zxw_wantSign (zxb_uM (by assumption) (by decide))) ?_; intro _ _)
          | (rw [zw_bind]; with_reducible refine zw_mono (zxw_wantSign (by assumption)) ?_; intro _ _)
          | (rw [zw_bind]; with_reducible refine zw_mono (zxw_wantWord (by assumption)) ?_; intro _ _)
          | (rw [zw_bind]; with_reducible refine zw_mono (zxw_want (by assumption)) ?_; intro _ _)
          | (rw [zw_bind]; with_reducible refine zw_mono (zx_next (by assumption)) ?_; intro _ _)
          | (rw [zw_bind]; with_reducible refine zw_mono (zxb_constant (by assumption) (by omega) (by omega)) ?_; intro _ _)
          | (rw [zw_bind]; with_reducible refine zw_mono (zxw_simple (by assumption) (by omega) (by omega)) ?_; rintro _ ⟨_, _, _, _⟩)
          | (rw [zw_B]; with_reducible refine zw_mono (zxb_add (by assumption) (by omega) rfl (by omega)) ?_; rintro _ ⟨e1, _⟩; try rw [e1])
          | rw [zx_isSign (by assumption), if_pos rfl]
          | rw [zx_isWord (by assumption), if_pos rfl]
          | rw [if_neg (zx_ne (by assumption))]
          | rw [if_neg (zx_pos (by assumption))]
          | rw [if_pos (show (0 : Int32) ≤ 0 by decide)]
          | rw [Option.bind_assoc]
          | rw [Option.bind_some]
          | rw [zx_name (by assumption), zo_B]
          | rw [if_pos (zi_in (by omega) (by omega))]
    rcases zk_isSec I.1 with ⟨is, n1, n2, n3⟩ | ⟨is, cw, cw1, cw2, cw3⟩
    · rw [if_pos is, if_neg n1, if_neg n2, if_neg n3, if_pos z0, if_pos z0, if_pos z0]
      unfold f_Ps_block_156 f_Ps_block_184
      by_cases t165 : (h'.1 19 5) = 165
      · rw [if_pos t165, if_pos (show (h'.1 19 5) = nI 165 from t165), if_neg e01]
        refine zk_sK2 (e2 := 1) (e3 := e) (S := [22]) (st' := 2) I (zk_GM (zk_ladder (b := m) I.1 (by omega) t165 (by omega) (by omega)) (Nat.le_refl _) (Nat.le_refl 20800) (fun x h g R => zk_TTm (zk_TTof R) (Nat.le_refl _) (fun t W => zg_Tm W (fun _ z => z) (by omega)))) (by rcases hkd with ⟨z, _⟩ | ⟨z, _⟩ | ⟨z, _⟩ <;> subst z <;> decide) (by omega) ?_ fun x3 h3 g3 u3 LM3 j3 s3 m3 vx3 hj3 I3 => ?_
        · intro φ w mz xz hz gz w1 w2 vz z1 z2
          exact badE φ w mz xz hz gz (by omega) (by omega) vz z1 z2
        exact fin I3 hf (by omega)
      · rw [if_neg t165, if_neg (show ¬ (h'.1 19 5) = nI 165 from t165), if_pos z0]
        rw [show (zd_B (f_Mo_add g' (nI m) 11 a 0) fun v10 h11 => ((f_Mo_statements 400 h11 v10).bind fun h13 => f_Mo_readBlock_226 h13 (nI wd))) = (zd_B (f_Mo_add g' (nI m) 11 a 0) fun v5 h6 => (f_Mo_statements 400 h6 v5).bind fun h8 => some h8).bind fun h13 => f_Mo_readBlock_226 h13 (nI wd) by simp only [zd_Bb, Option.bind_assoc, Option.bind_some]]
        refine zk_sK2 (e2 := 0) (e3 := 0) (S := [11]) (st' := 2) I (zk_GM (zk_SSall 61 0 (by omega) (b := m) (D := 400) (D' := 400) (p := a) I.1 (Nat.le_refl _) (by omega) (by omega) (by omega) (by omega) (by omega)) (Nat.le_refl _) (Nat.le_refl 20950) (fun x h g R => zk_TTm R (Nat.le_refl _) (fun t W => zg_Tm W (fun _ z => z) (by omega)))) (by rcases hkd with ⟨z, _⟩ | ⟨z, _⟩ | ⟨z, _⟩ <;> subst z <;> decide) (by omega) ?_ fun x3 h3 g3 u3 LM3 j3 s3 m3 vx3 hj3 I3 => ?_
        · intro φ w mz xz hz gz w1 w2 vz z1 z2
          exact badE φ w mz xz hz gz (by omega) (by omega) vz z1 z2
        exact fin I3 hf (by omega)
    · rw [if_neg is]
      have em : (if (if (h'.1 19 5) = nI 134 then (1 : Int32) else 0) = 0 then (if (if (h'.1 19 5) = nI 135 then (1 : Int32) else 0) = 0 then (if (if (h'.1 19 5) = nI 136 then (1 : Int32) else 0) = 0 then (if (if (h'.1 19 5) = nI 165 then (1 : Int32) else 0) = 0 then (zd_B (f_Mo_add g' (nI m) 11 a 0) fun v10 h11 => ((f_Mo_statements 400 h11 v10).bind fun h13 => f_Mo_readBlock_226 h13 (nI wd))) else ((f_Mo_ladder g' (nI m)).bind fun h15 => f_Mo_readBlock_226 h15 (nI wd))) else f_Mo_readBlock_133 (f_Mo_readBlock_L106 (N' + 1)) g' (nI wd) (nI m)) else f_Mo_readBlock_133 (f_Mo_readBlock_L106 (N' + 1)) g' (nI wd) (nI m)) else f_Mo_readBlock_133 (f_Mo_readBlock_L106 (N' + 1)) g' (nI wd) (nI m)) = f_Mo_readBlock_133 (f_Mo_readBlock_L106 (N' + 1)) g' (nI wd) (nI m) := by
        by_cases q1 : (h'.1 19 5) = nI 134
        · rw [if_pos q1, if_neg e01]
        rw [if_neg q1, if_pos z0]
        by_cases q2 : (h'.1 19 5) = nI 135
        · rw [if_pos q2, if_neg e01]
        rw [if_neg q2, if_pos z0]
        by_cases q3 : (h'.1 19 5) = nI 136
        · rw [if_pos q3, if_neg e01]
        exfalso
        have : cw = 6 ∨ cw = 7 ∨ cw = 8 := by omega
        rcases this with z | z | z <;> subst z
        · exact q1 cw3
        · exact q2 cw3
        · exact q3 cw3
      rw [em, zm_sec_eq]
      have G := zk_section (b := m) I.1 (by omega) ⟨cw, cw1, cw2, cw3⟩ (by omega) (by omega)
      obtain ⟨x, h2, g2, e1, e2, R⟩ := G
      obtain ⟨⟨a2, g2'⟩, e3, e4⟩ := zd_b e2
      have e5 : g2' = g2 := by
        have : some g2' = some g2 := e4
        exact Option.some.inj this
      subst e5
      rw [e1, zo_B, e3, zo_B]
      rcases R with R | ⟨vx, φ, w, mz, w1, w2, z1, z2⟩
      · have vx := zk_Tv R
        obtain ⟨h3, u3, LM3, j3, s3, m3, e6, hj3, I3⟩ := zk_Ic2 (st' := zg_bs kd) (e3 := e) I (zk_TTm (zk_TTof R) (Nat.le_refl _) (fun t W => zg_Tm W (fun _ z => z) (by omega))) (by rcases hkd with ⟨z, _⟩ | ⟨z, _⟩ | ⟨z, _⟩ <;> subst z <;> decide) (by omega)
        have hjj : j' < j3 := by
          obtain ⟨h3', u3', LM3', j3', s3', m3', e6', hj3', I3'⟩ := zk_Ic (st' := zg_bs kd) I (zk_TW R (fun t W => zg_Tm W (fun _ z => z) (by omega))) (by rcases hkd with ⟨z, _⟩ | ⟨z, _⟩ | ⟨z, _⟩ <;> subst z <;> decide)
          rw [e6] at e6'
          cases e6'
          have q1 : (h3.1 19 4) = nI j3 := I3.1.2.2.2.1.2.1
          have q2 : (h3.1 19 4) = nI j3' := I3'.1.2.2.2.1.2.1
          have k1 := zk_Ib I3
          have k2 := zk_Ib I3'
          have := (nI_eq (by omega) (by omega)).mp (q1.symm.trans q2)
          omega
        have b3 := zk_Ib I3
        rw [e6, zo_B, nI_1]
        exact ih (N + 1) (N' + 1) (c := c + 1) I3 (by omega) (by omega) (by omega) (by omega) (zq_vl_v vx) he hf (by omega)
      · refine zk_Gf (φ := φ) (w := w) ?_ ?_
        · rw [zw_B]
          refine zw_mono (zz_hang z1 v0 vy vx) ?_
          rintro ⟨xa, ha⟩ ⟨va, za⟩
          exact zz_b119 za v0 (zq_vl_v va)
        · exact zw_mono (zxb_b106 z2 (by omega) (by omega)) fun g5 z5 => ⟨_, by omega, z5⟩
end ZC
end
section
/-! Both readers in step: blocks, texts. -/
section ZDd
variable {h0 g0 h g g1 h' g' : zs_H} {T : Nat → Int32} {n K : Nat} {LC LM LM' LM1 : List (List Int32)} {j d s m o q b kd j' d' s' m' e st D f M0 M : Nat} {p v y : Int32} {u : zt_T} {X : Int32 → zs_H → zs_H → Prop}
/-- a block with a word that begins one -/
theorem zk_block1 {wd b : Nat} (H : zk_L h0 g0 T n K LC h g LM j 0 s m 0 0) (hkd : (kd = 1 ∧ wd = 0) ∨ (kd = 2 ∧ wd = 2) ∨ (kd = 3 ∧ wd = 4)) (ht : (h.1 19 5) = nI (128 + wd)) (hs : s ≤ 2 * j + 10) (hm : m ≤ 2 * j + 10) (hb : b < m) : zk_G h0 g0 T n K LC m 20960 0 (zk_TB h0 g0 T n K LC LM j s m b h g) (zd_B (f_Tr_add h (nI kd) ((h.1 19 6)) 0) fun v2 h3 => f_Ps_block_56 h3 (nI (128 + wd)) (nI kd) v2 (nI (128 + wd))) (f_Mo_readBlock_56 g (nI wd) (nI kd) (nI b)) := by
  have bK := zk_bK H
  have v0 : zq_v (nI s) := ⟨s, by omega, rfl⟩
  have hwd : (zl_at T n j).1 = 2 ∧ (zl_at T n j).2.2.2 = wd := ((zl_ckA (zk_F H)).2.2.1 wd (by omega)).mp ((zk_tok H (by omega)).mp ht)
  obtain ⟨h1, e1, L1, qA⟩ := zk_cadd H (kd := kd) (kv := nI kd) (v := 0) (by omega) (by omega) rfl
  rw [e1, zo_B]
  unfold f_Ps_block_56 f_Mo_readBlock_56
  have qA' := qA
  obtain ⟨q1, q2, q3, q4, q5, q6, q7⟩ := qA'
  have badB : ∀ φ w hz gz a mz x4, m < mz → mz ≤ 20959 → zq_vl x4 → zq_Z h0 T n K LC φ w hz → zx_B g0 T n φ w mz 0 gz → zk_G h0 g0 T n K LC m 20960 0 (zk_TB h0 g0 T n K LC LM j s m b h g) (f_Ps_block_116 hz (nI (128 + wd)) (nI s) x4) (f_Mo_readBlock_L106 zF gz (nI wd) (nI m) a) := by
    intro φ w hz gz a mz x4 w1 w2 v4 z1 z2
    unfold f_Ps_block_116
    rw [show zF = 18446744073709551615 + 1 from rfl]
    exact zk_Gf (φ := φ) (w := w) (zz_b119 z1 v0 v4) (zw_mono (zxb_b106 z2 (by omega) (by omega)) fun g5 z5 => ⟨_, by omega, z5⟩)
  refine zk_Inm (D := 185) (kd := kd) (j := j) (h := h) (g := g) (LM := LM) (b := b) (FB := fun v2 a h8 => if nI wd = 0 then ((f_Mo_wantSign h8 58).bind fun h12 => ((f_Mo_simple h12 v2).bind fun h14 => f_Mo_readBlock_L106 zF h14 (nI wd) v2 (h12.1 68 7))) else f_Mo_readBlock_L106 zF h8 (nI wd) v2 a) L1 (List.prefix_refl _) (zq_kp_A qA) ⟨by rw [q2, if_pos rfl], by rw [q3, if_pos rfl], by rw [q6, if_pos rfl], by rw [q5, if_pos rfl]⟩ (fun i _ => ⟨rfl, rfl, rfl, rfl, rfl, rfl, rfl⟩) (by omega) (by omega) hb (by rcases hkd with ⟨z, _⟩ | ⟨z, _⟩ | ⟨z, _⟩ <;> subst z <;> rfl) (by rcases hkd with ⟨z, _⟩ | ⟨z, _⟩ | ⟨z, _⟩ <;> subst z <;> rfl) (by omega) (by rw [L1.2.2.2.1.2.2.1, ← H.2.2.2.1.2.2.1]; exact ht) (by rcases hkd with ⟨_, z⟩ | ⟨_, z⟩ | ⟨_, z⟩ <;> subst z <;> decide) ?_ fun h4 g4 a LM4 vc I4 => ?_
  · intro φ w hz gz a z1 z2
    by_cases k1 : kd = 1
    · have w0 : wd = 0 := by omega
      rw [if_pos (show nI kd = 1 by rw [k1]; rfl), if_pos (show nI wd = 0 by rw [w0]; rfl)]
      obtain ⟨ha, ea, za⟩ := zz_take (x := 58) z1
      rw [ea, Option.bind_some]
      obtain ⟨⟨xb, hb'⟩, eb, vb, zb⟩ := zz_simpleType za
      rw [eb, zo_B]
      obtain ⟨⟨xc, hc⟩, ec, vc, zc⟩ := zz_hang zb v0 zq_vl_n vb
      rw [ec, zo_B, zx_wantSign z2, Option.bind_some]
      obtain ⟨gd, ed, md, d1, d2, zd⟩ := zxw_simple (b := m) z2 (by omega) (by omega)
      rw [ed, Option.bind_some]
      exact badB φ w hc gd _ md xc (by omega) (by omega) (zq_vl_v vc) zc zd
    · rw [if_neg (show ¬ nI kd = 1 from fun z => k1 ((zc_eq (k := 1) (by decide) (by omega)).mp z)), if_neg (show ¬ nI wd = 0 from fun z => by have := (zc_eq (k := 0) (by decide) (by omega)).mp z; omega)]
      exact badB φ w hz gz _ _ (-1) (by omega) (by omega) zq_vl_n z1 z2
  have b4 := zk_Ib I4
  by_cases k1 : kd = 1
  · have w0 : wd = 0 := by omega
    rw [if_pos (show nI kd = 1 by rw [k1]; rfl), if_pos (show nI wd = 0 by rw [w0]; rfl)]
    refine zk_sA I4 (zk_wantS I4.1 (c := 58) (k := 58) (by decide) (by decide)) ?_ fun h5 g5 LM5 I5 => ?_
    · intro φ w hz gz z1 z2
      obtain ⟨⟨xb, hb'⟩, eb, vb, zb⟩ := zz_simpleType z1
      rw [eb, zo_B]
      obtain ⟨⟨xc, hc⟩, ec, vc, zc⟩ := zz_hang zb v0 zq_vl_n vb
      rw [ec, zo_B]
      obtain ⟨gd, ed, md, d1, d2, zd⟩ := zxw_simple (b := m) z2 (by omega) (by omega)
      rw [ed, Option.bind_some]
      exact badB φ w hc gd _ md xc (by omega) (by omega) (zq_vl_v vc) zc zd
    have b5 := zk_Ib I5
    refine zk_sK2 (e2 := 1) (e3 := 6) (S := [8]) (st' := 1) I5 (zk_GM (zk_simple (b := m) I5.1 (by omega) (by omega) (by omega)) (Nat.le_refl _) (Nat.le_refl _) (fun x h g R => zk_TTm (zk_TTof R) (Nat.le_refl _) (fun t W => zg_Tm W (fun _ z => z) (by omega)))) (by subst k1; decide) (by omega) ?_ fun x6 h6 g6 u6 LM6 j6 s6 m6 vx6 hj6 I6 => ?_
    · intro φ w mz xz hz gz w1 w2 vz z1 z2
      obtain ⟨⟨xc, hc⟩, ec, vc, zc⟩ := zz_hang z1 v0 zq_vl_n vz
      rw [ec, zo_B]
      exact badB φ w hc gz _ mz xc (by omega) (by omega) (zq_vl_v vc) zc z2
    have b6 := zk_Ib I6
    unfold f_Ps_block_116
    have I6' : zk_I h0 g0 T n K LC LM j s m 0 0 b kd (nI (zl_at T n j).2.1) vc h g g4 u6 x6 LM6 j6 0 s6 m6 6 (zg_bs kd) 185 (3 + 1) h6 g6 := by rw [show zg_bs kd = 1 by rw [k1]; rfl]; exact I6
    exact zk_blL hwd hkd hs hm (K + 1) zF zF (c := 0) I6' (by omega) (by have := zF_big; omega) (by have := zF_big; omega) (by omega) (zq_vl_v vx6) (by omega) (by omega) (by omega)
  · rw [if_neg (show ¬ nI kd = 1 from fun z => k1 ((zc_eq (k := 1) (by decide) (by omega)).mp z)), if_neg (show ¬ nI wd = 0 from fun z => by have := (zc_eq (k := 0) (by decide) (by omega)).mp z; omega)]
    unfold f_Ps_block_116
    have I4' : zk_I h0 g0 T n K LC LM j s m 0 0 b kd (nI (zl_at T n j).2.1) vc h g g4 .leaf (-1) LM4 (j + 2) 0 (s + 1) (m + 1) 4 (zg_bs kd) 185 3 h4 g4 := by rw [show zg_bs kd = 0 from if_neg k1]; exact I4
    exact zk_blL hwd hkd hs hm (K + 1) zF zF (c := 0) I4' (by omega) (by have := zF_big; omega) (by have := zF_big; omega) (by omega) zq_vl_n (by omega) (by omega) (by omega)
/-- a block -/
theorem zk_block {b : Nat} (H : zk_L h0 g0 T n K LC h g LM j 0 s m 0 0) (hs : s ≤ 2 * j + 10) (hm : m ≤ 2 * j + 10) (hb : b < m) : zk_G h0 g0 T n K LC m 20960 0 (zk_TB h0 g0 T n K LC LM j s m b h g) (f_Ps_block h) (f_Mo_readBlock g (nI b)) := by
  have bK := zk_bK H
  have v0 : zq_v (nI s) := ⟨s, by omega, rfl⟩
  unfold f_Ps_block f_Ps_block_28 f_Mo_readBlock f_Mo_readBlock_16 f_Mo_readBlock_36
  by_cases t0 : (h.1 19 5) = 128
  · have kw := (zk_wd H 0 (by decide)).mp t0
    rw [if_pos t0, if_pos kw.1, kw.2, if_pos (show nI 0 = 0 from rfl), if_pos (show nI 0 = 0 from rfl), t0]
    simp only [if_neg (show ¬ (1 : Int32) = 3 by decide)]
    exact zk_block1 (kd := 1) (wd := 0) H (Or.inl ⟨rfl, rfl⟩) t0 hs hm hb
  rw [if_neg t0]
  by_cases t2 : (h.1 19 5) = 130
  · have kw := (zk_wd H 2 (by decide)).mp t2
    rw [if_pos t2, if_pos kw.1, kw.2, if_neg (show ¬ nI 2 = 0 by decide), if_pos (show nI 2 = 2 from rfl), if_neg (show ¬ nI 2 = 0 by decide), if_pos (show nI 2 = 2 from rfl), t2]
    simp only [if_neg (show ¬ (2 : Int32) = 3 by decide)]
    exact zk_block1 (kd := 2) (wd := 2) H (Or.inr (Or.inl ⟨rfl, rfl⟩)) t2 hs hm hb
  rw [if_neg t2]
  simp only [eq_self, if_true]
  by_cases t4 : (h.1 19 5) = 132
  · have kw := (zk_wd H 4 (by decide)).mp t4
    rw [if_pos kw.1, kw.2, if_neg (show ¬ nI 4 = 0 by decide), if_neg (show ¬ nI 4 = 2 by decide), if_pos (show nI 4 = 4 from rfl), if_neg (show ¬ nI 4 = 0 by decide), if_neg (show ¬ nI 4 = 2 by decide), t4]
    exact zk_block1 (kd := 3) (wd := 4) H (Or.inr (Or.inr ⟨rfl, rfl⟩)) t4 hs hm hb
  have em : (if (g.1 68 6) = 2 then (if (g.1 68 9) = 0 then (if (g.1 68 9) = 0 then f_Mo_readBlock_56 g ((g.1 68 9)) 1 (nI b) else (if (g.1 68 9) = 2 then f_Mo_readBlock_56 g ((g.1 68 9)) 2 (nI b) else f_Mo_readBlock_56 g ((g.1 68 9)) 3 (nI b))) else (if (g.1 68 9) = 2 then (if (g.1 68 9) = 0 then f_Mo_readBlock_56 g ((g.1 68 9)) 1 (nI b) else (if (g.1 68 9) = 2 then f_Mo_readBlock_56 g ((g.1 68 9)) 2 (nI b) else f_Mo_readBlock_56 g ((g.1 68 9)) 3 (nI b))) else (if (g.1 68 9) = 4 then (if (g.1 68 9) = 0 then f_Mo_readBlock_56 g ((g.1 68 9)) 1 (nI b) else (if (g.1 68 9) = 2 then f_Mo_readBlock_56 g ((g.1 68 9)) 2 (nI b) else f_Mo_readBlock_56 g ((g.1 68 9)) 3 (nI b))) else ((f_Mo_wrong g).bind fun h5 => (some h5))))) else (f_Mo_wrong g)) = f_Mo_wrong g := by
    by_cases k2 : (g.1 68 6) = 2
    · rw [if_pos k2, if_neg (show ¬ (g.1 68 9) = 0 from fun z => t0 ((zk_wd H 0 (by decide)).mpr ⟨k2, z⟩)), if_neg (show ¬ (g.1 68 9) = 2 from fun z => t2 ((zk_wd H 2 (by decide)).mpr ⟨k2, z⟩)), if_neg (show ¬ (g.1 68 9) = 4 from fun z => t4 ((zk_wd H 4 (by decide)).mpr ⟨k2, z⟩)), zm_bs]
    · rw [if_neg k2]
  obtain ⟨h1, e1, L1, qA⟩ := zk_cadd H (kd := 3) (kv := 3) (v := 0) (by omega) (by decide) rfl
  have etk : (h1.1 19 5) = (h.1 19 5) := by rw [L1.2.2.2.1.2.2.1, H.2.2.2.1.2.2.1]
  obtain ⟨h2, g2, e2, e3, φ, w, z1, z2⟩ := zk_wrong L1 (x := 132) (by rw [etk]; exact t4)
  have e4 : (if (g.1 68 6) = 2 then (if (g.1 68 9) = 0 then (if (g.1 68 9) = 0 then f_Mo_readBlock_56 g ((g.1 68 9)) 1 (nI b) else (if (g.1 68 9) = 2 then f_Mo_readBlock_56 g ((g.1 68 9)) 2 (nI b) else f_Mo_readBlock_56 g ((g.1 68 9)) 3 (nI b))) else (if (g.1 68 9) = 2 then (if (g.1 68 9) = 0 then f_Mo_readBlock_56 g ((g.1 68 9)) 1 (nI b) else (if (g.1 68 9) = 2 then f_Mo_readBlock_56 g ((g.1 68 9)) 2 (nI b) else f_Mo_readBlock_56 g ((g.1 68 9)) 3 (nI b))) else (if (g.1 68 9) = 4 then (if (g.1 68 9) = 0 then f_Mo_readBlock_56 g ((g.1 68 9)) 1 (nI b) else (if (g.1 68 9) = 2 then f_Mo_readBlock_56 g ((g.1 68 9)) 2 (nI b) else f_Mo_readBlock_56 g ((g.1 68 9)) 3 (nI b))) else ((f_Mo_wrong g).bind fun h5 => (some h5))))) else (f_Mo_wrong g)) = some g2 := em.trans e3
  simp only [if_neg (show ¬ (-1 : Int32) = 0 by decide), if_neg (show ¬ (-1 : Int32) = 2 by decide), if_neg (show ¬ (-1 : Int32) = 4 by decide), zm_bs]
  simp only [zm_bs] at e4
  rw [e4, e1, zo_B]
  refine zk_Gf (φ := φ) (w := w) ?_ (zw_some.mpr ⟨m, by omega, z2⟩)
  unfold f_Ps_block_56 f_Ps_block_116
  rw [e2, Option.bind_some, if_pos (zq_at z1), if_pos (zi_in (by omega) (by omega)), zw_bind]
  refine zw_mono (zz_take (zz_uM z1 (by decide))) fun ha za => ?_
  rw [if_neg (show ¬ (3 : Int32) = 1 by decide), show zF = 18446744073709551615 + 1 from rfl]
  exact zz_b119 za v0 zq_vl_n
end ZDd
end
section
/-! The model numbers its nodes. -/
def zt_sz : zt_T → Nat
  | .leaf => 0
  | .inner _ _ _ l r => 1 + zt_sz l + zt_sz r
/-- how many nodes of a kind -/
def zg_ct (c : Nat) : zt_T → Nat
  | .leaf => 0
  | .inner kd _ _ l r => (if kd = c then 1 else 0) + zg_ct c l + zg_ct c r
/-- not too many bodies, not too many EXITs -/
def zg_cx (t : zt_T) : Prop := zg_ct 20 t ≤ 3999 ∧ zg_ct 11 t ≤ 8390
theorem zg_cxi {kd : Nat} {k : Int32 × Int32} {o : Unit} {l r : zt_T} (h : zg_cx (.inner kd k o l r)) : zg_cx l ∧ zg_cx r := by
  obtain ⟨h1, h2⟩ := h
  have e : ∀ c, zg_ct c (.inner kd k o l r) = (if kd = c then 1 else 0) + zg_ct c l + zg_ct c r := fun _ => rfl
  rw [e] at h1 h2
  exact ⟨⟨by omega, by omega⟩, by omega, by omega⟩
theorem zg_cxa : ∀ (t u : zt_T), zg_cx (zt_ap t u) → zg_cx u := by
  intro t
  induction t with
  | leaf => intro u h; exact h
  | inner kd k o l r _ ih => intro u h; exact ih u (zg_cxi (show zg_cx (.inner kd k o l (zt_ap r u)) from h)).2
noncomputable def zc_cnt (P : Nat → Prop) : Nat → Nat
  | 0 => 0
  | m + 1 => zc_cnt P m + @ite Nat (P m) (Classical.propDecidable _) 1 0
theorem zc_cnt_le (P : Nat → Prop) : ∀ m, zc_cnt P m ≤ m := by
  intro m
  induction m with
  | zero => exact Nat.le_refl 0
  | succ m ih =>
    show zc_cnt P m + @ite Nat (P m) (Classical.propDecidable _) 1 0 ≤ m + 1
    split <;> omega
theorem zc_cnt_3 {P P1 P2 : Nat → Prop} {i : Nat} (hi : P i) (h1 : ∀ j, P1 j → P j ∧ ¬ j = i ∧ ¬ P2 j) (h2 : ∀ j, P2 j → P j ∧ ¬ j = i) : ∀ m, (if i < m then 1 else 0) + zc_cnt P1 m + zc_cnt P2 m ≤ zc_cnt P m := by
  intro m
  induction m with
  | zero => show (if i < 0 then 1 else 0) + 0 + 0 ≤ 0; rw [if_neg (by omega)]; omega
  | succ m ih =>
    show (if i < m + 1 then 1 else 0) + (zc_cnt P1 m + @ite Nat (P1 m) (Classical.propDecidable _) 1 0) + (zc_cnt P2 m + @ite Nat (P2 m) (Classical.propDecidable _) 1 0) ≤ zc_cnt P m + @ite Nat (P m) (Classical.propDecidable _) 1 0
    by_cases ei : i = m
    · subst ei
      rw [if_neg (by omega)] at ih
      rw [if_pos (by omega), if_neg (fun z => (h1 i z).2.1 rfl), if_neg (fun z => (h2 i z).2 rfl), if_pos hi]
      omega
    · have e : (if i < m + 1 then 1 else 0) = (if i < m then 1 else 0) := by
        by_cases c : i < m
        · rw [if_pos c, if_pos (by omega)]
        · rw [if_neg c, if_neg (by omega)]
      rw [e]
      by_cases c1 : P1 m
      · rw [if_pos c1, if_neg (h1 m c1).2.2, if_pos (h1 m c1).1]; omega
      · rw [if_neg c1]
        by_cases c2 : P2 m
        · rw [if_pos c2, if_pos (h2 m c2).1]; omega
        · rw [if_neg c2]
          omega
/-- a forest has no more nodes than places -/
theorem zt_sz_le {N : Nat → Nat → Int32 × Int32 → Int32 → Int32 → Prop} {A B : Nat → Int32} : ∀ (t : zt_T) (P : Nat → Prop) (up x y : Int32) (m : Nat), zt_G N A B t P up x y → (∀ i, P i → i < m) → zt_sz t ≤ zc_cnt P m := by
  intro t
  induction t with
  | leaf => intro P up x y m _ _; exact Nat.zero_le _
  | inner kd k v l r ihl ihr =>
    intro P up x y m q hP
    obtain ⟨i, P1, P2, z1, z2, q1, q2, q3, q4, q5, q6, q7, q8, q9⟩ := q
    have a := ihl P1 _ _ _ m q7 (fun j hj => hP j (q5 j hj).1)
    have b := ihr P2 _ _ _ m q8 (fun j hj => hP j (q6 j hj).1)
    have c := zc_cnt_3 q1 q5 q6 m
    rw [if_pos (hP i q1)] at c
    show 1 + zt_sz l + zt_sz r ≤ _
    omega
/-- through a forest: from its first node to where the one above its last is looked at -/
theorem zm_num {LC LM : List (List Int32)} {g0 : zs_H} : ∀ (t : zt_T) (P : Nat → Prop) (up x y : Int32) (g : zs_H) (a F : Nat), zt_M LC LM g0 t P up x y → ¬ t = .leaf → zfr [] [79, 80] [] g0 g → (∀ i, P i → i < 33500) → a + zt_sz t ≤ 33500 → zg_d t ≤ 1000 → ∃ g' M, f_Mo_number_L4 (F + zt_sz t) g (nI a) x = f_Mo_number_L44 (f_Mo_number_L4 F) M g' (nI (a + zt_sz t)) up ∧ zF ≤ M + zg_d t ∧ zfr [] [79, 80] [] g0 g' := by
  intro t
  induction t with
  | leaf => intro P up x y g a F _ h; exact absurd rfl h
  | inner kd k v l r ihl ihr =>
    intro P up x y g a F q _ fr hP hsz hd
    obtain ⟨i, P1, P2, z1, z2, q1, q2, q3, q4, q5, q6, q7, q8, q9⟩ := q
    have hi := hP i q1
    have esz : zt_sz (.inner kd k v l r) = 1 + zt_sz l + zt_sz r := rfl
    obtain ⟨dd, hdd⟩ : ∃ dd, dd = zg_d (.inner kd k v l r) := ⟨_, rfl⟩
    have ed : max (zg_d l + 1) (zg_d r) ≤ dd := by rw [hdd]; exact zg_d1
    rw [esz] at hsz ⊢
    rw [← hdd] at hd ⊢
    have efb : ∀ g', zfr [] [79, 80] [] g0 g' → (g'.2.1 76) = (g0.2.1 76) ∧ (g'.2.1 78) = (g0.2.1 78) ∧ (g'.2.1 75) = (g0.2.1 75) := fun g' f => ⟨f.2.1 _ (by decide), f.2.1 _ (by decide), f.2.1 _ (by decide)⟩
    -- the node itself
    have e1 : f_Mo_number_L4 (F + (1 + zt_sz l + zt_sz r)) g (nI a) x = if ((g0.2.1 76) i) < 0 then f_Mo_number_L44 (f_Mo_number_L4 (F + (zt_sz l + zt_sz r))) zF (zs_uM (zs_uM g 79 a (nI i)) 80 i (nI a)) (nI (a + 1)) (nI i) else f_Mo_number_L4 (F + (zt_sz l + zt_sz r)) (zs_uM (zs_uM g 79 a (nI i)) 80 i (nI a)) (nI (a + 1)) ((g0.2.1 76) i) := by
      rw [show F + (1 + zt_sz l + zt_sz r) = F + (zt_sz l + zt_sz r) + 1 by omega, q3]
      show f_Mo_number_4 (f_Mo_number_L4 (F + (zt_sz l + zt_sz r))) g (nI a) (nI i) = _
      unfold f_Mo_number_4
      rw [if_neg (nI_pos (by omega)), if_pos (zi_in (by omega) (by omega)), if_pos (zi_in (by omega) (by omega)), nI_clamp (by omega), nI_clamp (by omega), nI_1, (efb g fr).1]
    have fr1 : zfr [] [79, 80] [] g0 (zs_uM (zs_uM g 79 a (nI i)) 80 i (nI a)) := zfr_M (by decide) (zfr_M (by decide) fr)
    -- behind what is below it
    have e2 : ∃ g2 M, f_Mo_number_L4 (F + (1 + zt_sz l + zt_sz r)) g (nI a) x = f_Mo_number_L44 (f_Mo_number_L4 (F + zt_sz r)) (M + 1) g2 (nI (a + 1 + zt_sz l)) (nI i) ∧ zF ≤ M + 1 + zg_d l ∧ zfr [] [79, 80] [] g0 g2 := by
      rw [e1]
      by_cases cl : l = .leaf
      · subst cl
        have hf : (g0.2.1 76) i = -1 := q7.1
        rw [hf, if_pos (by decide)]
        exact ⟨_, 18446744073709551615, by rw [show F + (zt_sz (.leaf : zt_T) + zt_sz r) = F + zt_sz r by show F + (0 + zt_sz r) = _; omega]; rfl, by show zF ≤ 18446744073709551615 + 1 + 0; decide, fr1⟩
      · rcases zt_last l P1 _ _ _ q7 with ⟨z, _, _⟩ | ⟨i2, _, w1, w2, w3, _⟩
        · exact absurd z cl
        · rw [w3, if_neg (nI_pos (by omega)), ← w3]
          obtain ⟨g2, M, e3, e4, e5⟩ := ihl P1 (nI i) _ _ _ (a + 1) (F + zt_sz r) q7 cl fr1 (fun j hj => hP j (q5 j hj).1) (by omega) (by omega)
          obtain ⟨M, rfl⟩ : ∃ z, M = z + 1 := ⟨M - 1, by have : zF = 18446744073709551616 := rfl; omega⟩
          exact ⟨g2, M, by rw [show F + (zt_sz l + zt_sz r) = F + zt_sz r + zt_sz l by omega, e3], e4, e5⟩
    obtain ⟨g2, M, e3, e4, e5⟩ := e2
    rw [e3]
    have e44 : f_Mo_number_L44 (f_Mo_number_L4 (F + zt_sz r)) (M + 1) g2 (nI (a + 1 + zt_sz l)) (nI i) = if 0 ≤ (g0.2.1 78) i then f_Mo_number_L4 (F + zt_sz r) g2 (nI (a + 1 + zt_sz l)) ((g0.2.1 78) i) else f_Mo_number_L44 (f_Mo_number_L4 (F + zt_sz r)) M g2 (nI (a + 1 + zt_sz l)) up := by
      show f_Mo_number_44 (f_Mo_number_L4 (F + zt_sz r)) (f_Mo_number_L44 (f_Mo_number_L4 (F + zt_sz r)) M) g2 (nI (a + 1 + zt_sz l)) (nI i) = _
      unfold f_Mo_number_44 f_Mo_number_67 f_Mo_number_81
      have hab : (g0.2.1 75) i = up := q4.2.2.2.1
      rw [if_neg (nI_pos (by omega)), if_pos (zi_in (by omega) (by omega)), if_pos (nI_pos' (by omega)), if_pos (zi_in (by omega) (by omega)), nI_clamp (by omega), (efb g2 e5).2.1, (efb g2 e5).2.2, hab]
    rw [e44]
    by_cases cr : r = .leaf
    · subst cr
      have hb : (g0.2.1 78) i = -1 := q8.1
      rw [hb, if_neg (by decide)]
      refine ⟨g2, M, ?_, by omega, e5⟩
      rw [show F + zt_sz (.leaf : zt_T) = F from rfl, show a + (1 + zt_sz l + zt_sz (.leaf : zt_T)) = a + 1 + zt_sz l by show a + (1 + zt_sz l + 0) = _; omega]
    · rcases zt_last r P2 _ _ _ q8 with ⟨z, _, _⟩ | ⟨i2, _, w1, w2, w3, _⟩
      · exact absurd z cr
      · rw [w3, if_pos (nI_pos' (by omega)), ← w3]
        obtain ⟨g3, M3, e6, e7, e8⟩ := ihr P2 up _ _ g2 (a + 1 + zt_sz l) F q8 cr e5 (fun j hj => hP j (q6 j hj).1) (by omega) (by omega)
        exact ⟨g3, M3, by rw [e6, show a + 1 + zt_sz l + zt_sz r = a + (1 + zt_sz l + zt_sz r) by omega], by omega, e8⟩
theorem zm_number {LC LM : List (List Int32)} {g : zs_H} {kd m : Nat} {p v : Int32} {u : zt_T} (H : zt_M LC LM g (zt_n kd p v u) (fun i => i < m) (-1) (nI 0) (nI 0)) (hm : m ≤ 33500) (hd : zg_d (zt_n kd p v u) ≤ 1000) : ∃ g', f_Mo_number g = some g' ∧ zfr [] [79, 80] [] g g' := by
  have hsz := zt_sz_le _ _ _ _ _ m H (fun i hi => hi)
  have hc := zc_cnt_le (fun i => i < m) m
  unfold f_Mo_number
  obtain ⟨g', M, e1, e2, e3⟩ := zm_num _ _ _ _ _ g 0 (18446744073709551616 - zt_sz (zt_n kd p v u)) H (by intro z; cases z) zfr_rfl (fun i hi => by omega) (by omega) hd
  have ez : zF = (18446744073709551616 - zt_sz (zt_n kd p v u)) + zt_sz (zt_n kd p v u) := by
    have : zF = 18446744073709551616 := rfl
    omega
  rw [ez, show (0 : Int32) = nI 0 from rfl, e1]
  obtain ⟨M, rfl⟩ : ∃ z, M = z + 1 := ⟨M - 1, by have : zF = 18446744073709551616 := rfl; omega⟩
  obtain ⟨F, hF⟩ : ∃ z, 18446744073709551616 - zt_sz (zt_n kd p v u) = z + 1 := ⟨18446744073709551615 - zt_sz (zt_n kd p v u), by omega⟩
  rw [hF]
  refine ⟨g', ?_, e3⟩
  show f_Mo_number_44 (f_Mo_number_L4 (F + 1)) (f_Mo_number_L44 (f_Mo_number_L4 (F + 1)) M) g' (nI (0 + zt_sz (zt_n kd p v u))) (-1) = _
  unfold f_Mo_number_44 f_Mo_number_67 f_Mo_number_81
  rw [if_pos (by decide), if_neg (by decide)]
  show f_Mo_number_4 (f_Mo_number_L4 F) g' (nI (0 + zt_sz (zt_n kd p v u))) (-1) = _
  unfold f_Mo_number_4
  rw [if_pos (by decide)]
end
section
/-! Both readers in step: a whole text. -/
section ZFz
variable {h0 g0 h g : zs_H} {T : Nat → Int32} {n K φ w m O : Nat} {LC : List (List Int32)}
/-- behind a fault that is told -/
def zq_F (h0 : zs_H) (T : Nat → Int32) (n K : Nat) (LC : List (List Int32)) (φ w : Nat) (h : zs_H) : Prop := zq_Z h0 T n K LC φ w h ∧ (h.1 19 3) = nI φ ∧ (h.1 19 0) = nI w
theorem zz_takeF {x : Int32} (H : zq_Z h0 T n K LC φ w h) : zw (f_Ps_take h x) (zq_F h0 T n K LC φ w) := by
  obtain ⟨h', e, z⟩ := zz_take (x := x) H
  refine ⟨h', e, z, ?_⟩
  obtain ⟨_, _, b1, _⟩ := z
  rcases b1 with ⟨a1, a2, _⟩ | ⟨a1, a2, _⟩
  · exact ⟨a1, a2⟩
  · exfalso
    have hk : ∀ k : zs_H, f_Ps_take_119 k = some h' → False := by
      intro k ek
      unfold f_Ps_take_119 at ek
      cases ek
      exact absurd a2 (show ¬ (0 : Int32) = 7 by decide)
    obtain ⟨_, HS, b1, b2, b3, s, b4, b5⟩ := H
    have hφ : ¬ nI φ = 0 := fun q => by have := (zc_eq (k := 0) (by decide) (by omega)).mp q; omega
    unfold f_Ps_take f_Ps_take_74 f_Ps_take_108 at e
    rcases b1 with ⟨c1, c2, c3, _⟩ | ⟨c1, c2, c3, c4, c5, c6⟩
    · rw [c1, if_neg hφ, if_neg hφ] at e
      exact hk _ e
    · rw [if_pos c1, if_pos c1, c2] at e
      obtain ⟨s1, s2, s3, _⟩ := HS
      by_cases ex : (7 : Int32) = x
      · rw [if_pos ex, c3, nI_1, s1.2, if_pos (Int32.le_refl _), if_pos rfl, if_pos (zi_in (by omega) (by omega))] at e
        exact hk _ e
      · rw [if_neg ex, if_pos rfl, c3, if_pos (zi_in (by omega) (by omega))] at e
        exact hk _ e
theorem zz_b156F {x1 x3 x4 : Int32} (H : zq_Z h0 T n K LC φ w h) (v3 : zq_v x3) (v4 : zq_vl x4) : zw (f_Ps_block_156 h x1 x3 x4) (fun p => zq_v p.1 ∧ zq_F h0 T n K LC φ w p.2) := by
  unfold f_Ps_block_156 f_Ps_block_184
  rw [if_neg (zq_ne H (by decide) (by decide)), zw_B]
  refine zw_mono (zz_statements (d := 399) H) ?_
  rintro ⟨xa, ha⟩ ⟨va, za⟩
  rw [zw_B]
  refine zw_mono (zz_hang za v3 v4 va) ?_
  rintro ⟨xb, hb⟩ ⟨vb, zb⟩
  rw [zw_bind]
  exact zw_mono (zz_takeF zb) fun hc zc => zw_some.mpr ⟨v3, zc⟩
theorem zz_b119F {N : Nat} {x1 x3 x4 x5 : Int32} (H : zq_Z h0 T n K LC φ w h) (v3 : zq_v x3) (v4 : zq_vl x4) : zw (f_Ps_block_L119 (N + 1) h x1 x3 x4 x5) (fun p => zq_v p.1 ∧ zq_F h0 T n K LC φ w p.2) := by
  show zw (f_Ps_block_119 (f_Ps_block_L119 N) h x1 x3 x4 x5) _
  unfold f_Ps_block_119
  rw [zz_isSection H, if_pos (show (0 : Int32) = 0 from rfl)]
  split <;> exact zz_b156F H v3 v4
theorem zz_block (H : zq_Z h0 T n K LC φ w h) : zw (f_Ps_block h) (fun p => zq_v p.1 ∧ zq_F h0 T n K LC φ w p.2) := by
  unfold f_Ps_block f_Ps_block_28
  rw [if_neg (zq_ne H (by decide) (by decide)), if_neg (zq_ne H (by decide) (by decide)), zw_B]
  refine zw_mono (zz_add H) ?_
  rintro ⟨xa, ha⟩ ⟨va, za⟩
  simp only [eq_self, if_true]
  unfold f_Ps_block_56 f_Ps_block_116
  rw [zw_bind]
  refine zw_mono (zz_take za) fun hb zb => ?_
  obtain ⟨i, hi, ei⟩ := va
  have ei : xa = nI i := ei
  rw [ei, if_pos (zq_at zb), if_pos (zi_in (by omega) hi), zw_bind]
  refine zw_mono (zz_take (zz_uM zb (by decide))) fun hc zc => ?_
  rw [if_neg (show ¬ (3 : Int32) = 1 by decide), show zF = 18446744073709551615 + 1 from rfl]
  exact zz_b119F zc ⟨i, hi, rfl⟩ zq_vl_n
theorem zz_hangF {x1 x2 x3 : Int32} (H : zq_F h0 T n K LC φ w h) (v1 : zq_v x1) (v2 : zq_vl x2) (v3 : zq_v x3) : zw (f_Tr_hang h x1 x2 x3) (fun p => zq_v p.1 ∧ zq_F h0 T n K LC φ w p.2) := by
  obtain ⟨⟨x, h'⟩, e, v, z⟩ := zz_hang H.1 v1 v2 v3
  refine ⟨_, e, v, z, ?_⟩
  unfold f_Tr_hang at e
  by_cases c : x2 = -1
  · rw [if_pos c] at e
    obtain ⟨_, e⟩ := zd_g e
    cases e
    exact H.2
  · rw [if_neg c] at e
    obtain ⟨_, e⟩ := zd_g e
    cases e
    exact H.2
theorem zz_parseF {N : Nat} {x1 x2 x3 : Int32} (H : zq_F h0 T n K LC φ w h) : f_Ps_parse_L64 (N + 1) h x1 x2 x3 = some (nI φ, h) := by
  show f_Ps_parse_64 (f_Ps_parse_L64 N) h x1 x2 x3 = _
  unfold f_Ps_parse_64 f_Ps_parse_107
  obtain ⟨z, e, _⟩ := H
  obtain ⟨_, _, b1, b2, b3, _⟩ := z
  have hφ : ¬ (h.1 19 3) = 0 := by rw [e]; exact fun q => by have := (zc_eq (k := 0) (by decide) (by omega)).mp q; omega
  rw [if_neg hφ, e]
  split
  · rfl
  · split <;> rfl
theorem zz_parseL {N c : Nat} {x2 : Int32} (H : zq_Z h0 T n K LC φ w h) (v2 : zq_vl x2) (hc : c < 16384) : zw (f_Ps_parse_L64 (N + 2) h 0 x2 (nI c)) (fun p => p.1 = nI φ ∧ zq_F h0 T n K LC φ w p.2) := by
  by_cases cf : (h.1 19 3) = 0
  · show zw (f_Ps_parse_64 (f_Ps_parse_L64 (N + 1)) h 0 x2 (nI c)) _
    unfold f_Ps_parse_64
    rw [if_neg (mt (zc_le (k := 16384) (t := c) (by decide) (by omega)).mp (by omega)), if_neg (zq_ne H (by decide) (by decide)), if_pos cf, zw_B]
    refine zw_mono (zz_block H) ?_
    rintro ⟨xa, ha⟩ ⟨va, za⟩
    rw [zw_B]
    refine zw_mono (zz_hangF za ⟨0, by decide, rfl⟩ v2 va) ?_
    rintro ⟨xb, hb⟩ ⟨vb, zb⟩
    exact ⟨_, zz_parseF zb, rfl, zb⟩
  · have HF : zq_F h0 T n K LC φ w h := by
      refine ⟨H, ?_⟩
      rcases H.2.2.1 with ⟨a1, a2, _⟩ | ⟨a1, _⟩
      · exact ⟨a1, a2⟩
      · exact absurd a1 cf
    exact ⟨_, zz_parseF HF, rfl, HF⟩
theorem zxb_rt {N : Nat} {x : Int32} (H : zx_B g0 T n φ w m O g) : ∃ g', f_Mo_readText_L57 (N + 1) g x = some (nI φ, g') ∧ (g'.1 68 11) = nI w ∧ zfr [(68, 22), (68, 14), (68, 3)] [] [] g g' := by
  have hne := zx_ne H
  obtain ⟨_, _, _, _, h5, h6, _⟩ := H
  refine ⟨zs_uF (zs_uF (zs_uF g 68 22 0) 68 14 0) 68 3 0, ?_, h6, zfr_F (by decide) (zfr_F (by decide) (zfr_F (by decide) zfr_rfl))⟩
  show f_Mo_readText_57 (f_Mo_readText_L57 N) g x = _
  unfold f_Mo_readText_57 f_Mo_readText_79 f_Mo_readText_92 f_Mo_readText_119
  rw [if_neg hne, if_neg hne, if_pos (Or.inl rfl), if_pos rfl]
  show some ((g.1 68 10), _) = _
  rw [h5]
end ZFz
/-- what both readers may change in all -/
abbrev zx_fs2 : List (Nat × Nat) := [(68, 3), (68, 6), (68, 7), (68, 8), (68, 9), (68, 10), (68, 11), (68, 12), (68, 13), (68, 14), (68, 25), (68, 22)]
abbrev zx_ms2 : List Nat := [70, 71, 72, 73, 74, 75, 76, 77, 78, 81, 82, 83, 79, 80]
/-- how many trees a forest has -/
def zt_ln : zt_T → Nat
  | .leaf => 0
  | .inner _ _ _ _ r => 1 + zt_ln r
theorem zt_ln_ap : ∀ t u : zt_T, zt_ln (zt_ap t u) = zt_ln t + zt_ln u := by
  intro t u
  induction t with
  | leaf => show zt_ln u = 0 + zt_ln u; omega
  | inner c k v l r ihl ihr => show 1 + zt_ln (zt_ap r u) = 1 + zt_ln r + zt_ln u; rw [ihr]; omega
/-- the tree of a text, as both have it -/
def zk_TX (LC LM : List (List Int32)) (t : zt_T) (s m : Nat) (h g : zs_H) : Prop := (zg_T [0] 187 t ∧ ∃ u, t = zt_n 0 0 0 u ∧ zt_ln u ≤ 568) ∧ zg_c t ≤ 5120 ∧ (h.1 12 6) = nI s ∧ s ≤ 20500 ∧ zt_C h t (fun i => i < s) (nI 0) (nI 0) ∧ (g.1 68 14) = nI m ∧ m ≤ 20500 ∧ zt_M LC LM g t (fun i => i < m) (-1) (nI 0) (nI 0) ∧ zn_M g LM ∧ LM.Nodup ∧ LM.length ≤ 5121
section ZF
variable {h0 g0 h g : zs_H} {T : Nat → Int32} {n K : Nat} {LC LM : List (List Int32)} {j s m : Nat} {y : Int32} {u : zt_T}
/-- the blocks read so far -/
def zk_R (h0 g0 : zs_H) (T : Nat → Int32) (n K : Nat) (LC : List (List Int32)) (u : zt_T) (y : Int32) (LM : List (List Int32)) (j s m : Nat) (h g : zs_H) : Prop := zk_L h0 g0 T n K LC h g LM j 0 s m 0 0 ∧ ((h.2.1 13) 0 = 0 ∧ (h.2.1 15) 0 = 0 ∧ (h.2.1 16) 0 = 0 ∧ (h.2.1 18) 0 = -1 ∧ zt_C h u (fun i => 0 < i ∧ i < s) ((h.2.1 17) 0) y) ∧ ((g.2.1 72) 0 = 0 ∧ (g.2.1 73) 0 = 0 ∧ (g.2.1 74) 0 = 0 ∧ (g.2.1 75) 0 = -1 ∧ (g.2.1 78) 0 = -1 ∧ zt_M LC LM g u (fun i => 0 < i ∧ i < m) (nI 0) ((g.2.1 76) 0) ((g.2.1 77) 0)) ∧ (zg_U 0 0 186 u ∧ 18 * zt_ln u ≤ (zl_at T n j).2.1) ∧ 2 * zg_c u ≤ j ∧ (1 ≤ s ∧ s ≤ 1 + 2 * j ∧ 1 ≤ m ∧ m ≤ 1 + 2 * j)
theorem zk_textL : ∀ (r N N' : Nat) {c : Nat} {y : Int32} {u : zt_T} {LM : List (List Int32)} {j s m : Nat} {h g : zs_H}, zk_R h0 g0 T n K LC u y LM j s m h g → K < j + r → r + 2 ≤ N → r + 2 ≤ N' → c ≤ j → zq_vl y → ∃ φ h' g', f_Ps_parse_L64 N h 0 y (nI c) = some (nI φ, h') ∧ f_Mo_readText_L57 N' g 0 = some (nI φ, g') ∧ φ < 1000 ∧ zq_f h0 h' ∧ zfr zx_fs2 zx_ms2 [] g0 g' ∧ (φ = 0 → ∃ t LM s m, zk_TX LC LM t s m h' g') ∧ (¬ φ = 0 → (h'.1 19 0) = (g'.1 68 11)) := by
  intro r
  induction r with
  | zero => intro N N' c y u LM j s m h g R hr; have := zk_bK R.1; omega
  | succ r ih =>
    intro N N' c y u LM j s m h g R hr hN hN' hc vy
    obtain ⟨N, rfl⟩ : ∃ z, N = z + 3 := ⟨N - 3, by omega⟩
    obtain ⟨N', rfl⟩ : ∃ z, N' = z + 3 := ⟨N' - 3, by omega⟩
    obtain ⟨L, ⟨c1, c2, c3, c4, c5⟩, ⟨m1, m2, m3, m4, m5, m6⟩, ⟨w1, w1b⟩, w2, ⟨n1, n2, n3, n4⟩⟩ := R
    have bK := zk_bK L
    obtain ⟨x1, x2, x3, x4, x5, x6, x7⟩ := zk_dd L
    have k0 := (zk_kind L).2.2.2
    have hf := L.2.2.2.1.1
    have mf := L.2.2.2.2.2.2.1
    have e1 : f_Ps_parse_L64 (N + 3) h 0 y (nI c) = f_Ps_parse_64 (f_Ps_parse_L64 (N + 2)) h 0 y (nI c) := rfl
    have e2 : f_Mo_readText_L57 (N' + 3) g 0 = f_Mo_readText_57 (f_Mo_readText_L57 (N' + 2)) g 0 := rfl
    rw [e1, e2]
    unfold f_Ps_parse_64 f_Mo_readText_57
    rw [if_neg (mt (zc_le (k := 16384) (t := c) (by decide) (by omega)).mp (by omega)), if_pos mf]
    by_cases t6 : (h.1 19 5) = 6
    · rw [if_pos t6, if_pos (k0.mpr t6)]
      unfold f_Ps_parse_107 f_Mo_readText_79 f_Mo_readText_92 f_Mo_readText_119
      rw [if_pos mf, if_pos (Or.inr rfl), if_neg (show ¬ (1 : Int32) = 0 by decide), hf]
      have H : zt_M LC LM g (zt_n 0 0 0 u) (fun i => i < m) (-1) (nI 0) (nI 0) := by
        refine zo_mk (P1 := fun i => 0 < i ∧ i < m) (by decide) ⟨m1, fun _ => m2, ?_⟩ m4 m5 (by omega) (fun i hi => by omega) m6
        rw [if_neg (by decide)]; exact m3
      have fT : zfr [(68, 22)] [] [] g (zs_uF g 68 22 1) := zfr_F (by decide) zfr_rfl
      have W : zg_T [0] 187 (zt_n 0 0 0 u) := zg_n w1 rfl (Or.inl rfl) (by decide)
      have hdd : zg_d (zt_n 0 0 0 u) ≤ 1000 := by obtain ⟨_, _, _, _, _, _, _, z⟩ := W; omega
      obtain ⟨g', e3, f3⟩ := zm_number (g := zs_uF g 68 22 1) H (by omega) hdd
      rw [e3, Option.bind_some]
      have fg : zfr [(68, 22)] [79, 80] [] g g' := zfr_trans (zfr_w fT (by decide) (by decide) (by decide)) (zfr_w f3 (by decide) (by decide) (by decide))
      have mf' : (g'.1 68 10) = 0 := (fg.1 _ _ (by decide)).trans mf
      rw [mf']
      have hn := L.2.2.1.2.2.1
      have mm := L.2.2.2.2.2
      obtain ⟨q1, q2, q3, q4, q5, q6, q7, q8, q9, q10, q11, _⟩ := mm
      have hb := q11.1
      have hbn : (zl_at T n j).2.2.1 ≤ n := by
        have hT := L.2.2.1.2.2.2.2.2.2.2.2.1
        have hbs := zq_bs hT j (fun i hi => L.2.2.1.2.2.2.1 i (by omega))
        have hkd := zl_tok_kd (n := n) (b := zl_bs T n j) hT hbs
        by_cases c0 : (zl_at T n j).1 = 0
        · have := zl_tok_0 (b := zl_bs T n j) c0
          unfold zl_at; omega
        · exact (hkd.2.2.2.1 (fun z => z.elim c0 q3)).2
      refine ⟨0, h, g', rfl, rfl, by decide, L.1, zfr_trans (zfr_w L.2.1 (by decide) (by decide) (by decide)) (zfr_w fg (by decide) (by decide) (by decide)), fun _ => ⟨zt_n 0 0 0 u, LM, s, m, ⟨W, u, rfl, by have := zk_place L; omega⟩, by rw [zg_c_n (by decide)]; omega, L.2.2.2.1.2.2.2.2.2.1, by omega, ?_, (fg.1 _ _ (by decide)).trans x4, by omega, ?_, zn_fr fg (by decide) (by decide) (by decide) q9, q10, by omega⟩, fun z => absurd rfl z⟩
      · exact zt_Cm (fun i hi => by omega) (zt_Cp (ip := 0) (by decide) (by omega) c1 c2 c3 c4 c5)
      · refine zo_Mk (List.prefix_refl _) (fun i hi => ?_) H
        exact ⟨congrFun (fg.2.1 _ (by decide)) i, congrFun (fg.2.1 _ (by decide)) i, congrFun (fg.2.1 _ (by decide)) i, congrFun (fg.2.1 _ (by decide)) i, congrFun (fg.2.1 _ (by decide)) i, congrFun (fg.2.1 _ (by decide)) i, congrFun (fg.2.1 _ (by decide)) i⟩
    · rw [if_neg t6, if_neg (fun z => t6 (k0.mp z)), if_pos hf]
      obtain ⟨x, h2, g2, e3, e4, G⟩ := zk_block (b := 0) L (by omega) (by omega) (by omega)
      rw [e3, zo_B, show f_Mo_readBlock g 0 = some g2 from e4, Option.bind_some]
      rcases G with ⟨⟨t, LM2, j2, s2, m2', a, ⟨r0, r0c⟩, r1, r2, r3, r4, r5, r6, r7, r8, r9, r10, r11, r12, r13⟩, jj, g1', g2', g3'⟩ | ⟨vx, φ, w, mz, y1, y2, z1, z2⟩
      · have bK2 := zk_bK r2
        have ejj : jj = j2 := (nI_eq (by omega) (by omega)).mp (g1'.symm.trans r2.2.2.2.1.2.1)
        subst ejj
        have hln : zt_ln t = 1 := by obtain ⟨_, _, _, _, et, _⟩ := r0; rw [et]; rfl
        obtain ⟨k1, k2, k3, k4, k5⟩ := r12 0 (by omega)
        have c5' : zt_C h2 u (fun i => 0 < i ∧ i < s) ((h2.2.1 17) 0) y := by rw [k4]; exact zt_Ck r12 (fun i hi => hi.2) c5
        subst r8
        obtain ⟨h3, e5, e6, e7, f7⟩ := zq_hangC (ip := 0) (a := a) (by omega) (fun i hi => by omega) c5' r11 (fun i hi z => by omega) (by omega) (by omega) (by omega)
        rw [show f_Tr_hang h2 0 y (nI a) = some (nI a, h3) from e5, zo_B, nI_1]
        obtain ⟨⟨l0, l1, l2, l3, l4, l5⟩, M2⟩ := r13 (fun i => 0 < i ∧ i < m) u (fun i hi => hi) m6
        obtain ⟨d1, d2, d3, d4, d5⟩ := e7 0
        refine ih (N + 2) (N' + 2) (c := c + 1) (y := nI a) (u := zt_ap u t) (LM := LM2) (j := jj) (s := s2) (m := m2') ⟨zk_cf r2 f7 (by decide), ⟨d1.trans (k1.trans c1), d2.trans (k2.trans c2), d3.trans (k3.trans c3), (d5 (by omega)).trans (k5.trans c4), zt_Cm (fun i hi => by omega) e6⟩, ⟨l1.trans m1, l2.trans m2, l3.trans m3, l4.trans m4, l5.trans m5, zt_Mm (fun i hi => by omega) M2⟩, ⟨zg_U1 w1 r0 (by decide), by rw [zt_ln_ap, hln]; omega⟩, by rw [zg_c_ap]; omega, by omega⟩ (by omega) (by omega) (by omega) (by omega) (Or.inr ⟨a, by omega, rfl⟩)
      · obtain ⟨⟨xa, ha⟩, ea, va, za⟩ := zz_hang z1 (x1 := 0) ⟨0, by decide, rfl⟩ vy vx
        rw [ea, zo_B, nI_1]
        obtain ⟨⟨xb, hb⟩, eb, vb, zb⟩ := zz_parseL (N := N) (c := c + 1) za (Or.inr va) (by omega)
        obtain ⟨gb, ec, wb, fb⟩ := zxb_rt (N := N' + 1) (x := 0) z2
        have vb : xb = nI φ := vb
        subst vb
        obtain ⟨zz, zf, zp⟩ := zb
        have hφ := zz.2.2.2.1
        have hφ2 := zz.2.2.2.2.1
        refine ⟨φ, hb, gb, eb, ec, hφ2, zz.1, zfr_trans (zfr_w z2.1 (by decide) (by decide) (by decide)) (zfr_w fb (by decide) (by decide) (by decide)), fun z => by omega, fun _ => zp.trans wb.symm⟩
/-- a text is read -/
theorem zk_parse (HS : zq_S h T n K LC) (HX : zl_X g T n) : ∃ φ h' g', f_Ps_parse h = some (nI φ, h') ∧ f_Mo_readText g = some (nI φ, g') ∧ φ < 1000 ∧ zq_f h h' ∧ zfr zx_fs2 zx_ms2 [] g g' ∧ (φ = 0 → ∃ t LM s m, zk_TX LC LM t s m h' g') ∧ (¬ φ = 0 → (h'.1 19 0) = (g'.1 68 11)) := by
  have hT := HS.2.2.2.2.2.2.2.2.1
  have hn := HS.2.2.1
  have hKn := HS.2.1
  have hF0 : zl_F (zl_at T n 0) := zl_Ftok hT
  have hck := (zl_ckA hF0).2.2.2.2.2.2.2.2.1
  obtain ⟨t1, t2, t3, t4⟩ := HS.1.1 0 (by omega)
  unfold f_Ps_parse f_Mo_readText
  obtain ⟨h1, hh1⟩ : ∃ h1, h1 = zs_uF (zs_uF (zs_uF (zs_uF (zs_uF (zs_uF h 19 3 0) 19 4 0) 19 5 (h.2.1 9 0)) 19 6 (h.2.1 10 0)) 19 7 0) 12 6 0 := ⟨_, rfl⟩
  obtain ⟨g1, hg1⟩ : ∃ g1, g1 = zs_uF (zs_uF (zs_uF (zs_uF (zs_uF (zs_uF (zs_uF (zs_uF (zs_uF g 68 10 0) 68 11 (-1)) 68 14 0) 68 3 0) 68 25 0) 68 13 0) 68 12 0) 68 8 0) 68 22 0 := ⟨_, rfl⟩
  rw [← hh1, ← hg1]
  have fh1 : zq_f h h1 := by rw [hh1]; exact zfr_F (by decide) (zfr_F (by decide) (zfr_F (by decide) (zfr_F (by decide) (zfr_F (by decide) (zfr_F (by decide) zfr_rfl)))))
  have fg1 : zfr zx_fs2 zx_ms2 [] g g1 := by rw [hg1]; exact zfr_F (by decide) (zfr_F (by decide) (zfr_F (by decide) (zfr_F (by decide) (zfr_F (by decide) (zfr_F (by decide) (zfr_F (by decide) (zfr_F (by decide) (zfr_F (by decide) zfr_rfl))))))))
  obtain ⟨h3, e1, qA⟩ := zq_add (h := h1) (s := 0) (kd := 0) (p := 0) (v := 0) (by rw [hh1]; rfl) (by decide) (by decide) (by decide)
  rw [show f_Tr_add h1 0 0 0 = some (nI 0, h3) from e1, zo_B]
  have fh3 : zq_f h h3 := zfr_trans fh1 (zfr_w qA.2.2.2.2.2.2 (by decide) (by decide) (by decide))
  have HS3 := zq_S_f fh3 HS
  have ff := qA.2.2.2.2.2.2
  have a1 : (h3.1 19 3) = 0 := (ff.1 _ _ (by decide)).trans (by rw [hh1]; rfl)
  have a2 : (h3.1 19 4) = nI 0 := (ff.1 _ _ (by decide)).trans (by rw [hh1]; rfl)
  have a3 : (h3.1 19 5) = nI (zl_ck (zl_at T n 0)) := (ff.1 _ _ (by decide)).trans ((by rw [hh1]; rfl : (h1.1 19 5) = h.2.1 9 0).trans t1)
  have a4 : (h3.1 19 6) = nI (zl_at T n 0).2.1 := (ff.1 _ _ (by decide)).trans ((by rw [hh1]; rfl : (h1.1 19 6) = h.2.1 10 0).trans t2)
  have a5 : (h3.1 19 7) = nI 0 := (ff.1 _ _ (by decide)).trans (by rw [hh1]; rfl)
  have HX1 : zl_X g1 T n := by
    refine ⟨(fg1.1 _ _ (by decide)).trans HX.1, HX.2.1, fun i hi => ?_⟩
    rw [fg1.2.1 _ (by decide)]; exact HX.2.2 i hi
  have HM1 : zn_M g1 [] := ⟨by rw [hg1]; rfl, by decide, fun k hk => absurd hk (Nat.not_lt_zero k)⟩
  obtain ⟨g2, e2, q1, q2, q3⟩ := zl_next HX1 hT (b := 0) (by rw [hg1]; rfl) (Nat.zero_le n) HM1 (by decide)
  rw [e2, Option.bind_some]
  have eat : zl_tok T n 0 = zl_at T n 0 := rfl
  rw [eat] at q2 q3
  have hX2 : zl_X g2 T n := by
    refine ⟨(q1.1 _ _ (by decide)).trans HX1.1, HX1.2.1, fun i hi => ?_⟩
    rw [q1.2.1 _ (by decide)]; exact HX1.2.2 i hi
  have md2 : (g2.1 68 14) = nI 0 := (q1.1 _ _ (by decide)).trans (by rw [hg1]; rfl)
  obtain ⟨g3, e3, qN⟩ := zx_node (g := g2) (m := 0) (kd := 0) (p := 0) (v := 0) (kn := 0) md2 (by decide) rfl
  rw [e3, zo_B]
  have hW3 : zx_W g3 1 := zx_W_N (m := 0) (fun i hi => absurd hi (Nat.not_lt_zero i)) qN
  obtain ⟨p1, p2, p3, p4, p5, p6, p7, p8, p9⟩ := qN
  have f13 : zx_f g1 g3 := zfr_trans (zfr_w q1 (by decide) (by decide) (by decide)) (zfr_w p9 (by decide) (by decide) (by decide))
  have hX3 : zl_X g3 T n := by
    refine ⟨(p9.1 _ _ (by decide)).trans hX2.1, hX2.2.1, fun i hi => ?_⟩
    rw [p9.2.1 _ (by decide)]; exact hX2.2.2 i hi
  have ft1 : (g1.1 68 10) = 0 := by rw [hg1]; rfl
  rw [show (nI 0 : Int32) = 0 from rfl]
  by_cases c9 : (zl_at T n 0).1 = 9
  · have hK0 : K = 0 := by
      refine Nat.le_zero.mp (Nat.le_of_not_lt fun z => ?_)
      exact HS.2.2.2.1 0 z (Or.inr c9)
    obtain ⟨y1, y2, y3, b', y4, y5, y6⟩ := q2 c9
    obtain ⟨y7, y8⟩ := y1 ft1
    have hv := hF0.2.2.2 c9
    have Z1 : zq_Z h T n K LC (zl_at T n 0).2.2.2 (zl_at T n 0).2.1 h3 := by
      refine ⟨fh3, HS3, Or.inr ⟨a1, ?_, by rw [a2, hK0], a4, by rw [hK0]; exact c9, by rw [hK0]⟩, hv.1, by omega, 1, qA.1, by decide⟩
      rw [a3, ((zl_ckA hF0).2.2.2.2.1).mpr c9]; rfl
    have Z2 : zx_B g1 T n (zl_at T n 0).2.2.2 (zl_at T n 0).2.1 1 0 g3 := by
      refine ⟨f13, hX3, hn, hT, (p9.1 _ _ (by decide)).trans y7, (p9.1 _ _ (by decide)).trans y8, ⟨hv.1, by omega⟩, ⟨[], b', zn_fr p9 (by decide) (by decide) (by decide) y3, (p9.1 _ _ (by decide)).trans y4, y5, by show 2 * 0 ≤ b' + 1; omega, Or.inl (by show 2 * 0 ≤ b'; omega)⟩, p1, hW3, 0, ?_, Nat.le_refl 0⟩
      rw [p9.1 _ _ (by decide), q1.1 _ _ (by decide), hg1]; rfl
    obtain ⟨⟨xb, hb⟩, eb, vb, zb⟩ := zz_parseL (N := 18446744073709551614) (c := 0) Z1 zq_vl_n (by decide)
    obtain ⟨gb, ec, wb, fb⟩ := zxb_rt (N := 18446744073709551615) (x := 0) Z2
    have vb : xb = nI (zl_at T n 0).2.2.2 := vb
    subst vb
    obtain ⟨zz, zf, zp⟩ := zb
    exact ⟨(zl_at T n 0).2.2.2, hb, gb, eb, ec, by omega, zz.1, zfr_trans fg1 (zfr_trans (zfr_w f13 (by decide) (by decide) (by decide)) (zfr_w fb (by decide) (by decide) (by decide))), fun z => by omega, fun _ => zp.trans wb.symm⟩
  · obtain ⟨y1, y2, y3, y4, y5, y6, y7⟩ := q3 c9
    have hbb : ∀ LM : List (List Int32), LM.length ≤ (if (zl_at T n 0).1 = 1 then 1 else 0) → zl_J T n (zl_at T n 0).2.2.1 LM.length := by
      intro LM hl
      by_cases c1 : (zl_at T n 0).1 = 1
      · have := zl_J_nm (T := T) (n := n) (b := 0) (c := 0) hT (Nat.zero_le n) ⟨by omega, Or.inl (by omega)⟩ c1
        rw [if_pos c1] at hl
        by_cases c2 : LM.length = 1
        · rw [c2]; exact this
        · have : LM.length = 0 := by omega
          rw [this]; exact ⟨by omega, Or.inl (by omega)⟩
      · rw [if_neg c1] at hl
        have : LM.length = 0 := by omega
        rw [this]; exact ⟨by omega, Or.inl (by omega)⟩
    have mk : ∀ LM : List (List Int32), zn_M g2 LM → LM.Nodup → LM.length ≤ (if (zl_at T n 0).1 = 1 then 1 else 0) → ((zl_at T n 0).1 = 1 → (g2.1 68 9) = nI (LM.idxOf (zl_cn T n 0)) ∧ zl_cn T n 0 ∈ LM) → (¬ (zl_at T n 0).1 = 1 → ¬ (zl_at T n 0).1 = 0 → (g2.1 68 9) = nI (zl_at T n 0).2.2.2) → zk_L h g1 T n K LC h3 g3 LM 0 0 1 1 0 0 := by
      intro LM w1 w2 w3 w4 w5
      refine ⟨fh3, f13, HS3, ⟨a1, a2, a3, a4, a5, qA.1, by decide⟩, Nat.zero_le K, hX3, (p9.1 _ _ (by decide)).trans (y1.trans ft1), c9, (p9.1 _ _ (by decide)).trans y3, (p9.1 _ _ (by decide)).trans y4, (p9.1 _ _ (by decide)).trans y5, fun z => ⟨(p9.1 _ _ (by decide)).trans (w4 z).1, (w4 z).2⟩, fun z y => (p9.1 _ _ (by decide)).trans (w5 z y), zn_fr p9 (by decide) (by decide) (by decide) w1, w2, hbb LM w3, ?_, by decide, p1, hW3, ?_, ?_⟩
      · rw [p9.1 _ _ (by decide), q1.1 _ _ (by decide), hg1]; rfl
      · rw [p9.1 _ _ (by decide), q1.1 _ _ (by decide), hg1]; rfl
      · rw [p9.1 _ _ (by decide), q1.1 _ _ (by decide), hg1]; rfl
    have L : ∃ LM, zk_L h g1 T n K LC h3 g3 LM 0 0 1 1 0 0 := by
      by_cases c1 : (zl_at T n 0).1 = 1
      · obtain ⟨u1, u2⟩ := y6 c1
        have ecn : zl_nm T n (zl_at T n 0).2.1 (zl_at T n 0).2.2.1 = zl_cn T n 0 := rfl
        rw [ecn, if_neg (List.not_mem_nil)] at u2
        rw [ecn] at u1
        refine ⟨[zl_cn T n 0], mk _ u2 (List.nodup_cons.mpr ⟨List.not_mem_nil, List.nodup_nil⟩) (by rw [if_pos c1]; exact Nat.le_refl 1) (fun _ => ⟨?_, List.mem_singleton.mpr rfl⟩) (fun z => absurd c1 z)⟩
        rw [u1]
        have := zl_idxn (L := []) (c := zl_cn T n 0) List.not_mem_nil
        rw [show ([] : List (List Int32)) ++ [zl_cn T n 0] = [zl_cn T n 0] from rfl] at this
        rw [this]
      · obtain ⟨u1, u2⟩ := y7 c1
        exact ⟨[], mk [] u1 List.nodup_nil (Nat.zero_le _) (fun z => absurd z c1) (fun _ z => u2 z)⟩
    obtain ⟨LM, L⟩ := L
    obtain ⟨r1, r2, r3, r4, r5, r6, r7⟩ := qA
    have R : zk_R h g1 T n K LC .leaf (-1) LM 0 1 1 h3 g3 := by
      refine ⟨L, ⟨by rw [r2, if_pos rfl]; rfl, by rw [r3, if_pos rfl]; rfl, by rw [r4, if_pos rfl], by rw [r6, if_pos rfl], by rw [r5, if_pos rfl], rfl⟩, ⟨by rw [p2, if_pos rfl]; rfl, by rw [p3, if_pos rfl], by rw [p4, if_pos rfl], by rw [p5, if_pos rfl], by rw [p8, if_pos rfl], by rw [p6, if_pos rfl], by rw [p7, if_pos rfl]⟩, ⟨zg_U0, Nat.zero_le _⟩, Nat.le_refl 0, by omega⟩
    obtain ⟨φ, h', g', e4, e5, e6, e7, e8, e9, e10⟩ := zk_textL (K + 1) zF zF (c := 0) R (by omega) (by have := zF_big; omega) (by have := zF_big; omega) (Nat.le_refl 0) zq_vl_n
    exact ⟨φ, h', g', e4, e5, e6, e7, zfr_trans fg1 e8, e9, e10⟩
end ZF
end
