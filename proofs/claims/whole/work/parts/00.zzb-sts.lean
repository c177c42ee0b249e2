/-! Both readers in step: statements. -/
/-- one statement of the model -/
def zm_stm (ro : zs_H → Int32 → Option zs_H) (g : zs_H) (x : Int32) : Option zs_H := if (g.1 68 6) = 1 then f_Mo_named g x else if (g.1 68 9) = 28 then (zd_B (f_Mo_add g x 20 ((g.1 68 7)) 0) fun _ h3 => f_Mo_next h3) else if (g.1 68 9) = 29 then (zd_B (f_Mo_add g x 21 ((g.1 68 7)) 0) fun _ h3 => f_Mo_next h3) else ro g x
theorem zm_69 {ro : zs_H → Int32 → Option zs_H} {k : zs_H → Int32 → Option zs_H} {g : zs_H} {x : Int32} (hk : (g.1 68 6) = 1 ∨ (g.1 68 6) = 2) : f_Mo_statements_69 ro k g x = (zm_stm ro g x).bind fun h => f_Mo_statements_158 ro k h x := by
  unfold f_Mo_statements_69 zm_stm f_Mo_statements_119 f_Mo_statements_145
  by_cases c1 : (g.1 68 6) = 1
  · rw [if_pos c1, if_pos c1]
  rw [if_neg c1, if_neg c1]
  have c2 : (g.1 68 6) = 2 := hk.resolve_left c1
  rw [if_pos c2]
  by_cases c28 : (g.1 68 9) = 28
  · rw [if_pos c28, if_pos c28, if_pos c2, if_pos c28, zd_Bb]
  rw [if_neg c28, if_neg c28]
  by_cases c29 : (g.1 68 9) = 29
  · rw [if_pos c29, if_pos c29, if_pos c2, if_neg c28, zd_Bb]
  · simp only [if_neg c28, if_neg c29]
section ZBa
variable {h0 g0 h g g1 h' g' : zs_H} {T : Nat → Int32} {n K : Nat} {LC LM LM' LM1 : List (List Int32)} {j d s m o q b kd j' d' s' m' e st D f M0 M : Nat} {p v y : Int32} {u : zt_T} {X : Int32 → zs_H → zs_H → Prop}
/-- EXIT and RETURN -/
theorem zk_lst {b kd : Nat} (H : zk_L h0 g0 T n K LC h g LM j d s m 0 0) (hkd : kd = 20 ∨ kd = 21) (h6 : ¬ (h.1 19 5) = 6) (hs : s ≤ 2 * j + 10) (hm : m ≤ 2 * j + 10) (hb : b < m) : zk_G h0 g0 T n K LC m 20950 0 (zk_T h0 g0 T n K LC LM (zg_T zg_Sx (3 * (60 - d) + 4)) j d s m 0 0 b h g) (f_Ps_statement_141 h (nI kd)) (zd_B (f_Mo_add g (nI b) (nI kd) ((g.1 68 7)) 0) fun _ h3 => f_Mo_next h3) := by
  have bK := zk_bK H
  unfold f_Ps_statement_141
  obtain ⟨h1, g1, e1, e2, I⟩ := zk_I0 H (b := b) (kd := kd) (kc := nI kd) (km := nI kd) (D := 0) (v := 0) (w := 0) (by omega) (by omega) hb (by omega) rfl (by rcases hkd with z | z <;> subst z <;> rfl) (by rw [if_neg (by rcases hkd with z | z <;> subst z <;> decide)])
  rw [e1, e2, zo_B, zo_B]
  have v0 := zk_Iv I
  rw [← zm_bs (A := f_Mo_next g1)]
  refine zk_sN I rfl (by rw [I.1.2.2.2.1.2.2.1, ← H.2.2.2.1.2.2.1]; exact h6) ?_ fun h2 g2 LM2 I2 => ?_
  · intro φ w hz gz z1 z2
    refine zk_Gf (φ := φ) (w := w) ?_ ?_
    · repeat' first
        | with_reducible exact zw_some.mpr ⟨by assumption, by assumption⟩
        | with_reducible exact zw_some.mpr ⟨by assumption, zz_open (by assumption)⟩
        | (rw [zw_B]; with_reducible refine zw_mono (zz_expression (by assumption)) ?_; rintro _ ⟨_, _⟩)
        | (rw [zw_B]; with_reducible refine zw_mono (zz_operand (by assumption)) ?_; rintro _ ⟨_, _⟩)
        | (rw [zw_B]; with_reducible refine zw_mono (zz_statements (by assumption)) ?_; rintro _ ⟨_, _⟩)
        | (rw [zw_bind]; with_reducible refine zw_mono (zz_take (zz_uM (by assumption) (by decide))) ?_; intro _ _)
        | (rw [zw_bind]; with_reducible refine zw_mono (zz_take (by assumption)) ?_; intro _ _)
        | (rw [zw_B]; with_reducible refine zw_mono (zz_constant (by assumption)) ?_; rintro _ ⟨_, _⟩)
        | (rw [zw_B]; with_reducible refine zw_mono (zz_simpleType (by assumption)) ?_; rintro _ ⟨_, _⟩)
        | (rw [zw_B]; with_reducible refine zw_mono (zz_type (by assumption)) ?_; rintro _ ⟨_, _⟩)
        | (rw [zw_B]; with_reducible refine zw_mono (zz_whole (by assumption)) ?_; rintro _ ⟨_, _⟩)
        | (rw [zw_B]; with_reducible refine zw_mono (zz_add (by assumption)) ?_; rintro _ ⟨_, _⟩)
        | (rw [zw_B]; with_reducible refine zw_mono (zz_hang (by assumption) (by assumption) (by first | assumption | exact zq_vl_n | exact zq_vl_v (by assumption)) (by assumption)) ?_; rintro _ ⟨_, _⟩)
        | rw [if_pos (zq_at (by assumption))]
        | rw [zz_isCell (by assumption), if_pos rfl]
        | rw [if_neg (zq_ne (by assumption) (by decide) (by decide))]
        | rw [Option.bind_assoc]
        | rw [Option.bind_some]
        | rw [if_pos (zi_in (by omega) (by omega))]
    · repeat' first
        | (with_reducible refine zw_some.mpr ⟨_, ⟨?_, ?_⟩, by assumption⟩ <;> omega)
        | (with_reducible refine zw_some.mpr ⟨_, ⟨?_, ?_⟩, zx_Om (by assumption) ?_⟩ <;> omega)
        | (with_reducible refine zw_some.mpr ⟨_, ⟨?_, ?_⟩, zx_Om (zx_uF (by assumption) (Or.inl rfl)) ?_⟩ <;> omega)
        | (with_reducible refine zw_mono (zxb_142 (by assumption) (by omega)) ?_; intro _ z; exact ⟨_, by omega, z⟩)
        | (with_reducible refine zw_mono (zxb_142c (by assumption) (by omega)) ?_; intro _ z; exact ⟨_, by omega, z⟩)
        | (rw [zw_bind]; with_reducible refine zw_mono (zxb_body (by assumption)) ?_; intro _ _)
        | (rw [zw_bind]; with_reducible refine zw_mono (zxw_expr4 (by assumption)) ?_; intro _ _)
        | (rw [zw_bind]; with_reducible refine zw_mono (zxw_next2 (by assumption)) ?_; intro _ _)
        | (rw [zw_bind]; with_reducible refine zw_mono (zx_open (by assumption)) ?_; intro _ _)
        | (rw [zw_bind]; with_reducible refine zw_mono (zxw_expression (by assumption)) ?_; intro _ _)
        | (rw [zw_bind]; with_reducible refine zw_mono (zxw_operand (by assumption)) ?_; intro _ _)
        | (rw [zw_bind]; with_reducible refine zw_mono (zxb_keep (by assumption) (by omega)) ?_; intro _ _)
        | (rw [zw_B]; with_reducible refine zw_mono (zxb_node (by assumption) (by omega) rfl) ?_; rintro _ ⟨e1, _⟩; try rw [e1])
        | (rw [zw_bind]; with_reducible refine zw_mono (zxw_wantSign (zxb_uM (by assumption) (by decide))) ?_; intro _ _)
        | (rw [zw_bind]; with_reducible refine zw_mono (zxw_wantSign (by assumption)) ?_; intro _ _)
        | (rw [zw_bind]; with_reducible refine zw_mono (zxw_wantWord (by assumption)) ?_; intro _ _)
        | (rw [zw_bind]; with_reducible refine zw_mono (zxw_want (by assumption)) ?_; intro _ _)
        | (rw [zw_bind]; with_reducible refine zw_mono (zx_next (by assumption)) ?_; intro _ _)
        | (rw [zw_bind]; with_reducible refine zw_mono (zxb_constant (by assumption) (by omega) (by omega)) ?_; intro _ _)
        | (rw [zw_bind]; with_reducible refine zw_mono (zxw_simple (by assumption) (by omega) (by omega)) ?_; rintro _ ⟨_, _, _, _⟩)
        | (rw [zw_B]; with_reducible refine zw_mono (zxb_add (by assumption) (by omega) rfl (by omega)) ?_; rintro _ ⟨e1, _⟩; try rw [e1])
        | rw [zx_isSign (by assumption), if_pos rfl]
        | rw [zx_isWord (by assumption), if_pos rfl]
        | rw [if_neg (zx_ne (by assumption))]
        | rw [if_neg (zx_pos (by assumption))]
        | rw [if_pos (show (0 : Int32) ≤ 0 by decide)]
        | rw [Option.bind_assoc]
        | rw [Option.bind_some]
        | rw [zx_name (by assumption), zo_B]
        | rw [if_pos (zi_in (by omega) (by omega))]
  exact ⟨nI s, h2, g2, rfl, rfl, Or.inl (zk_Tof (zk_TTm (zk_IdT (S := zg_Sx) I2 (by rcases hkd with z | z <;> subst z <;> rfl) (by rcases hkd with z | z <;> subst z <;> exact Or.inl rfl) (by rcases hkd with z | z <;> subst z <;> decide) (by omega) (by omega)) (Nat.le_refl _) (fun t W => zg_Tm W (fun _ z => z) (by omega))) (by omega))⟩
/-- one statement -/
theorem zk_stmt {Dc Dm b : Nat} (SS : d < 60 → zk_SS h0 g0 T n K LC (d + 1)) (H : zk_L h0 g0 T n K LC h g LM j d s m 0 0) (ht : (h.1 19 5) = 8 ∨ (h.1 19 5) = 144 ∨ (h.1 19 5) = 149 ∨ (h.1 19 5) = 151 ∨ (h.1 19 5) = 156 ∨ (h.1 19 5) = 157) (hDc : 3 * (60 - d) + 1 ≤ Dc) (hDm : 4 * (60 - d) + 1 ≤ Dm) (hs : s ≤ 2 * j + 10) (hm : m ≤ 2 * j + 10) (hb : b < m) : ((g.1 68 6) = 1 ∨ (g.1 68 6) = 2) ∧ zk_G h0 g0 T n K LC m 20950 0 (zk_T h0 g0 T n K LC LM (zg_T zg_Sx (3 * (60 - d) + 4)) j d s m 0 0 b h g) (f_Ps_statement (Dc + 2) h) (zm_stm (f_Mo_opened (Dm + 3)) g (nI b)) := by
  obtain ⟨k1, k3, k4, k0⟩ := zk_kind H
  have e01 : ¬ (1 : Int32) = 0 := by decide
  have z0 : (0 : Int32) = 0 := rfl
  rw [zy_pt, zy_pi, zy_pc, zy_pf, zy_xo, zy_xh, zy_xc, zy_xl, zy_xb]
  unfold g_Ps_statement zm_stm g_Mo_opened
  by_cases t8 : (h.1 19 5) = 8
  · have hk := k1.mpr t8
    refine ⟨Or.inl hk, ?_⟩
    have hE := zk_notE H (by rw [t8]; decide)
    obtain ⟨a1, a2, a3⟩ := zk_ahead H hE
    have hF := (zl_ckA (zk_F' H.2.2.1 (j + 1))).2.2.2.2.2.2.2.2.1
    rw [if_pos t8, if_neg a1, if_pos a2, a3, if_pos hk]
    unfold f_Ps_statement_102 f_Ps_statement_103
    by_cases c : zl_ck (zl_at T n (j + 1)) = 40
    · rw [if_pos (show nI (zl_ck (zl_at T n (j + 1))) = 40 by rw [c]; rfl), if_neg e01, zo_Bs]
      exact zk_invoc H t8 c hs hm hb
    · rw [if_neg (fun z => c ((zc_eq (k := 40) (by decide) (by omega)).mp z)), if_pos z0, zo_Bs]
      exact zk_assign H t8 c hs hm hb
  have n1 : ¬ (g.1 68 6) = 1 := fun z => t8 (k1.mp z)
  rw [if_neg t8, if_neg n1]
  by_cases t144 : (h.1 19 5) = 144
  · have kw := (zk_wd H 16 (by decide)).mp t144
    refine ⟨Or.inr kw.1, ?_⟩
    rw [if_pos t144, kw.2, if_neg (show ¬ nI 16 = 28 by decide), if_neg (show ¬ nI 16 = 29 by decide), zo_Bs]
    simp only [if_pos (show nI 16 = 16 from rfl)]
    exact zk_if SS H t144 hDc hDm hs hm hb
  rw [if_neg t144]
  by_cases t149 : (h.1 19 5) = 149
  · have kw := (zk_wd H 21 (by decide)).mp t149
    refine ⟨Or.inr kw.1, ?_⟩
    rw [if_pos t149, kw.2, if_neg (show ¬ nI 21 = 28 by decide), if_neg (show ¬ nI 21 = 29 by decide), zo_Bs]
    simp only [if_neg (show ¬ nI 21 = 16 by decide), if_pos (show nI 21 = 21 from rfl)]
    exact zk_case SS H t149 hDc hDm hs hm hb
  rw [if_neg t149]
  by_cases t151 : (h.1 19 5) = 151
  · have kw := (zk_wd H 23 (by decide)).mp t151
    refine ⟨Or.inr kw.1, ?_⟩
    rw [if_pos t151, kw.2, if_neg (show ¬ nI 23 = 28 by decide), if_neg (show ¬ nI 23 = 29 by decide), zo_Bs]
    simp only [if_neg (show ¬ nI 23 = 16 by decide), if_neg (show ¬ nI 23 = 21 by decide)]
    exact zk_for SS H t151 hDc hDm hs hm hb
  rw [if_neg t151]
  by_cases t156 : (h.1 19 5) = 156
  · have kw := (zk_wd H 28 (by decide)).mp t156
    refine ⟨Or.inr kw.1, ?_⟩
    rw [if_pos t156, kw.2, if_pos (show nI 28 = 28 from rfl)]
    exact zk_lst (kd := 20) H (Or.inl rfl) (by rw [t156]; decide) hs hm hb
  have t157 : (h.1 19 5) = 157 := by
    rcases ht with z | z | z | z | z | z
    · exact absurd z t8
    · exact absurd z t144
    · exact absurd z t149
    · exact absurd z t151
    · exact absurd z t156
    · exact z
  have kw := (zk_wd H 29 (by decide)).mp t157
  refine ⟨Or.inr kw.1, ?_⟩
  rw [if_neg t156, kw.2, if_neg (show ¬ nI 29 = 28 by decide), if_pos (show nI 29 = 29 from rfl)]
  exact zk_lst (kd := 21) H (Or.inr rfl) (by rw [t157]; decide) hs hm hb
/-- which token begins a statement, in the model -/
theorem zk_st0 {ro : zs_H → Int32 → Option zs_H} {k : zs_H → Int32 → Option zs_H} {x : Int32} (H : zk_L h0 g0 T n K LC h g LM j d s m o q) : f_Mo_statements_0 ro k g x = if f_Ps_isStatement h = 0 then some g else f_Mo_statements_69 ro k g x := by
  obtain ⟨k1, k3, k4, k0⟩ := zk_kind H
  have e01 : ¬ (1 : Int32) = 0 := by decide
  have z0 : (0 : Int32) = 0 := rfl
  unfold f_Mo_statements_0 f_Ps_isStatement
  rw [if_pos H.2.2.2.2.2.2.1, show f_Mo_isSign g 59 = if (h.1 19 5) = nI 59 then 1 else 0 from zk_sign H (c := 59) (k := 59) (by decide), show f_Mo_isWord g 16 = if (h.1 19 5) = nI 144 then 1 else 0 from zk_word H (c := 16) (by decide), show f_Mo_isWord g 21 = if (h.1 19 5) = nI 149 then 1 else 0 from zk_word H (c := 21) (by decide), show f_Mo_isWord g 23 = if (h.1 19 5) = nI 151 then 1 else 0 from zk_word H (c := 23) (by decide), show f_Mo_isWord g 28 = if (h.1 19 5) = nI 156 then 1 else 0 from zk_word H (c := 28) (by decide), show f_Mo_isWord g 29 = if (h.1 19 5) = nI 157 then 1 else 0 from zk_word H (c := 29) (by decide)]
  by_cases t8 : (h.1 19 5) = 8
  · rw [if_pos (k1.mpr t8), if_neg (show ¬ (h.1 19 5) = 59 by rw [t8]; decide), if_pos t8, if_neg e01]
  rw [if_neg (fun z => t8 (k1.mp z)), if_neg t8]
  by_cases a : (h.1 19 5) = 59
  · rw [if_pos a, if_pos (show (h.1 19 5) = nI 59 from a), if_neg e01, if_neg e01]
  rw [if_neg a, if_neg (show ¬ (h.1 19 5) = nI 59 from a), if_pos z0]
  by_cases b : (h.1 19 5) = 144
  · rw [if_pos b, if_pos (show (h.1 19 5) = nI 144 from b), if_neg e01, if_neg e01]
  rw [if_neg b, if_neg (show ¬ (h.1 19 5) = nI 144 from b), if_pos z0]
  by_cases c : (h.1 19 5) = 149
  · rw [if_pos c, if_pos (show (h.1 19 5) = nI 149 from c), if_neg e01, if_neg e01]
  rw [if_neg c, if_neg (show ¬ (h.1 19 5) = nI 149 from c), if_pos z0]
  by_cases d : (h.1 19 5) = 151
  · rw [if_pos d, if_pos (show (h.1 19 5) = nI 151 from d), if_neg e01, if_neg e01]
  rw [if_neg d, if_neg (show ¬ (h.1 19 5) = nI 151 from d), if_pos z0]
  by_cases e : (h.1 19 5) = 156
  · rw [if_pos e, if_pos (show (h.1 19 5) = nI 156 from e), if_neg e01, if_neg e01]
  rw [if_neg e, if_neg (show ¬ (h.1 19 5) = nI 156 from e), if_pos z0]
  by_cases f : (h.1 19 5) = 157
  · rw [if_pos f, if_pos (show (h.1 19 5) = nI 157 from f), if_neg e01]
  · rw [if_neg f, if_neg (show ¬ (h.1 19 5) = nI 157 from f), if_pos z0]
/-- one statement behind the other -/
theorem zk_stL {Dc Dm : Nat} (SS : d < 60 → zk_SS h0 g0 T n K LC (d + 1)) (hDc : 3 * (60 - d) + 1 ≤ Dc) (hDm : 4 * (60 - d) + 1 ≤ Dm) (hs : s ≤ 2 * j + 9) (hm : m ≤ 2 * j + 9) : ∀ (r N N' : Nat) {c : Nat} {y : Int32} {u : zt_T} {LM' : List (List Int32)} {j' s' m' e f : Nat} {h' g' : zs_H}, zk_I h0 g0 T n K LC LM j s m 0 0 b 11 p 0 h g g1 u y LM' j' d s' m' e 0 (3 * (60 - d) + 4) f h' g' → K < j' + r → r + 1 ≤ N → r + 1 ≤ N' → c ≤ j' → zq_vl y → 1 ≤ f → zk_G h0 g0 T n K LC m 20950 0 (zk_TT h0 g0 T n K LC LM (zg_T [11] (3 * (60 - d) + 5)) 0 j d s m 0 0 b h g) (f_Ps_statements_L19 (f_Ps_statement (Dc + 2)) N h' (nI s) y (nI c)) (f_Mo_statements_L0 (f_Mo_opened (Dm + 3)) N' g' (nI m)) := by
  intro r
  induction r with
  | zero => intro N N' c y u LM' j' s' m' e f h' g' I hr; have := zk_Ib I; omega
  | succ r ih =>
    intro N N' c y u LM' j' s' m' e f h' g' I hr hN hN' hc vy hf
    have v0 := zk_Iv I
    have b1 := zk_Ib I
    have e01 : ¬ (1 : Int32) = 0 := by decide
    obtain ⟨N, rfl⟩ : ∃ z, N = z + 2 := ⟨N - 2, by omega⟩
    obtain ⟨N', rfl⟩ : ∃ z, N' = z + 2 := ⟨N' - 2, by omega⟩
    show zk_G _ _ _ _ _ _ _ _ _ _ (f_Ps_statements_19 (f_Ps_statement (Dc + 2)) (f_Ps_statements_L19 (f_Ps_statement (Dc + 2)) (N + 1)) h' (nI s) y (nI c)) (f_Mo_statements_0 (f_Mo_opened (Dm + 3)) (f_Mo_statements_L0 (f_Mo_opened (Dm + 3)) (N' + 1)) g' (nI m))
    rw [zk_st0 I.1]
    unfold f_Ps_statements_19
    rw [if_neg (mt (zc_le (k := 16384) (t := c) (by decide) (by omega)).mp (by omega))]
    have badT : ∀ φ w hz gz m2 x2, m ≤ m2 → m2 ≤ 20950 → zq_Z h0 T n K LC φ w hz → zx_B g0 T n φ w m2 0 gz → zk_G h0 g0 T n K LC m 20950 0 (zk_TT h0 g0 T n K LC LM (zg_T [11] (3 * (60 - d) + 5)) 0 j d s m 0 0 b h g) (f_Ps_statements_L19 (f_Ps_statement (Dc + 2)) (N + 1) hz (nI s) x2 (nI c + 1)) (f_Mo_statements_L0 (f_Mo_opened (Dm + 3)) (N' + 1) gz (nI m)) := by
      intro φ w hz gz m2 x2 q1 q2 z1 z2
      refine zk_Gf (φ := φ) (w := w) (zz_stL z1 v0) ?_
      rw [zxb_stL z2, zw_some]
      exact ⟨m2, by omega, z2⟩
    by_cases cs : f_Ps_isStatement h' = 0
    · rw [if_pos cs, if_pos cs]
      exact ⟨nI s, h', g', rfl, rfl, Or.inl (zk_TTm (zk_IdT (S := [11]) I rfl (Or.inl rfl) (by decide) hf (by decide)) (by omega) (fun _ z => z))⟩
    rw [if_neg cs, if_neg cs]
    by_cases t59 : (h'.1 19 5) = 59
    · rw [if_pos t59]
      have sg := zk_sgv I.1 (c := 59) (k := 59) (by decide) t59
      have em : f_Mo_statements_69 (f_Mo_opened (Dm + 3)) (f_Mo_statements_L0 (f_Mo_opened (Dm + 3)) (N' + 1)) g' (nI m) = f_Mo_statements_158 (f_Mo_opened (Dm + 3)) (f_Mo_statements_L0 (f_Mo_opened (Dm + 3)) (N' + 1)) g' (nI m) := by
        unfold f_Mo_statements_69 f_Mo_statements_119
        rw [if_neg (show ¬ (g'.1 68 6) = 1 by rw [sg.1]; decide), if_neg (show ¬ (g'.1 68 6) = 2 by rw [sg.1]; decide), if_neg (show ¬ (g'.1 68 6) = 2 by rw [sg.1]; decide)]
      rw [em]
      unfold f_Ps_statements_56 f_Mo_statements_158
      refine zk_sA I (zk_wantS I.1 (c := 59) (k := 59) (by decide) (by decide)) ?_ fun h3 g3 LM3 I3 => ?_
      · intro φ w hz gz z1 z2
        exact badT φ w hz gz _ _ (by omega) (by omega) z1 z2
      rw [nI_1]
      exact ih (N + 1) (N' + 1) (c := c + 1) I3 (by omega) (by omega) (by omega) (by omega) vy (by omega)
    · rw [if_neg t59]
      have ht : (h'.1 19 5) = 8 ∨ (h'.1 19 5) = 144 ∨ (h'.1 19 5) = 149 ∨ (h'.1 19 5) = 151 ∨ (h'.1 19 5) = 156 ∨ (h'.1 19 5) = 157 := by
        by_cases a8 : (h'.1 19 5) = 8
        · exact Or.inl a8
        by_cases a1 : (h'.1 19 5) = 144
        · exact Or.inr (Or.inl a1)
        by_cases a2 : (h'.1 19 5) = 149
        · exact Or.inr (Or.inr (Or.inl a2))
        by_cases a3 : (h'.1 19 5) = 151
        · exact Or.inr (Or.inr (Or.inr (Or.inl a3)))
        by_cases a4 : (h'.1 19 5) = 156
        · exact Or.inr (Or.inr (Or.inr (Or.inr (Or.inl a4))))
        by_cases a5 : (h'.1 19 5) = 157
        · exact Or.inr (Or.inr (Or.inr (Or.inr (Or.inr a5))))
        exfalso
        apply cs
        unfold f_Ps_isStatement
        rw [if_neg t59, if_neg a8, if_neg a1, if_neg a2, if_neg a3, if_neg a4, if_neg a5]
      obtain ⟨hk, G⟩ := zk_stmt (b := m) SS I.1 ht hDc hDm (by omega) (by omega) (by omega)
      rw [zm_69 hk]
      refine zk_sK2 (e2 := 1) (e3 := e) (S := zg_Sx) (st' := 0) I (zk_GM G (Nat.le_refl _) (Nat.le_refl 20950) (fun x h g R => zk_TTof R)) (by decide) (by omega) ?_ fun x3 h3 g3 u3 LM3 j3 s3 m3 vx3 hj3 I3 => ?_
      · intro φ w mz xz hz gz w1 w2 vz z1 z2
        obtain ⟨⟨x4, h4⟩, e4, v4, z4⟩ := zz_hang z1 v0 vy vz
        rw [e4, zo_B]
        unfold f_Ps_statements_56 f_Mo_statements_158
        obtain ⟨h5, e5, z5⟩ := zz_take (x := 59) z4
        rw [e5, zx_wantSign z2, Option.bind_some, Option.bind_some]
        exact badT φ w h5 gz _ _ (by omega) (by omega) z5 z2
      have b3 := zk_Ib I3
      unfold f_Ps_statements_56 f_Mo_statements_158
      refine zk_sA I3 (zk_wantS I3.1 (c := 59) (k := 59) (by decide) (by decide)) ?_ fun h4 g4 LM4 I4 => ?_
      · intro φ w hz gz z1 z2
        exact badT φ w hz gz _ _ (by omega) (by omega) z1 z2
      rw [nI_1]
      exact ih (N + 1) (N' + 1) (c := c + 1) I4 (by omega) (by omega) (by omega) (by omega) (zq_vl_v vx3) (by omega)
theorem zk_SSof {d0 : Nat} (SS : zk_SS h0 g0 T n K LC (d0 + 1)) : zk_SS h0 g0 T n K LC d0 := by
  intro h g LM j d s m D D' b p H h1 h2 h3 h4 h5 h6
  have bK := zk_bK H
  obtain ⟨D, rfl⟩ : ∃ z, D = z + 3 := ⟨D - 3, by omega⟩
  obtain ⟨D', rfl⟩ : ∃ z, D' = z + 4 := ⟨D' - 4, by omega⟩
  obtain ⟨ha, ga, e1, e2, I⟩ := zk_I0b H (b := b) (D := 3 * (60 - d) + 4) (p := p) (by omega) (by omega) h6
  rw [zy_ps, zy_xs]
  unfold g_Ps_statements g_Mo_statements
  rw [e1, e2, zo_B, zo_B, zm_bs]
  exact zk_stL (fun _ => zk_SSm (by omega) SS) (by omega) (by omega) h4 h5 (K + 1) zF zF (c := 0) I (by omega) (by have := zF_big; omega) (by have := zF_big; omega) (by omega) zq_vl_n (by omega)
theorem zk_SSall : ∀ w d0, 61 ≤ d0 + w → zk_SS h0 g0 T n K LC d0 := by
  intro w
  induction w with
  | zero =>
    intro d0 hd h g LM j d s m D D' b p H h1
    have := (zk_dd H).2.2.1
    omega
  | succ w ih => intro d0 hd; exact zk_SSof (ih (d0 + 1) (by omega))
end ZBa
