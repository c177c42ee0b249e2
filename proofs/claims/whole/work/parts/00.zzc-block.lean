/-! Both readers in step: blocks. -/
section ZCz
variable {h0 g0 h g : zs_H} {T : Nat → Int32} {n K φ w m O : Nat} {LC : List (List Int32)}
theorem zz_isSection (H : zq_Z h0 T n K LC φ w h) : f_Ps_isSection h = 0 := by
  unfold f_Ps_isSection
  rw [if_pos (by rcases zq_tk H with z | z <;> rw [z] <;> decide)]
theorem zz_b156 {x1 x3 x4 : Int32} (H : zq_Z h0 T n K LC φ w h) (v3 : zq_v x3) (v4 : zq_vl x4) : zw (f_Ps_block_156 h x1 x3 x4) (fun p => zq_v p.1 ∧ zq_Z h0 T n K LC φ w p.2) := by
  unfold f_Ps_block_156 f_Ps_block_184
  rw [if_neg (zq_ne H (by decide) (by decide)), zw_B]
  refine zw_mono (zz_statements (d := 399) H) ?_
  rintro ⟨xa, ha⟩ ⟨va, za⟩
  repeat' first
    | with_reducible exact zw_some.mpr ⟨by assumption, by assumption⟩
    | with_reducible exact zw_some.mpr ⟨by assumption, zz_open (by assumption)⟩
    | (rw [zw_B]; with_reducible refine zw_mono (zz_expression (by assumption)) ?_; rintro _ ⟨_, _⟩)
    | (rw [zw_B]; with_reducible refine zw_mono (zz_operand (by assumption)) ?_; rintro _ ⟨_, _⟩)
    | (rw [zw_B]; with_reducible refine zw_mono (zz_statements (by assumption)) ?_; rintro _ ⟨_, _⟩)
    | (rw [zw_bind]; with_reducible refine zw_mono (zz_take (zz_uM (by assumption) (by decide))) ?_; intro _ _)
    | (rw [zw_bind]; with_reducible refine zw_mono (zz_take (by assumption)) ?_; intro _ _)
    | (rw [zw_B]; with_reducible refine zw_mono (zz_constant (by assumption)) ?_; rintro _ ⟨_, _⟩)
    | (rw [zw_B]; with_reducible refine zw_mono (zz_simpleType (by assumption)) ?_; rintro _ ⟨_, _⟩)
    | (rw [zw_B]; with_reducible refine zw_mono (zz_type (by assumption)) ?_; rintro _ ⟨_, _⟩)
    | (rw [zw_B]; with_reducible refine zw_mono (zz_whole (by assumption)) ?_; rintro _ ⟨_, _⟩)
    | (rw [zw_B]; with_reducible refine zw_mono (zz_add (by assumption)) ?_; rintro _ ⟨_, _⟩)
    | (rw [zw_B]; with_reducible refine zw_mono (zz_hang (by assumption) (by assumption) (by first | assumption | exact zq_vl_n | exact zq_vl_v (by assumption)) (by assumption)) ?_; rintro _ ⟨_, _⟩)
    | rw [if_pos (zq_at (by assumption))]
    | rw [zz_isCell (by assumption), if_pos rfl]
    | rw [if_neg (zq_ne (by assumption) (by decide) (by decide))]
    | rw [Option.bind_assoc]
    | rw [Option.bind_some]
    | rw [if_pos (zi_in (by omega) (by omega))]
theorem zz_b119 {N : Nat} {x1 x3 x4 x5 : Int32} (H : zq_Z h0 T n K LC φ w h) (v3 : zq_v x3) (v4 : zq_vl x4) : zw (f_Ps_block_L119 (N + 1) h x1 x3 x4 x5) (fun p => zq_v p.1 ∧ zq_Z h0 T n K LC φ w p.2) := by
  show zw (f_Ps_block_119 (f_Ps_block_L119 N) h x1 x3 x4 x5) _
  unfold f_Ps_block_119
  rw [zz_isSection H, if_pos (show (0 : Int32) = 0 from rfl)]
  split <;> exact zz_b156 H v3 v4
theorem zxb_st4 {x : Int32} (H : zx_B g0 T n φ w m O g) : f_Mo_statements 400 g x = some g := by
  rw [show (400 : Nat) = 399 + 1 from rfl, zy_xs]
  unfold g_Mo_statements
  rw [show zF = 18446744073709551615 + 1 from rfl, zxb_stL H]
theorem zxb_b106 {N a : Nat} {x2 x4 : Int32} (H : zx_B g0 T n φ w m O g) (hm : m < 33500) (ha : a < m) : zw (f_Mo_readBlock_L106 (N + 1) g x2 (nI a) x4) (zx_B g0 T n φ w (m + 1) O) := by
  show zw (f_Mo_readBlock_106 (f_Mo_readBlock_L106 N) g x2 (nI a) x4) _
  unfold f_Mo_readBlock_106 f_Mo_readBlock_226
  rw [zx_isWord H, zx_isWord H, zx_isWord H, zx_isWord H, if_pos rfl, if_pos rfl, if_pos rfl, if_pos rfl]
  obtain ⟨⟨x, g3⟩, e4, e5, z3⟩ := zxb_add (kd := 11) (kn := 11) (p := x4) (v := 0) (b := a) H hm rfl ha
  rw [e4, zo_B, zxb_st4 z3, Option.bind_some, zx_wantWord z3, Option.bind_some, zw_some]
  exact z3
end ZCz
section ZC
variable {h0 g0 h g g1 h' g' : zs_H} {T : Nat → Int32} {n K : Nat} {LC LM LM' LM1 : List (List Int32)} {j d s m o q b kd j' d' s' m' e st D f M0 M : Nat} {p v y : Int32} {u : zt_T} {X : Int32 → zs_H → zs_H → Prop}
theorem zk_isSec (H : zk_L h0 g0 T n K LC h g LM j d s m o q) : (f_Ps_isSection h = 0 ∧ ¬ (h.1 19 5) = nI 134 ∧ ¬ (h.1 19 5) = nI 135 ∧ ¬ (h.1 19 5) = nI 136) ∨ (¬ f_Ps_isSection h = 0 ∧ ∃ c, 6 ≤ c ∧ c ≤ 8 ∧ (h.1 19 5) = nI (128 + c)) := by
  have hF := (zl_ckA (zk_F H)).2.2.2.2.2.2.2.2.1
  unfold f_Ps_isSection
  rw [H.2.2.2.1.2.2.1]
  by_cases c1 : zl_ck (zl_at T n j) < 134
  · rw [if_pos ((zc_tl (k := 134) (by decide) (by omega)).mpr c1)]
    exact Or.inl ⟨rfl, fun z => by have := (nI_eq (by omega) (by omega)).mp z; omega, fun z => by have := (nI_eq (by omega) (by omega)).mp z; omega, fun z => by have := (nI_eq (by omega) (by omega)).mp z; omega⟩
  rw [if_neg (mt (zc_tl (k := 134) (by decide) (by omega)).mp c1)]
  by_cases c2 : 136 < zl_ck (zl_at T n j)
  · rw [if_pos ((zc_lt (k := 136) (by decide) (by omega)).mpr c2)]
    exact Or.inl ⟨rfl, fun z => by have := (nI_eq (by omega) (by omega)).mp z; omega, fun z => by have := (nI_eq (by omega) (by omega)).mp z; omega, fun z => by have := (nI_eq (by omega) (by omega)).mp z; omega⟩
  rw [if_neg (mt (zc_lt (k := 136) (by decide) (by omega)).mp c2)]
  exact Or.inr ⟨by decide, zl_ck (zl_at T n j) - 128, by omega, by omega, by rw [show 128 + (zl_ck (zl_at T n j) - 128) = zl_ck (zl_at T n j) by omega]⟩
def zg_bs (kd : Nat) : Nat := if kd = 1 then 1 else 0
/-- where tokens are: each behind the one before -/
theorem zl_pb {h : zs_H} {T : Nat → Int32} {n K : Nat} {LC : List (List Int32)} (HS : zq_S h T n K LC) : ∀ a b, a < b → b ≤ K → (zl_at T n a).2.2.1 ≤ (zl_at T n b).2.1 ∧ (zl_at T n a).2.1 ≤ (zl_at T n a).2.2.1 := by
  intro a b
  have hT := HS.2.2.2.2.2.2.2.2.1
  have hbs : ∀ j, j ≤ K → zl_kd (zl_at T n j) n (zl_bs T n j) := fun j hj => zl_tok_kd (n := n) (b := zl_bs T n j) hT (zq_bs hT j (fun i hi => HS.2.2.2.1 i (by omega)))
  induction b with
  | zero => intro h; omega
  | succ b ih =>
    intro hab hb
    have h1 := (hbs (b + 1) hb).1
    have h2 := (hbs b (by omega)).2.2.2.1 (HS.2.2.2.1 b (by omega))
    have e : zl_bs T n (b + 1) = (zl_at T n b).2.2.1 := rfl
    by_cases c : a = b
    · subst c; omega
    · have := ih (by omega) (by omega)
      omega
/-- how long a word is -/
theorem zl_wl {h : zs_H} {T : Nat → Int32} {n K a : Nat} {LC : List (List Int32)} (HS : zq_S h T n K LC) (ha : a ≤ K) (h2 : (zl_at T n a).1 = 2) : (zl_at T n a).2.2.1 = (zl_at T n a).2.1 + (zl_W.getD (zl_at T n a).2.2.2 []).length := by
  have hT := HS.2.2.2.2.2.2.2.2.1
  have hkd := zl_tok_kd (n := n) (b := zl_bs T n a) hT (zq_bs hT a (fun i hi => HS.2.2.2.1 i (by omega)))
  have h3 := (hkd.2.2.2.1 (fun z => z.elim (fun w => by have : (zl_at T n a).1 = 0 := w; omega) (fun w => by have : (zl_at T n a).1 = 9 := w; omega))).1
  obtain ⟨t1, t2, t3, t4, t5, t6⟩ := zl_tok_nm (T := T) (n := n) (b := zl_bs T n a) (Or.inr h2)
  have hm := t5.mp h2
  have he := t6 h2
  have hl := List.idxOf_lt_length_of_mem hm
  have e1 : zl_W.getD (zl_at T n a).2.2.2 [] = zl_nm T n (zl_at T n a).2.1 (zl_at T n a).2.2.1 := by
    show zl_W.getD (zl_tok T n (zl_bs T n a)).2.2.2 [] = _
    rw [he, List.getD_eq_getElem?_getD, List.getElem?_eq_getElem hl]
    exact List.getElem_idxOf hl
  rw [e1]
  have e2 : (zl_nm T n (zl_at T n a).2.1 (zl_at T n a).2.2.1).length = (zl_at T n a).2.2.1 - (zl_at T n a).2.1 := zl_nm_len
  have h4 : (zl_at T n a).2.1 < (zl_at T n a).2.2.1 := h3
  omega
/-- a block has been read; it has at least 18 bytes -/
def zk_TB (h0 g0 : zs_H) (T : Nat → Int32) (n K : Nat) (LC LM : List (List Int32)) (j s m b : Nat) (h g : zs_H) (x : Int32) (h' g' : zs_H) : Prop := zk_T h0 g0 T n K LC LM (zg_T [1, 2, 3] 186) j 0 s m 0 0 b h g x h' g' ∧ ∃ jj, (h'.1 19 4) = nI jj ∧ jj ≤ 10240 ∧ (zl_at T n j).2.1 + 18 ≤ (zl_at T n jj).2.1
/-- a block's sections and its body -/
theorem zk_blL {wd : Nat} (hwd : (zl_at T n j).1 = 2 ∧ (zl_at T n j).2.2.2 = wd) (hkd : (kd = 1 ∧ wd = 0) ∨ (kd = 2 ∧ wd = 2) ∨ (kd = 3 ∧ wd = 4)) (hs : s ≤ 2 * j + 10) (hm : m ≤ 2 * j + 10) : ∀ (r N N' : Nat) {c : Nat} {y a : Int32} {u : zt_T} {LM' : List (List Int32)} {j' s' m' e f : Nat} {h' g' : zs_H}, zk_I h0 g0 T n K LC LM j s m 0 0 b kd p v h g g1 u y LM' j' 0 s' m' e (zg_bs kd) 185 f h' g' → K < j' + r → r + 2 ≤ N → r + 2 ≤ N' → c ≤ j' → zq_vl y → 2 ≤ e → 1 ≤ f → j < j' → zk_G h0 g0 T n K LC m 20960 0 (zk_TB h0 g0 T n K LC LM j s m b h g) (f_Ps_block_L119 N h' (nI (128 + wd)) (nI s) y (nI c)) (f_Mo_readBlock_L106 N' g' (nI wd) (nI m) a) := by
  intro r
  induction r with
  | zero => intro N N' c y a u LM' j' s' m' e f h' g' I hr; have := zk_Ib I; omega
  | succ r ih =>
    intro N N' c y a u LM' j' s' m' e f h' g' I hr hN hN' hc vy he hf hjj0
    have v0 := zk_Iv I
    have b1 := zk_Ib I
    have e01 : ¬ (1 : Int32) = 0 := by decide
    have z0 : (0 : Int32) = 0 := rfl
    obtain ⟨N, rfl⟩ : ∃ z, N = z + 2 := ⟨N - 2, by omega⟩
    obtain ⟨N', rfl⟩ : ∃ z, N' = z + 2 := ⟨N' - 2, by omega⟩
    show zk_G _ _ _ _ _ _ _ _ _ _ (f_Ps_block_119 (f_Ps_block_L119 (N + 1)) h' (nI (128 + wd)) (nI s) y (nI c)) (f_Mo_readBlock_106 (f_Mo_readBlock_L106 (N' + 1)) g' (nI wd) (nI m) a)
    unfold f_Ps_block_119 f_Mo_readBlock_106
    rw [if_neg (mt (zc_le (k := 16384) (t := c) (by decide) (by omega)).mp (by omega)), show f_Mo_isWord g' 6 = if (h'.1 19 5) = nI 134 then 1 else 0 from zk_word I.1 (c := 6) (by decide), show f_Mo_isWord g' 7 = if (h'.1 19 5) = nI 135 then 1 else 0 from zk_word I.1 (c := 7) (by decide), show f_Mo_isWord g' 8 = if (h'.1 19 5) = nI 136 then 1 else 0 from zk_word I.1 (c := 8) (by decide), show f_Mo_isWord g' 37 = if (h'.1 19 5) = nI 165 then 1 else 0 from zk_word I.1 (c := 37) (by decide)]
    -- the end of a block
    have fin : ∀ {u2 : zt_T} {y2 : Int32} {LM2 : List (List Int32)} {j2 s2 m2 e2 f2 : Nat} {h2 g2 : zs_H}, zk_I h0 g0 T n K LC LM j s m 0 0 b kd p v h g g1 u2 y2 LM2 j2 0 s2 m2 e2 2 185 f2 h2 g2 → 1 ≤ f2 → j < j2 → zk_G h0 g0 T n K LC m 20960 0 (zk_TB h0 g0 T n K LC LM j s m b h g) ((f_Ps_take h2 (nI (128 + wd) + 1)).bind fun h5 => (some (nI s, h5))) (f_Mo_readBlock_226 g2 (nI wd)) := by
      intro u2 y2 LM2 j2 s2 m2 e2 f2 h2 g2 I2 hf2 hj2
      have b2 := zk_Ib I2
      unfold f_Mo_readBlock_226
      rw [nI_1, nI_1]
      obtain ⟨h3, g3, ea, eb, R⟩ := zk_wantW I2.1 (c := wd + 1) (by omega)
      rw [show f_Ps_take h2 (nI (128 + wd + 1)) = some h3 from ea, eb, Option.bind_some, Option.bind_some]
      have bad : ∀ φ w, zq_Z h0 T n K LC φ w h3 → zx_B g0 T n φ w m2 0 g3 → zk_G h0 g0 T n K LC m 20960 0 (zk_TB h0 g0 T n K LC LM j s m b h g) (some (nI s, h3)) (some g3) := fun φ w z1 z2 => zk_Gf (φ := φ) (w := w) (zw_some.mpr ⟨v0, z1⟩) (zw_some.mpr ⟨m2, by omega, z2⟩)
      rcases R with ⟨φ, w, z1, z2⟩ | ⟨tk, ⟨fa, fb, LM3, hp, L3⟩ | ⟨φ, w, z1, z2⟩⟩
      · exact bad φ w z1 z2
      rotate_left
      · exact bad φ w z1 z2
      have I3 := zk_It I2 fa fb hp L3
      have b3 := zk_Ib I3
      have hw2 : (zl_at T n j2).1 = 2 ∧ (zl_at T n j2).2.2.2 = wd + 1 := ((zl_ckA (zk_F I2.1)).2.2.1 (wd + 1) (by omega)).mp ((zk_tok I2.1 (by omega)).mp tk)
      have HS := I2.1.2.2.1
      have p1 := zl_wl HS (by omega) hwd.1
      have p2 := zl_wl HS (by omega) hw2.1
      have p3 := zl_pb HS j j2 hj2 (by omega)
      have p4 := zl_pb HS j2 (j2 + 1) (by omega) (by omega)
      have p5 : 18 ≤ (zl_W.getD (zl_at T n j).2.2.2 []).length + (zl_W.getD (zl_at T n j2).2.2.2 []).length := by
        rw [hwd.2, hw2.2]
        rcases hkd with ⟨_, z⟩ | ⟨_, z⟩ | ⟨_, z⟩ <;> subst z <;> decide
      exact ⟨nI s, _, _, rfl, rfl, Or.inl ⟨zk_Tof (zk_IdT (S := [1, 2, 3]) I3 (by rcases hkd with ⟨z, _⟩ | ⟨z, _⟩ | ⟨z, _⟩ <;> subst z <;> rfl) (by rcases hkd with ⟨z, _⟩ | ⟨z, _⟩ | ⟨z, _⟩ <;> subst z <;> exact Or.inl rfl) (by rcases hkd with ⟨z, _⟩ | ⟨z, _⟩ | ⟨z, _⟩ <;> subst z <;> decide) (by omega) (by omega)) (by omega), j2 + 1, L3.2.2.2.1.2.1, by omega, by omega⟩⟩
    have badE : ∀ φ w mz xz hz gz, m ≤ mz → mz ≤ 20960 → zq_v xz → zq_Z h0 T n K LC φ w hz → zx_B g0 T n φ w mz 0 gz → zk_G h0 g0 T n K LC m 20960 0 (zk_TB h0 g0 T n K LC LM j s m b h g) (zd_B (f_Tr_hang hz (nI s) y xz) fun v2 h3 => ((f_Ps_take h3 (nI (128 + wd) + 1)).bind fun h5 => (some (nI s, h5)))) (f_Mo_readBlock_226 gz (nI wd)) := by
      intro φ w mz xz hz gz w1 w2 vz z1 z2
      unfold f_Mo_readBlock_226
      refine zk_Gf (φ := φ) (w := w) ?_ ?_
      · repeat' first
          | with_reducible exact zw_some.mpr ⟨by assumption, by assumption⟩
          | with_reducible exact zw_some.mpr ⟨by assumption, zz_open (by assumption)⟩
          | (rw [zw_B]; with_reducible refine zw_mono (zz_expression (by assumption)) ?_; rintro _ ⟨_, _⟩)
          | (rw [zw_B]; with_reducible refine zw_mono (zz_operand (by assumption)) ?_; rintro _ ⟨_, _⟩)
          | (rw [zw_B]; with_reducible refine zw_mono (zz_statements (by assumption)) ?_; rintro _ ⟨_, _⟩)
          | (rw [zw_bind]; with_reducible refine zw_mono (zz_take (zz_uM (by assumption) (by decide))) ?_; intro _ _)
          | (rw [zw_bind]; with_reducible refine zw_mono (zz_take (by assumption)) ?_; intro _ _)
          | (rw [zw_B]; with_reducible refine zw_mono (zz_constant (by assumption)) ?_; rintro _ ⟨_, _⟩)
          | (rw [zw_B]; with_reducible refine zw_mono (zz_simpleType (by assumption)) ?_; rintro _ ⟨_, _⟩)
          | (rw [zw_B]; with_reducible refine zw_mono (zz_type (by assumption)) ?_; rintro _ ⟨_, _⟩)
          | (rw [zw_B]; with_reducible refine zw_mono (zz_whole (by assumption)) ?_; rintro _ ⟨_, _⟩)
          | (rw [zw_B]; with_reducible refine zw_mono (zz_add (by assumption)) ?_; rintro _ ⟨_, _⟩)
          | (rw [zw_B]; with_reducible refine zw_mono (zz_hang (by assumption) (by assumption) (by first | assumption | exact zq_vl_n | exact zq_vl_v (by assumption)) (by assumption)) ?_; rintro _ ⟨_, _⟩)
          | rw [if_pos (zq_at (by assumption))]
          | rw [zz_isCell (by assumption), if_pos rfl]
          | rw [if_neg (zq_ne (by assumption) (by decide) (by decide))]
          | rw [Option.bind_assoc]
          | rw [Option.bind_some]
          | rw [if_pos (zi_in (by omega) (by omega))]
      · repeat' first
          | (with_reducible refine zw_some.mpr ⟨_, ⟨?_, ?_⟩, by assumption⟩ <;> omega)
          | (with_reducible refine zw_some.mpr ⟨_, ⟨?_, ?_⟩, zx_Om (by assumption) ?_⟩ <;> omega)
          | (with_reducible refine zw_some.mpr ⟨_, ⟨?_, ?_⟩, zx_Om (zx_uF (by assumption) (Or.inl rfl)) ?_⟩ <;> omega)
          | (with_reducible refine zw_mono (zxb_142 (by assumption) (by omega)) ?_; intro _ z; exact ⟨_, by omega, z⟩)
          | (with_reducible refine zw_mono (zxb_142c (by assumption) (by omega)) ?_; intro _ z; exact ⟨_, by omega, z⟩)
          | (rw [zw_bind]; with_reducible refine zw_mono (zxb_body (by assumption)) ?_; intro _ _)
          | (rw [zw_bind]; with_reducible refine zw_mono (zxw_expr4 (by assumption)) ?_; intro _ _)
          | (rw [zw_bind]; with_reducible refine zw_mono (zxw_next2 (by assumption)) ?_; intro _ _)
          | (rw [zw_bind]; with_reducible refine zw_mono (zx_open (by assumption)) ?_; intro _ _)
          | (rw [zw_bind]; with_reducible refine zw_mono (zxw_expression (by assumption)) ?_; intro _ _)
          | (rw [zw_bind]; with_reducible refine zw_mono (zxw_operand (by assumption)) ?_; intro _ _)
          | (rw [zw_bind]; with_reducible refine zw_mono (zxb_keep (by assumption) (by omega)) ?_; intro _ _)
          | (rw [zw_B]; with_reducible refine zw_mono (zxb_node (by assumption) (by omega) rfl) ?_; rintro _ ⟨e1, _⟩; try rw [e1])
          | (rw [zw_bind]; with_reducible refine zw_mono (zxw_wantSign (zxb_uM (by assumption) (by decide))) ?_; intro _ _)
          | (rw [zw_bind]; with_reducible refine zw_mono (zxw_wantSign (by assumption)) ?_; intro _ _)
          | (rw [zw_bind]; with_reducible refine zw_mono (zxw_wantWord (by assumption)) ?_; intro _ _)
          | (rw [zw_bind]; with_reducible refine zw_mono (zxw_want (by assumption)) ?_; intro _ _)
          | (rw [zw_bind]; with_reducible refine zw_mono (zx_next (by assumption)) ?_; intro _ _)
          | (rw [zw_bind]; with_reducible refine zw_mono (zxb_constant (by assumption) (by omega) (by omega)) ?_; intro _ _)
          | (rw [zw_bind]; with_reducible refine zw_mono (zxw_simple (by assumption) (by omega) (by omega)) ?_; rintro _ ⟨_, _, _, _⟩)
          | (rw [zw_B]; with_reducible refine zw_mono (zxb_add (by assumption) (by omega) rfl (by omega)) ?_; rintro _ ⟨e1, _⟩; try rw [e1])
          | rw [zx_isSign (by assumption), if_pos rfl]
          | rw [zx_isWord (by assumption), if_pos rfl]
          | rw [if_neg (zx_ne (by assumption))]
          | rw [if_neg (zx_pos (by assumption))]
          | rw [if_pos (show (0 : Int32) ≤ 0 by decide)]
          | rw [Option.bind_assoc]
          | rw [Option.bind_some]
          | rw [zx_name (by assumption), zo_B]
          | rw [if_pos (zi_in (by omega) (by omega))]
    rcases zk_isSec I.1 with ⟨is, n1, n2, n3⟩ | ⟨is, cw, cw1, cw2, cw3⟩
    · rw [if_pos is, if_neg n1, if_neg n2, if_neg n3, if_pos z0, if_pos z0, if_pos z0]
      unfold f_Ps_block_156 f_Ps_block_184
      by_cases t165 : (h'.1 19 5) = 165
      · rw [if_pos t165, if_pos (show (h'.1 19 5) = nI 165 from t165), if_neg e01]
        refine zk_sK2 (e2 := 1) (e3 := e) (S := [22]) (st' := 2) I (zk_GM (zk_ladder (b := m) I.1 (by omega) t165 (by omega) (by omega)) (Nat.le_refl _) (Nat.le_refl 20800) (fun x h g R => zk_TTm (zk_TTof R) (Nat.le_refl _) (fun t W => zg_Tm W (fun _ z => z) (by omega)))) (by rcases hkd with ⟨z, _⟩ | ⟨z, _⟩ | ⟨z, _⟩ <;> subst z <;> decide) (by omega) ?_ fun x3 h3 g3 u3 LM3 j3 s3 m3 vx3 hj3 I3 => ?_
        · intro φ w mz xz hz gz w1 w2 vz z1 z2
          exact badE φ w mz xz hz gz (by omega) (by omega) vz z1 z2
        exact fin I3 hf (by omega)
      · rw [if_neg t165, if_neg (show ¬ (h'.1 19 5) = nI 165 from t165), if_pos z0]
        rw [show (zd_B (f_Mo_add g' (nI m) 11 a 0) fun v10 h11 => ((f_Mo_statements 400 h11 v10).bind fun h13 => f_Mo_readBlock_226 h13 (nI wd))) = (zd_B (f_Mo_add g' (nI m) 11 a 0) fun v5 h6 => (f_Mo_statements 400 h6 v5).bind fun h8 => some h8).bind fun h13 => f_Mo_readBlock_226 h13 (nI wd) by simp only [zd_Bb, Option.bind_assoc, Option.bind_some]]
        refine zk_sK2 (e2 := 0) (e3 := 0) (S := [11]) (st' := 2) I (zk_GM (zk_SSall 61 0 (by omega) (b := m) (D := 400) (D' := 400) (p := a) I.1 (Nat.le_refl _) (by omega) (by omega) (by omega) (by omega) (by omega)) (Nat.le_refl _) (Nat.le_refl 20950) (fun x h g R => zk_TTm R (Nat.le_refl _) (fun t W => zg_Tm W (fun _ z => z) (by omega)))) (by rcases hkd with ⟨z, _⟩ | ⟨z, _⟩ | ⟨z, _⟩ <;> subst z <;> decide) (by omega) ?_ fun x3 h3 g3 u3 LM3 j3 s3 m3 vx3 hj3 I3 => ?_
        · intro φ w mz xz hz gz w1 w2 vz z1 z2
          exact badE φ w mz xz hz gz (by omega) (by omega) vz z1 z2
        exact fin I3 hf (by omega)
    · rw [if_neg is]
      have em : (if (if (h'.1 19 5) = nI 134 then (1 : Int32) else 0) = 0 then (if (if (h'.1 19 5) = nI 135 then (1 : Int32) else 0) = 0 then (if (if (h'.1 19 5) = nI 136 then (1 : Int32) else 0) = 0 then (if (if (h'.1 19 5) = nI 165 then (1 : Int32) else 0) = 0 then (zd_B (f_Mo_add g' (nI m) 11 a 0) fun v10 h11 => ((f_Mo_statements 400 h11 v10).bind fun h13 => f_Mo_readBlock_226 h13 (nI wd))) else ((f_Mo_ladder g' (nI m)).bind fun h15 => f_Mo_readBlock_226 h15 (nI wd))) else f_Mo_readBlock_133 (f_Mo_readBlock_L106 (N' + 1)) g' (nI wd) (nI m)) else f_Mo_readBlock_133 (f_Mo_readBlock_L106 (N' + 1)) g' (nI wd) (nI m)) else f_Mo_readBlock_133 (f_Mo_readBlock_L106 (N' + 1)) g' (nI wd) (nI m)) = f_Mo_readBlock_133 (f_Mo_readBlock_L106 (N' + 1)) g' (nI wd) (nI m) := by
        by_cases q1 : (h'.1 19 5) = nI 134
        · rw [if_pos q1, if_neg e01]
        rw [if_neg q1, if_pos z0]
        by_cases q2 : (h'.1 19 5) = nI 135
        · rw [if_pos q2, if_neg e01]
        rw [if_neg q2, if_pos z0]
        by_cases q3 : (h'.1 19 5) = nI 136
        · rw [if_pos q3, if_neg e01]
        exfalso
        have : cw = 6 ∨ cw = 7 ∨ cw = 8 := by omega
        rcases this with z | z | z <;> subst z
        · exact q1 cw3
        · exact q2 cw3
        · exact q3 cw3
      rw [em, zm_sec_eq]
      have G := zk_section (b := m) I.1 (by omega) ⟨cw, cw1, cw2, cw3⟩ (by omega) (by omega)
      obtain ⟨x, h2, g2, e1, e2, R⟩ := G
      obtain ⟨⟨a2, g2'⟩, e3, e4⟩ := zd_b e2
      have e5 : g2' = g2 := by
        have : some g2' = some g2 := e4
        exact Option.some.inj this
      subst e5
      rw [e1, zo_B, e3, zo_B]
      rcases R with R | ⟨vx, φ, w, mz, w1, w2, z1, z2⟩
      · have vx := zk_Tv R
        obtain ⟨h3, u3, LM3, j3, s3, m3, e6, hj3, I3⟩ := zk_Ic2 (st' := zg_bs kd) (e3 := e) I (zk_TTm (zk_TTof R) (Nat.le_refl _) (fun t W => zg_Tm W (fun _ z => z) (by omega))) (by rcases hkd with ⟨z, _⟩ | ⟨z, _⟩ | ⟨z, _⟩ <;> subst z <;> decide) (by omega)
        have hjj : j' < j3 := by
          obtain ⟨h3', u3', LM3', j3', s3', m3', e6', hj3', I3'⟩ := zk_Ic (st' := zg_bs kd) I (zk_TW R (fun t W => zg_Tm W (fun _ z => z) (by omega))) (by rcases hkd with ⟨z, _⟩ | ⟨z, _⟩ | ⟨z, _⟩ <;> subst z <;> decide)
          rw [e6] at e6'
          cases e6'
          have q1 : (h3.1 19 4) = nI j3 := I3.1.2.2.2.1.2.1
          have q2 : (h3.1 19 4) = nI j3' := I3'.1.2.2.2.1.2.1
          have k1 := zk_Ib I3
          have k2 := zk_Ib I3'
          have := (nI_eq (by omega) (by omega)).mp (q1.symm.trans q2)
          omega
        have b3 := zk_Ib I3
        rw [e6, zo_B, nI_1]
        exact ih (N + 1) (N' + 1) (c := c + 1) I3 (by omega) (by omega) (by omega) (by omega) (zq_vl_v vx) he hf (by omega)
      · refine zk_Gf (φ := φ) (w := w) ?_ ?_
        · rw [zw_B]
          refine zw_mono (zz_hang z1 v0 vy vx) ?_
          rintro ⟨xa, ha⟩ ⟨va, za⟩
          exact zz_b119 za v0 (zq_vl_v va)
        · exact zw_mono (zxb_b106 z2 (by omega) (by omega)) fun g5 z5 => ⟨_, by omega, z5⟩
end ZC
