/-! Both readers in step: blocks, texts. -/
section ZDd
variable {h0 g0 h g g1 h' g' : zs_H} {T : Nat → Int32} {n K : Nat} {LC LM LM' LM1 : List (List Int32)} {j d s m o q b kd j' d' s' m' e st D f M0 M : Nat} {p v y : Int32} {u : zt_T} {X : Int32 → zs_H → zs_H → Prop}
/-- a block with a word that begins one -/
theorem zk_block1 {wd b : Nat} (H : zk_L h0 g0 T n K LC h g LM j 0 s m 0 0) (hkd : (kd = 1 ∧ wd = 0) ∨ (kd = 2 ∧ wd = 2) ∨ (kd = 3 ∧ wd = 4)) (ht : (h.1 19 5) = nI (128 + wd)) (hs : s ≤ 2 * j + 10) (hm : m ≤ 2 * j + 10) (hb : b < m) : zk_G h0 g0 T n K LC m 20960 0 (zk_TB h0 g0 T n K LC LM j s m b h g) (zd_B (f_Tr_add h (nI kd) ((h.1 19 6)) 0) fun v2 h3 => f_Ps_block_56 h3 (nI (128 + wd)) (nI kd) v2 (nI (128 + wd))) (f_Mo_readBlock_56 g (nI wd) (nI kd) (nI b)) := by
  have bK := zk_bK H
  have v0 : zq_v (nI s) := ⟨s, by omega, rfl⟩
  have hwd : (zl_at T n j).1 = 2 ∧ (zl_at T n j).2.2.2 = wd := ((zl_ckA (zk_F H)).2.2.1 wd (by omega)).mp ((zk_tok H (by omega)).mp ht)
  obtain ⟨h1, e1, L1, qA⟩ := zk_cadd H (kd := kd) (kv := nI kd) (v := 0) (by omega) (by omega) rfl
  rw [e1, zo_B]
  unfold f_Ps_block_56 f_Mo_readBlock_56
  have qA' := qA
  obtain ⟨q1, q2, q3, q4, q5, q6, q7⟩ := qA'
  have badB : ∀ φ w hz gz a mz x4, m < mz → mz ≤ 20959 → zq_vl x4 → zq_Z h0 T n K LC φ w hz → zx_B g0 T n φ w mz 0 gz → zk_G h0 g0 T n K LC m 20960 0 (zk_TB h0 g0 T n K LC LM j s m b h g) (f_Ps_block_116 hz (nI (128 + wd)) (nI s) x4) (f_Mo_readBlock_L106 zF gz (nI wd) (nI m) a) := by
    intro φ w hz gz a mz x4 w1 w2 v4 z1 z2
    unfold f_Ps_block_116
    rw [show zF = 18446744073709551615 + 1 from rfl]
    exact zk_Gf (φ := φ) (w := w) (zz_b119 z1 v0 v4) (zw_mono (zxb_b106 z2 (by omega) (by omega)) fun g5 z5 => ⟨_, by omega, z5⟩)
  refine zk_Inm (D := 185) (kd := kd) (j := j) (h := h) (g := g) (LM := LM) (b := b) (FB := fun v2 a h8 => if nI wd = 0 then ((f_Mo_wantSign h8 58).bind fun h12 => ((f_Mo_simple h12 v2).bind fun h14 => f_Mo_readBlock_L106 zF h14 (nI wd) v2 (h12.1 68 7))) else f_Mo_readBlock_L106 zF h8 (nI wd) v2 a) L1 (List.prefix_refl _) (zq_kp_A qA) ⟨by rw [q2, if_pos rfl], by rw [q3, if_pos rfl], by rw [q6, if_pos rfl], by rw [q5, if_pos rfl]⟩ (fun i _ => ⟨rfl, rfl, rfl, rfl, rfl, rfl, rfl⟩) (by omega) (by omega) hb (by rcases hkd with ⟨z, _⟩ | ⟨z, _⟩ | ⟨z, _⟩ <;> subst z <;> rfl) (by rcases hkd with ⟨z, _⟩ | ⟨z, _⟩ | ⟨z, _⟩ <;> subst z <;> rfl) (by omega) (by rw [L1.2.2.2.1.2.2.1, ← H.2.2.2.1.2.2.1]; exact ht) (by rcases hkd with ⟨_, z⟩ | ⟨_, z⟩ | ⟨_, z⟩ <;> subst z <;> decide) ?_ fun h4 g4 a LM4 vc I4 => ?_
  · intro φ w hz gz a z1 z2
    by_cases k1 : kd = 1
    · have w0 : wd = 0 := by omega
      rw [if_pos (show nI kd = 1 by rw [k1]; rfl), if_pos (show nI wd = 0 by rw [w0]; rfl)]
      obtain ⟨ha, ea, za⟩ := zz_take (x := 58) z1
      rw [ea, Option.bind_some]
      obtain ⟨⟨xb, hb'⟩, eb, vb, zb⟩ := zz_simpleType za
      rw [eb, zo_B]
      obtain ⟨⟨xc, hc⟩, ec, vc, zc⟩ := zz_hang zb v0 zq_vl_n vb
      rw [ec, zo_B, zx_wantSign z2, Option.bind_some]
      obtain ⟨gd, ed, md, d1, d2, zd⟩ := zxw_simple (b := m) z2 (by omega) (by omega)
      rw [ed, Option.bind_some]
      exact badB φ w hc gd _ md xc (by omega) (by omega) (zq_vl_v vc) zc zd
    · rw [if_neg (show ¬ nI kd = 1 from fun z => k1 ((zc_eq (k := 1) (by decide) (by omega)).mp z)), if_neg (show ¬ nI wd = 0 from fun z => by have := (zc_eq (k := 0) (by decide) (by omega)).mp z; omega)]
      exact badB φ w hz gz _ _ (-1) (by omega) (by omega) zq_vl_n z1 z2
  have b4 := zk_Ib I4
  by_cases k1 : kd = 1
  · have w0 : wd = 0 := by omega
    rw [if_pos (show nI kd = 1 by rw [k1]; rfl), if_pos (show nI wd = 0 by rw [w0]; rfl)]
    refine zk_sA I4 (zk_wantS I4.1 (c := 58) (k := 58) (by decide) (by decide)) ?_ fun h5 g5 LM5 I5 => ?_
    · intro φ w hz gz z1 z2
      obtain ⟨⟨xb, hb'⟩, eb, vb, zb⟩ := zz_simpleType z1
      rw [eb, zo_B]
      obtain ⟨⟨xc, hc⟩, ec, vc, zc⟩ := zz_hang zb v0 zq_vl_n vb
      rw [ec, zo_B]
      obtain ⟨gd, ed, md, d1, d2, zd⟩ := zxw_simple (b := m) z2 (by omega) (by omega)
      rw [ed, Option.bind_some]
      exact badB φ w hc gd _ md xc (by omega) (by omega) (zq_vl_v vc) zc zd
    have b5 := zk_Ib I5
    refine zk_sK2 (e2 := 1) (e3 := 6) (S := [8]) (st' := 1) I5 (zk_GM (zk_simple (b := m) I5.1 (by omega) (by omega) (by omega)) (Nat.le_refl _) (Nat.le_refl _) (fun x h g R => zk_TTm (zk_TTof R) (Nat.le_refl _) (fun t W => zg_Tm W (fun _ z => z) (by omega)))) (by subst k1; decide) (by omega) ?_ fun x6 h6 g6 u6 LM6 j6 s6 m6 vx6 hj6 I6 => ?_
    · intro φ w mz xz hz gz w1 w2 vz z1 z2
      obtain ⟨⟨xc, hc⟩, ec, vc, zc⟩ := zz_hang z1 v0 zq_vl_n vz
      rw [ec, zo_B]
      exact badB φ w hc gz _ mz xc (by omega) (by omega) (zq_vl_v vc) zc z2
    have b6 := zk_Ib I6
    unfold f_Ps_block_116
    have I6' : zk_I h0 g0 T n K LC LM j s m 0 0 b kd (nI (zl_at T n j).2.1) vc h g g4 u6 x6 LM6 j6 0 s6 m6 6 (zg_bs kd) 185 (3 + 1) h6 g6 := by rw [show zg_bs kd = 1 by rw [k1]; rfl]; exact I6
    exact zk_blL hwd hkd hs hm (K + 1) zF zF (c := 0) I6' (by omega) (by have := zF_big; omega) (by have := zF_big; omega) (by omega) (zq_vl_v vx6) (by omega) (by omega) (by omega)
  · rw [if_neg (show ¬ nI kd = 1 from fun z => k1 ((zc_eq (k := 1) (by decide) (by omega)).mp z)), if_neg (show ¬ nI wd = 0 from fun z => by have := (zc_eq (k := 0) (by decide) (by omega)).mp z; omega)]
    unfold f_Ps_block_116
    have I4' : zk_I h0 g0 T n K LC LM j s m 0 0 b kd (nI (zl_at T n j).2.1) vc h g g4 .leaf (-1) LM4 (j + 2) 0 (s + 1) (m + 1) 4 (zg_bs kd) 185 3 h4 g4 := by rw [show zg_bs kd = 0 from if_neg k1]; exact I4
    exact zk_blL hwd hkd hs hm (K + 1) zF zF (c := 0) I4' (by omega) (by have := zF_big; omega) (by have := zF_big; omega) (by omega) zq_vl_n (by omega) (by omega) (by omega)
/-- a block -/
theorem zk_block {b : Nat} (H : zk_L h0 g0 T n K LC h g LM j 0 s m 0 0) (hs : s ≤ 2 * j + 10) (hm : m ≤ 2 * j + 10) (hb : b < m) : zk_G h0 g0 T n K LC m 20960 0 (zk_TB h0 g0 T n K LC LM j s m b h g) (f_Ps_block h) (f_Mo_readBlock g (nI b)) := by
  have bK := zk_bK H
  have v0 : zq_v (nI s) := ⟨s, by omega, rfl⟩
  unfold f_Ps_block f_Ps_block_28 f_Mo_readBlock f_Mo_readBlock_16 f_Mo_readBlock_36
  by_cases t0 : (h.1 19 5) = 128
  · have kw := (zk_wd H 0 (by decide)).mp t0
    rw [if_pos t0, if_pos kw.1, kw.2, if_pos (show nI 0 = 0 from rfl), if_pos (show nI 0 = 0 from rfl), t0]
    simp only [if_neg (show ¬ (1 : Int32) = 3 by decide)]
    exact zk_block1 (kd := 1) (wd := 0) H (Or.inl ⟨rfl, rfl⟩) t0 hs hm hb
  rw [if_neg t0]
  by_cases t2 : (h.1 19 5) = 130
  · have kw := (zk_wd H 2 (by decide)).mp t2
    rw [if_pos t2, if_pos kw.1, kw.2, if_neg (show ¬ nI 2 = 0 by decide), if_pos (show nI 2 = 2 from rfl), if_neg (show ¬ nI 2 = 0 by decide), if_pos (show nI 2 = 2 from rfl), t2]
    simp only [if_neg (show ¬ (2 : Int32) = 3 by decide)]
    exact zk_block1 (kd := 2) (wd := 2) H (Or.inr (Or.inl ⟨rfl, rfl⟩)) t2 hs hm hb
  rw [if_neg t2]
  simp only [eq_self, if_true]
  by_cases t4 : (h.1 19 5) = 132
  · have kw := (zk_wd H 4 (by decide)).mp t4
    rw [if_pos kw.1, kw.2, if_neg (show ¬ nI 4 = 0 by decide), if_neg (show ¬ nI 4 = 2 by decide), if_pos (show nI 4 = 4 from rfl), if_neg (show ¬ nI 4 = 0 by decide), if_neg (show ¬ nI 4 = 2 by decide), t4]
    exact zk_block1 (kd := 3) (wd := 4) H (Or.inr (Or.inr ⟨rfl, rfl⟩)) t4 hs hm hb
  have em : (if (g.1 68 6) = 2 then (if (g.1 68 9) = 0 then (if (g.1 68 9) = 0 then f_Mo_readBlock_56 g ((g.1 68 9)) 1 (nI b) else (if (g.1 68 9) = 2 then f_Mo_readBlock_56 g ((g.1 68 9)) 2 (nI b) else f_Mo_readBlock_56 g ((g.1 68 9)) 3 (nI b))) else (if (g.1 68 9) = 2 then (if (g.1 68 9) = 0 then f_Mo_readBlock_56 g ((g.1 68 9)) 1 (nI b) else (if (g.1 68 9) = 2 then f_Mo_readBlock_56 g ((g.1 68 9)) 2 (nI b) else f_Mo_readBlock_56 g ((g.1 68 9)) 3 (nI b))) else (if (g.1 68 9) = 4 then (if (g.1 68 9) = 0 then f_Mo_readBlock_56 g ((g.1 68 9)) 1 (nI b) else (if (g.1 68 9) = 2 then f_Mo_readBlock_56 g ((g.1 68 9)) 2 (nI b) else f_Mo_readBlock_56 g ((g.1 68 9)) 3 (nI b))) else ((f_Mo_wrong g).bind fun h5 => (some h5))))) else (f_Mo_wrong g)) = f_Mo_wrong g := by
    by_cases k2 : (g.1 68 6) = 2
    · rw [if_pos k2, if_neg (show ¬ (g.1 68 9) = 0 from fun z => t0 ((zk_wd H 0 (by decide)).mpr ⟨k2, z⟩)), if_neg (show ¬ (g.1 68 9) = 2 from fun z => t2 ((zk_wd H 2 (by decide)).mpr ⟨k2, z⟩)), if_neg (show ¬ (g.1 68 9) = 4 from fun z => t4 ((zk_wd H 4 (by decide)).mpr ⟨k2, z⟩)), zm_bs]
    · rw [if_neg k2]
  obtain ⟨h1, e1, L1, qA⟩ := zk_cadd H (kd := 3) (kv := 3) (v := 0) (by omega) (by decide) rfl
  have etk : (h1.1 19 5) = (h.1 19 5) := by rw [L1.2.2.2.1.2.2.1, H.2.2.2.1.2.2.1]
  obtain ⟨h2, g2, e2, e3, φ, w, z1, z2⟩ := zk_wrong L1 (x := 132) (by rw [etk]; exact t4)
  have e4 : (if (g.1 68 6) = 2 then (if (g.1 68 9) = 0 then (if (g.1 68 9) = 0 then f_Mo_readBlock_56 g ((g.1 68 9)) 1 (nI b) else (if (g.1 68 9) = 2 then f_Mo_readBlock_56 g ((g.1 68 9)) 2 (nI b) else f_Mo_readBlock_56 g ((g.1 68 9)) 3 (nI b))) else (if (g.1 68 9) = 2 then (if (g.1 68 9) = 0 then f_Mo_readBlock_56 g ((g.1 68 9)) 1 (nI b) else (if (g.1 68 9) = 2 then f_Mo_readBlock_56 g ((g.1 68 9)) 2 (nI b) else f_Mo_readBlock_56 g ((g.1 68 9)) 3 (nI b))) else (if (g.1 68 9) = 4 then (if (g.1 68 9) = 0 then f_Mo_readBlock_56 g ((g.1 68 9)) 1 (nI b) else (if (g.1 68 9) = 2 then f_Mo_readBlock_56 g ((g.1 68 9)) 2 (nI b) else f_Mo_readBlock_56 g ((g.1 68 9)) 3 (nI b))) else ((f_Mo_wrong g).bind fun h5 => (some h5))))) else (f_Mo_wrong g)) = some g2 := em.trans e3
  simp only [if_neg (show ¬ (-1 : Int32) = 0 by decide), if_neg (show ¬ (-1 : Int32) = 2 by decide), if_neg (show ¬ (-1 : Int32) = 4 by decide), zm_bs]
  simp only [zm_bs] at e4
  rw [e4, e1, zo_B]
  refine zk_Gf (φ := φ) (w := w) ?_ (zw_some.mpr ⟨m, by omega, z2⟩)
  unfold f_Ps_block_56 f_Ps_block_116
  rw [e2, Option.bind_some, if_pos (zq_at z1), if_pos (zi_in (by omega) (by omega)), zw_bind]
  refine zw_mono (zz_take (zz_uM z1 (by decide))) fun ha za => ?_
  rw [if_neg (show ¬ (3 : Int32) = 1 by decide), show zF = 18446744073709551615 + 1 from rfl]
  exact zz_b119 za v0 zq_vl_n
end ZDd
