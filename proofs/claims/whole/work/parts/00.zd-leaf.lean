/-! Both readers in step: nodes. -/
section ZD
variable {h0 g0 h g : zs_H} {T : Nat → Int32} {n K : Nat} {LC LM : List (List Int32)} {j d s m o q : Nat}
theorem zk_place (H : zk_L h0 g0 T n K LC h g LM j d s m o q) : (zl_at T n j).2.1 ≤ 10240 := by
  obtain ⟨a1, a2, a3, a4, a5, a6⟩ := H
  have hT := a3.2.2.2.2.2.2.2.2.1
  have := (zl_tok_kd (n := n) (b := zl_bs T n j) hT (zq_bs hT j (fun i hi => a3.2.2.2.1 i (by omega)))).2.1
  have hn := a3.2.2.1
  exact Nat.le_trans this hn
/-- the class makes a node for the token here -/
theorem zk_cadd (H : zk_L h0 g0 T n K LC h g LM j d s m o q) {kd : Nat} {kv v : Int32} (hs : s < 32784) (hk : kd < 128) (hkv : kv = nI kd) : ∃ h', f_Tr_add h kv ((h.1 19 6)) v = some (nI s, h') ∧ zk_L h0 g0 T n K LC h' g LM j d (s + 1) m o q ∧ zq_A s kd (nI (zl_at T n j).2.1) v h h' := by
  have hp := zk_place H
  obtain ⟨a1, a2, a3, a4, a5, a6⟩ := H
  obtain ⟨c1, c2, c3, c4, c5, c6, c7⟩ := a4
  obtain ⟨h', e1, e2⟩ := zq_add (kd := kd) (p := (zl_at T n j).2.1) (v := v) c6 hs hk (by omega)
  have f : zq_f h h' := zfr_w e2.2.2.2.2.2.2 (by decide) (by decide) (by decide)
  have ff := e2.2.2.2.2.2.2
  refine ⟨h', by rw [hkv, c4]; exact e1, ⟨zfr_trans a1 f, a2, zq_S_f f a3, ⟨(ff.1 _ _ (by decide)).trans c1, (ff.1 _ _ (by decide)).trans c2, (ff.1 _ _ (by decide)).trans c3, (ff.1 _ _ (by decide)).trans c4, (ff.1 _ _ (by decide)).trans c5, e2.1, by omega⟩, a5, a6⟩, e2⟩
/-- a change of the class's tree alone -/
theorem zk_cf (H : zk_L h0 g0 T n K LC h g LM j d s m o q) {h' : zs_H} {ms : List Nat} (f : zfr [] ms [] h h') (hm : ∀ x ∈ ms, x ∈ zq_ms) : zk_L h0 g0 T n K LC h' g LM j d s m o q := by
  obtain ⟨a1, a2, a3, a4, a5, a6⟩ := H
  obtain ⟨c1, c2, c3, c4, c5, c6, c7⟩ := a4
  have ff : zq_f h h' := zfr_w f (fun x z => absurd z List.not_mem_nil) hm (fun x z => z)
  have e : ∀ k j, h'.1 k j = h.1 k j := fun k j => f.1 k j List.not_mem_nil
  exact ⟨zfr_trans a1 ff, a2, zq_S_f ff a3, ⟨(e _ _).trans c1, (e _ _).trans c2, (e _ _).trans c3, (e _ _).trans c4, (e _ _).trans c5, (e _ _).trans c6, c7⟩, a5, a6⟩
/-- a change of the model's tree alone -/
theorem zk_mf (H : zk_L h0 g0 T n K LC h g LM j d s m o q) {g' : zs_H} {m' : Nat} (f : zfr [(68, 14)] [72, 73, 74, 75, 76, 77, 78] [] g g') (hm : (g'.1 68 14) = nI m') (hW : zx_W g' m') : zk_L h0 g0 T n K LC h g' LM j d s m' o q := by
  obtain ⟨a1, a2, a3, a4, a5, a6⟩ := H
  obtain ⟨m1, m2, m3, m4, m5, m6, m7, m8, m9, m10, m11, m12, m13, m14, m15, m16, m17⟩ := a6
  refine ⟨a1, zfr_trans a2 (zfr_w f (by decide) (by decide) (by decide)), a3, a4, a5, ⟨(f.1 _ _ (by decide)).trans m1.1, m1.2.1, fun i hi => ?_⟩, (f.1 _ _ (by decide)).trans m2, m3, (f.1 _ _ (by decide)).trans m4, (f.1 _ _ (by decide)).trans m5, (f.1 _ _ (by decide)).trans m6, fun z => ⟨(f.1 _ _ (by decide)).trans (m7 z).1, (m7 z).2⟩, fun z y => (f.1 _ _ (by decide)).trans (m8 z y), zn_fr f (by decide) (by decide) (by decide) m9, m10, m11, (f.1 _ _ (by decide)).trans m12, m13, hm, hW, (f.1 _ _ (by decide)).trans m16, (f.1 _ _ (by decide)).trans m17⟩
  rw [f.2.1 _ (by decide)]; exact m1.2.2 i hi
/-- the model makes a node -/
theorem zk_madd (H : zk_L h0 g0 T n K LC h g LM j d s m o q) {b kd : Nat} {kv p v v' : Int32} (hm : m < 33500) (hb : b < m) (hk : kv = nI (zt_km kd)) (hv : if zt_nk kd = true then zt_nr LC LM v' v else v = v') : ∃ g', f_Mo_add g (nI b) kv p v = some (nI m, g') ∧ zk_L h0 g0 T n K LC h g' LM j d s (m + 1) o q ∧ zx_AP LC LM LM b m (m + 1) (zt_n kd p v' .leaf) g g' ∧ zt_Nf LC LM g' m kd p v' ∧ (g'.2.1 75) m = nI b ∧ (g'.2.1 76) m = -1 ∧ (g'.2.1 77) m = -1 ∧ (g'.2.1 78) m = -1 ∧ (g'.2.1 77) b = nI m ∧ zfr [(68, 14)] [72, 73, 74, 75, 76, 77, 78] [] g g' := by
  have m14 := H.2.2.2.2.2.2.2.2.2.2.2.2.2.2.2.2.2.2.1
  have m15 := H.2.2.2.2.2.2.2.2.2.2.2.2.2.2.2.2.2.2.2.1
  obtain ⟨g', e1, e2, e3, e4, e5, e6, e7, e8, e9, e10, e11⟩ := zx_add (p := p) m14 hm m15 hb hk hv
  exact ⟨g', e1, zk_mf H e11 e4 e3, e2, e5, e6, e7, e8, e9, e10, e11⟩
/-- the name here, in the class and in the model -/
theorem zk_nm (H : zk_L h0 g0 T n K LC h g LM j d s m o q) (h1 : (zl_at T n j).1 = 1) : zd_in ((h.1 19 4)) 16385 ∧ zt_nr LC LM (h.2.1 11 ((h.1 19 4)).toNatClampNeg) ((g.1 68 9)) := by
  obtain ⟨a1, a2, a3, a4, a5, a6⟩ := H
  obtain ⟨m1, m2, m3, m4, m5, m6, m7, m8⟩ := a6
  obtain ⟨s1, s2, s3, s4, s5, s6, s7, s8, s9, s10⟩ := a3
  obtain ⟨t1, t2, t3, t4⟩ := s1.1 j (by omega)
  rw [a4.2.1, nI_clamp (by omega), t3, (m7 h1).1]
  refine ⟨zi_in (by omega) (by omega), LC.idxOf (zl_cn T n j), LM.idxOf (zl_cn T n j), by unfold zl_cv; rw [if_pos (Or.inl h1)], rfl, ?_, List.idxOf_lt_length_of_mem (t4 (Or.inl h1)), List.idxOf_lt_length_of_mem (m7 h1).2, ?_⟩
  · have hLW : LC = zl_W ++ LC.drop 41 := by
      rw [← zl_WK, ← s7, List.take_take, show min 41 75 = 41 from rfl, List.take_append_drop]
    have hnw : ¬ zl_cn T n j ∈ zl_W := by
      intro z
      have w : (zl_at T n j).1 = 2 := (zl_tok_nm (T := T) (n := n) (b := zl_bs T n j) (Or.inl h1)).2.2.2.2.1.mpr z
      omega
    rw [hLW, List.idxOf_append, if_neg hnw]
    exact Nat.le_add_left _ _
  · have e : ∀ (L : List (List Int32)) (c : List Int32), c ∈ L → L.getD (L.idxOf c) [] = c := by
      intro L c hc
      have hl := List.idxOf_lt_length_of_mem hc
      rw [List.getD_eq_getElem?_getD, List.getElem?_eq_getElem hl]
      exact List.getElem_idxOf hl
    rw [e _ _ (t4 (Or.inl h1)), e _ _ (m7 h1).2]
end ZD
