/-! Both readers in step: open tokens, signs between operands, operands. -/
theorem zo_lvT : ∀ sg, sg < 14 → zt_0.getD sg 0 = nI (zo_lv sg) := by decide +kernel
def zo_sgw (v : Nat) : Int32 := if nI v = 30 then 0 else if nI v = 31 then 1 else if nI v = 32 then 2 else if nI v = 33 then 13 else -1
def zo_sgs (v : Nat) : Int32 := if nI v = 38 then 2 else if nI v = 61 then 3 else if nI v = 260 then 4 else if nI v = 60 then 5 else if nI v = 62 then 6 else if nI v = 258 then 7 else if nI v = 259 then 8 else if nI v = 43 then 9 else if nI v = 45 then 10 else if nI v = 42 then 11 else if nI v = 47 then 12 else -1
def zo_opc (c : Nat) : Int32 := if nI c = 3 then 7 else if nI c = 4 then 8 else if nI c = 5 then 4 else if nI c = 38 then 2 else if nI c = 42 then 11 else if nI c = 43 then 9 else if nI c = 45 then 10 else if nI c = 47 then 12 else if nI c = 60 then 5 else if nI c = 61 then 3 else if nI c = 62 then 6 else if nI c = 158 then 0 else if nI c = 159 then 1 else if nI c = 160 then 2 else if nI c = 161 then 13 else -1
theorem zo_ow : ∀ v, v < 41 → zo_opc (128 + v) = zo_sgw v := by decide +kernel
theorem zo_os : ∀ v ∈ [40, 41, 91, 93, 44, 59, 58, 46, 43, 45, 42, 47, 61, 60, 62, 38, 124], zo_opc v = zo_sgs v := by decide +kernel
theorem zo_o2 : ∀ v ∈ [256, 257, 258, 259, 260], zo_opc (v - 255) = zo_sgs v := by decide +kernel
theorem zo_o0 : zo_opc 6 = -1 ∧ zo_opc 8 = -1 ∧ zo_opc 9 = -1 ∧ zo_opc 10 = -1 ∧ zo_opc 7 = -1 := by decide +kernel
theorem zo_or : ∀ c, c < 200 → zo_opc c = -1 ∨ ∃ sg, sg < 14 ∧ zo_opc c = nI sg := by decide +kernel
section ZM
variable {h0 g0 h g : zs_H} {T : Nat → Int32} {n K : Nat} {LC LM : List (List Int32)} {j d s m o q : Nat}
theorem zk_oper (H : zk_L h0 g0 T n K LC h g LM j d s m o q) : f_Mo_signAt g = f_Ps_operator h := by
  have hF := zk_F H
  have hD := zl_ckD hF
  have m2 := H.2.2.2.2.2.2.1
  have m6 := H.2.2.2.2.2.2.2.2.2.2.1
  have m8 := H.2.2.2.2.2.2.2.2.2.2.2.2.1
  have htk := H.2.2.2.1.2.2.1
  have ec : f_Ps_operator h = zo_opc (zl_ck (zl_at T n j)) := by
    unfold f_Ps_operator zo_opc
    rw [htk]
  have em : f_Mo_signAt g = if (g.1 68 6) = 2 then (if (g.1 68 9) = 30 then 0 else if (g.1 68 9) = 31 then 1 else if (g.1 68 9) = 32 then 2 else if (g.1 68 9) = 33 then 13 else -1) else (if (g.1 68 6) = 5 then (if (g.1 68 9) = 38 then 2 else if (g.1 68 9) = 61 then 3 else if (g.1 68 9) = 260 then 4 else if (g.1 68 9) = 60 then 5 else if (g.1 68 9) = 62 then 6 else if (g.1 68 9) = 258 then 7 else if (g.1 68 9) = 259 then 8 else if (g.1 68 9) = 43 then 9 else if (g.1 68 9) = 45 then 10 else if (g.1 68 9) = 42 then 11 else if (g.1 68 9) = 47 then 12 else -1) else -1) := by
    unfold f_Mo_signAt
    rw [if_pos (show (g.1 68 10) ≤ 0 by rw [m2]; decide)]
  rw [ec, em, m6]
  rcases hD with ⟨a, b⟩ | ⟨a, b⟩ | ⟨a, b, c⟩ | ⟨a, b⟩ | ⟨a, b⟩ | ⟨a, b⟩ | ⟨a, b, c, e⟩ | ⟨a, b, c⟩
  · rw [a, b, if_neg (by decide), if_neg (by decide)]; exact zo_o0.1.symm
  · rw [a, b, if_neg (by decide), if_neg (by decide)]; exact zo_o0.2.1.symm
  · rw [a, b, if_pos (by decide), m8 (by omega) (by omega)]; exact (zo_ow _ c).symm
  · rw [a, b, if_neg (by decide), if_neg (by decide)]; exact zo_o0.2.2.1.symm
  · rw [a, b, if_neg (by decide), if_neg (by decide)]; exact zo_o0.2.2.2.1.symm
  · rw [a, b, if_neg (by decide), if_neg (by decide)]; exact zo_o0.2.2.2.2.symm
  · rw [a, e, if_neg (by decide), if_pos (by decide), m8 (by omega) (by omega)]
    exact (zo_o2 _ (by simp only [List.mem_cons, List.not_mem_nil, or_false]; omega)).symm
  · rw [a, c, if_neg (by decide), if_pos (by decide), m8 (by omega) (by omega)]
    exact (zo_os _ b).symm
theorem zk_opr (H : zk_L h0 g0 T n K LC h g LM j d s m o q) : f_Ps_operator h = -1 ∨ ∃ sg, sg < 14 ∧ f_Ps_operator h = nI sg ∧ ¬ (h.1 19 5) = 6 := by
  have htk := H.2.2.2.1.2.2.1
  have hlt := (zl_ckA (zk_F H)).2.2.2.2.2.2.2.2.1
  have ec : f_Ps_operator h = zo_opc (zl_ck (zl_at T n j)) := by
    unfold f_Ps_operator zo_opc
    rw [htk]
  rcases zo_or _ hlt with z | ⟨sg, z1, z2⟩
  · exact Or.inl (ec.trans z)
  · refine Or.inr ⟨sg, z1, ec.trans z2, fun z => ?_⟩
    rw [htk] at z
    have := (zc_eq (k := 6) (by decide) (by omega)).mp z
    rw [this, zo_o0.1] at z2
    exact absurd z2.symm (zc_m1 (by omega))
abbrev zo_fs : List (Nat × Nat) := [(68, 12), (68, 13), (68, 14), (68, 25)]
abbrev zo_ms : List Nat := [72, 73, 74, 75, 76, 77, 78, 81, 82, 83]
/-- changes between two tokens -/
theorem zk_hg (H : zk_L h0 g0 T n K LC h g LM j d s m o q) {h' g' : zs_H} {d' m' o' q' : Nat} (fh : zfr [(19, 7)] [] [] h h') (fg : zfr zo_fs zo_ms [] g g') (e1 : (h'.1 19 7) = nI d') (e2 : (g'.1 68 12) = nI d') (hd : d' ≤ 60) (e3 : (g'.1 68 14) = nI m') (hW : zx_W g' m') (e4 : (g'.1 68 25) = nI o') (e5 : (g'.1 68 13) = nI q') : zk_L h0 g0 T n K LC h' g' LM j d' s m' o' q' := by
  obtain ⟨a1, a2, a3, a4, a5, a6⟩ := H
  obtain ⟨c1, c2, c3, c4, c5, c6, c7⟩ := a4
  obtain ⟨m1, m2, m3, m4, m5, m6, m7, m8, m9, m10, m11, m12, m13, m14, m15, m16, m17⟩ := a6
  have ff : zq_f h h' := zfr_w fh (by decide) (by decide) (by decide)
  refine ⟨zfr_trans a1 ff, zfr_trans a2 (zfr_w fg (by decide) (by decide) (by decide)), zq_S_f ff a3, ⟨(fh.1 _ _ (by decide)).trans c1, (fh.1 _ _ (by decide)).trans c2, (fh.1 _ _ (by decide)).trans c3, (fh.1 _ _ (by decide)).trans c4, e1, (fh.1 _ _ (by decide)).trans c6, c7⟩, a5, ⟨(fg.1 _ _ (by decide)).trans m1.1, m1.2.1, fun i hi => ?_⟩, (fg.1 _ _ (by decide)).trans m2, m3, (fg.1 _ _ (by decide)).trans m4, (fg.1 _ _ (by decide)).trans m5, (fg.1 _ _ (by decide)).trans m6, fun z => ⟨(fg.1 _ _ (by decide)).trans (m7 z).1, (m7 z).2⟩, fun z y => (fg.1 _ _ (by decide)).trans (m8 z y), zn_fr fg (by decide) (by decide) (by decide) m9, m10, m11, e2, hd, e3, hW, e4, e5⟩
  rw [fg.2.1 _ (by decide)]; exact m1.2.2 i hi
theorem zk_dd (H : zk_L h0 g0 T n K LC h g LM j d s m o q) : (h.1 19 7) = nI d ∧ (g.1 68 12) = nI d ∧ d ≤ 60 ∧ (g.1 68 14) = nI m ∧ zx_W g m ∧ (g.1 68 25) = nI o ∧ (g.1 68 13) = nI q := by
  obtain ⟨a1, a2, a3, a4, a5, a6⟩ := H
  obtain ⟨m1, m2, m3, m4, m5, m6, m7, m8, m9, m10, m11, m12, m13, m14, m15, m16, m17⟩ := a6
  exact ⟨a4.2.2.2.2.1, m12, m13, m14, m15, m16, m17⟩
/-- the token here is opened -/
theorem zk_deep (H : zk_L h0 g0 T n K LC h g LM j d s m o q) : ∃ h' g', f_Ps_deepen h = some h' ∧ f_Mo_open g = some g' ∧ ((d < 60 ∧ zk_L h0 g0 T n K LC h' g' LM j (d + 1) s m o q ∧ zfr [(19, 7)] [] [] h h' ∧ zfr [(68, 12)] [] [] g g') ∨ zk_B h0 g0 T n K LC m o h' g') := by
  obtain ⟨x1, x2, x3, x4, x5, x6, x7⟩ := zk_dd H
  have m2 := H.2.2.2.2.2.2.1
  have c1 := H.2.2.2.1.1
  unfold f_Ps_deepen f_Mo_open f_Ps_deepen_35 f_Mo_open_26
  rw [x1, x2, if_pos m2]
  by_cases c : d < 60
  · rw [if_pos ((zc_tl (k := 60) (by decide) (by omega)).mpr c), if_neg (fun z => by have := (zc_eq (k := 60) (by decide) (by omega)).mp z; omega), nI_1]
    have fh : zfr [(19, 7)] [] [] h (zs_uF h 19 7 (nI (d + 1))) := zfr_F (by decide) zfr_rfl
    have fg : zfr [(68, 12)] [] [] g (zs_uF g 68 12 (nI (d + 1))) := zfr_F (by decide) zfr_rfl
    exact ⟨_, _, rfl, rfl, Or.inl ⟨c, zk_hg H fh (zfr_w fg (by decide) (by decide) (by decide)) rfl rfl (by omega) x4 x5 x6 x7, fh, fg⟩⟩
  · have e60 : d = 60 := by omega
    rw [if_neg (mt (zc_tl (k := 60) (by decide) (by omega)).mp c), if_pos c1, if_pos (by rw [e60]; rfl)]
    obtain ⟨a1, a2, a3, a4, a5, a6⟩ := H
    obtain ⟨m1, _, m3, m4, m5, m6, m7, m8, m9, m10, m11, m12, m13, m14, m15, m16, m17⟩ := a6
    have hT := a3.2.2.2.2.2.2.2.2.1
    have hbs := zq_bs hT j (fun i hi => a3.2.2.2.1 i (by omega))
    have hkd := zl_tok_kd (n := n) (b := zl_bs T n j) hT hbs
    have hbn : (zl_at T n j).2.2.1 ≤ n := by
      by_cases c0 : (zl_at T n j).1 = 0
      · have := zl_tok_0 (b := zl_bs T n j) c0
        unfold zl_at; omega
      · exact (hkd.2.2.2.1 (fun z => z.elim c0 m3)).2
    have f := zl_ftf (g := g) (w := 7) (a := (zl_at T n j).2.1)
    have e : zl_ft g 7 (zl_at T n j).2.1 = zs_uF (zs_uF g 68 10 7) 68 11 (nI (zl_at T n j).2.1) := if_pos m2
    have ef : f_Mo_fail g 7 ((g.1 68 7)) = some (zl_ft g 7 (zl_at T n j).2.1) := zl_fail m4
    rw [ef, Option.bind_some]
    refine ⟨_, _, rfl, rfl, Or.inr ⟨7, (zl_at T n j).2.1, ?_, ?_⟩⟩
    · have fc : zq_f h (zs_uF (zs_uF (zs_uF (zs_uF h 19 3 7) 19 0 ((h.1 19 6))) 19 5 0) 19 7 ((h.1 19 7) + 1)) := zfr_F (by decide) (zfr_F (by decide) (zfr_F (by decide) (zfr_F (by decide) zfr_rfl)))
      exact ⟨zfr_trans a1 fc, zq_S_f fc a3, Or.inl ⟨rfl, a4.2.2.2.1, rfl, j, a5, a4.2.1⟩, by decide, by decide, s, a4.2.2.2.2.2.1, a4.2.2.2.2.2.2⟩
    · refine zx_uF ?_ (Or.inl rfl)
      refine ⟨zfr_trans a2 (zfr_w f (by decide) (by decide) (by decide)), ⟨(f.1 _ _ (by decide)).trans m1.1, m1.2.1, fun i hi => ?_⟩, a3.2.2.1, hT, by rw [e]; rfl, by rw [e]; rfl, by decide, ⟨LM, (zl_at T n j).2.2.1, zn_fr f (by decide) (by decide) (by decide) m9, (f.1 _ _ (by decide)).trans m5, hbn, m11⟩, (f.1 _ _ (by decide)).trans m14, ?_, o, (f.1 _ _ (by decide)).trans m16, Nat.le_refl o⟩
      · rw [f.2.1 _ (by decide)]; exact m1.2.2 i hi
      · unfold zx_W
        rw [f.2.1 _ (by decide), f.2.1 _ (by decide)]; exact m15
/-- it is closed -/
theorem zk_close (H : zk_L h0 g0 T n K LC h g LM j (d + 1) s m o q) : zk_L h0 g0 T n K LC (zs_uF h 19 7 ((h.1 19 7) - 1)) (zs_uF g 68 12 ((g.1 68 12) - 1)) LM j d s m o q := by
  obtain ⟨x1, x2, x3, x4, x5, x6, x7⟩ := zk_dd H
  have e : nI (d + 1) - 1 = nI d := by rw [show (1 : Int32) = nI 1 from rfl, zi_sub (by omega)]; rfl
  refine zk_hg H (zfr_F (by decide) zfr_rfl) (zfr_F (by decide) zfr_rfl) ?_ ?_ (by omega) x4 x5 x6 x7
  · rw [x1]; exact e
  · rw [x2]; exact e
/-- the model keeps an operand -/
theorem zk_keep (H : zk_L h0 g0 T n K LC h g LM j d s m o q) (ho : o < 200) (x : Int32) : ∃ g', f_Mo_keep g x = some g' ∧ zk_L h0 g0 T n K LC h g' LM j d s m (o + 1) q ∧ (g'.2.1 81) o = x ∧ zo_fr o g g' ∧ zfr [(68, 25)] [81] [] g g' := by
  obtain ⟨x1, x2, x3, x4, x5, x6, x7⟩ := zk_dd H
  unfold f_Mo_keep
  rw [x6, if_pos (zi_in (by omega) ho), nI_clamp (by omega), nI_1]
  have fg : zfr [(68, 25)] [81] [] g (zs_uF (zs_uM g 81 o x) 68 25 (nI (o + 1))) := zfr_F (by decide) (zfr_M (by decide) zfr_rfl)
  have ep : ∀ i, (zs_uF (zs_uM g 81 o x) 68 25 (nI (o + 1))).2.1 81 i = if i = o then x else (g.2.1 81) i := fun i => by simp [zu_FM, zu_MM]
  refine ⟨_, rfl, zk_hg H zfr_rfl (zfr_w fg (by decide) (by decide) (by decide)) x1 x2 x3 x4 x5 rfl x7, by rw [ep, if_pos rfl], fun i hi => ⟨by rw [ep, if_neg (by omega)], rfl, rfl⟩, fg⟩
/-- the model makes a node that hangs nowhere -/
theorem zk_mnode (H : zk_L h0 g0 T n K LC h g LM j d s m o q) {kn : Nat} {kd : Int32} (p v : Int32) (hm : m < 33500) (hk : kd = nI kn) : ∃ g', f_Mo_node g kd p v = some (nI m, g') ∧ zk_L h0 g0 T n K LC h g' LM j d s (m + 1) o q ∧ zx_N m kn p v g g' := by
  obtain ⟨x1, x2, x3, x4, x5, x6, x7⟩ := zk_dd H
  obtain ⟨g', e, q1⟩ := zx_node (p := p) (v := v) x4 hm hk
  have f := q1.2.2.2.2.2.2.2.2
  exact ⟨g', e, zk_hg H zfr_rfl (zfr_w f (by decide) (by decide) (by decide)) x1 ((f.1 _ _ (by decide)).trans x2) x3 q1.1 (zx_W_N x5 q1) ((f.1 _ _ (by decide)).trans x6) ((f.1 _ _ (by decide)).trans x7), q1⟩
end ZM
