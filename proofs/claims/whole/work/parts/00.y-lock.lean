/-! Both readers in step: going on by a token, or a fault. -/
/-- the model's reader at token j, without a fault: d open ones, m nodes, o operands, q expressions -/
def zk_M (g : zs_H) (T : Nat → Int32) (n : Nat) (LM : List (List Int32)) (j d m o q : Nat) : Prop := zl_X g T n ∧ (g.1 68 10) = 0 ∧ ¬ (zl_at T n j).1 = 9 ∧ (g.1 68 7) = nI (zl_at T n j).2.1 ∧ (g.1 68 8) = nI (zl_at T n j).2.2.1 ∧ (g.1 68 6) = nI (zl_at T n j).1 ∧ ((zl_at T n j).1 = 1 → (g.1 68 9) = nI (LM.idxOf (zl_cn T n j)) ∧ zl_cn T n j ∈ LM) ∧ (¬ (zl_at T n j).1 = 1 → ¬ (zl_at T n j).1 = 0 → (g.1 68 9) = nI (zl_at T n j).2.2.2) ∧ zn_M g LM ∧ LM.Nodup ∧ zl_J T n (zl_at T n j).2.2.1 LM.length ∧ (g.1 68 12) = nI d ∧ d ≤ 60 ∧ (g.1 68 14) = nI m ∧ zx_W g m ∧ (g.1 68 25) = nI o ∧ (g.1 68 13) = nI q
/-- both in step -/
def zk_L (h0 g0 : zs_H) (T : Nat → Int32) (n K : Nat) (LC : List (List Int32)) (h g : zs_H) (LM : List (List Int32)) (j d s m o q : Nat) : Prop := zq_f h0 h ∧ zx_f g0 g ∧ zq_S h T n K LC ∧ zq_C h T n j d s ∧ j ≤ K ∧ zk_M g T n LM j d m o q
/-- both behind the same fault -/
def zk_B (h0 g0 : zs_H) (T : Nat → Int32) (n K : Nat) (LC : List (List Int32)) (m O : Nat) (h g : zs_H) : Prop := ∃ φ w, zq_Z h0 T n K LC φ w h ∧ zx_B g0 T n φ w m O g
abbrev zk_lx : List (Nat × Nat) := [(68, 3), (68, 6), (68, 7), (68, 8), (68, 9), (68, 10), (68, 11)]
theorem zq_bs {T : Nat → Int32} {n : Nat} (hT : ∀ i, zb_ok (T i)) : ∀ j, (∀ i, i < j → ¬ zq_fin T n i) → zl_bs T n j ≤ n := by
  intro j
  induction j with
  | zero => intro _; exact Nat.zero_le n
  | succ j ih =>
    intro h
    have hk := zl_tok_kd (n := n) (b := zl_bs T n j) hT (ih fun i hi => h i (by omega))
    exact (hk.2.2.2.1 (h j (by omega))).2
section ZY
variable {h0 g0 h g : zs_H} {T : Nat → Int32} {n K : Nat} {LC LM : List (List Int32)} {j d s m o q : Nat}
theorem zk_F (H : zk_L h0 g0 T n K LC h g LM j d s m o q) : zl_F (zl_at T n j) := zl_Ftok H.2.2.1.2.2.2.2.2.2.2.2.1
theorem zk_tok (H : zk_L h0 g0 T n K LC h g LM j d s m o q) {x : Nat} (hx : x < 200) : (h.1 19 5) = nI x ↔ zl_ck (zl_at T n j) = x := by
  have hF := (zl_ckA (zk_F H)).2.2.2.2.2.2.2.2.1
  rw [H.2.2.2.1.2.2.1]
  exact nI_eq (by omega) (by omega)
theorem zk_lt (H : zk_L h0 g0 T n K LC h g LM j d s m o q) (hE : ¬ (zl_at T n j).1 = 0) : j < K := by
  have h1 := H.2.2.2.2.1
  have h2 := H.2.2.2.2.2.2.2.1
  have h3 := H.2.2.1.2.2.2.2.1
  refine Nat.lt_of_le_of_ne h1 fun e => ?_
  subst e
  rcases h3 with a | a
  · exact hE a
  · exact h2 a
theorem zk_bs (H : zk_L h0 g0 T n K LC h g LM j d s m o q) : zl_bs T n (j + 1) = (zl_at T n j).2.2.1 := rfl
/-- both go on -/
theorem zk_step (H : zk_L h0 g0 T n K LC h g LM j d s m o q) (hE : ¬ (zl_at T n j).1 = 0) : ∃ h' g', f_Ps_take h ((h.1 19 5)) = some h' ∧ f_Mo_next g = some g' ∧ zfr [(19, 4), (19, 5), (19, 6)] [] [] h h' ∧ zfr zk_lx [70, 71] [] g g' ∧ ((∃ LM', LM <+: LM' ∧ zk_L h0 g0 T n K LC h' g' LM' (j + 1) d s m o q) ∨ zk_B h0 g0 T n K LC m o h' g') := by
  have hlt := zk_lt H hE
  have hF1 : zl_F (zl_at T n (j + 1)) := zl_Ftok H.2.2.1.2.2.2.2.2.2.2.2.1
  obtain ⟨a1, a2, a3, a4, a5, a6⟩ := H
  obtain ⟨h', e1, e2, e3⟩ := zq_take1 a3 a4 hlt
  have hf : zq_f h h' := zfr_w e3 (by decide) (by decide) (by decide)
  have hS' := zq_S_f hf a3
  obtain ⟨m1, m2, m3, m4, m5, m6, m7, m8, m9, m10, m11, m12, m13, m14, m15, m16, m17⟩ := a6
  have hT := a3.2.2.2.2.2.2.2.2.1
  have hn := a3.2.2.1
  have hkd := zl_tok_kd (n := n) (b := zl_bs T n j) hT (zq_bs hT j (fun i hi => a3.2.2.2.1 i (by omega)))
  have hb : (zl_at T n j).2.2.1 ≤ n := (hkd.2.2.2.1 (fun z => z.elim hE m3)).2
  obtain ⟨g', e4, q1, q2, q3⟩ := zl_next m1 hT m5 hb m9 (by have := m11.1; omega)
  have hX : zl_X g' T n := by
    refine ⟨(q1.1 _ _ (by decide)).trans m1.1, m1.2.1, fun i hi => ?_⟩
    rw [q1.2.1 _ (by decide)]; exact m1.2.2 i hi
  have hW : zx_W g' m := by
    unfold zx_W
    rw [q1.2.1 _ (by decide), q1.2.1 _ (by decide)]; exact m15
  have fr : zx_f g0 g' := zfr_trans a2 (zfr_w q1 (by decide) (by decide) (by decide))
  have hkd1 := zl_tok_kd (n := n) (b := (zl_at T n j).2.2.1) hT hb
  refine ⟨h', g', by rw [a4.2.2.1]; exact e1, e4, e3, q1, ?_⟩
  have eat : zl_tok T n (zl_at T n j).2.2.1 = zl_at T n (j + 1) := rfl
  rw [eat] at q2 q3 hkd1
  by_cases c : (zl_at T n (j + 1)).1 = 9
  · refine Or.inr ⟨(zl_at T n (j + 1)).2.2.2, (zl_at T n (j + 1)).2.1, ?_, ?_⟩
    · have hK : j + 1 = K := by
        refine Nat.le_antisymm hlt (Nat.le_of_not_lt fun z => ?_)
        exact a3.2.2.2.1 (j + 1) z (Or.inr c)
      obtain ⟨c1, c2, c3, c4, c5, c6, c7⟩ := e2
      refine ⟨zfr_trans a1 hf, hS', Or.inr ⟨c1, ?_, by rw [c2, hK], c4, by rw [← hK]; exact c, by rw [← hK]⟩, (hF1.2.2.2 c).1, by have := (hF1.2.2.2 c).2; omega, s, c6, c7⟩
      rw [c3, ((zl_ckA hF1).2.2.2.2.1).mpr c]; rfl
    · obtain ⟨q4, q5, q6, b', q7, q8, q9⟩ := q2 c
      obtain ⟨q10, q11⟩ := q4 m2
      exact ⟨fr, hX, hn, hT, q10, q11, ⟨(hF1.2.2.2 c).1, by have := (hF1.2.2.2 c).2; omega⟩, ⟨LM, b', q6, q7, q8, zl_J_up m11 q9⟩, (q1.1 _ _ (by decide)).trans m14, hW, o, (q1.1 _ _ (by decide)).trans m16, Nat.le_refl o⟩
  · obtain ⟨q4, q5, q6, q7, q8, q9, q10⟩ := q3 c
    have hbb : (zl_at T n j).2.2.1 ≤ (zl_at T n (j + 1)).2.2.1 := by
      by_cases c0 : (zl_at T n (j + 1)).1 = 0
      · have := zl_tok_0 (b := (zl_at T n j).2.2.1) c0
        rw [eat] at this; omega
      · have h1 := (hkd1.2.2.2.1 (fun z => z.elim c0 c)).1
        have h2 := hkd1.1
        omega
    by_cases c1 : (zl_at T n (j + 1)).1 = 1
    · obtain ⟨q11, q12⟩ := q9 c1
      have ecn : zl_nm T n (zl_at T n (j + 1)).2.1 (zl_at T n (j + 1)).2.2.1 = zl_cn T n (j + 1) := rfl
      rw [ecn] at q11 q12
      refine Or.inl ⟨if zl_cn T n (j + 1) ∈ LM then LM else LM ++ [zl_cn T n (j + 1)], ?_, zfr_trans a1 hf, fr, hS', e2, by omega, hX, q4.trans m2, c, q6, q7, q8, fun _ => ?_, fun z => absurd c1 z, q12, ?_, ?_, (q1.1 _ _ (by decide)).trans m12, m13, (q1.1 _ _ (by decide)).trans m14, hW, (q1.1 _ _ (by decide)).trans m16, (q1.1 _ _ (by decide)).trans m17⟩
      · split
        · exact List.prefix_refl _
        · exact List.prefix_append _ _
      · by_cases z : zl_cn T n (j + 1) ∈ LM
        · rw [if_pos z]; exact ⟨q11, z⟩
        · rw [if_neg z]; exact ⟨by rw [zl_idxn z]; exact q11, List.mem_append_right _ (List.mem_singleton.mpr rfl)⟩
      · split
        · exact m10
        · rename_i z
          refine List.nodup_append.mpr ⟨m10, List.nodup_cons.mpr ⟨List.not_mem_nil, List.nodup_nil⟩, fun a ha b hb e => ?_⟩
          rw [List.mem_singleton.mp hb] at e
          exact z (e ▸ ha)
      · split
        · exact zl_J_up m11 hbb
        · rw [List.length_append]; exact zl_J_nm hT hb m11 c1
    · refine Or.inl ⟨LM, List.prefix_refl _, zfr_trans a1 hf, fr, hS', e2, by omega, hX, q4.trans m2, c, q6, q7, q8, fun z => absurd z c1, fun _ z => (q10 c1).2 z, (q10 c1).1, m10, zl_J_up m11 hbb, (q1.1 _ _ (by decide)).trans m12, m13, (q1.1 _ _ (by decide)).trans m14, hW, (q1.1 _ _ (by decide)).trans m16, (q1.1 _ _ (by decide)).trans m17⟩
/-- the token can't come -/
theorem zk_wrong (H : zk_L h0 g0 T n K LC h g LM j d s m o q) {x : Int32} (hx : ¬ (h.1 19 5) = x) : ∃ h' g', f_Ps_take h x = some h' ∧ f_Mo_wrong g = some g' ∧ zk_B h0 g0 T n K LC m o h' g' := by
  have hF := zk_F H
  obtain ⟨a1, a2, a3, a4, a5, a6⟩ := H
  obtain ⟨m1, m2, m3, m4, m5, m6, m7, m8, m9, m10, m11, m12, m13, m14, m15, m16, m17⟩ := a6
  have hT := a3.2.2.2.2.2.2.2.2.1
  have h7 : ¬ nI (zl_ck (zl_at T n j)) = 7 := fun z => m3 (((zl_ckA hF).2.2.2.2.1).mp ((zc_eq (k := 7) (by decide) (by have := (zl_ckA hF).2.2.2.2.2.2.2.2.1; omega)).mp z))
  obtain ⟨h', e1, e2, e3⟩ := zq_take2 (x := x) a3 a4 a5 (by rw [← a4.2.2.1]; exact hx) h7
  have hbs := zq_bs hT j (fun i hi => a3.2.2.2.1 i (by omega))
  have hkd := zl_tok_kd (n := n) (b := zl_bs T n j) hT hbs
  have hbn : (zl_at T n j).2.2.1 ≤ n := by
    by_cases c0 : (zl_at T n j).1 = 0
    · have := zl_tok_0 (b := zl_bs T n j) c0
      unfold zl_at; omega
    · exact (hkd.2.2.2.1 (fun z => z.elim c0 m3)).2
  refine ⟨h', zl_ft g 6 (zl_at T n j).2.1, e1, ?_, 6, (zl_at T n j).2.1, ⟨zfr_trans a1 e3, zq_S_f e3 a3, e2⟩, ?_⟩
  · unfold f_Mo_wrong
    rw [zl_fail m4]; rfl
  · have f := zl_ftf (g := g) (w := 6) (a := (zl_at T n j).2.1)
    have e : zl_ft g 6 (zl_at T n j).2.1 = zs_uF (zs_uF g 68 10 6) 68 11 (nI (zl_at T n j).2.1) := if_pos m2
    refine ⟨zfr_trans a2 (zfr_w f (by decide) (by decide) (by decide)), ?_, a3.2.2.1, hT, by rw [e]; rfl, by rw [e]; rfl, by decide, ⟨LM, (zl_at T n j).2.2.1, zn_fr f (by decide) (by decide) (by decide) m9, (f.1 _ _ (by decide)).trans m5, hbn, m11⟩, (f.1 _ _ (by decide)).trans m14, ?_, o, (f.1 _ _ (by decide)).trans m16, Nat.le_refl o⟩
    · refine ⟨(f.1 _ _ (by decide)).trans m1.1, m1.2.1, fun i hi => ?_⟩
      rw [f.2.1 _ (by decide)]; exact m1.2.2 i hi
    · unfold zx_W
      rw [f.2.1 _ (by decide), f.2.1 _ (by decide)]; exact m15
end ZY
