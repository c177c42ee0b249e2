/-! The class's reader behind a fault. -/
def zq_Z (h0 : zs_H) (T : Nat → Int32) (n K : Nat) (LC : List (List Int32)) (φ w : Nat) (h : zs_H) : Prop := zq_f h0 h ∧ zq_S h T n K LC ∧ zq_B h T n K φ w
def zq_v (x : Int32) : Prop := ∃ i, i < 32784 ∧ x = nI i
def zq_vl (x : Int32) : Prop := x = -1 ∨ zq_v x
theorem zy_e (d : Nat) : f_Ps_expression (d + 1) = g_Ps_expression (f_Ps_expression d) (f_Ps_operand d) := rfl
theorem zy_o (d : Nat) : f_Ps_operand (d + 1) = g_Ps_operand (f_Ps_expression d) (f_Ps_namedOperand d) (f_Ps_operand d) := rfl
theorem zy_n (d : Nat) : f_Ps_namedOperand (d + 1) = g_Ps_namedOperand (f_Ps_expression d) := rfl
theorem zy_L {r : zs_H → Int32 → Option (Int32 × zs_H)} {h : zs_H} {x1 x2 x4 : Int32} : f_Ps_expression_L13 r zF h x1 x2 (-1) x4 = some (x2, h) := by
  rw [zF_9]
  show f_Ps_expression_13 r (f_Ps_expression_L13 r (18446744073709551607 + 8)) h x1 x2 (-1) x4 = _
  unfold f_Ps_expression_13
  rw [if_pos (show (-1 : Int32) < 0 by decide)]
  split <;> rfl
section ZU
variable {h0 h : zs_H} {T : Nat → Int32} {n K φ w : Nat} {LC : List (List Int32)}
theorem zq_tk (H : zq_Z h0 T n K LC φ w h) : (h.1 19 5) = 0 ∨ (h.1 19 5) = 7 := by
  rcases H.2.2.1 with a | a
  · exact Or.inl a.2.2.1
  · exact Or.inr a.2.1
theorem zq_ne (H : zq_Z h0 T n K LC φ w h) {x : Int32} (h1 : ¬ x = 0) (h2 : ¬ x = 7) : ¬ (h.1 19 5) = x := by
  intro q
  rcases zq_tk H with a | a
  · exact h1 (q.symm.trans a)
  · exact h2 (q.symm.trans a)
theorem zq_at (H : zq_Z h0 T n K LC φ w h) : zd_in ((h.1 19 4)) 16385 := by
  have hK := H.2.1.2.1
  have hn := H.2.1.2.2.1
  rcases H.2.2.1 with ⟨_, _, _, j, a1, a2⟩ | a
  · rw [a2]; exact zi_in (by omega) (by omega)
  · rw [a.2.2.1]; exact zi_in (by omega) (by omega)
theorem zz_take {x : Int32} (H : zq_Z h0 T n K LC φ w h) : zw (f_Ps_take h x) (zq_Z h0 T n K LC φ w) :=
  zw_mono (bkc_take H.2.1 H.2.2) fun h' q => ⟨zfr_trans H.1 q.2, zq_S_f q.2 H.2.1, q.1⟩
theorem zz_add {x1 x2 x3 : Int32} (H : zq_Z h0 T n K LC φ w h) : zw (f_Tr_add h x1 x2 x3) (fun p => zq_v p.1 ∧ zq_Z h0 T n K LC φ w p.2) :=
  zw_mono (bkc_add H.2.2) fun p q => ⟨q.1, zfr_trans H.1 q.2.2, zq_S_f q.2.2 H.2.1, q.2.1⟩
theorem zz_hang {x1 x2 x3 : Int32} (H : zq_Z h0 T n K LC φ w h) (h1 : zq_v x1) (h2 : zq_vl x2) (h3 : zq_v x3) : zw (f_Tr_hang h x1 x2 x3) (fun p => zq_v p.1 ∧ zq_Z h0 T n K LC φ w p.2) := by
  obtain ⟨a, ha, rfl⟩ := h1
  exact zw_mono (bkc_hang H.2.2 ha h2) fun p q => ⟨by rw [q.1]; exact h3, zfr_trans H.1 q.2.2, zq_S_f q.2.2 H.2.1, q.2.1⟩
theorem zz_uM {k j : Nat} {v : Int32} (H : zq_Z h0 T n K LC φ w h) (m : k ∈ zq_ms) : zq_Z h0 T n K LC φ w (zs_uM h k j v) := by
  have f : zq_f h (zs_uM h k j v) := zfr_M m zfr_rfl
  exact ⟨zfr_trans H.1 f, zq_S_f f H.2.1, H.2.2⟩
theorem zz_open {v : Int32} (H : zq_Z h0 T n K LC φ w h) : zq_Z h0 T n K LC φ w (zs_uF h 19 7 v) := by
  have f : zq_f h (zs_uF h 19 7 v) := zfr_F (by decide) zfr_rfl
  exact ⟨zfr_trans H.1 f, zq_S_f f H.2.1, H.2.2⟩
theorem zz_simpleType (H : zq_Z h0 T n K LC φ w h) : zw (f_Ps_simpleType h) (fun p => zq_v p.1 ∧ zq_Z h0 T n K LC φ w p.2) := by
  have key : ∀ (g : zs_H) (x y : Int32), zq_Z h0 T n K LC φ w g → zq_v x → zw (f_Ps_simpleType_61 g x y) (fun p => zq_v p.1 ∧ zq_Z h0 T n K LC φ w p.2) := by
    intro g x y Hg hx
    unfold f_Ps_simpleType_61
    rw [zw_bind]
    exact zw_mono (zz_take Hg) fun g' q => zw_some.mpr ⟨hx, q⟩
  unfold f_Ps_simpleType f_Ps_simpleType_46 f_Ps_simpleType_47
  rw [zw_B]
  refine zw_mono (zz_add H) fun p q => ?_
  repeat' split
  all_goals exact key _ _ _ q.2 q.1
theorem zz_constant (H : zq_Z h0 T n K LC φ w h) : zw (f_Ps_constant h) (fun p => zq_v p.1 ∧ zq_Z h0 T n K LC φ w p.2) := by
  unfold f_Ps_constant
  rw [if_neg (zq_ne H (by decide) (by decide)), if_neg (zq_ne H (by decide) (by decide)), zw_B]
  refine zw_mono (zz_add H) fun p q => ?_
  rw [if_neg (zq_ne q.2 (by decide) (by decide))]
  unfold f_Ps_constant_88 f_Ps_constant_99 f_Ps_constant_139
  rw [if_pos rfl, if_pos rfl, if_pos (zq_at q.2)]
  obtain ⟨⟨i, hi, e⟩, q2⟩ := q
  rw [e, if_pos (zi_in (by omega) hi), zw_bind]
  exact zw_mono (zz_take (zz_uM q2 (by decide))) fun g' z => zw_some.mpr ⟨⟨i, hi, rfl⟩, z⟩
theorem zz_type (H : zq_Z h0 T n K LC φ w h) : zw (f_Ps_type h) (fun p => zq_v p.1 ∧ zq_Z h0 T n K LC φ w p.2) := by
  unfold f_Ps_type
  rw [if_neg (zq_ne H (by decide) (by decide)), if_neg (zq_ne H (by decide) (by decide)), zw_B]
  exact zw_mono (zz_simpleType H) fun p q => zw_some.mpr q
theorem zz_operator (H : zq_Z h0 T n K LC φ w h) : f_Ps_operator h = -1 := by
  unfold f_Ps_operator
  iterate 15 rw [if_neg (zq_ne H (by decide) (by decide))]
theorem zz_operand {d : Nat} (H : zq_Z h0 T n K LC φ w h) : zw (f_Ps_operand (d + 1) h) (fun p => zq_v p.1 ∧ zq_Z h0 T n K LC φ w p.2) := by
  rw [zy_o]
  unfold g_Ps_operand
  rw [if_neg (zq_ne H (by decide) (by decide)), if_neg (zq_ne H (by decide) (by decide)), if_neg (zq_ne H (by decide) (by decide)), if_neg (zq_ne H (by decide) (by decide)), if_neg (zq_ne H (by decide) (by decide)), if_neg (zq_ne H (by decide) (by decide)), if_pos (zq_at H), zw_B]
  refine zw_mono (zz_add H) fun p q => ?_
  rw [zw_bind]
  exact zw_mono (zz_take q.2) fun g' z => zw_some.mpr ⟨q.1, z⟩
theorem zz_expression {d : Nat} {x : Int32} (H : zq_Z h0 T n K LC φ w h) : zw (f_Ps_expression (d + 2) h x) (fun p => zq_v p.1 ∧ zq_Z h0 T n K LC φ w p.2) := by
  rw [zy_e]
  unfold g_Ps_expression
  rw [zw_B]
  refine zw_mono (zz_operand H) fun p q => ?_
  rw [zz_operator q.2, zy_L, zw_some]
  exact q
theorem zz_whole (H : zq_Z h0 T n K LC φ w h) : zw (f_Ps_wholeExpression h) (fun p => zq_v p.1 ∧ zq_Z h0 T n K LC φ w p.2) := by
  unfold f_Ps_wholeExpression
  rw [zw_B]
  exact zw_mono (zz_expression (d := 398) H) fun p q => zw_some.mpr ⟨q.1, zz_open q.2⟩
end ZU
