/-! Nodes of the model; both readers in step. -/
/-- a node of the model -/
def zx_N (m kd : Nat) (p v : Int32) (g g' : zs_H) : Prop := (g'.1 68 14) = nI (m + 1) ∧ (∀ j, (g'.2.1 72) j = if j = m then nI kd else (g.2.1 72) j) ∧ (∀ j, (g'.2.1 73) j = if j = m then p else (g.2.1 73) j) ∧ (∀ j, (g'.2.1 74) j = if j = m then v else (g.2.1 74) j) ∧ (∀ j, (g'.2.1 75) j = if j = m then -1 else (g.2.1 75) j) ∧ (∀ j, (g'.2.1 76) j = if j = m then -1 else (g.2.1 76) j) ∧ (∀ j, (g'.2.1 77) j = if j = m then -1 else (g.2.1 77) j) ∧ (∀ j, (g'.2.1 78) j = if j = m then -1 else (g.2.1 78) j) ∧ zfr [(68, 14)] [72, 73, 74, 75, 76, 77, 78] [] g g'
theorem zx_node {g : zs_H} {m : Nat} {kd p v : Int32} {kn : Nat} (Hm : (g.1 68 14) = nI m) (hm : m < 33500) (hk : kd = nI kn) : ∃ g', f_Mo_node g kd p v = some (nI m, g') ∧ zx_N m kn p v g g' := by
  unfold f_Mo_node
  rw [Hm, if_pos (zi_in (by omega) hm), nI_clamp (by omega), nI_1, hk]
  refine ⟨_, rfl, rfl, fun j => ?_, fun j => ?_, fun j => ?_, fun j => ?_, fun j => ?_, fun j => ?_, fun j => ?_, zfr_M (by decide) (zfr_M (by decide) (zfr_M (by decide) (zfr_M (by decide) (zfr_M (by decide) (zfr_M (by decide) (zfr_M (by decide) (zfr_F (by decide) zfr_rfl)))))))⟩
  all_goals simp [zu_FM, zu_MM]
theorem zx_W_N {g g' : zs_H} {m kd : Nat} {p v : Int32} (H : zx_W g m) (q : zx_N m kd p v g g') : zx_W g' (m + 1) := by
  obtain ⟨q1, q2, q3, q4, q5, q6, q7, q8, q9⟩ := q
  intro i hi
  rw [q6 i, q7 i]
  by_cases e : i = m
  · rw [if_pos e]; exact Or.inl rfl
  · rw [if_neg e, if_neg e]
    rcases H i (by omega) with a | ⟨⟨a, a1, a2⟩, b, b1, b2⟩
    · exact Or.inl a
    · exact Or.inr ⟨⟨a, by omega, a2⟩, b, by omega, b2⟩
/-- hanging a node: what becomes of the arrays -/
def zx_H (a b : Nat) (g g' : zs_H) : Prop := (∀ j, (g'.2.1 75) j = if j = a then nI b else (g.2.1 75) j) ∧ (∀ j, (g'.2.1 77) j = if j = b then nI a else (g.2.1 77) j) ∧ (((g.2.1 76) b = -1 ∧ (∀ j, (g'.2.1 76) j = if j = b then nI a else (g.2.1 76) j) ∧ (∀ j, (g'.2.1 78) j = (g.2.1 78) j)) ∨ (¬ (g.2.1 76) b = -1 ∧ (∀ j, (g'.2.1 76) j = (g.2.1 76) j) ∧ ∃ c, c < 40000 ∧ (g.2.1 77) b = nI c ∧ ∀ j, (g'.2.1 78) j = if j = c then nI a else (g.2.1 78) j)) ∧ zfr [] [75, 77, 76, 78] [] g g'
theorem zx_hang {g : zs_H} {m a b : Nat} (hm : m ≤ 33500) (ha : a < m) (hb : b < m) (HW : zx_W g m) : ∃ g', f_Mo_hang g (nI a) (nI b) = some g' ∧ zx_H a b g g' ∧ zx_W g' m := by
  have h31 : ∀ g1 : zs_H, f_Mo_hang_31 g1 (nI a) (nI b) = some (zs_uM (zs_uM g1 77 b (nI a)) 75 a (nI b)) := by
    intro g1
    unfold f_Mo_hang_31
    rw [if_pos (zi_in (by omega) (by omega)), if_pos (zi_in (by omega) (by omega)), nI_clamp (by omega), nI_clamp (by omega)]
  unfold f_Mo_hang
  rw [if_pos (zi_in (by omega) (by omega)), nI_clamp (by omega)]
  rcases HW b hb with e | ⟨⟨c, c1, c2⟩, c', c3, c4⟩
  · rw [e, if_neg (by decide), h31]
    refine ⟨_, rfl, ⟨fun j => ?_, fun j => ?_, Or.inl ⟨e, fun j => ?_, fun j => ?_⟩, zfr_M (by decide) (zfr_M (by decide) (zfr_M (by decide) zfr_rfl))⟩, ?_⟩
    · simp [zu_MM]
    · simp [zu_MM]
    · simp [zu_MM]
    · simp [zu_MM]
    · intro i hi
      simp only [zu_MM, reduceCtorEq, Nat.reduceEqDiff, false_and, if_false, true_and]
      by_cases ei : i = b
      · rw [if_pos ei, if_pos ei]; exact Or.inr ⟨⟨a, ha, rfl⟩, a, ha, rfl⟩
      · rw [if_neg ei, if_neg ei]; exact HW i hi
  · have hne : ¬ (g.2.1 76) b = -1 := by rw [c2]; exact zc_m1 (by omega)
    rw [c2, if_pos (nI_pos' (by omega)), c4, if_pos (zi_in (by omega) (by omega)), nI_clamp (by omega), h31]
    refine ⟨_, rfl, ⟨fun j => ?_, fun j => ?_, Or.inr ⟨hne, fun j => ?_, c', by omega, c4, fun j => ?_⟩, zfr_M (by decide) (zfr_M (by decide) (zfr_M (by decide) zfr_rfl))⟩, ?_⟩
    · simp [zu_MM]
    · simp [zu_MM]
    · simp [zu_MM]
    · simp [zu_MM]
    · intro i hi
      simp only [zu_MM, reduceCtorEq, Nat.reduceEqDiff, false_and, if_false, true_and]
      by_cases ei : i = b
      · rw [if_pos ei, ei]; exact Or.inr ⟨⟨c, c1, c2⟩, a, ha, rfl⟩
      · rw [if_neg ei]; exact HW i hi
section ZW
variable {g0 g : zs_H} {T : Nat → Int32} {n φ w m O : Nat}
theorem zxb_node {kd p v : Int32} {kn : Nat} (H : zx_B g0 T n φ w m O g) (hm : m < 33500) (hk : kd = nI kn) : zw (f_Mo_node g kd p v) (fun q => q.1 = nI m ∧ zx_B g0 T n φ w (m + 1) O q.2) := by
  obtain ⟨h2, h3, h4, h5, h6, h7, h8, ⟨LM, b, b1, b2, b3, b4⟩, h9, h10, o, h11, h12⟩ := H
  obtain ⟨g', e, q⟩ := zx_node (p := p) (v := v) h9 hm hk
  have hW := zx_W_N h10 q
  obtain ⟨q1, q2, q3, q4, q5, q6, q7, q8, q9⟩ := q
  refine ⟨_, e, rfl, zfr_trans h2 (zfr_w q9 (by decide) (by decide) (by decide)), ⟨(q9.1 _ _ (by decide)).trans h3.1, h3.2.1, fun i hi => ?_⟩, h4, h5, (q9.1 _ _ (by decide)).trans h6, (q9.1 _ _ (by decide)).trans h7, h8, ⟨LM, b, zn_fr q9 (by decide) (by decide) (by decide) b1, (q9.1 _ _ (by decide)).trans b2, b3, b4⟩, q1, hW, o, (q9.1 _ _ (by decide)).trans h11, h12⟩
  show g'.2.1 69 i = T i
  rw [q9.2.1 _ (by decide)]; exact h3.2.2 i hi
theorem zxb_hang {a b : Nat} (H : zx_B g0 T n φ w m O g) (hm : m ≤ 33500) (ha : a < m) (hb : b < m) : zw (f_Mo_hang g (nI a) (nI b)) (zx_B g0 T n φ w m O) := by
  obtain ⟨h2, h3, h4, h5, h6, h7, h8, ⟨LM, b', b1, b2, b3, b4⟩, h9, h10, o, h11, h12⟩ := H
  obtain ⟨g', e, q, hW⟩ := zx_hang hm ha hb h10
  have q9 := q.2.2.2
  refine ⟨_, e, zfr_trans h2 (zfr_w q9 (by decide) (by decide) (by decide)), ⟨(q9.1 _ _ (by decide)).trans h3.1, h3.2.1, fun i hi => ?_⟩, h4, h5, (q9.1 _ _ (by decide)).trans h6, (q9.1 _ _ (by decide)).trans h7, h8, ⟨LM, b', zn_fr q9 (by decide) (by decide) (by decide) b1, (q9.1 _ _ (by decide)).trans b2, b3, b4⟩, (q9.1 _ _ (by decide)).trans h9, hW, o, (q9.1 _ _ (by decide)).trans h11, h12⟩
  rw [q9.2.1 _ (by decide)]; exact h3.2.2 i hi
theorem zxb_add {kd p v : Int32} {kn b : Nat} (H : zx_B g0 T n φ w m O g) (hm : m < 33500) (hk : kd = nI kn) (hb : b < m) : zw (f_Mo_add g (nI b) kd p v) (fun q => q.1 = nI m ∧ zx_B g0 T n φ w (m + 1) O q.2) := by
  unfold f_Mo_add
  rw [zw_B]
  refine zw_mono (zxb_node H hm hk) fun q z => ?_
  rw [z.1, zw_bind]
  exact zw_mono (zxb_hang z.2 (by omega) (by omega) (by omega)) fun g' y => zw_some.mpr ⟨rfl, y⟩
theorem zxb_keep {x : Int32} (H : zx_B g0 T n φ w m O g) (hO : O < 200) : zw (f_Mo_keep g x) (zx_B g0 T n φ w m (O + 1)) := by
  obtain ⟨h2, h3, h4, h5, h6, h7, h8, h9, h10, h11, o, h12, h13⟩ := H
  unfold f_Mo_keep
  rw [h12, if_pos (zi_in (by omega) (by omega)), nI_1, zw_some]
  exact ⟨zfr_F (by decide) (zfr_M (by decide) h2), h3, h4, h5, h6, h7, h8, h9, h10, h11, o + 1, rfl, by omega⟩
theorem zxb_uM {k j : Nat} {v : Int32} (H : zx_B g0 T n φ w m O g) (hk : k = 73 ∨ k = 74 ∨ k = 75) : zx_B g0 T n φ w m O (zs_uM g k j v) := by
  obtain ⟨h2, h3, h4, h5, h6, h7, h8, h9, h10, h11, h12⟩ := H
  rcases hk with e | e | e <;> subst e <;> exact ⟨zfr_M (by decide) h2, h3, h4, h5, h6, h7, h8, h9, h10, h11, h12⟩
theorem zxb_expression {d : Nat} {x : Int32} (H : zx_B g0 T n φ w m O g) : f_Mo_expression (d + 1) g x = some g := by
  show g_Mo_expression (f_Mo_operand d) g x = _
  unfold g_Mo_expression
  rw [if_neg (zx_pos H)]
theorem zxb_operand {d : Nat} (H : zx_B g0 T n φ w m O g) : f_Mo_operand (d + 1) g = some g := by
  show g_Mo_operand (f_Mo_bracket d) (f_Mo_nameOperand d) (f_Mo_operand d) g = _
  unfold g_Mo_operand
  rw [if_neg (zx_pos H)]
end ZW
