/-! The coder: a rung, on both sides. -/
abbrev yU_F : List (Nat × Nat) := [(41, 5), (47, 4), (47, 6), (47, 10), (47, 11)]
abbrev yU_M : List Nat := [42, 43, 44, 45, 48, 49, 50]
/-- a part of a unit has been coded -/
def yC_U (n : Nat) (L : List yI) (h h' : zs_H) : Prop := (h'.1 41 5) = nI (n + L.length) ∧ zfr yU_F yU_M [] h h' ∧ (n + L.length ≤ 4000 → (∀ j, j < n → ∀ a, a ∈ yC_w → h'.2.1 a j = h.2.1 a j) ∧ ∀ k i, L[k]? = some i → yC_m h' (n + k) i)
section YUL
variable {n : Nat} {L L1 L2 : List yI} {h h1 h2 h' : zs_H}
theorem yC_UE (E : yC_E n L h h') : yC_U n L h h' := ⟨E.1, zfr_w E.2.1 (by decide) (by decide) (by decide), E.2.2⟩
theorem yC_U0 (es : (h.1 41 5) = nI n) (f : zfr yU_F yU_M [] h h') (e1 : (h'.1 41 5) = (h.1 41 5)) (e2 : ∀ a, a ∈ yC_w → h'.2.1 a = h.2.1 a) : yC_U n [] h h' := ⟨e1.trans es, f, fun _ => ⟨fun j _ a ha => by rw [e2 a ha], fun k i e => by cases e⟩⟩
theorem yC_Uap (A : yC_U n L1 h h1) (B : yC_U (n + L1.length) L2 h1 h2) : yC_U n (L1 ++ L2) h h2 := by
  obtain ⟨a1, a2, a3⟩ := A
  obtain ⟨b1, b2, b3⟩ := B
  have el : n + (L1 ++ L2).length = n + L1.length + L2.length := by rw [List.length_append]; omega
  refine ⟨by rw [el]; exact b1, zfr_trans a2 b2, fun h4 => ?_⟩
  rw [el] at h4
  obtain ⟨c1, c2⟩ := a3 (by omega)
  obtain ⟨d1, d2⟩ := b3 h4
  refine ⟨fun j hj a ha => (d1 j (by omega) a ha).trans (c1 j hj a ha), fun k i e => ?_⟩
  rw [List.getElem?_append] at e
  by_cases z : k < L1.length
  · rw [if_pos z] at e
    have m0 := c2 k i e
    have hd := fun a ha => d1 (n + k) (by omega) a ha
    unfold yC_m at m0 ⊢
    rw [hd _ (by decide), hd _ (by decide), hd _ (by decide), hd _ (by decide)]
    exact m0
  · rw [if_neg z] at e
    have := d2 _ i e
    rw [show n + L1.length + (k - L1.length) = n + k by omega] at this
    exact this
end YUL
section YUM
variable {h0 g0 h g : zs_H} {m pw ow i k b s v kk : Nat} {l : zt_T} {rows : List (List yT)}
/-- the form of the rows -/
def yu_F (m : Nat) (rows : List (List yT)) : Prop := (1 ≤ rows.length ∧ rows.length ≤ 12 ∧ 1 ≤ m ∧ m ≤ 12) ∧ (∀ cs, cs ∈ rows → cs.length = m) ∧ ∀ r c, r < rows.length → c < m → (yu_q rows r c).1 = 28 → c = m - 1
theorem yu_Fg {r c : Nat} (F : yu_F m rows) (hr : r < rows.length) (hc : c < m) : ∃ cs, rows[r]? = some cs ∧ cs[c]? = some (yu_q rows r c) ∧ cs.length = m := by
  have e1 : rows[r]? = some rows[r] := List.getElem?_eq_getElem hr
  have hl := F.2.1 rows[r] (List.getElem_mem hr)
  have e2 : (rows[r])[c]? = some (rows[r])[c] := List.getElem?_eq_getElem (by omega)
  exact ⟨_, e1, by rw [yu_qg e1 e2]; exact e2, hl⟩
theorem yu_Qn : ∀ (l : zt_T) (x x' : Int32) (ow : Nat) (rows : List (List yT)), yu_Q h0 g0 l x x' ow rows → ∀ cs, cs ∈ rows → ∀ t, t ∈ cs → yu_N h0 t ∧ yu_O g0 t := by
  intro l
  induction l with
  | leaf => intro x x' ow rows ⟨_, _, e⟩ cs hc; rw [e] at hc; cases hc
  | inner kd kv o lc r _ ihr =>
    intro x x' ow rows ⟨i, k, cs0, rows', e, _, _, ⟨R, _, _⟩, Q⟩ cs hc t ht
    rw [e] at hc
    rcases List.mem_cons.mp hc with z | z
    · rw [z] at ht; exact (yu_Rl _ _ _ _ _ R).2 t ht
    · exact ihr _ _ _ _ Q cs z t ht
theorem yu_no {x x' : Int32} (Q : yu_Q h0 g0 l x x' ow rows) (F : yu_F m rows) {r c : Nat} (hr : r < rows.length) (hc : c < m) : yu_N h0 (yu_q rows r c) ∧ yu_O g0 (yu_q rows r c) := by
  obtain ⟨cs, e1, e2, _⟩ := yu_Fg F hr hc
  exact yu_Qn l _ _ _ _ Q cs (List.mem_of_getElem? e1) _ (List.mem_of_getElem? e2)
/-- the class -/
theorem yu_rC (Q : yu_Q h0 g0 l ((h0.2.1 17) i) ((g0.2.1 76) k) ow rows) (F : yu_F m rows) (hi : i < 32784) (f : yC_f h0 h) (es : (h.1 41 5) = nI kk) (ho : (h.1 47 4) = nI ow) (hp : (h.1 47 5) = nI pw) (hpw : pw < 100000) (hk : kk + 1700 ≤ 90000000) : ∃ h', f_Cr_codeRung h (nI i) = some h' ∧ yC_U kk (yu_rg pw (yu_q rows) rows.length m) h h' ∧ (h'.1 47 4) = nI (ow + yu_er rows) ∧ (h'.1 47 6) = (h.1 47 6) ∧ (yu_cs pw (yu_q rows) rows.length m m).length ≤ 1584 ∧ (yu_rg pw (yu_q rows) rows.length m).length ≤ 11 * rows.length * m + 5 * rows.length := by
  have hz := zF_big
  have fn := F.1
  have hn := yu_Ql _ _ _ _ _ Q
  obtain ⟨hA, hhA⟩ : ∃ hA, hA = zs_uF h 47 10 0 := ⟨_, rfl⟩
  have fA : yC_f h0 hA := by rw [hhA]; exact zfr_F (by decide) f
  obtain ⟨h1, a1, a2, a3, a4, a5, _, a7⟩ := yu_grd (m := m) (by omega) l _ _ ow 0 zF rows hA Q F.2.1 fA (by rw [hhA]; rfl) (by rw [hhA]; exact ho) (by omega) (by omega)
  have f1 : yC_f h0 h1 := zfr_trans fA (zfr_w a2 (by decide) (by decide) (by decide))
  have S1 : yu_S pw rows.length m (yu_q rows) h1 := by
    refine ⟨⟨by rw [a3, Nat.zero_add], a4 (fun z => by rw [z] at fn; exact absurd fn.1 (by decide)), (a2.1 _ _ (by decide)).trans (by rw [hhA]; exact hp)⟩, ⟨fn.1, fn.2.1, fn.2.2.1, fn.2.2.2, hpw⟩, fun r c hr hc => ?_⟩
    obtain ⟨cs, e1, e2, _⟩ := yu_Fg F hr hc
    have := a7 r cs c _ e1 e2
    rw [Nat.zero_add] at this
    exact this
  have s1 : (h1.1 41 5) = nI kk := (a2.1 _ _ (by decide)).trans (by rw [hhA]; exact es)
  have hb : 11 * rows.length * m ≤ 1584 := by
    have : rows.length * m ≤ 12 * 12 := Nat.mul_le_mul fn.2.1 fn.2.2.2
    rw [Nat.mul_assoc]
    omega
  obtain ⟨b0, h2, b1, b2⟩ := yu_csC (pw := pw) (fun r c hr hc => (yu_no Q F hr hc).1) m kk zF h1 (Nat.le_refl _) f1 S1 s1 (by omega) (by omega)
  rw [Nat.sub_self] at b1
  obtain ⟨c0, _⟩ := yu_clC (pw := pw) (fun r hr => (yu_no Q F hr (show m - 1 < m by omega)).1) rows.length kk zF h1 (Nat.le_refl _) f1 S1 s1 (by omega) (by omega)
  refine ⟨h2, ?_, ?_, ?_, ?_, by omega, by unfold yu_rg; rw [List.length_append]; omega⟩
  · unfold f_Cr_codeRung f_Cr_layGrid
    rw [if_pos (zi_in (by omega) hi), nI_clamp (show i < 2147483648 by omega), f.2.1 17 (by decide), ← hhA]
    rw [show f_Cr_layGrid_L17 zF hA ((h0.2.1 17) i) 0 = some h1 from a1, Option.bind_some]
    exact b1
  · have u1 : yC_U kk [] h h1 := yC_U0 es (zfr_trans (show zfr yU_F yU_M [] h hA by rw [hhA]; exact zfr_F (by decide) zfr_rfl) (zfr_w a2 (by decide) (by decide) (by decide))) (s1.trans es.symm) (fun a ha => by
      have ha' : a = 42 ∨ a = 43 ∨ a = 44 ∨ a = 45 := by simpa using ha
      have : ¬ a ∈ yu_m := by rcases ha' with e | e | e | e <;> subst e <;> decide
      rw [a2.2.1 a this, hhA]; rfl)
    exact (show yC_U kk ([] ++ yu_rg pw (yu_q rows) rows.length m) h h2 from yC_Uap u1 (yC_UE b2))
  · exact (b2.2.1.1 _ _ (by decide)).trans a5
  · rw [b2.2.1.1 _ _ (by decide), a2.1 _ _ (by decide), hhA]; rfl
/-- the model -/
theorem yu_rM (Q : yu_Q h0 g0 l ((h0.2.1 17) i) ((g0.2.1 76) k) ow rows) (F : yu_F m rows) (hk : k < 33500) (em : f_Mo_cellsIn g ((g0.2.1 76) k) = some (nI m)) (ex : (g0.2.1 88) b = nI (pw + 156)) (hpw : pw < 100000) (f : yM_f g0 g) (C : yM_c g kk s b v) (hkk : kk + (yu_cs pw (yu_q rows) rows.length m m).length + 60 ≤ 80000000) : ∃ g', f_Mo_rungCode g (nI k) = some g' ∧ yM_E s kk (yv v (yu_rg pw (yu_q rows) rows.length m)) g g' := by
  have hz := zF_big
  have fn := F.1
  have hn := yu_Ql _ _ _ _ _ Q
  have ro : ∀ tg, tg < 1000 → f_Mo_rowOf g0 (nI k) (nI tg) = f_Mo_rowOf_L10 g0 zF (nI tg) ((g0.2.1 76) k) (nI 0) := by
    intro tg _
    unfold f_Mo_rowOf
    rw [if_pos (zi_in (by omega) hk), nI_clamp (show k < 2147483648 by omega)]; rfl
  have key : ∀ r, r < rows.length → ∃ kr cs l' y ow', kr < 33500 ∧ rows[r]? = some cs ∧ f_Mo_rowOf g0 (nI k) (nI r) = some (nI kr) ∧ yu_R h0 g0 l' y ((g0.2.1 76) kr) ow' cs ∧ zt_ln l' ≤ 24 := by
    intro r hr
    obtain ⟨kr, cs, l', y, ow', b1, b2, b3, b4⟩ := (yu_roM l _ _ ow rows 0 r zF Q (Nat.zero_le _) (by omega) (by omega)).1 hr
    exact ⟨kr, cs, l', y, ow', b1, b2, by rw [ro r (by omega)]; exact b3, b4⟩
  obtain ⟨rk, hrk⟩ : ∃ rk : Nat → Nat, ∀ r, r < rows.length → ∃ cs l' y ow', rk r < 33500 ∧ rows[r]? = some cs ∧ f_Mo_rowOf g0 (nI k) (nI r) = some (nI (rk r)) ∧ yu_R h0 g0 l' y ((g0.2.1 76) (rk r)) ow' cs ∧ zt_ln l' ≤ 24 := by
    refine ⟨fun r => if h : r < rows.length then (key r h).choose else 0, fun r hr => ?_⟩
    simp only [dif_pos hr]
    exact (key r hr).choose_spec
  have Z : yu_Z g0 k rows.length m rk (yu_q rows) := by
    refine ⟨⟨hk, fn.1, fn.2.1, fn.2.2.1, fn.2.2.2⟩, fun r hr => ?_, ?_, fun r c hr hc => ?_⟩
    · obtain ⟨cs, l', y, ow', b1, _, b3, _⟩ := hrk r hr
      exact ⟨b3, b1⟩
    · obtain ⟨y, y1, y2⟩ := (yu_roM l _ _ ow rows 0 rows.length zF Q (Nat.zero_le _) (by omega) (by omega)).2 (Nat.le_refl _)
      exact ⟨y, by rw [ro _ (by omega)]; exact y2, y1⟩
    · obtain ⟨cs, l', y, ow', b1, b2, _, b4, b5⟩ := hrk r hr
      obtain ⟨cs', e1, e2, _⟩ := yu_Fg F hr hc
      have ec : cs = cs' := Option.some.inj (b2.symm.trans e1)
      subst ec
      refine ⟨?_, ?_⟩
      · unfold f_Mo_cellOf
        rw [if_pos (zi_in (by omega) b1), nI_clamp (show rk r < 2147483648 by omega)]
        exact yu_ceM l' _ _ _ _ c zF _ b4 e2 (by omega) (by omega)
      · unfold f_Mo_isLinked
        rw [if_pos (zi_in (by omega) b1), nI_clamp (show rk r < 2147483648 by omega)]
        have := yu_liM (col := c + 1) (by omega) l' _ _ _ _ 0 zF b4 (by omega) (by omega)
        have lb := yu_lbR l' _ _ _ _ 0 c _ b4 e2
        rw [show 0 + 1 + c = c + 1 by omega] at lb
        rw [lb] at this
        exact this
  exact yu_rgM Z em ex hpw (fun r c hr hc => (yu_no Q F hr hc).2) F.2.2 f C hkk
end YUM
