/-! The coder: the grid of a rung, on both sides. -/
def yu_Q (h0 g0 : zs_H) : zt_T → Int32 → Int32 → Nat → List (List yT) → Prop
  | .leaf, x, x', _, rows => x = -1 ∧ x' = -1 ∧ rows = []
  | .inner _ _ _ lc r, x, x', ow, rows => ∃ (i k : Nat) (cs : List yT) (rows' : List (List yT)), rows = cs :: rows' ∧ (i < 32784 ∧ x = nI i) ∧ (k < 33500 ∧ x' = nI k) ∧ (yu_R h0 g0 lc ((h0.2.1 17) i) ((g0.2.1 76) k) ow cs ∧ yu_fl lc = false ∧ zt_ln lc ≤ 24) ∧ yu_Q h0 g0 r ((h0.2.1 18) i) ((g0.2.1 78) k) (ow + yu_ec cs) rows'
def yu_er : List (List yT) → Nat
  | [] => 0
  | cs :: rows => yu_ec cs + yu_er rows
def yu_q (rows : List (List yT)) (r c : Nat) : yT := (rows.getD r []).getD c (27, 0, 0, 0, false, 0, 0)
theorem yu_qg {rows : List (List yT)} {r c : Nat} {cs : List yT} {t : yT} (h1 : rows[r]? = some cs) (h2 : cs[c]? = some t) : yu_q rows r c = t := by
  unfold yu_q
  rw [List.getD_eq_getElem?_getD, List.getD_eq_getElem?_getD, h1]
  show (cs[c]?).getD _ = t
  rw [h2]; rfl
section YUK
variable {h0 g0 : zs_H}
theorem yu_Ql : ∀ (t : zt_T) (x x' : Int32) (ow : Nat) (rows : List (List yT)), yu_Q h0 g0 t x x' ow rows → rows.length = zt_ln t := by
  intro t
  induction t with
  | leaf => intro x x' ow rows ⟨_, _, e⟩; rw [e]; rfl
  | inner kd kv o lc r _ ihr =>
    intro x x' ow rows ⟨i, k, cs, rows', e, _, _, _, Q⟩
    rw [e]
    have := ihr _ _ _ _ Q
    show rows'.length + 1 = 1 + zt_ln r
    omega
/-- the class lays the grid -/
theorem yu_grd {m : Nat} (hm : m ≤ 12) : ∀ (t : zt_T) (x x' : Int32) (ow rr N : Nat) (rows : List (List yT)) (h : zs_H), yu_Q h0 g0 t x x' ow rows → (∀ cs, cs ∈ rows → cs.length = m) → yC_f h0 h → (h.1 47 10) = nI rr → (h.1 47 4) = nI ow → rr + zt_ln t ≤ 12 → zt_ln t < N → ∃ h', f_Cr_layGrid_L17 N h x (nI rr) = some h' ∧ zfr ((47, 10) :: yu_g) yu_m [] h h' ∧ (h'.1 47 10) = nI (rr + rows.length) ∧ (¬ rows = [] → (h'.1 47 11) = nI m) ∧ (h'.1 47 4) = nI (ow + yu_er rows) ∧ (∀ j, j < rr * 12 → (h'.2.1 48) j = (h.2.1 48) j ∧ (h'.2.1 50) j = (h.2.1 50) j ∧ (h'.2.1 49) j = (h.2.1 49) j) ∧ ∀ r cs c t, rows[r]? = some cs → cs[c]? = some t → (h'.2.1 48) ((rr + r) * 12 + c) = nI t.2.2.2.2.2.1 ∧ (h'.2.1 50) ((rr + r) * 12 + c) = (if t.2.2.2.2.1 = true then 1 else 0) ∧ (t.1 = 25 → 2 ≤ t.2.1 → (h'.2.1 49) ((rr + r) * 12 + c) = nI t.2.2.2.1) := by
  have hz := zF_big
  intro t
  induction t with
  | leaf =>
    intro x x' ow rr N rows h ⟨e1, _, e3⟩ _ f hr ho hs hN
    obtain ⟨N, rfl⟩ : ∃ z, N = z + 1 := ⟨N - 1, by omega⟩
    subst e3
    refine ⟨h, ?_, zfr_rfl, hr, fun w => absurd rfl w, ho, fun j _ => ⟨rfl, rfl, rfl⟩, fun r cs c t e => by cases e⟩
    show f_Cr_layGrid_17 (f_Cr_layGrid_L17 N) h x (nI rr) = _
    unfold f_Cr_layGrid_17
    rw [e1, if_pos (show (-1 : Int32) = -1 from rfl), ite_self]
  | inner kd kv o lc r _ ihr =>
    intro x x' ow rr N rows h ⟨i, k, cs, rows', e, ⟨i1, i2⟩, _, ⟨R, fl, l24⟩, Q⟩ hl f hr ho hs hN
    have hln : zt_ln (.inner kd kv o lc r) = 1 + zt_ln r := rfl
    obtain ⟨N, rfl⟩ : ∃ z, N = z + 1 := ⟨N - 1, by omega⟩
    subst e
    have hcl := hl cs List.mem_cons_self
    obtain ⟨hA, hhA⟩ : ∃ hA, hA = zs_uF h 47 11 0 := ⟨_, rfl⟩
    have fA : yC_f h0 hA := by rw [hhA]; exact zfr_F (by decide) f
    obtain ⟨h1, a1, a2, a3, a4, a5, a6⟩ := yu_lay (k17 := f_Cr_layGrid_L17 N) (x2 := nI i) (x3 := nI rr) (show rr < 12 by omega) lc _ _ ow 0 0 zF cs hA R fA (by rw [hhA]; exact hr) (by rw [hhA]; rfl) (by rw [hhA]; exact ho) (fun w => by rw [fl] at w; cases w) (by omega) (by omega) (by omega)
    have frA : zfr yu_g yu_m [] h hA := by rw [hhA]; exact zfr_F (by decide) zfr_rfl
    have fr1 : zfr yu_g yu_m [] h h1 := zfr_trans frA a2
    have f1 : yC_f h0 h1 := zfr_trans f (zfr_w fr1 (by decide) (by decide) (by decide))
    have r1 : (h1.1 47 10) = nI rr := (fr1.1 _ _ (by decide)).trans hr
    obtain ⟨h2, hh2⟩ : ∃ h2, h2 = zs_uF h1 47 10 (nI (rr + 1)) := ⟨_, rfl⟩
    have f2 : yC_f h0 h2 := by rw [hh2]; exact zfr_F (by decide) f1
    obtain ⟨h3, b1, b2, b3, b4, b5, b6, b7⟩ := ihr _ _ (ow + yu_ec cs) (rr + 1) N rows' h2 Q (fun c hc => hl c (List.mem_cons_of_mem _ hc)) f2 (by rw [hh2]; rfl) (by rw [hh2]; exact a4) (by omega) (by omega)
    refine ⟨h3, ?_, ?_, ?_, fun _ => ?_, ?_, fun j hj => ?_, fun r' cs' c t e1 e2 => ?_⟩
    · show f_Cr_layGrid_17 (f_Cr_layGrid_L17 N) h x (nI rr) = _
      unfold f_Cr_layGrid_17
      rw [i2, if_neg (mt (zc_le (k := 12) (by decide) (by omega)).mp (by omega)), if_neg (zc_m1 (by omega)), if_pos (zi_in (by omega) i1), nI_clamp (show i < 2147483648 by omega), f.2.1 17 (by decide), ← hhA]
      refine Eq.trans a1 ?_
      unfold f_Cr_layGrid_84
      rw [if_pos (zi_in (by omega) i1), nI_clamp (show i < 2147483648 by omega), r1, nI_1, ← hh2, f1.2.1 18 (by decide)]
      exact b1
    · refine zfr_trans (zfr_w fr1 (by decide) (by decide) (by decide)) (zfr_trans ?_ b2)
      rw [hh2]; exact zfr_F (by decide) zfr_rfl
    · rw [b3]; exact congrArg nI (show rr + 1 + rows'.length = rr + (rows'.length + 1) by omega)
    · by_cases w : rows' = []
      · subst w
        have en : r = .leaf := by
          have := yu_Ql _ _ _ _ _ Q
          cases r with
          | leaf => rfl
          | inner => exact absurd this (by show ¬ 0 = 1 + _; omega)
        subst en
        obtain ⟨N, rfl⟩ : ∃ z, N = z + 1 := ⟨N - 1, by omega⟩
        have : h3 = h2 := by
          have q1 : f_Cr_layGrid_L17 (N + 1) h2 ((h0.2.1 18) i) (nI (rr + 1)) = some h2 := by
            show f_Cr_layGrid_17 (f_Cr_layGrid_L17 N) h2 ((h0.2.1 18) i) (nI (rr + 1)) = _
            unfold f_Cr_layGrid_17
            rw [Q.1, if_pos (show (-1 : Int32) = -1 from rfl), ite_self]
          exact Option.some.inj (b1.symm.trans q1)
        rw [this, hh2]
        show (h1.1 47 11) = _
        rw [a3, hcl, Nat.zero_add]
      · exact b4 w
    · rw [b5]; exact congrArg nI (show ow + yu_ec cs + yu_er rows' = ow + (yu_ec cs + yu_er rows') by omega)
    · obtain ⟨d1, d2, d3⟩ := b6 j (by omega)
      obtain ⟨c1, c2, c3, c4⟩ := a5 j (by omega)
      have el : (h1.2.1 50) j = (hA.2.1 50) j := by
        by_cases w : j + 1 = rr * 12 + 0
        · rw [c4 w, fl]; exact if_neg (by decide)
        · exact c3 w
      rw [d1, d2, d3, hh2]
      show (h1.2.1 48) j = _ ∧ (h1.2.1 50) j = _ ∧ (h1.2.1 49) j = _
      rw [c1, c2, el, hhA]
      exact ⟨rfl, rfl, rfl⟩
    · cases r' with
      | zero =>
        have e1' : some cs = some cs' := e1
        cases e1'
        have hc : c < 12 := by
          have := (List.getElem?_eq_some_iff.mp e2).1
          omega
        obtain ⟨d1, d2, d3⟩ := b6 (rr * 12 + c) (by omega)
        have := a6 c t e2
        rw [show (rr + 0) * 12 + c = rr * 12 + c from rfl, d1, d2, d3, hh2]
        exact this
      | succ r' =>
        have := b7 r' cs' c t e1 e2
        rw [show rr + 1 + r' = rr + (r' + 1) by omega] at this
        exact this
/-- where the model finds the rows -/
theorem yu_roM : ∀ (t : zt_T) (x x' : Int32) (ow : Nat) (rows : List (List yT)) (cnt tg N : Nat), yu_Q h0 g0 t x x' ow rows → cnt ≤ tg → tg < 1000 → zt_ln t < N → (tg - cnt < rows.length → ∃ k cs l y ow', k < 33500 ∧ rows[tg - cnt]? = some cs ∧ f_Mo_rowOf_L10 g0 N (nI tg) x' (nI cnt) = some (nI k) ∧ yu_R h0 g0 l y ((g0.2.1 76) k) ow' cs ∧ zt_ln l ≤ 24) ∧ (rows.length ≤ tg - cnt → ∃ y, y < 0 ∧ f_Mo_rowOf_L10 g0 N (nI tg) x' (nI cnt) = some y) := by
  intro t
  induction t with
  | leaf =>
    intro x x' ow rows cnt tg N ⟨_, e2, e3⟩ h1 h2 hN
    obtain ⟨N, rfl⟩ : ∃ z, N = z + 1 := ⟨N - 1, by omega⟩
    subst e3
    refine ⟨fun w => absurd w (Nat.not_lt_zero _), fun _ => ⟨-1, by decide, ?_⟩⟩
    show f_Mo_rowOf_10 g0 (f_Mo_rowOf_L10 g0 N) (nI tg) x' (nI cnt) = _
    unfold f_Mo_rowOf_10
    rw [e2, if_pos (show (-1 : Int32) < 0 by decide), ite_self]
  | inner kd kv o lc r _ ihr =>
    intro x x' ow rows cnt tg N ⟨i, k, cs, rows', e, _, ⟨k1, k2⟩, ⟨R, _, l24⟩, Q⟩ h1 h2 hN
    have hln : zt_ln (.inner kd kv o lc r) = 1 + zt_ln r := rfl
    obtain ⟨N, rfl⟩ : ∃ z, N = z + 1 := ⟨N - 1, by omega⟩
    subst e
    have hlen : (cs :: rows').length = rows'.length + 1 := rfl
    by_cases z : cnt = tg
    · subst z
      refine ⟨fun _ => ⟨k, cs, lc, _, ow, k1, by rw [Nat.sub_self]; rfl, ?_, R, l24⟩, fun w => absurd w (by rw [Nat.sub_self]; omega)⟩
      show f_Mo_rowOf_10 g0 (f_Mo_rowOf_L10 g0 N) (nI cnt) x' (nI cnt) = _
      unfold f_Mo_rowOf_10
      rw [if_pos ((nI_leI (by omega) (by omega)).mpr (Nat.le_refl _)), k2]
    · have es : f_Mo_rowOf_L10 g0 (N + 1) (nI tg) x' (nI cnt) = f_Mo_rowOf_L10 g0 N (nI tg) ((g0.2.1 78) k) (nI (cnt + 1)) := by
        show f_Mo_rowOf_10 g0 (f_Mo_rowOf_L10 g0 N) (nI tg) x' (nI cnt) = _
        unfold f_Mo_rowOf_10
        rw [if_neg (mt (nI_leI (by omega) (by omega)).mp (by omega)), k2, if_neg (nI_pos (by omega)), if_pos (zi_in (by omega) k1), nI_clamp (show k < 2147483648 by omega), nI_1]
      have ee : tg - cnt = tg - (cnt + 1) + 1 := by omega
      have w1 : tg - cnt < (cs :: rows').length → tg - (cnt + 1) < rows'.length := by omega
      have w2 : (cs :: rows').length ≤ tg - cnt → rows'.length ≤ tg - (cnt + 1) := by omega
      obtain ⟨q1, q2⟩ := ihr _ _ _ _ (cnt + 1) tg N Q (by omega) h2 (by omega)
      rw [es]
      refine ⟨fun w => ?_, fun w => q2 (w2 w)⟩
      obtain ⟨k', cs', l, y, ow', b1, b2, b3⟩ := q1 (w1 w)
      refine ⟨k', cs', l, y, ow', b1, ?_, b3⟩
      rw [ee]
      exact b2
end YUK
