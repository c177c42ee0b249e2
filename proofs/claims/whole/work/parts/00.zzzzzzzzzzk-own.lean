/-! watch: a name on a path, looked up in a block of the text, on both sides. -/
section ZWK
variable {h g : zs_H} {T : Nat → Int32} {n a : Nat} {LC LM : List (List Int32)} {nb b : Nat} {F : Nat → Nat}
/-- the tables of a loaded text, as watch sees them -/
def zwt_Q (LC LM : List (List Int32)) (nb : Nat) (F : Nat → Nat) (h g : zs_H) : Prop := (LC.Nodup ∧ LC.length < 6000 ∧ zwt_ld LC ∧ zn_C h LC ∧ zn_M g LM) ∧ (nb ≤ 568 ∧ F nb ≤ 5900 ∧ ∀ b, b < nb → F b ≤ F (b + 1) ∧ F (b + 1) ≤ F nb) ∧ (∀ b, b < nb → (h.2.1 23) (9 + b) = nI (32 + F b) ∧ (g.2.1 90) b = nI (F b) ∧ (h.2.1 24) (9 + b) = nI (32 + F (b + 1)) ∧ (if nI b = (g.1 68 33) - 1 then (g.1 68 41) else (g.2.1 90) (b + 1)) = nI (F (b + 1))) ∧ ∀ v, v < F nb → zt_nr LC LM ((h.2.1 28) (32 + v)) ((g.2.1 91) v)
theorem zwt_inj {L : List (List Int32)} (hL : L.Nodup) {c j : Nat} (hc : c < L.length) (hj : j < L.length) (e : L.getD c [] = L.getD j []) : c = j := by
  rw [List.getD_eq_getElem?_getD, List.getD_eq_getElem?_getD, List.getElem?_eq_getElem hc, List.getElem?_eq_getElem hj] at e
  exact (List.getElem_inj hL).mp e
theorem zwt_nr {e : Nat} (hT : ∀ i, zb_ok (T i)) (he : e ≤ n) (hp : ∀ i, a ≤ i → i < e → zl_pt T n i = true) : zn_rc T a (e - a) = zl_nm T n a e := by
  unfold zn_rc zl_nm
  apply List.map_congr_left
  intro i hi
  have hi' := List.mem_range.mp hi
  have q := (zwt_pt (n := n) hT (show a + i < n by omega)).2.mp (hp (a + i) (by omega) (by omega))
  rw [zl_rawG (hT _) q]
  unfold zl_g
  rw [zl_bT (by omega)]
theorem zwt_let {x : Int32} (h : ¬ f_Mo_isLetter x = 0) : f_Mo_isDigit x = 0 := by
  unfold f_Mo_isLetter f_Mo_isLetter_12 at h
  unfold f_Mo_isDigit
  by_cases c1 : x < 48
  · rw [if_pos c1]
  · rw [if_neg c1]
    by_cases c2 : 57 < x
    · rw [if_pos c2]
    · exfalso
      apply h
      have c3 : x < 65 := Int32.lt_of_le_of_lt (Int32.not_lt.mp c2) (by decide)
      rw [if_pos c3, if_neg]
      intro q
      rw [q] at c3
      exact absurd c3 (by decide)
theorem zwt_own (Q : zwt_Q LC LM nb F h g) (hb : b < nb) (eT : (h.2.1 1) = T) (P : zwt_P T n a g) : ∃ g' w y x, f_Mo_watch_B g (nI b) = some (w, g') ∧ f_Nm_find_c1 h (nI a) (nI (zl_ne T n a) - nI a) = some x ∧ f_Pl_variableOf h (nI (9 + b)) x = some y ∧ zfr [(68, 93), (68, 95)] [] [] g g' ∧ zwt_P T n (zl_ne T n a) g' ∧ ((w = -1 ∧ y = -1) ∨ ∃ v, F b ≤ v ∧ v < F (b + 1) ∧ w = nI v ∧ y = nI (32 + v)) := by
  have hz := zF_big
  obtain ⟨⟨q1, q2, q3, q4, q5⟩, ⟨q6, q7, q8⟩, q9, q10⟩ := Q
  have hF := q8 b hb
  obtain ⟨b1, b2, b3, b4⟩ := q9 b hb
  have hn := P.1
  have hT := P.2.1
  have hl := zl_ne_le (T := T) (n := n) (a := a) hn.2
  obtain ⟨g', a1, a2, a3, a4⟩ := zwt_rd P
  have ez : nI (zl_ne T n a) - nI a = nI (zl_ne T n a - a) := zi_sub hl.1
  have eC : ∀ x, f_Pl_variableOf h (nI (9 + b)) x = f_Pl_variableOf_L7 h zF (nI (9 + b)) x (nI (32 + F b)) := fun x => by
    unfold f_Pl_variableOf
    rw [if_pos (zi_in (by omega) (show 9 + b < 629 by omega)), nI_clamp (by omega), b1]
  have sC := fun x => zv_scanC (h := h) (w := x) (show 9 + b < 629 by omega) (show 32 + F (b + 1) ≤ 6000 by omega) b3 (F (b + 1) - F b) (32 + F b) zF (by omega) (by omega)
  have nm : ∀ u, u < F nb → ∃ c k, (h.2.1 28) (32 + u) = nI c ∧ (g.2.1 91) u = nI k ∧ c < LC.length ∧ k < LM.length ∧ LC.getD c [] = LM.getD k [] := fun u hu => by
    obtain ⟨c, k, c1, c2, _, c3, c4, c5⟩ := q10 u hu
    exact ⟨c, k, c1, c2, c3, c4, c5⟩
  have no : f_Pl_variableOf h (nI (9 + b)) (-1) = some (-1) := by
    rw [eC]
    refine (sC (-1)).1 fun j h1 h2 h3 => ?_
    obtain ⟨c, k, c1, _, c3, _⟩ := nm (j - 32) (by omega)
    rw [show 32 + (j - 32) = j by omega, h3] at c1
    exact zc_m1 (t := c) (by omega) c1.symm
  have er : zn_rc T a (zl_ne T n a - a) = zl_nm T n a (zl_ne T n a) := zwt_nr hT hl.2.1 hl.2.2.2
  by_cases ok : zwt_ok T n a
  · have e1 : f_Mo_readPathName g = some (1, g') := by
      rcases a1 with q | q
      · exact q.2
      · exact absurd ok q.1
    obtain ⟨k1, k2, k3⟩ := ok
    obtain ⟨x, x1, x2⟩ := zn_findc1 (a := a) (len := zl_ne T n a - a) q4 (by omega) k2 (by omega)
    rw [eT, er] at x2
    have G' : ∀ z, g'.2.1 z = g.2.1 z := fun z => a2.2.1 z List.not_mem_nil
    have HM' : zn_M g' LM := by
      unfold zn_M
      rw [G', G', a2.1 68 3 (by decide)]
      exact q5
    have iff : ∀ u, u < F (b + 1) → ((h.2.1 28) (32 + u) = x → f_Mo_isPathName g' ((g'.2.1 91) u) = some 1) ∧ (¬ (h.2.1 28) (32 + u) = x → f_Mo_isPathName g' ((g'.2.1 91) u) = some 0) := fun u hu => by
      obtain ⟨c, k, c1, c2, c3, c4, c5⟩ := nm u (by omega)
      have e2 := zwt_isN a3 a4 (by omega) HM' c4
      have it : (h.2.1 28) (32 + u) = x ↔ LM.getD k [] = zl_nm T n a (zl_ne T n a) := by
        rw [c1, ← c5]
        rcases x2 with ⟨j, j1, j2, j3⟩ | ⟨j1, j2⟩
        · rw [j2, nI_eq (by omega) (by omega), ← j3]
          exact ⟨fun w => by rw [w], fun w => zwt_inj q1 c3 j1 w⟩
        · rw [j1]
          exact ⟨fun w => absurd w (zc_m1 (by omega)), fun w => absurd w (j2 c c3)⟩
      rw [G', c2, e2]
      exact ⟨fun w => by rw [if_pos (it.mp w)], fun w => by rw [if_neg (mt it.mpr w)]⟩
    have sM := zwt_scanM (g := g') (b := b) (z := F (b + 1)) (by omega) (by omega) (by rw [a2.1 68 33 (by decide), a2.1 68 41 (by decide), G']; exact b4) (fun u => (h.2.1 28) (32 + u) = x) iff (F (b + 1) - F b) (F b) zF (by omega) (by omega)
    have eM : f_Mo_variableOnPath g' (nI b) = f_Mo_variableOnPath_L7 g' zF (nI b) (nI (F b)) := by
      unfold f_Mo_variableOnPath
      rw [if_pos (zi_in (by omega) (show b < 2101 by omega)), nI_clamp (by omega), G', b2]
    have eB : ∀ w, f_Mo_variableOnPath_L7 g' zF (nI b) (nI (F b)) = some w → f_Mo_watch_B g (nI b) = some (w, g') := fun w ew => by
      unfold f_Mo_watch_B
      rw [e1, yL_B, if_neg (show ¬ (1 : Int32) = 0 by decide), eM, ew, Option.bind_some]
    rcases zv_least (fun u => (h.2.1 28) (32 + u) = x) (F b) (F (b + 1)) with q | ⟨v, v1, v2, v3, v4⟩
    · refine ⟨g', -1, -1, x, eB _ (sM.1 q), by rw [ez]; exact x1, ?_, a2, a3, .inl ⟨rfl, rfl⟩⟩
      rw [eC]
      exact (sC x).1 fun j h1 h2 h3 => q (j - 32) (by omega) (by omega) (by rw [show 32 + (j - 32) = j by omega]; exact h3)
    · refine ⟨g', nI v, nI (32 + v), x, eB _ (sM.2 v v1 v2 v3 v4), by rw [ez]; exact x1, ?_, a2, a3, .inr ⟨v, v1, v2, rfl, rfl⟩⟩
      rw [eC]
      exact (sC x).2 (32 + v) (by omega) (by omega) v3 fun i h5 h7 h8 => v4 (i - 32) (by omega) (by omega) (by show _ = _; rw [show 32 + (i - 32) = i by omega]; exact h8)
  · have e1 : f_Mo_readPathName g = some (0, g') := by
      rcases a1 with q | q
      · exact absurd q.1 ok
      · exact q.2
    refine ⟨g', -1, -1, -1, ?_, ?_, no, a2, a3, .inl ⟨rfl, rfl⟩⟩
    · unfold f_Mo_watch_B
      rw [e1, yL_B, if_pos (show (0 : Int32) = 0 from rfl)]
    · rw [ez]
      by_cases c1 : zl_ne T n a - a < 1
      · unfold f_Nm_find_c1
        rw [if_pos ((zc_tl (k := 1) (by decide) (by omega)).mpr c1)]
      by_cases c2 : 32 < zl_ne T n a - a
      · unfold f_Nm_find_c1
        rw [if_neg (mt (zc_tl (k := 1) (by decide) (by omega)).mp c1), if_pos ((zc_lt (k := 32) (by decide) (by omega)).mpr c2)]
      obtain ⟨x, x1, x2⟩ := zn_findc1 (a := a) (len := zl_ne T n a - a) q4 (by omega) (by omega) (by omega)
      rw [eT, er] at x2
      rcases x2 with ⟨j, j1, j2, j3⟩ | ⟨j1, _⟩
      · exfalso
        have hm : LC.getD j [] ∈ LC := by
          rw [List.getD_eq_getElem?_getD, List.getElem?_eq_getElem j1]
          exact List.getElem_mem j1
        have w := zwt_let (q3 _ hm)
        rw [j3, zl_nm_at (by omega), Nat.add_zero] at w
        unfold zl_g at w
        rw [zl_bT (by omega)] at w
        exact ok ⟨by omega, by omega, w⟩
      · rw [x1, j1]
end ZWK
