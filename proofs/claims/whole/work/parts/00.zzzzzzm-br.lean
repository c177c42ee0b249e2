/-! The coder: one branch of a choice. -/
/-- a row of branches -/
def yC_B (n v q e : Nat) (B : ys) (ow : Nat) (c0 c1 : Int32) (h h' : zs_H) : Prop := yC_H n ((yz_c B n v q e).map Prod.fst) (yz_x B n ++ yz_g B n) h h' ∧ (h'.1 47 4) = nI ow ∧ (n + yz_l B ≤ 4000 → yC_ch h' ((h.1 47 6)) (n + yz_l B) (yz_x B n) ((h'.1 47 6)) ∧ yC_ch h' c0 (n + yz_l B) (yz_g B n) c1)
def yM_Bx (s n v q e : Nat) (B : ys) (w ww : Nat) (g g' : zs_H) : Prop := yM_H s n (yz_c B n v q e) (yz_x B n ++ yz_g B n) g g' ∧ (g'.1 68 64) = (g.1 68 64) ∧ (g'.1 68 66) = nI (ww + (yz_g B n).length) ∧ yM_st ((g'.2.1 110)) s ww (yz_g B n) ∧ ((g'.1 68 68) = nI (w + (yz_x B n).length) ∧ yM_st ((g'.2.1 111)) s w (yz_x B n) ∧ ∀ k, k < w → (g'.2.1 111) k = (g.2.1 111) k) ∧ (∀ k, k < ww → (g'.2.1 110) k = (g.2.1 110) k)
section YBR
variable {h0 h g0 g : zs_H} {b : Nat}
/-- what a branch's body and what stands around it leaves; m: the jump over it -/
theorem yC_br {D d m v q e ow oc bi dl : Nat} {la : Bool} {T : ys} {c0 : Int32} (f : yC_f h0 h) (es : (h.1 41 5) = nI m) (ho : (h.1 47 4) = nI ow) (hn : m + 1 + yz_l T + 1 ≤ 90000001) (hD : 2 * dl + 2 ≤ D) (hd : d + 1 + dl ≤ 240) (B : yk_BC h0 dl bi ow oc T) : ∃ c1 h', f_Cr_codeBranch D h (nI bi) (if la = true then 1 else 0) c0 (nI d) = some (c1, h') ∧ yC_H m ([(11, nI (m + (1 + yz_l T + (if la = true then 0 else 1))), 0, 0)] ++ ((yz_c T (m + 1) v q 0).map Prod.fst ++ (if la = true then [] else [(10, nI e, 0, 0)]))) (yz_x T (m + 1) ++ (if la = true then [] else [m + 1 + yz_l T])) h h' ∧ (h'.1 47 4) = nI (ow + oc) ∧ (m + (1 + yz_l T + (if la = true then 0 else 1)) ≤ 4000 → yC_ch h' ((h.1 47 6)) (m + 1 + yz_l T) (yz_x T (m + 1)) ((h'.1 47 6)) ∧ yC_ch h' c0 (m + (1 + yz_l T + (if la = true then 0 else 1))) (if la = true then [] else [m + 1 + yz_l T]) c1) := by
  obtain ⟨D, rfl⟩ : ∃ z, D = z + 1 := ⟨D - 1, by omega⟩
  obtain ⟨h1, a1, a2⟩ := yC_emit es (by omega) 11 (by decide) (-1)
  have f1 := yC_fE f a2
  obtain ⟨h2, b1, b2⟩ := B D (d + 1) (m + 1) v q h1 f1 a2.1 ((a2.2.1.1 _ _ (by decide)).trans ho) (by omega) (by omega) (by omega)
  obtain ⟨f2, e2, o2⟩ := yC_Rf f1 b2
  have x1 : (h1.1 47 6) = (h.1 47 6) := a2.2.1.1 _ _ (by decide)
  have ml : ((yz_c T (m + 1) v q 0).map Prod.fst).length = yz_l T := yz_ml
  have hm : ∀ j, j ∈ yz_x T (m + 1) → m + 1 ≤ j ∧ j < m + 1 + yz_l T := fun j hj => yz_xr _ _ _ hj
  have eB : f_Cr_codeBranch (D + 1) h (nI bi) (if la = true then 1 else 0) c0 (nI d) = (if (if la = true then (1 : Int32) else 0) = 0 then (zd_B (f_Cd_emit h2 10 c0) fun v8 h9 => f_Cr_codeBranch_39 h9 (nI m) v8) else f_Cr_codeBranch_39 h2 (nI m) c0) := by
    show g_Cr_codeBranch (f_Cr_codeBody D) h (nI bi) (if la = true then 1 else 0) c0 (nI d) = _
    unfold g_Cr_codeBranch
    refine (congrArg (fun z => zd_B z _) a1).trans ?_
    show (f_Cr_codeBody D h1 (nI bi) (nI d + 1)).bind _ = _
    rw [nI_1, b1, Option.bind_some]
  rw [eB]
  cases la with
  | true =>
    have A : yC_H m ([(11, nI (m + (1 + yz_l T + 0)), 0, 0)] ++ ((yz_c T (m + 1) v q 0).map Prod.fst ++ [])) ([m] ++ (yz_x T (m + 1) ++ [])) h h2 := by
      rw [List.append_nil, List.append_nil]
      exact yC_Hap (yC_EHh a2) b2.1
    have Al : ([((11, nI (m + (1 + yz_l T + 0)), 0, 0) : yI)] ++ ((yz_c T (m + 1) v q 0).map Prod.fst ++ [])).length = 1 + yz_l T + 0 := by
      rw [List.append_nil, List.length_append, ml]; rfl
    obtain ⟨h3, j1, j2, j3, j4⟩ := yC_join (js := [m]) (x := nI m) (by rw [Al]; omega) A (fun h4 => by
      rw [Al] at h4 ⊢
      refine ⟨⟨by omega, rfl, ?_⟩, fun j hj => by rw [List.mem_singleton.mp hj]; exact Nat.le_refl _, fun k i ei hk => ?_⟩
      · rw [(b2.1.2.2 (by rw [ml]; omega)).1 m (by omega) _ (by decide)]
        exact ((a2.2.2 (show m + 1 ≤ 4000 by omega)).2 0 _ rfl).2.1
      · have : k = 0 := by have := List.mem_singleton.mp hk; omega
        subst this
        cases (show some ((11, nI (m + (1 + yz_l T + 0)), 0, 0) : yI) = some i from ei)
        rfl)
    refine ⟨c0, h3, ?_, j4 _ (fun j hj => ?_), (j2.1 _ _ List.not_mem_nil).trans o2, fun h4 => ⟨?_, rfl⟩⟩
    · rw [if_pos rfl, if_neg (by decide)]
      unfold f_Cr_codeBranch_39
      rw [j1, Option.bind_some]
    · rcases List.mem_append.mp hj with z | z
      · exact .inl z
      · exact .inr z
    · have h4' : m + (1 + yz_l T + 0) ≤ 4000 := h4
      have c := b2.2.2 (by omega)
      rw [x1] at c
      rw [show (h3.1 47 6) = (h2.1 47 6) from j2.1 _ _ List.not_mem_nil]
      exact yC_chg _ _ _ (fun j hj => j3 (by rw [Al]; omega) j (fun z => by have := List.mem_singleton.mp z; have := hm j hj; omega)) c
  | false =>
    obtain ⟨h3, d1, d2⟩ := yC_emit e2 (by omega) 10 (by decide) c0
    have A : yC_H m ([(11, nI (m + (1 + yz_l T + 1)), 0, 0)] ++ ((yz_c T (m + 1) v q 0).map Prod.fst ++ [(10, nI e, 0, 0)])) ([m] ++ (yz_x T (m + 1) ++ [m + 1 + yz_l T])) h h3 := yC_Hap (yC_EHh a2) (yC_Hap b2.1 (by rw [ml]; exact yC_EHh d2))
    have Al : ([((11, nI (m + (1 + yz_l T + 1)), 0, 0) : yI)] ++ ((yz_c T (m + 1) v q 0).map Prod.fst ++ [((10, nI e, 0, 0) : yI)])).length = 1 + yz_l T + 1 := by
      rw [List.length_append, List.length_append, ml]; show 1 + (yz_l T + 1) = _; omega
    obtain ⟨h4, j1, j2, j3, j4⟩ := yC_join (js := [m]) (x := nI m) (by rw [Al]; omega) A (fun h4 => by
      rw [Al] at h4 ⊢
      refine ⟨⟨by omega, rfl, ?_⟩, fun j hj => by rw [List.mem_singleton.mp hj]; exact Nat.le_refl _, fun k i ei hk => ?_⟩
      · rw [(d2.2.2 (show m + 1 + yz_l T + 1 ≤ 4000 by omega)).1 m (by omega) _ (by decide), (b2.1.2.2 (by rw [ml]; omega)).1 m (by omega) _ (by decide)]
        exact ((a2.2.2 (show m + 1 ≤ 4000 by omega)).2 0 _ rfl).2.1
      · have : k = 0 := by have := List.mem_singleton.mp hk; omega
        subst this
        cases (show some ((11, nI (m + (1 + yz_l T + 1)), 0, 0) : yI) = some i from ei)
        rfl)
    have x3 : (h3.1 47 6) = (h2.1 47 6) := d2.2.1.1 _ _ (by decide)
    refine ⟨nI (m + 1 + yz_l T), h4, ?_, j4 _ (fun j hj => ?_), (j2.1 _ _ List.not_mem_nil).trans ((d2.2.1.1 _ _ (by decide)).trans o2), fun h5 => ⟨?_, ?_⟩⟩
    · rw [if_pos (show (if false = true then (1 : Int32) else 0) = 0 by decide)]
      refine (congrArg (fun z => zd_B z _) d1).trans ?_
      show f_Cr_codeBranch_39 h3 (nI m) (nI (m + 1 + yz_l T)) = _
      unfold f_Cr_codeBranch_39
      rw [j1, Option.bind_some]
    · rcases List.mem_append.mp hj with z | z
      · exact .inl z
      · exact .inr z
    · have h4' : m + (1 + yz_l T + 1) ≤ 4000 := h5
      have c := b2.2.2 (by omega)
      rw [x1] at c
      rw [show (h4.1 47 6) = (h3.1 47 6) from j2.1 _ _ List.not_mem_nil, x3]
      refine yC_chg (h := h2) _ _ _ (fun j hj => ?_) c
      have := hm j hj
      rw [j3 (by rw [Al]; omega) j (fun z => by have := List.mem_singleton.mp z; omega)]
      exact (d2.2.2 (show m + 1 + yz_l T + 1 ≤ 4000 by omega)).1 j (by omega) _ (by decide)
    · have h4' : m + (1 + yz_l T + 1) ≤ 4000 := h5
      refine ⟨by show m + 1 + yz_l T < m + (1 + yz_l T + 1); omega, rfl, ?_⟩
      show (h4.2.1 43) (m + 1 + yz_l T) = c0
      rw [j3 (by rw [Al]; omega) _ (fun z => by have := List.mem_singleton.mp z; omega)]
      exact ((d2.2.2 (show m + 1 + yz_l T + 1 ≤ 4000 by omega)).2 0 _ rfl).2.1
theorem yM_aj1 {T : Int32} {j : Nat} {g g' : zs_H} (A : yM_am T j g g') : yM_aj T [j] g g' := by
  obtain ⟨a1, a2, a3⟩ := A
  refine ⟨fun a ha => a1.2.1 a ha, funext fun a => a1.2.2 a List.not_mem_nil, fun i hi => a2 i (fun z => hi (List.mem_singleton.mpr z)), fun i hi h4 => ?_⟩
  have := List.mem_singleton.mp hi
  subst this
  exact a3 h4
/-- a jump whose end is not known -/
theorem yM_eh {g : zs_H} {n s u v : Nat} (C : yM_c g n s u v) (hn : n < 100000000) (o : Nat) (ho : o = 10 ∨ o = 11) : ∃ g', f_Mo_emit g (nI o) 0 0 0 = some (nI (n - s), g') ∧ yM_E s n [((o, nI s, 0, 0), v)] g g' := by
  obtain ⟨⟨c1, c2⟩, ⟨c3, c4, c5⟩, c6, c7⟩ := C
  obtain ⟨g', e1, e2⟩ := yM_emit c1 hn c3 (by omega) c5 c2 c6 (o, nI s, 0, 0)
  have eA : yM_A s (o, nI s, 0, 0) = 0 := by
    unfold yM_A
    rw [if_pos (show o = 10 ∨ o = 11 ∨ o = 14 by omega)]
    show nI s - nI s = 0
    rw [zi_sub (Nat.le_refl s), Nat.sub_self]; rfl
  have eB : yM_B s (o, nI s, 0, 0) = 0 := by
    unfold yM_B
    rw [if_neg (show ¬ o = 13 by omega)]
  rw [eA, eB] at e1
  exact ⟨g', e1, e2⟩
theorem yM_br {D m s v q e w ww bi xn dl c20 c11 : Nat} {la : Bool} {T : ys} (f : yM_f g0 g) (c : yM_c g m s b v) (hl : (g.1 68 68) = nI w) (hw : (g.1 68 66) = nI ww) (hn : m + 1 + yz_l T + 1 ≤ 90000001) (h20 : w + c20 ≤ 4000) (h11 : ww + c11 ≤ 8400) (h11' : ww < 8400) (hD : 2 * dl + 1 ≤ D) (B : yk_BM g0 b dl bi T c20 c11) (hx : xn < 33500) (hla : if la = true then (g0.2.1 78) xn = -1 else ∃ y, y < 33500 ∧ (g0.2.1 78) xn = nI y) : ∃ g1, f_Mo_emit g (nI 11) 0 0 0 = some (nI (m - s), g1) ∧ yM_f g0 g1 ∧ ∃ g', (∀ K x3 x4, f_Mo_choiceCode_108 (f_Mo_bodyCode D) K g1 x3 x4 (nI xn) (nI bi) (nI (m - s)) = K g' x3 x4 ((g0.2.1 78) xn)) ∧ yM_H s m ([((11, nI (m + (1 + yz_l T + (if la = true then 0 else 1))), 0, 0), v)] ++ (yz_c T (m + 1) v q 0 ++ (if la = true then [] else [((10, nI e, 0, 0), v)]))) (yz_x T (m + 1) ++ (if la = true then [] else [m + 1 + yz_l T])) g g' ∧ (g'.1 68 64) = (g.1 68 64) ∧ (g'.1 68 66) = nI (ww + (if la = true then ([] : List Nat) else [m + 1 + yz_l T]).length) ∧ yM_st ((g'.2.1 110)) s ww (if la = true then [] else [m + 1 + yz_l T]) ∧ ((g'.1 68 68) = nI (w + (yz_x T (m + 1)).length) ∧ yM_st ((g'.2.1 111)) s w (yz_x T (m + 1)) ∧ ∀ k, k < w → (g'.2.1 111) k = (g.2.1 111) k) ∧ (∀ k, k < ww → (g'.2.1 110) k = (g.2.1 110) k) := by
  obtain ⟨g1, a1, a2⟩ := yM_eh c (by omega) 11 (.inr rfl)
  have f1 := yM_fE f a2
  have c1 : yM_c g1 (m + 1) s b v := yM_cE c a2
  have hl1 : (g1.1 68 68) = nI w := (a2.2.1.1 _ _ (by decide)).trans hl
  have hw1 : (g1.1 68 66) = nI ww := (a2.2.1.1 _ _ (by decide)).trans hw
  obtain ⟨g2, b1, b2⟩ := B D (m + 1) s v q w ww g1 f1 c1 hl1 hw1 (by omega) h20 h11 hD
  obtain ⟨f2, c2, l2, w2⟩ := yM_Rf f1 c1 b2
  obtain ⟨r1, r2, r3, r4, r5, r6, r7⟩ := b2
  have hsm : s ≤ m := c.1.2
  have hxs : ∀ a, ¬ a ∈ yM_M → g2.2.1 a = g0.2.1 a := fun a ha => f2.2.1 a ha
  refine ⟨g1, a1, f1, ?_⟩
  have x8 : ¬ nI (m - s) < 0 := nI_pos (by omega)
  cases la with
  | true =>
    have hb : (g0.2.1 78) xn = -1 := hla
    obtain ⟨g3, d1, d2⟩ := yM_aim (nI (m + 1 + yz_l T - s)) c2 hsm (by omega)
    have A : yM_H s m ([((11, nI (m + (1 + yz_l T + 0)), 0, 0), v)] ++ (yz_c T (m + 1) v q 0 ++ [])) ([m] ++ (yz_x T (m + 1) ++ [])) g g2 := by
      rw [List.append_nil, List.append_nil]
      exact yM_Hap (yM_EHh (by decide) a2) r1
    have Al : ([(((11, nI (m + (1 + yz_l T + 0)), 0, 0), v) : yJ)] ++ (yz_c T (m + 1) v q 0 ++ [])).length = 1 + yz_l T + 0 := by
      rw [List.append_nil, List.length_append, yz_len]; rfl
    have F : ∀ a b, g3.1 a b = g2.1 a b := fun a b => d2.1.1 a b List.not_mem_nil
    have J := yM_join (fs := []) (fun x hx => by cases hx) A (J := by rw [Al, show m + (1 + yz_l T + 0) - s = m + 1 + yz_l T - s by omega]; exact yM_aj1 d2) (fun a b _ => F a b) (F _ _) hsm (fun h4 => ⟨fun j hj => by rw [List.mem_singleton.mp hj]; exact Nat.le_refl _, fun k i ei hk => by
      have : k = 0 := by have := List.mem_singleton.mp hk; omega
      subst this
      cases (show some (((11, nI (m + (1 + yz_l T + 0)), 0, 0), v) : yJ) = some i from ei)
      exact ⟨by rw [Al], .inr (.inl rfl)⟩⟩)
    refine ⟨g3, fun K x3 x4 => ?_, J _ (fun j hj => (List.mem_append.mp hj).elim .inl .inr), ?_, ?_, trivial, ⟨?_, ?_, fun k hk => ?_⟩, fun k hk => ?_⟩
    · unfold f_Mo_choiceCode_108 f_Mo_choiceCode_156 f_Mo_choiceCode_171
      rw [b1, Option.bind_some, if_pos (zi_in (by omega) hx), nI_clamp (show xn < 2147483648 by omega), hxs 78 (by decide), hb, if_pos (show (-1 : Int32) < 0 by decide), if_neg x8, yM_here c2, Option.bind_some, d1, Option.bind_some]
    · rw [F, r2]; exact a2.2.1.1 _ _ (by decide)
    · rw [F, r3, hw1]; rfl
    · rw [F]; exact r4
    · rw [d2.1.2.1 _ (by decide)]; exact r5
    · rw [d2.1.2.1 _ (by decide), r6 k hk, a2.2.1.2.1 _ (by decide)]
    · rw [d2.1.2.1 _ (by decide), r7 k hk, a2.2.1.2.1 _ (by decide)]
  | false =>
    obtain ⟨y, y1, y2⟩ : ∃ y, y < 33500 ∧ (g0.2.1 78) xn = nI y := hla
    obtain ⟨g3, p1, p2⟩ := yM_eh c2 (by omega) 10 (.inl rfl)
    have hw2 : (g2.1 68 66) = nI ww := r3.trans hw1
    have hw3 : (g3.1 68 66) = nI ww := (p2.2.1.1 _ _ (by decide)).trans hw2
    have c3 : yM_c g3 (m + 1 + yz_l T + 1) s b v := yM_cE c2 p2
    obtain ⟨g4, hg4⟩ : ∃ g4, g4 = zs_uF (zs_uM g3 110 ww (nI (m + 1 + yz_l T - s))) 68 66 (nI (ww + 1)) := ⟨_, rfl⟩
    have c4 : yM_c g4 (m + 1 + yz_l T + 1) s b v := by
      rw [hg4]
      obtain ⟨⟨q1, q2⟩, ⟨q3, q4, q5⟩, q6, q7⟩ := c3
      exact ⟨⟨q1, q2⟩, ⟨q3, q4, by rw [zu_FM, zu_MM, if_neg (fun z => absurd z.1 (by decide))]; exact q5⟩, q6, q7⟩
    obtain ⟨g5, d1, d2⟩ := yM_aim (nI (m + 1 + yz_l T + 1 - s)) c4 hsm (by omega)
    have A0 : yM_H s (m + 1 + yz_l T) [((10, nI e, 0, 0), v)] [m + 1 + yz_l T] g2 g4 := by
      have A1 : yM_H s (m + 1 + yz_l T) [((10, nI e, 0, 0), v)] [m + 1 + yz_l T] g2 g3 := yM_EHh (by decide) p2
      rw [hg4]
      refine ⟨A1.1, zfr_F (by decide) (zfr_M (by decide) A1.2.1), fun h4 => ⟨fun j hj a ha => ?_, fun k i ei => ?_⟩⟩
      · rw [← (A1.2.2 h4).1 j hj a ha, zu_FM, zu_MM, if_neg (fun z => by rw [z.1] at ha; exact absurd ha (by decide))]
      · obtain ⟨x1, x2⟩ := (A1.2.2 h4).2 k i ei
        have ee : ∀ a, a ∈ yM_w → (zs_uF (zs_uM g3 110 ww (nI (m + 1 + yz_l T - s))) 68 66 (nI (ww + 1))).2.1 a (m + 1 + yz_l T + k) = g3.2.1 a (m + 1 + yz_l T + k) := fun a ha => by
          rw [zu_FM, zu_MM, if_neg (fun z => by rw [z.1] at ha; exact absurd ha (by decide))]
        exact ⟨yM_m0f ee x1, fun z => yM_tf ee (x2 z)⟩
    have A : yM_H s m ([((11, nI (m + (1 + yz_l T + 1)), 0, 0), v)] ++ (yz_c T (m + 1) v q 0 ++ [((10, nI e, 0, 0), v)])) ([m] ++ (yz_x T (m + 1) ++ [m + 1 + yz_l T])) g g4 := yM_Hap (yM_EHh (by decide) a2) (yM_Hap r1 (by rw [yz_len]; exact A0))
    have Al : ([(((11, nI (m + (1 + yz_l T + 1)), 0, 0), v) : yJ)] ++ (yz_c T (m + 1) v q 0 ++ [((10, nI e, 0, 0), v)])).length = 1 + yz_l T + 1 := by
      rw [List.length_append, List.length_append, yz_len]; show 1 + (yz_l T + 1) = _; omega
    have F : ∀ a b, g5.1 a b = g4.1 a b := fun a b => d2.1.1 a b List.not_mem_nil
    have J := yM_join (fs := []) (fun x hx => by cases hx) A (J := by rw [Al, show m + (1 + yz_l T + 1) - s = m + 1 + yz_l T + 1 - s by omega]; exact yM_aj1 d2) (fun a b _ => F a b) (F _ _) hsm (fun h4 => ⟨fun j hj => by rw [List.mem_singleton.mp hj]; exact Nat.le_refl _, fun k i ei hk => by
      have : k = 0 := by have := List.mem_singleton.mp hk; omega
      subst this
      cases (show some (((11, nI (m + (1 + yz_l T + 1)), 0, 0), v) : yJ) = some i from ei)
      exact ⟨by rw [Al], .inr (.inl rfl)⟩⟩)
    have e110 : (g5.2.1 110) = (g4.2.1 110) := d2.1.2.1 _ (by decide)
    have e111 : (g5.2.1 111) = (g3.2.1 111) := by
      rw [d2.1.2.1 _ (by decide), hg4]
      funext j
      rw [zu_FM, zu_MM, if_neg (fun z => absurd z.1 (by decide))]
    refine ⟨g5, fun K x3 x4 => ?_, J _ (fun j hj => (List.mem_append.mp hj).elim .inl .inr), ?_, ?_, ⟨⟨?_, by omega, by omega⟩, trivial⟩, ⟨?_, ?_, fun k hk => ?_⟩, fun k hk => ?_⟩
    · unfold f_Mo_choiceCode_108 f_Mo_choiceCode_156 f_Mo_choiceCode_171
      rw [b1, Option.bind_some, if_pos (zi_in (by omega) hx), nI_clamp (show xn < 2147483648 by omega), hxs 78 (by decide), y2, if_neg (nI_pos (by omega))]
      refine (congrArg (fun z => zd_B z _) p1).trans ?_
      show (if zd_in ((g2.1 68 66)) 8400 then (if nI (m - s) < 0 then K (zs_uF (zs_uM g3 110 ((g2.1 68 66)).toNatClampNeg (nI (m + 1 + yz_l T - s))) 68 66 ((g3.1 68 66) + 1)) x3 x4 (nI y) else (f_Mo_here (zs_uF (zs_uM g3 110 ((g2.1 68 66)).toNatClampNeg (nI (m + 1 + yz_l T - s))) 68 66 ((g3.1 68 66) + 1))).bind fun v3 => (f_Mo_aim (zs_uF (zs_uM g3 110 ((g2.1 68 66)).toNatClampNeg (nI (m + 1 + yz_l T - s))) 68 66 ((g3.1 68 66) + 1)) (nI (m - s)) v3).bind fun h5 => K h5 x3 x4 (nI y)) else none) = _
      rw [hw2, hw3, if_pos (zi_in (by omega) h11'), nI_clamp (show ww < 2147483648 by omega), nI_1, ← hg4, if_neg x8, yM_here c4, Option.bind_some, d1, Option.bind_some]
    · rw [F, hg4]
      show (g3.1 68 64) = _
      rw [p2.2.1.1 _ _ (by decide), r2]; exact a2.2.1.1 _ _ (by decide)
    · rw [F, hg4]; rfl
    · rw [e110, hg4]
      show (zs_uF (zs_uM g3 110 ww (nI (m + 1 + yz_l T - s))) 68 66 (nI (ww + 1))).2.1 110 (ww + 0) = _
      rw [zu_FM, zu_MM, if_pos ⟨rfl, rfl⟩]
    · rw [F, hg4]
      show (g3.1 68 68) = _
      rw [p2.2.1.1 _ _ (by decide)]; exact r4
    · rw [e111, p2.2.1.2.1 _ (by decide)]; exact r5
    · rw [e111, p2.2.1.2.1 _ (by decide), r6 k hk, a2.2.1.2.1 _ (by decide)]
    · rw [e110, hg4, zu_FM, zu_MM, if_neg (fun z => by have : k = ww := z.2; omega), p2.2.1.2.1 _ (by decide), r7 k hk, a2.2.1.2.1 _ (by decide)]
end YBR
