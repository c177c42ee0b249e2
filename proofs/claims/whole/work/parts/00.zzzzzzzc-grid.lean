/-! The coder: rungs, the class's code. -/
section YLD
variable {pw n m : Nat} {q : Nat → Nat → yT} {h0 h h' : zs_H}
theorem yu_edge {k s E fl : Nat} (es : (h.1 41 5) = nI k) (hk : k + 7 ≤ 90000000) (hf : fl < 2) : ∃ h', f_Cr_codeEdge h (nI s) (nI fl) (nI E) = some h' ∧ yC_E k (if fl = 1 then [(1, nI s, 0, 0), (1, nI E, 0, 0), (8, 2, 0, 0), (7, 10, 0, 0), (7, 10, 0, 0), (1, nI s, 0, 0), (2, nI E, 0, 0)] else [(1, nI E, 0, 0), (1, nI s, 0, 0), (8, 2, 0, 0), (7, 10, 0, 0), (7, 10, 0, 0), (1, nI s, 0, 0), (2, nI E, 0, 0)]) h h' := by
  have go : ∀ a1 a2 : Nat, ∃ h', zd_B (f_Cd_emit h 1 (nI a1)) (fun _ h3 => f_Cr_codeEdge_32 h3 (nI s) (nI E) (nI a2) 1) = some h' ∧ yC_E k [(1, nI a1, 0, 0), (1, nI a2, 0, 0), (8, 2, 0, 0), (7, 10, 0, 0), (7, 10, 0, 0), (1, nI s, 0, 0), (2, nI E, 0, 0)] h h' := by
    intro a1 a2
    obtain ⟨h1, p1, p2⟩ := yC_emit es (by omega) 1 (by decide) (nI a1)
    obtain ⟨h2, q1, q2⟩ := yC_emit p2.1 (by show k + 1 < _; omega) 1 (by decide) (nI a2)
    obtain ⟨h3, r1, r2⟩ := yC_emit q2.1 (by show k + 1 + 1 < _; omega) 8 (by decide) 2
    obtain ⟨h4, s1, s2⟩ := yC_emit r2.1 (by show k + 1 + 1 + 1 < _; omega) 7 (by decide) 10
    obtain ⟨h5, t1, t2⟩ := yC_emit s2.1 (by show k + 1 + 1 + 1 + 1 < _; omega) 7 (by decide) 10
    obtain ⟨h6, u1, u2⟩ := yC_emit t2.1 (by show k + 1 + 1 + 1 + 1 + 1 < _; omega) 1 (by decide) (nI s)
    obtain ⟨h7, v1, v2⟩ := yC_emit u2.1 (by show k + 1 + 1 + 1 + 1 + 1 + 1 < _; omega) 2 (by decide) (nI E)
    refine ⟨h7, ?_, yC_ap p2 (yC_ap q2 (yC_ap r2 (yC_ap s2 (yC_ap t2 (yC_ap u2 v2)))))⟩
    refine (congrArg (fun z => zd_B z _) p1).trans ?_
    show f_Cr_codeEdge_32 h1 (nI s) (nI E) (nI a2) 1 = _
    unfold f_Cr_codeEdge_32
    refine (congrArg (fun z => zd_B z _) q1).trans ?_
    refine (show zd_B (f_Cd_emit h2 8 2) _ = _ from (congrArg (fun z => zd_B z _) r1).trans ?_)
    refine (show zd_B (f_Cd_emit h3 7 10) _ = _ from (congrArg (fun z => zd_B z _) s1).trans ?_)
    refine (show zd_B (f_Cd_emit h4 7 10) _ = _ from (congrArg (fun z => zd_B z _) t1).trans ?_)
    refine (show zd_B (f_Cd_emit h5 1 (nI s)) _ = _ from (congrArg (fun z => zd_B z _) u1).trans ?_)
    exact (show zd_B (f_Cd_emit h6 2 (nI E)) _ = _ from (congrArg (fun z => zd_B z _) v1).trans rfl)
  unfold f_Cr_codeEdge f_Cr_codeEdge_14
  by_cases z : fl = 1
  · rw [if_pos z]
    have z0 : ¬ nI fl = 0 := fun e => by have := (zc_eq (k := 0) (by decide) (by omega)).mp e; omega
    obtain ⟨h', a1, a2⟩ := go s E
    refine ⟨h', ?_, a2⟩
    rw [if_neg z0]
    simp only [if_neg z0]
    exact a1
  · rw [if_neg z]
    have z0 : nI fl = 0 := by rw [show fl = 0 by omega]; rfl
    obtain ⟨h', a1, a2⟩ := go E s
    refine ⟨h', ?_, a2⟩
    rw [if_pos z0]
    simp only [if_pos z0]
    exact a1
theorem yu_ctl {t : yT} : (yu_ct t).length ≤ 7 := by
  unfold yu_ct
  split
  · split
    · show 2 ≤ 7; omega
    · split
      · show 3 ≤ 7; omega
      · split <;> exact Nat.le_refl _
  · exact Nat.zero_le _
theorem yu_wyl {r c : Nat} : (yu_wy pw q r c).length ≤ 8 := by
  unfold yu_wy
  rw [List.length_append]
  have := yu_ctl (t := q r c)
  have e : (if c = 0 then [((0, 1, 0, 0) : yI)] else [(1, nI (yu_pw pw q r (c - 1)), 0, 0)]).length = 1 := by split <;> rfl
  omega
/-- the class sees a cell -/
theorem yu_cOf (f : yC_f h0 h) (x : Int32) : f_Cr_cellOf h x = f_Cr_cellOf h0 x := by
  unfold f_Cr_cellOf
  rw [f.2.1 16 (by decide), f.2.1 13 (by decide), f.2.1 17 (by decide), f.2.1 32 (by decide)]
theorem yu_w34 {k r c : Nat} (f : yC_f h0 h) (S : yu_S pw n m q h) (hr : r < n) (hc : c < m) (N : yu_N h0 (q r c)) (es : (h.1 41 5) = nI k) (hk : k + 7 ≤ 90000000) : ∃ h', f_Cr_codeWay_34 h (nI (q r c).2.2.2.2.2.1) (nI r) (nI c) = some h' ∧ yC_E k (yu_ct (q r c)) h h' := by
  obtain ⟨⟨n1, n2, n3, n4⟩, n5, _⟩ := N
  have f' : ∀ a, ¬ a ∈ yC_M → h.2.1 a = h0.2.1 a := fun a ha => f.2.1 a ha
  have sn := S.2.1
  unfold f_Cr_codeWay_34 yu_ct
  simp only [if_pos (zi_in (show (q r c).2.2.2.2.2.1 < 2147483648 by omega) n3), nI_clamp (show (q r c).2.2.2.2.2.1 < 2147483648 by omega), f' 13 (by decide), n4, f' 17 (by decide), yu_cOf f, f' 16 (by decide)]
  by_cases z : (q r c).1 = 25
  · obtain ⟨m1, m2⟩ := n5 z
    rw [if_pos z, if_pos (by rw [z]; rfl), m2, Option.bind_some, m1]
    by_cases z2 : (q r c).2.1 < 2
    · rw [if_pos ((zc_tl (k := 2) (by decide) (by omega)).mpr z2)]
      obtain ⟨h1, a1, a2⟩ := yC_emit es (by omega) 1 (by decide) (nI (q r c).2.2.1)
      have f1 := yC_fE f a2
      by_cases z1 : (q r c).2.1 = 1
      · obtain ⟨h2, b1, b2⟩ := yC_emit a2.1 (by show k + 1 < _; omega) 8 (by decide) 2
        obtain ⟨h3, d1, d2⟩ := yC_emit b2.1 (by show k + 1 + 1 < _; omega) 7 (by decide) 10
        rw [if_neg (by omega), if_pos z1]
        refine ⟨h3, ?_, yC_ap a2 (yC_ap b2 d2)⟩
        refine (congrArg (fun z => zd_B z _) a1).trans ?_
        show (if nI (q r c).2.1 = 1 then (zd_B (f_Cd_emit h1 8 2) fun _ h12 => f_Cr_codeWay_138 h12) else f_Cr_codeWay_138 h1) = _
        rw [if_pos (by rw [z1]; rfl)]
        refine (congrArg (fun z => zd_B z _) b1).trans ?_
        show f_Cr_codeWay_138 h2 = _
        unfold f_Cr_codeWay_138
        exact (congrArg (fun z => zd_B z _) d1).trans rfl
      · obtain ⟨h3, d1, d2⟩ := yC_emit a2.1 (by show k + 1 < _; omega) 7 (by decide) 10
        rw [if_pos (by omega)]
        refine ⟨h3, ?_, yC_ap a2 d2⟩
        refine (congrArg (fun z => zd_B z _) a1).trans ?_
        show (if nI (q r c).2.1 = 1 then (zd_B (f_Cd_emit h1 8 2) fun _ h12 => f_Cr_codeWay_138 h12) else f_Cr_codeWay_138 h1) = _
        rw [if_neg (fun e => z1 ((zc_eq (k := 1) (by decide) (by omega)).mp e))]
        unfold f_Cr_codeWay_138
        exact (congrArg (fun z => zd_B z _) d1).trans rfl
    · rw [if_neg (mt (zc_tl (k := 2) (by decide) (by omega)).mp z2), if_neg (show ¬ (q r c).2.1 = 0 by omega), if_neg (show ¬ (q r c).2.1 = 1 by omega)]
      have e95 : ∀ fl : Nat, f_Cr_codeWay_95 h (nI r) (nI c) (nI fl) (nI (q r c).2.2.1) = f_Cr_codeEdge h (nI (q r c).2.2.1) (nI fl) (nI (q r c).2.2.2.1) := by
        intro fl
        unfold f_Cr_codeWay_95
        rw [show nI r * 12 + nI c = nI (r * 12 + c) by rw [show (12 : Int32) = nI 12 from rfl, zi_mul, nI_add], if_pos (zi_in (by omega) (by omega)), nI_clamp (show r * 12 + c < 2147483648 by omega), (S.2.2 r c hr hc).2.2 z (by omega), Option.bind_fun_some]
      by_cases z3 : (q r c).2.1 = 2
      · rw [if_pos z3, if_pos (by rw [z3]; rfl)]
        obtain ⟨h', a1, a2⟩ := yu_edge (s := (q r c).2.2.1) (E := (q r c).2.2.2.1) (fl := 1) es hk (by decide)
        exact ⟨h', (e95 1).trans a1, a2⟩
      · rw [if_neg z3, if_neg (fun e => z3 ((zc_eq (k := 2) (by decide) (by omega)).mp e))]
        obtain ⟨h', a1, a2⟩ := yu_edge (s := (q r c).2.2.1) (E := (q r c).2.2.2.1) (fl := 0) es hk (by decide)
        exact ⟨h', (e95 0).trans a1, a2⟩
  · rw [if_neg z, if_neg (fun e => z ((zc_eq (k := 25) (by decide) (by omega)).mp e))]
    exact ⟨h, rfl, yC_nil es⟩
theorem yu_way {k r c : Nat} (f : yC_f h0 h) (S : yu_S pw n m q h) (hr : r < n) (hc : c < m) (N : yu_N h0 (q r c)) (es : (h.1 41 5) = nI k) (hk : k + 8 ≤ 90000000) : ∃ h', f_Cr_codeWay h (nI (q r c).2.2.2.2.2.1) (nI r) (nI c) = some h' ∧ yC_E k (yu_wy pw q r c) h h' := by
  have sn := S.2.1
  unfold f_Cr_codeWay yu_wy
  by_cases z : c = 0
  · obtain ⟨h1, a1, a2⟩ := yC_emit es (by omega) 0 (by decide) 1
    obtain ⟨h2, b1, b2⟩ := yu_w34 (yC_fE f a2) (yu_Sf S a2) hr hc N a2.1 (by show k + 1 + 7 ≤ _; omega)
    rw [if_pos z, if_pos (by rw [z]; rfl)]
    refine ⟨h2, ?_, yC_ap a2 b2⟩
    exact (congrArg (fun z => zd_B z _) a1).trans b1
  · obtain ⟨h1, a1, a2⟩ := yC_emit es (by omega) 1 (by decide) (nI (yu_pw pw q r (c - 1)))
    obtain ⟨h2, b1, b2⟩ := yu_w34 (yC_fE f a2) (yu_Sf S a2) hr hc N a2.1 (by show k + 1 + 7 ≤ _; omega)
    rw [if_neg z, if_neg (fun e => z ((zc_eq (k := 0) (by decide) (by omega)).mp e)), show nI c - 1 = nI (c - 1) from zi_sub (b := 1) (by omega), yu_p S hr (by omega), Option.bind_some]
    refine ⟨h2, ?_, yC_ap a2 b2⟩
    exact (congrArg (fun z => zd_B z _) a1).trans b1
/-- a group -/
theorem yu_grC {c fr la : Nat} (hc : c < m) (hf : fr < n) (hn : ∀ r, r < n → yu_N h0 (q r c)) : ∀ (k r w kk N : Nat) (h : zs_H), yC_f h0 h → yu_S pw n m q h → r + k = la + 1 → la < n → (h.1 41 5) = nI kk → kk + 9 * k + 2 ≤ 90000000 → k < N → w ≤ r → ∃ h', f_Cr_codeGroup_L6 N h (nI fr) (nI la) (nI c) (nI w) (nI r) = some h' ∧ yC_E kk (yu_gr pw q c k r w ++ [(2, nI (yu_pw pw q fr c), 0, 0)]) h h' := by
  intro k
  induction k with
  | zero =>
    intro r w kk N h f S hr hl es hk hN hw
    have sn := S.2.1
    obtain ⟨N, rfl⟩ : ∃ z, N = z + 1 := ⟨N - 1, by omega⟩
    have fin : ∀ (h1 : zs_H) (k1 : Nat), yu_S pw n m q h1 → (h1.1 41 5) = nI k1 → k1 < 90000000 → ∃ h', f_Cr_codeGroup_92 h1 (nI fr) (nI c) = some h' ∧ yC_E k1 [(2, nI (yu_pw pw q fr c), 0, 0)] h1 h' := by
      intro h1 k1 S1 e1 hk1
      obtain ⟨h2, b1, b2⟩ := yC_emit e1 (by omega) 2 (by decide) (nI (yu_pw pw q fr c))
      refine ⟨h2, ?_, b2⟩
      unfold f_Cr_codeGroup_92
      rw [yu_p S1 hf hc, Option.bind_some]
      exact (congrArg (fun z => zd_B z _) b1).trans rfl
    show ∃ h', f_Cr_codeGroup_6 (f_Cr_codeGroup_L6 N) h (nI fr) (nI la) (nI c) (nI w) (nI r) = some h' ∧ yC_E kk ((if w = 0 then [(0, 0, 0, 0)] else []) ++ [(2, nI (yu_pw pw q fr c), 0, 0)]) h h'
    unfold f_Cr_codeGroup_6
    rw [if_pos ((nI_ltI (by omega) (by omega)).mpr (by omega))]
    by_cases z : w = 0
    · obtain ⟨h1, a1, a2⟩ := yC_emit es (by omega) 0 (by decide) 0
      obtain ⟨h2, b1, b2⟩ := fin h1 _ (yu_Sf S a2) a2.1 (by show kk + 1 < _; omega)
      rw [if_pos z, if_pos (by rw [z]; rfl)]
      exact ⟨h2, (congrArg (fun z => zd_B z _) a1).trans b1, yC_ap a2 b2⟩
    · obtain ⟨h2, b1, b2⟩ := fin h kk S es (by omega)
      rw [if_neg z, if_neg (fun e => z ((zc_eq (k := 0) (by decide) (by omega)).mp e))]
      exact ⟨h2, b1, b2⟩
  | succ k ih =>
    intro r w kk N h f S hr hl es hk hN hw
    have sn := S.2.1
    obtain ⟨N, rfl⟩ : ∃ z, N = z + 1 := ⟨N - 1, by omega⟩
    have Nr := hn r (by omega)
    have hrn : r < n := by omega
    obtain ⟨g1, _, _⟩ := S.2.2 r c hrn hc
    show ∃ h', f_Cr_codeGroup_6 (f_Cr_codeGroup_L6 N) h (nI fr) (nI la) (nI c) (nI w) (nI r) = some h' ∧ yC_E kk ((if (q r c).1 = 27 then yu_gr pw q c k (r + 1) w else yu_wy pw q r c ++ ((if w = 0 then [] else [(7, 11, 0, 0)]) ++ yu_gr pw q c k (r + 1) (w + 1))) ++ [(2, nI (yu_pw pw q fr c), 0, 0)]) h h'
    unfold f_Cr_codeGroup_6
    rw [if_neg (mt (nI_ltI (by omega) (by omega)).mp (by omega)), show nI r * 12 + nI c = nI (r * 12 + c) by rw [show (12 : Int32) = nI 12 from rfl, zi_mul, nI_add], if_pos (zi_in (by omega) (by omega)), nI_clamp (show r * 12 + c < 2147483648 by omega), g1, if_pos (zi_in (by have := Nr.1.2.2.1; omega) Nr.1.2.2.1), nI_clamp (by have := Nr.1.2.2.1; omega), f.2.1 13 (by decide), Nr.1.2.2.2]
    by_cases z : (q r c).1 = 27
    · rw [if_pos z, if_pos (by rw [z]; rfl)]
      unfold f_Cr_codeGroup_71
      rw [nI_1]
      exact ih (r + 1) w kk N h f S (by omega) hl es (by omega) (by omega) (by omega)
    · rw [if_neg z, if_neg (fun e => z ((zc_eq (k := 27) (by decide) (by have := Nr.1.1; omega)).mp e))]
      obtain ⟨h1, a1, a2⟩ := yu_way f S hrn hc Nr es (by omega)
      have f1 := yC_fE f a2
      have S1 := yu_Sf S a2
      have wl := yu_wyl (pw := pw) (q := q) (r := r) (c := c)
      rw [a1, Option.bind_some, nI_1, List.append_assoc, List.append_assoc]
      by_cases zw : w = 0
      · rw [if_pos ((zc_el (k := 1) (by decide) (by omega)).mpr (by omega)), if_pos zw]
        unfold f_Cr_codeGroup_71
        rw [nI_1]
        obtain ⟨h2, b1, b2⟩ := ih (r + 1) (w + 1) _ N h1 f1 S1 (by omega) hl a2.1 (by omega) (by omega) (by omega)
        exact ⟨h2, b1, yC_ap a2 b2⟩
      · rw [if_neg (mt (zc_el (k := 1) (by decide) (by omega)).mp (by omega)), if_neg zw]
        obtain ⟨h2, b1, b2⟩ := yC_emit a2.1 (by omega) 7 (by decide) 11
        have f2 := yC_fE f1 b2
        obtain ⟨h3, d1, d2⟩ := ih (r + 1) (w + 1) _ N h2 f2 (yu_Sf S1 b2) (by omega) hl b2.1 (by show kk + (yu_wy pw q r c).length + 1 + 9 * k + 2 ≤ _; omega) (by omega) (by omega)
        refine ⟨h3, ?_, yC_ap a2 (yC_ap b2 d2)⟩
        refine (congrArg (fun z => zd_B z _) b1).trans ?_
        show f_Cr_codeGroup_71 (f_Cr_codeGroup_L6 N) h2 (nI fr) (nI la) (nI c) (nI (w + 1)) (nI r) = _
        unfold f_Cr_codeGroup_71
        rw [nI_1]
        exact d1
end YLD
