/-! The coder: FOR. -/
section YFO
variable {h0 h g0 g : zs_H} {b : Nat}
theorem yC_Hu {n k : Nat} {L : List yI} {H : List Nat} {x : Int32} {h' : zs_H} (hk : (47, k) ∈ yC_g) (A : yC_H n L H (zs_uF h 47 k x) h') : yC_H n L H h h' := ⟨A.1, zfr_trans (zfr_F hk zfr_rfl) A.2.1, fun h4 => ⟨fun j hj a ha => ((A.2.2 h4).1 j hj a ha).trans rfl, (A.2.2 h4).2⟩⟩
theorem yM_Hu {s n : Nat} {L : List yJ} {H : List Nat} {x : Int32} {g' : zs_H} (A : yM_H s n L H (zs_uF g 68 64 x) g') : yM_H s n L H g g' := ⟨A.1, zfr_trans (zfr_F (by decide) zfr_rfl) A.2.1, fun h4 => ⟨fun j hj a ha => ((A.2.2 h4).1 j hj a ha).trans rfl, (A.2.2 h4).2⟩⟩
/-- a loop, for the class -/
theorem yC_loop {m v q ow o2 : Nat} {Tm : Int32} {l : ys} {h1 h2 h4 h5 : zs_H} (hm : m + (3 + yz_l l) < 100000000) (E1 : yC_E m [(12, nI ow, Tm, 0)] h h1) (E2 : yC_E (m + 1) [(13, -1, nI ow, 0)] h1 h2) (R : yC_R (m + 2) (v + 1) (m + (3 + yz_l l)) l o2 (zs_uF h2 47 6 (-1)) h4) (E3 : yC_E (m + 2 + yz_l l) [(14, nI (m + 1), 0, 0)] h4 h5) : ∃ h6 h7, f_Cd_joinHere h5 (nI (m + 1)) = some h6 ∧ f_Cd_joinHere h6 ((h6.1 47 6)) = some h7 ∧ yC_R m v q (.inner 2 ([], nI ow, Tm) () l .leaf) o2 h (zs_uF h7 47 6 ((h2.1 47 6))) := by
  obtain ⟨r1, r2, r3⟩ := R
  obtain ⟨C, hC⟩ : ∃ C, C = (yz_c l (m + 2) (v + 1) (m + (3 + yz_l l)) 0).map Prod.fst := ⟨_, rfl⟩
  have hCl : C.length = yz_l l := by rw [hC, List.length_map, yz_len]
  rw [← hC] at r1
  obtain ⟨LL, hLL⟩ : ∃ LL : List yI, LL = [(12, nI ow, Tm, 0)] ++ ([(13, nI (m + (3 + yz_l l)), nI ow, 0)] ++ (C ++ [(14, nI (m + 1), 0, 0)])) := ⟨_, rfl⟩
  have hl : LL.length = 3 + yz_l l := by
    rw [hLL, List.length_append, List.length_append, List.length_append, hCl]
    show 1 + (1 + (yz_l l + 1)) = _
    omega
  have A : yC_H m LL ([] ++ ([m + 1] ++ (yz_x l (m + 2) ++ []))) h h5 := by
    rw [hLL]
    exact yC_Hap (yC_EH E1) (yC_Hap (yC_EHh E2) (yC_Hap (yC_Hu (by decide) r1) (by rw [hCl]; exact yC_EH E3)))
  have ea : m + LL.length ≤ 4000 → (h5.2.1 43) (m + 1) = -1 := fun h4' => by
    rw [hl] at h4'
    rw [(E3.2.2 (by show m + 2 + yz_l l + 1 ≤ _; omega)).1 (m + 1) (by omega) _ (by decide), (r1.2.2 (by rw [hCl]; omega)).1 (m + 1) (by omega) _ (by decide)]
    exact ((E2.2.2 (by show m + 1 + 1 ≤ _; omega)).2 0 _ rfl).2.1
  obtain ⟨h6, j1, j2, j3, j4⟩ := yC_join (js := [m + 1]) (x := nI (m + 1)) (by rw [hl]; omega) A (fun h4' => by
    refine ⟨⟨by rw [hl]; omega, rfl, ea h4'⟩, fun j hj => by have := List.mem_singleton.mp hj; omega, fun k i ei hk => ?_⟩
    have : k = 1 := by have := List.mem_singleton.mp hk; omega
    subst this
    rw [hl]
    rw [hLL] at ei
    have ei' : some ((13, nI (m + (3 + yz_l l)), nI ow, 0) : yI) = some i := ei
    cases ei'
    rfl)
  have B := j4 (yz_x l (m + 2)) (fun j hj => by
    rcases List.mem_append.mp hj with z | z
    · cases z
    rcases List.mem_append.mp z with z | z
    · exact .inl z
    rcases List.mem_append.mp z with z | z
    · exact .inr z
    · cases z)
  have ex6 : (h6.1 47 6) = (h4.1 47 6) := (j2.1 _ _ List.not_mem_nil).trans (E3.2.1.1 _ _ (by decide))
  obtain ⟨h7, k1, k2, _, k4⟩ := yC_join (js := yz_x l (m + 2)) (x := (h6.1 47 6)) (by rw [hl]; omega) B (fun h4' => by
    have h4'' := h4'
    rw [hl] at h4''
    refine ⟨?_, fun j hj => by have := yz_xr _ _ _ hj; omega, fun k i ei hk => ?_⟩
    · rw [ex6]
      have c1 := r3 (by omega)
      have c2 := yC_chf (h' := h5) _ _ _ (fun j hj => (E3.2.2 (by show m + 2 + yz_l l + 1 ≤ _; omega)).1 j hj _ (by decide)) c1
      exact yC_chm (by rw [hl]; omega) (yC_chg _ _ _ (fun j hj => j3 h4' j (fun z => by have := yz_xr _ _ _ hj; have := List.mem_singleton.mp z; omega)) c2)
    · have hr := yz_xr _ _ _ hk
      obtain ⟨k, rfl⟩ : ∃ z, k = z + 1 + 1 := ⟨k - 2, by omega⟩
      rw [hLL] at ei
      have ei' : (C ++ [(14, nI (m + 1), 0, 0)])[k]? = some i := ei
      rw [List.getElem?_append, if_pos (by rw [hCl]; omega), hC, List.getElem?_map] at ei'
      cases hj : (yz_c l (m + 2) (v + 1) (m + (3 + yz_l l)) 0)[k]? with
      | none => rw [hj] at ei'; cases ei'
      | some i' =>
        rw [hj] at ei'
        cases ei'
        rw [hl]
        exact (yz_xP l (m + 2) (v + 1) (m + (3 + yz_l l)) 0 k i' hj (by rw [show m + 2 + k = m + (k + 1 + 1) by omega]; exact hk)).2)
  have D := k4 [] (fun j hj => .inl hj)
  have ec : (yz_c (.inner 2 ([], nI ow, Tm) () l .leaf) m v q 0).map Prod.fst = LL := by
    show ([((12, nI ow, Tm, 0), v)] ++ ([((13, nI (m + (3 + yz_l l)), nI ow, 0), v)] ++ (yz_c l (m + 2) (v + 1) (m + (3 + yz_l l)) 0 ++ ([((14, nI (m + 1), 0, 0), v + 1)] ++ []))) : List yJ).map Prod.fst = LL
    rw [List.append_nil, List.map_append, List.map_append, List.map_append, hLL, hC]
    rfl
  have eh : (h2.1 47 6) = (h.1 47 6) := (E2.2.1.1 _ _ (by decide)).trans (E1.2.1.1 _ _ (by decide))
  refine ⟨h6, h7, j1, k1, ?_, ?_, fun _ => eh⟩
  · rw [ec]
    exact ⟨D.1, zfr_trans D.2.1 (zfr_F (by decide) zfr_rfl), fun h4' => ⟨fun j hj a ha => (D.2.2 h4').1 j hj a ha, (D.2.2 h4').2⟩⟩
  · exact (k2.1 _ _ List.not_mem_nil).trans ((j2.1 _ _ List.not_mem_nil).trans ((E3.2.1.1 _ _ (by decide)).trans r2))
/-- and for the model -/
theorem yM_loop {s m v q ow w ww : Nat} {Tm : Int32} {l : ys} {g1 g2 g4 : zs_H} (c : yM_c g m s b v) (hl0 : (g.1 68 68) = nI w) (hm : m + (3 + yz_l l) < 100000000) (hx : w + (yz_x l (m + 2)).length ≤ 4000) (E1 : yM_E s m (yv v [(12, nI ow, Tm, 0)]) g g1) (E2 : yM_E s (m + 1) [((13, nI s, nI ow, 0), v)] g1 g2) (R : yM_R s (m + 2) (v + 1) (m + (3 + yz_l l)) l w ww (zs_uF g2 68 64 (nI (v + 1))) g4) : ∃ g5 g6 g8, f_Mo_emit g4 14 (nI (m + 1 - s)) 0 0 = some (nI (m + 2 + yz_l l - s), g5) ∧ f_Mo_here g5 = some (nI (m + (3 + yz_l l) - s)) ∧ f_Mo_aim g5 (nI (m + 1 - s)) (nI (m + (3 + yz_l l) - s)) = some g6 ∧ f_Mo_loopCode_L235 zF g6 (nI w) = some g8 ∧ yM_R s m v q (.inner 2 ([], nI ow, Tm) () l .leaf) w ww g g8 := by
  have hz := zF_big
  have c2 : yM_c g2 (m + 2) s b v := yM_cL (yM_cL c E1) (show yM_E s (m + 1) (yv v [(13, nI s, nI ow, 0)]) g1 g2 from E2)
  have c2' : yM_c (zs_uF g2 68 64 (nI (v + 1))) (m + 2) s b (v + 1) := ⟨c2.1, c2.2.1, rfl, c2.2.2.2⟩
  obtain ⟨_, c4, l4, w4⟩ := yM_Rf (show yM_f (zs_uF g2 68 64 (nI (v + 1))) (zs_uF g2 68 64 (nI (v + 1))) from zfr_rfl) c2' R
  obtain ⟨r1, r2, r3, r4, r5, r6, r7⟩ := R
  have hs := c.1.2
  obtain ⟨C, hC⟩ : ∃ C, C = yz_c l (m + 2) (v + 1) (m + (3 + yz_l l)) 0 := ⟨_, rfl⟩
  have hCl : C.length = yz_l l := by rw [hC, yz_len]
  rw [← hC] at r1
  obtain ⟨⟨q1, q2⟩, ⟨q3, q4, q5⟩, q6, q7⟩ := id c4
  obtain ⟨g5, b1, b2⟩ := yM_emit q1 (by omega) q3 (by omega) q5 q2 q6 (14, nI (m + 1), 0, 0)
  have eA : yM_A s (14, nI (m + 1), 0, 0) = nI (m + 1 - s) := by
    unfold yM_A
    rw [if_pos (.inr (.inr rfl))]
    show nI (m + 1) - nI s = _
    rw [zi_sub (by omega)]
  rw [eA] at b1
  have c5 : yM_c g5 (m + (3 + yz_l l)) s b (v + 1) := by
    have := yM_cL c4 (show yM_E s (m + 2 + yz_l l) (yv (v + 1) [(14, nI (m + 1), 0, 0)]) g4 g5 from b2)
    rw [show m + (3 + yz_l l) = m + 2 + yz_l l + 1 by omega]
    exact this
  obtain ⟨M, hM⟩ : ∃ M : List yJ, M = [((12, nI ow, Tm, 0), v)] ++ ([((13, nI (m + (3 + yz_l l)), nI ow, 0), v)] ++ (C ++ [((14, nI (m + 1), 0, 0), v + 1)])) := ⟨_, rfl⟩
  have hl : M.length = 3 + yz_l l := by
    rw [hM, List.length_append, List.length_append, List.length_append, hCl]
    show 1 + (1 + (yz_l l + 1)) = _
    omega
  have A : yM_H s m M ([] ++ ([m + 1] ++ (yz_x l (m + 2) ++ []))) g g5 := by
    rw [hM]
    exact yM_Hap (yM_EH E1) (yM_Hap (yM_EH13 E2) (yM_Hap (yM_Hu r1) (by rw [hCl]; exact yM_EH b2)))
  obtain ⟨g6, d1, d2⟩ := yM_aim (j := m + 1) (nI (m + (3 + yz_l l) - s)) c5 (by omega) (by omega)
  have B := yM_join (fs := []) (fun x hx => by cases hx) A (by rw [hl]; exact yM_aj1 d2) (fun a b _ => d2.1.1 a b List.not_mem_nil) (d2.1.1 _ _ List.not_mem_nil) hs (fun h4' => ⟨fun j hj => by have := List.mem_singleton.mp hj; omega, fun k i ei hk => by
    have : k = 1 := by have := List.mem_singleton.mp hk; omega
    subst this
    rw [hM] at ei
    have ei' : some ((((13, nI (m + (3 + yz_l l)), nI ow, 0), v)) : yJ) = some i := ei
    cases ei'
    exact ⟨by rw [hl], .inr (.inr rfl)⟩⟩) (yz_x l (m + 2)) (fun j hj => by
    rcases List.mem_append.mp hj with z | z
    · cases z
    rcases List.mem_append.mp z with z | z
    · exact .inl z
    rcases List.mem_append.mp z with z | z
    · exact .inr z
    · cases z)
  have c6 : yM_c g6 (m + (3 + yz_l l)) s b (v + 1) := by
    obtain ⟨⟨p1, p2⟩, ⟨p3, p4, p5⟩, p6, p7⟩ := c5
    exact ⟨⟨(d2.1.1 _ _ List.not_mem_nil).trans p1, p2⟩, ⟨(d2.1.1 _ _ List.not_mem_nil).trans p3, p4, by rw [d2.1.2.1 _ (by decide)]; exact p5⟩, (d2.1.1 _ _ List.not_mem_nil).trans p6, (d2.1.1 _ _ List.not_mem_nil).trans p7⟩
  have l6 : (g6.1 68 68) = nI (w + (yz_x l (m + 2)).length) := (d2.1.1 _ _ List.not_mem_nil).trans ((b2.2.1.1 _ _ (by decide)).trans r4)
  have x6 : (g6.2.1 111) = (g4.2.1 111) := (d2.1.2.1 _ (by decide)).trans (b2.2.1.2.1 _ (by decide))
  have n6 : (g6.2.1 110) = (g4.2.1 110) := (d2.1.2.1 _ (by decide)).trans (b2.2.1.2.1 _ (by decide))
  have xn : (yz_x l (m + 2)).Nodup := yz_xn _ _
  obtain ⟨g7, p1, p2, p3, p4⟩ := yM_popx (w := w) (yz_x l (m + 2)) g6 zF c6 l6 hx (by rw [x6]; exact r5) xn (by omega)
  have D := yM_join (fs := [(68, 68)]) (fun x hx => by rw [List.mem_singleton.mp hx]; decide) B (by rw [hl]; exact p2) (fun a b hab => p4 a b (fun z => hab (List.mem_singleton.mpr z))) (p4 _ _ (by decide)) hs (fun h4' => ⟨fun j hj => by have := yz_xr _ _ _ hj; omega, fun k i ei hk => by
    have hr := yz_xr _ _ _ hk
    obtain ⟨k, rfl⟩ : ∃ z, k = z + 1 + 1 := ⟨k - 2, by omega⟩
    rw [hM] at ei
    have ei' : (C ++ [((14, nI (m + 1), 0, 0), v + 1)])[k]? = some i := ei
    rw [List.getElem?_append, if_pos (by rw [hCl]; omega), hC] at ei'
    obtain ⟨u1, u2⟩ := yz_xP l (m + 2) (v + 1) (m + (3 + yz_l l)) 0 k i ei' (by rw [show m + 2 + k = m + (k + 1 + 1) by omega]; exact hk)
    exact ⟨by rw [hl]; exact u2, .inl u1⟩⟩) [] (fun j hj => .inl hj)
  have ev : nI (v + 1) - 1 = nI v := by
    rw [show (1 : Int32) = nI 1 from rfl, zi_sub (by omega)]; rfl
  rw [ev] at p1
  have ec : yz_c (.inner 2 ([], nI ow, Tm) () l .leaf) m v q 0 = M := by
    show ([((12, nI ow, Tm, 0), v)] ++ ([((13, nI (m + (3 + yz_l l)), nI ow, 0), v)] ++ (yz_c l (m + 2) (v + 1) (m + (3 + yz_l l)) 0 ++ ([((14, nI (m + 1), 0, 0), v + 1)] ++ []))) : List yJ) = M
    rw [List.append_nil, hM, hC]
  have wg : (g7.1 68 66) = (g.1 68 66) := (p4 _ _ (by decide)).trans ((d2.1.1 _ _ List.not_mem_nil).trans ((b2.2.1.1 _ _ (by decide)).trans (r3.trans ((E2.2.1.1 _ _ (by decide)).trans (E1.2.1.1 _ _ (by decide))))))
  refine ⟨g5, g6, zs_uF g7 68 64 (nI v), b1, yM_here c5, d1, p1, ?_, c.2.2.1.symm, wg, p3, trivial, fun k hk => ?_, fun k hk => ?_⟩
  · rw [ec]
    exact ⟨D.1, zfr_trans D.2.1 (zfr_F (by decide) zfr_rfl), fun h4' => ⟨fun j hj a ha => (D.2.2 h4').1 j hj a ha, (D.2.2 h4').2⟩⟩
  · show (g7.2.1 111) k = _
    rw [p2.1 _ (by decide), x6, r6 k hk]
    show (g2.2.1 111) k = _
    rw [E2.2.1.2.1 _ (by decide), E1.2.1.2.1 _ (by decide)]
  · show (g7.2.1 110) k = _
    rw [p2.1 _ (by decide), n6, r7 k hk]
    show (g2.2.1 110) k = _
    rw [E2.2.1.2.1 _ (by decide), E1.2.1.2.1 _ (by decide)]
end YFO
