/-! The machine: standard blocks on the model, by kinds. -/
section YTN
variable {p : Nat} {g0 g : zs_H} {c : Nat → Int32} {nw : Int32}
theorem yT_u1 {j : Nat} {v : Int32} : yE_u c j v j = v := if_pos rfl
theorem yT_u2 {j i : Nat} {v : Int32} (h : ¬ i = j) : yE_u c j v i = c i := if_neg h
theorem yT_n0 : yT_on 0 = 0 := rfl
theorem yT_n1 : yT_on 1 = 1 := by decide
theorem yT_131 (H : yT_S 114 g0 g c) (hn : (g0.1 68 73) = nw) (hp : p + 6 ≤ 8192) (x3 pt et : Int32) : yT_E 114 g0 (f_Mo_timers_131 g (nI 0) (nI p) (yT_on x3) pt et (nI (p + 3))) (yE_u (yE_u (yE_u (yE_u c (p + 3) et) (p + 2) (if x3 = 0 ∨ et < pt then 0 else 1)) (p + 4) (yT_on x3)) (p + 5) nw) := by
  have H1 := yT_w (p := p + 3) (v := et) H
  have e3 : (zs_uM g 114 (p + 3) et).2.1 114 (p + 3) = et := (H1.2 (p + 3) (by omega)).trans yT_u1
  unfold f_Mo_timers_131 f_Mo_timers_157 f_Mo_timers_158
  simp only [yT_o0, if_pos (zi_in (show p + 3 < 2147483648 by omega) (show p + 3 < 8192 by omega)), nI_clamp (show p + 3 < 2147483648 by omega), show nI p + 2 = nI (p + 2) from zc_ad 2 p, show nI p + 3 = nI (p + 3) from zc_ad 3 p, e3]
  by_cases z : x3 = 0
  · rw [if_pos z, if_pos (.inl z)]
    exact yT_te (k := 0) (by decide) H1 hn hp (show p + 2 < 8192 by omega) x3 0
  · rw [if_neg z]
    by_cases y : et < pt
    · rw [if_pos y, if_pos (.inr y)]
      exact yT_te (k := 0) (by decide) H1 hn hp (show p + 2 < 8192 by omega) x3 0
    · rw [if_neg y, if_neg (fun w => w.elim z y)]
      exact yT_te (k := 0) (by decide) H1 hn hp (show p + 2 < 8192 by omega) x3 1
theorem yT_M0 (H : yT_S 114 g0 g c) (hn : (g0.1 68 73) = nw) (hp : p + 6 ≤ 8192) : yT_E 114 g0 (f_Mo_timers g (nI 0) (nI p)) (yT_m nw 0 p c) := by
  rw [yT_beg (k := 0) (by decide) H hp]
  unfold f_Mo_timers_56 f_Mo_timers_130
  simp only [yT_o0, if_pos (show (nI 0 : Int32) = 0 from rfl), show nI p + 3 = nI (p + 3) from zc_ad 3 p, yT_grM H hn (show p + 5 < 8192 by omega), Option.bind_some]
  unfold yT_m yT_et yT_q yT_et
  simp only [if_pos (show 0 < 3 by decide), if_pos (show (0 : Nat) = 0 from rfl)]
  by_cases z : c p = 0
  · rw [if_pos z, if_pos (show c p = 0 ∨ c (p + 4) = 0 from .inl z)]
    exact yT_131 H hn hp _ _ _
  · rw [if_neg z]
    by_cases y : c (p + 4) = 0
    · rw [if_pos y, if_pos (show c p = 0 ∨ c (p + 4) = 0 from .inr y)]
      exact yT_131 H hn hp _ _ _
    · rw [if_neg y, if_neg (show ¬ (c p = 0 ∨ c (p + 4) = 0) from fun w => w.elim z y)]
      exact yT_131 H hn hp _ _ _
theorem yT_275 (H : yT_S 114 g0 g c) (hn : (g0.1 68 73) = nw) (hp : p + 6 ≤ 8192) (x3 et : Int32) (v : Int32) : yT_E 114 g0 (f_Mo_timers_275 (zs_uM g 114 (p + 3) et) (nI 1) (nI p) (yT_on x3) v (nI (p + 2))) (yE_u (yE_u (yE_u (yE_u c (p + 3) et) (p + 2) (yT_on v)) (p + 4) (yT_on x3)) (p + 5) nw) := by
  unfold f_Mo_timers_275
  exact yT_te (k := 1) (by decide) (yT_w H) hn hp (show p + 2 < 8192 by omega) x3 v
theorem yT_M1 (H : yT_S 114 g0 g c) (hn : (g0.1 68 73) = nw) (hp : p + 6 ≤ 8192) : yT_E 114 g0 (f_Mo_timers g (nI 1) (nI p)) (yT_m nw 1 p c) := by
  rw [yT_beg (k := 1) (by decide) H hp]
  have e3 : ∀ et, (zs_uM g 114 (p + 3) et).2.1 114 (p + 3) = et := fun et => ((yT_w (p := p + 3) (v := et) H).2 (p + 3) (by omega)).trans yT_u1
  unfold f_Mo_timers_56 f_Mo_timers_187 f_Mo_timers_188 f_Mo_timers_206 f_Mo_timers_233 f_Mo_timers_252 f_Mo_timers_270 f_Mo_timers_274
  simp only [yT_o0, if_neg (show ¬ (nI 1 : Int32) = 0 by decide), if_pos (show (nI 1 : Int32) = 1 from rfl), show nI p + 2 = nI (p + 2) from zc_ad 2 p, show nI p + 3 = nI (p + 3) from zc_ad 3 p, yT_grM H hn (show p + 5 < 8192 by omega), yT_aon H (show p + 2 < 8192 by omega), Option.bind_some, if_pos (zi_in (show p + 3 < 2147483648 by omega) (show p + 3 < 8192 by omega)), nI_clamp (show p + 3 < 2147483648 by omega), H.2 (p + 3) (by omega), e3]
  unfold yT_m yT_et yT_q
  simp only [if_pos (show 1 < 3 by decide), if_neg (show ¬ (1 : Nat) = 0 by decide), if_pos (show (1 : Nat) = 1 from rfl)]
  by_cases z : c p = 0
  · by_cases y : c (p + 4) = 0
    · by_cases w : c (p + 2) = 0
      · simp (config := { decide := true }) only [if_pos z, if_pos y, if_pos w, if_pos (show c p = 0 ∧ c (p + 4) = 0 from ⟨z, y⟩), if_neg (show ¬ ¬ c p = 0 from fun q => q z), if_neg (show ¬ ¬ c (p + 4) = 0 from fun q => q y), if_true]
        rw [if_pos (show c (p + 2) = 0 ∨ _ from .inl w)]
        exact yT_275 H hn hp _ _ 0
      · simp (config := { decide := true }) only [if_pos z, if_pos y, if_neg w, if_pos (show c p = 0 ∧ c (p + 4) = 0 from ⟨z, y⟩), if_neg (show ¬ ¬ c p = 0 from fun q => q z), if_neg (show ¬ ¬ c (p + 4) = 0 from fun q => q y), if_false, w, false_or]
        split
        · exact yT_275 H hn hp _ _ 0
        · exact yT_275 H hn hp _ _ 1
    · simp (config := { decide := true }) only [if_pos z, if_neg y, if_neg (show ¬ (c p = 0 ∧ c (p + 4) = 0) from fun q => y q.2), if_neg (show ¬ ¬ c p = 0 from fun q => q z), if_pos (show ¬ c (p + 4) = 0 from y), if_true]
      split
      · exact yT_275 H hn hp _ _ 1
      · exact yT_275 H hn hp _ _ 0
  · simp (config := { decide := true }) only [if_neg z, if_neg (show ¬ (c p = 0 ∧ c (p + 4) = 0) from fun q => z q.1), if_pos (show ¬ c p = 0 from z)]
    exact yT_275 H hn hp _ _ 1
/-- a TP that does not run -/
theorem yT_327 (H : yT_S 114 g0 g c) (hn : (g0.1 68 73) = nw) (hp : p + 6 ≤ 8192) (h2 : c (p + 2) = 0) (x3 x4 pt : Int32) : yT_E 114 g0 (f_Mo_timers_327 g (nI 2) (nI p) (yT_on x3) (yT_on x4) pt) (yE_u (yE_u (yE_u (yE_u c (p + 3) (if x3 = 0 ∨ x4 = 0 then 0 else c (p + 3))) (p + 2) (if x3 = 0 then 0 else if x4 = 0 then (if pt ≤ 0 then 0 else 1) else 0)) (p + 4) (yT_on x3)) (p + 5) nw) := by
  have H1 := yT_w (p := p + 3) (v := 0) H
  unfold f_Mo_timers_327 f_Mo_timers_346 f_Mo_timers_372 f_Mo_timers_373
  simp only [yT_o0, show nI p + 2 = nI (p + 2) from zc_ad 2 p, show nI p + 3 = nI (p + 3) from zc_ad 3 p, yT_aon H (show p + 2 < 8192 by omega), Option.bind_some, h2, if_true, if_pos (zi_in (show p + 3 < 2147483648 by omega) (show p + 3 < 8192 by omega)), nI_clamp (show p + 3 < 2147483648 by omega)]
  by_cases z : x3 = 0
  · rw [if_pos z, if_pos z, if_pos (show x3 = 0 ∨ x4 = 0 from .inl z), if_pos z]
    exact yT_te (k := 2) (by decide) H1 hn hp (show p + 2 < 8192 by omega) x3 0
  · rw [if_neg z, if_neg z, if_neg z]
    by_cases y : x4 = 0
    · rw [if_pos y, if_pos (show x3 = 0 ∨ x4 = 0 from .inr y), if_pos y]
      by_cases w : pt ≤ 0
      · rw [if_pos w, if_pos w]
        exact yT_te (k := 2) (by decide) H1 hn hp (show p + 2 < 8192 by omega) x3 0
      · rw [if_neg w, if_neg w]
        exact yT_te (k := 2) (by decide) H1 hn hp (show p + 2 < 8192 by omega) x3 1
    · rw [if_neg y, if_neg (show ¬ (x3 = 0 ∨ x4 = 0) from fun q => q.elim z y), if_neg y]
      refine yT_Ec (fun j hj => ?_) (yT_end (k := 2) (by decide) H hn hp x3)
      rw [if_pos (show 2 < 3 by decide)]
      unfold yE_u
      by_cases j5 : j = p + 5
      · rw [if_pos j5, if_pos j5]
      rw [if_neg j5, if_neg j5]
      by_cases j4 : j = p + 4
      · rw [if_pos j4, if_pos j4]
      rw [if_neg j4, if_neg j4]
      by_cases j2 : j = p + 2
      · rw [if_pos j2, j2, h2]
      rw [if_neg j2]
      by_cases j3 : j = p + 3
      · rw [if_pos j3, j3]
      rw [if_neg j3]
theorem yT_M2 (H : yT_S 114 g0 g c) (hn : (g0.1 68 73) = nw) (hp : p + 6 ≤ 8192) (h2 : c (p + 2) = 0 ∨ c (p + 2) = 1) : yT_E 114 g0 (f_Mo_timers g (nI 2) (nI p)) (yT_m nw 2 p c) := by
  rw [yT_beg (k := 2) (by decide) H hp]
  unfold f_Mo_timers_56
  simp only [yT_o0, if_neg (show ¬ (nI 2 : Int32) = 0 by decide), if_neg (show ¬ (nI 2 : Int32) = 1 by decide), if_pos (show (nI 2 : Int32) = 2 from rfl), show nI p + 2 = nI (p + 2) from zc_ad 2 p, show nI p + 3 = nI (p + 3) from zc_ad 3 p, yT_grM H hn (show p + 5 < 8192 by omega), yT_aon H (show p + 2 < 8192 by omega), Option.bind_some, if_pos (zi_in (show p + 3 < 2147483648 by omega) (show p + 3 < 8192 by omega)), nI_clamp (show p + 3 < 2147483648 by omega)]
  unfold yT_m yT_et yT_q
  simp only [if_pos (show 2 < 3 by decide), if_neg (show ¬ (2 : Nat) = 0 by decide), if_neg (show ¬ (2 : Nat) = 1 by decide)]
  generalize yT_gr nw (yT_pt (c (p + 1))) (c (p + 3)) (c (p + 5)) = gr
  generalize yT_pt (c (p + 1)) = pt
  by_cases z : c (p + 2) = 0
  · rw [if_pos z, if_neg (show ¬ (¬ c (p + 2) = 0 ∧ gr < pt) from fun q => q.1 z), if_neg (show ¬ (¬ c (p + 2) = 0 ∧ gr < pt) from fun q => q.1 z), if_pos z]
    exact yT_327 H hn hp z _ _ _
  · rw [if_neg z]
    have H1 := yT_w (p := p + 3) (v := gr) H
    by_cases y : gr < pt
    · rw [if_pos y, if_pos (show ¬ c (p + 2) = 0 ∧ gr < pt from ⟨z, y⟩), if_pos (show ¬ c (p + 2) = 0 ∧ gr < pt from ⟨z, y⟩)]
      unfold f_Mo_timers_327
      have e2 : yE_u c (p + 3) gr (p + 2) = c (p + 2) := yT_u2 (by omega)
      rw [show nI p + 2 = nI (p + 2) from zc_ad 2 p, yT_aon H1 (show p + 2 < 8192 by omega), Option.bind_some, e2, if_neg (mt yT_o0.mp z)]
      refine yT_Ec (fun j hj => ?_) (yT_end (k := 2) (by decide) H1 hn hp (c p))
      rw [if_pos (show 2 < 3 by decide)]
      have h1 := h2.resolve_left z
      unfold yE_u
      by_cases j5 : j = p + 5
      · rw [if_pos j5, if_pos j5]
      rw [if_neg j5, if_neg j5]
      by_cases j4 : j = p + 4
      · rw [if_pos j4, if_pos j4]
      rw [if_neg j4, if_neg j4]
      by_cases j2 : j = p + 2
      · rw [if_pos j2, if_neg (by omega), j2, h1]
      rw [if_neg j2]
    · rw [if_neg y, if_neg (show ¬ (¬ c (p + 2) = 0 ∧ gr < pt) from fun q => y q.2), if_neg (show ¬ (¬ c (p + 2) = 0 ∧ gr < pt) from fun q => y q.2), if_neg z]
      obtain ⟨g', a1, a2⟩ := yT_atn (v := 0) H1 (show p + 2 < 8192 by omega)
      rw [a1, Option.bind_some]
      refine yT_Ec (fun j hj => ?_) (yT_327 a2 hn hp yT_u1 (c p) (c (p + 4)) pt)
      have e3 : yE_u (yE_u c (p + 3) gr) (p + 2) (yT_on 0) (p + 3) = gr := (yT_u2 (by omega)).trans yT_u1
      rw [e3]
      unfold yE_u
      by_cases j5 : j = p + 5
      · rw [if_pos j5, if_pos j5]
      rw [if_neg j5, if_neg j5]
      by_cases j4 : j = p + 4
      · rw [if_pos j4, if_pos j4]
      rw [if_neg j4, if_neg j4]
      by_cases j2 : j = p + 2
      · rw [if_pos j2, if_pos j2]
      rw [if_neg j2, if_neg j2]
      by_cases j3 : j = p + 3
      · rw [if_pos j3, if_pos j3]
      rw [if_neg j3, if_neg j3, if_neg j2, if_neg j3]
theorem yT_437 (H : yT_S 114 g0 g c) (hn : (g0.1 68 73) = nw) (hp : p + 6 ≤ 8192) (x3 cv : Int32) : yT_E 114 g0 (f_Mo_timers_437 g (nI 3) (nI p) (yT_on x3) cv (nI (p + 4))) (yE_u (yE_u (yE_u c (p + 4) cv) (p + 3) (if cv < c (p + 2) then 0 else 1)) (p + 5) (yT_on x3)) := by
  have H1 := yT_w (p := p + 4) (v := cv) H
  have e4 : (zs_uM g 114 (p + 4) cv).2.1 114 (p + 4) = cv := (H1.2 (p + 4) (by omega)).trans yT_u1
  have e2 : (zs_uM g 114 (p + 4) cv).2.1 114 (p + 2) = c (p + 2) := (H1.2 (p + 2) (by omega)).trans (yT_u2 (by omega))
  unfold f_Mo_timers_437 f_Mo_timers_466
  simp only [show nI p + 4 = nI (p + 4) from zc_ad 4 p, show nI p + 2 = nI (p + 2) from zc_ad 2 p, show nI p + 3 = nI (p + 3) from zc_ad 3 p, if_pos (zi_in (show p + 4 < 2147483648 by omega) (show p + 4 < 8192 by omega)), nI_clamp (show p + 4 < 2147483648 by omega), if_pos (zi_in (show p + 2 < 2147483648 by omega) (show p + 2 < 8192 by omega)), nI_clamp (show p + 2 < 2147483648 by omega), e4, e2]
  split
  · exact yT_te (k := 3) (by decide) H1 hn hp (show p + 3 < 8192 by omega) x3 0
  · exact yT_te (k := 3) (by decide) H1 hn hp (show p + 3 < 8192 by omega) x3 1
theorem yT_537 (H : yT_S 114 g0 g c) (hn : (g0.1 68 73) = nw) (hp : p + 6 ≤ 8192) (x3 cv : Int32) : yT_E 114 g0 (f_Mo_timers_537 g (nI 4) (nI p) (yT_on x3) cv (nI (p + 4))) (yE_u (yE_u (yE_u c (p + 4) cv) (p + 3) (if 0 < cv then 0 else 1)) (p + 5) (yT_on x3)) := by
  have H1 := yT_w (p := p + 4) (v := cv) H
  have e4 : (zs_uM g 114 (p + 4) cv).2.1 114 (p + 4) = cv := (H1.2 (p + 4) (by omega)).trans yT_u1
  unfold f_Mo_timers_537 f_Mo_timers_558
  simp only [show nI p + 4 = nI (p + 4) from zc_ad 4 p, show nI p + 3 = nI (p + 3) from zc_ad 3 p, if_pos (zi_in (show p + 4 < 2147483648 by omega) (show p + 4 < 8192 by omega)), nI_clamp (show p + 4 < 2147483648 by omega), e4]
  split
  · exact yT_te (k := 4) (by decide) H1 hn hp (show p + 3 < 8192 by omega) x3 0
  · exact yT_te (k := 4) (by decide) H1 hn hp (show p + 3 < 8192 by omega) x3 1
theorem yT_M3 (H : yT_S 114 g0 g c) (hn : (g0.1 68 73) = nw) (hp : p + 6 ≤ 8192) : yT_E 114 g0 (f_Mo_timers g (nI 3) (nI p)) (yT_m nw 3 p c) := by
  rw [yT_beg (k := 3) (by decide) H hp]
  unfold f_Mo_timers_56 f_Mo_timers_435 f_Mo_timers_436
  simp only [yT_o0, if_neg (show ¬ (nI 3 : Int32) = 0 by decide), if_neg (show ¬ (nI 3 : Int32) = 1 by decide), if_neg (show ¬ (nI 3 : Int32) = 2 by decide), if_pos (show (nI 3 : Int32) = 3 from rfl), show nI p + 1 = nI (p + 1) from zc_ad 1 p, show nI p + 4 = nI (p + 4) from zc_ad 4 p, yT_aon H (show p + 1 < 8192 by omega), Option.bind_some, if_pos (zi_in (show p + 4 < 2147483648 by omega) (show p + 4 < 8192 by omega)), nI_clamp (show p + 4 < 2147483648 by omega), H.2 (p + 4) (by omega), Int32.add_zero]
  unfold yT_m yT_cv
  simp only [if_neg (show ¬ 3 < 3 by decide), if_pos (show 3 < 5 by decide), if_pos (show (3 : Nat) = 3 from rfl), if_pos (show 3 < 5 by decide)]
  by_cases z1 : c (p + 1) = 0
  · rw [if_pos z1, if_neg (show ¬ ¬ c (p + 1) = 0 from fun q => q z1)]
    by_cases z : c p = 0
    · rw [if_pos z, if_neg (show ¬ (¬ c p = 0 ∧ _) from fun q => q.1 z)]
      exact yT_437 H hn hp _ _
    · rw [if_neg z]
      by_cases y : c (p + 5) = 0
      · rw [if_pos y]
        by_cases w : (32767 : Int32) ≤ c (p + 4)
        · rw [if_pos w, if_neg (show ¬ (¬ c p = 0 ∧ c (p + 5) = 0 ∧ ¬ (32767 : Int32) ≤ c (p + 4)) from fun q => q.2.2 w)]
          exact yT_437 H hn hp _ _
        · rw [if_neg w, if_pos (show ¬ c p = 0 ∧ c (p + 5) = 0 ∧ ¬ (32767 : Int32) ≤ c (p + 4) from ⟨z, y, w⟩)]
          exact yT_437 H hn hp _ _
      · rw [if_neg y, if_neg (show ¬ (¬ c p = 0 ∧ c (p + 5) = 0 ∧ _) from fun q => y q.2.1)]
        exact yT_437 H hn hp _ _
  · rw [if_neg z1, if_pos (show ¬ c (p + 1) = 0 from z1)]
    exact yT_437 H hn hp _ _
theorem yT_M4 (H : yT_S 114 g0 g c) (hn : (g0.1 68 73) = nw) (hp : p + 6 ≤ 8192) : yT_E 114 g0 (f_Mo_timers g (nI 4) (nI p)) (yT_m nw 4 p c) := by
  rw [yT_beg (k := 4) (by decide) H hp]
  unfold f_Mo_timers_56 f_Mo_timers_535 f_Mo_timers_536
  simp only [yT_o0, if_neg (show ¬ (nI 4 : Int32) = 0 by decide), if_neg (show ¬ (nI 4 : Int32) = 1 by decide), if_neg (show ¬ (nI 4 : Int32) = 2 by decide), if_neg (show ¬ (nI 4 : Int32) = 3 by decide), if_pos (show (nI 4 : Int32) = 4 from rfl), show nI p + 1 = nI (p + 1) from zc_ad 1 p, show nI p + 2 = nI (p + 2) from zc_ad 2 p, show nI p + 4 = nI (p + 4) from zc_ad 4 p, yT_aon H (show p + 1 < 8192 by omega), Option.bind_some, if_pos (zi_in (show p + 4 < 2147483648 by omega) (show p + 4 < 8192 by omega)), nI_clamp (show p + 4 < 2147483648 by omega), if_pos (zi_in (show p + 2 < 2147483648 by omega) (show p + 2 < 8192 by omega)), nI_clamp (show p + 2 < 2147483648 by omega), H.2 (p + 4) (by omega), H.2 (p + 2) (by omega), Int32.sub_zero]
  unfold yT_m yT_cv
  simp only [if_neg (show ¬ 4 < 3 by decide), if_pos (show 4 < 5 by decide), if_neg (show ¬ (4 : Nat) = 3 by decide), if_pos (show 4 < 5 by decide)]
  by_cases z1 : c (p + 1) = 0
  · rw [if_pos z1, if_neg (show ¬ ¬ c (p + 1) = 0 from fun q => q z1)]
    by_cases z : c p = 0
    · rw [if_pos z, if_neg (show ¬ (¬ c p = 0 ∧ _) from fun q => q.1 z)]
      exact yT_537 H hn hp _ _
    · rw [if_neg z]
      by_cases y : c (p + 5) = 0
      · rw [if_pos y]
        by_cases w : c (p + 4) ≤ (-32768 : Int32)
        · rw [if_pos w, if_neg (show ¬ (¬ c p = 0 ∧ c (p + 5) = 0 ∧ ¬ c (p + 4) ≤ (-32768 : Int32)) from fun q => q.2.2 w)]
          exact yT_537 H hn hp _ _
        · rw [if_neg w, if_pos (show ¬ c p = 0 ∧ c (p + 5) = 0 ∧ ¬ c (p + 4) ≤ (-32768 : Int32) from ⟨z, y, w⟩)]
          exact yT_537 H hn hp _ _
      · rw [if_neg y, if_neg (show ¬ (¬ c p = 0 ∧ c (p + 5) = 0 ∧ _) from fun q => y q.2.1)]
        exact yT_537 H hn hp _ _
  · rw [if_neg z1, if_pos (show ¬ c (p + 1) = 0 from z1)]
    exact yT_537 H hn hp _ _
theorem yT_M56 {k : Nat} (hk : k = 5 ∨ k = 6) (H : yT_S 114 g0 g c) (hn : (g0.1 68 73) = nw) (hp : p + 3 ≤ 8192) : yT_E 114 g0 (f_Mo_timers g (nI k) (nI p)) (yT_m nw k p c) := by
  have t1 : ∀ v, yT_E 114 g0 ((f_Mo_turn g (nI (p + 1)) v).bind fun h2 => f_Mo_timers_687 h2 (nI k) (nI p) (yT_on (c p))) (yE_u (yE_u c (p + 1) (yT_on v)) (p + 2) (yT_on (c p))) := fun v => by
    have := yT_te (k := k) (x := p + 1) (by omega) H hn (by rcases hk with e | e <;> subst e <;> exact hp) (by omega) (c p) v
    rw [if_neg (show ¬ k < 3 by omega), if_neg (show ¬ k < 5 by omega), if_pos (show k < 7 by omega)] at this
    exact this
  rw [yT_beg (k := k) (by omega) H (by rcases hk with e | e <;> subst e <;> exact hp), if_neg (show ¬ k < 3 by omega), if_neg (show ¬ k < 5 by omega)]
  unfold f_Mo_timers_56 f_Mo_timers_581 f_Mo_timers_582 f_Mo_timers_605 f_Mo_timers_606 yT_m
  rw [if_neg (show ¬ k < 3 by omega), if_neg (show ¬ k < 5 by omega), if_pos (show k < 7 by omega)]
  rcases hk with e | e
  · subst e
    simp only [yT_o0, if_neg (show ¬ (nI 5 : Int32) = 0 by decide), if_neg (show ¬ (nI 5 : Int32) = 1 by decide), if_neg (show ¬ (nI 5 : Int32) = 2 by decide), if_neg (show ¬ (nI 5 : Int32) = 3 by decide), if_neg (show ¬ (nI 5 : Int32) = 4 by decide), if_pos (show (nI 5 : Int32) = 5 from rfl), show nI p + 1 = nI (p + 1) from zc_ad 1 p, if_pos (show (5 : Nat) = 5 from rfl)]
    by_cases z : c p = 0
    · rw [if_pos z, if_neg (show ¬ (¬ c p = 0 ∧ c (p + 2) = 0) from fun q => q.1 z)]; exact t1 0
    · rw [if_neg z]
      by_cases y : c (p + 2) = 0
      · rw [if_pos y, if_pos (show ¬ c p = 0 ∧ c (p + 2) = 0 from ⟨z, y⟩)]; exact t1 1
      · rw [if_neg y, if_neg (show ¬ (¬ c p = 0 ∧ c (p + 2) = 0) from fun q => y q.2)]; exact t1 0
  · subst e
    simp only [yT_o0, if_neg (show ¬ (nI 6 : Int32) = 0 by decide), if_neg (show ¬ (nI 6 : Int32) = 1 by decide), if_neg (show ¬ (nI 6 : Int32) = 2 by decide), if_neg (show ¬ (nI 6 : Int32) = 3 by decide), if_neg (show ¬ (nI 6 : Int32) = 4 by decide), if_neg (show ¬ (nI 6 : Int32) = 5 by decide), if_pos (show (nI 6 : Int32) = 6 from rfl), show nI p + 1 = nI (p + 1) from zc_ad 1 p, if_neg (show ¬ (6 : Nat) = 5 by decide)]
    by_cases z : c p = 0
    · rw [if_pos z]
      by_cases y : c (p + 2) = 0
      · rw [if_pos y, if_neg (show ¬ (c p = 0 ∧ ¬ c (p + 2) = 0) from fun q => q.2 y)]; exact t1 0
      · rw [if_neg y, if_pos (show c p = 0 ∧ ¬ c (p + 2) = 0 from ⟨z, y⟩)]; exact t1 1
    · rw [if_neg z, if_neg (show ¬ (c p = 0 ∧ ¬ c (p + 2) = 0) from fun q => z q.1)]; exact t1 0
theorem yT_M78 {k : Nat} (hk : k = 7 ∨ k = 8) (H : yT_S 114 g0 g c) (hn : (g0.1 68 73) = nw) (hp : p + 3 ≤ 8192) : yT_E 114 g0 (f_Mo_timers g (nI k) (nI p)) (yT_m nw k p c) := by
  have t1 : ∀ v, yT_E 114 g0 ((f_Mo_turn g (nI (p + 2)) v).bind fun h2 => f_Mo_timers_687 h2 (nI k) (nI p) (yT_on (c p))) (yE_u c (p + 2) (yT_on v)) := fun v => by
    have := yT_te (k := k) (x := p + 2) (by omega) H hn (by rcases hk with e | e <;> subst e <;> exact hp) (by omega) (c p) v
    rw [if_neg (show ¬ k < 3 by omega), if_neg (show ¬ k < 5 by omega), if_neg (show ¬ k < 7 by omega)] at this
    exact this
  rw [yT_beg (k := k) (by omega) H (by rcases hk with e | e <;> subst e <;> exact hp), if_neg (show ¬ k < 3 by omega), if_neg (show ¬ k < 5 by omega)]
  unfold f_Mo_timers_56 f_Mo_timers_640 f_Mo_timers_644 f_Mo_timers_645 f_Mo_timers_679 f_Mo_timers_683 f_Mo_timers_684 yT_m
  rw [if_neg (show ¬ k < 3 by omega), if_neg (show ¬ k < 5 by omega), if_neg (show ¬ k < 7 by omega)]
  rcases hk with e | e
  · subst e
    simp only [yT_o0, if_neg (show ¬ (nI 7 : Int32) = 0 by decide), if_neg (show ¬ (nI 7 : Int32) = 1 by decide), if_neg (show ¬ (nI 7 : Int32) = 2 by decide), if_neg (show ¬ (nI 7 : Int32) = 3 by decide), if_neg (show ¬ (nI 7 : Int32) = 4 by decide), if_neg (show ¬ (nI 7 : Int32) = 5 by decide), if_neg (show ¬ (nI 7 : Int32) = 6 by decide), if_pos (show (nI 7 : Int32) = 7 from rfl), show nI p + 1 = nI (p + 1) from zc_ad 1 p, show nI p + 2 = nI (p + 2) from zc_ad 2 p, yT_aon H (show p + 1 < 8192 by omega), yT_aon H (show p + 2 < 8192 by omega), Option.bind_some, if_pos (show (7 : Nat) = 7 from rfl)]
    by_cases z : c p = 0
    · rw [if_pos z]
      by_cases y : c (p + 1) = 0
      · rw [if_pos y]
        by_cases w : c (p + 2) = 0
        · rw [if_pos w, if_neg (show ¬ (¬ c p = 0 ∨ (c (p + 1) = 0 ∧ ¬ c (p + 2) = 0)) from fun q => q.elim (fun q => q z) (fun q => q.2 w))]; exact t1 0
        · rw [if_neg w, if_pos (show ¬ c p = 0 ∨ (c (p + 1) = 0 ∧ ¬ c (p + 2) = 0) from .inr ⟨y, w⟩)]; exact t1 1
      · rw [if_neg y, if_neg (show ¬ (¬ c p = 0 ∨ (c (p + 1) = 0 ∧ ¬ c (p + 2) = 0)) from fun q => q.elim (fun q => q z) (fun q => y q.1))]; exact t1 0
    · rw [if_neg z, if_pos (show ¬ c p = 0 ∨ (c (p + 1) = 0 ∧ ¬ c (p + 2) = 0) from .inl z)]; exact t1 1
  · subst e
    simp only [yT_o0, if_neg (show ¬ (nI 8 : Int32) = 0 by decide), if_neg (show ¬ (nI 8 : Int32) = 1 by decide), if_neg (show ¬ (nI 8 : Int32) = 2 by decide), if_neg (show ¬ (nI 8 : Int32) = 3 by decide), if_neg (show ¬ (nI 8 : Int32) = 4 by decide), if_neg (show ¬ (nI 8 : Int32) = 5 by decide), if_neg (show ¬ (nI 8 : Int32) = 6 by decide), if_neg (show ¬ (nI 8 : Int32) = 7 by decide), show nI p + 1 = nI (p + 1) from zc_ad 1 p, show nI p + 2 = nI (p + 2) from zc_ad 2 p, yT_aon H (show p + 1 < 8192 by omega), yT_aon H (show p + 2 < 8192 by omega), Option.bind_some, if_neg (show ¬ (8 : Nat) = 7 by decide)]
    by_cases y : c (p + 1) = 0
    · rw [if_pos y]
      by_cases z : c p = 0
      · rw [if_pos z]
        by_cases w : c (p + 2) = 0
        · rw [if_pos w, if_neg (show ¬ (c (p + 1) = 0 ∧ (¬ c p = 0 ∨ ¬ c (p + 2) = 0)) from fun q => q.2.elim (fun q => q z) (fun q => q w))]; exact t1 0
        · rw [if_neg w, if_pos (show c (p + 1) = 0 ∧ (¬ c p = 0 ∨ ¬ c (p + 2) = 0) from ⟨y, .inr w⟩)]; exact t1 1
      · rw [if_neg z, if_pos (show c (p + 1) = 0 ∧ (¬ c p = 0 ∨ ¬ c (p + 2) = 0) from ⟨y, .inl z⟩)]; exact t1 1
    · rw [if_neg y, if_neg (show ¬ (c (p + 1) = 0 ∧ (¬ c p = 0 ∨ ¬ c (p + 2) = 0)) from fun q => y q.1)]; exact t1 0
theorem yT_M {k : Nat} (hk : k < 9) (H : yT_S 114 g0 g c) (hn : (g0.1 68 73) = nw) (hp : p + (zt_2.getD k 0).toNatClampNeg ≤ 8192) (h2 : k = 2 → c (p + 2) = 0 ∨ c (p + 2) = 1) : yT_E 114 g0 (f_Mo_timers g (nI k) (nI p)) (yT_m nw k p c) := by
  have hk' : k = 0 ∨ k = 1 ∨ k = 2 ∨ k = 3 ∨ k = 4 ∨ (k = 5 ∨ k = 6) ∨ (k = 7 ∨ k = 8) := by omega
  rcases hk' with e | e | e | e | e | e | e
  · subst e; exact yT_M0 H hn hp
  · subst e; exact yT_M1 H hn hp
  · subst e; exact yT_M2 H hn hp (h2 rfl)
  · subst e; exact yT_M3 H hn hp
  · subst e; exact yT_M4 H hn hp
  · exact yT_M56 e H hn (by rcases e with e | e <;> subst e <;> exact hp)
  · exact yT_M78 e H hn (by rcases e with e | e <;> subst e <;> exact hp)
end YTN
