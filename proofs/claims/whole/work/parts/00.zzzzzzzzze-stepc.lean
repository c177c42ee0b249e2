/-! The machine: one instruction of the class. -/
abbrev yR_F : List (Nat × Nat) := [(58, 6), (58, 14), (58, 17), (58, 18), (58, 19), (58, 20)]
abbrev yR_M : List Nat := [62, 63, 64]
/-- a state of the class at p, in a unit that ends before e, at depth D -/
def yR_s (h : zs_H) (s : yE) (p e base D : Nat) : Prop := ((∀ j, j < 8192 → (h.2.1 62) j = s.1 j) ∧ (h.1 58 14) = nI s.2.1.length ∧ yE_k ((h.2.1 63)) s.2.1 ∧ (h.1 58 6) = nI s.2.2) ∧ (h.1 58 18) = nI p ∧ (h.1 58 19) = nI e ∧ (h.1 58 20) = nI base ∧ (h.1 58 17) = nI D
def yR_f (D : Nat) (h h' : zs_H) : Prop := zfr yR_F yR_M [] h h' ∧ ∀ j, j < 3 * D → (h'.2.1 64) j = (h.2.1 64) j
section YRS
variable {X Y : Nat → Nat} {kb : Nat → yK} {pl : Nat → Nat} {tm : Nat → Nat → (Nat → Int32) → Nat → Int32} {U : Nat → Nat → yE → yE × Nat} {p e base D n : Nat} {h h' h2 : zs_H} {i : yI} {c : Nat → Int32} {S : List Int32} {y v : Int32}
theorem yR_f0 : yR_f D h h := ⟨zfr_rfl, fun _ _ => rfl⟩
theorem yR_ft (a : yR_f D h h') (b : yR_f D h' h2) : yR_f D h h2 := ⟨zfr_trans a.1 b.1, fun j hj => (b.2 j hj).trans (a.2 j hj)⟩
theorem yR_m (f : zfr yR_F yR_M [] h h') (m : yC_m h p i) : yC_m h' p i := by
  unfold yC_m at m ⊢
  rw [f.2.1 _ (by decide), f.2.1 _ (by decide), f.2.1 _ (by decide), f.2.1 _ (by decide)]
  exact m
theorem yR_zB {α γ : Type} {a : α} {b : zs_H} {f : α → zs_H → Option γ} : zd_B (some (a, b)) f = f a b := rfl
theorem yR_take (H : yR_s h (c, y :: S, n) p e base D) (hl : S.length < 1088) : ∃ h', f_Mc_takeOff h = some (y, h') ∧ yR_s h' (c, S, n) p e base D ∧ yR_f D h h' := by
  obtain ⟨⟨a1, a2, ⟨a3, a3'⟩, a4⟩, a5⟩ := H
  have a2' : (h.1 58 14) = nI (S.length + 1) := a2
  unfold f_Mc_takeOff
  rw [a2', if_neg (mt (zc_eq (k := 0) (by decide) (by omega)).mp (by omega)), show nI (S.length + 1) - 1 = nI S.length from zi_sub (a := S.length + 1) (b := 1) (by omega), if_pos (zi_in (by omega) hl), nI_clamp (by omega), show (h.2.1 63) S.length = y from a3]
  exact ⟨_, rfl, ⟨⟨a1, rfl, a3', a4⟩, a5⟩, zfr_F (by decide) zfr_rfl, fun _ _ => rfl⟩
theorem yR_lay (H : yR_s h (c, S, n) p e base D) (hl : S.length < 1088) : ∃ h', f_Mc_lay h v = some h' ∧ yR_s h' (c, v :: S, n) p e base D ∧ yR_f D h h' := by
  obtain ⟨⟨a1, a2, a3, a4⟩, a5⟩ := H
  have a2' : (h.1 58 14) = nI S.length := a2
  unfold f_Mc_lay
  rw [a2', if_neg (mt (zc_le (k := 1088) (by decide) (by omega)).mp (by omega)), if_pos (zi_in (by omega) hl), nI_clamp (by omega), show nI S.length + 1 = nI (S.length + 1) from zc_ad 1 _]
  refine ⟨_, rfl, ⟨⟨fun j hj => (zu_MM.trans (if_neg fun z => absurd z.1 (by decide))).trans (a1 j hj), rfl, yE_kp a3 (zu_MM.trans (if_pos ⟨rfl, rfl⟩)) (fun j hj => zu_MM.trans (if_neg fun z => hj z.2)), a4⟩, a5⟩, zfr_F (by decide) (zfr_M (by decide) zfr_rfl), fun j _ => zu_MM.trans (if_neg fun z => absurd z.1 (by decide))⟩
theorem yR_cell (H : yR_s h (c, S, n) p e base D) {x : Nat} (hx : x < 8192) : f_Mc_cellAt h (nI x) = some (c x) := by
  unfold f_Mc_cellAt
  rw [if_neg (mt (zc_tl (k := 0) (by decide) (by omega)).mp (by omega)), if_neg (mt (zc_le (k := 8192) (by decide) (by omega)).mp (by omega)), if_pos (zi_in (by omega) hx), nI_clamp (by omega), show (h.2.1 62) x = c x from H.1.1 x hx]
theorem yR_bec (H : yR_s h (c, S, n) p e base D) {x : Nat} (hx : x < 8192) : ∃ h', f_Mc_become h (nI x) v = some h' ∧ yR_s h' (yE_u c x v, S, n) p e base D ∧ yR_f D h h' := by
  obtain ⟨⟨a1, a2, a3, a4⟩, a5⟩ := H
  unfold f_Mc_become
  rw [if_neg (mt (zc_tl (k := 0) (by decide) (by omega)).mp (by omega)), if_neg (mt (zc_le (k := 8192) (by decide) (by omega)).mp (by omega)), if_pos (zi_in (by omega) hx), nI_clamp (by omega)]
  refine ⟨_, rfl, ⟨⟨fun j hj => ?_, a2, yE_kf (fun j _ => zu_MM.trans (if_neg fun z => absurd z.1 (by decide))) a3, a4⟩, a5⟩, zfr_M (by decide) zfr_rfl, fun j _ => zu_MM.trans (if_neg fun z => absurd z.1 (by decide))⟩
  show (zs_uM h 62 x v).2.1 62 j = if j = x then v else c j
  refine zu_MM.trans ?_
  by_cases z : j = x
  · rw [if_pos ⟨rfl, z⟩, if_pos z]
  · rw [if_neg (fun w => z w.2), if_neg z]; exact a1 j hj
/-- how an instruction ends -/
def yR_o (h' : zs_H) (v : Int32) (p e base D : Nat) (r : yE × Nat) : Prop := (r.2 = 0 → v = 0 ∧ yR_s h' r.1 p e base D) ∧ (r.2 = 3 ∨ r.2 = 4 → v = (if r.2 = 3 then -3 else -4) ∧ (∀ j, j < 8192 → (h'.2.1 62) j = r.1.1 j) ∧ (h'.1 58 6) = nI r.1.2.2)
def yR_D (pl : Nat → Nat) (tm : Nat → Nat → (Nat → Int32) → Nat → Int32) (U : Nat → Nat → yE → yE × Nat) (h : zs_H) (p e base D n : Nat) (i : yI) (c : Nat → Int32) (S : List Int32) : Prop := ∃ v h', (if 10 ≤ i.1 then f_Mc_move h (nI p) else f_Mc_compute h (nI p)) = some (v, h') ∧ yR_f D h h' ∧ yR_o h' v (p + 1) e base D (yE_1 pl tm U base i (c, S, n))
def yR_b (h : zs_H) (p e base D n : Nat) (i : yI) (c : Nat → Int32) (S : List Int32) : Prop := p < 4000 ∧ yC_m h p i ∧ yR_s h (c, S, n + 1) (p + 1) e base D ∧ S.length ≤ 1088
theorem yR_ok {s : yE} (H : yR_s h' s p e base D) : yR_o h' 0 p e base D (s, 0) := ⟨fun _ => ⟨rfl, H⟩, fun z => absurd z (show ¬ ((0 : Nat) = 3 ∨ (0 : Nat) = 4) by decide)⟩
theorem yR_bad {o : Nat} (ho : o = 3 ∨ o = 4) (hv : v = if o = 3 then -3 else -4) (H : yR_s h' (c, S, n) p e base D) : yR_o h' v p e base D ((c, S, n), o) := ⟨fun z => (by have z' : o = 0 := z; omega), fun _ => ⟨hv, H.1.1, H.1.2.2.2⟩⟩
theorem yR_0 (H : yR_b h p e base D n i c S) (e0 : i.1 = 0) (hl : S.length < 1088) : yR_D pl tm U h p e base D n i c S := by
  obtain ⟨h1, ⟨m1, m2, m3, m4⟩, h3, h4⟩ := H
  rw [e0] at m1
  obtain ⟨h', a1, a2, a3⟩ := yR_lay (v := i.2.1) h3 hl
  refine ⟨0, h', ?_, a3, ?_⟩
  · rw [if_neg (by omega)]
    unfold f_Mc_compute
    rw [if_pos (zi_in (by omega) h1), nI_clamp (n := p) (by omega), m1, m2, if_pos (by decide), a1, Option.bind_some]
  · unfold yE_1
    rw [if_pos e0]
    exact yR_ok a2
theorem yR_1 (H : yR_b h p e base D n i c S) (e0 : i.1 = 1) (hl : S.length < 1088) {x : Nat} (e1 : i.2.1 = nI x) (hx : base + x < 8192) : yR_D pl tm U h p e base D n i c S := by
  obtain ⟨h1, ⟨m1, m2, m3, m4⟩, h3, h4⟩ := H
  rw [e0] at m1
  rw [e1] at m2
  obtain ⟨h', a1, a2, a3⟩ := yR_lay (v := c (base + x)) h3 hl
  refine ⟨0, h', ?_, a3, ?_⟩
  · rw [if_neg (by omega)]
    unfold f_Mc_compute
    rw [if_pos (zi_in (by omega) h1), nI_clamp (n := p) (by omega), m1, m2, h3.2.2.2.1, nI_add, if_neg (by decide), if_pos (by decide), yR_cell h3 hx, Option.bind_some, a1, Option.bind_some]
  · unfold yE_1
    simp (config := { decide := true }) only [e0, if_false, if_true, e1, nI_clamp (show x < 2147483648 by omega)]
    exact yR_ok a2
theorem yR_2 (H : yR_b h p e base D n i c (y :: S)) (e0 : i.1 = 2) {x : Nat} (e1 : i.2.1 = nI x) (hx : base + x < 8192) : yR_D pl tm U h p e base D n i c (y :: S) := by
  obtain ⟨h1, ⟨m1, m2, m3, m4⟩, h3, h4⟩ := H
  rw [e0] at m1
  rw [e1] at m2
  have h4' : S.length + 1 ≤ 1088 := h4
  obtain ⟨h5, t1, t2, t3⟩ := yR_take h3 (by omega)
  obtain ⟨h', a1, a2, a3⟩ := yR_bec (v := y) t2 hx
  refine ⟨0, h', ?_, yR_ft t3 a3, ?_⟩
  · rw [if_neg (by omega)]
    unfold f_Mc_compute
    rw [if_pos (zi_in (by omega) h1), nI_clamp (n := p) (by omega), m1, m2, h3.2.2.2.1, nI_add, if_neg (by decide), if_neg (by decide), if_pos (by decide), t1, yR_zB, a1, Option.bind_some]
  · unfold yE_1
    simp (config := { decide := true }) only [e0, if_false, if_true, e1, nI_clamp (show x < 2147483648 by omega)]
    exact yR_ok a2
theorem yR_3 (H : yR_b h p e base D n i c (y :: S)) (e0 : i.1 = 3) {x s : Nat} (e1 : i.2.1 = nI x) (e2 : i.2.2.2 = nI s) (hx : base + x + s ≤ 8192) : yR_D pl tm U h p e base D n i c (y :: S) := by
  obtain ⟨h1, m, h3, h4⟩ := H
  obtain ⟨m1, _⟩ := id m
  rw [e0] at m1
  have h4' : S.length + 1 ≤ 1088 := h4
  obtain ⟨h5, t1, t2, t3⟩ := yR_take h3 (by omega)
  obtain ⟨_, n2, n3, n4⟩ := yR_m t3.1 m
  rw [e1] at n2
  have ec : f_Mc_compute h (nI p) = zd_B (f_Mc_element h (nI p) 0) fun v h => some (v, h) := by
    unfold f_Mc_compute
    rw [if_pos (zi_in (by omega) h1), nI_clamp (n := p) (by omega), m1, if_neg (by decide), if_neg (by decide), if_neg (by decide), if_pos (by decide)]
  unfold yR_D yE_1
  simp (config := { decide := true }) only [e0, if_false, if_true]
  rw [ec]
  unfold f_Mc_element f_Mc_element_12
  rw [if_pos rfl, t1, yR_zB, if_pos (zi_in (by omega) h1), nI_clamp (n := p) (by omega), n2, n3, n4]
  by_cases z1 : y.toInt64 - i.2.2.1.toInt64 < 0
  · rw [if_pos z1, if_pos (show yE_bad i y from .inl z1), yR_zB]
    exact ⟨_, _, rfl, t3, yR_bad (.inr rfl) rfl t2⟩
  rw [if_neg z1]
  by_cases z2 : y.toInt64 - i.2.2.1.toInt64 < i.2.2.2.toInt64
  · have nb : ¬ yE_bad i y := fun q => q.elim z1 (fun q => q z2)
    have il := yE_ixl e2 (by omega) nb
    obtain ⟨h', a1, a2, a3⟩ := yR_lay (v := c (base + x + yE_ix i y)) t2 (by omega)
    rw [if_pos z2, if_neg nb, yE_ixn e2 (by omega) nb, t2.2.2.2.1, nI_add, nI_add, if_pos rfl, yR_cell t2 (by omega), Option.bind_some, a1, Option.bind_some, yR_zB]
    exact ⟨_, _, rfl, yR_ft t3 a3, by rw [e1, nI_clamp (n := x) (by omega)]; exact yR_ok a2⟩
  · rw [if_neg z2, if_pos (show yE_bad i y from .inr z2), yR_zB]
    exact ⟨_, _, rfl, t3, yR_bad (.inr rfl) rfl t2⟩
theorem yR_4 {w : Int32} (H : yR_b h p e base D n i c (w :: y :: S)) (e0 : i.1 = 4) {x s : Nat} (e1 : i.2.1 = nI x) (e2 : i.2.2.2 = nI s) (hx : base + x + s ≤ 8192) : yR_D pl tm U h p e base D n i c (w :: y :: S) := by
  obtain ⟨h1, m, h3, h4⟩ := H
  obtain ⟨m1, _⟩ := id m
  rw [e0] at m1
  have h4' : S.length + 1 + 1 ≤ 1088 := h4
  obtain ⟨h6, s1, s2, s3⟩ := yR_take h3 (by show S.length + 1 < 1088; omega)
  obtain ⟨h5, t1, t2, t3⟩ := yR_take s2 (by omega)
  obtain ⟨_, n2, n3, n4⟩ := yR_m (yR_ft s3 t3).1 m
  rw [e1] at n2
  have ec : f_Mc_compute h (nI p) = zd_B (f_Mc_element h (nI p) 1) fun v h => some (v, h) := by
    unfold f_Mc_compute
    rw [if_pos (zi_in (by omega) h1), nI_clamp (n := p) (by omega), m1, if_neg (by decide), if_neg (by decide), if_neg (by decide), if_neg (by decide), if_pos (by decide)]
  unfold yR_D yE_1
  simp (config := { decide := true }) only [e0, if_false, if_true]
  rw [ec]
  unfold f_Mc_element f_Mc_element_12
  rw [if_neg (show ¬ (1 : Int32) = 0 by decide), s1, yR_zB, t1, yR_zB, if_pos (zi_in (by omega) h1), nI_clamp (n := p) (by omega), n2, n3, n4]
  by_cases z1 : y.toInt64 - i.2.2.1.toInt64 < 0
  · rw [if_pos z1, if_pos (show yE_bad i y from .inl z1), yR_zB]
    exact ⟨_, _, rfl, yR_ft s3 t3, yR_bad (.inr rfl) rfl t2⟩
  rw [if_neg z1]
  by_cases z2 : y.toInt64 - i.2.2.1.toInt64 < i.2.2.2.toInt64
  · have nb : ¬ yE_bad i y := fun q => q.elim z1 (fun q => q z2)
    have il := yE_ixl e2 (by omega) nb
    obtain ⟨h', a1, a2, a3⟩ := yR_bec (v := w) (x := base + x + yE_ix i y) t2 (by omega)
    rw [if_pos z2, if_neg nb, yE_ixn e2 (by omega) nb, t2.2.2.2.1, nI_add, nI_add, if_neg (show ¬ (1 : Int32) = 0 by decide), a1, Option.bind_some, yR_zB]
    exact ⟨_, _, rfl, yR_ft (yR_ft s3 t3) a3, by rw [e1, nI_clamp (n := x) (by omega)]; exact yR_ok a2⟩
  · rw [if_neg z2, if_pos (show yE_bad i y from .inr z2), yR_zB]
    exact ⟨_, _, rfl, yR_ft s3 t3, yR_bad (.inr rfl) rfl t2⟩
theorem yR_5 (H : yR_b h p e base D n i c S) (e0 : i.1 = 5) (hl : S.length < 1088) {u x : Nat} (e1 : i.2.1 = nI u) (e2 : i.2.2.1 = nI x) (hu : u < 100) (ep : (h.2.1 27) (9 + u) = nI (pl u)) (hx : pl u + x < 8192) : yR_D pl tm U h p e base D n i c S := by
  obtain ⟨h1, ⟨m1, m2, m3, m4⟩, h3, h4⟩ := H
  rw [e0] at m1
  rw [e1] at m2
  rw [e2] at m3
  obtain ⟨h', a1, a2, a3⟩ := yR_lay (v := c (pl u + x)) h3 hl
  refine ⟨0, h', ?_, a3, ?_⟩
  · rw [if_neg (by omega)]
    unfold f_Mc_compute
    rw [if_pos (zi_in (by omega) h1), nI_clamp (n := p) (by omega), m1, m2, m3, if_neg (by decide), if_neg (by decide), if_neg (by decide), if_neg (by decide), if_neg (by decide), if_pos (by decide), show (9 : Int32) + nI u = nI (9 + u) from zc_da 9 u, if_pos (zi_in (by omega) (by omega)), nI_clamp (n := 9 + u) (by omega), ep, nI_add, yR_cell h3 hx, Option.bind_some, a1, Option.bind_some]
  · unfold yE_1
    simp (config := { decide := true }) only [e0, if_false, if_true, e1, e2, nI_clamp (show x < 2147483648 by omega), nI_clamp (show u < 2147483648 by omega)]
    exact yR_ok a2
theorem yR_6 (H : yR_b h p e base D n i c (y :: S)) (e0 : i.1 = 6) {u x : Nat} (e1 : i.2.1 = nI u) (e2 : i.2.2.1 = nI x) (hu : u < 100) (ep : (h.2.1 27) (9 + u) = nI (pl u)) (hx : pl u + x < 8192) : yR_D pl tm U h p e base D n i c (y :: S) := by
  obtain ⟨h1, ⟨m1, m2, m3, m4⟩, h3, h4⟩ := H
  rw [e0] at m1
  rw [e1] at m2
  rw [e2] at m3
  have h4' : S.length + 1 ≤ 1088 := h4
  obtain ⟨h5, t1, t2, t3⟩ := yR_take h3 (by omega)
  obtain ⟨h', a1, a2, a3⟩ := yR_bec (v := y) t2 hx
  refine ⟨0, h', ?_, yR_ft t3 a3, ?_⟩
  · rw [if_neg (by omega)]
    unfold f_Mc_compute
    rw [if_pos (zi_in (by omega) h1), nI_clamp (n := p) (by omega), m1, m2, m3, if_neg (by decide), if_neg (by decide), if_neg (by decide), if_neg (by decide), if_neg (by decide), if_neg (by decide), if_pos (by decide), show (9 : Int32) + nI u = nI (9 + u) from zc_da 9 u, if_pos (zi_in (by omega) (by omega)), nI_clamp (n := 9 + u) (by omega), ep, nI_add, t1, yR_zB, a1, Option.bind_some]
  · unfold yE_1
    simp (config := { decide := true }) only [e0, if_false, if_true, e1, e2, nI_clamp (show x < 2147483648 by omega), nI_clamp (show u < 2147483648 by omega)]
    exact yR_ok a2
theorem yR_7 {w : Int32} (H : yR_b h p e base D n i c (w :: y :: S)) (e0 : i.1 = 7) : yR_D pl tm U h p e base D n i c (w :: y :: S) := by
  obtain ⟨h1, ⟨m1, m2, m3, m4⟩, h3, h4⟩ := H
  rw [e0] at m1
  have h4' : S.length + 1 + 1 ≤ 1088 := h4
  obtain ⟨h6, s1, s2, s3⟩ := yR_take h3 (by show S.length + 1 < 1088; omega)
  obtain ⟨h5, t1, t2, t3⟩ := yR_take s2 (by omega)
  have ec : f_Mc_compute h (nI p) = zd_B (f_Mc_computeTwo h i.2.1) fun v h => some (v, h) := by
    unfold f_Mc_compute
    rw [if_pos (zi_in (by omega) h1), nI_clamp (n := p) (by omega), m1, m2, if_neg (by decide), if_neg (by decide), if_neg (by decide), if_neg (by decide), if_neg (by decide), if_neg (by decide), if_neg (by decide), if_pos (by decide)]
  unfold yR_D yE_1
  simp (config := { decide := true }) only [e0, if_false, if_true]
  rw [ec]
  unfold f_Mc_computeTwo
  rw [s1, yR_zB, t1, yR_zB]
  by_cases z : f_Cd_isByZero i.2.1 w = 0
  · obtain ⟨v, ev⟩ := yG_two (x := y) z
    obtain ⟨h', a1, a2, a3⟩ := yR_lay (v := v) t2 (by omega)
    rw [if_pos z, if_pos z, ev, Option.bind_some, a1, Option.bind_some, yR_zB]
    exact ⟨_, _, rfl, yR_ft (yR_ft s3 t3) a3, yR_ok a2⟩
  · rw [if_neg z, if_neg z, yR_zB]
    exact ⟨_, _, rfl, yR_ft s3 t3, yR_bad (.inl rfl) rfl t2⟩
theorem yR_8 (H : yR_b h p e base D n i c (y :: S)) (e0 : i.1 = 8) : yR_D pl tm U h p e base D n i c (y :: S) := by
  obtain ⟨h1, ⟨m1, m2, m3, m4⟩, h3, h4⟩ := H
  rw [e0] at m1
  have h4' : S.length + 1 ≤ 1088 := h4
  obtain ⟨h5, t1, t2, t3⟩ := yR_take h3 (by omega)
  obtain ⟨h', a1, a2, a3⟩ := yR_lay (v := f_Cd_one i.2.1 y) t2 (by omega)
  refine ⟨0, h', ?_, yR_ft t3 a3, ?_⟩
  · rw [if_neg (by omega)]
    unfold f_Mc_compute
    rw [if_pos (zi_in (by omega) h1), nI_clamp (n := p) (by omega), m1, m2, if_neg (by decide), if_neg (by decide), if_neg (by decide), if_neg (by decide), if_neg (by decide), if_neg (by decide), if_neg (by decide), if_neg (by decide), if_pos (by decide), t1, yR_zB, a1, Option.bind_some]
  · unfold yE_1
    simp (config := { decide := true }) only [e0, if_false, if_true]
    exact yR_ok a2
theorem yR_9 {w x : Int32} (H : yR_b h p e base D n i c (w :: x :: y :: S)) (e0 : i.1 = 9) : yR_D pl tm U h p e base D n i c (w :: x :: y :: S) := by
  obtain ⟨h1, ⟨m1, m2, m3, m4⟩, h3, h4⟩ := H
  rw [e0] at m1
  have h4' : S.length + 1 + 1 + 1 ≤ 1088 := h4
  obtain ⟨h7, r1, r2, r3⟩ := yR_take h3 (by show S.length + 1 + 1 < 1088; omega)
  obtain ⟨h6, s1, s2, s3⟩ := yR_take r2 (by show S.length + 1 < 1088; omega)
  obtain ⟨h5, t1, t2, t3⟩ := yR_take s2 (by omega)
  obtain ⟨h', a1, a2, a3⟩ := yR_lay (v := if y = 0 then x else w) t2 (by omega)
  refine ⟨0, h', ?_, yR_ft (yR_ft (yR_ft r3 s3) t3) a3, ?_⟩
  · rw [if_neg (by omega)]
    unfold f_Mc_compute f_Mc_compute_236
    rw [if_pos (zi_in (by omega) h1), nI_clamp (n := p) (by omega), m1, m2, if_neg (by decide), if_neg (by decide), if_neg (by decide), if_neg (by decide), if_neg (by decide), if_neg (by decide), if_neg (by decide), if_neg (by decide), if_neg (by decide), r1, yR_zB, s1, yR_zB, t1, yR_zB]
    by_cases z : y = 0
    · rw [if_pos z] at a1 ⊢; rw [a1, Option.bind_some]
    · rw [if_neg z] at a1 ⊢; rw [a1, Option.bind_some]
  · unfold yE_1
    simp (config := { decide := true }) only [e0, if_false, if_true]
    exact yR_ok a2
theorem yR_12 (H : yR_b h p e base D n i c S) (e0 : i.1 = 12) {x : Nat} (e1 : i.2.1 = nI x) (hx : base + x < 8192) : yR_D pl tm U h p e base D n i c S := by
  obtain ⟨h1, ⟨m1, m2, m3, m4⟩, h3, h4⟩ := H
  rw [e0] at m1
  rw [e1] at m2
  obtain ⟨h', a1, a2, a3⟩ := yR_bec (v := i.2.2.1) h3 hx
  refine ⟨0, h', ?_, a3, ?_⟩
  · rw [if_pos (by omega)]
    unfold f_Mc_move
    rw [if_pos (zi_in (by omega) h1), nI_clamp (n := p) (by omega), m1, m2, m3, h3.2.2.2.1, nI_add, if_neg (by decide), if_neg (by decide), if_pos (by decide), a1, Option.bind_some]
  · unfold yE_1
    simp (config := { decide := true }) only [e0, if_false, if_true, e1, nI_clamp (show x < 2147483648 by omega)]
    exact yR_ok a2
/-- standard blocks -/
def yR_t (tm : Nat → Nat → (Nat → Int32) → Nat → Int32) (h0 : zs_H) : Prop := ∀ (k at_ : Nat) (c : Nat → Int32) (h : zs_H), zfr yR_F yR_M [] h0 h → k < 9 → at_ + (zt_2.getD k 0).toNatClampNeg ≤ 8192 → (∀ j, j < 8192 → (h.2.1 62) j = c j) → ∃ h', f_Mc_runStandard h (nI k) (nI at_) = some h' ∧ (∀ j, j < 8192 → (h'.2.1 62) j = tm k at_ c j) ∧ zfr [] [62] [] h h'
theorem yR_17 {h0 : zs_H} (H : yR_b h p e base D n i c S) (e0 : i.1 = 17) (ht : yR_t tm h0) (f : zfr yR_F yR_M [] h0 h) {k x : Nat} (e1 : i.2.1 = nI k) (e2 : i.2.2.1 = nI x) (hk : k < 9) (hx : base + x + (zt_2.getD k 0).toNatClampNeg ≤ 8192) : yR_D pl tm U h p e base D n i c S := by
  obtain ⟨h1, ⟨m1, m2, m3, m4⟩, h3, h4⟩ := H
  rw [e0] at m1
  rw [e1] at m2
  rw [e2] at m3
  obtain ⟨h', a1, a2, a3⟩ := ht k (base + x) c h f hk hx h3.1.1
  refine ⟨0, h', ?_, ⟨zfr_w a3 (by decide) (by decide) (by decide), fun j _ => by rw [a3.2.1 _ (by decide)]⟩, ?_⟩
  · rw [if_pos (by omega)]
    unfold f_Mc_move
    rw [if_pos (zi_in (by omega) h1), nI_clamp (n := p) (by omega), m1, m2, m3, h3.2.2.2.1, nI_add base x, if_neg (by decide), if_neg (by decide), if_neg (by decide), if_neg (by decide), if_neg (by decide), if_neg (by decide), if_neg (by decide), if_pos (by decide), a1, Option.bind_some]
  · unfold yE_1
    simp (config := { decide := true }) only [e0, if_false, if_true, e1, e2, nI_clamp (show x < 2147483648 by omega), nI_clamp (show k < 2147483648 by omega)]
    refine yR_ok ⟨⟨a2, (a3.1 _ _ (by decide)).trans h3.1.2.1, ?_, (a3.1 _ _ (by decide)).trans h3.1.2.2.2⟩, (a3.1 _ _ (by decide)).trans h3.2.1, (a3.1 _ _ (by decide)).trans h3.2.2.1, (a3.1 _ _ (by decide)).trans h3.2.2.2.1, (a3.1 _ _ (by decide)).trans h3.2.2.2.2⟩
    rw [a3.2.1 _ (by decide)]
    exact h3.1.2.2.1
end YRS
