/-! The judge: the parameters of an invocation, one behind the other. -/
/-- what has been found has the name -/
theorem yp_vo {h : zs_H} {B w : Int32} : ∀ N (x r : Int32), f_Pl_variableOf_L7 h N B w x = some r → r = -1 ∨ (h.2.1 28) r.toNatClampNeg = w := by
  intro N
  induction N with
  | zero => intro x r e; cases e
  | succ N ih =>
    intro x r e
    have e' : f_Pl_variableOf_7 h (f_Pl_variableOf_L7 h N) B w x = some r := e
    unfold f_Pl_variableOf_7 at e'
    by_cases z1 : zd_in B 629
    · rw [if_pos z1] at e'
      by_cases z2 : (h.2.1 24) B.toNatClampNeg ≤ x
      · rw [if_pos z2] at e'; exact .inl (Option.some.inj e').symm
      · rw [if_neg z2] at e'
        by_cases z3 : zd_in x 6000
        · rw [if_pos z3] at e'
          by_cases z4 : (h.2.1 28) x.toNatClampNeg = w
          · rw [if_pos z4] at e'
            right
            rw [← Option.some.inj e']; exact z4
          · rw [if_neg z4] at e'; exact ih _ _ e'
        · rw [if_neg z3] at e'; cases e'
    · rw [if_neg z1] at e'; cases e'
theorem yp_von {h : zs_H} {B w : Int32} {cv : Nat} (hcv : cv < 6000) (e : f_Pl_variableOf h B w = some (nI cv)) : (h.2.1 28) cv = w := by
  unfold f_Pl_variableOf at e
  by_cases z : zd_in B 629
  · rw [if_pos z] at e
    rcases yp_vo _ _ _ e with q | q
    · exact absurd q (zc_m1 (by omega))
    · rw [nI_clamp (show cv < 2147483648 by omega)] at q; exact q
  · rw [if_neg z] at e; cases e
/-- parameters that have been judged, up to (e, e') -/
def yp_s (LC LM : List (List Int32)) (F : Nat → Nat) (bb B xx : Nat) (h g : zs_H) (P Q : Nat → Prop) : zt_T → Int32 → Int32 → Int32 → Int32 → Prop
  | .leaf, x, x', e, e' => x = e ∧ x' = e'
  | .inner _ kv _ _ r, x, x', e, e' => ∃ a b cv off c, (P a ∧ a < 32784 ∧ x = nI a) ∧ (Q b ∧ b < 33500 ∧ x' = nI b ∧ (g.2.1 72) b = 14) ∧ ((h.2.1 16) a = nI cv ∧ cv < 32 + F (bb + 1) ∧ cv < 6000 ∧ (h.2.1 32) cv = nI off ∧ (g.2.1 101) b = nI (xx + off) ∧ xx + off < 600000000 ∧ zi_B F B cv ∧ (h.2.1 29) cv = 1 ∧ yb_py h P cv a) ∧ (kv.2 = nI c ∧ c < 6000 ∧ f_Pl_variableOf h (nI B) (nI c) = some (nI cv) ∧ zt_nr LC LM (nI c) ((g.2.1 74) b)) ∧ yp_s LC LM F bb B xx h g P Q r ((h.2.1 18) a) ((g.2.1 78) b) e e'
section YP
variable {LC LM : List (List Int32)} {F : Nat → Nat} {bb B xx : Nat} {h g h' g' : zs_H} {P Q : Nat → Prop}
theorem yp_sf (hP : ∀ j, P j → (h'.2.1 16) j = (h.2.1 16) j ∧ (h'.2.1 18) j = (h.2.1 18) j ∧ (h'.2.1 17) j = (h.2.1 17) j ∧ (h'.2.1 14) j = (h.2.1 14) j) (hQ : ∀ j, Q j → (g'.2.1 101) j = (g.2.1 101) j ∧ (g'.2.1 72) j = (g.2.1 72) j ∧ (g'.2.1 74) j = (g.2.1 74) j ∧ (g'.2.1 78) j = (g.2.1 78) j) (hc : h'.2.1 32 = h.2.1 32 ∧ h'.2.1 29 = h.2.1 29 ∧ h'.2.1 31 = h.2.1 31) (hv : ∀ c, f_Pl_variableOf h' (nI B) c = f_Pl_variableOf h (nI B) c) : ∀ (t : zt_T) (x x' e e' : Int32), yp_s LC LM F bb B xx h g P Q t x x' e e' → yp_s LC LM F bb B xx h' g' P Q t x x' e e' := by
  intro t
  induction t with
  | leaf => intro x x' e e' A; exact A
  | inner kd kv o l r ihl ihr =>
    intro x x' e e' ⟨a, b, cv, off, c, ⟨a1, a2, a3⟩, ⟨b1, b2, b3, b4⟩, ⟨c1, c2, c3, c4, c5, c6⟩, ⟨d1, d2, d3, d4⟩, R⟩
    obtain ⟨p1, p2, p3, p4⟩ := hP a a1
    obtain ⟨ch, ch0, ch1, ch2, ch3⟩ := c6.2.2.2
    obtain ⟨q1, q2, q3, q4⟩ := hQ b b1
    exact ⟨a, b, cv, off, c, ⟨a1, a2, a3⟩, ⟨b1, b2, b3, by rw [q2]; exact b4⟩, ⟨by rw [p1]; exact c1, c2, c3, by rw [hc.1]; exact c4, by rw [q1]; exact c5, c6.1, c6.2.1, by rw [hc.2.1]; exact c6.2.2.1, ch, ch0, by rw [p3]; exact ch1, ch2, by rw [hc.2.2, (hP ch ch2).2.2.2]; exact ch3⟩, ⟨d1, d2, by rw [hv]; exact d3, by rw [q3]; exact d4⟩, by rw [p2, q4]; exact ihr _ _ _ _ R⟩
theorem yp_sm {P' Q' : Nat → Prop} (hP : ∀ j, P j → P' j) (hQ : ∀ j, Q j → Q' j) : ∀ (t : zt_T) (x x' e e' : Int32), yp_s LC LM F bb B xx h g P Q t x x' e e' → yp_s LC LM F bb B xx h g P' Q' t x x' e e' := by
  intro t
  induction t with
  | leaf => intro x x' e e' A; exact A
  | inner kd kv o l r ihl ihr =>
    intro x x' e e' ⟨a, b, cv, off, c, ⟨a1, a2, a3⟩, ⟨b1, b2, b3, b4⟩, ⟨c1, c2, c3, c4, c5, c6, c7, c8, c9⟩, d2, R⟩
    exact ⟨a, b, cv, off, c, ⟨hP _ a1, a2, a3⟩, ⟨hQ _ b1, b2, b3, b4⟩, ⟨c1, c2, c3, c4, c5, c6, c7, c8, yb_pym hP c9⟩, d2, ihr _ _ _ _ R⟩
theorem yp_sap : ∀ (t u : zt_T) (x x' y y' e e' : Int32), yp_s LC LM F bb B xx h g P Q t x x' y y' → yp_s LC LM F bb B xx h g P Q u y y' e e' → yp_s LC LM F bb B xx h g P Q (zt_ap t u) x x' e e' := by
  intro t
  induction t with
  | leaf => intro u x x' y y' e e' ⟨a1, a2⟩ B; rw [a1, a2]; exact B
  | inner kd kv o l r ihl ihr =>
    intro u x x' y y' e e' ⟨a, b, cv, off, c, A1, A2, A3, A4, R⟩ C
    exact ⟨a, b, cv, off, c, A1, A2, A3, A4, ihr u _ _ _ _ _ _ R C⟩
theorem yp_spr : ∀ (t : zt_T) (x x' e e' : Int32), yp_s LC LM F bb B xx h g P Q t x x' e e' → yb_pr F bb h g P Q B xx (zt_ln t) x x' := by
  intro t
  induction t with
  | leaf => intro x x' e e' _; trivial
  | inner kd kv o l r ihl ihr =>
    intro x x' e e' ⟨a, b, cv, off, c, ⟨a1, a2, a3⟩, ⟨b1, b2, b3, b4⟩, ⟨c1, c2, c3, c4, c5, c6⟩, _, R⟩
    show yb_pr F bb h g P Q B xx (1 + zt_ln r) x x'
    rw [Nat.add_comm]
    exact ⟨a, b, cv, off, ⟨a1, a2, a3⟩, ⟨b1, b2, b3, b4⟩, c1, c2, c4, c5, c6, ihr _ _ _ _ R⟩
/-- whether a name has been told before -/
def yp_in (c : Nat) : zt_T → Prop
  | .leaf => False
  | .inner _ kv _ _ r => kv.2 = nI c ∨ yp_in c r
theorem yp_uT {N : Nat} {x1 x3 : Int32} (x : Int32) : f_Jd_isToldBefore_L7 h (N + 1) x1 x x3 = f_Jd_isToldBefore_7 h (f_Jd_isToldBefore_L7 h N) x1 x x3 := rfl
theorem yp_tC {a0 c0 cv0 sz : Nat} (hsz : (h.1 12 6) = nI sz) (hs2 : sz < 100000) (ha0 : a0 < 32784) (hP : ∀ j, P j → ¬ j = a0) (hv0 : (h.2.1 16) a0 = nI cv0) (hc0 : c0 < 6000) (hcv0 : cv0 < 6000) (e0 : f_Pl_variableOf h (nI B) (nI c0) = some (nI cv0)) : ∀ (t : zt_T) (x x' e' : Int32) (turn N : Nat), yp_s LC LM F bb B xx h g P Q t x x' (nI a0) e' → turn + zt_ln t < sz → zt_ln t < N →
    (¬ yp_in c0 t → f_Jd_isToldBefore_L7 h N (nI a0) x (nI turn) = some 0) ∧ (yp_in c0 t → f_Jd_isToldBefore_L7 h N (nI a0) x (nI turn) = some 1) := by
  intro t
  induction t with
  | leaf =>
    intro x x' e' turn N S ht hN
    obtain ⟨N, rfl⟩ : ∃ z, N = z + 1 := ⟨N - 1, by omega⟩
    refine ⟨fun _ => ?_, fun z => z.elim⟩
    rw [S.1, yp_uT]
    unfold f_Jd_isToldBefore_7
    rw [if_neg (zc_m1 (show a0 < 2147483648 by omega)), if_pos rfl, ite_self]
  | inner kd kv o l r ihl ihr =>
    intro x x' e' turn N S ht hN
    have hl : zt_ln (.inner kd kv o l r) = 1 + zt_ln r := rfl
    obtain ⟨N, rfl⟩ : ∃ z, N = z + 1 := ⟨N - 1, by omega⟩
    obtain ⟨a, b, cv, off, c, ⟨a1, a2, a3⟩, _, ⟨c1, c2, c3, c4, c5, c6⟩, ⟨d1, d2, d3, d4⟩, R⟩ := S
    obtain ⟨i1, i2⟩ := ihr _ _ _ (turn + 1) N R (by omega) (by omega)
    have key : (nI cv = nI cv0) ↔ kv.2 = nI c0 := by
      rw [d1]
      constructor
      · intro z
        have e1 := yp_von c3 d3
        have e2 := yp_von hcv0 e0
        have : cv = cv0 := (nI_eq (by omega) (by omega)).mp z
        rw [this, e2] at e1
        exact e1.symm
      · intro z
        rw [z, e0] at d3
        exact (Option.some.inj d3).symm
    have st : f_Jd_isToldBefore_L7 h (N + 1) (nI a0) x (nI turn) = if nI cv = nI cv0 then some 1 else f_Jd_isToldBefore_L7 h N (nI a0) ((h.2.1 18) a) (nI (turn + 1)) := by
      rw [yp_uT]
      unfold f_Jd_isToldBefore_7
      rw [hsz, if_neg (mt (nI_leI (by omega) (by omega)).mp (by omega)), a3, if_neg (zc_m1 (show a < 2147483648 by omega)), if_neg (fun z => hP a a1 ((nI_eq (by omega) (by omega)).mp z)), if_pos (zi_in (by omega) a2), if_pos (zi_in (by omega) ha0), nI_clamp (show a < 2147483648 by omega), nI_clamp (show a0 < 2147483648 by omega), c1, hv0, nI_1]
    rw [st]
    by_cases z : nI cv = nI cv0
    · rw [if_pos z]
      exact ⟨fun n => absurd (.inl (key.mp z)) n, fun _ => rfl⟩
    · rw [if_neg z]
      exact ⟨fun n => i1 (fun u => n (.inr u)), fun n => n.elim (fun u => absurd (key.mpr u) z) i2⟩
theorem yp_uP {N : Nat} {x1 x2 x3 : Int32} (x : Int32) : f_Mo_lookAtParameter_L82 (N + 1) g x1 x2 x3 x = f_Mo_lookAtParameter_82 (f_Mo_lookAtParameter_L82 N) g x1 x2 x3 x := rfl
/-- one step of the model -/
theorem yp_1M {N b b0 : Nat} {x2 x3 : Int32} {g3 : zs_H} (hb : b < 33500) (hb0 : b0 < 33500) (hne : ¬ b = b0) (e : f_Mo_rule g (if (g.2.1 74) b = (g.2.1 74) b0 then 1 else 0) 33 (nI b0) = some g3) (e3 : g3.2 = g.2) : f_Mo_lookAtParameter_L82 (N + 1) g (nI b0) x2 x3 (nI b) = f_Mo_lookAtParameter_L82 N g3 (nI b0) x2 x3 ((g.2.1 78) b) := by
  rw [yp_uP]
  unfold f_Mo_lookAtParameter_82 f_Mo_lookAtParameter_110
  rw [if_neg (fun z => hne ((nI_eq (by omega) (by omega)).mp z)), if_pos (zi_in (by omega) hb), if_pos (zi_in (by omega) hb0)]
  simp only [nI_clamp (show b < 2147483648 by omega), nI_clamp (show b0 < 2147483648 by omega)]
  by_cases z : (g.2.1 74) b = (g.2.1 74) b0
  · rw [if_pos z] at e ⊢
    rw [e, Option.bind_some, e3, if_pos (zi_in (show b < 2147483648 by omega) hb)]
  · rw [if_neg z] at e ⊢
    rw [e, Option.bind_some, e3, if_pos (zi_in (show b < 2147483648 by omega) hb)]
theorem yp_tMF {b0 : Nat} {x2 x3 : Int32} (hf : ¬ (g.1 68 29) = 0) (hb0 : b0 < 33500) (hQ : ∀ j, Q j → ¬ j = b0) : ∀ (t : zt_T) (x x' e : Int32) (N : Nat), yp_s LC LM F bb B xx h g P Q t x x' e (nI b0) → zt_ln t < N → f_Mo_lookAtParameter_L82 N g (nI b0) x2 x3 x' = some g := by
  intro t
  induction t with
  | leaf =>
    intro x x' e N S hN
    obtain ⟨N, rfl⟩ : ∃ z, N = z + 1 := ⟨N - 1, by omega⟩
    rw [S.2, yp_uP]
    unfold f_Mo_lookAtParameter_82
    rw [if_pos rfl, if_neg hf]
  | inner kd kv o l r ihl ihr =>
    intro x x' e N S hN
    have hl : zt_ln (.inner kd kv o l r) = 1 + zt_ln r := rfl
    obtain ⟨N, rfl⟩ : ∃ z, N = z + 1 := ⟨N - 1, by omega⟩
    obtain ⟨a, b, cv, off, c, _, ⟨b1, b2, b3, b4⟩, _, _, R⟩ := S
    rw [b3, yp_1M (g := g) b2 hb0 (hQ b b1) (zv_ruleF hf) rfl]
    exact ihr _ _ _ N R (by omega)
theorem yp_tM {b0 c0 : Nat} {x2 x3 : Int32} (S0 : LC.Nodup ∧ LM.Nodup ∧ LC.length < 6000 ∧ LM.length < 8000) (hf : (g.1 68 29) = 0) (hb0 : b0 < 33500) (hQ : ∀ j, Q j → ¬ j = b0) (hw : zt_nr LC LM (nI c0) ((g.2.1 74) b0)) : ∀ (t : zt_T) (x x' e : Int32) (N : Nat), yp_s LC LM F bb B xx h g P Q t x x' e (nI b0) → zt_ln t < N →
    (¬ yp_in c0 t → ∃ N2, f_Mo_lookAtParameter_L82 N g (nI b0) x2 x3 x' = f_Mo_lookAtParameter_L82 (N2 + 1) g (nI b0) x2 x3 (nI b0)) ∧ (yp_in c0 t → f_Mo_lookAtParameter_L82 N g (nI b0) x2 x3 x' = some (zv_ru 33 b0 g)) := by
  intro t
  induction t with
  | leaf =>
    intro x x' e N S hN
    obtain ⟨N, rfl⟩ : ∃ z, N = z + 1 := ⟨N - 1, by omega⟩
    exact ⟨fun _ => ⟨N, by rw [S.2]⟩, fun z => z.elim⟩
  | inner kd kv o l r ihl ihr =>
    intro x x' e N S hN
    have hl : zt_ln (.inner kd kv o l r) = 1 + zt_ln r := rfl
    obtain ⟨N, rfl⟩ : ∃ z, N = z + 1 := ⟨N - 1, by omega⟩
    obtain ⟨a, b, cv, off, c, _, ⟨b1, b2, b3, b4⟩, _, ⟨d1, d2, d3, d4⟩, R⟩ := S
    have key : ((g.2.1 74) b = (g.2.1 74) b0) ↔ kv.2 = nI c0 := by
      rw [d1]; exact (zt_nr_inj S0.1 S0.2.1 d4 hw S0.2.2.1 S0.2.2.2).symm
    by_cases z : (g.2.1 74) b = (g.2.1 74) b0
    · refine ⟨fun n => absurd (.inl (key.mp z)) n, fun _ => ?_⟩
      rw [b3, yp_1M (g := g) (g3 := zv_ru 33 b0 g) b2 hb0 (hQ b b1) (by rw [if_pos z]; exact zv_rule1 (φ := 33) (by decide) hf hb0) rfl]
      have R' : yp_s LC LM F bb B xx h (zv_ru 33 b0 g) P Q r ((h.2.1 18) a) ((g.2.1 78) b) e (nI b0) := yp_sf (h := h) (g := g) (h' := h) (g' := zv_ru 33 b0 g) (fun _ _ => ⟨rfl, rfl, rfl, rfl⟩) (fun _ _ => ⟨rfl, rfl, rfl, rfl⟩) ⟨rfl, rfl, rfl⟩ (fun _ => rfl) _ _ _ _ _ R
      exact yp_tMF (zv_ruf (by decide) (by decide)) hb0 hQ r _ _ _ N R' (by omega)
    · obtain ⟨i1, i2⟩ := ihr _ _ _ N R (by omega)
      rw [b3, yp_1M (g := g) b2 hb0 (hQ b b1) (by rw [if_neg z]; exact zv_rule0) rfl]
      exact ⟨fun n => i1 (fun u => n (.inr u)), fun n => n.elim (fun u => absurd (key.mpr u) z) i2⟩
end YP
