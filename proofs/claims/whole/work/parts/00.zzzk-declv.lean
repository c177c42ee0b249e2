/-! The judge: the walk through a declaration's children. -/
theorem zv_A99 (kd : Nat) : zg_A kd 99 = false := by
  have key : ∀ r ∈ [(0, 0), (1, 2), (2, 2), (3, 2), (4, 0), (5, 3), (5, 4), (6, 0), (7, 0), (8, 0), (9, 3), (10, 0), (11, 0), (12, 2), (13, 0), (14, 1), (15, 2), (15, 3), (16, 1), (16, 2), (17, 2), (18, 1), (18, 2), (19, 4), (20, 0), (21, 0), (22, 0), (23, 1), (24, 1), (25, 1), (26, 0), (27, 0), (28, 1), (29, 0), (30, 0), (31, 0), (32, 1), (33, 1), (34, 0), (35, 2), (36, 1), (37, 0), (38, 0)], ¬ r.2 = 99 := by decide +kernel
  cases e : zg_A kd 99 with
  | false => rfl
  | true =>
    unfold zg_A at e
    rw [List.elem_eq_mem, decide_eq_true_eq] at e
    exact absurd rfl (key _ e)
/-- kinds that have no children -/
theorem zv_nolf {kd : Nat} {l : zt_T} (hk : ∀ r ∈ zg_R, ¬ r.1 = kd) (h : zg_A kd (zg_run kd 0 l) = true) : l = .leaf := by
  cases l with
  | leaf => rfl
  | inner c kv o l r =>
    exfalso
    have e : zg_q kd 0 c = 99 := Classical.byContradiction fun z => by
      obtain ⟨cs, to, m, _⟩ := zv_qR z
      exact hk _ m rfl
    have : zg_run kd 0 (.inner c kv o l r) = 99 := by show zg_run kd (zg_q kd 0 c) r = 99; rw [e]; exact zv_q99 kd r
    rw [this, zv_A99] at h
    exact absurd h (by decide)
/-- what a walk leaves as it was -/
def zv_fr (P Q : Nat → Prop) (h1 g1 h g : zs_H) : Prop := zfr zv_cf (14 :: zv_cm) [] h1 h ∧ zfr zv_mf zv_mm [] g1 g ∧ (∀ j, ¬ P j → (h.2.1 14) j = (h1.2.1 14) j) ∧ (∀ j, ¬ Q j → (g.2.1 100) j = (g1.2.1 100) j ∧ (g.2.1 101) j = (g1.2.1 101) j ∧ (g.2.1 102) j = (g1.2.1 102) j)
theorem zv_fr0 {P Q : Nat → Prop} {h g : zs_H} : zv_fr P Q h g h g := ⟨zfr_rfl, zfr_rfl, fun _ _ => rfl, fun _ _ => ⟨rfl, rfl, rfl⟩⟩
theorem zv_frt {P Q P' Q' : Nat → Prop} {h1 g1 h2 g2 h g : zs_H} (a : zv_fr P' Q' h1 g1 h2 g2) (b : zv_fr P Q h2 g2 h g) (hP : ∀ j, P' j → P j) (hQ : ∀ j, Q' j → Q j) : zv_fr P Q h1 g1 h g := by
  obtain ⟨a1, a2, a3, a4⟩ := a
  obtain ⟨b1, b2, b3, b4⟩ := b
  exact ⟨zfr_trans a1 b1, zfr_trans a2 b2, fun j hj => (b3 j hj).trans (a3 j fun z => hj (hP j z)), fun j hj => ⟨(b4 j hj).1.trans (a4 j fun z => hj (hQ j z)).1, (b4 j hj).2.1.trans (a4 j fun z => hj (hQ j z)).2.1, (b4 j hj).2.2.trans (a4 j fun z => hj (hQ j z)).2.2⟩⟩
/-- what stays all through a declaration's children -/
def zv_dk (h1 g1 h g : zs_H) : Prop := (h.2.1 21 = h1.2.1 21 ∧ h.2.1 22 = h1.2.1 22 ∧ h.2.1 25 = h1.2.1 25 ∧ h.2.1 36 = h1.2.1 36 ∧ h.2.1 39 = h1.2.1 39) ∧ ((h.1 38 10) = (h1.1 38 10) ∧ (h.1 38 12) = (h1.1 38 12) ∧ (h.1 38 5) = (h1.1 38 5) ∧ (h.1 38 6) = (h1.1 38 6)) ∧ g.2.1 84 = g1.2.1 84
theorem zv_CM {LC LM : List (List Int32)} {P Q : Nat → Prop} {h1 g1 h g : zs_H} (fr : zv_fr P Q h1 g1 h g) {u : zt_T} {Pu Qu : Nat → Prop} {up x y x' y' : Int32} (hC : zt_C h1 u Pu x y) (hM : zt_M LC LM g1 u Qu up x' y') : zt_C h u Pu x y ∧ zt_M LC LM g u Qu up x' y' := by
  obtain ⟨a1, a2, _, _⟩ := fr
  have e13 : h.2.1 13 = h1.2.1 13 := a1.2.1 _ (by decide)
  have e15 : h.2.1 15 = h1.2.1 15 := a1.2.1 _ (by decide)
  have e16 : h.2.1 16 = h1.2.1 16 := a1.2.1 _ (by decide)
  have e17 : h.2.1 17 = h1.2.1 17 := a1.2.1 _ (by decide)
  have e18 : h.2.1 18 = h1.2.1 18 := a1.2.1 _ (by decide)
  have f72 : g.2.1 72 = g1.2.1 72 := a2.2.1 _ (by decide)
  have f73 : g.2.1 73 = g1.2.1 73 := a2.2.1 _ (by decide)
  have f74 : g.2.1 74 = g1.2.1 74 := a2.2.1 _ (by decide)
  have f75 : g.2.1 75 = g1.2.1 75 := a2.2.1 _ (by decide)
  have f76 : g.2.1 76 = g1.2.1 76 := a2.2.1 _ (by decide)
  have f77 : g.2.1 77 = g1.2.1 77 := a2.2.1 _ (by decide)
  have f78 : g.2.1 78 = g1.2.1 78 := a2.2.1 _ (by decide)
  constructor
  · exact zt_fr u Pu Pu 0 x y (fun i _ => ⟨fun kd k up z hz => by unfold zt_NC at hz ⊢; rw [e13, e15, e16]; exact hz, by rw [e17], by rw [e18]⟩) (fun i hi => hi) hC
  · exact zt_fr u Qu Qu up x' y' (fun i _ => ⟨fun kd k up z hz => by unfold zt_NM at hz ⊢; rw [f72, f73, f74, f75, f77]; exact hz, by rw [f76], by rw [f78]⟩) (fun i hi => hi) hM
