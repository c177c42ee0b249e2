/-! The judge: the walk through a declaration's children. -/
theorem zv_A99 (kd : Nat) : zg_A kd 99 = false := by
  have key : ∀ r ∈ [(0, 0), (1, 2), (2, 2), (3, 2), (4, 0), (5, 3), (5, 4), (6, 0), (7, 0), (8, 0), (9, 3), (10, 0), (11, 0), (12, 2), (13, 0), (14, 1), (15, 2), (15, 3), (16, 1), (16, 2), (17, 2), (18, 1), (18, 2), (19, 4), (20, 0), (21, 0), (22, 0), (23, 1), (24, 1), (25, 1), (26, 0), (27, 0), (28, 1), (29, 0), (30, 0), (31, 0), (32, 1), (33, 1), (34, 0), (35, 2), (36, 1), (37, 0), (38, 0)], ¬ r.2 = 99 := by decide +kernel
  cases e : zg_A kd 99 with
  | false => rfl
  | true =>
    unfold zg_A at e
    rw [List.elem_eq_mem, decide_eq_true_eq] at e
    exact absurd rfl (key _ e)
/-- kinds that have no children -/
theorem zv_nolf {kd : Nat} {l : zt_T} (hk : ∀ r ∈ zg_R, ¬ r.1 = kd) (h : zg_A kd (zg_run kd 0 l) = true) : l = .leaf := by
  cases l with
  | leaf => rfl
  | inner c kv o l r =>
    exfalso
    have e : zg_q kd 0 c = 99 := Classical.byContradiction fun z => by
      obtain ⟨cs, to, m, _⟩ := zv_qR z
      exact hk _ m rfl
    have : zg_run kd 0 (.inner c kv o l r) = 99 := by show zg_run kd (zg_q kd 0 c) r = 99; rw [e]; exact zv_q99 kd r
    rw [this, zv_A99] at h
    exact absurd h (by decide)
/-- what a walk leaves as it was -/
def zv_fr (P Q : Nat → Prop) (h1 g1 h g : zs_H) : Prop := zfr zv_cf (14 :: zv_cm) [] h1 h ∧ zfr zv_mf zv_mm [] g1 g ∧ (∀ j, ¬ P j → (h.2.1 14) j = (h1.2.1 14) j) ∧ (∀ j, ¬ Q j → (g.2.1 100) j = (g1.2.1 100) j ∧ (g.2.1 101) j = (g1.2.1 101) j ∧ (g.2.1 102) j = (g1.2.1 102) j)
theorem zv_fr0 {P Q : Nat → Prop} {h g : zs_H} : zv_fr P Q h g h g := ⟨zfr_rfl, zfr_rfl, fun _ _ => rfl, fun _ _ => ⟨rfl, rfl, rfl⟩⟩
theorem zv_frt {P Q P' Q' : Nat → Prop} {h1 g1 h2 g2 h g : zs_H} (a : zv_fr P' Q' h1 g1 h2 g2) (b : zv_fr P Q h2 g2 h g) (hP : ∀ j, P' j → P j) (hQ : ∀ j, Q' j → Q j) : zv_fr P Q h1 g1 h g := by
  obtain ⟨a1, a2, a3, a4⟩ := a
  obtain ⟨b1, b2, b3, b4⟩ := b
  exact ⟨zfr_trans a1 b1, zfr_trans a2 b2, fun j hj => (b3 j hj).trans (a3 j fun z => hj (hP j z)), fun j hj => ⟨(b4 j hj).1.trans (a4 j fun z => hj (hQ j z)).1, (b4 j hj).2.1.trans (a4 j fun z => hj (hQ j z)).2.1, (b4 j hj).2.2.trans (a4 j fun z => hj (hQ j z)).2.2⟩⟩
/-- old variables stay, new ones are of this section -/
def zv_v8 (h h' : zs_H) (j : Nat) : Prop := (h'.2.1 28) j = (h.2.1 28) j ∧ (h'.2.1 29) j = (h.2.1 29) j ∧ zv_v6 h h' j
def zv_vo (h1 h : zs_H) : Prop := ∃ n m, (h1.1 20 18) = nI n ∧ (h.1 20 18) = nI m ∧ n ≤ m ∧ m ≤ 5932 ∧ (∀ j, j < n → zv_v8 h1 h j) ∧ (∀ j, n ≤ j → j < m → (h.2.1 29) j = (h1.1 38 5))
theorem zv_vo0 {h : zs_H} {n : Nat} (e : (h.1 20 18) = nI n) (hn : n ≤ 5932) : zv_vo h h := ⟨n, n, e, e, Nat.le_refl _, hn, fun _ _ => ⟨rfl, rfl, rfl, rfl, rfl, rfl, rfl, rfl⟩, fun j h1 h2 => by omega⟩
theorem zv_vof {fs : List (Nat × Nat)} {ms : List Nat} {h1 h h' : zs_H} (a : zv_vo h1 h) (f : zfr fs ms [] h h') (d1 : ¬ (20, 18) ∈ fs) (d2 : ∀ z ∈ [28, 29, 30, 31, 32, 33, 34, 35], ¬ z ∈ ms) : zv_vo h1 h' := by
  obtain ⟨n, m, e1, e2, e3, e4, e5, e6⟩ := a
  have E : ∀ z ∈ [28, 29, 30, 31, 32, 33, 34, 35], h'.2.1 z = h.2.1 z := fun z hz => f.2.1 z (d2 z hz)
  refine ⟨n, m, e1, (f.1 _ _ d1).trans e2, e3, e4, fun j hj => ?_, fun j h1 h2 => ?_⟩
  · obtain ⟨a1, a2, a3, a4, a5, a6, a7, a8⟩ := e5 j hj
    refine ⟨?_, ?_, ?_, ?_, ?_, ?_, ?_, ?_⟩
    · rw [E 28 (by decide)]; exact a1
    · rw [E 29 (by decide)]; exact a2
    · rw [E 30 (by decide)]; exact a3
    · rw [E 31 (by decide)]; exact a4
    · rw [E 32 (by decide)]; exact a5
    · rw [E 33 (by decide)]; exact a6
    · rw [E 34 (by decide)]; exact a7
    · rw [E 35 (by decide)]; exact a8
  · rw [E 29 (by decide)]; exact e6 j h1 h2
/-- a name is declared: what becomes of the variables -/
theorem zv_von {h1 h h' : zs_H} {i b nv ci : Nat} (a : zv_vo h1 h) (hi : i < 32784) (Hb : (h.1 20 17) = nI (b + 1)) (hb : b ≤ 628) (Hv : (h.1 20 18) = nI nv) (hv : nv < 5932) (hc : ci < 6000) (c1 : (h.2.1 16) i = nI ci) (c2 : (h.1 38 5) = (h1.1 38 5)) (J1 : (h.1 38 3) = 0) (J2 : (h'.1 38 3) = 0) (e : f_Jd_declareName h (nI i) = some h') : zv_vo h1 h' := by
  obtain ⟨n, m, e1, e2, e3, e4, e5, e6⟩ := a
  have em : m = nv := by rw [e2] at Hv; exact (nI_eq (by omega) (by omega)).mp Hv
  subst em
  obtain ⟨h2, w1, w2, w3, w4, w5, w6, w7, w8, w9, w10, _⟩ := zj_add (sc := (h.1 38 5)) Hb hb Hv (by omega) hc
  have no : ∀ x, f_Jd_declareName_47 h (nI i) x 1 = some h' → False := by
    intro x z
    unfold f_Jd_declareName_47 at z
    rw [if_neg (by decide), show (12 : Int32) = nI 12 from rfl, zv_refu J1 hi, Option.bind_some] at z
    have z' := Option.some.inj z
    rw [← z'] at J2
    exact absurd J2 (by show ¬ nI 12 = 0; decide)
  have eh : h' = h2 := by
    unfold f_Jd_declareName f_Jd_declareName_42 at e
    rw [if_pos (zi_in (by omega) hi), nI_clamp (by omega), c1] at e
    cases q : f_Pl_variableHere h (nI ci) with
    | none => rw [q] at e; cases e
    | some v =>
      rw [q, Option.bind_some] at e
      split at e
      · split at e
        · split at e
          · split at e
            · unfold f_Jd_declareName_47 at e
              rw [if_pos rfl, w1] at e
              exact (Option.some.inj e).symm
            · exact (no _ e).elim
          · exact (no _ e).elim
        · cases e
      · exact (no _ e).elim
  subst eh
  refine ⟨n, m + 1, e1, w2, by omega, by omega, fun j hj => ?_, fun j j1 j2 => ?_⟩
  · have nj : ¬ j = m := by omega
    obtain ⟨a1, a2, a3, a4, a5, a6, a7, a8⟩ := e5 j hj
    refine ⟨?_, ?_, ?_, ?_, ?_, ?_, ?_, ?_⟩
    · rw [w3, if_neg nj]; exact a1
    · rw [w4, if_neg nj]; exact a2
    · rw [w5, if_neg nj]; exact a3
    · rw [w6, if_neg nj]; exact a4
    · rw [w7, if_neg nj]; exact a5
    · rw [w8, if_neg nj]; exact a6
    · rw [w9, if_neg nj]; exact a7
    · rw [w10, if_neg nj]; exact a8
  · by_cases ej : j = m
    · rw [w4, if_pos ej]; exact c2
    · rw [w4, if_neg ej]; exact e6 j j1 (by omega)
/-- what stays all through a declaration's children -/
def zv_dk (h1 g1 h g : zs_H) : Prop := (h.2.1 21 = h1.2.1 21 ∧ (h.2.1 22 = h1.2.1 22 ∧ h.2.1 26 = h1.2.1 26 ∧ h.2.1 27 = h1.2.1 27) ∧ h.2.1 25 = h1.2.1 25 ∧ h.2.1 36 = h1.2.1 36 ∧ h.2.1 39 = h1.2.1 39) ∧ ((h.1 38 10) = (h1.1 38 10) ∧ (h.1 38 12) = (h1.1 38 12) ∧ (h.1 38 5) = (h1.1 38 5) ∧ (h.1 38 6) = (h1.1 38 6)) ∧ g.2.1 84 = g1.2.1 84 ∧ zv_vo h1 h
theorem zv_CM {LC LM : List (List Int32)} {P Q : Nat → Prop} {h1 g1 h g : zs_H} (fr : zv_fr P Q h1 g1 h g) {u : zt_T} {Pu Qu : Nat → Prop} {up x y x' y' : Int32} (hC : zt_C h1 u Pu x y) (hM : zt_M LC LM g1 u Qu up x' y') : zt_C h u Pu x y ∧ zt_M LC LM g u Qu up x' y' := by
  obtain ⟨a1, a2, _, _⟩ := fr
  have e13 : h.2.1 13 = h1.2.1 13 := a1.2.1 _ (by decide)
  have e15 : h.2.1 15 = h1.2.1 15 := a1.2.1 _ (by decide)
  have e16 : h.2.1 16 = h1.2.1 16 := a1.2.1 _ (by decide)
  have e17 : h.2.1 17 = h1.2.1 17 := a1.2.1 _ (by decide)
  have e18 : h.2.1 18 = h1.2.1 18 := a1.2.1 _ (by decide)
  have f72 : g.2.1 72 = g1.2.1 72 := a2.2.1 _ (by decide)
  have f73 : g.2.1 73 = g1.2.1 73 := a2.2.1 _ (by decide)
  have f74 : g.2.1 74 = g1.2.1 74 := a2.2.1 _ (by decide)
  have f75 : g.2.1 75 = g1.2.1 75 := a2.2.1 _ (by decide)
  have f76 : g.2.1 76 = g1.2.1 76 := a2.2.1 _ (by decide)
  have f77 : g.2.1 77 = g1.2.1 77 := a2.2.1 _ (by decide)
  have f78 : g.2.1 78 = g1.2.1 78 := a2.2.1 _ (by decide)
  constructor
  · exact zt_fr u Pu Pu 0 x y (fun i _ => ⟨fun kd k up z hz => by unfold zt_NC at hz ⊢; rw [e13, e15, e16]; exact hz, by rw [e17], by rw [e18]⟩) (fun i hi => hi) hC
  · exact zt_fr u Qu Qu up x' y' (fun i _ => ⟨fun kd k up z hz => by unfold zt_NM at hz ⊢; rw [f72, f73, f74, f75, f77]; exact hz, by rw [f76], by rw [f78]⟩) (fun i hi => hi) hM
