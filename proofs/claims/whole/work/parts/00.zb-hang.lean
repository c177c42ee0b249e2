/-! Nodes are hung, in the class and in the model. -/
/-- the class's nodes before s are as they were -/
def zq_kp (s : Nat) (h h' : zs_H) : Prop := ∀ i, i < s → (h'.2.1 13) i = (h.2.1 13) i ∧ (h'.2.1 15) i = (h.2.1 15) i ∧ (h'.2.1 16) i = (h.2.1 16) i ∧ (h'.2.1 17) i = (h.2.1 17) i ∧ (h'.2.1 18) i = (h.2.1 18) i
theorem zq_kp_f {s : Nat} {h h' : zs_H} {fs : List (Nat × Nat)} (f : zfr fs [] [] h h') : zq_kp s h h' := fun i _ => ⟨congrFun (f.2.1 _ List.not_mem_nil) i, congrFun (f.2.1 _ List.not_mem_nil) i, congrFun (f.2.1 _ List.not_mem_nil) i, congrFun (f.2.1 _ List.not_mem_nil) i, congrFun (f.2.1 _ List.not_mem_nil) i⟩
theorem zq_kp_t {s s' : Nat} {h h1 h2 : zs_H} (a : zq_kp s h h1) (b : zq_kp s' h1 h2) (hs : s ≤ s') : zq_kp s h h2 := fun i hi => by
  obtain ⟨a1, a2, a3, a4, a5⟩ := a i hi
  obtain ⟨b1, b2, b3, b4, b5⟩ := b i (by omega)
  exact ⟨b1.trans a1, b2.trans a2, b3.trans a3, b4.trans a4, b5.trans a5⟩
theorem zq_kp_r {s : Nat} {h : zs_H} : zq_kp s h h := fun _ _ => ⟨rfl, rfl, rfl, rfl, rfl⟩
theorem zq_kp_A {s kd : Nat} {p v : Int32} {h h' : zs_H} (q : zq_A s kd p v h h') : zq_kp s h h' := fun i hi => by
  obtain ⟨q1, q2, q3, q4, q5, q6, q7⟩ := q
  exact ⟨by rw [q2, if_neg (by omega)], by rw [q3, if_neg (by omega)], by rw [q4, if_neg (by omega)], by rw [q5, if_neg (by omega)], by rw [q6, if_neg (by omega)]⟩
theorem zt_Ck {h h' : zs_H} {t : zt_T} {P : Nat → Prop} {x y : Int32} {s : Nat} (k : zq_kp s h h') (hP : ∀ i, P i → i < s) (H : zt_C h t P x y) : zt_C h' t P x y := by
  refine zt_fr t P P _ _ _ (fun i hi => ?_) (fun _ z => z) H
  obtain ⟨a1, a2, a3, a4, a5⟩ := k i (hP i hi)
  refine ⟨fun kd kk up z q => ?_, a4, a5⟩
  unfold zt_NC at q ⊢
  rw [a1, a2, a3]; exact q
theorem zt_Cm {h : zs_H} {t : zt_T} {P Q : Nat → Prop} {x y : Int32} (hP : ∀ i, P i → Q i) (H : zt_C h t P x y) : zt_C h t Q x y := zt_fr t P Q _ _ _ (fun _ _ => ⟨fun _ _ _ _ z => z, rfl, rfl⟩) hP H
theorem zt_Cn {s kd : Nat} {p v : Int32} {h h' : zs_H} (hs : s < 40000) (q : zq_A s kd p v h h') : zt_C h' (zt_n kd p v .leaf) (fun i => i = s) (nI s) (nI s) := by
  obtain ⟨q1, q2, q3, q4, q5, q6, q7⟩ := q
  refine ⟨s, fun _ => False, fun _ => False, -1, -1, rfl, hs, rfl, ⟨by rw [q2, if_pos rfl], by rw [q3, if_pos rfl], by rw [q4, if_pos rfl]⟩, fun j z => z.elim, fun j z => z.elim, ?_, ?_, by rw [if_pos rfl]⟩
  · rw [q5, if_pos rfl]; exact ⟨rfl, rfl⟩
  · rw [q6, if_pos rfl]; exact ⟨rfl, rfl⟩
/-- the class hangs a node behind a parent's children -/
theorem zq_hangC {h : zs_H} {ip a : Nat} {y : Int32} {t u : zt_T} {P Q : Nat → Prop} (hip : ip < 32784) (hP : ∀ i, P i → i < 32784) (ht : zt_C h t P ((h.2.1 17) ip) y) (hu : zt_C h u Q (nI a) (nI a)) (hd : ∀ i, P i → ¬ Q i) (h1 : ¬ P ip) (h2 : ¬ Q ip) (ha : a < 40000) : ∃ h', f_Tr_hang h (nI ip) y (nI a) = some (nI a, h') ∧ zt_C h' (zt_ap t u) (fun i => P i ∨ Q i) ((h'.2.1 17) ip) (nI a) ∧ (∀ i, (h'.2.1 13) i = (h.2.1 13) i ∧ (h'.2.1 15) i = (h.2.1 15) i ∧ (h'.2.1 16) i = (h.2.1 16) i ∧ (¬ i = ip → (h'.2.1 17) i = (h.2.1 17) i) ∧ (¬ P i → (h'.2.1 18) i = (h.2.1 18) i)) ∧ zfr [] [17, 18] [] h h' := by
  unfold f_Tr_hang
  rcases zt_last t P _ _ _ ht with ⟨e1, e2, e3⟩ | ⟨i, c, i1, i2, i3, c1, c2, c3⟩
  · rw [if_pos e3, if_pos (zi_in (by omega) hip), nI_clamp (by omega)]
    have key : ∀ i, (zs_uM h 17 ip (nI a)).2.1 17 i = if i = ip then nI a else (h.2.1 17) i := fun i => by simp [zu_MM]
    refine ⟨_, rfl, ?_, fun i => ⟨rfl, rfl, rfl, fun z => ?_, fun _ => rfl⟩, zfr_M (by decide) zfr_rfl⟩
    · rw [e1, key, if_pos rfl]
      show zt_C _ u _ _ _
      refine zt_fr u Q _ _ _ _ (fun i hi => ⟨fun _ _ _ _ z => z, ?_, rfl⟩) (fun _ z => Or.inr z) hu
      rw [key, if_neg (show ¬ i = ip from fun z => h2 (z ▸ hi))]
    · rw [key, if_neg z]
  · have hc := hP c c1
    rw [c3, if_neg (zc_m1 (by omega)), if_pos (zi_in (by omega) hc), nI_clamp (by omega)]
    have key : ∀ i, (zs_uM h 18 c (nI a)).2.1 18 i = if i = c then nI a else (h.2.1 18) i := fun i => by simp [zu_MM]
    have kc : ∀ i, (zs_uM h 18 c (nI a)).2.1 17 i = (h.2.1 17) i := fun i => rfl
    refine ⟨_, rfl, ?_, fun i => ⟨rfl, rfl, rfl, fun _ => rfl, fun z => ?_⟩, zfr_M (by decide) zfr_rfl⟩
    · rw [c3] at ht
      rw [kc]
      exact zt_app (j := c) (by omega) (by rw [key, if_pos rfl]) (fun i => kc i) (fun i z => by rw [key, if_neg z]) (fun _ _ _ _ _ z => z) hu (zc_m1 (by omega)) (fun z => hd c c1 z) t P _ hd ht
    · rw [key, if_neg (show ¬ i = c from fun w => z (w.symm ▸ c1))]
/-- a parent and what is below it -/
theorem zt_Cp {h : zs_H} {ip kd : Nat} {p v y : Int32} {t : zt_T} {P : Nat → Prop} (hip : ip < 40000) (h1 : ¬ P ip) (hk : (h.2.1 13) ip = nI kd) (hp : (h.2.1 15) ip = p) (hv : (h.2.1 16) ip = v) (hn : (h.2.1 18) ip = -1) (ht : zt_C h t P ((h.2.1 17) ip) y) : zt_C h (zt_n kd p v t) (fun i => i = ip ∨ P i) (nI ip) (nI ip) :=
  ⟨ip, P, fun _ => False, y, -1, Or.inl rfl, hip, rfl, ⟨hk, hp, hv⟩, fun j hj => ⟨Or.inr hj, fun z => h1 (z ▸ hj), fun z => z⟩, fun j z => z.elim, zt_Cup t P 0 _ _ _ ht, ⟨hn, rfl⟩, by rw [if_pos rfl]⟩
/-- the model's nodes before b are as they were, and b too but for what is below it -/
def zx_kp (b : Nat) (g g' : zs_H) : Prop := (∀ i, i < b → (g'.2.1 72) i = (g.2.1 72) i ∧ (g'.2.1 73) i = (g.2.1 73) i ∧ (g'.2.1 74) i = (g.2.1 74) i ∧ (g'.2.1 75) i = (g.2.1 75) i ∧ (g'.2.1 76) i = (g.2.1 76) i ∧ (g'.2.1 77) i = (g.2.1 77) i ∧ (g'.2.1 78) i = (g.2.1 78) i) ∧ (g'.2.1 72) b = (g.2.1 72) b ∧ (g'.2.1 73) b = (g.2.1 73) b ∧ (g'.2.1 74) b = (g.2.1 74) b ∧ (g'.2.1 75) b = (g.2.1 75) b ∧ (g'.2.1 78) b = (g.2.1 78) b
theorem zx_kp_r {b : Nat} {g : zs_H} : zx_kp b g g := ⟨fun _ _ => ⟨rfl, rfl, rfl, rfl, rfl, rfl, rfl⟩, rfl, rfl, rfl, rfl, rfl⟩
theorem zx_kp_t {b : Nat} {g g1 g2 : zs_H} (a : zx_kp b g g1) (c : zx_kp b g1 g2) : zx_kp b g g2 := by
  obtain ⟨a0, a1, a2, a3, a4, a5⟩ := a
  obtain ⟨c0, c1, c2, c3, c4, c5⟩ := c
  refine ⟨fun i hi => ?_, c1.trans a1, c2.trans a2, c3.trans a3, c4.trans a4, c5.trans a5⟩
  obtain ⟨x1, x2, x3, x4, x5, x6, x7⟩ := a0 i hi
  obtain ⟨y1, y2, y3, y4, y5, y6, y7⟩ := c0 i hi
  exact ⟨y1.trans x1, y2.trans x2, y3.trans x3, y4.trans x4, y5.trans x5, y6.trans x6, y7.trans x7⟩
/-- all the nodes before m are as they were -/
def zx_ka (m : Nat) (g g' : zs_H) : Prop := ∀ i, i < m → (g'.2.1 72) i = (g.2.1 72) i ∧ (g'.2.1 73) i = (g.2.1 73) i ∧ (g'.2.1 74) i = (g.2.1 74) i ∧ (g'.2.1 75) i = (g.2.1 75) i ∧ (g'.2.1 76) i = (g.2.1 76) i ∧ (g'.2.1 77) i = (g.2.1 77) i ∧ (g'.2.1 78) i = (g.2.1 78) i
theorem zx_ka_l {m : Nat} {g g' : zs_H} (f : zfr zk_lx [70, 71] [] g g') : zx_ka m g g' := fun i _ => ⟨congrFun (f.2.1 _ (by decide)) i, congrFun (f.2.1 _ (by decide)) i, congrFun (f.2.1 _ (by decide)) i, congrFun (f.2.1 _ (by decide)) i, congrFun (f.2.1 _ (by decide)) i, congrFun (f.2.1 _ (by decide)) i, congrFun (f.2.1 _ (by decide)) i⟩
theorem zx_ka_t {m m' : Nat} {g g1 g2 : zs_H} (a : zx_ka m g g1) (c : zx_ka m' g1 g2) (hm : m ≤ m') : zx_ka m g g2 := fun i hi => by
  obtain ⟨x1, x2, x3, x4, x5, x6, x7⟩ := a i hi
  obtain ⟨y1, y2, y3, y4, y5, y6, y7⟩ := c i (by omega)
  exact ⟨y1.trans x1, y2.trans x2, y3.trans x3, y4.trans x4, y5.trans x5, y6.trans x6, y7.trans x7⟩
theorem zx_ka_kp {m b : Nat} {g g' : zs_H} (a : zx_ka m g g') (hb : b < m) : zx_kp b g g' := by
  obtain ⟨x1, x2, x3, x4, x5, x6, x7⟩ := a b hb
  exact ⟨fun i hi => a i (by omega), x1, x2, x3, x4, x7⟩
theorem zx_kp_ka {m b : Nat} {g g' : zs_H} (a : zx_kp b g g') (hb : m ≤ b) : zx_ka m g g' := fun i hi => a.1 i (by omega)
theorem zx_ka_N {m kd : Nat} {p v : Int32} {g g' : zs_H} (q : zx_N m kd p v g g') : zx_ka m g g' := fun i hi => by
  obtain ⟨q1, q2, q3, q4, q5, q6, q7, q8, q9⟩ := q
  exact ⟨by rw [q2, if_neg (by omega)], by rw [q3, if_neg (by omega)], by rw [q4, if_neg (by omega)], by rw [q5, if_neg (by omega)], by rw [q6, if_neg (by omega)], by rw [q7, if_neg (by omega)], by rw [q8, if_neg (by omega)]⟩
theorem zt_nrm {LC LM LM' : List (List Int32)} {v w : Int32} (hp : LM <+: LM') (H : zt_nr LC LM v w) : zt_nr LC LM' v w := by
  obtain ⟨c, k, h1, h2, h3, h4, h5, h6⟩ := H
  obtain ⟨r, rfl⟩ := hp
  refine ⟨c, k, h1, h2, h3, h4, by rw [List.length_append]; omega, ?_⟩
  rw [h6, List.getD_eq_getElem?_getD, List.getD_eq_getElem?_getD, List.getElem?_append_left h5]
theorem zt_Mk {LC LM LM' : List (List Int32)} {g g' : zs_H} {t : zt_T} {P : Nat → Prop} {up x y : Int32} {m : Nat} (hp : LM <+: LM') (k : zx_ka m g g') (hP : ∀ i, P i → i < m) (H : zt_M LC LM g t P up x y) : zt_M LC LM' g' t P up x y := by
  refine zt_fr t P P _ _ _ (fun i hi => ?_) (fun _ z => z) H
  obtain ⟨a1, a2, a3, a4, a5, a6, a7⟩ := k i (hP i hi)
  refine ⟨fun kd kk up z q => ?_, a5, a7⟩
  unfold zt_NM at q ⊢
  rw [a1, a2, a3, a4, a6]
  refine ⟨q.1, q.2.1, ?_, q.2.2.2⟩
  have q3 := q.2.2.1
  by_cases c : zt_nk kd = true
  · rw [if_pos c] at q3 ⊢; exact zt_nrm hp q3
  · rw [if_neg c] at q3 ⊢; exact q3
theorem zt_Mm {LC LM : List (List Int32)} {g : zs_H} {t : zt_T} {P Q : Nat → Prop} {up x y : Int32} (hP : ∀ i, P i → Q i) (H : zt_M LC LM g t P up x y) : zt_M LC LM g t Q up x y := zt_fr t P Q _ _ _ (fun _ _ => ⟨fun _ _ _ _ z => z, rfl, rfl⟩) hP H
/-- a node's own fields -/
def zt_Nf (LC LM : List (List Int32)) (g : zs_H) (i kd : Nat) (p v : Int32) : Prop := (g.2.1 72) i = nI (zt_km kd) ∧ (¬ kd = 11 → (g.2.1 73) i = p) ∧ (if zt_nk kd = true then zt_nr LC LM v ((g.2.1 74) i) else (g.2.1 74) i = v)
/-- the model hangs a node, with what is below it, behind a parent's children -/
theorem zx_hangM {LC LM : List (List Int32)} {g g' : zs_H} {a b kd : Nat} {p v : Int32} {t l : zt_T} {P Q : Nat → Prop} (ha : a < 40000) (hH : zx_H a b g g') (ht : zt_M LC LM g t P (nI b) ((g.2.1 76) b) ((g.2.1 77) b)) (hN : zt_Nf LC LM g a kd p v) (hbs : (g.2.1 78) a = -1) (hl : zt_M LC LM g l Q (nI a) ((g.2.1 76) a) ((g.2.1 77) a)) (hd : ∀ i, P i → ¬ Q i ∧ ¬ i = a) (h1 : ¬ P b) (h2 : ¬ Q b) (h3 : ¬ a = b) (h4 : ¬ Q a) : zt_M LC LM g' (zt_ap t (zt_n kd p v l)) (fun i => P i ∨ i = a ∨ Q i) (nI b) ((g'.2.1 76) b) ((g'.2.1 77) b) := by
  obtain ⟨H1, H2, H3, H4⟩ := hH
  have ek : (g'.2.1 72) = (g.2.1 72) := H4.2.1 _ (by decide)
  have ep : (g'.2.1 73) = (g.2.1 73) := H4.2.1 _ (by decide)
  have ev : (g'.2.1 74) = (g.2.1 74) := H4.2.1 _ (by decide)
  have eN : ∀ i, ¬ i = a → ¬ i = b → ∀ kd k up z, zt_NM LC LM g i kd k up z → zt_NM LC LM g' i kd k up z := by
    intro i i1 i2 kd k up z q
    unfold zt_NM at q ⊢
    rw [ek, ep, ev, H1, if_neg i1, H2, if_neg i2]; exact q
  have hlast : (g'.2.1 77) b = nI a := by rw [H2, if_pos rfl]
  have hNa : ∀ z, (g.2.1 77) a = z → zt_NM LC LM g' a kd (p, v) (nI b) z := by
    intro z hz
    unfold zt_NM
    rw [ek, ep, ev, H1, if_pos rfl, H2, if_neg h3]
    exact ⟨hN.1, hN.2.1, hN.2.2, rfl, hz⟩
  rcases H3 with ⟨e1, e2, e3⟩ | ⟨e1, e2, c, c1, c2, e3⟩
  · -- the first one
    have et : t = .leaf := by
      rcases zt_last t P _ _ _ ht with ⟨z, _, _⟩ | ⟨i, _, _, i2, i3, _⟩
      · exact z
      · rw [e1] at i3; exact absurd i3.symm (zc_m1 (by omega))
    rw [et, hlast, e2, if_pos rfl]
    refine ⟨a, Q, fun _ => False, (g.2.1 77) a, -1, Or.inr (Or.inl rfl), ha, rfl, hNa _ rfl, fun j hj => ⟨Or.inr (Or.inr hj), fun z => h4 (z ▸ hj), fun z => z⟩, fun j z => z.elim, ?_, ?_, by rw [if_pos rfl]⟩
    · rw [e2, if_neg h3]
      exact zt_fr l Q Q _ _ _ (fun i hi => ⟨eN i (fun z => h4 (z ▸ hi)) (fun z => h2 (z ▸ hi)), by rw [e2, if_neg (show ¬ i = b from fun z => h2 (z ▸ hi))], e3 i⟩) (fun _ z => z) hl
    · exact ⟨by rw [e3, hbs], rfl⟩
  · have hcP : P c := by
      rcases zt_last t P _ _ _ ht with ⟨z, y, _⟩ | ⟨i, j, _, _, _, j1, j2, j3⟩
      · exact absurd y e1
      · rw [c2] at j3
        have := (nI_eq (by omega) (by omega)).mp j3
        rw [this]; exact j1
    -- both in the new arrays, but for the link
    have hu : zt_G (zt_NM LC LM g') ((g.2.1 76)) ((g.2.1 78)) (zt_n kd p v l) (fun i => i = a ∨ Q i) (nI b) (nI a) (nI a) := by
      refine ⟨a, Q, fun _ => False, (g.2.1 77) a, -1, Or.inl rfl, ha, rfl, hNa _ rfl, fun j hj => ⟨Or.inr hj, fun z => h4 (z ▸ hj), fun z => z⟩, fun j z => z.elim, ?_, ⟨hbs, rfl⟩, by rw [if_pos rfl]⟩
      exact zt_fr l Q Q _ _ _ (fun i hi => ⟨eN i (fun z => h4 (z ▸ hi)) (fun z => h2 (z ▸ hi)), rfl, rfl⟩) (fun _ z => z) hl
    have ht2 : zt_G (zt_NM LC LM g') ((g.2.1 76)) ((g.2.1 78)) t P (nI b) ((g.2.1 76) b) (nI c) := by
      rw [c2] at ht
      exact zt_fr t P P _ _ _ (fun i hi => ⟨eN i (hd i hi).2 (fun z => h1 (z ▸ hi)), rfl, rfl⟩) (fun _ z => z) ht
    rw [hlast, e2]
    exact zt_app (j := c) c1 (by rw [e3, if_pos rfl]) e2 (fun i z => by rw [e3, if_neg z]) (fun _ _ _ _ _ z => z) hu (zc_m1 (by omega)) (fun z => z.elim (hd c hcP).2 (hd c hcP).1) t P _ (fun i hi z => z.elim (hd i hi).2 (hd i hi).1) ht2
