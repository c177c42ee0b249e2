/-! What comes behind a parent's children in the model. -/
/-- the last node of a forest gets something below it -/
theorem zt_sub {N N' : Nat → Nat → Int32 × Int32 → Int32 → Int32 → Prop} {A A' B B' : Nat → Int32} {i kd : Nat} {p v up z1 : Int32} {l : zt_T} {Q : Nat → Prop} (hi : i < 40000) (hn : N' i kd (p, v) up z1) (hl : zt_G N' A' B' l Q (nI i) (A' i) z1) (hQi : ¬ Q i) : ∀ (t : zt_T) (P : Nat → Prop) (x : Int32), (∀ a, P a → ¬ Q a) → zt_G N A B (zt_ap t (zt_n kd p v .leaf)) P up x (nI i) → (∀ a, P a → (¬ a = i → (∀ kd k up z, N a kd k up z → N' a kd k up z) ∧ A' a = A a) ∧ B' a = B a) → zt_G N' A' B' (zt_ap t (zt_n kd p v l)) (fun a => P a ∨ Q a) up x (nI i) := by
  intro t
  induction t with
  | leaf =>
    intro P x hPQ q hN2
    obtain ⟨i', P1, P2, z1', z2, q1, q2, q3, q4, q5, q6, q7, q8, q9⟩ := q
    obtain ⟨q8a, q8b⟩ := q8
    rw [if_pos q8b, q3] at q9
    have e : i = i' := (nI_eq (by omega) (by omega)).mp q9
    subst e
    refine ⟨i, Q, fun _ => False, z1, -1, Or.inl q1, q2, q3, hn, fun a ha => ⟨Or.inr ha, fun z => hQi (z ▸ ha), fun z => z⟩, fun a z => z.elim, hl, ⟨by rw [(hN2 i q1).2]; exact q8a, rfl⟩, by rw [if_pos rfl]; exact q3.symm⟩
  | inner kd' k' v' l' r ihl ihr =>
    intro P x hPQ q hN2
    obtain ⟨i', P1, P2, z1', z2, q1, q2, q3, q4, q5, q6, q7, q8, q9⟩ := q
    have hz : ¬ z2 = -1 := by
      intro z
      rcases zt_last _ P2 _ _ _ q8 with ⟨w, _, _⟩ | ⟨_, j, _, _, _, _, j2, j3⟩
      · revert w
        cases r with
        | leaf => intro w; cases w
        | inner => intro w; cases w
      · rw [z] at j3; exact absurd j3.symm (zc_m1 (by omega))
    rw [if_neg hz] at q9
    have hP2 : P2 i := by
      rcases zt_last _ P2 _ _ _ q8 with ⟨_, _, w⟩ | ⟨_, j, _, _, _, j1, j2, j3⟩
      · exact absurd w hz
      · rw [← q9] at j3
        have := (nI_eq (by omega) (by omega)).mp j3
        rw [this]; exact j1
    have hne : ¬ i' = i := fun z => (q6 i hP2).2 z.symm
    have hr := ihr P2 (B i') (fun a ha => hPQ a (q6 a ha).1) (by rw [q9]; exact q8) (fun a ha => hN2 a (q6 a ha).1)
    refine ⟨i', P1, fun a => P2 a ∨ Q a, z1', nI i, Or.inl q1, q2, q3, ((hN2 i' q1).1 hne).1 _ _ _ _ q4, fun a ha => ⟨Or.inl (q5 a ha).1, (q5 a ha).2.1, fun z => z.elim (q5 a ha).2.2 (hPQ a (q5 a ha).1)⟩, fun a ha => ha.elim (fun z => ⟨Or.inl (q6 a z).1, (q6 a z).2⟩) (fun z => ⟨Or.inr z, fun w => hPQ i' q1 (w ▸ z)⟩), ?_, ?_, by rw [if_neg (zc_m1 (by omega))]⟩
    · rw [((hN2 i' q1).1 hne).2]
      refine zt_fr l' P1 P1 _ _ _ (fun a ha => ?_) (fun _ z => z) q7
      have ha2 : ¬ a = i := fun z => (q5 a ha).2.2 (z ▸ hP2)
      have ha3 := hN2 a (q5 a ha).1
      exact ⟨(ha3.1 ha2).1, (ha3.1 ha2).2, ha3.2⟩
    · rw [(hN2 i' q1).2]; exact hr
/-- a forest t comes behind what is below node b -/
def zx_AP (LC LM LM' : List (List Int32)) (b m m' : Nat) (t : zt_T) (g g' : zs_H) : Prop := ∀ (P : Nat → Prop) (u : zt_T), (∀ i, P i → b < i ∧ i < m) → zt_M LC LM g u P (nI b) ((g.2.1 76) b) ((g.2.1 77) b) → zx_kp b g g' ∧ zt_M LC LM' g' (zt_ap u t) (fun i => P i ∨ (m ≤ i ∧ i < m')) (nI b) ((g'.2.1 76) b) ((g'.2.1 77) b)
theorem zx_AP_0 {LC LM LM' : List (List Int32)} {b m : Nat} {g g' : zs_H} (hp : LM <+: LM') (k : zx_ka m g g') (hb : b < m) : zx_AP LC LM LM' b m m .leaf g g' := by
  refine fun P u hP H => ⟨zx_ka_kp k hb, ?_⟩
  obtain ⟨_, _, _, _, k5, k6, _⟩ := k b hb
  rw [zt_ap_leaf, k5, k6]
  exact zt_Mm (fun i hi => Or.inl hi) (zt_Mk hp k (fun i hi => (hP i hi).2) H)
theorem zx_AP_t {LC LM LM1 LM2 : List (List Int32)} {b m m1 m2 : Nat} {t t' : zt_T} {g g1 g2 : zs_H} (a : zx_AP LC LM LM1 b m m1 t g g1) (c : zx_AP LC LM1 LM2 b m1 m2 t' g1 g2) (h1 : m ≤ m1) (h2 : m1 ≤ m2) (hb : b < m) : zx_AP LC LM LM2 b m m2 (zt_ap t t') g g2 := by
  refine fun P u hP H => ?_
  have a1 := a P u hP H
  have q := c _ _ (fun i hi => hi.elim (fun z => ⟨(hP i z).1, by have := (hP i z).2; omega⟩) (fun z => ⟨by omega, z.2⟩)) a1.2
  have q2 := q.2
  rw [zt_ap_as] at q2
  refine ⟨zx_kp_t a1.1 q.1, zt_Mm (fun i hi => ?_) q2⟩
  rcases hi with (z | z) | z
  · exact Or.inl z
  · exact Or.inr ⟨z.1, by omega⟩
  · exact Or.inr ⟨by omega, z.2⟩
/-- add: a node without anything below it -/
theorem zx_add {LC LM : List (List Int32)} {g : zs_H} {m b kd : Nat} {kv p v : Int32} {v' : Int32} (Hm : (g.1 68 14) = nI m) (hm : m < 33500) (HW : zx_W g m) (hb : b < m) (hk : kv = nI (zt_km kd)) (hv : if zt_nk kd = true then zt_nr LC LM v' v else v = v') : ∃ g', f_Mo_add g (nI b) kv p v = some (nI m, g') ∧ zx_AP LC LM LM b m (m + 1) (zt_n kd p v' .leaf) g g' ∧ zx_W g' (m + 1) ∧ (g'.1 68 14) = nI (m + 1) ∧ zt_Nf LC LM g' m kd p v' ∧ (g'.2.1 75) m = nI b ∧ (g'.2.1 76) m = -1 ∧ (g'.2.1 77) m = -1 ∧ (g'.2.1 78) m = -1 ∧ (g'.2.1 77) b = nI m ∧ zfr [(68, 14)] [72, 73, 74, 75, 76, 77, 78] [] g g' := by
  obtain ⟨g1, e1, q⟩ := zx_node (p := p) (v := v) Hm hm hk
  have hW1 := zx_W_N HW q
  have hka := zx_ka_N q
  obtain ⟨q1, q2, q3, q4, q5, q6, q7, q8, q9⟩ := q
  obtain ⟨g2, e2, hH, hW2⟩ := zx_hang (a := m) (b := b) (show m + 1 ≤ 33500 by omega) (by omega) (by omega) hW1
  have hNf : zt_Nf LC LM g1 m kd p v' := by
    refine ⟨by rw [q2, if_pos rfl], fun _ => by rw [q3, if_pos rfl], ?_⟩
    rw [q4, if_pos rfl]; exact hv
  have f2 := hH.2.2.2
  have hbm : ¬ m = b := by omega
  refine ⟨g2, ?_, fun P u hP H => ⟨?_, ?_⟩, hW2, (f2.1 _ _ (by decide)).trans q1, ?_, ?_, ?_, ?_, ?_, by rw [hH.2.1, if_pos rfl], zfr_trans (zfr_w q9 (by decide) (by decide) (by decide)) (zfr_w f2 (by decide) (by decide) (by decide))⟩
  · unfold f_Mo_add
    rw [e1]
    show (f_Mo_hang g1 (nI m) (nI b)).bind _ = _
    rw [e2]; rfl
  · refine zx_kp_t (zx_ka_kp hka hb) ?_
    obtain ⟨H1, H2, H3, H4⟩ := hH
    obtain ⟨_, _, _, _, k5, k6, _⟩ := hka b hb
    have hbs : ∀ i, i ≤ b → (g2.2.1 78) i = (g1.2.1 78) i ∧ (i < b → (g2.2.1 76) i = (g1.2.1 76) i) := by
      intro i hi
      rcases H3 with ⟨e3, e4, e5⟩ | ⟨e3, e4, c, c1, c2, e5⟩
      · exact ⟨e5 i, fun z => by rw [e4, if_neg (by omega)]⟩
      · have hc : b < c := by
          rcases zt_last u P _ _ _ H with ⟨_, z, _⟩ | ⟨_, j, _, _, _, j1, j2, j3⟩
          · rw [← k5] at z; exact absurd z e3
          · rw [← k6, c2] at j3
            have := (nI_eq (by omega) (by omega)).mp j3
            have := hP j j1
            omega
        exact ⟨by rw [e5, if_neg (by omega)], fun _ => e4 i⟩
    exact ⟨fun i hi => ⟨congrFun (f2.2.1 _ (by decide)) i, congrFun (f2.2.1 _ (by decide)) i, congrFun (f2.2.1 _ (by decide)) i, by rw [H1, if_neg (by omega)], (hbs i (by omega)).2 hi, by rw [H2, if_neg (by omega)], (hbs i (by omega)).1⟩, congrFun (f2.2.1 _ (by decide)) b, congrFun (f2.2.1 _ (by decide)) b, congrFun (f2.2.1 _ (by decide)) b, by rw [H1, if_neg (by omega)], (hbs b (Nat.le_refl b)).1⟩
  · obtain ⟨_, _, _, _, k5, k6, _⟩ := hka b hb
    have H1 := zt_Mk (List.prefix_refl LM) hka (fun i hi => (hP i hi).2) H
    rw [← k5, ← k6] at H1
    have h5 : (g1.2.1 76) m = -1 := by rw [q6, if_pos rfl]
    have h6 : (g1.2.1 77) m = -1 := by rw [q7, if_pos rfl]
    have h8 : (g1.2.1 78) m = -1 := by rw [q8, if_pos rfl]
    have r := zx_hangM (l := .leaf) (Q := fun _ => False) (by omega) hH H1 hNf h8 ⟨h5, h6⟩ (fun i hi => ⟨fun z => z, fun z => by have := (hP i hi).2; omega⟩) (fun z => by have := (hP b z).1; omega) (fun z => z) hbm (fun z => z)
    refine zt_Mm (fun i hi => ?_) r
    rcases hi with z | z | z
    · exact Or.inl z
    · exact Or.inr ⟨by omega, by omega⟩
    · exact z.elim
  · unfold zt_Nf at hNf ⊢
    rw [f2.2.1 _ (by decide), f2.2.1 _ (by decide), f2.2.1 _ (by decide)]; exact hNf
  · rw [hH.1, if_pos rfl]
  · rcases hH.2.2.1 with ⟨_, e4, _⟩ | ⟨_, e4, _⟩
    · rw [e4, if_neg hbm, q6, if_pos rfl]
    · rw [e4, q6, if_pos rfl]
  · rw [hH.2.1, if_neg hbm, q7, if_pos rfl]
  · rcases hH.2.2.1 with ⟨_, _, e5⟩ | ⟨e9, _, c, c1, c2, e5⟩
    · rw [e5, q8, if_pos rfl]
    · have hcm : ¬ m = c := by
        intro z
        rcases HW b hb with y | ⟨_, a, a1, a2⟩
        · obtain ⟨_, _, _, _, k5, k6, _⟩ := hka b hb
          exact e9 (k5.trans y)
        · obtain ⟨_, _, _, _, k5, k6, _⟩ := hka b hb
          rw [k6, a2] at c2
          have := (nI_eq (by omega) (by omega)).mp c2
          omega
      rw [e5, if_neg hcm, q8, if_pos rfl]
/-- a node with what comes below it -/
theorem zx_AP_n {LC LM LM1 LM' : List (List Int32)} {g g1 g2 : zs_H} {b m m' kd : Nat} {p v : Int32} {l : zt_T} (hm : m < 33500) (hm' : m + 1 ≤ m') (hb : b < m) (a : zx_AP LC LM LM1 b m (m + 1) (zt_n kd p v .leaf) g g1) (hp : LM1 <+: LM') (h1 : (g1.2.1 76) m = -1) (h2 : (g1.2.1 77) m = -1) (c : zx_AP LC LM1 LM' m (m + 1) m' l g1 g2) (hN : zt_Nf LC LM' g2 m kd p v) (hab : (g2.2.1 75) m = nI b) (h6 : (g1.2.1 77) b = nI m) (hk : ∀ i, i < m → (g2.2.1 72) i = (g1.2.1 72) i ∧ (g2.2.1 73) i = (g1.2.1 73) i ∧ (g2.2.1 74) i = (g1.2.1 74) i ∧ (g2.2.1 75) i = (g1.2.1 75) i ∧ (g2.2.1 76) i = (g1.2.1 76) i ∧ (g2.2.1 77) i = (g1.2.1 77) i ∧ (g2.2.1 78) i = (g1.2.1 78) i) (hbs : (g2.2.1 78) m = (g1.2.1 78) m) : zx_AP LC LM LM' b m m' (zt_n kd p v l) g g2 := by
  intro P u hP H
  obtain ⟨a1, a2⟩ := a P u hP H
  obtain ⟨c1, c2⟩ := c (fun _ => False) .leaf (fun i z => z.elim) ⟨h1, h2⟩
  have ka : zx_ka m g1 g2 := hk
  refine ⟨zx_kp_t a1 (zx_ka_kp ka hb), ?_⟩
  obtain ⟨_, _, _, _, k5, k6, _⟩ := ka b hb
  rw [k5, k6, h6]
  rw [h6] at a2
  have hmono : ∀ i, i < m → ∀ kd k up z, zt_NM LC LM1 g1 i kd k up z → zt_NM LC LM' g2 i kd k up z := by
    intro i hi kd k up z q
    obtain ⟨x1, x2, x3, x4, x5, x6, x7⟩ := ka i hi
    unfold zt_NM at q ⊢
    rw [x1, x2, x3, x4, x6]
    refine ⟨q.1, q.2.1, ?_, q.2.2.2⟩
    have q3 := q.2.2.1
    by_cases w : zt_nk kd = true
    · rw [if_pos w] at q3 ⊢; exact zt_nrm hp q3
    · rw [if_neg w] at q3 ⊢; exact q3
  have hn : zt_NM LC LM' g2 m kd (p, v) (nI b) ((g2.2.1 77) m) := ⟨hN.1, hN.2.1, hN.2.2, hab, rfl⟩
  have hl : zt_G (zt_NM LC LM' g2) ((g2.2.1 76)) ((g2.2.1 78)) l (fun i => m + 1 ≤ i ∧ i < m') (nI m) ((g2.2.1 76) m) ((g2.2.1 77) m) := zt_Mm (fun i hi => hi.elim (fun z => z.elim) (fun z => z)) c2
  have r := zt_sub (by omega) hn hl (fun z => by omega) u _ _ (fun i hi z => by rcases hi with y | y; (have := (hP i y).2; omega); omega) a2 (fun i hi => ?_)
  · refine zt_Mm (fun i hi => ?_) r
    rcases hi with (z | z) | z
    · exact Or.inl z
    · exact Or.inr ⟨z.1, by omega⟩
    · exact Or.inr ⟨by omega, z.2⟩
  · rcases hi with y | y
    · have := (hP i y).2
      exact ⟨fun _ => ⟨hmono i this, (ka i this).2.2.2.2.1⟩, (ka i this).2.2.2.2.2.2⟩
    · have e : i = m := by omega
      subst e
      exact ⟨fun z => absurd rfl z, hbs⟩
theorem zt_Nfm {LC LM LM' : List (List Int32)} {g g' : zs_H} {i kd : Nat} {p v : Int32} (hp : LM <+: LM') (e1 : (g'.2.1 72) i = (g.2.1 72) i) (e2 : (g'.2.1 73) i = (g.2.1 73) i) (e3 : (g'.2.1 74) i = (g.2.1 74) i) (H : zt_Nf LC LM g i kd p v) : zt_Nf LC LM' g' i kd p v := by
  unfold zt_Nf at H ⊢
  rw [e1, e2, e3]
  refine ⟨H.1, H.2.1, ?_⟩
  have q3 := H.2.2
  by_cases w : zt_nk kd = true
  · rw [if_pos w] at q3 ⊢; exact zt_nrm hp q3
  · rw [if_neg w] at q3 ⊢; exact q3
/-- a node with what comes below it, its own fields unchanged -/
theorem zx_AP_n' {LC LM LM1 LM' : List (List Int32)} {g g1 g2 : zs_H} {b m m' kd : Nat} {p v : Int32} {l : zt_T} (hm : m < 33500) (hm' : m + 1 ≤ m') (hb : b < m) (a : zx_AP LC LM LM1 b m (m + 1) (zt_n kd p v .leaf) g g1) (hp : LM1 <+: LM') (h1 : (g1.2.1 76) m = -1) (h2 : (g1.2.1 77) m = -1) (c : zx_AP LC LM1 LM' m (m + 1) m' l g1 g2) (hN : zt_Nf LC LM1 g1 m kd p v) (hab : (g1.2.1 75) m = nI b) (h6 : (g1.2.1 77) b = nI m) : zx_AP LC LM LM' b m m' (zt_n kd p v l) g g2 := by
  obtain ⟨c1, c2⟩ := c (fun _ => False) .leaf (fun i z => z.elim) ⟨h1, h2⟩
  obtain ⟨k0, k1, k2, k3, k4, k5⟩ := c1
  exact zx_AP_n hm hm' hb a hp h1 h2 c (zt_Nfm hp k1 k2 k3 hN) (k4.trans hab) h6 k0 k5
