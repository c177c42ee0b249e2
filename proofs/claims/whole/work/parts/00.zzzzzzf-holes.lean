/-! The coder: code with jumps whose ends are not known yet. -/
/-- all of an instruction but where it jumps to -/
def yC_m0 (h : zs_H) (j : Nat) (i : yI) : Prop := (h.2.1 42) j = nI i.1 ∧ (h.2.1 44) j = i.2.2.1 ∧ (h.2.1 45) j = i.2.2.2
def yM_m0 (s : Nat) (g : zs_H) (j : Nat) (i : yJ) : Prop := (g.2.1 104) j = nI i.1.1 ∧ (g.2.1 107) j = i.1.2.2.2 ∧ (g.2.1 108) j = nI i.2 ∧ (if i.1.1 = 13 then (g.2.1 105) j = yM_A s i.1 else (g.2.1 106) j = yM_B s i.1)
def yM_t (s : Nat) (g : zs_H) (j : Nat) (i : yJ) : Prop := if i.1.1 = 13 then (g.2.1 106) j = yM_B s i.1 else (g.2.1 105) j = yM_A s i.1
abbrev yC_g : List (Nat × Nat) := [(41, 5), (47, 4), (47, 6)]
abbrev yM_g : List (Nat × Nat) := [(68, 56), (68, 64), (68, 66), (68, 68)]
abbrev yM_x : List Nat := [104, 105, 106, 107, 108, 110, 111]
/-- L has been laid down from n on, with holes at H -/
def yC_H (n : Nat) (L : List yI) (H : List Nat) (h h' : zs_H) : Prop := (h'.1 41 5) = nI (n + L.length) ∧ zfr yC_g yC_w [] h h' ∧ (n + L.length ≤ 4000 → (∀ j, j < n → ∀ a, a ∈ yC_w → h'.2.1 a j = h.2.1 a j) ∧ ∀ k i, L[k]? = some i → yC_m0 h' (n + k) i ∧ (¬ n + k ∈ H → (h'.2.1 43) (n + k) = i.2.1))
def yM_H (s n : Nat) (L : List yJ) (H : List Nat) (g g' : zs_H) : Prop := (g'.1 68 56) = nI (n + L.length) ∧ zfr yM_g yM_x [] g g' ∧ (n + L.length ≤ 4000 → (∀ j, j < n → ∀ a, a ∈ yM_w → g'.2.1 a j = g.2.1 a j) ∧ ∀ k i, L[k]? = some i → yM_m0 s g' (n + k) i ∧ (¬ n + k ∈ H → yM_t s g' (n + k) i))
section YH
variable {n s : Nat} {L L1 L2 : List yI} {M M1 M2 : List yJ} {H H1 H2 : List Nat} {h h1 h2 h' g g1 g2 g' : zs_H}
theorem yC_EH (E : yC_E n L h h') : yC_H n L [] h h' := by
  obtain ⟨e1, e2, e3⟩ := E
  refine ⟨e1, zfr_w e2 (by decide) (by decide) (by decide), fun hn => ⟨(e3 hn).1, fun k i ei => ?_⟩⟩
  obtain ⟨m1, m2, m3, m4⟩ := (e3 hn).2 k i ei
  exact ⟨⟨m1, m3, m4⟩, fun _ => m2⟩
theorem yM_EH (E : yM_E s n M g g') : yM_H s n M [] g g' := by
  obtain ⟨e1, e2, e3⟩ := E
  refine ⟨e1, zfr_w e2 (by decide) (by decide) (by decide), fun hn => ⟨(e3 hn).1, fun k i ei => ?_⟩⟩
  obtain ⟨m1, m2, m3, m4, m5⟩ := (e3 hn).2 k i ei
  refine ⟨⟨m1, m4, m5, ?_⟩, fun _ => ?_⟩
  · split
    · exact m2
    · exact m3
  · unfold yM_t
    split
    · exact m3
    · exact m2
theorem yC_m0f {j : Nat} {i : yI} (e : ∀ a, a ∈ yC_w → h'.2.1 a j = h.2.1 a j) (m : yC_m0 h j i) : yC_m0 h' j i := by
  obtain ⟨m1, m2, m3⟩ := m
  exact ⟨by rw [e _ (by decide)]; exact m1, by rw [e _ (by decide)]; exact m2, by rw [e _ (by decide)]; exact m3⟩
theorem yM_m0f {j : Nat} {i : yJ} (e : ∀ a, a ∈ yM_w → g'.2.1 a j = g.2.1 a j) (m : yM_m0 s g j i) : yM_m0 s g' j i := by
  obtain ⟨m1, m2, m3, m4⟩ := m
  refine ⟨by rw [e _ (by decide)]; exact m1, by rw [e _ (by decide)]; exact m2, by rw [e _ (by decide)]; exact m3, ?_⟩
  rw [e 105 (by decide), e 106 (by decide)]; exact m4
theorem yM_tf {j : Nat} {i : yJ} (e : ∀ a, a ∈ yM_w → g'.2.1 a j = g.2.1 a j) (m : yM_t s g j i) : yM_t s g' j i := by
  unfold yM_t at m ⊢
  rw [e 105 (by decide), e 106 (by decide)]; exact m
theorem yC_Hap (A : yC_H n L1 H1 h h1) (B : yC_H (n + L1.length) L2 H2 h1 h2) : yC_H n (L1 ++ L2) (H1 ++ H2) h h2 := by
  obtain ⟨a1, a2, a3⟩ := A
  obtain ⟨b1, b2, b3⟩ := B
  refine ⟨by rw [b1, List.length_append, Nat.add_assoc], zfr_trans a2 b2, fun hn => ?_⟩
  rw [List.length_append] at hn
  obtain ⟨c1, c2⟩ := a3 (by omega)
  obtain ⟨d1, d2⟩ := b3 (by omega)
  refine ⟨fun j hj a ha => (d1 j (by omega) a ha).trans (c1 j hj a ha), fun k i e => ?_⟩
  rw [List.getElem?_append] at e
  by_cases z : k < L1.length
  · rw [if_pos z] at e
    obtain ⟨x1, x2⟩ := c2 k i e
    have ee : ∀ a, a ∈ yC_w → h2.2.1 a (n + k) = h1.2.1 a (n + k) := fun a ha => d1 _ (by omega) a ha
    exact ⟨yC_m0f ee x1, fun q => (ee _ (by decide)).trans (x2 (fun w => q (List.mem_append.mpr (.inl w))))⟩
  · rw [if_neg z] at e
    have := d2 _ i e
    rw [show n + L1.length + (k - L1.length) = n + k by omega] at this
    exact ⟨this.1, fun q => this.2 (fun w => q (List.mem_append.mpr (.inr w)))⟩
theorem yM_Hap (A : yM_H s n M1 H1 g g1) (B : yM_H s (n + M1.length) M2 H2 g1 g2) : yM_H s n (M1 ++ M2) (H1 ++ H2) g g2 := by
  obtain ⟨a1, a2, a3⟩ := A
  obtain ⟨b1, b2, b3⟩ := B
  refine ⟨by rw [b1, List.length_append, Nat.add_assoc], zfr_trans a2 b2, fun hn => ?_⟩
  rw [List.length_append] at hn
  obtain ⟨c1, c2⟩ := a3 (by omega)
  obtain ⟨d1, d2⟩ := b3 (by omega)
  refine ⟨fun j hj a ha => (d1 j (by omega) a ha).trans (c1 j hj a ha), fun k i e => ?_⟩
  rw [List.getElem?_append] at e
  by_cases z : k < M1.length
  · rw [if_pos z] at e
    obtain ⟨x1, x2⟩ := c2 k i e
    have ee : ∀ a, a ∈ yM_w → g2.2.1 a (n + k) = g1.2.1 a (n + k) := fun a ha => d1 _ (by omega) a ha
    exact ⟨yM_m0f ee x1, fun q => yM_tf ee (x2 (fun w => q (List.mem_append.mpr (.inl w))))⟩
  · rw [if_neg z] at e
    have := d2 _ i e
    rw [show n + M1.length + (k - M1.length) = n + k by omega] at this
    exact ⟨this.1, fun q => this.2 (fun w => q (List.mem_append.mpr (.inr w)))⟩
theorem yC_Hm (A : yC_H n L H h h') (hH : ∀ j, j ∈ H → j ∈ H1) : yC_H n L H1 h h' := ⟨A.1, A.2.1, fun hn => ⟨(A.2.2 hn).1, fun k i e => ⟨((A.2.2 hn).2 k i e).1, fun q => ((A.2.2 hn).2 k i e).2 (fun w => q (hH _ w))⟩⟩⟩
theorem yM_Hm (A : yM_H s n M H g g') (hH : ∀ j, j ∈ H → j ∈ H1) : yM_H s n M H1 g g' := ⟨A.1, A.2.1, fun hn => ⟨(A.2.2 hn).1, fun k i e => ⟨((A.2.2 hn).2 k i e).1, fun q => ((A.2.2 hn).2 k i e).2 (fun w => q (hH _ w))⟩⟩⟩
/-- a row of jumps, each of which tells the one before it -/
def yC_ch (h : zs_H) (x0 : Int32) : Nat → List Nat → Int32 → Prop
  | _, [], x => x = x0
  | m, j :: js, x => j < m ∧ x = nI j ∧ yC_ch h x0 j js ((h.2.1 43) j)
theorem yC_chf {x0 : Int32} : ∀ (js : List Nat) (m : Nat) (x : Int32), (∀ j, j < m → (h'.2.1 43) j = (h.2.1 43) j) → yC_ch h x0 m js x → yC_ch h' x0 m js x := by
  intro js
  induction js with
  | nil => intro m x _ H; exact H
  | cons j js ih =>
    intro m x e ⟨h1, h2, h3⟩
    exact ⟨h1, h2, by rw [e j h1]; exact ih j _ (fun i hi => e i (by omega)) h3⟩
theorem yC_chm {x0 x : Int32} {js : List Nat} {m m' : Nat} (hm : m ≤ m') (H : yC_ch h x0 m js x) : yC_ch h x0 m' js x := by
  cases js with
  | nil => exact H
  | cons j js => exact ⟨by have := H.1; omega, H.2⟩
theorem yC_cha {x0 : Int32} : ∀ (js ks : List Nat) (m m' : Nat) (x y : Int32), (∀ j, j ∈ js → m' ≤ j) → yC_ch h y m js x → yC_ch h x0 m' ks y → m' ≤ m → yC_ch h x0 m (js ++ ks) x := by
  intro js
  induction js with
  | nil => intro ks m m' x y _ A B hm; rw [show x = y from A]; exact yC_chm hm B
  | cons j js ih =>
    intro ks m m' x y hj ⟨a1, a2, a3⟩ B hm
    exact ⟨a1, a2, ih ks j m' _ y (fun i hi => hj i (List.mem_cons.mpr (.inr hi))) a3 B (hj j (List.mem_cons.mpr (.inl rfl)))⟩
theorem yC_chl : ∀ (js : List Nat) (m : Nat) (x0 x : Int32), yC_ch h x0 m js x → js.length ≤ m ∧ ∀ j, j ∈ js → j < m := by
  intro js
  induction js with
  | nil => intro m x0 x _; exact ⟨Nat.zero_le _, fun j hj => by cases hj⟩
  | cons j js ih =>
    intro m x0 x ⟨h1, _, h3⟩
    obtain ⟨a, b⟩ := ih j _ _ h3
    refine ⟨by show js.length + 1 ≤ m; omega, fun i hi => ?_⟩
    rcases List.mem_cons.mp hi with e | e
    · omega
    · have := b i e; omega
theorem yC_uj {N : Nat} {x y : Int32} : f_Cd_joinHere_L4 (N + 1) h x y = f_Cd_joinHere_4 (f_Cd_joinHere_L4 N) h x y := rfl
/-- all of them go to the next instruction -/
theorem yC_jh : ∀ (js : List Nat) (m t N : Nat) (h : zs_H) (x : Int32), yC_ch h (-1) m js x → m ≤ 4000 → t + js.length ≤ 4000 → js.length < N → ∃ h', f_Cd_joinHere_L4 N h x (nI t) = some h' ∧ zfr [] [43] [] h h' ∧ ∀ j, (h'.2.1 43) j = if j ∈ js then (h.1 41 5) else (h.2.1 43) j := by
  intro js
  induction js with
  | nil =>
    intro m t N h x H hm ht hN
    obtain ⟨N, rfl⟩ : ∃ z, N = z + 1 := ⟨N - 1, by omega⟩
    refine ⟨h, ?_, zfr_rfl, fun j => by simp⟩
    rw [yC_uj, show x = -1 from H]
    unfold f_Cd_joinHere_4
    rw [if_pos (show (-1 : Int32) < 0 by decide), ite_self]
  | cons j js ih =>
    intro m t N h x ⟨h1, h2, h3⟩ hm ht hN
    have ht' : t + (js.length + 1) ≤ 4000 := ht
    have hN' : js.length + 1 < N := hN
    obtain ⟨N, rfl⟩ : ∃ z, N = z + 1 := ⟨N - 1, by omega⟩
    have hj4 : j < 4000 := by omega
    have e0 : ∀ i, ((zs_uM h 43 j ((h.1 41 5))).2.1 43) i = if i = j then (h.1 41 5) else (h.2.1 43) i := fun i => by
      rw [zu_MM]
      by_cases z : i = j
      · rw [if_pos ⟨rfl, z⟩, if_pos z]
      · rw [if_neg (fun q => z q.2), if_neg z]
    obtain ⟨h', a1, a2, a3⟩ := ih j (t + 1) N (zs_uM h 43 j ((h.1 41 5))) ((h.2.1 43) j) (yC_chf (h := h) js j _ (fun i hi => by rw [e0, if_neg (by omega)]) h3) (by omega) (by omega) (by omega)
    refine ⟨h', ?_, zfr_trans (zfr_M (by decide) zfr_rfl) a2, fun i => ?_⟩
    · rw [yC_uj, h2]
      unfold f_Cd_joinHere_4
      rw [if_neg (mt (zc_le (k := 4000) (by decide) (by omega)).mp (by omega)), if_neg (nI_pos (by omega)), if_neg (mt (zc_le (k := 4000) (by decide) (by omega)).mp (by omega)), if_pos (zi_in (by omega) hj4), nI_clamp (show j < 2147483648 by omega), nI_1]
      exact a1
    · rw [a3 i, e0 i]
      show (if i ∈ js then (h.1 41 5) else _) = _
      by_cases z : i ∈ js
      · rw [if_pos z, if_pos (List.mem_cons.mpr (.inr z))]
      · rw [if_neg z]
        by_cases w : i = j
        · rw [if_pos w, if_pos (List.mem_cons.mpr (.inl w))]
        · rw [if_neg w, if_neg (fun q => (List.mem_cons.mp q).elim w z)]
/-- it ends in any case -/
theorem yC_jt : ∀ (u t N : Nat) (h : zs_H) (x : Int32), t + u = 4000 → u < N → ∃ h', f_Cd_joinHere_L4 N h x (nI t) = some h' ∧ zfr [] [43] [] h h' := by
  intro u
  induction u with
  | zero =>
    intro t N h x ht hN
    obtain ⟨N, rfl⟩ : ∃ z, N = z + 1 := ⟨N - 1, by omega⟩
    refine ⟨h, ?_, zfr_rfl⟩
    rw [yC_uj]
    unfold f_Cd_joinHere_4
    rw [if_pos ((zc_le (k := 4000) (by decide) (by omega)).mpr (by omega))]
  | succ u ih =>
    intro t N h x ht hN
    obtain ⟨N, rfl⟩ : ∃ z, N = z + 1 := ⟨N - 1, by omega⟩
    rw [yC_uj]
    unfold f_Cd_joinHere_4
    rw [if_neg (mt (zc_le (k := 4000) (by decide) (by omega)).mp (by omega))]
    by_cases z : x < 0
    · rw [if_pos z]; exact ⟨h, rfl, zfr_rfl⟩
    · rw [if_neg z]
      obtain ⟨j, hj⟩ : ∃ j, j = x.toNatClampNeg := ⟨_, rfl⟩
      have ex : x = nI j := by rw [hj]; exact (zi_nn z).symm
      have hjb : j < 2147483648 := by rw [hj]; exact Int32.toNatClampNeg_lt x
      rw [ex]
      by_cases w : j < 4000
      · rw [if_neg (mt (zc_le (k := 4000) (by decide) hjb).mp (by omega)), if_pos (zi_in hjb w), nI_clamp hjb, nI_1]
        obtain ⟨h', a1, a2⟩ := ih (t + 1) N (zs_uM h 43 j ((h.1 41 5))) ((h.2.1 43) j) (by omega) (by omega)
        exact ⟨h', a1, zfr_trans (zfr_M (by decide) zfr_rfl) a2⟩
      · rw [if_pos ((zc_le (k := 4000) (by decide) hjb).mpr (by omega))]
        exact ⟨h, rfl, zfr_rfl⟩
/-- jumps of a row L go to its end -/
theorem yC_join {js : List Nat} {x : Int32} (hn : n + L.length < 100000000) (A : yC_H n L H h h1) (K : n + L.length ≤ 4000 → yC_ch h1 (-1) (n + L.length) js x ∧ (∀ j, j ∈ js → n ≤ j) ∧ ∀ k i, L[k]? = some i → n + k ∈ js → i.2.1 = nI (n + L.length)) : ∃ h', f_Cd_joinHere h1 x = some h' ∧ zfr [] [43] [] h1 h' ∧ (n + L.length ≤ 4000 → ∀ j, ¬ j ∈ js → (h'.2.1 43) j = (h1.2.1 43) j) ∧ ∀ H', (∀ j, j ∈ H → j ∈ js ∨ j ∈ H') → yC_H n L H' h h' := by
  have hz := zF_big
  obtain ⟨a1, a2, a3⟩ := A
  unfold f_Cd_joinHere
  by_cases z : n + L.length ≤ 4000
  · obtain ⟨k1, k2, k3⟩ := K z
    obtain ⟨b1, b2⟩ := a3 z
    have hl := (yC_chl js _ _ _ k1).1
    obtain ⟨h', e1, e2, e3⟩ := yC_jh js _ 0 zF h1 x k1 z (by omega) (by omega)
    refine ⟨h', e1, e2, fun _ j hj => by rw [e3 j, if_neg hj], fun H' hH' => ⟨(e2.1 _ _ List.not_mem_nil).trans a1, zfr_trans a2 (zfr_w e2 (by decide) (by decide) (by decide)), fun _ => ⟨fun j hj a ha => ?_, fun k i ei => ?_⟩⟩⟩
    · rw [← b1 j hj a ha]
      by_cases w : a = 43
      · subst w
        rw [e3 j, if_neg (fun q => by have := k2 j q; omega)]
      · rw [e2.2.1 a (by simpa using w)]
    · obtain ⟨c1, c2⟩ := b2 k i ei
      refine ⟨?_, fun q => ?_⟩
      · obtain ⟨m1, m2, m3⟩ := c1
        exact ⟨by rw [e2.2.1 _ (by decide)]; exact m1, by rw [e2.2.1 _ (by decide)]; exact m2, by rw [e2.2.1 _ (by decide)]; exact m3⟩
      · rw [e3 (n + k)]
        by_cases w : n + k ∈ js
        · rw [if_pos w, a1, k3 k i ei w]
        · rw [if_neg w]
          exact c2 (fun p => (hH' _ p).elim w q)
  · obtain ⟨h', e1, e2⟩ := yC_jt 4000 0 zF h1 x (by omega) (by omega)
    exact ⟨h', e1, e2, fun q => absurd q z, fun H' _ => ⟨(e2.1 _ _ List.not_mem_nil).trans a1, zfr_trans a2 (zfr_w e2 (by decide) (by decide) (by decide)), fun q => absurd q z⟩⟩
end YH
theorem yC_chg {h h' : zs_H} {x0 : Int32} : ∀ (js : List Nat) (m : Nat) (x : Int32), (∀ j, j ∈ js → (h'.2.1 43) j = (h.2.1 43) j) → yC_ch h x0 m js x → yC_ch h' x0 m js x := by
  intro js
  induction js with
  | nil => intro m x _ H; exact H
  | cons j js ih =>
    intro m x e ⟨h1, h2, h3⟩
    exact ⟨h1, h2, by rw [e j (List.mem_cons.mpr (.inl rfl))]; exact ih j _ (fun i hi => e i (List.mem_cons.mpr (.inr hi))) h3⟩
/-- a jump whose end is not known -/
theorem yC_EHh {n o : Nat} {a a' b c : Int32} {h h' : zs_H} (E : yC_E n [(o, a, b, c)] h h') : yC_H n [(o, a', b, c)] [n] h h' := by
  obtain ⟨e1, e2, e3⟩ := E
  refine ⟨e1, zfr_w e2 (by decide) (by decide) (by decide), fun hn => ⟨(e3 hn).1, fun k i ei => ?_⟩⟩
  obtain ⟨rfl, rfl⟩ := yI_one ei
  obtain ⟨m1, m2, m3, m4⟩ := (e3 hn).2 0 _ rfl
  exact ⟨⟨m1, m3, m4⟩, fun w => absurd (show n + 0 ∈ [n] from List.mem_singleton.mpr rfl) w⟩
theorem yM_EHh {s n o v : Nat} {a a' b c : Int32} {g g' : zs_H} (ho : ¬ o = 13) (E : yM_E s n [((o, a, b, c), v)] g g') : yM_H s n [((o, a', b, c), v)] [n] g g' := by
  obtain ⟨e1, e2, e3⟩ := E
  refine ⟨e1, zfr_w e2 (by decide) (by decide) (by decide), fun hn => ⟨(e3 hn).1, fun k i ei => ?_⟩⟩
  obtain ⟨rfl, rfl⟩ := yI_one ei
  obtain ⟨m1, m2, m3, m4, m5⟩ := (e3 hn).2 0 _ rfl
  refine ⟨⟨m1, m4, m5, ?_⟩, fun w => absurd (show n + 0 ∈ [n] from List.mem_singleton.mpr rfl) w⟩
  unfold yM_B at m3 ⊢
  rw [if_neg ho] at m3 ⊢
  rw [if_neg ho]
  exact m3
theorem yM_EH13 {s n v : Nat} {a a' b c : Int32} {g g' : zs_H} (E : yM_E s n [((13, a, b, c), v)] g g') : yM_H s n [((13, a', b, c), v)] [n] g g' := by
  obtain ⟨e1, e2, e3⟩ := E
  refine ⟨e1, zfr_w e2 (by decide) (by decide) (by decide), fun hn => ⟨(e3 hn).1, fun k i ei => ?_⟩⟩
  obtain ⟨rfl, rfl⟩ := yI_one ei
  obtain ⟨m1, m2, m3, m4, m5⟩ := (e3 hn).2 0 _ rfl
  refine ⟨⟨m1, m4, m5, ?_⟩, fun w => absurd (show n + 0 ∈ [n] from List.mem_singleton.mpr rfl) w⟩
  have eA : ∀ z : Int32, yM_A s (13, z, b, c) = b := fun z => by
    unfold yM_A
    rw [if_neg (show ¬ ((13 : Nat) = 10 ∨ (13 : Nat) = 11 ∨ (13 : Nat) = 14) by decide), if_pos rfl]
  rw [if_pos rfl, eA]
  exact m2.trans (eA a)
