/-! The coder: how the model tells jumps where to go. -/
/-- jumps that wait -/
def yM_st (A : Nat → Int32) (s w : Nat) : List Nat → Prop
  | [] => True
  | j :: js => (A (w + js.length) = nI (j - s) ∧ s ≤ j ∧ j < 100000000) ∧ yM_st A s w js
section YA
variable {g g1 g' : zs_H} {n s u v : Nat} {M : List yJ} {H : List Nat}
theorem yM_stf {A A' : Nat → Int32} {s w : Nat} : ∀ js : List Nat, (∀ k, k < w + js.length → A' k = A k) → yM_st A s w js → yM_st A' s w js := by
  intro js
  induction js with
  | nil => intro _ _; trivial
  | cons j js ih =>
    intro e ⟨⟨a1, a2, a3⟩, b⟩
    have hl : (j :: js).length = js.length + 1 := rfl
    exact ⟨⟨by rw [e _ (by omega)]; exact a1, a2, a3⟩, ih (fun k hk => e k (by omega)) b⟩
theorem yM_sta {A : Nat → Int32} {s w : Nat} : ∀ js ks : List Nat, yM_st A s (w + ks.length) js → yM_st A s w ks → yM_st A s w (js ++ ks) := by
  intro js
  induction js with
  | nil => intro ks _ B; exact B
  | cons j js ih =>
    intro ks ⟨⟨a1, a2, a3⟩, b⟩ B
    refine ⟨⟨?_, a2, a3⟩, ih ks b B⟩
    show A (w + (js ++ ks).length) = _
    rw [List.length_append, show w + (js.length + ks.length) = w + ks.length + js.length by omega]
    exact a1
theorem yM_here (c : yM_c g n s u v) : f_Mo_here g = some (nI (n - s)) := by
  obtain ⟨⟨c1, c2⟩, ⟨c3, c4, c5⟩, _⟩ := c
  unfold f_Mo_here
  rw [c3, if_pos (zi_in (by omega) (by omega)), nI_clamp (show u < 2147483648 by omega), c5, c1, zi_sub c2]
/-- one jump is told where to go -/
def yM_am (T : Int32) (j : Nat) (g g' : zs_H) : Prop := zfr [] [105, 106] [] g g' ∧ (∀ i, ¬ i = j → (g'.2.1 105) i = (g.2.1 105) i ∧ (g'.2.1 106) i = (g.2.1 106) i) ∧ (j < 4000 → if (g.2.1 104) j = 13 then (g'.2.1 106) j = T ∧ (g'.2.1 105) j = (g.2.1 105) j else (g'.2.1 105) j = T ∧ (g'.2.1 106) j = (g.2.1 106) j)
theorem yM_aim {j : Nat} (T : Int32) (c : yM_c g n s u v) (hs : s ≤ j) (hj : j < 100000000) : ∃ g', f_Mo_aim g (nI (j - s)) T = some g' ∧ yM_am T j g g' := by
  obtain ⟨⟨c1, c2⟩, ⟨c3, c4, c5⟩, _⟩ := c
  unfold f_Mo_aim f_Mo_aim_40
  rw [c3, if_pos (zi_in (by omega) (by omega)), nI_clamp (show u < 2147483648 by omega), c5, nI_add, show s + (j - s) = j by omega]
  by_cases z : j < 4000
  · rw [if_neg (mt (zc_le (k := 4000) (by decide) (by omega)).mp (by omega)), if_pos (zi_in (by omega) z)]
    simp only [nI_clamp (show j < 2147483648 by omega), if_pos (zi_in (show j < 2147483648 by omega) z)]
    by_cases w : (g.2.1 104) j = 13
    · rw [if_pos w]
      refine ⟨_, rfl, zfr_M (by decide) zfr_rfl, fun i hi => ⟨?_, ?_⟩, fun _ => ?_⟩
      · rw [zu_MM, if_neg (fun q => absurd q.1 (by decide))]
      · rw [zu_MM, if_neg (fun q => hi q.2)]
      · rw [if_pos w]
        exact ⟨by rw [zu_MM, if_pos ⟨rfl, rfl⟩], by rw [zu_MM, if_neg (fun q => absurd q.1 (by decide))]⟩
    · rw [if_neg w, if_neg (mt (zc_le (k := 4000) (by decide) (by omega)).mp (by omega))]
      refine ⟨_, rfl, zfr_M (by decide) zfr_rfl, fun i hi => ⟨?_, ?_⟩, fun _ => ?_⟩
      · rw [zu_MM, if_neg (fun q => hi q.2)]
      · rw [zu_MM, if_neg (fun q => absurd q.1 (by decide))]
      · rw [if_neg w]
        exact ⟨by rw [zu_MM, if_pos ⟨rfl, rfl⟩], by rw [zu_MM, if_neg (fun q => absurd q.1 (by decide))]⟩
  · rw [if_pos ((zc_le (k := 4000) (by decide) (by omega)).mpr (by omega)), if_pos ((zc_le (k := 4000) (by decide) (by omega)).mpr (by omega))]
    exact ⟨g, rfl, zfr_rfl, fun _ _ => ⟨rfl, rfl⟩, fun q => absurd q z⟩
/-- many are -/
def yM_aj (T : Int32) (js : List Nat) (g g' : zs_H) : Prop := (∀ a, ¬ a ∈ [105, 106] → g'.2.1 a = g.2.1 a) ∧ g'.2.2 = g.2.2 ∧ (∀ i, ¬ i ∈ js → (g'.2.1 105) i = (g.2.1 105) i ∧ (g'.2.1 106) i = (g.2.1 106) i) ∧ ∀ j, j ∈ js → j < 4000 → if (g.2.1 104) j = 13 then (g'.2.1 106) j = T ∧ (g'.2.1 105) j = (g.2.1 105) j else (g'.2.1 105) j = T ∧ (g'.2.1 106) j = (g.2.1 106) j
theorem yM_aj0 {T : Int32} : yM_aj T [] g g := ⟨fun _ _ => rfl, rfl, fun _ _ => ⟨rfl, rfl⟩, fun j hj => by cases hj⟩
theorem yM_ajc {T : Int32} {j : Nat} {js : List Nat} {k k2 w : Nat} {x : Int32} (hj : ¬ j ∈ js) (A : yM_am T j (zs_uF g k k2 x) g1) (B : yM_aj T js g1 g') : yM_aj T (j :: js) g g' := by
  obtain ⟨a1, a2, a3⟩ := A
  obtain ⟨b1, b2, b3, b4⟩ := B
  have e72 : (g1.2.1 104) = (g.2.1 104) := a1.2.1 _ (by decide)
  refine ⟨fun a ha => (b1 a ha).trans (a1.2.1 a ha), b2.trans (funext fun a => a1.2.2 a List.not_mem_nil), fun i hi => ?_, fun i hi h4 => ?_⟩
  · have n1 : ¬ i = j := fun q => hi (List.mem_cons.mpr (.inl q))
    have n2 : ¬ i ∈ js := fun q => hi (List.mem_cons.mpr (.inr q))
    exact ⟨(b3 i n2).1.trans (a2 i n1).1, (b3 i n2).2.trans (a2 i n1).2⟩
  · by_cases z : i = j
    · subst z
      rw [(b3 i hj).1, (b3 i hj).2]
      exact a3 h4
    · have hm : i ∈ js := (List.mem_cons.mp hi).resolve_left z
      have := b4 i hm h4
      rw [e72, (a2 i z).1, (a2 i z).2] at this
      exact this
/-- the ends of a choice -/
theorem yM_pop {w m0 : Nat} : ∀ (js : List Nat) (g : zs_H) (N : Nat), yM_c g n s u v → (g.1 68 66) = nI (w + js.length) → w + js.length ≤ 8400 → yM_st ((g.2.1 110)) s w js → js.Nodup → js.length < N → ∃ g', f_Mo_choiceCode_L174 N g (nI w) = some g' ∧ yM_aj (nI (n - s)) js g g' ∧ (g'.1 68 66) = nI w ∧ (∀ a b, ¬ (a, b) = (68, 66) → g'.1 a b = g.1 a b) := by
  intro js
  induction js with
  | nil =>
    intro g N c hw _ _ _ hN
    obtain ⟨N, rfl⟩ : ∃ z, N = z + 1 := ⟨N - 1, by omega⟩
    refine ⟨g, ?_, yM_aj0, hw, fun _ _ _ => rfl⟩
    show f_Mo_choiceCode_174 (f_Mo_choiceCode_L174 N) g (nI w) = _
    unfold f_Mo_choiceCode_174
    rw [hw, if_pos (show nI (w + ([] : List Nat).length) ≤ nI w from Int32.le_refl _)]
  | cons j js ih =>
    intro g N c hw h84 ⟨⟨s1, s2, s3⟩, S⟩ nd hN
    have hl : (j :: js).length = js.length + 1 := rfl
    obtain ⟨N, rfl⟩ : ∃ z, N = z + 1 := ⟨N - 1, by omega⟩
    obtain ⟨nj, nd⟩ := List.nodup_cons.mp nd
    have c1 : yM_c (zs_uF g 68 66 (nI (w + js.length))) n s u v := c
    obtain ⟨g1, a1, a2⟩ := yM_aim (nI (n - s)) c1 s2 s3
    have f1 : ∀ a b, g1.1 a b = (zs_uF g 68 66 (nI (w + js.length))).1 a b := fun a b => a2.1.1 a b List.not_mem_nil
    have c2 : yM_c g1 n s u v := by
      obtain ⟨⟨q1, q2⟩, ⟨q3, q4, q5⟩, q6, q7⟩ := c1
      exact ⟨⟨(f1 _ _).trans q1, q2⟩, ⟨(f1 _ _).trans q3, q4, by rw [a2.1.2.1 _ (by decide)]; exact q5⟩, (f1 _ _).trans q6, (f1 _ _).trans q7⟩
    obtain ⟨g', b1, b2, b3, b4⟩ := ih g1 N c2 (by rw [f1]; rfl) (by omega) (by rw [a2.1.2.1 _ (by decide)]; exact S) nd (by omega)
    refine ⟨g', ?_, yM_ajc (w := 0) nj a2 b2, b3, fun a b hab => ?_⟩
    · show f_Mo_choiceCode_174 (f_Mo_choiceCode_L174 N) g (nI w) = _
      unfold f_Mo_choiceCode_174
      rw [hw, if_neg (mt (nI_leI (by omega) (by omega)).mp (by omega)), zc_sb (k := 1) (by omega), show w + (j :: js).length - OfNat.ofNat 1 = w + js.length from by show w + (js.length + 1) - 1 = _; omega, if_pos (zi_in (by omega) (by omega)), nI_clamp (show w + js.length < 2147483648 by omega), yM_here c1, Option.bind_some, s1, a1, Option.bind_some]
      exact b1
    · rw [b4 a b hab, f1, zu_FF, if_neg (fun q => hab (by rw [q.1, q.2]))]
/-- the EXITs of a loop -/
theorem yM_popx {w : Nat} : ∀ (js : List Nat) (g : zs_H) (N : Nat), yM_c g n s u v → (g.1 68 68) = nI (w + js.length) → w + js.length ≤ 4000 → yM_st ((g.2.1 111)) s w js → js.Nodup → js.length < N → ∃ g', f_Mo_loopCode_L235 N g (nI w) = some (zs_uF g' 68 64 (nI v - 1)) ∧ yM_aj (nI (n - s)) js g g' ∧ (g'.1 68 68) = nI w ∧ (∀ a b, ¬ (a, b) = (68, 68) → g'.1 a b = g.1 a b) := by
  intro js
  induction js with
  | nil =>
    intro g N c hw _ _ _ hN
    obtain ⟨N, rfl⟩ : ∃ z, N = z + 1 := ⟨N - 1, by omega⟩
    refine ⟨g, ?_, yM_aj0, hw, fun _ _ _ => rfl⟩
    show f_Mo_loopCode_235 (f_Mo_loopCode_L235 N) g (nI w) = _
    unfold f_Mo_loopCode_235
    rw [hw, if_pos (show nI (w + ([] : List Nat).length) ≤ nI w from Int32.le_refl _), c.2.2.1]
  | cons j js ih =>
    intro g N c hw h84 ⟨⟨s1, s2, s3⟩, S⟩ nd hN
    have hl : (j :: js).length = js.length + 1 := rfl
    obtain ⟨N, rfl⟩ : ∃ z, N = z + 1 := ⟨N - 1, by omega⟩
    obtain ⟨nj, nd⟩ := List.nodup_cons.mp nd
    have c1 : yM_c (zs_uF g 68 68 (nI (w + js.length))) n s u v := c
    obtain ⟨g1, a1, a2⟩ := yM_aim (nI (n - s)) c1 s2 s3
    have f1 : ∀ a b, g1.1 a b = (zs_uF g 68 68 (nI (w + js.length))).1 a b := fun a b => a2.1.1 a b List.not_mem_nil
    have c2 : yM_c g1 n s u v := by
      obtain ⟨⟨q1, q2⟩, ⟨q3, q4, q5⟩, q6, q7⟩ := c1
      exact ⟨⟨(f1 _ _).trans q1, q2⟩, ⟨(f1 _ _).trans q3, q4, by rw [a2.1.2.1 _ (by decide)]; exact q5⟩, (f1 _ _).trans q6, (f1 _ _).trans q7⟩
    obtain ⟨g', b1, b2, b3, b4⟩ := ih g1 N c2 (by rw [f1]; rfl) (by omega) (by rw [a2.1.2.1 _ (by decide)]; exact S) nd (by omega)
    refine ⟨g', ?_, yM_ajc (w := 0) nj a2 b2, b3, fun a b hab => ?_⟩
    · show f_Mo_loopCode_235 (f_Mo_loopCode_L235 N) g (nI w) = _
      unfold f_Mo_loopCode_235
      rw [hw, if_neg (mt (nI_leI (by omega) (by omega)).mp (by omega)), zc_sb (k := 1) (by omega), show w + (j :: js).length - OfNat.ofNat 1 = w + js.length from by show w + (js.length + 1) - 1 = _; omega, if_pos (zi_in (by omega) (by omega)), nI_clamp (show w + js.length < 2147483648 by omega), yM_here c1, Option.bind_some, s1, a1, Option.bind_some]
      exact b1
    · rw [b4 a b hab, f1, zu_FF, if_neg (fun q => hab (by rw [q.1, q.2]))]
/-- jumps of a row go to its end -/
theorem yM_join {js : List Nat} {fs : List (Nat × Nat)} (hfs : ∀ x, x ∈ fs → x ∈ yM_g) (A : yM_H s n M H g g1) (J : yM_aj (nI (n + M.length - s)) js g1 g') (F : ∀ a b, ¬ (a, b) ∈ fs → g'.1 a b = g1.1 a b) (hc : (g'.1 68 56) = (g1.1 68 56)) (hs : s ≤ n) (K : n + M.length ≤ 4000 → (∀ j, j ∈ js → n ≤ j) ∧ ∀ k i, M[k]? = some i → n + k ∈ js → i.1.2.1 = nI (n + M.length) ∧ (i.1.1 = 10 ∨ i.1.1 = 11 ∨ i.1.1 = 13)) : ∀ H', (∀ j, j ∈ H → j ∈ js ∨ j ∈ H') → yM_H s n M H' g g' := by
  intro H' hH'
  obtain ⟨a1, a2, a3⟩ := A
  obtain ⟨j1, j2, j3, j4⟩ := J
  refine ⟨hc.trans a1, zfr_trans a2 ⟨fun a b hab => F a b (fun q => hab (hfs _ q)), fun a ha => j1 a (fun q => ha (by
    rcases List.mem_cons.mp q with q | q
    · rw [q]; decide
    · rw [List.mem_singleton.mp q]; decide)), fun a _ => by rw [j2]⟩, fun hn => ?_⟩
  obtain ⟨k1, k2⟩ := K hn
  obtain ⟨b1, b2⟩ := a3 hn
  refine ⟨fun j hj a ha => ?_, fun k i ei => ?_⟩
  · rw [← b1 j hj a ha]
    have nj : ¬ j ∈ js := fun q => by have := k1 j q; omega
    by_cases w : a = 105
    · subst w; exact (j3 j nj).1
    · by_cases w2 : a = 106
      · subst w2; exact (j3 j nj).2
      · rw [j1 a (fun q => by
          rcases List.mem_cons.mp q with q | q
          · exact w q
          · exact w2 (List.mem_singleton.mp q))]
  · obtain ⟨c1, c2⟩ := b2 k i ei
    obtain ⟨m1, m2, m3, m4⟩ := c1
    have hk : k < M.length := by
      obtain ⟨z, _⟩ := List.getElem?_eq_some_iff.mp ei
      exact z
    have eo : (g'.2.1 104) (n + k) = nI i.1.1 := by rw [j1 _ (by decide)]; exact m1
    by_cases w : n + k ∈ js
    · obtain ⟨q1, q2⟩ := k2 k i ei w
      have r := j4 (n + k) w (by omega)
      rw [m1] at r
      have ea : i.1.2.1 - nI s = nI (n + M.length - s) := by rw [q1]; exact zi_sub (by omega)
      by_cases z : i.1.1 = 13
      · rw [if_pos (by rw [z]; rfl)] at r
        rw [if_pos z] at m4
        refine ⟨⟨eo, by rw [j1 _ (by decide)]; exact m2, by rw [j1 _ (by decide)]; exact m3, ?_⟩, fun _ => ?_⟩
        · rw [if_pos z, r.2]; exact m4
        · unfold yM_t yM_B
          rw [if_pos z, if_pos z, r.1, ea]
      · have h10 : i.1.1 = 10 ∨ i.1.1 = 11 := by omega
        rw [if_neg (fun q => z (by rcases h10 with e | e <;> rw [e] at q <;> exact absurd q (by decide)))] at r
        rw [if_neg z] at m4
        refine ⟨⟨eo, by rw [j1 _ (by decide)]; exact m2, by rw [j1 _ (by decide)]; exact m3, ?_⟩, fun _ => ?_⟩
        · rw [if_neg z, r.2]; exact m4
        · unfold yM_t yM_A
          rw [if_neg z, if_pos (by omega), r.1, ea]
    · obtain ⟨q1, q2⟩ := j3 _ w
      refine ⟨⟨eo, by rw [j1 _ (by decide)]; exact m2, by rw [j1 _ (by decide)]; exact m3, ?_⟩, fun p => ?_⟩
      · rw [q1, q2]; exact m4
      · have := c2 (fun x => (hH' _ x).elim w p)
        unfold yM_t at this ⊢
        rw [q1, q2]; exact this
end YA
