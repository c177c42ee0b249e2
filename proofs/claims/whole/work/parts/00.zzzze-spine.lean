/-! The judge: how the model looks at a left spine. -/
/-- what a look at k leaves, on the way up to n -/
def yb_lk (D' : Nat) (Q : Nat → Prop) (sp : Nat) (g : zs_H) (k : Nat) (g' : zs_H) : Prop := ∀ n N, n < 33500 → ¬ Q n → sp < N → (¬ (g'.1 68 29) = 0 → f_Mo_look_L2 (f_Mo_look D') (f_Mo_lookAlone D') N g (nI n) (nI k) = some g') ∧ ((g'.1 68 29) = 0 → ∃ N2, zF ≤ N2 + sp ∧ f_Mo_look_L2 (f_Mo_look D') (f_Mo_lookAlone D') N g (nI n) (nI k) = f_Mo_look_L28 (f_Mo_look D') N2 g' (nI n) (nI k))
section YBL
variable {D' sp k k1 k2 km : Nat} {Q Q1 : Nat → Prop} {g g1 g2 g3 g' : zs_H}
theorem yb_lF {N : Nat} {x1 : Int32} {x2 : Int32} (h : ¬ (g.1 68 29) = 0) : f_Mo_look_L28 (f_Mo_look D') (N + 1) g x1 x2 = some g := by
  rw [zv_uL28]
  unfold f_Mo_look_28
  rw [if_neg h, ite_self]
theorem yb_lk0 (hk : k < 33500) (hkm : km < 100) (h35 : ¬ km = 35) (m1 : (g.2.1 72) k = nI km) (e : f_Mo_lookAlone D' g (nI k) = some g') : yb_lk D' Q sp g k g' := by
  intro n N hn hQ hN
  obtain ⟨N, rfl⟩ : ∃ z, N = z + 1 := ⟨N - 1, by omega⟩
  have e2 : f_Mo_look_L2 (f_Mo_look D') (f_Mo_lookAlone D') (N + 1) g (nI n) (nI k) = f_Mo_look_L28 (f_Mo_look D') zF g' (nI n) (nI k) := by
    rw [zv_uL2]
    unfold f_Mo_look_2
    rw [if_pos (zi_in (by omega) hk), nI_clamp (show k < 2147483648 by omega), m1, if_neg (fun z => h35 ((zc_eq (k := 35) (by decide) (by omega)).mp z)), e, Option.bind_some]
  refine ⟨fun z => ?_, fun z => ⟨zF, by omega, e2⟩⟩
  rw [e2, show zF = 18446744073709551615 + 1 from rfl]
  exact yb_lF z
theorem yb_lk1 (hk : k < 33500) (hQ : ¬ Q k) (hs : sp < 100000) (H : yb_lk D' Q sp g k g') : f_Mo_look (D' + 1) g (nI k) = some g' := by
  have hz := zF_big
  obtain ⟨a1, a2⟩ := H k zF hk hQ (by omega)
  show f_Mo_look_L2 (f_Mo_look D') (f_Mo_lookAlone D') zF g (nI k) (nI k) = _
  by_cases z : (g'.1 68 29) = 0
  · obtain ⟨N2, b1, b2⟩ := a2 z
    obtain ⟨N2, rfl⟩ : ∃ z, N2 = z + 1 := ⟨N2 - 1, by omega⟩
    rw [b2, zv_uL28]
    unfold f_Mo_look_28
    rw [if_pos rfl]
  · exact a1 z
theorem yb_lk35F (hk : k < 33500) (m1 : (g.2.1 72) k = 35) (m2 : (g.2.1 76) k = nI k1) (hQ : ∀ j, Q1 j → Q j) (H : yb_lk D' Q1 sp g k1 g1) (J : ¬ (g1.1 68 29) = 0) : yb_lk D' Q (sp + 1) g k g1 := by
  intro n N hn hQn hN
  obtain ⟨N, rfl⟩ : ∃ z, N = z + 1 := ⟨N - 1, by omega⟩
  have e2 : f_Mo_look_L2 (f_Mo_look D') (f_Mo_lookAlone D') (N + 1) g (nI n) (nI k) = f_Mo_look_L2 (f_Mo_look D') (f_Mo_lookAlone D') N g (nI n) (nI k1) := by
    rw [zv_uL2]
    unfold f_Mo_look_2
    rw [if_pos (zi_in (by omega) hk), nI_clamp (show k < 2147483648 by omega), m1, if_pos rfl, m2]
  exact ⟨fun _ => by rw [e2]; exact (H n N hn (fun z => hQn (hQ _ z)) (by omega)).1 J, fun z => absurd z J⟩
theorem yb_lk35 (hk : k < 33500) (hk1 : k1 < 33500) (hs : sp < 100000) (m1 : (g.2.1 72) k = 35) (m2 : (g.2.1 76) k = nI k1) (hQ : ∀ j, Q1 j → Q j) (hQ1 : Q k1) (H : yb_lk D' Q1 sp g k1 g1) (J : (g1.1 68 29) = 0) (m3 : (g1.2.1 75) k1 = nI k) (m4 : (g1.2.1 77) k = nI k2) (e2 : f_Mo_look D' g1 (nI k2) = some g2) (e3 : (¬ (g2.1 68 29) = 0 ∧ g' = g2) ∨ ((g2.1 68 29) = 0 ∧ f_Mo_lookAtExpressions g2 (nI k) = some g')) : yb_lk D' Q (sp + 1) g k g' := by
  have hz := zF_big
  intro n N hn hQn hN
  obtain ⟨N, rfl⟩ : ∃ z, N = z + 1 := ⟨N - 1, by omega⟩
  obtain ⟨N2, b1, b2⟩ := (H n N hn (fun z => hQn (hQ _ z)) (by omega)).2 J
  obtain ⟨N2, rfl⟩ : ∃ z, N2 = z + 1 + 1 := ⟨N2 - 2, by omega⟩
  have hne : ¬ nI k1 = nI n := fun z => hQn (by rw [← (nI_eq (by omega) (by omega)).mp z]; exact hQ1)
  have e5 : f_Mo_look_L2 (f_Mo_look D') (f_Mo_lookAlone D') (N + 1) g (nI n) (nI k) = f_Mo_look_L28 (f_Mo_look D') (N2 + 1) g' (nI n) (nI k) := by
    rw [zv_uL2]
    unfold f_Mo_look_2
    rw [if_pos (zi_in (by omega) hk), nI_clamp (show k < 2147483648 by omega), m1, if_pos rfl, m2, b2, zv_uL28]
    unfold f_Mo_look_28
    rw [if_neg hne, if_pos J, if_pos (zi_in (by omega) hk1), nI_clamp (show k1 < 2147483648 by omega), m3, if_pos (zi_in (by omega) hk), nI_clamp (show k < 2147483648 by omega), m4, e2, Option.bind_some]
    rcases e3 with ⟨z1, z2⟩ | ⟨z1, z2⟩
    · rw [if_neg z1, z2]
    · rw [if_pos z1, z2, Option.bind_some]
  refine ⟨fun z => ?_, fun z => ⟨N2 + 1, by omega, e5⟩⟩
  rw [e5]
  exact yb_lF z
end YBL
