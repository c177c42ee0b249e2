/-! watch: the tables of a loaded text. -/
section ZWL
variable {h g h0 g0 : zs_H} {LC LM : List (List Int32)} {nb : Nat} {F X Y : Nat → Nat}
theorem zwt_mkQ (C : yk_cx LC LM nb F X Y h0 g0) (E : yL_E h0 g0 h g) (N : zn_C h LC) (LD : zwt_ld LC) : zwt_Q LC LM nb F h g := by
  have HS := C.1.1
  have HB := C.1.2.1
  have HN := C.1.2.2.1
  have hbd := fun b (hb : b < nb) => zv_bdM HB hb
  obtain ⟨S1, S2, S3, S4, S5, S6⟩ := HS
  obtain ⟨⟨B1, B2, B3⟩, ⟨V1, V2, V3⟩, _, BF, _, B6, _⟩ := HB
  obtain ⟨E1, E2, ⟨E3, E4, E5, E6, E7⟩, ⟨E8, E9, E10, E11⟩⟩ := E
  refine ⟨⟨S1, S3, LD, N, ?_⟩, ⟨B3, V3, BF⟩, fun b hb => ?_, fun v hv => ?_⟩
  · unfold zn_M
    rw [E8, E2 71 (by decide) (by decide), E2 70 (by decide) (by decide)]
    exact S6
  · rw [E1 23 (by decide) (by decide), E1 24 (by decide) (by decide), E2 90 (by decide) (by decide), E9, E10]
    exact ⟨(B6 b hb).1, (B6 b hb).2.1, (B6 b hb).2.2, hbd b hb⟩
  · rw [E1 28 (by decide) (by decide), E2 91 (by decide) (by decide)]
    exact HN.1 v hv
/-- a byte on the path is passed -/
theorem zwt_pas {T : Nat → Int32} {n a : Nat} (P : zwt_P T n a g) (c : Int32) : (a < n ∧ T a = c ∧ f_Mo_passes g c = some (1, zs_uF g 68 93 (nI (a + 1))) ∧ zwt_P T n (a + 1) (zs_uF g 68 93 (nI (a + 1)))) ∨ (¬ (a < n ∧ T a = c) ∧ f_Mo_passes g c = some (0, zs_uF g 68 93 (nI a)) ∧ zwt_P T n a (zs_uF g 68 93 (nI a))) := by
  obtain ⟨⟨h1, h2⟩, h3, h4, h5, h6⟩ := P
  unfold f_Mo_passes f_Mo_passes_28 f_Mo_passes_29 f_Mo_passes_44
  rw [h5, h6]
  have o0 : (0 : Int32) = 0 ∨ (0 : Int32) = 1 := .inl rfl
  have o1 : (1 : Int32) = 0 ∨ (1 : Int32) = 1 := .inr rfl
  have z0 : nI a + 0 = nI a := nI_add a 0
  have z1 : nI a + 1 = nI (a + 1) := nI_add a 1
  by_cases c1 : a < n
  · rw [if_neg (mt (nI_leI (by omega) (by omega)).mp (by omega)), if_pos (zi_in (by omega) (show a < 16384 by omega)), nI_clamp (by omega), h4 a c1]
    by_cases c2 : T a = c
    · rw [if_pos c2, if_neg (show ¬ (1 : Int32) = 0 by decide), if_pos o1, z1]
      exact .inl ⟨c1, c2, rfl, ⟨h1, by omega⟩, h3, h4, h5, rfl⟩
    · rw [if_neg c2, if_pos (show (0 : Int32) = 0 from rfl), if_pos o0, z0]
      exact .inr ⟨fun q => c2 q.2, rfl, ⟨h1, h2⟩, h3, h4, h5, rfl⟩
  · rw [if_pos ((nI_leI (by omega) (by omega)).mpr (by omega)), if_pos (show (0 : Int32) = 0 from rfl), if_pos o0, z0]
    exact .inr ⟨fun q => c1 q.1, rfl, ⟨h1, h2⟩, h3, h4, h5, rfl⟩
end ZWL
