/-! A text that was proved begins, on both sides. -/
/-- what stays of a judged state: the names, the plan -/
def yL_E (h0 g0 h g : zs_H) : Prop := (∀ a, 3 ≤ a → a ≤ 37 → h.2.1 a = h0.2.1 a) ∧ (∀ a, 70 ≤ a → a ≤ 102 → g.2.1 a = g0.2.1 a) ∧ ((h.1 2 5) = (h0.1 2 5) ∧ (h.1 20 17) = (h0.1 20 17) ∧ (h.1 20 18) = (h0.1 20 18) ∧ (h.1 20 19) = (h0.1 20 19) ∧ (h.1 20 20) = (h0.1 20 20)) ∧ ((g.1 68 3) = (g0.1 68 3) ∧ (g.1 68 33) = (g0.1 68 33) ∧ (g.1 68 41) = (g0.1 68 41) ∧ (g.1 68 55) = (g0.1 68 55))
abbrev yL_kF : List (Nat × Nat) := [(0, 1), (0, 2), (0, 3), (0, 4), (41, 5), (41, 6), (47, 3), (47, 4), (47, 5), (47, 6), (47, 10), (47, 11), (51, 7), (58, 3), (58, 4), (58, 5), (58, 6), (58, 7), (58, 8), (58, 9), (58, 14), (58, 17), (58, 18), (58, 19), (58, 20), (66, 1), (66, 2), (66, 4), (66, 5)]
abbrev yL_kM : List Nat := [42, 43, 44, 45, 46, 48, 49, 50, 52, 53, 57, 59, 60, 61, 62, 63, 64, 65, 67]
abbrev yL_mF : List (Nat × Nat) := [(68, 56), (68, 58), (68, 54), (68, 64), (68, 66), (68, 68), (68, 73), (68, 74), (68, 75), (68, 76), (68, 78), (68, 80), (68, 81), (68, 82), (68, 83), (68, 84), (68, 85), (68, 86), (68, 87), (68, 88), (68, 93), (68, 94), (68, 95)]
abbrev yL_mM : List Nat := [103, 104, 105, 106, 107, 108, 110, 111, 112, 114, 115, 116, 117, 118, 119, 120]
abbrev yL_kL : List Nat := [54, 55, 56]
abbrev yL_mL : List Nat := [109, 113]
section YLD
variable {h0 g0 h g h' g' : zs_H}
theorem yL_Ef (E : yL_E h0 g0 h g) (f1 : zfr yL_kF (1 :: yL_kM) yL_kL h h') (f2 : zfr yL_mF (69 :: yL_mM) yL_mL g g') : yL_E h0 g0 h' g' := by
  obtain ⟨e1, e2, ⟨e3, e4, e5, e6, e7⟩, ⟨e8, e9, e10, e11⟩⟩ := E
  refine ⟨fun a ha hb => (f1.2.1 a (fun z => ?_)).trans (e1 a ha hb), fun a ha hb => (f2.2.1 a (fun z => ?_)).trans (e2 a ha hb), ⟨(f1.1 _ _ (by decide)).trans e3, (f1.1 _ _ (by decide)).trans e4, (f1.1 _ _ (by decide)).trans e5, (f1.1 _ _ (by decide)).trans e6, (f1.1 _ _ (by decide)).trans e7⟩, ⟨(f2.1 _ _ (by decide)).trans e8, (f2.1 _ _ (by decide)).trans e9, (f2.1 _ _ (by decide)).trans e10, (f2.1 _ _ (by decide)).trans e11⟩⟩
  · have : ∀ x, x ∈ (1 :: yL_kM) → x < 3 ∨ 37 < x := by decide
    have := this a z; omega
  · have : ∀ x, x ∈ (69 :: yL_mM) → x < 70 ∨ 102 < x := by decide
    have := this a z; omega
theorem yL_E0 : yL_E h0 g0 h0 g0 := ⟨fun _ _ _ => rfl, fun _ _ _ => rfl, ⟨rfl, rfl, rfl, rfl, rfl⟩, rfl, rfl, rfl, rfl⟩
theorem yL_EB (E : yL_E h0 g0 h g) : yB_E h0 h := fun a h1 h2 => E.1 a (by omega) h2
theorem yL_Eb (E : yL_E h0 g0 h g) : yB_e g0 g := by
  have q : ∀ x, x ∈ [86, 89, 90, 92, 93, 94, 98, 99] → 70 ≤ x ∧ x ≤ 102 := by decide
  exact ⟨⟨E.2.2.2.2.1, E.2.2.2.2.2.1⟩, fun a ha => E.2.1 a (q a ha).1 (q a ha).2⟩
theorem yL_EC {L : List (List Int32)} (E : yL_E h0 g0 h g) (H : zn_C h0 L) : zn_C h L := by
  unfold zn_C
  rw [E.2.2.1.1, E.1 5 (by decide) (by decide), E.1 4 (by decide) (by decide), E.1 7 (by decide) (by decide), E.1 6 (by decide) (by decide)]
  exact H
/-- a text is loaded -/
def yL_Z (h g : zs_H) : Prop := ∃ (LC LM : List (List Int32)) (nb : Nat) (F X Y K : Nat → Nat) (T : Nat → ys) (w : Nat) (h0 g0 : zs_H), yB_P LC LM nb F X Y K h0 g0 ∧ yL_E h0 g0 h g ∧ yY_L h0 nb T X Y K w h g ∧ yY_M (yJ_J h0 nb T X K) h g ∧ ((h.1 20 17) = nI (9 + nb) ∧ (h.1 41 5) = (g.1 68 56) ∧ (h.1 20 20) = (g.1 68 55)) ∧ zn_C h LC ∧ zwt_ld LC
theorem yL_w {X Y : Nat → Nat} {T : Nat → ys} {b bu : Nat} (U : yx_T X Y h0 b (T b)) (l : yV_le bu (yV_b T b) = true) : ∃ w, yV_b T b = some w ∧ w ≤ bu := by
  have n := yF_way (B := yV_B T b) (T b) (none, none, none) (some 0, none, none) (yF_nM (x := 0) (.inl rfl))
  have eW : yV_b T b = yF_M (yP_T (yV_B T b) (T b) (none, none, none) (some 0, none, none)) := by
    unfold yV_b yV_W yF_M
    rw [yF_out (T b) (none, none, none) (some 0, none, none) 0 (U.2.1 0) rfl rfl]
    rfl
  rw [← eW] at n
  cases e : yV_b T b with
  | none => exact absurd e n
  | some w =>
    rw [e] at l
    exact ⟨w, rfl, of_decide_eq_true l⟩
theorem yL_AC {T : Nat → ys} {nb : Nat} (H : yx_AC T nb h) (e : ∀ a, 42 ≤ a → a ≤ 45 → h'.2.1 a = h.2.1 a) : yx_AC T nb h' := fun u hu k i z => by
  have q := H u hu k i z
  unfold yC_m at q ⊢
  rw [e 42 (by decide) (by decide), e 43 (by decide) (by decide), e 44 (by decide) (by decide), e 45 (by decide) (by decide)]
  exact q
theorem yL_AM {T : Nat → ys} {nb : Nat} (H : yx_AM T nb g) (e : ∀ a, 104 ≤ a → a ≤ 108 → g'.2.1 a = g.2.1 a) : yx_AM T nb g' := fun u hu k i z => by
  have q := H u hu k i z
  unfold yM_m at q ⊢
  rw [e 104 (by decide) (by decide), e 105 (by decide) (by decide), e 106 (by decide) (by decide), e 107 (by decide) (by decide), e 108 (by decide) (by decide)]
  exact q
theorem yL_done {sz bu : Nat} {LC LM : List (List Int32)} (Z : yV_Z sz bu LC LM h0 g0 h g) (hbu : bu ≤ 100000) (E : yL_E h0 g0 h g) (N : zn_C h0 LC) (LD : zwt_ld LC) (io : yY_io h g) (e0 : (h.1 0 2) = 0) (e1 : (g.1 68 80) = 0) (z : (h.1 58 6) = 0 ∧ (h.1 58 7) = 0 ∧ (h.1 58 8) = 0 ∧ (h.1 58 9) = 0) : ∃ h' g', f_Pk_load_133 h = some (0, h') ∧ f_Mo_load_226 g = some (0, g') ∧ zfr [(58, 3), (58, 4), (58, 5)] [60, 62, 65] [] h h' ∧ zfr [(68, 82), (68, 73), (68, 74), (68, 84), (68, 85), (68, 86)] [114, 119] [] g g' ∧ (((h'.1 58 3) = 1 ∧ (h'.1 58 4) = 0) ∧ (g'.1 68 82) = 1) ∧ yL_Z h' g' ∧ yY_io h' g' := by
  obtain ⟨nb, F, X, Y, K, T, ⟨n0, n16, C⟩, ⟨KK, TT⟩, U, bb, S4, ⟨a1, a2, a3, a4⟩, ⟨b1, b2, b3⟩, cc⟩ := Z
  have HB := C.1.2.1
  have pr : (h0.1 20 19) = nI (8 + nb) := by
    rw [HB.2.2.2.2.2.2.2.2.2, if_pos ⟨n0, by rw [(KK (nb - 1) (by omega)).2.2, TT.1.2]; rfl⟩]
  have ph : (h.1 20 19) = nI (8 + nb) := E.2.2.1.2.2.2.1.trans pr
  have bh : (h.1 20 17) = nI (9 + nb) := E.2.2.1.2.1.trans HB.1.1
  obtain ⟨w, w1, w2⟩ := yL_w (U (nb - 1) (by omega)).1 bb
  have P := yB_mkP n0 n16 C KK TT
  obtain ⟨h1, hh1⟩ : ∃ h1, h1 = zs_uF (zs_uF h 58 3 1) 58 5 (nI w) := ⟨_, rfl⟩
  obtain ⟨g1, hg1⟩ : ∃ g1, g1 = zs_uF (zs_uF (zs_uF (zs_uF (zs_uF g 68 82 1) 68 73 0) 68 74 0) 68 84 0) 68 85 0 := ⟨_, rfl⟩
  have f1 : zfr [(58, 3), (58, 4), (58, 5)] [60, 62, 65] [] h h1 := by rw [hh1]; exact zfr_F (by decide) (zfr_F (by decide) zfr_rfl)
  have f2 : zfr [(68, 82), (68, 73), (68, 74), (68, 84), (68, 85), (68, 86)] [114, 119] [] g g1 := by
    rw [hg1]; exact zfr_F (by decide) (zfr_F (by decide) (zfr_F (by decide) (zfr_F (by decide) (zfr_F (by decide) zfr_rfl))))
  have E1 : yL_E h0 g0 h1 g1 := yL_Ef E (zfr_w f1 (by decide) (by decide) (by decide)) (zfr_w f2 (by decide) (by decide) (by decide))
  have io1 : yY_io h1 g1 := by rw [hh1, hg1]; exact io
  obtain ⟨h2, g2, d1, d2, d3, d4, d5, d6, d7, d8, d9⟩ := yB_anew P (yL_EB E1) (yL_Eb E1) (by rw [hh1]; exact bh) io1
  have F1 : zfr [(58, 3), (58, 4), (58, 5)] [60, 62, 65] [] h h2 := zfr_trans f1 (zfr_w d3 (by decide) (by decide) (by decide))
  have F2 : zfr [(68, 82), (68, 73), (68, 74), (68, 84), (68, 85), (68, 86)] [114, 119] [] g g2 := zfr_trans f2 (zfr_w d4 (by decide) (by decide) (by decide))
  have E2 : yL_E h0 g0 h2 g2 := yL_Ef E (zfr_w F1 (by decide) (by decide) (by decide)) (zfr_w F2 (by decide) (by decide) (by decide))
  have k1 : ∀ u, u < nb → (yq_k h0 u).1 = 1 → K u = 1 := fun j hj q => by
    have e : nI (K j) = 1 := (KK j hj).2.1.symm.trans q
    have := (KK j hj).1
    exact (zc_eq (k := 1) (by decide) (by omega)).mp e
  obtain ⟨z1, z2, z3, z4⟩ := z
  refine ⟨h2, g2, ?_, ?_, F1, F2, ⟨⟨(d3.1 _ _ (by decide)).trans (by rw [hh1]; rfl), d8⟩, (d4.1 _ _ (by decide)).trans (by rw [hg1]; rfl)⟩, ⟨LC, LM, nb, F, X, Y, K, T, w, h0, g0, P, E2, ?_, ?_, ?_, yL_EC E2 N, LD⟩, d7⟩
  · unfold f_Pk_load_133 f_Mc_begin f_Pk_load_165
    rw [e0, if_pos (show (0 : Int32) = 0 from rfl), ph, show nI (8 + nb) - 9 = nI (8 + nb - 9) from zi_sub (b := 9) (by omega), if_pos (zi_in (by omega) (show 8 + nb - 9 < 16 by omega)), nI_clamp (by omega), show 8 + nb - 9 = nb - 1 by omega, (cc (nb - 1) (by omega)).1, w1, show yV_c (some w) = nI w from rfl, ← hh1, d1, Option.bind_some, Option.bind_some, (F1.1 0 2 (by decide)), e0]
  · unfold f_Mo_load_226 f_Mo_load_239 f_Mo_load_273
    rw [e1, if_pos (show (0 : Int32) = 0 from rfl), if_pos (show (1 : Int32) = 0 ∨ (1 : Int32) = 1 from .inr rfl), if_neg (show ¬ (1 : Int32) = 0 by decide), ← hg1, d2, Option.bind_some, (F2.1 68 80 (by decide)), e1]
  · refine ⟨yX_A n0 n16 C KK TT U S4, ⟨w1, by omega⟩, ⟨fun u hu q => ?_, ⟨fun u hu => ?_, ?_⟩, ?_, ?_, ?_⟩, ⟨fun u hu q => ?_, fun u hu => ?_, ?_, ?_, ?_⟩⟩
    · rw [E2.1 27 (by decide) (by decide)]; exact (TT.2.2.1 u hu (k1 u hu q)).1
    · rw [F1.2.1 _ (by decide)]; exact a1 u hu
    · exact (F1.1 _ _ (by decide)).trans a2
    · exact yL_AC a4 (fun a l1 l2 => F1.2.1 a (fun q => by
        have : ∀ x, x ∈ [60, 62, 65] → 45 < x := by decide
        have := this a q; omega))
    · exact (F1.1 _ _ (by decide)).trans ph
    · exact (d3.1 _ _ (by decide)).trans (by rw [hh1]; rfl)
    · rw [E2.2.1 89 (by decide) (by decide)]; exact (TT.2.2.1 u hu (k1 u hu q)).2
    · rw [F2.2.1 _ (by decide)]; exact b1 u hu
    · exact yL_AM b3 (fun a l1 l2 => F2.2.1 a (fun q => by
        have : ∀ x, x ∈ [114, 119] → 108 < x := by decide
        have := this a q; omega))
    · exact E2.2.2.2.2.1.trans HB.1.2.1
    · rw [F2.2.2 _ List.not_mem_nil, (cc (nb - 1) (by omega)).2, w1]; rfl
  · refine ⟨d5, ⟨d6.1, d6.2 _⟩, ⟨?_, ?_, ?_, ?_⟩, d8.trans d9.symm⟩
    · exact (F1.1 _ _ (by decide)).trans (z4.trans ((d4.1 _ _ (by decide)).trans (by rw [hg1]; rfl)).symm)
    · exact (F1.1 _ _ (by decide)).trans (z2.trans ((d4.1 _ _ (by decide)).trans (by rw [hg1]; rfl)).symm)
    · exact (F1.1 _ _ (by decide)).trans (z3.trans ((d4.1 _ _ (by decide)).trans (by rw [hg1]; rfl)).symm)
    · exact (F1.1 _ _ (by decide)).trans (z1.trans ((d4.1 _ _ (by decide)).trans (by rw [hg1]; rfl)).symm)
  · refine ⟨(F1.1 _ _ (by decide)).trans bh, ?_, ?_⟩
    · exact (F1.1 _ _ (by decide)).trans (a3.trans ((F2.1 _ _ (by decide)).trans b2).symm)
    · exact E2.2.2.1.2.2.2.2.trans (TT.2.1.1.trans (E2.2.2.2.2.2.2.trans TT.2.1.2.1).symm)
end YLD
