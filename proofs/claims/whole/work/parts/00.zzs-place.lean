/-! The judge: a place. -/
theorem zv_pcC : ∀ p, p < 1536 → (768 ≤ p → p % 256 < 64) → f_Jd_placeCell (nI p) = some (nI (zv_pc p)) ∧ zv_pc p < 960 := by
  have key : ∀ p, p < 1536 → (p < 768 ∨ p % 256 < 64) → f_Jd_placeCell (nI p) = some (nI (zv_pc p)) ∧ zv_pc p < 960 := by decide +kernel
  intro p h1 h2
  exact key p h1 (by omega)
theorem zv_pcI {p p' : Nat} (h1 : p < 1536) (h2 : 768 ≤ p → p % 256 < 64) (h3 : p' < 1536) (h4 : 768 ≤ p' → p' % 256 < 64) (e : zv_pc p = zv_pc p') : p = p' := by
  unfold zv_pc at e
  split at e <;> split at e <;> omega
theorem zv_taken {g : zs_H} {e : Nat} {w : Int32} (he : e ≤ 8400) (hv : (g.1 68 41) = nI e) : ∀ m v fuel, v + m = e → m < fuel →
    f_Mo_isPlaceTaken_L12 g fuel w 1 (nI v) = some 1 ∧ ((∀ j, v ≤ j → j < e → ¬ (g.2.1 96) j = w) → f_Mo_isPlaceTaken_L12 g fuel w 0 (nI v) = some 0) ∧ (∀ j, v ≤ j → j < e → (g.2.1 96) j = w → f_Mo_isPlaceTaken_L12 g fuel w 0 (nI v) = some 1) := by
  intro m
  induction m with
  | zero =>
    intro v fuel h1 h2
    obtain ⟨f, rfl⟩ : ∃ f, fuel = f + 1 := ⟨fuel - 1, by omega⟩
    have e0 : ∀ x, f_Mo_isPlaceTaken_L12 g (f + 1) w x (nI v) = if x = 0 ∨ x = 1 then some x else none := by
      intro x
      show f_Mo_isPlaceTaken_12 g (f_Mo_isPlaceTaken_L12 g f) w x (nI v) = _
      unfold f_Mo_isPlaceTaken_12
      rw [hv, if_pos ((nI_leI (by omega) (by omega)).mpr (by omega))]
    exact ⟨by rw [e0, if_pos (.inr rfl)], fun _ => by rw [e0, if_pos (.inl rfl)], fun j h3 h4 => by omega⟩
  | succ m ih =>
    intro v fuel h1 h2
    obtain ⟨f, rfl⟩ : ∃ f, fuel = f + 1 := ⟨fuel - 1, by omega⟩
    have hi := ih (v + 1) f (by omega) (by omega)
    have hl : ¬ nI e ≤ nI v := mt (nI_leI (by omega) (by omega)).mp (by omega)
    have e1 : f_Mo_isPlaceTaken_L12 g (f + 1) w 1 (nI v) = f_Mo_isPlaceTaken_L12 g f w 1 (nI (v + 1)) := by
      show f_Mo_isPlaceTaken_12 g (f_Mo_isPlaceTaken_L12 g f) w 1 (nI v) = _
      unfold f_Mo_isPlaceTaken_12 f_Mo_isPlaceTaken_34 f_Mo_isPlaceTaken_39
      rw [hv, if_neg hl, if_neg (by decide), nI_1]
    have e0 : f_Mo_isPlaceTaken_L12 g (f + 1) w 0 (nI v) = if (g.2.1 96) v = w then f_Mo_isPlaceTaken_L12 g f w 1 (nI (v + 1)) else f_Mo_isPlaceTaken_L12 g f w 0 (nI (v + 1)) := by
      show f_Mo_isPlaceTaken_12 g (f_Mo_isPlaceTaken_L12 g f) w 0 (nI v) = _
      unfold f_Mo_isPlaceTaken_12 f_Mo_isPlaceTaken_34 f_Mo_isPlaceTaken_39
      rw [hv, if_neg hl, if_pos rfl, if_pos (zi_in (by omega) (by omega)), nI_clamp (by omega), nI_1]
    refine ⟨e1.trans hi.1, fun q => ?_, fun j h3 h4 h5 => ?_⟩
    · rw [e0, if_neg (q v (by omega) (by omega))]
      exact hi.2.1 fun j h3 h4 => q j (by omega) h4
    · rw [e0]
      by_cases c : (g.2.1 96) v = w
      · rw [if_pos c]; exact hi.1
      · rw [if_neg c]
        by_cases ej : j = v
        · rw [ej] at h5; exact absurd h5 c
        · exact hi.2.2 j (by omega) h4 h5
/-- 14 -/
theorem zv_place {LC LM : List (List Int32)} {nb nf ns i k k5 k6 x : Nat} {F : Nat → Nat} {p : Int32} {h g : zs_H} (I : zv_I LC LM nb nf ns F (-1) h g) (hb : 0 < nb) (hi : i < 32784) (hk : k < 33500) (h5 : k5 < 33500) (h6 : k6 < 33500) (hx : x < 1536) (hx2 : 768 ≤ x → x % 256 < 64) (c1 : (h.2.1 16) i = nI x) (c2 : (h.2.1 15) i = p) (c3 : (h.1 38 6) = nI (32 + ns)) (m1 : (g.2.1 72) k = 7) (m2 : (g.2.1 74) k = nI x) (m3 : (g.2.1 73) k = p) (a1 : (g.2.1 75) k = nI k5) (a2 : (g.2.1 76) k5 = nI k6) (a3 : (g.2.1 78) k6 = nI k ↔ F nb = ns + 1) (a4 : ns < F nb) :
    ∃ h', f_Jd_judgePlace h (nI i) = some h' ∧ ∃ g', f_Mo_lookAtBlocks g (nI k) = some g' ∧ zfr zv_cf zv_cm [] h h' ∧ zfr zv_mf zv_mm [] g g' ∧ ((∃ φ, zv_X φ p h' g') ∨ (h' = zs_uM h 40 (zv_pc x) 1 ∧ g' = g ∧ (h.2.1 21) (8 + nb) = 3 ∧ F nb = ns + 1 ∧ zv_I LC LM nb nf ns F (nI x) h' g')) := by
  obtain ⟨kd, y1, y2, y3, y4, y5, y6⟩ := zv_cur I hb
  obtain ⟨HS, HB, HN, HV, HC, ⟨T1, T2⟩, HJ, J1, J2⟩ := I
  have HB0 := HB
  obtain ⟨⟨B1, B2, B3⟩, ⟨V1, V2, V3⟩, B4, BF, B5, B6, B7, B8, B9, B10⟩ := HB
  have hk4 : kd < 2147483648 := by rcases y1 with e | e | e <;> rw [e] <;> decide
  obtain ⟨pc1, pc2⟩ := zv_pcC x hx hx2
  have ck : (nI k).toNatClampNeg = k := nI_clamp (by omega)
  have ci : (nI i).toNatClampNeg = i := nI_clamp (by omega)
  have c5 : (nI k5).toNatClampNeg = k5 := nI_clamp (by omega)
  have c6 : (nI k6).toNatClampNeg = k6 := nI_clamp (by omega)
  have cn : (nI (8 + nb)).toNatClampNeg = 8 + nb := nI_clamp (by omega)
  have cb : (nI (nb - 1)).toNatClampNeg = nb - 1 := nI_clamp (by omega)
  have cx : (nI (zv_pc x)).toNatClampNeg = zv_pc x := nI_clamp (by omega)
  have hik : zd_in (nI k) 33500 := zi_in (by omega) hk
  have hi5 : zd_in (nI k5) 33500 := zi_in (by omega) h5
  have hi6 : zd_in (nI k6) 33500 := zi_in (by omega) h6
  have hii : zd_in (nI i) 32784 := zi_in (by omega) hi
  have hin : zd_in (nI (8 + nb)) 629 := zi_in (by omega) (by omega)
  have hib : zd_in (nI (nb - 1)) 2100 := zi_in (by omega) (by omega)
  have hib1 : zd_in (nI (nb - 1)) 2101 := zi_in (by omega) (by omega)
  have hix : zd_in (nI (zv_pc x)) 960 := zi_in (by omega) pc2
  have e3 : (nI kd = 3) ↔ kd = 3 := zc_eq (k := 3) (by decide) hk4
  have en : (h.1 20 18) - (h.1 38 6) = nI (F nb - ns) := by rw [V1, c3, zi_sub (by omega), show 32 + F nb - (32 + ns) = F nb - ns by omega]
  have e1 : (nI (F nb - ns) ≤ 1) ↔ F nb = ns + 1 := by rw [zc_el (k := 1) (by decide) (by omega)]; omega
  have hTk : ((h.2.1 40) (zv_pc x) = 0) ↔ ¬ ∃ v, F (nb - 1) ≤ v ∧ v < F nb ∧ (g.2.1 96) v = nI x := by
    have t2 := T2 x hx hx2
    constructor
    · intro z ⟨v, zv⟩
      rw [t2.mpr (.inr ⟨v, zv⟩)] at z
      exact absurd z (by decide)
    · intro z
      rcases T1 _ pc2 with t | t
      · exact t
      · rcases t2.mp t with q | q
        · exact absurd q (zc_m1 (by omega))
        · exact absurd q z
  have sM := zv_taken (w := nI x) (show F nb ≤ 8400 by omega) V2 (F nb - F (nb - 1)) (F (nb - 1)) zF (by have := (BF (nb - 1) (by omega)); rw [show nb - 1 + 1 = nb by omega] at this; omega) (by have := zF_big; omega)
  have eT : f_Mo_isPlaceTaken g (nI x) = some (if (h.2.1 40) (zv_pc x) = 0 then 0 else 1) := by
    unfold f_Mo_isPlaceTaken
    rw [y5, if_pos hib1, cb, (B6 (nb - 1) (by omega)).2.1]
    by_cases z : (h.2.1 40) (zv_pc x) = 0
    · rw [if_pos z]
      exact sM.2.1 fun j q1 q2 q3 => hTk.mp z ⟨j, q1, q2, q3⟩
    · rw [if_neg z]
      obtain ⟨v, q1, q2, q3⟩ := Classical.byContradiction fun q => z (hTk.mpr q)
      exact sM.2.2 v q1 q2 q3
  have eC : f_Jd_judgePlace h (nI i) = (f_Jd_refuseIf h (if kd = 3 ∧ F nb = ns + 1 ∧ (h.2.1 40) (zv_pc x) = 0 then 0 else 1) 14 (nI i)).bind fun h2 => some (zs_uM h2 40 (zv_pc x) 1) := by
    unfold f_Jd_judgePlace f_Jd_judgePlace_45 f_Jd_judgePlace_50 f_Jd_judgePlace_65 f_Jd_judgePlace_70
    simp only [if_pos hii, ci, c1, pc1, Option.bind_some, y4, if_pos hin, cn, y2, e3, en, e1, if_pos hix, cx, show ¬ (1 : Int32) = 0 by decide, if_false, if_true, show vp_nar .boolean 1 = 1 from rfl]
    by_cases x1 : kd = 3 <;> by_cases x2 : F nb = ns + 1 <;> by_cases x3 : (h.2.1 40) (zv_pc x) = 0 <;> simp only [x1, x2, x3, if_true, if_false, and_true, true_and, and_false, false_and]
  have eM : f_Mo_lookAtBlocks g (nI k) = f_Mo_rule g (if kd = 3 ∧ F nb = ns + 1 ∧ (h.2.1 40) (zv_pc x) = 0 then 0 else 1) 14 (nI k) := by
    unfold f_Mo_lookAtBlocks f_Mo_lookAtBlocks_234 f_Mo_lookAtBlocks_239
    simp only [if_pos hik, ck, m1, m2, a1, a2, a3, c5, c6, if_pos hi5, if_pos hi6, y5, if_pos hib, cb, y3, e3, eT, Option.bind_some, show ¬ (7 : Int32) = 0 by decide, show ¬ (7 : Int32) = 1 by decide, show ¬ (7 : Int32) = 2 by decide, show ¬ (7 : Int32) = 3 by decide, show ¬ (7 : Int32) = 4 by decide, show ¬ (7 : Int32) = 5 by decide, show ¬ (7 : Int32) = 6 by decide, if_false, if_true, Option.bind_fun_some]
    by_cases x1 : kd = 3 <;> by_cases x2 : F nb = ns + 1 <;> by_cases x3 : (h.2.1 40) (zv_pc x) = 0 <;> simp only [x1, x2, x3, if_true, if_false, and_true, true_and, and_false, false_and, show ¬ (1 : Int32) = 0 by decide]
  rw [eC, eM]
  by_cases q : kd = 3 ∧ F nb = ns + 1 ∧ (h.2.1 40) (zv_pc x) = 0
  · rw [if_pos q, zv_ref0, zv_rule0, Option.bind_some]
    obtain ⟨q1, q2, q3⟩ := q
    refine ⟨_, rfl, _, rfl, zfr_M (by decide) zfr_rfl, zfr_rfl, .inr ⟨rfl, rfl, by rw [y2, q1]; rfl, q2, HS, HB0, HN, HV, HC, ⟨fun c' hc' => ?_, fun p' hp' h1' => ?_⟩, HJ, J1, J2⟩⟩
    · rw [zu_MM]
      split
      · exact .inr rfl
      · exact T1 c' hc'
    · rw [zu_MM]
      by_cases e : p' = x
      · subst e
        rw [if_pos ⟨rfl, rfl⟩]
        exact ⟨fun _ => .inl rfl, fun _ => rfl⟩
      · rw [if_neg (fun z => e (zv_pcI hp' h1' hx hx2 z.2)), T2 p' hp' h1']
        constructor
        · rintro (z | z)
          · exact absurd z (zc_m1 (by omega))
          · exact .inr z
        · rintro (z | z)
          · exact absurd ((nI_eq (by omega) (by omega)).mp z) e
          · exact .inr z
  · rw [if_neg q, show (14 : Int32) = nI 14 from rfl, zv_ref1 (by decide) J1 hi, zv_rule1 (by decide) J2 hk, Option.bind_some]
    refine ⟨_, rfl, _, rfl, zfr_M (by decide) (zfr_F (by decide) (zfr_F (by decide) zfr_rfl)), zfr_F (by decide) (zfr_F (by decide) zfr_rfl), .inl ⟨14, by decide, by decide, rfl, c2, rfl, m3⟩⟩
