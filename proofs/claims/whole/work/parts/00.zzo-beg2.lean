/-! The judge: the state when a block has begun. -/
theorem zv_Sfr {LC LM : List (List Int32)} {g g' : zs_H} {fs : List (Nat × Nat)} {ms : List Nat} (HS : zv_S LC LM g) (fr : zfr fs ms [] g g') (h1 : (68, 3) ∉ fs) (h2 : 71 ∉ ms) (h3 : 70 ∉ ms) : zv_S LC LM g' := by
  obtain ⟨S1, S2, S3, S4, S5, n1, n2, n3⟩ := HS
  refine ⟨S1, S2, S3, S4, S5, by rw [fr.1 _ _ h1]; exact n1, n2, fun k hk => ?_⟩
  rw [fr.2.1 _ h2, fr.2.1 _ h3]
  exact n3 k hk
theorem zv_beg2 {LC LM : List (List Int32)} {nb i k kd c : Nat} {F : Nat → Nat} {h g h' g' : zs_H} {w ty : Int32} (HS : zv_S LC LM g) (HB : zv_B LC LM nb F h g) (HN : zv_N LC LM nb F h g) (HV : zv_V nb (F nb) F h g) (HC : zv_C nb nb F h g) (HT : zv_T nb F (-1) h g) (J1 : (h.1 38 3) = 0) (J2 : (g.1 68 29) = 0) (hnb : nb < 568) (hnv : F nb < 5900) (hkd : kd = 1 ∨ kd = 2 ∨ kd = 3) (hw : zt_nr LC LM (nI c) w) (hc : c < 6000) (q10 : ¬ (0 < nb ∧ (g.2.1 86) (nb - 1) = 3)) (n1 : ¬ (41 ≤ c ∧ c < 60)) (n2 : (h.2.1 36) c = -1) (zt : kd = 1 → ∃ t, t < 3 ∧ ty = nI t ∧ ∃ i', i' < 32784 ∧ (h.2.1 17) i = nI i' ∧ (h.2.1 16) i' = nI t) (y2 : zv_BC (9 + nb) (32 + F nb) i kd c ty h h') (z2 : zv_BM nb (F nb) k kd w ty g g') :
    (h'.1 38 10) = 0 ∧ (h'.1 38 12) = (h.1 38 12) ∧ (h'.2.1 22) (9 + nb) = nI i ∧ (g'.2.1 84) nb = nI k ∧ (∀ b, b < nb → (h'.2.1 22) (9 + b) = (h.2.1 22) (9 + b) ∧ (g'.2.1 84) b = (g.2.1 84) b ∧ (h'.2.1 25) (9 + b) = (h.2.1 25) (9 + b)) ∧ (h'.2.1 21) (9 + nb) = nI kd ∧
        zv_I LC LM (nb + 1) nb (if kd = 1 then F nb + 1 else F nb) (fun j => if j = nb + 1 then (if kd = 1 then F nb + 1 else F nb) else F j) (-1) h' g' := by
  obtain ⟨⟨B1, B2, B3⟩, ⟨V1, V2, V3⟩, B4, BF, B5, B6, B7, B8, B9, B10⟩ := HB
  obtain ⟨N1, N2, N3⟩ := HN
  obtain ⟨W1, W2, W3, W4, W5⟩ := HV
  obtain ⟨C0, C1, C2, C3⟩ := HC
  obtain ⟨T1, T2⟩ := HT
  obtain ⟨⟨p1, p2, p3, p4, p5, _⟩, kK, kN, kF, kB, kV, kCe, kBN, vN, vS, vI, vT, vC, vL, vLe, vCo, vLN, fr⟩ := y2
  obtain ⟨⟨s1, s2, s3⟩, mN, mNa, mK, mT, mC, mF, wN, wS, wT, wC, wSe, wP, wL, wSi, wF, frm⟩ := z2
  have hk4 : kd < 2147483648 := by rcases hkd with e | e | e <;> rw [e] <;> decide
  obtain ⟨X, hX⟩ : ∃ X, X = if kd = 1 then F nb + 1 else F nb := ⟨_, rfl⟩
  have hX1 : F nb ≤ X := by rw [hX]; split <;> omega
  have hX2 : X ≤ F nb + 1 := by rw [hX]; split <;> omega
  have hX3 : ∀ v, F nb ≤ v → v < X → kd = 1 ∧ v = F nb := by intro v a b; rw [hX] at b; split at b <;> first | (exact ⟨by assumption, by omega⟩) | omega
  rw [← hX] at s3 ⊢
  obtain ⟨F', hF'⟩ : ∃ F', F' = fun j => if j = nb + 1 then X else F j := ⟨_, rfl⟩
  rw [← hF']
  have eF1 : F' (nb + 1) = X := by rw [hF']; exact if_pos rfl
  have eF : ∀ j, j ≤ nb → F' j = F j := fun j hj => by rw [hF']; exact if_neg (by omega)
  -- what is old stays
  have oK : ∀ b, b < 9 + nb → (h'.2.1 21) b = (h.2.1 21) b := fun b hb => by rw [kK, if_neg (by omega)]
  have oFi : ∀ b, b < 9 + nb → (h'.2.1 23) b = (h.2.1 23) b := fun b hb => by rw [kF, if_neg (by omega)]
  have oBe : ∀ b, b < 9 + nb → (h'.2.1 24) b = (h.2.1 24) b := fun b hb => by rw [kB, if_neg (by omega)]
  have oCe : ∀ b, b < 9 + nb → (h'.2.1 26) b = (h.2.1 26) b := fun b hb => by rw [kCe, if_neg (by omega)]
  have oN : ∀ v, v < 32 + F nb → (h'.2.1 28) v = (h.2.1 28) v := fun v hv => by rw [vN, if_neg (by omega)]
  have oS : ∀ v, v < 32 + F nb → (h'.2.1 29) v = (h.2.1 29) v := fun v hv => by rw [vS, if_neg (by omega)]
  have oI : ∀ v, v < 32 + F nb → (h'.2.1 30) v = (h.2.1 30) v := fun v hv => by rw [vI, if_neg (by omega)]
  have oT : ∀ v, v < 32 + F nb → (h'.2.1 31) v = (h.2.1 31) v := fun v hv => by rw [vT, if_neg (by omega)]
  have oC : ∀ v, v < 32 + F nb → (h'.2.1 32) v = (h.2.1 32) v := fun v hv => by rw [vC, if_neg (by omega)]
  have oL : ∀ v, v < 32 + F nb → (h'.2.1 33) v = (h.2.1 33) v := fun v hv => by rw [vL, if_neg (by omega)]
  have oLe : ∀ v, v < 32 + F nb → (h'.2.1 34) v = (h.2.1 34) v := fun v hv => by rw [vLe, if_neg (by omega)]
  have oCo : ∀ v, v < 32 + F nb → (h'.2.1 35) v = (h.2.1 35) v := fun v hv => by rw [vCo, if_neg (by omega)]
  have rK : ∀ b, b < nb → (g'.2.1 86) b = (g.2.1 86) b := fun b hb => by rw [mK, if_neg (by omega)]
  have rNa : ∀ b, b < nb → (g'.2.1 85) b = (g.2.1 85) b := fun b hb => by rw [mNa, if_neg (by omega)]
  have rT : ∀ b, b < nb → (g'.2.1 87) b = (g.2.1 87) b := fun b hb => by rw [mT, if_neg (by omega)]
  have rC : ∀ b, b < nb → (g'.2.1 88) b = (g.2.1 88) b := fun b hb => by rw [mC, if_neg (by omega)]
  have rF : ∀ b, b < nb → (g'.2.1 90) b = (g.2.1 90) b := fun b hb => by rw [mF, if_neg (by omega)]
  have rvN : ∀ v, v < F nb → (g'.2.1 91) v = (g.2.1 91) v := fun v hv => by rw [wN, if_neg (by omega)]
  have rvS : ∀ v, v < F nb → (g'.2.1 92) v = (g.2.1 92) v := fun v hv => by rw [wS, if_neg (by omega)]
  have rvT : ∀ v, v < F nb → (g'.2.1 93) v = (g.2.1 93) v := fun v hv => by rw [wT, if_neg (by omega)]
  have rvC : ∀ v, v < F nb → (g'.2.1 94) v = (g.2.1 94) v := fun v hv => by rw [wC, if_neg (by omega)]
  have rvSe : ∀ v, v < F nb → (g'.2.1 95) v = (g.2.1 95) v := fun v hv => by rw [wSe, if_neg (by omega)]
  have rvP : ∀ v, v < F nb → (g'.2.1 96) v = (g.2.1 96) v := fun v hv => by rw [wP, if_neg (by omega)]
  have rvL : ∀ v, v < F nb → (g'.2.1 97) v = (g.2.1 97) v := fun v hv => by rw [wL, if_neg (by omega)]
  have rvSi : ∀ v, v < F nb → (g'.2.1 98) v = (g.2.1 98) v := fun v hv => by rw [wSi, if_neg (by omega)]
  have rvF : ∀ v, v < F nb → (g'.2.1 99) v = (g.2.1 99) v := fun v hv => by rw [wF, if_neg (by omega)]
  have nK : (h'.2.1 21) (9 + nb) = nI kd := by rw [kK, if_pos rfl]
  have lK : ∀ b, b < nb → ¬ (h.2.1 21) (9 + b) = 3 := by
    intro b hb q
    obtain ⟨kd', e1, e2, e3, e4⟩ := B5 b hb
    have : kd' = 3 := (zc_eq (k := 3) (by decide) (by omega)).mp (e2.symm.trans q)
    have eb := e4 this
    exact q10 ⟨by omega, by rw [show nb - 1 = b by omega, e3, this]; rfl⟩
  have bF : ∀ b, b < nb → F (b + 1) ≤ F nb := fun b hb => (BF b hb).2
  refine ⟨p5, fr.1 _ _ (by decide), by rw [kN, if_pos rfl], by rw [mN, if_pos rfl], fun b hb => ⟨by rw [kN, if_neg (by omega)], by rw [mN, if_neg (by omega)], by rw [kV, if_neg (by omega)]⟩, nK, zv_Sfr HS frm (by decide) (by decide) (by decide), ?_, ?_, ?_, ?_, ?_, fun _ => ⟨by rw [p4, show 8 + (nb + 1) = 9 + nb by omega], s2⟩, (fr.1 _ _ (by decide)).trans J1, (frm.1 _ _ (by decide)).trans J2⟩
  · -- blocks
    refine ⟨⟨p1, s1, by omega⟩, ⟨by rw [eF1, p3, hX]; split <;> rfl, by rw [eF1]; exact s3, by omega⟩, ⟨fun b hb => ?_, fun v hv => ?_⟩, fun b hb => ?_, fun b hb => ?_, fun b hb => ?_, fun b hb => ?_, fun c' hc' => ?_, fun c' h1 h2 => ?_, ?_⟩
    · rw [oK b (by omega), oFi b (by omega), oBe b (by omega), oCe b (by omega)]; exact B4.1 b hb
    · rw [oN v (by omega), oS v (by omega), oI v (by omega), oT v (by omega), oC v (by omega)]; exact B4.2 v hv
    · by_cases e : b = nb
      · rw [e, eF1, eF nb (Nat.le_refl _)]; omega
      · have := BF b (by omega)
        rw [eF b (by omega), eF (b + 1) (by omega), eF1]; omega
    · by_cases e : b = nb
      · rw [e]; exact ⟨kd, hkd, nK, by rw [mK, if_pos rfl], fun _ => rfl⟩
      · obtain ⟨kd', e1, e2, e3, e4⟩ := B5 b (by omega)
        refine ⟨kd', e1, by rw [oK _ (by omega)]; exact e2, by rw [rK b (by omega)]; exact e3, fun z => absurd (by rw [e2, z]; rfl) (lK b (by omega))⟩
    · by_cases e : b = nb
      · rw [e, eF1, eF nb (Nat.le_refl _), kF, if_pos rfl, mF, if_pos rfl, kB, if_pos rfl]
        refine ⟨rfl, rfl, ?_⟩
        rw [hX]; split <;> rfl
      · rw [oFi _ (by omega), rF b (by omega), oBe _ (by omega), eF b (by omega), eF (b + 1) (by omega)]; exact B6 b (by omega)
    · by_cases e : b = nb
      · rw [e]; exact ⟨c, by rw [mNa, if_pos rfl]; exact hw, hc, by rw [kBN, if_pos rfl]⟩
      · obtain ⟨c', e1, e2, e3⟩ := B7 b (by omega)
        refine ⟨c', by rw [rNa b (by omega)]; exact e1, e2, ?_⟩
        rw [kBN, if_neg]
        · exact e3
        · intro z; rw [z, n2] at e3; exact absurd e3.symm (zc_m1 (by omega))
    · by_cases e : c' = c
      · subst e
        exact .inr (.inr ⟨nb, by omega, by rw [kBN, if_pos rfl], by rw [mNa, if_pos rfl]; exact hw⟩)
      · rw [kBN, if_neg e]
        rcases B8 c' hc' with q | q | ⟨b, q1, q2, q3⟩
        · exact .inl q
        · exact .inr (.inl q)
        · exact .inr (.inr ⟨b, by omega, q2, by rw [rNa b q1]; exact q3⟩)
    · rw [kBN, if_neg (show ¬ c' = c from fun z => n1 ⟨z ▸ h1, Nat.lt_of_lt_of_le (z ▸ h2) (show 50 ≤ 60 by decide)⟩)]; exact B9 c' h1 h2
    · rw [p2, show nb + 1 - 1 = nb from rfl, mK, if_pos rfl]
      by_cases e : kd = 3
      · rw [if_pos e, if_pos ⟨by omega, by rw [e]; rfl⟩, show 8 + (nb + 1) = 9 + nb by omega]
      · rw [if_neg e, if_neg (fun z => e ((zc_eq (k := 3) (by decide) hk4).mp z.2)), B10, if_neg q10]
  · -- names
    refine ⟨fun v hv => ?_, fun c' hc' => ?_, fun v h1 h2 => ?_⟩
    · rw [eF1] at hv
      by_cases e : v < F nb
      · rw [oN _ (by omega), rvN v e]; exact N1 v e
      · have := hX3 v (by omega) hv
        rw [vN, if_pos ⟨this.1, by omega⟩, wN, if_pos this]; exact hw
    · rw [vLN]
      by_cases e : kd = 1 ∧ c' = c
      · rw [if_pos e]
        exact .inr ⟨32 + F nb, by rw [eF1, hX, if_pos e.1]; omega, rfl, fun _ => by rw [vN, if_pos ⟨e.1, rfl⟩, e.2]⟩
      · rw [if_neg e]
        rcases N2 c' hc' with q | ⟨x, x1, x2, x3⟩
        · exact .inl q
        · exact .inr ⟨x, by rw [eF1]; omega, x2, fun z => by rw [oN x x1]; exact x3 z⟩
    · rw [show nb + 1 - 1 = nb from rfl, eF nb (Nat.le_refl _)] at h1
      rw [eF1] at h2
      have := hX3 v h1 h2
      exact ⟨c, hc, by rw [vN, if_pos ⟨this.1, by omega⟩], by rw [vLN, if_pos ⟨this.1, rfl⟩, this.2]⟩
  · -- variables
    refine ⟨fun v hv => ?_, fun b v hb h1 h2 h3 => ?_, fun v h1 h2 => by rw [eF1] at h2; omega, by rw [eF1]; exact Nat.le_refl _, fun _ => by rw [show nb + 1 - 1 = nb from rfl, eF nb (Nat.le_refl _), show 8 + (nb + 1) = 9 + nb by omega, nK]; exact ⟨hX1, fun z => by rw [hX, if_pos ((zc_eq (k := 1) (by decide) hk4).mp z)]; exact Nat.lt_succ_self _⟩⟩
    · rw [eF1] at hv
      by_cases e : v < F nb
      · rw [oS _ (by omega), rvSe v e]; exact W1 v e
      · have := hX3 v (by omega) hv
        exact ⟨3, by decide, by rw [vS, if_pos ⟨this.1, by omega⟩]; rfl, by rw [wSe, if_pos this]; rfl⟩
    · by_cases e : b = nb
      · subst e
        rw [eF _ (Nat.le_refl _)] at h1
        have := hX3 v h1 h3
        obtain ⟨k1, ev⟩ := this
        obtain ⟨t, t1, t2, _⟩ := zt k1
        have c0 : kd = 1 ∧ 32 + v = 32 + F b := ⟨k1, by omega⟩
        have c1 : kd = 1 ∧ v = F b := ⟨k1, ev⟩
        refine ⟨t, 0, 1, 1, ⟨t1, by rw [vT, if_pos c0, t2]⟩, ⟨by rw [vC, if_pos c0]; rfl, by rw [wC, if_pos c1]; rfl⟩, ⟨by rw [vLe, if_pos c0]; rfl, by rw [wSi, if_pos c1]; rfl⟩, by rw [kV, if_pos rfl, if_pos k1]; rfl, ⟨by omega, by omega, by omega, by rw [vL, if_pos c0, vCo, if_pos c0, wP, if_pos c1]; exact ⟨fun _ => .inl rfl, by decide, fun p z hp => absurd z.symm (zc_m1 (by omega))⟩⟩, by rw [wL, if_pos c1, vL, if_pos c0], by rw [wF, if_pos c1, vCo, if_pos c0], .inl ⟨by rw [vI, if_pos c0], by rw [wS, if_pos c1], by rw [wT, if_pos c1, t2], rfl⟩, .inl ⟨by rw [wP, if_pos c1], by omega, fun z => ?_⟩⟩
        rw [nK, k1] at z
        exact absurd z (by decide)
      · rw [eF b (by omega)] at h1
        rw [eF (b + 1) (by omega)] at h2
        have hb' := bF b (by omega)
        have g1 : v < F nb := by omega
        have g2 : 32 + v < 32 + F nb := by omega
        have g3 : 9 + b < 9 + nb := by omega
        have g4 : ¬ 9 + b = 9 + nb := by omega
        obtain ⟨t, x, sz, y, Q1, Q2, Q3, Q4, Q5, Q6, Q7, Q8, Q9⟩ := W2 b v (by omega) h1 h2 g1
        unfold zv_Q
        rw [oT _ g2, oI _ g2, oC _ g2, oL _ g2, oLe _ g2, oCo _ g2, rvS v g1, rvT v g1, rvC v g1, rvP v g1, rvL v g1, rvSi v g1, rvF v g1, oK _ g3, kV, if_neg g4]
        refine ⟨t, x, sz, y, Q1, Q2, Q3, Q4, Q5, Q6, Q7, ?_, Q9⟩
        rcases Q8 with q | q | ⟨B, q1, q2, q3, q4, q5, q6⟩
        · exact .inl q
        · exact .inr (.inl q)
        · exact .inr (.inr ⟨B, q1, q2, q3, q4, fun z => by rw [oK B (Nat.lt_trans q1 g3)]; exact q5 z, by rw [oCe B (Nat.lt_trans q1 g3)]; exact q6⟩)
  · -- cells
    refine ⟨.inr rfl, fun b hb => by rw [oCe _ (by omega), rC b hb]; exact C1 b hb, fun b h1 h2 => ?_, fun b hb => ?_⟩
    · have e : b = nb := by omega
      rw [e, kV, if_pos rfl, mC, if_pos rfl, nK]
      by_cases e1 : kd = 1
      · rw [if_pos e1]
        exact ⟨1, by omega, rfl, rfl, fun z => by rw [e1] at z; exact absurd z (by decide)⟩
      · rw [if_neg e1]
        by_cases e3 : kd = 3
        · rw [if_pos e3]; exact ⟨960, by omega, rfl, rfl, fun _ => Nat.le_refl _⟩
        · rw [if_neg e3]; exact ⟨0, by omega, rfl, rfl, fun z => absurd ((zc_eq (k := 3) (by decide) hk4).mp z) e3⟩
    · by_cases e : b = nb
      · rw [e, nK]
        intro z
        have e1 : kd = 1 := (zc_eq (k := 1) (by decide) hk4).mp z
        rw [eF1, eF nb (Nat.le_refl _), mT, if_pos rfl, if_pos e1, vT, if_pos ⟨e1, rfl⟩, hX, if_pos e1]
        exact ⟨Nat.lt_succ_self _, rfl, by rw [vC, if_pos ⟨e1, rfl⟩]⟩
      · rw [oK _ (by omega), eF b (by omega), eF (b + 1) (by omega), rT b (by omega)]
        intro z
        have h3 := C3 b (by omega) z
        have := bF b (by omega)
        rw [oT _ (by omega), oC _ (by omega)]
        exact h3
  · -- places
    have et : h'.2.1 40 = h.2.1 40 := fr.2.1 _ (by decide)
    refine ⟨fun c' hc' => by rw [et]; exact T1 c' hc', fun p hp h1 => ?_⟩
    rw [et, T2 p hp h1, show nb + 1 - 1 = nb from rfl, eF nb (Nat.le_refl _), eF1]
    constructor
    · rintro (q | ⟨v, q1, q2, q3⟩)
      · exact .inl q
      · exfalso
        by_cases e0 : nb = 0
        · subst e0
          have : F (0 - 1) = F 0 := rfl
          omega
        · have e1 : nb - 1 + 1 = nb := by omega
          have hq := W2 (nb - 1) v (by omega) q1 (by rw [e1]; exact q2) q2
          obtain ⟨_, _, _, _, _, _, _, _, _, _, _, _, hx⟩ := hq
          rcases hx with ⟨y1, _⟩ | ⟨p', _, _, y3, _⟩
          · rw [q3] at y1; exact absurd y1 (zc_m1 (by omega))
          · exact lK (nb - 1) (by omega) y3
    · rintro (q | ⟨v, q1, q2, q3⟩)
      · exact .inl q
      · have := hX3 v q1 q2
        rw [wP, if_pos this] at q3
        exact absurd q3.symm (zc_m1 (by omega))
