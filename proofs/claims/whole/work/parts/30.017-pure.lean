section
/-! The judge: the state when a block has begun. -/
theorem zv_Sfr {LC LM : List (List Int32)} {g g' : zs_H} {fs : List (Nat × Nat)} {ms : List Nat} (HS : zv_S LC LM g) (fr : zfr fs ms [] g g') (h1 : (68, 3) ∉ fs) (h2 : 71 ∉ ms) (h3 : 70 ∉ ms) : zv_S LC LM g' := by
  obtain ⟨S1, S2, S3, S4, S5, n1, n2, n3⟩ := HS
  refine ⟨S1, S2, S3, S4, S5, by rw [fr.1 _ _ h1]; exact n1, n2, fun k hk => ?_⟩
  rw [fr.2.1 _ h2, fr.2.1 _ h3]
  exact n3 k hk
theorem zv_beg2 {LC LM : List (List Int32)} {nb i k kd c : Nat} {F : Nat → Nat} {h g h' g' : zs_H} {w ty : Int32} (HS : zv_S LC LM g) (HB : zv_B LC LM nb F h g) (HN : zv_N LC LM nb F h g) (HV : zv_V nb (F nb) F h g) (HC : zv_C nb nb F h g) (HT : zv_T nb F (-1) h g) (J1 : (h.1 38 3) = 0) (J2 : (g.1 68 29) = 0) (hnb : nb < 568) (hnv : F nb < 5900) (hkd : kd = 1 ∨ kd = 2 ∨ kd = 3) (hw : zt_nr LC LM (nI c) w) (hc : c < 6000) (q10 : ¬ (0 < nb ∧ (g.2.1 86) (nb - 1) = 3)) (n1 : ¬ (41 ≤ c ∧ c < 60)) (n2 : (h.2.1 36) c = -1) (zt : kd = 1 → ∃ t, t < 3 ∧ ty = nI t ∧ ∃ i', i' < 32784 ∧ (h.2.1 17) i = nI i' ∧ (h.2.1 16) i' = nI t) (y2 : zv_BC (9 + nb) (32 + F nb) i kd c ty h h') (z2 : zv_BM nb (F nb) k kd w ty g g') :
    (h'.1 38 10) = 0 ∧ (h'.1 38 12) = (h.1 38 12) ∧ (h'.2.1 22) (9 + nb) = nI i ∧ (g'.2.1 84) nb = nI k ∧ (∀ b, b < nb → (h'.2.1 22) (9 + b) = (h.2.1 22) (9 + b) ∧ (g'.2.1 84) b = (g.2.1 84) b ∧ (h'.2.1 25) (9 + b) = (h.2.1 25) (9 + b)) ∧ (h'.2.1 21) (9 + nb) = nI kd ∧
        zv_I LC LM (nb + 1) nb (if kd = 1 then F nb + 1 else F nb) (fun j => if j = nb + 1 then (if kd = 1 then F nb + 1 else F nb) else F j) (-1) h' g' := by
  obtain ⟨⟨B1, B2, B3⟩, ⟨V1, V2, V3⟩, B4, BF, B5, B6, B7, B8, B9, B10⟩ := HB
  obtain ⟨N1, N2, N3⟩ := HN
  obtain ⟨W1, W2, W3, W4, W5⟩ := HV
  obtain ⟨C0, C1, C2, C3⟩ := HC
  obtain ⟨T1, T2⟩ := HT
  obtain ⟨⟨p1, p2, p3, p4, p5, _⟩, kK, kN, kF, kB, kV, kCe, kBN, vN, vS, vI, vT, vC, vL, vLe, vCo, vLN, fr⟩ := y2
  obtain ⟨⟨s1, s2, s3⟩, mN, mNa, mK, mT, mC, mF, wN, wS, wT, wC, wSe, wP, wL, wSi, wF, frm⟩ := z2
  have hk4 : kd < 2147483648 := by rcases hkd with e | e | e <;> rw [e] <;> decide
  obtain ⟨X, hX⟩ : ∃ X, X = if kd = 1 then F nb + 1 else F nb := ⟨_, rfl⟩
  have hX1 : F nb ≤ X := by rw [hX]; split <;> omega
  have hX2 : X ≤ F nb + 1 := by rw [hX]; split <;> omega
  have hX3 : ∀ v, F nb ≤ v → v < X → kd = 1 ∧ v = F nb := by intro v a b; rw [hX] at b; split at b <;> first | (exact ⟨by assumption, by omega⟩) | omega
  rw [← hX] at s3 ⊢
  obtain ⟨F', hF'⟩ : ∃ F', F' = fun j => if j = nb + 1 then X else F j := ⟨_, rfl⟩
  rw [← hF']
  have eF1 : F' (nb + 1) = X := by rw [hF']; exact if_pos rfl
  have eF : ∀ j, j ≤ nb → F' j = F j := fun j hj => by rw [hF']; exact if_neg (by omega)
  -- what is old stays
  have oK : ∀ b, b < 9 + nb → (h'.2.1 21) b = (h.2.1 21) b := fun b hb => by rw [kK, if_neg (by omega)]
  have oFi : ∀ b, b < 9 + nb → (h'.2.1 23) b = (h.2.1 23) b := fun b hb => by rw [kF, if_neg (by omega)]
  have oBe : ∀ b, b < 9 + nb → (h'.2.1 24) b = (h.2.1 24) b := fun b hb => by rw [kB, if_neg (by omega)]
  have oCe : ∀ b, b < 9 + nb → (h'.2.1 26) b = (h.2.1 26) b := fun b hb => by rw [kCe, if_neg (by omega)]
  have oN : ∀ v, v < 32 + F nb → (h'.2.1 28) v = (h.2.1 28) v := fun v hv => by rw [vN, if_neg (by omega)]
  have oS : ∀ v, v < 32 + F nb → (h'.2.1 29) v = (h.2.1 29) v := fun v hv => by rw [vS, if_neg (by omega)]
  have oI : ∀ v, v < 32 + F nb → (h'.2.1 30) v = (h.2.1 30) v := fun v hv => by rw [vI, if_neg (by omega)]
  have oT : ∀ v, v < 32 + F nb → (h'.2.1 31) v = (h.2.1 31) v := fun v hv => by rw [vT, if_neg (by omega)]
  have oC : ∀ v, v < 32 + F nb → (h'.2.1 32) v = (h.2.1 32) v := fun v hv => by rw [vC, if_neg (by omega)]
  have oL : ∀ v, v < 32 + F nb → (h'.2.1 33) v = (h.2.1 33) v := fun v hv => by rw [vL, if_neg (by omega)]
  have oLe : ∀ v, v < 32 + F nb → (h'.2.1 34) v = (h.2.1 34) v := fun v hv => by rw [vLe, if_neg (by omega)]
  have oCo : ∀ v, v < 32 + F nb → (h'.2.1 35) v = (h.2.1 35) v := fun v hv => by rw [vCo, if_neg (by omega)]
  have rK : ∀ b, b < nb → (g'.2.1 86) b = (g.2.1 86) b := fun b hb => by rw [mK, if_neg (by omega)]
  have rNa : ∀ b, b < nb → (g'.2.1 85) b = (g.2.1 85) b := fun b hb => by rw [mNa, if_neg (by omega)]
  have rT : ∀ b, b < nb → (g'.2.1 87) b = (g.2.1 87) b := fun b hb => by rw [mT, if_neg (by omega)]
  have rC : ∀ b, b < nb → (g'.2.1 88) b = (g.2.1 88) b := fun b hb => by rw [mC, if_neg (by omega)]
  have rF : ∀ b, b < nb → (g'.2.1 90) b = (g.2.1 90) b := fun b hb => by rw [mF, if_neg (by omega)]
  have rvN : ∀ v, v < F nb → (g'.2.1 91) v = (g.2.1 91) v := fun v hv => by rw [wN, if_neg (by omega)]
  have rvS : ∀ v, v < F nb → (g'.2.1 92) v = (g.2.1 92) v := fun v hv => by rw [wS, if_neg (by omega)]
  have rvT : ∀ v, v < F nb → (g'.2.1 93) v = (g.2.1 93) v := fun v hv => by rw [wT, if_neg (by omega)]
  have rvC : ∀ v, v < F nb → (g'.2.1 94) v = (g.2.1 94) v := fun v hv => by rw [wC, if_neg (by omega)]
  have rvSe : ∀ v, v < F nb → (g'.2.1 95) v = (g.2.1 95) v := fun v hv => by rw [wSe, if_neg (by omega)]
  have rvP : ∀ v, v < F nb → (g'.2.1 96) v = (g.2.1 96) v := fun v hv => by rw [wP, if_neg (by omega)]
  have rvL : ∀ v, v < F nb → (g'.2.1 97) v = (g.2.1 97) v := fun v hv => by rw [wL, if_neg (by omega)]
  have rvSi : ∀ v, v < F nb → (g'.2.1 98) v = (g.2.1 98) v := fun v hv => by rw [wSi, if_neg (by omega)]
  have rvF : ∀ v, v < F nb → (g'.2.1 99) v = (g.2.1 99) v := fun v hv => by rw [wF, if_neg (by omega)]
  have nK : (h'.2.1 21) (9 + nb) = nI kd := by rw [kK, if_pos rfl]
  have lK : ∀ b, b < nb → ¬ (h.2.1 21) (9 + b) = 3 := by
    intro b hb q
    obtain ⟨kd', e1, e2, e3, e4⟩ := B5 b hb
    have : kd' = 3 := (zc_eq (k := 3) (by decide) (by omega)).mp (e2.symm.trans q)
    have eb := e4 this
    exact q10 ⟨by omega, by rw [show nb - 1 = b by omega, e3, this]; rfl⟩
  have bF : ∀ b, b < nb → F (b + 1) ≤ F nb := fun b hb => (BF b hb).2
  refine ⟨p5, fr.1 _ _ (by decide), by rw [kN, if_pos rfl], by rw [mN, if_pos rfl], fun b hb => ⟨by rw [kN, if_neg (by omega)], by rw [mN, if_neg (by omega)], by rw [kV, if_neg (by omega)]⟩, nK, zv_Sfr HS frm (by decide) (by decide) (by decide), ?_, ?_, ?_, ?_, ?_, fun _ => ⟨by rw [p4, show 8 + (nb + 1) = 9 + nb by omega], s2⟩, (fr.1 _ _ (by decide)).trans J1, (frm.1 _ _ (by decide)).trans J2⟩
  · -- blocks
    refine ⟨⟨p1, s1, by omega⟩, ⟨by rw [eF1, p3, hX]; split <;> rfl, by rw [eF1]; exact s3, by omega⟩, ⟨fun b hb => ?_, fun v hv => ?_⟩, fun b hb => ?_, fun b hb => ?_, fun b hb => ?_, fun b hb => ?_, fun c' hc' => ?_, fun c' h1 h2 => ?_, ?_⟩
    · rw [oK b (by omega), oFi b (by omega), oBe b (by omega), oCe b (by omega)]; exact B4.1 b hb
    · rw [oN v (by omega), oS v (by omega), oI v (by omega), oT v (by omega), oC v (by omega)]; exact B4.2 v hv
    · by_cases e : b = nb
      · rw [e, eF1, eF nb (Nat.le_refl _)]; omega
      · have := BF b (by omega)
        rw [eF b (by omega), eF (b + 1) (by omega), eF1]; omega
    · by_cases e : b = nb
      · rw [e]; exact ⟨kd, hkd, nK, by rw [mK, if_pos rfl], fun _ => rfl⟩
      · obtain ⟨kd', e1, e2, e3, e4⟩ := B5 b (by omega)
        refine ⟨kd', e1, by rw [oK _ (by omega)]; exact e2, by rw [rK b (by omega)]; exact e3, fun z => absurd (by rw [e2, z]; rfl) (lK b (by omega))⟩
    · by_cases e : b = nb
      · rw [e, eF1, eF nb (Nat.le_refl _), kF, if_pos rfl, mF, if_pos rfl, kB, if_pos rfl]
        refine ⟨rfl, rfl, ?_⟩
        rw [hX]; split <;> rfl
      · rw [oFi _ (by omega), rF b (by omega), oBe _ (by omega), eF b (by omega), eF (b + 1) (by omega)]; exact B6 b (by omega)
    · by_cases e : b = nb
      · rw [e]; exact ⟨c, by rw [mNa, if_pos rfl]; exact hw, hc, by rw [kBN, if_pos rfl]⟩
      · obtain ⟨c', e1, e2, e3⟩ := B7 b (by omega)
        refine ⟨c', by rw [rNa b (by omega)]; exact e1, e2, ?_⟩
        rw [kBN, if_neg]
        · exact e3
        · intro z; rw [z, n2] at e3; exact absurd e3.symm (zc_m1 (by omega))
    · by_cases e : c' = c
      · subst e
        exact .inr (.inr ⟨nb, by omega, by rw [kBN, if_pos rfl], by rw [mNa, if_pos rfl]; exact hw⟩)
      · rw [kBN, if_neg e]
        rcases B8 c' hc' with q | q | ⟨b, q1, q2, q3⟩
        · exact .inl q
        · exact .inr (.inl q)
        · exact .inr (.inr ⟨b, by omega, q2, by rw [rNa b q1]; exact q3⟩)
    · rw [kBN, if_neg (show ¬ c' = c from fun z => n1 ⟨z ▸ h1, Nat.lt_of_lt_of_le (z ▸ h2) (show 50 ≤ 60 by decide)⟩)]; exact B9 c' h1 h2
    · rw [p2, show nb + 1 - 1 = nb from rfl, mK, if_pos rfl]
      by_cases e : kd = 3
      · rw [if_pos e, if_pos ⟨by omega, by rw [e]; rfl⟩, show 8 + (nb + 1) = 9 + nb by omega]
      · rw [if_neg e, if_neg (fun z => e ((zc_eq (k := 3) (by decide) hk4).mp z.2)), B10, if_neg q10]
  · -- names
    refine ⟨fun v hv => ?_, fun c' hc' => ?_, fun v h1 h2 => ?_⟩
    · rw [eF1] at hv
      by_cases e : v < F nb
      · rw [oN _ (by omega), rvN v e]; exact N1 v e
      · have := hX3 v (by omega) hv
        rw [vN, if_pos ⟨this.1, by omega⟩, wN, if_pos this]; exact hw
    · rw [vLN]
      by_cases e : kd = 1 ∧ c' = c
      · rw [if_pos e]
        exact .inr ⟨32 + F nb, by rw [eF1, hX, if_pos e.1]; omega, rfl, fun _ => by rw [vN, if_pos ⟨e.1, rfl⟩, e.2]⟩
      · rw [if_neg e]
        rcases N2 c' hc' with q | ⟨x, x1, x2, x3⟩
        · exact .inl q
        · exact .inr ⟨x, by rw [eF1]; omega, x2, fun z => by rw [oN x x1]; exact x3 z⟩
    · rw [show nb + 1 - 1 = nb from rfl, eF nb (Nat.le_refl _)] at h1
      rw [eF1] at h2
      have := hX3 v h1 h2
      exact ⟨c, hc, by rw [vN, if_pos ⟨this.1, by omega⟩], by rw [vLN, if_pos ⟨this.1, rfl⟩, this.2]⟩
  · -- variables
    refine ⟨fun v hv => ?_, fun b v hb h1 h2 h3 => ?_, fun v h1 h2 => by rw [eF1] at h2; omega, by rw [eF1]; exact Nat.le_refl _, fun _ => by rw [show nb + 1 - 1 = nb from rfl, eF nb (Nat.le_refl _), show 8 + (nb + 1) = 9 + nb by omega, nK]; exact ⟨hX1, fun z => by rw [hX, if_pos ((zc_eq (k := 1) (by decide) hk4).mp z)]; exact Nat.lt_succ_self _⟩⟩
    · rw [eF1] at hv
      by_cases e : v < F nb
      · rw [oS _ (by omega), rvSe v e]; exact W1 v e
      · have := hX3 v (by omega) hv
        exact ⟨3, by decide, by rw [vS, if_pos ⟨this.1, by omega⟩]; rfl, by rw [wSe, if_pos this]; rfl⟩
    · by_cases e : b = nb
      · subst e
        rw [eF _ (Nat.le_refl _)] at h1
        have := hX3 v h1 h3
        obtain ⟨k1, ev⟩ := this
        obtain ⟨t, t1, t2, _⟩ := zt k1
        have c0 : kd = 1 ∧ 32 + v = 32 + F b := ⟨k1, by omega⟩
        have c1 : kd = 1 ∧ v = F b := ⟨k1, ev⟩
        refine ⟨t, 0, 1, 1, ⟨t1, by rw [vT, if_pos c0, t2]⟩, ⟨by rw [vC, if_pos c0]; rfl, by rw [wC, if_pos c1]; rfl⟩, ⟨by rw [vLe, if_pos c0]; rfl, by rw [wSi, if_pos c1]; rfl⟩, by rw [kV, if_pos rfl, if_pos k1]; rfl, ⟨by omega, by omega, by omega, by rw [vL, if_pos c0, vCo, if_pos c0, wP, if_pos c1]; exact ⟨fun _ => .inl rfl, by decide, fun p z hp => absurd z.symm (zc_m1 (by omega))⟩⟩, by rw [wL, if_pos c1, vL, if_pos c0], by rw [wF, if_pos c1, vCo, if_pos c0], .inl ⟨by rw [vI, if_pos c0], by rw [wS, if_pos c1], by rw [wT, if_pos c1, t2], rfl⟩, .inl ⟨by rw [wP, if_pos c1], by omega, fun z => ?_⟩⟩
        rw [nK, k1] at z
        exact absurd z (by decide)
      · rw [eF b (by omega)] at h1
        rw [eF (b + 1) (by omega)] at h2
        have hb' := bF b (by omega)
        have g1 : v < F nb := by omega
        have g2 : 32 + v < 32 + F nb := by omega
        have g3 : 9 + b < 9 + nb := by omega
        have g4 : ¬ 9 + b = 9 + nb := by omega
        obtain ⟨t, x, sz, y, Q1, Q2, Q3, Q4, Q5, Q6, Q7, Q8, Q9⟩ := W2 b v (by omega) h1 h2 g1
        unfold zv_Q
        rw [oT _ g2, oI _ g2, oC _ g2, oL _ g2, oLe _ g2, oCo _ g2, rvS v g1, rvT v g1, rvC v g1, rvP v g1, rvL v g1, rvSi v g1, rvF v g1, oK _ g3, kV, if_neg g4]
        refine ⟨t, x, sz, y, Q1, Q2, Q3, Q4, Q5, Q6, Q7, ?_, Q9⟩
        rcases Q8 with q | q | ⟨B, q1, q2, q3, q4, q5, q6⟩
        · exact .inl q
        · exact .inr (.inl q)
        · exact .inr (.inr ⟨B, q1, q2, q3, q4, fun z => by rw [oK B (Nat.lt_trans q1 g3)]; exact q5 z, by rw [oCe B (Nat.lt_trans q1 g3)]; exact q6⟩)
  · -- cells
    refine ⟨.inr rfl, fun b hb => by rw [oCe _ (by omega), rC b hb]; exact C1 b hb, fun b h1 h2 => ?_, fun b hb => ?_⟩
    · have e : b = nb := by omega
      rw [e, kV, if_pos rfl, mC, if_pos rfl, nK]
      by_cases e1 : kd = 1
      · rw [if_pos e1]
        exact ⟨1, by omega, rfl, rfl, fun z => by rw [e1] at z; exact absurd z (by decide)⟩
      · rw [if_neg e1]
        by_cases e3 : kd = 3
        · rw [if_pos e3]; exact ⟨960, by omega, rfl, rfl, fun _ => Nat.le_refl _⟩
        · rw [if_neg e3]; exact ⟨0, by omega, rfl, rfl, fun z => absurd ((zc_eq (k := 3) (by decide) hk4).mp z) e3⟩
    · by_cases e : b = nb
      · rw [e, nK]
        intro z
        have e1 : kd = 1 := (zc_eq (k := 1) (by decide) hk4).mp z
        rw [eF1, eF nb (Nat.le_refl _), mT, if_pos rfl, if_pos e1, vT, if_pos ⟨e1, rfl⟩, hX, if_pos e1]
        exact ⟨Nat.lt_succ_self _, rfl, by rw [vC, if_pos ⟨e1, rfl⟩]⟩
      · rw [oK _ (by omega), eF b (by omega), eF (b + 1) (by omega), rT b (by omega)]
        intro z
        have h3 := C3 b (by omega) z
        have := bF b (by omega)
        rw [oT _ (by omega), oC _ (by omega)]
        exact h3
  · -- places
    have et : h'.2.1 40 = h.2.1 40 := fr.2.1 _ (by decide)
    refine ⟨fun c' hc' => by rw [et]; exact T1 c' hc', fun p hp h1 => ?_⟩
    rw [et, T2 p hp h1, show nb + 1 - 1 = nb from rfl, eF nb (Nat.le_refl _), eF1]
    constructor
    · rintro (q | ⟨v, q1, q2, q3⟩)
      · exact .inl q
      · exfalso
        by_cases e0 : nb = 0
        · subst e0
          have : F (0 - 1) = F 0 := rfl
          omega
        · have e1 : nb - 1 + 1 = nb := by omega
          have hq := W2 (nb - 1) v (by omega) q1 (by rw [e1]; exact q2) q2
          obtain ⟨_, _, _, _, _, _, _, _, _, _, _, _, hx⟩ := hq
          rcases hx with ⟨y1, _⟩ | ⟨p', _, _, y3, _⟩
          · rw [q3] at y1; exact absurd y1 (zc_m1 (by omega))
          · exact lK (nb - 1) (by omega) y3
    · rintro (q | ⟨v, q1, q2, q3⟩)
      · exact .inl q
      · have := hX3 v q1 q2
        rw [wP, if_pos this] at q3
        exact absurd q3.symm (zc_m1 (by omega))
end
section
/-! The judge: a block begins, both sides in step. -/
theorem zv_begin {LC LM : List (List Int32)} {nb i k kd c : Nat} {F : Nat → Nat} {h g : zs_H} {w p : Int32} (I : zv_I LC LM nb nb (F nb) F (-1) h g) (hnb : nb < 568) (hnv : F nb < 5900) (hi : i < 32784) (hk : k < 33500) (hkd : kd = 1 ∨ kd = 2 ∨ kd = 3) (c1 : (h.2.1 13) i = nI kd) (c2 : (h.2.1 16) i = nI c) (c3 : (h.2.1 15) i = p) (m1 : (g.2.1 72) k = nI kd) (m2 : (g.2.1 74) k = w) (m3 : (g.2.1 73) k = p) (hw : zt_nr LC LM (nI c) w) (hc : c < 6000)
    (hty : kd = 1 → ∃ i' k' ty, i' < 32784 ∧ k' < 33500 ∧ ty < 3 ∧ (h.2.1 17) i = nI i' ∧ (h.2.1 16) i' = nI ty ∧ (g.2.1 76) k = nI k' ∧ (g.2.1 74) k' = nI ty) :
    ∃ h' g', f_Jd_enterBlock h (nI i) = some h' ∧ f_Mo_beginBlock g (nI k) = some g' ∧ zfr zv_cf zv_cm [] h h' ∧ zfr zv_mf zv_mm [] g g' ∧
      ((∃ φ, zv_X φ p h' g') ∨ ((h'.1 38 10) = 0 ∧ (h'.1 38 12) = (h.1 38 12) ∧ (h'.2.1 22) (9 + nb) = nI i ∧ (g'.2.1 84) nb = nI k ∧ (∀ b, b < nb → (h'.2.1 22) (9 + b) = (h.2.1 22) (9 + b) ∧ (g'.2.1 84) b = (g.2.1 84) b ∧ (h'.2.1 25) (9 + b) = (h.2.1 25) (9 + b)) ∧ (h'.2.1 21) (9 + nb) = nI kd ∧
        zv_I LC LM (nb + 1) nb (if kd = 1 then F nb + 1 else F nb) (fun j => if j = nb + 1 then (if kd = 1 then F nb + 1 else F nb) else F j) (-1) h' g')) := by
  obtain ⟨HS, HB, HN, HV, HC, HT, HJ, J1, J2⟩ := I
  have hb0 := zv_bn (bd := nb) HS HB (Nat.le_refl _) hc hw
  have hst := zv_isS HS hw hc
  have hcl := hw
  obtain ⟨⟨B1, B2, B3⟩, ⟨V1, V2, V3⟩, B4, BF, B5, B6, B7, B8, B9, B10⟩ := HB
  have hk3 : kd < 4 := by rcases hkd with e | e | e <;> rw [e] <;> decide
  have hik : zd_in (nI k) 33500 := zi_in (by omega) hk
  have hii : zd_in (nI i) 32784 := zi_in (by omega) hi
  have eC : f_Jd_enterBlock h (nI i) = f_Jd_enterBlock_27 h (nI i) (nI c) (if 0 < nb ∧ (g.2.1 86) (nb - 1) = 3 then 1 else 0) := by
    unfold f_Jd_enterBlock
    rw [if_pos hii, nI_clamp (by omega), c2, B10]
    by_cases q : 0 < nb ∧ (g.2.1 86) (nb - 1) = 3
    · rw [if_pos q, if_pos q, if_neg (zc_m1 (by omega))]
    · rw [if_neg q, if_neg q, if_pos rfl]
  have eM : f_Mo_beginBlock g (nI k) = f_Mo_beginBlock_28 g (nI k) (if 0 < nb ∧ (g.2.1 86) (nb - 1) = 3 then 1 else 0) := by
    unfold f_Mo_beginBlock f_Mo_beginBlock_27
    rw [B2]
    by_cases q0 : nb = 0
    · rw [if_pos ((zc_el (k := 0) (by decide) (by omega)).mpr (by omega)), if_neg (fun q => by omega)]
    · rw [if_neg (mt (zc_el (k := 0) (by decide) (by omega)).mp (by omega)), show nI nb - 1 = nI (nb - 1) from zi_sub (b := 1) (by omega), if_pos (zi_in (by omega) (by omega)), nI_clamp (by omega)]
      by_cases q : (g.2.1 86) (nb - 1) = 3
      · rw [if_pos q, if_pos ⟨by omega, q⟩]
      · rw [if_neg q, if_neg (fun z => q z.2)]
  -- the model goes on behind a fault
  have goM : ∀ (g1 : zs_H) (y0 : Int32), (g1.1 68 33) = nI nb → (g1.1 68 41) = nI (F nb) → (g1.2.1 72) k = nI kd → (g1.2.1 74) k = w → (kd = 1 → (g1.2.1 76) k = (g.2.1 76) k ∧ ∀ j, (g1.2.1 74) j = (g.2.1 74) j) → f_Mo_rule g1 y0 11 (nI k) = some g1 → ∃ g', f_Mo_beginBlock_70 g1 (nI k) y0 = some g' ∧ ∃ ty, (kd = 1 → ∃ t, t < 3 ∧ ty = nI t ∧ ∃ i', i' < 32784 ∧ (h.2.1 17) i = nI i' ∧ (h.2.1 16) i' = nI t) ∧ zv_BM nb (F nb) k kd w ty g1 g' := by
    intro g1 y0 e1 e2 e3 e4 e5 e6
    by_cases q : kd = 1
    · obtain ⟨i', k', ty, t1, t2, t3, t4, t5, t6, t7⟩ := hty q
      obtain ⟨g', z1, z2⟩ := zv_bbR (ty := nI ty) e1 (by omega) e2 (by omega) hk hk3 e3 e4 (fun _ => ⟨k', t2, by rw [(e5 q).1]; exact t6, by rw [(e5 q).2]; exact t7⟩) e6
      exact ⟨g', z1, nI ty, fun _ => ⟨ty, t3, rfl, i', t1, t4, t5⟩, z2⟩
    · obtain ⟨g', z1, z2⟩ := zv_bbR (ty := 0) e1 (by omega) e2 (by omega) hk hk3 e3 e4 (fun z => absurd z q) e6
      exact ⟨g', z1, 0, fun z => absurd z q, z2⟩
  have frM : ∀ {g1 g'' : zs_H} {ty : Int32}, zv_BM nb (F nb) k kd w ty g1 g'' → zfr zv_mf zv_mm [] g1 g'' := fun z => by
    obtain ⟨_, _, _, _, _, _, _, _, _, _, _, _, _, _, _, _, z⟩ := z
    exact zfr_w z (by decide) (by decide) (by decide)
  have fault : ∀ (φ : Nat) (x1 x2 : Int32), 0 < φ → φ < 1000 → ∃ h2 g2, h2 = zs_uF (zs_uF h 38 3 (nI φ)) 38 0 ((h.2.1 15) i) ∧ g2 = zs_uF (zs_uF g 68 29 (nI φ)) 68 30 ((g.2.1 73) k) ∧ zfr zv_cf zv_cm [] h h2 ∧ zfr zv_mf zv_mm [] g g2 ∧ (h2.1 38 3) = nI φ ∧ (h2.1 38 0) = p ∧ (g2.1 68 29) = nI φ ∧ (g2.1 68 30) = p := by
    intro φ x1 x2 f1 f2
    refine ⟨_, _, rfl, rfl, zfr_F (by decide) (zfr_F (by decide) zfr_rfl), zfr_F (by decide) (zfr_F (by decide) zfr_rfl), rfl, c3, rfl, m3⟩
  rw [eC, eM]
  unfold f_Jd_enterBlock_27 f_Mo_beginBlock_28
  by_cases q10 : 0 < nb ∧ (g.2.1 86) (nb - 1) = 3
  · -- 10
    rw [if_pos q10]
    obtain ⟨h2, g2, eh, eg, f1, f2, x1, x2, x3, x4⟩ := fault 10 0 0 (by decide) (by decide)
    have nf : ¬ (h2.1 38 3) = 0 := by rw [x1]; decide
    have nj : ¬ (g2.1 68 29) = 0 := by rw [x3]; decide
    have r1 : f_Jd_refuseIf h 1 10 (nI i) = some h2 := by rw [eh]; exact zv_ref1 (φ := 10) (by decide) J1 hi
    have r2 : f_Mo_rule g 1 10 (nI k) = some g2 := by rw [eg]; exact zv_rule1 (φ := 10) (by decide) J2 hk
    rw [r1, r2, Option.bind_some, Option.bind_some]
    have ew : (g2.2.1 74) k = w := by rw [eg]; exact m2
    have es : f_Mo_isStandard g2 w = some (if 41 ≤ c ∧ c < 60 then 1 else 0) := zv_isS (LC := LC) (LM := LM) (by rw [eg]; exact HS) hw hc
    have eb : f_Mo_blockNamed g2 w (nI nb) = f_Mo_blockNamed g w (nI nb) := by rw [eg]; rfl
    have goC : ∀ y0, f_Jd_enterBlock_59 h2 (nI i) (nI c) y0 = some h2 := by
      intro y0
      unfold f_Jd_enterBlock_59
      rw [zv_refF nf, Option.bind_some, if_neg nf]
    have goM2 : ∀ y0, ∃ g', f_Mo_beginBlock_70 g2 (nI k) y0 = some g' ∧ zfr zv_mf zv_mm [] g2 g' ∧ (g'.1 68 29) = nI 10 ∧ (g'.1 68 30) = p := by
      intro y0
      obtain ⟨g', z1, ty, _, z2⟩ := goM g2 y0 (by rw [eg]; exact B2) (by rw [eg]; exact V2) (by rw [eg]; exact m1) ew (fun _ => by rw [eg]; exact ⟨rfl, fun _ => rfl⟩) (zv_ruleF nj)
      refine ⟨g', z1, frM z2, ?_, ?_⟩
      all_goals
        obtain ⟨_, _, _, _, _, _, _, _, _, _, _, _, _, _, _, _, z⟩ := z2
        rw [z.1 _ _ (by decide)]
        assumption
    have eC2 : (if zd_in (nI c) 6000 then (if ((h2.2.1 36) (nI c).toNatClampNeg) = (-1) then (if (f_Nm_isStandardFunction (nI c)) = 0 then f_Jd_enterBlock_59 h2 (nI i) (nI c) 0 else f_Jd_enterBlock_54 h2 (nI i) (nI c)) else f_Jd_enterBlock_54 h2 (nI i) (nI c)) else none) = some h2 := by
      unfold f_Jd_enterBlock_54
      rw [if_pos (zi_in (by omega) hc), goC, goC]
      split
      · split <;> rfl
      · rfl
    have eM2 : ∃ y0, (if zd_in (nI k) 33500 then ((f_Mo_isStandard g2 ((g2.2.1 74) (nI k).toNatClampNeg)).bind fun v5 => (if v5 = 0 then ((f_Mo_blockNamed g2 ((g2.2.1 74) (nI k).toNatClampNeg) ((g2.1 68 33))).bind fun v9 => (if v9 < 0 then f_Mo_beginBlock_70 g2 (nI k) 0 else f_Mo_beginBlock_65 g2 (nI k))) else f_Mo_beginBlock_65 g2 (nI k))) else none) = f_Mo_beginBlock_70 g2 (nI k) y0 := by
      unfold f_Mo_beginBlock_65
      rw [if_pos hik, nI_clamp (by omega), ew, es, Option.bind_some, show (g2.1 68 33) = nI nb by rw [eg]; exact B2, eb]
      by_cases z : 41 ≤ c ∧ c < 60
      · exact ⟨1, by rw [if_pos z, if_neg (by decide)]⟩
      · rw [if_neg z, if_pos rfl]
        rcases hb0 with ⟨b, _, _, e⟩ | ⟨e, _⟩
        · exact ⟨1, by rw [e, Option.bind_some, if_neg (mt (zc_tl (k := 0) (by decide) (by omega)).mp (by omega))]⟩
        · exact ⟨0, by rw [e, Option.bind_some, if_pos (by decide)]⟩
    obtain ⟨y0, eM3⟩ := eM2
    obtain ⟨g', z1, z2, z3, z4⟩ := goM2 y0
    exact ⟨h2, g', eC2, eM3.trans z1, f1, zfr_trans f2 z2, .inl ⟨10, by decide, by decide, x1, x2, z3, z4⟩⟩
  · rw [if_neg q10, zv_ref0, zv_rule0, Option.bind_some, Option.bind_some, if_pos (zi_in (by omega) hc), if_pos hik]
    by_cases q11 : (41 ≤ c ∧ c < 60) ∨ ¬ (h.2.1 36) c = -1
    · -- 11
      obtain ⟨h2, g2, eh, eg, f1, f2, x1, x2, x3, x4⟩ := fault 11 0 0 (by decide) (by decide)
      have nf : ¬ (h2.1 38 3) = 0 := by rw [x1]; decide
      have nj : ¬ (g2.1 68 29) = 0 := by rw [x3]; decide
      have r1 : f_Jd_refuseIf h 1 11 (nI i) = some h2 := by rw [eh]; exact zv_ref1 (φ := 11) (by decide) J1 hi
      have r2 : f_Mo_rule g 1 11 (nI k) = some g2 := by rw [eg]; exact zv_rule1 (φ := 11) (by decide) J2 hk
      have goC : f_Jd_enterBlock_59 h (nI i) (nI c) 1 = some h2 := by
        unfold f_Jd_enterBlock_59
        rw [r1, Option.bind_some, if_neg nf]
      have goM2 : ∃ g', f_Mo_beginBlock_70 g (nI k) 1 = some g' ∧ zfr zv_mf zv_mm [] g2 g' ∧ (g'.1 68 29) = nI 11 ∧ (g'.1 68 30) = p := by
        obtain ⟨g', z1, ty, _, z2⟩ := goM g2 1 (by rw [eg]; exact B2) (by rw [eg]; exact V2) (by rw [eg]; exact m1) (by rw [eg]; exact m2) (fun _ => by rw [eg]; exact ⟨rfl, fun _ => rfl⟩) (zv_ruleF nj)
        have e70 : f_Mo_beginBlock_70 g (nI k) 1 = f_Mo_beginBlock_70 g2 (nI k) 1 := by
          unfold f_Mo_beginBlock_70
          rw [r2, zv_ruleF nj]
        refine ⟨g', e70.trans z1, frM z2, ?_, ?_⟩
        all_goals
          obtain ⟨_, _, _, _, _, _, _, _, _, _, _, _, _, _, _, _, z⟩ := z2
          rw [z.1 _ _ (by decide)]
          assumption
      obtain ⟨g', z1, z2, z3, z4⟩ := goM2
      refine ⟨h2, g', ?_, ?_, f1, zfr_trans f2 z2, .inl ⟨11, by decide, by decide, x1, x2, z3, z4⟩⟩
      · unfold f_Jd_enterBlock_54
        rw [nI_clamp (by omega), zv_isF hc, goC]
        by_cases z : (h.2.1 36) c = -1
        · rw [if_pos z]
          have hcc : 50 ≤ c ∧ c < 60 := by
            rcases q11 with q | q
            · by_cases z2 : c < 50
              · rw [B9 c q.1 z2] at z; exact absurd z (zc_m1 (by omega))
              · omega
            · exact absurd z q
          rw [if_pos hcc, if_neg (by decide)]
        · rw [if_neg z]
      · unfold f_Mo_beginBlock_65
        rw [nI_clamp (by omega), m2, hst, Option.bind_some, B2]
        by_cases z : 41 ≤ c ∧ c < 60
        · rw [if_pos z, if_neg (by decide), z1]
        · rw [if_neg z, if_pos rfl]
          rcases hb0 with ⟨b, _, _, e⟩ | ⟨e, e'⟩
          · rw [e, Option.bind_some, if_neg (mt (zc_tl (k := 0) (by decide) (by omega)).mp (by omega)), z1]
          · exfalso
            rcases q11 with q | q
            · exact z q
            · rcases B8 c hc with y | ⟨y1, y2, y3⟩ | ⟨b, y1, y2, y3⟩
              · exact q y
              · omega
              · exact e' b y1 y2
    · -- a new block
      have n1 : ¬ (41 ≤ c ∧ c < 60) := fun z => q11 (.inl z)
      have n2 : (h.2.1 36) c = -1 := Classical.byContradiction fun z => q11 (.inr z)
      obtain ⟨g', z1, ty, zt, z2⟩ := goM g 0 B2 V2 m1 m2 (fun _ => ⟨rfl, fun _ => rfl⟩) zv_rule0
      have hty2 : kd = 1 → ∃ i', i' < 32784 ∧ (h.2.1 17) i = nI i' ∧ (h.2.1 16) i' = ty := fun q => by
        obtain ⟨t, _, e1, i', e2, e3, e4⟩ := zt q
        exact ⟨i', e2, e3, e4.trans e1.symm⟩
      obtain ⟨h', y1, y2⟩ := zv_ebR (ty := ty) B1 (by omega) V1 (by omega) hi hk3 c1 hc hty2 zv_ref0 J1
      have eb : f_Mo_blockNamed g w (nI nb) = some (-1) := by
        rcases hb0 with ⟨b, _, e, _⟩ | ⟨e, _⟩
        · rw [n2] at e; exact absurd e.symm (zc_m1 (by omega))
        · exact e
      refine ⟨h', g', ?_, ?_, ?_, frM z2, .inr ?_⟩
      · rw [nI_clamp (by omega), if_pos n2, zv_isF hc, if_neg (show ¬ (50 ≤ c ∧ c < 60) from fun z => n1 ⟨Nat.le_trans (show 41 ≤ 50 by decide) z.1, z.2⟩), if_pos rfl, y1]
      · rw [nI_clamp (by omega), m2, hst, Option.bind_some, if_neg n1, if_pos rfl, B2, eb, Option.bind_some, if_pos (by decide), z1]
      · obtain ⟨_, _, _, _, _, _, _, _, _, _, _, _, _, _, _, _, _, z⟩ := y2
        exact zfr_w z (by decide) (by decide) (by decide)
      · exact zv_beg2 HS ⟨⟨B1, B2, B3⟩, ⟨V1, V2, V3⟩, B4, BF, B5, B6, B7, B8, B9, B10⟩ HN HV HC HT J1 J2 hnb hnv hkd hw hc q10 n1 n2 zt y2 z2
end
section
/-! The judge: sections, arrays, types. -/
theorem zv_bmod {x : Int} (h1 : -4611686018427387904 ≤ x) (h2 : x < 4611686018427387904) : x.bmod (2 ^ 64) = x := Int.bmod_eq_of_le (by omega) (by omega)
theorem zv_i64 (a b : Int32) : (b.toInt64 - a.toInt64).toInt = b.toInt - a.toInt ∧ (b.toInt64 - a.toInt64 + 1).toInt = b.toInt - a.toInt + 1 := by
  have a1 := Int32.le_toInt a
  have a2 := Int32.toInt_lt a
  have b1 := Int32.le_toInt b
  have b2 := Int32.toInt_lt b
  have e : (b.toInt64 - a.toInt64).toInt = b.toInt - a.toInt := by
    rw [Int64.toInt_sub, Int32.toInt_toInt64, Int32.toInt_toInt64, zv_bmod (by omega) (by omega)]
  refine ⟨e, ?_⟩
  rw [Int64.toInt_add, e, show (1 : Int64).toInt = 1 from rfl, zv_bmod (by omega) (by omega)]
theorem zv_64 (a b : Int32) : (b.toInt64 - a.toInt64 + 1 < 1 ↔ b.toInt64 - a.toInt64 < 0) ∧ (b.toInt64 - a.toInt64 + 1 ≤ 256 ↔ b.toInt64 - a.toInt64 ≤ 255) := by
  obtain ⟨e1, e2⟩ := zv_i64 a b
  constructor
  · rw [Int64.lt_iff_toInt_lt, Int64.lt_iff_toInt_lt, e1, e2, show (1 : Int64).toInt = 1 from rfl, show (0 : Int64).toInt = 0 from rfl]; omega
  · rw [Int64.le_iff_toInt_le, Int64.le_iff_toInt_le, e1, e2, show (256 : Int64).toInt = 256 from rfl, show (255 : Int64).toInt = 255 from rfl]; omega
/-- both sides refuse a node -/
def zv_Y (φ i k : Nat) (h g h' g' : zs_H) : Prop := h' = zs_uF (zs_uF h 38 3 (nI φ)) 38 0 ((h.2.1 15) i) ∧ g' = zs_uF (zs_uF g 68 29 (nI φ)) 68 30 ((g.2.1 73) k)
theorem zv_YX {φ i k : Nat} {p : Int32} {h g h' g' : zs_H} (Y : zv_Y φ i k h g h' g') (h1 : 0 < φ) (h2 : φ < 1000) (c3 : (h.2.1 15) i = p) (m3 : (g.2.1 73) k = p) : zv_X φ p h' g' ∧ zfr zv_cf zv_cm [] h h' ∧ zfr zv_mf zv_mm [] g g' := by
  obtain ⟨e1, e2⟩ := Y
  rw [e1, e2]
  exact ⟨⟨h1, h2, rfl, c3, rfl, m3⟩, zfr_F (by decide) (zfr_F (by decide) zfr_rfl), zfr_F (by decide) (zfr_F (by decide) zfr_rfl)⟩
theorem zv_both {h g : zs_H} {φ i k : Nat} (C : Prop) [Decidable C] (J1 : (h.1 38 3) = 0) (J2 : (g.1 68 29) = 0) (hi : i < 32784) (hk : k < 33500) : ∃ h' g', f_Jd_refuseIf h (if C then 1 else 0) (nI φ) (nI i) = some h' ∧ f_Mo_rule g (if C then 1 else 0) (nI φ) (nI k) = some g' ∧ ((¬ C ∧ h' = h ∧ g' = g) ∨ (C ∧ zv_Y φ i k h g h' g')) := by
  by_cases c : C
  · rw [if_pos c]
    exact ⟨_, _, zv_ref1 (by decide) J1 hi, zv_rule1 (by decide) J2 hk, .inr ⟨c, rfl, rfl⟩⟩
  · rw [if_neg c]
    exact ⟨_, _, zv_ref0, zv_rule0, .inl ⟨c, rfl, rfl⟩⟩
theorem zv_cur {LC LM : List (List Int32)} {nb nf ns : Nat} {F : Nat → Nat} {q : Int32} {h g : zs_H} (I : zv_I LC LM nb nf ns F q h g) (hb : 0 < nb) : ∃ kd, (kd = 1 ∨ kd = 2 ∨ kd = 3) ∧ (h.2.1 21) (8 + nb) = nI kd ∧ (g.2.1 86) (nb - 1) = nI kd ∧ (h.1 38 4) = nI (8 + nb) ∧ (g.1 68 54) = nI (nb - 1) ∧ nb ≤ 568 := by
  obtain ⟨_, ⟨⟨_, _, B3⟩, _, _, _, B5, _⟩, _, _, _, _, HJ, _, _⟩ := I
  obtain ⟨kd, e1, e2, e3, _⟩ := B5 (nb - 1) (by omega)
  rw [show 9 + (nb - 1) = 8 + nb by omega] at e2
  exact ⟨kd, e1, e2, e3, (HJ hb).1, (HJ hb).2, B3⟩
/-- 13 -/
theorem zv_section {LC LM : List (List Int32)} {nb nf ns i k s : Nat} {F : Nat → Nat} {q : Int32} {h g : zs_H} (I : zv_I LC LM nb nf ns F q h g) (hb : 0 < nb) (hi : i < 32784) (hk : k < 33500) (hs : s < 3) (c1 : (h.1 38 5) = nI s) (m1 : (g.2.1 72) k = 4) (m2 : (g.2.1 74) k = nI s) :
    ∃ h' g', f_Jd_judgeSection h (nI i) = some h' ∧ f_Mo_lookAtBlocks g (nI k) = some g' ∧ ((h' = h ∧ g' = g) ∨ zv_Y 13 i k h g h' g') := by
  obtain ⟨kd, k1, k2, k3, k4, k5, k6⟩ := zv_cur I hb
  obtain ⟨_, _, _, _, _, _, _, J1, J2⟩ := I
  have hk4 : kd < 2147483648 := by rcases k1 with e | e | e <;> rw [e] <;> decide
  obtain ⟨h', g', r1, r2, r3⟩ := zv_both (φ := 13) (i := i) (k := k) ((kd = 3 ∧ ¬ s = 0) ∨ (kd = 1 ∧ s = 2)) J1 J2 hi hk
  refine ⟨h', g', ?_, ?_, ?_⟩
  · unfold f_Jd_judgeSection f_Jd_judgeSection_23 f_Jd_judgeSection_47 f_Jd_judgeSection_51 f_Jd_judgeSection_52
    rw [k4, if_pos (zi_in (by omega) (by omega)), if_pos (zi_in (by omega) (by omega)), nI_clamp (by omega), k2, c1, ← r1]
    have e3 : (nI kd = 3) ↔ kd = 3 := zc_eq (k := 3) (by decide) hk4
    have e1 : (nI kd = 1) ↔ kd = 1 := zc_eq (k := 1) (by decide) hk4
    have s0 : (nI s = 0) ↔ s = 0 := zc_eq (k := 0) (by decide) (by omega)
    have s2 : (nI s = 2) ↔ s = 2 := zc_eq (k := 2) (by decide) (by omega)
    simp only [e3, e1, s0, s2, Option.bind_fun_some]
    by_cases x3 : kd = 3
    · have x1 : ¬ kd = 1 := by omega
      by_cases x0 : s = 0
      · simp only [x3, x0, if_true, if_neg (show ¬ (3 : Nat) = 1 by decide), not_true, and_false, false_and, or_self, if_false, show ((3 : Nat) = 1) = False by simp]; rfl
      · simp only [x3, x0, if_true, if_false, not_false_iff, and_self, true_or]; rfl
    · by_cases x1 : kd = 1
      · by_cases x2 : s = 2
        · simp only [x1, x2, if_true, if_neg (show ¬ (1 : Nat) = 3 by decide), and_self, or_true]; rfl
        · simp only [x1, x2, if_true, if_neg (show ¬ (1 : Nat) = 3 by decide), if_false, and_false, or_false, show ((1 : Nat) = 3) = False by simp, false_and]; rfl
      · simp only [x3, x1, if_false, false_and, or_self]; rfl
  · unfold f_Mo_lookAtBlocks f_Mo_lookAtBlocks_134 f_Mo_lookAtBlocks_157 f_Mo_lookAtBlocks_161 f_Mo_lookAtBlocks_162
    have ck : (nI k).toNatClampNeg = k := nI_clamp (by omega)
    have hik : zd_in (nI k) 33500 := zi_in (by omega) hk
    have hib : zd_in (nI (nb - 1)) 2100 := zi_in (by omega) (by omega)
    have cb : (nI (nb - 1)).toNatClampNeg = nb - 1 := nI_clamp (by omega)
    have e3 : (nI kd = 3) ↔ kd = 3 := zc_eq (k := 3) (by decide) hk4
    have e1 : (nI kd = 1) ↔ kd = 1 := zc_eq (k := 1) (by decide) hk4
    have s0 : (nI s = 0) ↔ s = 0 := zc_eq (k := 0) (by decide) (by omega)
    have s2 : (nI s = 2) ↔ s = 2 := zc_eq (k := 2) (by decide) (by omega)
    rw [← r2]
    simp only [if_pos hik, ck, m1, m2, show ¬ (4 : Int32) = 0 by decide, show ¬ (4 : Int32) = 1 by decide, show ¬ (4 : Int32) = 2 by decide, show ¬ (4 : Int32) = 3 by decide, if_false, if_true, k5, if_pos hib, cb, k3, e3, e1, s0, s2, Option.bind_fun_some]
    by_cases x3 : kd = 3
    · have x1 : ¬ kd = 1 := by omega
      by_cases x0 : s = 0
      · simp only [x3, x0, if_true, if_neg (show ¬ (3 : Nat) = 1 by decide), not_true, and_false, false_and, or_self, if_false, show ((3 : Nat) = 1) = False by simp]; rfl
      · simp only [x3, x0, if_true, if_false, not_false_iff, and_self, true_or]; rfl
    · by_cases x1 : kd = 1
      · by_cases x2 : s = 2
        · simp only [x1, x2, if_true, if_neg (show ¬ (1 : Nat) = 3 by decide), and_self, or_true]; rfl
        · simp only [x1, x2, if_true, if_neg (show ¬ (1 : Nat) = 3 by decide), if_false, and_false, or_false, show ((1 : Nat) = 3) = False by simp, false_and]; rfl
      · simp only [x3, x1, if_false, false_and, or_self]; rfl
  · rcases r3 with ⟨_, e1, e2⟩ | ⟨_, e⟩
    · exact .inl ⟨e1, e2⟩
    · exact .inr e
/-- what block a name means while a block is open -/
theorem zv_blk {LC LM : List (List Int32)} {nb nf ns c : Nat} {F : Nat → Nat} {q : Int32} {h g : zs_H} {w : Int32} (I : zv_I LC LM nb nf ns F q h g) (hb : 0 < nb) (hw : zt_nr LC LM (nI c) w) (hc : c < 6000) :
    (41 ≤ c ∧ c < 50 ∧ (h.2.1 36) c = nI (c - 41) ∧ f_Mo_wordOf_s10 g w = some (nI (c - 41)) ∧ (h.2.1 21) (c - 41) = 0 ∧ f_Mo_blockNamed g w (nI (nb - 1)) = some (-1)) ∨
    (∃ b kd, b < nb - 1 ∧ (h.2.1 36) c = nI (9 + b) ∧ f_Mo_wordOf_s10 g w = some (-1) ∧ f_Mo_blockNamed g w (nI (nb - 1)) = some (nI b) ∧ (kd = 1 ∨ kd = 2) ∧ (h.2.1 21) (9 + b) = nI kd ∧ (g.2.1 86) b = nI kd) ∨
    (((h.2.1 36) c = -1 ∨ (h.2.1 36) c = nI (8 + nb)) ∧ f_Mo_wordOf_s10 g w = some (-1) ∧ f_Mo_blockNamed g w (nI (nb - 1)) = some (-1)) := by
  obtain ⟨HS, HB, _, _, _, _, _, _, _⟩ := I
  have h1 := zv_bn (bd := nb - 1) HS HB (by omega) hc hw
  have h2 := zv_wB HS hw hc
  obtain ⟨⟨B1, B2, B3⟩, ⟨V1, V2, V3⟩, B4, BF, B5, B6, B7, B8, B9, B10⟩ := HB
  by_cases c1 : 41 ≤ c ∧ c < 50
  · have e := B9 c c1.1 c1.2
    rw [if_pos c1] at h2
    refine .inl ⟨c1.1, c1.2, e, h2, (B4.1 _ (by omega)).1, ?_⟩
    rcases h1 with ⟨b, y1, y2, _⟩ | ⟨y, _⟩
    · rw [e] at y2; have := (nI_eq (by omega) (by omega)).mp y2; omega
    · exact y
  · rw [if_neg c1] at h2
    rcases h1 with ⟨b, y1, y2, y3⟩ | ⟨y1, y2⟩
    · obtain ⟨kd, e1, e2, e3, e4⟩ := B5 b (by omega)
      have n3 : ¬ kd = 3 := fun z => by have := e4 z; omega
      exact .inr (.inl ⟨b, kd, y1, y2, h2, y3, by rcases e1 with e | e | e <;> first | exact .inl e | exact .inr e | exact absurd e n3, e2, e3⟩)
    · refine .inr (.inr ⟨?_, h2, y1⟩)
      rcases B8 c hc with z | ⟨z1, z2, _⟩ | ⟨b, z1, z2, _⟩
      · exact .inl z
      · exact absurd ⟨z1, z2⟩ c1
      · by_cases eb : b = nb - 1
        · rw [z2, eb]; exact .inr (by rw [show 9 + (nb - 1) = 8 + nb by omega])
        · exact absurd z2 (y2 b (by omega))
/-- 17 -/
theorem zv_btype {LC LM : List (List Int32)} {nb nf ns i k c : Nat} {F : Nat → Nat} {q w : Int32} {h g : zs_H} (I : zv_I LC LM nb nf ns F q h g) (hb : 0 < nb) (hi : i < 32784) (hk : k < 33500) (hw : zt_nr LC LM (nI c) w) (hc : c < 6000) (c1 : (h.2.1 16) i = nI c) (m1 : (g.2.1 72) k = 10) (m2 : (g.2.1 74) k = w) :
    ∃ h' g', f_Jd_judgeBlockType h (nI i) = some h' ∧ f_Mo_lookAtBlocks g (nI k) = some g' ∧ ((h' = h ∧ g' = g ∧ ¬ (h.2.1 21) (8 + nb) = 1 ∧ ∃ B, B < 8 + nb ∧ (h.2.1 36) c = nI B ∧ (9 ≤ B → (h.2.1 21) B = 2) ∧ f_Mo_blockOf g w = some (nI (if B < 9 then 100000 + B else B - 9))) ∨ zv_Y 17 i k h g h' g') := by
  obtain ⟨kd, k1, k2, k3, k4, k5, k6⟩ := zv_cur I hb
  have hbl := zv_blk I hb hw hc
  obtain ⟨_, _, _, _, _, _, _, J1, J2⟩ := I
  have hk4 : kd < 2147483648 := by rcases k1 with e | e | e <;> rw [e] <;> decide
  have ck : (nI k).toNatClampNeg = k := nI_clamp (by omega)
  have ci : (nI i).toNatClampNeg = i := nI_clamp (by omega)
  have cc : (nI c).toNatClampNeg = c := nI_clamp (by omega)
  have cn : (nI (8 + nb)).toNatClampNeg = 8 + nb := nI_clamp (by omega)
  have hik : zd_in (nI k) 33500 := zi_in (by omega) hk
  have hii : zd_in (nI i) 32784 := zi_in (by omega) hi
  have hic : zd_in (nI c) 6000 := zi_in (by omega) hc
  have hin : zd_in (nI (8 + nb)) 629 := zi_in (by omega) (by omega)
  have hib : zd_in (nI (nb - 1)) 2100 := zi_in (by omega) (by omega)
  have cb : (nI (nb - 1)).toNatClampNeg = nb - 1 := nI_clamp (by omega)
  have e1 : (nI kd = 1) ↔ kd = 1 := zc_eq (k := 1) (by decide) hk4
  have eM0 : f_Mo_lookAtBlocks g (nI k) = (f_Mo_blockNamed g w (nI (nb - 1))).bind fun v45 => (if kd = 1 then f_Mo_rule g 1 17 (nI k) else ((f_Mo_wordOf_s10 g w).bind fun v49 => (if 0 ≤ v49 then f_Mo_rule g 0 17 (nI k) else (if v45 < 0 then f_Mo_rule g 1 17 (nI k) else (if zd_in v45 2100 then (if ((g.2.1 86) v45.toNatClampNeg) = 2 then f_Mo_rule g 0 17 (nI k) else f_Mo_rule g 1 17 (nI k)) else none))))) := by
    unfold f_Mo_lookAtBlocks f_Mo_lookAtBlocks_330 f_Mo_lookAtBlocks_334 f_Mo_lookAtBlocks_335
    simp only [if_pos hik, ck, m1, m2, show ¬ (10 : Int32) = 0 by decide, show ¬ (10 : Int32) = 1 by decide, show ¬ (10 : Int32) = 2 by decide, show ¬ (10 : Int32) = 3 by decide, show ¬ (10 : Int32) = 4 by decide, show ¬ (10 : Int32) = 5 by decide, show ¬ (10 : Int32) = 6 by decide, show ¬ (10 : Int32) = 7 by decide, show ¬ (10 : Int32) = 8 by decide, show ¬ (10 : Int32) = 9 by decide, if_false, if_true, k5, if_pos hib, cb, k3, e1, Option.bind_fun_some]
  have eC0 : f_Jd_judgeBlockType h (nI i) = if (h.2.1 36) c = -1 then f_Jd_refuseIf h 1 17 (nI i) else if (h.2.1 36) c = nI (8 + nb) then f_Jd_refuseIf h 1 17 (nI i) else if zd_in ((h.2.1 36) c) 629 then (if (h.2.1 21) ((h.2.1 36) c).toNatClampNeg = 0 ∨ (h.2.1 21) ((h.2.1 36) c).toNatClampNeg = 2 then f_Jd_refuseIf h (if kd = 1 then 1 else 0) 17 (nI i) else f_Jd_refuseIf h 1 17 (nI i)) else none := by
    unfold f_Jd_judgeBlockType f_Jd_judgeBlockType_60 f_Jd_judgeBlockType_56 f_Jd_judgeBlockType_61 f_Jd_judgeBlockType_83 f_Jd_judgeBlockType_88
    simp only [if_pos hii, ci, c1, if_pos hic, cc, k4, if_pos hin, cn, k2, e1, Option.bind_fun_some, if_true, show ¬ (1 : Int32) = 0 by decide, if_false]
    by_cases x1 : kd = 1
    · simp only [x1, if_true]
      by_cases y0 : (h.2.1 21) ((h.2.1 36) c).toNatClampNeg = 0 <;> by_cases y2 : (h.2.1 21) ((h.2.1 36) c).toNatClampNeg = 2 <;> simp only [y0, y2, if_true, if_false, or_true, true_or, or_self, ite_self]
    · simp only [x1, if_false]
      by_cases y0 : (h.2.1 21) ((h.2.1 36) c).toNatClampNeg = 0 <;> by_cases y2 : (h.2.1 21) ((h.2.1 36) c).toNatClampNeg = 2 <;> simp only [y0, y2, if_true, if_false, or_true, true_or, or_self, ite_self]
  have bad : ∃ h' g', f_Jd_refuseIf h 1 17 (nI i) = some h' ∧ f_Mo_rule g 1 17 (nI k) = some g' ∧ zv_Y 17 i k h g h' g' := ⟨_, _, zv_ref1 (φ := 17) (by decide) J1 hi, zv_rule1 (φ := 17) (by decide) J2 hk, rfl, rfl⟩
  obtain ⟨h2, g2, b1, b2, b3⟩ := bad
  rw [eC0, eM0]
  rcases hbl with ⟨x1, x2, x3, x4, x5, x6⟩ | ⟨b, kd', x1, x2, x3, x4, x5, x6, x7⟩ | ⟨x1, x2, x3⟩
  · rw [x3, if_neg (zc_m1 (by omega)), if_neg (fun z => by have := (nI_eq (by omega) (by omega)).mp z; omega), if_pos (zi_in (by omega) (by omega)), nI_clamp (by omega), x5, if_pos (.inl rfl), x6, Option.bind_some, x4, Option.bind_some, if_pos ((zc_le (k := 0) (by decide) (by omega)).mpr (by omega))]
    by_cases y : kd = 1
    · rw [if_pos y, if_pos y]; exact ⟨h2, g2, b1, b2, .inr b3⟩
    · rw [if_neg y, if_neg y]
      refine ⟨h, g, zv_ref0, zv_rule0, .inl ⟨rfl, rfl, by rw [k2]; exact mt e1.mp y, c - 41, by omega, rfl, fun z => by omega, ?_⟩⟩
      unfold f_Mo_blockOf
      rw [x4, Option.bind_some, if_neg (mt (zc_tl (k := 0) (by decide) (by omega)).mp (by omega)), if_pos (by omega), show (100000 : Int32) + nI (c - 41) = nI (100000 + (c - 41)) from zc_da 100000 _]
  · have hk5 : kd' < 2147483648 := by rcases x5 with e | e <;> rw [e] <;> decide
    rw [x2, if_neg (zc_m1 (by omega)), if_neg (fun z => by have := (nI_eq (by omega) (by omega)).mp z; omega), if_pos (zi_in (by omega) (by omega)), nI_clamp (n := 9 + b) (by omega), x6, x4, Option.bind_some, x3, Option.bind_some, if_neg (show ¬ (0 : Int32) ≤ -1 by decide), if_neg (mt (zc_tl (k := 0) (by decide) (by omega)).mp (by omega)), if_pos (zi_in (by omega) (by omega)), nI_clamp (n := b) (by omega), x7]
    have z2 : (nI kd' = 2) ↔ kd' = 2 := zc_eq (k := 2) (by decide) hk5
    have z0 : ¬ nI kd' = 0 := fun z => by have := (zc_eq (k := 0) (by decide) hk5).mp z; omega
    by_cases y : kd = 1
    · rw [if_pos y, if_pos y]
      refine ⟨h2, g2, ?_, b2, .inr b3⟩
      split <;> exact b1
    · rw [if_neg y, if_neg y]
      by_cases y2 : kd' = 2
      · rw [if_pos (.inr (z2.mpr y2)), if_pos (z2.mpr y2)]
        refine ⟨h, g, zv_ref0, zv_rule0, .inl ⟨rfl, rfl, by rw [k2]; exact mt e1.mp y, 9 + b, by omega, rfl, fun _ => by rw [x6, y2]; rfl, ?_⟩⟩
        unfold f_Mo_blockOf
        rw [x3, Option.bind_some, if_pos (by decide), k5, x4, Option.bind_some, if_neg (by omega), show 9 + b - 9 = b by omega]
      · rw [if_neg (fun z => z.elim z0 (fun z => y2 (z2.mp z))), if_neg (mt z2.mp y2)]
        exact ⟨h2, g2, b1, b2, .inr b3⟩
  · rw [x3, Option.bind_some, x2, Option.bind_some, if_neg (show ¬ (0 : Int32) ≤ -1 by decide), if_pos (show (-1 : Int32) < 0 by decide)]
    refine ⟨h2, g2, ?_, by split <;> exact b2, .inr b3⟩
    rcases x1 with x1 | x1
    · rw [if_pos x1]; exact b1
    · rw [x1, if_neg (zc_m1 (by omega)), if_pos rfl]; exact b1
/-- 16 -/
theorem zv_array {LC LM : List (List Int32)} {nb nf ns i k i1 i2 k1 k2 a1 a2 : Nat} {F : Nat → Nat} {q v1 v2 : Int32} {h g : zs_H} (I : zv_I LC LM nb nf ns F q h g) (hb : 0 < nb) (hi : i < 32784) (hk : k < 33500) (hi1 : i1 < 32784) (hi2 : i2 < 32784) (hk1 : k1 < 33500) (hk2 : k2 < 33500) (ha1 : a1 < 100) (ha2 : a2 < 100) (c1 : (h.2.1 17) i = nI i1) (c2 : (h.2.1 18) i1 = nI i2) (c3 : (h.2.1 13) i1 = nI a1) (c4 : (h.2.1 13) i2 = nI a2) (c5 : (h.2.1 16) i1 = v1) (c6 : (h.2.1 16) i2 = v2) (m0 : (g.2.1 72) k = 9) (m1 : (g.2.1 76) k = nI k1) (m2 : (g.2.1 78) k1 = nI k2) (m3 : (g.2.1 72) k1 = nI a1) (m4 : (g.2.1 72) k2 = nI a2) (m5 : (g.2.1 74) k1 = v1) (m6 : (g.2.1 74) k2 = v2) :
    ∃ h' g', f_Jd_judgeArray h (nI i) = some h' ∧ f_Mo_lookAtBlocks g (nI k) = some g' ∧ ((h' = h ∧ g' = g ∧ ¬ a1 = 31 ∧ ¬ a2 = 31 ∧ ¬ v2.toInt64 - v1.toInt64 < 0 ∧ v2.toInt64 - v1.toInt64 ≤ 255) ∨ zv_Y 16 i k h g h' g') := by
  obtain ⟨kd, y1, y2, y3, y4, y5, y6⟩ := zv_cur I hb
  obtain ⟨_, _, _, _, _, _, _, J1, J2⟩ := I
  have hk4 : kd < 2147483648 := by rcases y1 with e | e | e <;> rw [e] <;> decide
  have ck : (nI k).toNatClampNeg = k := nI_clamp (by omega)
  have ci : (nI i).toNatClampNeg = i := nI_clamp (by omega)
  have ci1 : (nI i1).toNatClampNeg = i1 := nI_clamp (by omega)
  have ci2 : (nI i2).toNatClampNeg = i2 := nI_clamp (by omega)
  have ck1 : (nI k1).toNatClampNeg = k1 := nI_clamp (by omega)
  have ck2 : (nI k2).toNatClampNeg = k2 := nI_clamp (by omega)
  have cn : (nI (8 + nb)).toNatClampNeg = 8 + nb := nI_clamp (by omega)
  have hik : zd_in (nI k) 33500 := zi_in (by omega) hk
  have hii : zd_in (nI i) 32784 := zi_in (by omega) hi
  have hi1' : zd_in (nI i1) 32784 := zi_in (by omega) hi1
  have hi2' : zd_in (nI i2) 32784 := zi_in (by omega) hi2
  have hk1' : zd_in (nI k1) 33500 := zi_in (by omega) hk1
  have hk2' : zd_in (nI k2) 33500 := zi_in (by omega) hk2
  have hin : zd_in (nI (8 + nb)) 629 := zi_in (by omega) (by omega)
  have hib : zd_in (nI (nb - 1)) 2100 := zi_in (by omega) (by omega)
  have cb : (nI (nb - 1)).toNatClampNeg = nb - 1 := nI_clamp (by omega)
  have e1 : (nI kd = 1) ↔ kd = 1 := zc_eq (k := 1) (by decide) hk4
  have ea1 : (nI a1 = 31) ↔ a1 = 31 := zc_eq (k := 31) (by decide) (by omega)
  have ea2 : (nI a2 = 31) ↔ a2 = 31 := zc_eq (k := 31) (by decide) (by omega)
  have e64 := zv_64 v1 v2
  obtain ⟨h', g', r1, r2, r3⟩ := zv_both (φ := 16) (i := i) (k := k) (kd = 1 ∨ a1 = 31 ∨ a2 = 31 ∨ v2.toInt64 - v1.toInt64 < 0 ∨ ¬ v2.toInt64 - v1.toInt64 ≤ 255) J1 J2 hi hk
  refine ⟨h', g', ?_, ?_, ?_⟩
  · rw [← r1]
    unfold f_Jd_judgeArray f_Jd_judgeArray_47 f_Jd_judgeArray_52 f_Jd_judgeArray_100 f_Jd_judgeArray_105 f_Jd_judgeArray_129 f_Jd_judgeArray_134 f_Tr_second
    simp only [if_pos hii, ci, c1, if_neg (zc_m1 (show i1 < 2147483648 by omega)), if_pos hi1', ci1, c2, Option.bind_some, c3, ea1, if_pos hi2', ci2, c4, ea2, y4, if_pos hin, cn, y2, e1, c5, c6, Option.bind_fun_some, e64.1, e64.2, show ¬ (1 : Int32) = 0 by decide, if_false, if_true]
    by_cases x1 : kd = 1 <;> by_cases x2 : a1 = 31 <;> by_cases x3 : a2 = 31 <;> by_cases x4 : v2.toInt64 - v1.toInt64 < 0 <;> by_cases x5 : v2.toInt64 - v1.toInt64 ≤ 255 <;> simp only [x1, x2, x3, x4, x5, if_true, if_false, true_or, or_true, not_true, not_false_iff, or_self, or_false] <;> rfl
  · rw [← r2]
    unfold f_Mo_lookAtBlocks f_Mo_lookAtArray f_Mo_lookAtArray_49 f_Mo_lookAtArray_54 f_Mo_lookAtArray_104 f_Mo_lookAtArray_109
    simp only [if_pos hik, ck, m0, m1, m2, m3, m4, m5, m6, if_pos hk1', if_pos hk2', ck1, ck2, ea1, ea2, show ¬ (9 : Int32) = 0 by decide, show ¬ (9 : Int32) = 1 by decide, show ¬ (9 : Int32) = 2 by decide, show ¬ (9 : Int32) = 3 by decide, show ¬ (9 : Int32) = 4 by decide, show ¬ (9 : Int32) = 5 by decide, show ¬ (9 : Int32) = 6 by decide, show ¬ (9 : Int32) = 7 by decide, show ¬ (9 : Int32) = 8 by decide, show ¬ (1 : Int32) = 0 by decide, if_false, if_true, y5, if_pos hib, cb, y3, e1, Option.bind_fun_some]
    by_cases x1 : kd = 1 <;> by_cases x2 : a1 = 31 <;> by_cases x3 : a2 = 31 <;> by_cases x4 : v2.toInt64 - v1.toInt64 < 0 <;> by_cases x5 : v2.toInt64 - v1.toInt64 ≤ 255 <;> simp only [x1, x2, x3, x4, x5, if_true, if_false, true_or, or_true, not_true, not_false_iff, or_self, or_false] <;> rfl
  · rcases r3 with ⟨x, e1, e2⟩ | ⟨_, e⟩
    · exact .inl ⟨e1, e2, fun z => x (.inr (.inl z)), fun z => x (.inr (.inr (.inl z))), fun z => x (.inr (.inr (.inr (.inl z)))), Classical.byContradiction fun z => x (.inr (.inr (.inr (.inr z))))⟩
    · exact .inr e
end
section
/-! The judge: a declared name. -/
abbrev zv_nl : List Nat := [28, 29, 30, 31, 32, 33, 34, 35, 37, 24]
abbrev zv_gl : List Nat := [91, 92, 93, 94, 95, 96, 97, 98, 99]
/-- the model's new variable -/
theorem zv_addM {g : zs_H} {nv k k5 k4 : Nat} {w s : Int32} (h1 : (g.1 68 41) = nI nv) (h2 : nv < 8400) (hk : k < 33500) (h5 : k5 < 33500) (h4 : k4 < 33500) (a1 : (g.2.1 75) k = nI k5) (a2 : (g.2.1 75) k5 = nI k4) (a3 : (g.2.1 74) k4 = s) : ∃ g', f_Mo_lookAtName_62 g (nI k) w 0 = some g' ∧ (g'.1 68 41) = nI (nv + 1) ∧ (∀ i, (g'.2.1 91) i = if i = nv then w else (g.2.1 91) i) ∧ (∀ i, (g'.2.1 95) i = if i = nv then s else (g.2.1 95) i) ∧ (∀ i, (g'.2.1 96) i = if i = nv then -1 else (g.2.1 96) i) ∧ (∀ i, ¬ i = nv → (g'.2.1 92) i = (g.2.1 92) i ∧ (g'.2.1 93) i = (g.2.1 93) i ∧ (g'.2.1 94) i = (g.2.1 94) i ∧ (g'.2.1 97) i = (g.2.1 97) i ∧ (g'.2.1 98) i = (g.2.1 98) i ∧ (g'.2.1 99) i = (g.2.1 99) i) ∧ zfr [(68, 41)] [91, 92, 93, 94, 95, 96, 97, 98, 99] [] g g' := by
  unfold f_Mo_lookAtName_62
  have hik : zd_in (nI k) 33500 := zi_in (by omega) hk
  have hi5 : zd_in (nI k5) 33500 := zi_in (by omega) h5
  have hi4 : zd_in (nI k4) 33500 := zi_in (by omega) h4
  have ck : (nI k).toNatClampNeg = k := nI_clamp (by omega)
  have c5 : (nI k5).toNatClampNeg = k5 := nI_clamp (by omega)
  have c4 : (nI k4).toNatClampNeg = k4 := nI_clamp (by omega)
  have cv : (nI nv).toNatClampNeg = nv := nI_clamp (by omega)
  have hiv : zd_in (nI nv) 8400 := zi_in (by omega) h2
  rw [zv_rule0, Option.bind_some]
  simp only [zu_FM, zu_MM, zu_FF, zu_MF, h1, a1, a2, a3, f_Mo_addVariable, zd_B, Nat.reduceEqDiff, and_true, true_and, and_false, false_and, if_true, if_false, if_pos hiv, if_pos hik, if_pos hi5, if_pos hi4, cv, ck, c5, c4, Option.bind_some, nI_1, show nI (nv + 1) - 1 = nI nv from zi_sub (b := 1) (by omega)]
  refine ⟨_, rfl, ?_, fun i => ?_, fun i => ?_, fun i => ?_, fun i hi => ⟨?_, ?_, ?_, ?_, ?_, ?_⟩, ?_⟩
  all_goals first | (refine zfr_M (by decide) ?_; repeat (first | exact zfr_rfl | refine zfr_M (by decide) ?_ | refine zfr_F (by decide) ?_)) | simp only [zu_FM, zu_MM, zu_FF, zu_MF, Nat.reduceEqDiff, and_true, true_and, and_false, false_and, if_true, if_false]
  all_goals (first | rfl | (rw [if_neg hi]) | (split <;> first | rfl | simp_all))
/-- the state with a new variable -/
theorem zv_add2 {LC LM : List (List Int32)} {nb nf ns c s : Nat} {F : Nat → Nat} {h g h' g' : zs_H} {w q : Int32} (I : zv_I LC LM nb nf ns F q h g) (hb : 0 < nb) (hnv : F nb < 5900) (hw : zt_nr LC LM (nI c) w) (hc : c < 6000) (hs : s < 3) (hn : ∀ v, F (nb - 1) ≤ v → v < F nb → ¬ (h.2.1 28) (32 + v) = nI c)
    (y2 : zj_D (8 + nb) (32 + F nb) c (nI s) h h') (s3 : (g'.1 68 41) = nI (F nb + 1)) (wN : ∀ i, (g'.2.1 91) i = if i = F nb then w else (g.2.1 91) i) (wSe : ∀ i, (g'.2.1 95) i = if i = F nb then nI s else (g.2.1 95) i) (wP : ∀ i, (g'.2.1 96) i = if i = F nb then -1 else (g.2.1 96) i) (wO : ∀ i, ¬ i = F nb → (g'.2.1 92) i = (g.2.1 92) i ∧ (g'.2.1 93) i = (g.2.1 93) i ∧ (g'.2.1 94) i = (g.2.1 94) i ∧ (g'.2.1 97) i = (g.2.1 97) i ∧ (g'.2.1 98) i = (g.2.1 98) i ∧ (g'.2.1 99) i = (g.2.1 99) i) (frm : zfr [(68, 41)] [91, 92, 93, 94, 95, 96, 97, 98, 99] [] g g') :
    zv_I LC LM nb nf ns (fun j => if j = nb then F nb + 1 else F j) q h' g' := by
  obtain ⟨HS, ⟨⟨B1, B2, B3⟩, ⟨V1, V2, V3⟩, B4, BF, B5, B6, B7, B8, B9, B10⟩, ⟨N1, N2, N3⟩, ⟨W1, W2, W3, W4, W5⟩, ⟨C0, C1, C2, C3⟩, ⟨T1, T2⟩, HJ, J1, J2⟩ := I
  obtain ⟨p3, vN, vS, vI, vT, vC, vL, vLe, vCo, vLN, kB, fr⟩ := y2
  obtain ⟨F', hF'⟩ : ∃ F', F' = fun j => if j = nb then F nb + 1 else F j := ⟨_, rfl⟩
  rw [← hF']
  have eF1 : F' nb = F nb + 1 := by rw [hF']; exact if_pos rfl
  have eF : ∀ j, j < nb → F' j = F j := fun j hj => by rw [hF']; exact if_neg (by omega)
  have oN : ∀ v, v < 32 + F nb → (h'.2.1 28) v = (h.2.1 28) v := fun v hv => by rw [vN, if_neg (by omega)]
  have oS : ∀ v, v < 32 + F nb → (h'.2.1 29) v = (h.2.1 29) v := fun v hv => by rw [vS, if_neg (by omega)]
  have oI : ∀ v, v < 32 + F nb → (h'.2.1 30) v = (h.2.1 30) v := fun v hv => by rw [vI, if_neg (by omega)]
  have oT : ∀ v, v < 32 + F nb → (h'.2.1 31) v = (h.2.1 31) v := fun v hv => by rw [vT, if_neg (by omega)]
  have oC : ∀ v, v < 32 + F nb → (h'.2.1 32) v = (h.2.1 32) v := fun v hv => by rw [vC, if_neg (by omega)]
  have oL : ∀ v, v < 32 + F nb → (h'.2.1 33) v = (h.2.1 33) v := fun v hv => by rw [vL, if_neg (by omega)]
  have oLe : ∀ v, v < 32 + F nb → (h'.2.1 34) v = (h.2.1 34) v := fun v hv => by rw [vLe, if_neg (by omega)]
  have oCo : ∀ v, v < 32 + F nb → (h'.2.1 35) v = (h.2.1 35) v := fun v hv => by rw [vCo, if_neg (by omega)]
  have eK : h'.2.1 21 = h.2.1 21 := fr.2.1 _ (by decide)
  have eFi : h'.2.1 23 = h.2.1 23 := fr.2.1 _ (by decide)
  have eVc : h'.2.1 25 = h.2.1 25 := fr.2.1 _ (by decide)
  have eCe : h'.2.1 26 = h.2.1 26 := fr.2.1 _ (by decide)
  have eBN : h'.2.1 36 = h.2.1 36 := fr.2.1 _ (by decide)
  have eTk : h'.2.1 40 = h.2.1 40 := fr.2.1 _ (by decide)
  have gK : g'.2.1 86 = g.2.1 86 := frm.2.1 _ (by decide)
  have gNa : g'.2.1 85 = g.2.1 85 := frm.2.1 _ (by decide)
  have gT : g'.2.1 87 = g.2.1 87 := frm.2.1 _ (by decide)
  have gC : g'.2.1 88 = g.2.1 88 := frm.2.1 _ (by decide)
  have gF : g'.2.1 90 = g.2.1 90 := frm.2.1 _ (by decide)
  have oB : ∀ b, ¬ b = 8 + nb → (h'.2.1 24) b = (h.2.1 24) b := fun b hb => by rw [kB, if_neg hb]
  refine ⟨zv_Sfr HS frm (by decide) (by decide) (by decide), ?_, ?_, ?_, ?_, ?_, fun z => ⟨(fr.1 _ _ (by decide)).trans (HJ z).1, (frm.1 _ _ (by decide)).trans (HJ z).2⟩, (fr.1 _ _ (by decide)).trans J1, (frm.1 _ _ (by decide)).trans J2⟩
  · refine ⟨⟨(fr.1 _ _ (by decide)).trans B1, (frm.1 _ _ (by decide)).trans B2, B3⟩, ⟨by rw [eF1]; exact p3, by rw [eF1]; exact s3, by omega⟩, ⟨fun b hb => ?_, fun v hv => ?_⟩, fun b hb => ?_, fun b hb => ?_, fun b hb => ?_, fun b hb => ?_, fun c' hc' => ?_, fun c' h1 h2 => ?_, ?_⟩
    · rw [eK, eFi, oB b (by omega), eCe]; exact B4.1 b hb
    · rw [oN v (by omega), oS v (by omega), oI v (by omega), oT v (by omega), oC v (by omega)]; exact B4.2 v hv
    · have := BF b hb
      by_cases e : b + 1 = nb
      · rw [e, eF1, eF b hb, e] at *; omega
      · rw [eF b hb, eF (b + 1) (by omega), eF1]; omega
    · rw [eK, gK]; exact B5 b hb
    · have := B6 b hb
      rw [eFi, gF, eF b hb]
      by_cases e : b + 1 = nb
      · refine ⟨this.1, this.2.1, ?_⟩
        rw [kB, if_pos (by omega), e, eF1, Nat.add_assoc]
      · rw [oB _ (by omega), eF (b + 1) (by omega)]; exact this
    · rw [gNa, eBN]; exact B7 b hb
    · rw [gNa, eBN]; exact B8 c' hc'
    · rw [eBN]; exact B9 c' h1 h2
    · rw [fr.1 _ _ (by decide), gK]; exact B10
  · refine ⟨fun v hv => ?_, fun c' hc' => ?_, fun v h1 h2 => ?_⟩
    · rw [eF1] at hv
      by_cases e : v < F nb
      · rw [oN _ (by omega), wN, if_neg (by omega)]; exact N1 v e
      · rw [vN, if_pos (by omega), wN, if_pos (by omega)]; exact hw
    · rw [vLN]
      by_cases e : c' = c
      · rw [if_pos e]
        exact .inr ⟨32 + F nb, by rw [eF1]; omega, rfl, fun _ => by rw [vN, if_pos rfl, e]⟩
      · rw [if_neg e]
        rcases N2 c' hc' with z | ⟨x, x1, x2, x3⟩
        · exact .inl z
        · exact .inr ⟨x, by rw [eF1]; omega, x2, fun z => by rw [oN x x1]; exact x3 z⟩
    · rw [eF (nb - 1) (by omega)] at h1
      rw [eF1] at h2
      by_cases e : v < F nb
      · obtain ⟨c', z1, z2, z3⟩ := N3 v h1 e
        refine ⟨c', z1, by rw [oN _ (by omega)]; exact z2, ?_⟩
        rw [vLN, if_neg]
        · exact z3
        · intro z
          rw [z] at z2
          exact hn v h1 e z2
      · exact ⟨c, hc, by rw [vN, if_pos (by omega)], by rw [vLN, if_pos rfl, show v = F nb by omega]⟩
  · refine ⟨fun v hv => ?_, fun b v hb h1 h2 h3 => ?_, fun v h1 h2 => ?_, by rw [eF1]; omega, fun z => by rw [eF (nb - 1) (by omega), eK]; exact W5 z⟩
    · rw [eF1] at hv
      by_cases e : v < F nb
      · rw [oS _ (by omega), wSe, if_neg (by omega)]; exact W1 v e
      · exact ⟨s, by omega, by rw [vS, if_pos (by omega)], by rw [wSe, if_pos (by omega), if_neg (by omega)]⟩
    · rw [eF b hb] at h1
      have h2' : v < F (b + 1) := by
        by_cases e : b + 1 = nb
        · rw [e]; omega
        · rw [eF (b + 1) (by omega)] at h2; exact h2
      have hq := W2 b v hb h1 h2' h3
      obtain ⟨o1, o2, o3, o4, o5, o6⟩ := wO v (by omega)
      unfold zv_Q at hq ⊢
      rw [oT _ (by omega), oI _ (by omega), oC _ (by omega), oL _ (by omega), oLe _ (by omega), oCo _ (by omega), o1, o2, o3, o4, o5, o6, wP, if_neg (by omega), eK, eVc, eCe]
      exact hq
    · rw [eF1] at h2
      rw [wP]
      by_cases e : v = F nb
      · rw [if_pos e]
      · rw [if_neg e]; exact W3 v h1 (by omega)
  · refine ⟨C0, fun b hb => by rw [eCe, gC]; exact C1 b hb, fun b h1 h2 => by rw [eVc, gC, eK]; exact C2 b h1 h2, fun b hb => ?_⟩
    rw [eK, gT]
    intro z
    have h3 := C3 b hb z
    have h4 := BF b hb
    rw [eF b hb, oT _ (by omega), oC _ (by omega)]
    refine ⟨?_, h3.2⟩
    by_cases e : b + 1 = nb
    · rw [e, eF1]; rw [e] at h4; omega
    · rw [eF (b + 1) (by omega)]; exact h3.1
  · refine ⟨fun c' hc' => by rw [eTk]; exact T1 c' hc', fun p hp h1 => ?_⟩
    rw [eTk, T2 p hp h1, eF (nb - 1) (by omega), eF1]
    constructor
    · rintro (z | ⟨v, z1, z2, z3⟩)
      · exact .inl z
      · exact .inr ⟨v, z1, by omega, by rw [wP, if_neg (by omega)]; exact z3⟩
    · rintro (z | ⟨v, z1, z2, z3⟩)
      · exact .inl z
      · rw [wP] at z3
        by_cases e : v = F nb
        · rw [if_pos e] at z3; exact absurd z3.symm (zc_m1 (by omega))
        · rw [if_neg e] at z3; exact .inr ⟨v, z1, by omega, z3⟩
/-- 12 -/
theorem zv_name {LC LM : List (List Int32)} {nb nf ns i k k5 k4 c s : Nat} {F : Nat → Nat} {q w p : Int32} {h g : zs_H} (I : zv_I LC LM nb nf ns F q h g) (hb : 0 < nb) (hnv : F nb < 5900) (hi : i < 32784) (hk : k < 33500) (h5 : k5 < 33500) (h4 : k4 < 33500) (hw : zt_nr LC LM (nI c) w) (hc : c < 6000) (hs : s < 3) (c1 : (h.2.1 16) i = nI c) (c2 : (h.2.1 15) i = p) (c3 : (h.1 38 5) = nI s) (m1 : (g.2.1 72) k = 6) (m2 : (g.2.1 74) k = w) (m3 : (g.2.1 73) k = p) (a1 : (g.2.1 75) k = nI k5) (a2 : (g.2.1 75) k5 = nI k4) (a3 : (g.2.1 74) k4 = nI s) (a4 : (g.2.1 72) k5 = 5) :
    ∃ h' g', f_Jd_declareName h (nI i) = some h' ∧ f_Mo_lookAtBlocks g (nI k) = some g' ∧ zfr zv_cf zv_cm [] h h' ∧ zfr zv_mf zv_mm [] g g' ∧ ((∃ φ, zv_X φ p h' g') ∨ (zv_I LC LM nb nf ns (fun j => if j = nb then F nb + 1 else F j) q h' g' ∧ zfr [(20, 18)] zv_nl [] h h' ∧ zfr [(68, 41)] zv_gl [] g g')) := by
  obtain ⟨kd, y1, y2, y3, y4, y5, y6⟩ := zv_cur I hb
  have I0 := I
  obtain ⟨HS, HB, HN, HV, HC, HT, HJ, J1, J2⟩ := I
  have hh := zv_here HS HB HN hb hc hw
  have hst := zv_isS HS hw hc
  have hbn := zv_bn (bd := nb) HS HB (Nat.le_refl _) hc hw
  obtain ⟨⟨B1, B2, B3⟩, ⟨V1, V2, V3⟩, B4, BF, B5, B6, B7, B8, B9, B10⟩ := HB
  have ck : (nI k).toNatClampNeg = k := nI_clamp (by omega)
  have ci : (nI i).toNatClampNeg = i := nI_clamp (by omega)
  have cc : (nI c).toNatClampNeg = c := nI_clamp (by omega)
  have hik : zd_in (nI k) 33500 := zi_in (by omega) hk
  have hii : zd_in (nI i) 32784 := zi_in (by omega) hi
  have hic : zd_in (nI c) 6000 := zi_in (by omega) hc
  have hi5 : zd_in (nI k5) 33500 := zi_in (by omega) h5
  have c5 : (nI k5).toNatClampNeg = k5 := nI_clamp (by omega)
  have eM0 : f_Mo_lookAtBlocks g (nI k) = (f_Mo_variable g (nI (nb - 1)) w).bind fun v9 => (if 0 ≤ v9 then f_Mo_lookAtName_57 g (nI k) w else ((f_Mo_blockNamed g w (nI nb)).bind fun v12 => (if 0 ≤ v12 then f_Mo_lookAtName_57 g (nI k) w else ((f_Mo_isStandard g w).bind fun v15 => (if v15 = 0 then f_Mo_lookAtName_62 g (nI k) w 0 else f_Mo_lookAtName_57 g (nI k) w))))) := by
    unfold f_Mo_lookAtBlocks f_Mo_lookAtName
    simp only [if_pos hik, ck, m1, m2, a1, c5, a4, if_pos hi5, B2, y5, show ¬ (6 : Int32) = 0 by decide, show ¬ (6 : Int32) = 1 by decide, show ¬ (6 : Int32) = 2 by decide, show ¬ (6 : Int32) = 3 by decide, show ¬ (6 : Int32) = 4 by decide, show ¬ (6 : Int32) = 5 by decide, if_false, if_true, Option.bind_fun_some]
  have eC0 : f_Jd_declareName h (nI i) = (f_Pl_variableHere h (nI c)).bind fun v3 => (if v3 = (-1) then (if (h.2.1 36) c = -1 then (if (f_Nm_isStandardFunction (nI c)) = 0 then f_Jd_declareName_47 h (nI i) (nI c) 0 else f_Jd_declareName_42 h (nI i) (nI c)) else f_Jd_declareName_42 h (nI i) (nI c)) else f_Jd_declareName_42 h (nI i) (nI c)) := by
    unfold f_Jd_declareName
    simp only [if_pos hii, ci, c1, if_pos hic, cc]
  have bad : ∃ h' g', f_Jd_declareName_42 h (nI i) (nI c) = some h' ∧ f_Mo_lookAtName_57 g (nI k) w = some g' ∧ zfr zv_cf zv_cm [] h h' ∧ zfr zv_mf zv_mm [] g g' ∧ ∃ φ, zv_X φ p h' g' := by
    have eC : f_Jd_declareName_42 h (nI i) (nI c) = some (zs_uF (zs_uF h 38 3 (nI 12)) 38 0 ((h.2.1 15) i)) := by
      unfold f_Jd_declareName_42 f_Jd_declareName_47
      rw [if_neg (by decide), show (12 : Int32) = nI 12 from rfl, zv_refu J1 hi]; rfl
    obtain ⟨g1, hg1⟩ : ∃ g1, g1 = zs_uF (zs_uF g 68 29 (nI 12)) 68 30 ((g.2.1 73) k) := ⟨_, rfl⟩
    have j1 : (g1.1 68 29) = nI 12 := by rw [hg1]; rfl
    have j2 : (g1.1 68 30) = p := by rw [hg1]; exact m3
    obtain ⟨g', e1, e2, e3, e4, e5, e6, e7⟩ := zv_addM (g := g1) (w := w) (s := nI s) (by rw [hg1]; exact V2) (by omega) hk h5 h4 (by rw [hg1]; exact a1) (by rw [hg1]; exact a2) (by rw [hg1]; exact a3)
    have eM : f_Mo_lookAtName_57 g (nI k) w = some g' := by
      rw [← e1]
      unfold f_Mo_lookAtName_57 f_Mo_lookAtName_62
      rw [show f_Mo_rule g 1 12 (nI k) = some g1 by rw [hg1]; exact zv_rule1 (φ := 12) (by decide) J2 hk, zv_rule0]
    refine ⟨_, g', eC, eM, zfr_F (by decide) (zfr_F (by decide) zfr_rfl), zfr_trans (g := g1) (by rw [hg1]; exact zfr_F (by decide) (zfr_F (by decide) zfr_rfl)) (zfr_w e7 (by decide) (by decide) (by decide)), 12, by decide, by decide, rfl, c2, (e7.1 _ _ (by decide)).trans j1, (e7.1 _ _ (by decide)).trans j2⟩
  obtain ⟨hx, gx, x1, x2, x3, x4, x5⟩ := bad
  have done : f_Jd_declareName h (nI i) = some hx → f_Mo_lookAtBlocks g (nI k) = some gx → ∃ h' g', f_Jd_declareName h (nI i) = some h' ∧ f_Mo_lookAtBlocks g (nI k) = some g' ∧ zfr zv_cf zv_cm [] h h' ∧ zfr zv_mf zv_mm [] g g' ∧ ((∃ φ, zv_X φ p h' g') ∨ (zv_I LC LM nb nf ns (fun j => if j = nb then F nb + 1 else F j) q h' g' ∧ zfr [(20, 18)] zv_nl [] h h' ∧ zfr [(68, 41)] zv_gl [] g g')) := fun a b => ⟨hx, gx, a, b, x3, x4, .inl x5⟩
  rcases hh with ⟨v, z1, z2, z3, z4, z5⟩ | ⟨z4, z5, z6⟩
  · refine done ?_ ?_
    · rw [eC0, z4, Option.bind_some, if_neg (zc_m1 (by omega))]; exact x1
    · rw [eM0, z5, Option.bind_some, if_pos ((zc_le (k := 0) (by decide) (by omega)).mpr (by omega))]; exact x2
  · by_cases n2 : (h.2.1 36) c = -1
    · have nB : ¬ (41 ≤ c ∧ c < 50) := fun z => by
        have := B9 c z.1 z.2
        rw [n2] at this
        exact absurd this.symm (zc_m1 (by omega))
      have eb : f_Mo_blockNamed g w (nI nb) = some (-1) := by
        rcases hbn with ⟨b, _, e, _⟩ | ⟨e, _⟩
        · rw [n2] at e; exact absurd e.symm (zc_m1 (by omega))
        · exact e
      by_cases nS : 50 ≤ c ∧ c < 60
      · refine done ?_ ?_
        · rw [eC0, z4, Option.bind_some, if_pos rfl, if_pos n2, zv_isF hc, if_pos nS, if_neg (by decide)]; exact x1
        · rw [eM0, z5, Option.bind_some, if_neg (by decide), eb, Option.bind_some, if_neg (by decide), hst, Option.bind_some, if_pos (show 41 ≤ c ∧ c < 60 by omega), if_neg (by decide)]; exact x2
      · obtain ⟨h', e1, e2⟩ := zj_add (h := h) (b := 8 + nb) (v := 32 + F nb) (ci := c) (sc := nI s) (by rw [B1, show 8 + nb + 1 = 9 + nb by omega]) (by omega) V1 (by omega) hc
        obtain ⟨g', e3, e4, e5, e6, e7, e8, e9⟩ := zv_addM (w := w) (s := nI s) V2 (by omega) hk h5 h4 a1 a2 a3
        refine ⟨h', g', ?_, ?_, ?_, zfr_w e9 (by decide) (by decide) (by decide), .inr ⟨zv_add2 I0 hb hnv hw hc hs z6 e2 e4 e5 e6 e7 e8 e9, ?_, zfr_w e9 (by decide) (by decide) (by decide)⟩⟩
        · rw [eC0, z4, Option.bind_some, if_pos rfl, if_pos n2, zv_isF hc, if_neg nS, if_pos rfl]
          unfold f_Jd_declareName_47
          rw [if_pos rfl, c3, e1]
          rfl
        · rw [eM0, z5, Option.bind_some, if_neg (by decide), eb, Option.bind_some, if_neg (by decide), hst, Option.bind_some, if_neg (show ¬ (41 ≤ c ∧ c < 60) by omega), if_pos rfl]; exact e3
        · obtain ⟨_, _, _, _, _, _, _, _, _, _, _, z⟩ := e2; exact zfr_w z (by decide) (by decide) (by decide)
        · obtain ⟨_, _, _, _, _, _, _, _, _, _, _, z⟩ := e2; exact zfr_w z (by decide) (by decide) (by decide)
    · refine done ?_ ?_
      · rw [eC0, z4, Option.bind_some, if_pos rfl, if_neg n2]; exact x1
      · rw [eM0, z5, Option.bind_some, if_neg (by decide)]
        rcases hbn with ⟨b, _, _, e⟩ | ⟨e, e'⟩
        · rw [e, Option.bind_some, if_pos ((zc_le (k := 0) (by decide) (by omega)).mpr (by omega))]; exact x2
        · rw [e, Option.bind_some, if_neg (by decide), hst, Option.bind_some]
          have : 41 ≤ c ∧ c < 60 := by
            rcases B8 c hc with y | ⟨u1, u2, _⟩ | ⟨b, u1, u2, _⟩
            · exact absurd y n2
            · omega
            · exact absurd u2 (e' b u1)
          rw [if_pos this, if_neg (by decide)]; exact x2
end
section
/-! The judge: a place. -/
theorem zv_pcC : ∀ p, p < 1536 → (768 ≤ p → p % 256 < 64) → f_Jd_placeCell (nI p) = some (nI (zv_pc p)) ∧ zv_pc p < 960 := by
  have key : ∀ p, p < 1536 → (p < 768 ∨ p % 256 < 64) → f_Jd_placeCell (nI p) = some (nI (zv_pc p)) ∧ zv_pc p < 960 := by decide +kernel
  intro p h1 h2
  exact key p h1 (by omega)
theorem zv_pcI {p p' : Nat} (h1 : p < 1536) (h2 : 768 ≤ p → p % 256 < 64) (h3 : p' < 1536) (h4 : 768 ≤ p' → p' % 256 < 64) (e : zv_pc p = zv_pc p') : p = p' := by
  unfold zv_pc at e
  split at e <;> split at e <;> omega
theorem zv_taken {g : zs_H} {e : Nat} {w : Int32} (he : e ≤ 8400) (hv : (g.1 68 41) = nI e) : ∀ m v fuel, v + m = e → m < fuel →
    f_Mo_isPlaceTaken_L12 g fuel w 1 (nI v) = some 1 ∧ ((∀ j, v ≤ j → j < e → ¬ (g.2.1 96) j = w) → f_Mo_isPlaceTaken_L12 g fuel w 0 (nI v) = some 0) ∧ (∀ j, v ≤ j → j < e → (g.2.1 96) j = w → f_Mo_isPlaceTaken_L12 g fuel w 0 (nI v) = some 1) := by
  intro m
  induction m with
  | zero =>
    intro v fuel h1 h2
    obtain ⟨f, rfl⟩ : ∃ f, fuel = f + 1 := ⟨fuel - 1, by omega⟩
    have e0 : ∀ x, f_Mo_isPlaceTaken_L12 g (f + 1) w x (nI v) = if x = 0 ∨ x = 1 then some x else none := by
      intro x
      show f_Mo_isPlaceTaken_12 g (f_Mo_isPlaceTaken_L12 g f) w x (nI v) = _
      unfold f_Mo_isPlaceTaken_12
      rw [hv, if_pos ((nI_leI (by omega) (by omega)).mpr (by omega))]
    exact ⟨by rw [e0, if_pos (.inr rfl)], fun _ => by rw [e0, if_pos (.inl rfl)], fun j h3 h4 => by omega⟩
  | succ m ih =>
    intro v fuel h1 h2
    obtain ⟨f, rfl⟩ : ∃ f, fuel = f + 1 := ⟨fuel - 1, by omega⟩
    have hi := ih (v + 1) f (by omega) (by omega)
    have hl : ¬ nI e ≤ nI v := mt (nI_leI (by omega) (by omega)).mp (by omega)
    have e1 : f_Mo_isPlaceTaken_L12 g (f + 1) w 1 (nI v) = f_Mo_isPlaceTaken_L12 g f w 1 (nI (v + 1)) := by
      show f_Mo_isPlaceTaken_12 g (f_Mo_isPlaceTaken_L12 g f) w 1 (nI v) = _
      unfold f_Mo_isPlaceTaken_12 f_Mo_isPlaceTaken_34 f_Mo_isPlaceTaken_39
      rw [hv, if_neg hl, if_neg (by decide), nI_1]
    have e0 : f_Mo_isPlaceTaken_L12 g (f + 1) w 0 (nI v) = if (g.2.1 96) v = w then f_Mo_isPlaceTaken_L12 g f w 1 (nI (v + 1)) else f_Mo_isPlaceTaken_L12 g f w 0 (nI (v + 1)) := by
      show f_Mo_isPlaceTaken_12 g (f_Mo_isPlaceTaken_L12 g f) w 0 (nI v) = _
      unfold f_Mo_isPlaceTaken_12 f_Mo_isPlaceTaken_34 f_Mo_isPlaceTaken_39
      rw [hv, if_neg hl, if_pos rfl, if_pos (zi_in (by omega) (by omega)), nI_clamp (by omega), nI_1]
    refine ⟨e1.trans hi.1, fun q => ?_, fun j h3 h4 h5 => ?_⟩
    · rw [e0, if_neg (q v (by omega) (by omega))]
      exact hi.2.1 fun j h3 h4 => q j (by omega) h4
    · rw [e0]
      by_cases c : (g.2.1 96) v = w
      · rw [if_pos c]; exact hi.1
      · rw [if_neg c]
        by_cases ej : j = v
        · rw [ej] at h5; exact absurd h5 c
        · exact hi.2.2 j (by omega) h4 h5
/-- 14 -/
theorem zv_place {LC LM : List (List Int32)} {nb nf ns i k k5 k6 x : Nat} {F : Nat → Nat} {p : Int32} {h g : zs_H} (I : zv_I LC LM nb nf ns F (-1) h g) (hb : 0 < nb) (hi : i < 32784) (hk : k < 33500) (h5 : k5 < 33500) (h6 : k6 < 33500) (hx : x < 1536) (hx2 : 768 ≤ x → x % 256 < 64) (c1 : (h.2.1 16) i = nI x) (c2 : (h.2.1 15) i = p) (c3 : (h.1 38 6) = nI (32 + ns)) (m1 : (g.2.1 72) k = 7) (m2 : (g.2.1 74) k = nI x) (m3 : (g.2.1 73) k = p) (a1 : (g.2.1 75) k = nI k5) (a2 : (g.2.1 76) k5 = nI k6) (a3 : (g.2.1 78) k6 = nI k ↔ F nb = ns + 1) (a4 : ns < F nb) :
    ∃ h', f_Jd_judgePlace h (nI i) = some h' ∧ ∃ g', f_Mo_lookAtBlocks g (nI k) = some g' ∧ zfr zv_cf zv_cm [] h h' ∧ zfr zv_mf zv_mm [] g g' ∧ ((∃ φ, zv_X φ p h' g') ∨ (h' = zs_uM h 40 (zv_pc x) 1 ∧ g' = g ∧ (h.2.1 21) (8 + nb) = 3 ∧ F nb = ns + 1 ∧ zv_I LC LM nb nf ns F (nI x) h' g')) := by
  obtain ⟨kd, y1, y2, y3, y4, y5, y6⟩ := zv_cur I hb
  obtain ⟨HS, HB, HN, HV, HC, ⟨T1, T2⟩, HJ, J1, J2⟩ := I
  have HB0 := HB
  obtain ⟨⟨B1, B2, B3⟩, ⟨V1, V2, V3⟩, B4, BF, B5, B6, B7, B8, B9, B10⟩ := HB
  have hk4 : kd < 2147483648 := by rcases y1 with e | e | e <;> rw [e] <;> decide
  obtain ⟨pc1, pc2⟩ := zv_pcC x hx hx2
  have ck : (nI k).toNatClampNeg = k := nI_clamp (by omega)
  have ci : (nI i).toNatClampNeg = i := nI_clamp (by omega)
  have c5 : (nI k5).toNatClampNeg = k5 := nI_clamp (by omega)
  have c6 : (nI k6).toNatClampNeg = k6 := nI_clamp (by omega)
  have cn : (nI (8 + nb)).toNatClampNeg = 8 + nb := nI_clamp (by omega)
  have cb : (nI (nb - 1)).toNatClampNeg = nb - 1 := nI_clamp (by omega)
  have cx : (nI (zv_pc x)).toNatClampNeg = zv_pc x := nI_clamp (by omega)
  have hik : zd_in (nI k) 33500 := zi_in (by omega) hk
  have hi5 : zd_in (nI k5) 33500 := zi_in (by omega) h5
  have hi6 : zd_in (nI k6) 33500 := zi_in (by omega) h6
  have hii : zd_in (nI i) 32784 := zi_in (by omega) hi
  have hin : zd_in (nI (8 + nb)) 629 := zi_in (by omega) (by omega)
  have hib : zd_in (nI (nb - 1)) 2100 := zi_in (by omega) (by omega)
  have hib1 : zd_in (nI (nb - 1)) 2101 := zi_in (by omega) (by omega)
  have hix : zd_in (nI (zv_pc x)) 960 := zi_in (by omega) pc2
  have e3 : (nI kd = 3) ↔ kd = 3 := zc_eq (k := 3) (by decide) hk4
  have en : (h.1 20 18) - (h.1 38 6) = nI (F nb - ns) := by rw [V1, c3, zi_sub (by omega), show 32 + F nb - (32 + ns) = F nb - ns by omega]
  have e1 : (nI (F nb - ns) ≤ 1) ↔ F nb = ns + 1 := by rw [zc_el (k := 1) (by decide) (by omega)]; omega
  have hTk : ((h.2.1 40) (zv_pc x) = 0) ↔ ¬ ∃ v, F (nb - 1) ≤ v ∧ v < F nb ∧ (g.2.1 96) v = nI x := by
    have t2 := T2 x hx hx2
    constructor
    · intro z ⟨v, zv⟩
      rw [t2.mpr (.inr ⟨v, zv⟩)] at z
      exact absurd z (by decide)
    · intro z
      rcases T1 _ pc2 with t | t
      · exact t
      · rcases t2.mp t with q | q
        · exact absurd q (zc_m1 (by omega))
        · exact absurd q z
  have sM := zv_taken (w := nI x) (show F nb ≤ 8400 by omega) V2 (F nb - F (nb - 1)) (F (nb - 1)) zF (by have := (BF (nb - 1) (by omega)); rw [show nb - 1 + 1 = nb by omega] at this; omega) (by have := zF_big; omega)
  have eT : f_Mo_isPlaceTaken g (nI x) = some (if (h.2.1 40) (zv_pc x) = 0 then 0 else 1) := by
    unfold f_Mo_isPlaceTaken
    rw [y5, if_pos hib1, cb, (B6 (nb - 1) (by omega)).2.1]
    by_cases z : (h.2.1 40) (zv_pc x) = 0
    · rw [if_pos z]
      exact sM.2.1 fun j q1 q2 q3 => hTk.mp z ⟨j, q1, q2, q3⟩
    · rw [if_neg z]
      obtain ⟨v, q1, q2, q3⟩ := Classical.byContradiction fun q => z (hTk.mpr q)
      exact sM.2.2 v q1 q2 q3
  have eC : f_Jd_judgePlace h (nI i) = (f_Jd_refuseIf h (if kd = 3 ∧ F nb = ns + 1 ∧ (h.2.1 40) (zv_pc x) = 0 then 0 else 1) 14 (nI i)).bind fun h2 => some (zs_uM h2 40 (zv_pc x) 1) := by
    unfold f_Jd_judgePlace f_Jd_judgePlace_45 f_Jd_judgePlace_50 f_Jd_judgePlace_65 f_Jd_judgePlace_70
    simp only [if_pos hii, ci, c1, pc1, Option.bind_some, y4, if_pos hin, cn, y2, e3, en, e1, if_pos hix, cx, show ¬ (1 : Int32) = 0 by decide, if_false, if_true, show vp_nar .boolean 1 = 1 from rfl]
    by_cases x1 : kd = 3 <;> by_cases x2 : F nb = ns + 1 <;> by_cases x3 : (h.2.1 40) (zv_pc x) = 0 <;> simp only [x1, x2, x3, if_true, if_false, and_true, true_and, and_false, false_and]
  have eM : f_Mo_lookAtBlocks g (nI k) = f_Mo_rule g (if kd = 3 ∧ F nb = ns + 1 ∧ (h.2.1 40) (zv_pc x) = 0 then 0 else 1) 14 (nI k) := by
    unfold f_Mo_lookAtBlocks f_Mo_lookAtBlocks_234 f_Mo_lookAtBlocks_239
    simp only [if_pos hik, ck, m1, m2, a1, a2, a3, c5, c6, if_pos hi5, if_pos hi6, y5, if_pos hib, cb, y3, e3, eT, Option.bind_some, show ¬ (7 : Int32) = 0 by decide, show ¬ (7 : Int32) = 1 by decide, show ¬ (7 : Int32) = 2 by decide, show ¬ (7 : Int32) = 3 by decide, show ¬ (7 : Int32) = 4 by decide, show ¬ (7 : Int32) = 5 by decide, show ¬ (7 : Int32) = 6 by decide, if_false, if_true, Option.bind_fun_some]
    by_cases x1 : kd = 3 <;> by_cases x2 : F nb = ns + 1 <;> by_cases x3 : (h.2.1 40) (zv_pc x) = 0 <;> simp only [x1, x2, x3, if_true, if_false, and_true, true_and, and_false, false_and, show ¬ (1 : Int32) = 0 by decide]
  rw [eC, eM]
  by_cases q : kd = 3 ∧ F nb = ns + 1 ∧ (h.2.1 40) (zv_pc x) = 0
  · rw [if_pos q, zv_ref0, zv_rule0, Option.bind_some]
    obtain ⟨q1, q2, q3⟩ := q
    refine ⟨_, rfl, _, rfl, zfr_M (by decide) zfr_rfl, zfr_rfl, .inr ⟨rfl, rfl, by rw [y2, q1]; rfl, q2, HS, HB0, HN, HV, HC, ⟨fun c' hc' => ?_, fun p' hp' h1' => ?_⟩, HJ, J1, J2⟩⟩
    · rw [zu_MM]
      split
      · exact .inr rfl
      · exact T1 c' hc'
    · rw [zu_MM]
      by_cases e : p' = x
      · subst e
        rw [if_pos ⟨rfl, rfl⟩]
        exact ⟨fun _ => .inl rfl, fun _ => rfl⟩
      · rw [if_neg (fun z => e (zv_pcI hp' h1' hx hx2 z.2)), T2 p' hp' h1']
        constructor
        · rintro (z | z)
          · exact absurd z (zc_m1 (by omega))
          · exact .inr z
        · rintro (z | z)
          · exact absurd ((nI_eq (by omega) (by omega)).mp z) e
          · exact .inr z
  · rw [if_neg q, show (14 : Int32) = nI 14 from rfl, zv_ref1 (by decide) J1 hi, zv_rule1 (by decide) J2 hk, Option.bind_some]
    refine ⟨_, rfl, _, rfl, zfr_M (by decide) (zfr_F (by decide) (zfr_F (by decide) zfr_rfl)), zfr_F (by decide) (zfr_F (by decide) zfr_rfl), .inl ⟨14, by decide, by decide, rfl, c2, rfl, m3⟩⟩
end
section
/-! The judge: a declaration gives its variables cells. -/
/-- one variable is settled -/
theorem zv_set1 {LC LM : List (List Int32)} {nb nf v ty x s y y' : Nat} {F : Nat → Nat} {q inst low co so of pl : Int32} {h g h' g' : zs_H} (I : zv_I LC LM nb nf v F q h g) (hb : nf + 1 = nb) (hv : v < F nb) (hty : ty < 3) (hy : (h.2.1 25) (8 + nb) = nI y) (hs : s ≤ 30000) (hy2 : y' ≤ 200000000) (hyy : y ≤ y') (hdt : zv_dt ty s low co pl)
    (hin : (inst = -1 ∧ so = 0 ∧ of = nI ty ∧ s = 1) ∨ (inst = -2 ∧ so = 1 ∧ of = nI ty ∧ 1 ≤ s ∧ s ≤ 256) ∨ (∃ B, B < 8 + nb ∧ inst = nI B ∧ so = 2 ∧ of = nI (if B < 9 then 100000 + B else B - 9) ∧ (9 ≤ B → (h.2.1 21) B = 2) ∧ (h.2.1 26) B = nI s))
    (hpl : (pl = -1 ∧ q = -1 ∧ x = y ∧ y' = y + s) ∨ ∃ p, p < 1536 ∧ (768 ≤ p → p % 256 < 64) ∧ pl = nI p ∧ q = nI p ∧ x = zv_pc p ∧ y' = y ∧ (h.2.1 21) (8 + nb) = 3 ∧ s = 1)
    (vI : ∀ j, (h'.2.1 30) j = if j = 32 + v then inst else (h.2.1 30) j) (vT : ∀ j, (h'.2.1 31) j = if j = 32 + v then nI ty else (h.2.1 31) j) (vL : ∀ j, (h'.2.1 33) j = if j = 32 + v then low else (h.2.1 33) j) (vLe : ∀ j, (h'.2.1 34) j = if j = 32 + v then nI s else (h.2.1 34) j) (vCo : ∀ j, (h'.2.1 35) j = if j = 32 + v then co else (h.2.1 35) j) (vC : ∀ j, (h'.2.1 32) j = if j = 32 + v then nI x else (h.2.1 32) j) (kV : ∀ j, (h'.2.1 25) j = if j = 8 + nb then nI y' else (h.2.1 25) j)
    (fr : zfr [] [30, 31, 33, 34, 35, 32, 25] [] h h')
    (wS : ∀ j, (g'.2.1 92) j = if j = v then so else (g.2.1 92) j) (wT : ∀ j, (g'.2.1 93) j = if j = v then of else (g.2.1 93) j) (wC : ∀ j, (g'.2.1 94) j = if j = v then nI x else (g.2.1 94) j) (wP : ∀ j, (g'.2.1 96) j = if j = v then pl else (g.2.1 96) j) (wL : ∀ j, (g'.2.1 97) j = if j = v then low else (g.2.1 97) j) (wSi : ∀ j, (g'.2.1 98) j = if j = v then nI s else (g.2.1 98) j) (wF : ∀ j, (g'.2.1 99) j = if j = v then co else (g.2.1 99) j) (mC : ∀ j, (g'.2.1 88) j = if j = nb - 1 then nI y' else (g.2.1 88) j)
    (frm : zfr [] [92, 93, 94, 96, 97, 98, 99, 88, 101] [] g g') :
    zv_I LC LM nb nf (v + 1) F (-1) h' g' := by
  obtain ⟨HS, ⟨⟨B1, B2, B3⟩, ⟨V1, V2, V3⟩, B4, BF, B5, B6, B7, B8, B9, B10⟩, ⟨N1, N2, N3⟩, ⟨W1, W2, W3, W4, W5⟩, ⟨C0, C1, C2, C3⟩, ⟨T1, T2⟩, HJ, J1, J2⟩ := I
  have eN : h'.2.1 28 = h.2.1 28 := fr.2.1 _ (by decide)
  have eS : h'.2.1 29 = h.2.1 29 := fr.2.1 _ (by decide)
  have eK : h'.2.1 21 = h.2.1 21 := fr.2.1 _ (by decide)
  have eFi : h'.2.1 23 = h.2.1 23 := fr.2.1 _ (by decide)
  have eBe : h'.2.1 24 = h.2.1 24 := fr.2.1 _ (by decide)
  have eCe : h'.2.1 26 = h.2.1 26 := fr.2.1 _ (by decide)
  have eBN : h'.2.1 36 = h.2.1 36 := fr.2.1 _ (by decide)
  have eLN : h'.2.1 37 = h.2.1 37 := fr.2.1 _ (by decide)
  have eTk : h'.2.1 40 = h.2.1 40 := fr.2.1 _ (by decide)
  have gK : g'.2.1 86 = g.2.1 86 := frm.2.1 _ (by decide)
  have gNa : g'.2.1 85 = g.2.1 85 := frm.2.1 _ (by decide)
  have gT : g'.2.1 87 = g.2.1 87 := frm.2.1 _ (by decide)
  have gF : g'.2.1 90 = g.2.1 90 := frm.2.1 _ (by decide)
  have gvN : g'.2.1 91 = g.2.1 91 := frm.2.1 _ (by decide)
  have gvS : g'.2.1 95 = g.2.1 95 := frm.2.1 _ (by decide)
  obtain ⟨w5, w6⟩ := W5 (by omega)
  have hF1 := BF (nb - 1) (by omega)
  have e1 : nb - 1 + 1 = nb := by omega
  have e2 : 9 + (nb - 1) = 8 + nb := by omega
  have hp1 : (g.2.1 96) v = -1 := W3 v (Nat.le_refl _) hv
  refine ⟨zv_Sfr HS frm (by decide) (by decide) (by decide), ?_, ?_, ?_, ?_, ?_, fun z => ⟨(fr.1 _ _ (by decide)).trans (HJ z).1, (frm.1 _ _ (by decide)).trans (HJ z).2⟩, (fr.1 _ _ (by decide)).trans J1, (frm.1 _ _ (by decide)).trans J2⟩
  · refine ⟨⟨(fr.1 _ _ (by decide)).trans B1, (frm.1 _ _ (by decide)).trans B2, B3⟩, ⟨(fr.1 _ _ (by decide)).trans V1, (frm.1 _ _ (by decide)).trans V2, V3⟩, ⟨fun b hb => ?_, fun u hu => ?_⟩, BF, ?_, ?_, ?_, ?_, ?_, ?_⟩
    · rw [eK, eFi, eBe, eCe]; exact B4.1 b hb
    · rw [eN, eS, vI, if_neg (by omega), vT, if_neg (by omega), vC, if_neg (by omega)]; exact B4.2 u hu
    · rw [eK, gK]; exact B5
    · rw [eFi, gF, eBe]; exact B6
    · rw [gNa, eBN]; exact B7
    · rw [gNa, eBN]; exact B8
    · rw [eBN]; exact B9
    · rw [fr.1 _ _ (by decide), gK]; exact B10
  · refine ⟨?_, ?_, ?_⟩
    · rw [eN, gvN]; exact N1
    · rw [eN, eLN]; exact N2
    · rw [eN, eLN]; exact N3
  · refine ⟨by rw [eS, gvS]; exact W1, fun b u hb' h1 h2 h3 => ?_, fun u h1 h2 => by rw [wP, if_neg (by omega)]; exact W3 u (by omega) h2, by omega, fun z => ⟨by omega, fun z => by omega⟩⟩
    by_cases eu : u = v
    · subst eu
      have eb : b = nb - 1 := by
        by_cases z : b = nb - 1
        · exact z
        · exfalso
          have := (BF (b + 1) (by omega)).1
          have hm : ∀ d a, a + d < nb → F a ≤ F (a + d) := by
            intro d
            induction d with
            | zero => intro a _; exact Nat.le_refl _
            | succ d ih => intro a ha; exact Nat.le_trans (ih a (by omega)) (BF (a + d) (by omega)).1
          have := hm (nb - 1 - (b + 1)) (b + 1) (by omega)
          rw [show b + 1 + (nb - 1 - (b + 1)) = nb - 1 by omega] at this
          omega
      rw [eb]
      unfold zv_Q
      rw [e2, vT, if_pos rfl, vC, if_pos rfl, wC, if_pos rfl, vLe, if_pos rfl, wSi, if_pos rfl, kV, if_pos rfl, wL, if_pos rfl, vL, if_pos rfl, wF, if_pos rfl, vCo, if_pos rfl, vI, if_pos rfl, wS, if_pos rfl, wT, if_pos rfl, wP, if_pos rfl, eK, eCe]
      have hx : x < 300000000 := by
        rcases hpl with ⟨_, _, z, _⟩ | ⟨p, p1, p2, _, _, z, _⟩
        · omega
        · have := (zv_pcC p p1 p2).2; omega
      refine ⟨ty, x, s, y', ⟨hty, rfl⟩, ⟨rfl, rfl⟩, ⟨rfl, rfl⟩, rfl, ⟨hx, hs, hy2, hdt⟩, rfl, rfl, ?_, ?_⟩
      · rcases hin with z | z | z
        · exact .inl z
        · exact .inr (.inl z)
        · exact .inr (.inr z)
      · rcases hpl with ⟨z1, _, z3, z4⟩ | ⟨p, p1, p2, p3, _, p5, _, p7⟩
        · refine .inl ⟨z1, by omega, fun z => ?_⟩
          obtain ⟨y0, _, c2, _, c4⟩ := C2 (nb - 1) (by omega) (by omega)
          rw [e2] at c2 c4
          have := c4 z
          have : y0 = y := (nI_eq (by omega) (by omega)).mp (c2.symm.trans hy)
          omega
        · exact .inr ⟨p, p1, p3, p7.1, p5, p2, p7.2⟩
    · have hq := W2 b u hb' h1 h2 (by omega)
      have g1 : ¬ 32 + u = 32 + v := by omega
      obtain ⟨t, x0, s0, y0, Q1, Q2, Q3, Q4, Q5, Q6, Q7, Q8, Q9⟩ := hq
      unfold zv_Q
      rw [vT, if_neg g1, vC, if_neg g1, wC, if_neg eu, vLe, if_neg g1, wSi, if_neg eu, wL, if_neg eu, vL, if_neg g1, wF, if_neg eu, vCo, if_neg g1, vI, if_neg g1, wS, if_neg eu, wT, if_neg eu, wP, if_neg eu, eK, eCe, kV]
      by_cases z : 9 + b = 8 + nb
      · rw [if_pos z]
        have hy0 : y0 = y := by
          rw [z] at Q4
          exact (nI_eq (Nat.lt_of_le_of_lt Q5.2.2.1 (by decide)) (Nat.lt_of_le_of_lt (Nat.le_trans hyy hy2) (by decide))).mp (Q4.symm.trans hy)
        refine ⟨t, x0, s0, y', Q1, Q2, Q3, rfl, ⟨Q5.1, Q5.2.1, hy2, Q5.2.2.2⟩, Q6, Q7, Q8, ?_⟩
        rcases Q9 with ⟨r1, r2, r3⟩ | r
        · exact .inl ⟨r1, by rw [hy0] at r2; exact Nat.le_trans r2 hyy, r3⟩
        · exact .inr r
      · rw [if_neg z]
        exact ⟨t, x0, s0, y0, Q1, Q2, Q3, Q4, Q5, Q6, Q7, Q8, Q9⟩
  · refine ⟨C0, fun b hb => by rw [eCe, mC, if_neg (by omega)]; exact C1 b hb, fun b h1 h2 => ?_, fun b hb' => ?_⟩
    · have eb : b = nb - 1 := by omega
      obtain ⟨y0, c1, c2, c3, c4⟩ := C2 b h1 h2
      rw [eb, e2, kV, if_pos rfl, mC, if_pos rfl, eK]
      rw [eb, e2] at c2 c4
      have : y0 = y := (nI_eq (by omega) (by omega)).mp (c2.symm.trans hy)
      exact ⟨y', hy2, rfl, rfl, fun z => by have := c4 z; omega⟩
    · rw [eK, gT]
      intro z
      have h3 := C3 b hb' z
      refine ⟨h3.1, ?_⟩
      rw [vT, vC]
      by_cases e : F b = v
      · exfalso
        -- the name of a FUNCTION was settled when it began
        have hm : ∀ d a, a + d ≤ nb → F a ≤ F (a + d) := by
          intro d
          induction d with
          | zero => intro a _; exact Nat.le_refl _
          | succ d ih => intro a ha; exact Nat.le_trans (ih a (by omega)) (BF (a + d) (by omega)).1
        have := hm (nb - 1 - b) b (by omega)
        rw [show b + (nb - 1 - b) = nb - 1 by omega] at this
        have hb3 : b = nb - 1 := by
          by_cases zz : b = nb - 1
          · exact zz
          · exfalso
            have := hm (nb - 1 - (b + 1)) (b + 1) (by omega)
            rw [show b + 1 + (nb - 1 - (b + 1)) = nb - 1 by omega] at this
            omega
        rw [hb3, e2] at z
        have := w6 z
        rw [hb3] at e
        omega
      · rw [if_neg (show ¬ 32 + F b = 32 + v by omega), if_neg (show ¬ 32 + F b = 32 + v by omega)]; exact h3.2
  · refine ⟨fun c' hc' => by rw [eTk]; exact T1 c' hc', fun p' hp' h1' => ?_⟩
    rw [eTk, T2 p' hp' h1']
    constructor
    · rintro (z | ⟨u, z1, z2, z3⟩)
      · rcases hpl with ⟨_, r, _⟩ | ⟨p, p1, p2, p3, p4, _⟩
        · rw [r] at z; exact absurd z (zc_m1 (by omega))
        · exact .inr ⟨v, by omega, hv, by rw [wP, if_pos rfl, p3, ← p4, z]⟩
      · refine .inr ⟨u, z1, z2, ?_⟩
        rw [wP]
        by_cases e : u = v
        · rw [e, hp1] at z3; exact absurd z3.symm (zc_m1 (by omega))
        · rw [if_neg e]; exact z3
    · rintro (z | ⟨u, z1, z2, z3⟩)
      · exact absurd z (zc_m1 (by omega))
      · rw [wP] at z3
        by_cases e : u = v
        · rw [if_pos e] at z3
          rcases hpl with ⟨r, _⟩ | ⟨p, p1, p2, p3, p4, _⟩
          · rw [r] at z3; exact absurd z3.symm (zc_m1 (by omega))
          · exact .inl (by rw [p4, ← p3, z3])
        · rw [if_neg e] at z3; exact .inr ⟨u, z1, z2, z3⟩
end
