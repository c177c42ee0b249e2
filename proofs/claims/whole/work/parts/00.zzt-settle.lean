/-! The judge: a declaration gives its variables cells. -/
/-- one variable is settled -/
theorem zv_set1 {LC LM : List (List Int32)} {nb nf v ty x s y y' : Nat} {F : Nat → Nat} {q inst low co so of pl : Int32} {h g h' g' : zs_H} (I : zv_I LC LM nb nf v F q h g) (hb : nf + 1 = nb) (hv : v < F nb) (hty : ty < 3) (hy : (h.2.1 25) (8 + nb) = nI y) (hs : s ≤ 30000) (hy2 : y' ≤ 200000000) (hyy : y ≤ y') (hdt : zv_dt ty s low co pl)
    (hin : (inst = -1 ∧ so = 0 ∧ of = nI ty ∧ s = 1) ∨ (inst = -2 ∧ so = 1 ∧ of = nI ty ∧ 1 ≤ s ∧ s ≤ 256) ∨ (∃ B, B < 8 + nb ∧ inst = nI B ∧ so = 2 ∧ of = nI (if B < 9 then 100000 + B else B - 9) ∧ (9 ≤ B → (h.2.1 21) B = 2) ∧ (h.2.1 26) B = nI s))
    (hpl : (pl = -1 ∧ q = -1 ∧ x = y ∧ y' = y + s) ∨ ∃ p, p < 1536 ∧ (768 ≤ p → p % 256 < 64) ∧ pl = nI p ∧ q = nI p ∧ x = zv_pc p ∧ y' = y ∧ (h.2.1 21) (8 + nb) = 3 ∧ s = 1)
    (vI : ∀ j, (h'.2.1 30) j = if j = 32 + v then inst else (h.2.1 30) j) (vT : ∀ j, (h'.2.1 31) j = if j = 32 + v then nI ty else (h.2.1 31) j) (vL : ∀ j, (h'.2.1 33) j = if j = 32 + v then low else (h.2.1 33) j) (vLe : ∀ j, (h'.2.1 34) j = if j = 32 + v then nI s else (h.2.1 34) j) (vCo : ∀ j, (h'.2.1 35) j = if j = 32 + v then co else (h.2.1 35) j) (vC : ∀ j, (h'.2.1 32) j = if j = 32 + v then nI x else (h.2.1 32) j) (kV : ∀ j, (h'.2.1 25) j = if j = 8 + nb then nI y' else (h.2.1 25) j)
    (fr : zfr [] [30, 31, 33, 34, 35, 32, 25] [] h h')
    (wS : ∀ j, (g'.2.1 92) j = if j = v then so else (g.2.1 92) j) (wT : ∀ j, (g'.2.1 93) j = if j = v then of else (g.2.1 93) j) (wC : ∀ j, (g'.2.1 94) j = if j = v then nI x else (g.2.1 94) j) (wP : ∀ j, (g'.2.1 96) j = if j = v then pl else (g.2.1 96) j) (wL : ∀ j, (g'.2.1 97) j = if j = v then low else (g.2.1 97) j) (wSi : ∀ j, (g'.2.1 98) j = if j = v then nI s else (g.2.1 98) j) (wF : ∀ j, (g'.2.1 99) j = if j = v then co else (g.2.1 99) j) (mC : ∀ j, (g'.2.1 88) j = if j = nb - 1 then nI y' else (g.2.1 88) j)
    (frm : zfr [] [92, 93, 94, 96, 97, 98, 99, 88, 101] [] g g') :
    zv_I LC LM nb nf (v + 1) F (-1) h' g' := by
  obtain ⟨HS, ⟨⟨B1, B2, B3⟩, ⟨V1, V2, V3⟩, B4, BF, B5, B6, B7, B8, B9, B10⟩, ⟨N1, N2, N3⟩, ⟨W1, W2, W3, W4, W5⟩, ⟨C0, C1, C2, C3⟩, ⟨T1, T2⟩, HJ, J1, J2⟩ := I
  have eN : h'.2.1 28 = h.2.1 28 := fr.2.1 _ (by decide)
  have eS : h'.2.1 29 = h.2.1 29 := fr.2.1 _ (by decide)
  have eK : h'.2.1 21 = h.2.1 21 := fr.2.1 _ (by decide)
  have eFi : h'.2.1 23 = h.2.1 23 := fr.2.1 _ (by decide)
  have eBe : h'.2.1 24 = h.2.1 24 := fr.2.1 _ (by decide)
  have eCe : h'.2.1 26 = h.2.1 26 := fr.2.1 _ (by decide)
  have eBN : h'.2.1 36 = h.2.1 36 := fr.2.1 _ (by decide)
  have eLN : h'.2.1 37 = h.2.1 37 := fr.2.1 _ (by decide)
  have eTk : h'.2.1 40 = h.2.1 40 := fr.2.1 _ (by decide)
  have gK : g'.2.1 86 = g.2.1 86 := frm.2.1 _ (by decide)
  have gNa : g'.2.1 85 = g.2.1 85 := frm.2.1 _ (by decide)
  have gT : g'.2.1 87 = g.2.1 87 := frm.2.1 _ (by decide)
  have gF : g'.2.1 90 = g.2.1 90 := frm.2.1 _ (by decide)
  have gvN : g'.2.1 91 = g.2.1 91 := frm.2.1 _ (by decide)
  have gvS : g'.2.1 95 = g.2.1 95 := frm.2.1 _ (by decide)
  obtain ⟨w5, w6⟩ := W5 (by omega)
  have hF1 := BF (nb - 1) (by omega)
  have e1 : nb - 1 + 1 = nb := by omega
  have e2 : 9 + (nb - 1) = 8 + nb := by omega
  have hp1 : (g.2.1 96) v = -1 := W3 v (Nat.le_refl _) hv
  refine ⟨zv_Sfr HS frm (by decide) (by decide) (by decide), ?_, ?_, ?_, ?_, ?_, fun z => ⟨(fr.1 _ _ (by decide)).trans (HJ z).1, (frm.1 _ _ (by decide)).trans (HJ z).2⟩, (fr.1 _ _ (by decide)).trans J1, (frm.1 _ _ (by decide)).trans J2⟩
  · refine ⟨⟨(fr.1 _ _ (by decide)).trans B1, (frm.1 _ _ (by decide)).trans B2, B3⟩, ⟨(fr.1 _ _ (by decide)).trans V1, (frm.1 _ _ (by decide)).trans V2, V3⟩, ⟨fun b hb => ?_, fun u hu => ?_⟩, BF, ?_, ?_, ?_, ?_, ?_, ?_⟩
    · rw [eK, eFi, eBe, eCe]; exact B4.1 b hb
    · rw [eN, eS, vI, if_neg (by omega), vT, if_neg (by omega), vC, if_neg (by omega)]; exact B4.2 u hu
    · rw [eK, gK]; exact B5
    · rw [eFi, gF, eBe]; exact B6
    · rw [gNa, eBN]; exact B7
    · rw [gNa, eBN]; exact B8
    · rw [eBN]; exact B9
    · rw [fr.1 _ _ (by decide), gK]; exact B10
  · refine ⟨?_, ?_, ?_⟩
    · rw [eN, gvN]; exact N1
    · rw [eN, eLN]; exact N2
    · rw [eN, eLN]; exact N3
  · refine ⟨by rw [eS, gvS]; exact W1, fun b u hb' h1 h2 h3 => ?_, fun u h1 h2 => by rw [wP, if_neg (by omega)]; exact W3 u (by omega) h2, by omega, fun z => ⟨by omega, fun z => by omega⟩⟩
    by_cases eu : u = v
    · subst eu
      have eb : b = nb - 1 := by
        by_cases z : b = nb - 1
        · exact z
        · exfalso
          have := (BF (b + 1) (by omega)).1
          have hm : ∀ d a, a + d < nb → F a ≤ F (a + d) := by
            intro d
            induction d with
            | zero => intro a _; exact Nat.le_refl _
            | succ d ih => intro a ha; exact Nat.le_trans (ih a (by omega)) (BF (a + d) (by omega)).1
          have := hm (nb - 1 - (b + 1)) (b + 1) (by omega)
          rw [show b + 1 + (nb - 1 - (b + 1)) = nb - 1 by omega] at this
          omega
      rw [eb]
      unfold zv_Q
      rw [e2, vT, if_pos rfl, vC, if_pos rfl, wC, if_pos rfl, vLe, if_pos rfl, wSi, if_pos rfl, kV, if_pos rfl, wL, if_pos rfl, vL, if_pos rfl, wF, if_pos rfl, vCo, if_pos rfl, vI, if_pos rfl, wS, if_pos rfl, wT, if_pos rfl, wP, if_pos rfl, eK, eCe]
      have hx : x < 300000000 := by
        rcases hpl with ⟨_, _, z, _⟩ | ⟨p, p1, p2, _, _, z, _⟩
        · omega
        · have := (zv_pcC p p1 p2).2; omega
      refine ⟨ty, x, s, y', ⟨hty, rfl⟩, ⟨rfl, rfl⟩, ⟨rfl, rfl⟩, rfl, ⟨hx, hs, hy2, hdt⟩, rfl, rfl, ?_, ?_⟩
      · rcases hin with z | z | z
        · exact .inl z
        · exact .inr (.inl z)
        · exact .inr (.inr z)
      · rcases hpl with ⟨z1, _, z3, z4⟩ | ⟨p, p1, p2, p3, _, p5, _, p7⟩
        · refine .inl ⟨z1, by omega, fun z => ?_⟩
          obtain ⟨y0, _, c2, _, c4⟩ := C2 (nb - 1) (by omega) (by omega)
          rw [e2] at c2 c4
          have := c4 z
          have : y0 = y := (nI_eq (by omega) (by omega)).mp (c2.symm.trans hy)
          omega
        · exact .inr ⟨p, p1, p3, p7.1, p5, p2, p7.2⟩
    · have hq := W2 b u hb' h1 h2 (by omega)
      have g1 : ¬ 32 + u = 32 + v := by omega
      obtain ⟨t, x0, s0, y0, Q1, Q2, Q3, Q4, Q5, Q6, Q7, Q8, Q9⟩ := hq
      unfold zv_Q
      rw [vT, if_neg g1, vC, if_neg g1, wC, if_neg eu, vLe, if_neg g1, wSi, if_neg eu, wL, if_neg eu, vL, if_neg g1, wF, if_neg eu, vCo, if_neg g1, vI, if_neg g1, wS, if_neg eu, wT, if_neg eu, wP, if_neg eu, eK, eCe, kV]
      by_cases z : 9 + b = 8 + nb
      · rw [if_pos z]
        have hy0 : y0 = y := by
          rw [z] at Q4
          exact (nI_eq (Nat.lt_of_le_of_lt Q5.2.2.1 (by decide)) (Nat.lt_of_le_of_lt (Nat.le_trans hyy hy2) (by decide))).mp (Q4.symm.trans hy)
        refine ⟨t, x0, s0, y', Q1, Q2, Q3, rfl, ⟨Q5.1, Q5.2.1, hy2, Q5.2.2.2⟩, Q6, Q7, Q8, ?_⟩
        rcases Q9 with ⟨r1, r2, r3⟩ | r
        · exact .inl ⟨r1, by rw [hy0] at r2; exact Nat.le_trans r2 hyy, r3⟩
        · exact .inr r
      · rw [if_neg z]
        exact ⟨t, x0, s0, y0, Q1, Q2, Q3, Q4, Q5, Q6, Q7, Q8, Q9⟩
  · refine ⟨C0, fun b hb => by rw [eCe, mC, if_neg (by omega)]; exact C1 b hb, fun b h1 h2 => ?_, fun b hb' => ?_⟩
    · have eb : b = nb - 1 := by omega
      obtain ⟨y0, c1, c2, c3, c4⟩ := C2 b h1 h2
      rw [eb, e2, kV, if_pos rfl, mC, if_pos rfl, eK]
      rw [eb, e2] at c2 c4
      have : y0 = y := (nI_eq (by omega) (by omega)).mp (c2.symm.trans hy)
      exact ⟨y', hy2, rfl, rfl, fun z => by have := c4 z; omega⟩
    · rw [eK, gT]
      intro z
      have h3 := C3 b hb' z
      refine ⟨h3.1, ?_⟩
      rw [vT, vC]
      by_cases e : F b = v
      · exfalso
        -- the name of a FUNCTION was settled when it began
        have hm : ∀ d a, a + d ≤ nb → F a ≤ F (a + d) := by
          intro d
          induction d with
          | zero => intro a _; exact Nat.le_refl _
          | succ d ih => intro a ha; exact Nat.le_trans (ih a (by omega)) (BF (a + d) (by omega)).1
        have := hm (nb - 1 - b) b (by omega)
        rw [show b + (nb - 1 - b) = nb - 1 by omega] at this
        have hb3 : b = nb - 1 := by
          by_cases zz : b = nb - 1
          · exact zz
          · exfalso
            have := hm (nb - 1 - (b + 1)) (b + 1) (by omega)
            rw [show b + 1 + (nb - 1 - (b + 1)) = nb - 1 by omega] at this
            omega
        rw [hb3, e2] at z
        have := w6 z
        rw [hb3] at e
        omega
      · rw [if_neg (show ¬ 32 + F b = 32 + v by omega), if_neg (show ¬ 32 + F b = 32 + v by omega)]; exact h3.2
  · refine ⟨fun c' hc' => by rw [eTk]; exact T1 c' hc', fun p' hp' h1' => ?_⟩
    rw [eTk, T2 p' hp' h1']
    constructor
    · rintro (z | ⟨u, z1, z2, z3⟩)
      · rcases hpl with ⟨_, r, _⟩ | ⟨p, p1, p2, p3, p4, _⟩
        · rw [r] at z; exact absurd z (zc_m1 (by omega))
        · exact .inr ⟨v, by omega, hv, by rw [wP, if_pos rfl, p3, ← p4, z]⟩
      · refine .inr ⟨u, z1, z2, ?_⟩
        rw [wP]
        by_cases e : u = v
        · rw [e, hp1] at z3; exact absurd z3.symm (zc_m1 (by omega))
        · rw [if_neg e]; exact z3
    · rintro (z | ⟨u, z1, z2, z3⟩)
      · exact absurd z (zc_m1 (by omega))
      · rw [wP] at z3
        by_cases e : u = v
        · rw [if_pos e] at z3
          rcases hpl with ⟨r, _⟩ | ⟨p, p1, p2, p3, p4, _⟩
          · rw [r] at z3; exact absurd z3.symm (zc_m1 (by omega))
          · exact .inl (by rw [p4, ← p3, z3])
        · rw [if_neg e] at z3; exact .inr ⟨u, z1, z2, z3⟩
