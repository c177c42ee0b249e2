section
/-! load, on both sides. -/
/-- what is still to be shown of the texts that the parser takes -/
def yL_CX : Prop := ∀ (h : zs_H) (T : Nat → Int32) (n K : Nat) (LC : List (List Int32)), zq_S h T n K LC → ∀ h1 t LM s m g1, f_Ps_parse h = some (nI 0, h1) → zk_TX LC LM t s m h1 g1 → zg_cx t
abbrev yL_F1 : List (Nat × Nat) := zq_fs ++ (zv_cf ++ (yC_F ++ yV_CF))
abbrev yL_M1 : List Nat := zq_ms ++ (13 :: 14 :: 16 :: 17 :: (zv_cm ++ (yC_M ++ yV_CM)))
abbrev yL_F2 : List (Nat × Nat) := yh_m ++ (zx_fs2 ++ (zv_mf ++ (yM_F ++ yV_MF)))
abbrev yL_M2 : List Nat := zx_ms2 ++ (zv_mm ++ (yM_M ++ yV_MM))
abbrev yL_FC : List (Nat × Nat) := yL_cF ++ yL_F1
abbrev yL_MC : List Nat := 60 :: 62 :: 65 :: (yL_cM ++ yL_M1)
abbrev yL_FM : List (Nat × Nat) := (68, 1) :: (68, 78) :: (68, 82) :: (68, 73) :: (68, 74) :: (68, 84) :: (68, 85) :: (68, 86) :: yL_F2
abbrev yL_MM : List Nat := 69 :: 114 :: 119 :: yL_M2
def yL_U (h : zs_H) : Prop := (h.1 58 3) = 0 ∧ (h.1 58 4) = 0 ∧ (h.1 58 5) = 0 ∧ (h.1 58 6) = 0 ∧ (h.1 58 7) = 0 ∧ (h.1 58 8) = 0 ∧ (h.1 58 9) = 0
/-- what the next load wants -/
def yL_N (h g : zs_H) : Prop := zk_k0 h ∧ (h.2.1 46) 0 = 0 ∧ (g.1 68 68) = 0 ∧ (g.1 68 66) = 0
/-- what load leaves -/
def yL_O (φ : Nat) (h g h' g' : zs_H) : Prop := φ < 1000 ∧ zfr yL_FC yL_MC yV_CL h h' ∧ zfr yL_FM yL_MM yV_ML g g' ∧ ((h'.1 0 1) = 0 ∧ (g'.1 68 78) = 0) ∧ ((h'.1 0 2) = nI φ ∧ (g'.1 68 80) = nI φ ∧ (h'.1 0 3) = (if φ = 0 then -5 else (g'.1 68 81))) ∧ yL_N h' g' ∧ yY_io h' g' ∧ ((¬ φ = 0 ∧ (g'.1 68 82) = 0 ∧ yL_U h') ∨ (φ = 0 ∧ ((h'.1 58 3) = 1 ∧ (h'.1 58 4) = 0) ∧ (g'.1 68 82) = 1 ∧ yL_Z h' g'))
theorem yL_B {α β : Type} {v : α} {h : zs_H} {K : α → zs_H → Option β} : zd_B (some (v, h)) K = K v h := rfl
theorem yL_bad {g : zs_H} {x : Int32} (z : ¬ (g.1 68 80) = 0) : f_Mo_load_88 g x = some ((g.1 68 80), zs_uF g 68 82 0) := by
  have hz := zF_big
  have e2 : f_Mo_load_226 g = some ((g.1 68 80), zs_uF g 68 82 0) := by
    unfold f_Mo_load_226 f_Mo_load_239 f_Mo_load_273
    rw [if_neg z, if_pos (show (0 : Int32) = 0 ∨ (0 : Int32) = 1 from .inl rfl), if_pos (show (0 : Int32) = 0 from rfl)]
    rfl
  have e1 : f_Mo_load_180 g x = some ((g.1 68 80), zs_uF g 68 82 0) := by
    unfold f_Mo_load_180
    rw [if_neg z, e2]
  obtain ⟨N, hN⟩ : ∃ N, zF = N + 1 := ⟨zF - 1, by omega⟩
  unfold f_Mo_load_88
  rw [hN]
  show f_Mo_load_90 (f_Mo_load_L90 N) g x 0 = _
  unfold f_Mo_load_90
  rw [if_neg z, e1]
  split <;> rfl
theorem yL_badC {h : zs_H} {x : Int32} (z : ¬ (h.1 0 2) = 0) : f_Pk_load_102 h x = some ((h.1 0 2), h) ∧ f_Pk_load_121 h x = some ((h.1 0 2), h) ∧ f_Pk_load_133 h = some ((h.1 0 2), h) := by
  have e1 : f_Pk_load_133 h = some ((h.1 0 2), h) := by
    unfold f_Pk_load_133 f_Pk_load_165
    rw [if_neg z]
  have e2 : f_Pk_load_121 h x = some ((h.1 0 2), h) := by
    unfold f_Pk_load_121
    rw [if_neg z, e1]
  refine ⟨?_, e2, e1⟩
  unfold f_Pk_load_102
  rw [if_neg z, e2]
theorem yL_note {h : zs_H} {φ : Nat} {p : Int32} (z : ¬ nI φ = 0) : f_Pk_note h (nI φ) p = some (zs_uF (zs_uF h 0 2 (nI φ)) 0 3 p) := by
  unfold f_Pk_note
  rw [if_neg z]
section YLL
variable {h g : zs_H} {t bu : Nat}
theorem yL_load (CX : yL_CX) (H : yL_T t h g) (N0 : yL_N h g) (io : yY_io h g) (h1 : 100 ≤ bu) (h2 : bu ≤ 100000) : ∃ φ h' g', f_Pk_load h (nI bu) = some (nI φ, h') ∧ f_Mo_load g (nI bu) = some (nI φ, g') ∧ yL_O φ h g h' g' := by
  have hz := zF_big
  obtain ⟨K0, s0, l0, w0⟩ := N0
  obtain ⟨g1, eg, fg, X, tp⟩ := yL_m H h1 h2
  obtain ⟨hA, k, L, eh, fh, S, ⟨N, LD⟩, ⟨c1, c2, c3⟩, MC⟩ := yL_c H K0 h1 h2
  have k0A : zk_k0 hA := ⟨by have := N.2.2.2.1 0 (Nat.zero_le _); rw [this]; rfl, fun i hi => by rw [fh.2.1 _ (by decide)]; exact K0.2 i hi⟩
  have fin : ∀ (φ : Nat) (hx gx : zs_H), ¬ φ = 0 → φ < 1000 → yL_p hA (nI bu) = some (nI φ, hx) → yL_j g1 (nI bu) = some (nI φ, zs_uF gx 68 82 0) → zfr yL_F1 yL_M1 yV_CL hA hx → zfr yL_F2 yL_M2 yV_ML g1 gx → ((hx.1 0 2) = nI φ ∧ (gx.1 68 80) = nI φ ∧ (hx.1 0 3) = (gx.1 68 81)) → ((hx.2.1 46) 0 = 0 ∧ (gx.1 68 68) = 0 ∧ (gx.1 68 66) = 0) → ∃ φ h' g', f_Pk_load h (nI bu) = some (nI φ, h') ∧ f_Mo_load g (nI bu) = some (nI φ, g') ∧ yL_O φ h g h' g' := by
    intro φ hx gx z l q1 q2 f1 f2 q3 q4
    refine ⟨φ, hx, zs_uF gx 68 82 0, eh.trans q1, eg.trans q2, l, zfr_trans (zfr_w fh (by decide) (by decide) (by decide)) (zfr_w f1 (by decide) (by decide) (by decide)), zfr_F (by decide) (zfr_trans (zfr_w fg (by decide) (by decide) (by decide)) (zfr_w f2 (by decide) (by decide) (by decide))), ⟨(f1.1 _ _ (by decide)).trans c1, (f2.1 _ _ (by decide)).trans tp⟩, ⟨q3.1, q3.2.1, by rw [if_neg z]; exact q3.2.2⟩, ⟨⟨?_, ?_⟩, q4⟩, ?_, .inl ⟨z, rfl, ?_⟩⟩
    · rw [f1.2.1 _ (by decide)]; exact k0A.1
    · intro i hi
      rw [f1.2.1 _ (by decide)]; exact k0A.2 i hi
    · intro i hi
      have e1 : ∀ a, a ∈ [59, 60, 61] → hx.2.1 a = h.2.1 a := fun a ha => by
        have : ∀ x, x ∈ [59, 60, 61] → ¬ x ∈ yL_M1 ∧ ¬ x ∈ yL_cM := by decide
        exact (f1.2.1 a (this a ha).1).trans (fh.2.1 a (this a ha).2)
      have e2 : ∀ a, a ∈ [118, 119, 120] → gx.2.1 a = g.2.1 a := fun a ha => by
        have : ∀ x, x ∈ [118, 119, 120] → ¬ x ∈ yL_M2 ∧ ¬ x ∈ [69] := by decide
        exact (f2.2.1 a (this a ha).1).trans (fg.2.1 a (this a ha).2)
      show ((hx.2.1 59) _ = (gx.2.1 118) _ ∧ (hx.2.1 60) _ = (gx.2.1 119) _ ∧ (hx.2.1 61) _ = (gx.2.1 120) _) ∧ (_ → yJ_01 ((gx.2.1 118) _) ∧ yJ_01 ((gx.2.1 119) _) ∧ yJ_01 ((gx.2.1 120) _))
      rw [e1 59 (by decide), e1 60 (by decide), e1 61 (by decide), e2 118 (by decide), e2 119 (by decide), e2 120 (by decide)]
      exact io i hi
    · obtain ⟨m1, m2, m3, m4, m5, m6, m7⟩ := MC
      exact ⟨(f1.1 _ _ (by decide)).trans m1, (f1.1 _ _ (by decide)).trans m2, (f1.1 _ _ (by decide)).trans m3, (f1.1 _ _ (by decide)).trans m4, (f1.1 _ _ (by decide)).trans m5, (f1.1 _ _ (by decide)).trans m6, (f1.1 _ _ (by decide)).trans m7⟩
  have nz : ∀ φ, ¬ φ = 0 → φ < 1000 → ¬ nI φ = 0 := fun φ z l q => by
    have := (zc_eq (k := 0) (by decide) (by omega)).mp q
    exact z this
  have sA : (hA.2.1 46) 0 = 0 := by rw [fh.2.1 _ (by decide)]; exact s0
  have l1 : (g1.1 68 68) = 0 := (fg.1 _ _ (by decide)).trans l0
  have w1 : (g1.1 68 66) = 0 := (fg.1 _ _ (by decide)).trans w0
  obtain ⟨φ, hB, p1, p2, p3, alt⟩ := yh_two S X (CX hA _ t k L S)
  rcases alt with ⟨z, g2, a1, a2, a3⟩ | ⟨z, alt⟩
  · refine fin φ (zs_uF (zs_uF hB 0 2 (nI φ)) 0 3 ((hB.1 19 0))) (zs_uF (zs_uF g2 68 80 (nI φ)) 68 81 ((g2.1 68 30))) z p2 ?_ ?_ (zfr_F (by decide) (zfr_F (by decide) (zfr_w p3 (by decide) (by decide) (by decide)))) (zfr_F (by decide) (zfr_F (by decide) (zfr_w a3 (by decide) (by decide) (by decide)))) ⟨rfl, rfl, a2.symm⟩ ⟨?_, (a3.1 _ _ (by decide)).trans l1, (a3.1 _ _ (by decide)).trans w1⟩
    · unfold yL_p
      rw [p1]
      show ((f_Pk_note hB (nI φ) ((hB.1 19 0))).bind _) = _
      rw [yL_note (nz φ z p2), Option.bind_some]
      have q : ¬ ((zs_uF (zs_uF hB 0 2 (nI φ)) 0 3 ((hB.1 19 0))).1 0 2) = 0 := nz φ z p2
      rw [if_neg q, (yL_badC q).1]
      rfl
    · unfold yL_j
      rw [a1]
      show (if nI φ = 0 then _ else f_Mo_load_88 (zs_uF (zs_uF g2 68 80 (nI φ)) 68 81 ((g2.1 68 30))) (nI bu)) = _
      rw [if_neg (nz φ z p2), yL_bad (show ¬ ((zs_uF (zs_uF g2 68 80 (nI φ)) 68 81 ((g2.1 68 30))).1 68 80) = 0 from nz φ z p2)]
      rfl
    · show (hB.2.1 46) 0 = 0
      rw [p3.2.1 _ (by decide)]; exact sA
  · subst z
    obtain ⟨ψ, hC, g2, b1, b2, b3, b4, b5, b6, b7⟩ := alt hB zfr_rfl
    have fB : (hB.1 0 2) = 0 := (p3.1 _ _ (by decide)).trans c2
    have eP : yL_p hA (nI bu) = ((f_Pk_note hC (nI ψ) ((hC.1 38 0))).bind fun h19 => f_Pk_load_102 h19 (nI bu)) := by
      unfold yL_p
      rw [p1, yL_B, show f_Pk_note hB (nI 0) ((hB.1 19 0)) = some hB by unfold f_Pk_note; rw [if_pos (show nI 0 = 0 from rfl)], Option.bind_some, if_pos fB, b1]
      rfl
    have fC : zfr yL_F1 yL_M1 yV_CL hA hC := zfr_trans (zfr_w p3 (by decide) (by decide) (by decide)) (zfr_w b4 (by decide) (by decide) (by decide))
    have sC : (hC.2.1 46) 0 = 0 := by rw [b4.2.1 _ (by decide), p3.2.1 _ (by decide)]; exact sA
    have f2 : zfr yL_F2 yL_M2 yV_ML g1 g2 := zfr_w b5 (by decide) (by decide) (by decide)
    by_cases z : ψ = 0
    · subst z
      obtain ⟨s, LM, g5, d1, d2, d3, d4⟩ := b7 rfl
      obtain ⟨g3, hg3⟩ : ∃ g3, g3 = zs_uF (zs_uF g2 68 80 (nI 0)) 68 81 ((g2.1 68 30)) := ⟨_, rfl⟩
      have Z3 : yh_Z s L LM hC g3 := yZ_Zf d4 (by rw [hg3, d3]; exact zfr_F (by decide) (zfr_F (by decide) (zfr_F (by decide) zfr_rfl)))
      have l3 : (g3.1 68 68) = 0 := by rw [hg3]; exact (b5.1 _ _ (by decide)).trans l1
      have w3 : (g3.1 68 66) = 0 := by rw [hg3]; exact (b5.1 _ _ (by decide)).trans w1
      have f3 : zfr yL_F2 yL_M2 yV_ML g1 g3 := by rw [hg3]; exact zfr_F (by decide) (zfr_F (by decide) f2)
      have fC0 : (hC.1 0 2) = 0 := (b4.1 _ _ (by decide)).trans fB
      have pC0 : (hC.1 0 3) = -5 := (b4.1 _ _ (by decide)).trans ((p3.1 _ _ (by decide)).trans c3)
      obtain ⟨hD, gD, e1, e2, ⟨e3, e4, e5⟩, alt⟩ := yx_all Z3 d2 (by omega) sC l3 w3
      have fD : zfr yL_F1 yL_M1 yV_CL hA hD := zfr_trans fC (zfr_w e1 (by decide) (by decide) (by decide))
      have f4 : zfr yL_F2 yL_M2 yV_ML g1 gD := zfr_trans f3 (zfr_w e2 (by decide) (by decide) (by decide))
      have fD0 : (hD.1 0 2) = 0 := (e1.1 _ _ (by decide)).trans fC0
      have pD0 : (hD.1 0 3) = -5 := (e1.1 _ _ (by decide)).trans pC0
      have eP2 : yL_p hA (nI bu) = zd_B (f_Cr_codeAll hC) fun v3 h4 => ((f_Pk_note h4 v3 0).bind fun h6 => f_Pk_load_121 h6 (nI bu)) := by
        rw [eP, show f_Pk_note hC (nI 0) ((hC.1 38 0)) = some hC by unfold f_Pk_note; rw [if_pos (show nI 0 = 0 from rfl)], Option.bind_some]
        unfold f_Pk_load_102
        rw [if_pos fC0]
      have eM2 : yL_j g1 (nI bu) = zd_B (f_Mo_generate g3) fun v7 h8 => (if v7 = 0 then ((f_Mo_refuse h8 50 0).bind fun h12 => f_Mo_load_88 h12 (nI bu)) else f_Mo_load_88 h8 (nI bu)) := by
        unfold yL_j
        rw [b2, hg3, yL_B, if_pos (show nI 0 = 0 from rfl)]
      rcases alt with ⟨x1, x2⟩ | ⟨x1, x2, x3⟩
      · refine fin 50 (zs_uF (zs_uF hD 0 2 (nI 50)) 0 3 0) (zs_uF (zs_uF gD 68 80 (nI 50)) 68 81 0) (by decide) (by decide) ?_ ?_ (zfr_F (by decide) (zfr_F (by decide) fD)) (zfr_F (by decide) (zfr_F (by decide) f4)) ⟨rfl, rfl, rfl⟩ ⟨e3, e4, e5⟩
        · rw [eP2, x1, yL_B, show (50 : Int32) = nI 50 from rfl, yL_note (show ¬ nI 50 = 0 by decide), Option.bind_some]
          have q : ¬ ((zs_uF (zs_uF hD 0 2 (nI 50)) 0 3 0).1 0 2) = 0 := (show ¬ nI 50 = 0 by decide)
          rw [(yL_badC q).2.1]
          rfl
        · rw [eM2, x2, yL_B, if_pos (show (0 : Int32) = 0 from rfl)]
          unfold f_Mo_refuse
          rw [Option.bind_some]
          exact yL_bad (g := zs_uF (zs_uF gD 68 80 (nI 50)) 68 81 0) (show ¬ nI 50 = 0 by decide)
      · have gD0 : (gD.1 68 80) = 0 := (e2.1 _ _ (by decide)).trans (by rw [hg3]; rfl)
        obtain ⟨hE, gE, φ, p, y1, y2, y3, y4, y5, y6, y7, y8, y9, y10⟩ := yV_all (h2 := hD) (g2 := gD) x3 h2 zfr_rfl zfr_rfl fD0 gD0
        have fE : zfr yL_F1 yL_M1 yV_CL hA hE := zfr_trans fD (zfr_w y3 (by decide) (by decide) (by decide))
        have fG : zfr yL_F2 yL_M2 yV_ML g1 gE := zfr_trans f4 (zfr_w y4 (by decide) (by decide) (by decide))
        have eP3 : yL_p hA (nI bu) = f_Pk_load_133 hE := by
          rw [eP2, x1, yL_B, show f_Pk_note hD 0 0 = some hD by unfold f_Pk_note; rw [if_pos (show (0 : Int32) = 0 from rfl)], Option.bind_some]
          unfold f_Pk_load_121
          rw [if_pos fD0, y1, Option.bind_some]
        have eM3 : yL_j g1 (nI bu) = f_Mo_load_226 gE := by
          rw [eM2, x2, yL_B, if_neg (show ¬ (1 : Int32) = 0 by decide), y2]
        have sE : (hE.2.1 46) 0 = 0 := by rw [y3.2.1 _ (by decide)]; exact e3
        have lE : (gE.1 68 68) = 0 := (y4.1 _ _ (by decide)).trans e4
        have wE : (gE.1 68 66) = 0 := (y4.1 _ _ (by decide)).trans e5
        by_cases z : φ = 0
        · subst z
          have NC : zn_C hC L := by
            unfold zn_C
            rw [fC.1 2 5 (by decide), fC.2.1 5 (by decide), fC.2.1 4 (by decide), fC.2.1 7 (by decide), fC.2.1 6 (by decide)]
            exact N
          have E : yL_E hC g3 hE gE := yL_Ef yL_E0 (zfr_trans (zfr_w e1 (by decide) (by decide) (by decide)) (zfr_w y3 (by decide) (by decide) (by decide))) (zfr_trans (zfr_w e2 (by decide) (by decide) (by decide)) (zfr_w y4 (by decide) (by decide) (by decide)))
          have ioE : yY_io hE gE := fun i hi => by
            have e1 : ∀ a, a ∈ [59, 60, 61] → hE.2.1 a = h.2.1 a := fun a ha => by
              have : ∀ x, x ∈ [59, 60, 61] → ¬ x ∈ yL_M1 ∧ ¬ x ∈ yL_cM := by decide
              exact (fE.2.1 a (this a ha).1).trans (fh.2.1 a (this a ha).2)
            have e2 : ∀ a, a ∈ [118, 119, 120] → gE.2.1 a = g.2.1 a := fun a ha => by
              have : ∀ x, x ∈ [118, 119, 120] → ¬ x ∈ yL_M2 ∧ ¬ x ∈ [69] := by decide
              exact (fG.2.1 a (this a ha).1).trans (fg.2.1 a (this a ha).2)
            rw [e1 59 (by decide), e1 60 (by decide), e1 61 (by decide), e2 118 (by decide), e2 119 (by decide), e2 120 (by decide)]
            exact io i hi
          obtain ⟨m1, m2, m3, m4, m5, m6, m7⟩ := MC
          obtain ⟨hG, gG, v1, v2, v3, v4, v5, v6, v7⟩ := yL_done (y10 rfl) h2 E NC LD ioE y6 y7 ⟨(fE.1 _ _ (by decide)).trans m4, (fE.1 _ _ (by decide)).trans m5, (fE.1 _ _ (by decide)).trans m6, (fE.1 _ _ (by decide)).trans m7⟩
          refine ⟨0, hG, gG, eh.trans (eP3.trans v1), eg.trans (eM3.trans v2), by decide, zfr_trans (zfr_w fh (by decide) (by decide) (by decide)) (zfr_trans (zfr_w fE (by decide) (by decide) (by decide)) (zfr_w v3 (by decide) (by decide) (by decide))), zfr_trans (zfr_w fg (by decide) (by decide) (by decide)) (zfr_trans (zfr_w fG (by decide) (by decide) (by decide)) (zfr_w v4 (by decide) (by decide) (by decide))), ⟨(v3.1 _ _ (by decide)).trans ((fE.1 _ _ (by decide)).trans c1), (v4.1 _ _ (by decide)).trans ((fG.1 _ _ (by decide)).trans tp)⟩, ⟨(v3.1 _ _ (by decide)).trans y6, (v4.1 _ _ (by decide)).trans y7, ?_⟩, ⟨⟨?_, ?_⟩, ?_, (v4.1 _ _ (by decide)).trans lE, (v4.1 _ _ (by decide)).trans wE⟩, v7, .inr ⟨rfl, v5.1, v5.2, v6⟩⟩
          · rw [if_pos (show (0 : Nat) = 0 from rfl)]
            rw [if_pos (show (0 : Nat) = 0 from rfl)] at y8
            exact (v3.1 _ _ (by decide)).trans (y8.trans pD0)
          · rw [v3.2.1 _ (by decide), fE.2.1 _ (by decide)]; exact k0A.1
          · intro i hi
            rw [v3.2.1 _ (by decide), fE.2.1 _ (by decide)]; exact k0A.2 i hi
          · rw [v3.2.1 _ (by decide)]; exact sE
        · have q1 : ¬ (hE.1 0 2) = 0 := by rw [y6]; exact nz φ z (by omega)
          have q2 : ¬ (gE.1 68 80) = 0 := by rw [y7]; exact nz φ z (by omega)
          refine fin φ hE gE z (by omega) (eP3.trans ((yL_badC (x := 0) q1).2.2.trans (by rw [y6]))) (eM3.trans ?_) fE fG ⟨y6, y7, by rw [y8, y9, if_neg z, if_neg z]⟩ ⟨sE, lE, wE⟩
          unfold f_Mo_load_226 f_Mo_load_239 f_Mo_load_273
          rw [if_neg q2, if_pos (show (0 : Int32) = 0 ∨ (0 : Int32) = 1 from .inl rfl), if_pos (show (0 : Int32) = 0 from rfl)]
          show some ((gE.1 68 80), _) = _
          rw [y7]
    · refine fin ψ (zs_uF (zs_uF hC 0 2 (nI ψ)) 0 3 ((hC.1 38 0))) (zs_uF (zs_uF g2 68 80 (nI ψ)) 68 81 ((g2.1 68 30))) z b3 ?_ ?_ (zfr_F (by decide) (zfr_F (by decide) fC)) (zfr_F (by decide) (zfr_F (by decide) f2)) ⟨rfl, rfl, b6 z⟩ ⟨sC, (b5.1 _ _ (by decide)).trans l1, (b5.1 _ _ (by decide)).trans w1⟩
      · rw [eP, yL_note (nz ψ z b3), Option.bind_some]
        have q : ¬ ((zs_uF (zs_uF hC 0 2 (nI ψ)) 0 3 ((hC.1 38 0))).1 0 2) = 0 := nz ψ z b3
        rw [(yL_badC q).1]
        rfl
      · unfold yL_j
        rw [b2]
        show (if nI ψ = 0 then _ else f_Mo_load_88 (zs_uF (zs_uF g2 68 80 (nI ψ)) 68 81 ((g2.1 68 30))) (nI bu)) = _
        rw [if_neg (nz ψ z b3), yL_bad (show ¬ ((zs_uF (zs_uF g2 68 80 (nI ψ)) 68 81 ((g2.1 68 30))).1 68 80) = 0 from nz ψ z b3)]
        rfl
end YLL
end
section
/-! What holds between two calls, on both sides; the small calls. -/
abbrev yO_F1 : List (Nat × Nat) := [(0, 1), (0, 4), (58, 4), (58, 6), (58, 7), (58, 8), (58, 9), (58, 14), (58, 17), (58, 18), (58, 19), (58, 20), (66, 1), (66, 2), (66, 4), (66, 5)]
abbrev yO_M1 : List Nat := [1, 59, 60, 61, 62, 63, 64, 65, 67]
abbrev yO_F2 : List (Nat × Nat) := [(68, 73), (68, 74), (68, 75), (68, 76), (68, 78), (68, 83), (68, 84), (68, 85), (68, 86), (68, 87), (68, 88), (68, 93), (68, 94), (68, 95)]
abbrev yO_M2 : List Nat := [114, 115, 116, 117, 118, 119, 120]
abbrev yO_f1 : List (Nat × Nat) := [(0, 1), (0, 4), (66, 1), (66, 2), (66, 4), (66, 5)]
abbrev yO_m1 : List Nat := [1, 59, 60, 61, 67]
abbrev yO_f2 : List (Nat × Nat) := [(68, 78), (68, 83), (68, 87), (68, 88), (68, 93), (68, 94), (68, 95)]
abbrev yO_m2 : List Nat := [116, 117, 118, 119, 120]
def yO_D (h g : zs_H) : Prop := ((g.1 68 82) = 0 ∧ yL_U h) ∨ ((h.1 58 3) = 1 ∧ (g.1 68 82) = 1 ∧ ((h.1 58 4) = 0 ∨ (h.1 58 4) = 1) ∧ yL_Z h g)
def yO_c (h g : zs_H) : Prop := (h.1 0 2) = (g.1 68 80) ∧ (h.1 0 3) = (if (g.1 68 80) = 0 then -5 else (g.1 68 81))
def yO_o (h g : zs_H) : Prop := ∃ n, n ≤ 256 ∧ (h.1 66 1) = nI n ∧ (g.1 68 88) = nI n ∧ ∀ i, i < n → (h.2.1 67) i &&& 255 = (g.2.1 117) i
/-- between two calls -/
def yO (t : Nat) (h g : zs_H) : Prop := yL_T t h g ∧ yL_N h g ∧ yY_io h g ∧ yO_c h g ∧ ((h.1 0 4) = (g.1 68 87) ∧ (h.1 66 2) = (g.1 68 83)) ∧ yO_o h g ∧ yO_D h g
/-- what the class's calls leave, what the model's leave -/
def zO_C (h h' : zs_H) : Prop := ∀ k, 68 ≤ k → h'.1 k = h.1 k ∧ h'.2.1 k = h.2.1 k ∧ h'.2.2 k = h.2.2 k
def zO_M (g g' : zs_H) : Prop := ∀ k, k < 68 → g'.1 k = g.1 k ∧ g'.2.1 k = g.2.1 k ∧ g'.2.2 k = g.2.2 k
abbrev zO_r (h g h' g' : zs_H) : Prop := zO_C h h' ∧ zO_M g g'
section ZOR
variable {h g h' g' h'' : zs_H} {fs : List (Nat × Nat)} {ms ls : List Nat}
theorem zO_Cz (f : zfr fs ms ls h h') (c1 : ∀ p, p ∈ fs → p.1 < 68 := by decide) (c2 : ∀ p, p ∈ ms → p < 68 := by decide) (c3 : ∀ p, p ∈ ls → p < 68 := by decide) : zO_C h h' := fun k hk => ⟨funext fun j => f.1 k j (fun z => by have := c1 _ z; have e : k < 68 := this; omega), f.2.1 k (fun z => by have := c2 _ z; omega), f.2.2 k (fun z => by have := c3 _ z; omega)⟩
theorem zO_Mz (f : zfr fs ms ls g g') (c1 : ∀ p, p ∈ fs → 68 ≤ p.1 := by decide) (c2 : ∀ p, p ∈ ms → 68 ≤ p := by decide) (c3 : ∀ p, p ∈ ls → 68 ≤ p := by decide) : zO_M g g' := fun k hk => ⟨funext fun j => f.1 k j (fun z => by have := c1 _ z; have e : 68 ≤ k := this; omega), f.2.1 k (fun z => by have := c2 _ z; omega), f.2.2 k (fun z => by have := c3 _ z; omega)⟩
theorem zO_C0 : zO_C h h := fun _ _ => ⟨rfl, rfl, rfl⟩
theorem zO_M0 : zO_M h h := fun _ _ => ⟨rfl, rfl, rfl⟩
theorem zO_Ct (a : zO_C h h') (b : zO_C h' h'') : zO_C h h'' := fun k hk => ⟨(b k hk).1.trans (a k hk).1, (b k hk).2.1.trans (a k hk).2.1, (b k hk).2.2.trans (a k hk).2.2⟩
theorem zO_Mt (a : zO_M h h') (b : zO_M h' h'') : zO_M h h'' := fun k hk => ⟨(b k hk).1.trans (a k hk).1, (b k hk).2.1.trans (a k hk).2.1, (b k hk).2.2.trans (a k hk).2.2⟩
end ZOR
section YOR
variable {h0 g0 h g h' g' : zs_H} {nb w t : Nat} {T : Nat → ys} {F X Y K : Nat → Nat} {LC LM : List (List Int32)}
theorem yO_Lf (L : yY_L h0 nb T X Y K w h g) (f1 : zfr yO_F1 yO_M1 [] h h') (f2 : zfr yO_F2 yO_M2 [] g g') : yY_L h0 nb T X Y K w h' g' := by
  obtain ⟨L1, L2, ⟨c1, ⟨c2, c3⟩, c4, c5, c6⟩, ⟨m1, m2, m3, m4, m5⟩⟩ := L
  refine ⟨L1, L2, ⟨fun u hu hk => by rw [f1.2.1 _ (by decide)]; exact c1 u hu hk, ⟨fun u hu => by rw [f1.2.1 _ (by decide)]; exact c2 u hu, (f1.1 _ _ (by decide)).trans c3⟩, yL_AC c4 (fun a l1 l2 => f1.2.1 a (fun q => ?_)), (f1.1 _ _ (by decide)).trans c5, (f1.1 _ _ (by decide)).trans c6⟩, ⟨fun u hu hk => by rw [f2.2.1 _ (by decide)]; exact m1 u hu hk, fun u hu => by rw [f2.2.1 _ (by decide)]; exact m2 u hu, yL_AM m3 (fun a l1 l2 => f2.2.1 a (fun q => ?_)), (f2.1 _ _ (by decide)).trans m4, by rw [f2.2.2 _ (by decide)]; exact m5⟩⟩
  · have : ∀ x, x ∈ yO_M1 → x < 42 ∨ 45 < x := by decide
    have := this a q; omega
  · have : ∀ x, x ∈ yO_M2 → 108 < x := by decide
    have := this a q; omega
theorem yO_Nf (N : yL_N h g) (f1 : zfr yO_F1 yO_M1 [] h h') (f2 : zfr yO_F2 yO_M2 [] g g') : yL_N h' g' := by
  obtain ⟨⟨n1, n2⟩, n3, n4, n5⟩ := N
  exact ⟨⟨by rw [f1.2.1 _ (by decide)]; exact n1, fun i hi => by rw [f1.2.1 _ (by decide)]; exact n2 i hi⟩, by rw [f1.2.1 _ (by decide)]; exact n3, (f2.1 _ _ (by decide)).trans n4, (f2.1 _ _ (by decide)).trans n5⟩
/-- a loaded text, in parts -/
def yO_S (LC LM : List (List Int32)) (nb : Nat) (F X Y K : Nat → Nat) (T : Nat → ys) (w : Nat) (h0 g0 h g : zs_H) : Prop := yB_P LC LM nb F X Y K h0 g0 ∧ yL_E h0 g0 h g ∧ yY_L h0 nb T X Y K w h g ∧ ((h.1 20 17) = nI (9 + nb) ∧ (h.1 41 5) = (g.1 68 56) ∧ (h.1 20 20) = (g.1 68 55)) ∧ zn_C h LC ∧ zwt_ld LC
theorem yO_ZS (Z : yL_Z h g) : ∃ (LC LM : List (List Int32)) (nb : Nat) (F X Y K : Nat → Nat) (T : Nat → ys) (w : Nat) (h0 g0 : zs_H), yO_S LC LM nb F X Y K T w h0 g0 h g ∧ yY_M (yJ_J h0 nb T X K) h g := by
  obtain ⟨LC, LM, nb, F, X, Y, K, T, w, h0, g0, P, E, L, M, B, N⟩ := Z
  exact ⟨LC, LM, nb, F, X, Y, K, T, w, h0, g0, ⟨P, E, L, B, N⟩, M⟩
theorem yO_SZ (S : yO_S LC LM nb F X Y K T w h0 g0 h g) (M : yY_M (yJ_J h0 nb T X K) h g) : yL_Z h g := by
  obtain ⟨P, E, L, B, N⟩ := S
  exact ⟨LC, LM, nb, F, X, Y, K, T, w, h0, g0, P, E, L, M, B, N⟩
theorem yO_Sf (S : yO_S LC LM nb F X Y K T w h0 g0 h g) (f1 : zfr yO_F1 yO_M1 [] h h') (f2 : zfr yO_F2 yO_M2 [] g g') : yO_S LC LM nb F X Y K T w h0 g0 h' g' := by
  obtain ⟨P, E, L, ⟨B1, B2, B3⟩, N, LD⟩ := S
  refine ⟨P, yL_Ef E (zfr_w f1 (by decide) (by decide) (by decide)) (zfr_w f2 (by decide) (by decide) (by decide)), yO_Lf L f1 f2, ⟨(f1.1 _ _ (by decide)).trans B1, (f1.1 _ _ (by decide)).trans (B2.trans (f2.1 _ _ (by decide)).symm), (f1.1 _ _ (by decide)).trans (B3.trans (f2.1 _ _ (by decide)).symm)⟩, ?_, LD⟩
  unfold zn_C
  rw [f1.1 2 5 (by decide), f1.2.1 5 (by decide), f1.2.1 4 (by decide), f1.2.1 7 (by decide), f1.2.1 6 (by decide)]
  exact N
theorem yO_Mf {J : (Nat → Int32) → Prop} (M : yY_M J h g) (f1 : zfr yO_f1 yO_m1 [] h h') (f2 : zfr yO_f2 yO_m2 [] g g') : yY_M J h' g' := by
  obtain ⟨m1, m2, ⟨m3, m4, m5, m6⟩, m7⟩ := M
  refine ⟨fun j hj => by rw [f1.2.1 _ (by decide), f2.2.1 _ (by decide)]; exact m1 j hj, by rw [f2.2.1 _ (by decide)]; exact m2, ⟨?_, ?_, ?_, ?_⟩, ?_⟩
  · exact (f1.1 _ _ (by decide)).trans (m3.trans (f2.1 _ _ (by decide)).symm)
  · exact (f1.1 _ _ (by decide)).trans (m4.trans (f2.1 _ _ (by decide)).symm)
  · exact (f1.1 _ _ (by decide)).trans (m5.trans (f2.1 _ _ (by decide)).symm)
  · exact (f1.1 _ _ (by decide)).trans (m6.trans (f2.1 _ _ (by decide)).symm)
  · exact (f1.1 _ _ (by decide)).trans (m7.trans (f2.1 _ _ (by decide)).symm)
theorem yO_Df (D : yO_D h g) (f1 : zfr yO_f1 yO_m1 [] h h') (f2 : zfr yO_f2 yO_m2 [] g g') : yO_D h' g' := by
  rcases D with ⟨d1, ⟨u1, u2, u3, u4, u5, u6, u7⟩⟩ | ⟨d1, d2, d3, Z⟩
  · exact .inl ⟨(f2.1 _ _ (by decide)).trans d1, (f1.1 _ _ (by decide)).trans u1, (f1.1 _ _ (by decide)).trans u2, (f1.1 _ _ (by decide)).trans u3, (f1.1 _ _ (by decide)).trans u4, (f1.1 _ _ (by decide)).trans u5, (f1.1 _ _ (by decide)).trans u6, (f1.1 _ _ (by decide)).trans u7⟩
  · obtain ⟨LC, LM, nb, F, X, Y, K, T, w, h0, g0, S, M⟩ := yO_ZS Z
    exact .inr ⟨(f1.1 _ _ (by decide)).trans d1, (f2.1 _ _ (by decide)).trans d2, by rw [f1.1 58 4 (by decide)]; exact d3, yO_SZ (yO_Sf S (zfr_w f1 (by decide) (by decide) (by decide)) (zfr_w f2 (by decide) (by decide) (by decide))) (yO_Mf M f1 f2)⟩
theorem yO_cf (c : yO_c h g) (f1 : zfr yO_F1 yO_M1 [] h h') (f2 : zfr yO_F2 yO_M2 [] g g') : yO_c h' g' := by
  unfold yO_c
  rw [f1.1 0 2 (by decide), f1.1 0 3 (by decide), f2.1 68 80 (by decide), f2.1 68 81 (by decide)]
  exact c
theorem yO_el (D : yO_D h g) : (h.1 58 3) = (g.1 68 82) ∧ ((h.1 58 3) = 0 ∨ (h.1 58 3) = 1) := by
  rcases D with ⟨d1, d2⟩ | ⟨d1, d2, _⟩
  · exact ⟨d2.1.trans d1.symm, .inl d2.1⟩
  · exact ⟨d1.trans d2.symm, .inr d1⟩
/-- the tape has grown or shrunk, nothing else -/
theorem yO_tape (R : yO t h g) {t' : Nat} (H : yL_T t' h' g') (f1 : zfr [(0, 1)] [1] [] h h') (f2 : zfr [(68, 78)] [116] [] g g') : yO t' h' g' := by
  obtain ⟨_, N, io, c, ⟨s1, s2⟩, o, D⟩ := R
  refine ⟨H, yO_Nf N (zfr_w f1 (by decide) (by decide) (by decide)) (zfr_w f2 (by decide) (by decide) (by decide)), fun i hi => ?_, yO_cf c (zfr_w f1 (by decide) (by decide) (by decide)) (zfr_w f2 (by decide) (by decide) (by decide)), ⟨?_, ?_⟩, ?_, yO_Df D (zfr_w f1 (by decide) (by decide) (by decide)) (zfr_w f2 (by decide) (by decide) (by decide))⟩
  · rw [f1.2.1 _ (by decide), f1.2.1 _ (by decide), f1.2.1 _ (by decide), f2.2.1 _ (by decide), f2.2.1 _ (by decide), f2.2.1 _ (by decide)]
    exact io i hi
  · exact (f1.1 _ _ (by decide)).trans (s1.trans (f2.1 _ _ (by decide)).symm)
  · exact (f1.1 _ _ (by decide)).trans (s2.trans (f2.1 _ _ (by decide)).symm)
  · obtain ⟨n, n1, n2, n3, n4⟩ := o
    exact ⟨n, n1, (f1.1 _ _ (by decide)).trans n2, (f2.1 _ _ (by decide)).trans n3, fun i hi => by rw [f1.2.1 _ (by decide), f2.2.1 _ (by decide)]; exact n4 i hi⟩
theorem yO_feed (R : yO t h g) (x1 x2 x3 x4 x5 : Int32) (ht : t + 20 ≤ 10240) : ∃ v h' g', f_Pk_feed h x1 x2 x3 x4 x5 = some (v, h') ∧ f_Mo_feed g x1 x2 x3 x4 x5 = some (v, g') ∧ yO (t + 20) h' g' ∧ zO_r h g h' g' := by
  obtain ⟨⟨t1, t2, t3⟩, t4, t5⟩ := R.1
  obtain ⟨⟨v, h'⟩, a1, a2, a3, a4, a5⟩ := zb_cf x1 x2 x3 x4 x5 t1 (by omega)
  obtain ⟨⟨v', g'⟩, b1, b2, b3, b4, b5⟩ := zb_mf x1 x2 x3 x4 x5 t2 (by omega)
  refine ⟨v, h', g', a1, by rw [b1]; congr 2; exact b2.trans a2.symm, yO_tape R ⟨⟨a3, b3, ht⟩, fun i => ?_, fun i hi => ?_⟩ a5 b5, zO_Cz a5, zO_Mz b5⟩
  · have a4' : h'.2.1 1 = _ := a4
    rw [a4']
    exact zb_4ok (zb_4ok (zb_4ok (zb_4ok (zb_4ok t4)))) i
  · have a4' : h'.2.1 1 = _ := a4
    have b4' : g'.2.1 116 = _ := b4
    rw [a4', b4']
    exact zb_4eq (zb_4eq (zb_4eq (zb_4eq (zb_4eq t5)))) i (by omega)
theorem yO_end (R : yO t h g) (x1 : Int32) : ∃ v h' g' t', f_Pk_end h x1 = some (v, h') ∧ f_Mo_end g x1 = some (v, g') ∧ t' ≤ t ∧ yO t' h' g' ∧ zO_r h g h' g' := by
  obtain ⟨⟨t1, t2, t3⟩, t4, t5⟩ := R.1
  unfold f_Pk_end f_Mo_end
  by_cases c1 : x1 < 0
  · rw [if_pos c1, if_pos c1]; exact ⟨_, _, _, t, rfl, rfl, Nat.le_refl _, R, zO_C0, zO_M0⟩
  rw [if_neg c1, if_neg c1]
  by_cases c2 : (20 : Int32) < x1
  · rw [if_pos c2, if_pos c2]; exact ⟨_, _, _, t, rfl, rfl, Nat.le_refl _, R, zO_C0, zO_M0⟩
  rw [if_neg c2, if_neg c2, t1, t2]
  by_cases c3 : 20 ≤ t
  · rw [if_pos ((zc_le (k := 20) (by decide) (by omega)).mpr c3), if_pos ((zc_le (k := 20) (by decide) (by omega)).mpr c3)]
    obtain ⟨a, a1, a2⟩ := yZ_nn (k := 20) c1 c2 (by decide)
    have e : nI t - 20 + x1 = nI (t - 20 + a) := by
      rw [a2, show nI t - 20 = nI (t - 20) from zi_sub (b := 20) c3, nI_add]
    rw [e]
    exact ⟨_, _, _, t - 20 + a, rfl, rfl, by omega, yO_tape R ⟨⟨rfl, rfl, by omega⟩, t4, fun i hi => t5 i (by omega)⟩ (zfr_F (by decide) zfr_rfl) (zfr_F (by decide) zfr_rfl), zO_Cz (fs := [(0, 1)]) (ms := []) (ls := []) (zfr_F (by decide) zfr_rfl), zO_Mz (fs := [(68, 78)]) (ms := []) (ls := []) (zfr_F (by decide) zfr_rfl)⟩
  · rw [if_neg (mt (zc_le (k := 20) (by decide) (by omega)).mp c3), if_neg (mt (zc_le (k := 20) (by decide) (by omega)).mp c3)]
    exact ⟨_, _, _, t, rfl, rfl, Nat.le_refl _, R, zO_C0, zO_M0⟩
theorem yO_station (R : yO t h g) (x1 : Int32) : ∃ v h' g', f_Pk_station h x1 = some (v, h') ∧ f_Mo_station g x1 = some (v, g') ∧ yO t h' g' ∧ zO_r h g h' g' := by
  unfold f_Pk_station f_Mo_station
  by_cases c1 : x1 < 1
  · rw [if_pos c1, if_pos c1]; exact ⟨_, _, _, rfl, rfl, R, zO_C0, zO_M0⟩
  rw [if_neg c1, if_neg c1]
  by_cases c2 : x1 ≤ 247
  · rw [if_pos c2, if_pos c2]
    obtain ⟨H, N, io, c, ⟨s1, s2⟩, o, D⟩ := R
    have f1 : zfr yO_f1 yO_m1 [] h (zs_uF h 66 2 x1) := zfr_F (by decide) zfr_rfl
    have f2 : zfr yO_f2 yO_m2 [] g (zs_uF g 68 83 x1) := zfr_F (by decide) zfr_rfl
    exact ⟨(h.1 66 2), zs_uF h 66 2 x1, zs_uF g 68 83 x1, rfl, congrArg some (Prod.ext s2.symm rfl), ⟨H, N, io, c, ⟨s1, rfl⟩, o, yO_Df D f1 f2⟩, zO_Cz f1, zO_Mz f2⟩
  · rw [if_neg c2, if_neg c2]; exact ⟨_, _, _, rfl, rfl, R, zO_C0, zO_M0⟩
theorem yO_byteAt (R : yO t h g) (x1 : Int32) : ∃ v, f_Pk_byteAt h x1 = some v ∧ f_Mo_byteAt g x1 = some v := by
  obtain ⟨n, n1, n2, n3, n4⟩ := R.2.2.2.2.2.1
  unfold f_Pk_byteAt f_Mo_byteAt
  rw [n2, n3]
  by_cases c1 : x1 < 0
  · rw [if_pos c1, if_pos c1]; exact ⟨_, rfl, rfl⟩
  rw [if_neg c1, if_neg c1]
  by_cases c2 : x1 < nI n
  · rw [if_pos c2, if_pos c2]
    obtain ⟨i, i1, i2⟩ := yZ_nn (k := n) c1 (fun q => Int32.lt_irrefl (Int32.lt_trans c2 q)) (by omega)
    subst i2
    have hi : i < n := (nI_ltI (by omega) (by omega)).mp c2
    rw [if_pos (zi_in (by omega) (show i < 256 by omega)), if_pos (zi_in (by omega) (show i < 300 by omega)), nI_clamp (by omega), n4 i hi]
    exact ⟨_, rfl, rfl⟩
  · rw [if_neg c2, if_neg c2]; exact ⟨_, rfl, rfl⟩
theorem yO_watched (R : yO t h g) : f_Pk_watched h = f_Mo_watched g := R.2.2.2.2.1.1
theorem yO_i {c : Prop} [Decidable c] {A A' : Option Int32} {B B' : Int32} (h1 : A = some B) (h2 : A' = some B') : (if c then A else A') = some (if c then B else B') := by
  split
  · exact h1
  · exact h2
theorem yO_count (R : yO t h g) (x1 : Int32) : f_Mo_count g x1 = some (f_Pk_count h x1) := by
  obtain ⟨H, N, io, ⟨c1, c2⟩, _, o, D⟩ := R
  unfold f_Mo_count f_Pk_count
  rw [c1, c2]
  rcases D with ⟨d1, ⟨u1, u2, u3, u4, u5, u6, u7⟩⟩ | ⟨d1, d2, d3, Z⟩
  · have p0 : ∀ {α : Type} (a b : α), (if (0 : Int32) = 0 then a else b) = a := fun a b => if_pos rfl
    rw [d1, u1, u2, u3, u4, u5, u6, u7, p0, p0, p0, p0, p0, p0, p0, p0, p0]
    exact yO_i rfl (yO_i (yO_i rfl rfl) (yO_i rfl (yO_i rfl (yO_i rfl (yO_i rfl (yO_i rfl (yO_i rfl (yO_i rfl (yO_i rfl rfl)))))))))
  · obtain ⟨LC, LM, nb, F, X, Y, K, T, w, h0, g0, ⟨P, E, ⟨L1, ⟨L2, L2'⟩, ⟨_, _, _, _, l6⟩, ⟨_, _, _, m4, m5⟩⟩, ⟨B1, B2, B3⟩, _⟩, ⟨_, _, ⟨M3, M4, M5, M6⟩, M7⟩⟩ := yO_ZS Z
    obtain ⟨⟨n0, n16⟩, _⟩ := P
    have e2 : (lN w).toInt32 = nI w := by rw [← zj_32 (by omega)]; exact Int32.toInt32_toInt64 _
    rw [d1, d2, M3, M4, M5, M6, M7, B2, B3, l6, m4, show nI nb - 1 = nI (nb - 1) from zi_sub (b := 1) (by omega), if_pos (zi_in (by omega) (show nb - 1 < 16 by omega)), nI_clamp (by omega), m5, e2]
    have p1 : ∀ {α : Type} (a b : α), (if (1 : Int32) = 0 then a else b) = b := fun a b => if_neg (by decide)
    simp only [p1]
    exact yO_i rfl (yO_i (yO_i rfl rfl) (yO_i rfl (yO_i rfl (yO_i rfl (yO_i rfl (yO_i rfl (yO_i rfl (yO_i rfl (yO_i (yO_i rfl rfl) rfl)))))))))
end YOR
end
section
/-! put, get, safe, scan, restart, load keep what holds between two calls. -/
section YOK
variable {h g h' g' : zs_H} {t : Nat}
/-- the machine has moved, nothing else -/
theorem yO_mach (R : yO t h g) (f1 : zfr [(58, 4), (58, 6), (58, 7), (58, 8), (58, 9), (58, 14), (58, 17), (58, 18), (58, 19), (58, 20)] [59, 60, 61, 62, 63, 64, 65] [] h h') (f2 : zfr [(68, 73), (68, 74), (68, 75), (68, 76), (68, 84), (68, 85), (68, 86)] [114, 115, 118, 119, 120] [] g g') (io : yY_io h' g') (D : yO_D h' g') : yO t h' g' := by
  obtain ⟨⟨⟨t1, t2, t3⟩, t4, t5⟩, N, _, c, ⟨s1, s2⟩, o, _⟩ := R
  have F1 : zfr yO_F1 yO_M1 [] h h' := zfr_w f1 (by decide) (by decide) (by decide)
  have F2 : zfr yO_F2 yO_M2 [] g g' := zfr_w f2 (by decide) (by decide) (by decide)
  refine ⟨⟨⟨(f1.1 _ _ (by decide)).trans t1, (f2.1 _ _ (by decide)).trans t2, t3⟩, fun i => by rw [f1.2.1 _ (by decide)]; exact t4 i, fun i hi => by rw [f1.2.1 _ (by decide), f2.2.1 _ (by decide)]; exact t5 i hi⟩, yO_Nf N F1 F2, io, yO_cf c F1 F2, ⟨?_, ?_⟩, ?_, D⟩
  · exact (f1.1 _ _ (by decide)).trans (s1.trans (f2.1 _ _ (by decide)).symm)
  · exact (f1.1 _ _ (by decide)).trans (s2.trans (f2.1 _ _ (by decide)).symm)
  · obtain ⟨n, n1, n2, n3, n4⟩ := o
    exact ⟨n, n1, (f1.1 _ _ (by decide)).trans n2, (f2.1 _ _ (by decide)).trans n3, fun i hi => by rw [f1.2.1 _ (by decide), f2.2.1 _ (by decide)]; exact n4 i hi⟩
/-- what yZ_chg and yZ_put want, and that what they leave will do -/
theorem yO_k (D : yO_D h g) : ∃ J, yZ_k J h g ∧ ∀ h' g', zfr [] [59, 62] [] h h' → zfr [] [114, 118] [] g g' → yZ_k J h' g' → yO_D h' g' := by
  rcases D with ⟨d1, ⟨u1, u2, u3, u4, u5, u6, u7⟩⟩ | ⟨d1, d2, d3, Z⟩
  · refine ⟨fun _ => True, fun q => absurd (u1.symm.trans q) (by decide), fun h' g' f1 f2 _ => .inl ⟨(f2.1 _ _ (by decide)).trans d1, (f1.1 _ _ (by decide)).trans u1, (f1.1 _ _ (by decide)).trans u2, (f1.1 _ _ (by decide)).trans u3, (f1.1 _ _ (by decide)).trans u4, (f1.1 _ _ (by decide)).trans u5, (f1.1 _ _ (by decide)).trans u6, (f1.1 _ _ (by decide)).trans u7⟩⟩
  · obtain ⟨LC, LM, nb, F, X, Y, K, T, w, h0, g0, S, ⟨m1, m2, ⟨m3, m4, m5, m6⟩, m7⟩⟩ := yO_ZS Z
    refine ⟨yJ_J h0 nb T X K, fun _ => ⟨m1, m2, fun c c' j e => yJ_J9 S.2.2.1.1 j e⟩, fun h' g' f1 f2 k => ?_⟩
    have d1' : (h'.1 58 3) = 1 := (f1.1 _ _ (by decide)).trans d1
    obtain ⟨k1, k2, _⟩ := k d1'
    refine .inr ⟨d1', (f2.1 _ _ (by decide)).trans d2, by rw [f1.1 58 4 (by decide)]; exact d3, yO_SZ (yO_Sf S (zfr_w f1 (by decide) (by decide) (by decide)) (zfr_w f2 (by decide) (by decide) (by decide))) ⟨k1, k2, ⟨?_, ?_, ?_, ?_⟩, ?_⟩⟩
    · exact (f1.1 _ _ (by decide)).trans (m3.trans (f2.1 _ _ (by decide)).symm)
    · exact (f1.1 _ _ (by decide)).trans (m4.trans (f2.1 _ _ (by decide)).symm)
    · exact (f1.1 _ _ (by decide)).trans (m5.trans (f2.1 _ _ (by decide)).symm)
    · exact (f1.1 _ _ (by decide)).trans (m6.trans (f2.1 _ _ (by decide)).symm)
    · exact (f1.1 _ _ (by decide)).trans (m7.trans (f2.1 _ _ (by decide)).symm)
theorem yO_kc (D : yO_D h g) : ¬ (h.1 58 3) = 0 → ∀ j, j < 8192 → (h.2.1 62) j = (g.2.1 114) j := fun q => by
  rcases D with ⟨_, u⟩ | ⟨_, _, _, Z⟩
  · exact absurd u.1 q
  · obtain ⟨LC, LM, nb, F, X, Y, K, T, w, h0, g0, S, M⟩ := yO_ZS Z
    exact M.1
theorem yO_put (R : yO t h g) (x1 x2 x3 : Int32) : ∃ v h' g', f_Pk_put h x1 x2 x3 = some (v, h') ∧ f_Mo_put g x1 x2 x3 = some (v, g') ∧ yO t h' g' ∧ zO_r h g h' g' := by
  have D := R.2.2.2.2.2.2
  obtain ⟨J, kk, kD⟩ := yO_k D
  obtain ⟨v, h', g', a1, a2, a3, a4, a5, a6⟩ := yZ_put x1 x2 x3 R.2.2.1 (yO_el D).1 kk
  exact ⟨v, h', g', a1, a2, yO_mach R (zfr_w a3 (by decide) (by decide) (by decide)) (zfr_w a4 (by decide) (by decide) (by decide)) a5 (kD h' g' a3 a4 a6), zO_Cz a3, zO_Mz a4⟩
theorem yO_get (R : yO t h g) (x1 x2 : Int32) : ∃ v, f_Pk_get h x1 x2 = some v ∧ f_Mo_get g x1 x2 = some v := yZ_get x1 x2 R.2.2.1 (yO_el R.2.2.2.2.2.2).1 (yO_kc R.2.2.2.2.2.2)
theorem yO_safe (R : yO t h g) (x1 x2 x3 : Int32) : ∃ v h' g', f_Pk_safe h x1 x2 x3 = some (v, h') ∧ f_Mo_safe g x1 x2 x3 = some (v, g') ∧ yO t h' g' ∧ zO_r h g h' g' := by
  obtain ⟨v, h', g', a1, a2, a3, a4, a5⟩ := yZ_safe x1 x2 x3 R.2.2.1
  exact ⟨v, h', g', a1, a2, yO_mach R (zfr_w a3 (by decide) (by decide) (by decide)) (zfr_w a4 (by decide) (by decide) (by decide)) a5 (yO_Df R.2.2.2.2.2.2 (zfr_w a3 (by decide) (by decide) (by decide)) (zfr_w a4 (by decide) (by decide) (by decide))), zO_Cz a3, zO_Mz a4⟩
theorem yO_restart (R : yO t h g) : ∃ v h' g', f_Pk_restart h = some (v, h') ∧ f_Mo_restart g = some (v, g') ∧ yO t h' g' ∧ zO_r h g h' g' := by
  unfold f_Pk_restart f_Mo_restart
  rcases R.2.2.2.2.2.2 with ⟨d1, u⟩ | ⟨d1, d2, d3, Z⟩
  · rw [u.1, d1, if_pos (show (0 : Int32) = 0 from rfl), if_pos (show (0 : Int32) = 0 from rfl)]
    exact ⟨_, _, _, rfl, rfl, R, zO_C0, zO_M0⟩
  · obtain ⟨LC, LM, nb, F, X, Y, K, T, w, h0, g0, S, ⟨m1, m2, ⟨m3, m4, m5, m6⟩, m7⟩⟩ := yO_ZS Z
    obtain ⟨h', g', a1, a2, a3, a4, a5, a6, a7, a8, a9⟩ := yB_anew S.1 (yL_EB S.2.1) (yL_Eb S.2.1) S.2.2.2.1.1 R.2.2.1
    rw [d1, d2, if_neg (show ¬ (1 : Int32) = 0 by decide), if_neg (show ¬ (1 : Int32) = 0 by decide), a1, a2, Option.bind_some, Option.bind_some]
    refine ⟨0, h', g', rfl, rfl, yO_mach R (zfr_w a3 (by decide) (by decide) (by decide)) (zfr_w a4 (by decide) (by decide) (by decide)) a7 (.inr ⟨(a3.1 _ _ (by decide)).trans d1, (a4.1 _ _ (by decide)).trans d2, .inl a8, yO_SZ (yO_Sf S (zfr_w a3 (by decide) (by decide) (by decide)) (zfr_w a4 (by decide) (by decide) (by decide))) ⟨a5, ⟨a6.1, a6.2 _⟩, ⟨?_, ?_, ?_, ?_⟩, a8.trans a9.symm⟩⟩), zO_Cz a3, zO_Mz a4⟩
    · exact (a3.1 _ _ (by decide)).trans (m3.trans (a4.1 _ _ (by decide)).symm)
    · exact (a3.1 _ _ (by decide)).trans (m4.trans (a4.1 _ _ (by decide)).symm)
    · exact (a3.1 _ _ (by decide)).trans (m5.trans (a4.1 _ _ (by decide)).symm)
    · exact (a3.1 _ _ (by decide)).trans (m6.trans (a4.1 _ _ (by decide)).symm)
theorem yO_scan (R : yO t h g) (x1 : Int32) : ∃ v h' g', f_Pk_scan h x1 = some (v, h') ∧ f_Mo_scan g x1 = some (v, g') ∧ yO t h' g' ∧ zO_r h g h' g' := by
  unfold f_Pk_scan f_Mo_scan
  by_cases c1 : x1 < 0
  · rw [if_pos c1, if_pos c1]; exact ⟨_, _, _, rfl, rfl, R, zO_C0, zO_M0⟩
  rw [if_neg c1, if_neg c1]
  by_cases c2 : x1 ≤ 100000
  · rw [if_pos c2, if_pos c2]
    rcases R.2.2.2.2.2.2 with ⟨d1, u⟩ | ⟨d1, d2, d3, Z⟩
    · rw [u.1, d1, if_pos (show (0 : Int32) = 0 from rfl), if_pos (show (0 : Int32) = 0 from rfl)]
      exact ⟨_, _, _, rfl, rfl, R, zO_C0, zO_M0⟩
    · obtain ⟨LC, LM, nb, F, X, Y, K, T, w, h0, g0, S, M⟩ := yO_ZS Z
      rw [d1, d2, if_neg (show ¬ (1 : Int32) = 0 by decide), if_neg (show ¬ (1 : Int32) = 0 by decide), ← M.2.2.2]
      by_cases st : (h.1 58 4) = 0
      · rw [if_pos st, if_pos st]
        obtain ⟨v, h', g', a1, a2, a3, a4, a5, a6, a7⟩ := yY_scan S.2.2.1 M R.2.2.1 x1 st
        rw [a1, a2]
        exact ⟨v, h', g', rfl, rfl, yO_mach R (zfr_w a3 (by decide) (by decide) (by decide)) (zfr_w a4 (by decide) (by decide) (by decide)) a6 (.inr ⟨(a3.1 _ _ (by decide)).trans d1, (a4.1 _ _ (by decide)).trans d2, a7, yO_SZ (yO_Sf S (zfr_w a3 (by decide) (by decide) (by decide)) (zfr_w a4 (by decide) (by decide) (by decide))) a5⟩), zO_Cz a3, zO_Mz a4⟩
      · rw [if_neg st, if_neg st]; exact ⟨_, _, _, rfl, rfl, R, zO_C0, zO_M0⟩
  · rw [if_neg c2, if_neg c2]; exact ⟨_, _, _, rfl, rfl, R, zO_C0, zO_M0⟩
theorem yO_load (CX : yL_CX) (R : yO t h g) (x1 : Int32) : ∃ v h' g' t', f_Pk_load h x1 = some (v, h') ∧ f_Mo_load g x1 = some (v, g') ∧ t' ≤ t ∧ yO t' h' g' ∧ zO_r h g h' g' := by
  by_cases c1 : x1 < 100
  · unfold f_Pk_load f_Mo_load
    rw [if_pos c1, if_pos c1]; exact ⟨_, _, _, t, rfl, rfl, Nat.le_refl _, R, zO_C0, zO_M0⟩
  by_cases c2 : x1 ≤ 100000
  · obtain ⟨bu, b1, b2⟩ := yZ_nn (x := x1) (k := 100000) (fun q => c1 (Int32.lt_trans q (by decide))) (fun q => Int32.lt_irrefl (Int32.lt_of_le_of_lt c2 q)) (by decide)
    subst b2
    have b3 : 100 ≤ bu := by
      have := mt (zc_tl (k := 100) (t := bu) (by decide) (by omega)).mpr c1
      omega
    obtain ⟨H, N, io, c, ⟨s1, s2⟩, o, D⟩ := R
    obtain ⟨φ, h', g', a1, a2, a3, f1, f2, ⟨t1, t2⟩, ⟨e1, e2, e3⟩, N', io', alt⟩ := yL_load CX H N io b3 b1
    refine ⟨nI φ, h', g', 0, a1, a2, Nat.zero_le _, ⟨⟨⟨t1, t2, by decide⟩, fun i => by rw [f1.2.1 _ (by decide)]; exact H.2.1 i, fun i hi => absurd hi (Nat.not_lt_zero i)⟩, N', io', ⟨e1.trans e2.symm, ?_⟩, ⟨?_, ?_⟩, ?_, ?_⟩, zO_Cz f1, zO_Mz f2⟩
    · rw [e3, e2]
      by_cases z : φ = 0
      · rw [if_pos z, if_pos (by rw [z]; rfl)]
      · rw [if_neg z, if_neg (fun q => z ((zc_eq (k := 0) (by decide) (by omega)).mp q))]
    · exact (f1.1 _ _ (by decide)).trans (s1.trans (f2.1 _ _ (by decide)).symm)
    · exact (f1.1 _ _ (by decide)).trans (s2.trans (f2.1 _ _ (by decide)).symm)
    · obtain ⟨n, n1, n2, n3, n4⟩ := o
      exact ⟨n, n1, (f1.1 _ _ (by decide)).trans n2, (f2.1 _ _ (by decide)).trans n3, fun i hi => by rw [f1.2.1 _ (by decide), f2.2.1 _ (by decide)]; exact n4 i hi⟩
    · rcases alt with ⟨_, q1, q2⟩ | ⟨_, q1, q2, q3⟩
      · exact .inl ⟨q1, q2⟩
      · exact .inr ⟨q1.1, q2, .inl q1.2, q3⟩
  · unfold f_Pk_load f_Mo_load
    rw [if_neg c1, if_neg c2, if_neg c1, if_neg c2]; exact ⟨_, _, _, t, rfl, rfl, Nat.le_refl _, R, zO_C0, zO_M0⟩
end YOK
end
section
/-! The line: check sums, on both sides. -/
theorem zln_x (a b : Nat) : nI a ^^^ nI b = nI (a ^^^ b) := by
  apply Int32.toBitVec_inj.mp
  show BitVec.ofNat 32 a ^^^ BitVec.ofNat 32 b = BitVec.ofNat 32 (a ^^^ b)
  apply BitVec.eq_of_toNat_eq
  rw [BitVec.toNat_xor, BitVec.toNat_ofNat, BitVec.toNat_ofNat, BitVec.toNat_ofNat, Nat.xor_mod_two_pow]
theorem zln_a (a b : Nat) : nI a &&& nI b = nI (a &&& b) := by
  apply Int32.toBitVec_inj.mp
  show BitVec.ofNat 32 a &&& BitVec.ofNat 32 b = BitVec.ofNat 32 (a &&& b)
  apply BitVec.eq_of_toNat_eq
  rw [BitVec.toNat_and, BitVec.toNat_ofNat, BitVec.toNat_ofNat, BitVec.toNat_ofNat, Nat.and_mod_two_pow]
theorem zln_ti {a : Nat} (h : a < 2147483648) : (nI a).toInt = (a : Int) := Int32.toInt_ofNat_of_lt h
theorem zln_d {a b : Nat} (ha : a < 2147483648) (hb : b < 2147483648) : nI a / nI b = nI (a / b) := by
  apply Int32.toInt_inj.mp
  have := Nat.div_le_self a b
  rw [Int32.toInt_div, zln_ti ha, zln_ti hb, zln_ti (show a / b < 2147483648 by omega), ← Int.ofNat_tdiv]
  generalize a / b = q at this
  exact Int.bmod_eq_of_le (by omega) (by omega)
theorem zln_s {a : Nat} (ha : a < 2147483648) : nI a >>> ((1 : Int32) &&& 31) = nI (a / 2) := by
  apply Int32.toBitVec_inj.mp
  show (BitVec.ofNat 32 a).sshiftRight 1 = BitVec.ofNat 32 (a / 2)
  have m : (BitVec.ofNat 32 a).msb = false := by
    rw [BitVec.msb_eq_decide, decide_eq_false_iff_not, BitVec.toNat_ofNat]
    omega
  apply BitVec.eq_of_toNat_eq
  rw [BitVec.sshiftRight_eq_of_msb_false m, BitVec.toNat_ushiftRight, BitVec.toNat_ofNat, BitVec.toNat_ofNat, Nat.shiftRight_eq_div_pow]
  omega
/-- one bit of a check sum -/
def zln_n (n : Nat) : Nat := if n % 2 = 1 then (n / 2) ^^^ 40961 else n / 2
theorem zln_nl {n : Nat} (h : n < 65536) : zln_n n < 65536 := by
  unfold zln_n
  split
  · exact Nat.xor_lt_two_pow (n := 16) (by omega) (by decide)
  · omega
def zln_k : Nat → Nat → Nat
  | 0, n => n
  | k + 1, n => zln_k k (zln_n n)
theorem zln_kl : ∀ (k n : Nat), n < 65536 → zln_k k n < 65536 := by
  intro k
  induction k with
  | zero => intro n h; exact h
  | succ k ih => intro n h; exact ih _ (zln_nl h)
/-- the check sum of the first i bytes -/
def zln_c (b : Nat → Nat) : Nat → Nat
  | 0 => 65535
  | i + 1 => zln_k 8 (zln_c b i ^^^ b i)
theorem zln_cl {b : Nat → Nat} (hb : ∀ i, b i < 256) : ∀ i, zln_c b i < 65536 := by
  intro i
  induction i with
  | zero => exact (show 65535 < 65536 by decide)
  | succ i ih => exact zln_kl 8 _ (Nat.xor_lt_two_pow (n := 16) ih (Nat.lt_trans (hb i) (by decide)))
theorem zln_M6 : ∀ (m i N n : Nat), i + m = 8 → m < N → n < 65536 → f_Mo_summed_L6 N (nI n) (nI i) = some (nI (zln_k m n)) := by
  intro m
  induction m with
  | zero =>
    intro i N n hi hN hn
    obtain ⟨N, rfl⟩ : ∃ z, N = z + 1 := ⟨N - 1, by omega⟩
    show f_Mo_summed_6 (f_Mo_summed_L6 N) (nI n) (nI i) = _
    unfold f_Mo_summed_6
    rw [if_pos ((zc_le (k := 8) (by decide) (by omega)).mpr (by omega))]
    rfl
  | succ m ih =>
    intro i N n hi hN hn
    obtain ⟨N, rfl⟩ : ∃ z, N = z + 1 := ⟨N - 1, by omega⟩
    show f_Mo_summed_6 (f_Mo_summed_L6 N) (nI n) (nI i) = _
    unfold f_Mo_summed_6 f_Mo_summed_32
    have e1 : nI n / 2 = nI (n / 2) := zln_d (b := 2) (by omega) (by decide)
    have e2 : nI n - nI (n / 2) * 2 = nI (n % 2) := by
      rw [show nI (n / 2) * 2 = nI (n / 2 * 2) from zi_mul (n / 2) 2, zi_sub (by omega)]
      congr 1; omega
    rw [if_neg (mt (zc_le (k := 8) (by decide) (by omega)).mp (by omega)), e1, e2, nI_1]
    have := ih (i + 1) N (zln_n n) (by omega) (by omega) (zln_nl hn)
    by_cases z : n % 2 = 1
    · rw [if_pos (by rw [z]; rfl), show nI (n / 2) ^^^ 40961 = nI (n / 2 ^^^ 40961) from zln_x _ 40961]
      rw [show zln_n n = n / 2 ^^^ 40961 from if_pos z] at this
      rw [this, show zln_k (m + 1) n = zln_k m (zln_n n) from rfl, show zln_n n = n / 2 ^^^ 40961 from if_pos z]
    · rw [if_neg (fun q => z ((zc_eq (k := 1) (by decide) (by omega)).mp q))]
      rw [show zln_n n = n / 2 from if_neg z] at this
      rw [this, show zln_k (m + 1) n = zln_k m (zln_n n) from rfl, show zln_n n = n / 2 from if_neg z]
theorem zln_sum {n b : Nat} (hn : n < 65536) (hb : b < 256) : f_Mo_summed (nI n) (nI b) = some (nI (zln_k 8 (n ^^^ b))) := by
  have := zF_big
  unfold f_Mo_summed
  rw [zln_x]
  exact zln_M6 8 0 zF _ (by omega) (by omega) (Nat.xor_lt_two_pow (n := 16) hn (by omega))
theorem zln_C29 {h : zs_H} {k5 : Int32 → Int32 → Int32 → Option Int32} {x1 x3 : Int32} : ∀ (m i N n : Nat), i + m = 8 → m < N → n < 65536 → f_Ln_checkSum_c1_L29 h k5 N x1 (nI n) x3 (nI i) = k5 x1 (nI (zln_k m n)) (x3 + 1) := by
  intro m
  induction m with
  | zero =>
    intro i N n hi hN hn
    obtain ⟨N, rfl⟩ : ∃ z, N = z + 1 := ⟨N - 1, by omega⟩
    show f_Ln_checkSum_c1_29 h k5 (f_Ln_checkSum_c1_L29 h k5 N) x1 (nI n) x3 (nI i) = _
    unfold f_Ln_checkSum_c1_29
    rw [if_pos ((zc_le (k := 8) (by decide) (by omega)).mpr (by omega))]
    rfl
  | succ m ih =>
    intro i N n hi hN hn
    obtain ⟨N, rfl⟩ : ∃ z, N = z + 1 := ⟨N - 1, by omega⟩
    show f_Ln_checkSum_c1_29 h k5 (f_Ln_checkSum_c1_L29 h k5 N) x1 (nI n) x3 (nI i) = _
    unfold f_Ln_checkSum_c1_29 f_Ln_checkSum_c1_54
    have e2 : nI n &&& 1 = nI (n % 2) := by rw [show nI n &&& 1 = nI (n &&& 1) from zln_a n 1, Nat.and_one_is_mod]
    rw [if_neg (mt (zc_le (k := 8) (by decide) (by omega)).mp (by omega)), e2, zln_s (by omega), nI_1]
    have := ih (i + 1) N (zln_n n) (by omega) (by omega) (zln_nl hn)
    by_cases z : n % 2 = 1
    · rw [if_neg (fun q => by have := (zc_eq (k := 0) (by decide) (by omega)).mp q; omega), show nI (n / 2) ^^^ 40961 = nI (n / 2 ^^^ 40961) from zln_x _ 40961]
      rw [show zln_n n = n / 2 ^^^ 40961 from if_pos z] at this
      rw [this, show zln_k (m + 1) n = zln_k m (zln_n n) from rfl, show zln_n n = n / 2 ^^^ 40961 from if_pos z]
    · rw [if_pos (by rw [show n % 2 = 0 by omega]; rfl)]
      rw [show zln_n n = n / 2 from if_neg z] at this
      rw [this, show zln_k (m + 1) n = zln_k m (zln_n n) from rfl, show zln_n n = n / 2 from if_neg z]
theorem zln_C5 {h : zs_H} {b : Nat → Nat} {n : Nat} (hn : n ≤ 256) (hb : ∀ i, b i < 256) (hT : ∀ i, i < n → (h.2.1 1) i &&& 255 = nI (b i)) : ∀ (m i N : Nat), i + m = n → m < N → f_Ln_checkSum_c1_L5 h N (nI n) (nI (zln_c b i)) (nI i) = some (nI (zln_c b n)) := by
  have hz := zF_big
  intro m
  induction m with
  | zero =>
    intro i N hi hN
    obtain ⟨N, rfl⟩ : ∃ z, N = z + 1 := ⟨N - 1, by omega⟩
    show f_Ln_checkSum_c1_5 h (f_Ln_checkSum_c1_L5 h N) (nI n) (nI (zln_c b i)) (nI i) = _
    unfold f_Ln_checkSum_c1_5
    have e : i = n := hi
    subst e
    rw [if_pos ((nI_leI (by omega) (by omega)).mpr (Nat.le_refl _))]
  | succ m ih =>
    intro i N hi hN
    obtain ⟨N, rfl⟩ : ∃ z, N = z + 1 := ⟨N - 1, by omega⟩
    show f_Ln_checkSum_c1_5 h (f_Ln_checkSum_c1_L5 h N) (nI n) (nI (zln_c b i)) (nI i) = _
    unfold f_Ln_checkSum_c1_5
    have hc := zln_cl hb i
    rw [if_neg (mt (nI_leI (by omega) (by omega)).mp (by omega)), if_neg (mt (zc_le (k := 16384) (by decide) (by omega)).mp (by omega)), if_pos (zi_in (by omega) (show i < 16384 by omega)), nI_clamp (by omega), hT i (by omega), zln_x]
    have := zln_C29 (h := h) (k5 := f_Ln_checkSum_c1_L5 h N) (x1 := nI n) (x3 := nI i) 8 0 zF (zln_c b i ^^^ b i) (by omega) (by omega) (Nat.xor_lt_two_pow (n := 16) hc (Nat.lt_trans (hb i) (by decide)))
    refine Eq.trans this ?_
    rw [nI_1]
    exact ih (i + 1) N (by omega) (by omega)
theorem zln_O29 {h : zs_H} {k5 : Int32 → Int32 → Int32 → Option Int32} {x1 x3 : Int32} : ∀ (m i N n : Nat), i + m = 8 → m < N → n < 65536 → f_Ln_checkSum_c67_L29 h k5 N x1 (nI n) x3 (nI i) = k5 x1 (nI (zln_k m n)) (x3 + 1) := by
  intro m
  induction m with
  | zero =>
    intro i N n hi hN hn
    obtain ⟨N, rfl⟩ : ∃ z, N = z + 1 := ⟨N - 1, by omega⟩
    show f_Ln_checkSum_c67_29 h k5 (f_Ln_checkSum_c67_L29 h k5 N) x1 (nI n) x3 (nI i) = _
    unfold f_Ln_checkSum_c67_29
    rw [if_pos ((zc_le (k := 8) (by decide) (by omega)).mpr (by omega))]
    rfl
  | succ m ih =>
    intro i N n hi hN hn
    obtain ⟨N, rfl⟩ : ∃ z, N = z + 1 := ⟨N - 1, by omega⟩
    show f_Ln_checkSum_c67_29 h k5 (f_Ln_checkSum_c67_L29 h k5 N) x1 (nI n) x3 (nI i) = _
    unfold f_Ln_checkSum_c67_29 f_Ln_checkSum_c67_54
    have e2 : nI n &&& 1 = nI (n % 2) := by rw [show nI n &&& 1 = nI (n &&& 1) from zln_a n 1, Nat.and_one_is_mod]
    rw [if_neg (mt (zc_le (k := 8) (by decide) (by omega)).mp (by omega)), e2, zln_s (by omega), nI_1]
    have := ih (i + 1) N (zln_n n) (by omega) (by omega) (zln_nl hn)
    by_cases z : n % 2 = 1
    · rw [if_neg (fun q => by have := (zc_eq (k := 0) (by decide) (by omega)).mp q; omega), show nI (n / 2) ^^^ 40961 = nI (n / 2 ^^^ 40961) from zln_x _ 40961]
      rw [show zln_n n = n / 2 ^^^ 40961 from if_pos z] at this
      rw [this, show zln_k (m + 1) n = zln_k m (zln_n n) from rfl, show zln_n n = n / 2 ^^^ 40961 from if_pos z]
    · rw [if_pos (by rw [show n % 2 = 0 by omega]; rfl)]
      rw [show zln_n n = n / 2 from if_neg z] at this
      rw [this, show zln_k (m + 1) n = zln_k m (zln_n n) from rfl, show zln_n n = n / 2 from if_neg z]
theorem zln_O5 {h : zs_H} {b : Nat → Nat} {n : Nat} (hn : n ≤ 256) (hb : ∀ i, b i < 256) (hT : ∀ i, i < n → (h.2.1 67) i &&& 255 = nI (b i)) : ∀ (m i N : Nat), i + m = n → m < N → f_Ln_checkSum_c67_L5 h N (nI n) (nI (zln_c b i)) (nI i) = some (nI (zln_c b n)) := by
  have hz := zF_big
  intro m
  induction m with
  | zero =>
    intro i N hi hN
    obtain ⟨N, rfl⟩ : ∃ z, N = z + 1 := ⟨N - 1, by omega⟩
    show f_Ln_checkSum_c67_5 h (f_Ln_checkSum_c67_L5 h N) (nI n) (nI (zln_c b i)) (nI i) = _
    unfold f_Ln_checkSum_c67_5
    have e : i = n := hi
    subst e
    rw [if_pos ((nI_leI (by omega) (by omega)).mpr (Nat.le_refl _))]
  | succ m ih =>
    intro i N hi hN
    obtain ⟨N, rfl⟩ : ∃ z, N = z + 1 := ⟨N - 1, by omega⟩
    show f_Ln_checkSum_c67_5 h (f_Ln_checkSum_c67_L5 h N) (nI n) (nI (zln_c b i)) (nI i) = _
    unfold f_Ln_checkSum_c67_5
    have hc := zln_cl hb i
    rw [if_neg (mt (nI_leI (by omega) (by omega)).mp (by omega)), if_neg (mt (zc_le (k := 256) (by decide) (by omega)).mp (by omega)), if_pos (zi_in (by omega) (show i < 256 by omega)), nI_clamp (by omega), hT i (by omega), zln_x]
    have := zln_O29 (h := h) (k5 := f_Ln_checkSum_c67_L5 h N) (x1 := nI n) (x3 := nI i) 8 0 zF (zln_c b i ^^^ b i) (by omega) (by omega) (Nat.xor_lt_two_pow (n := 16) hc (Nat.lt_trans (hb i) (by decide)))
    refine Eq.trans this ?_
    rw [nI_1]
    exact ih (i + 1) N (by omega) (by omega)
end
section
/-! The line: what is refused, on both sides. -/
/-- what a request says: function, number of data bytes, two numbers, the fifth data byte -/
def zln_ok (fn c d : Nat) : Bool := if fn ≤ 2 then decide (1 ≤ c ∧ c ≤ 2000) else if fn ≤ 4 then decide (1 ≤ c ∧ c ≤ 125) else if fn = 5 then decide (c = 0 ∨ c = 65280) else if fn = 15 then decide (1 ≤ c ∧ c ≤ 1968 ∧ d = (c + 7) / 8) else if fn = 16 then decide (1 ≤ c ∧ c ≤ 123 ∧ d = 2 * c) else true
def zln_ts (fn : Nat) : Nat := if fn = 1 then 256 else if fn = 2 then 512 else if fn = 4 then 128 else if fn = 5 then 256 else if fn = 15 then 256 else 64
def zln_is (fn : Nat) : Prop := fn = 1 ∨ fn = 2 ∨ fn = 3 ∨ fn = 4 ∨ fn = 5 ∨ fn = 6 ∨ fn = 15 ∨ fn = 16
section ZLN
variable {h g : zs_H} {fn s a c d : Nat}
theorem zln_rg {k : Nat} {A B : Option Int32} (hc : c < 65536) (hk : k < 65536) : (if nI c < 1 then A else if nI k < nI c then A else B) = if 1 ≤ c ∧ c ≤ k then B else A := by
  by_cases z : 1 ≤ c ∧ c ≤ k
  · rw [if_pos z, if_neg (mt (zc_tl (k := 1) (by decide) (by omega)).mp (by omega)), if_neg (mt (nI_ltI (by omega) (by omega)).mp (by omega))]
  · rw [if_neg z]
    by_cases y : c < 1
    · rw [if_pos ((zc_tl (k := 1) (by decide) (by omega)).mpr y)]
    · rw [if_neg (mt (zc_tl (k := 1) (by decide) (by omega)).mp y), if_pos ((nI_ltI (by omega) (by omega)).mpr (by omega))]
theorem zln_rm {k : Nat} {A B : Option Int32} (hc : c < 65536) (hk : k < 65536) : (if nI c < 1 then A else if nI c ≤ nI k then B else A) = if 1 ≤ c ∧ c ≤ k then B else A := by
  by_cases z : 1 ≤ c ∧ c ≤ k
  · rw [if_pos z, if_neg (mt (zc_tl (k := 1) (by decide) (by omega)).mp (by omega)), if_pos ((nI_leI (by omega) (by omega)).mpr z.2)]
  · rw [if_neg z]
    by_cases y : c < 1
    · rw [if_pos ((zc_tl (k := 1) (by decide) (by omega)).mpr y)]
    · rw [if_neg (mt (zc_tl (k := 1) (by decide) (by omega)).mp y), if_neg (mt (nI_leI (by omega) (by omega)).mp (by omega))]
theorem zln_p1 {A : Int32} {P : Prop} [Decidable P] : (if P then some (1 : Int32) else some 0) = some (if P then 1 else 0) := by split <;> rfl
theorem zln_q {q : Nat} {x : Int32} {P : Prop} [Decidable P] {A B : Option Int32} (e : (nI d = x) ↔ P) : (if nI d = x then A else B) = if P then A else B := by
  by_cases z : P
  · rw [if_pos z, if_pos (e.mpr z)]
  · rw [if_neg z, if_neg (mt e.mp z)]
theorem zln_and {P Q : Prop} [Decidable P] [Decidable Q] {A B : Option Int32} : (if P then (if Q then A else B) else B) = if P ∧ Q then A else B := by
  by_cases p : P <;> by_cases q : Q <;> simp only [p, q, if_true, if_false, and_self, and_true, and_false, true_and, false_and]
theorem zln_e7 (hc : c < 65536) (hd : d < 256) : (nI d = (nI c + 7) / 8) ↔ d = (c + 7) / 8 := by
  rw [show nI c + 7 = nI (c + 7) from nI_add c 7, show nI (c + 7) / 8 = nI ((c + 7) / 8) from zln_d (b := 8) (by omega) (by decide)]
  exact nI_eq (by omega) (by omega)
theorem zln_e2 (hc : c < 65536) (hd : d < 256) : (nI d = 2 * nI c) ↔ d = 2 * c := by
  rw [show 2 * nI c = nI (2 * c) from zi_mul 2 c]
  exact nI_eq (by omega) (by omega)
theorem zln_num (hf : zln_is fn) (hc : c < 65536) (hd : d < 256) (e4 : 15 ≤ fn → f_Ln_data h 4 = some (nI d)) : f_Ln_isNumberFor h (nI fn) (nI c) = some (if zln_ok fn c d = true then 1 else 0) := by
  unfold f_Ln_isNumberFor
  rcases hf with z | z | z | z | z | z | z | z <;> subst z
  · rw [if_pos (show (nI 1 : Int32) = 1 by decide), show (2000 : Int32) = nI 2000 from rfl, zln_rg hc (by decide), show zln_ok 1 c d = decide (1 ≤ c ∧ c ≤ 2000) from rfl]
    by_cases z : 1 ≤ c ∧ c ≤ 2000
    · rw [if_pos z, if_pos (decide_eq_true z)]
    · rw [if_neg z, if_neg (by rw [decide_eq_false z]; decide)]
  · rw [if_neg (show ¬ (nI 2 : Int32) = 1 by decide), if_pos (show (nI 2 : Int32) = 2 by decide), show (2000 : Int32) = nI 2000 from rfl, zln_rg hc (by decide), show zln_ok 2 c d = decide (1 ≤ c ∧ c ≤ 2000) from rfl]
    by_cases z : 1 ≤ c ∧ c ≤ 2000
    · rw [if_pos z, if_pos (decide_eq_true z)]
    · rw [if_neg z, if_neg (by rw [decide_eq_false z]; decide)]
  · rw [if_neg (show ¬ (nI 3 : Int32) = 1 by decide), if_neg (show ¬ (nI 3 : Int32) = 2 by decide), if_pos (show (nI 3 : Int32) = 3 by decide), show (125 : Int32) = nI 125 from rfl, zln_rg hc (by decide), show zln_ok 3 c d = decide (1 ≤ c ∧ c ≤ 125) from rfl]
    by_cases z : 1 ≤ c ∧ c ≤ 125
    · rw [if_pos z, if_pos (decide_eq_true z)]
    · rw [if_neg z, if_neg (by rw [decide_eq_false z]; decide)]
  · rw [if_neg (show ¬ (nI 4 : Int32) = 1 by decide), if_neg (show ¬ (nI 4 : Int32) = 2 by decide), if_neg (show ¬ (nI 4 : Int32) = 3 by decide), if_pos (show (nI 4 : Int32) = 4 by decide), show (125 : Int32) = nI 125 from rfl, zln_rg hc (by decide), show zln_ok 4 c d = decide (1 ≤ c ∧ c ≤ 125) from rfl]
    by_cases z : 1 ≤ c ∧ c ≤ 125
    · rw [if_pos z, if_pos (decide_eq_true z)]
    · rw [if_neg z, if_neg (by rw [decide_eq_false z]; decide)]
  · rw [if_neg (show ¬ (nI 5 : Int32) = 1 by decide), if_neg (show ¬ (nI 5 : Int32) = 2 by decide), if_neg (show ¬ (nI 5 : Int32) = 3 by decide), if_neg (show ¬ (nI 5 : Int32) = 4 by decide), if_pos (show (nI 5 : Int32) = 5 by decide), show zln_ok 5 c d = decide (c = 0 ∨ c = 65280) from rfl]
    by_cases z : c = 0
    · rw [if_pos (by rw [z]; rfl), if_pos (decide_eq_true (.inl z))]
    · rw [if_neg (fun q => z ((zc_eq (k := 0) (by decide) (by omega)).mp q))]
      by_cases y : c = 65280
      · rw [if_pos (by rw [y]; rfl), if_pos (decide_eq_true (.inr y))]
      · rw [if_neg (fun q => y ((zc_eq (k := 65280) (by decide) (by omega)).mp q)), if_neg (by rw [decide_eq_false (by omega)]; decide)]
  · rw [if_neg (show ¬ (nI 6 : Int32) = 1 by decide), if_neg (show ¬ (nI 6 : Int32) = 2 by decide), if_neg (show ¬ (nI 6 : Int32) = 3 by decide), if_neg (show ¬ (nI 6 : Int32) = 4 by decide), if_neg (show ¬ (nI 6 : Int32) = 5 by decide), if_neg (show ¬ (nI 6 : Int32) = 15 by decide), if_neg (show ¬ (nI 6 : Int32) = 16 by decide)]
    rfl
  · rw [if_neg (show ¬ (nI 15 : Int32) = 1 by decide), if_neg (show ¬ (nI 15 : Int32) = 2 by decide), if_neg (show ¬ (nI 15 : Int32) = 3 by decide), if_neg (show ¬ (nI 15 : Int32) = 4 by decide), if_neg (show ¬ (nI 15 : Int32) = 5 by decide), if_pos (show (nI 15 : Int32) = 15 by decide), show (1968 : Int32) = nI 1968 from rfl, zln_rg hc (by decide), e4 (by decide), Option.bind_some, zln_q (q := 0) (zln_e7 hc hd), zln_and, show zln_ok 15 c d = decide (1 ≤ c ∧ c ≤ 1968 ∧ d = (c + 7) / 8) from rfl]
    by_cases z : (1 ≤ c ∧ c ≤ 1968) ∧ d = (c + 7) / 8
    · rw [if_pos z, if_pos (decide_eq_true ⟨z.1.1, z.1.2, z.2⟩)]
    · rw [if_neg z, if_neg (by rw [decide_eq_false (fun q => z ⟨⟨q.1, q.2.1⟩, q.2.2⟩)]; decide)]
  · rw [if_neg (show ¬ (nI 16 : Int32) = 1 by decide), if_neg (show ¬ (nI 16 : Int32) = 2 by decide), if_neg (show ¬ (nI 16 : Int32) = 3 by decide), if_neg (show ¬ (nI 16 : Int32) = 4 by decide), if_neg (show ¬ (nI 16 : Int32) = 5 by decide), if_neg (show ¬ (nI 16 : Int32) = 15 by decide), if_pos (show (nI 16 : Int32) = 16 by decide), show (123 : Int32) = nI 123 from rfl, zln_rg hc (by decide), e4 (by decide), Option.bind_some, zln_q (q := 0) (zln_e2 hc hd), zln_and, show zln_ok 16 c d = decide (1 ≤ c ∧ c ≤ 123 ∧ d = 2 * c) from rfl]
    by_cases z : (1 ≤ c ∧ c ≤ 123) ∧ d = 2 * c
    · rw [if_pos z, if_pos (decide_eq_true ⟨z.1.1, z.1.2, z.2⟩)]
    · rw [if_neg z, if_neg (by rw [decide_eq_false (fun q => z ⟨⟨q.1, q.2.1⟩, q.2.2⟩)]; decide)]
theorem zln_59 (hf : zln_is fn) (hc : c < 65536) (hd : d < 256) (ec : f_Mo_dataTwo g 2 = some (nI c)) (e4 : 15 ≤ fn → f_Mo_heard g 6 = some (nI d)) : f_Mo_refusal_59 g (nI fn) = f_Mo_refusal_214 g (nI fn) (nI c) (if zln_ok fn c d = true then 0 else 1) := by
  unfold f_Mo_refusal_59 f_Mo_refusal_82 f_Mo_refusal_106 f_Mo_refusal_134 f_Mo_refusal_172 f_Mo_refusal_209 f_Mo_refusal_213
  rw [ec, Option.bind_some]
  rcases hf with z | z | z | z | z | z | z | z <;> subst z
  · rw [if_neg (show ¬ (3 : Int32) ≤ nI 1 by decide), show (2000 : Int32) = nI 2000 from rfl, zln_rm hc (by decide), show zln_ok 1 c d = decide (1 ≤ c ∧ c ≤ 2000) from rfl]
    by_cases z : 1 ≤ c ∧ c ≤ 2000
    · rw [if_pos z, if_pos (decide_eq_true z)]
    · rw [if_neg z, if_neg (by rw [decide_eq_false z]; decide)]
  · rw [if_neg (show ¬ (3 : Int32) ≤ nI 2 by decide), show (2000 : Int32) = nI 2000 from rfl, zln_rm hc (by decide), show zln_ok 2 c d = decide (1 ≤ c ∧ c ≤ 2000) from rfl]
    by_cases z : 1 ≤ c ∧ c ≤ 2000
    · rw [if_pos z, if_pos (decide_eq_true z)]
    · rw [if_neg z, if_neg (by rw [decide_eq_false z]; decide)]
  · rw [if_pos (show (3 : Int32) ≤ nI 3 by decide), if_neg (show ¬ (5 : Int32) ≤ nI 3 by decide), show (125 : Int32) = nI 125 from rfl, zln_rm hc (by decide), show zln_ok 3 c d = decide (1 ≤ c ∧ c ≤ 125) from rfl]
    by_cases z : 1 ≤ c ∧ c ≤ 125
    · rw [if_pos z, if_pos (decide_eq_true z)]
    · rw [if_neg z, if_neg (by rw [decide_eq_false z]; decide)]
  · rw [if_pos (show (3 : Int32) ≤ nI 4 by decide), if_neg (show ¬ (5 : Int32) ≤ nI 4 by decide), show (125 : Int32) = nI 125 from rfl, zln_rm hc (by decide), show zln_ok 4 c d = decide (1 ≤ c ∧ c ≤ 125) from rfl]
    by_cases z : 1 ≤ c ∧ c ≤ 125
    · rw [if_pos z, if_pos (decide_eq_true z)]
    · rw [if_neg z, if_neg (by rw [decide_eq_false z]; decide)]
  · rw [if_pos (show (3 : Int32) ≤ nI 5 by decide), if_pos (show (5 : Int32) ≤ nI 5 by decide), if_pos (show (nI 5 : Int32) = 5 by decide), show zln_ok 5 c d = decide (c = 0 ∨ c = 65280) from rfl]
    by_cases z : c = 0
    · rw [if_pos (by rw [z]; rfl), if_pos (decide_eq_true (.inl z))]
    · rw [if_neg (fun q => z ((zc_eq (k := 0) (by decide) (by omega)).mp q))]
      by_cases y : c = 65280
      · rw [if_pos (by rw [y]; rfl), if_pos (decide_eq_true (.inr y))]
      · rw [if_neg (fun q => y ((zc_eq (k := 65280) (by decide) (by omega)).mp q)), if_neg (by rw [decide_eq_false (by omega)]; decide)]
  · rw [if_pos (show (3 : Int32) ≤ nI 6 by decide), if_pos (show (5 : Int32) ≤ nI 6 by decide), if_neg (show ¬ (nI 6 : Int32) = 5 by decide), if_neg (show ¬ (nI 6 : Int32) = 15 by decide), if_neg (show ¬ (nI 6 : Int32) = 16 by decide)]
    rfl
  · rw [if_pos (show (3 : Int32) ≤ nI 15 by decide), if_pos (show (5 : Int32) ≤ nI 15 by decide), if_neg (show ¬ (nI 15 : Int32) = 5 by decide), if_pos (show (nI 15 : Int32) = 15 by decide), show (1968 : Int32) = nI 1968 from rfl, zln_rg hc (by decide), e4 (by decide), Option.bind_some, zln_q (q := 0) (zln_e7 hc hd), zln_and, show zln_ok 15 c d = decide (1 ≤ c ∧ c ≤ 1968 ∧ d = (c + 7) / 8) from rfl]
    by_cases z : (1 ≤ c ∧ c ≤ 1968) ∧ d = (c + 7) / 8
    · rw [if_pos z, if_pos (decide_eq_true ⟨z.1.1, z.1.2, z.2⟩)]
    · rw [if_neg z, if_neg (by rw [decide_eq_false (fun q => z ⟨⟨q.1, q.2.1⟩, q.2.2⟩)]; decide)]
  · rw [if_pos (show (3 : Int32) ≤ nI 16 by decide), if_pos (show (5 : Int32) ≤ nI 16 by decide), if_neg (show ¬ (nI 16 : Int32) = 5 by decide), if_neg (show ¬ (nI 16 : Int32) = 15 by decide), if_pos (show (nI 16 : Int32) = 16 by decide), show (123 : Int32) = nI 123 from rfl, zln_rg hc (by decide), e4 (by decide), Option.bind_some, zln_q (q := 0) (zln_e2 hc hd), zln_and, show zln_ok 16 c d = decide (1 ≤ c ∧ c ≤ 123 ∧ d = 2 * c) from rfl]
    by_cases z : (1 ≤ c ∧ c ≤ 123) ∧ d = 2 * c
    · rw [if_pos z, if_pos (decide_eq_true ⟨z.1.1, z.1.2, z.2⟩)]
    · rw [if_neg z, if_neg (by rw [decide_eq_false (fun q => z ⟨⟨q.1, q.2.1⟩, q.2.2⟩)]; decide)]
theorem zln_tsz (hf : zln_is fn) : f_Ln_tableSize (nI fn) = nI (zln_ts fn) ∧ f_Mo_tableSize (nI fn) = nI (zln_ts fn) ∧ zln_ts fn ≤ 512 := by
  rcases hf with z | z | z | z | z | z | z | z <;> subst z <;> decide
/-- what is refused -/
def zln_R (fn s a c d : Nat) : Nat := if zln_ok fn c d = true then (if a + (if fn = 5 ∨ fn = 6 then 1 else c) ≤ zln_ts fn then 0 else 2) else 3
theorem zln_110 {k : Nat} (hf : zln_is fn) (ha : a < 65536) (hk : k < 65536) (e0 : f_Ln_number h 0 = some (nI a)) : f_Ln_refusal_110 h (nI fn) (nI k) = some (if a + k ≤ zln_ts fn then 0 else 2) := by
  obtain ⟨t1, _, t3⟩ := zln_tsz hf
  unfold f_Ln_refusal_110
  rw [e0, Option.bind_some, nI_add, t1]
  by_cases z : a + k ≤ zln_ts fn
  · rw [if_pos z, if_pos ((nI_leI (by omega) (by omega)).mpr z)]
  · rw [if_neg z, if_neg (mt (nI_leI (by omega) (by omega)).mp z)]
theorem zln_244 {k : Nat} (hf : zln_is fn) (ha : a < 65536) (hk : k < 65536) : f_Mo_refusal_244 g (nI fn) (nI k) (nI a) = some (if a + k ≤ zln_ts fn then 0 else 2) := by
  obtain ⟨_, t2, t3⟩ := zln_tsz hf
  unfold f_Mo_refusal_244
  rw [nI_add, t2]
  by_cases z : a + k ≤ zln_ts fn
  · rw [if_pos z, if_pos ((nI_leI (by omega) (by omega)).mpr z)]
  · rw [if_neg z, if_neg (mt (nI_leI (by omega) (by omega)).mp z)]
theorem zln_77 (hf : zln_is fn) (ha : a < 65536) (hc : c < 65536) (hd : d < 256) (e0 : f_Ln_number h 0 = some (nI a)) (e2 : f_Ln_number h 2 = some (nI c)) (e4 : 15 ≤ fn → f_Ln_data h 4 = some (nI d)) (m0 : f_Mo_dataTwo g 0 = some (nI a)) (m2 : f_Mo_dataTwo g 2 = some (nI c)) (m4 : 15 ≤ fn → f_Mo_heard g 6 = some (nI d)) : f_Ln_refusal_77 h (nI fn) = some (nI (zln_R fn s a c d)) ∧ f_Mo_refusal_59 g (nI fn) = some (nI (zln_R fn s a c d)) := by
  have f56 : (nI fn = 5 ↔ fn = 5) ∧ (nI fn = 6 ↔ fn = 6) := by
    unfold zln_is at hf
    exact ⟨zc_eq (k := 5) (by decide) (by omega), zc_eq (k := 6) (by decide) (by omega)⟩
  have o1 := zln_110 (k := 1) hf ha (by decide) e0
  have o2 := zln_110 (k := c) hf ha hc e0
  have p1 := zln_244 (g := g) (k := 1) hf ha (by decide)
  have p2 := zln_244 (g := g) (k := c) hf ha hc
  rw [zln_59 hf hc hd m2 m4]
  unfold f_Ln_refusal_77 f_Mo_refusal_214 f_Ln_refusal_105 f_Mo_refusal_239 zln_R
  rw [e2, Option.bind_some, zln_num hf hc hd e4, Option.bind_some]
  by_cases z : zln_ok fn c d = true
  · rw [if_pos z, if_pos z, if_pos z, if_neg (show ¬ (1 : Int32) = 0 by decide), if_pos (show (0 : Int32) = 0 from rfl), m0, Option.bind_some]
    by_cases y5 : fn = 5
    · rw [if_pos (f56.1.mpr y5), if_pos (f56.1.mpr y5), if_pos (show fn = 5 ∨ fn = 6 from .inl y5), show (1 : Int32) = nI 1 from rfl, o1, p1]
      constructor <;> split <;> rfl
    · rw [if_neg (mt f56.1.mp y5), if_neg (mt f56.1.mp y5)]
      by_cases y6 : fn = 6
      · rw [if_pos (f56.2.mpr y6), if_pos (f56.2.mpr y6), if_pos (show fn = 5 ∨ fn = 6 from .inr y6), show (1 : Int32) = nI 1 from rfl, o1, p1]
        constructor <;> split <;> rfl
      · rw [if_neg (mt f56.2.mp y6), if_neg (mt f56.2.mp y6), if_neg (show ¬ (fn = 5 ∨ fn = 6) by omega), o2, p2]
        constructor <;> split <;> rfl
  · rw [if_neg z, if_neg z, if_neg z, if_pos (show (0 : Int32) = 0 from rfl), if_neg (show ¬ (1 : Int32) = 0 by decide)]
    exact ⟨rfl, rfl⟩
end ZLN
end
section
/-! The line: a request's bytes, what is refused, on both sides. -/
/-- both sides hold a request of t bytes b -/
def zln_B (b : Nat → Nat) (t : Nat) (h g : zs_H) : Prop := (4 ≤ t ∧ t ≤ 256) ∧ (∀ i, b i < 256) ∧ (∀ i, i < t → (h.2.1 1) i &&& 255 = nI (b i)) ∧ (∀ i, i < t → (g.2.1 116) i &&& 255 = nI (b i)) ∧ (h.1 66 4) = 1 ∧ (h.1 66 5) = nI (t - 4)
section ZLD
variable {h g h' g' : zs_H} {b : Nat → Nat} {t : Nat}
theorem zln_Bf (B : zln_B b t h g) (f1 : zfr [(66, 1)] [59, 62, 67] [] h h') (f2 : zfr [(68, 88)] [114, 117, 118] [] g g') : zln_B b t h' g' := by
  obtain ⟨b1, b2, b3, b4, b5, b6⟩ := B
  exact ⟨b1, b2, fun i hi => by rw [f1.2.1 _ (by decide)]; exact b3 i hi, fun i hi => by rw [f2.2.1 _ (by decide)]; exact b4 i hi, (f1.1 _ _ (by decide)).trans b5, (f1.1 _ _ (by decide)).trans b6⟩
theorem zln_dat (B : zln_B b t h g) {i : Nat} (hi : i < t - 4) : f_Ln_data h (nI i) = some (nI (b (2 + i))) := by
  obtain ⟨b1, b2, b3, b4, b5, b6⟩ := B
  unfold f_Ln_data
  rw [if_neg (mt (zc_tl (k := 0) (by decide) (by omega)).mp (by omega)), b6, if_neg (mt (nI_leI (by omega) (by omega)).mp (by omega)), b5, if_neg (show ¬ (1 : Int32) = 0 by decide), show 2 + nI i = nI (2 + i) from nI_add 2 i, if_pos (zi_in (by omega) (show 2 + i < 16384 by omega)), nI_clamp (by omega), b3 _ (by omega)]
theorem zln_hrd (B : zln_B b t h g) {i : Nat} (hi : i < t) : f_Mo_heard g (nI i) = some (nI (b i)) := by
  obtain ⟨b1, b2, b3, b4, b5, b6⟩ := B
  unfold f_Mo_heard
  rw [if_pos (zi_in (by omega) (show i < 16384 by omega)), nI_clamp (by omega), b4 _ hi]
/-- the number at the i-th data byte -/
def zln_v (b : Nat → Nat) (i : Nat) : Nat := 256 * b (2 + i) + b (3 + i)
theorem zln_vl (B : zln_B b t h g) (i : Nat) : zln_v b i < 65536 := by
  have h1 := B.2.1 (2 + i)
  have h2 := B.2.1 (3 + i)
  unfold zln_v
  omega
theorem zln_nb (B : zln_B b t h g) {i : Nat} (hi : i + 1 < t - 4) : f_Ln_number h (nI i) = some (nI (zln_v b i)) := by
  unfold f_Ln_number zln_v
  rw [zln_dat B (by omega), Option.bind_some, nI_1, zln_dat B hi, Option.bind_some, show 256 * nI (b (2 + i)) = nI (256 * b (2 + i)) from zi_mul 256 _, nI_add, show 2 + (i + 1) = 3 + i by omega]
theorem zln_two (B : zln_B b t h g) {i : Nat} (hi : i + 1 < t - 4) : f_Mo_dataTwo g (nI i) = some (nI (zln_v b i)) := by
  have := B.1
  unfold f_Mo_dataTwo zln_v
  rw [show 2 + nI i = nI (2 + i) from nI_add 2 i, show 3 + nI i = nI (3 + i) from nI_add 3 i, zln_hrd B (by omega), Option.bind_some, zln_hrd B (by omega), Option.bind_some, show 256 * nI (b (2 + i)) = nI (256 * b (2 + i)) from zi_mul 256 _, nI_add]
/-- what a request must be that is not refused -/
def zln_G (b : Nat → Nat) (t : Nat) : Prop := zln_is (b 1) ∧ (b 1 ≤ 6 → t = 8) ∧ (15 ≤ b 1 → 10 ≤ t ∧ t = 9 + b 6) ∧ zln_ok (b 1) (zln_v b 2) (b 6) = true ∧ zln_v b 0 + (if b 1 = 5 ∨ b 1 = 6 then 1 else zln_v b 2) ≤ zln_ts (b 1)
theorem zln_ref (B : zln_B b t h g) : ∃ r, r < 4 ∧ f_Ln_refusal h (nI (b 1)) = some (nI r) ∧ f_Mo_refusal g (nI (b 1)) (nI (t - 4)) = some (nI r) ∧ (r = 0 → zln_G b t) := by
  have hb := B.2.1
  have h1 := hb 1
  have ht := B.1
  obtain ⟨f, hf⟩ : ∃ f, f = b 1 := ⟨_, rfl⟩
  have key : zln_is f → (f ≤ 6 → t = 8) → (15 ≤ f → 10 ≤ t ∧ t = 9 + b 6) → ∃ r, r < 4 ∧ f_Ln_refusal_77 h (nI f) = some (nI r) ∧ f_Mo_refusal_59 g (nI f) = some (nI r) ∧ (r = 0 → zln_G b t) := fun q1 q2 q3 => by
    have t8 : 8 ≤ t := by unfold zln_is at q1; omega
    obtain ⟨r1, r2⟩ := zln_77 (s := 0) q1 (zln_vl B 0) (zln_vl B 2) (hb 6) (zln_nb B (i := 0) (by omega)) (zln_nb B (i := 2) (by omega)) (fun q => zln_dat B (i := 4) (by have := q3 q; omega)) (zln_two B (i := 0) (by omega)) (zln_two B (i := 2) (by omega)) (fun q => zln_hrd B (i := 6) (by omega))
    refine ⟨zln_R f 0 (zln_v b 0) (zln_v b 2) (b 6), ?_, r1, r2, fun z => ?_⟩
    · unfold zln_R
      (repeat' split) <;> omega
    · unfold zln_R at z
      by_cases y : zln_ok f (zln_v b 2) (b 6) = true
      · rw [if_pos y] at z
        by_cases x : zln_v b 0 + (if f = 5 ∨ f = 6 then 1 else zln_v b 2) ≤ zln_ts f
        · rw [hf] at q1 q2 q3 y x
          exact ⟨q1, q2, q3, y, x⟩
        · rw [if_neg x] at z; omega
      · rw [if_neg y] at z; omega
  have ds : (h.1 66 5) = nI (t - 4) := B.2.2.2.2.2
  rw [← hf]
  rw [← hf] at h1
  unfold f_Ln_refusal f_Mo_refusal f_Ln_refusal_25 f_Mo_refusal_11
  by_cases c0 : f < 1
  · rw [if_pos ((zc_tl (k := 1) (by decide) (by omega)).mpr c0), if_pos ((zc_tl (k := 1) (by decide) (by omega)).mpr c0), if_neg (fun q => by have := (zc_eq (k := 15) (by decide) (by omega)).mp q; omega), if_neg (fun q => by have := (zc_eq (k := 16) (by decide) (by omega)).mp q; omega)]
    exact ⟨1, by decide, rfl, rfl, fun z => absurd z (by decide)⟩
  rw [if_neg (mt (zc_tl (k := 1) (by decide) (by omega)).mp c0), if_neg (mt (zc_tl (k := 1) (by decide) (by omega)).mp c0)]
  by_cases c6 : f ≤ 6
  · rw [if_pos ((zc_el (k := 6) (by decide) (by omega)).mpr c6), if_pos ((zc_el (k := 6) (by decide) (by omega)).mpr c6), if_pos ((zc_tl (k := 15) (by decide) (by omega)).mpr (by omega))]
    unfold f_Ln_refusal_36 f_Mo_refusal_25
    rw [if_pos (show (0 : Int32) = 0 from rfl), if_neg (mt (zc_le (k := 7) (by decide) (by omega)).mp (by omega)), ds]
    by_cases c4 : t = 8
    · rw [if_pos (by rw [c4]; rfl), if_pos (by rw [c4]; rfl)]
      exact key (by unfold zln_is; omega) (fun _ => c4) (fun q => by omega)
    · rw [if_neg (fun q => c4 (by have := (zc_eq (k := 4) (by decide) (by omega)).mp q; omega)), if_neg (fun q => c4 (by have := (zc_eq (k := 4) (by decide) (by omega)).mp q; omega))]
      exact ⟨3, by decide, rfl, rfl, fun z => absurd z (by decide)⟩
  rw [if_neg (mt (zc_el (k := 6) (by decide) (by omega)).mp c6), if_neg (mt (zc_el (k := 6) (by decide) (by omega)).mp c6)]
  have rest : zln_is f → ∃ r, r < 4 ∧ (if nI f < 15 then f_Ln_refusal_36 h (nI f) 0 else f_Ln_refusal_36 h (nI f) 1) = some (nI r) ∧ f_Mo_refusal_25 g (nI f) (nI (t - 4)) = some (nI r) ∧ (r = 0 → zln_G b t) := fun q1 => by
    have q15 : 15 ≤ f := by unfold zln_is at q1; omega
    rw [if_neg (mt (zc_tl (k := 15) (by decide) (by omega)).mp (by omega))]
    unfold f_Ln_refusal_36 f_Mo_refusal_25
    rw [if_neg (show ¬ (1 : Int32) = 0 by decide), if_pos ((zc_le (k := 7) (by decide) (by omega)).mpr (by omega)), ds]
    by_cases c4 : t - 4 < 6
    · rw [if_pos ((zc_tl (k := 6) (by decide) (by omega)).mpr c4), if_pos ((zc_tl (k := 6) (by decide) (by omega)).mpr c4)]
      exact ⟨3, by decide, rfl, rfl, fun z => absurd z (by decide)⟩
    · rw [if_neg (mt (zc_tl (k := 6) (by decide) (by omega)).mp c4), if_neg (mt (zc_tl (k := 6) (by decide) (by omega)).mp c4), show (4 : Int32) = nI 4 from rfl, zln_dat B (i := 4) (by omega), show (6 : Int32) = nI 6 from rfl, zln_hrd B (i := 6) (by omega), Option.bind_some, Option.bind_some, show (2 + 4 : Nat) = 6 from rfl, show 5 + nI (b 6) = nI (5 + b 6) from nI_add 5 _]
      have h6 := hb 6
      by_cases c5 : t - 4 = 5 + b 6
      · rw [if_pos (congrArg nI c5), if_pos (congrArg nI c5)]
        exact key q1 (fun q => by omega) (fun _ => by omega)
      · rw [if_neg (fun q => c5 ((nI_eq (by omega) (by omega)).mp q)), if_neg (fun q => c5 ((nI_eq (by omega) (by omega)).mp q))]
        exact ⟨3, by decide, rfl, rfl, fun z => absurd z (by decide)⟩
  by_cases c15 : f = 15
  · rw [if_pos (show nI f = 15 by rw [c15]; rfl), if_pos (show nI f = 15 by rw [c15]; rfl)]
    exact rest (by unfold zln_is; omega)
  rw [if_neg (fun q => c15 ((zc_eq (k := 15) (by decide) (by omega)).mp q)), if_neg (fun q => c15 ((zc_eq (k := 15) (by decide) (by omega)).mp q))]
  by_cases c16 : f = 16
  · rw [if_pos (show nI f = 16 by rw [c16]; rfl), if_pos (show nI f = 16 by rw [c16]; rfl)]
    exact rest (by unfold zln_is; omega)
  rw [if_neg (fun q => c16 ((zc_eq (k := 16) (by decide) (by omega)).mp q)), if_neg (fun q => c16 ((zc_eq (k := 16) (by decide) (by omega)).mp q))]
  exact ⟨1, by decide, rfl, rfl, fun z => absurd z (by decide)⟩
end ZLD
end
