/-! load, on both sides. -/
/-- what is still to be shown of the texts that the parser takes -/
def yL_CX : Prop := ∀ (h : zs_H) (T : Nat → Int32) (n K : Nat) (LC : List (List Int32)), zq_S h T n K LC → ∀ h1 t LM s m g1, f_Ps_parse h = some (nI 0, h1) → zk_TX LC LM t s m h1 g1 → zg_cx t
abbrev yL_F1 : List (Nat × Nat) := zq_fs ++ (zv_cf ++ (yC_F ++ yV_CF))
abbrev yL_M1 : List Nat := zq_ms ++ (13 :: 14 :: 16 :: 17 :: (zv_cm ++ (yC_M ++ yV_CM)))
abbrev yL_F2 : List (Nat × Nat) := yh_m ++ (zx_fs2 ++ (zv_mf ++ (yM_F ++ yV_MF)))
abbrev yL_M2 : List Nat := zx_ms2 ++ (zv_mm ++ (yM_M ++ yV_MM))
abbrev yL_FC : List (Nat × Nat) := yL_cF ++ yL_F1
abbrev yL_MC : List Nat := 60 :: 62 :: 65 :: (yL_cM ++ yL_M1)
abbrev yL_FM : List (Nat × Nat) := (68, 1) :: (68, 78) :: (68, 82) :: (68, 73) :: (68, 74) :: (68, 84) :: (68, 85) :: (68, 86) :: yL_F2
abbrev yL_MM : List Nat := 69 :: 114 :: 119 :: yL_M2
def yL_U (h : zs_H) : Prop := (h.1 58 3) = 0 ∧ (h.1 58 4) = 0 ∧ (h.1 58 5) = 0 ∧ (h.1 58 6) = 0 ∧ (h.1 58 7) = 0 ∧ (h.1 58 8) = 0 ∧ (h.1 58 9) = 0
/-- what the next load wants -/
def yL_N (h g : zs_H) : Prop := zk_k0 h ∧ (h.2.1 46) 0 = 0 ∧ (g.1 68 68) = 0 ∧ (g.1 68 66) = 0
/-- what load leaves -/
def yL_O (φ : Nat) (h g h' g' : zs_H) : Prop := φ < 1000 ∧ zfr yL_FC yL_MC yV_CL h h' ∧ zfr yL_FM yL_MM yV_ML g g' ∧ ((h'.1 0 1) = 0 ∧ (g'.1 68 78) = 0) ∧ ((h'.1 0 2) = nI φ ∧ (g'.1 68 80) = nI φ ∧ (h'.1 0 3) = (if φ = 0 then -5 else (g'.1 68 81))) ∧ yL_N h' g' ∧ yY_io h' g' ∧ ((¬ φ = 0 ∧ (g'.1 68 82) = 0 ∧ yL_U h') ∨ (φ = 0 ∧ ((h'.1 58 3) = 1 ∧ (h'.1 58 4) = 0) ∧ (g'.1 68 82) = 1 ∧ yL_Z h' g'))
theorem yL_B {α β : Type} {v : α} {h : zs_H} {K : α → zs_H → Option β} : zd_B (some (v, h)) K = K v h := rfl
theorem yL_bad {g : zs_H} {x : Int32} (z : ¬ (g.1 68 80) = 0) : f_Mo_load_88 g x = some ((g.1 68 80), zs_uF g 68 82 0) := by
  have hz := zF_big
  have e2 : f_Mo_load_226 g = some ((g.1 68 80), zs_uF g 68 82 0) := by
    unfold f_Mo_load_226 f_Mo_load_239 f_Mo_load_273
    rw [if_neg z, if_pos (show (0 : Int32) = 0 ∨ (0 : Int32) = 1 from .inl rfl), if_pos (show (0 : Int32) = 0 from rfl)]
    rfl
  have e1 : f_Mo_load_180 g x = some ((g.1 68 80), zs_uF g 68 82 0) := by
    unfold f_Mo_load_180
    rw [if_neg z, e2]
  obtain ⟨N, hN⟩ : ∃ N, zF = N + 1 := ⟨zF - 1, by omega⟩
  unfold f_Mo_load_88
  rw [hN]
  show f_Mo_load_90 (f_Mo_load_L90 N) g x 0 = _
  unfold f_Mo_load_90
  rw [if_neg z, e1]
  split <;> rfl
theorem yL_badC {h : zs_H} {x : Int32} (z : ¬ (h.1 0 2) = 0) : f_Pk_load_102 h x = some ((h.1 0 2), h) ∧ f_Pk_load_121 h x = some ((h.1 0 2), h) ∧ f_Pk_load_133 h = some ((h.1 0 2), h) := by
  have e1 : f_Pk_load_133 h = some ((h.1 0 2), h) := by
    unfold f_Pk_load_133 f_Pk_load_165
    rw [if_neg z]
  have e2 : f_Pk_load_121 h x = some ((h.1 0 2), h) := by
    unfold f_Pk_load_121
    rw [if_neg z, e1]
  refine ⟨?_, e2, e1⟩
  unfold f_Pk_load_102
  rw [if_neg z, e2]
theorem yL_note {h : zs_H} {φ : Nat} {p : Int32} (z : ¬ nI φ = 0) : f_Pk_note h (nI φ) p = some (zs_uF (zs_uF h 0 2 (nI φ)) 0 3 p) := by
  unfold f_Pk_note
  rw [if_neg z]
section YLL
variable {h g : zs_H} {t bu : Nat}
theorem yL_load (CX : yL_CX) (H : yL_T t h g) (N0 : yL_N h g) (io : yY_io h g) (h1 : 100 ≤ bu) (h2 : bu ≤ 100000) : ∃ φ h' g', f_Pk_load h (nI bu) = some (nI φ, h') ∧ f_Mo_load g (nI bu) = some (nI φ, g') ∧ yL_O φ h g h' g' := by
  have hz := zF_big
  obtain ⟨K0, s0, l0, w0⟩ := N0
  obtain ⟨g1, eg, fg, X, tp⟩ := yL_m H h1 h2
  obtain ⟨hA, k, L, eh, fh, S, ⟨N, LD⟩, ⟨c1, c2, c3⟩, MC⟩ := yL_c H K0 h1 h2
  have k0A : zk_k0 hA := ⟨by have := N.2.2.2.1 0 (Nat.zero_le _); rw [this]; rfl, fun i hi => by rw [fh.2.1 _ (by decide)]; exact K0.2 i hi⟩
  have fin : ∀ (φ : Nat) (hx gx : zs_H), ¬ φ = 0 → φ < 1000 → yL_p hA (nI bu) = some (nI φ, hx) → yL_j g1 (nI bu) = some (nI φ, zs_uF gx 68 82 0) → zfr yL_F1 yL_M1 yV_CL hA hx → zfr yL_F2 yL_M2 yV_ML g1 gx → ((hx.1 0 2) = nI φ ∧ (gx.1 68 80) = nI φ ∧ (hx.1 0 3) = (gx.1 68 81)) → ((hx.2.1 46) 0 = 0 ∧ (gx.1 68 68) = 0 ∧ (gx.1 68 66) = 0) → ∃ φ h' g', f_Pk_load h (nI bu) = some (nI φ, h') ∧ f_Mo_load g (nI bu) = some (nI φ, g') ∧ yL_O φ h g h' g' := by
    intro φ hx gx z l q1 q2 f1 f2 q3 q4
    refine ⟨φ, hx, zs_uF gx 68 82 0, eh.trans q1, eg.trans q2, l, zfr_trans (zfr_w fh (by decide) (by decide) (by decide)) (zfr_w f1 (by decide) (by decide) (by decide)), zfr_F (by decide) (zfr_trans (zfr_w fg (by decide) (by decide) (by decide)) (zfr_w f2 (by decide) (by decide) (by decide))), ⟨(f1.1 _ _ (by decide)).trans c1, (f2.1 _ _ (by decide)).trans tp⟩, ⟨q3.1, q3.2.1, by rw [if_neg z]; exact q3.2.2⟩, ⟨⟨?_, ?_⟩, q4⟩, ?_, .inl ⟨z, rfl, ?_⟩⟩
    · rw [f1.2.1 _ (by decide)]; exact k0A.1
    · intro i hi
      rw [f1.2.1 _ (by decide)]; exact k0A.2 i hi
    · intro i hi
      have e1 : ∀ a, a ∈ [59, 60, 61] → hx.2.1 a = h.2.1 a := fun a ha => by
        have : ∀ x, x ∈ [59, 60, 61] → ¬ x ∈ yL_M1 ∧ ¬ x ∈ yL_cM := by decide
        exact (f1.2.1 a (this a ha).1).trans (fh.2.1 a (this a ha).2)
      have e2 : ∀ a, a ∈ [118, 119, 120] → gx.2.1 a = g.2.1 a := fun a ha => by
        have : ∀ x, x ∈ [118, 119, 120] → ¬ x ∈ yL_M2 ∧ ¬ x ∈ [69] := by decide
        exact (f2.2.1 a (this a ha).1).trans (fg.2.1 a (this a ha).2)
      show ((hx.2.1 59) _ = (gx.2.1 118) _ ∧ (hx.2.1 60) _ = (gx.2.1 119) _ ∧ (hx.2.1 61) _ = (gx.2.1 120) _) ∧ (_ → yJ_01 ((gx.2.1 118) _) ∧ yJ_01 ((gx.2.1 119) _) ∧ yJ_01 ((gx.2.1 120) _))
      rw [e1 59 (by decide), e1 60 (by decide), e1 61 (by decide), e2 118 (by decide), e2 119 (by decide), e2 120 (by decide)]
      exact io i hi
    · obtain ⟨m1, m2, m3, m4, m5, m6, m7⟩ := MC
      exact ⟨(f1.1 _ _ (by decide)).trans m1, (f1.1 _ _ (by decide)).trans m2, (f1.1 _ _ (by decide)).trans m3, (f1.1 _ _ (by decide)).trans m4, (f1.1 _ _ (by decide)).trans m5, (f1.1 _ _ (by decide)).trans m6, (f1.1 _ _ (by decide)).trans m7⟩
  have nz : ∀ φ, ¬ φ = 0 → φ < 1000 → ¬ nI φ = 0 := fun φ z l q => by
    have := (zc_eq (k := 0) (by decide) (by omega)).mp q
    exact z this
  have sA : (hA.2.1 46) 0 = 0 := by rw [fh.2.1 _ (by decide)]; exact s0
  have l1 : (g1.1 68 68) = 0 := (fg.1 _ _ (by decide)).trans l0
  have w1 : (g1.1 68 66) = 0 := (fg.1 _ _ (by decide)).trans w0
  obtain ⟨φ, hB, p1, p2, p3, alt⟩ := yh_two S X (CX hA _ t k L S)
  rcases alt with ⟨z, g2, a1, a2, a3⟩ | ⟨z, alt⟩
  · refine fin φ (zs_uF (zs_uF hB 0 2 (nI φ)) 0 3 ((hB.1 19 0))) (zs_uF (zs_uF g2 68 80 (nI φ)) 68 81 ((g2.1 68 30))) z p2 ?_ ?_ (zfr_F (by decide) (zfr_F (by decide) (zfr_w p3 (by decide) (by decide) (by decide)))) (zfr_F (by decide) (zfr_F (by decide) (zfr_w a3 (by decide) (by decide) (by decide)))) ⟨rfl, rfl, a2.symm⟩ ⟨?_, (a3.1 _ _ (by decide)).trans l1, (a3.1 _ _ (by decide)).trans w1⟩
    · unfold yL_p
      rw [p1]
      show ((f_Pk_note hB (nI φ) ((hB.1 19 0))).bind _) = _
      rw [yL_note (nz φ z p2), Option.bind_some]
      have q : ¬ ((zs_uF (zs_uF hB 0 2 (nI φ)) 0 3 ((hB.1 19 0))).1 0 2) = 0 := nz φ z p2
      rw [if_neg q, (yL_badC q).1]
      rfl
    · unfold yL_j
      rw [a1]
      show (if nI φ = 0 then _ else f_Mo_load_88 (zs_uF (zs_uF g2 68 80 (nI φ)) 68 81 ((g2.1 68 30))) (nI bu)) = _
      rw [if_neg (nz φ z p2), yL_bad (show ¬ ((zs_uF (zs_uF g2 68 80 (nI φ)) 68 81 ((g2.1 68 30))).1 68 80) = 0 from nz φ z p2)]
      rfl
    · show (hB.2.1 46) 0 = 0
      rw [p3.2.1 _ (by decide)]; exact sA
  · subst z
    obtain ⟨ψ, hC, g2, b1, b2, b3, b4, b5, b6, b7⟩ := alt hB zfr_rfl
    have fB : (hB.1 0 2) = 0 := (p3.1 _ _ (by decide)).trans c2
    have eP : yL_p hA (nI bu) = ((f_Pk_note hC (nI ψ) ((hC.1 38 0))).bind fun h19 => f_Pk_load_102 h19 (nI bu)) := by
      unfold yL_p
      rw [p1, yL_B, show f_Pk_note hB (nI 0) ((hB.1 19 0)) = some hB by unfold f_Pk_note; rw [if_pos (show nI 0 = 0 from rfl)], Option.bind_some, if_pos fB, b1]
      rfl
    have fC : zfr yL_F1 yL_M1 yV_CL hA hC := zfr_trans (zfr_w p3 (by decide) (by decide) (by decide)) (zfr_w b4 (by decide) (by decide) (by decide))
    have sC : (hC.2.1 46) 0 = 0 := by rw [b4.2.1 _ (by decide), p3.2.1 _ (by decide)]; exact sA
    have f2 : zfr yL_F2 yL_M2 yV_ML g1 g2 := zfr_w b5 (by decide) (by decide) (by decide)
    by_cases z : ψ = 0
    · subst z
      obtain ⟨s, LM, g5, d1, d2, d3, d4⟩ := b7 rfl
      obtain ⟨g3, hg3⟩ : ∃ g3, g3 = zs_uF (zs_uF g2 68 80 (nI 0)) 68 81 ((g2.1 68 30)) := ⟨_, rfl⟩
      have Z3 : yh_Z s L LM hC g3 := yZ_Zf d4 (by rw [hg3, d3]; exact zfr_F (by decide) (zfr_F (by decide) (zfr_F (by decide) zfr_rfl)))
      have l3 : (g3.1 68 68) = 0 := by rw [hg3]; exact (b5.1 _ _ (by decide)).trans l1
      have w3 : (g3.1 68 66) = 0 := by rw [hg3]; exact (b5.1 _ _ (by decide)).trans w1
      have f3 : zfr yL_F2 yL_M2 yV_ML g1 g3 := by rw [hg3]; exact zfr_F (by decide) (zfr_F (by decide) f2)
      have fC0 : (hC.1 0 2) = 0 := (b4.1 _ _ (by decide)).trans fB
      have pC0 : (hC.1 0 3) = -5 := (b4.1 _ _ (by decide)).trans ((p3.1 _ _ (by decide)).trans c3)
      obtain ⟨hD, gD, e1, e2, ⟨e3, e4, e5⟩, alt⟩ := yx_all Z3 d2 (by omega) sC l3 w3
      have fD : zfr yL_F1 yL_M1 yV_CL hA hD := zfr_trans fC (zfr_w e1 (by decide) (by decide) (by decide))
      have f4 : zfr yL_F2 yL_M2 yV_ML g1 gD := zfr_trans f3 (zfr_w e2 (by decide) (by decide) (by decide))
      have fD0 : (hD.1 0 2) = 0 := (e1.1 _ _ (by decide)).trans fC0
      have pD0 : (hD.1 0 3) = -5 := (e1.1 _ _ (by decide)).trans pC0
      have eP2 : yL_p hA (nI bu) = zd_B (f_Cr_codeAll hC) fun v3 h4 => ((f_Pk_note h4 v3 0).bind fun h6 => f_Pk_load_121 h6 (nI bu)) := by
        rw [eP, show f_Pk_note hC (nI 0) ((hC.1 38 0)) = some hC by unfold f_Pk_note; rw [if_pos (show nI 0 = 0 from rfl)], Option.bind_some]
        unfold f_Pk_load_102
        rw [if_pos fC0]
      have eM2 : yL_j g1 (nI bu) = zd_B (f_Mo_generate g3) fun v7 h8 => (if v7 = 0 then ((f_Mo_refuse h8 50 0).bind fun h12 => f_Mo_load_88 h12 (nI bu)) else f_Mo_load_88 h8 (nI bu)) := by
        unfold yL_j
        rw [b2, hg3, yL_B, if_pos (show nI 0 = 0 from rfl)]
      rcases alt with ⟨x1, x2⟩ | ⟨x1, x2, x3⟩
      · refine fin 50 (zs_uF (zs_uF hD 0 2 (nI 50)) 0 3 0) (zs_uF (zs_uF gD 68 80 (nI 50)) 68 81 0) (by decide) (by decide) ?_ ?_ (zfr_F (by decide) (zfr_F (by decide) fD)) (zfr_F (by decide) (zfr_F (by decide) f4)) ⟨rfl, rfl, rfl⟩ ⟨e3, e4, e5⟩
        · rw [eP2, x1, yL_B, show (50 : Int32) = nI 50 from rfl, yL_note (show ¬ nI 50 = 0 by decide), Option.bind_some]
          have q : ¬ ((zs_uF (zs_uF hD 0 2 (nI 50)) 0 3 0).1 0 2) = 0 := (show ¬ nI 50 = 0 by decide)
          rw [(yL_badC q).2.1]
          rfl
        · rw [eM2, x2, yL_B, if_pos (show (0 : Int32) = 0 from rfl)]
          unfold f_Mo_refuse
          rw [Option.bind_some]
          exact yL_bad (g := zs_uF (zs_uF gD 68 80 (nI 50)) 68 81 0) (show ¬ nI 50 = 0 by decide)
      · have gD0 : (gD.1 68 80) = 0 := (e2.1 _ _ (by decide)).trans (by rw [hg3]; rfl)
        obtain ⟨hE, gE, φ, p, y1, y2, y3, y4, y5, y6, y7, y8, y9, y10⟩ := yV_all (h2 := hD) (g2 := gD) x3 h2 zfr_rfl zfr_rfl fD0 gD0
        have fE : zfr yL_F1 yL_M1 yV_CL hA hE := zfr_trans fD (zfr_w y3 (by decide) (by decide) (by decide))
        have fG : zfr yL_F2 yL_M2 yV_ML g1 gE := zfr_trans f4 (zfr_w y4 (by decide) (by decide) (by decide))
        have eP3 : yL_p hA (nI bu) = f_Pk_load_133 hE := by
          rw [eP2, x1, yL_B, show f_Pk_note hD 0 0 = some hD by unfold f_Pk_note; rw [if_pos (show (0 : Int32) = 0 from rfl)], Option.bind_some]
          unfold f_Pk_load_121
          rw [if_pos fD0, y1, Option.bind_some]
        have eM3 : yL_j g1 (nI bu) = f_Mo_load_226 gE := by
          rw [eM2, x2, yL_B, if_neg (show ¬ (1 : Int32) = 0 by decide), y2]
        have sE : (hE.2.1 46) 0 = 0 := by rw [y3.2.1 _ (by decide)]; exact e3
        have lE : (gE.1 68 68) = 0 := (y4.1 _ _ (by decide)).trans e4
        have wE : (gE.1 68 66) = 0 := (y4.1 _ _ (by decide)).trans e5
        by_cases z : φ = 0
        · subst z
          have NC : zn_C hC L := by
            unfold zn_C
            rw [fC.1 2 5 (by decide), fC.2.1 5 (by decide), fC.2.1 4 (by decide), fC.2.1 7 (by decide), fC.2.1 6 (by decide)]
            exact N
          have E : yL_E hC g3 hE gE := yL_Ef yL_E0 (zfr_trans (zfr_w e1 (by decide) (by decide) (by decide)) (zfr_w y3 (by decide) (by decide) (by decide))) (zfr_trans (zfr_w e2 (by decide) (by decide) (by decide)) (zfr_w y4 (by decide) (by decide) (by decide)))
          have ioE : yY_io hE gE := fun i hi => by
            have e1 : ∀ a, a ∈ [59, 60, 61] → hE.2.1 a = h.2.1 a := fun a ha => by
              have : ∀ x, x ∈ [59, 60, 61] → ¬ x ∈ yL_M1 ∧ ¬ x ∈ yL_cM := by decide
              exact (fE.2.1 a (this a ha).1).trans (fh.2.1 a (this a ha).2)
            have e2 : ∀ a, a ∈ [118, 119, 120] → gE.2.1 a = g.2.1 a := fun a ha => by
              have : ∀ x, x ∈ [118, 119, 120] → ¬ x ∈ yL_M2 ∧ ¬ x ∈ [69] := by decide
              exact (fG.2.1 a (this a ha).1).trans (fg.2.1 a (this a ha).2)
            rw [e1 59 (by decide), e1 60 (by decide), e1 61 (by decide), e2 118 (by decide), e2 119 (by decide), e2 120 (by decide)]
            exact io i hi
          obtain ⟨m1, m2, m3, m4, m5, m6, m7⟩ := MC
          obtain ⟨hG, gG, v1, v2, v3, v4, v5, v6, v7⟩ := yL_done (y10 rfl) h2 E NC LD ioE y6 y7 ⟨(fE.1 _ _ (by decide)).trans m4, (fE.1 _ _ (by decide)).trans m5, (fE.1 _ _ (by decide)).trans m6, (fE.1 _ _ (by decide)).trans m7⟩
          refine ⟨0, hG, gG, eh.trans (eP3.trans v1), eg.trans (eM3.trans v2), by decide, zfr_trans (zfr_w fh (by decide) (by decide) (by decide)) (zfr_trans (zfr_w fE (by decide) (by decide) (by decide)) (zfr_w v3 (by decide) (by decide) (by decide))), zfr_trans (zfr_w fg (by decide) (by decide) (by decide)) (zfr_trans (zfr_w fG (by decide) (by decide) (by decide)) (zfr_w v4 (by decide) (by decide) (by decide))), ⟨(v3.1 _ _ (by decide)).trans ((fE.1 _ _ (by decide)).trans c1), (v4.1 _ _ (by decide)).trans ((fG.1 _ _ (by decide)).trans tp)⟩, ⟨(v3.1 _ _ (by decide)).trans y6, (v4.1 _ _ (by decide)).trans y7, ?_⟩, ⟨⟨?_, ?_⟩, ?_, (v4.1 _ _ (by decide)).trans lE, (v4.1 _ _ (by decide)).trans wE⟩, v7, .inr ⟨rfl, v5.1, v5.2, v6⟩⟩
          · rw [if_pos (show (0 : Nat) = 0 from rfl)]
            rw [if_pos (show (0 : Nat) = 0 from rfl)] at y8
            exact (v3.1 _ _ (by decide)).trans (y8.trans pD0)
          · rw [v3.2.1 _ (by decide), fE.2.1 _ (by decide)]; exact k0A.1
          · intro i hi
            rw [v3.2.1 _ (by decide), fE.2.1 _ (by decide)]; exact k0A.2 i hi
          · rw [v3.2.1 _ (by decide)]; exact sE
        · have q1 : ¬ (hE.1 0 2) = 0 := by rw [y6]; exact nz φ z (by omega)
          have q2 : ¬ (gE.1 68 80) = 0 := by rw [y7]; exact nz φ z (by omega)
          refine fin φ hE gE z (by omega) (eP3.trans ((yL_badC (x := 0) q1).2.2.trans (by rw [y6]))) (eM3.trans ?_) fE fG ⟨y6, y7, by rw [y8, y9, if_neg z, if_neg z]⟩ ⟨sE, lE, wE⟩
          unfold f_Mo_load_226 f_Mo_load_239 f_Mo_load_273
          rw [if_neg q2, if_pos (show (0 : Int32) = 0 ∨ (0 : Int32) = 1 from .inl rfl), if_pos (show (0 : Int32) = 0 from rfl)]
          show some ((gE.1 68 80), _) = _
          rw [y7]
    · refine fin ψ (zs_uF (zs_uF hC 0 2 (nI ψ)) 0 3 ((hC.1 38 0))) (zs_uF (zs_uF g2 68 80 (nI ψ)) 68 81 ((g2.1 68 30))) z b3 ?_ ?_ (zfr_F (by decide) (zfr_F (by decide) fC)) (zfr_F (by decide) (zfr_F (by decide) f2)) ⟨rfl, rfl, b6 z⟩ ⟨sC, (b5.1 _ _ (by decide)).trans l1, (b5.1 _ _ (by decide)).trans w1⟩
      · rw [eP, yL_note (nz ψ z b3), Option.bind_some]
        have q : ¬ ((zs_uF (zs_uF hC 0 2 (nI ψ)) 0 3 ((hC.1 38 0))).1 0 2) = 0 := nz ψ z b3
        rw [(yL_badC q).1]
        rfl
      · unfold yL_j
        rw [b2]
        show (if nI ψ = 0 then _ else f_Mo_load_88 (zs_uF (zs_uF g2 68 80 (nI ψ)) 68 81 ((g2.1 68 30))) (nI bu)) = _
        rw [if_neg (nz ψ z b3), yL_bad (show ¬ ((zs_uF (zs_uF g2 68 80 (nI ψ)) 68 81 ((g2.1 68 30))).1 68 80) = 0 from nz ψ z b3)]
        rfl
end YLL
