/-! The judge: an invocation is visited (20, 21). -/
theorem yp_o13 : ∀ {l : zt_T}, zg_ok l → yp_Ph l → yc_o l = 0 := by
  intro l
  induction l with
  | leaf => intro _ _; rfl
  | inner kd kv o lc r _ ihr =>
    intro ⟨_, okl, okr⟩ ⟨⟨e14, ce, kve, oe, le, hlc, hE, _⟩, Ph⟩
    subst e14
    show 0 + yc_o lc + yc_o r = 0
    rw [ihr okr Ph, yc_oE lc okl (by rw [hlc]; exact ⟨hE, trivial⟩)]
section YPD
variable {LC LM : List (List Int32)} {nb nf : Nat} {F : Nat → Nat} {h g : zs_H}
/-- 20, 21 at an invocation -/
theorem yp_lv {i k c : Nat} {q w p : Int32} (I : zv_I LC LM nb nf (F nb) F q h g) (hb : 0 < nb) (hi : i < 32784) (hk : k < 33500) (hc : c < 6000) (hw : zt_nr LC LM (nI c) w) (c0 : (h.2.1 13) i = 13) (c1 : (h.2.1 16) i = nI c) (c2 : (h.2.1 15) i = p) (m0 : (g.2.1 72) k = 13) (m1 : (g.2.1 74) k = w) (m2 : (g.2.1 73) k = p) :
    ∃ h' g', f_Jd_leave h (nI i) = some h' ∧ f_Mo_lookAlone_54 g (nI k) (nI 13) = some g' ∧ (zv_Fb h g h' g' ∨ (∃ u x B, F (nb - 1) ≤ u ∧ u < F nb ∧ B < 8 + nb ∧ (h.2.1 30) (32 + u) = nI B ∧ f_Mo_variable g ((g.1 68 54)) w = some (nI u) ∧ (g.2.1 92) u = 2 ∧ (h.2.1 32) (32 + u) = nI x ∧ h' = zs_uM h 16 i (nI (32 + u)) ∧ g' = zs_uM (zs_uM g 101 k (nI x)) 102 k (nI (if B < 9 then 100 + B else B - 9)))) := by
  have J1 : (h.1 38 3) = 0 := I.2.2.2.2.2.2.2.1
  have J2 : (g.1 68 29) = 0 := I.2.2.2.2.2.2.2.2
  have hB3 : nb ≤ 568 := I.2.1.1.2.2
  have V3 : F nb ≤ 5900 := I.2.1.2.1.2.2
  have eC : ∀ (v : Int32) (hf : zs_H), f_Jd_variableAt h (nI i) 0 = some (v, hf) → f_Jd_leave h (nI i) = some (zs_uM hf 16 i v) := by
    intro v hf e
    unfold f_Jd_leave
    simp (config := { decide := true }) only [if_pos (zi_in (show i < 2147483648 by omega) hi), nI_clamp (show i < 2147483648 by omega), c0, if_false, if_true, e]
    rfl
  have eM : f_Mo_lookAlone_54 g (nI k) (nI 13) = (f_Mo_lookAtInstance g (nI k)).bind fun h14 => (if ((h14.1 68 29)) = 0 then (if zd_in (nI k) 33500 then ((f_Mo_variable h14 ((h14.1 68 54)) ((h14.2.1 74) k)).bind fun v18 => (if zd_in v18 8400 then (if ((h14.2.1 93) v18.toNatClampNeg) < 100000 then f_Mo_lookAtStatements_200 (zs_uM h14 101 k ((h14.2.1 94) v18.toNatClampNeg)) ((h14.2.1 93) v18.toNatClampNeg) (nI k) else f_Mo_lookAtStatements_200 (zs_uM h14 101 k ((h14.2.1 94) v18.toNatClampNeg)) ((100 + ((h14.2.1 93) v18.toNatClampNeg)) - 100000) (nI k)) else none)) else none) else (some h14)) := by
    rw [zv_54S (by decide) (by decide) J2]
    unfold f_Mo_lookAtStatements
    simp (config := { decide := true }) only [if_pos (zi_in (show k < 2147483648 by omega) hk), nI_clamp (show k < 2147483648 by omega), m0, if_false, if_true]
  have eI : f_Mo_lookAtInstance g (nI k) = (f_Mo_variable g ((g.1 68 54)) w).bind fun v3 => (if 0 ≤ v3 then f_Mo_lookAtInstance_25 g (nI k) v3 0 else f_Mo_lookAtInstance_25 g (nI k) v3 1) := by
    unfold f_Mo_lookAtInstance
    rw [if_pos (zi_in (by omega) hk), nI_clamp (show k < 2147483648 by omega), m1]
  have bad : ∀ (φ : Nat), 0 < φ → φ < 1000 → f_Mo_lookAtInstance g (nI k) = some (zv_ru φ k g) → f_Mo_lookAlone_54 g (nI k) (nI 13) = some (zv_ru φ k g) := by
    intro φ a1 a2 e
    rw [eM, e, Option.bind_some, if_neg (zv_ruf a1 a2)]
  rcases zv_vCase I hb hc hw with ⟨z1, z2⟩ | ⟨u, ins, so, v1, v2, v3, v4, v5, v6, v7, v8, s0, s1, s2, Q⟩
  · refine ⟨_, zv_ru 20 k g, eC _ _ (zv_vaC0 hi c1 J1 z1), bad 20 (by decide) (by decide) ?_, .inl (zv_mkF (φ := 20) (by decide) (by decide) c2 m2 zfr_rfl zfr_rfl (zfr_M (by decide) zfr_rfl) zfr_rfl)⟩
    rw [eI, z2, Option.bind_some, if_neg (by decide)]
    unfold f_Mo_lookAtInstance_25 f_Mo_lookAtInstance_50 f_Mo_lookAtInstance_51
    rw [show (20 : Int32) = nI 20 from rfl, zv_rule1 (by decide) J2 hk, Option.bind_some, if_pos (by decide), zv_rule0, Option.bind_some]
    rfl
  · have eI3 : f_Mo_lookAtInstance g (nI k) = if so = 2 then some g else f_Mo_lookAtInstance_51 g (nI k) 1 := by
      rw [eI, v5, Option.bind_some, if_pos (zv_neg (show u < 2147483648 by omega)).1]
      unfold f_Mo_lookAtInstance_25 f_Mo_lookAtInstance_50
      rw [zv_rule0, Option.bind_some, if_neg (zv_neg (show u < 2147483648 by omega)).2, if_pos (zi_in (by omega) (by omega)), nI_clamp (show u < 2147483648 by omega)]
      simp only [v7, show (nI so = 2) ↔ so = 2 from zc_eq (k := 2) (by decide) (by omega)]
      unfold f_Mo_lookAtInstance_51
      rw [zv_rule0, Option.bind_some]
    by_cases z : so = 2
    · have zi : 0 ≤ ins := s2.mp z
      subst z
      have eV := zv_vaC1p (form := 0) (by decide) hi c1 J1 v4 v3 v6
      rw [if_pos zi] at eV
      rw [if_pos rfl] at eI3
      obtain ⟨x, x1, x2⟩ : ∃ x, (h.2.1 32) (32 + u) = nI x ∧ (g.2.1 94) u = nI x := by
        obtain ⟨_, x, _, _, _, ⟨x1, x2⟩, _⟩ := Q
        exact ⟨x, x1, x2⟩
      obtain ⟨B, b1, b2, b4⟩ : ∃ B, B < 8 + nb ∧ (h.2.1 30) (32 + u) = nI B ∧ (g.2.1 93) u = nI (if B < 9 then 100000 + B else B - 9) := by
        have h1 : 9 + (nb - 1) = 8 + nb := by omega
        obtain ⟨_, _, _, _, _, _, _, _, _, _, _, q8, _⟩ := Q
        rw [h1] at q8
        rcases q8 with ⟨_, e, _⟩ | ⟨_, e, _⟩ | ⟨B, a1, a2, a3, a4, _⟩
        · rw [v7] at e; exact absurd e (by decide)
        · rw [v7] at e; exact absurd e (by decide)
        · exact ⟨B, a1, a2, a4⟩
      clear Q
      have e200 : ∀ (y : Int32) (g3 : zs_H), f_Mo_lookAtStatements_200 g3 y (nI k) = some (zs_uM g3 102 k y) := by
        intro y g3
        unfold f_Mo_lookAtStatements_200
        rw [if_pos (zi_in (by omega) hk), nI_clamp (show k < 2147483648 by omega)]
      refine ⟨_, zs_uM (zs_uM g 101 k (nI x)) 102 k (nI (if B < 9 then 100 + B else B - 9)), eC _ _ eV, ?_, .inr ⟨u, x, B, v1, v2, b1, b2, v5, v7, x1, rfl, rfl⟩⟩
      rw [eM, eI3, Option.bind_some, if_pos J2, if_pos (zi_in (by omega) hk), m1, v5, Option.bind_some, if_pos (zi_in (by omega) (by omega))]
      have n3 : (nI u).toNatClampNeg = u := nI_clamp (by omega)
      simp only [n3, e200, b4, x2]
      by_cases z9 : B < 9
      · have t1 : ¬ nI (100000 + B) < 100000 := mt (zc_tl (k := 100000) (by decide) (by omega)).mp (by omega)
        have t2 : (100 : Int32) + nI (100000 + B) - 100000 = nI (100 + B) := by
          rw [show (100 : Int32) + nI (100000 + B) = nI (100 + (100000 + B)) from (Int32.ofNat_add 100 (100000 + B)).symm, show (100000 : Int32) = nI 100000 from rfl, zi_sub (by omega), show 100 + (100000 + B) - 100000 = 100 + B by omega]
        simp only [if_pos z9, if_neg t1, t2]
      · have t1 : nI (B - 9) < 100000 := (zc_tl (k := 100000) (by decide) (by omega)).mpr (by omega)
        simp only [if_neg z9, if_pos t1]
    · have zi : ¬ 0 ≤ ins := fun u => z (s2.mpr u)
      have eV := zv_vaC1p (form := 0) (by decide) hi c1 J1 v4 v3 v6
      rw [if_neg zi] at eV
      refine ⟨_, zv_ru 21 k g, eC _ _ eV, bad 21 (by decide) (by decide) ?_, .inl (zv_mkF (φ := 21) (by decide) (by decide) c2 m2 zfr_rfl zfr_rfl (zfr_M (by decide) zfr_rfl) zfr_rfl)⟩
      rw [eI3, if_neg z]
      unfold f_Mo_lookAtInstance_51
      rw [show (21 : Int32) = nI 21 from rfl, zv_rule1 (by decide) J2 hk, Option.bind_some]
      rfl
/-- an invocation is entered -/
theorem yp_en {i c : Nat} {q w : Int32} (I : zv_I LC LM nb nf (F nb) F q h g) (hb : 0 < nb) (hi : i < 32784) (hc : c < 6000) (hw : zt_nr LC LM (nI c) w) (c0 : (h.2.1 13) i = 13) (c1 : (h.2.1 16) i = nI c) :
    ∃ h1, f_Jd_enter h (nI i) = some h1 ∧ zfr [(38, 7), (38, 8)] [] [] h h1 ∧ (h1.1 38 8) = (h.2.1 17) i ∧ (yp_O w h1 g ∨ ∃ u B, yp_I nb F u B w h1 g ∧ ¬ yp_O w h1 g) := by
  have V3 : F nb ≤ 5900 := I.2.1.2.1.2.2
  have hB3 : nb ≤ 568 := I.2.1.1.2.2
  have eV : ∀ z y, f_Pl_variableHere (zs_uF h 38 8 z) y = f_Pl_variableHere h y := fun z y => rfl
  have eE : f_Jd_enter h (nI i) = (f_Pl_variableHere h (nI c)).bind fun v15 => (if v15 = (-1) then (some (zs_uF (zs_uF h 38 8 ((h.2.1 17) i)) 38 7 v15)) else (if zd_in v15 6000 then (if 0 ≤ ((h.2.1 30) v15.toNatClampNeg) then (some (zs_uF (zs_uF h 38 8 ((h.2.1 17) i)) 38 7 v15)) else (some (zs_uF (zs_uF (zs_uF h 38 8 ((h.2.1 17) i)) 38 7 v15) 38 7 (-1)))) else none)) := by
    unfold f_Jd_enter
    simp (config := { decide := true }) only [if_pos (zi_in (show i < 2147483648 by omega) hi), nI_clamp (show i < 2147483648 by omega), c0, if_false, if_true, c1, eV]
  rcases zv_vCase I hb hc hw with ⟨z1, z2⟩ | ⟨u, ins, so, v1, v2, v3, v4, v5, v6, v7, v8, s0, s1, s2, Q⟩
  · rw [eE, z1, Option.bind_some, if_pos rfl]
    exact ⟨_, rfl, zfr_F (by decide) (zfr_F (by decide) zfr_rfl), rfl, .inl ⟨rfl, .inl z2⟩⟩
  · have n3 : (nI (32 + u)).toNatClampNeg = 32 + u := nI_clamp (by omega)
    rw [eE, v4, Option.bind_some, if_neg (zc_m1 (show 32 + u < 2147483648 by omega)), if_pos (zi_in (by omega) (by omega))]
    by_cases z : so = 2
    · have zi : 0 ≤ (h.2.1 30) (nI (32 + u)).toNatClampNeg := by rw [n3, v6]; exact s2.mp z
      rw [if_pos zi]
      subst z
      obtain ⟨B, b1, b2, b4⟩ : ∃ B, B < 8 + nb ∧ (h.2.1 30) (32 + u) = nI B ∧ (g.2.1 93) u = nI (if B < 9 then 100000 + B else B - 9) := by
        have h1 : 9 + (nb - 1) = 8 + nb := by omega
        obtain ⟨_, _, _, _, _, _, _, _, _, _, _, q8, _⟩ := Q
        rw [h1] at q8
        rcases q8 with ⟨_, e, _⟩ | ⟨_, e, _⟩ | ⟨B, a1, a2, a3, a4, _⟩
        · rw [v7] at e; exact absurd e (by decide)
        · rw [v7] at e; exact absurd e (by decide)
        · exact ⟨B, a1, a2, a4⟩
      clear Q
      exact ⟨_, rfl, zfr_F (by decide) (zfr_F (by decide) zfr_rfl), rfl, .inr ⟨u, B, ⟨v1, v2, rfl, b1, b2, b4, v7, v5⟩, fun z => zc_m1 (show 32 + u < 2147483648 by omega) z.1⟩⟩
    · have zi : ¬ 0 ≤ (h.2.1 30) (nI (32 + u)).toNatClampNeg := by rw [n3, v6]; exact fun q => z (s2.mpr q)
      rw [if_neg zi]
      exact ⟨_, rfl, zfr_F (by decide) (zfr_F (by decide) (zfr_F (by decide) zfr_rfl)), rfl, .inl ⟨rfl, .inr ⟨u, by omega, v5, by rw [v7]; exact fun q => z ((zc_eq (k := 2) (by decide) (by omega)).mp q)⟩⟩⟩
end YPD
