/-! The judge: what may be assigned to (29, 30), both sides. -/
theorem yc_Af {g g' : zs_H} : ∀ {m p : Nat} {L : List Int32}, yc_A g m p L → g'.2.1 75 = g.2.1 75 → g'.2.1 72 = g.2.1 72 → g'.2.1 74 = g.2.1 74 → yc_A g' m p L := by
  intro m
  induction m with
  | zero =>
    intro p L ⟨a1, a2, a3⟩ e1 e2 e3
    exact ⟨a1, by rw [e1]; exact a2, by rw [e2, e3]; exact a3⟩
  | succ m ih =>
    intro p L ⟨a1, p', L', a2, a3, a4⟩ e1 e2 e3
    exact ⟨a1, p', L', by rw [e1]; exact a2, ih a3 e1 e2 e3, by rw [e2, e3]; exact a4⟩
section YN
variable {LC LM : List (List Int32)} {nb nf i k u c up d : Nat} {F : Nat → Nat} {q w : Int32} {h g : zs_H}
/-- 29 -/
theorem yc_29 (I : zv_I LC LM nb nf (F nb) F q h g) (hb : 0 < nb) (u1 : F (nb - 1) ≤ u) (u2 : u < F nb) (e : f_Mo_variable g ((g.1 68 54)) w = some (nI u)) : ∃ A : Int32, (A = 0 ∨ A = 1) ∧ f_Jd_judgeAssigned h (nI (32 + u)) (nI i) = f_Jd_judgeAssigned_108 h (nI (32 + u)) (nI i) A ∧ f_Mo_lookAtAssigned g w (nI k) = f_Mo_lookAtAssigned_70 g w (nI k) A := by
  have V3 : F nb ≤ 5900 := I.2.1.2.1.2.2
  have B3 : nb ≤ 568 := I.2.1.1.2.2
  have HJ := I.2.2.2.2.2.2.1 hb
  obtain ⟨s, s1, s2, s3⟩ := I.2.2.2.1.1 u u2
  have Q := I.2.2.2.1.2.1 (nb - 1) u (by omega) u1 (by rw [show nb - 1 + 1 = nb by omega]; exact u2) u2
  obtain ⟨kd, d1, d2, _⟩ := zv_cur I hb
  have hkd : kd < 2147483648 := by rcases d1 with z | z | z <;> omega
  have k3 : ((h.2.1 21) (8 + nb) = 3) ↔ kd = 3 := by rw [d2]; exact zc_eq (k := 3) (by decide) hkd
  obtain ⟨ty, x, s', y, _, ⟨x1, _⟩, _, _, ⟨xl, _⟩, _, _, _, q9⟩ := Q
  rw [show 9 + (nb - 1) = 8 + nb by omega] at q9
  have es : ((g.2.1 95) u = 1) ↔ (h.2.1 29) (32 + u) = 1 := by
    rw [s2, s3]
    have a1 : s = 0 ∨ s = 1 ∨ s = 2 ∨ s = 3 := by omega
    rcases a1 with e | e | e | e <;> subst e <;> decide
  -- the class
  have eC : f_Jd_judgeAssigned h (nI (32 + u)) (nI i) = f_Jd_judgeAssigned_108 h (nI (32 + u)) (nI i) (if (h.2.1 29) (32 + u) = 1 ∨ (kd = 3 ∧ (x < 256 ∨ (768 ≤ x ∧ x < 832))) then 1 else 0) := by
    have l256 : ((256 : Int32) ≤ nI x) ↔ 256 ≤ x := zc_le (k := 256) (by decide) (by omega)
    have l768 : (nI x < (768 : Int32)) ↔ x < 768 := zc_tl (k := 768) (by decide) (by omega)
    have l832 : ((832 : Int32) ≤ nI x) ↔ 832 ≤ x := zc_le (k := 832) (by decide) (by omega)
    unfold f_Jd_judgeAssigned f_Jd_judgeAssigned_24 f_Jd_judgeAssigned_48 f_Jd_judgeAssigned_49 f_Jd_judgeAssigned_81 f_Jd_judgeAssigned_77 f_Jd_judgeAssigned_82 f_Jd_judgeAssigned_103
    simp only [if_pos (zi_in (show 32 + u < 2147483648 by omega) (show 32 + u < 6000 by omega)), nI_clamp (show 32 + u < 2147483648 by omega), x1, l256, l768, l832, HJ.1, if_pos (zi_in (show 8 + nb < 2147483648 by omega) (show 8 + nb < 629 by omega)), nI_clamp (show 8 + nb < 2147483648 by omega), k3, show ¬ (1 : Int32) = 0 by decide, if_true, if_false]
    by_cases z1 : (h.2.1 29) (32 + u) = 1
    · simp only [z1, true_or, if_true, ite_self]
    · by_cases z2 : kd = 3
      · by_cases z3 : x < 256
        · have z4 : ¬ 256 ≤ x := by omega
          have z5 : x < 768 := by omega
          simp only [z1, z2, z3, z4, z5, if_true, if_false, true_or, and_self, or_true]
        · have z4 : 256 ≤ x := by omega
          by_cases z5 : x < 768
          · have z6 : ¬ 768 ≤ x := by omega
            simp only [z1, z2, z3, z4, z5, z6, if_true, if_false, false_and, or_self, and_false]
          · have z6 : 768 ≤ x := by omega
            by_cases z7 : 832 ≤ x
            · have z8 : ¬ x < 832 := by omega
              simp only [z1, z2, z3, z4, z5, z6, z7, z8, if_true, if_false, and_false, or_self]
            · have z8 : x < 832 := by omega
              simp only [z1, z2, z3, z4, z5, z6, z7, z8, if_true, if_false, and_self, or_true]
      · simp only [z1, z2, if_false, false_and, or_self, ite_self]
  have eM : f_Mo_lookAtAssigned g w (nI k) = f_Mo_lookAtAssigned_70 g w (nI k) (if (h.2.1 29) (32 + u) = 1 ∨ (kd = 3 ∧ (x < 256 ∨ (768 ≤ x ∧ x < 832))) then 1 else 0) := by
    unfold f_Mo_lookAtAssigned f_Mo_lookAtAssigned_24 f_Mo_lookAtAssigned_65 f_Mo_lookAtAssigned_69
    rw [e, Option.bind_some, if_pos (zv_neg (show u < 2147483648 by omega)).1, if_pos (zi_in (show u < 2147483648 by omega) (show u < 8400 by omega)), if_neg (zv_neg (show u < 2147483648 by omega)).2, if_pos (zi_in (show u < 2147483648 by omega) (show u < 8400 by omega))]
    simp only [nI_clamp (show u < 2147483648 by omega), es]
    by_cases z1 : (h.2.1 29) (32 + u) = 1
    · simp only [z1, true_or, if_true]
    · simp only [z1, if_false, false_or]
      rcases q9 with ⟨p1, p2, p3⟩ | ⟨p, p1, p2, p3, p4, p5, _⟩
      · rw [p1, if_pos (by decide)]
        have : ¬ (kd = 3 ∧ (x < 256 ∨ (768 ≤ x ∧ x < 832))) := fun z => by
          have := p3 (k3.mpr z.1)
          omega
        rw [if_neg this]
      · have hk3 := k3.mp p3
        rw [p2, if_neg (zv_neg (show p < 2147483648 by omega)).2, (zv_sh p p1).2]
        have e0 : (nI (p / 256) = 0) ↔ p / 256 = 0 := zc_eq (k := 0) (by decide) (by omega)
        have e3 : (nI (p / 256) = 3) ↔ p / 256 = 3 := zc_eq (k := 3) (by decide) (by omega)
        simp only [e0, e3]
        have key : (p / 256 = 0 ∨ p / 256 = 3) ↔ (kd = 3 ∧ (x < 256 ∨ (768 ≤ x ∧ x < 832))) := by
          rw [p4]
          unfold zv_pc
          split
          · constructor
            · intro z; exact ⟨hk3, by omega⟩
            · intro z; omega
          · constructor
            · intro z; exact ⟨hk3, by omega⟩
            · intro z; omega
        by_cases y0 : p / 256 = 0
        · rw [if_pos y0, if_pos (key.mp (.inl y0))]
        · by_cases y3 : p / 256 = 3
          · rw [if_neg y0, if_pos y3, if_pos (key.mp (.inr y3))]
          · rw [if_neg y0, if_neg y3, if_neg (fun z => (key.mpr z).elim y0 y3)]
  exact ⟨_, by split; exact .inr rfl; exact .inl rfl, eC, eM⟩
/-- both sides refuse it, or both go on -/
theorem yc_asg (I : zv_I LC LM nb nf (F nb) F q h g) (hb : 0 < nb) (hi : i < 32784) (hk : k < 33500) (hc : c < 6000) (hw : zt_nr LC LM (nI c) w) (u1 : F (nb - 1) ≤ u) (u2 : u < F nb) (e : f_Mo_variable g ((g.1 68 54)) w = some (nI u)) (hu : (g.2.1 75) k = nI up) (L : yc_L LC LM h g up d) (hd : d ≤ 240) :
    ∃ h' g', f_Jd_judgeAssigned h (nI (32 + u)) (nI i) = some h' ∧ f_Mo_lookAtAssigned g w (nI k) = some g' ∧ ((h' = h ∧ g' = g) ∨ ∃ φ, (φ = 29 ∨ φ = 30) ∧ h' = zv_rf φ i h ∧ g' = zv_ru φ k g) := by
  have hz := zF_big
  have J1 : (h.1 38 3) = 0 := I.2.2.2.2.2.2.2.1
  have J2 : (g.1 68 29) = 0 := I.2.2.2.2.2.2.2.2
  have V3 : F nb ≤ 5900 := I.2.1.2.1.2.2
  obtain ⟨m, L, l1, l2, l3, l4, l5⟩ := L
  obtain ⟨A, hA, eC, eM⟩ := yc_29 (i := i) (k := k) I hb u1 u2 e
  obtain ⟨n1, _⟩ := zv_uq I hb hc hw (by omega) e
  rw [eC, eM]
  unfold f_Jd_judgeAssigned_108 f_Mo_lookAtAssigned_70
  rcases hA with z | z
  · subst z
    rw [zv_ref0, zv_rule0, Option.bind_some, Option.bind_some, yc_isLoops l2 (by omega) hk hu, Option.bind_some]
    obtain ⟨p1, p2⟩ := yc_lp (h := h) (i := i) (u := u) (c := c) (n := L.length) J1 hi l3 (by omega) (by omega) n1 L.length 0 zF (by omega) (by omega)
    have S : LC.Nodup ∧ LM.Nodup ∧ LC.length < 6000 ∧ LM.length < 8000 := ⟨I.1.1, I.1.2.1, I.1.2.2.1, I.1.2.2.2.1⟩
    by_cases zm : w ∈ L
    · rw [if_pos zm, show (30 : Int32) = nI 30 from rfl, zv_rule1 (by decide) J2 hk, Option.bind_some]
      refine ⟨zv_rf 30 i h, zv_ru 30 k g, p2 ?_, rfl, .inr ⟨30, .inr rfl, rfl, rfl⟩⟩
      obtain ⟨j, j1, j2⟩ := List.mem_iff_getElem.mp zm
      have ee := l5 j j1
      rw [List.getD_eq_getElem?_getD, List.getElem?_eq_getElem j1, Option.getD_some, j2] at ee
      exact ⟨L.length - 1 - j, Nat.zero_le _, by omega, ((zt_nr_inj S.1 S.2.1 ee hw S.2.2.1 S.2.2.2).mpr rfl)⟩
    · rw [if_neg zm, zv_rule0, Option.bind_some]
      refine ⟨h, g, p1 (fun a _ a2 z => zm ?_), rfl, .inl ⟨rfl, rfl⟩⟩
      have ee := l5 (L.length - 1 - a) (by omega)
      rw [show L.length - 1 - (L.length - 1 - a) = a by omega] at ee
      have := (zt_nr_inj S.1 S.2.1 ee hw S.2.2.1 S.2.2.2).mp z
      rw [List.getD_eq_getElem?_getD, List.getElem?_eq_getElem (show L.length - 1 - a < L.length by omega), Option.getD_some] at this
      rw [← this]
      exact List.getElem_mem _
  · subst z
    have f29 := zv_rff (φ := 29) (i := i) (h := h) (by decide) (by decide)
    have g29 := zv_ruf (φ := 29) (k := k) (g := g) (by decide) (by decide)
    rw [show (29 : Int32) = nI 29 from rfl, zv_ref1 (by decide) J1 hi, zv_rule1 (by decide) J2 hk, Option.bind_some, Option.bind_some]
    refine ⟨zv_rf 29 i h, zv_ru 29 k g, yc_lpF (h := zv_rf 29 i h) (n := L.length) f29 l3 (by omega) (by omega) L.length 0 zF (by omega) (by omega), ?_, .inr ⟨29, .inl rfl, rfl, rfl⟩⟩
    show (f_Mo_isLoops (zv_ru 29 k g) w (nI k)).bind (fun v4 => (f_Mo_rule (zv_ru 29 k g) v4 30 (nI k)).bind fun h7 => some h7) = _
    rw [yc_isLoops (g := zv_ru 29 k g) (m := m) (p := up) (L := L) (yc_Af l2 rfl rfl rfl) (by omega) hk hu, Option.bind_some, zv_ruleF g29, Option.bind_some]
end YN
