/-! The judge: elements (22), signs before one and between two (28, 27). -/
abbrev zv_kc (h : zs_H) (a : Nat) : Prop := (h.2.1 13) a = 30 ∨ (h.2.1 13) a = 31
def zv_fo (i : Nat) (v : Int32) (h : zs_H) : zs_H := zs_uM (zs_uM (zs_uM h 13 i 30) 16 i v) 17 i (-1)
theorem zv_isC1 {h : zs_H} {a : Nat} (ha : a < 32784) (hk : zv_kc h a) : f_Tr_isConstant h (nI a) = some 1 := by
  unfold f_Tr_isConstant
  rw [if_neg (zc_m1 (by omega)), if_pos (zi_in (by omega) ha), nI_clamp (by omega)]
  rcases hk with e | e
  · rw [if_pos e]
  · rw [if_pos e, ite_self]
theorem zv_isC0 {h : zs_H} {a : Nat} (ha : a < 32784) (hk : ¬ zv_kc h a) : f_Tr_isConstant h (nI a) = some 0 := by
  unfold f_Tr_isConstant
  rw [if_neg (zc_m1 (by omega)), if_pos (zi_in (by omega) ha), nI_clamp (by omega), if_neg (fun e => hk (.inl e)), if_neg (fun e => hk (.inr e))]
theorem zv_fold1 {h : zs_H} {i : Nat} {v : Int32} (hi : i < 32784) : f_Jd_fold h (nI i) v = some (zv_fo i v h) := by
  unfold f_Jd_fold
  rw [if_pos (zi_in (by omega) hi), nI_clamp (by omega)]; rfl
theorem zv_ois {c : Prop} [Decidable c] {a b : Option Int32} (ha : c → a.isSome = true) (hb : ¬ c → b.isSome = true) : (if c then a else b).isSome = true := by
  by_cases z : c
  · rw [if_pos z]; exact ha z
  · rw [if_neg z]; exact hb z
theorem zv_two (k x y : Int32) : ∃ v, f_Cd_two k x y = some v := by
  rw [← Option.isSome_iff_exists]
  unfold f_Cd_two
  repeat' (first | rfl | contradiction | (apply zv_ois <;> intro _))
theorem zv_isn {t : Nat} (h : t < 3) : f_Mo_isNumber (nI t) = if t = 0 then 0 else 1 := by
  have : t = 0 ∨ t = 1 ∨ t = 2 := by omega
  rcases this with e | e | e <;> subst e <;> rfl
theorem zv_t0 {t : Nat} (h : t < 3) : (nI t = 0) ↔ t = 0 := zc_eq (k := 0) (by decide) (by omega)
/-- a fault, whatever else is written -/
theorem zv_mkF {φ i k : Nat} {p : Int32} {h g h' g' h2 g2 : zs_H} (h1 : 0 < φ) (h3 : φ < 1000) (c : (h.2.1 15) i = p) (m : (g.2.1 73) k = p) (a1 : zfr [] [13, 14, 16, 17] [] h h2) (a2 : zfr [] [100, 101, 102] [] g g2) (b1 : zfr [] [13, 14, 16, 17] [] (zv_rf φ i h2) h') (b2 : zfr [] [100, 101, 102] [] (zv_ru φ k g2) g') : zv_Fb h g h' g' := by
  refine ⟨⟨φ, p, h1, h3, ?_, ?_, ?_, ?_⟩, ?_, ?_⟩
  · rw [b1.1 _ _ List.not_mem_nil]; rfl
  · rw [b1.1 _ _ List.not_mem_nil]; show (h2.2.1 15) i = p; rw [a1.2.1 _ (by decide)]; exact c
  · rw [b2.1 _ _ List.not_mem_nil]; rfl
  · rw [b2.1 _ _ List.not_mem_nil]; show (g2.2.1 73) k = p; rw [a2.2.1 _ (by decide)]; exact m
  · exact zfr_trans (zfr_w a1 (by decide) (by decide) (by decide)) (zfr_trans (zfr_F (by decide) (zfr_F (by decide) zfr_rfl)) (zfr_w b1 (by decide) (by decide) (by decide)))
  · exact zfr_trans (zfr_w a2 (by decide) (by decide) (by decide)) (zfr_trans (zfr_F (by decide) (zfr_F (by decide) zfr_rfl)) (zfr_w b2 (by decide) (by decide) (by decide)))
/-- an element of an array (20, 21, 22) -/
theorem zv_elemE {LC LM : List (List Int32)} {nb nf i k c a ka tc : Nat} {F : Nat → Nat} {q w p : Int32} {h g : zs_H} (I : zv_I LC LM nb nf (F nb) F q h g) (hb : 0 < nb) (hi : i < 32784) (hk : k < 33500) (hc : c < 6000) (hw : zt_nr LC LM (nI c) w) (c0 : (h.2.1 13) i = 32) (c1 : (h.2.1 16) i = nI c) (c2 : (h.2.1 15) i = p) (c3 : (h.2.1 17) i = nI a) (ha : a < 32784) (hai : ¬ a = i) (c4 : (h.2.1 14) a = nI tc) (htc : tc < 3) (m0 : (g.2.1 72) k = 32) (m1 : (g.2.1 74) k = w) (m2 : (g.2.1 73) k = p) (m3 : (g.2.1 76) k = nI ka) (hka : ka < 33500) (m4 : (g.2.1 100) ka = nI tc) :
    ∃ h' g', f_Jd_judgeVariable h (nI i) = some h' ∧ f_Mo_lookAtExpressions g (nI k) = some g' ∧ (zv_Fb h g h' g' ∨ (∃ v ty x, F (nb - 1) ≤ v ∧ v < F nb ∧ ty < 3 ∧ ¬ tc = 0 ∧ h' = zs_uM (zs_uM h 16 i (nI (32 + v))) 14 i (nI ty) ∧ g' = zs_uM (zs_uM g 100 k (nI ty)) 101 k (nI x) ∧ f_Mo_variable g ((g.1 68 54)) w = some (nI v) ∧ (g.2.1 92) v = 1 ∧ (g.2.1 93) v = nI ty ∧ (g.2.1 94) v = nI x ∧ (h.2.1 32) (32 + v) = nI x ∧ (h.2.1 31) (32 + v) = nI ty)) := by
  have J1 : (h.1 38 3) = 0 := I.2.2.2.2.2.2.2.1
  have J2 : (g.1 68 29) = 0 := I.2.2.2.2.2.2.2.2
  have eM : f_Mo_lookAtExpressions g (nI k) = (f_Mo_variable g ((g.1 68 54)) w).bind fun v3 => (if 0 ≤ v3 then f_Mo_lookAtElement_25 g (nI k) v3 0 else f_Mo_lookAtElement_25 g (nI k) v3 1) := by
    unfold f_Mo_lookAtExpressions f_Mo_lookAtElement
    simp (config := { decide := true }) only [if_pos (zi_in (show k < 2147483648 by omega) hk), nI_clamp (show k < 2147483648 by omega), m0, if_false, if_true, Option.bind_fun_some, m1]
  have eC : f_Jd_judgeVariable h (nI i) = f_Jd_judgeVariable_32 h (nI i) 32 (-2) := by
    unfold f_Jd_judgeVariable
    rw [if_pos (zi_in (by omega) hi), nI_clamp (by omega), c0, if_neg (by decide), if_pos rfl]
  have e80F : ∀ (φ : Nat), 0 < φ → φ < 1000 → ∀ y, f_Mo_lookAtElement_80 (zv_ru φ k g) (nI k) y 1 = some (zv_ru φ k g) ∧ f_Mo_lookAtElement_80 (zv_ru φ k g) (nI k) y 0 = some (zv_ru φ k g) := by
    intro φ a1 a2 y
    have nf := zv_ruf (φ := φ) (k := k) (g := g) a1 a2
    unfold f_Mo_lookAtElement_80
    rw [zv_ruleF nf, zv_ruleF nf, Option.bind_some, if_neg nf]
    exact ⟨rfl, rfl⟩
  have e51F : ∀ (φ : Nat), 0 < φ → φ < 1000 → ∀ y, (if zd_in (nI k) 33500 then (if zd_in (((zv_ru φ k g).2.1 76) (nI k).toNatClampNeg) 33500 then (if (f_Mo_isNumber (((zv_ru φ k g).2.1 100) (((zv_ru φ k g).2.1 76) (nI k).toNatClampNeg).toNatClampNeg)) = 0 then f_Mo_lookAtElement_80 (zv_ru φ k g) (nI k) y 1 else f_Mo_lookAtElement_80 (zv_ru φ k g) (nI k) y 0) else none) else none) = some (zv_ru φ k g) := by
    intro φ a1 a2 y
    rw [(e80F φ a1 a2 y).1, (e80F φ a1 a2 y).2, ite_self, if_pos (zi_in (by omega) hk), nI_clamp (show k < 2147483648 by omega), show ((zv_ru φ k g).2.1 76) k = nI ka from m3, if_pos (zi_in (by omega) hka)]
  rcases zv_vCase I hb hc hw with ⟨z1, z2⟩ | ⟨v, ins, so, v1, v2, v3, v4, v5, v6, v7, v8, s0, s1, s2, Q⟩
  · refine ⟨zv_rf 20 i h, zv_ru 20 k g, eC.trans (zv_jvF (zv_vaC0 hi c1 J1 z1) (zv_rff (by decide) (by decide))), ?_, .inl (zv_mkF (by decide) (by decide) c2 m2 zfr_rfl zfr_rfl zfr_rfl zfr_rfl)⟩
    rw [eM, z2, Option.bind_some, if_neg (by decide)]
    unfold f_Mo_lookAtElement_25 f_Mo_lookAtElement_50 f_Mo_lookAtElement_51
    rw [show (20 : Int32) = nI 20 from rfl, zv_rule1 (by decide) J2 hk, Option.bind_some, if_pos (by decide), zv_rule0, Option.bind_some]
    exact e51F 20 (by decide) (by decide) _
  · have eM3 : f_Mo_lookAtExpressions g (nI k) = if so = 1 then f_Mo_lookAtElement_51 g (nI k) (nI v) 0 else f_Mo_lookAtElement_51 g (nI k) (nI v) 1 := by
      rw [eM, v5, Option.bind_some, if_pos (zv_neg (show v < 2147483648 by omega)).1]
      unfold f_Mo_lookAtElement_25 f_Mo_lookAtElement_50
      rw [zv_rule0, Option.bind_some, if_neg (zv_neg (show v < 2147483648 by omega)).2, if_pos (zi_in (by omega) (by omega)), nI_clamp (show v < 2147483648 by omega)]
      simp only [v7, show (nI so = 1) ↔ so = 1 from zc_eq (k := 1) (by decide) (by omega)]
    by_cases z : so = 1
    · have zi : ins = -2 := s1.mp z
      subst z
      have eV := zv_vaC1n (form := -2) (by decide) hi c1 J1 v4 v3 v6
      rw [if_pos zi] at eV
      obtain ⟨ty, x, s, y, ⟨t1, t2⟩, ⟨x1, x2⟩, _, _, _, _, _, q8, _⟩ := Q
      have q8' : (g.2.1 93) v = nI ty := by
        rcases q8 with ⟨_, e, _⟩ | ⟨_, _, e, _⟩ | ⟨B, _, _, e, _⟩
        · rw [v7] at e; exact absurd e (by decide)
        · exact e
        · rw [v7] at e; exact absurd e (by decide)
      have eC3 : f_Jd_judgeVariable h (nI i) = if tc = 0 then f_Jd_judgeVariable_116 (zs_uM (zs_uM h 16 i (nI (32 + v))) 14 i (nI ty)) (nI i) 32 (nI (32 + v)) (nI a) 1 else f_Jd_judgeVariable_116 (zs_uM (zs_uM h 16 i (nI (32 + v))) 14 i (nI ty)) (nI i) 32 (nI (32 + v)) (nI a) 0 := by
        rw [eC]
        unfold f_Jd_judgeVariable_32
        rw [eV]
        show (if (h.1 38 3) = 0 then _ else _) = _
        rw [if_pos J1, if_pos (zi_in (by omega) hi), if_pos (zi_in (by omega) (by omega)), if_pos rfl, nI_clamp (show i < 2147483648 by omega), c3, if_pos (zi_in (by omega) ha), nI_clamp (show a < 2147483648 by omega), nI_clamp (show 32 + v < 2147483648 by omega), t2, zv_nar3 t1]
        simp only [zu_MM, hai, and_false, if_false, c4, zv_t0 htc]
      have eM4 : f_Mo_lookAtExpressions g (nI k) = if tc = 0 then f_Mo_lookAtElement_80 g (nI k) (nI v) 1 else f_Mo_lookAtElement_80 g (nI k) (nI v) 0 := by
        rw [eM3, if_pos rfl]
        unfold f_Mo_lookAtElement_51
        rw [zv_rule0, Option.bind_some, if_pos (zi_in (by omega) hk), nI_clamp (show k < 2147483648 by omega), m3, if_pos (zi_in (by omega) hka), nI_clamp (show ka < 2147483648 by omega), m4, zv_isn htc]
        by_cases zt : tc = 0
        · rw [if_pos zt, if_pos rfl, if_pos zt]
        · rw [if_neg zt, if_neg (by decide), if_neg zt]
      by_cases zt : tc = 0
      · rw [eC3, eM4, if_pos zt, if_pos zt]
        unfold f_Jd_judgeVariable_116 f_Jd_judgeVariable_122 f_Mo_lookAtElement_80
        rw [show (22 : Int32) = nI 22 from rfl, zv_rule1 (by decide) J2 hk, Option.bind_some, zv_ref1 (h := zs_uM (zs_uM h 16 i (nI (32 + v))) 14 i (nI ty)) (by decide) J1 hi, Option.bind_some, if_neg (by decide)]
        refine ⟨_, zv_ru 22 k g, rfl, ?_, .inl ?_⟩
        · show (if ((zv_ru 22 k g).1 68 29) = 0 then _ else some (zv_ru 22 k g)) = _
          rw [if_neg (zv_ruf (φ := 22) (k := k) (g := g) (by decide) (by decide))]
        · exact zv_mkF (φ := 22) (h2 := zs_uM (zs_uM h 16 i (nI (32 + v))) 14 i (nI ty)) (g2 := g) (by decide) (by decide) c2 m2 (zfr_M (by decide) (zfr_M (by decide) zfr_rfl)) zfr_rfl zfr_rfl zfr_rfl
      · rw [eC3, eM4, if_neg zt, if_neg zt]
        unfold f_Jd_judgeVariable_116 f_Jd_judgeVariable_122 f_Mo_lookAtElement_80
        rw [zv_ref0, Option.bind_some, if_neg (by decide), zv_rule0, Option.bind_some, if_pos J2, if_pos (zi_in (by omega) (by omega)), if_pos (zi_in (by omega) hk), nI_clamp (show v < 2147483648 by omega), nI_clamp (show k < 2147483648 by omega)]
        exact ⟨_, _, rfl, rfl, .inr ⟨v, ty, x, v1, v2, t1, zt, rfl, by rw [q8', x2], v5, v7, q8', x2, x1, t2⟩⟩
    · have zi : ¬ ins = -2 := fun u => z (s1.mpr u)
      have eV := zv_vaC1n (form := -2) (by decide) hi c1 J1 v4 v3 v6
      rw [if_neg zi] at eV
      refine ⟨zv_rf 21 i h, zv_ru 21 k g, eC.trans (zv_jvF eV (zv_rff (by decide) (by decide))), ?_, .inl (zv_mkF (by decide) (by decide) c2 m2 zfr_rfl zfr_rfl zfr_rfl zfr_rfl)⟩
      rw [eM3, if_neg z]
      unfold f_Mo_lookAtElement_51
      rw [show (21 : Int32) = nI 21 from rfl, zv_rule1 (by decide) J2 hk, Option.bind_some]
      exact e51F 21 (by decide) (by decide) _
/-- a sign before one (28) -/
theorem zv_oneE {i k a ka ta s : Nat} {p : Int32} {h g : zs_H} (J1 : (h.1 38 3) = 0) (J2 : (g.1 68 29) = 0) (hi : i < 32784) (hk : k < 33500) (hs : s < 2) (c1 : (h.2.1 16) i = nI s) (c2 : (h.2.1 15) i = p) (c3 : (h.2.1 17) i = nI a) (ha : a < 32784) (hai : ¬ a = i) (c4 : (h.2.1 14) a = nI ta) (hta : ta < 3) (m0 : (g.2.1 72) k = 36) (m1 : (g.2.1 74) k = nI s) (m2 : (g.2.1 73) k = p) (m3 : (g.2.1 76) k = nI ka) (hka : ka < 33500) (m4 : (g.2.1 100) ka = nI ta) :
    ∃ h' g', f_Jd_judgeOne h (nI i) = some h' ∧ f_Mo_lookAtExpressions g (nI k) = some g' ∧ (zv_Fb h g h' g' ∨ ((g' = zs_uM g 100 k (nI ta) ∧ ¬ (s = 0 ∧ ta = 0)) ∧ ((zv_kc h a ∧ h' = zv_fo i (f_Cd_one (f_Cd_turning (if s = 0 then 1 else 0) (nI ta)) ((h.2.1 16) a)) (zs_uM h 14 i (nI ta))) ∨ (¬ zv_kc h a ∧ h' = zs_uM h 14 i (nI ta))))) := by
  have e0 : (nI s = 0) ↔ s = 0 := zc_eq (k := 0) (by decide) (by omega)
  -- the class, behind the rule
  have key : ∀ (y : Int32) (h2 : zs_H), f_Jd_refuseIf h y 28 (nI i) = some h2 → (∀ z, h2.2.1 z = h.2.1 z) → (h2.2 = h.2) → f_Jd_judgeOne_54 h (nI i) (nI a) (nI ta) (if s = 0 then 1 else 0) y = some (if zv_kc h a then zv_fo i (f_Cd_one (f_Cd_turning (if s = 0 then 1 else 0) (nI ta)) ((h.2.1 16) a)) (zs_uM h2 14 i (nI ta)) else zs_uM h2 14 i (nI ta)) := by
    intro y h2 e1 e2 _
    unfold f_Jd_judgeOne_54
    rw [e1, Option.bind_some, if_pos (zi_in (by omega) hi), nI_clamp (by omega), zv_nar3 hta]
    have kk : ∀ j, ((zs_uM h2 14 i (nI ta)).2.1 13) j = (h.2.1 13) j := fun j => by rw [zu_MM, if_neg (fun z => absurd z.1 (by decide)), e2]
    by_cases z : zv_kc h a
    · rw [zv_isC1 ha (by unfold zv_kc; rw [kk]; exact z), Option.bind_some, if_neg (by decide), if_pos (zi_in (by omega) ha), zv_fold1 hi, Option.bind_some, if_pos z, nI_clamp (by omega), e2]
    · rw [zv_isC0 ha (by unfold zv_kc; rw [kk]; exact z), Option.bind_some, if_pos rfl, if_neg z]
  have eC : f_Jd_judgeOne h (nI i) = f_Jd_judgeOne_54 h (nI i) (nI a) (nI ta) (if s = 0 then 1 else 0) (if s = 0 ∧ ta = 0 then 1 else 0) := by
    unfold f_Jd_judgeOne f_Jd_judgeOne_37 f_Jd_judgeOne_53
    simp only [if_pos (zi_in (show i < 2147483648 by omega) hi), nI_clamp (show i < 2147483648 by omega), c3, if_pos (zi_in (show a < 2147483648 by omega) ha), nI_clamp (show a < 2147483648 by omega), c1, c4, e0, zv_t0 hta]
    by_cases z1 : s = 0
    · by_cases z2 : ta = 0
      · simp (config := { decide := true }) only [z1, z2, if_true, if_false, and_self]
      · simp (config := { decide := true }) only [z1, z2, if_true, if_false, and_false]
    · simp (config := { decide := true }) only [z1, if_true, if_false, false_and]
  have eM : f_Mo_lookAtExpressions g (nI k) = f_Mo_lookAtExpressions_144 g (nI k) (if s = 0 ∧ ta = 0 then 1 else 0) := by
    unfold f_Mo_lookAtExpressions f_Mo_lookAtExpressions_143
    simp (config := { decide := true }) only [if_pos (zi_in (show k < 2147483648 by omega) hk), nI_clamp (show k < 2147483648 by omega), m0, if_false, if_true, m1, e0, m3, if_pos (zi_in (show ka < 2147483648 by omega) hka), nI_clamp (show ka < 2147483648 by omega), m4, zv_isn hta]
    by_cases z1 : s = 0
    · by_cases z2 : ta = 0
      · simp (config := { decide := true }) only [z1, z2, if_true, if_false, and_self]
      · simp (config := { decide := true }) only [z1, z2, if_true, if_false, and_false]
    · simp (config := { decide := true }) only [z1, if_true, if_false, false_and]
  rw [eC, eM]
  unfold f_Mo_lookAtExpressions_144
  by_cases zb : s = 0 ∧ ta = 0
  · rw [if_pos zb, key 1 _ (show f_Jd_refuseIf h 1 28 (nI i) = some (zv_rf 28 i h) from zv_ref1 (φ := 28) (by decide) J1 hi) (fun _ => rfl) rfl, show (28 : Int32) = nI 28 from rfl, zv_rule1 (by decide) J2 hk, Option.bind_some, if_pos (zi_in (by omega) hk), nI_clamp (by omega)]
    refine ⟨_, zs_uM (zv_ru 28 k g) 100 k (nI ta), rfl, ?_, .inl ?_⟩
    · show (if zd_in ((g.2.1 76) k) 33500 then some (zs_uM (zv_ru 28 k g) 100 k ((g.2.1 100) ((g.2.1 76) k).toNatClampNeg)) else none) = _
      rw [m3, if_pos (zi_in (by omega) hka), nI_clamp (by omega), m4]
    · refine zv_mkF (φ := 28) (h2 := h) (g2 := g) (by decide) (by decide) c2 m2 zfr_rfl zfr_rfl ?_ (zfr_M (by decide) zfr_rfl)
      split
      · exact zfr_M (by decide) (zfr_M (by decide) (zfr_M (by decide) (zfr_M (by decide) zfr_rfl)))
      · exact zfr_M (by decide) zfr_rfl
  · rw [if_neg zb, key 0 h zv_ref0 (fun _ => rfl) rfl, zv_rule0, Option.bind_some, if_pos (zi_in (by omega) hk), nI_clamp (by omega), m3, if_pos (zi_in (by omega) hka), nI_clamp (by omega), m4]
    refine ⟨_, _, rfl, rfl, .inr ⟨⟨rfl, zb⟩, ?_⟩⟩
    by_cases z : zv_kc h a
    · exact .inl ⟨z, if_pos z⟩
    · exact .inr ⟨z, if_neg z⟩
