/-! The judge: a call of a FUNCTION (24, 25, 26). -/
theorem ya_Mf {g g' : zs_H} (e1 : g'.2.1 100 = g.2.1 100) (e2 : g'.2.1 78 = g.2.1 78) : ∀ l x, ya_M g l x → ya_M g' l x := by
  intro l
  induction l with
  | nil => intro x h; exact h
  | cons t l ih =>
    intro x ⟨b, b1, b2, b3, b4, b5⟩
    exact ⟨b, b1, b2, by rw [e1]; exact b3, b4, by rw [e2]; exact ih _ b5⟩
/-- what the tables tell of a block before -/
theorem zv_bF {LC LM : List (List Int32)} {nb nf b : Nat} {F : Nat → Nat} {q : Int32} {h g : zs_H} (I : zv_I LC LM nb nf (F nb) F q h g) (si : zv_si (F nb) h) (hb : b < nb) : (h.2.1 23) (9 + b) = nI (32 + F b) ∧ (g.2.1 90) b = nI (F b) ∧ (h.2.1 24) (9 + b) = nI (32 + F (b + 1)) ∧ (F b ≤ F (b + 1) ∧ F (b + 1) ≤ F nb) ∧ (∀ v, v < F (b + 1) → ((g.2.1 95) v = 1 ↔ (h.2.1 29) (32 + v) = 1)) ∧ (∀ w, F b ≤ w → w < F (b + 1) → (h.2.1 29) (32 + w) = 1 → ∃ tw, (h.2.1 31) (32 + w) = nI tw ∧ (g.2.1 93) w = nI tw) ∧ ((h.2.1 21) (9 + b) = nI 1 → ∃ ty, ty < 3 ∧ (h.2.1 31) (32 + F b) = nI ty ∧ (g.2.1 87) b = nI ty) := by
  obtain ⟨HS, HB, HN, HV, HC, HT, HJ, J1, J2⟩ := I
  obtain ⟨x1, x2, x3⟩ := HB.2.2.2.2.2.1 b hb
  have hF := HB.2.2.2.1 b hb
  have V3 : F nb ≤ 5900 := HB.2.1.2.2
  refine ⟨x1, x2, x3, hF, fun v hv => ?_, fun w w1 w2 w3 => ?_, fun hk => ?_⟩
  · obtain ⟨s, s1, s2, s3⟩ := HV.1 v (by omega)
    rw [s2, s3]
    have a1 : s = 0 ∨ s = 1 ∨ s = 2 ∨ s = 3 := by omega
    rcases a1 with e | e | e | e <;> subst e <;> decide
  · have Q := HV.2.1 b w hb w1 w2 (by omega)
    have i1 := si w (by omega) (.inl w3)
    obtain ⟨ty, x, s', y, ⟨t1, t2⟩, _, _, _, _, _, _, q8, _⟩ := Q
    rcases q8 with ⟨_, _, e, _⟩ | ⟨e, _⟩ | ⟨B, hB, e, _⟩
    · exact ⟨ty, t2, e⟩
    · rw [i1] at e; exact absurd e (by decide)
    · rw [i1] at e; exact absurd e.symm (zc_m1 (by have := HB.1.2.2; omega))
  · obtain ⟨y1, y2, _⟩ := HC.2.2.2 b hb hk
    obtain ⟨ty, x, s', y, ⟨t1, t2⟩, _⟩ := HV.2.1 b (F b) hb (Nat.le_refl _) y1 (by omega)
    exact ⟨ty, t1, t2, y2.trans t2⟩
theorem zv_ownE {LC LM : List (List Int32)} {nb nf i k c sz : Nat} {F : Nat → Nat} {q w p : Int32} {h g : zs_H} {l : List Nat} (I : zv_I LC LM nb nf (F nb) F q h g) (si : zv_si (F nb) h) (hb : 0 < nb) (hi : i < 32784) (hk : k < 33500) (hc : c < 6000) (hw : zt_nr LC LM (nI c) w) (hsz : (h.1 12 6) = nI sz) (hs2 : sz < 40000) (hl : l.length ≤ sz) (hcF : ¬ (50 ≤ c ∧ c < 60)) (c1 : (h.2.1 16) i = nI c) (c2 : (h.2.1 15) i = p) (c3 : ya_C h i l ((h.2.1 17) i)) (m0 : (g.2.1 72) k = 34) (m1 : (g.2.1 74) k = w) (m2 : (g.2.1 73) k = p) (m3 : ya_M g l ((g.2.1 76) k)) :
    ∃ h' g', f_Jd_judgeCall h (nI i) = some h' ∧ f_Mo_lookAtExpressions g (nI k) = some g' ∧ (zv_Fb h g h' g' ∨ (∃ b ty, b < nb - 1 ∧ ty < 3 ∧ ((h.2.1 21) (9 + b) = 1 ∧ F b < F (b + 1) ∧ (h.2.1 31) (32 + F b) = nI ty ∧ ya_fit h (zv_il h (F (b + 1) - F b) (F b)) ((h.2.1 17) i)) ∧ l.length = (zv_il h (F (b + 1) - F b) (F b)).length ∧ h' = zs_uM (zs_uM h 16 i (nI (9 + b))) 14 i (nI ty) ∧ g' = zs_uM (zs_uM g 102 k (nI b)) 100 k (nI ty) ∧ (g.2.1 86) b = 1 ∧ f_Mo_blockNamed g w (nI (nb - 1)) = some (nI b))) := by
  have hzF := zF_big
  have J1 : (h.1 38 3) = 0 := I.2.2.2.2.2.2.2.1
  have J2 : (g.1 68 29) = 0 := I.2.2.2.2.2.2.2.2
  have hB3 : nb ≤ 568 := I.2.1.1.2.2
  have V3 : F nb ≤ 5900 := I.2.1.2.1.2.2
  have HJ := I.2.2.2.2.2.2.1 hb
  have hwf := zv_wF I.1 hw hc
  rw [if_neg hcF] at hwf
  have eC : f_Jd_judgeCall h (nI i) = f_Jd_judgeCall_65 h (nI i) (nI c) (nI l.length) := by
    unfold f_Jd_judgeCall
    rw [if_pos (zi_in (by omega) hi), nI_clamp (show i < 2147483648 by omega), c1]
    have := ya_cntC (i := i) (nm := nI c) hsz (by omega) l ((h.2.1 17) i) 0 0 zF c3 (by omega) (by omega)
    rw [Nat.zero_add] at this
    exact this
  have eM0 : f_Mo_lookAtExpressions g (nI k) = (f_Mo_blockNamed g w (nI (nb - 1))).bind fun v5 => (if v5 < 0 then f_Mo_lookAtCall_47 g (nI k) (-1) else (if zd_in v5 2100 then (if ((g.2.1 86) v5.toNatClampNeg) = 1 then f_Mo_lookAtCall_48 g (nI k) (-1) v5 else f_Mo_lookAtCall_47 g (nI k) (-1)) else none)) := by
    unfold f_Mo_lookAtExpressions f_Mo_lookAtCall
    simp (config := { decide := true }) only [if_pos (zi_in (show k < 2147483648 by omega) hk), nI_clamp (show k < 2147483648 by omega), m0, if_false, if_true, Option.bind_fun_some, m1, hwf, Option.bind_some, HJ.2]
  have e47 : f_Mo_lookAtCall_47 g (nI k) (-1) = some (zv_ru 24 k g) := by
    unfold f_Mo_lookAtCall_47 f_Mo_lookAtCall_48 f_Mo_lookAtCall_63
    rw [if_neg (by decide), if_neg (by decide), show (24 : Int32) = nI 24 from rfl, zv_rule1 (by decide) J2 hk, Option.bind_some, if_pos (zi_in (by omega) hk), nI_clamp (show k < 2147483648 by omega)]
    show f_Mo_lookAtCall_L86 zF (zv_ru 24 k g) (nI k) (-1) (-1) (nI 0) 1 (-1) ((g.2.1 76) k) = _
    rw [ya_cntM (g := zv_ru 24 k g) hk l _ 0 _ _ zF (ya_Mf (g := g) (g' := zv_ru 24 k g) rfl rfl _ _ m3) (by omega)]
    unfold f_Mo_lookAtCall_86
    rw [if_pos (by decide), if_neg (zv_ruf0 (φ := 24) (k := k) (g := g) (by decide) (by decide))]
  have bad : f_Jd_judgeCall_65 h (nI i) (nI c) (nI l.length) = f_Jd_judgeCall_123 h (nI i) → f_Mo_lookAtExpressions g (nI k) = f_Mo_lookAtCall_47 g (nI k) (-1) → ∃ h' g', f_Jd_judgeCall h (nI i) = some h' ∧ f_Mo_lookAtExpressions g (nI k) = some g' ∧ zv_Fb h g h' g' := by
    intro e1 e2
    refine ⟨zv_rf 24 i h, zv_ru 24 k g, ?_, e2.trans e47, zv_mkF (φ := 24) (by decide) (by decide) c2 m2 zfr_rfl zfr_rfl zfr_rfl zfr_rfl⟩
    rw [eC, e1]
    unfold f_Jd_judgeCall_123
    rw [show (24 : Int32) = nI 24 from rfl, zv_refu J1 hi, Option.bind_some]; rfl
  have eC65 : f_Jd_judgeCall_65 h (nI i) (nI c) (nI l.length) = (if ((h.2.1 36) c) = (-1) then f_Jd_judgeCall_123 h (nI i) else (if ((h.2.1 36) c) = nI (8 + nb) then f_Jd_judgeCall_123 h (nI i) else (if zd_in ((h.2.1 36) c) 629 then (if ((h.2.1 21) ((h.2.1 36) c).toNatClampNeg) = 1 then ((f_Pl_inputs h ((h.2.1 36) c)).bind fun v9 => (if nI l.length = v9 then f_Jd_judgeCall_150 h (nI i) (nI l.length) ((h.2.1 36) c) 0 else f_Jd_judgeCall_150 h (nI i) (nI l.length) ((h.2.1 36) c) 1)) else f_Jd_judgeCall_123 h (nI i)) else none))) := by
    unfold f_Jd_judgeCall_65
    rw [zv_isF hc, if_neg hcF, if_pos rfl, if_pos (zi_in (by omega) hc), nI_clamp (show c < 2147483648 by omega), HJ.1]
  rcases zv_blk I hb hw hc with ⟨b1, b2, b3, b4, b5, b6⟩ | ⟨b, kd, b1, b2, b3, b4, b5, b6, b7⟩ | ⟨b1, b2, b3⟩
  · have : ∃ h' g', f_Jd_judgeCall h (nI i) = some h' ∧ f_Mo_lookAtExpressions g (nI k) = some g' ∧ zv_Fb h g h' g' := by
      apply bad
      · rw [eC65, b3, if_neg (zc_m1 (by omega)), if_neg (fun z => by have := (nI_eq (by omega) (by omega)).mp z; omega), if_pos (zi_in (by omega) (by omega)), nI_clamp (show c - 41 < 2147483648 by omega), b5, if_neg (by decide)]
      · rw [eM0, b6, Option.bind_some, if_pos (by decide)]
    obtain ⟨h', g', x1, x2, x3⟩ := this
    exact ⟨h', g', x1, x2, .inl x3⟩
  · by_cases k1 : kd = 1
    · subst k1
      obtain ⟨f1, f2, f3, ⟨f4, f6⟩, f5, f7, f8⟩ := zv_bF I si (show b < nb by omega)
      have hiC : f_Pl_inputs h (nI (9 + b)) = some (nI (zv_il h (F (b + 1) - F b) (F b)).length) := by
        unfold f_Pl_inputs
        rw [if_pos (zi_in (by omega) (by omega)), nI_clamp (show 9 + b < 2147483648 by omega), f1]
        have := zv_inpC (h := h) (b := b) (e := F (b + 1)) (by omega) (by omega) f3 (F (b + 1) - F b) (F b) 0 zF (by omega) (by omega)
        rw [Nat.zero_add] at this
        exact this
      have hiM : f_Mo_inputs g (nI b) = some (nI (zv_il h (F (b + 1) - F b) (F b)).length) := by
        unfold f_Mo_inputs
        rw [if_pos (zi_in (by omega) (by omega)), nI_clamp (show b < 2147483648 by omega), f2]
        have := zv_inpM (h := h) (g := g) (b := b) (e := F (b + 1)) (by omega) (by omega) (zv_bdM I.2.1 (by omega)) f5 (F (b + 1) - F b) (F b) 0 zF (by omega) (by omega)
        rw [Nat.zero_add] at this
        exact this
      have hlen := zv_ilen h (F (b + 1) - F b) (F b)
      obtain ⟨ty, t1, t2, t3⟩ := f8 b6
      have e269 : ∀ h2 : zs_H, h2.2 = h.2 → f_Jd_judgeCall_269 h2 (nI i) (nI (9 + b)) = some (zs_uM (zs_uM h2 16 i (nI (9 + b))) 14 i (nI ty)) := by
        intro h2 e2
        unfold f_Jd_judgeCall_269
        rw [e2, if_pos (zi_in (by omega) hi), if_pos (zi_in (by omega) (by omega)), nI_clamp (show 9 + b < 2147483648 by omega), f1, if_pos (zi_in (by omega) (by omega)), nI_clamp (show 32 + F b < 2147483648 by omega), t2, zv_nar3 t1, nI_clamp (show i < 2147483648 by omega)]
      have e96 : ∀ g2 : zs_H, g2.2 = g.2 → f_Mo_callOwn_96 g2 (nI k) (nI b) = some (zs_uM (zs_uM g2 102 k (nI b)) 100 k (nI ty)) := by
        intro g2 e2
        unfold f_Mo_callOwn_96
        rw [e2, if_pos (zi_in (by omega) hk), if_pos (zi_in (by omega) (by omega)), nI_clamp (show b < 2147483648 by omega), nI_clamp (show k < 2147483648 by omega), t3]
      have eC5 : f_Jd_judgeCall h (nI i) = if l.length = (zv_il h (F (b + 1) - F b) (F b)).length then f_Jd_judgeCall_150 h (nI i) (nI l.length) (nI (9 + b)) 0 else f_Jd_judgeCall_150 h (nI i) (nI l.length) (nI (9 + b)) 1 := by
        rw [eC, eC65, b2, if_neg (zc_m1 (by omega)), if_neg (fun z => by have := (nI_eq (by omega) (by omega)).mp z; omega), if_pos (zi_in (by omega) (by omega)), nI_clamp (show 9 + b < 2147483648 by omega), b6, if_pos (show nI 1 = 1 from rfl), hiC, Option.bind_some]
        simp only [nI_eq (show l.length < 2147483648 by omega) (show (zv_il h (F (b + 1) - F b) (F b)).length < 2147483648 by omega)]
      have eM5 : f_Mo_lookAtExpressions g (nI k) = if l.length = (zv_il h (F (b + 1) - F b) (F b)).length then f_Mo_callOwn_15 g (nI k) (nI b) 0 else f_Mo_callOwn_15 g (nI k) (nI b) 1 := by
        rw [eM0, b4, Option.bind_some, if_neg (zv_neg (show b < 2147483648 by omega)).2, if_pos (zi_in (by omega) (by omega)), nI_clamp (show b < 2147483648 by omega), b7, if_pos (show nI 1 = 1 from rfl)]
        unfold f_Mo_lookAtCall_48 f_Mo_lookAtCall_62 f_Mo_lookAtCall_63
        rw [if_neg (by decide), if_pos (zv_neg (show b < 2147483648 by omega)).1, zv_rule0, Option.bind_some, if_pos (zi_in (by omega) hk), nI_clamp (show k < 2147483648 by omega)]
        have := ya_cntM (s := -1) (b := nI b) hk l ((g.2.1 76) k) 0 1 (-1) zF m3 (by omega)
        rw [Nat.zero_add] at this
        rw [show f_Mo_lookAtCall_L86 zF g (nI k) (-1) (nI b) 0 1 (-1) ((g.2.1 76) k) = _ from this]
        unfold f_Mo_lookAtCall_86 f_Mo_callOwn
        rw [if_pos (by decide), J2, if_pos (by decide), if_neg (by decide), hiM, Option.bind_some, Option.bind_fun_some]
        simp only [nI_eq (show l.length < 2147483648 by omega) (show (zv_il h (F (b + 1) - F b) (F b)).length < 2147483648 by omega)]
      by_cases zl : l.length = (zv_il h (F (b + 1) - F b) (F b)).length
      · rw [if_pos zl] at eC5 eM5
        have eC6 : f_Jd_judgeCall h (nI i) = f_Jd_judgeCall_L173 zF h (nI i) (nI (0 + l.length)) ((h.2.1 17) i) (nI (9 + b)) (-1) (nI 0) := by
          rw [eC5, Nat.zero_add]
          unfold f_Jd_judgeCall_150
          rw [zv_ref0, Option.bind_some, if_pos (zi_in (by omega) hi), nI_clamp (show i < 2147483648 by omega)]
          rfl
        have eM6 : f_Mo_lookAtExpressions g (nI k) = f_Mo_callOwn_L32 zF g (nI k) (nI b) (nI 0) ((g.2.1 76) k) := by
          rw [eM5]
          unfold f_Mo_callOwn_15
          rw [zv_rule0, Option.bind_some, if_pos (zi_in (by omega) hk), nI_clamp (show k < 2147483648 by omega)]
          rfl
        obtain ⟨h', g', x1, x2, x3⟩ := ya_args (h := h) (g := g) (i := i) (k := k) (b := b) (lo := F b) (e := F (b + 1)) J1 J2 hi hk (by omega) (by omega) f3 f1 f2 f5 f7 (by omega) l ((h.2.1 17) i) ((g.2.1 76) k) (-1) (F b) (F (b + 1) - F b) 0 zF zF c3 m3 (by omega) (Nat.le_refl _) rfl zl.symm (by omega) (by
          unfold zd_max
          rw [if_pos (show (-1 + 1 : Int32) < nI (32 + F b) from (zc_lt (k := 0) (by decide) (by omega)).mpr (by omega))]) (by omega) (by omega)
        rw [eC6, eM6, x1, x2]
        rcases x3 with ⟨y1, y2, y3⟩ | ⟨y1, y2⟩
        · subst y1; subst y2
          rw [e269 _ rfl, e96 _ rfl]
          exact ⟨_, _, rfl, rfl, .inr ⟨b, ty, b1, t1, ⟨b6, (I.2.2.2.2.1.2.2.2 b (by omega) b6).1, t2, y3⟩, zl, rfl, rfl, b7, b4⟩⟩
        · subst y1; subst y2
          rw [e269 (zv_rf 26 i h) rfl, e96 (zv_ru 26 k g) rfl]
          exact ⟨_, _, rfl, rfl, .inl (zv_mkF (φ := 26) (by decide) (by decide) c2 m2 zfr_rfl zfr_rfl (zfr_M (by decide) (zfr_M (by decide) zfr_rfl)) (zfr_M (by decide) (zfr_M (by decide) zfr_rfl)))⟩
      · rw [if_neg zl] at eC5 eM5
        have hzz : zF = 18446744073709551615 + 1 := rfl
        have eC6 : f_Jd_judgeCall h (nI i) = f_Jd_judgeCall_269 (zv_rf 25 i h) (nI i) (nI (9 + b)) := by
          rw [eC5]
          unfold f_Jd_judgeCall_150
          rw [show (25 : Int32) = nI 25 from rfl, zv_ref1 (by decide) J1 hi, Option.bind_some, if_pos (zi_in (by omega) hi), hzz]
          show f_Jd_judgeCall_173 _ (zv_rf 25 i h) (nI i) (nI l.length) _ (nI (9 + b)) (-1) 0 = _
          unfold f_Jd_judgeCall_173
          rw [if_neg (zv_rff (φ := 25) (i := i) (h := h) (by decide) (by decide)), ite_self]
        have eM6 : f_Mo_lookAtExpressions g (nI k) = f_Mo_callOwn_96 (zv_ru 25 k g) (nI k) (nI b) := by
          rw [eM5]
          unfold f_Mo_callOwn_15
          rw [show (25 : Int32) = nI 25 from rfl, zv_rule1 (by decide) J2 hk, Option.bind_some, if_pos (zi_in (by omega) hk), hzz]
          show f_Mo_callOwn_32 _ (zv_ru 25 k g) (nI k) (nI b) 0 _ = _
          unfold f_Mo_callOwn_32
          rw [if_neg (zv_ruf (φ := 25) (k := k) (g := g) (by decide) (by decide)), ite_self]
        rw [eC6, eM6, e269 (zv_rf 25 i h) rfl, e96 (zv_ru 25 k g) rfl]
        exact ⟨_, _, rfl, rfl, .inl (zv_mkF (φ := 25) (by decide) (by decide) c2 m2 zfr_rfl zfr_rfl (zfr_M (by decide) (zfr_M (by decide) zfr_rfl)) (zfr_M (by decide) (zfr_M (by decide) zfr_rfl)))⟩
    · have : ∃ h' g', f_Jd_judgeCall h (nI i) = some h' ∧ f_Mo_lookAtExpressions g (nI k) = some g' ∧ zv_Fb h g h' g' := by
        have n1 : ¬ nI kd = 1 := fun z => k1 ((zc_eq (k := 1) (by decide) (by omega)).mp z)
        apply bad
        · rw [eC65, b2, if_neg (zc_m1 (by omega)), if_neg (fun z => by have := (nI_eq (by omega) (by omega)).mp z; omega), if_pos (zi_in (by omega) (by omega)), nI_clamp (show 9 + b < 2147483648 by omega), b6, if_neg n1]
        · rw [eM0, b4, Option.bind_some, if_neg (zv_neg (show b < 2147483648 by omega)).2, if_pos (zi_in (by omega) (by omega)), nI_clamp (show b < 2147483648 by omega), b7, if_neg n1]
      obtain ⟨h', g', x1, x2, x3⟩ := this
      exact ⟨h', g', x1, x2, .inl x3⟩
  · have : ∃ h' g', f_Jd_judgeCall h (nI i) = some h' ∧ f_Mo_lookAtExpressions g (nI k) = some g' ∧ zv_Fb h g h' g' := by
      apply bad
      · rw [eC65]
        rcases b1 with z | z
        · rw [if_pos z]
        · rw [if_pos z, ite_self]
      · rw [eM0, b3, Option.bind_some, if_pos (by decide)]
    obtain ⟨h', g', x1, x2, x3⟩ := this
    exact ⟨h', g', x1, x2, .inl x3⟩
