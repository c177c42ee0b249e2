/-! The judge: sections, arrays, types. -/
theorem zv_bmod {x : Int} (h1 : -4611686018427387904 ≤ x) (h2 : x < 4611686018427387904) : x.bmod (2 ^ 64) = x := Int.bmod_eq_of_le (by omega) (by omega)
theorem zv_i64 (a b : Int32) : (b.toInt64 - a.toInt64).toInt = b.toInt - a.toInt ∧ (b.toInt64 - a.toInt64 + 1).toInt = b.toInt - a.toInt + 1 := by
  have a1 := Int32.le_toInt a
  have a2 := Int32.toInt_lt a
  have b1 := Int32.le_toInt b
  have b2 := Int32.toInt_lt b
  have e : (b.toInt64 - a.toInt64).toInt = b.toInt - a.toInt := by
    rw [Int64.toInt_sub, Int32.toInt_toInt64, Int32.toInt_toInt64, zv_bmod (by omega) (by omega)]
  refine ⟨e, ?_⟩
  rw [Int64.toInt_add, e, show (1 : Int64).toInt = 1 from rfl, zv_bmod (by omega) (by omega)]
theorem zv_64 (a b : Int32) : (b.toInt64 - a.toInt64 + 1 < 1 ↔ b.toInt64 - a.toInt64 < 0) ∧ (b.toInt64 - a.toInt64 + 1 ≤ 256 ↔ b.toInt64 - a.toInt64 ≤ 255) := by
  obtain ⟨e1, e2⟩ := zv_i64 a b
  constructor
  · rw [Int64.lt_iff_toInt_lt, Int64.lt_iff_toInt_lt, e1, e2, show (1 : Int64).toInt = 1 from rfl, show (0 : Int64).toInt = 0 from rfl]; omega
  · rw [Int64.le_iff_toInt_le, Int64.le_iff_toInt_le, e1, e2, show (256 : Int64).toInt = 256 from rfl, show (255 : Int64).toInt = 255 from rfl]; omega
/-- both sides refuse a node -/
def zv_Y (φ i k : Nat) (h g h' g' : zs_H) : Prop := h' = zs_uF (zs_uF h 38 3 (nI φ)) 38 0 ((h.2.1 15) i) ∧ g' = zs_uF (zs_uF g 68 29 (nI φ)) 68 30 ((g.2.1 73) k)
theorem zv_YX {φ i k : Nat} {p : Int32} {h g h' g' : zs_H} (Y : zv_Y φ i k h g h' g') (h1 : 0 < φ) (h2 : φ < 1000) (c3 : (h.2.1 15) i = p) (m3 : (g.2.1 73) k = p) : zv_X φ p h' g' ∧ zfr zv_cf zv_cm [] h h' ∧ zfr zv_mf zv_mm [] g g' := by
  obtain ⟨e1, e2⟩ := Y
  rw [e1, e2]
  exact ⟨⟨h1, h2, rfl, c3, rfl, m3⟩, zfr_F (by decide) (zfr_F (by decide) zfr_rfl), zfr_F (by decide) (zfr_F (by decide) zfr_rfl)⟩
theorem zv_both {h g : zs_H} {φ i k : Nat} (C : Prop) [Decidable C] (J1 : (h.1 38 3) = 0) (J2 : (g.1 68 29) = 0) (hi : i < 32784) (hk : k < 33500) : ∃ h' g', f_Jd_refuseIf h (if C then 1 else 0) (nI φ) (nI i) = some h' ∧ f_Mo_rule g (if C then 1 else 0) (nI φ) (nI k) = some g' ∧ ((¬ C ∧ h' = h ∧ g' = g) ∨ (C ∧ zv_Y φ i k h g h' g')) := by
  by_cases c : C
  · rw [if_pos c]
    exact ⟨_, _, zv_ref1 (by decide) J1 hi, zv_rule1 (by decide) J2 hk, .inr ⟨c, rfl, rfl⟩⟩
  · rw [if_neg c]
    exact ⟨_, _, zv_ref0, zv_rule0, .inl ⟨c, rfl, rfl⟩⟩
theorem zv_cur {LC LM : List (List Int32)} {nb nf ns : Nat} {F : Nat → Nat} {q : Int32} {h g : zs_H} (I : zv_I LC LM nb nf ns F q h g) (hb : 0 < nb) : ∃ kd, (kd = 1 ∨ kd = 2 ∨ kd = 3) ∧ (h.2.1 21) (8 + nb) = nI kd ∧ (g.2.1 86) (nb - 1) = nI kd ∧ (h.1 38 4) = nI (8 + nb) ∧ (g.1 68 54) = nI (nb - 1) ∧ nb ≤ 568 := by
  obtain ⟨_, ⟨⟨_, _, B3⟩, _, _, _, B5, _⟩, _, _, _, _, HJ, _, _⟩ := I
  obtain ⟨kd, e1, e2, e3, _⟩ := B5 (nb - 1) (by omega)
  rw [show 9 + (nb - 1) = 8 + nb by omega] at e2
  exact ⟨kd, e1, e2, e3, (HJ hb).1, (HJ hb).2, B3⟩
/-- 13 -/
theorem zv_section {LC LM : List (List Int32)} {nb nf ns i k s : Nat} {F : Nat → Nat} {q : Int32} {h g : zs_H} (I : zv_I LC LM nb nf ns F q h g) (hb : 0 < nb) (hi : i < 32784) (hk : k < 33500) (hs : s < 3) (c1 : (h.1 38 5) = nI s) (m1 : (g.2.1 72) k = 4) (m2 : (g.2.1 74) k = nI s) :
    ∃ h' g', f_Jd_judgeSection h (nI i) = some h' ∧ f_Mo_lookAtBlocks g (nI k) = some g' ∧ ((h' = h ∧ g' = g) ∨ zv_Y 13 i k h g h' g') := by
  obtain ⟨kd, k1, k2, k3, k4, k5, k6⟩ := zv_cur I hb
  obtain ⟨_, _, _, _, _, _, _, J1, J2⟩ := I
  have hk4 : kd < 2147483648 := by rcases k1 with e | e | e <;> rw [e] <;> decide
  obtain ⟨h', g', r1, r2, r3⟩ := zv_both (φ := 13) (i := i) (k := k) ((kd = 3 ∧ ¬ s = 0) ∨ (kd = 1 ∧ s = 2)) J1 J2 hi hk
  refine ⟨h', g', ?_, ?_, ?_⟩
  · unfold f_Jd_judgeSection f_Jd_judgeSection_23 f_Jd_judgeSection_47 f_Jd_judgeSection_51 f_Jd_judgeSection_52
    rw [k4, if_pos (zi_in (by omega) (by omega)), if_pos (zi_in (by omega) (by omega)), nI_clamp (by omega), k2, c1, ← r1]
    have e3 : (nI kd = 3) ↔ kd = 3 := zc_eq (k := 3) (by decide) hk4
    have e1 : (nI kd = 1) ↔ kd = 1 := zc_eq (k := 1) (by decide) hk4
    have s0 : (nI s = 0) ↔ s = 0 := zc_eq (k := 0) (by decide) (by omega)
    have s2 : (nI s = 2) ↔ s = 2 := zc_eq (k := 2) (by decide) (by omega)
    simp only [e3, e1, s0, s2, Option.bind_fun_some]
    by_cases x3 : kd = 3
    · have x1 : ¬ kd = 1 := by omega
      by_cases x0 : s = 0
      · simp only [x3, x0, if_true, if_neg (show ¬ (3 : Nat) = 1 by decide), not_true, and_false, false_and, or_self, if_false, show ((3 : Nat) = 1) = False by simp]; rfl
      · simp only [x3, x0, if_true, if_false, not_false_iff, and_self, true_or]; rfl
    · by_cases x1 : kd = 1
      · by_cases x2 : s = 2
        · simp only [x1, x2, if_true, if_neg (show ¬ (1 : Nat) = 3 by decide), and_self, or_true]; rfl
        · simp only [x1, x2, if_true, if_neg (show ¬ (1 : Nat) = 3 by decide), if_false, and_false, or_false, show ((1 : Nat) = 3) = False by simp, false_and]; rfl
      · simp only [x3, x1, if_false, false_and, or_self]; rfl
  · unfold f_Mo_lookAtBlocks f_Mo_lookAtBlocks_134 f_Mo_lookAtBlocks_157 f_Mo_lookAtBlocks_161 f_Mo_lookAtBlocks_162
    have ck : (nI k).toNatClampNeg = k := nI_clamp (by omega)
    have hik : zd_in (nI k) 33500 := zi_in (by omega) hk
    have hib : zd_in (nI (nb - 1)) 2100 := zi_in (by omega) (by omega)
    have cb : (nI (nb - 1)).toNatClampNeg = nb - 1 := nI_clamp (by omega)
    have e3 : (nI kd = 3) ↔ kd = 3 := zc_eq (k := 3) (by decide) hk4
    have e1 : (nI kd = 1) ↔ kd = 1 := zc_eq (k := 1) (by decide) hk4
    have s0 : (nI s = 0) ↔ s = 0 := zc_eq (k := 0) (by decide) (by omega)
    have s2 : (nI s = 2) ↔ s = 2 := zc_eq (k := 2) (by decide) (by omega)
    rw [← r2]
    simp only [if_pos hik, ck, m1, m2, show ¬ (4 : Int32) = 0 by decide, show ¬ (4 : Int32) = 1 by decide, show ¬ (4 : Int32) = 2 by decide, show ¬ (4 : Int32) = 3 by decide, if_false, if_true, k5, if_pos hib, cb, k3, e3, e1, s0, s2, Option.bind_fun_some]
    by_cases x3 : kd = 3
    · have x1 : ¬ kd = 1 := by omega
      by_cases x0 : s = 0
      · simp only [x3, x0, if_true, if_neg (show ¬ (3 : Nat) = 1 by decide), not_true, and_false, false_and, or_self, if_false, show ((3 : Nat) = 1) = False by simp]; rfl
      · simp only [x3, x0, if_true, if_false, not_false_iff, and_self, true_or]; rfl
    · by_cases x1 : kd = 1
      · by_cases x2 : s = 2
        · simp only [x1, x2, if_true, if_neg (show ¬ (1 : Nat) = 3 by decide), and_self, or_true]; rfl
        · simp only [x1, x2, if_true, if_neg (show ¬ (1 : Nat) = 3 by decide), if_false, and_false, or_false, show ((1 : Nat) = 3) = False by simp, false_and]; rfl
      · simp only [x3, x1, if_false, false_and, or_self]; rfl
  · rcases r3 with ⟨_, e1, e2⟩ | ⟨_, e⟩
    · exact .inl ⟨e1, e2⟩
    · exact .inr e
/-- what block a name means while a block is open -/
theorem zv_blk {LC LM : List (List Int32)} {nb nf ns c : Nat} {F : Nat → Nat} {q : Int32} {h g : zs_H} {w : Int32} (I : zv_I LC LM nb nf ns F q h g) (hb : 0 < nb) (hw : zt_nr LC LM (nI c) w) (hc : c < 6000) :
    (41 ≤ c ∧ c < 50 ∧ (h.2.1 36) c = nI (c - 41) ∧ f_Mo_wordOf_s10 g w = some (nI (c - 41)) ∧ (h.2.1 21) (c - 41) = 0 ∧ f_Mo_blockNamed g w (nI (nb - 1)) = some (-1)) ∨
    (∃ b kd, b < nb - 1 ∧ (h.2.1 36) c = nI (9 + b) ∧ f_Mo_wordOf_s10 g w = some (-1) ∧ f_Mo_blockNamed g w (nI (nb - 1)) = some (nI b) ∧ (kd = 1 ∨ kd = 2) ∧ (h.2.1 21) (9 + b) = nI kd ∧ (g.2.1 86) b = nI kd) ∨
    (((h.2.1 36) c = -1 ∨ (h.2.1 36) c = nI (8 + nb)) ∧ f_Mo_wordOf_s10 g w = some (-1) ∧ f_Mo_blockNamed g w (nI (nb - 1)) = some (-1)) := by
  obtain ⟨HS, HB, _, _, _, _, _, _, _⟩ := I
  have h1 := zv_bn (bd := nb - 1) HS HB (by omega) hc hw
  have h2 := zv_wB HS hw hc
  obtain ⟨⟨B1, B2, B3⟩, ⟨V1, V2, V3⟩, B4, BF, B5, B6, B7, B8, B9, B10⟩ := HB
  by_cases c1 : 41 ≤ c ∧ c < 50
  · have e := B9 c c1.1 c1.2
    rw [if_pos c1] at h2
    refine .inl ⟨c1.1, c1.2, e, h2, (B4.1 _ (by omega)).1, ?_⟩
    rcases h1 with ⟨b, y1, y2, _⟩ | ⟨y, _⟩
    · rw [e] at y2; have := (nI_eq (by omega) (by omega)).mp y2; omega
    · exact y
  · rw [if_neg c1] at h2
    rcases h1 with ⟨b, y1, y2, y3⟩ | ⟨y1, y2⟩
    · obtain ⟨kd, e1, e2, e3, e4⟩ := B5 b (by omega)
      have n3 : ¬ kd = 3 := fun z => by have := e4 z; omega
      exact .inr (.inl ⟨b, kd, y1, y2, h2, y3, by rcases e1 with e | e | e <;> first | exact .inl e | exact .inr e | exact absurd e n3, e2, e3⟩)
    · refine .inr (.inr ⟨?_, h2, y1⟩)
      rcases B8 c hc with z | ⟨z1, z2, _⟩ | ⟨b, z1, z2, _⟩
      · exact .inl z
      · exact absurd ⟨z1, z2⟩ c1
      · by_cases eb : b = nb - 1
        · rw [z2, eb]; exact .inr (by rw [show 9 + (nb - 1) = 8 + nb by omega])
        · exact absurd z2 (y2 b (by omega))
/-- 17 -/
theorem zv_btype {LC LM : List (List Int32)} {nb nf ns i k c : Nat} {F : Nat → Nat} {q w : Int32} {h g : zs_H} (I : zv_I LC LM nb nf ns F q h g) (hb : 0 < nb) (hi : i < 32784) (hk : k < 33500) (hw : zt_nr LC LM (nI c) w) (hc : c < 6000) (c1 : (h.2.1 16) i = nI c) (m1 : (g.2.1 72) k = 10) (m2 : (g.2.1 74) k = w) :
    ∃ h' g', f_Jd_judgeBlockType h (nI i) = some h' ∧ f_Mo_lookAtBlocks g (nI k) = some g' ∧ ((h' = h ∧ g' = g ∧ ¬ (h.2.1 21) (8 + nb) = 1 ∧ ∃ B, B < 8 + nb ∧ (h.2.1 36) c = nI B ∧ (9 ≤ B → (h.2.1 21) B = 2) ∧ f_Mo_blockOf g w = some (nI (if B < 9 then 100000 + B else B - 9))) ∨ zv_Y 17 i k h g h' g') := by
  obtain ⟨kd, k1, k2, k3, k4, k5, k6⟩ := zv_cur I hb
  have hbl := zv_blk I hb hw hc
  obtain ⟨_, _, _, _, _, _, _, J1, J2⟩ := I
  have hk4 : kd < 2147483648 := by rcases k1 with e | e | e <;> rw [e] <;> decide
  have ck : (nI k).toNatClampNeg = k := nI_clamp (by omega)
  have ci : (nI i).toNatClampNeg = i := nI_clamp (by omega)
  have cc : (nI c).toNatClampNeg = c := nI_clamp (by omega)
  have cn : (nI (8 + nb)).toNatClampNeg = 8 + nb := nI_clamp (by omega)
  have hik : zd_in (nI k) 33500 := zi_in (by omega) hk
  have hii : zd_in (nI i) 32784 := zi_in (by omega) hi
  have hic : zd_in (nI c) 6000 := zi_in (by omega) hc
  have hin : zd_in (nI (8 + nb)) 629 := zi_in (by omega) (by omega)
  have hib : zd_in (nI (nb - 1)) 2100 := zi_in (by omega) (by omega)
  have cb : (nI (nb - 1)).toNatClampNeg = nb - 1 := nI_clamp (by omega)
  have e1 : (nI kd = 1) ↔ kd = 1 := zc_eq (k := 1) (by decide) hk4
  have eM0 : f_Mo_lookAtBlocks g (nI k) = (f_Mo_blockNamed g w (nI (nb - 1))).bind fun v45 => (if kd = 1 then f_Mo_rule g 1 17 (nI k) else ((f_Mo_wordOf_s10 g w).bind fun v49 => (if 0 ≤ v49 then f_Mo_rule g 0 17 (nI k) else (if v45 < 0 then f_Mo_rule g 1 17 (nI k) else (if zd_in v45 2100 then (if ((g.2.1 86) v45.toNatClampNeg) = 2 then f_Mo_rule g 0 17 (nI k) else f_Mo_rule g 1 17 (nI k)) else none))))) := by
    unfold f_Mo_lookAtBlocks f_Mo_lookAtBlocks_330 f_Mo_lookAtBlocks_334 f_Mo_lookAtBlocks_335
    simp only [if_pos hik, ck, m1, m2, show ¬ (10 : Int32) = 0 by decide, show ¬ (10 : Int32) = 1 by decide, show ¬ (10 : Int32) = 2 by decide, show ¬ (10 : Int32) = 3 by decide, show ¬ (10 : Int32) = 4 by decide, show ¬ (10 : Int32) = 5 by decide, show ¬ (10 : Int32) = 6 by decide, show ¬ (10 : Int32) = 7 by decide, show ¬ (10 : Int32) = 8 by decide, show ¬ (10 : Int32) = 9 by decide, if_false, if_true, k5, if_pos hib, cb, k3, e1, Option.bind_fun_some]
  have eC0 : f_Jd_judgeBlockType h (nI i) = if (h.2.1 36) c = -1 then f_Jd_refuseIf h 1 17 (nI i) else if (h.2.1 36) c = nI (8 + nb) then f_Jd_refuseIf h 1 17 (nI i) else if zd_in ((h.2.1 36) c) 629 then (if (h.2.1 21) ((h.2.1 36) c).toNatClampNeg = 0 ∨ (h.2.1 21) ((h.2.1 36) c).toNatClampNeg = 2 then f_Jd_refuseIf h (if kd = 1 then 1 else 0) 17 (nI i) else f_Jd_refuseIf h 1 17 (nI i)) else none := by
    unfold f_Jd_judgeBlockType f_Jd_judgeBlockType_60 f_Jd_judgeBlockType_56 f_Jd_judgeBlockType_61 f_Jd_judgeBlockType_83 f_Jd_judgeBlockType_88
    simp only [if_pos hii, ci, c1, if_pos hic, cc, k4, if_pos hin, cn, k2, e1, Option.bind_fun_some, if_true, show ¬ (1 : Int32) = 0 by decide, if_false]
    by_cases x1 : kd = 1
    · simp only [x1, if_true]
      by_cases y0 : (h.2.1 21) ((h.2.1 36) c).toNatClampNeg = 0 <;> by_cases y2 : (h.2.1 21) ((h.2.1 36) c).toNatClampNeg = 2 <;> simp only [y0, y2, if_true, if_false, or_true, true_or, or_self, ite_self]
    · simp only [x1, if_false]
      by_cases y0 : (h.2.1 21) ((h.2.1 36) c).toNatClampNeg = 0 <;> by_cases y2 : (h.2.1 21) ((h.2.1 36) c).toNatClampNeg = 2 <;> simp only [y0, y2, if_true, if_false, or_true, true_or, or_self, ite_self]
  have bad : ∃ h' g', f_Jd_refuseIf h 1 17 (nI i) = some h' ∧ f_Mo_rule g 1 17 (nI k) = some g' ∧ zv_Y 17 i k h g h' g' := ⟨_, _, zv_ref1 (φ := 17) (by decide) J1 hi, zv_rule1 (φ := 17) (by decide) J2 hk, rfl, rfl⟩
  obtain ⟨h2, g2, b1, b2, b3⟩ := bad
  rw [eC0, eM0]
  rcases hbl with ⟨x1, x2, x3, x4, x5, x6⟩ | ⟨b, kd', x1, x2, x3, x4, x5, x6, x7⟩ | ⟨x1, x2, x3⟩
  · rw [x3, if_neg (zc_m1 (by omega)), if_neg (fun z => by have := (nI_eq (by omega) (by omega)).mp z; omega), if_pos (zi_in (by omega) (by omega)), nI_clamp (by omega), x5, if_pos (.inl rfl), x6, Option.bind_some, x4, Option.bind_some, if_pos ((zc_le (k := 0) (by decide) (by omega)).mpr (by omega))]
    by_cases y : kd = 1
    · rw [if_pos y, if_pos y]; exact ⟨h2, g2, b1, b2, .inr b3⟩
    · rw [if_neg y, if_neg y]
      refine ⟨h, g, zv_ref0, zv_rule0, .inl ⟨rfl, rfl, by rw [k2]; exact mt e1.mp y, c - 41, by omega, rfl, fun z => by omega, ?_⟩⟩
      unfold f_Mo_blockOf
      rw [x4, Option.bind_some, if_neg (mt (zc_tl (k := 0) (by decide) (by omega)).mp (by omega)), if_pos (by omega), show (100000 : Int32) + nI (c - 41) = nI (100000 + (c - 41)) from zc_da 100000 _]
  · have hk5 : kd' < 2147483648 := by rcases x5 with e | e <;> rw [e] <;> decide
    rw [x2, if_neg (zc_m1 (by omega)), if_neg (fun z => by have := (nI_eq (by omega) (by omega)).mp z; omega), if_pos (zi_in (by omega) (by omega)), nI_clamp (n := 9 + b) (by omega), x6, x4, Option.bind_some, x3, Option.bind_some, if_neg (show ¬ (0 : Int32) ≤ -1 by decide), if_neg (mt (zc_tl (k := 0) (by decide) (by omega)).mp (by omega)), if_pos (zi_in (by omega) (by omega)), nI_clamp (n := b) (by omega), x7]
    have z2 : (nI kd' = 2) ↔ kd' = 2 := zc_eq (k := 2) (by decide) hk5
    have z0 : ¬ nI kd' = 0 := fun z => by have := (zc_eq (k := 0) (by decide) hk5).mp z; omega
    by_cases y : kd = 1
    · rw [if_pos y, if_pos y]
      refine ⟨h2, g2, ?_, b2, .inr b3⟩
      split <;> exact b1
    · rw [if_neg y, if_neg y]
      by_cases y2 : kd' = 2
      · rw [if_pos (.inr (z2.mpr y2)), if_pos (z2.mpr y2)]
        refine ⟨h, g, zv_ref0, zv_rule0, .inl ⟨rfl, rfl, by rw [k2]; exact mt e1.mp y, 9 + b, by omega, rfl, fun _ => by rw [x6, y2]; rfl, ?_⟩⟩
        unfold f_Mo_blockOf
        rw [x3, Option.bind_some, if_pos (by decide), k5, x4, Option.bind_some, if_neg (by omega), show 9 + b - 9 = b by omega]
      · rw [if_neg (fun z => z.elim z0 (fun z => y2 (z2.mp z))), if_neg (mt z2.mp y2)]
        exact ⟨h2, g2, b1, b2, .inr b3⟩
  · rw [x3, Option.bind_some, x2, Option.bind_some, if_neg (show ¬ (0 : Int32) ≤ -1 by decide), if_pos (show (-1 : Int32) < 0 by decide)]
    refine ⟨h2, g2, ?_, by split <;> exact b2, .inr b3⟩
    rcases x1 with x1 | x1
    · rw [if_pos x1]; exact b1
    · rw [x1, if_neg (zc_m1 (by omega)), if_pos rfl]; exact b1
/-- 16 -/
theorem zv_array {LC LM : List (List Int32)} {nb nf ns i k i1 i2 k1 k2 a1 a2 : Nat} {F : Nat → Nat} {q v1 v2 : Int32} {h g : zs_H} (I : zv_I LC LM nb nf ns F q h g) (hb : 0 < nb) (hi : i < 32784) (hk : k < 33500) (hi1 : i1 < 32784) (hi2 : i2 < 32784) (hk1 : k1 < 33500) (hk2 : k2 < 33500) (ha1 : a1 < 100) (ha2 : a2 < 100) (c1 : (h.2.1 17) i = nI i1) (c2 : (h.2.1 18) i1 = nI i2) (c3 : (h.2.1 13) i1 = nI a1) (c4 : (h.2.1 13) i2 = nI a2) (c5 : (h.2.1 16) i1 = v1) (c6 : (h.2.1 16) i2 = v2) (m0 : (g.2.1 72) k = 9) (m1 : (g.2.1 76) k = nI k1) (m2 : (g.2.1 78) k1 = nI k2) (m3 : (g.2.1 72) k1 = nI a1) (m4 : (g.2.1 72) k2 = nI a2) (m5 : (g.2.1 74) k1 = v1) (m6 : (g.2.1 74) k2 = v2) :
    ∃ h' g', f_Jd_judgeArray h (nI i) = some h' ∧ f_Mo_lookAtBlocks g (nI k) = some g' ∧ ((h' = h ∧ g' = g ∧ ¬ a1 = 31 ∧ ¬ a2 = 31 ∧ ¬ v2.toInt64 - v1.toInt64 < 0 ∧ v2.toInt64 - v1.toInt64 ≤ 255) ∨ zv_Y 16 i k h g h' g') := by
  obtain ⟨kd, y1, y2, y3, y4, y5, y6⟩ := zv_cur I hb
  obtain ⟨_, _, _, _, _, _, _, J1, J2⟩ := I
  have hk4 : kd < 2147483648 := by rcases y1 with e | e | e <;> rw [e] <;> decide
  have ck : (nI k).toNatClampNeg = k := nI_clamp (by omega)
  have ci : (nI i).toNatClampNeg = i := nI_clamp (by omega)
  have ci1 : (nI i1).toNatClampNeg = i1 := nI_clamp (by omega)
  have ci2 : (nI i2).toNatClampNeg = i2 := nI_clamp (by omega)
  have ck1 : (nI k1).toNatClampNeg = k1 := nI_clamp (by omega)
  have ck2 : (nI k2).toNatClampNeg = k2 := nI_clamp (by omega)
  have cn : (nI (8 + nb)).toNatClampNeg = 8 + nb := nI_clamp (by omega)
  have hik : zd_in (nI k) 33500 := zi_in (by omega) hk
  have hii : zd_in (nI i) 32784 := zi_in (by omega) hi
  have hi1' : zd_in (nI i1) 32784 := zi_in (by omega) hi1
  have hi2' : zd_in (nI i2) 32784 := zi_in (by omega) hi2
  have hk1' : zd_in (nI k1) 33500 := zi_in (by omega) hk1
  have hk2' : zd_in (nI k2) 33500 := zi_in (by omega) hk2
  have hin : zd_in (nI (8 + nb)) 629 := zi_in (by omega) (by omega)
  have hib : zd_in (nI (nb - 1)) 2100 := zi_in (by omega) (by omega)
  have cb : (nI (nb - 1)).toNatClampNeg = nb - 1 := nI_clamp (by omega)
  have e1 : (nI kd = 1) ↔ kd = 1 := zc_eq (k := 1) (by decide) hk4
  have ea1 : (nI a1 = 31) ↔ a1 = 31 := zc_eq (k := 31) (by decide) (by omega)
  have ea2 : (nI a2 = 31) ↔ a2 = 31 := zc_eq (k := 31) (by decide) (by omega)
  have e64 := zv_64 v1 v2
  obtain ⟨h', g', r1, r2, r3⟩ := zv_both (φ := 16) (i := i) (k := k) (kd = 1 ∨ a1 = 31 ∨ a2 = 31 ∨ v2.toInt64 - v1.toInt64 < 0 ∨ ¬ v2.toInt64 - v1.toInt64 ≤ 255) J1 J2 hi hk
  refine ⟨h', g', ?_, ?_, ?_⟩
  · rw [← r1]
    unfold f_Jd_judgeArray f_Jd_judgeArray_47 f_Jd_judgeArray_52 f_Jd_judgeArray_100 f_Jd_judgeArray_105 f_Jd_judgeArray_129 f_Jd_judgeArray_134 f_Tr_second
    simp only [if_pos hii, ci, c1, if_neg (zc_m1 (show i1 < 2147483648 by omega)), if_pos hi1', ci1, c2, Option.bind_some, c3, ea1, if_pos hi2', ci2, c4, ea2, y4, if_pos hin, cn, y2, e1, c5, c6, Option.bind_fun_some, e64.1, e64.2, show ¬ (1 : Int32) = 0 by decide, if_false, if_true]
    by_cases x1 : kd = 1 <;> by_cases x2 : a1 = 31 <;> by_cases x3 : a2 = 31 <;> by_cases x4 : v2.toInt64 - v1.toInt64 < 0 <;> by_cases x5 : v2.toInt64 - v1.toInt64 ≤ 255 <;> simp only [x1, x2, x3, x4, x5, if_true, if_false, true_or, or_true, not_true, not_false_iff, or_self, or_false] <;> rfl
  · rw [← r2]
    unfold f_Mo_lookAtBlocks f_Mo_lookAtArray f_Mo_lookAtArray_49 f_Mo_lookAtArray_54 f_Mo_lookAtArray_104 f_Mo_lookAtArray_109
    simp only [if_pos hik, ck, m0, m1, m2, m3, m4, m5, m6, if_pos hk1', if_pos hk2', ck1, ck2, ea1, ea2, show ¬ (9 : Int32) = 0 by decide, show ¬ (9 : Int32) = 1 by decide, show ¬ (9 : Int32) = 2 by decide, show ¬ (9 : Int32) = 3 by decide, show ¬ (9 : Int32) = 4 by decide, show ¬ (9 : Int32) = 5 by decide, show ¬ (9 : Int32) = 6 by decide, show ¬ (9 : Int32) = 7 by decide, show ¬ (9 : Int32) = 8 by decide, show ¬ (1 : Int32) = 0 by decide, if_false, if_true, y5, if_pos hib, cb, y3, e1, Option.bind_fun_some]
    by_cases x1 : kd = 1 <;> by_cases x2 : a1 = 31 <;> by_cases x3 : a2 = 31 <;> by_cases x4 : v2.toInt64 - v1.toInt64 < 0 <;> by_cases x5 : v2.toInt64 - v1.toInt64 ≤ 255 <;> simp only [x1, x2, x3, x4, x5, if_true, if_false, true_or, or_true, not_true, not_false_iff, or_self, or_false] <;> rfl
  · rcases r3 with ⟨x, e1, e2⟩ | ⟨_, e⟩
    · exact .inl ⟨e1, e2, fun z => x (.inr (.inl z)), fun z => x (.inr (.inr (.inl z))), fun z => x (.inr (.inr (.inr (.inl z)))), Classical.byContradiction fun z => x (.inr (.inr (.inr (.inr z))))⟩
    · exact .inr e
