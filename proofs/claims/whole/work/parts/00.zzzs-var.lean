/-! The judge: the variable that a node names (20, 21). -/
theorem zv_nar3 {t : Nat} (h : t < 3) : vp_nar .byte ((nI t).toInt8.toInt32) = nI t := by
  have : t = 0 ∨ t = 1 ∨ t = 2 := by omega
  rcases this with e | e | e <;> subst e <;> rfl
/-- a fault in the class, in the model -/
def zv_rf (φ i : Nat) (h : zs_H) : zs_H := zs_uF (zs_uF h 38 3 (nI φ)) 38 0 ((h.2.1 15) i)
def zv_ru (φ k : Nat) (g : zs_H) : zs_H := zs_uF (zs_uF g 68 29 (nI φ)) 68 30 ((g.2.1 73) k)
theorem zv_rff {φ i : Nat} {h : zs_H} (h1 : 0 < φ) (h2 : φ < 1000) : ¬ ((zv_rf φ i h).1 38 3) = 0 := by
  show ¬ nI φ = 0
  exact fun z => by have := (zc_eq (k := 0) (by decide) (by omega)).mp z; omega
theorem zv_ruf {φ k : Nat} {g : zs_H} (h1 : 0 < φ) (h2 : φ < 1000) : ¬ ((zv_ru φ k g).1 68 29) = 0 := by
  show ¬ nI φ = 0
  exact fun z => by have := (zc_eq (k := 0) (by decide) (by omega)).mp z; omega
theorem zv_ruf0 {φ k : Nat} {g : zs_H} (h1 : 0 < φ) (h2 : φ < 1000) : ¬ ((zv_ru φ k g).1 68 29) ≤ 0 := by
  show ¬ nI φ ≤ 0
  exact fun z => by have := (zc_el (k := 0) (by decide) (by omega)).mp z; omega
theorem zv_yy {φ i k : Nat} {h g : zs_H} : zv_Y φ i k h g (zv_rf φ i h) (zv_ru φ k g) := ⟨rfl, rfl⟩
/-- a name in the block here: none, or a variable -/
theorem zv_vCase {LC LM : List (List Int32)} {nb nf c : Nat} {F : Nat → Nat} {q : Int32} {h g : zs_H} {w : Int32} (I : zv_I LC LM nb nf (F nb) F q h g) (hb : 0 < nb) (hc : c < 6000) (hw : zt_nr LC LM (nI c) w) :
    (f_Pl_variableHere h (nI c) = some (-1) ∧ f_Mo_variable g ((g.1 68 54)) w = some (-1)) ∨
    (∃ v ins so, F (nb - 1) ≤ v ∧ v < F nb ∧ v < 5900 ∧ f_Pl_variableHere h (nI c) = some (nI (32 + v)) ∧ f_Mo_variable g ((g.1 68 54)) w = some (nI v) ∧ (h.2.1 30) (32 + v) = ins ∧ (g.2.1 92) v = nI so ∧ so < 3 ∧ (so = 0 ↔ ins = -1) ∧ (so = 1 ↔ ins = -2) ∧ (so = 2 ↔ 0 ≤ ins) ∧ zv_Q (nb - 1) v h g) := by
  obtain ⟨HS, HB, HN, HV, HC, HT, HJ, J1, J2⟩ := I
  have hz := zv_here HS HB HN hb hc hw
  have V3 : F nb ≤ 5900 := HB.2.1.2.2
  have B3 : nb ≤ 568 := HB.1.2.2
  rw [(HJ hb).2]
  rcases hz with ⟨v, v1, v2, v3, v4, v5⟩ | ⟨z1, z2, _⟩
  · right
    have Q := HV.2.1 (nb - 1) v (by omega) v1 (by rw [show nb - 1 + 1 = nb by omega]; exact v2) v2
    have Q0 := Q
    obtain ⟨ty, x, s, y, _, _, _, _, _, _, _, q8, _⟩ := Q
    rcases q8 with ⟨e1, e2, _⟩ | ⟨e1, e2, _⟩ | ⟨B, b1, e1, e2, _⟩
    · exact ⟨v, -1, 0, v1, v2, by omega, v4, v5, e1, e2, by omega, by decide, by decide, by decide, Q0⟩
    · exact ⟨v, -2, 1, v1, v2, by omega, v4, v5, e1, e2, by omega, by decide, by decide, by decide, Q0⟩
    · have m1 : ¬ nI B = -1 := zc_m1 (by omega)
      have m2 : ¬ nI B = -2 := fun z => by
        have := (zc_tl (k := 0) (by decide) (show B < 2147483648 by omega)).mp (by rw [z]; decide)
        omega
      have m3 : (0 : Int32) ≤ nI B := (zc_le (k := 0) (by decide) (by omega)).mpr (Nat.zero_le _)
      refine ⟨v, nI B, 2, v1, v2, by omega, v4, v5, e1, e2, by omega, ⟨fun z => by omega, fun z => absurd z m1⟩, ⟨fun z => by omega, fun z => absurd z m2⟩, ⟨fun _ => m3, fun _ => rfl⟩, Q0⟩
  · exact .inl ⟨z1, z2⟩
section ZVV
variable {h g : zs_H} {i k c v : Nat} {form ins : Int32}
theorem zv_vaC0 (hi : i < 32784) (c1 : (h.2.1 16) i = nI c) (J1 : (h.1 38 3) = 0) (hv : f_Pl_variableHere h (nI c) = some (-1)) : f_Jd_variableAt h (nI i) form = some (-1, zv_rf 20 i h) := by
  unfold f_Jd_variableAt f_Jd_variableAt_28
  rw [if_pos (zi_in (by omega) hi), nI_clamp (by omega), c1, hv, Option.bind_some, if_pos rfl, show (20 : Int32) = nI 20 from rfl, zv_ref1 (by decide) J1 hi, Option.bind_some]
  exact if_neg (zv_rff (φ := 20) (i := i) (h := h) (by decide) (by decide))
theorem zv_vaC1 (hi : i < 32784) (c1 : (h.2.1 16) i = nI c) (J1 : (h.1 38 3) = 0) (hv : f_Pl_variableHere h (nI c) = some (nI (32 + v))) (hv2 : v < 5900) (hin : (h.2.1 30) (32 + v) = ins) : f_Jd_variableAt h (nI i) form = some (nI (32 + v), if (if 0 ≤ form then 0 ≤ ins else ins = form) then h else zv_rf 21 i h) := by
  unfold f_Jd_variableAt f_Jd_variableAt_28 f_Jd_variableAt_81
  rw [if_pos (zi_in (by omega) hi), nI_clamp (by omega), c1, hv, Option.bind_some, if_neg (zc_m1 (by omega)), zv_ref0, Option.bind_some, if_pos J1, if_pos (zi_in (by omega) (by omega)), nI_clamp (by omega), hin]
  by_cases z : 0 ≤ form
  · simp only [z, if_true]
    by_cases z2 : 0 ≤ ins
    · simp only [z2, if_true, zv_ref0, Option.bind_some]
    · simp only [z2, if_false]
      rw [show (21 : Int32) = nI 21 from rfl, zv_ref1 (by decide) J1 hi, Option.bind_some]; rfl
  · simp only [z, if_false]
    by_cases z2 : ins = form
    · simp only [z2, if_true, zv_ref0, Option.bind_some]
    · simp only [z2, if_false]
      rw [show (21 : Int32) = nI 21 from rfl, zv_ref1 (by decide) J1 hi, Option.bind_some]; rfl
theorem zv_vaC1n (hf : ¬ 0 ≤ form) (hi : i < 32784) (c1 : (h.2.1 16) i = nI c) (J1 : (h.1 38 3) = 0) (hv : f_Pl_variableHere h (nI c) = some (nI (32 + v))) (hv2 : v < 5900) (hin : (h.2.1 30) (32 + v) = ins) : f_Jd_variableAt h (nI i) form = some (nI (32 + v), if ins = form then h else zv_rf 21 i h) := by
  rw [zv_vaC1 hi c1 J1 hv hv2 hin]
  simp only [hf, if_false]
theorem zv_vaC1p (hf : 0 ≤ form) (hi : i < 32784) (c1 : (h.2.1 16) i = nI c) (J1 : (h.1 38 3) = 0) (hv : f_Pl_variableHere h (nI c) = some (nI (32 + v))) (hv2 : v < 5900) (hin : (h.2.1 30) (32 + v) = ins) : f_Jd_variableAt h (nI i) form = some (nI (32 + v), if 0 ≤ ins then h else zv_rf 21 i h) := by
  rw [zv_vaC1 hi c1 J1 hv hv2 hin]
  simp only [hf, if_true]
theorem zv_jvF {x kd : Int32} {hf : zs_H} (e : f_Jd_variableAt h (nI i) form = some (x, hf)) (n : ¬ (hf.1 38 3) = 0) : f_Jd_judgeVariable_32 h (nI i) kd form = some hf := by
  unfold f_Jd_judgeVariable_32
  rw [e]
  show (if (hf.1 38 3) = 0 then _ else some hf) = _
  rw [if_neg n]
theorem zv_neg {v : Nat} (h : v < 2147483648) : (0 : Int32) ≤ nI v ∧ ¬ nI v < 0 := ⟨(zc_le (k := 0) (by decide) (by omega)).mpr (Nat.zero_le _), mt (zc_tl (k := 0) (by decide) h).mp (by omega)⟩
end ZVV
/-- a simple variable is named (20, 21) -/
theorem zv_nameE {LC LM : List (List Int32)} {nb nf i k c up ku : Nat} {F : Nat → Nat} {q w : Int32} {h g : zs_H} (I : zv_I LC LM nb nf (F nb) F q h g) (hb : 0 < nb) (hi : i < 32784) (hk : k < 33500) (hc : c < 6000) (hw : zt_nr LC LM (nI c) w) (c0 : (h.2.1 13) i = 6) (c1 : (h.2.1 16) i = nI c) (m0 : (g.2.1 72) k = 6) (m1 : (g.2.1 74) k = w) (m2 : (g.2.1 75) k = nI up) (hup : up < 33500) (m3 : (g.2.1 72) up = nI ku) (hku : ku < 100) (h5 : ¬ ku = 5) (h33 : ¬ ku = 33) :
    ∃ h' g', f_Jd_judgeVariable h (nI i) = some h' ∧ f_Mo_lookAtBlocks g (nI k) = some g' ∧ ((∃ φ, 0 < φ ∧ φ < 1000 ∧ zv_Y φ i k h g h' g') ∨ (∃ v ty x, F (nb - 1) ≤ v ∧ v < F nb ∧ ty < 3 ∧ h' = zs_uM (zs_uM h 16 i (nI (32 + v))) 14 i (nI ty) ∧ g' = zs_uM (zs_uM g 100 k (nI ty)) 101 k (nI x) ∧ f_Mo_variable g ((g.1 68 54)) w = some (nI v) ∧ (g.2.1 92) v = 0 ∧ (g.2.1 93) v = nI ty ∧ (g.2.1 94) v = nI x ∧ (h.2.1 32) (32 + v) = nI x ∧ (h.2.1 31) (32 + v) = nI ty)) := by
  have J1 : (h.1 38 3) = 0 := I.2.2.2.2.2.2.2.1
  have J2 : (g.1 68 29) = 0 := I.2.2.2.2.2.2.2.2
  have eM : f_Mo_lookAtBlocks g (nI k) = f_Mo_lookAtName g (nI k) := by
    unfold f_Mo_lookAtBlocks
    simp (config := { decide := true }) only [if_pos (zi_in (show k < 2147483648 by omega) hk), nI_clamp (show k < 2147483648 by omega), m0, if_false, if_true, Option.bind_fun_some]
  have eM2 : f_Mo_lookAtName g (nI k) = (f_Mo_variable g ((g.1 68 54)) w).bind fun v6 => (if 0 ≤ v6 then f_Mo_lookAtName_132 g (nI k) v6 0 else f_Mo_lookAtName_132 g (nI k) v6 1) := by
    unfold f_Mo_lookAtName
    rw [if_pos (zi_in (by omega) hk), nI_clamp (by omega), m2, if_pos (zi_in (by omega) hup), nI_clamp (by omega), m3, if_neg (fun z => h5 ((zc_eq (k := 5) (by decide) (by omega)).mp z)), if_neg (fun z => h33 ((zc_eq (k := 33) (by decide) (by omega)).mp z)), m1]
  have eC : f_Jd_judgeVariable h (nI i) = f_Jd_judgeVariable_32 h (nI i) 6 (-1) := by
    unfold f_Jd_judgeVariable
    rw [if_pos (zi_in (by omega) hi), nI_clamp (by omega), c0, if_pos rfl]
  rcases zv_vCase I hb hc hw with ⟨z1, z2⟩ | ⟨v, ins, so, v1, v2, v3, v4, v5, v6, v7, v8, s0, s1, s2, Q⟩
  · have b1 : f_Mo_lookAtName g (nI k) = some (zv_ru 20 k g) := by
      rw [eM2, z2, Option.bind_some, if_neg (by decide)]
      unfold f_Mo_lookAtName_132 f_Mo_lookAtName_156 f_Mo_lookAtName_157
      rw [show (20 : Int32) = nI 20 from rfl, zv_rule1 (by decide) J2 hk, Option.bind_some, if_pos (by decide), zv_rule0, Option.bind_some]
      show (if ((zv_ru 20 k g).1 68 29) = 0 then _ else some (zv_ru 20 k g)) = _
      rw [if_neg (zv_ruf (φ := 20) (k := k) (g := g) (by decide) (by decide))]
    exact ⟨zv_rf 20 i h, zv_ru 20 k g, eC.trans (zv_jvF (zv_vaC0 hi c1 J1 z1) (zv_rff (by decide) (by decide))), eM.trans b1, .inl ⟨20, by decide, by decide, zv_yy⟩⟩
  · have eM3 : f_Mo_lookAtName g (nI k) = if so = 0 then f_Mo_lookAtName_157 g (nI k) (nI v) 0 else f_Mo_lookAtName_157 g (nI k) (nI v) 1 := by
      rw [eM2, v5, Option.bind_some, if_pos (zv_neg (show v < 2147483648 by omega)).1]
      unfold f_Mo_lookAtName_132 f_Mo_lookAtName_156
      rw [zv_rule0, Option.bind_some, if_neg (zv_neg (show v < 2147483648 by omega)).2, if_pos (zi_in (by omega) (by omega)), nI_clamp (show v < 2147483648 by omega)]
      simp only [v7, show (nI so = 0) ↔ so = 0 from zc_eq (k := 0) (by decide) (by omega)]
    by_cases z : so = 0
    · have zi : ins = -1 := s0.mp z
      subst z
      have eV := zv_vaC1n (form := -1) (by decide) hi c1 J1 v4 v3 v6
      rw [if_pos zi] at eV
      obtain ⟨ty, x, s, y, ⟨t1, t2⟩, ⟨x1, x2⟩, _, _, _, _, _, q8, _⟩ := Q
      have q8' : (g.2.1 93) v = nI ty := by
        rcases q8 with ⟨_, _, e, _⟩ | ⟨_, e, _⟩ | ⟨B, _, _, e, _⟩
        · exact e
        · rw [v7] at e; exact absurd e (by decide)
        · rw [v7] at e; exact absurd e (by decide)
      refine ⟨zs_uM (zs_uM h 16 i (nI (32 + v))) 14 i (nI ty), zs_uM (zs_uM g 100 k (nI ty)) 101 k (nI x), ?_, ?_, .inr ⟨v, ty, x, v1, v2, t1, rfl, rfl, v5, v7, q8', x2, x1, t2⟩⟩
      · rw [eC]
        unfold f_Jd_judgeVariable_32
        rw [eV]
        show (if (h.1 38 3) = 0 then _ else _) = _
        rw [if_pos J1, if_pos (zi_in (by omega) hi), if_pos (zi_in (by omega) (by omega)), if_neg (by decide), nI_clamp (show i < 2147483648 by omega), nI_clamp (show 32 + v < 2147483648 by omega), t2, zv_nar3 t1]
        unfold f_Jd_judgeVariable_122
        rw [if_neg (by decide)]
      · rw [eM, eM3, if_pos rfl]
        unfold f_Mo_lookAtName_157
        rw [zv_rule0, Option.bind_some, if_pos J2, if_pos (zi_in (by omega) (by omega)), if_pos (zi_in (by omega) hk), nI_clamp (show v < 2147483648 by omega), nI_clamp (show k < 2147483648 by omega), q8', x2]
    · have zi : ¬ ins = -1 := fun u => z (s0.mpr u)
      have eV := zv_vaC1n (form := -1) (by decide) hi c1 J1 v4 v3 v6
      rw [if_neg zi] at eV
      refine ⟨zv_rf 21 i h, zv_ru 21 k g, eC.trans (zv_jvF eV (zv_rff (by decide) (by decide))), ?_, .inl ⟨21, by decide, by decide, zv_yy⟩⟩
      rw [eM, eM3, if_neg z]
      unfold f_Mo_lookAtName_157
      rw [show (21 : Int32) = nI 21 from rfl, zv_rule1 (by decide) J2 hk, Option.bind_some]
      show (if ((zv_ru 21 k g).1 68 29) = 0 then _ else some (zv_ru 21 k g)) = _
      rw [if_neg (zv_ruf (φ := 21) (k := k) (g := g) (by decide) (by decide))]
