section
/-! The judge: a call of a standard function. -/
section YE
variable {h : zs_H} {i : Nat}
/-- the arguments that there are -/
theorem ya_parts {l : List Nat} {x : Int32} {n : Nat} (hC : ya_C h i l x) (hl : l.length = n) (h1 : 1 ≤ n) (h3 : n ≤ 3) : ∃ a t1 x5 x6, x = nI a ∧ a < 32784 ∧ ¬ a = i ∧ (h.2.1 14) a = nI t1 ∧ t1 < 3 ∧ l.getD 0 1 = t1 ∧ x5 = (h.2.1 18) a ∧ x6 = (if x5 = -1 then -1 else (h.2.1 18) x5.toNatClampNeg) ∧ ya_ok h i (l.getD 1 1) x5 ∧ ya_ok h i (l.getD 2 1) x6 ∧ l.getD 1 1 < 3 ∧ l.getD 2 1 < 3 ∧ (3 ≤ n → ∃ b, x5 = nI b ∧ b < 32784 ∧ x6 = (h.2.1 18) b) ∧ (n < 3 → x6 = -1) ∧ ∃ t2 t3, t2 < 3 ∧ t3 < 3 ∧ l = [t1, t2, t3].take n := by
  cases l with
  | nil => exact absurd hl (by show ¬ 0 = n; omega)
  | cons t1 l =>
    obtain ⟨a, a1, a2, a3, a4, a5, a6⟩ := hC
    cases l with
    | nil =>
      have e5 : (h.2.1 18) a = -1 := a6
      have en : n = 1 := hl.symm
      subst en
      exact ⟨a, t1, -1, -1, a3, a1, a2, a4, a5, rfl, e5.symm, by rw [if_pos rfl], .inl ⟨rfl, rfl⟩, .inl ⟨rfl, rfl⟩, by show 1 < 3; decide, by show 1 < 3; decide, fun z => by omega, fun _ => rfl, 1, 1, by decide, by decide, rfl⟩
    | cons t2 l =>
      obtain ⟨b, b1, b2, b3, b4, b5, b6⟩ := a6
      have n1 : ¬ nI b = -1 := zc_m1 (by omega)
      cases l with
      | nil =>
        have e6 : (h.2.1 18) b = -1 := b6
        have en : n = 2 := hl.symm
        subst en
        exact ⟨a, t1, nI b, -1, a3, a1, a2, a4, a5, rfl, b3.symm, by rw [if_neg n1, nI_clamp (show b < 2147483648 by omega), e6], .inr ⟨b, rfl, b1, b2, b4⟩, .inl ⟨rfl, rfl⟩, b5, by show 1 < 3; decide, fun z => by omega, fun _ => rfl, t2, 1, b5, by decide, rfl⟩
      | cons t3 l =>
        obtain ⟨d, d1, d2, d3, d4, d5, d6⟩ := b6
        cases l with
        | nil =>
          have en : n = 3 := hl.symm
          subst en
          exact ⟨a, t1, nI b, nI d, a3, a1, a2, a4, a5, rfl, b3.symm, by rw [if_neg n1, nI_clamp (show b < 2147483648 by omega), d3], .inr ⟨b, rfl, b1, b2, b4⟩, .inr ⟨d, rfl, d1, d2, d4⟩, b5, d5, fun _ => ⟨b, rfl, b1, d3.symm⟩, fun z => by omega, t2, t3, b5, d5, rfl⟩
        | cons t4 l => exact absurd hl (by show ¬ l.length + 1 + 1 + 1 + 1 = n; omega)
end YE
theorem ya_t1 {s : Nat} {x y z : Int32} (q : s = 0 ∨ s = 5 ∨ s = 6) (n : ¬ f_Jd_standardType (nI s) x y z = -1) : f_Jd_standardType (nI s) x y z = x := by
  unfold f_Jd_standardType at n ⊢
  rcases q with e | e | e <;> subst e
  · rw [if_pos (by decide)] at n ⊢
    by_cases k : x = 0
    · rw [if_pos k] at n; exact absurd rfl n
    · rw [if_neg k]
  · rw [if_neg (by decide), if_neg (by decide), if_pos (by decide)] at n ⊢
    by_cases k : f_Jd_wider x y = -1
    · rw [if_pos k] at n; exact absurd rfl n
    · rw [if_neg k]
  · rw [if_neg (by decide), if_neg (by decide), if_neg (by decide), if_pos (by decide)] at n ⊢
    by_cases k : f_Jd_wider x y = -1
    · rw [if_pos k] at n; exact absurd rfl n
    · rw [if_neg k]
/-- of a standard function that gives a BOOL -/
def yb_st (h : zs_H) (s ty : Nat) (x5 x6 : Int32) : Prop := ty = 0 → s = 9 ∨ (s = 4 ∧ ∀ b, b < 32784 → (x5 = nI b ∨ x6 = nI b) → (h.2.1 14) b = 0)
def ya_c6 (s t1 t2 t3 : Nat) : Bool := decide (s = 4) || decide (s = 9) || !decide (f_Jd_standardType (nI s) (nI t1) (nI t2) (nI t3) = 0)
def ya_c7 (t1 t2 t3 : Nat) : Bool := !decide (f_Jd_standardType (nI 4) (nI t1) (nI t2) (nI t3) = 0) || (decide (t2 = 0) && decide (t3 = 0))
theorem ya_T60 : ∀ s, s < 10 → ∀ t1, t1 < 3 → ∀ t2, t2 < 3 → ∀ t3, t3 < 3 → ya_c6 s t1 t2 t3 = true := by decide +kernel
theorem ya_T70 : ∀ t1, t1 < 3 → ∀ t2, t2 < 3 → ∀ t3, t3 < 3 → ya_c7 t1 t2 t3 = true := by decide +kernel
theorem ya_T6 (s : Nat) (hs : s < 10) (t1 : Nat) (h1 : t1 < 3) (t2 : Nat) (h2 : t2 < 3) (t3 : Nat) (h3 : t3 < 3) : s = 4 ∨ s = 9 ∨ ¬ f_Jd_standardType (nI s) (nI t1) (nI t2) (nI t3) = 0 := by
  have h := ya_T60 s hs t1 h1 t2 h2 t3 h3
  unfold ya_c6 at h
  simp only [Bool.or_eq_true, decide_eq_true_eq, Bool.not_eq_true', decide_eq_false_iff_not] at h
  rcases h with (h | h) | h
  · exact .inl h
  · exact .inr (.inl h)
  · exact .inr (.inr h)
theorem ya_T7 (t1 : Nat) (h1 : t1 < 3) (t2 : Nat) (h2 : t2 < 3) (t3 : Nat) (h3 : t3 < 3) (e : f_Jd_standardType (nI 4) (nI t1) (nI t2) (nI t3) = 0) : t2 = 0 ∧ t3 = 0 := by
  have h := ya_T70 t1 h1 t2 h2 t3 h3
  unfold ya_c7 at h
  simp only [Bool.or_eq_true, Bool.and_eq_true, decide_eq_true_eq, Bool.not_eq_true', decide_eq_false_iff_not] at h
  rcases h with h | h
  · exact absurd e h
  · exact h
theorem ya_mkst {h : zs_H} {i s ty t1 t2 t3 : Nat} {x5 x6 : Int32} (hs : s < 10) (h1 : t1 < 3) (h2 : t2 < 3) (h3 : t3 < 3) (hT : f_Jd_standardType (nI s) (nI t1) (nI t2) (nI t3) = nI ty) (o5 : ya_ok h i t2 x5) (o6 : ya_ok h i t3 x6) : yb_st h s ty x5 x6 := by
  intro e
  rw [e] at hT
  by_cases z9 : s = 9
  · exact .inl z9
  by_cases z4 : s = 4
  · right
    subst z4
    obtain ⟨e2, e3⟩ := ya_T7 t1 h1 t2 h2 t3 h3 hT
    have key : ∀ (x : Int32) (t b : Nat), t = 0 → ya_ok h i t x → b < 32784 → x = nI b → (h.2.1 14) b = 0 := by
      intro x t b e0 o hb ex
      rcases o with ⟨_, e1⟩ | ⟨a, a1, a2, _, a4⟩
      · omega
      · have : a = b := (nI_eq (by omega) (by omega)).mp (a1.symm.trans ex)
        rw [← this, a4, e0]; rfl
    exact ⟨rfl, fun b hb z => z.elim (key x5 t2 b e2 o5 hb) (key x6 t3 b e3 o6 hb)⟩
  · rcases ya_T6 s hs t1 h1 t2 h2 t3 h3 with q | q | q
    · exact absurd q z4
    · exact absurd q z9
    · exact absurd hT q
theorem zv_stdE {LC LM : List (List Int32)} {nb nf i k c sz : Nat} {F : Nat → Nat} {q w p : Int32} {h g : zs_H} {l : List Nat} (I : zv_I LC LM nb nf (F nb) F q h g) (hb : 0 < nb) (hi : i < 32784) (hk : k < 33500) (hc : c < 6000) (hw : zt_nr LC LM (nI c) w) (hsz : (h.1 12 6) = nI sz) (hs2 : sz < 40000) (hl : l.length ≤ sz) (hcF : 50 ≤ c ∧ c < 60) (c1 : (h.2.1 16) i = nI c) (c2 : (h.2.1 15) i = p) (c3 : ya_C h i l ((h.2.1 17) i)) (m0 : (g.2.1 72) k = 34) (m1 : (g.2.1 74) k = w) (m2 : (g.2.1 73) k = p) (m3 : ya_M g l ((g.2.1 76) k)) (m7 : ∀ t1 t2 t3, l = [t1, t2, t3] → ∃ kc, kc < 33500 ∧ (g.2.1 77) k = nI kc ∧ (g.2.1 100) kc = nI t3) :
    ∃ h' g', f_Jd_judgeCall h (nI i) = some h' ∧ f_Mo_lookAtExpressions g (nI k) = some g' ∧ (zv_Fb h g h' g' ∨ (∃ s ty a x5 x6, 50 + s = c ∧ s < 10 ∧ ty < 3 ∧ l.length = ya_ar s ∧ ((h.2.1 17) i = nI a ∧ a < 32784 ∧ ¬ a = i ∧ x5 = (h.2.1 18) a ∧ x6 = (if x5 = -1 then -1 else (h.2.1 18) x5.toNatClampNeg) ∧ (s = 0 ∨ s = 5 ∨ s = 6 → (h.2.1 14) a = nI ty) ∧ yb_st h s ty x5 x6) ∧ g' = zs_uM (zs_uM g 102 k (nI (100 + s))) 100 k (nI ty) ∧ ((∃ v, (ya_con h (nI a) ∧ ya_con h x5 ∧ ya_con h x6) ∧ f_Cd_standard (nI s) (nI ty) ((h.2.1 16) a) (ya_val h x5) (ya_val h x6) = some v ∧ h' = zv_fo i v (ya_h2 h i s ty)) ∨ (¬ (ya_con h (nI a) ∧ ya_con h x5 ∧ ya_con h x6) ∧ h' = ya_h2 h i s ty)))) := by
  have hzF := zF_big
  have J1 : (h.1 38 3) = 0 := I.2.2.2.2.2.2.2.1
  have J2 : (g.1 68 29) = 0 := I.2.2.2.2.2.2.2.2
  have hB3 : nb ≤ 568 := I.2.1.1.2.2
  have HJ := I.2.2.2.2.2.2.1 hb
  have hwf := zv_wF I.1 hw hc
  rw [if_pos hcF] at hwf
  obtain ⟨s, rfl⟩ : ∃ s, c = 50 + s := ⟨c - 50, by omega⟩
  rw [show 50 + s - 50 = s by omega] at hwf
  have hs : s < 10 := by omega
  obtain ⟨ar1, ar3⟩ := ya_T5 s hs
  have eC : f_Jd_judgeCall h (nI i) = f_Jd_judgeStandardCall h (nI i) (nI s) (nI l.length) := by
    unfold f_Jd_judgeCall
    rw [if_pos (zi_in (by omega) hi), nI_clamp (show i < 2147483648 by omega), c1]
    have := ya_cntC (i := i) (nm := nI (50 + s)) hsz (by omega) l ((h.2.1 17) i) 0 0 zF c3 (by omega) (by omega)
    rw [Nat.zero_add] at this
    refine this.trans ?_
    unfold f_Jd_judgeCall_65
    rw [zv_isF hc, if_pos hcF, if_neg (by decide), Option.bind_fun_some, show nI (50 + s) - 50 = nI s by rw [show (50 : Int32) = nI 50 from rfl, zi_sub (by omega), show 50 + s - 50 = s by omega]]
  -- the model up to the number of arguments
  have s0 : (nI s = 0) ↔ s = 0 := zc_eq (k := 0) (by decide) (by omega)
  have s3 : (nI s = 3) ↔ s = 3 := zc_eq (k := 3) (by decide) (by omega)
  have s4 : (nI s = 4) ↔ s = 4 := zc_eq (k := 4) (by decide) (by omega)
  have s6 : (nI s ≤ 6) ↔ s ≤ 6 := zc_el (k := 6) (by decide) (by omega)
  have eM : f_Mo_lookAtExpressions g (nI k) = if l.length = ya_ar s then f_Mo_lookAtCall_206 g (nI k) (nI s) (ya_fl 1 l) (ya_wd (-1) l) 0 else f_Mo_lookAtCall_206 g (nI k) (nI s) (ya_fl 1 l) (ya_wd (-1) l) 1 := by
    have e48 : ∀ y, f_Mo_lookAtCall_48 g (nI k) (nI s) y = if l.length = ya_ar s then f_Mo_lookAtCall_206 g (nI k) (nI s) (ya_fl 1 l) (ya_wd (-1) l) 0 else f_Mo_lookAtCall_206 g (nI k) (nI s) (ya_fl 1 l) (ya_wd (-1) l) 1 := by
      intro y
      unfold f_Mo_lookAtCall_48 f_Mo_lookAtCall_62 f_Mo_lookAtCall_63
      rw [if_pos (zv_neg (show s < 2147483648 by omega)).1, zv_rule0, Option.bind_some, if_pos (zi_in (by omega) hk), nI_clamp (show k < 2147483648 by omega)]
      have := ya_cntM (s := nI s) (b := y) hk l ((g.2.1 76) k) 0 1 (-1) zF m3 (by omega)
      rw [Nat.zero_add] at this
      rw [show f_Mo_lookAtCall_L86 zF g (nI k) (nI s) y 0 1 (-1) ((g.2.1 76) k) = _ from this]
      have e198 : ∀ n : Nat, n < 10 → f_Mo_lookAtCall_198 g (nI k) (nI s) (ya_fl 1 l) (ya_wd (-1) l) (nI n) (nI l.length) = if l.length = n then f_Mo_lookAtCall_206 g (nI k) (nI s) (ya_fl 1 l) (ya_wd (-1) l) 0 else f_Mo_lookAtCall_206 g (nI k) (nI s) (ya_fl 1 l) (ya_wd (-1) l) 1 := by
        intro n hn
        unfold f_Mo_lookAtCall_198
        simp only [nI_eq (show l.length < 2147483648 by omega) (show n < 2147483648 by omega)]
      unfold f_Mo_lookAtCall_86 f_Mo_lookAtCall_179 f_Mo_lookAtCall_193
      rw [if_pos (by decide), J2, if_pos (by decide), if_pos (zv_neg (show s < 2147483648 by omega)).1]
      have a1 := e198 1 (by decide)
      have a2 := e198 2 (by decide)
      have a3 := e198 3 (by decide)
      rw [show (nI 1 : Int32) = 1 from rfl] at a1
      rw [show (nI 2 : Int32) = 2 from rfl] at a2
      rw [show (nI 3 : Int32) = 3 from rfl] at a3
      rw [a1, a2, a3]
      simp only [s0, s3, s4, s6]
      have cs : s = 0 ∨ s = 1 ∨ s = 2 ∨ s = 3 ∨ s = 4 ∨ s = 5 ∨ s = 6 ∨ s = 7 ∨ s = 8 ∨ s = 9 := by omega
      rcases cs with e | e | e | e | e | e | e | e | e | e <;> subst e <;> rfl
    unfold f_Mo_lookAtExpressions f_Mo_lookAtCall f_Mo_lookAtCall_47
    simp (config := { decide := true }) only [if_pos (zi_in (show k < 2147483648 by omega) hk), nI_clamp (show k < 2147483648 by omega), m0, if_false, if_true, Option.bind_fun_some, m1, hwf, Option.bind_some, HJ.2, e48]
    rcases zv_bn (bd := nb - 1) I.1 I.2.1 (by omega) hc hw with ⟨b, y1, y2, y3⟩ | ⟨y1, y2⟩
    · rw [y3, Option.bind_some, if_neg (zv_neg (show b < 2147483648 by omega)).2, if_pos (zi_in (by omega) (by omega)), ite_self]
    · rw [y1, Option.bind_some, if_pos (by decide)]
  have eC2 : f_Jd_judgeStandardCall h (nI i) (nI s) (nI l.length) = if l.length = ya_ar s then (if zd_in ((h.2.1 17) i) 32784 then (if 3 ≤ l.length then (if zd_in ((h.2.1 18) ((h.2.1 17) i).toNatClampNeg) 32784 then f_Jd_judgeStandardCall_59 h (nI i) (nI s) ((h.2.1 17) i) ((h.2.1 18) ((h.2.1 17) i).toNatClampNeg) ((h.2.1 18) ((h.2.1 18) ((h.2.1 17) i).toNatClampNeg).toNatClampNeg) else none) else f_Jd_judgeStandardCall_59 h (nI i) (nI s) ((h.2.1 17) i) ((h.2.1 18) ((h.2.1 17) i).toNatClampNeg) (-1)) else none) else ((f_Jd_refuse h 25 (nI i)).bind fun h8 => some h8) := by
    unfold f_Jd_judgeStandardCall
    have ea : zt_4.getD s 0 = nI (ya_ar s) := ya_T2 s hs
    simp only [if_pos (zi_in (show s < 2147483648 by omega) hs), nI_clamp (show s < 2147483648 by omega), ea, nI_eq (show l.length < 2147483648 by omega) (show ya_ar s < 2147483648 by omega), if_pos (zi_in (show i < 2147483648 by omega) hi), nI_clamp (show i < 2147483648 by omega), show ((3 : Int32) ≤ nI l.length) ↔ 3 ≤ l.length from zc_le (k := 3) (by decide) (by omega)]
  by_cases zl : l.length = ya_ar s
  · obtain ⟨a, t1, x5, x6, p1, p2, p3, p4, p5, p6, p7, p8, p9, p10, p11, p12, p13, p14, t2, t3, p15, p16, p17⟩ := ya_parts c3 zl ar1 ar3
    rw [if_pos zl] at eM eC2
    have eC3 : f_Jd_judgeStandardCall h (nI i) (nI s) (nI l.length) = f_Jd_judgeStandardCall_59 h (nI i) (nI s) (nI a) x5 x6 := by
      rw [eC2, p1, if_pos (zi_in (by omega) p2), nI_clamp (show a < 2147483648 by omega), ← p7]
      by_cases z3 : 3 ≤ l.length
      · obtain ⟨b, b1, b2, b3⟩ := p13 (by omega)
        rw [if_pos z3, b3, b1, if_pos (zi_in (by omega) b2), nI_clamp (show b < 2147483648 by omega)]
      · rw [if_neg z3, p14 (by omega)]
    obtain ⟨ty, hty⟩ : ∃ ty, ¬ f_Jd_standardType (nI s) (nI t1) (nI (l.getD 1 1)) (nI (l.getD 2 1)) = -1 → f_Jd_standardType (nI s) (nI t1) (nI (l.getD 1 1)) (nI (l.getD 2 1)) = nI ty ∧ ty < 3 := by
      rcases ya_T1 s hs t1 p5 (l.getD 1 1) p11 (l.getD 2 1) p12 with z | ⟨z1, z2⟩
      · exact ⟨0, fun n => absurd z n⟩
      · exact ⟨_, fun _ => ⟨z2, z1⟩⟩
    have eC4 := ya_std59 (x5 := x5) (x6 := x6) J1 hi hs (.inr ⟨a, rfl, p2, p3, p4⟩) p2 p3 p4 p9 p10 hty
    -- the model's types
    have eM2 : ∃ B T : Int32, f_Mo_lookAtExpressions g (nI k) = (f_Mo_rule (zs_uM g 102 k (nI (100 + s))) B 26 (nI k)).bind (fun h2 => some (zs_uM h2 100 k T)) ∧ ((f_Jd_standardType (nI s) (nI t1) (nI (l.getD 1 1)) (nI (l.getD 2 1)) = -1 ∧ B = 1) ∨ (¬ f_Jd_standardType (nI s) (nI t1) (nI (l.getD 1 1)) (nI (l.getD 2 1)) = -1 ∧ B = 0 ∧ T = f_Jd_standardType (nI s) (nI t1) (nI (l.getD 1 1)) (nI (l.getD 2 1)))) := by
      by_cases z4 : s = 4
      · subst z4
        have el : l = [t1, t2, t3] := p17
        obtain ⟨kc, k1, k2, k3⟩ := m7 t1 t2 t3 el
        rw [el] at m3
        obtain ⟨ka, ka1, ka2, ka3, _, kb, kb1, kb2, kb3, _, _⟩ := m3
        rw [el, ← el, ya_206s (t1 := t1) (t2 := t2) (t3 := t3) J2 hk ka2 ka1 ka3 kb2 kb1 kb3 k2 k1 k3 p5 p15 p16] at eM
        have e1 : l.getD 1 1 = t2 := by rw [el]; rfl
        have e2 : l.getD 2 1 = t3 := by rw [el]; rfl
        rw [e1, e2, ya_T4 t1 p5 t2 p15 t3 p16]
        refine ⟨_, _, eM, ?_⟩
        by_cases zz : t1 = 0 ∧ (t2 = 0 ↔ t3 = 0)
        · rw [if_pos zz, if_pos zz]
          exact .inr ⟨zc_m1 (by omega), rfl, rfl⟩
        · rw [if_neg zz, if_neg zz]
          exact .inl ⟨rfl, rfl⟩
      · obtain ⟨ka, ka1, ka2, ka3⟩ : ∃ ka, ka < 33500 ∧ (g.2.1 76) k = nI ka ∧ (g.2.1 100) ka = nI t1 := by
          have hm := m3
          cases l with
          | nil => exact absurd zl (by show ¬ 0 = ya_ar s; omega)
          | cons t l =>
            obtain ⟨ka, y1, y2, y3, _⟩ := hm
            exact ⟨ka, y1, y2, by rw [y3]; exact congrArg nI (show t = t1 from p6)⟩
        rw [ya_206 J2 hk hs z4 ka2 ka1 ka3] at eM
        refine ⟨_, _, eM, ?_⟩
        have ck := ya_T3 s hs z4 t1 p5 t2 p15 t3 p16
        rw [← p17] at ck
        unfold ya_chk at ck
        simp only [Bool.or_eq_true, Bool.and_eq_true, decide_eq_true_eq] at ck
        rcases ck with ⟨y1, y2⟩ | ⟨⟨y1, y2⟩, y3⟩
        · exact .inl ⟨y2, y1⟩
        · exact .inr ⟨by rw [y2]; exact y3, y1, y2.symm⟩
    obtain ⟨B, T, eM3, hBT⟩ := eM2
    have J2' : ((zs_uM g 102 k (nI (100 + s))).1 68 29) = 0 := J2
    rcases hBT with ⟨z1, z2⟩ | ⟨z1, z2, z3⟩
    · rw [if_pos z1] at eC4
      rw [z2, show (26 : Int32) = nI 26 from rfl, zv_rule1 (by decide) J2' hk, Option.bind_some] at eM3
      refine ⟨_, _, eC.trans (eC3.trans eC4), eM3, .inl ?_⟩
      exact zv_mkF (φ := 26) (h2 := h) (g2 := zs_uM g 102 k (nI (100 + s))) (by decide) (by decide) c2 m2 zfr_rfl (zfr_M (by decide) zfr_rfl) zfr_rfl (zfr_M (by decide) zfr_rfl)
    · rw [if_neg z1] at eC4
      obtain ⟨hT, ht⟩ := hty z1
      have tyA : s = 0 ∨ s = 5 ∨ s = 6 → (h.2.1 14) a = nI ty := fun q => p4.trans ((ya_t1 q z1).symm.trans hT)
      rw [z2, zv_rule0, Option.bind_some, z3, hT] at eM3
      obtain ⟨v, ev⟩ := ya_tot hs (nI ty) ((h.2.1 16) a) (ya_val h x5) (ya_val h x6)
      by_cases zc : ya_con h (nI a) ∧ ya_con h x5 ∧ ya_con h x6
      · rw [if_pos zc, ev, Option.bind_some] at eC4
        exact ⟨_, _, eC.trans (eC3.trans eC4), eM3, .inr ⟨s, ty, a, x5, x6, rfl, hs, ht, zl, ⟨p1, p2, p3, p7, p8, tyA, ya_mkst hs p5 p11 p12 hT p9 p10⟩, rfl, .inl ⟨v, zc, ev, rfl⟩⟩⟩
      · rw [if_neg zc] at eC4
        exact ⟨_, _, eC.trans (eC3.trans eC4), eM3, .inr ⟨s, ty, a, x5, x6, rfl, hs, ht, zl, ⟨p1, p2, p3, p7, p8, tyA, ya_mkst hs p5 p11 p12 hT p9 p10⟩, rfl, .inr ⟨zc, rfl⟩⟩⟩
  · rw [if_neg zl] at eM eC2
    rw [show (25 : Int32) = nI 25 from rfl, zv_refu J1 hi, Option.bind_some] at eC2
    refine ⟨zv_rf 25 i h, zv_ru 25 k g, eC.trans eC2, ?_, .inl (zv_mkF (φ := 25) (by decide) (by decide) c2 m2 zfr_rfl zfr_rfl zfr_rfl zfr_rfl)⟩
    rw [eM]
    unfold f_Mo_lookAtCall_206
    rw [show (25 : Int32) = nI 25 from rfl, zv_rule1 (by decide) J2 hk, Option.bind_some]
    show (if ((zv_ru 25 k g).1 68 29) ≤ 0 then _ else some (zv_ru 25 k g)) = _
    rw [if_neg (zv_ruf0 (φ := 25) (k := k) (g := g) (by decide) (by decide))]
end
section
/-! The judge: what is known of an expression's nodes, once it has been judged. -/
/-- what a settled variable is -/
theorem yb_so {LC LM : List (List Int32)} {nb nf v : Nat} {F : Nat → Nat} {q : Int32} {h g : zs_H} (I : zv_I LC LM nb nf (F nb) F q h g) (hb : 0 < nb) (h1 : F (nb - 1) ≤ v) (h2 : v < F nb) : ((g.2.1 92) v = 0 → (h.2.1 30) (32 + v) = -1) ∧ ((g.2.1 92) v = 1 → (h.2.1 30) (32 + v) = -2) := by
  obtain ⟨_, _, _, _, _, _, _, _, _, _, _, q8, _⟩ := I.2.2.2.1.2.1 (nb - 1) v (by omega) h1 (by rw [show nb - 1 + 1 = nb by omega]; exact h2) h2
  rcases q8 with ⟨e1, e2, _⟩ | ⟨e1, e2, _⟩ | ⟨_, _, _, e2, _⟩
  · exact ⟨fun _ => e1, fun z => by rw [e2] at z; exact absurd z (by decide)⟩
  · exact ⟨fun z => by rw [e2] at z; exact absurd z (by decide), fun _ => e1⟩
  · exact ⟨fun z => by rw [e2] at z; exact absurd z (by decide), fun z => by rw [e2] at z; exact absurd z (by decide)⟩
/-- the variable u of the block here, that has this name -/
def yb_V (F : Nat → Nat) (bb : Nat) (h : zs_H) (v : Int32) (u x : Nat) : Prop := F bb ≤ u ∧ u < F (bb + 1) ∧ (h.2.1 28) (32 + u) = v ∧ (∀ j, F bb ≤ j → j < F (bb + 1) → (h.2.1 28) (32 + j) = v → j = u) ∧ (h.2.1 32) (32 + u) = nI x
def yb_3 (h : zs_H) (P : Nat → Prop) (xl : Int32) (a : Nat) (x5 x6 : Int32) : Prop := xl = nI a ∧ P a ∧ x5 = (h.2.1 18) a ∧ x6 = (if x5 = -1 then -1 else (h.2.1 18) x5.toNatClampNeg) ∧ (x5 = -1 ∨ ∃ b, b < 32784 ∧ x5 = nI b ∧ P b) ∧ (x6 = -1 ∨ ∃ b, b < 32784 ∧ x6 = nI b ∧ P b)
/-- the value of a parameter fits its input -/
def yb_py (h : zs_H) (P : Nat → Prop) (cv a : Nat) : Prop := ∃ c, c < 32784 ∧ (h.2.1 17) a = nI c ∧ P c ∧ ((h.2.1 31) cv = 0 → (h.2.1 14) c = 0)
/-- what is told of types at assignments and contacts -/
def yb_sy (h : zs_H) (P : Nat → Prop) (kd : Nat) (xl : Int32) : Prop := (kd = 12 → ∃ a b, xl = nI a ∧ P a ∧ (h.2.1 18) a = nI b ∧ P b ∧ ((h.2.1 14) a = 0 → (h.2.1 14) b = 0)) ∧ (kd = 25 → ∃ a, xl = nI a ∧ P a ∧ (h.2.1 14) a = 0)
theorem yb_sy0 {h : zs_H} {P : Nat → Prop} {kd : Nat} {xl : Int32} (h1 : ¬ kd = 12) (h2 : ¬ kd = 25) : yb_sy h P kd xl := ⟨fun z => absurd z h1, fun z => absurd z h2⟩
/-- the arguments of a call, nodes of P, fit the inputs -/
def yb_fit (h : zs_H) (P : Nat → Prop) : List Nat → Int32 → Prop
  | [], _ => True
  | w :: ws, x => ∃ a, x = nI a ∧ a < 32784 ∧ P a ∧ ((h.2.1 31) (32 + w) = 0 → (h.2.1 14) a = 0) ∧ yb_fit h P ws ((h.2.1 18) a)
/-- two operands of a BOOL -/
def yb_t2 (h : zs_H) (s ty a b : Nat) : Prop := ty = 0 → (2 < s ∧ s < 9) ∨ (s < 3 ∧ (h.2.1 14) a = 0 ∧ (h.2.1 14) b = 0)
/-- the parameters of an invocation: their inputs' cells -/
def yb_pr (F : Nat → Nat) (bb : Nat) (h g : zs_H) (P Q : Nat → Prop) (B x : Nat) : Nat → Int32 → Int32 → Prop
  | 0, _, _ => True
  | n + 1, p, p' => ∃ a b cv off, (P a ∧ a < 32784 ∧ p = nI a) ∧ (Q b ∧ b < 33500 ∧ p' = nI b ∧ (g.2.1 72) b = 14) ∧ (h.2.1 16) a = nI cv ∧ cv < 32 + F (bb + 1) ∧ (h.2.1 32) cv = nI off ∧ (g.2.1 101) b = nI (x + off) ∧ (x + off < 600000000 ∧ zi_B F B cv ∧ (h.2.1 29) cv = 1 ∧ yb_py h P cv a) ∧ yb_pr F bb h g P Q B x n ((h.2.1 18) a) ((g.2.1 78) b)
/-- the constants of a FOR -/
def yb_fo (h : zs_H) (P : Nat → Prop) (xl : Int32) : Prop := ∃ a b c st, (xl = nI a ∧ P a ∧ (h.2.1 18) a = nI b ∧ P b ∧ (h.2.1 18) b = nI c ∧ P c) ∧ ((zv_kc h c ∧ st = (h.2.1 16) c) ∨ (¬ zv_kc h c ∧ st = 1)) ∧ ¬ st = 0 ∧ ∃ n, n ≤ 1000000 ∧ f_Cd_times ((h.2.1 16) a) ((h.2.1 16) b) st = some (Int64.ofNat n)
abbrev yb_pl : List Nat := [11, 12, 15, 16, 17, 18, 20, 21, 22, 23, 24, 25, 26, 27, 28, 29]
def yb_S (F : Nat → Nat) (bb : Nat) (h g : zs_H) (P Q : Nat → Prop) (kd : Nat) (v : Int32) (i k : Nat) (xl : Int32) (n : Nat) : Prop := kd = 38 ∨
  (kd ∈ yb_pl ∧ (h.2.1 13) i = nI kd ∧ (h.2.1 17) i = xl ∧ (h.2.1 16) i = v ∧ yb_sy h P kd xl) ∨
  (kd = 13 ∧ (h.2.1 13) i = 13 ∧ (h.2.1 17) i = xl ∧ ∃ u x B, yb_V F bb h v u x ∧ (h.2.1 16) i = nI (32 + u) ∧ (h.2.1 30) (32 + u) = nI B ∧ B < 9 + bb ∧ (g.2.1 101) k = nI x ∧ (g.2.1 102) k = nI (if B < 9 then 100 + B else B - 9) ∧ yb_pr F bb h g P Q B x n xl ((g.2.1 76) k)) ∨
  (kd = 14 ∧ (h.2.1 13) i = 14 ∧ (h.2.1 17) i = xl) ∨
  (kd = 19 ∧ (h.2.1 13) i = 19 ∧ (h.2.1 17) i = xl ∧ ∃ u x ty, yb_V F bb h v u x ∧ (h.2.1 16) i = nI (32 + u) ∧ (h.2.1 14) i = nI ty ∧ (h.2.1 31) (32 + u) = nI ty ∧ ((ty = 1 ∨ ty = 2) ∧ (h.2.1 30) (32 + u) = -1) ∧ (g.2.1 101) k = nI x ∧ yb_fo h P xl)
theorem yb_SE {F : Nat → Nat} {bb : Nat} {h g : zs_H} {P Q : Nat → Prop} {kd : Nat} {v : Int32} {i k : Nat} {xl : Int32} {n : Nat} (S : yb_S F bb h g P Q kd v i k xl n) : ¬ kd ∈ [6, 30, 31, 32, 33, 34, 35, 36] := by
  have key : ∀ z ∈ yb_pl, ¬ z ∈ [6, 30, 31, 32, 33, 34, 35, 36] := by decide
  rcases S with e | ⟨e, _⟩ | ⟨e, _⟩ | ⟨e, _⟩ | ⟨e, _⟩
  · rw [e]; decide
  · exact key _ e
  · rw [e]; decide
  · rw [e]; decide
  · rw [e]; decide
def yb_N (F : Nat → Nat) (bb : Nat) (h g : zs_H) (P Q : Nat → Prop) (kd : Nat) (v : Int32) (i k : Nat) (xl : Int32) (n : Nat) : Prop := yb_S F bb h g P Q kd v i k xl n ∨ ∃ ty, ty < 3 ∧ (h.2.1 14) i = nI ty ∧ (g.2.1 100) k = nI ty ∧
  ((kd = 6 ∧ (h.2.1 13) i = 6 ∧ ∃ u x, yb_V F bb h v u x ∧ (h.2.1 16) i = nI (32 + u) ∧ (g.2.1 101) k = nI x ∧ (h.2.1 30) (32 + u) = -1 ∧ (h.2.1 31) (32 + u) = nI ty) ∨
   ((kd = 30 ∨ kd = 31) ∧ (h.2.1 13) i = nI kd ∧ (h.2.1 16) i = v ∧ (kd = 30 → ¬ ty = 0) ∧ (kd = 31 → ty = 0)) ∨
   (kd = 32 ∧ (h.2.1 13) i = 32 ∧ (h.2.1 17) i = xl ∧ ∃ u x, yb_V F bb h v u x ∧ (h.2.1 16) i = nI (32 + u) ∧ (g.2.1 101) k = nI x ∧ (h.2.1 30) (32 + u) = -2 ∧ (h.2.1 31) (32 + u) = nI ty) ∨
   (kd = 33 ∧ (h.2.1 13) i = 33 ∧ (h.2.1 17) i = xl ∧ ∃ a u x off, xl = nI a ∧ P a ∧ yb_V F bb h v u x ∧ (h.2.1 16) i = nI (32 + u) ∧ (h.2.1 16) a = nI off ∧ (g.2.1 101) k = nI (x + off) ∧ (x + off < 600000000 ∧ ∃ B cv, (h.2.1 30) (32 + u) = nI B ∧ B < 9 + bb ∧ zi_B F B cv ∧ cv < 32 + F (bb + 1) ∧ (h.2.1 32) cv = nI off ∧ ((h.2.1 29) cv = 1 ∨ (h.2.1 29) cv = 2) ∧ (h.2.1 31) cv = nI ty)) ∨
   (kd = 34 ∧ (h.2.1 13) i = 34 ∧ (h.2.1 17) i = xl ∧ ∃ b, b < bb ∧ (h.2.1 16) i = nI (9 + b) ∧ (g.2.1 102) k = nI b ∧ n = (zv_il h (F (b + 1) - F b) (F b)).length ∧ (h.2.1 21) (9 + b) = 1 ∧ F b ≤ F (b + 1) ∧ ∃ c, v = nI c ∧ c < 6000 ∧ ¬ (50 ≤ c ∧ c < 60) ∧ F b < F (b + 1) ∧ (h.2.1 31) (32 + F b) = nI ty ∧ yb_fit h P (zv_il h (F (b + 1) - F b) (F b)) xl) ∨
   (kd = 34 ∧ ∃ s a x5 x6, s < 10 ∧ v = nI (50 + s) ∧ (n = ya_ar s ∧ (s = 0 ∨ s = 5 ∨ s = 6 → (h.2.1 14) a = nI ty) ∧ yb_st h s ty x5 x6) ∧ (g.2.1 102) k = nI (100 + s) ∧ yb_3 h P xl a x5 x6 ∧ (((ya_con h (nI a) ∧ ya_con h x5 ∧ ya_con h x6) ∧ (h.2.1 13) i = 30 ∧ f_Cd_standard (nI s) (nI ty) ((h.2.1 16) a) (ya_val h x5) (ya_val h x6) = some ((h.2.1 16) i)) ∨ (¬ (ya_con h (nI a) ∧ ya_con h x5 ∧ ya_con h x6) ∧ (h.2.1 13) i = 39 ∧ (h.2.1 16) i = nI s ∧ (h.2.1 17) i = xl))) ∨
   (kd = 35 ∧ ∃ s a b, s < 14 ∧ v = nI s ∧ xl = nI a ∧ P a ∧ (h.2.1 18) a = nI b ∧ (P b ∧ yb_t2 h s ty a b) ∧ (((zv_kc h a ∧ zv_kc h b ∧ f_Cd_isByZero (f_Cd_operation (nI s) (nI ty)) ((h.2.1 16) b) = 0) ∧ (h.2.1 13) i = 30 ∧ f_Cd_two (f_Cd_operation (nI s) (nI ty)) ((h.2.1 16) a) ((h.2.1 16) b) = some ((h.2.1 16) i)) ∨ (¬ (zv_kc h a ∧ zv_kc h b ∧ f_Cd_isByZero (f_Cd_operation (nI s) (nI ty)) ((h.2.1 16) b) = 0) ∧ (h.2.1 13) i = 35 ∧ (h.2.1 16) i = v ∧ (h.2.1 17) i = xl))) ∨
   (kd = 36 ∧ ∃ s a, s < 2 ∧ v = nI s ∧ xl = nI a ∧ (P a ∧ (ty = 0 → s = 1)) ∧ ((zv_kc h a ∧ (h.2.1 13) i = 30 ∧ (h.2.1 16) i = f_Cd_one (f_Cd_turning (if s = 0 then 1 else 0) (nI ty)) ((h.2.1 16) a)) ∨ (¬ zv_kc h a ∧ (h.2.1 13) i = 36 ∧ (h.2.1 16) i = v ∧ (h.2.1 17) i = xl))))
/-- a forest of expressions, up to (e, e') -/
def yb_F (F : Nat → Nat) (bb : Nat) (h g : zs_H) (P Q : Nat → Prop) : zt_T → Int32 → Int32 → Int32 → Int32 → Prop
  | .leaf, x, x', e, e' => x = e ∧ x' = e'
  | .inner kd kv _ l r, x, x', e, e' => ∃ (i k : Nat) (xl : Int32), (P i ∧ i < 32784 ∧ x = nI i) ∧ (Q k ∧ k < 33500 ∧ x' = nI k ∧ (g.2.1 72) k = nI (zt_km kd)) ∧ yb_N F bb h g P Q kd kv.2 i k xl (zt_ln l) ∧ yb_F F bb h g P Q l xl ((g.2.1 76) k) (-1) (-1) ∧ yb_F F bb h g P Q r ((h.2.1 18) i) ((g.2.1 78) k) e e'
def yb_fr (F : Nat → Nat) (bb : Nat) (P Q : Nat → Prop) (h g h' g' : zs_H) : Prop :=
  (∀ j, P j → j < 32784 ∧ (h'.2.1 13) j = (h.2.1 13) j ∧ (h'.2.1 14) j = (h.2.1 14) j ∧ (h'.2.1 16) j = (h.2.1 16) j ∧ (h'.2.1 17) j = (h.2.1 17) j ∧ (h'.2.1 18) j = (h.2.1 18) j) ∧
  (∀ j, Q j → (g'.2.1 100) j = (g.2.1 100) j ∧ (¬ (g.2.1 72) j = 16 → ¬ (g.2.1 72) j = 25 → (g'.2.1 101) j = (g.2.1 101) j) ∧ (¬ (g.2.1 72) j = 19 → (g'.2.1 102) j = (g.2.1 102) j) ∧ (g'.2.1 76) j = (g.2.1 76) j ∧ (g'.2.1 78) j = (g.2.1 78) j ∧ (g'.2.1 72) j = (g.2.1 72) j) ∧
  (∀ j, j < 32 + F (bb + 1) → (h'.2.1 28) j = (h.2.1 28) j ∧ (h'.2.1 29) j = (h.2.1 29) j ∧ (h'.2.1 32) j = (h.2.1 32) j ∧ (h'.2.1 30) j = (h.2.1 30) j ∧ (h'.2.1 31) j = (h.2.1 31) j) ∧ (∀ b, b < bb → (h'.2.1 21) (9 + b) = (h.2.1 21) (9 + b)) ∧ (∀ b, b < bb → F (b + 1) ≤ F (bb + 1))
/-- a kind at the top of a forest -/
def zt_has (c : Nat) : zt_T → Prop
  | .leaf => False
  | .inner kd _ _ _ r => kd = c ∨ zt_has c r
theorem yb_ilf {h h' : zs_H} : ∀ m v, (∀ j, v ≤ j → j < v + m → (h'.2.1 29) (32 + j) = (h.2.1 29) (32 + j)) → zv_il h' m v = zv_il h m v := by
  intro m
  induction m with
  | zero => intro v _; rfl
  | succ m ih =>
    intro v H
    show (if (h'.2.1 29) (32 + v) = 1 then v :: zv_il h' m (v + 1) else zv_il h' m (v + 1)) = (if (h.2.1 29) (32 + v) = 1 then v :: zv_il h m (v + 1) else zv_il h m (v + 1))
    rw [H v (Nat.le_refl _) (by omega), ih (v + 1) (fun j h1 h2 => H j (by omega) (by omega))]
theorem zv_ilm (h : zs_H) : ∀ m v w, w ∈ zv_il h m v → v ≤ w ∧ w < v + m ∧ (h.2.1 29) (32 + w) = 1 := by
  intro m
  induction m with
  | zero => intro v w hw; cases hw
  | succ m ih =>
    intro v w hw
    have hw' : w ∈ (if (h.2.1 29) (32 + v) = 1 then v :: zv_il h m (v + 1) else zv_il h m (v + 1)) := hw
    by_cases z : (h.2.1 29) (32 + v) = 1
    · rw [if_pos z] at hw'
      rcases List.mem_cons.mp hw' with e | e
      · rw [e]; exact ⟨Nat.le_refl _, by omega, z⟩
      · obtain ⟨a1, a2, a3⟩ := ih _ _ e; exact ⟨by omega, by omega, a3⟩
    · rw [if_neg z] at hw'
      obtain ⟨a1, a2, a3⟩ := ih _ _ hw'; exact ⟨by omega, by omega, a3⟩
section YBF
variable {F : Nat → Nat} {bb : Nat} {P Q : Nat → Prop} {h g h' g' : zs_H}
theorem yb_Vf (H : yb_fr F bb P Q h g h' g') {v : Int32} {u x : Nat} (V : yb_V F bb h v u x) : yb_V F bb h' v u x := by
  obtain ⟨_, _, H3, _, _⟩ := H
  obtain ⟨a1, a2, a3, a4, a5⟩ := V
  exact ⟨a1, a2, by rw [(H3 (32 + u) (by omega)).1]; exact a3, fun j j1 j2 j3 => a4 j j1 j2 (by rw [← (H3 (32 + j) (by omega)).1]; exact j3), by rw [(H3 (32 + u) (by omega)).2.2.1]; exact a5⟩
theorem yb_kcf (H : yb_fr F bb P Q h g h' g') {a : Nat} (ha : P a) : zv_kc h' a ↔ zv_kc h a := by
  unfold zv_kc
  rw [(H.1 a ha).2.1]
theorem yb_conf (H : yb_fr F bb P Q h g h' g') {x : Int32} (hx : x = -1 ∨ ∃ b, b < 32784 ∧ x = nI b ∧ P b) : (ya_con h' x ↔ ya_con h x) ∧ ya_val h' x = ya_val h x := by
  rcases hx with e | ⟨b, b1, b2, b3⟩
  · unfold ya_con ya_val
    rw [if_pos e, if_pos e]
    exact ⟨⟨fun _ => .inl e, fun _ => .inl e⟩, rfl⟩
  · unfold ya_con ya_val
    rw [b2, if_neg (zc_m1 (by omega)), if_neg (zc_m1 (by omega)), nI_clamp (show b < 2147483648 by omega), yb_kcf H b3, (H.1 b b3).2.2.2.1]
    exact ⟨Iff.rfl, rfl⟩
theorem yb_pyf (H : yb_fr F bb P Q h g h' g') {cv a : Nat} (ha : P a) (hc : cv < 32 + F (bb + 1)) (A : yb_py h P cv a) : yb_py h' P cv a := by
  obtain ⟨c, c0, c1, c2, c3⟩ := A
  exact ⟨c, c0, by rw [(H.1 a ha).2.2.2.2.1]; exact c1, c2, by rw [(H.2.2.1 cv hc).2.2.2.2, (H.1 c c2).2.2.1]; exact c3⟩
theorem yb_syf (H : yb_fr F bb P Q h g h' g') {kd : Nat} {xl : Int32} (A : yb_sy h P kd xl) : yb_sy h' P kd xl := by
  refine ⟨fun z => ?_, fun z => ?_⟩
  · obtain ⟨a, b, a1, a2, a3, a4, a5⟩ := A.1 z
    exact ⟨a, b, a1, a2, by rw [(H.1 a a2).2.2.2.2.2]; exact a3, a4, by rw [(H.1 a a2).2.2.1, (H.1 b a4).2.2.1]; exact a5⟩
  · obtain ⟨a, a1, a2, a3⟩ := A.2 z
    exact ⟨a, a1, a2, by rw [(H.1 a a2).2.2.1]; exact a3⟩
theorem yb_fitf (H : yb_fr F bb P Q h g h' g') : ∀ (ws : List Nat) (x : Int32), (∀ w, w ∈ ws → w < F (bb + 1)) → yb_fit h P ws x → yb_fit h' P ws x := by
  intro ws
  induction ws with
  | nil => intro x _ _; trivial
  | cons w ws ih =>
    intro x hw ⟨a, a1, a2, a3, a4, a5⟩
    refine ⟨a, a1, a2, a3, ?_, ?_⟩
    · rw [(H.2.2.1 (32 + w) (by have := hw w (List.mem_cons_self ..); omega)).2.2.2.2, (H.1 a a3).2.2.1]; exact a4
    · rw [(H.1 a a3).2.2.2.2.2]; exact ih _ (fun v hv => hw v (List.mem_cons_of_mem _ hv)) a5
theorem yb_stf (H : yb_fr F bb P Q h g h' g') {s ty : Nat} {x5 x6 : Int32} (y5 : x5 = -1 ∨ ∃ b, b < 32784 ∧ x5 = nI b ∧ P b) (y6 : x6 = -1 ∨ ∃ b, b < 32784 ∧ x6 = nI b ∧ P b) (A : yb_st h s ty x5 x6) : yb_st h' s ty x5 x6 := by
  intro z
  rcases A z with q | ⟨q1, q2⟩
  · exact .inl q
  · refine .inr ⟨q1, fun b hb hx => ?_⟩
    have pb : P b := by
      rcases hx with hx | hx
      · rcases y5 with w | ⟨c, c1, c2, c3⟩
        · rw [hx] at w; exact absurd w (zc_m1 (by omega))
        · have : c = b := (nI_eq (by omega) (by omega)).mp (c2.symm.trans hx)
          rw [← this]; exact c3
      · rcases y6 with w | ⟨c, c1, c2, c3⟩
        · rw [hx] at w; exact absurd w (zc_m1 (by omega))
        · have : c = b := (nI_eq (by omega) (by omega)).mp (c2.symm.trans hx)
          rw [← this]; exact c3
    rw [(H.1 b pb).2.2.1]; exact q2 b hb hx
theorem yb_prf (H : yb_fr F bb P Q h g h' g') {B x : Nat} : ∀ (n : Nat) (p p' : Int32), yb_pr F bb h g P Q B x n p p' → yb_pr F bb h' g' P Q B x n p p' := by
  intro n
  induction n with
  | zero => intro p p' _; trivial
  | succ n ih =>
    intro p p' ⟨a, b, cv, off, ⟨a1, a2, a3⟩, ⟨b1, b2, b3, b4⟩, c1, c2, c3, c4, c5, c6⟩
    obtain ⟨_, _, _, i3, _, i5⟩ := H.1 a a1
    obtain ⟨_, k2, _, _, k5, k6⟩ := H.2.1 b b1
    refine ⟨a, b, cv, off, ⟨a1, a2, a3⟩, ⟨b1, b2, b3, by rw [k6]; exact b4⟩, by rw [i3]; exact c1, c2, by rw [(H.2.2.1 cv c2).2.2.1]; exact c3, by rw [k2 (by rw [b4]; decide) (by rw [b4]; decide)]; exact c4, ⟨c5.1, c5.2.1, by rw [(H.2.2.1 cv c2).2.1]; exact c5.2.2.1, yb_pyf H a1 c2 c5.2.2.2⟩, ?_⟩
    rw [i5, k5]; exact ih _ _ c6
theorem yb_fof (H : yb_fr F bb P Q h g h' g') {xl : Int32} (A : yb_fo h P xl) : yb_fo h' P xl := by
  obtain ⟨a, b, c, st, ⟨a1, a2, a3, a4, a5, a6⟩, a7, a8, a9⟩ := A
  obtain ⟨_, _, _, i3, _, i5⟩ := H.1 a a2
  obtain ⟨_, _, _, j3, _, j5⟩ := H.1 b a4
  obtain ⟨_, _, _, k3, _, _⟩ := H.1 c a6
  refine ⟨a, b, c, st, ⟨a1, a2, by rw [i5]; exact a3, a4, by rw [j5]; exact a5, a6⟩, ?_, a8, by rw [i3, j3]; exact a9⟩
  rw [yb_kcf H a6, k3]; exact a7
theorem yb_Nf (H : yb_fr F bb P Q h g h' g') {kd i k n : Nat} {v xl : Int32} (hi : P i) (hk : Q k) (hkm : (g.2.1 72) k = nI (zt_km kd)) (N : yb_N F bb h g P Q kd v i k xl n) : yb_N F bb h' g' P Q kd v i k xl n := by
  obtain ⟨i0, i1, i2, i3, i4, i5⟩ := H.1 i hi
  obtain ⟨k1, k2, k3, k4, k5, k6⟩ := H.2.1 k hk
  rcases N with N | ⟨ty, t1, t2, t3, N⟩
  · left
    rcases N with e | ⟨e, n1, n2, n3⟩ | ⟨e, n1, n2, u, x, B, n3, n4, n5, n6, n7, n8, n9⟩ | ⟨e, n1, n2⟩ | ⟨e, n1, n2, u, x, ty, n3, n4, n5, n6, n7, n8, n9⟩
    · exact .inl e
    · exact .inr (.inl ⟨e, by rw [i1]; exact n1, by rw [i4]; exact n2, by rw [i3]; exact n3.1, yb_syf H n3.2⟩)
    · subst e
      have e1 : ¬ (g.2.1 72) k = 16 := by rw [hkm]; decide
      have e2 : ¬ (g.2.1 72) k = 25 := by rw [hkm]; decide
      have e3 : ¬ (g.2.1 72) k = 19 := by rw [hkm]; decide
      have hu := n3.2.1
      exact .inr (.inr (.inl ⟨rfl, by rw [i1]; exact n1, by rw [i4]; exact n2, u, x, B, yb_Vf H n3, by rw [i3]; exact n4, by rw [(H.2.2.1 (32 + u) (by omega)).2.2.2.1]; exact n5, n6, by rw [k2 e1 e2]; exact n7, by rw [k3 e3]; exact n8, by rw [k4]; exact yb_prf H _ _ _ n9⟩))
    · exact .inr (.inr (.inr (.inl ⟨e, by rw [i1]; exact n1, by rw [i4]; exact n2⟩)))
    · subst e
      have e1 : ¬ (g.2.1 72) k = 16 := by rw [hkm]; decide
      have e2 : ¬ (g.2.1 72) k = 25 := by rw [hkm]; decide
      have hu := n3.2.1
      exact .inr (.inr (.inr (.inr ⟨rfl, by rw [i1]; exact n1, by rw [i4]; exact n2, u, x, ty, yb_Vf H n3, by rw [i3]; exact n4, by rw [i2]; exact n5, by rw [(H.2.2.1 (32 + u) (by omega)).2.2.2.2]; exact n6, ⟨n7.1, by rw [(H.2.2.1 (32 + u) (by omega)).2.2.2.1]; exact n7.2⟩, by rw [k2 e1 e2]; exact n8, yb_fof H n9⟩)))
  · refine .inr ⟨ty, t1, by rw [i2]; exact t2, by rw [k1]; exact t3, ?_⟩
    rw [i1, i3, i4]
    rcases N with ⟨e, n1, u, x, n2, n3, n4⟩ | ⟨e, n1, n2⟩ | ⟨e, n1, n2, u, x, n3, n4, n5⟩ | ⟨e, n1, n2, a, u, x, off, n3, n4, n5, n6, n7, n8, n9⟩ | ⟨e, n1, n2, b, n3, n4, n5, n6, n7, n8⟩ | ⟨e, s, a, x5, x6, n1, n2, n3, n4, ⟨y1, y2, y3, y4, y5, y6⟩, n6⟩ | ⟨e, s, a, b, n1, n2, n3, n4, n5, n6, n7⟩ | ⟨e, s, a, n1, n2, n3, n4, n5⟩
    · subst e
      have hu := n2.2.1
      exact .inl ⟨rfl, n1, u, x, yb_Vf H n2, n3, by rw [k2 (by rw [hkm]; decide) (by rw [hkm]; decide)]; exact n4.1, by rw [(H.2.2.1 (32 + u) (by omega)).2.2.2.1]; exact n4.2.1, by rw [(H.2.2.1 (32 + u) (by omega)).2.2.2.2]; exact n4.2.2⟩
    · exact .inr (.inl ⟨e, n1, n2⟩)
    · subst e
      have hu := n3.2.1
      exact .inr (.inr (.inl ⟨rfl, n1, n2, u, x, yb_Vf H n3, n4, by rw [k2 (by rw [hkm]; decide) (by rw [hkm]; decide)]; exact n5.1, by rw [(H.2.2.1 (32 + u) (by omega)).2.2.2.1]; exact n5.2.1, by rw [(H.2.2.1 (32 + u) (by omega)).2.2.2.2]; exact n5.2.2⟩))
    · subst e
      have hu := n5.2.1
      obtain ⟨n9, B, cv, w1, w2, w3, w4, w5, w6⟩ := n9
      exact .inr (.inr (.inr (.inl ⟨rfl, n1, n2, a, u, x, off, n3, n4, yb_Vf H n5, n6, by rw [(H.1 a n4).2.2.2.1]; exact n7, by rw [k2 (by rw [hkm]; decide) (by rw [hkm]; decide)]; exact n8, n9, B, cv, by rw [(H.2.2.1 (32 + u) (by omega)).2.2.2.1]; exact w1, w2, w3, w4, by rw [(H.2.2.1 cv w4).2.2.1]; exact w5, by rw [(H.2.2.1 cv w4).2.1]; exact w6.1, by rw [(H.2.2.1 cv w4).2.2.2.2]; exact w6.2⟩)))
    · subst e
      obtain ⟨_, c, n9, n10, n11, n12, n13, n14⟩ := id n8
      refine .inr (.inr (.inr (.inr (.inl ⟨rfl, n1, n2, b, n3, n4, by rw [k3 (by rw [hkm]; decide)]; exact n5, ?_, by rw [H.2.2.2.1 b n3]; exact n7, n8.1, c, n9, n10, n11, n12, by rw [(H.2.2.1 (32 + F b) (by have := H.2.2.2.2 b n3; omega)).2.2.2.2]; exact n13, ?_⟩))))
      · have := H.2.2.2.2 b n3
        rw [yb_ilf _ _ (fun j j1 j2 => (H.2.2.1 (32 + j) (by omega)).2.1)]
        exact n6
      · have := H.2.2.2.2 b n3
        rw [yb_ilf _ _ (fun j j1 j2 => (H.2.2.1 (32 + j) (by omega)).2.1)]
        refine yb_fitf H _ _ (fun w hw => ?_) n14
        obtain ⟨_, w2, _⟩ := zv_ilm h _ _ _ hw
        omega
    · subst e
      refine .inr (.inr (.inr (.inr (.inr (.inl ⟨rfl, s, a, x5, x6, n1, n2, ⟨n3.1, fun q => by rw [(H.1 a y2).2.2.1]; exact n3.2.1 q, yb_stf H y5 y6 n3.2.2⟩, by rw [k3 (by rw [hkm]; decide)]; exact n4, ⟨y1, y2, by rw [(H.1 a y2).2.2.2.2.2]; exact y3, ?_, y5, y6⟩, ?_⟩)))))
      · rcases y5 with z | ⟨b, b1, b2, b3⟩
        · rw [if_pos z]; rw [if_pos z] at y4; exact y4
        · rw [b2, if_neg (zc_m1 (by omega)), nI_clamp (show b < 2147483648 by omega)] at y4 ⊢
          rw [(H.1 b b3).2.2.2.2.2]; exact y4
      · have ca := yb_conf H (x := nI a) (.inr ⟨a, (H.1 a y2).1, rfl, y2⟩)
        have c5 := yb_conf H y5
        have c6 := yb_conf H y6
        rw [ca.1, c5.1, c6.1, c5.2, c6.2, (H.1 a y2).2.2.2.1]
        exact n6
    · refine .inr (.inr (.inr (.inr (.inr (.inr (.inl ⟨e, s, a, b, n1, n2, n3, n4, by rw [(H.1 a n4).2.2.2.2.2]; exact n5, ⟨n6.1, by unfold yb_t2; rw [(H.1 a n4).2.2.1, (H.1 b n6.1).2.2.1]; exact n6.2⟩, ?_⟩))))))
      rw [yb_kcf H n4, yb_kcf H n6.1, (H.1 a n4).2.2.2.1, (H.1 b n6.1).2.2.2.1]
      exact n7
    · refine .inr (.inr (.inr (.inr (.inr (.inr (.inr ⟨e, s, a, n1, n2, n3, n4, ?_⟩))))))
      rw [yb_kcf H n4.1, (H.1 a n4.1).2.2.2.1]
      exact n5
theorem yb_Ff (H : yb_fr F bb P Q h g h' g') : ∀ (t : zt_T) (x x' e e' : Int32), yb_F F bb h g P Q t x x' e e' → yb_F F bb h' g' P Q t x x' e e' := by
  intro t
  induction t with
  | leaf => intro x x' e e' A; exact A
  | inner kd kv o l r ihl ihr =>
    intro x x' e e' ⟨i, k, xl, ⟨i1, i2, i3⟩, ⟨k1, k2, k3, k4⟩, N, A, B⟩
    refine ⟨i, k, xl, ⟨i1, i2, i3⟩, ⟨k1, k2, k3, by rw [(H.2.1 k k1).2.2.2.2.2]; exact k4⟩, yb_Nf H i1 k1 k4 N, ?_, ?_⟩
    · rw [(H.2.1 k k1).2.2.2.1]; exact ihl _ _ _ _ A
    · rw [(H.1 i i1).2.2.2.2.2, (H.2.1 k k1).2.2.2.2.1]; exact ihr _ _ _ _ B
theorem yb_pym {P' : Nat → Prop} (hP : ∀ j, P j → P' j) {cv a : Nat} (A : yb_py h P cv a) : yb_py h P' cv a := by
  obtain ⟨c, c0, c1, c2, c3⟩ := A
  exact ⟨c, c0, c1, hP _ c2, c3⟩
theorem yb_sym {P' : Nat → Prop} (hP : ∀ j, P j → P' j) {kd : Nat} {xl : Int32} (A : yb_sy h P kd xl) : yb_sy h P' kd xl := by
  refine ⟨fun z => ?_, fun z => ?_⟩
  · obtain ⟨a, b, a1, a2, a3, a4, a5⟩ := A.1 z
    exact ⟨a, b, a1, hP _ a2, a3, hP _ a4, a5⟩
  · obtain ⟨a, a1, a2, a3⟩ := A.2 z
    exact ⟨a, a1, hP _ a2, a3⟩
theorem yb_fitm {P' : Nat → Prop} (hP : ∀ j, P j → P' j) : ∀ (ws : List Nat) (x : Int32), yb_fit h P ws x → yb_fit h P' ws x := by
  intro ws
  induction ws with
  | nil => intro x _; trivial
  | cons w ws ih =>
    intro x ⟨a, a1, a2, a3, a4, a5⟩
    exact ⟨a, a1, a2, hP _ a3, a4, ih _ a5⟩
theorem yb_prm {P' Q' : Nat → Prop} (hP : ∀ j, P j → P' j) (hQ : ∀ j, Q j → Q' j) {B x : Nat} : ∀ (n : Nat) (p p' : Int32), yb_pr F bb h g P Q B x n p p' → yb_pr F bb h g P' Q' B x n p p' := by
  intro n
  induction n with
  | zero => intro p p' _; trivial
  | succ n ih =>
    intro p p' ⟨a, b, cv, off, ⟨a1, a2, a3⟩, ⟨b1, b2, b3, b4⟩, c1, c2, c3, c4, c5, c6⟩
    exact ⟨a, b, cv, off, ⟨hP _ a1, a2, a3⟩, ⟨hQ _ b1, b2, b3, b4⟩, c1, c2, c3, c4, ⟨c5.1, c5.2.1, c5.2.2.1, yb_pym hP c5.2.2.2⟩, ih _ _ c6⟩
theorem yb_Nm {P' Q' : Nat → Prop} (hP : ∀ j, P j → P' j) (hQ : ∀ j, Q j → Q' j) {kd i k n : Nat} {v xl : Int32} (N : yb_N F bb h g P Q kd v i k xl n) : yb_N F bb h g P' Q' kd v i k xl n := by
  rcases N with N | ⟨ty, t1, t2, t3, N⟩
  · left
    rcases N with e | N | ⟨e, n1, n2, u, x, B, n3, n4, n5, n6, n7, n8, n9⟩ | N | ⟨e, n1, n2, u, x, ty, n3, n4, n5, n6, n7, n8, ⟨a, b, c, st, ⟨a1, a2, a3, a4, a5, a6⟩, n9⟩⟩
    · exact .inl e
    · exact .inr (.inl ⟨N.1, N.2.1, N.2.2.1, N.2.2.2.1, yb_sym hP N.2.2.2.2⟩)
    · exact .inr (.inr (.inl ⟨e, n1, n2, u, x, B, n3, n4, n5, n6, n7, n8, yb_prm hP hQ _ _ _ n9⟩))
    · exact .inr (.inr (.inr (.inl N)))
    · exact .inr (.inr (.inr (.inr ⟨e, n1, n2, u, x, ty, n3, n4, n5, n6, n7, n8, a, b, c, st, ⟨a1, hP _ a2, a3, hP _ a4, a5, hP _ a6⟩, n9⟩)))
  · refine .inr ⟨ty, t1, t2, t3, ?_⟩
    rcases N with N | N | N | ⟨e, n1, n2, a, u, x, off, n3, n4, n5⟩ | N | ⟨e, s, a, x5, x6, n1, n2, n3, n4, ⟨y1, y2, y3, y4, y5, y6⟩, n6⟩ | ⟨e, s, a, b, n1, n2, n3, n4, n5, n6, n7⟩ | ⟨e, s, a, n1, n2, n3, n4, n5⟩
    · exact .inl N
    · exact .inr (.inl N)
    · exact .inr (.inr (.inl N))
    · exact .inr (.inr (.inr (.inl ⟨e, n1, n2, a, u, x, off, n3, hP _ n4, n5⟩)))
    · obtain ⟨e, n1, n2, b, n3, n4, n5, n6, n7, n8, c, n9, n10, n11, n12, n13, n14⟩ := N
      exact .inr (.inr (.inr (.inr (.inl ⟨e, n1, n2, b, n3, n4, n5, n6, n7, n8, c, n9, n10, n11, n12, n13, yb_fitm hP _ _ n14⟩))))
    · exact .inr (.inr (.inr (.inr (.inr (.inl ⟨e, s, a, x5, x6, n1, n2, n3, n4, ⟨y1, hP _ y2, y3, y4, y5.imp id (fun ⟨b, b1, b2, b3⟩ => ⟨b, b1, b2, hP _ b3⟩), y6.imp id (fun ⟨b, b1, b2, b3⟩ => ⟨b, b1, b2, hP _ b3⟩)⟩, n6⟩)))))
    · exact .inr (.inr (.inr (.inr (.inr (.inr (.inl ⟨e, s, a, b, n1, n2, n3, hP _ n4, n5, ⟨hP _ n6.1, n6.2⟩, n7⟩))))))
    · exact .inr (.inr (.inr (.inr (.inr (.inr (.inr ⟨e, s, a, n1, n2, n3, ⟨hP _ n4.1, n4.2⟩, n5⟩))))))
theorem yb_Fm {P' Q' : Nat → Prop} (hP : ∀ j, P j → P' j) (hQ : ∀ j, Q j → Q' j) : ∀ (t : zt_T) (x x' e e' : Int32), yb_F F bb h g P Q t x x' e e' → yb_F F bb h g P' Q' t x x' e e' := by
  intro t
  induction t with
  | leaf => intro x x' e e' A; exact A
  | inner kd kv o l r ihl ihr =>
    intro x x' e e' ⟨i, k, xl, ⟨i1, i2, i3⟩, ⟨k1, k2, k3, k4⟩, N, A, B⟩
    exact ⟨i, k, xl, ⟨hP _ i1, i2, i3⟩, ⟨hQ _ k1, k2, k3, k4⟩, yb_Nm hP hQ N, ihl _ _ _ _ A, ihr _ _ _ _ B⟩
theorem yb_ap : ∀ (t u : zt_T) (x x' y y' e e' : Int32), yb_F F bb h g P Q t x x' y y' → yb_F F bb h g P Q u y y' e e' → yb_F F bb h g P Q (zt_ap t u) x x' e e' := by
  intro t
  induction t with
  | leaf => intro u x x' y y' e e' ⟨a1, a2⟩ B; rw [a1, a2]; exact B
  | inner kd kv o l r ihl ihr =>
    intro u x x' y y' e e' ⟨i, k, xl, A1, A2, N, A, B⟩ C
    exact ⟨i, k, xl, A1, A2, N, A, ihr u _ _ _ _ _ _ B C⟩
/-- the types of a forest, as chains -/
theorem yb_chain {i0 : Nat} (hi0 : ∀ j, P j → ¬ j = i0) : ∀ (t : zt_T) (x x' : Int32), (∀ c, ¬ c ∈ [6, 30, 31, 32, 33, 34, 35, 36] → ¬ zt_has c t) → yb_F F bb h g P Q t x x' (-1) (-1) → ∃ ts : List Nat, ts.length = zt_ln t ∧ ya_C h i0 ts x ∧ ya_M g ts x' := by
  intro t
  induction t with
  | leaf => intro x x' _ ⟨a1, a2⟩; exact ⟨[], rfl, a1, a2⟩
  | inner kd kv o l r ihl ihr =>
    intro x x' hE ⟨i, k, xl, ⟨i1, i2, i3⟩, ⟨k1, k2, k3, k4⟩, N, A, B⟩
    obtain ⟨ts, l1, l2, l3⟩ := ihr _ _ (fun c hc hh => hE c hc (.inr hh)) B
    rcases N with N | ⟨ty, t1, t2, t3, _⟩
    · exact absurd (.inl rfl) (hE kd (yb_SE N))
    · exact ⟨ty :: ts, by show ts.length + 1 = 1 + zt_ln r; omega, ⟨i, i2, hi0 i i1, i3, t2, t1, l2⟩, k, k2, k3, t3, t1, l3⟩
end YBF
end
section
/-! The judge: how the model looks at a left spine. -/
/-- what a look at k leaves, on the way up to n -/
def yb_lk (D' : Nat) (Q : Nat → Prop) (sp : Nat) (g : zs_H) (k : Nat) (g' : zs_H) : Prop := ∀ n N, n < 33500 → ¬ Q n → sp < N → (¬ (g'.1 68 29) = 0 → f_Mo_look_L2 (f_Mo_look D') (f_Mo_lookAlone D') N g (nI n) (nI k) = some g') ∧ ((g'.1 68 29) = 0 → ∃ N2, zF ≤ N2 + sp ∧ f_Mo_look_L2 (f_Mo_look D') (f_Mo_lookAlone D') N g (nI n) (nI k) = f_Mo_look_L28 (f_Mo_look D') N2 g' (nI n) (nI k))
section YBL
variable {D' sp k k1 k2 km : Nat} {Q Q1 : Nat → Prop} {g g1 g2 g3 g' : zs_H}
theorem yb_lF {N : Nat} {x1 : Int32} {x2 : Int32} (h : ¬ (g.1 68 29) = 0) : f_Mo_look_L28 (f_Mo_look D') (N + 1) g x1 x2 = some g := by
  rw [zv_uL28]
  unfold f_Mo_look_28
  rw [if_neg h, ite_self]
theorem yb_lk0 (hk : k < 33500) (hkm : km < 100) (h35 : ¬ km = 35) (m1 : (g.2.1 72) k = nI km) (e : f_Mo_lookAlone D' g (nI k) = some g') : yb_lk D' Q sp g k g' := by
  intro n N hn hQ hN
  obtain ⟨N, rfl⟩ : ∃ z, N = z + 1 := ⟨N - 1, by omega⟩
  have e2 : f_Mo_look_L2 (f_Mo_look D') (f_Mo_lookAlone D') (N + 1) g (nI n) (nI k) = f_Mo_look_L28 (f_Mo_look D') zF g' (nI n) (nI k) := by
    rw [zv_uL2]
    unfold f_Mo_look_2
    rw [if_pos (zi_in (by omega) hk), nI_clamp (show k < 2147483648 by omega), m1, if_neg (fun z => h35 ((zc_eq (k := 35) (by decide) (by omega)).mp z)), e, Option.bind_some]
  refine ⟨fun z => ?_, fun z => ⟨zF, by omega, e2⟩⟩
  rw [e2, show zF = 18446744073709551615 + 1 from rfl]
  exact yb_lF z
theorem yb_lk1 (hk : k < 33500) (hQ : ¬ Q k) (hs : sp < 100000) (H : yb_lk D' Q sp g k g') : f_Mo_look (D' + 1) g (nI k) = some g' := by
  have hz := zF_big
  obtain ⟨a1, a2⟩ := H k zF hk hQ (by omega)
  show f_Mo_look_L2 (f_Mo_look D') (f_Mo_lookAlone D') zF g (nI k) (nI k) = _
  by_cases z : (g'.1 68 29) = 0
  · obtain ⟨N2, b1, b2⟩ := a2 z
    obtain ⟨N2, rfl⟩ : ∃ z, N2 = z + 1 := ⟨N2 - 1, by omega⟩
    rw [b2, zv_uL28]
    unfold f_Mo_look_28
    rw [if_pos rfl]
  · exact a1 z
theorem yb_lk35F (hk : k < 33500) (m1 : (g.2.1 72) k = 35) (m2 : (g.2.1 76) k = nI k1) (hQ : ∀ j, Q1 j → Q j) (H : yb_lk D' Q1 sp g k1 g1) (J : ¬ (g1.1 68 29) = 0) : yb_lk D' Q (sp + 1) g k g1 := by
  intro n N hn hQn hN
  obtain ⟨N, rfl⟩ : ∃ z, N = z + 1 := ⟨N - 1, by omega⟩
  have e2 : f_Mo_look_L2 (f_Mo_look D') (f_Mo_lookAlone D') (N + 1) g (nI n) (nI k) = f_Mo_look_L2 (f_Mo_look D') (f_Mo_lookAlone D') N g (nI n) (nI k1) := by
    rw [zv_uL2]
    unfold f_Mo_look_2
    rw [if_pos (zi_in (by omega) hk), nI_clamp (show k < 2147483648 by omega), m1, if_pos rfl, m2]
  exact ⟨fun _ => by rw [e2]; exact (H n N hn (fun z => hQn (hQ _ z)) (by omega)).1 J, fun z => absurd z J⟩
theorem yb_lk35 (hk : k < 33500) (hk1 : k1 < 33500) (hs : sp < 100000) (m1 : (g.2.1 72) k = 35) (m2 : (g.2.1 76) k = nI k1) (hQ : ∀ j, Q1 j → Q j) (hQ1 : Q k1) (H : yb_lk D' Q1 sp g k1 g1) (J : (g1.1 68 29) = 0) (m3 : (g1.2.1 75) k1 = nI k) (m4 : (g1.2.1 77) k = nI k2) (e2 : f_Mo_look D' g1 (nI k2) = some g2) (e3 : (¬ (g2.1 68 29) = 0 ∧ g' = g2) ∨ ((g2.1 68 29) = 0 ∧ f_Mo_lookAtExpressions g2 (nI k) = some g')) : yb_lk D' Q (sp + 1) g k g' := by
  have hz := zF_big
  intro n N hn hQn hN
  obtain ⟨N, rfl⟩ : ∃ z, N = z + 1 := ⟨N - 1, by omega⟩
  obtain ⟨N2, b1, b2⟩ := (H n N hn (fun z => hQn (hQ _ z)) (by omega)).2 J
  obtain ⟨N2, rfl⟩ : ∃ z, N2 = z + 1 + 1 := ⟨N2 - 2, by omega⟩
  have hne : ¬ nI k1 = nI n := fun z => hQn (by rw [← (nI_eq (by omega) (by omega)).mp z]; exact hQ1)
  have e5 : f_Mo_look_L2 (f_Mo_look D') (f_Mo_lookAlone D') (N + 1) g (nI n) (nI k) = f_Mo_look_L28 (f_Mo_look D') (N2 + 1) g' (nI n) (nI k) := by
    rw [zv_uL2]
    unfold f_Mo_look_2
    rw [if_pos (zi_in (by omega) hk), nI_clamp (show k < 2147483648 by omega), m1, if_pos rfl, m2, b2, zv_uL28]
    unfold f_Mo_look_28
    rw [if_neg hne, if_pos J, if_pos (zi_in (by omega) hk1), nI_clamp (show k1 < 2147483648 by omega), m3, if_pos (zi_in (by omega) hk), nI_clamp (show k < 2147483648 by omega), m4, e2, Option.bind_some]
    rcases e3 with ⟨z1, z2⟩ | ⟨z1, z2⟩
    · rw [if_neg z1, z2]
    · rw [if_pos z1, z2, Option.bind_some]
  refine ⟨fun z => ?_, fun z => ⟨N2 + 1, by omega, e5⟩⟩
  rw [e5]
  exact yb_lF z
end YBL
end
section
/-! The judge: an expression is visited: what is given, what comes out; its children one after the other. -/
def yb_cx (LC LM : List (List Int32)) (nb nf sz : Nat) (F : Nat → Nat) (h g : zs_H) : Prop := zv_I LC LM nb nf (F nb) F (-1) h g ∧ zv_si (F nb) h ∧ 0 < nb ∧ (h.1 12 6) = nI sz ∧ sz ≤ 32784
/-- a node with what is below it, on both sides -/
def yb_nd (LC LM : List (List Int32)) (h g : zs_H) (kd : Nat) (kv : Int32 × Int32) (l : zt_T) (i k up : Nat) (P Q : Nat → Prop) (y : Int32) : Prop := (i < 32784 ∧ k < 33500 ∧ ¬ P i ∧ ¬ Q k ∧ (∀ j, P j → j < 32784) ∧ (∀ j, Q j → j < 33500)) ∧ ((h.2.1 13) i = nI kd ∧ (h.2.1 15) i = kv.1 ∧ (h.2.1 16) i = kv.2 ∧ (h.2.1 14) i = 0 ∧ ∀ j, P j → (h.2.1 14) j = 0) ∧ zt_C h l P ((h.2.1 17) i) y ∧ ((g.2.1 72) k = nI (zt_km kd) ∧ (¬ kd = 11 → (g.2.1 73) k = kv.1) ∧ (if zt_nk kd = true then zt_nr LC LM kv.2 ((g.2.1 74) k) else (g.2.1 74) k = kv.2) ∧ (g.2.1 75) k = nI up) ∧ zt_M LC LM g l Q (nI k) ((g.2.1 76) k) ((g.2.1 77) k)
/-- nothing else has been written -/
def yb_out (P Q : Nat → Prop) (h1 g1 h g : zs_H) : Prop := zfr [] [13, 14, 16, 17] [] h1 h ∧ zfr [] [100, 101, 102] [] g1 g ∧ (∀ j, ¬ P j → (h.2.1 13) j = (h1.2.1 13) j ∧ (h.2.1 14) j = (h1.2.1 14) j ∧ (h.2.1 16) j = (h1.2.1 16) j ∧ (h.2.1 17) j = (h1.2.1 17) j) ∧ (∀ j, ¬ Q j → (g.2.1 100) j = (g1.2.1 100) j ∧ (g.2.1 101) j = (g1.2.1 101) j ∧ (g.2.1 102) j = (g1.2.1 102) j)
theorem yb_out0 {P Q : Nat → Prop} {h g : zs_H} : yb_out P Q h g h g := ⟨zfr_rfl, zfr_rfl, fun _ _ => ⟨rfl, rfl, rfl, rfl⟩, fun _ _ => ⟨rfl, rfl, rfl⟩⟩
theorem yb_outt {P Q P' Q' : Nat → Prop} {h1 g1 h2 g2 h g : zs_H} (a : yb_out P' Q' h1 g1 h2 g2) (b : yb_out P Q h2 g2 h g) : yb_out (fun j => P' j ∨ P j) (fun j => Q' j ∨ Q j) h1 g1 h g := by
  obtain ⟨a1, a2, a3, a4⟩ := a
  obtain ⟨b1, b2, b3, b4⟩ := b
  refine ⟨zfr_trans a1 b1, zfr_trans a2 b2, fun j hj => ?_, fun j hj => ?_⟩
  · obtain ⟨x1, x2, x3, x4⟩ := a3 j (fun z => hj (.inl z))
    obtain ⟨y1, y2, y3, y4⟩ := b3 j (fun z => hj (.inr z))
    exact ⟨y1.trans x1, y2.trans x2, y3.trans x3, y4.trans x4⟩
  · obtain ⟨x1, x2, x3⟩ := a4 j (fun z => hj (.inl z))
    obtain ⟨y1, y2, y3⟩ := b4 j (fun z => hj (.inr z))
    exact ⟨y1.trans x1, y2.trans x2, y3.trans x3⟩
theorem yb_outm {P Q P' Q' : Nat → Prop} {h1 g1 h g : zs_H} (a : yb_out P Q h1 g1 h g) (hP : ∀ j, P j → P' j) (hQ : ∀ j, Q j → Q' j) : yb_out P' Q' h1 g1 h g := ⟨a.1, a.2.1, fun j hj => a.2.2.1 j (fun z => hj (hP j z)), fun j hj => a.2.2.2 j (fun z => hj (hQ j z))⟩
def yb_ok (F : Nat → Nat) (bb kd : Nat) (kv : Int32 × Int32) (l : zt_T) (i k : Nat) (P Q : Nat → Prop) (h g h' g' : zs_H) : Prop := yb_out (fun j => P j ∨ j = i) (fun j => Q j ∨ j = k) h g h' g' ∧ yb_F F bb h' g' (fun j => P j ∨ j = i) (fun j => Q j ∨ j = k) (.inner kd kv () l .leaf) (nI i) (nI k) ((h'.2.1 18) i) ((g'.2.1 78) k)
/-- this node can be visited, wherever it stands -/
def yb_VN (kd : Nat) (kv : Int32 × Int32) (l : zt_T) : Prop := ∀ (LC LM : List (List Int32)) (nb nf sz : Nat) (F : Nat → Nat) (h g : zs_H) (i k up ku d D D' : Nat) (P Q : Nat → Prop) (y : Int32), yb_cx LC LM nb nf sz F h g → yb_nd LC LM h g kd kv l i k up P Q y → up < 33500 → (g.2.1 72) up = nI ku → ku < 100 → ¬ ku = 5 → ¬ ku = 33 → (∀ j, P j → j < sz) → d + zg_d l ≤ 240 → zg_d l < D → 2 * zg_d l + 1 < D' →
  ∃ h' g', f_Jd_visit D h (nI i) (nI d) = some h' ∧ yb_lk D' Q (zg_d l) g k g' ∧ ((zv_Fb h g h' g' ∧ ¬ (h'.1 38 3) = 0 ∧ ¬ (g'.1 68 29) = 0) ∨ (yb_ok F (nb - 1) kd kv l i k P Q h g h' g' ∧ (h'.1 38 3) = 0 ∧ (g'.1 68 29) = 0))
abbrev yb_E : List Nat := [6, 30, 31, 32, 33, 34, 35, 36]
/-- all trees of a forest can be visited -/
def yb_Ph : zt_T → Prop
  | .leaf => True
  | .inner kd kv _ l r => (kd ∈ yb_E ∧ yb_VN kd kv l) ∧ yb_Ph r
section YBW
variable {LC LM : List (List Int32)} {nb nf sz : Nat} {F : Nat → Nat} {h1 g1 h g h' g' : zs_H} {P Q : Nat → Prop}
theorem yb_cxf (C : yb_cx LC LM nb nf sz F h1 g1) (f1 : zfr [] [13, 14, 16, 17] [] h1 h) (f2 : zfr [] [100, 101, 102] [] g1 g) : yb_cx LC LM nb nf sz F h g := by
  obtain ⟨I, si, hb, hs, hs2⟩ := C
  refine ⟨zv_Ifr I (zfr_w f1 (by decide) (by decide) (by decide)) (zfr_w f2 (by decide) (by decide) (by decide)), fun v hv hh => ?_, hb, (f1.1 _ _ List.not_mem_nil).trans hs, hs2⟩
  rw [f1.2.1 _ (by decide)] at hh ⊢
  exact si v hv hh
theorem yb_bF (C : yb_cx LC LM nb nf sz F h g) : ∀ b, b < nb - 1 → F (b + 1) ≤ F (nb - 1 + 1) := by
  intro b hb
  obtain ⟨I, _, hb0, _⟩ := C
  rw [show nb - 1 + 1 = nb by omega]
  exact (I.2.1.2.2.2.1 b (by omega)).2
/-- annotations outlast what is written elsewhere -/
theorem yb_keep {Pw Qw P1 Q1 : Nat → Prop} (C : yb_cx LC LM nb nf sz F h g) (O : yb_out P1 Q1 h g h' g') (hP : ∀ j, Pw j → j < 32784 ∧ ¬ P1 j) (hQ : ∀ j, Qw j → ¬ Q1 j) {t : zt_T} {x x' e e' : Int32} (A : yb_F F (nb - 1) h g Pw Qw t x x' e e') : yb_F F (nb - 1) h' g' Pw Qw t x x' e e' := by
  obtain ⟨f1, f2, o1, o2⟩ := O
  refine yb_Ff ⟨fun j hj => ?_, fun j hj => ?_, fun j _ => ⟨?_, ?_, ?_, ?_, ?_⟩, fun b _ => ?_, yb_bF C⟩ _ _ _ _ _ A
  · obtain ⟨a1, a2, a3, a4⟩ := o1 j (hP j hj).2
    exact ⟨(hP j hj).1, a1, a2, a3, a4, by rw [f1.2.1 _ (by decide)]⟩
  · obtain ⟨a1, a2, a3⟩ := o2 j (hQ j hj)
    exact ⟨a1, fun _ _ => a2, fun _ => a3, by rw [f2.2.1 _ (by decide)], by rw [f2.2.1 _ (by decide)], by rw [f2.2.1 _ (by decide)]⟩
  · rw [f1.2.1 _ (by decide)]
  · rw [f1.2.1 _ (by decide)]
  · rw [f1.2.1 _ (by decide)]
  · rw [f1.2.1 _ (by decide)]
  · rw [f1.2.1 _ (by decide)]
  · rw [f1.2.1 _ (by decide)]
theorem yb_keepC {Pu P1 Q1 : Nat → Prop} (O : yb_out P1 Q1 h g h' g') (hP : ∀ j, Pu j → ¬ P1 j) {t : zt_T} {x y : Int32} (A : zt_C h t Pu x y) : zt_C h' t Pu x y := by
  obtain ⟨f1, f2, o1, o2⟩ := O
  refine zt_fr t Pu Pu 0 x y (fun i hi => ?_) (fun i hi => hi) A
  obtain ⟨a1, a2, a3, a4⟩ := o1 i (hP i hi)
  exact ⟨fun kd k up z hz => by unfold zt_NC at hz ⊢; rw [a1, a3, f1.2.1 15 (by decide)]; exact hz, a4, by rw [f1.2.1 _ (by decide)]⟩
theorem yb_keepM {Qu : Nat → Prop} (f2 : zfr [] [100, 101, 102] [] g g') {t : zt_T} {up x y : Int32} (A : zt_M LC LM g t Qu up x y) : zt_M LC LM g' t Qu up x y := by
  have E : ∀ z, ¬ z ∈ [100, 101, 102] → g'.2.1 z = g.2.1 z := fun z hz => f2.2.1 z hz
  refine zt_fr t Qu Qu up x y (fun i hi => ⟨fun kd k up z hz => ?_, by rw [E _ (by decide)], by rw [E _ (by decide)]⟩) (fun i hi => hi) A
  unfold zt_NM at hz ⊢
  rw [E 72 (by decide), E 73 (by decide), E 74 (by decide), E 75 (by decide), E 77 (by decide)]
  exact hz
/-- the state of the walk through the children -/
def yb_St (LC LM : List (List Int32)) (nb : Nat) (F : Nat → Nat) (i k : Nat) (l : zt_T) (P Q : Nat → Prop) (h1 g1 : zs_H) (u : zt_T) (h g : zs_H) (x x' : Int32) : Prop :=
  ∃ (w : zt_T) (Pw Qw Pu Qu : Nat → Prop) (yu yu' : Int32), l = zt_ap w u ∧ (zt_C h u Pu x yu ∧ zt_M LC LM g u Qu (nI k) x' yu') ∧ ((∀ j, Pu j → P j) ∧ (∀ j, Qu j → Q j) ∧ (∀ j, Pw j → P j ∧ ¬ Pu j) ∧ (∀ j, Qw j → Q j ∧ ¬ Qu j)) ∧ yb_F F (nb - 1) h g Pw Qw w ((h1.2.1 17) i) ((g1.2.1 76) k) x x' ∧ (∀ j, Pu j → (h.2.1 14) j = 0) ∧ yb_out P Q h1 g1 h g ∧ yb_Ph u ∧ (zg_d u ≤ zg_d l ∧ (h.1 38 3) = 0 ∧ (g.1 68 29) = 0)
theorem yb_step {i k ku d D D' c : Nat} {l lc r : zt_T} {kv : Int32 × Int32} {o : Unit} {x x' : Int32} (C : yb_cx LC LM nb nf sz F h1 g1) (hk : k < 33500) (hP : ∀ j, P j → j < 32784) (hPs : ∀ j, P j → j < sz) (hQ : ∀ j, Q j → j < 33500) (m1 : (g1.2.1 72) k = nI ku) (hku : ku < 100) (h5 : ¬ ku = 5) (h33 : ¬ ku = 33) (hd : d + zg_d l ≤ 240) (hD : zg_d l ≤ D) (hD' : 2 * zg_d l ≤ D') (S : yb_St LC LM nb F i k l P Q h1 g1 (.inner c kv o lc r) h g x x') :
    zv_res D (D' + 1) d sz h1 g1 (yb_St LC LM nb F i k l P Q h1 g1 r) h g x x' := by
  obtain ⟨w, Pw, Qw, Pu, Qu, yu, yu', e0, ⟨sC, sM⟩, ⟨p1, p2, p3, p4⟩, A, ty, O, ⟨⟨cE, VN⟩, Ph⟩, zd, J1, J2⟩ := S
  have C2 : yb_cx LC LM nb nf sz F h g := yb_cxf C O.1 O.2.1
  have zd' : max (zg_d lc + 1) (zg_d r) ≤ zg_d l := Nat.le_trans zg_d1 zd
  obtain ⟨a, P1, P2, z1, z2, ea, a1, a2, a3, a4, a5, a6, a7, a8, a9, a10⟩ := zv_hC sC
  obtain ⟨b, Q1, Q2, z3, eb, b1, b2, b3, b4, b5, b6, b7, b8, b9, b10, b11⟩ := zv_hM sM
  have ha := hP a (p1 a a2)
  have hbb := hQ b (p2 b b2)
  have nd : yb_nd LC LM h g c kv lc a b k P1 Q1 z1 := ⟨⟨ha, hbb, fun z => (a6 a z).2.1 rfl, fun z => (b7 b z).2.1 rfl, fun j hj => hP j (p1 j (a6 j hj).1), fun j hj => hQ j (p2 j (b7 j hj).1)⟩, ⟨a3, a4, a5, ty a a2, fun j hj => ty j (a6 j hj).1⟩, a8, ⟨b3, b4, b5, b6⟩, b9⟩
  obtain ⟨h', g', v1, v2, v3⟩ := VN LC LM nb nf sz F h g a b k ku (d + 1) D D' P1 Q1 z1 C2 nd hk (by rw [O.2.1.2.1 _ (by decide)]; exact m1) hku h5 h33 (fun j hj => hPs j (p1 j (a6 j hj).1)) (by omega) (by omega) (by omega)
  refine ⟨a, b, ea, ha, eb, hbb, J1, J2, C2.2.2.2.1, h', g', v1, yb_lk1 hbb (fun z => (b7 b z).2.1 rfl) (by omega) v2, ?_⟩
  rcases v3 with ⟨⟨X, f1, f2⟩, n1, n2⟩ | ⟨⟨O2, B⟩, n1, n2⟩
  · exact .inl ⟨⟨X, zfr_trans (zfr_w O.1 (by decide) (by decide) (by decide)) f1, zfr_trans (zfr_w O.2.1 (by decide) (by decide) (by decide)) f2⟩, n1, n2⟩
  · right
    have nx : (h'.2.1 18) a = (h.2.1 18) a := by rw [O2.1.2.1 _ (by decide)]
    have nb' : (g'.2.1 78) b = (g.2.1 78) b := by rw [O2.2.1.2.1 _ (by decide)]
    refine ⟨zt_ap w (.inner c kv o lc .leaf), fun j => Pw j ∨ (P1 j ∨ j = a), fun j => Qw j ∨ (Q1 j ∨ j = b), P2, Q2, z2, z3, ?_, ⟨?_, ?_⟩, ⟨fun j hj => p1 j (a7 j hj).1, fun j hj => p2 j (b8 j hj).1, fun j hj => ?_, fun j hj => ?_⟩, ?_, fun j hj => ?_, ?_, Ph, by omega, n1, n2⟩
    · rw [zt_ap_as]; exact e0
    · rw [nx]
      exact yb_keepC O2 (fun j hj z => z.elim (fun z => (a6 j z).2.2 hj) (fun z => (a7 j hj).2 z)) a9
    · rw [nb']
      exact yb_keepM O2.2.1 b10
    · rcases hj with z | z | z
      · exact ⟨(p3 j z).1, fun u => (p3 j z).2 (a7 j u).1⟩
      · exact ⟨p1 j (a6 j z).1, (a6 j z).2.2⟩
      · exact ⟨by rw [z]; exact p1 a a2, fun u => (a7 j u).2 z⟩
    · rcases hj with z | z | z
      · exact ⟨(p4 j z).1, fun u => (p4 j z).2 (b8 j u).1⟩
      · exact ⟨p2 j (b7 j z).1, (b7 j z).2.2⟩
      · exact ⟨by rw [z]; exact p2 b b2, fun u => (b8 j u).2 z⟩
    · have A' := yb_keep C2 O2 (fun j hj => ⟨hP j (p3 j hj).1, fun z => (p3 j hj).2 (z.elim (fun z => (a6 j z).1) (fun z => by rw [z]; exact a2))⟩) (fun j hj z => (p4 j hj).2 (z.elim (fun z => (b7 j z).1) (fun z => by rw [z]; exact b2))) A
      refine yb_ap w _ _ _ _ _ _ _ (yb_Fm (fun _ z => .inl z) (fun _ z => .inl z) _ _ _ _ _ A') ?_
      rw [ea, eb]
      exact yb_Fm (fun _ z => .inr z) (fun _ z => .inr z) _ _ _ _ _ B
    · obtain ⟨t1, t2, _⟩ := O2.2.2.1 j (fun z => z.elim (fun z => (a6 j z).2.2 hj) (fun z => (a7 j hj).2 z))
      rw [t2]; exact ty j (a7 j hj).1
    · refine yb_outm (yb_outt O O2) (fun j z => z.elim id (fun z => z.elim (fun z => p1 j (a6 j z).1) (fun z => by rw [z]; exact p1 a a2))) (fun j z => z.elim id (fun z => z.elim (fun z => p2 j (b7 j z).1) (fun z => by rw [z]; exact p2 b b2)))
end YBW
end
section
/-! The judge: an expression's children; what expressions there are. -/
def yb_top : zt_T → Prop
  | .leaf => True
  | .inner kd _ _ _ r => kd ∈ yb_E ∧ yb_top r
theorem yb_top38 : ∀ t, yb_top t → ∀ c, ¬ c ∈ [6, 30, 31, 32, 33, 34, 35, 36] → ¬ zt_has c t := by
  intro t
  induction t with
  | leaf => intro _ c _ h; exact h
  | inner kd kv o l r ihl ihr =>
    intro ⟨h1, h2⟩ c hc h
    rcases h with e | e
    · rw [e] at h1; exact hc h1
    · exact ihr h2 c hc e
/-- a state that is no end, and a state behind which nothing comes -/
theorem yb_run {kd st : Nat} {c : Nat} {kv : Int32 × Int32} {o : Unit} {lc r : zt_T} (h : zg_A kd (zg_run kd st (.inner c kv o lc r)) = true) : ¬ zg_q kd st c = 99 := fun z => by
  have : zg_run kd st (.inner c kv o lc r) = 99 := by show zg_run kd (zg_q kd st c) r = 99; rw [z]; exact zv_q99 kd r
  rw [this, zv_A99] at h
  exact absurd h (by decide)
theorem yb_g1 {kd : Nat} {l : zt_T} (hk : kd = 32 ∨ kd = 36) (h : zg_A kd (zg_run kd 0 l) = true) : ∃ c kv o lc, l = .inner c kv o lc .leaf ∧ c ∈ yb_E := by
  have key : ∀ r ∈ zg_R, (r.1 = 32 ∨ r.1 = 36) → r.2 = (0, yb_E, 1) := by decide +kernel
  cases l with
  | leaf => rcases hk with e | e <;> rw [e] at h <;> exact absurd h (by decide)
  | inner c kv o lc r =>
    obtain ⟨cs, to, m1, m2, m3⟩ := zv_qR (yb_run h)
    have k1 := key _ m1 hk
    simp only [Prod.mk.injEq] at k1
    obtain ⟨_, e2, e3⟩ := k1
    rw [e2] at m2
    have h' : zg_A kd (zg_run kd 1 r) = true := by
      have : zg_run kd 0 (.inner c kv o lc r) = zg_run kd 1 r := by show zg_run kd (zg_q kd 0 c) r = _; rw [m3, e3]
      rw [← this]; exact h
    cases r with
    | leaf => exact ⟨c, kv, o, lc, rfl, m2⟩
    | inner c2 kv2 o2 lc2 r2 =>
      obtain ⟨cs, to, m1, _, _⟩ := zv_qR (yb_run h')
      have k1 := key _ m1 hk
      simp only [Prod.mk.injEq] at k1
      exact absurd k1.1 (by decide)
theorem yb_g2 {l : zt_T} (h : zg_A 35 (zg_run 35 0 l) = true) : ∃ c kv o lc c2 kv2 o2 lc2, l = .inner c kv o lc (.inner c2 kv2 o2 lc2 .leaf) ∧ c ∈ yb_E ∧ c2 ∈ yb_E := by
  have key : ∀ r ∈ zg_R, r.1 = 35 → r.2 = (0, yb_E, 1) ∨ r.2 = (1, yb_E, 2) := by decide +kernel
  cases l with
  | leaf => exact absurd h (by decide)
  | inner c kv o lc r =>
    obtain ⟨cs, to, m1, m2, m3⟩ := zv_qR (yb_run h)
    have k1 := key _ m1 rfl
    simp only [Prod.mk.injEq] at k1
    obtain ⟨e2, e3⟩ : cs = yb_E ∧ to = 1 := by
      rcases k1 with ⟨_, a, b⟩ | ⟨a, _⟩
      · exact ⟨a, b⟩
      · exact absurd a (by decide)
    rw [e2] at m2
    have h' : zg_A 35 (zg_run 35 1 r) = true := by
      have : zg_run 35 0 (.inner c kv o lc r) = zg_run 35 1 r := by show zg_run 35 (zg_q 35 0 c) r = _; rw [m3, e3]
      rw [← this]; exact h
    cases r with
    | leaf => exact absurd h' (by decide)
    | inner c2 kv2 o2 lc2 r2 =>
      obtain ⟨cs, to, n1, n2, n3⟩ := zv_qR (yb_run h')
      have k1 := key _ n1 rfl
      simp only [Prod.mk.injEq] at k1
      obtain ⟨e2, e3⟩ : cs = yb_E ∧ to = 2 := by
        rcases k1 with ⟨a, _⟩ | ⟨_, a, b⟩
        · exact absurd a (by decide)
        · exact ⟨a, b⟩
      rw [e2] at n2
      have h2 : zg_A 35 (zg_run 35 2 r2) = true := by
        have : zg_run 35 1 (.inner c2 kv2 o2 lc2 r2) = zg_run 35 2 r2 := by show zg_run 35 (zg_q 35 1 c2) r2 = _; rw [n3, e3]
        rw [← this]; exact h'
      cases r2 with
      | leaf => exact ⟨c, kv, o, lc, c2, kv2, o2, lc2, rfl, m2, n2⟩
      | inner c3 kv3 o3 lc3 r3 =>
        obtain ⟨cs, to, n1, _, _⟩ := zv_qR (yb_run h2)
        have k1 := key _ n1 rfl
        simp only [Prod.mk.injEq] at k1
        rcases k1 with ⟨a, _⟩ | ⟨a, _⟩ <;> exact absurd a (by decide)
theorem yb_g34 : ∀ {l : zt_T}, zg_A 34 (zg_run 34 0 l) = true → yb_top l := by
  have key : ∀ r ∈ zg_R, r.1 = 34 → r.2 = (0, yb_E, 0) := by decide +kernel
  intro l
  induction l with
  | leaf => intro _; trivial
  | inner c kv o lc r _ ihr =>
    intro h
    obtain ⟨cs, to, m1, m2, m3⟩ := zv_qR (yb_run h)
    have k1 := key _ m1 rfl
    simp only [Prod.mk.injEq] at k1
    obtain ⟨_, e2, e3⟩ := k1
    rw [e2] at m2
    refine ⟨m2, ihr ?_⟩
    have : zg_run 34 0 (.inner c kv o lc r) = zg_run 34 0 r := by show zg_run 34 (zg_q 34 0 c) r = _; rw [m3, e3]
    rw [← this]; exact h
theorem yb_g33 {l : zt_T} (hok : zg_ok l) (h : zg_A 33 (zg_run 33 0 l) = true) : ∃ kv o, l = .inner 38 kv o .leaf .leaf := by
  have key : ∀ r ∈ zg_R, r.1 = 33 → r.2 = (0, [38], 1) := by decide +kernel
  cases l with
  | leaf => exact absurd h (by decide)
  | inner c kv o lc r =>
    obtain ⟨cs, to, m1, m2, m3⟩ := zv_qR (yb_run h)
    have k1 := key _ m1 rfl
    simp only [Prod.mk.injEq] at k1
    obtain ⟨_, e2, e3⟩ := k1
    rw [e2] at m2
    have ec : c = 38 := List.mem_singleton.mp m2
    subst ec
    have h' : zg_A 33 (zg_run 33 1 r) = true := by
      have : zg_run 33 0 (.inner 38 kv o lc r) = zg_run 33 1 r := by show zg_run 33 (zg_q 33 0 38) r = _; rw [m3, e3]
      rw [← this]; exact h
    have el : lc = .leaf := zv_nolf (kd := 38) (by decide +kernel) hok.1.1
    subst el
    cases r with
    | leaf => exact ⟨kv, o, rfl⟩
    | inner c2 kv2 o2 lc2 r2 =>
      obtain ⟨cs, to, n1, _, _⟩ := zv_qR (yb_run h')
      have k1 := key _ n1 rfl
      simp only [Prod.mk.injEq] at k1
      exact absurd k1.1 (by decide)
section YBK
variable {LC LM : List (List Int32)} {nb nf sz : Nat} {F : Nat → Nat} {h g : zs_H} {P Q : Nat → Prop} {i k up d D D' kd : Nat} {kv : Int32 × Int32} {l : zt_T} {y : Int32}
theorem yb_ln (nd : yb_nd LC LM h g kd kv l i k up P Q y) (hPs : ∀ j, P j → j < sz) : zt_ln l ≤ sz := Nat.le_trans (zv_lnsz l) (Nat.le_trans (zt_sz_le l P _ _ _ sz nd.2.2.1 hPs) (zc_cnt_le _ _))
/-- the children of a node that is no sign between two -/
theorem yb_kids (C : yb_cx LC LM nb nf sz F h g) (nd : yb_nd LC LM h g kd kv l i k up P Q y) (hkd : kd = 32 ∨ kd = 34 ∨ kd = 36) (Ph : yb_Ph l) (hPs : ∀ j, P j → j < sz) (hd : d + zg_d l ≤ 240) (hD : zg_d l ≤ D) (hD' : 2 * zg_d l ≤ D') :
    (∃ h' g', f_Jd_visit (D + 1) h (nI i) (nI d) = some h' ∧ f_Mo_lookAlone (D' + 2) g (nI k) = some g' ∧ zv_Fb h g h' g' ∧ ¬ (h'.1 38 3) = 0 ∧ ¬ (g'.1 68 29) = 0) ∨
    (∃ h2 g2, f_Jd_visit (D + 1) h (nI i) (nI d) = f_Jd_leave h2 (nI i) ∧ f_Mo_lookAlone (D' + 2) g (nI k) = f_Mo_lookAtExpressions g2 (nI k) ∧ yb_out P Q h g h2 g2 ∧ yb_F F (nb - 1) h2 g2 P Q l ((h.2.1 17) i) ((g.2.1 76) k) (-1) (-1) ∧ (h2.1 38 3) = 0 ∧ (g2.1 68 29) = 0) := by
  have hz := zF_big
  obtain ⟨⟨hi, hk, hPi, hQk, hP, hQ⟩, ⟨c0, c1, c2, c3, c4⟩, cC, ⟨m0, m1, m2, m3⟩, cM⟩ := id nd
  have hln := yb_ln nd hPs
  have ekm : zt_km kd = kd := by rcases hkd with e | e | e <;> rw [e] <;> rfl
  rw [ekm] at m0
  have J1 : (h.1 38 3) = 0 := C.1.2.2.2.2.2.2.2.1
  have J2 : (g.1 68 29) = 0 := C.1.2.2.2.2.2.2.2.2
  have hsz : sz < 100000 := by have := C.2.2.2.2; omega
  have hke : ¬ kd ∈ [1, 2, 3, 4, 5, 13, 16, 19, 22, 24] := by rcases hkd with e | e | e <;> rw [e] <;> decide
  have eC := zv_vC (D := D) (d := d) (h := h) (i := i) (by omega) hi (zv_ent0 hi (by omega) c0 hke)
  have eM := zv_aM (D' := D' + 1) (g := g) (k := k) (kd := kd) hk (by omega) (by omega) m0
  have S0 : yb_St LC LM nb F i k l P Q h g l h g ((h.2.1 17) i) ((g.2.1 76) k) := ⟨.leaf, fun _ => False, fun _ => False, P, Q, y, (g.2.1 77) k, rfl, ⟨cC, cM⟩, ⟨fun _ z => z, fun _ z => z, fun _ z => z.elim, fun _ z => z.elim⟩, ⟨rfl, rfl⟩, c4, yb_out0, Ph, Nat.le_refl _, J1, J2⟩
  have stp : zv_stp D (D' + 1) d sz (yb_St LC LM nb F i k l P Q h g) (zv_Fb h g) := by
    intro c kv w lc r h' g' x x' S
    exact yb_step C hk hP hPs hQ m0 (by omega) (by omega) (by omega) hd hD hD' S
  have hend : ∀ h' g' x x', yb_St LC LM nb F i k l P Q h g .leaf h' g' x x' → x = -1 ∧ x' = -1 := by
    intro h' g' x x' S
    obtain ⟨_, _, _, _, _, yu, yu', _, ⟨sC, sM⟩, _⟩ := S
    exact ⟨(show x = -1 ∧ yu = -1 from sC).1, (show x' = -1 ∧ yu' = -1 from sM).1⟩
  rcases zv_fold (i := i) (k := k) (kd := kd) (d := d) (by omega) hsz stp hend l 0 zF zF h g _ _ S0 (by omega) (by omega) (by omega) with ⟨h', g', a1, a2, a3, a4, a5⟩ | ⟨h', g', a1, a2, a3⟩
  · exact .inl ⟨h', g', by rw [eC, a1], by rw [eM, a2], a3, a4, a5⟩
  · right
    obtain ⟨w, Pw, Qw, Pu, Qu, yu, yu', e0, _, ⟨_, _, p3, p4⟩, A, _, O, _, _, n1, n2⟩ := a1
    rw [zt_ap_leaf] at e0
    subst e0
    refine ⟨h', g', ?_, ?_, O, yb_Fm (fun j z => (p3 j z).1) (fun j z => (p4 j z).1) _ _ _ _ _ A, n1, n2⟩
    · rw [eC, a2]
      unfold f_Jd_visit_74
      rw [if_pos n1, Option.bind_fun_some]
    · rw [eM, a3, zv_54E (by omega) (by omega) n2]
/-- a node without children -/
theorem yb_lf (C : yb_cx LC LM nb nf sz F h g) (nd : yb_nd LC LM h g kd kv .leaf i k up P Q y) (hkd : kd = 6 ∨ kd = 30 ∨ kd = 31) (hd : d ≤ 240) : f_Jd_visit (D + 1) h (nI i) (nI d) = f_Jd_leave h (nI i) ∧ f_Mo_lookAlone (D' + 1) g (nI k) = f_Mo_lookAlone_54 g (nI k) (nI kd) := by
  obtain ⟨⟨hi, hk, hPi, hQk, hP, hQ⟩, ⟨c0, c1, c2, c3, c4⟩, cC, ⟨m0, m1, m2, m3⟩, cM⟩ := nd
  have ekm : zt_km kd = kd := by rcases hkd with e | e | e <;> rw [e] <;> rfl
  rw [ekm] at m0
  have J1 : (h.1 38 3) = 0 := C.1.2.2.2.2.2.2.2.1
  have hke : ¬ kd ∈ [1, 2, 3, 4, 5, 13, 16, 19, 22, 24] := by rcases hkd with e | e | e <;> rw [e] <;> decide
  have e1 : (h.2.1 17) i = -1 := (show (h.2.1 17) i = -1 ∧ y = -1 from cC).1
  have e2 : (g.2.1 76) k = -1 := (show (g.2.1 76) k = -1 ∧ (g.2.1 77) k = -1 from cM).1
  refine ⟨?_, ?_⟩
  · rw [zv_vC hd hi (zv_ent0 hi (by omega) c0 hke), e1, show zF = 18446744073709551615 + 1 from rfl, zv_enC]
    unfold f_Jd_visit_74
    rw [if_pos J1, Option.bind_fun_some]
  · rw [zv_aM hk (by omega) (by omega) m0, e2, show zF = 18446744073709551615 + 1 from rfl, zv_enM]
end YBK
end
section
/-! The judge: an expression is visited: names, constants, elements, signs before one, calls. -/
section YBH
variable {LC LM : List (List Int32)} {nb nf sz : Nat} {F : Nat → Nat} {h g h2 g2 h' g' : zs_H} {P Q : Nat → Prop} {i k up d D D' kd : Nat} {kv : Int32 × Int32} {l : zt_T} {y : Int32}
theorem zv_uq {c u : Nat} {q w : Int32} (I : zv_I LC LM nb nf (F nb) F q h g) (hb : 0 < nb) (hc : c < 6000) (hw : zt_nr LC LM (nI c) w) (hu : u < 2147483648) (e : f_Mo_variable g ((g.1 68 54)) w = some (nI u)) : (h.2.1 28) (32 + u) = nI c ∧ ∀ j, F (nb - 1) ≤ j → j < F nb → (h.2.1 28) (32 + j) = nI c → j = u := by
  obtain ⟨HS, HB, HN, HV, HC, HT, HJ, J1, J2⟩ := I
  have V3 : F nb ≤ 5900 := HB.2.1.2.2
  rw [(HJ hb).2] at e
  rcases zv_here HS HB HN hb hc hw with ⟨v, v1, v2, v3, v4, v5⟩ | ⟨z1, z2, _⟩
  · rw [v5] at e
    have ev : v = u := (nI_eq (by omega) hu).mp (Option.some.inj e)
    subst ev
    refine ⟨v3, fun j j1 j2 j3 => ?_⟩
    obtain ⟨c1, a1, a2, a3⟩ := HN.2.2 j j1 j2
    obtain ⟨c2, b1, b2, b3⟩ := HN.2.2 v v1 v2
    have ec1 : c1 = c := by rw [j3] at a2; exact ((nI_eq (by omega) (by omega)).mp a2).symm
    have ec2 : c2 = c := by rw [v3] at b2; exact ((nI_eq (by omega) (by omega)).mp b2).symm
    rw [ec1] at a3
    rw [ec2, a3] at b3
    have := (nI_eq (by omega) (by omega)).mp b3
    omega
  · rw [z2] at e
    exact absurd (Option.some.inj e).symm (zc_m1 (by omega))
/-- what has been written at the node itself -/
theorem yb_fin (C : yb_cx LC LM nb nf sz F h g) (nd : yb_nd LC LM h g kd kv l i k up P Q y) (O : yb_out P Q h g h2 g2) (A : yb_F F (nb - 1) h2 g2 P Q l ((h.2.1 17) i) ((g.2.1 76) k) (-1) (-1)) (W : yb_out (fun j => j = i) (fun j => j = k) h2 g2 h' g') (N : yb_N F (nb - 1) h' g' P Q kd kv.2 i k ((h.2.1 17) i) (zt_ln l)) : yb_ok F (nb - 1) kd kv l i k P Q h g h' g' := by
  obtain ⟨⟨hi, hk, hPi, hQk, hP, hQ⟩, _, _, ⟨m0, _⟩, _⟩ := nd
  have C2 := yb_cxf C O.1 O.2.1
  have A2 := yb_keep C2 W (fun j hj => ⟨hP j hj, fun z => hPi (by rw [← z]; exact hj)⟩) (fun j hj z => hQk (by rw [← z]; exact hj)) A
  have ef : (g'.2.1 76) k = (g.2.1 76) k := by rw [W.2.1.2.1 _ (by decide), O.2.1.2.1 _ (by decide)]
  exact ⟨yb_outt O W, i, k, (h.2.1 17) i, ⟨.inr rfl, hi, rfl⟩, ⟨.inr rfl, hk, rfl, by rw [W.2.1.2.1 _ (by decide), O.2.1.2.1 _ (by decide)]; exact m0⟩, yb_Nm (fun _ z => .inl z) (fun _ z => .inl z) N, by rw [ef]; exact yb_Fm (fun _ z => .inl z) (fun _ z => .inl z) _ _ _ _ _ A2, rfl, rfl⟩
theorem yb_w1 {z v : Int32} {a : Nat} (W : yb_out (fun j => j = i) (fun j => j = k) h g h' g') : yb_out (fun j => j = i) (fun j => j = k) h g (zs_uM h' 14 i z) g' ∧ yb_out (fun j => j = i) (fun j => j = k) h g (zs_uM h' 16 i z) g' ∧ yb_out (fun j => j = i) (fun j => j = k) h g (zs_uM h' 13 i z) g' ∧ yb_out (fun j => j = i) (fun j => j = k) h g (zs_uM h' 17 i z) g' ∧ yb_out (fun j => j = i) (fun j => j = k) h g h' (zs_uM g' 100 k z) ∧ yb_out (fun j => j = i) (fun j => j = k) h g h' (zs_uM g' 101 k z) ∧ yb_out (fun j => j = i) (fun j => j = k) h g h' (zs_uM g' 102 k z) := by
  obtain ⟨f1, f2, o1, o2⟩ := W
  have E : ∀ (c x j : Nat) (hh : zs_H), ¬ j = i → (zs_uM hh c i z).2.1 x j = hh.2.1 x j := fun c x j hh hj => by rw [zu_MM, if_neg (fun u => hj u.2)]
  have G : ∀ (c x j : Nat) (hh : zs_H), ¬ j = k → (zs_uM hh c k z).2.1 x j = hh.2.1 x j := fun c x j hh hj => by rw [zu_MM, if_neg (fun u => hj u.2)]
  refine ⟨⟨zfr_M (by decide) f1, f2, fun j hj => ?_, o2⟩, ⟨zfr_M (by decide) f1, f2, fun j hj => ?_, o2⟩, ⟨zfr_M (by decide) f1, f2, fun j hj => ?_, o2⟩, ⟨zfr_M (by decide) f1, f2, fun j hj => ?_, o2⟩, ⟨f1, zfr_M (by decide) f2, o1, fun j hj => ?_⟩, ⟨f1, zfr_M (by decide) f2, o1, fun j hj => ?_⟩, ⟨f1, zfr_M (by decide) f2, o1, fun j hj => ?_⟩⟩
  · rw [E _ _ _ _ hj, E _ _ _ _ hj, E _ _ _ _ hj, E _ _ _ _ hj]; exact o1 j hj
  · rw [E _ _ _ _ hj, E _ _ _ _ hj, E _ _ _ _ hj, E _ _ _ _ hj]; exact o1 j hj
  · rw [E _ _ _ _ hj, E _ _ _ _ hj, E _ _ _ _ hj, E _ _ _ _ hj]; exact o1 j hj
  · rw [E _ _ _ _ hj, E _ _ _ _ hj, E _ _ _ _ hj, E _ _ _ _ hj]; exact o1 j hj
  · rw [G _ _ _ _ hj, G _ _ _ _ hj, G _ _ _ _ hj]; exact o2 j hj
  · rw [G _ _ _ _ hj, G _ _ _ _ hj, G _ _ _ _ hj]; exact o2 j hj
  · rw [G _ _ _ _ hj, G _ _ _ _ hj, G _ _ _ _ hj]; exact o2 j hj
/-- the name of a node -/
theorem yb_nr (C : yb_cx LC LM nb nf sz F h g) (hw : zt_nr LC LM kv.2 ((g.2.1 74) k)) : ∃ c, c < 6000 ∧ kv.2 = nI c ∧ zt_nr LC LM (nI c) ((g.2.1 74) k) := by
  obtain ⟨c, kk, w1, w2, w3, w4, w5, w6⟩ := id hw
  have hL : LC.length < 6000 := C.1.1.2.2.1
  exact ⟨c, by omega, w1, by rw [← w1]; exact hw⟩
end YBH
/-- a name -/
theorem yb_VN6 (kv : Int32 × Int32) : yb_VN 6 kv .leaf := by
  intro LC LM nb nf sz F h g i k up ku d D D' P Q y C nd hup mu hku h5 h33 hPs hd hD hD'
  obtain ⟨D, rfl⟩ : ∃ z, D = z + 1 := ⟨D - 1, by have : zg_d .leaf = 0 := rfl; omega⟩
  obtain ⟨D', rfl⟩ : ∃ z, D' = z + 1 := ⟨D' - 1, by omega⟩
  have hd0 : zg_d .leaf = 0 := rfl
  obtain ⟨e1, e2⟩ := yb_lf (D := D) (D' := D') (d := d) C nd (.inl rfl) (by omega)
  obtain ⟨⟨hi, hk, hPi, hQk, hP, hQ⟩, ⟨c0, c1, c2, c3, c4⟩, cC, ⟨m0, m1, m2, m3⟩, cM⟩ := id nd
  rw [if_pos (by decide)] at m2
  obtain ⟨c, hc, ec, hw⟩ := yb_nr C m2
  obtain ⟨I, si, hb, _, _⟩ := id C
  have J1 : (h.1 38 3) = 0 := I.2.2.2.2.2.2.2.1
  have J2 : (g.1 68 29) = 0 := I.2.2.2.2.2.2.2.2
  obtain ⟨h', g', v1, v2, v3⟩ := zv_nameE (up := up) (ku := ku) I hb hi hk hc hw c0 (c2.trans ec) m0 rfl m3 hup mu hku h5 h33
  refine ⟨h', g', by rw [e1, zv_lv6 hi c0, v1], yb_lk0 hk (km := 6) (by decide) (by decide) m0 (by rw [e2, zv_54B (by decide) J2, v2]), ?_⟩
  rcases v3 with ⟨φ, f1, f2, Y⟩ | ⟨v, ty, x, x1, x2, x3, x4, x5, x6, x7, x8, x9, x10, x11⟩
  · obtain ⟨X, y1, y2⟩ := zv_YX Y f1 f2 c1 (m1 (by decide))
    have xn := zv_Xn X
    exact .inl ⟨⟨⟨φ, _, X⟩, zfr_w y1 (fun _ z => z) (by decide) (by decide), y2⟩, xn.1, xn.2⟩
  · right
    have V3 : F nb ≤ 5900 := I.2.1.2.1.2.2
    obtain ⟨u1, u2⟩ := zv_uq I hb hc hw (by omega) x6
    have W : yb_out (fun j => j = i) (fun j => j = k) h g h' g' := by
      rw [x4, x5]
      exact (yb_w1 (v := 0) (a := 0) (yb_w1 (v := 0) (a := 0) (yb_w1 (v := 0) (a := 0) (yb_w1 (v := 0) (a := 0) yb_out0).2.1).1).2.2.2.2.1).2.2.2.2.2.1
    have j1 : (h'.1 38 3) = 0 := (W.1.1 _ _ List.not_mem_nil).trans J1
    have j2 : (g'.1 68 29) = 0 := (W.2.1.1 _ _ List.not_mem_nil).trans J2
    have eN : ∀ z, ¬ z ∈ [13, 14, 16, 17] → h'.2.1 z = h.2.1 z := fun z hz => W.1.2.1 z hz
    refine ⟨yb_fin C nd yb_out0 ⟨(show (h.2.1 17) i = -1 ∧ y = -1 from cC).1, (show (g.2.1 76) k = -1 ∧ (g.2.1 77) k = -1 from cM).1⟩ W ?_, j1, j2⟩
    refine .inr ⟨ty, x3, ?_, ?_, .inl ⟨rfl, ?_, v, x, ?_, ?_, ?_, by rw [eN _ (by decide)]; exact (yb_so I hb x1 x2).1 x7, by rw [eN _ (by decide)]; exact x11⟩⟩
    · rw [x4, zu_MM, if_pos ⟨rfl, rfl⟩]
    · rw [x5, zu_MM, if_neg (fun z => absurd z.1 (by decide)), zu_MM, if_pos ⟨rfl, rfl⟩]
    · rw [x4, zu_MM, if_neg (fun z => absurd z.1 (by decide)), zu_MM, if_neg (fun z => absurd z.1 (by decide))]; exact c0
    · rw [show kv.2 = nI c from ec]
      refine ⟨x1, by rw [show nb - 1 + 1 = nb by omega]; exact x2, by rw [eN _ (by decide)]; exact u1, fun j a1 a2 a3 => ?_, by rw [eN _ (by decide)]; exact x10⟩
      rw [show nb - 1 + 1 = nb by omega] at a2
      rw [eN _ (by decide)] at a3
      exact u2 j a1 a2 a3
    · rw [x4, zu_MM, if_neg (fun z => absurd z.1 (by decide)), zu_MM, if_pos ⟨rfl, rfl⟩]
    · rw [x5, zu_MM, if_pos ⟨rfl, rfl⟩]
/-- a constant -/
theorem yb_VN30 {kd : Nat} (hkd : kd = 30 ∨ kd = 31) (kv : Int32 × Int32) : yb_VN kd kv .leaf := by
  intro LC LM nb nf sz F h g i k up ku d D D' P Q y C nd hup mu hku h5 h33 hPs hd hD hD'
  have hd0 : zg_d .leaf = 0 := rfl
  obtain ⟨D, rfl⟩ : ∃ z, D = z + 1 := ⟨D - 1, by omega⟩
  obtain ⟨D', rfl⟩ : ∃ z, D' = z + 1 := ⟨D' - 1, by omega⟩
  obtain ⟨⟨hi, hk, hPi, hQk, hP, hQ⟩, ⟨c0, c1, c2, c3, c4⟩, cC, ⟨m0, m1, m2, m3⟩, cM⟩ := id nd
  have ekm : zt_km kd = kd := by rcases hkd with e | e <;> rw [e] <;> rfl
  have enk : ¬ zt_nk kd = true := by rcases hkd with e | e <;> rw [e] <;> decide
  rw [ekm] at m0
  rw [if_neg enk] at m2
  have J1 : (h.1 38 3) = 0 := C.1.2.2.2.2.2.2.2.1
  have J2 : (g.1 68 29) = 0 := C.1.2.2.2.2.2.2.2.2
  obtain ⟨h', g', v1, v2, v3, v4, v5, v6, v7, v8⟩ := zv_const (D := D) (D' := D') (d := d) (by omega) hi hk hkd c0 (show (h.2.1 17) i = -1 ∧ y = -1 from cC).1 c2 c3 m0 (show (g.2.1 76) k = -1 ∧ (g.2.1 77) k = -1 from cM).1 m2 J1 J2
  rw [zv_lM hk (by omega) (by omega) m0] at v2
  refine ⟨h', g', v1, yb_lk0 hk (km := kd) (by omega) (by omega) m0 v2, .inr ⟨?_, (v7.1 _ _ List.not_mem_nil).trans J1, (v8.1 _ _ List.not_mem_nil).trans J2⟩⟩
  have E7 : ∀ z, ¬ z ∈ [14] → h'.2.1 z = h.2.1 z := fun z hz => v7.2.1 z hz
  have E8 : ∀ z, ¬ z ∈ [100] → g'.2.1 z = g.2.1 z := fun z hz => v8.2.1 z hz
  have W : yb_out (fun j => j = i) (fun j => j = k) h g h' g' := ⟨zfr_w v7 (by decide) (by decide) (by decide), zfr_w v8 (by decide) (by decide) (by decide), fun j hj => ⟨by rw [E7 _ (by decide)], v5 j hj, by rw [E7 _ (by decide)], by rw [E7 _ (by decide)]⟩, fun j hj => ⟨v6 j hj, by rw [E8 _ (by decide)], by rw [E8 _ (by decide)]⟩⟩
  refine yb_fin C nd yb_out0 ⟨(show (h.2.1 17) i = -1 ∧ y = -1 from cC).1, (show (g.2.1 76) k = -1 ∧ (g.2.1 77) k = -1 from cM).1⟩ W ?_
  obtain ⟨ty, t1, t2, t4, t5⟩ : ∃ ty, ty < 3 ∧ (if kd = 31 then (0 : Int32) else if 32767 < kv.2 then 2 else 1) = nI ty ∧ (kd = 30 → ¬ ty = 0) ∧ (kd = 31 → ty = 0) := by
    split
    · exact ⟨0, by decide, rfl, fun z => by omega, fun _ => rfl⟩
    · split
      · exact ⟨2, by decide, rfl, fun _ => by decide, fun z => by omega⟩
      · exact ⟨1, by decide, rfl, fun _ => by decide, fun z => by omega⟩
  exact .inr ⟨ty, t1, by rw [v3, t2], by rw [v4, t2], .inr (.inl ⟨hkd, by rw [E7 _ (by decide)]; exact c0, by rw [E7 _ (by decide)]; exact c2, t4, t5⟩)⟩
end
