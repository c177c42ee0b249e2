/-! The judge: a call of a standard function. -/
section YE
variable {h : zs_H} {i : Nat}
/-- the arguments that there are -/
theorem ya_parts {l : List Nat} {x : Int32} {n : Nat} (hC : ya_C h i l x) (hl : l.length = n) (h1 : 1 ≤ n) (h3 : n ≤ 3) : ∃ a t1 x5 x6, x = nI a ∧ a < 32784 ∧ ¬ a = i ∧ (h.2.1 14) a = nI t1 ∧ t1 < 3 ∧ l.getD 0 1 = t1 ∧ x5 = (h.2.1 18) a ∧ x6 = (if x5 = -1 then -1 else (h.2.1 18) x5.toNatClampNeg) ∧ ya_ok h i (l.getD 1 1) x5 ∧ ya_ok h i (l.getD 2 1) x6 ∧ l.getD 1 1 < 3 ∧ l.getD 2 1 < 3 ∧ (3 ≤ n → ∃ b, x5 = nI b ∧ b < 32784 ∧ x6 = (h.2.1 18) b) ∧ (n < 3 → x6 = -1) ∧ ∃ t2 t3, t2 < 3 ∧ t3 < 3 ∧ l = [t1, t2, t3].take n := by
  cases l with
  | nil => exact absurd hl (by show ¬ 0 = n; omega)
  | cons t1 l =>
    obtain ⟨a, a1, a2, a3, a4, a5, a6⟩ := hC
    cases l with
    | nil =>
      have e5 : (h.2.1 18) a = -1 := a6
      have en : n = 1 := hl.symm
      subst en
      exact ⟨a, t1, -1, -1, a3, a1, a2, a4, a5, rfl, e5.symm, by rw [if_pos rfl], .inl ⟨rfl, rfl⟩, .inl ⟨rfl, rfl⟩, by show 1 < 3; decide, by show 1 < 3; decide, fun z => by omega, fun _ => rfl, 1, 1, by decide, by decide, rfl⟩
    | cons t2 l =>
      obtain ⟨b, b1, b2, b3, b4, b5, b6⟩ := a6
      have n1 : ¬ nI b = -1 := zc_m1 (by omega)
      cases l with
      | nil =>
        have e6 : (h.2.1 18) b = -1 := b6
        have en : n = 2 := hl.symm
        subst en
        exact ⟨a, t1, nI b, -1, a3, a1, a2, a4, a5, rfl, b3.symm, by rw [if_neg n1, nI_clamp (show b < 2147483648 by omega), e6], .inr ⟨b, rfl, b1, b2, b4⟩, .inl ⟨rfl, rfl⟩, b5, by show 1 < 3; decide, fun z => by omega, fun _ => rfl, t2, 1, b5, by decide, rfl⟩
      | cons t3 l =>
        obtain ⟨d, d1, d2, d3, d4, d5, d6⟩ := b6
        cases l with
        | nil =>
          have en : n = 3 := hl.symm
          subst en
          exact ⟨a, t1, nI b, nI d, a3, a1, a2, a4, a5, rfl, b3.symm, by rw [if_neg n1, nI_clamp (show b < 2147483648 by omega), d3], .inr ⟨b, rfl, b1, b2, b4⟩, .inr ⟨d, rfl, d1, d2, d4⟩, b5, d5, fun _ => ⟨b, rfl, b1, d3.symm⟩, fun z => by omega, t2, t3, b5, d5, rfl⟩
        | cons t4 l => exact absurd hl (by show ¬ l.length + 1 + 1 + 1 + 1 = n; omega)
end YE
theorem ya_t1 {s : Nat} {x y z : Int32} (q : s = 0 ∨ s = 5 ∨ s = 6) (n : ¬ f_Jd_standardType (nI s) x y z = -1) : f_Jd_standardType (nI s) x y z = x := by
  unfold f_Jd_standardType at n ⊢
  rcases q with e | e | e <;> subst e
  · rw [if_pos (by decide)] at n ⊢
    by_cases k : x = 0
    · rw [if_pos k] at n; exact absurd rfl n
    · rw [if_neg k]
  · rw [if_neg (by decide), if_neg (by decide), if_pos (by decide)] at n ⊢
    by_cases k : f_Jd_wider x y = -1
    · rw [if_pos k] at n; exact absurd rfl n
    · rw [if_neg k]
  · rw [if_neg (by decide), if_neg (by decide), if_neg (by decide), if_pos (by decide)] at n ⊢
    by_cases k : f_Jd_wider x y = -1
    · rw [if_pos k] at n; exact absurd rfl n
    · rw [if_neg k]
/-- of a standard function that gives a BOOL -/
def yb_st (h : zs_H) (s ty : Nat) (x5 x6 : Int32) : Prop := ty = 0 → s = 9 ∨ (s = 4 ∧ ∀ b, b < 32784 → (x5 = nI b ∨ x6 = nI b) → (h.2.1 14) b = 0)
def ya_c6 (s t1 t2 t3 : Nat) : Bool := decide (s = 4) || decide (s = 9) || !decide (f_Jd_standardType (nI s) (nI t1) (nI t2) (nI t3) = 0)
def ya_c7 (t1 t2 t3 : Nat) : Bool := !decide (f_Jd_standardType (nI 4) (nI t1) (nI t2) (nI t3) = 0) || (decide (t2 = 0) && decide (t3 = 0))
theorem ya_T60 : ∀ s, s < 10 → ∀ t1, t1 < 3 → ∀ t2, t2 < 3 → ∀ t3, t3 < 3 → ya_c6 s t1 t2 t3 = true := by decide +kernel
theorem ya_T70 : ∀ t1, t1 < 3 → ∀ t2, t2 < 3 → ∀ t3, t3 < 3 → ya_c7 t1 t2 t3 = true := by decide +kernel
theorem ya_T6 (s : Nat) (hs : s < 10) (t1 : Nat) (h1 : t1 < 3) (t2 : Nat) (h2 : t2 < 3) (t3 : Nat) (h3 : t3 < 3) : s = 4 ∨ s = 9 ∨ ¬ f_Jd_standardType (nI s) (nI t1) (nI t2) (nI t3) = 0 := by
  have h := ya_T60 s hs t1 h1 t2 h2 t3 h3
  unfold ya_c6 at h
  simp only [Bool.or_eq_true, decide_eq_true_eq, Bool.not_eq_true', decide_eq_false_iff_not] at h
  rcases h with (h | h) | h
  · exact .inl h
  · exact .inr (.inl h)
  · exact .inr (.inr h)
theorem ya_T7 (t1 : Nat) (h1 : t1 < 3) (t2 : Nat) (h2 : t2 < 3) (t3 : Nat) (h3 : t3 < 3) (e : f_Jd_standardType (nI 4) (nI t1) (nI t2) (nI t3) = 0) : t2 = 0 ∧ t3 = 0 := by
  have h := ya_T70 t1 h1 t2 h2 t3 h3
  unfold ya_c7 at h
  simp only [Bool.or_eq_true, Bool.and_eq_true, decide_eq_true_eq, Bool.not_eq_true', decide_eq_false_iff_not] at h
  rcases h with h | h
  · exact absurd e h
  · exact h
theorem ya_mkst {h : zs_H} {i s ty t1 t2 t3 : Nat} {x5 x6 : Int32} (hs : s < 10) (h1 : t1 < 3) (h2 : t2 < 3) (h3 : t3 < 3) (hT : f_Jd_standardType (nI s) (nI t1) (nI t2) (nI t3) = nI ty) (o5 : ya_ok h i t2 x5) (o6 : ya_ok h i t3 x6) : yb_st h s ty x5 x6 := by
  intro e
  rw [e] at hT
  by_cases z9 : s = 9
  · exact .inl z9
  by_cases z4 : s = 4
  · right
    subst z4
    obtain ⟨e2, e3⟩ := ya_T7 t1 h1 t2 h2 t3 h3 hT
    have key : ∀ (x : Int32) (t b : Nat), t = 0 → ya_ok h i t x → b < 32784 → x = nI b → (h.2.1 14) b = 0 := by
      intro x t b e0 o hb ex
      rcases o with ⟨_, e1⟩ | ⟨a, a1, a2, _, a4⟩
      · omega
      · have : a = b := (nI_eq (by omega) (by omega)).mp (a1.symm.trans ex)
        rw [← this, a4, e0]; rfl
    exact ⟨rfl, fun b hb z => z.elim (key x5 t2 b e2 o5 hb) (key x6 t3 b e3 o6 hb)⟩
  · rcases ya_T6 s hs t1 h1 t2 h2 t3 h3 with q | q | q
    · exact absurd q z4
    · exact absurd q z9
    · exact absurd hT q
theorem zv_stdE {LC LM : List (List Int32)} {nb nf i k c sz : Nat} {F : Nat → Nat} {q w p : Int32} {h g : zs_H} {l : List Nat} (I : zv_I LC LM nb nf (F nb) F q h g) (hb : 0 < nb) (hi : i < 32784) (hk : k < 33500) (hc : c < 6000) (hw : zt_nr LC LM (nI c) w) (hsz : (h.1 12 6) = nI sz) (hs2 : sz < 40000) (hl : l.length ≤ sz) (hcF : 50 ≤ c ∧ c < 60) (c1 : (h.2.1 16) i = nI c) (c2 : (h.2.1 15) i = p) (c3 : ya_C h i l ((h.2.1 17) i)) (m0 : (g.2.1 72) k = 34) (m1 : (g.2.1 74) k = w) (m2 : (g.2.1 73) k = p) (m3 : ya_M g l ((g.2.1 76) k)) (m7 : ∀ t1 t2 t3, l = [t1, t2, t3] → ∃ kc, kc < 33500 ∧ (g.2.1 77) k = nI kc ∧ (g.2.1 100) kc = nI t3) :
    ∃ h' g', f_Jd_judgeCall h (nI i) = some h' ∧ f_Mo_lookAtExpressions g (nI k) = some g' ∧ (zv_Fb h g h' g' ∨ (∃ s ty a x5 x6, 50 + s = c ∧ s < 10 ∧ ty < 3 ∧ l.length = ya_ar s ∧ ((h.2.1 17) i = nI a ∧ a < 32784 ∧ ¬ a = i ∧ x5 = (h.2.1 18) a ∧ x6 = (if x5 = -1 then -1 else (h.2.1 18) x5.toNatClampNeg) ∧ (s = 0 ∨ s = 5 ∨ s = 6 → (h.2.1 14) a = nI ty) ∧ yb_st h s ty x5 x6) ∧ g' = zs_uM (zs_uM g 102 k (nI (100 + s))) 100 k (nI ty) ∧ ((∃ v, (ya_con h (nI a) ∧ ya_con h x5 ∧ ya_con h x6) ∧ f_Cd_standard (nI s) (nI ty) ((h.2.1 16) a) (ya_val h x5) (ya_val h x6) = some v ∧ h' = zv_fo i v (ya_h2 h i s ty)) ∨ (¬ (ya_con h (nI a) ∧ ya_con h x5 ∧ ya_con h x6) ∧ h' = ya_h2 h i s ty)))) := by
  have hzF := zF_big
  have J1 : (h.1 38 3) = 0 := I.2.2.2.2.2.2.2.1
  have J2 : (g.1 68 29) = 0 := I.2.2.2.2.2.2.2.2
  have hB3 : nb ≤ 568 := I.2.1.1.2.2
  have HJ := I.2.2.2.2.2.2.1 hb
  have hwf := zv_wF I.1 hw hc
  rw [if_pos hcF] at hwf
  obtain ⟨s, rfl⟩ : ∃ s, c = 50 + s := ⟨c - 50, by omega⟩
  rw [show 50 + s - 50 = s by omega] at hwf
  have hs : s < 10 := by omega
  obtain ⟨ar1, ar3⟩ := ya_T5 s hs
  have eC : f_Jd_judgeCall h (nI i) = f_Jd_judgeStandardCall h (nI i) (nI s) (nI l.length) := by
    unfold f_Jd_judgeCall
    rw [if_pos (zi_in (by omega) hi), nI_clamp (show i < 2147483648 by omega), c1]
    have := ya_cntC (i := i) (nm := nI (50 + s)) hsz (by omega) l ((h.2.1 17) i) 0 0 zF c3 (by omega) (by omega)
    rw [Nat.zero_add] at this
    refine this.trans ?_
    unfold f_Jd_judgeCall_65
    rw [zv_isF hc, if_pos hcF, if_neg (by decide), Option.bind_fun_some, show nI (50 + s) - 50 = nI s by rw [show (50 : Int32) = nI 50 from rfl, zi_sub (by omega), show 50 + s - 50 = s by omega]]
  -- the model up to the number of arguments
  have s0 : (nI s = 0) ↔ s = 0 := zc_eq (k := 0) (by decide) (by omega)
  have s3 : (nI s = 3) ↔ s = 3 := zc_eq (k := 3) (by decide) (by omega)
  have s4 : (nI s = 4) ↔ s = 4 := zc_eq (k := 4) (by decide) (by omega)
  have s6 : (nI s ≤ 6) ↔ s ≤ 6 := zc_el (k := 6) (by decide) (by omega)
  have eM : f_Mo_lookAtExpressions g (nI k) = if l.length = ya_ar s then f_Mo_lookAtCall_206 g (nI k) (nI s) (ya_fl 1 l) (ya_wd (-1) l) 0 else f_Mo_lookAtCall_206 g (nI k) (nI s) (ya_fl 1 l) (ya_wd (-1) l) 1 := by
    have e48 : ∀ y, f_Mo_lookAtCall_48 g (nI k) (nI s) y = if l.length = ya_ar s then f_Mo_lookAtCall_206 g (nI k) (nI s) (ya_fl 1 l) (ya_wd (-1) l) 0 else f_Mo_lookAtCall_206 g (nI k) (nI s) (ya_fl 1 l) (ya_wd (-1) l) 1 := by
      intro y
      unfold f_Mo_lookAtCall_48 f_Mo_lookAtCall_62 f_Mo_lookAtCall_63
      rw [if_pos (zv_neg (show s < 2147483648 by omega)).1, zv_rule0, Option.bind_some, if_pos (zi_in (by omega) hk), nI_clamp (show k < 2147483648 by omega)]
      have := ya_cntM (s := nI s) (b := y) hk l ((g.2.1 76) k) 0 1 (-1) zF m3 (by omega)
      rw [Nat.zero_add] at this
      rw [show f_Mo_lookAtCall_L86 zF g (nI k) (nI s) y 0 1 (-1) ((g.2.1 76) k) = _ from this]
      have e198 : ∀ n : Nat, n < 10 → f_Mo_lookAtCall_198 g (nI k) (nI s) (ya_fl 1 l) (ya_wd (-1) l) (nI n) (nI l.length) = if l.length = n then f_Mo_lookAtCall_206 g (nI k) (nI s) (ya_fl 1 l) (ya_wd (-1) l) 0 else f_Mo_lookAtCall_206 g (nI k) (nI s) (ya_fl 1 l) (ya_wd (-1) l) 1 := by
        intro n hn
        unfold f_Mo_lookAtCall_198
        simp only [nI_eq (show l.length < 2147483648 by omega) (show n < 2147483648 by omega)]
      unfold f_Mo_lookAtCall_86 f_Mo_lookAtCall_179 f_Mo_lookAtCall_193
      rw [if_pos (by decide), J2, if_pos (by decide), if_pos (zv_neg (show s < 2147483648 by omega)).1]
      have a1 := e198 1 (by decide)
      have a2 := e198 2 (by decide)
      have a3 := e198 3 (by decide)
      rw [show (nI 1 : Int32) = 1 from rfl] at a1
      rw [show (nI 2 : Int32) = 2 from rfl] at a2
      rw [show (nI 3 : Int32) = 3 from rfl] at a3
      rw [a1, a2, a3]
      simp only [s0, s3, s4, s6]
      have cs : s = 0 ∨ s = 1 ∨ s = 2 ∨ s = 3 ∨ s = 4 ∨ s = 5 ∨ s = 6 ∨ s = 7 ∨ s = 8 ∨ s = 9 := by omega
      rcases cs with e | e | e | e | e | e | e | e | e | e <;> subst e <;> rfl
    unfold f_Mo_lookAtExpressions f_Mo_lookAtCall f_Mo_lookAtCall_47
    simp (config := { decide := true }) only [if_pos (zi_in (show k < 2147483648 by omega) hk), nI_clamp (show k < 2147483648 by omega), m0, if_false, if_true, Option.bind_fun_some, m1, hwf, Option.bind_some, HJ.2, e48]
    rcases zv_bn (bd := nb - 1) I.1 I.2.1 (by omega) hc hw with ⟨b, y1, y2, y3⟩ | ⟨y1, y2⟩
    · rw [y3, Option.bind_some, if_neg (zv_neg (show b < 2147483648 by omega)).2, if_pos (zi_in (by omega) (by omega)), ite_self]
    · rw [y1, Option.bind_some, if_pos (by decide)]
  have eC2 : f_Jd_judgeStandardCall h (nI i) (nI s) (nI l.length) = if l.length = ya_ar s then (if zd_in ((h.2.1 17) i) 32784 then (if 3 ≤ l.length then (if zd_in ((h.2.1 18) ((h.2.1 17) i).toNatClampNeg) 32784 then f_Jd_judgeStandardCall_59 h (nI i) (nI s) ((h.2.1 17) i) ((h.2.1 18) ((h.2.1 17) i).toNatClampNeg) ((h.2.1 18) ((h.2.1 18) ((h.2.1 17) i).toNatClampNeg).toNatClampNeg) else none) else f_Jd_judgeStandardCall_59 h (nI i) (nI s) ((h.2.1 17) i) ((h.2.1 18) ((h.2.1 17) i).toNatClampNeg) (-1)) else none) else ((f_Jd_refuse h 25 (nI i)).bind fun h8 => some h8) := by
    unfold f_Jd_judgeStandardCall
    have ea : zt_4.getD s 0 = nI (ya_ar s) := ya_T2 s hs
    simp only [if_pos (zi_in (show s < 2147483648 by omega) hs), nI_clamp (show s < 2147483648 by omega), ea, nI_eq (show l.length < 2147483648 by omega) (show ya_ar s < 2147483648 by omega), if_pos (zi_in (show i < 2147483648 by omega) hi), nI_clamp (show i < 2147483648 by omega), show ((3 : Int32) ≤ nI l.length) ↔ 3 ≤ l.length from zc_le (k := 3) (by decide) (by omega)]
  by_cases zl : l.length = ya_ar s
  · obtain ⟨a, t1, x5, x6, p1, p2, p3, p4, p5, p6, p7, p8, p9, p10, p11, p12, p13, p14, t2, t3, p15, p16, p17⟩ := ya_parts c3 zl ar1 ar3
    rw [if_pos zl] at eM eC2
    have eC3 : f_Jd_judgeStandardCall h (nI i) (nI s) (nI l.length) = f_Jd_judgeStandardCall_59 h (nI i) (nI s) (nI a) x5 x6 := by
      rw [eC2, p1, if_pos (zi_in (by omega) p2), nI_clamp (show a < 2147483648 by omega), ← p7]
      by_cases z3 : 3 ≤ l.length
      · obtain ⟨b, b1, b2, b3⟩ := p13 (by omega)
        rw [if_pos z3, b3, b1, if_pos (zi_in (by omega) b2), nI_clamp (show b < 2147483648 by omega)]
      · rw [if_neg z3, p14 (by omega)]
    obtain ⟨ty, hty⟩ : ∃ ty, ¬ f_Jd_standardType (nI s) (nI t1) (nI (l.getD 1 1)) (nI (l.getD 2 1)) = -1 → f_Jd_standardType (nI s) (nI t1) (nI (l.getD 1 1)) (nI (l.getD 2 1)) = nI ty ∧ ty < 3 := by
      rcases ya_T1 s hs t1 p5 (l.getD 1 1) p11 (l.getD 2 1) p12 with z | ⟨z1, z2⟩
      · exact ⟨0, fun n => absurd z n⟩
      · exact ⟨_, fun _ => ⟨z2, z1⟩⟩
    have eC4 := ya_std59 (x5 := x5) (x6 := x6) J1 hi hs (.inr ⟨a, rfl, p2, p3, p4⟩) p2 p3 p4 p9 p10 hty
    -- the model's types
    have eM2 : ∃ B T : Int32, f_Mo_lookAtExpressions g (nI k) = (f_Mo_rule (zs_uM g 102 k (nI (100 + s))) B 26 (nI k)).bind (fun h2 => some (zs_uM h2 100 k T)) ∧ ((f_Jd_standardType (nI s) (nI t1) (nI (l.getD 1 1)) (nI (l.getD 2 1)) = -1 ∧ B = 1) ∨ (¬ f_Jd_standardType (nI s) (nI t1) (nI (l.getD 1 1)) (nI (l.getD 2 1)) = -1 ∧ B = 0 ∧ T = f_Jd_standardType (nI s) (nI t1) (nI (l.getD 1 1)) (nI (l.getD 2 1)))) := by
      by_cases z4 : s = 4
      · subst z4
        have el : l = [t1, t2, t3] := p17
        obtain ⟨kc, k1, k2, k3⟩ := m7 t1 t2 t3 el
        rw [el] at m3
        obtain ⟨ka, ka1, ka2, ka3, _, kb, kb1, kb2, kb3, _, _⟩ := m3
        rw [el, ← el, ya_206s (t1 := t1) (t2 := t2) (t3 := t3) J2 hk ka2 ka1 ka3 kb2 kb1 kb3 k2 k1 k3 p5 p15 p16] at eM
        have e1 : l.getD 1 1 = t2 := by rw [el]; rfl
        have e2 : l.getD 2 1 = t3 := by rw [el]; rfl
        rw [e1, e2, ya_T4 t1 p5 t2 p15 t3 p16]
        refine ⟨_, _, eM, ?_⟩
        by_cases zz : t1 = 0 ∧ (t2 = 0 ↔ t3 = 0)
        · rw [if_pos zz, if_pos zz]
          exact .inr ⟨zc_m1 (by omega), rfl, rfl⟩
        · rw [if_neg zz, if_neg zz]
          exact .inl ⟨rfl, rfl⟩
      · obtain ⟨ka, ka1, ka2, ka3⟩ : ∃ ka, ka < 33500 ∧ (g.2.1 76) k = nI ka ∧ (g.2.1 100) ka = nI t1 := by
          have hm := m3
          cases l with
          | nil => exact absurd zl (by show ¬ 0 = ya_ar s; omega)
          | cons t l =>
            obtain ⟨ka, y1, y2, y3, _⟩ := hm
            exact ⟨ka, y1, y2, by rw [y3]; exact congrArg nI (show t = t1 from p6)⟩
        rw [ya_206 J2 hk hs z4 ka2 ka1 ka3] at eM
        refine ⟨_, _, eM, ?_⟩
        have ck := ya_T3 s hs z4 t1 p5 t2 p15 t3 p16
        rw [← p17] at ck
        unfold ya_chk at ck
        simp only [Bool.or_eq_true, Bool.and_eq_true, decide_eq_true_eq] at ck
        rcases ck with ⟨y1, y2⟩ | ⟨⟨y1, y2⟩, y3⟩
        · exact .inl ⟨y2, y1⟩
        · exact .inr ⟨by rw [y2]; exact y3, y1, y2.symm⟩
    obtain ⟨B, T, eM3, hBT⟩ := eM2
    have J2' : ((zs_uM g 102 k (nI (100 + s))).1 68 29) = 0 := J2
    rcases hBT with ⟨z1, z2⟩ | ⟨z1, z2, z3⟩
    · rw [if_pos z1] at eC4
      rw [z2, show (26 : Int32) = nI 26 from rfl, zv_rule1 (by decide) J2' hk, Option.bind_some] at eM3
      refine ⟨_, _, eC.trans (eC3.trans eC4), eM3, .inl ?_⟩
      exact zv_mkF (φ := 26) (h2 := h) (g2 := zs_uM g 102 k (nI (100 + s))) (by decide) (by decide) c2 m2 zfr_rfl (zfr_M (by decide) zfr_rfl) zfr_rfl (zfr_M (by decide) zfr_rfl)
    · rw [if_neg z1] at eC4
      obtain ⟨hT, ht⟩ := hty z1
      have tyA : s = 0 ∨ s = 5 ∨ s = 6 → (h.2.1 14) a = nI ty := fun q => p4.trans ((ya_t1 q z1).symm.trans hT)
      rw [z2, zv_rule0, Option.bind_some, z3, hT] at eM3
      obtain ⟨v, ev⟩ := ya_tot hs (nI ty) ((h.2.1 16) a) (ya_val h x5) (ya_val h x6)
      by_cases zc : ya_con h (nI a) ∧ ya_con h x5 ∧ ya_con h x6
      · rw [if_pos zc, ev, Option.bind_some] at eC4
        exact ⟨_, _, eC.trans (eC3.trans eC4), eM3, .inr ⟨s, ty, a, x5, x6, rfl, hs, ht, zl, ⟨p1, p2, p3, p7, p8, tyA, ya_mkst hs p5 p11 p12 hT p9 p10⟩, rfl, .inl ⟨v, zc, ev, rfl⟩⟩⟩
      · rw [if_neg zc] at eC4
        exact ⟨_, _, eC.trans (eC3.trans eC4), eM3, .inr ⟨s, ty, a, x5, x6, rfl, hs, ht, zl, ⟨p1, p2, p3, p7, p8, tyA, ya_mkst hs p5 p11 p12 hT p9 p10⟩, rfl, .inr ⟨zc, rfl⟩⟩⟩
  · rw [if_neg zl] at eM eC2
    rw [show (25 : Int32) = nI 25 from rfl, zv_refu J1 hi, Option.bind_some] at eC2
    refine ⟨zv_rf 25 i h, zv_ru 25 k g, eC.trans eC2, ?_, .inl (zv_mkF (φ := 25) (by decide) (by decide) c2 m2 zfr_rfl zfr_rfl zfr_rfl zfr_rfl)⟩
    rw [eM]
    unfold f_Mo_lookAtCall_206
    rw [show (25 : Int32) = nI 25 from rfl, zv_rule1 (by decide) J2 hk, Option.bind_some]
    show (if ((zv_ru 25 k g).1 68 29) ≤ 0 then _ else some (zv_ru 25 k g)) = _
    rw [if_neg (zv_ruf0 (φ := 25) (k := k) (g := g) (by decide) (by decide))]
