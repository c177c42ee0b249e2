/-! The judge: what a declaration must keep (43, 15, 18), on each side. -/
theorem zv_sh : ∀ p, p < 1536 → (nI p >>> ((8 : Int32) &&& 31)) = nI (p / 256) ∧ nI p / 256 = nI (p / 256) := by decide +kernel
def zv_a43 (s f : Nat) : Int32 := if s = 0 ∨ f = 8 then 0 else 1
def zv_a15 (f t : Nat) (pl : Int32) : Int32 := if pl = -1 then 0 else if f = 8 ∧ nI t = (if 768 ≤ pl then 1 else 0) then 0 else 1
def zv_bd (t kc : Nat) (v : Int32) : Int32 := if kc = 31 then (if t = 0 then 0 else 1) else if t = 0 then 1 else if t = 1 ∧ (v < -32768 ∨ 32767 < v) then 1 else 0
def zv_a18 (f t kc : Nat) (pl cn v : Int32) : Int32 := if cn = -1 then 0 else if f = 10 then 1 else if ¬ pl = -1 ∧ (pl / 256 = 0 ∨ pl / 256 = 3) then 1 else zv_bd t kc v
abbrev zv_pv (pl : Int32) : Prop := pl = -1 ∨ ∃ p, p < 1536 ∧ (768 ≤ p → p % 256 < 64) ∧ pl = nI p
theorem zv_d43C {h : zs_H} {s f : Nat} {x1 x2 pl cn ty : Int32} (hs : s < 3) (hf : f = 8 ∨ f = 9 ∨ f = 10) (c : (h.1 38 5) = nI s) : f_Jd_judgeDeclaration_165 h x1 x2 pl cn (nI f) ty = (f_Jd_refuseIf h (zv_a43 s f) 43 x1).bind fun h2 => (if 3 ≤ (pl >>> ((8 : Int32) &&& 31)) then f_Jd_judgeDeclaration_206 h2 x1 x2 pl cn (nI f) ty 1 else f_Jd_judgeDeclaration_206 h2 x1 x2 pl cn (nI f) ty 0) := by
  unfold f_Jd_judgeDeclaration_165 f_Jd_judgeDeclaration_186 f_Jd_judgeDeclaration_187 zv_a43
  have e1 : (nI s = 0) ↔ s = 0 := zc_eq (k := 0) (by decide) (by omega)
  have e2 : (nI f = 8) ↔ f = 8 := zc_eq (k := 8) (by decide) (by omega)
  simp only [c, e1, e2]
  by_cases x1 : s = 0 <;> by_cases x2 : f = 8 <;> simp only [x1, x2, if_true, if_false, or_self, or_true, true_or]
theorem zv_d15C {h : zs_H} {f t : Nat} {x1 x2 pl cn : Int32} (hf : f = 8 ∨ f = 9 ∨ f = 10) (hpl : zv_pv pl) : (if 3 ≤ (pl >>> ((8 : Int32) &&& 31)) then f_Jd_judgeDeclaration_206 h x1 x2 pl cn (nI f) (nI t) 1 else f_Jd_judgeDeclaration_206 h x1 x2 pl cn (nI f) (nI t) 0) = f_Jd_judgeDeclaration_233 h x1 x2 pl cn (nI f) (nI t) (zv_a15 f t pl) := by
  unfold f_Jd_judgeDeclaration_206 f_Jd_judgeDeclaration_232 f_Jd_judgeDeclaration_228 zv_a15
  have e2 : (nI f = 8) ↔ f = 8 := zc_eq (k := 8) (by decide) (by omega)
  rcases hpl with r | ⟨p, p1, p2, p3⟩
  · subst r
    simp only [if_true]
    split <;> rfl
  · subst p3
    have n1 : ¬ nI p = -1 := zc_m1 (by omega)
    have e3 : ((3 : Int32) ≤ nI p >>> ((8 : Int32) &&& 31)) ↔ (768 : Int32) ≤ nI p := by
      rw [(zv_sh p p1).1, zc_le (k := 3) (by decide) (by omega), zc_le (k := 768) (by decide) (by omega)]; omega
    simp only [if_neg n1, e2, e3]
    by_cases x1 : f = 8 <;> by_cases x2 : (768 : Int32) ≤ nI p <;> by_cases x3 : nI t = 1 <;> by_cases x4 : nI t = 0 <;> simp only [x1, x2, x3, x4, if_true, if_false, and_true, true_and, and_false, false_and, show ¬ (1 : Int32) = 0 by decide, show ¬ (0 : Int32) = 1 by decide]
theorem zv_d18C {h : zs_H} {f t kc ic : Nat} {x1 x2 pl cn v : Int32} (hf : f = 8 ∨ f = 9 ∨ f = 10) (ht : t < 3) (hpl : zv_pv pl) (hcn : cn = -1 ∨ (cn = nI ic ∧ ic < 32784 ∧ kc < 100 ∧ (h.2.1 13) ic = nI kc ∧ (h.2.1 16) ic = v)) : (if cn = (-1) then f_Jd_judgeDeclaration_311 h x1 x2 pl cn (nI t) else (if pl = (-1) then f_Jd_judgeDeclaration_269 h x1 x2 pl cn (nI f) (nI t) else (if (pl >>> ((8 : Int32) &&& 31)) = 0 then f_Jd_judgeDeclaration_265 h x1 x2 pl cn (nI f) (nI t) else (if (pl >>> ((8 : Int32) &&& 31)) = 3 then f_Jd_judgeDeclaration_265 h x1 x2 pl cn (nI f) (nI t) else f_Jd_judgeDeclaration_269 h x1 x2 pl cn (nI f) (nI t))))) = (f_Jd_refuseIf h (zv_a18 f t kc pl cn v) 18 x1).bind fun h4 => f_Jd_judgeDeclaration_311 h4 x1 x2 pl cn (nI t) := by
  rcases hcn with r | ⟨r1, r2, r3, r4, r5⟩
  · unfold zv_a18
    rw [if_pos r, if_pos r, zv_ref0, Option.bind_some]
  · have nc : ¬ cn = -1 := by rw [r1]; exact zc_m1 (by omega)
    have e2 : (nI f = 10) ↔ f = 10 := zc_eq (k := 10) (by decide) (by omega)
    have e3 : (nI t = 0) ↔ t = 0 := zc_eq (k := 0) (by decide) (by omega)
    have e4 : (nI t = 1) ↔ t = 1 := zc_eq (k := 1) (by decide) (by omega)
    have e5 : (nI kc = 31) ↔ kc = 31 := zc_eq (k := 31) (by decide) (by omega)
    have hic : f_Jd_isConstantOf h (nI t) cn = some (if zv_bd t kc v = 0 then 1 else 0) := by
      unfold f_Jd_isConstantOf f_Jd_isInRange zv_bd
      simp only [r1, if_pos (zi_in (show ic < 2147483648 by omega) r2), nI_clamp (show ic < 2147483648 by omega), r4, r5, e3, e4, e5]
      by_cases y1 : kc = 31 <;> by_cases y2 : t = 0 <;> by_cases y3 : t = 1 <;> by_cases y4 : v < -32768 <;> by_cases y5 : 32767 < v <;> simp only [y1, y2, y3, y4, y5, if_true, if_false, and_true, true_and, and_false, false_and, or_self, or_true, true_or, Option.bind_some, show ¬ (1 : Int32) = 0 by decide, show ¬ (0 : Int32) = 1 by decide, show ((0 : Nat) = 1) = False by simp, show ((1 : Nat) = 0) = False by simp]
    have hbd : zv_bd t kc v = 0 ∨ zv_bd t kc v = 1 := by unfold zv_bd; (repeat' split) <;> first | exact .inl rfl | exact .inr rfl
    have e269 : f_Jd_judgeDeclaration_269 h x1 x2 pl cn (nI f) (nI t) = f_Jd_judgeDeclaration_300 h x1 x2 pl cn (nI t) (if f = 10 then 1 else zv_bd t kc v) := by
      unfold f_Jd_judgeDeclaration_269 f_Jd_judgeDeclaration_270 f_Jd_judgeDeclaration_295
      simp only [e2, hic, if_true, Option.bind_some]
      by_cases y1 : f = 10
      · simp only [y1, if_true]
      · rcases hbd with y | y <;> simp only [y1, y, if_true, if_false, show ¬ (1 : Int32) = 0 by decide]
    have e265 : f_Jd_judgeDeclaration_265 h x1 x2 pl cn (nI f) (nI t) = f_Jd_judgeDeclaration_300 h x1 x2 pl cn (nI t) 1 := by
      unfold f_Jd_judgeDeclaration_265 f_Jd_judgeDeclaration_270 f_Jd_judgeDeclaration_295
      simp only [e2, show ¬ (1 : Int32) = 0 by decide, if_false, ite_self]
    rw [if_neg nc, e269, e265]
    show _ = f_Jd_judgeDeclaration_300 h x1 x2 pl cn (nI t) (zv_a18 f t kc pl cn v)
    unfold zv_a18
    rw [if_neg nc]
    rcases hpl with r | ⟨p, p1, p2, p3⟩
    · simp only [r, if_true, not_true, false_and, if_false]
    · have n1 : ¬ pl = -1 := by rw [p3]; exact zc_m1 (by omega)
      rw [if_neg n1]
      simp only [p3, (zv_sh p p1).1, (zv_sh p p1).2, show (¬ nI p = -1) = True from eq_true (zc_m1 (by omega)), true_and]
      by_cases y0 : f = 10 <;> by_cases y1 : nI (p / 256) = 0 <;> by_cases y2 : nI (p / 256) = 3 <;> simp only [y0, y1, y2, if_true, if_false, or_self, or_true, true_or, ite_self]
theorem zv_d43M {g : zs_H} {s f k k4 kt : Nat} {n2 pl cn : Int32} (hs : s < 3) (hf : f = 8 ∨ f = 9 ∨ f = 10) (hk : k < 33500) (hk4 : k4 < 33500) (hkt : kt < 33500) (a1 : (g.2.1 75) k = nI k4) (a2 : (g.2.1 74) k4 = nI s) (a3 : (g.2.1 72) kt = nI f) : (if zd_in (nI kt) 33500 then (if zd_in (nI k) 33500 then (if zd_in ((g.2.1 75) (nI k).toNatClampNeg) 33500 then (if ((g.2.1 74) ((g.2.1 75) (nI k).toNatClampNeg).toNatClampNeg) = 0 then f_Mo_lookAtDeclaration_169 g (nI k) n2 pl (nI kt) cn (((g.2.1 72) (nI kt).toNatClampNeg) - 8) else (if (((g.2.1 72) (nI kt).toNatClampNeg) - 8) = 0 then f_Mo_lookAtDeclaration_169 g (nI k) n2 pl (nI kt) cn (((g.2.1 72) (nI kt).toNatClampNeg) - 8) else f_Mo_lookAtDeclaration_170 g (nI k) n2 pl (nI kt) cn (((g.2.1 72) (nI kt).toNatClampNeg) - 8) 1)) else none) else none) else none) = f_Mo_lookAtDeclaration_170 g (nI k) n2 pl (nI kt) cn (nI (f - 8)) (zv_a43 s f) := by
  unfold f_Mo_lookAtDeclaration_169 zv_a43
  have e1 : (nI s = 0) ↔ s = 0 := zc_eq (k := 0) (by decide) (by omega)
  have e2 : nI f - 8 = nI (f - 8) := zc_sb (k := 8) (by omega)
  have e3 : (nI (f - 8) = 0) ↔ f = 8 := by rw [zc_eq (k := 0) (by decide) (by omega)]; omega
  simp only [if_pos (zi_in (show kt < 2147483648 by omega) hkt), if_pos (zi_in (show k < 2147483648 by omega) hk), nI_clamp (show kt < 2147483648 by omega), nI_clamp (show k < 2147483648 by omega), a1, if_pos (zi_in (show k4 < 2147483648 by omega) hk4), nI_clamp (show k4 < 2147483648 by omega), a2, a3, e1, e2, e3]
  by_cases x1 : s = 0 <;> by_cases x2 : f = 8 <;> simp only [x1, x2, if_true, if_false, or_self, or_true, true_or]
theorem zv_d15M {g : zs_H} {f t kt : Nat} {x1 n2 pl cn : Int32} (hf : f = 8 ∨ f = 9 ∨ f = 10) (hpl : zv_pv pl) (hkt : kt < 33500) (a : f = 8 → (g.2.1 74) kt = nI t) : (if pl < 0 then f_Mo_lookAtDeclaration_212 g x1 n2 pl (nI kt) cn (nI (f - 8)) else (if nI (f - 8) = 0 then (if zd_in (nI kt) 33500 then (if 768 ≤ pl then f_Mo_lookAtDeclaration_205 g x1 n2 pl (nI kt) cn (nI (f - 8)) 1 ((g.2.1 74) (nI kt).toNatClampNeg) else f_Mo_lookAtDeclaration_205 g x1 n2 pl (nI kt) cn (nI (f - 8)) 0 ((g.2.1 74) (nI kt).toNatClampNeg)) else none) else f_Mo_lookAtDeclaration_208 g x1 n2 pl (nI kt) cn (nI (f - 8)))) = f_Mo_lookAtDeclaration_213 g x1 n2 pl (nI kt) cn (nI (f - 8)) (zv_a15 f t pl) := by
  unfold f_Mo_lookAtDeclaration_205 f_Mo_lookAtDeclaration_208 f_Mo_lookAtDeclaration_212 zv_a15
  have e3 : (nI (f - 8) = 0) ↔ f = 8 := by rw [zc_eq (k := 0) (by decide) (by omega)]; omega
  rcases hpl with r | ⟨p, p1, p2, p3⟩
  · subst r
    rw [if_pos (by decide), if_pos rfl]
  · have n1 : ¬ pl = -1 := by rw [p3]; exact zc_m1 (by omega)
    have n2 : ¬ pl < 0 := by rw [p3]; exact mt (zc_tl (k := 0) (by decide) (by omega)).mp (by omega)
    simp only [if_neg n1, if_neg n2, e3, if_pos (zi_in (show kt < 2147483648 by omega) hkt), nI_clamp (show kt < 2147483648 by omega)]
    by_cases x1 : f = 8
    · rw [a x1]
      by_cases x2 : (768 : Int32) ≤ pl <;> by_cases x3 : nI t = 1 <;> by_cases x4 : nI t = 0 <;> simp only [x1, x2, x3, x4, if_true, if_false, and_true, true_and, and_false, false_and, show ¬ (1 : Int32) = 0 by decide, show ¬ (0 : Int32) = 1 by decide]
    · simp only [x1, if_false, false_and]
theorem zv_d18M {g : zs_H} {f t kc ic : Nat} {x1 n2 x4 pl cn v of : Int32} (hf : f = 8 ∨ f = 9 ∨ f = 10) (ht : t < 3) (hpl : zv_pv pl) (hcn : cn = -1 ∨ (cn = nI ic ∧ ic < 33500 ∧ kc < 100 ∧ (g.2.1 72) ic = nI kc ∧ (g.2.1 74) ic = v)) (hof : ¬ f = 10 → of = nI t) : f_Mo_lookAtDeclaration_266 g x1 n2 pl x4 cn (nI (f - 8)) of = (f_Mo_rule g (zv_a18 f t kc pl cn v) 18 x1).bind fun g4 => f_Mo_lookAtDeclaration_398 g4 x1 n2 pl x4 cn (nI (f - 8)) of := by
  unfold f_Mo_lookAtDeclaration_266
  rcases hcn with r | ⟨r1, r2, r3, r4, r5⟩
  · unfold zv_a18
    rw [if_pos r, if_pos (by rw [r]; decide), zv_rule0, Option.bind_some]
  · have nc : ¬ cn = -1 := by rw [r1]; exact zc_m1 (by omega)
    have nc0 : ¬ cn < 0 := by rw [r1]; exact mt (zc_tl (k := 0) (by decide) (by omega)).mp (by omega)
    have e2 : (nI (f - 8) = 2) ↔ f = 10 := by rw [zc_eq (k := 2) (by decide) (by omega)]; omega
    have e3 : (nI t = 0) ↔ t = 0 := zc_eq (k := 0) (by decide) (by omega)
    have e4 : (nI t = 1) ↔ t = 1 := zc_eq (k := 1) (by decide) (by omega)
    have e5 : (nI kc = 31) ↔ kc = 31 := zc_eq (k := 31) (by decide) (by omega)
    have e300 : f_Mo_lookAtDeclaration_300 g x1 n2 pl x4 cn (nI (f - 8)) of = f_Mo_lookAtDeclaration_392 g x1 n2 pl x4 cn (nI (f - 8)) of 1 := by
      unfold f_Mo_lookAtDeclaration_300 f_Mo_lookAtDeclaration_305 f_Mo_lookAtDeclaration_342 f_Mo_lookAtDeclaration_347 f_Mo_lookAtDeclaration_387
      simp only [show ¬ (1 : Int32) = 0 by decide, if_false]
    have e304 : ¬ f = 10 → f_Mo_lookAtDeclaration_304 g x1 n2 pl x4 cn (nI (f - 8)) of = f_Mo_lookAtDeclaration_392 g x1 n2 pl x4 cn (nI (f - 8)) of (zv_bd t kc v) := by
      intro hf10
      rw [hof hf10]
      unfold f_Mo_lookAtDeclaration_304 f_Mo_lookAtDeclaration_305 f_Mo_lookAtDeclaration_329 f_Mo_lookAtDeclaration_339 f_Mo_lookAtDeclaration_342 f_Mo_lookAtDeclaration_347 f_Mo_lookAtDeclaration_387 f_Mo_lookAtDeclaration_391 zv_bd
      have e6 : (v ≤ 32767) ↔ ¬ 32767 < v := Int32.not_lt.symm
      simp only [r1, if_pos (zi_in (show ic < 2147483648 by omega) r2), nI_clamp (show ic < 2147483648 by omega), r4, r5, e3, e4, e5, e6, if_true]
      by_cases y1 : kc = 31 <;> by_cases y2 : t = 0 <;> by_cases y3 : t = 1 <;> by_cases y4 : v < -32768 <;> by_cases y5 : 32767 < v <;> simp only [y1, y2, y3, y4, y5, if_true, if_false, and_true, true_and, and_false, false_and, or_self, or_true, true_or, not_true, not_false_iff, show ¬ (1 : Int32) = 0 by decide, show ¬ (0 : Int32) = 1 by decide, show ((0 : Nat) = 1) = False by simp, show ((1 : Nat) = 0) = False by simp]
    show _ = f_Mo_lookAtDeclaration_392 g x1 n2 pl x4 cn (nI (f - 8)) of (zv_a18 f t kc pl cn v)
    unfold zv_a18
    rw [if_neg nc, if_neg nc0, e300]
    by_cases y0 : f = 10
    · rw [if_pos (e2.mpr y0), if_pos y0]
    · rw [if_neg (mt e2.mp y0), if_neg y0, e304 y0]
      rcases hpl with r | ⟨p, p1, p2, p3⟩
      · rw [if_pos (by rw [r]; decide), if_neg (fun z => z.1 r)]
      · have n1 : ¬ pl = -1 := by rw [p3]; exact zc_m1 (by omega)
        have n2 : ¬ pl < 0 := by rw [p3]; exact mt (zc_tl (k := 0) (by decide) (by omega)).mp (by omega)
        simp only [if_neg n2, n1, not_false_iff, true_and]
        by_cases y1 : pl / 256 = 0 <;> by_cases y2 : pl / 256 = 3 <;> simp only [y1, y2, if_true, if_false, or_self, or_true, true_or, ite_self]
