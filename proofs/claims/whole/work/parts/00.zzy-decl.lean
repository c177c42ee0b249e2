/-! The judge: a declaration, both sides in step. -/
section ZVD
variable {nb f t it kt kc ic km : Nat} {x1 x2 n2 pl cn cm v of : Int32}
abbrev zv_cC (cn : Int32) (ic kc : Nat) (v : Int32) (h : zs_H) : Prop := cn = -1 ∨ (cn = nI ic ∧ ic < 32784 ∧ kc < 100 ∧ (h.2.1 13) ic = nI kc ∧ (h.2.1 16) ic = v)
abbrev zv_cM (cm : Int32) (km kc : Nat) (v : Int32) (g : zs_H) : Prop := cm = -1 ∨ (cm = nI km ∧ km < 33500 ∧ kc < 100 ∧ (g.2.1 72) km = nI kc ∧ (g.2.1 74) km = v)
def zv_b18C (h : zs_H) (x1 x2 pl cn : Int32) (f t : Nat) : Option zs_H := (if cn = (-1) then f_Jd_judgeDeclaration_311 h x1 x2 pl cn (nI t) else (if pl = (-1) then f_Jd_judgeDeclaration_269 h x1 x2 pl cn (nI f) (nI t) else (if (pl >>> ((8 : Int32) &&& 31)) = 0 then f_Jd_judgeDeclaration_265 h x1 x2 pl cn (nI f) (nI t) else (if (pl >>> ((8 : Int32) &&& 31)) = 3 then f_Jd_judgeDeclaration_265 h x1 x2 pl cn (nI f) (nI t) else f_Jd_judgeDeclaration_269 h x1 x2 pl cn (nI f) (nI t)))))
theorem zv_233 {h : zs_H} {a : Int32} : f_Jd_judgeDeclaration_233 h x1 x2 pl cn (nI f) (nI t) a = (f_Jd_refuseIf h a 15 x1).bind fun h2 => zv_b18C h2 x1 x2 pl cn f t := rfl
theorem zv_afC18 {h : zs_H} (hf : f = 8 ∨ f = 9 ∨ f = 10) (ht : t < 3) (hpl : zv_pv pl) (hcn : zv_cC cn ic kc v h) (nf : ¬ (h.1 38 3) = 0) (hb : (h.1 38 4) = nI (8 + nb)) (hnb : nb ≤ 568) : zv_b18C h x1 x2 pl cn f t = some h := by
  rw [show zv_b18C h x1 x2 pl cn f t = _ from zv_d18C hf ht hpl hcn, zv_refF nf, Option.bind_some]
  unfold f_Jd_judgeDeclaration_311 f_Jd_judgeDeclaration_346 f_Jd_judgeDeclaration_370
  rw [if_neg nf, hb, if_pos (zi_in (by omega) (by omega)), zv_refF nf, zv_refF nf, Option.bind_some]
  split <;> rfl
theorem zv_afC15 {h : zs_H} (hf : f = 8 ∨ f = 9 ∨ f = 10) (ht : t < 3) (hpl : zv_pv pl) (hcn : zv_cC cn ic kc v h) (nf : ¬ (h.1 38 3) = 0) (hb : (h.1 38 4) = nI (8 + nb)) (hnb : nb ≤ 568) : (if 3 ≤ (pl >>> ((8 : Int32) &&& 31)) then f_Jd_judgeDeclaration_206 h x1 x2 pl cn (nI f) (nI t) 1 else f_Jd_judgeDeclaration_206 h x1 x2 pl cn (nI f) (nI t) 0) = some h := by
  rw [zv_d15C hf hpl, zv_233, zv_refF nf, Option.bind_some, zv_afC18 hf ht hpl hcn nf hb hnb]
def zv_o15M (g : zs_H) (x1 n2 pl cn : Int32) (f kt : Nat) : Option zs_H := (if nI (f - 8) = 0 then (if zd_in (nI kt) 33500 then f_Mo_lookAtDeclaration_266 g x1 n2 pl (nI kt) cn (nI (f - 8)) ((g.2.1 74) (nI kt).toNatClampNeg) else none) else (if nI (f - 8) = 1 then (if zd_in (nI kt) 33500 then (if zd_in ((g.2.1 77) (nI kt).toNatClampNeg) 33500 then f_Mo_lookAtDeclaration_266 g x1 n2 pl (nI kt) cn (nI (f - 8)) ((g.2.1 74) ((g.2.1 77) (nI kt).toNatClampNeg).toNatClampNeg) else none) else none) else (if zd_in (nI kt) 33500 then ((f_Mo_blockOf g ((g.2.1 74) (nI kt).toNatClampNeg)).bind fun v7 => f_Mo_lookAtDeclaration_266 g x1 n2 pl (nI kt) cn (nI (f - 8)) v7) else none)))
theorem zv_213 {g : zs_H} {a : Int32} : f_Mo_lookAtDeclaration_213 g x1 n2 pl (nI kt) cm (nI (f - 8)) a = (f_Mo_rule g a 15 x1).bind fun g2 => zv_o15M g2 x1 n2 pl cm f kt := rfl
def zv_p15M (g : zs_H) (x1 n2 pl cn : Int32) (f kt : Nat) : Option zs_H := (if pl < 0 then f_Mo_lookAtDeclaration_212 g x1 n2 pl (nI kt) cn (nI (f - 8)) else (if nI (f - 8) = 0 then (if zd_in (nI kt) 33500 then (if 768 ≤ pl then f_Mo_lookAtDeclaration_205 g x1 n2 pl (nI kt) cn (nI (f - 8)) 1 ((g.2.1 74) (nI kt).toNatClampNeg) else f_Mo_lookAtDeclaration_205 g x1 n2 pl (nI kt) cn (nI (f - 8)) 0 ((g.2.1 74) (nI kt).toNatClampNeg)) else none) else f_Mo_lookAtDeclaration_208 g x1 n2 pl (nI kt) cn (nI (f - 8))))
theorem zv_170 {g : zs_H} {a : Int32} : f_Mo_lookAtDeclaration_170 g x1 n2 pl (nI kt) cm (nI (f - 8)) a = (f_Mo_rule g a 43 x1).bind fun g2 => zv_p15M g2 x1 n2 pl cm f kt := rfl
theorem zv_ofM {h g : zs_H} (hkt : kt < 33500) (TY : zv_TY nb f t it kt of h g) : zv_o15M g x1 n2 pl cm f kt = f_Mo_lookAtDeclaration_266 g x1 n2 pl (nI kt) cm (nI (f - 8)) of := by
  unfold zv_o15M
  have hk1 : zd_in (nI kt) 33500 := zi_in (by omega) hkt
  have ckt : (nI kt).toNatClampNeg = kt := nI_clamp (by omega)
  simp only [if_pos hk1, ckt]
  rcases TY with ⟨r1, r2, r3, r4⟩ | ⟨r1, r2, i1, i2, i3, k1, k2, k3, lo, hi, ⟨b1, b2, b3, b4, b5, b6⟩, ⟨d1, d2, d3, d4, d5, d6⟩, ⟨e1, e2, e3, e4, e5, e6⟩, v1, v2⟩ | ⟨r1, r2, c, B, w, u1, u2, u3, u4, u5, u6, u7, u8⟩
  · subst r1
    rw [if_pos (by decide), r3, r4]
  · subst r1
    rw [if_neg (by decide), if_pos (by decide), e3, if_pos (zi_in (by omega) b6), nI_clamp (by omega), e6, r2]
  · subst r1
    rw [if_neg (by decide), if_neg (by decide), u4, u7, Option.bind_some]
theorem zv_TYof {h g : zs_H} (TY : zv_TY nb f t it kt of h g) : (f = 8 ∨ f = 9 ∨ f = 10) ∧ (f = 8 → (g.2.1 74) kt = nI t) ∧ (¬ f = 10 → of = nI t) ∧ (f = 10 → t = 0) := by
  rcases TY with ⟨r1, r2, r3, r4⟩ | ⟨r1, r2, _⟩ | ⟨r1, r2, _⟩
  · exact ⟨.inl r1, fun _ => r3, fun _ => r4, fun z => by omega⟩
  · exact ⟨.inr (.inl r1), fun z => by omega, fun _ => r2, fun z => by omega⟩
  · exact ⟨.inr (.inr r1), fun z => by omega, fun z => absurd r1 z, fun _ => r2⟩
theorem zv_afM18 {h g : zs_H} (ht : t < 3) (hpl : zv_pv pl) (hkt : kt < 33500) (TY : zv_TY nb f t it kt of h g) (hcm : zv_cM cm km kc v g) (nj : ¬ (g.1 68 29) ≤ 0) : zv_o15M g x1 n2 pl cm f kt = some g := by
  obtain ⟨hf, _, h3, _⟩ := zv_TYof TY
  have nj' : ¬ (g.1 68 29) = 0 := fun z => nj (by rw [z]; decide)
  rw [zv_ofM hkt TY, zv_d18M hf ht hpl hcm h3, zv_ruleF nj', Option.bind_some]
  unfold f_Mo_lookAtDeclaration_398
  rw [if_neg nj]
theorem zv_afM15 {h g : zs_H} (ht : t < 3) (hpl : zv_pv pl) (hkt : kt < 33500) (TY : zv_TY nb f t it kt of h g) (hcm : zv_cM cm km kc v g) (nj : ¬ (g.1 68 29) ≤ 0) : zv_p15M g x1 n2 pl cm f kt = some g := by
  obtain ⟨hf, h2, _, _⟩ := zv_TYof TY
  have nj' : ¬ (g.1 68 29) = 0 := fun z => nj (by rw [z]; decide)
  rw [show zv_p15M g x1 n2 pl cm f kt = _ from zv_d15M hf hpl hkt h2, zv_213, zv_ruleF nj', Option.bind_some, zv_afM18 ht hpl hkt TY hcm nj]
end ZVD
