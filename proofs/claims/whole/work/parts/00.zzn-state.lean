/-! The judge's state on both sides. -/
/-- the cell of a place -/
def zv_pc (p : Nat) : Nat := if p < 768 then p else 576 + p / 256 * 64 + p % 256
/-- a variable's first value, low end and place fit its type -/
def zv_dt (ty s : Nat) (low co pl : Int32) : Prop := (ty = 0 → co = 0 ∨ co = 1) ∧ low.toInt + s ≤ 2147483648 ∧ ∀ p : Nat, pl = nI p → p < 1536 → (p < 768 ↔ ty = 0)
/-- a settled variable v of block b -/
def zv_Q (b v : Nat) (h g : zs_H) : Prop := ∃ ty x s y : Nat,
  (ty < 3 ∧ (h.2.1 31) (32 + v) = nI ty) ∧ ((h.2.1 32) (32 + v) = nI x ∧ (g.2.1 94) v = nI x) ∧ ((h.2.1 34) (32 + v) = nI s ∧ (g.2.1 98) v = nI s) ∧ (h.2.1 25) (9 + b) = nI y ∧ (x < 300000000 ∧ s ≤ 30000 ∧ y ≤ 200000000 ∧ zv_dt ty s ((h.2.1 33) (32 + v)) ((h.2.1 35) (32 + v)) ((g.2.1 96) v)) ∧ (g.2.1 97) v = (h.2.1 33) (32 + v) ∧ (g.2.1 99) v = (h.2.1 35) (32 + v) ∧
  (((h.2.1 30) (32 + v) = -1 ∧ (g.2.1 92) v = 0 ∧ (g.2.1 93) v = nI ty ∧ s = 1) ∨ ((h.2.1 30) (32 + v) = -2 ∧ (g.2.1 92) v = 1 ∧ (g.2.1 93) v = nI ty ∧ 1 ≤ s ∧ s ≤ 256) ∨ (∃ B, B < 9 + b ∧ (h.2.1 30) (32 + v) = nI B ∧ (g.2.1 92) v = 2 ∧ (g.2.1 93) v = nI (if B < 9 then 100000 + B else B - 9) ∧ (9 ≤ B → (h.2.1 21) B = 2) ∧ (h.2.1 26) B = nI s)) ∧
  (((g.2.1 96) v = -1 ∧ x + s ≤ y ∧ ((h.2.1 21) (9 + b) = 3 → 960 ≤ x)) ∨ ∃ p, p < 1536 ∧ (g.2.1 96) v = nI p ∧ (h.2.1 21) (9 + b) = 3 ∧ x = zv_pc p ∧ (768 ≤ p → p % 256 < 64) ∧ s = 1)
def zv_V (nb ns : Nat) (F : Nat → Nat) (h g : zs_H) : Prop :=
  (∀ v, v < F nb → ∃ s, s < 4 ∧ (h.2.1 29) (32 + v) = nI s ∧ (g.2.1 95) v = nI (if s = 3 then 0 else s)) ∧
  (∀ b v, b < nb → F b ≤ v → v < F (b + 1) → v < ns → zv_Q b v h g) ∧ (∀ v, ns ≤ v → v < F nb → (g.2.1 96) v = -1) ∧ ns ≤ F nb ∧ (0 < nb → F (nb - 1) ≤ ns ∧ ((h.2.1 21) (8 + nb) = 1 → F (nb - 1) < ns))
def zv_C (nb nf : Nat) (F : Nat → Nat) (h g : zs_H) : Prop :=
  (nf = nb ∨ nf + 1 = nb) ∧ (∀ b, b < nf → ∃ x, x ≤ 30000 ∧ (h.2.1 26) (9 + b) = nI x ∧ (g.2.1 88) b = nI x) ∧
  (∀ b, nf ≤ b → b < nb → ∃ x, x ≤ 200000000 ∧ (h.2.1 25) (9 + b) = nI x ∧ (g.2.1 88) b = nI x ∧ ((h.2.1 21) (9 + b) = 3 → 960 ≤ x)) ∧
  (∀ b, b < nb → (h.2.1 21) (9 + b) = 1 → F b < F (b + 1) ∧ (g.2.1 87) b = (h.2.1 31) (32 + F b) ∧ (h.2.1 32) (32 + F b) = 0)
def zv_T (nb : Nat) (F : Nat → Nat) (q : Int32) (h g : zs_H) : Prop :=
  (∀ c, c < 960 → (h.2.1 40) c = 0 ∨ (h.2.1 40) c = 1) ∧ ∀ p, p < 1536 → (768 ≤ p → p % 256 < 64) → ((h.2.1 40) (zv_pc p) = 1 ↔ nI p = q ∨ ∃ v, F (nb - 1) ≤ v ∧ v < F nb ∧ (g.2.1 96) v = nI p)
def zv_I (LC LM : List (List Int32)) (nb nf ns : Nat) (F : Nat → Nat) (q : Int32) (h g : zs_H) : Prop :=
  zv_S LC LM g ∧ zv_B LC LM nb F h g ∧ zv_N LC LM nb F h g ∧ zv_V nb ns F h g ∧ zv_C nb nf F h g ∧ zv_T nb F q h g ∧ (0 < nb → (h.1 38 4) = nI (8 + nb) ∧ (g.1 68 54) = nI (nb - 1)) ∧ (h.1 38 3) = 0 ∧ (g.1 68 29) = 0
/-- both sides have found the same fault at the same place -/
def zv_X (φ : Nat) (p : Int32) (h g : zs_H) : Prop := 0 < φ ∧ φ < 1000 ∧ (h.1 38 3) = nI φ ∧ (h.1 38 0) = p ∧ (g.1 68 29) = nI φ ∧ (g.1 68 30) = p
abbrev zv_cf : List (Nat × Nat) := [(20, 17), (20, 18), (20, 19), (20, 20), (38, 0), (38, 3), (38, 4), (38, 5), (38, 6), (38, 7), (38, 8), (38, 9), (38, 10), (38, 12)]
abbrev zv_cm : List Nat := [21, 22, 23, 24, 25, 26, 27, 28, 29, 30, 31, 32, 33, 34, 35, 36, 37, 39, 40]
abbrev zv_mf : List (Nat × Nat) := [(68, 29), (68, 30), (68, 33), (68, 41), (68, 54), (68, 55)]
abbrev zv_mm : List Nat := [84, 85, 86, 87, 88, 89, 90, 91, 92, 93, 94, 95, 96, 97, 98, 99, 100, 101, 102]
theorem zv_rule0 {g : zs_H} {φ : Int32} {n : Int32} : f_Mo_rule g 0 φ n = some g := by unfold f_Mo_rule; rw [if_pos rfl]
theorem zv_ruleF {g : zs_H} {φ : Int32} {n : Int32} {x : Int32} (h : ¬ (g.1 68 29) = 0) : f_Mo_rule g x φ n = some g := by
  unfold f_Mo_rule f_Mo_breaks
  rw [if_neg h]
  split <;> rfl
theorem zv_rule1 {g : zs_H} {φ k : Nat} {x : Int32} (hx : ¬ x = 0) (h : (g.1 68 29) = 0) (hk : k < 33500) : f_Mo_rule g x (nI φ) (nI k) = some (zs_uF (zs_uF g 68 29 (nI φ)) 68 30 ((g.2.1 73) k)) := by
  unfold f_Mo_rule f_Mo_breaks
  rw [if_neg hx, if_pos h, if_pos (zi_in (by omega) hk), nI_clamp (by omega)]
  rfl
theorem zv_ref0 {h : zs_H} {φ : Int32} {n : Int32} : f_Jd_refuseIf h 0 φ n = some h := by unfold f_Jd_refuseIf; rw [if_pos rfl]
theorem zv_refF {h : zs_H} {φ : Int32} {n : Int32} {x : Int32} (hf : ¬ (h.1 38 3) = 0) : f_Jd_refuseIf h x φ n = some h := by
  unfold f_Jd_refuseIf f_Jd_refuse
  rw [if_neg hf]
  split <;> rfl
theorem zv_refu {h : zs_H} {φ k : Nat} (hf : (h.1 38 3) = 0) (hk : k < 32784) : f_Jd_refuse h (nI φ) (nI k) = some (zs_uF (zs_uF h 38 3 (nI φ)) 38 0 ((h.2.1 15) k)) := by
  unfold f_Jd_refuse
  rw [if_pos hf, if_pos (zi_in (by omega) hk), nI_clamp (by omega)]
theorem zv_ref1 {h : zs_H} {φ k : Nat} {x : Int32} (hx : ¬ x = 0) (hf : (h.1 38 3) = 0) (hk : k < 32784) : f_Jd_refuseIf h x (nI φ) (nI k) = some (zs_uF (zs_uF h 38 3 (nI φ)) 38 0 ((h.2.1 15) k)) := by
  unfold f_Jd_refuseIf
  rw [if_neg hx, zv_refu hf hk]
  rfl
