/-! The judge: the constants of a FOR (36). -/
def yc_R (b : Bool) (φ i : Nat) (h : zs_H) : zs_H := if b = true ∧ (h.1 38 3) = 0 then zv_rf φ i h else h
section YFU
variable {h g : zs_H} {i k u ty : Nat}
theorem yc_R2 {b : Bool} {φ : Nat} : (yc_R b φ i h).2 = h.2 ∧ (∀ p q, ¬ (p, q) = (38, 3) → ¬ (p, q) = (38, 0) → (yc_R b φ i h).1 p q = h.1 p q) := by
  unfold yc_R
  split
  · refine ⟨rfl, fun p q h1 h2 => ?_⟩
    unfold zv_rf
    rw [zu_FF, if_neg (fun z => h2 (by rw [z.1, z.2])), zu_FF, if_neg (fun z => h1 (by rw [z.1, z.2]))]
  · exact ⟨rfl, fun _ _ _ _ => rfl⟩
theorem yc_Rf {φ : Nat} {b : Bool} {x : Int32} (hi : i < 32784) (hx : x = if b = true then 1 else 0) : f_Jd_refuseIf h x (nI φ) (nI i) = some (yc_R b φ i h) := by
  unfold yc_R
  subst hx
  cases b with
  | false => rw [if_neg (by decide), zv_ref0, if_neg (fun z => absurd z.1 (by decide))]
  | true =>
    rw [if_pos rfl]
    by_cases z : (h.1 38 3) = 0
    · rw [zv_ref1 (by decide) z hi, if_pos ⟨rfl, z⟩]; rfl
    · rw [zv_refF z, if_neg (fun u => z u.2)]
theorem yc_RR {φ : Nat} {b c : Bool} (h1 : 0 < φ) (h2 : φ < 1000) : yc_R c φ i (yc_R b φ i h) = yc_R (b || c) φ i h := by
  unfold yc_R
  cases b with
  | false => rw [if_neg (fun z : false = true ∧ (h.1 38 3) = 0 => absurd z.1 (by decide))]; rfl
  | true =>
    by_cases z : (h.1 38 3) = 0
    · rw [if_pos (⟨rfl, z⟩ : true = true ∧ (h.1 38 3) = 0), if_neg (fun u => zv_rff (φ := φ) (i := i) (h := h) h1 h2 u.2), if_pos (⟨rfl, z⟩ : (true || c) = true ∧ (h.1 38 3) = 0)]
    · rw [if_neg (fun u : true = true ∧ (h.1 38 3) = 0 => z u.2), if_neg (fun u => z u.2), if_neg (fun u => z u.2)]
/-- whether a constant is wrong for a type -/
def yc_b (ty : Nat) (kd : Int32) (v : Int32) : Bool := decide (kd = 31) || (decide (ty = 1) && (decide (v < -32768) || decide (32767 < v)))
theorem yc_u71 {N : Nat} {x1 x2 x3 x5 : Int32} (x : Int32) : f_Jd_judgeFor_L71 (N + 1) h x1 x2 x3 x x5 = f_Jd_judgeFor_71 (f_Jd_judgeFor_L71 N) h x1 x2 x3 x x5 := rfl
theorem yc_71 {N x turn : Nat} (hi : i < 32784) (hx : x < 32784) (ht : turn < 3) (hty : ty < 3) (hk : zv_kc h x) : f_Jd_judgeFor_L71 (N + 1) h (nI i) (nI (32 + u)) (nI ty) (nI x) (nI turn) = f_Jd_judgeFor_L71 N (yc_R (yc_b ty ((h.2.1 13) x) ((h.2.1 16) x)) 36 i h) (nI i) (nI (32 + u)) (nI ty) ((h.2.1 18) x) (nI (turn + 1)) := by
  rw [yc_u71]
  have e120 : ∀ y : Int32, y = (if yc_b ty ((h.2.1 13) x) ((h.2.1 16) x) = true then 1 else 0) → f_Jd_judgeFor_120 (f_Jd_judgeFor_L71 N) h (nI i) (nI (32 + u)) (nI ty) (nI x) (nI turn) y = f_Jd_judgeFor_L71 N (yc_R (yc_b ty ((h.2.1 13) x) ((h.2.1 16) x)) 36 i h) (nI i) (nI (32 + u)) (nI ty) ((h.2.1 18) x) (nI (turn + 1)) := by
    intro y hy
    unfold f_Jd_judgeFor_120
    rw [show (36 : Int32) = nI 36 from rfl, yc_Rf hi hy, Option.bind_some, if_pos (zi_in (by omega) hx), nI_clamp (show x < 2147483648 by omega), yc_R2.1, nI_1]
  unfold f_Jd_judgeFor_71 f_Jd_judgeFor_115 f_Jd_isInRange
  rw [if_neg (mt (zc_le (k := 3) (by decide) (by omega)).mp (by omega)), zv_isC1 hx hk, Option.bind_some, if_neg (by decide), if_pos (zi_in (by omega) hx), if_pos (zi_in (by omega) hx)]
  simp only [nI_clamp (show x < 2147483648 by omega), show (nI ty = 1) ↔ ty = 1 from zc_eq (k := 1) (by decide) (by omega)]
  by_cases z1 : (h.2.1 13) x = 31
  · rw [if_pos z1]
    exact e120 1 (by unfold yc_b; simp only [z1, decide_true, Bool.true_or, if_true])
  · rw [if_neg z1]
    by_cases z2 : ty = 1
    · by_cases z3 : (h.2.1 16) x < -32768
      · rw [if_pos z2, if_pos z3, Option.bind_some, if_pos rfl]
        exact e120 1 (by unfold yc_b; simp only [z1, z2, z3, decide_true, decide_false, Bool.true_or, Bool.or_true, Bool.true_and, Bool.false_or, if_true])
      · by_cases z4 : 32767 < (h.2.1 16) x
        · rw [if_pos z2, if_neg z3, if_pos z4, Option.bind_some, if_pos rfl]
          exact e120 1 (by unfold yc_b; simp only [z1, z2, z3, z4, decide_true, decide_false, Bool.or_true, Bool.true_and, Bool.false_or, if_true])
        · rw [if_pos z2, if_neg z3, if_neg z4, Option.bind_some, if_neg (by decide)]
          exact e120 0 (by unfold yc_b; simp only [z1, z2, z3, z4, decide_true, decide_false, Bool.or_self, Bool.true_and]; rfl)
    · simp only [z2, if_false, Option.bind_some, show ¬ (1 : Int32) = 0 by decide]
      exact e120 0 (by unfold yc_b; simp only [z1, z2, decide_false, Bool.false_and, Bool.or_self]; rfl)
theorem yc_71e {N x turn : Nat} (hx : x < 32784) (ht : turn ≤ 3) (hk : turn = 3 ∨ ¬ zv_kc h x) : f_Jd_judgeFor_L71 (N + 1) h (nI i) (nI (32 + u)) (nI ty) (nI x) (nI turn) = f_Jd_judgeFor_144 h (nI i) (nI (32 + u)) (nI ty) := by
  rw [yc_u71]
  unfold f_Jd_judgeFor_71
  rcases hk with z | z
  · rw [if_pos ((zc_le (k := 3) (by decide) (by omega)).mpr (by omega))]
  · rw [zv_isC0 hx z, Option.bind_some, if_pos rfl, ite_self]
theorem yc_71x {N : Nat} {x : Int32} : f_Jd_judgeFor_L71 (N + 1) h (nI i) (nI (32 + u)) (nI ty) x (nI 3) = f_Jd_judgeFor_144 h (nI i) (nI (32 + u)) (nI ty) := by
  rw [yc_u71]
  unfold f_Jd_judgeFor_71
  rw [if_pos ((zc_le (k := 3) (by decide) (by omega)).mpr (by omega))]
/-- what is written in the end -/
def yc_W (i u ty : Nat) (h : zs_H) : zs_H := zs_uM (zs_uM h 16 i (nI (32 + u))) 14 i (nI ty)
theorem yc_144 {a b c : Nat} {st : Int32} {T : Int64} (hi : i < 32784) (hty : ty < 3) (c1 : (h.2.1 17) i = nI a) (ha : a < 32784) (c2 : (h.2.1 18) a = nI b) (hb : b < 32784) (c3 : (h.2.1 18) b = nI c) (hc : c < 32784) (hst : (zv_kc h c ∧ st = (h.2.1 16) c) ∨ (¬ zv_kc h c ∧ st = 1)) (hT : f_Cd_times ((h.2.1 16) a) ((h.2.1 16) b) st = some T) : f_Jd_judgeFor_144 h (nI i) (nI (32 + u)) (nI ty) = some (yc_W i u ty (yc_R (decide (st = 0) || decide (¬ T ≤ 1000000)) 36 i h)) := by
  have sec : ∀ h2 : zs_H, h2.2 = h.2 → f_Tr_second h2 (nI i) = some (nI b) := by
    intro h2 e
    unfold f_Tr_second
    rw [e, if_pos (zi_in (by omega) hi), nI_clamp (show i < 2147483648 by omega), c1, if_neg (zc_m1 (by omega)), if_pos (zi_in (by omega) ha), nI_clamp (show a < 2147483648 by omega), c2]
  have stp : f_Tr_stepOf h (nI i) = some st := by
    unfold f_Tr_stepOf f_Tr_stepOf_21
    rw [sec h rfl, Option.bind_some, if_neg (zc_m1 (by omega)), if_pos (zi_in (by omega) hb), nI_clamp (show b < 2147483648 by omega), c3]
    rcases hst with ⟨z1, z2⟩ | ⟨z1, z2⟩
    · rw [zv_isC1 hc z1, Option.bind_some, if_neg (by decide), if_pos (zi_in (by omega) hc), nI_clamp (show c < 2147483648 by omega), z2]
    · rw [zv_isC0 hc z1, Option.bind_some, if_pos rfl, z2]
  have e226 : ∀ (h2 : zs_H) (y : Int32) (q : Bool), y = (if q = true then 1 else 0) → f_Jd_judgeFor_226 h2 (nI i) (nI (32 + u)) (nI ty) y = some (yc_W i u ty (yc_R q 36 i h2)) := by
    intro h2 y q hy
    unfold f_Jd_judgeFor_226
    rw [show (36 : Int32) = nI 36 from rfl, yc_Rf hi hy, Option.bind_some, if_pos (zi_in (by omega) hi), nI_clamp (show i < 2147483648 by omega), zv_nar3 hty]
    rfl
  have e165 : ∀ (y : Int32) (q : Bool), y = (if q = true then 1 else 0) → f_Jd_judgeFor_165 h (nI i) (nI (32 + u)) (nI ty) st y = some (yc_W i u ty (yc_R (q || decide (¬ T ≤ 1000000)) 36 i h)) := by
    intro y q hy
    unfold f_Jd_judgeFor_165
    rw [show (36 : Int32) = nI 36 from rfl, yc_Rf hi hy, Option.bind_some, if_pos (zi_in (by omega) hi), nI_clamp (show i < 2147483648 by omega), yc_R2.1, c1, if_pos (zi_in (by omega) ha), sec _ yc_R2.1, Option.bind_some, if_pos (zi_in (by omega) hb), nI_clamp (show a < 2147483648 by omega), nI_clamp (show b < 2147483648 by omega), hT, Option.bind_some, ← yc_RR (by decide) (by decide)]
    by_cases z : T ≤ 1000000
    · rw [if_pos z]
      exact e226 _ 0 _ (by rw [if_neg (by simp only [decide_eq_true_eq]; exact fun n => n z)])
    · rw [if_neg z]
      exact e226 _ 1 _ (by rw [if_pos (by simp only [decide_eq_true_eq]; exact z)])
  unfold f_Jd_judgeFor_144
  rw [stp, Option.bind_some]
  by_cases z : st = 0
  · rw [if_pos z]
    exact e165 1 _ (by rw [if_pos (by simp only [decide_eq_true_eq]; exact z)])
  · rw [if_neg z]
    exact e165 0 _ (by rw [if_neg (by simp only [decide_eq_true_eq]; exact z)])
/-- the class: all of it behind the assignment's rules -/
theorem yc_forC {a b c : Nat} {st : Int32} {T : Int64} (hi : i < 32784) (hty : ty < 3) (c1 : (h.2.1 17) i = nI a) (ha : a < 32784) (c2 : (h.2.1 18) a = nI b) (hb : b < 32784) (c3 : (h.2.1 18) b = nI c) (hc : c < 32784) (ka : zv_kc h a) (kb : zv_kc h b) (hst : (zv_kc h c ∧ st = (h.2.1 16) c) ∨ (¬ zv_kc h c ∧ st = 1)) (hT : f_Cd_times ((h.2.1 16) a) ((h.2.1 16) b) st = some T) : f_Jd_judgeFor_L71 zF h (nI i) (nI (32 + u)) (nI ty) (nI a) (nI 0) = some (yc_W i u ty (yc_R (yc_b ty ((h.2.1 13) a) ((h.2.1 16) a) || yc_b ty ((h.2.1 13) b) ((h.2.1 16) b) || (decide (zv_kc h c) && yc_b ty ((h.2.1 13) c) ((h.2.1 16) c)) || decide (st = 0) || decide (¬ T ≤ 1000000)) 36 i h)) := by
  have hz : zF = 18446744073709551612 + 1 + 1 + 1 + 1 := rfl
  rw [hz, yc_71 hi ha (by decide) hty ka, c2]
  have K : ∀ {q : Bool} {x : Nat}, zv_kc (yc_R q 36 i h) x ↔ zv_kc h x := fun {q x} => by unfold zv_kc; rw [yc_R2.1]
  have V : ∀ {q : Bool}, (yc_R q 36 i h).2 = h.2 := yc_R2.1
  rw [yc_71 hi hb (by decide) hty (K.mpr kb), V, c3, yc_RR (by decide) (by decide)]
  rcases hst with ⟨z1, z2⟩ | ⟨z1, z2⟩
  · rw [yc_71 hi hc (by decide) hty (K.mpr z1), V, yc_RR (by decide) (by decide), yc_71x]
    rw [yc_144 (st := st) (T := T) hi hty (by rw [V]; exact c1) ha (by rw [V]; exact c2) hb (by rw [V]; exact c3) hc (.inl ⟨K.mpr z1, by rw [V]; exact z2⟩) (by rw [V]; exact hT), yc_RR (by decide) (by decide)]
    simp only [z1, decide_true, Bool.true_and, Bool.or_assoc]
  · rw [yc_71e hc (by decide) (.inr (mt K.mp z1)), yc_144 (st := st) (T := T) hi hty (by rw [V]; exact c1) ha (by rw [V]; exact c2) hb (by rw [V]; exact c3) hc (.inr ⟨mt K.mp z1, z2⟩) (by rw [V]; exact hT), yc_RR (by decide) (by decide)]
    simp only [z1, decide_false, Bool.false_and, Bool.or_false, Bool.or_assoc]
end YFU
