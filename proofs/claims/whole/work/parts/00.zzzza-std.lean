/-! The judge: calls of standard functions (25, 26): the class. -/
def ya_ok (h : zs_H) (i t : Nat) (x : Int32) : Prop := (x = -1 ∧ t = 1) ∨ ∃ a, x = nI a ∧ a < 32784 ∧ ¬ a = i ∧ (h.2.1 14) a = nI t
abbrev ya_con (h : zs_H) (x : Int32) : Prop := x = -1 ∨ zv_kc h x.toNatClampNeg
def ya_val (h : zs_H) (x : Int32) : Int32 := if x = -1 then 0 else (h.2.1 16) x.toNatClampNeg
def ya_h2 (h : zs_H) (i s ty : Nat) : zs_H := zs_uM (zs_uM (zs_uM h 13 i 39) 16 i (nI s)) 14 i (nI ty)
theorem ya_T1 : ∀ s, s < 10 → ∀ t1, t1 < 3 → ∀ t2, t2 < 3 → ∀ t3, t3 < 3 → f_Jd_standardType (nI s) (nI t1) (nI t2) (nI t3) = -1 ∨ ((f_Jd_standardType (nI s) (nI t1) (nI t2) (nI t3)).toNatClampNeg < 3 ∧ f_Jd_standardType (nI s) (nI t1) (nI t2) (nI t3) = nI (f_Jd_standardType (nI s) (nI t1) (nI t2) (nI t3)).toNatClampNeg) := by decide +kernel
theorem ya_T2 : ∀ s, s < 10 → zt_4.getD s 0 = nI ([1, 2, 2, 3, 3, 2, 2, 1, 1, 1].getD s 0) := by decide +kernel
theorem ya_tot {s : Nat} (hs : s < 10) (t x y z : Int32) : ∃ v, f_Cd_standard (nI s) t x y z = some v := by
  unfold f_Cd_standard
  rw [if_pos (zi_in (show s < 2147483648 by omega) hs)]
  obtain ⟨v, e⟩ := zv_two (f_Cd_standardKind (nI s) t) x y
  rw [e, Option.bind_some, ← Option.isSome_iff_exists]
  repeat' (first | rfl | (apply zv_ois <;> intro _))
section YS
variable {h : zs_H} {i s a t1 t2 t3 ty : Nat} {x5 x6 : Int32}
theorem ya_h2k (hai : ¬ a = i) : ((ya_h2 h i s ty).2.1 13) a = (h.2.1 13) a ∧ ((ya_h2 h i s ty).2.1 16) a = (h.2.1 16) a := by
  unfold ya_h2
  refine ⟨?_, ?_⟩
  · rw [zu_MM, if_neg (fun z => absurd z.1 (by decide)), zu_MM, if_neg (fun z => absurd z.1 (by decide)), zu_MM, if_neg (fun z => hai z.2)]
  · rw [zu_MM, if_neg (fun z => absurd z.1 (by decide)), zu_MM, if_neg (fun z => hai z.2), zu_MM, if_neg (fun z => absurd z.1 (by decide))]
theorem ya_isc (ok : ya_ok h i t1 x5) (hn : ¬ x5 = -1) : f_Tr_isConstant (ya_h2 h i s ty) x5 = some (if ya_con h x5 then 1 else 0) := by
  rcases ok with ⟨z, _⟩ | ⟨a, e1, e2, e3, _⟩
  · exact absurd z hn
  · subst e1
    have hk := (ya_h2k (h := h) (s := s) (ty := ty) e3).1
    unfold ya_con
    rw [nI_clamp (show a < 2147483648 by omega)]
    by_cases z : zv_kc h a
    · rw [zv_isC1 e2 (by unfold zv_kc; rw [hk]; exact z), if_pos (.inr z)]
    · rw [zv_isC0 e2 (by unfold zv_kc; rw [hk]; exact z), if_neg (fun u => u.elim (fun u => zc_m1 (by omega) u) z)]
theorem ya_std59 (J1 : (h.1 38 3) = 0) (hi : i < 32784) (hs : s < 10) (ok1 : ya_ok h i t1 (nI a)) (ha : a < 32784) (hai : ¬ a = i) (c4 : (h.2.1 14) a = nI t1) (ok2 : ya_ok h i t2 x5) (ok3 : ya_ok h i t3 x6) (hty : ¬ f_Jd_standardType (nI s) (nI t1) (nI t2) (nI t3) = -1 → f_Jd_standardType (nI s) (nI t1) (nI t2) (nI t3) = nI ty ∧ ty < 3) :
    f_Jd_judgeStandardCall_59 h (nI i) (nI s) (nI a) x5 x6 = if f_Jd_standardType (nI s) (nI t1) (nI t2) (nI t3) = -1 then some (zv_rf 26 i h) else (if ya_con h (nI a) ∧ ya_con h x5 ∧ ya_con h x6 then (f_Cd_standard (nI s) (nI ty) ((h.2.1 16) a) (ya_val h x5) (ya_val h x6)).bind (fun v => some (zv_fo i v (ya_h2 h i s ty))) else some (ya_h2 h i s ty)) := by
  have e59 : f_Jd_judgeStandardCall_59 h (nI i) (nI s) (nI a) x5 x6 = f_Jd_judgeStandardCall_103 h (nI i) (nI s) (nI a) x5 x6 (nI t2) (nI t3) := by
    have e81 : ∀ y, f_Jd_judgeStandardCall_81 h (nI i) (nI s) (nI a) x5 x6 y = f_Jd_judgeStandardCall_103 h (nI i) (nI s) (nI a) x5 x6 y (nI t3) := by
      intro y
      unfold f_Jd_judgeStandardCall_81
      rcases ok3 with ⟨z, z2⟩ | ⟨b, e1, e2, e3, e4⟩
      · rw [if_pos z, z2]; rfl
      · rw [e1, if_neg (zc_m1 (by omega)), if_pos (zi_in (by omega) e2), nI_clamp (show b < 2147483648 by omega), e4]
    unfold f_Jd_judgeStandardCall_59
    rcases ok2 with ⟨z, z2⟩ | ⟨b, e1, e2, e3, e4⟩
    · rw [if_pos z, z2, e81]; rfl
    · have n1 : ¬ x5 = -1 := by rw [e1]; exact zc_m1 (by omega)
      rw [if_neg n1, e81, e1, if_pos (zi_in (by omega) e2), nI_clamp (show b < 2147483648 by omega), e4]
  have ev : ∀ {t : Nat} {x : Int32}, ya_ok h i t x → ¬ x = -1 → ∃ b, x = nI b ∧ b < 32784 ∧ ((ya_h2 h i s ty).2.1 16) b = ya_val h x := by
    intro t x ok hn
    rcases ok with ⟨z, _⟩ | ⟨b, e1, e2, e3, _⟩
    · exact absurd z hn
    · refine ⟨b, e1, e2, ?_⟩
      unfold ya_val
      rw [if_neg hn, e1, nI_clamp (show b < 2147483648 by omega)]
      exact (ya_h2k e3).2
  rw [e59]
  unfold f_Jd_judgeStandardCall_103
  simp only [if_pos (zi_in (show a < 2147483648 by omega) ha), nI_clamp (show a < 2147483648 by omega), c4]
  by_cases zb : f_Jd_standardType (nI s) (nI t1) (nI t2) (nI t3) = -1
  · rw [if_pos zb, if_pos zb, show (26 : Int32) = nI 26 from rfl, zv_refu J1 hi, Option.bind_some]; rfl
  · obtain ⟨hT, ht⟩ := hty zb
    rw [if_neg zb, if_neg zb, hT, zv_nar3 ht, if_pos (zi_in (by omega) hi), nI_clamp (show i < 2147483648 by omega)]
    have eh : zs_uM (zs_uM (zs_uM h 13 i (vp_nar .byte 39)) 16 i (nI s)) 14 i (nI ty) = ya_h2 h i s ty := rfl
    rw [eh, ya_isc ok1 (zc_m1 (by omega)), Option.bind_some]
    -- what comes behind the constants
    have e274 : ∀ y z, f_Jd_judgeStandardCall_274 (ya_h2 h i s ty) (nI i) (nI s) (nI a) (nI ty) y z = (f_Cd_standard (nI s) (nI ty) ((h.2.1 16) a) y z).bind (fun v => some (zv_fo i v (ya_h2 h i s ty))) := by
      intro y z
      unfold f_Jd_judgeStandardCall_274
      rw [if_pos (zi_in (by omega) ha), nI_clamp (show a < 2147483648 by omega), (ya_h2k hai).2]
      refine congrArg _ (funext fun v => ?_)
      rw [zv_fold1 hi, Option.bind_some]
    have e252 : ∀ y, f_Jd_judgeStandardCall_252 (ya_h2 h i s ty) (nI i) (nI s) (nI a) x6 (nI ty) y = (f_Cd_standard (nI s) (nI ty) ((h.2.1 16) a) y (ya_val h x6)).bind (fun v => some (zv_fo i v (ya_h2 h i s ty))) := by
      intro y
      unfold f_Jd_judgeStandardCall_252
      rw [e274]
      by_cases z : x6 = -1
      · rw [if_pos z]; unfold ya_val; rw [if_pos z]
      · obtain ⟨b, b1, b2, b3⟩ := ev ok3 z
        rw [if_neg z, e274]
        rw [if_pos (by rw [b1]; exact zi_in (by omega) b2), show ((ya_h2 h i s ty).2.1 16) x6.toNatClampNeg = ya_val h x6 from by rw [← b3, b1, nI_clamp (show b < 2147483648 by omega)]]
    have e225 : f_Jd_judgeStandardCall_225 (ya_h2 h i s ty) (nI i) (nI s) (nI a) x5 x6 (nI ty) 1 = (f_Cd_standard (nI s) (nI ty) ((h.2.1 16) a) (ya_val h x5) (ya_val h x6)).bind (fun v => some (zv_fo i v (ya_h2 h i s ty))) := by
      unfold f_Jd_judgeStandardCall_225
      rw [if_neg (by decide), e252]
      by_cases z : x5 = -1
      · rw [if_pos z]; unfold ya_val; rw [if_pos z]
      · obtain ⟨b, b1, b2, b3⟩ := ev ok2 z
        rw [if_neg z, e252]
        rw [if_pos (by rw [b1]; exact zi_in (by omega) b2), show ((ya_h2 h i s ty).2.1 16) x5.toNatClampNeg = ya_val h x5 from by rw [← b3, b1, nI_clamp (show b < 2147483648 by omega)]]
    have e224 : f_Jd_judgeStandardCall_224 (ya_h2 h i s ty) (nI i) (nI s) (nI a) x5 x6 (nI ty) = some (ya_h2 h i s ty) := by
      unfold f_Jd_judgeStandardCall_224 f_Jd_judgeStandardCall_225
      rw [if_pos rfl]
    have e202 : f_Jd_judgeStandardCall_202 (ya_h2 h i s ty) (nI i) (nI s) (nI a) x5 x6 (nI ty) = if ya_con h x6 then (f_Cd_standard (nI s) (nI ty) ((h.2.1 16) a) (ya_val h x5) (ya_val h x6)).bind (fun v => some (zv_fo i v (ya_h2 h i s ty))) else some (ya_h2 h i s ty) := by
      unfold f_Jd_judgeStandardCall_202 f_Jd_judgeStandardCall_220
      rw [e225, e224]
      by_cases z : x6 = -1
      · rw [if_pos z, if_pos (show ya_con h x6 from .inl z)]
      · rw [if_neg z, ya_isc ok3 z, Option.bind_some]
        by_cases zc : ya_con h x6
        · rw [if_pos zc, if_pos zc, if_neg (by decide)]
        · rw [if_neg zc, if_neg zc, if_pos rfl]
    rw [e202, e224]
    by_cases za : ya_con h (nI a)
    · rw [if_pos za, if_neg (by decide)]
      by_cases z5 : x5 = -1
      · rw [if_pos z5]
        have c5 : ya_con h x5 := .inl z5
        by_cases z6 : ya_con h x6
        · rw [if_pos z6, if_pos ⟨za, c5, z6⟩]
        · rw [if_neg z6, if_neg (fun u => z6 u.2.2)]
      · rw [if_neg z5, ya_isc ok2 z5, Option.bind_some]
        by_cases c5 : ya_con h x5
        · rw [if_pos c5, if_neg (by decide)]
          by_cases z6 : ya_con h x6
          · rw [if_pos z6, if_pos ⟨za, c5, z6⟩]
          · rw [if_neg z6, if_neg (fun u => z6 u.2.2)]
        · rw [if_neg c5, if_pos rfl, if_neg (fun u => c5 u.2.1)]
    · rw [if_neg za, if_pos rfl, if_neg (fun u => za u.1)]
end YS
