/-! The tape: feed and end. -/
def zb_y (x s : Int32) : Int32 := vp_nar .byte ((x >>> (s &&& 31)).toInt8.toInt32)
def zb_ok (v : Int32) : Prop := -128 ≤ v.toInt ∧ v.toInt ≤ 127
theorem zb_nar (x : Int32) : zb_ok (vp_nar .byte x) := by
  rw [vp_nar_byte]
  unfold zb_ok
  rw [Int8.toInt_toInt32]
  have h1 := Int8.le_toInt x.toInt8
  have h2 := Int8.toInt_lt x.toInt8
  omega
theorem zb_yok (x s : Int32) : zb_ok (zb_y x s) := zb_nar _
def zb_4 (f : Nat → Int32) (t : Nat) (x : Int32) : Nat → Int32 := fun i => if i = t + 3 then zb_y x 0 else if i = t + 2 then zb_y x 8 else if i = t + 1 then zb_y x 16 else if i = t then zb_y x 24 else f i
theorem zb_4eq {f g : Nat → Int32} {t : Nat} {x : Int32} (e : ∀ i, i < t → f i = g i) : ∀ i, i < t + 4 → zb_4 f t x i = zb_4 g t x i := by
  intro i hi
  unfold zb_4
  repeat' split
  all_goals first | rfl | exact e i (by omega)
theorem zb_4ok {f : Nat → Int32} {t : Nat} {x : Int32} (e : ∀ i, zb_ok (f i)) : ∀ i, zb_ok (zb_4 f t x i) := by
  intro i
  unfold zb_4
  by_cases c3 : i = t + 3
  · rw [if_pos c3]; exact zb_yok x 0
  rw [if_neg c3]
  by_cases c2 : i = t + 2
  · rw [if_pos c2]; exact zb_yok x 8
  rw [if_neg c2]
  by_cases c1 : i = t + 1
  · rw [if_pos c1]; exact zb_yok x 16
  rw [if_neg c1]
  by_cases c0 : i = t
  · rw [if_pos c0]; exact zb_yok x 24
  rw [if_neg c0]; exact e i
/-- a number has come behind a tape -/
def zb_A (k j a : Nat) (h : zs_H) (t : Nat) (x : Int32) (g : zs_H) : Prop := g.1 k j = nI (t + 4) ∧ g.2.1 a = zb_4 (h.2.1 a) t x ∧ zfr [(k, j)] [a] [] h g
theorem zb_An {k j a : Nat} {h : zs_H} {t : Nat} {x : Int32} : zb_A k j a h t x (zs_uF (zs_uM (zs_uF (zs_uM (zs_uF (zs_uM (zs_uF (zs_uM h a t (zb_y x 24)) k j (nI (t + 1))) a (t + 1) (zb_y x 16)) k j (nI (t + 2))) a (t + 2) (zb_y x 8)) k j (nI (t + 3))) a (t + 3) (zb_y x 0)) k j (nI (t + 4))) := by
  refine ⟨?_, ?_, ?_⟩
  · rw [zu_S]
  · funext i
    simp only [zu_FM, zu_MM, true_and, zb_4]
  · have m1 : (k, j) ∈ [(k, j)] := List.mem_singleton.mpr rfl
    have m2 : a ∈ [a] := List.mem_singleton.mpr rfl
    exact zfr_F m1 (zfr_M m2 (zfr_F m1 (zfr_M m2 (zfr_F m1 (zfr_M m2 (zfr_F m1 (zfr_M m2 zfr_rfl)))))))
theorem zb_cs {h : zs_H} {t n : Nat} {x s : Int32} (H : (h.1 0 1) = nI t) (ht : t < 16384) (hs : ¬ s < 0) : f_Pk_append_L3 (n + 1) h x s = f_Pk_append_L3 n (zs_uF (zs_uM h 1 t (zb_y x s)) 0 1 (nI (t + 1))) x (s + (-8)) := by
  show f_Pk_append_3 (f_Pk_append_L3 n) h x s = _
  unfold f_Pk_append_3
  rw [if_neg hs, H, if_neg (mt (zc_le (k := 16384) (t := t) (by decide) (by omega)).mp (by omega)), if_pos (zi_in (by omega) ht), nI_clamp (by omega), nI_1]
  rfl
theorem zb_ce {h : zs_H} {n : Nat} {x s : Int32} (hs : s < 0) : f_Pk_append_L3 (n + 1) h x s = some h := by
  show f_Pk_append_3 (f_Pk_append_L3 n) h x s = _
  unfold f_Pk_append_3
  rw [if_pos hs]
theorem zb_ms {h : zs_H} {t n : Nat} {x s : Int32} (H : (h.1 68 78) = nI t) (ht : t < 16384) (hs : ¬ s < 0) : f_Mo_bring_L3 (n + 1) h x s = f_Mo_bring_L3 n (zs_uF (zs_uM h 116 t (zb_y x s)) 68 78 (nI (t + 1))) x (s + (-8)) := by
  show f_Mo_bring_3 (f_Mo_bring_L3 n) h x s = _
  unfold f_Mo_bring_3
  rw [if_neg hs, H, if_pos (zi_in (by omega) ht), nI_clamp (by omega), nI_1]
  rfl
theorem zb_me {h : zs_H} {n : Nat} {x s : Int32} (hs : s < 0) : f_Mo_bring_L3 (n + 1) h x s = some h := by
  show f_Mo_bring_3 (f_Mo_bring_L3 n) h x s = _
  unfold f_Mo_bring_3
  rw [if_pos hs]
theorem zb_c {h : zs_H} {t : Nat} (x : Int32) (H : (h.1 0 1) = nI t) (ht : t + 4 ≤ 16384) : zw (f_Pk_append h x) (zb_A 0 1 1 h t x) := by
  unfold f_Pk_append
  rw [zF_9, zb_cs H (by omega) (by decide), zb_cs (t := t + 1) (by rw [zu_S]) (by omega) (by decide), zb_cs (t := t + 2) (by rw [zu_S]) (by omega) (by decide), zb_cs (t := t + 3) (by rw [zu_S]) (by omega) (by decide), zb_ce (by decide)]
  exact zw_some.mpr zb_An
theorem zb_m {h : zs_H} {t : Nat} (x : Int32) (H : (h.1 68 78) = nI t) (ht : t + 4 ≤ 16384) : zw (f_Mo_bring h x) (zb_A 68 78 116 h t x) := by
  unfold f_Mo_bring
  rw [zF_9, zb_ms H (by omega) (by decide), zb_ms (t := t + 1) (by rw [zu_S]) (by omega) (by decide), zb_ms (t := t + 2) (by rw [zu_S]) (by omega) (by decide), zb_ms (t := t + 3) (by rw [zu_S]) (by omega) (by decide), zb_me (by decide)]
  exact zw_some.mpr zb_An
def zb_20 (f : Nat → Int32) (t : Nat) (a b c d e : Int32) : Nat → Int32 := zb_4 (zb_4 (zb_4 (zb_4 (zb_4 f t a) (t + 4) b) (t + 8) c) (t + 12) d) (t + 16) e
def zb_F (k j a : Nat) (h : zs_H) (t : Nat) (x1 x2 x3 x4 x5 : Int32) (p : Int32 × zs_H) : Prop := p.1 = nI (t + 20) ∧ p.2.1 k j = nI (t + 20) ∧ p.2.2.1 a = zb_20 (h.2.1 a) t x1 x2 x3 x4 x5 ∧ zfr [(k, j)] [a] [] h p.2
theorem zb_5 {k j a : Nat} {h h1 h2 h3 h4 h5 : zs_H} {t : Nat} {x1 x2 x3 x4 x5 : Int32} (a1 : zb_A k j a h t x1 h1) (a2 : zb_A k j a h1 (t + 4) x2 h2) (a3 : zb_A k j a h2 (t + 8) x3 h3) (a4 : zb_A k j a h3 (t + 12) x4 h4) (a5 : zb_A k j a h4 (t + 16) x5 h5) : zb_F k j a h t x1 x2 x3 x4 x5 (h5.1 k j, h5) := by
  refine ⟨a5.1, a5.1, ?_, zfr_trans a1.2.2 (zfr_trans a2.2.2 (zfr_trans a3.2.2 (zfr_trans a4.2.2 a5.2.2)))⟩
  show h5.2.1 a = _
  rw [a5.2.1, a4.2.1, a3.2.1, a2.2.1, a1.2.1]; rfl
theorem zb_cf {h : zs_H} {t : Nat} (x1 x2 x3 x4 x5 : Int32) (H : (h.1 0 1) = nI t) (ht : t + 20 ≤ 16384) : zw (f_Pk_feed h x1 x2 x3 x4 x5) (zb_F 0 1 1 h t x1 x2 x3 x4 x5) := by
  unfold f_Pk_feed
  rw [H, zc_ad, if_pos ((zc_el (by decide) (by omega)).mpr ht), zw_bind]
  refine zw_mono (zb_c x1 H (by omega)) fun h1 a1 => ?_
  rw [zw_bind]
  refine zw_mono (zb_c x2 a1.1 (by omega)) fun h2 a2 => ?_
  rw [zw_bind]
  refine zw_mono (zb_c x3 a2.1 (by omega)) fun h3 a3 => ?_
  rw [zw_bind]
  refine zw_mono (zb_c x4 a3.1 (by omega)) fun h4 a4 => ?_
  rw [zw_bind]
  refine zw_mono (zb_c x5 a4.1 (by omega)) fun h5 a5 => ?_
  exact zw_some.mpr (zb_5 a1 a2 a3 a4 a5)
theorem zb_mf {h : zs_H} {t : Nat} (x1 x2 x3 x4 x5 : Int32) (H : (h.1 68 78) = nI t) (ht : t + 20 ≤ 16384) : zw (f_Mo_feed h x1 x2 x3 x4 x5) (zb_F 68 78 116 h t x1 x2 x3 x4 x5) := by
  unfold f_Mo_feed
  rw [H, zc_ad, if_pos ((zc_el (by decide) (by omega)).mpr ht), zw_bind]
  refine zw_mono (zb_m x1 H (by omega)) fun h1 a1 => ?_
  rw [zw_bind]
  refine zw_mono (zb_m x2 a1.1 (by omega)) fun h2 a2 => ?_
  rw [zw_bind]
  refine zw_mono (zb_m x3 a2.1 (by omega)) fun h3 a3 => ?_
  rw [zw_bind]
  refine zw_mono (zb_m x4 a3.1 (by omega)) fun h4 a4 => ?_
  rw [zw_bind]
  refine zw_mono (zb_m x5 a4.1 (by omega)) fun h5 a5 => ?_
  exact zw_some.mpr (zb_5 a1 a2 a3 a4 a5)
