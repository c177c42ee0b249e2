section
/-! Numbers, loops, what stays as it was. -/
theorem zi_nn {x : Int32} (h : ¬ x < 0) : nI x.toNatClampNeg = x := Int32.ofNat_toNatClampNeg x (Int32.not_lt.mp h)
theorem zi_sub {a b : Nat} (h : b ≤ a) : nI a - nI b = nI (a - b) := (Int32.ofNat_sub a b h).symm
theorem zi_mul (a b : Nat) : nI a * nI b = nI (a * b) := (Int32.ofNat_mul a b).symm
theorem zi_in {a n : Nat} (ha : a < 2147483648) (h : a < n) : zd_in (nI a) n := ⟨nI_pos ha, by rw [nI_clamp ha]; exact h⟩
theorem zi_inI {a n : Nat} (ha : a < 2147483648) : zd_in (nI a) n ↔ a < n := ⟨fun q => by have := q.2; rwa [nI_clamp ha] at this, zi_in ha⟩
/-- a number of the text of a row -/
theorem zc_n (k : Nat) : (OfNat.ofNat k : Int32) = nI k := rfl
theorem zc_le {k t : Nat} (hk : k < 2147483648) (ht : t < 2147483648) : (OfNat.ofNat k : Int32) ≤ nI t ↔ k ≤ t := nI_leI hk ht
theorem zc_lt {k t : Nat} (hk : k < 2147483648) (ht : t < 2147483648) : (OfNat.ofNat k : Int32) < nI t ↔ k < t := nI_ltI hk ht
theorem zc_el {k t : Nat} (hk : k < 2147483648) (ht : t < 2147483648) : nI t ≤ (OfNat.ofNat k : Int32) ↔ t ≤ k := nI_leI ht hk
theorem zc_tl {k t : Nat} (hk : k < 2147483648) (ht : t < 2147483648) : nI t < (OfNat.ofNat k : Int32) ↔ t < k := nI_ltI ht hk
theorem zc_eq {k t : Nat} (hk : k < 2147483648) (ht : t < 2147483648) : nI t = (OfNat.ofNat k : Int32) ↔ t = k := nI_eq ht hk
theorem zc_qe {k t : Nat} (hk : k < 2147483648) (ht : t < 2147483648) : (OfNat.ofNat k : Int32) = nI t ↔ k = t := nI_eq hk ht
theorem zc_ad (k t : Nat) : nI t + (OfNat.ofNat k : Int32) = nI (t + (OfNat.ofNat k : Nat)) := nI_add t k
theorem zc_da (k t : Nat) : (OfNat.ofNat k : Int32) + nI t = nI ((OfNat.ofNat k : Nat) + t) := nI_add k t
theorem zc_ml (k t : Nat) : (OfNat.ofNat k : Int32) * nI t = nI ((OfNat.ofNat k : Nat) * t) := zi_mul k t
theorem zc_sb {k t : Nat} (h : k ≤ t) : nI t - (OfNat.ofNat k : Int32) = nI (t - (OfNat.ofNat k : Nat)) := zi_sub h
theorem zc_m1 {t : Nat} (ht : t < 2147483648) : ¬ nI t = -1 := by
  intro q
  have h := nI_pos ht
  rw [q] at h
  exact h (by decide)
/-- of sums and differences that are none too great -/
theorem za_add {x y : Int32} (h1 : -2147483648 ≤ x.toInt + y.toInt) (h2 : x.toInt + y.toInt < 2147483648) : (x + y).toInt = x.toInt + y.toInt := by
  rw [Int32.toInt_add]; exact Int.bmod_eq_of_le (by omega) (by omega)
theorem za_sub {x y : Int32} (h1 : -2147483648 ≤ x.toInt - y.toInt) (h2 : x.toInt - y.toInt < 2147483648) : (x - y).toInt = x.toInt - y.toInt := by
  rw [Int32.toInt_sub]; exact Int.bmod_eq_of_le (by omega) (by omega)
theorem za_mul {x y : Int32} (h1 : -2147483648 ≤ x.toInt * y.toInt) (h2 : x.toInt * y.toInt < 2147483648) : (x * y).toInt = x.toInt * y.toInt := by
  rw [Int32.toInt_mul]; exact Int.bmod_eq_of_le (by omega) (by omega)
theorem za_in {x : Int32} {n : Nat} (h0 : 0 ≤ x.toInt) (h1 : x.toInt < (n : Int)) : zd_in x n := by
  refine ⟨fun q => ?_, ?_⟩
  · have := Int32.lt_iff_toInt_lt.mp q
    have e : (0 : Int32).toInt = 0 := rfl
    omega
  · show x.toInt.toNat < n
    omega
/-- a loop's turns -/
theorem zd_s {α : Type} {F : α → α} {b : α} {n : Nat} : zd_it F b (n + 1) = F (zd_it F b n) := rfl
theorem zF_9 : zF = 18446744073709551607 + 9 := rfl
theorem zF_big : 4294967296 < zF := by decide
/-- what a run leaves as it was -/
def zfr (fs : List (Nat × Nat)) (ms ls : List Nat) (h g : zs_H) : Prop := (∀ a b, (a, b) ∉ fs → g.1 a b = h.1 a b) ∧ (∀ a, a ∉ ms → g.2.1 a = h.2.1 a) ∧ (∀ a, a ∉ ls → g.2.2 a = h.2.2 a)
theorem zfr_rfl {fs : List (Nat × Nat)} {ms ls : List Nat} {h : zs_H} : zfr fs ms ls h h := ⟨fun _ _ _ => rfl, fun _ _ => rfl, fun _ _ => rfl⟩
theorem zfr_trans {fs : List (Nat × Nat)} {ms ls : List Nat} {h g k : zs_H} (a : zfr fs ms ls h g) (b : zfr fs ms ls g k) : zfr fs ms ls h k :=
  ⟨fun x y q => (b.1 x y q).trans (a.1 x y q), fun x q => (b.2.1 x q).trans (a.2.1 x q), fun x q => (b.2.2 x q).trans (a.2.2 x q)⟩
theorem zfr_F {fs : List (Nat × Nat)} {ms ls : List Nat} {h g : zs_H} {k j : Nat} {v : Int32} (m : (k, j) ∈ fs) (a : zfr fs ms ls h g) : zfr fs ms ls h (zs_uF g k j v) := by
  refine ⟨fun x y q => ?_, a.2.1, a.2.2⟩
  show (if x = k ∧ y = j then v else g.1 x y) = _
  rw [if_neg (by rintro ⟨rfl, rfl⟩; exact q m)]
  exact a.1 x y q
theorem zfr_M {fs : List (Nat × Nat)} {ms ls : List Nat} {h g : zs_H} {k j : Nat} {v : Int32} (m : k ∈ ms) (a : zfr fs ms ls h g) : zfr fs ms ls h (zs_uM g k j v) := by
  refine ⟨a.1, fun x q => ?_, a.2.2⟩
  funext y
  show (if x = k ∧ y = j then v else g.2.1 x y) = _
  rw [if_neg (by rintro ⟨rfl, rfl⟩; exact q m)]
  exact congrFun (a.2.1 x q) y
theorem zfr_L {fs : List (Nat × Nat)} {ms ls : List Nat} {h g : zs_H} {k j : Nat} {v : Int64} (m : k ∈ ls) (a : zfr fs ms ls h g) : zfr fs ms ls h (zs_uL g k j v) := by
  refine ⟨a.1, a.2.1, fun x q => ?_⟩
  funext y
  show (if x = k ∧ y = j then v else g.2.2 x y) = _
  rw [if_neg (by rintro ⟨rfl, rfl⟩; exact q m)]
  exact congrFun (a.2.2 x q) y
theorem zfr_w {fs fs' : List (Nat × Nat)} {ms ms' ls ls' : List Nat} {h g : zs_H} (a : zfr fs ms ls h g) (h1 : ∀ x ∈ fs, x ∈ fs') (h2 : ∀ x ∈ ms, x ∈ ms') (h3 : ∀ x ∈ ls, x ∈ ls') : zfr fs' ms' ls' h g :=
  ⟨fun x y q => a.1 x y (fun z => q (h1 _ z)), fun x q => a.2.1 x (fun z => q (h2 _ z)), fun x q => a.2.2 x (fun z => q (h3 _ z))⟩
/-- reading behind a change -/
theorem zu_FF {h : zs_H} {k j a b : Nat} {v : Int32} : (zs_uF h k j v).1 a b = if a = k ∧ b = j then v else h.1 a b := rfl
theorem zu_S {h : zs_H} {k j : Nat} {v : Int32} : (zs_uF h k j v).1 k j = v := if_pos ⟨rfl, rfl⟩
theorem zu_FM {h : zs_H} {k j a : Nat} {v : Int32} : (zs_uF h k j v).2.1 a = h.2.1 a := rfl
theorem zu_FL {h : zs_H} {k j a : Nat} {v : Int32} : (zs_uF h k j v).2.2 a = h.2.2 a := rfl
theorem zu_MF {h : zs_H} {k j a : Nat} {v : Int32} : (zs_uM h k j v).1 a = h.1 a := rfl
theorem zu_MM {h : zs_H} {k j a b : Nat} {v : Int32} : (zs_uM h k j v).2.1 a b = if a = k ∧ b = j then v else h.2.1 a b := rfl
theorem zu_ML {h : zs_H} {k j a : Nat} {v : Int32} : (zs_uM h k j v).2.2 a = h.2.2 a := rfl
theorem zu_LF {h : zs_H} {k j a : Nat} {v : Int64} : (zs_uL h k j v).1 a = h.1 a := rfl
theorem zu_LM {h : zs_H} {k j a : Nat} {v : Int64} : (zs_uL h k j v).2.1 a = h.2.1 a := rfl
theorem zu_LL {h : zs_H} {k j a b : Nat} {v : Int64} : (zs_uL h k j v).2.2 a b = if a = k ∧ b = j then v else h.2.2 a b := rfl
/-- a run that ends, and what holds then -/
def zw {α : Type} (o : Option α) (Q : α → Prop) : Prop := ∃ a, o = some a ∧ Q a
theorem zw_some {α : Type} {a : α} {Q : α → Prop} : zw (some a) Q ↔ Q a := ⟨fun ⟨_, e, q⟩ => (by cases e; exact q), fun q => ⟨a, rfl, q⟩⟩
theorem zw_none {α : Type} {Q : α → Prop} : zw none Q ↔ False := ⟨fun ⟨_, e, _⟩ => (by cases e), fun q => False.elim q⟩
theorem zw_bind {α β : Type} {o : Option α} {K : α → Option β} {Q : β → Prop} : zw (o.bind K) Q ↔ zw o (fun a => zw (K a) Q) := by
  constructor
  · rintro ⟨b, e, q⟩
    obtain ⟨a, e1, e2⟩ := zd_b e
    exact ⟨a, e1, b, e2, q⟩
  · rintro ⟨a, rfl, b, e, q⟩
    exact ⟨b, e, q⟩
theorem zw_B {α β : Type} {o : Option (α × zs_H)} {K : α → zs_H → Option β} {Q : β → Prop} : zw (zd_B o K) Q ↔ zw o (fun p => zw (K p.1 p.2) Q) := by
  constructor
  · rintro ⟨b, e, q⟩
    obtain ⟨a, h, e1, e2⟩ := zd_Be e
    exact ⟨(a, h), e1, b, e2, q⟩
  · rintro ⟨⟨a, h⟩, rfl, b, e, q⟩
    exact ⟨b, e, q⟩
theorem zw_ite {α : Type} {c : Prop} [Decidable c] {A B : Option α} {Q : α → Prop} : zw (if c then A else B) Q ↔ (c → zw A Q) ∧ (¬ c → zw B Q) := by
  by_cases h : c
  · rw [if_pos h]; exact ⟨fun q => ⟨fun _ => q, fun z => absurd h z⟩, fun q => q.1 h⟩
  · rw [if_neg h]; exact ⟨fun q => ⟨fun z => absurd z h, fun _ => q⟩, fun q => q.2 h⟩
theorem zw_mono {α : Type} {o : Option α} {P Q : α → Prop} (a : zw o P) (b : ∀ x, P x → Q x) : zw o Q := by obtain ⟨x, e, q⟩ := a; exact ⟨x, e, b x q⟩
theorem zw_mono' {α : Type} {o : Option α} {P Q : α → Prop} (b : ∀ x, P x → Q x) (a : zw o P) : zw o Q := zw_mono a b
end
section
/-! The tape: feed and end. -/
def zb_y (x s : Int32) : Int32 := vp_nar .byte ((x >>> (s &&& 31)).toInt8.toInt32)
def zb_ok (v : Int32) : Prop := -128 ≤ v.toInt ∧ v.toInt ≤ 127
theorem zb_nar (x : Int32) : zb_ok (vp_nar .byte x) := by
  rw [vp_nar_byte]
  unfold zb_ok
  rw [Int8.toInt_toInt32]
  have h1 := Int8.le_toInt x.toInt8
  have h2 := Int8.toInt_lt x.toInt8
  omega
theorem zb_yok (x s : Int32) : zb_ok (zb_y x s) := zb_nar _
def zb_4 (f : Nat → Int32) (t : Nat) (x : Int32) : Nat → Int32 := fun i => if i = t + 3 then zb_y x 0 else if i = t + 2 then zb_y x 8 else if i = t + 1 then zb_y x 16 else if i = t then zb_y x 24 else f i
theorem zb_4eq {f g : Nat → Int32} {t : Nat} {x : Int32} (e : ∀ i, i < t → f i = g i) : ∀ i, i < t + 4 → zb_4 f t x i = zb_4 g t x i := by
  intro i hi
  unfold zb_4
  repeat' split
  all_goals first | rfl | exact e i (by omega)
theorem zb_4ok {f : Nat → Int32} {t : Nat} {x : Int32} (e : ∀ i, zb_ok (f i)) : ∀ i, zb_ok (zb_4 f t x i) := by
  intro i
  unfold zb_4
  by_cases c3 : i = t + 3
  · rw [if_pos c3]; exact zb_yok x 0
  rw [if_neg c3]
  by_cases c2 : i = t + 2
  · rw [if_pos c2]; exact zb_yok x 8
  rw [if_neg c2]
  by_cases c1 : i = t + 1
  · rw [if_pos c1]; exact zb_yok x 16
  rw [if_neg c1]
  by_cases c0 : i = t
  · rw [if_pos c0]; exact zb_yok x 24
  rw [if_neg c0]; exact e i
/-- a number has come behind a tape -/
def zb_A (k j a : Nat) (h : zs_H) (t : Nat) (x : Int32) (g : zs_H) : Prop := g.1 k j = nI (t + 4) ∧ g.2.1 a = zb_4 (h.2.1 a) t x ∧ zfr [(k, j)] [a] [] h g
theorem zb_An {k j a : Nat} {h : zs_H} {t : Nat} {x : Int32} : zb_A k j a h t x (zs_uF (zs_uM (zs_uF (zs_uM (zs_uF (zs_uM (zs_uF (zs_uM h a t (zb_y x 24)) k j (nI (t + 1))) a (t + 1) (zb_y x 16)) k j (nI (t + 2))) a (t + 2) (zb_y x 8)) k j (nI (t + 3))) a (t + 3) (zb_y x 0)) k j (nI (t + 4))) := by
  refine ⟨?_, ?_, ?_⟩
  · rw [zu_S]
  · funext i
    simp only [zu_FM, zu_MM, true_and, zb_4]
  · have m1 : (k, j) ∈ [(k, j)] := List.mem_singleton.mpr rfl
    have m2 : a ∈ [a] := List.mem_singleton.mpr rfl
    exact zfr_F m1 (zfr_M m2 (zfr_F m1 (zfr_M m2 (zfr_F m1 (zfr_M m2 (zfr_F m1 (zfr_M m2 zfr_rfl)))))))
theorem zb_cs {h : zs_H} {t n : Nat} {x s : Int32} (H : (h.1 0 1) = nI t) (ht : t < 16384) (hs : ¬ s < 0) : f_Pk_append_L3 (n + 1) h x s = f_Pk_append_L3 n (zs_uF (zs_uM h 1 t (zb_y x s)) 0 1 (nI (t + 1))) x (s + (-8)) := by
  show f_Pk_append_3 (f_Pk_append_L3 n) h x s = _
  unfold f_Pk_append_3
  rw [if_neg hs, H, if_neg (mt (zc_le (k := 16384) (t := t) (by decide) (by omega)).mp (by omega)), if_pos (zi_in (by omega) ht), nI_clamp (by omega), nI_1]
  rfl
theorem zb_ce {h : zs_H} {n : Nat} {x s : Int32} (hs : s < 0) : f_Pk_append_L3 (n + 1) h x s = some h := by
  show f_Pk_append_3 (f_Pk_append_L3 n) h x s = _
  unfold f_Pk_append_3
  rw [if_pos hs]
theorem zb_ms {h : zs_H} {t n : Nat} {x s : Int32} (H : (h.1 68 78) = nI t) (ht : t < 16384) (hs : ¬ s < 0) : f_Mo_bring_L3 (n + 1) h x s = f_Mo_bring_L3 n (zs_uF (zs_uM h 116 t (zb_y x s)) 68 78 (nI (t + 1))) x (s + (-8)) := by
  show f_Mo_bring_3 (f_Mo_bring_L3 n) h x s = _
  unfold f_Mo_bring_3
  rw [if_neg hs, H, if_pos (zi_in (by omega) ht), nI_clamp (by omega), nI_1]
  rfl
theorem zb_me {h : zs_H} {n : Nat} {x s : Int32} (hs : s < 0) : f_Mo_bring_L3 (n + 1) h x s = some h := by
  show f_Mo_bring_3 (f_Mo_bring_L3 n) h x s = _
  unfold f_Mo_bring_3
  rw [if_pos hs]
theorem zb_c {h : zs_H} {t : Nat} (x : Int32) (H : (h.1 0 1) = nI t) (ht : t + 4 ≤ 16384) : zw (f_Pk_append h x) (zb_A 0 1 1 h t x) := by
  unfold f_Pk_append
  rw [zF_9, zb_cs H (by omega) (by decide), zb_cs (t := t + 1) (by rw [zu_S]) (by omega) (by decide), zb_cs (t := t + 2) (by rw [zu_S]) (by omega) (by decide), zb_cs (t := t + 3) (by rw [zu_S]) (by omega) (by decide), zb_ce (by decide)]
  exact zw_some.mpr zb_An
theorem zb_m {h : zs_H} {t : Nat} (x : Int32) (H : (h.1 68 78) = nI t) (ht : t + 4 ≤ 16384) : zw (f_Mo_bring h x) (zb_A 68 78 116 h t x) := by
  unfold f_Mo_bring
  rw [zF_9, zb_ms H (by omega) (by decide), zb_ms (t := t + 1) (by rw [zu_S]) (by omega) (by decide), zb_ms (t := t + 2) (by rw [zu_S]) (by omega) (by decide), zb_ms (t := t + 3) (by rw [zu_S]) (by omega) (by decide), zb_me (by decide)]
  exact zw_some.mpr zb_An
def zb_20 (f : Nat → Int32) (t : Nat) (a b c d e : Int32) : Nat → Int32 := zb_4 (zb_4 (zb_4 (zb_4 (zb_4 f t a) (t + 4) b) (t + 8) c) (t + 12) d) (t + 16) e
def zb_F (k j a : Nat) (h : zs_H) (t : Nat) (x1 x2 x3 x4 x5 : Int32) (p : Int32 × zs_H) : Prop := p.1 = nI (t + 20) ∧ p.2.1 k j = nI (t + 20) ∧ p.2.2.1 a = zb_20 (h.2.1 a) t x1 x2 x3 x4 x5 ∧ zfr [(k, j)] [a] [] h p.2
theorem zb_5 {k j a : Nat} {h h1 h2 h3 h4 h5 : zs_H} {t : Nat} {x1 x2 x3 x4 x5 : Int32} (a1 : zb_A k j a h t x1 h1) (a2 : zb_A k j a h1 (t + 4) x2 h2) (a3 : zb_A k j a h2 (t + 8) x3 h3) (a4 : zb_A k j a h3 (t + 12) x4 h4) (a5 : zb_A k j a h4 (t + 16) x5 h5) : zb_F k j a h t x1 x2 x3 x4 x5 (h5.1 k j, h5) := by
  refine ⟨a5.1, a5.1, ?_, zfr_trans a1.2.2 (zfr_trans a2.2.2 (zfr_trans a3.2.2 (zfr_trans a4.2.2 a5.2.2)))⟩
  show h5.2.1 a = _
  rw [a5.2.1, a4.2.1, a3.2.1, a2.2.1, a1.2.1]; rfl
theorem zb_cf {h : zs_H} {t : Nat} (x1 x2 x3 x4 x5 : Int32) (H : (h.1 0 1) = nI t) (ht : t + 20 ≤ 16384) : zw (f_Pk_feed h x1 x2 x3 x4 x5) (zb_F 0 1 1 h t x1 x2 x3 x4 x5) := by
  unfold f_Pk_feed
  rw [H, zc_ad, if_pos ((zc_el (by decide) (by omega)).mpr ht), zw_bind]
  refine zw_mono (zb_c x1 H (by omega)) fun h1 a1 => ?_
  rw [zw_bind]
  refine zw_mono (zb_c x2 a1.1 (by omega)) fun h2 a2 => ?_
  rw [zw_bind]
  refine zw_mono (zb_c x3 a2.1 (by omega)) fun h3 a3 => ?_
  rw [zw_bind]
  refine zw_mono (zb_c x4 a3.1 (by omega)) fun h4 a4 => ?_
  rw [zw_bind]
  refine zw_mono (zb_c x5 a4.1 (by omega)) fun h5 a5 => ?_
  exact zw_some.mpr (zb_5 a1 a2 a3 a4 a5)
theorem zb_mf {h : zs_H} {t : Nat} (x1 x2 x3 x4 x5 : Int32) (H : (h.1 68 78) = nI t) (ht : t + 20 ≤ 16384) : zw (f_Mo_feed h x1 x2 x3 x4 x5) (zb_F 68 78 116 h t x1 x2 x3 x4 x5) := by
  unfold f_Mo_feed
  rw [H, zc_ad, if_pos ((zc_el (by decide) (by omega)).mpr ht), zw_bind]
  refine zw_mono (zb_m x1 H (by omega)) fun h1 a1 => ?_
  rw [zw_bind]
  refine zw_mono (zb_m x2 a1.1 (by omega)) fun h2 a2 => ?_
  rw [zw_bind]
  refine zw_mono (zb_m x3 a2.1 (by omega)) fun h3 a3 => ?_
  rw [zw_bind]
  refine zw_mono (zb_m x4 a3.1 (by omega)) fun h4 a4 => ?_
  rw [zw_bind]
  refine zw_mono (zb_m x5 a4.1 (by omega)) fun h5 a5 => ?_
  exact zw_some.mpr (zb_5 a1 a2 a3 a4 a5)
end
section
/-! Tokens: what a text's bytes mean, and that the model reads them so. -/
def zl_b (T : Nat → Int32) (n i : Nat) : Int32 := if i < n then T i &&& 255 else -1
def zl_g (T : Nat → Int32) (n i : Nat) : Int32 := f_Nm_great (zl_b T n i)
def zl_pt (T : Nat → Int32) (n i : Nat) : Bool := decide (¬ f_Nm_isPart (zl_b T n i) = 0)
def zl_run (p : Nat → Bool) : Nat → Nat → Nat
  | 0, i => i
  | f + 1, i => if p i = true then zl_run p f (i + 1) else i
theorem zl_run_ge (p : Nat → Bool) : ∀ f i, i ≤ zl_run p f i := by
  intro f
  induction f with
  | zero => intro i; exact Nat.le_refl i
  | succ f ih => intro i; unfold zl_run; split; exact Nat.le_trans (Nat.le_succ i) (ih (i + 1)); exact Nat.le_refl i
theorem zl_run_le (p : Nat → Bool) : ∀ f i, zl_run p f i ≤ i + f := by
  intro f
  induction f with
  | zero => intro i; exact Nat.le_refl i
  | succ f ih => intro i; unfold zl_run; split; have := ih (i + 1); omega; omega
theorem zl_run_all (p : Nat → Bool) : ∀ f i j, i ≤ j → j < zl_run p f i → p j = true := by
  intro f
  induction f with
  | zero => intro i j h1 h2; unfold zl_run at h2; omega
  | succ f ih =>
    intro i j h1 h2
    unfold zl_run at h2
    by_cases hp : p i = true
    · rw [if_pos hp] at h2
      by_cases e : j = i
      · rw [e]; exact hp
      · exact ih (i + 1) j (by omega) h2
    · rw [if_neg hp] at h2; omega
theorem zl_run_not (p : Nat → Bool) : ∀ f i, p (i + f) = false → p (zl_run p f i) = false := by
  intro f
  induction f with
  | zero => intro i h; exact h
  | succ f ih =>
    intro i h
    unfold zl_run
    by_cases hp : p i = true
    · rw [if_pos hp]; exact ih (i + 1) (by rw [show i + 1 + f = i + (f + 1) by omega]; exact h)
    · rw [if_neg hp]; simpa using hp
theorem zl_run_0 (p : Nat → Bool) (f i : Nat) (h : p i = false) : zl_run p f i = i := by
  cases f with
  | zero => rfl
  | succ f => unfold zl_run; rw [if_neg (by rw [h]; decide)]
theorem zl_run_1 (p : Nat → Bool) (n i : Nat) (h : p i = true) (hi : i < n) : zl_run p (n - i) i = zl_run p (n - (i + 1)) (i + 1) := by
  rw [show n - i = (n - (i + 1)) + 1 by omega]
  show (if p i = true then _ else _) = _
  rw [if_pos h]
theorem zl_b_hi {T : Nat → Int32} {n i : Nat} (h : n ≤ i) : zl_b T n i = -1 := if_neg (by omega)
theorem zl_pt_hi {T : Nat → Int32} {n i : Nat} (h : n ≤ i) : zl_pt T n i = false := by
  unfold zl_pt; rw [zl_b_hi h]; decide
/-- the model's text -/
def zl_X (g : zs_H) (T : Nat → Int32) (n : Nat) : Prop := (g.1 68 1) = nI n ∧ n ≤ 16384 ∧ ∀ i, i < n → (g.2.1 69) i = T i
theorem zl_byteOf {g : zs_H} {T : Nat → Int32} {n i : Nat} (H : zl_X g T n) (hi : i < 2147483648) : f_Mo_byteOf g (nI i) = some (zl_b T n i) := by
  have hn := H.2.1
  unfold f_Mo_byteOf zl_b
  rw [if_neg (nI_pos hi), H.1]
  by_cases c : i < n
  · rw [if_neg (mt (nI_leI (by omega) hi).mp (by omega)), if_pos (zi_in hi (by omega)), nI_clamp hi, if_pos c, H.2.2 i c]
  · rw [if_pos ((nI_leI (by omega) hi).mpr (by omega)), if_neg c]
theorem zl_great {g : zs_H} {T : Nat → Int32} {n i : Nat} (H : zl_X g T n) (hi : i < 2147483648) : f_Mo_great g (nI i) = some (zl_g T n i) := by
  unfold f_Mo_great zl_g f_Nm_great
  rw [zl_byteOf H hi]
  show (if _ then _ else _) = _
  repeat' split
  all_goals first | rfl | contradiction
theorem zl_isPart (c : Int32) : (if f_Mo_isLetter (f_Nm_great c) = 0 then (if f_Mo_isDigit c = 0 then (0 : Int32) else 1) else 1) = f_Nm_isPart c := by
  grind [f_Mo_isLetter, f_Mo_isLetter_12, f_Nm_great, f_Mo_isDigit, f_Nm_isPart, f_Nm_isLetter, f_Nm_isLetter_12, f_Nm_isLetter_24]
theorem zl_goesOn {g : zs_H} {T : Nat → Int32} {n i : Nat} (H : zl_X g T n) (hi : i < 2147483648) : f_Mo_goesOn g (nI i) = some (f_Nm_isPart (zl_b T n i)) := by
  unfold f_Mo_goesOn
  rw [zl_great H hi, ← zl_isPart]
  show (if _ then _ else _) = _
  unfold zl_g
  split
  · rw [zl_byteOf H hi]
    show (if f_Mo_isDigit (zl_b T n i) = 0 then some 0 else some 1) = some (if f_Mo_isDigit (zl_b T n i) = 0 then 0 else 1)
    split <;> rfl
  · rfl
/-- blanks and remarks -/
def zl_bl (c : Int32) : Bool := decide (c = 9 ∨ c = 10 ∨ c = 13 ∨ c = 32)
def zl_cp (T : Nat → Int32) (n k : Nat) : Bool := decide (k < n) && !(decide (zl_b T n k = 42) && decide (zl_b T n (k + 1) = 41))
def zl_cm (T : Nat → Int32) (n i : Nat) : Nat := zl_run (zl_cp T n) (n - i) i
def zl_sk (T : Nat → Int32) (n : Nat) : Nat → Nat → Nat × Bool
  | 0, i => (i, true)
  | f + 1, i => if n ≤ i then (i, true) else if zl_bl (zl_b T n i) = true then zl_sk T n f (i + 1) else if zl_b T n i = 40 ∧ zl_b T n (i + 1) = 42 then (if n ≤ zl_cm T n (i + 2) then (i, false) else zl_sk T n f (zl_cm T n (i + 2) + 2)) else (i, true)
theorem zl_cp_hi {T : Nat → Int32} {n i : Nat} (h : n ≤ i) : zl_cp T n i = false := by
  unfold zl_cp; rw [decide_eq_false (by omega)]; rfl
theorem zl_cm_lt {T : Nat → Int32} {n i : Nat} (h : ¬ n ≤ zl_cm T n i) : zl_b T n (zl_cm T n i) = 42 ∧ zl_b T n (zl_cm T n i + 1) = 41 ∧ zl_cm T n i + 1 < n := by
  have hi : i ≤ n := by
    refine Nat.le_of_not_lt fun q => h ?_
    unfold zl_cm
    rw [zl_run_0 _ _ _ (zl_cp_hi (by omega))]; omega
  have h1 : zl_cp T n (zl_cm T n i) = false := zl_run_not _ _ _ (by rw [show i + (n - i) = n by omega]; exact zl_cp_hi (Nat.le_refl n))
  unfold zl_cp at h1
  rw [decide_eq_true (by omega)] at h1
  have h2 : zl_b T n (zl_cm T n i) = 42 ∧ zl_b T n (zl_cm T n i + 1) = 41 := by simpa using h1
  refine ⟨h2.1, h2.2, ?_⟩
  refine Nat.lt_of_not_le fun q => ?_
  rw [zl_b_hi q] at h2
  exact absurd h2.2 (by decide)
theorem zl_sk_le {T : Nat → Int32} {n : Nat} : ∀ f i, i ≤ n → (zl_sk T n f i).1 ≤ n ∧ i ≤ (zl_sk T n f i).1 := by
  intro f
  induction f with
  | zero => intro i h; exact ⟨h, Nat.le_refl i⟩
  | succ f ih =>
    intro i h
    unfold zl_sk
    by_cases c1 : n ≤ i
    · rw [if_pos c1]; exact ⟨h, Nat.le_refl i⟩
    rw [if_neg c1]
    by_cases c2 : zl_bl (zl_b T n i) = true
    · rw [if_pos c2]; have := ih (i + 1) (by omega); omega
    rw [if_neg c2]
    by_cases c3 : zl_b T n i = 40 ∧ zl_b T n (i + 1) = 42
    · rw [if_pos c3]
      by_cases c4 : n ≤ zl_cm T n (i + 2)
      · rw [if_pos c4]; exact ⟨h, Nat.le_refl i⟩
      · rw [if_neg c4]
        have h4 := zl_cm_lt c4
        have h5 : i + 2 ≤ zl_cm T n (i + 2) := zl_run_ge _ _ _
        have := ih (zl_cm T n (i + 2) + 2) (by omega)
        omega
    · rw [if_neg c3]; exact ⟨h, Nat.le_refl i⟩
def zl_ft (g : zs_H) (w : Int32) (a : Nat) : zs_H := if (g.1 68 10) = 0 then zs_uF (zs_uF g 68 10 w) 68 11 (nI a) else g
theorem zl_skc {g : zs_H} {T : Nat → Int32} {n : Nat} (H : zl_X g T n) (k2 : zs_H → Int32 → Option (Int32 × zs_H)) (x : Int32) : ∀ m k fuel, n ≤ k + m → m < fuel → k < 20000 → f_Mo_skip_L69 k2 fuel g x (nI k) = f_Mo_skip_108 k2 g x (nI (zl_cm T n k)) := by
  have hn := H.2.1
  intro m
  induction m with
  | zero =>
    intro k fuel h1 h2 h3
    obtain ⟨f, rfl⟩ : ∃ f, fuel = f + 1 := ⟨fuel - 1, by omega⟩
    show f_Mo_skip_69 k2 (f_Mo_skip_L69 k2 f) g x (nI k) = _
    unfold f_Mo_skip_69
    rw [H.1, if_pos ((nI_leI (by omega) (by omega)).mpr (by omega))]
    unfold zl_cm
    rw [zl_run_0 _ _ _ (zl_cp_hi (by omega))]
  | succ m ih =>
    intro k fuel h1 h2 h3
    obtain ⟨f, rfl⟩ : ∃ f, fuel = f + 1 := ⟨fuel - 1, by omega⟩
    show f_Mo_skip_69 k2 (f_Mo_skip_L69 k2 f) g x (nI k) = _
    unfold f_Mo_skip_69
    rw [H.1]
    by_cases c : n ≤ k
    · rw [if_pos ((nI_leI (by omega) (by omega)).mpr c)]
      unfold zl_cm
      rw [zl_run_0 _ _ _ (zl_cp_hi c)]
    · rw [if_neg (mt (nI_leI (by omega) (by omega)).mp c), zl_byteOf H (by omega), nI_1, zl_byteOf H (by omega)]
      have hg : zl_cp T n k = true → f_Mo_skip_102 k2 (f_Mo_skip_L69 k2 f) g x (nI k) = f_Mo_skip_108 k2 g x (nI (zl_cm T n k)) := by
        intro hc
        unfold f_Mo_skip_102
        rw [nI_1, ih (k + 1) f (by omega) (by omega) (by omega)]
        unfold zl_cm
        rw [zl_run_1 _ _ _ hc (by omega)]
      have hs : zl_cp T n k = false → zl_cm T n k = k := fun hc => zl_run_0 _ _ _ hc
      show (if zl_b T n k = 42 then (if zl_b T n (k + 1) = 41 then _ else _) else _) = _
      by_cases c1 : zl_b T n k = 42
      · rw [if_pos c1]
        by_cases c2 : zl_b T n (k + 1) = 41
        · rw [if_pos c2, hs (by unfold zl_cp; rw [c1, c2]; simp)]
        · rw [if_neg c2, hg (by unfold zl_cp; simp [c2]; omega)]
      · rw [if_neg c1, hg (by unfold zl_cp; simp [c1]; omega)]
theorem zl_sk_a {T : Nat → Int32} {n f i : Nat} (c : n ≤ i) : zl_sk T n f i = (i, true) := by
  cases f with
  | zero => rfl
  | succ f => unfold zl_sk; rw [if_pos c]
theorem zl_sk_b {T : Nat → Int32} {n f i : Nat} (c : ¬ n ≤ i) (c2 : zl_bl (zl_b T n i) = true) : zl_sk T n (f + 1) i = zl_sk T n f (i + 1) := by
  show (if _ then _ else _) = _
  rw [if_neg c, if_pos c2]
theorem zl_sk_c {T : Nat → Int32} {n f i : Nat} (c : ¬ n ≤ i) (c2 : ¬ zl_bl (zl_b T n i) = true) (c4 : zl_b T n i = 40 ∧ zl_b T n (i + 1) = 42) (c6 : n ≤ zl_cm T n (i + 2)) : zl_sk T n (f + 1) i = (i, false) := by
  show (if _ then _ else _) = _
  rw [if_neg c, if_neg c2, if_pos c4, if_pos c6]
theorem zl_sk_d {T : Nat → Int32} {n f i : Nat} (c : ¬ n ≤ i) (c2 : ¬ zl_bl (zl_b T n i) = true) (c4 : zl_b T n i = 40 ∧ zl_b T n (i + 1) = 42) (c6 : ¬ n ≤ zl_cm T n (i + 2)) : zl_sk T n (f + 1) i = zl_sk T n f (zl_cm T n (i + 2) + 2) := by
  show (if _ then _ else _) = _
  rw [if_neg c, if_neg c2, if_pos c4, if_neg c6]
theorem zl_sk_e {T : Nat → Int32} {n f i : Nat} (c : ¬ n ≤ i) (c2 : ¬ zl_bl (zl_b T n i) = true) (c4 : ¬ (zl_b T n i = 40 ∧ zl_b T n (i + 1) = 42)) : zl_sk T n (f + 1) i = (i, true) := by
  show (if _ then _ else _) = _
  rw [if_neg c, if_neg c2, if_neg c4]
theorem zl_sks {g : zs_H} {T : Nat → Int32} {n : Nat} (H : zl_X g T n) : ∀ f i fuel, n ≤ i + f → f < fuel → i ≤ n → f_Mo_skip_L2 fuel g (nI i) = some (if (zl_sk T n f i).2 = true then (nI (zl_sk T n f i).1, g) else (-1, zl_ft g 2 (zl_sk T n f i).1)) := by
  have hn := H.2.1
  intro f
  induction f with
  | zero =>
    intro i fuel h1 h2 h3
    obtain ⟨z, rfl⟩ : ∃ z, fuel = z + 1 := ⟨fuel - 1, by omega⟩
    show f_Mo_skip_2 (f_Mo_skip_L2 z) g (nI i) = _
    unfold f_Mo_skip_2 zl_sk
    rw [H.1, if_pos ((nI_leI (by omega) (by omega)).mpr (by omega))]
    rfl
  | succ f ih =>
    intro i fuel h1 h2 h3
    obtain ⟨z, rfl⟩ : ∃ z, fuel = z + 1 := ⟨fuel - 1, by omega⟩
    show f_Mo_skip_2 (f_Mo_skip_L2 z) g (nI i) = _
    unfold f_Mo_skip_2
    rw [H.1]
    by_cases c : n ≤ i
    · rw [if_pos ((nI_leI (by omega) (by omega)).mpr c), zl_sk_a c]; rfl
    rw [if_neg (mt (nI_leI (by omega) (by omega)).mp c), zl_byteOf H (by omega)]
    have h40 : f_Mo_skip_40 (f_Mo_skip_L2 z) g (nI i) = f_Mo_skip_L2 z g (nI (i + 1)) := by
      unfold f_Mo_skip_40 f_Mo_skip_135; rw [nI_1]
    show (if zl_b T n i = 9 then _ else _) = _
    by_cases c2 : zl_bl (zl_b T n i) = true
    · rw [zl_sk_b c c2, h40, ← ih (i + 1) z (by omega) (by omega) (by omega)]
      have c3 : zl_b T n i = 9 ∨ zl_b T n i = 10 ∨ zl_b T n i = 13 ∨ zl_b T n i = 32 := by simpa [zl_bl] using c2
      repeat' split
      all_goals first | rfl | (exfalso; simp_all)
    · have c3 : ¬ zl_b T n i = 9 ∧ ¬ zl_b T n i = 10 ∧ ¬ zl_b T n i = 13 ∧ ¬ zl_b T n i = 32 := by simpa [zl_bl] using c2
      rw [if_neg c3.1, if_neg c3.2.1, if_neg c3.2.2.1, if_neg c3.2.2.2]
      by_cases c4 : zl_b T n i = 40
      · rw [if_pos c4, nI_1, zl_byteOf H (by omega)]
        show (if zl_b T n (i + 1) = 42 then _ else _) = _
        by_cases c5 : zl_b T n (i + 1) = 42
        · rw [if_pos c5, show nI i + 2 = nI (i + 2) from nI_add i 2, zl_skc H _ _ 16390 (i + 2) zF (by omega) (by have := zF_big; omega) (by omega)]
          unfold f_Mo_skip_108
          rw [H.1]
          have h6 : zl_cm T n (i + 2) ≤ n + 2 := by
            have := zl_run_le (zl_cp T n) (n - (i + 2)) (i + 2)
            unfold zl_cm; omega
          by_cases c6 : n ≤ zl_cm T n (i + 2)
          · rw [if_neg (mt (nI_ltI (by omega) (by omega)).mp (by omega)), zl_sk_c c c2 ⟨c4, c5⟩ c6]
            unfold f_Mo_fail zl_ft
            split <;> rfl
          · rw [if_pos ((nI_ltI (by omega) (by omega)).mpr (by omega)), zl_sk_d c c2 ⟨c4, c5⟩ c6]
            have h7 := zl_cm_lt c6
            unfold f_Mo_skip_135
            rw [show nI (zl_cm T n (i + 2)) + 2 = nI (zl_cm T n (i + 2) + 2) from nI_add _ 2]
            have h8 : i + 2 ≤ zl_cm T n (i + 2) := zl_run_ge _ _ _
            exact ih _ z (by omega) (by omega) (by omega)
        · rw [if_neg c5, zl_sk_e c c2 (fun q => c5 q.2)]; rfl
      · rw [if_neg c4, zl_sk_e c c2 (fun q => c4 q.1)]; rfl
theorem zl_skip {g : zs_H} {T : Nat → Int32} {n i : Nat} (H : zl_X g T n) (hi : i ≤ n) : f_Mo_skip g (nI i) = some (if (zl_sk T n (n - i) i).2 = true then (nI (zl_sk T n (n - i) i).1, g) else (-1, zl_ft g 2 (zl_sk T n (n - i) i).1)) :=
  zl_sks H (n - i) i zF (by omega) (by have := zF_big; have := H.2.1; omega) hi
end
section
/-! The model's names and words. -/
/-- the great letters of a stretch of the text -/
def zl_nm (T : Nat → Int32) (n a e : Nat) : List Int32 := (List.range (e - a)).map fun i => zl_g T n (a + i)
theorem zl_nm_len {T : Nat → Int32} {n a e : Nat} : (zl_nm T n a e).length = e - a := by unfold zl_nm; rw [List.length_map, List.length_range]
theorem zl_nm_at {T : Nat → Int32} {n a e i : Nat} (h : i < e - a) : (zl_nm T n a e).getD i 0 = zl_g T n (a + i) := by
  unfold zl_nm
  rw [List.getD_eq_getElem?_getD, List.getElem?_map, List.getElem?_range h]; rfl
theorem zl_ext {c d : List Int32} (h : c.length = d.length) (e : ∀ i, i < c.length → c.getD i 0 = d.getD i 0) : c = d := by
  refine List.ext_getElem h fun i h1 h2 => ?_
  have := e i h1
  rwa [List.getD_eq_getElem?_getD, List.getD_eq_getElem?_getD, List.getElem?_eq_getElem h1, List.getElem?_eq_getElem h2] at this
theorem zl_nm_eq {T : Nat → Int32} {n a e : Nat} {d : List Int32} : zl_nm T n a e = d ↔ d.length = e - a ∧ ∀ i, i < e - a → zl_g T n (a + i) = d.getD i 0 := by
  constructor
  · rintro rfl
    exact ⟨zl_nm_len, fun i h => (zl_nm_at h).symm⟩
  · rintro ⟨h1, h2⟩
    refine zl_ext (by rw [zl_nm_len, h1]) fun i h => ?_
    rw [zl_nm_len] at h
    rw [zl_nm_at h, h2 i h]
theorem zx_idx {L : List (List Int32)} {k : Nat} {c : List Int32} (hk : k < L.length) (h1 : L.getD k [] = c) (h2 : ∀ j, j < k → ¬ L.getD j [] = c) : L.idxOf c = k := by
  unfold List.idxOf
  rw [List.findIdx_eq hk]
  have e : ∀ j (hj : j < L.length), L.getD j [] = L[j] := fun j hj => by rw [List.getD_eq_getElem?_getD, List.getElem?_eq_getElem hj]; rfl
  refine ⟨by rw [e k hk] at h1; rw [h1]; exact beq_self_eq_true _, fun j hj => ?_⟩
  have h3 := h2 j hj
  rw [e j (by omega)] at h3
  exact beq_eq_false_iff_ne.mpr h3
/-- the table of names that have come -/
def zn_M (g : zs_H) (L : List (List Int32)) : Prop := (g.1 68 3) = nI L.length ∧ L.length ≤ 8000 ∧ ∀ k, k < L.length → (g.2.1 71) k = nI (L.getD k []).length ∧ (L.getD k []).length ≤ 32 ∧ ∀ i, i < (L.getD k []).length → (g.2.1 70) (32 * k + i) = (L.getD k []).getD i 0
theorem zn_39z {g : zs_H} {k12 : zs_H → Int32 → Int32 → Option (Int32 × zs_H)} {f : Nat} {x1 x2 x4 : Int32} : f_Mo_nameAt_L39 k12 (f + 1) g x1 x2 0 x4 = f_Mo_nameAt_87 k12 g x1 x2 0 := by
  show f_Mo_nameAt_39 k12 (f_Mo_nameAt_L39 k12 f) g x1 x2 0 x4 = _
  unfold f_Mo_nameAt_39
  rw [if_pos rfl]
  split <;> rfl
theorem zn_39 {g : zs_H} {T : Nat → Int32} {n a k len : Nat} {k12 : zs_H → Int32 → Int32 → Option (Int32 × zs_H)} (H : zl_X g T n) (Ha : (g.1 68 7) = nI a) (ha : a ≤ n) (hl : len ≤ 32) (hk : k < 8192) : ∀ m i fuel, len = i + m → m + 1 < fuel →
    ((∀ j, i ≤ j → j < len → (g.2.1 70) (32 * k + j) = zl_g T n (a + j)) → f_Mo_nameAt_L39 k12 fuel g (nI len) (nI k) 1 (nI i) = f_Mo_nameAt_87 k12 g (nI len) (nI k) 1) ∧
    ((¬ ∀ j, i ≤ j → j < len → (g.2.1 70) (32 * k + j) = zl_g T n (a + j)) → f_Mo_nameAt_L39 k12 fuel g (nI len) (nI k) 1 (nI i) = f_Mo_nameAt_87 k12 g (nI len) (nI k) 0) := by
  have hn := H.2.1
  intro m
  induction m with
  | zero =>
    intro i fuel h1 h2
    obtain ⟨f, rfl⟩ : ∃ f, fuel = f + 1 := ⟨fuel - 1, by omega⟩
    refine ⟨fun _ => ?_, fun q => absurd (fun j h3 h4 => by omega) q⟩
    show f_Mo_nameAt_39 k12 (f_Mo_nameAt_L39 k12 f) g (nI len) (nI k) 1 (nI i) = _
    unfold f_Mo_nameAt_39
    rw [if_pos ((nI_leI (by omega) (by omega)).mpr (by omega))]
  | succ m ih =>
    intro i fuel h1 h2
    obtain ⟨f, rfl⟩ : ∃ f, fuel = f + 2 := ⟨fuel - 2, by omega⟩
    have e0 : f_Mo_nameAt_L39 k12 (f + 2) g (nI len) (nI k) 1 (nI i) = if (g.2.1 70) (32 * k + i) = zl_g T n (a + i) then f_Mo_nameAt_L39 k12 (f + 1) g (nI len) (nI k) 1 (nI (i + 1)) else f_Mo_nameAt_87 k12 g (nI len) (nI k) 0 := by
      show f_Mo_nameAt_39 k12 (f_Mo_nameAt_L39 k12 (f + 1)) g (nI len) (nI k) 1 (nI i) = _
      unfold f_Mo_nameAt_39
      rw [if_neg (mt (nI_leI (by omega) (by omega)).mp (by omega)), if_neg (by decide), Ha, nI_add a i, zl_great H (by omega), show (32 : Int32) * nI k + nI i = nI (32 * k + i) from by rw [zc_ml, nI_add], if_pos (zi_in (by omega) (by omega)), nI_clamp (by omega)]
      show (if _ then _ else _) = _
      unfold f_Mo_nameAt_80
      rw [nI_1, zn_39z]
    have hi := ih (i + 1) (f + 1) (by omega) (by omega)
    rw [e0]
    by_cases c : (g.2.1 70) (32 * k + i) = zl_g T n (a + i)
    · rw [if_pos c]
      refine ⟨fun q => hi.1 fun j h3 h4 => q j (by omega) h4, fun q => hi.2 fun z => q fun j h3 h4 => ?_⟩
      by_cases e : j = i
      · rw [e]; exact c
      · exact z j (by omega) h4
    · rw [if_neg c]
      exact ⟨fun q => absurd (q i (by omega) (by omega)) c, fun _ => rfl⟩
theorem zn_12 {g : zs_H} {T : Nat → Int32} {n a e : Nat} {L : List (List Int32)} (H : zl_X g T n) (Ha : (g.1 68 7) = nI a) (ha : a ≤ n) (he : e - a ≤ 32) (HL : zn_M g L) : ∀ m k fuel, L.length = k + m → m < fuel → (∀ j, j < k → ¬ L.getD j [] = zl_nm T n a e) →
    (zl_nm T n a e ∈ L → f_Mo_nameAt_L12 fuel g (nI (e - a)) (nI k) = some (nI (L.idxOf (zl_nm T n a e)), g)) ∧
    (¬ zl_nm T n a e ∈ L → f_Mo_nameAt_L12 fuel g (nI (e - a)) (nI k) = f_Mo_nameAt_L111 zF (zs_uM g 71 L.length (nI (e - a))) (nI (e - a)) 0) := by
  have hn := H.2.1
  have hL := HL.2.1
  intro m
  induction m with
  | zero =>
    intro k fuel h1 h2 h3
    obtain ⟨f, rfl⟩ : ∃ f, fuel = f + 1 := ⟨fuel - 1, by omega⟩
    refine ⟨fun q => ?_, fun _ => ?_⟩
    · obtain ⟨j, hj, e1⟩ := List.getElem_of_mem q
      exact absurd (by rw [List.getD_eq_getElem?_getD, List.getElem?_eq_getElem hj]; exact e1) (h3 j (by omega))
    · show f_Mo_nameAt_12 (f_Mo_nameAt_L12 f) g (nI (e - a)) (nI k) = _
      unfold f_Mo_nameAt_12
      rw [HL.1, if_pos ((nI_leI (by omega) (by omega)).mpr (by omega)), if_pos (zi_in (by omega) (by omega)), nI_clamp (by omega)]
  | succ m ih =>
    intro k fuel h1 h2 h3
    obtain ⟨f, rfl⟩ : ∃ f, fuel = f + 1 := ⟨fuel - 1, by omega⟩
    have hk := HL.2.2 k (by omega)
    have e0 : f_Mo_nameAt_L12 (f + 1) g (nI (e - a)) (nI k) = if L.getD k [] = zl_nm T n a e then some (nI k, g) else f_Mo_nameAt_L12 f g (nI (e - a)) (nI (k + 1)) := by
      show f_Mo_nameAt_12 (f_Mo_nameAt_L12 f) g (nI (e - a)) (nI k) = _
      unfold f_Mo_nameAt_12
      rw [HL.1, if_neg (mt (nI_leI (by omega) (by omega)).mp (by omega)), if_pos (zi_in (by omega) (by omega)), nI_clamp (by omega), hk.1]
      unfold f_Mo_nameAt_35
      by_cases c1 : (L.getD k []).length = e - a
      · rw [if_pos (by rw [c1])]
        have h39 := zn_39 (k := k) (len := e - a) (k12 := f_Mo_nameAt_L12 f) H Ha ha he (by omega) (e - a) 0 zF (by omega) (by have := zF_big; omega)
        by_cases c2 : ∀ j, 0 ≤ j → j < e - a → (g.2.1 70) (32 * k + j) = zl_g T n (a + j)
        · rw [show (0 : Int32) = nI 0 from nI_0.symm, h39.1 c2, if_pos (Eq.symm (zl_nm_eq.mpr ⟨c1, fun i hi => by rw [← c2 i (by omega) hi, hk.2.2 i (by omega)]⟩))]
          unfold f_Mo_nameAt_87
          rw [if_neg (by decide)]
        · rw [show (0 : Int32) = nI 0 from nI_0.symm, h39.2 c2, if_neg (fun q => c2 fun j _ hj => by rw [hk.2.2 j (by omega)]; exact ((zl_nm_eq.mp q.symm).2 j hj).symm)]
          unfold f_Mo_nameAt_87
          rw [if_pos rfl, nI_1]
      · rw [if_neg (fun q => c1 ((nI_eq (by omega) (by omega)).mp q)), zF_9, zn_39z, if_neg (fun q => c1 (by rw [q, zl_nm_len]))]
        unfold f_Mo_nameAt_87
        rw [if_pos rfl, nI_1]
    rw [e0]
    by_cases c : L.getD k [] = zl_nm T n a e
    · rw [if_pos c]
      have hk2 : k < L.length := by omega
      have hm : zl_nm T n a e ∈ L := by
        rw [← c, List.getD_eq_getElem?_getD, List.getElem?_eq_getElem hk2]; exact List.getElem_mem hk2
      refine ⟨fun _ => ?_, fun q => absurd hm q⟩
      have hx : L.idxOf (zl_nm T n a e) = k := zx_idx hk2 c h3
      rw [hx]
    · rw [if_neg c]
      exact ih (k + 1) f (by omega) (by omega) fun j hj => by
        by_cases ej : j = k
        · rw [ej]; exact c
        · exact h3 j (by omega)
/-- a name has come anew -/
theorem zn_111 {g : zs_H} {T : Nat → Int32} {n a e N : Nat} (H : zl_X g T n) (Ha : (g.1 68 7) = nI a) (ha : a ≤ n) (he : e - a ≤ 32) (HN : (g.1 68 3) = nI N) (hN : N < 8000) : ∀ m i fuel, e - a = i + m → m < fuel →
    zw (f_Mo_nameAt_L111 fuel g (nI (e - a)) (nI i)) (fun p => p.1 = nI N ∧ (p.2.1 68 3) = nI (N + 1) ∧ (∀ j, (p.2.2.1 70) j = if 32 * N + i ≤ j ∧ j < 32 * N + (e - a) then vp_nar .byte ((zl_g T n (a + (j - 32 * N))).toInt8.toInt32) else (g.2.1 70) j) ∧ zfr [(68, 3)] [70] [] g p.2) := by
  have hn := H.2.1
  intro m
  induction m generalizing g with
  | zero =>
    intro i fuel h1 h2
    obtain ⟨f, rfl⟩ : ∃ f, fuel = f + 1 := ⟨fuel - 1, by omega⟩
    show zw (f_Mo_nameAt_111 (f_Mo_nameAt_L111 f) g (nI (e - a)) (nI i)) _
    unfold f_Mo_nameAt_111
    rw [if_pos ((nI_leI (by omega) (by omega)).mpr (by omega)), HN, nI_1, nI_pred, zw_some]
    refine ⟨rfl, rfl, fun j => ?_, zfr_F (by decide) zfr_rfl⟩
    rw [if_neg (by omega)]; rfl
  | succ m ih =>
    intro i fuel h1 h2
    obtain ⟨f, rfl⟩ : ∃ f, fuel = f + 1 := ⟨fuel - 1, by omega⟩
    show zw (f_Mo_nameAt_111 (f_Mo_nameAt_L111 f) g (nI (e - a)) (nI i)) _
    unfold f_Mo_nameAt_111
    rw [if_neg (mt (nI_leI (by omega) (by omega)).mp (by omega)), Ha, nI_add a i, zl_great H (by omega), HN, show (32 : Int32) * nI N + nI i = nI (32 * N + i) from by rw [zc_ml, nI_add]]
    show zw (if _ then _ else _) _
    rw [if_pos (zi_in (by omega) (by omega)), nI_clamp (by omega), nI_1]
    refine zw_mono (ih (g := zs_uM g 70 (32 * N + i) (vp_nar .byte ((zl_g T n (a + i)).toInt8.toInt32))) H Ha HN (i + 1) f (by omega) (by omega)) fun p q => ?_
    refine ⟨q.1, q.2.1, fun j => ?_, zfr_trans (zfr_M (by decide) zfr_rfl) q.2.2.2⟩
    rw [q.2.2.1 j, zu_MM]
    by_cases c1 : j = 32 * N + i
    · subst c1
      rw [if_neg (by omega), if_pos ⟨rfl, rfl⟩, if_pos (by omega), show 32 * N + i - 32 * N = i by omega]
    · by_cases c2 : 32 * N + (i + 1) ≤ j ∧ j < 32 * N + (e - a)
      · rw [if_pos c2, if_pos (by omega)]
      · rw [if_neg c2, if_neg (fun q => c1 q.2), if_neg (by omega)]
theorem zl_asc {c : Int32} (h : ¬ f_Nm_isPart c = 0) : ∃ k : Nat, k < 128 ∧ f_Nm_great c = nI k := by
  have h1 : 0 ≤ f_Nm_great c ∧ f_Nm_great c ≤ 127 := by
    grind [f_Nm_great, f_Nm_isPart, f_Nm_isLetter, f_Nm_isLetter_12, f_Nm_isLetter_24]
  obtain ⟨j, hj, e⟩ := nI_of (Int32.not_lt.mpr h1.1)
  refine ⟨j, ?_, e⟩
  have h2 := h1.2
  rw [e] at h2
  have := (zc_el (k := 127) (by decide) hj).mp h2
  omega
theorem zl_nar7 : ∀ k : Nat, k < 128 → vp_nar .byte ((nI k).toInt8.toInt32) = nI k := by decide +kernel
theorem zl_nar {T : Nat → Int32} {n i : Nat} (h : zl_pt T n i = true) : vp_nar .byte ((zl_g T n i).toInt8.toInt32) = zl_g T n i := by
  obtain ⟨k, hk, e⟩ := zl_asc (c := zl_b T n i) (by simpa [zl_pt] using h)
  unfold zl_g
  rw [e]; exact zl_nar7 k hk
theorem zn_nameAt {g : zs_H} {T : Nat → Int32} {n a e : Nat} {L : List (List Int32)} (H : zl_X g T n) (Ha : (g.1 68 7) = nI a) (Hb : (g.1 68 8) = nI e) (hae : a ≤ e) (he : e ≤ n) (h32 : e - a ≤ 32) (hp : ∀ i, a ≤ i → i < e → zl_pt T n i = true) (HL : zn_M g L) (hL : L.length < 8000) :
    zw (f_Mo_nameAt g) (fun p => zn_M p.2 (if zl_nm T n a e ∈ L then L else L ++ [zl_nm T n a e]) ∧ p.1 = nI (L.idxOf (zl_nm T n a e)) ∧ zfr [(68, 3)] [70, 71] [] g p.2) := by
  have hn := H.2.1
  unfold f_Mo_nameAt
  rw [Ha, Hb, zi_sub hae]
  have h12 := zn_12 H Ha (by omega) h32 HL L.length 0 zF (by omega) (by have := zF_big; omega) (fun j hj => by omega)
  by_cases c : zl_nm T n a e ∈ L
  · rw [show (0 : Int32) = nI 0 from nI_0.symm, h12.1 c, zw_some, if_pos c]
    exact ⟨HL, rfl, zfr_rfl⟩
  · rw [show (0 : Int32) = nI 0 from nI_0.symm, h12.2 c, if_neg c, show (0 : Int32) = nI 0 from nI_0.symm]
    refine zw_mono (zn_111 (g := zs_uM g 71 L.length (nI (e - a))) (N := L.length) H Ha (by omega) h32 HL.1 hL (e - a) 0 zF (by omega) (by have := zF_big; omega)) fun p q => ?_
    refine ⟨?_, ?_, zfr_trans (zfr_M (by decide) zfr_rfl) (zfr_w q.2.2.2 (by decide) (by decide) (by decide))⟩
    · refine ⟨by rw [q.2.1, List.length_append]; rfl, by rw [List.length_append]; exact hL, fun k hk => ?_⟩
      rw [List.length_append] at hk
      have hk' : k < L.length + 1 := hk
      have hs : (p.2.2.1 71) = (zs_uM g 71 L.length (nI (e - a))).2.1 71 := q.2.2.2.2.1 _ (by decide)
      by_cases ck : k < L.length
      · have e1 : (L ++ [zl_nm T n a e]).getD k [] = L.getD k [] := by
          rw [List.getD_eq_getElem?_getD, List.getD_eq_getElem?_getD, List.getElem?_append_left ck]
        have hk2 := HL.2.2 k ck
        rw [e1]
        refine ⟨by rw [hs, zu_MM, if_neg (by omega)]; exact hk2.1, hk2.2.1, fun i hi => ?_⟩
        rw [q.2.2.1, if_neg (by omega)]
        exact hk2.2.2 i hi
      · have e0 : k = L.length := by omega
        subst e0
        have e1 : (L ++ [zl_nm T n a e]).getD L.length [] = zl_nm T n a e := by
          rw [List.getD_eq_getElem?_getD, List.getElem?_append_right (Nat.le_refl _), Nat.sub_self]; rfl
        rw [e1, zl_nm_len]
        refine ⟨by rw [hs, zu_MM, if_pos ⟨rfl, rfl⟩], h32, fun i hi => ?_⟩
        rw [q.2.2.1, if_pos (by omega), show 32 * L.length + i - 32 * L.length = i by omega, zl_nm_at hi]
        exact zl_nar (hp (a + i) (by omega) (by omega))
    · rw [q.1, List.idxOf_eq_length c]
/-- the words -/
def zl_W : List (List Int32) := [[70, 85, 78, 67, 84, 73, 79, 78], [69, 78, 68, 95, 70, 85, 78, 67, 84, 73, 79, 78], [70, 85, 78, 67, 84, 73, 79, 78, 95, 66, 76, 79, 67, 75], [69, 78, 68, 95, 70, 85, 78, 67, 84, 73, 79, 78, 95, 66, 76, 79, 67, 75], [80, 82, 79, 71, 82, 65, 77], [69, 78, 68, 95, 80, 82, 79, 71, 82, 65, 77], [86, 65, 82], [86, 65, 82, 95, 73, 78, 80, 85, 84], [86, 65, 82, 95, 79, 85, 84, 80, 85, 84], [69, 78, 68, 95, 86, 65, 82], [65, 84], [66, 79, 79, 76], [73, 78, 84], [68, 73, 78, 84], [65, 82, 82, 65, 89], [79, 70], [73, 70], [84, 72, 69, 78], [69, 76, 83, 73, 70], [69, 76, 83, 69], [69, 78, 68, 95, 73, 70], [67, 65, 83, 69], [69, 78, 68, 95, 67, 65, 83, 69], [70, 79, 82], [84, 79], [66, 89], [68, 79], [69, 78, 68, 95, 70, 79, 82], [69, 88, 73, 84], [82, 69, 84, 85, 82, 78], [79, 82], [88, 79, 82], [65, 78, 68], [77, 79, 68], [78, 79, 84], [84, 82, 85, 69], [70, 65, 76, 83, 69], [76, 65, 68, 68, 69, 82], [69, 78, 68, 95, 76, 65, 68, 68, 69, 82], [82, 85, 78, 71], [69, 78, 68, 95, 82, 85, 78, 71]]
def zl_S : List Nat := [1, 10, 23, 38, 57, 65, 77, 81, 91, 102, 110, 113, 118, 122, 127, 133, 136, 139, 144, 150, 155, 162, 167, 176, 180, 183, 186, 189, 197, 202, 209, 212, 216, 220, 224, 228, 233, 239, 246, 257, 262]
theorem zl_Wf : ∀ w, w < 41 → zl_S.getD w 271 + (zl_W.getD w []).length < 271 ∧ (ze_f 7 (zl_S.getD w 271 + (zl_W.getD w []).length) &&& 255) = 32 ∧ zl_S.getD (w + 1) 271 = zl_S.getD w 271 + (zl_W.getD w []).length + 1 ∧ ∀ k, k < (zl_W.getD w []).length → (ze_f 7 (zl_S.getD w 271 + k) &&& 255) = (zl_W.getD w []).getD k 0 ∧ ¬ (zl_W.getD w []).getD k 0 = 32 := by decide +kernel
theorem zl_18 {g : zs_H} {T : Nat → Int32} {n a e st w : Nat} {wd : List Int32} {k4 : Int32 → Int32 → Option Int32} (H : zl_X g T n) (Ha : (g.1 68 7) = nI a) (Hb : (g.1 68 8) = nI e) (hae : a ≤ e) (he : e ≤ n) (hst : st + wd.length < 271) (h32 : (ze_f 7 (st + wd.length) &&& 255) = 32) (hw : ∀ k, k < wd.length → (ze_f 7 (st + k) &&& 255) = wd.getD k 0 ∧ ¬ wd.getD k 0 = 32) : ∀ m j fuel, wd.length = j + m → m < fuel →
    f_Mo_wordAt_L18 g k4 fuel (nI w) (nI st) (nI j) 0 = f_Mo_wordAt_103 g k4 (nI w) (nI st) (nI wd.length) ∧
    ((∀ i, j ≤ i → i < wd.length → zl_g T n (a + i) = wd.getD i 0 ∧ a + i < e) → f_Mo_wordAt_L18 g k4 fuel (nI w) (nI st) (nI j) 1 = if wd.length = e - a then some (nI w) else f_Mo_wordAt_103 g k4 (nI w) (nI st) (nI wd.length)) ∧
    ((¬ ∀ i, j ≤ i → i < wd.length → zl_g T n (a + i) = wd.getD i 0 ∧ a + i < e) → f_Mo_wordAt_L18 g k4 fuel (nI w) (nI st) (nI j) 1 = f_Mo_wordAt_103 g k4 (nI w) (nI st) (nI wd.length)) := by
  have hn := H.2.1
  intro m
  induction m with
  | zero =>
    intro j fuel h1 h2
    obtain ⟨f, rfl⟩ : ∃ f, fuel = f + 1 := ⟨fuel - 1, by omega⟩
    have ej : j = wd.length := by omega
    subst ej
    have e0 : ∀ s, f_Mo_wordAt_L18 g k4 (f + 1) (nI w) (nI st) (nI wd.length) s = if s = 0 then f_Mo_wordAt_103 g k4 (nI w) (nI st) (nI wd.length) else if wd.length = e - a then some (nI w) else f_Mo_wordAt_103 g k4 (nI w) (nI st) (nI wd.length) := by
      intro s
      show f_Mo_wordAt_18 g k4 (f_Mo_wordAt_L18 g k4 f) (nI w) (nI st) (nI wd.length) s = _
      unfold f_Mo_wordAt_18
      rw [nI_add, if_pos (zi_in (by omega) (by omega)), nI_clamp (by omega), if_pos h32, Ha, Hb, zi_sub hae]
      by_cases c : wd.length = e - a
      · rw [if_pos c, if_pos (show nI wd.length = nI (e - a) by rw [c])]
      · rw [if_neg c, if_neg (fun q => c ((nI_eq (by omega) (by omega)).mp q))]
    refine ⟨by rw [e0, if_pos rfl], fun _ => by rw [e0, if_neg (by decide)], fun q => absurd (fun i h3 h4 => by omega) q⟩
  | succ m ih =>
    intro j fuel h1 h2
    obtain ⟨f, rfl⟩ : ∃ f, fuel = f + 1 := ⟨fuel - 1, by omega⟩
    have hj := hw j (by omega)
    have hi := ih (j + 1) f (by omega) (by omega)
    have e0 : f_Mo_wordAt_L18 g k4 (f + 1) (nI w) (nI st) (nI j) 0 = f_Mo_wordAt_L18 g k4 f (nI w) (nI st) (nI (j + 1)) 0 := by
      show f_Mo_wordAt_18 g k4 (f_Mo_wordAt_L18 g k4 f) (nI w) (nI st) (nI j) 0 = _
      unfold f_Mo_wordAt_18
      rw [nI_add, if_pos (zi_in (by omega) (by omega)), nI_clamp (by omega), if_neg (by rw [hj.1]; exact hj.2), if_pos rfl]
      unfold f_Mo_wordAt_74 f_Mo_wordAt_75
      rw [nI_1]
    have e1 : f_Mo_wordAt_L18 g k4 (f + 1) (nI w) (nI st) (nI j) 1 = if zl_g T n (a + j) = wd.getD j 0 ∧ a + j < e then f_Mo_wordAt_L18 g k4 f (nI w) (nI st) (nI (j + 1)) 1 else f_Mo_wordAt_L18 g k4 f (nI w) (nI st) (nI (j + 1)) 0 := by
      show f_Mo_wordAt_18 g k4 (f_Mo_wordAt_L18 g k4 f) (nI w) (nI st) (nI j) 1 = _
      unfold f_Mo_wordAt_18
      rw [nI_add, if_pos (zi_in (by omega) (by omega)), nI_clamp (by omega), if_neg (by rw [hj.1]; exact hj.2), if_neg (by decide), Ha, Hb, nI_add a j, zl_great H (by omega), hj.1]
      show (if _ then (if _ then _ else _) else _) = _
      unfold f_Mo_wordAt_74 f_Mo_wordAt_75
      rw [nI_1]
      by_cases c1 : zl_g T n (a + j) = wd.getD j 0
      · rw [if_pos c1]
        by_cases c2 : a + j < e
        · rw [if_neg (mt (nI_leI (by omega) (by omega)).mp (by omega)), if_pos ⟨c1, c2⟩]
        · rw [if_pos ((nI_leI (by omega) (by omega)).mpr (by omega)), if_neg (fun q => c2 q.2)]
      · rw [if_neg c1, if_neg (fun q => c1 q.1)]
    refine ⟨e0.trans hi.1, ?_, ?_⟩
    · intro q
      rw [e1, if_pos (q j (by omega) (by omega))]
      exact hi.2.1 fun i h3 h4 => q i (by omega) h4
    · intro q
      rw [e1]
      by_cases c : zl_g T n (a + j) = wd.getD j 0 ∧ a + j < e
      · rw [if_pos c]
        refine hi.2.2 fun z => q fun i h3 h4 => ?_
        by_cases ei : i = j
        · rw [ei]; exact c
        · exact z i (by omega) h4
      · rw [if_neg c]; exact hi.1
theorem zl_4 {g : zs_H} {T : Nat → Int32} {n a e : Nat} (H : zl_X g T n) (Ha : (g.1 68 7) = nI a) (Hb : (g.1 68 8) = nI e) (hae : a ≤ e) (he : e ≤ n) : ∀ m w fuel, 41 = w + m → m < fuel → (∀ j, j < w → ¬ zl_W.getD j [] = zl_nm T n a e) →
    f_Mo_wordAt_L4 g fuel (nI w) (nI (zl_S.getD w 271)) = some (if zl_nm T n a e ∈ zl_W then nI (zl_W.idxOf (zl_nm T n a e)) else -1) := by
  intro m
  induction m with
  | zero =>
    intro w fuel h1 h2 h3
    obtain ⟨f, rfl⟩ : ∃ f, fuel = f + 1 := ⟨fuel - 1, by omega⟩
    have ew : w = 41 := by omega
    subst ew
    show f_Mo_wordAt_4 g (f_Mo_wordAt_L4 g f) (nI 41) (nI 271) = _
    unfold f_Mo_wordAt_4
    rw [if_pos (by decide), if_neg]
    intro q
    obtain ⟨j, hj, e1⟩ := List.getElem_of_mem q
    exact h3 j hj (by rw [List.getD_eq_getElem?_getD, List.getElem?_eq_getElem hj]; exact e1)
  | succ m ih =>
    intro w fuel h1 h2 h3
    obtain ⟨f, rfl⟩ : ∃ f, fuel = f + 1 := ⟨fuel - 1, by omega⟩
    obtain ⟨w1, w2, w3, w4⟩ := zl_Wf w (by omega)
    show f_Mo_wordAt_4 g (f_Mo_wordAt_L4 g f) (nI w) (nI (zl_S.getD w 271)) = _
    unfold f_Mo_wordAt_4
    rw [if_neg (mt (zc_le (k := 271) (by decide) (by omega)).mp (by omega))]
    have h18 := zl_18 (w := w) (k4 := f_Mo_wordAt_L4 g f) H Ha Hb hae he w1 w2 w4 (zl_W.getD w []).length 0 zF (by omega) (by have := zF_big; omega)
    have e103 : f_Mo_wordAt_103 g (f_Mo_wordAt_L4 g f) (nI w) (nI (zl_S.getD w 271)) (nI (zl_W.getD w []).length) = f_Mo_wordAt_L4 g f (nI (w + 1)) (nI (zl_S.getD (w + 1) 271)) := by
      unfold f_Mo_wordAt_103
      rw [nI_1, nI_add, nI_1, w3]
    have ew : zl_W.length = 41 := rfl
    by_cases c : zl_W.getD w [] = zl_nm T n a e
    · have c' := zl_nm_eq.mp c.symm
      rw [show (0 : Int32) = nI 0 from nI_0.symm, h18.2.1 (fun i _ h5 => ⟨c'.2 i (by omega), by omega⟩), if_pos c'.1, zx_idx (by omega) c h3, if_pos]
      rw [← c, List.getD_eq_getElem?_getD, List.getElem?_eq_getElem (by omega)]
      exact List.getElem_mem _
    · have e4 : f_Mo_wordAt_L18 g (f_Mo_wordAt_L4 g f) zF (nI w) (nI (zl_S.getD w 271)) (nI 0) 1 = f_Mo_wordAt_L4 g f (nI (w + 1)) (nI (zl_S.getD (w + 1) 271)) := by
        by_cases c2 : ∀ i, 0 ≤ i → i < (zl_W.getD w []).length → zl_g T n (a + i) = (zl_W.getD w []).getD i 0 ∧ a + i < e
        · rw [h18.2.1 c2, if_neg, e103]
          intro q
          exact c (zl_nm_eq.mpr ⟨q, fun i hi => (c2 i (by omega) (by omega)).1⟩).symm
        · rw [h18.2.2 c2, e103]
      rw [show (0 : Int32) = nI 0 from nI_0.symm, e4]
      exact ih (w + 1) f (by omega) (by omega) fun j hj => by
        by_cases ej : j = w
        · rw [ej]; exact c
        · exact h3 j (by omega)
theorem zl_wordAt {g : zs_H} {T : Nat → Int32} {n a e : Nat} (H : zl_X g T n) (Ha : (g.1 68 7) = nI a) (Hb : (g.1 68 8) = nI e) (hae : a ≤ e) (he : e ≤ n) : f_Mo_wordAt g = some (if zl_nm T n a e ∈ zl_W then nI (zl_W.idxOf (zl_nm T n a e)) else -1) := by
  have h := zl_4 H Ha Hb hae he 41 0 zF rfl (by have := zF_big; omega) (fun j hj => by omega)
  exact h
end
section
/-! Numbers, times, places and signs of a text; the model's next token. -/
theorem zu_c {h : zs_H} {k j : Nat} {a b : Int32} : zs_uF (zs_uF h k j a) k j b = zs_uF h k j b := by
  unfold zs_uF
  refine Prod.ext ?_ rfl
  funext x y
  show (if x = k ∧ y = j then b else if x = k ∧ y = j then a else h.1 x y) = (if x = k ∧ y = j then b else h.1 x y)
  split <;> rfl
theorem zu_s {h : zs_H} {k j : Nat} {a : Int32} (e : h.1 k j = a) : zs_uF h k j a = h := by
  unfold zs_uF
  refine Prod.ext ?_ rfl
  funext x y
  show (if x = k ∧ y = j then a else h.1 x y) = h.1 x y
  split
  · rename_i q; rw [q.1, q.2, e]
  · rfl
theorem zj_le {a b : Nat} (ha : a < 9223372036854775808) (hb : b < 9223372036854775808) : lN a ≤ lN b ↔ a ≤ b := Int64.ofNat_le_iff_le ha hb
theorem zj_lt {a b : Nat} (ha : a < 9223372036854775808) (hb : b < 9223372036854775808) : lN a < lN b ↔ a < b := Int64.ofNat_lt_iff_lt ha hb
theorem zj_eq {a b : Nat} (ha : a < 9223372036854775808) (hb : b < 9223372036854775808) : lN a = lN b ↔ a = b := by
  constructor
  · intro h
    have h1 := (zj_le ha hb).mp (by rw [h]; exact Int64.le_refl _)
    have h2 := (zj_le hb ha).mp (by rw [h]; exact Int64.le_refl _)
    omega
  · intro h; rw [h]
theorem zj_el {k t : Nat} (hk : k < 9223372036854775808) (ht : t < 9223372036854775808) : lN t ≤ (OfNat.ofNat k : Int64) ↔ t ≤ k := zj_le ht hk
theorem zj_gt {k t : Nat} (hk : k < 9223372036854775808) (ht : t < 9223372036854775808) : (OfNat.ofNat k : Int64) < lN t ↔ k < t := zj_lt hk ht
theorem zj_nn {a : Nat} (ha : a < 9223372036854775808) : ¬ lN a < 0 := mt (zj_lt (b := 0) ha (by decide)).mp (by omega)
def zl_d (T : Nat → Int32) (n i : Nat) : Nat := (f_Mo_digit (zl_g T n i)).toNatClampNeg
def zl_dp (T : Nat → Int32) (n base i : Nat) : Bool := decide (f_Mo_digit (zl_g T n i) < nI base)
def zl_dr (T : Nat → Int32) (n base i : Nat) : Nat := zl_run (zl_dp T n base) (n - i) i
def zl_vl (T : Nat → Int32) (n base i : Nat) : Nat → Nat
  | 0 => 0
  | k + 1 => zl_vl T n base i k * base + zl_d T n (i + k)
theorem zl_dg (c : Int32) : 0 ≤ f_Mo_digit c ∧ f_Mo_digit c ≤ 99 := by grind [f_Mo_digit, f_Mo_isDigit]
theorem zl_dn (T : Nat → Int32) (n i : Nat) : f_Mo_digit (zl_g T n i) = nI (zl_d T n i) ∧ zl_d T n i ≤ 99 := by
  have h := zl_dg (zl_g T n i)
  have e : nI (zl_d T n i) = f_Mo_digit (zl_g T n i) := zi_nn (Int32.not_lt.mpr h.1)
  refine ⟨e.symm, ?_⟩
  have h2 := h.2
  rw [← e] at h2
  have h3 : zl_d T n i < 2147483648 := Int32.toNatClampNeg_lt _
  exact (zc_el (k := 99) (by decide) h3).mp h2
theorem zl_dp_hi {T : Nat → Int32} {n i base : Nat} (hb : base ≤ 16) (h : n ≤ i) : zl_dp T n base i = false := by
  unfold zl_dp zl_g
  rw [zl_b_hi h, show f_Mo_digit (f_Nm_great (-1)) = nI 99 from rfl]
  exact decide_eq_false (mt (nI_ltI (by decide) (by omega)).mp (by omega))
def zl_M : Nat := 100000000000000000
def zl_vv (v k : Nat) : Int64 := if k = 0 then -1 else lN (min v zl_M)
theorem zl_min {v base d : Nat} (hb : 1 ≤ base) : min (min v zl_M * base + d) zl_M = min (v * base + d) zl_M := by
  by_cases c : v ≤ zl_M
  · rw [Nat.min_eq_left c]
  · have h1 : min v zl_M = zl_M := Nat.min_eq_right (by omega)
    rw [h1]
    have h2 : zl_M ≤ zl_M * base := Nat.le_mul_of_pos_right _ hb
    have h3 : zl_M * base ≤ v * base := Nat.mul_le_mul_right _ (by omega)
    rw [Nat.min_eq_right (by omega), Nat.min_eq_right (by omega)]
theorem zl_9 {g : zs_H} {T : Nat → Int32} {n s base : Nat} (H : zl_X g T n) (hb : 1 ≤ base) (hb' : base ≤ 16) (hs : s ≤ n + 3) : ∀ m k fuel, n ≤ s + k + m → m < fuel → s + k ≤ n + 3 →
    f_Mo_digits_L9 fuel (zs_uF g 68 8 (nI (s + k))) (nI base) (zl_vv (zl_vl T n base s k) k) = some (zl_vv (zl_vl T n base s (zl_run (zl_dp T n base) m (s + k) - s)) (zl_run (zl_dp T n base) m (s + k) - s), zs_uF g 68 8 (nI (zl_run (zl_dp T n base) m (s + k)))) := by
  have hn := H.2.1
  have hx : ∀ k fuel, s + k ≤ n + 3 → zl_dp T n base (s + k) = false → f_Mo_digits_L9 (fuel + 1) (zs_uF g 68 8 (nI (s + k))) (nI base) (zl_vv (zl_vl T n base s k) k) = some (zl_vv (zl_vl T n base s k) k, zs_uF g 68 8 (nI (s + k))) := by
    intro k fuel h1 h2
    show f_Mo_digits_9 (f_Mo_digits_L9 fuel) _ _ _ = _
    unfold f_Mo_digits_9
    rw [zu_S, zl_great (g := zs_uF g 68 8 (nI (s + k))) (n := n) H (by omega)]
    show (if nI base ≤ f_Mo_digit (zl_g T n (s + k)) then _ else _) = _
    rw [if_pos]
    exact Int32.not_lt.mp (of_decide_eq_false h2)
  intro m
  induction m with
  | zero =>
    intro k fuel h1 h2 h3
    obtain ⟨f, rfl⟩ : ∃ f, fuel = f + 1 := ⟨fuel - 1, by omega⟩
    rw [hx k f h3 (zl_dp_hi hb' (by omega)), show zl_run (zl_dp T n base) 0 (s + k) = s + k from rfl, show s + k - s = k by omega]
  | succ m ih =>
    intro k fuel h1 h2 h3
    obtain ⟨f, rfl⟩ : ∃ f, fuel = f + 1 := ⟨fuel - 1, by omega⟩
    by_cases c : zl_dp T n base (s + k) = true
    · have hlt : s + k < n := Nat.lt_of_not_le fun q => by rw [zl_dp_hi hb' q] at c; exact absurd c (by decide)
      have hd := zl_dn T n (s + k)
      have e2 : zl_run (zl_dp T n base) (m + 1) (s + k) = zl_run (zl_dp T n base) m (s + (k + 1)) := by
        show (if _ then _ else _) = _
        rw [if_pos c]; rfl
      rw [e2, ← ih (k + 1) f (by omega) (by omega) (by omega)]
      show f_Mo_digits_9 (f_Mo_digits_L9 f) _ _ _ = _
      have hg : ∀ y, f_Mo_digits_35 (f_Mo_digits_L9 f) (zs_uF g 68 8 (nI (s + k))) (nI base) (lN y) = f_Mo_digits_L9 f (zs_uF g 68 8 (nI (s + (k + 1)))) (nI base) (lN (min (y * base + zl_d T n (s + k)) zl_M)) ∨ ¬ y ≤ zl_M := by
        intro y
        by_cases hy : y ≤ zl_M
        · refine Or.inl ?_
          unfold f_Mo_digits_35
          rw [zu_S, zl_great (g := zs_uF g 68 8 (nI (s + k))) (n := n) H (by omega)]
          simp only [Option.bind_some]
          have hM : zl_M = 100000000000000000 := rfl
          have hyb : y * base ≤ 1600000000000000000 := by
            have h5 := Nat.mul_le_mul hy hb'
            rw [hM] at h5; omega
          rw [hd.1, nI_l (by omega), nI_l (by omega), lN_mul, lN_add]
          unfold f_Mo_digits_67
          rw [zu_S, nI_1, zu_c]
          by_cases c5 : y * base + zl_d T n (s + k) ≤ zl_M
          · rw [if_pos ((zj_el (k := 100000000000000000) (t := y * base + zl_d T n (s + k)) (by decide) (by omega)).mpr (by rw [hM] at c5; exact c5)), Nat.min_eq_left c5]; rfl
          · rw [if_neg (mt (zj_el (k := 100000000000000000) (t := y * base + zl_d T n (s + k)) (by decide) (by omega)).mp (by rw [hM] at c5; exact c5)), Nat.min_eq_right (by omega)]; rfl
        · exact Or.inr hy
      unfold f_Mo_digits_9
      rw [zu_S, zl_great (g := zs_uF g 68 8 (nI (s + k))) (n := n) H (by omega)]
      simp only [Option.bind_some]
      rw [if_neg (Int32.not_le.mpr (of_decide_eq_true c))]
      by_cases k0 : k = 0
      · subst k0
        have h6 := (hg 0).resolve_right (fun q => q (Nat.zero_le _))
        rw [show zl_vv (zl_vl T n base s 0) 0 = -1 from rfl, if_neg (by decide)]
        rw [show (0 : Int64) = lN 0 from rfl, h6]
        have e7 : zl_vv (zl_vl T n base s (0 + 1)) (0 + 1) = lN (min (0 * base + zl_d T n (s + 0)) zl_M) := rfl
        rw [e7]
      · have e7 : zl_vv (zl_vl T n base s k) k = lN (min (zl_vl T n base s k) zl_M) := if_neg k0
        have e8 : zl_vv (zl_vl T n base s (k + 1)) (k + 1) = lN (min (zl_vl T n base s k * base + zl_d T n (s + k)) zl_M) := if_neg (by omega)
        have h6 := (hg (min (zl_vl T n base s k) zl_M)).resolve_right (fun q => q (Nat.min_le_right _ _))
        have hM : zl_M = 100000000000000000 := rfl
        have h9 := Nat.min_le_right (zl_vl T n base s k) zl_M
        rw [e7, if_pos (Int64.not_lt.mp (zj_nn (by omega))), h6, e8, zl_min hb]
    · have c' : zl_dp T n base (s + k) = false := by simpa using c
      have e2 : zl_run (zl_dp T n base) (m + 1) (s + k) = s + k := zl_run_0 _ _ _ c'
      rw [e2, hx k f h3 c', show s + k - s = k by omega]
theorem zl_digits {g : zs_H} {T : Nat → Int32} {n s base : Nat} (H : zl_X g T n) (hb : 1 ≤ base) (hb' : base ≤ 16) (hs : s ≤ n + 3) : f_Mo_digits g (nI s) (nI base) = some (zl_vv (zl_vl T n base s (zl_dr T n base s - s)) (zl_dr T n base s - s), zs_uF g 68 8 (nI (zl_dr T n base s))) := by
  have h := zl_9 H hb hb' hs (n - s) 0 zF (by omega) (by have := zF_big; have := H.2.1; omega) (by omega)
  exact h
theorem zl_fail {g : zs_H} {a : Nat} {w : Int32} (Ha : (g.1 68 7) = nI a) : f_Mo_fail g w (g.1 68 7) = some (zl_ft g w a) := by
  unfold f_Mo_fail zl_ft
  rw [Ha]
  split <;> rfl
theorem zl_set1 {g : zs_H} {a : Nat} (Ha : (g.1 68 7) = nI a) : f_Mo_settle g (-1) = some (zl_ft g 4 a) := by
  unfold f_Mo_settle f_Mo_settle_25
  rw [if_pos (by decide), zl_fail Ha]; rfl
theorem zl_set2 {g : zs_H} {T : Nat → Int32} {n a e x : Nat} (H : zl_X g T n) (Ha : (g.1 68 7) = nI a) (Hb : (g.1 68 8) = nI e) (he : e < 2147483648) (hx : x < 9223372036854775808) :
    f_Mo_settle g (lN x) = some (if x ≤ 2147483647 ∧ zl_pt T n e = false then zs_uF (zs_uF g 68 6 3) 68 9 (nI x) else zl_ft g 4 a) := by
  unfold f_Mo_settle f_Mo_settle_25
  rw [if_neg (zj_nn hx), zl_fail Ha]
  by_cases c1 : x ≤ 2147483647
  · rw [if_neg (show ¬ (2147483647 : Int64) < lN x from mt (zj_lt (a := 2147483647) (by decide) hx).mp (by omega)), Hb, zl_goesOn H he]
    show (if f_Nm_isPart _ = 0 then _ else _) = _
    by_cases c2 : f_Nm_isPart (zl_b T n e) = 0
    · rw [if_pos c2, if_pos ⟨c1, by unfold zl_pt; rw [decide_eq_false]; exact fun q => q c2⟩, lN_i]
    · rw [if_neg c2, if_neg]; rfl
      intro q
      have q2 := q.2
      unfold zl_pt at q2
      rw [decide_eq_true c2] at q2
      exact absurd q2 (by decide)
  · rw [if_pos (show (2147483647 : Int64) < lN x from (zj_lt (a := 2147483647) (by decide) hx).mpr (by omega)), if_neg (fun q => c1 q.1)]; rfl
/-- a token: its kind, its place, what is behind it, its value; 9 is one that is badly written -/
abbrev zl_T : Type := Nat × Nat × Nat × Nat
def zl_fin (T : Nat → Int32) (n a : Nat) (v : Option Nat) (e : Nat) : zl_T := match v with
  | none => (9, a, e, 4)
  | some x => if x ≤ 2147483647 ∧ zl_pt T n e = false then (3, a, e, x) else (9, a, e, 4)
def zl_nb (T : Nat → Int32) (n a : Nat) : zl_T :=
  if zl_b T n (zl_dr T n 10 a) = 35 then
    (if zl_vl T n 10 a (zl_dr T n 10 a - a) = 16 ∨ zl_vl T n 10 a (zl_dr T n 10 a - a) = 2 then
      zl_fin T n a (if zl_dr T n (zl_vl T n 10 a (zl_dr T n 10 a - a)) (zl_dr T n 10 a + 1) - (zl_dr T n 10 a + 1) = 0 then none else some (zl_vl T n (zl_vl T n 10 a (zl_dr T n 10 a - a)) (zl_dr T n 10 a + 1) (zl_dr T n (zl_vl T n 10 a (zl_dr T n 10 a - a)) (zl_dr T n 10 a + 1) - (zl_dr T n 10 a + 1)))) (zl_dr T n (zl_vl T n 10 a (zl_dr T n 10 a - a)) (zl_dr T n 10 a + 1))
    else (9, a, zl_dr T n 10 a, 4))
  else zl_fin T n a (some (zl_vl T n 10 a (zl_dr T n 10 a - a))) (zl_dr T n 10 a)
def zl_un (T : Nat → Int32) (n e : Nat) : Nat := if zl_g T n e = 77 ∧ zl_g T n (e + 1) = 83 then 1 else if zl_g T n e = 83 then 1000 else if zl_g T n e = 77 then 60000 else if zl_g T n e = 72 then 3600000 else 0
def zl_tm (T : Nat → Int32) (n a : Nat) : zl_T :=
  zl_fin T n a (if zl_un T n (zl_dr T n 10 (a + 2)) = 0 ∨ zl_dr T n 10 (a + 2) - (a + 2) = 0 then none else some (zl_vl T n 10 (a + 2) (zl_dr T n 10 (a + 2) - (a + 2)) * zl_un T n (zl_dr T n 10 (a + 2)))) (zl_dr T n 10 (a + 2) + (if zl_un T n (zl_dr T n 10 (a + 2)) = 1 then 2 else if zl_un T n (zl_dr T n 10 (a + 2)) = 0 then 0 else 1))
/-- what the model leaves when it has read a token -/
def zl_N (n b : Nat) (L : List (List Int32)) (c : List Int32) (g : zs_H) (t : zl_T) (g' : zs_H) : Prop :=
  zfr [(68, 3), (68, 6), (68, 7), (68, 8), (68, 9), (68, 10), (68, 11)] [70, 71] [] g g' ∧
  (t.1 = 9 → ((g.1 68 10) = 0 → (g'.1 68 10) = nI t.2.2.2 ∧ (g'.1 68 11) = nI t.2.1) ∧ (¬ (g.1 68 10) = 0 → (g'.1 68 10) = (g.1 68 10) ∧ (g'.1 68 11) = (g.1 68 11)) ∧ zn_M g' L ∧ ∃ b', (g'.1 68 8) = nI b' ∧ b' ≤ n ∧ b ≤ b') ∧
  (¬ t.1 = 9 → (g'.1 68 10) = (g.1 68 10) ∧ (g'.1 68 11) = (g.1 68 11) ∧ (g'.1 68 7) = nI t.2.1 ∧ (g'.1 68 8) = nI t.2.2.1 ∧ (g'.1 68 6) = nI t.1 ∧ (t.1 = 1 → (g'.1 68 9) = nI (L.idxOf c) ∧ zn_M g' (if c ∈ L then L else L ++ [c])) ∧ (¬ t.1 = 1 → zn_M g' L ∧ (¬ t.1 = 0 → (g'.1 68 9) = nI t.2.2.2)))
theorem zn_fr {fs : List (Nat × Nat)} {ms ls : List Nat} {g g' : zs_H} {L : List (List Int32)} (f : zfr fs ms ls g g') (h1 : (68, 3) ∉ fs) (h2 : 70 ∉ ms) (h3 : 71 ∉ ms) (H : zn_M g L) : zn_M g' L := by
  unfold zn_M
  rw [f.1 _ _ h1, f.2.1 _ h2, f.2.1 _ h3]
  exact H
theorem zl_sub : ∀ x ∈ [(68, 6), (68, 7), (68, 8), (68, 9)], x ∈ [(68, 3), (68, 6), (68, 7), (68, 8), (68, 9), (68, 10), (68, 11)] := by decide
theorem zl_ftf {g : zs_H} {w : Int32} {a : Nat} : zfr [(68, 10), (68, 11)] [] [] g (zl_ft g w a) := by
  unfold zl_ft
  split
  · exact zfr_F (by decide) (zfr_F (by decide) zfr_rfl)
  · exact zfr_rfl
theorem zl_ftN {n b : Nat} {L : List (List Int32)} {c : List Int32} {g g1 : zs_H} {w a e b' : Nat} {fs : List (Nat × Nat)} (f : zfr fs [] [] g g1) (hf : ∀ x ∈ fs, x ∈ [(68, 6), (68, 7), (68, 8), (68, 9)]) (HL : zn_M g L) (Hb : (g1.1 68 8) = nI b') (h1 : b' ≤ n) (h2 : b ≤ b') : zl_N n b L c g (9, a, e, w) (zl_ft g1 (nI w) a) := by
  have hx : ∀ k j, (k, j) ∉ [(68, 6), (68, 7), (68, 8), (68, 9)] → g1.1 k j = g.1 k j := fun k j q => f.1 k j (fun z => q (hf _ z))
  have f2 := zfr_trans (zfr_w f (fs' := [(68, 3), (68, 6), (68, 7), (68, 8), (68, 9), (68, 10), (68, 11)]) (ms' := [70, 71]) (ls' := []) (fun x q => zl_sub x (hf x q)) (fun x q => absurd q (List.not_mem_nil)) (fun x q => q)) (zfr_w (zl_ftf (g := g1) (w := nI w) (a := a)) (by decide) (by decide) (by decide))
  refine ⟨f2, fun _ => ⟨fun z => ?_, fun z => ?_, ?_, b', ?_, h1, h2⟩, fun q => absurd rfl q⟩
  · have z1 : (g1.1 68 10) = 0 := by rw [hx _ _ (by decide)]; exact z
    rw [show zl_ft g1 (nI w) a = zs_uF (zs_uF g1 68 10 (nI w)) 68 11 (nI a) from if_pos z1]
    exact ⟨rfl, rfl⟩
  · have z1 : ¬ (g1.1 68 10) = 0 := by rw [hx _ _ (by decide)]; exact z
    rw [show zl_ft g1 (nI w) a = g1 from if_neg z1]
    exact ⟨hx _ _ (by decide), hx _ _ (by decide)⟩
  · refine zn_fr zl_ftf (by decide) (by decide) (by decide) ?_
    unfold zn_M
    rw [hx _ _ (by decide), f.2.1 _ (List.not_mem_nil), f.2.1 _ (List.not_mem_nil)]
    exact HL
  · rw [zl_ftf.1 _ _ (by decide)]; exact Hb
theorem zl_b_lt {T : Nat → Int32} {n i : Nat} (h : ¬ zl_b T n i = -1) : i < n := Nat.lt_of_not_le fun q => h (zl_b_hi q)
theorem zl_g_lt {T : Nat → Int32} {n i : Nat} (h : ¬ zl_g T n i = -1) : i < n := Nat.lt_of_not_le fun q => h (by unfold zl_g; rw [zl_b_hi q]; rfl)
theorem zl_dr_le {T : Nat → Int32} {n base s : Nat} (hs : s ≤ n + 3) : zl_dr T n base s ≤ n + 3 ∧ s ≤ zl_dr T n base s := by
  have h1 := zl_run_le (zl_dp T n base) (n - s) s
  have h2 := zl_run_ge (zl_dp T n base) (n - s) s
  unfold zl_dr
  omega
/-- settling a number -/
theorem zl_setN {g : zs_H} {T : Nat → Int32} {n b a e : Nat} {v : Option Nat} {z : Int64} {L : List (List Int32)} {c : List Int32} (H : zl_X g T n) (Ha : (g.1 68 7) = nI a) (Hb : (g.1 68 8) = nI e) (he : e ≤ n) (hbe : b ≤ e) (HL : zn_M g L) (hz : (v = none ∧ z = -1) ∨ ∃ x y, v = some x ∧ z = lN y ∧ y < 9223372036854775808 ∧ (x ≤ 2147483647 → y = x) ∧ (y ≤ 2147483647 → y = x)) : zw (f_Mo_settle g z) (zl_N n b L c g (zl_fin T n a v e)) := by
  have hn := H.2.1
  have hft : ∀ e2, zl_N n b L c g (9, a, e2, 4) (zl_ft g 4 a) := fun e2 => zl_ftN (w := 4) (fs := []) zfr_rfl (fun x q => absurd q (List.not_mem_nil)) HL Hb he hbe
  rcases hz with ⟨rfl, rfl⟩ | ⟨x, y, rfl, rfl, hy, h1, h2⟩
  · rw [zl_set1 Ha, zw_some]
    exact hft e
  · rw [zl_set2 H Ha Hb (by omega) hy, zw_some]
    unfold zl_fin
    by_cases c1 : y ≤ 2147483647 ∧ zl_pt T n e = false
    · have e1 := h2 c1.1
      subst e1
      rw [if_pos c1]
      show zl_N n b L c g (if _ then _ else _) _
      rw [if_pos c1]
      exact ⟨zfr_F (by decide) (zfr_F (by decide) zfr_rfl), fun q => absurd q (by simp), fun _ => ⟨rfl, rfl, Ha, Hb, rfl, fun q => absurd q (by simp), fun _ => ⟨HL, fun _ => rfl⟩⟩⟩
    · rw [if_neg c1]
      show zl_N n b L c g (if _ then _ else _) _
      rw [if_neg (fun q => c1 ⟨by rw [h1 q.1]; exact q.1, q.2⟩)]
      exact hft e
theorem zl_N_pre {n b : Nat} {L : List (List Int32)} {c : List Int32} {g g1 g' : zs_H} {t : zl_T} {fs : List (Nat × Nat)} (f : zfr fs [] [] g g1) (hf : ∀ x ∈ fs, x ∈ [(68, 6), (68, 7), (68, 8), (68, 9)]) (h : zl_N n b L c g1 t g') : zl_N n b L c g t g' := by
  have e1 : (g1.1 68 10) = (g.1 68 10) := f.1 _ _ (fun z => absurd (hf _ z) (by decide))
  have e2 : (g1.1 68 11) = (g.1 68 11) := f.1 _ _ (fun z => absurd (hf _ z) (by decide))
  obtain ⟨h1, h2, h3⟩ := h
  rw [e1, e2] at h2 h3
  exact ⟨zfr_trans (zfr_w f (fun x q => zl_sub x (hf x q)) (fun x q => absurd q (List.not_mem_nil)) (fun x q => q)) h1, h2, h3⟩
theorem zl_dr_le2 {T : Nat → Int32} {n base s : Nat} (hs : s ≤ n) : zl_dr T n base s ≤ n := by
  have h1 := zl_run_le (zl_dp T n base) (n - s) s
  unfold zl_dr
  omega
theorem zl_vlM {v : Nat} : ((v ≤ 2147483647 → min v zl_M = v) ∧ (min v zl_M ≤ 2147483647 → min v zl_M = v)) ∧ min v zl_M < 9223372036854775808 := by
  have hM : zl_M = 100000000000000000 := rfl
  refine ⟨⟨fun h => Nat.min_eq_left (by omega), fun h => ?_⟩, ?_⟩
  · by_cases c : v ≤ zl_M
    · exact Nat.min_eq_left c
    · rw [Nat.min_eq_right (by omega)] at h; omega
  · have := Nat.min_le_right v zl_M; omega
theorem zl_readNumber {g : zs_H} {T : Nat → Int32} {n b a : Nat} {L : List (List Int32)} {c : List Int32} (H : zl_X g T n) (Ha : (g.1 68 7) = nI a) (ha : a < n) (hb : b ≤ a) (hd : zl_dp T n 10 a = true) (HL : zn_M g L) : zw (f_Mo_readNumber g) (zl_N n b L c g (zl_nb T n a)) := by
  have hn := H.2.1
  have hr := zl_dr_le (T := T) (n := n) (base := 10) (s := a) (by omega)
  have hr0 := zl_dr_le2 (T := T) (n := n) (base := 10) (s := a) (by omega)
  have hr1 : a + 1 ≤ zl_dr T n 10 a := by
    unfold zl_dr
    rw [zl_run_1 _ _ _ hd ha]
    exact zl_run_ge _ _ _
  unfold f_Mo_readNumber
  rw [Ha, show (10 : Int32) = nI 10 from rfl, zl_digits H (by decide) (by decide) (by omega), zw_B, zw_some]
  dsimp only
  rw [show zl_vv (zl_vl T n 10 a (zl_dr T n 10 a - a)) (zl_dr T n 10 a - a) = lN (min (zl_vl T n 10 a (zl_dr T n 10 a - a)) zl_M) from if_neg (by omega)]
  have hv := zl_vlM (v := zl_vl T n 10 a (zl_dr T n 10 a - a))
  rw [zu_S, zl_byteOf (g := zs_uF g 68 8 (nI (zl_dr T n 10 a))) (n := n) H (by omega), zw_bind, zw_some]
  show zw (if zl_b T n (zl_dr T n 10 a) = 35 then _ else _) _
  unfold zl_nb
  generalize hK : zl_vl T n 10 a (zl_dr T n 10 a - a) = v at hv ⊢
  generalize hE : zl_dr T n 10 a = e1 at hr hr0 hr1 ⊢
  have hF : zfr [(68, 8)] [] [] g (zs_uF g 68 8 (nI e1)) := zfr_F (by decide) zfr_rfl
  by_cases c1 : zl_b T n e1 = 35
  · rw [if_pos c1, if_pos c1]
    have h16 : (lN (min v zl_M) = 16 ↔ v = 16) ∧ (lN (min v zl_M) = 2 ↔ v = 2) := by
      have hM : zl_M = 100000000000000000 := rfl
      have q1 := zj_eq (a := min v zl_M) (b := 16) hv.2 (by decide)
      have q2 := zj_eq (a := min v zl_M) (b := 2) hv.2 (by decide)
      exact ⟨q1.trans ⟨fun z => by have := hv.1.2 (by omega); omega, fun z => by rw [z]; decide⟩, q2.trans ⟨fun z => by have := hv.1.2 (by omega); omega, fun z => by rw [z]; decide⟩⟩
    by_cases c2 : v = 16 ∨ v = 2
    · have h40 : zw (f_Mo_readNumber_40 (zs_uF g 68 8 (nI e1)) (lN (min v zl_M))) (zl_N n b L c g (zl_fin T n a (if zl_dr T n v (e1 + 1) - (e1 + 1) = 0 then none else some (zl_vl T n v (e1 + 1) (zl_dr T n v (e1 + 1) - (e1 + 1)))) (zl_dr T n v (e1 + 1)))) := by
        have e0 : min v zl_M = v := Nat.min_eq_left (by have hM : zl_M = 100000000000000000 := rfl; omega)
        have he1 : e1 < n := Nat.lt_of_not_le fun q => by rw [zl_b_hi q] at c1; exact absurd c1 (by decide)
        have hr2 := zl_dr_le (T := T) (n := n) (base := v) (s := e1 + 1) (by omega)
        have hr3 := zl_dr_le2 (T := T) (n := n) (base := v) (s := e1 + 1) (by omega)
        unfold f_Mo_readNumber_40
        rw [e0, lN_i, zu_S, nI_1, zl_digits (g := zs_uF g 68 8 (nI e1)) (n := n) H (by omega) (by omega) (by omega), zw_B, zw_some]
        dsimp only
        unfold f_Mo_readNumber_58 f_Mo_readNumber_59
        rw [zw_bind, zu_c]
        refine zw_mono (zl_setN (n := n) (a := a) (e := zl_dr T n v (e1 + 1)) (v := if zl_dr T n v (e1 + 1) - (e1 + 1) = 0 then none else some (zl_vl T n v (e1 + 1) (zl_dr T n v (e1 + 1) - (e1 + 1)))) (L := L) (c := c) H Ha rfl (by omega) (by omega) HL ?_) fun g' q => zw_some.mpr (zl_N_pre (fs := [(68, 8)]) (zfr_F (by decide) zfr_rfl) (by decide) q)
        by_cases c3 : zl_dr T n v (e1 + 1) - (e1 + 1) = 0
        · exact Or.inl ⟨if_pos c3, if_pos c3⟩
        · have hv2 := zl_vlM (v := zl_vl T n v (e1 + 1) (zl_dr T n v (e1 + 1) - (e1 + 1)))
          exact Or.inr ⟨_, _, if_neg c3, if_neg c3, hv2.2, hv2.1.1, hv2.1.2⟩
      rw [if_pos c2]
      by_cases c3 : v = 16
      · rw [if_pos (h16.1.mpr c3)]; exact h40
      · rw [if_neg (mt h16.1.mp c3), if_pos (h16.2.mpr (c2.resolve_left c3))]; exact h40
    · rw [if_neg c2, if_neg (mt h16.1.mp (fun q => c2 (Or.inl q))), if_neg (mt h16.2.mp (fun q => c2 (Or.inr q)))]
      unfold f_Mo_readNumber_58 f_Mo_readNumber_59
      rw [zw_bind]
      exact zw_mono (zl_setN (n := n) (a := a) (e := e1) (v := none) (L := L) (c := c) H Ha rfl (by omega) (by omega) HL (Or.inl ⟨rfl, rfl⟩)) fun g' q => zw_some.mpr (zl_N_pre hF (by decide) q)
  · rw [if_neg c1, if_neg c1]
    unfold f_Mo_readNumber_59
    rw [zw_bind]
    exact zw_mono (zl_setN (n := n) (a := a) (e := e1) (v := some v) (L := L) (c := c) H Ha rfl (by omega) (by omega) HL (Or.inr ⟨_, _, rfl, rfl, hv.2, hv.1.1, hv.1.2⟩)) fun g' q => zw_some.mpr (zl_N_pre hF (by decide) q)
theorem zl_readTime {g : zs_H} {T : Nat → Int32} {n b a : Nat} {L : List (List Int32)} {c : List Int32} (H : zl_X g T n) (Ha : (g.1 68 7) = nI a) (ha : a + 1 < n) (hb : b ≤ a) (HL : zn_M g L) : zw (f_Mo_readTime g) (zl_N n b L c g (zl_tm T n a)) := by
  have hn := H.2.1
  have hr := zl_dr_le (T := T) (n := n) (base := 10) (s := a + 2) (by omega)
  have hr0 := zl_dr_le2 (T := T) (n := n) (base := 10) (s := a + 2) (by omega)
  unfold f_Mo_readTime zl_tm
  rw [Ha, show nI a + 2 = nI (a + 2) from nI_add a 2, show (10 : Int32) = nI 10 from rfl, zl_digits H (by decide) (by decide) (by omega), zw_B, zw_some]
  dsimp only
  generalize hK : zl_vl T n 10 (a + 2) (zl_dr T n 10 (a + 2) - (a + 2)) = v
  generalize hE : zl_dr T n 10 (a + 2) = e1 at hr hr0 ⊢
  rw [zu_S, zl_great (g := zs_uF g 68 8 (nI e1)) (n := n) H (by omega), zw_bind, zw_some]
  have hv := zl_vlM (v := v)
  have hM : zl_M = 100000000000000000 := rfl
  have h150 : ∀ (e : Nat) (w : Option Nat) (z : Int64), e ≤ n → b ≤ e → ((w = none ∧ z = -1) ∨ ∃ x y, w = some x ∧ z = lN y ∧ y < 9223372036854775808 ∧ (x ≤ 2147483647 → y = x) ∧ (y ≤ 2147483647 → y = x)) → zw (f_Mo_readTime_150 (zs_uF (zs_uF g 68 8 (nI e1)) 68 8 (nI e)) z) (zl_N n b L c g (zl_fin T n a w e)) := by
    intro e w z he hbe hz
    unfold f_Mo_readTime_150
    rw [zw_bind, zu_c]
    exact zw_mono (zl_setN (n := n) (a := a) (e := e) (v := w) (L := L) (c := c) (g := zs_uF g 68 8 (nI e)) H Ha rfl he hbe HL hz) fun g' q => zw_some.mpr (zl_N_pre (fs := [(68, 8)]) (zfr_F (by decide) zfr_rfl) (by decide) q)
  have h84 : ∀ u : Nat, u ≤ 3600000 → e1 + (if u = 1 then 2 else if u = 0 then 0 else 1) ≤ n → zw (f_Mo_readTime_84 (zs_uF g 68 8 (nI e1)) (zl_vv v (e1 - (a + 2))) (nI u)) (zl_N n b L c g (zl_fin T n a (if u = 0 ∨ e1 - (a + 2) = 0 then none else some (v * u)) (e1 + (if u = 1 then 2 else if u = 0 then 0 else 1)))) := by
    intro u hu hy
    have h111 : ∀ y0 : Nat, y0 ≤ 2 → e1 + y0 ≤ n → zw (f_Mo_readTime_111 (zs_uF g 68 8 (nI e1)) (zl_vv v (e1 - (a + 2))) (nI u) (nI y0) (nI e1)) (zl_N n b L c g (zl_fin T n a (if u = 0 ∨ e1 - (a + 2) = 0 then none else some (v * u)) (e1 + y0))) := by
      intro y0 hy0 hyn
      unfold f_Mo_readTime_111 f_Mo_readTime_127
      rw [nI_add]
      by_cases c1 : u = 0
      · rw [if_pos (by rw [c1]; rfl), if_pos (Or.inl c1)]
        exact h150 _ _ _ (by omega) (by omega) (Or.inl ⟨rfl, rfl⟩)
      · rw [if_neg (fun q => c1 ((zc_eq (k := 0) (by decide) (by omega)).mp q))]
        by_cases c2 : e1 - (a + 2) = 0
        · rw [show zl_vv v (e1 - (a + 2)) = -1 from if_pos c2, if_neg (by decide), if_pos (Or.inr c2)]
          exact h150 _ _ _ (by omega) (by omega) (Or.inl ⟨rfl, rfl⟩)
        · rw [show zl_vv v (e1 - (a + 2)) = lN (min v zl_M) from if_neg c2, if_pos (Int64.not_lt.mp (zj_nn hv.2)), if_neg (show ¬ (u = 0 ∨ e1 - (a + 2) = 0) from fun q => q.elim c1 c2)]
          by_cases c3 : min v zl_M ≤ 2147483647
          · have e0 := hv.1.2 c3
            rw [e0] at c3 ⊢
            rw [if_pos ((zj_el (k := 2147483647) (t := v) (by decide) (by omega)).mpr c3), nI_l (by omega), lN_mul]
            have h5 : v * u ≤ 2147483647 * 3600000 := Nat.mul_le_mul c3 hu
            exact h150 _ _ _ (by omega) (by omega) (Or.inr ⟨_, _, rfl, rfl, by omega, fun _ => rfl, fun _ => rfl⟩)
          · rw [if_neg (mt (zj_el (k := 2147483647) (t := min v zl_M) (by decide) hv.2).mp c3)]
            have h6 : v ≤ v * u := Nat.le_mul_of_pos_right _ (by omega)
            refine h150 _ _ _ (by omega) (by omega) (Or.inr ⟨_, _, rfl, rfl, hv.2, fun q => ?_, fun q => absurd q c3⟩)
            exact absurd (by rw [hv.1.1 (by omega)]; omega) c3
    unfold f_Mo_readTime_84
    rw [zu_S]
    by_cases c1 : u = 1
    · subst c1
      rw [if_pos rfl] at hy
      rw [if_pos (show nI 1 = 1 from rfl), if_pos rfl]; exact h111 2 (by decide) hy
    · rw [if_neg (fun q => c1 ((zc_eq (k := 1) (by decide) (by omega)).mp q)), if_neg c1]
      by_cases c2 : u = 0
      · subst c2
        rw [if_pos (by decide), if_pos rfl]; exact h111 0 (by decide) (by omega)
      · rw [if_neg c1, if_neg c2] at hy
        rw [if_neg (mt (zc_el (k := 0) (by decide) (by omega)).mp (by omega)), if_neg c2]; exact h111 1 (by decide) hy
  show zw (if zl_g T n e1 = 77 then _ else _) _
  have h47 : ¬ (zl_g T n e1 = 77 ∧ zl_g T n (e1 + 1) = 83) → zw (f_Mo_readTime_47 (zs_uF g 68 8 (nI e1)) (zl_vv v (e1 - (a + 2))) (zl_g T n e1)) (zl_N n b L c g (zl_fin T n a (if zl_un T n e1 = 0 ∨ e1 - (a + 2) = 0 then none else some (v * zl_un T n e1)) (e1 + (if zl_un T n e1 = 1 then 2 else if zl_un T n e1 = 0 then 0 else 1)))) := by
    intro q
    unfold f_Mo_readTime_47 zl_un
    rw [if_neg q]
    by_cases c1 : zl_g T n e1 = 83
    · rw [if_pos c1, if_pos c1]; exact h84 1000 (by decide) (by have := zl_g_lt (T := T) (n := n) (i := e1) (by rw [c1]; decide); show e1 + 1 ≤ n; omega)
    · rw [if_neg c1, if_neg c1]
      by_cases c2 : zl_g T n e1 = 77
      · rw [if_pos c2, if_pos c2]; exact h84 60000 (by decide) (by have := zl_g_lt (T := T) (n := n) (i := e1) (by rw [c2]; decide); show e1 + 1 ≤ n; omega)
      · rw [if_neg c2, if_neg c2]
        by_cases c3 : zl_g T n e1 = 72
        · rw [if_pos c3, if_pos c3]; exact h84 3600000 (by decide) (by have := zl_g_lt (T := T) (n := n) (i := e1) (by rw [c3]; decide); show e1 + 1 ≤ n; omega)
        · rw [if_neg c3, if_neg c3]; exact h84 0 (by decide) (by show e1 + 0 ≤ n; omega)
  by_cases c1 : zl_g T n e1 = 77
  · rw [if_pos c1, nI_1, zl_great (g := zs_uF g 68 8 (nI e1)) (n := n) H (by omega), zw_bind, zw_some]
    show zw (if zl_g T n (e1 + 1) = 83 then _ else _) _
    by_cases c2 : zl_g T n (e1 + 1) = 83
    · rw [if_pos c2, show zl_un T n e1 = 1 from if_pos ⟨c1, c2⟩]
      exact h84 1 (by decide) (by have := zl_g_lt (T := T) (n := n) (i := e1 + 1) (by rw [c2]; decide); show e1 + 2 ≤ n; omega)
    · rw [if_neg c2]; exact h47 (fun q => c2 q.2)
  · rw [if_neg c1]; exact h47 (fun q => c1 q.1)
/-- places -/
def zl_P : List Int32 := [73, 88, 81, 88, 77, 88, 73, 87, 81, 87, 77, 87]
def zl_wh (T : Nat → Int32) (n a : Nat) : Nat → Option Nat
  | 0 => none
  | k + 1 => if zl_g T n (a + 1) = zl_P.getD (2 * k) 0 ∧ zl_g T n (a + 2) = zl_P.getD (2 * k + 1) 0 then some k else zl_wh T n a k
def zl_pl (T : Nat → Int32) (n a : Nat) : zl_T := match zl_wh T n a 6 with
  | none => (9, a, a, 5)
  | some k => if zl_dr T n 10 (a + 3) - (a + 3) = 0 ∨ (if k < 3 then 255 else 63) < zl_vl T n 10 (a + 3) (zl_dr T n 10 (a + 3) - (a + 3)) ∨ zl_pt T n (zl_dr T n 10 (a + 3)) = true then (9, a, a, 5) else (4, a, zl_dr T n 10 (a + 3), 256 * k + zl_vl T n 10 (a + 3) (zl_dr T n 10 (a + 3) - (a + 3)))
def zl_wi (o : Option Nat) : Int32 := match o with
  | none => -1
  | some k => nI k
theorem zl_wh_lt {T : Nat → Int32} {n a : Nat} : ∀ m k, zl_wh T n a m = some k → k < m := by
  intro m
  induction m with
  | zero => intro k h; cases h
  | succ m ih =>
    intro k h
    unfold zl_wh at h
    split at h
    · cases h; omega
    · have := ih k h; omega
theorem zl_wh_a {T : Nat → Int32} {n a : Nat} : ∀ m k, zl_wh T n a m = some k → a + 2 < n := by
  intro m
  induction m with
  | zero => intro k h; cases h
  | succ m ih =>
    intro k h
    unfold zl_wh at h
    by_cases c : zl_g T n (a + 1) = zl_P.getD (2 * m) 0 ∧ zl_g T n (a + 2) = zl_P.getD (2 * m + 1) 0
    · refine zl_g_lt (T := T) fun q => ?_
      have key : ∀ m, ¬ (-1 : Int32) = zl_P.getD m 0 := by
        intro m
        by_cases hm : m < 12
        · have : ∀ m, m < 12 → ¬ (-1 : Int32) = zl_P.getD m 0 := by decide +kernel
          exact this m hm
        · rw [List.getD_eq_getElem?_getD, List.getElem?_eq_none (by show 12 ≤ m; omega)]; decide
      exact key _ (by rw [← q]; exact c.2)
    · rw [if_neg c] at h; exact ih k h
theorem zl_Pf : ∀ k, k < 6 → (ze_f 8 (2 * k) &&& 255) = zl_P.getD (2 * k) 0 ∧ (ze_f 8 (2 * k + 1) &&& 255) = zl_P.getD (2 * k + 1) 0 := by decide +kernel
theorem zl_pl4 {g : zs_H} {T : Nat → Int32} {n a : Nat} (H : zl_X g T n) (Ha : (g.1 68 7) = nI a) (ha : a < n) : ∀ m k fuel, 6 = k + m → m < fuel → f_Mo_readPlace_L4 fuel g (zl_wi (zl_wh T n a k)) (nI k) = f_Mo_readPlace_4 (fun _ _ _ => none) g (zl_wi (zl_wh T n a 6)) (nI 6) := by
  have hn := H.2.1
  intro m
  induction m with
  | zero =>
    intro k fuel h1 h2
    obtain ⟨f, rfl⟩ : ∃ f, fuel = f + 1 := ⟨fuel - 1, by omega⟩
    have ek : k = 6 := by omega
    subst ek
    show f_Mo_readPlace_4 (f_Mo_readPlace_L4 f) g _ (nI 6) = _
    unfold f_Mo_readPlace_4
    rw [if_pos (show (6 : Int32) ≤ nI 6 by decide), if_pos (show (6 : Int32) ≤ nI 6 by decide)]
  | succ m ih =>
    intro k fuel h1 h2
    obtain ⟨f, rfl⟩ : ∃ f, fuel = f + 1 := ⟨fuel - 1, by omega⟩
    have hk := zl_Pf k (by omega)
    rw [← ih (k + 1) f (by omega) (by omega)]
    show f_Mo_readPlace_4 (f_Mo_readPlace_L4 f) g _ (nI k) = _
    unfold f_Mo_readPlace_4
    rw [if_neg (mt (zc_le (k := 6) (by decide) (by omega)).mp (by omega)), Ha, nI_1, show nI a + 2 = nI (a + 2) from nI_add a 2, zl_great H (by omega), zl_great H (by omega), zc_ml, show nI (2 * k) + 1 = nI (2 * k + 1) from nI_1 _]
    simp only [Option.bind_some]
    rw [if_pos (zi_in (a := 2 * k) (by omega) (by omega)), if_pos (zi_in (a := 2 * k + 1) (by omega) (by omega)), nI_clamp (by omega), nI_clamp (by omega), hk.1, hk.2]
    unfold f_Mo_readPlace_61 f_Mo_readPlace_60
    unfold f_Mo_readPlace_61
    rw [nI_1]
    show (if _ then (if _ then _ else _) else _) = _
    rw [show zl_wh T n a (k + 1) = if zl_g T n (a + 1) = zl_P.getD (2 * k) 0 ∧ zl_g T n (a + 2) = zl_P.getD (2 * k + 1) 0 then some k else zl_wh T n a k from rfl]
    by_cases c1 : zl_g T n (a + 1) = zl_P.getD (2 * k) 0
    · rw [if_pos c1]
      by_cases c2 : zl_g T n (a + 2) = zl_P.getD (2 * k + 1) 0
      · rw [if_pos c2, if_pos ⟨c1, c2⟩]; rfl
      · rw [if_neg c2, if_neg (fun q => c2 q.2)]
    · rw [if_neg c1, if_neg (fun q => c1 q.1)]
theorem zl_readPlace {g : zs_H} {T : Nat → Int32} {n b a : Nat} {L : List (List Int32)} {c : List Int32} (H : zl_X g T n) (Ha : (g.1 68 7) = nI a) (Hb : (g.1 68 8) = nI b) (ha : a < n) (hb : b ≤ a) (HL : zn_M g L) : zw (f_Mo_readPlace g) (zl_N n b L c g (zl_pl T n a)) := by
  have hn := H.2.1
  have hr := zl_dr_le (T := T) (n := n) (base := 10) (s := a + 3) (by omega)
  have h4 := zl_pl4 H Ha ha 6 0 zF rfl (by have := zF_big; omega)
  have h4' : f_Mo_readPlace g = f_Mo_readPlace_4 (fun _ _ _ => none) g (zl_wi (zl_wh T n a 6)) (nI 6) := h4
  rw [h4']
  have hft : ∀ (g1 : zs_H) (b' : Nat), zfr [(68, 8)] [] [] g g1 → (g1.1 68 8) = nI b' → b' ≤ n → b ≤ b' → zw (f_Mo_readPlace_127 g1) (zl_N n b L c g (9, a, a, 5)) := by
    intro g1 b' fr q1 q2 q3
    unfold f_Mo_readPlace_127
    rw [zl_fail (g := g1) ((fr.1 _ _ (by decide)).trans Ha), zw_bind, zw_some, zw_some]
    exact zl_ftN (w := 5) fr (by decide) HL q1 q2 q3
  unfold f_Mo_readPlace_4 zl_pl
  rw [if_pos (by decide)]
  cases hw : zl_wh T n a 6 with
  | none =>
    show zw (if (0 : Int32) ≤ -1 then _ else _) _
    rw [if_neg (by decide)]
    unfold f_Mo_readPlace_90
    rw [if_pos (by decide)]
    exact hft g b zfr_rfl Hb (by omega) (by omega)
  | some k =>
    have hk := zl_wh_lt 6 k hw
    have ha2 : a + 2 < n := zl_wh_a 6 k hw
    have hr0 := zl_dr_le2 (T := T) (n := n) (base := 10) (s := a + 3) (by omega)
    show zw (if (0 : Int32) ≤ nI k then _ else _) _
    rw [if_pos (nI_pos' (by omega)), Ha, show nI a + 3 = nI (a + 3) from nI_add a 3, show (10 : Int32) = nI 10 from rfl, zl_digits H (by decide) (by decide) (by omega), zw_B, zw_some]
    dsimp only
    generalize hK : zl_vl T n 10 (a + 3) (zl_dr T n 10 (a + 3) - (a + 3)) = v
    generalize hE : zl_dr T n 10 (a + 3) = e1 at hr hr0 ⊢
    have hF : zfr [(68, 8)] [] [] g (zs_uF g 68 8 (nI e1)) := zfr_F (by decide) zfr_rfl
    have hM : zl_M = 100000000000000000 := rfl
    unfold f_Mo_readPlace_90
    by_cases c1 : e1 - (a + 3) = 0
    · rw [show zl_vv v (e1 - (a + 3)) = -1 from if_pos c1, if_pos (by decide), if_pos (Or.inl c1)]
      exact hft _ e1 hF rfl (by omega) (by omega)
    · have hv := zl_vlM (v := v)
      rw [show zl_vv v (e1 - (a + 3)) = lN (min v zl_M) from if_neg c1, if_neg (zj_nn hv.2)]
      have h112 : ∀ y : Nat, y ≤ 255 → zw (f_Mo_readPlace_112 (zs_uF g 68 8 (nI e1)) (nI k) (lN (min v zl_M)) (lN y) (lN (min v zl_M))) (zl_N n b L c g (if e1 - (a + 3) = 0 ∨ y < v ∨ zl_pt T n e1 = true then (9, a, a, 5) else (4, a, e1, 256 * k + v))) := by
        intro y hy
        unfold f_Mo_readPlace_112
        by_cases c2 : y < v
        · rw [if_pos ((zj_lt (by omega) hv.2).mpr (by have := Nat.lt_min (a := y) (b := v) (c := zl_M); omega)), if_pos (Or.inr (Or.inl c2))]
          exact hft _ e1 hF rfl (by omega) (by omega)
        · have e0 : min v zl_M = v := hv.1.1 (by omega)
          rw [e0, if_neg (mt (zj_lt (by omega) (by omega)).mp c2), zu_S, zl_goesOn (g := zs_uF g 68 8 (nI e1)) (n := n) H (by omega), zw_bind, zw_some]
          show zw (if f_Nm_isPart (zl_b T n e1) = 0 then _ else _) _
          by_cases c3 : f_Nm_isPart (zl_b T n e1) = 0
          · have c3' : ¬ zl_pt T n e1 = true := by unfold zl_pt; simpa using c3
            rw [if_pos c3, if_neg (fun q => q.elim c1 fun q => q.elim c2 c3'), zw_some, lN_i, zc_ml, nI_add]
            exact zl_N_pre hF (by decide) ⟨zfr_F (by decide) (zfr_F (by decide) zfr_rfl), fun q => absurd q (by simp), fun _ => ⟨rfl, rfl, Ha, rfl, rfl, fun q => absurd q (by simp), fun _ => ⟨HL, fun _ => rfl⟩⟩⟩
          · have c3' : zl_pt T n e1 = true := by unfold zl_pt; simpa using c3
            rw [if_neg c3, if_pos (Or.inr (Or.inr c3'))]
            exact hft _ e1 hF rfl (by omega) (by omega)
      rw [show zl_wi (some k) = nI k from rfl]
      by_cases c4 : k < 3
      · rw [if_neg (mt (zc_le (k := 3) (t := k) (by decide) (by omega)).mp (by omega))]
        have := h112 255 (by decide)
        rw [show (if k < 3 then 255 else 63) = 255 from if_pos c4]
        exact this
      · rw [if_pos ((zc_le (k := 3) (t := k) (by decide) (by omega)).mpr (by omega))]
        have := h112 63 (by decide)
        rw [show (if k < 3 then 255 else 63) = 63 from if_neg c4]
        exact this
end
