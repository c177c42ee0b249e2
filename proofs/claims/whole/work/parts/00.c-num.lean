/-! Numbers, loops, what stays as it was. -/
theorem zi_nn {x : Int32} (h : ¬ x < 0) : nI x.toNatClampNeg = x := Int32.ofNat_toNatClampNeg x (Int32.not_lt.mp h)
theorem zi_sub {a b : Nat} (h : b ≤ a) : nI a - nI b = nI (a - b) := (Int32.ofNat_sub a b h).symm
theorem zi_mul (a b : Nat) : nI a * nI b = nI (a * b) := (Int32.ofNat_mul a b).symm
theorem zi_in {a n : Nat} (ha : a < 2147483648) (h : a < n) : zd_in (nI a) n := ⟨nI_pos ha, by rw [nI_clamp ha]; exact h⟩
theorem zi_inI {a n : Nat} (ha : a < 2147483648) : zd_in (nI a) n ↔ a < n := ⟨fun q => by have := q.2; rwa [nI_clamp ha] at this, zi_in ha⟩
/-- a number of the text of a row -/
theorem zc_n (k : Nat) : (OfNat.ofNat k : Int32) = nI k := rfl
theorem zc_le {k t : Nat} (hk : k < 2147483648) (ht : t < 2147483648) : (OfNat.ofNat k : Int32) ≤ nI t ↔ k ≤ t := nI_leI hk ht
theorem zc_lt {k t : Nat} (hk : k < 2147483648) (ht : t < 2147483648) : (OfNat.ofNat k : Int32) < nI t ↔ k < t := nI_ltI hk ht
theorem zc_el {k t : Nat} (hk : k < 2147483648) (ht : t < 2147483648) : nI t ≤ (OfNat.ofNat k : Int32) ↔ t ≤ k := nI_leI ht hk
theorem zc_tl {k t : Nat} (hk : k < 2147483648) (ht : t < 2147483648) : nI t < (OfNat.ofNat k : Int32) ↔ t < k := nI_ltI ht hk
theorem zc_eq {k t : Nat} (hk : k < 2147483648) (ht : t < 2147483648) : nI t = (OfNat.ofNat k : Int32) ↔ t = k := nI_eq ht hk
theorem zc_qe {k t : Nat} (hk : k < 2147483648) (ht : t < 2147483648) : (OfNat.ofNat k : Int32) = nI t ↔ k = t := nI_eq hk ht
theorem zc_ad (k t : Nat) : nI t + (OfNat.ofNat k : Int32) = nI (t + (OfNat.ofNat k : Nat)) := nI_add t k
theorem zc_da (k t : Nat) : (OfNat.ofNat k : Int32) + nI t = nI ((OfNat.ofNat k : Nat) + t) := nI_add k t
theorem zc_ml (k t : Nat) : (OfNat.ofNat k : Int32) * nI t = nI ((OfNat.ofNat k : Nat) * t) := zi_mul k t
theorem zc_sb {k t : Nat} (h : k ≤ t) : nI t - (OfNat.ofNat k : Int32) = nI (t - (OfNat.ofNat k : Nat)) := zi_sub h
theorem zc_m1 {t : Nat} (ht : t < 2147483648) : ¬ nI t = -1 := by
  intro q
  have h := nI_pos ht
  rw [q] at h
  exact h (by decide)
/-- of sums and differences that are none too great -/
theorem za_add {x y : Int32} (h1 : -2147483648 ≤ x.toInt + y.toInt) (h2 : x.toInt + y.toInt < 2147483648) : (x + y).toInt = x.toInt + y.toInt := by
  rw [Int32.toInt_add]; exact Int.bmod_eq_of_le (by omega) (by omega)
theorem za_sub {x y : Int32} (h1 : -2147483648 ≤ x.toInt - y.toInt) (h2 : x.toInt - y.toInt < 2147483648) : (x - y).toInt = x.toInt - y.toInt := by
  rw [Int32.toInt_sub]; exact Int.bmod_eq_of_le (by omega) (by omega)
theorem za_mul {x y : Int32} (h1 : -2147483648 ≤ x.toInt * y.toInt) (h2 : x.toInt * y.toInt < 2147483648) : (x * y).toInt = x.toInt * y.toInt := by
  rw [Int32.toInt_mul]; exact Int.bmod_eq_of_le (by omega) (by omega)
theorem za_in {x : Int32} {n : Nat} (h0 : 0 ≤ x.toInt) (h1 : x.toInt < (n : Int)) : zd_in x n := by
  refine ⟨fun q => ?_, ?_⟩
  · have := Int32.lt_iff_toInt_lt.mp q
    have e : (0 : Int32).toInt = 0 := rfl
    omega
  · show x.toInt.toNat < n
    omega
/-- a loop's turns -/
theorem zd_s {α : Type} {F : α → α} {b : α} {n : Nat} : zd_it F b (n + 1) = F (zd_it F b n) := rfl
theorem zF_9 : zF = 18446744073709551607 + 9 := rfl
theorem zF_big : 4294967296 < zF := by decide
/-- what a run leaves as it was -/
def zfr (fs : List (Nat × Nat)) (ms ls : List Nat) (h g : zs_H) : Prop := (∀ a b, (a, b) ∉ fs → g.1 a b = h.1 a b) ∧ (∀ a, a ∉ ms → g.2.1 a = h.2.1 a) ∧ (∀ a, a ∉ ls → g.2.2 a = h.2.2 a)
theorem zfr_rfl {fs : List (Nat × Nat)} {ms ls : List Nat} {h : zs_H} : zfr fs ms ls h h := ⟨fun _ _ _ => rfl, fun _ _ => rfl, fun _ _ => rfl⟩
theorem zfr_trans {fs : List (Nat × Nat)} {ms ls : List Nat} {h g k : zs_H} (a : zfr fs ms ls h g) (b : zfr fs ms ls g k) : zfr fs ms ls h k :=
  ⟨fun x y q => (b.1 x y q).trans (a.1 x y q), fun x q => (b.2.1 x q).trans (a.2.1 x q), fun x q => (b.2.2 x q).trans (a.2.2 x q)⟩
theorem zfr_F {fs : List (Nat × Nat)} {ms ls : List Nat} {h g : zs_H} {k j : Nat} {v : Int32} (m : (k, j) ∈ fs) (a : zfr fs ms ls h g) : zfr fs ms ls h (zs_uF g k j v) := by
  refine ⟨fun x y q => ?_, a.2.1, a.2.2⟩
  show (if x = k ∧ y = j then v else g.1 x y) = _
  rw [if_neg (by rintro ⟨rfl, rfl⟩; exact q m)]
  exact a.1 x y q
theorem zfr_M {fs : List (Nat × Nat)} {ms ls : List Nat} {h g : zs_H} {k j : Nat} {v : Int32} (m : k ∈ ms) (a : zfr fs ms ls h g) : zfr fs ms ls h (zs_uM g k j v) := by
  refine ⟨a.1, fun x q => ?_, a.2.2⟩
  funext y
  show (if x = k ∧ y = j then v else g.2.1 x y) = _
  rw [if_neg (by rintro ⟨rfl, rfl⟩; exact q m)]
  exact congrFun (a.2.1 x q) y
theorem zfr_L {fs : List (Nat × Nat)} {ms ls : List Nat} {h g : zs_H} {k j : Nat} {v : Int64} (m : k ∈ ls) (a : zfr fs ms ls h g) : zfr fs ms ls h (zs_uL g k j v) := by
  refine ⟨a.1, a.2.1, fun x q => ?_⟩
  funext y
  show (if x = k ∧ y = j then v else g.2.2 x y) = _
  rw [if_neg (by rintro ⟨rfl, rfl⟩; exact q m)]
  exact congrFun (a.2.2 x q) y
theorem zfr_w {fs fs' : List (Nat × Nat)} {ms ms' ls ls' : List Nat} {h g : zs_H} (a : zfr fs ms ls h g) (h1 : ∀ x ∈ fs, x ∈ fs') (h2 : ∀ x ∈ ms, x ∈ ms') (h3 : ∀ x ∈ ls, x ∈ ls') : zfr fs' ms' ls' h g :=
  ⟨fun x y q => a.1 x y (fun z => q (h1 _ z)), fun x q => a.2.1 x (fun z => q (h2 _ z)), fun x q => a.2.2 x (fun z => q (h3 _ z))⟩
/-- reading behind a change -/
theorem zu_FF {h : zs_H} {k j a b : Nat} {v : Int32} : (zs_uF h k j v).1 a b = if a = k ∧ b = j then v else h.1 a b := rfl
theorem zu_S {h : zs_H} {k j : Nat} {v : Int32} : (zs_uF h k j v).1 k j = v := if_pos ⟨rfl, rfl⟩
theorem zu_FM {h : zs_H} {k j a : Nat} {v : Int32} : (zs_uF h k j v).2.1 a = h.2.1 a := rfl
theorem zu_FL {h : zs_H} {k j a : Nat} {v : Int32} : (zs_uF h k j v).2.2 a = h.2.2 a := rfl
theorem zu_MF {h : zs_H} {k j a : Nat} {v : Int32} : (zs_uM h k j v).1 a = h.1 a := rfl
theorem zu_MM {h : zs_H} {k j a b : Nat} {v : Int32} : (zs_uM h k j v).2.1 a b = if a = k ∧ b = j then v else h.2.1 a b := rfl
theorem zu_ML {h : zs_H} {k j a : Nat} {v : Int32} : (zs_uM h k j v).2.2 a = h.2.2 a := rfl
theorem zu_LF {h : zs_H} {k j a : Nat} {v : Int64} : (zs_uL h k j v).1 a = h.1 a := rfl
theorem zu_LM {h : zs_H} {k j a : Nat} {v : Int64} : (zs_uL h k j v).2.1 a = h.2.1 a := rfl
theorem zu_LL {h : zs_H} {k j a b : Nat} {v : Int64} : (zs_uL h k j v).2.2 a b = if a = k ∧ b = j then v else h.2.2 a b := rfl
/-- a run that ends, and what holds then -/
def zw {α : Type} (o : Option α) (Q : α → Prop) : Prop := ∃ a, o = some a ∧ Q a
theorem zw_some {α : Type} {a : α} {Q : α → Prop} : zw (some a) Q ↔ Q a := ⟨fun ⟨_, e, q⟩ => (by cases e; exact q), fun q => ⟨a, rfl, q⟩⟩
theorem zw_none {α : Type} {Q : α → Prop} : zw none Q ↔ False := ⟨fun ⟨_, e, _⟩ => (by cases e), fun q => False.elim q⟩
theorem zw_bind {α β : Type} {o : Option α} {K : α → Option β} {Q : β → Prop} : zw (o.bind K) Q ↔ zw o (fun a => zw (K a) Q) := by
  constructor
  · rintro ⟨b, e, q⟩
    obtain ⟨a, e1, e2⟩ := zd_b e
    exact ⟨a, e1, b, e2, q⟩
  · rintro ⟨a, rfl, b, e, q⟩
    exact ⟨b, e, q⟩
theorem zw_B {α β : Type} {o : Option (α × zs_H)} {K : α → zs_H → Option β} {Q : β → Prop} : zw (zd_B o K) Q ↔ zw o (fun p => zw (K p.1 p.2) Q) := by
  constructor
  · rintro ⟨b, e, q⟩
    obtain ⟨a, h, e1, e2⟩ := zd_Be e
    exact ⟨(a, h), e1, b, e2, q⟩
  · rintro ⟨⟨a, h⟩, rfl, b, e, q⟩
    exact ⟨b, e, q⟩
theorem zw_ite {α : Type} {c : Prop} [Decidable c] {A B : Option α} {Q : α → Prop} : zw (if c then A else B) Q ↔ (c → zw A Q) ∧ (¬ c → zw B Q) := by
  by_cases h : c
  · rw [if_pos h]; exact ⟨fun q => ⟨fun _ => q, fun z => absurd h z⟩, fun q => q.1 h⟩
  · rw [if_neg h]; exact ⟨fun q => ⟨fun z => absurd z h, fun _ => q⟩, fun q => q.2 h⟩
theorem zw_mono {α : Type} {o : Option α} {P Q : α → Prop} (a : zw o P) (b : ∀ x, P x → Q x) : zw o Q := by obtain ⟨x, e, q⟩ := a; exact ⟨x, e, b x q⟩
theorem zw_mono' {α : Type} {o : Option α} {P Q : α → Prop} (b : ∀ x, P x → Q x) (a : zw o P) : zw o Q := zw_mono a b
