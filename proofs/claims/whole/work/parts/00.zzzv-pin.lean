/-! The judge: inputs and outputs of instances. -/
theorem zp_isT {g : zs_H} {LM : List (List Int32)} {k : Nat} {s : List Int32} (HM : zn_M g LM) (hk : k < LM.length) (hs : s.length ≤ 32) : zp_is g k s = true ↔ LM.getD k [] = s := by
  obtain ⟨a1, a2, a3⟩ := HM.2.2 k hk
  unfold zp_is
  rw [Bool.and_eq_true, decide_eq_true_eq, List.all_eq_true]
  constructor
  · intro ⟨z1, z2⟩
    have el : (LM.getD k []).length = s.length := by rw [a1] at z1; exact (nI_eq (by omega) (by omega)).mp z1
    refine zj_lext el fun i hi => ?_
    have := z2 i (List.mem_range.mpr (by omega))
    rw [decide_eq_true_eq, a3 i hi] at this
    exact this
  · intro e
    rw [e] at a1 a3
    exact ⟨a1, fun i hi => by rw [decide_eq_true_eq]; exact a3 i (List.mem_range.mp hi)⟩
def zp_ixN (c : Nat) : List Nat → Nat → Option Nat
  | [], _ => none
  | j :: l, n => if c = j then some n else zp_ixN c l (n + 1)
theorem zp_ixN0 {c : Nat} : ∀ (L : List Nat) (n : Nat), ¬ c ∈ L → zp_ixN c L n = none := by
  intro L
  induction L with
  | nil => intro n _; rfl
  | cons j l ih =>
    intro n h
    show (if c = j then some n else zp_ixN c l (n + 1)) = none
    rw [if_neg (fun e => h (by rw [e]; exact List.mem_cons_self)), ih _ (fun z => h (List.mem_cons_of_mem _ z))]
theorem zp_K1 : ∀ j, j < 75 → (zk_K.drop j).take 1 = [zk_K.getD j []] ∧ (zk_K.getD j []).length ≤ 32 := by decide +kernel
theorem zp_fld {LC : List (List Int32)} (hC : LC.Nodup) (hK : LC.take 75 = zk_K) {c j : Nat} (hc : c < LC.length) (hj : j < 75) : LC.getD c [] = zk_K.getD j [] ↔ c = j := by
  have h := (zj_std hC hK hc (W := [zk_K.getD j []]) (a := j) (n := 1) (zp_K1 j hj).1 (by omega) rfl).1
  rw [List.mem_singleton] at h
  rw [h]; omega
theorem zp_firstN {LC LM : List (List Int32)} {g : zs_H} {c kk : Nat} (hC : LC.Nodup) (hK : LC.take 75 = zk_K) (HM : zn_M g LM) (hc : c < LC.length) (hk : kk < LM.length) (e : LC.getD c [] = LM.getD kk []) : ∀ (L : List Nat) (n : Nat), (∀ j ∈ L, j < 75) → n + L.length < 1000 → zp_first g kk (L.map fun j => zk_K.getD j []) (nI n) = (match zp_ixN c L n with | none => -1 | some p => nI p) := by
  intro L
  induction L with
  | nil => intro n _ _; rfl
  | cons j l ih =>
    intro n h1 h2
    have hl : (j :: l).length = l.length + 1 := rfl
    have hj := h1 j List.mem_cons_self
    show (if zp_is g kk (zk_K.getD j []) = true then nI n else zp_first g kk (l.map fun j => zk_K.getD j []) (nI n + 1)) = (match (if c = j then some n else zp_ixN c l (n + 1)) with | none => -1 | some p => nI p)
    have ej : zp_is g kk (zk_K.getD j []) = true ↔ c = j := by rw [zp_isT HM hk (zp_K1 j hj).2, ← e]; exact zp_fld hC hK hc hj
    by_cases z : c = j
    · rw [if_pos (ej.mpr z), if_pos z]
    · rw [if_neg (mt ej.mp z), if_neg z, nI_1]
      exact ih (n + 1) (fun i hi => h1 i (List.mem_cons_of_mem _ hi)) (by omega)
def zp_rowN (B inp : Nat) : List Nat :=
  if inp = 0 then (if B < 3 then [62, 63] else if B < 5 then [62, 67] else if B < 7 then [62] else [72])
  else (if B < 3 then [60, 61] else if B = 3 then [64, 65, 66] else if B = 4 then [68, 69, 66] else if B < 7 then [70] else if B = 7 then [71, 65] else [73, 74])
def zp_h0 : zs_H := (fun _ _ => 0, fun _ _ => 0, fun _ _ => 0)
def zp_tN (v k : Nat) : Nat := (zj_t v k).toNatClampNeg
theorem zp_T1 : ∀ B, B < 9 → ∀ inp, inp < 2 → zp_row (nI (100000 + B)) (nI inp) = ((zp_rowN B inp).map fun j => zk_K.getD j []) ∧ (∀ j ∈ zp_rowN B inp, j < 75) ∧ (zp_rowN B inp).length < 4 := by decide +kernel
theorem zp_T2 : ∀ B, B < 9 → ∀ inp, inp < 2 → ∀ j ∈ zp_rowN B inp, ∃ v, v < 32 ∧ zj_sv B ≤ v ∧ v < zj_sv (B + 1) ∧ 60 + zp_tN v 1 = j := by decide +kernel
theorem zp_T3 : ∀ v, v < 32 → (60 + zj_t v 1 = nI (60 + zp_tN v 1)) ∧ zp_tN v 3 < 3 ∧ zj_t v 3 = nI (zp_tN v 3) ∧ zp_tN v 4 < 100 ∧ zj_t v 4 = nI (zp_tN v 4) ∧ zp_tN v 1 < 15 := by decide +kernel
def zp_chk (B inp v : Nat) : Bool := match zp_ixN (60 + zp_tN v 1) (zp_rowN B inp) 0 with
  | none => decide (¬ zj_t v 2 = (if inp = 0 then 2 else 1))
  | some p => decide (zj_t v 2 = (if inp = 0 then 2 else 1)) && decide (p < 3) && decide (f_Mo_pinType zp_h0 (nI (100000 + B)) (nI inp) (nI p) = some (zj_t v 3)) && decide (f_Mo_pinCell zp_h0 (nI (100000 + B)) (nI inp) (nI p) = some (zj_t v 4))
theorem zp_T40 : ∀ B, B < 9 → ∀ inp, inp < 2 → ∀ v, v < 32 → zj_sv B ≤ v → v < zj_sv (B + 1) → zp_chk B inp v = true := by decide +kernel
theorem zp_T4 {B inp v : Nat} (h1 : B < 9) (h2 : inp < 2) (h3 : v < 32) (h4 : zj_sv B ≤ v) (h5 : v < zj_sv (B + 1)) : (zj_t v 2 = (if inp = 0 then 2 else 1) → ∃ p, p < 3 ∧ zp_ixN (60 + zp_tN v 1) (zp_rowN B inp) 0 = some p ∧ f_Mo_pinType zp_h0 (nI (100000 + B)) (nI inp) (nI p) = some (zj_t v 3) ∧ f_Mo_pinCell zp_h0 (nI (100000 + B)) (nI inp) (nI p) = some (zj_t v 4)) ∧ (¬ zj_t v 2 = (if inp = 0 then 2 else 1) → zp_ixN (60 + zp_tN v 1) (zp_rowN B inp) 0 = none) := by
  have h := zp_T40 B h1 inp h2 v h3 h4 h5
  unfold zp_chk at h
  cases e : zp_ixN (60 + zp_tN v 1) (zp_rowN B inp) 0 with
  | none =>
    rw [e] at h
    have h' := of_decide_eq_true (p := ¬ zj_t v 2 = (if inp = 0 then 2 else 1)) h
    exact ⟨fun z => absurd z h', fun _ => rfl⟩
  | some p =>
    rw [e] at h
    simp only [Bool.and_eq_true, decide_eq_true_eq] at h
    exact ⟨fun _ => ⟨p, h.1.1.2, rfl, h.1.2, h.2⟩, fun z => absurd h.1.1.1 z⟩
theorem zp_T5 : ∀ B, B < 9 → zj_sv B ≤ zj_sv (B + 1) ∧ zj_sv (B + 1) ≤ 32 := by decide +kernel
theorem zp_pt {g : zs_H} {x y z : Int32} (h : 100000 ≤ x) : f_Mo_pinType g x y z = f_Mo_pinType zp_h0 x y z ∧ f_Mo_pinCell g x y z = f_Mo_pinCell zp_h0 x y z := by
  unfold f_Mo_pinType f_Mo_pinCell
  rw [if_pos h, if_pos h, if_pos h, if_pos h]
  exact ⟨rfl, rfl⟩
/-- variables that are no VAR are simple -/
def zv_si (n : Nat) (h : zs_H) : Prop := ∀ v, v < n → ((h.2.1 29) (32 + v) = 1 ∨ (h.2.1 29) (32 + v) = 2) → (h.2.1 30) (32 + v) = -1
/-- a variable of a block -/
def zi_B (F : Nat → Nat) (B cv : Nat) : Prop := if B < 9 then zj_sv B ≤ cv ∧ cv < zj_sv (B + 1) else 32 + F (B - 9) ≤ cv ∧ cv < 32 + F (B - 9 + 1)
/-- an input or an output of a block -/
theorem zv_pinE {LC LM : List (List Int32)} {nb nf c B inp : Nat} {F : Nat → Nat} {q w : Int32} {h g : zs_H} (I : zv_I LC LM nb nf (F nb) F q h g) (sm : zv_si (F nb) h) (hb : 0 < nb) (hc : c < 6000) (hw : zt_nr LC LM (nI c) w) (hB : B < 8 + nb) (hin : inp < 2) :
    (∃ cv p ty x, ((cv < 6000 ∧ zi_B F B cv) ∧ cv < 32 + F nb) ∧ f_Pl_variableOf h (nI B) (nI c) = some (nI cv) ∧ (h.2.1 29) cv = nI (if inp = 0 then 2 else 1) ∧ (h.2.1 31) cv = nI ty ∧ ty < 3 ∧ (h.2.1 32) cv = nI x ∧ x < 300000000 ∧ f_Mo_pin g (nI (if B < 9 then 100000 + B else B - 9)) (nI inp) w = some (nI p) ∧ p < 8400 ∧ f_Mo_pinType g (nI (if B < 9 then 100000 + B else B - 9)) (nI inp) (nI p) = some (nI ty) ∧ f_Mo_pinCell g (nI (if B < 9 then 100000 + B else B - 9)) (nI inp) (nI p) = some (nI x)) ∨
    ((f_Pl_variableOf h (nI B) (nI c) = some (-1) ∨ ∃ cv, cv < 6000 ∧ f_Pl_variableOf h (nI B) (nI c) = some (nI cv) ∧ ¬ (h.2.1 29) cv = nI (if inp = 0 then 2 else 1)) ∧ f_Mo_pin g (nI (if B < 9 then 100000 + B else B - 9)) (nI inp) w = some (-1)) := by
  obtain ⟨HS, HB, HN, HV, HC, HT, HJ, J1, J2⟩ := I
  have V3 : F nb ≤ 5900 := HB.2.1.2.2
  have B3 : nb ≤ 568 := HB.1.2.2
  have ni : (nI inp = 0) ↔ inp = 0 := zc_eq (k := 0) (by decide) (by omega)
  by_cases hB9 : B < 9
  · rw [if_pos hB9]
    have HS0 := HS
    obtain ⟨S1, S2, S3, S4, S5, S6⟩ := HS
    obtain ⟨c', kk, e1, e2, e3, e4, e5, e6⟩ := hw
    have ec : c = c' := (nI_eq (by omega) (by omega)).mp e1
    subst ec
    subst e2
    have hge : (100000 : Int32) ≤ nI (100000 + B) := (zc_le (k := 100000) (by decide) (by omega)).mpr (by omega)
    obtain ⟨t1, t2, t3⟩ := zp_T1 B hB9 inp hin
    have ep : f_Mo_pin g (nI (100000 + B)) (nI inp) (nI kk) = some (match zp_ixN c (zp_rowN B inp) 0 with | none => -1 | some p => nI p) := by
      unfold f_Mo_pin
      rw [if_pos hge, if_pos (zi_in (by omega) (by omega)), nI_clamp (by omega), t1]
      rw [← zp_firstN S1 S5 S6 e4 e5 e6 (zp_rowN B inp) 0 t2 (by omega)]
      rfl
    obtain ⟨ST1, ST2⟩ := HB.2.2.1
    obtain ⟨_, f1, f2, _⟩ := ST1 B hB9
    obtain ⟨r1, r2⟩ := zp_T5 B hB9
    have eV : f_Pl_variableOf h (nI B) (nI c) = f_Pl_variableOf_L7 h zF (nI B) (nI c) (nI (zj_sv B)) := by
      unfold f_Pl_variableOf
      rw [if_pos (zi_in (by omega) (by omega)), nI_clamp (by omega), f1]
    obtain ⟨sc1, sc2⟩ := zv_scanC (h := h) (b := B) (e := zj_sv (B + 1)) (w := nI c) (by omega) (by omega) f2 (zj_sv (B + 1) - zj_sv B) (zj_sv B) zF (by omega) (by have := zF_big; omega)
    rw [eV, ep]
    rcases zv_least (fun j => (h.2.1 28) j = nI c) (zj_sv B) (zj_sv (B + 1)) with z | ⟨v, y1, y2, y3, y4⟩
    · right
      refine ⟨.inl (sc1 z), ?_⟩
      rw [zp_ixN0]
      intro hm
      obtain ⟨v, v1, v2, v3, v4⟩ := zp_T2 B hB9 inp hin c hm
      exact z v v2 v3 (by rw [(ST2 v v1).1, (zp_T3 v v1).1, v4])
    · have hv : v < 32 := by omega
      obtain ⟨n1, n2, n3, n4, n5⟩ := ST2 v hv
      obtain ⟨o1, o2, o3, o4, o5, o6⟩ := zp_T3 v hv
      have ec : c = 60 + zp_tN v 1 := by
        rw [n1, o1] at y3
        exact ((nI_eq (by omega) (by omega)).mp y3).symm
      obtain ⟨k1, k2⟩ := zp_T4 hB9 hin hv y1 y2
      have e21 : (nI (if inp = 0 then 2 else 1) : Int32) = if inp = 0 then 2 else 1 := by split <;> rfl
      by_cases zs : zj_t v 2 = (if inp = 0 then 2 else 1)
      · left
        obtain ⟨p, p1, p2, p3, p4⟩ := k1 zs
        refine ⟨v, p, zp_tN v 3, zp_tN v 4, ⟨⟨by omega, by unfold zi_B; rw [if_pos hB9]; exact ⟨y1, y2⟩⟩, by omega⟩, sc2 v y1 y2 y3 y4, by rw [n2, zs, e21], by rw [n4, o3], o2, by rw [n5, o5], by omega, by rw [ec, p2], by omega, ?_, ?_⟩
        · rw [(zp_pt hge).1, p3, o3]
        · rw [(zp_pt hge).2, p4, o5]
      · right
        refine ⟨.inr ⟨v, by omega, sc2 v y1 y2 y3 y4, by rw [n2, e21]; exact zs⟩, ?_⟩
        rw [ec, k2 zs]
  · rw [if_neg hB9]
    obtain ⟨b, rfl⟩ : ∃ b, B = 9 + b := ⟨B - 9, by omega⟩
    rw [show 9 + b - 9 = b by omega]
    have hl : ¬ (100000 : Int32) ≤ nI b := mt (zc_le (k := 100000) (by decide) (by omega)).mp (by omega)
    have ho := zv_of HS HB HN (show b < nb by omega) hw
    unfold f_Mo_pin f_Mo_pinType f_Mo_pinCell
    simp only [hl, if_false]
    rcases ho with ⟨v, v1, v2, v3, v4, v5⟩ | ⟨z1, z2, _⟩
    · have hv : v < F nb := Nat.lt_of_lt_of_le v2 (HB.2.2.2.1 b (by omega)).2
      obtain ⟨s, s1, s2, s3⟩ := HV.1 v hv
      rw [v4, v5]
      simp only [Option.bind_some, (zv_neg (show v < 2147483648 by omega)).2, if_false, if_pos (zi_in (show v < 2147483648 by omega) (show v < 8400 by omega)), nI_clamp (show v < 2147483648 by omega), s3, ni]
      have es : ((nI (if s = 3 then 0 else s) : Int32) = if inp = 0 then 2 else 1) ↔ s = (if inp = 0 then 2 else 1) := by
        have a1 : s = 0 ∨ s = 1 ∨ s = 2 ∨ s = 3 := by omega
        have a2 : inp = 0 ∨ inp = 1 := by omega
        rcases a1 with e | e | e | e <;> subst e <;> rcases a2 with e | e <;> subst e <;> decide
      by_cases zs : s = (if inp = 0 then 2 else 1)
      · left
        have hs12 : (h.2.1 29) (32 + v) = 1 ∨ (h.2.1 29) (32 + v) = 2 := by
          rw [s2, zs]
          split
          · exact .inr rfl
          · exact .inl rfl
        have Q := HV.2.1 b v (by omega) v1 v2 hv
        have i1 := sm v hv hs12
        obtain ⟨ty, x, s', y, ⟨t1, t2⟩, ⟨x1, x2⟩, _, _, ⟨y1, _⟩, _, _, q8, _⟩ := Q
        have q8' : (g.2.1 93) v = nI ty := by
          rcases q8 with ⟨_, _, e, _⟩ | ⟨e, _⟩ | ⟨B, _, e, _⟩
          · exact e
          · rw [i1] at e; exact absurd e (by decide)
          · rw [i1] at e; exact absurd e.symm (zc_m1 (by omega))
        refine ⟨32 + v, v, ty, x, ⟨⟨by omega, by unfold zi_B; rw [if_neg hB9, show 9 + b - 9 = b by omega]; exact ⟨by omega, by omega⟩⟩, by omega⟩, rfl, by rw [s2, zs], t2, t1, x1, y1, by rw [if_pos (es.mpr zs)], by omega, ?_, ?_⟩
        · simp only [nI_clamp (show v < 2147483648 by omega), if_pos (zi_in (show v < 2147483648 by omega) (show v < 8400 by omega)), q8']
        · simp only [nI_clamp (show v < 2147483648 by omega), if_pos (zi_in (show v < 2147483648 by omega) (show v < 8400 by omega)), x2]
      · right
        refine ⟨.inr ⟨32 + v, by omega, rfl, fun z => zs ?_⟩, by rw [if_neg (mt es.mp zs)]⟩
        rw [s2] at z
        have : s = if inp = 0 then 2 else 1 := (nI_eq (by omega) (by split <;> omega)).mp z
        exact this
    · rw [z1, z2]
      exact .inr ⟨.inl rfl, rfl⟩
