section
/-! The judge: inputs and outputs of instances. -/
theorem zp_isT {g : zs_H} {LM : List (List Int32)} {k : Nat} {s : List Int32} (HM : zn_M g LM) (hk : k < LM.length) (hs : s.length ≤ 32) : zp_is g k s = true ↔ LM.getD k [] = s := by
  obtain ⟨a1, a2, a3⟩ := HM.2.2 k hk
  unfold zp_is
  rw [Bool.and_eq_true, decide_eq_true_eq, List.all_eq_true]
  constructor
  · intro ⟨z1, z2⟩
    have el : (LM.getD k []).length = s.length := by rw [a1] at z1; exact (nI_eq (by omega) (by omega)).mp z1
    refine zj_lext el fun i hi => ?_
    have := z2 i (List.mem_range.mpr (by omega))
    rw [decide_eq_true_eq, a3 i hi] at this
    exact this
  · intro e
    rw [e] at a1 a3
    exact ⟨a1, fun i hi => by rw [decide_eq_true_eq]; exact a3 i (List.mem_range.mp hi)⟩
def zp_ixN (c : Nat) : List Nat → Nat → Option Nat
  | [], _ => none
  | j :: l, n => if c = j then some n else zp_ixN c l (n + 1)
theorem zp_ixN0 {c : Nat} : ∀ (L : List Nat) (n : Nat), ¬ c ∈ L → zp_ixN c L n = none := by
  intro L
  induction L with
  | nil => intro n _; rfl
  | cons j l ih =>
    intro n h
    show (if c = j then some n else zp_ixN c l (n + 1)) = none
    rw [if_neg (fun e => h (by rw [e]; exact List.mem_cons_self)), ih _ (fun z => h (List.mem_cons_of_mem _ z))]
theorem zp_K1 : ∀ j, j < 75 → (zk_K.drop j).take 1 = [zk_K.getD j []] ∧ (zk_K.getD j []).length ≤ 32 := by decide +kernel
theorem zp_fld {LC : List (List Int32)} (hC : LC.Nodup) (hK : LC.take 75 = zk_K) {c j : Nat} (hc : c < LC.length) (hj : j < 75) : LC.getD c [] = zk_K.getD j [] ↔ c = j := by
  have h := (zj_std hC hK hc (W := [zk_K.getD j []]) (a := j) (n := 1) (zp_K1 j hj).1 (by omega) rfl).1
  rw [List.mem_singleton] at h
  rw [h]; omega
theorem zp_firstN {LC LM : List (List Int32)} {g : zs_H} {c kk : Nat} (hC : LC.Nodup) (hK : LC.take 75 = zk_K) (HM : zn_M g LM) (hc : c < LC.length) (hk : kk < LM.length) (e : LC.getD c [] = LM.getD kk []) : ∀ (L : List Nat) (n : Nat), (∀ j ∈ L, j < 75) → n + L.length < 1000 → zp_first g kk (L.map fun j => zk_K.getD j []) (nI n) = (match zp_ixN c L n with | none => -1 | some p => nI p) := by
  intro L
  induction L with
  | nil => intro n _ _; rfl
  | cons j l ih =>
    intro n h1 h2
    have hl : (j :: l).length = l.length + 1 := rfl
    have hj := h1 j List.mem_cons_self
    show (if zp_is g kk (zk_K.getD j []) = true then nI n else zp_first g kk (l.map fun j => zk_K.getD j []) (nI n + 1)) = (match (if c = j then some n else zp_ixN c l (n + 1)) with | none => -1 | some p => nI p)
    have ej : zp_is g kk (zk_K.getD j []) = true ↔ c = j := by rw [zp_isT HM hk (zp_K1 j hj).2, ← e]; exact zp_fld hC hK hc hj
    by_cases z : c = j
    · rw [if_pos (ej.mpr z), if_pos z]
    · rw [if_neg (mt ej.mp z), if_neg z, nI_1]
      exact ih (n + 1) (fun i hi => h1 i (List.mem_cons_of_mem _ hi)) (by omega)
def zp_rowN (B inp : Nat) : List Nat :=
  if inp = 0 then (if B < 3 then [62, 63] else if B < 5 then [62, 67] else if B < 7 then [62] else [72])
  else (if B < 3 then [60, 61] else if B = 3 then [64, 65, 66] else if B = 4 then [68, 69, 66] else if B < 7 then [70] else if B = 7 then [71, 65] else [73, 74])
def zp_h0 : zs_H := (fun _ _ => 0, fun _ _ => 0, fun _ _ => 0)
def zp_tN (v k : Nat) : Nat := (zj_t v k).toNatClampNeg
theorem zp_T1 : ∀ B, B < 9 → ∀ inp, inp < 2 → zp_row (nI (100000 + B)) (nI inp) = ((zp_rowN B inp).map fun j => zk_K.getD j []) ∧ (∀ j ∈ zp_rowN B inp, j < 75) ∧ (zp_rowN B inp).length < 4 := by decide +kernel
theorem zp_T2 : ∀ B, B < 9 → ∀ inp, inp < 2 → ∀ j ∈ zp_rowN B inp, ∃ v, v < 32 ∧ zj_sv B ≤ v ∧ v < zj_sv (B + 1) ∧ 60 + zp_tN v 1 = j := by decide +kernel
theorem zp_T3 : ∀ v, v < 32 → (60 + zj_t v 1 = nI (60 + zp_tN v 1)) ∧ zp_tN v 3 < 3 ∧ zj_t v 3 = nI (zp_tN v 3) ∧ zp_tN v 4 < 100 ∧ zj_t v 4 = nI (zp_tN v 4) ∧ zp_tN v 1 < 15 := by decide +kernel
def zp_chk (B inp v : Nat) : Bool := match zp_ixN (60 + zp_tN v 1) (zp_rowN B inp) 0 with
  | none => decide (¬ zj_t v 2 = (if inp = 0 then 2 else 1))
  | some p => decide (zj_t v 2 = (if inp = 0 then 2 else 1)) && decide (p < 3) && decide (f_Mo_pinType zp_h0 (nI (100000 + B)) (nI inp) (nI p) = some (zj_t v 3)) && decide (f_Mo_pinCell zp_h0 (nI (100000 + B)) (nI inp) (nI p) = some (zj_t v 4))
theorem zp_T40 : ∀ B, B < 9 → ∀ inp, inp < 2 → ∀ v, v < 32 → zj_sv B ≤ v → v < zj_sv (B + 1) → zp_chk B inp v = true := by decide +kernel
theorem zp_T4 {B inp v : Nat} (h1 : B < 9) (h2 : inp < 2) (h3 : v < 32) (h4 : zj_sv B ≤ v) (h5 : v < zj_sv (B + 1)) : (zj_t v 2 = (if inp = 0 then 2 else 1) → ∃ p, p < 3 ∧ zp_ixN (60 + zp_tN v 1) (zp_rowN B inp) 0 = some p ∧ f_Mo_pinType zp_h0 (nI (100000 + B)) (nI inp) (nI p) = some (zj_t v 3) ∧ f_Mo_pinCell zp_h0 (nI (100000 + B)) (nI inp) (nI p) = some (zj_t v 4)) ∧ (¬ zj_t v 2 = (if inp = 0 then 2 else 1) → zp_ixN (60 + zp_tN v 1) (zp_rowN B inp) 0 = none) := by
  have h := zp_T40 B h1 inp h2 v h3 h4 h5
  unfold zp_chk at h
  cases e : zp_ixN (60 + zp_tN v 1) (zp_rowN B inp) 0 with
  | none =>
    rw [e] at h
    have h' := of_decide_eq_true (p := ¬ zj_t v 2 = (if inp = 0 then 2 else 1)) h
    exact ⟨fun z => absurd z h', fun _ => rfl⟩
  | some p =>
    rw [e] at h
    simp only [Bool.and_eq_true, decide_eq_true_eq] at h
    exact ⟨fun _ => ⟨p, h.1.1.2, rfl, h.1.2, h.2⟩, fun z => absurd h.1.1.1 z⟩
theorem zp_T5 : ∀ B, B < 9 → zj_sv B ≤ zj_sv (B + 1) ∧ zj_sv (B + 1) ≤ 32 := by decide +kernel
theorem zp_pt {g : zs_H} {x y z : Int32} (h : 100000 ≤ x) : f_Mo_pinType g x y z = f_Mo_pinType zp_h0 x y z ∧ f_Mo_pinCell g x y z = f_Mo_pinCell zp_h0 x y z := by
  unfold f_Mo_pinType f_Mo_pinCell
  rw [if_pos h, if_pos h, if_pos h, if_pos h]
  exact ⟨rfl, rfl⟩
/-- variables that are no VAR are simple -/
def zv_si (n : Nat) (h : zs_H) : Prop := ∀ v, v < n → ((h.2.1 29) (32 + v) = 1 ∨ (h.2.1 29) (32 + v) = 2) → (h.2.1 30) (32 + v) = -1
/-- a variable of a block -/
def zi_B (F : Nat → Nat) (B cv : Nat) : Prop := if B < 9 then zj_sv B ≤ cv ∧ cv < zj_sv (B + 1) else 32 + F (B - 9) ≤ cv ∧ cv < 32 + F (B - 9 + 1)
/-- an input or an output of a block -/
theorem zv_pinE {LC LM : List (List Int32)} {nb nf c B inp : Nat} {F : Nat → Nat} {q w : Int32} {h g : zs_H} (I : zv_I LC LM nb nf (F nb) F q h g) (sm : zv_si (F nb) h) (hb : 0 < nb) (hc : c < 6000) (hw : zt_nr LC LM (nI c) w) (hB : B < 8 + nb) (hin : inp < 2) :
    (∃ cv p ty x, ((cv < 6000 ∧ zi_B F B cv) ∧ cv < 32 + F nb) ∧ f_Pl_variableOf h (nI B) (nI c) = some (nI cv) ∧ (h.2.1 29) cv = nI (if inp = 0 then 2 else 1) ∧ (h.2.1 31) cv = nI ty ∧ ty < 3 ∧ (h.2.1 32) cv = nI x ∧ x < 300000000 ∧ f_Mo_pin g (nI (if B < 9 then 100000 + B else B - 9)) (nI inp) w = some (nI p) ∧ p < 8400 ∧ f_Mo_pinType g (nI (if B < 9 then 100000 + B else B - 9)) (nI inp) (nI p) = some (nI ty) ∧ f_Mo_pinCell g (nI (if B < 9 then 100000 + B else B - 9)) (nI inp) (nI p) = some (nI x)) ∨
    ((f_Pl_variableOf h (nI B) (nI c) = some (-1) ∨ ∃ cv, cv < 6000 ∧ f_Pl_variableOf h (nI B) (nI c) = some (nI cv) ∧ ¬ (h.2.1 29) cv = nI (if inp = 0 then 2 else 1)) ∧ f_Mo_pin g (nI (if B < 9 then 100000 + B else B - 9)) (nI inp) w = some (-1)) := by
  obtain ⟨HS, HB, HN, HV, HC, HT, HJ, J1, J2⟩ := I
  have V3 : F nb ≤ 5900 := HB.2.1.2.2
  have B3 : nb ≤ 568 := HB.1.2.2
  have ni : (nI inp = 0) ↔ inp = 0 := zc_eq (k := 0) (by decide) (by omega)
  by_cases hB9 : B < 9
  · rw [if_pos hB9]
    have HS0 := HS
    obtain ⟨S1, S2, S3, S4, S5, S6⟩ := HS
    obtain ⟨c', kk, e1, e2, e3, e4, e5, e6⟩ := hw
    have ec : c = c' := (nI_eq (by omega) (by omega)).mp e1
    subst ec
    subst e2
    have hge : (100000 : Int32) ≤ nI (100000 + B) := (zc_le (k := 100000) (by decide) (by omega)).mpr (by omega)
    obtain ⟨t1, t2, t3⟩ := zp_T1 B hB9 inp hin
    have ep : f_Mo_pin g (nI (100000 + B)) (nI inp) (nI kk) = some (match zp_ixN c (zp_rowN B inp) 0 with | none => -1 | some p => nI p) := by
      unfold f_Mo_pin
      rw [if_pos hge, if_pos (zi_in (by omega) (by omega)), nI_clamp (by omega), t1]
      rw [← zp_firstN S1 S5 S6 e4 e5 e6 (zp_rowN B inp) 0 t2 (by omega)]
      rfl
    obtain ⟨ST1, ST2⟩ := HB.2.2.1
    obtain ⟨_, f1, f2, _⟩ := ST1 B hB9
    obtain ⟨r1, r2⟩ := zp_T5 B hB9
    have eV : f_Pl_variableOf h (nI B) (nI c) = f_Pl_variableOf_L7 h zF (nI B) (nI c) (nI (zj_sv B)) := by
      unfold f_Pl_variableOf
      rw [if_pos (zi_in (by omega) (by omega)), nI_clamp (by omega), f1]
    obtain ⟨sc1, sc2⟩ := zv_scanC (h := h) (b := B) (e := zj_sv (B + 1)) (w := nI c) (by omega) (by omega) f2 (zj_sv (B + 1) - zj_sv B) (zj_sv B) zF (by omega) (by have := zF_big; omega)
    rw [eV, ep]
    rcases zv_least (fun j => (h.2.1 28) j = nI c) (zj_sv B) (zj_sv (B + 1)) with z | ⟨v, y1, y2, y3, y4⟩
    · right
      refine ⟨.inl (sc1 z), ?_⟩
      rw [zp_ixN0]
      intro hm
      obtain ⟨v, v1, v2, v3, v4⟩ := zp_T2 B hB9 inp hin c hm
      exact z v v2 v3 (by rw [(ST2 v v1).1, (zp_T3 v v1).1, v4])
    · have hv : v < 32 := by omega
      obtain ⟨n1, n2, n3, n4, n5⟩ := ST2 v hv
      obtain ⟨o1, o2, o3, o4, o5, o6⟩ := zp_T3 v hv
      have ec : c = 60 + zp_tN v 1 := by
        rw [n1, o1] at y3
        exact ((nI_eq (by omega) (by omega)).mp y3).symm
      obtain ⟨k1, k2⟩ := zp_T4 hB9 hin hv y1 y2
      have e21 : (nI (if inp = 0 then 2 else 1) : Int32) = if inp = 0 then 2 else 1 := by split <;> rfl
      by_cases zs : zj_t v 2 = (if inp = 0 then 2 else 1)
      · left
        obtain ⟨p, p1, p2, p3, p4⟩ := k1 zs
        refine ⟨v, p, zp_tN v 3, zp_tN v 4, ⟨⟨by omega, by unfold zi_B; rw [if_pos hB9]; exact ⟨y1, y2⟩⟩, by omega⟩, sc2 v y1 y2 y3 y4, by rw [n2, zs, e21], by rw [n4, o3], o2, by rw [n5, o5], by omega, by rw [ec, p2], by omega, ?_, ?_⟩
        · rw [(zp_pt hge).1, p3, o3]
        · rw [(zp_pt hge).2, p4, o5]
      · right
        refine ⟨.inr ⟨v, by omega, sc2 v y1 y2 y3 y4, by rw [n2, e21]; exact zs⟩, ?_⟩
        rw [ec, k2 zs]
  · rw [if_neg hB9]
    obtain ⟨b, rfl⟩ : ∃ b, B = 9 + b := ⟨B - 9, by omega⟩
    rw [show 9 + b - 9 = b by omega]
    have hl : ¬ (100000 : Int32) ≤ nI b := mt (zc_le (k := 100000) (by decide) (by omega)).mp (by omega)
    have ho := zv_of HS HB HN (show b < nb by omega) hw
    unfold f_Mo_pin f_Mo_pinType f_Mo_pinCell
    simp only [hl, if_false]
    rcases ho with ⟨v, v1, v2, v3, v4, v5⟩ | ⟨z1, z2, _⟩
    · have hv : v < F nb := Nat.lt_of_lt_of_le v2 (HB.2.2.2.1 b (by omega)).2
      obtain ⟨s, s1, s2, s3⟩ := HV.1 v hv
      rw [v4, v5]
      simp only [Option.bind_some, (zv_neg (show v < 2147483648 by omega)).2, if_false, if_pos (zi_in (show v < 2147483648 by omega) (show v < 8400 by omega)), nI_clamp (show v < 2147483648 by omega), s3, ni]
      have es : ((nI (if s = 3 then 0 else s) : Int32) = if inp = 0 then 2 else 1) ↔ s = (if inp = 0 then 2 else 1) := by
        have a1 : s = 0 ∨ s = 1 ∨ s = 2 ∨ s = 3 := by omega
        have a2 : inp = 0 ∨ inp = 1 := by omega
        rcases a1 with e | e | e | e <;> subst e <;> rcases a2 with e | e <;> subst e <;> decide
      by_cases zs : s = (if inp = 0 then 2 else 1)
      · left
        have hs12 : (h.2.1 29) (32 + v) = 1 ∨ (h.2.1 29) (32 + v) = 2 := by
          rw [s2, zs]
          split
          · exact .inr rfl
          · exact .inl rfl
        have Q := HV.2.1 b v (by omega) v1 v2 hv
        have i1 := sm v hv hs12
        obtain ⟨ty, x, s', y, ⟨t1, t2⟩, ⟨x1, x2⟩, _, _, ⟨y1, _⟩, _, _, q8, _⟩ := Q
        have q8' : (g.2.1 93) v = nI ty := by
          rcases q8 with ⟨_, _, e, _⟩ | ⟨e, _⟩ | ⟨B, _, e, _⟩
          · exact e
          · rw [i1] at e; exact absurd e (by decide)
          · rw [i1] at e; exact absurd e.symm (zc_m1 (by omega))
        refine ⟨32 + v, v, ty, x, ⟨⟨by omega, by unfold zi_B; rw [if_neg hB9, show 9 + b - 9 = b by omega]; exact ⟨by omega, by omega⟩⟩, by omega⟩, rfl, by rw [s2, zs], t2, t1, x1, y1, by rw [if_pos (es.mpr zs)], by omega, ?_, ?_⟩
        · simp only [nI_clamp (show v < 2147483648 by omega), if_pos (zi_in (show v < 2147483648 by omega) (show v < 8400 by omega)), q8']
        · simp only [nI_clamp (show v < 2147483648 by omega), if_pos (zi_in (show v < 2147483648 by omega) (show v < 8400 by omega)), x2]
      · right
        refine ⟨.inr ⟨32 + v, by omega, rfl, fun z => zs ?_⟩, by rw [if_neg (mt es.mp zs)]⟩
        rw [s2] at z
        have : s = if inp = 0 then 2 else 1 := (nI_eq (by omega) (by split <;> omega)).mp z
        exact this
    · rw [z1, z2]
      exact .inr ⟨.inl rfl, rfl⟩
end
section
/-! The judge: an output of an instance (20, 21, 23). -/
theorem zv_outE {LC LM : List (List Int32)} {nb nf i k c a ka cf : Nat} {F : Nat → Nat} {q w wf p : Int32} {h g : zs_H} (I : zv_I LC LM nb nf (F nb) F q h g) (si : zv_si (F nb) h) (hb : 0 < nb) (hi : i < 32784) (hk : k < 33500) (hc : c < 6000) (hw : zt_nr LC LM (nI c) w) (c0 : (h.2.1 13) i = 33) (c1 : (h.2.1 16) i = nI c) (c2 : (h.2.1 15) i = p) (c3 : (h.2.1 17) i = nI a) (ha : a < 32784) (hai : ¬ a = i) (hcf : cf < 6000) (hwf : zt_nr LC LM (nI cf) wf) (c4 : (h.2.1 16) a = nI cf) (m0 : (g.2.1 72) k = 33) (m1 : (g.2.1 74) k = w) (m2 : (g.2.1 73) k = p) (m3 : (g.2.1 76) k = nI ka) (hka : ka < 33500) (m4 : (g.2.1 74) ka = wf) :
    ∃ h' g', f_Jd_judgeVariable h (nI i) = some h' ∧ f_Mo_lookAtExpressions g (nI k) = some g' ∧ (zv_Fb h g h' g' ∨ (∃ u ty t0 x off, F (nb - 1) ≤ u ∧ u < F nb ∧ ty < 3 ∧ h' = zs_uM (zs_uM (zs_uM (zs_uM h 16 i (nI (32 + u))) 14 i t0) 16 a (nI off)) 14 i (nI ty) ∧ g' = zs_uM (zs_uM g 100 k (nI ty)) 101 k (nI (x + off)) ∧ f_Mo_variable g ((g.1 68 54)) w = some (nI u) ∧ (g.2.1 92) u = 2 ∧ (g.2.1 94) u = nI x ∧ (h.2.1 32) (32 + u) = nI x ∧ (x + off < 600000000 ∧ ∃ B cv, (h.2.1 30) (32 + u) = nI B ∧ B < 8 + nb ∧ zi_B F B cv ∧ cv < 32 + F nb ∧ (h.2.1 32) cv = nI off ∧ (((h.2.1 29) cv = 1 ∨ (h.2.1 29) cv = 2) ∧ (h.2.1 31) cv = nI ty)))) := by
  have J1 : (h.1 38 3) = 0 := I.2.2.2.2.2.2.2.1
  have J2 : (g.1 68 29) = 0 := I.2.2.2.2.2.2.2.2
  have hB3 : nb ≤ 568 := I.2.1.1.2.2
  have eM : f_Mo_lookAtExpressions g (nI k) = f_Mo_lookAtOutput g (nI k) := by
    unfold f_Mo_lookAtExpressions
    simp (config := { decide := true }) only [if_pos (zi_in (show k < 2147483648 by omega) hk), nI_clamp (show k < 2147483648 by omega), m0, if_false, if_true, Option.bind_fun_some]
  have eI : f_Mo_lookAtInstance g (nI k) = (f_Mo_variable g ((g.1 68 54)) w).bind fun v3 => (if 0 ≤ v3 then f_Mo_lookAtInstance_25 g (nI k) v3 0 else f_Mo_lookAtInstance_25 g (nI k) v3 1) := by
    unfold f_Mo_lookAtInstance
    rw [if_pos (zi_in (by omega) hk), nI_clamp (show k < 2147483648 by omega), m1]
  have eC : f_Jd_judgeVariable h (nI i) = f_Jd_judgeVariable_32 h (nI i) 33 0 := by
    unfold f_Jd_judgeVariable
    rw [if_pos (zi_in (by omega) hi), nI_clamp (show i < 2147483648 by omega), c0, if_neg (by decide), if_neg (by decide)]
  have bad : ∀ (φ : Nat), 0 < φ → φ < 1000 → f_Mo_lookAtInstance g (nI k) = some (zv_ru φ k g) → f_Mo_lookAtExpressions g (nI k) = some (zv_ru φ k g) := by
    intro φ a1 a2 e
    rw [eM]
    unfold f_Mo_lookAtOutput
    rw [e, Option.bind_some, if_neg (zv_ruf a1 a2)]
  rcases zv_vCase I hb hc hw with ⟨z1, z2⟩ | ⟨u, ins, so, v1, v2, v3, v4, v5, v6, v7, v8, s0, s1, s2, Q⟩
  · refine ⟨zv_rf 20 i h, zv_ru 20 k g, eC.trans (zv_jvF (zv_vaC0 hi c1 J1 z1) (zv_rff (by decide) (by decide))), bad 20 (by decide) (by decide) ?_, .inl (zv_mkF (by decide) (by decide) c2 m2 zfr_rfl zfr_rfl zfr_rfl zfr_rfl)⟩
    rw [eI, z2, Option.bind_some, if_neg (by decide)]
    unfold f_Mo_lookAtInstance_25 f_Mo_lookAtInstance_50 f_Mo_lookAtInstance_51
    rw [show (20 : Int32) = nI 20 from rfl, zv_rule1 (by decide) J2 hk, Option.bind_some, if_pos (by decide), zv_rule0, Option.bind_some]
    rfl
  · have eI3 : f_Mo_lookAtInstance g (nI k) = if so = 2 then some g else f_Mo_lookAtInstance_51 g (nI k) 1 := by
      rw [eI, v5, Option.bind_some, if_pos (zv_neg (show u < 2147483648 by omega)).1]
      unfold f_Mo_lookAtInstance_25 f_Mo_lookAtInstance_50
      rw [zv_rule0, Option.bind_some, if_neg (zv_neg (show u < 2147483648 by omega)).2, if_pos (zi_in (by omega) (by omega)), nI_clamp (show u < 2147483648 by omega)]
      simp only [v7, show (nI so = 2) ↔ so = 2 from zc_eq (k := 2) (by decide) (by omega)]
      unfold f_Mo_lookAtInstance_51
      rw [zv_rule0, Option.bind_some]
    by_cases z : so = 2
    · have zi : 0 ≤ ins := s2.mp z
      subst z
      have eV := zv_vaC1p (form := 0) (by decide) hi c1 J1 v4 v3 v6
      rw [if_pos zi] at eV
      rw [if_pos rfl] at eI3
      obtain ⟨t0, x, s, y, ⟨t1, t2⟩, ⟨x1, x2⟩, _, _, ⟨xl, _⟩, _, _, q8, _⟩ := Q
      obtain ⟨B, b1, b2, _, b4, _⟩ : ∃ B, B < 9 + (nb - 1) ∧ (h.2.1 30) (32 + u) = nI B ∧ (g.2.1 92) u = 2 ∧ (g.2.1 93) u = nI (if B < 9 then 100000 + B else B - 9) ∧ True := by
        rcases q8 with ⟨_, e, _⟩ | ⟨_, e, _⟩ | ⟨B, a1, a2, a3, a4, _⟩
        · rw [v7] at e; exact absurd e (by decide)
        · rw [v7] at e; exact absurd e (by decide)
        · exact ⟨B, a1, a2, a3, a4, trivial⟩
      have eM5 : f_Mo_lookAtExpressions g (nI k) = (f_Mo_pin g (nI (if B < 9 then 100000 + B else B - 9)) (nI 0) wf).bind fun v10 => (if 0 ≤ v10 then f_Mo_lookAtOutput_60 g (nI k) (nI u) v10 0 else f_Mo_lookAtOutput_60 g (nI k) (nI u) v10 1) := by
        rw [eM]
        unfold f_Mo_lookAtOutput
        rw [eI3, Option.bind_some, if_pos J2, if_pos (zi_in (by omega) hk), nI_clamp (show k < 2147483648 by omega), m1, v5, Option.bind_some, if_pos (zi_in (by omega) (by omega)), m3, if_pos (zi_in (by omega) hka), nI_clamp (show ka < 2147483648 by omega), nI_clamp (show u < 2147483648 by omega), m4, b4]
        rfl
      obtain ⟨h1, hh1⟩ : ∃ h1, h1 = zs_uM (zs_uM h 16 i (nI (32 + u))) 14 i (nI t0) := ⟨_, rfl⟩
      have f01 : zfr [] [16, 14] [] h h1 := by rw [hh1]; exact zfr_M (by decide) (zfr_M (by decide) zfr_rfl)
      have va : (h1.2.1 16) a = nI cf := by rw [hh1, zu_MM, if_neg (fun z => absurd z.1 (by decide)), zu_MM, if_neg (fun z => hai z.2)]; exact c4
      have eC3 : f_Jd_judgeVariable h (nI i) = (f_Pl_variableOf h1 (nI B) (nI cf)).bind fun v5 => (if v5 = (-1) then f_Jd_judgeVariable_177 h1 (nI i) else (if zd_in v5 6000 then (if ((h1.2.1 29) v5.toNatClampNeg) = 2 then some (zs_uM (zs_uM h1 16 a ((h1.2.1 32) v5.toNatClampNeg)) 14 i (vp_nar .byte (((h1.2.1 31) v5.toNatClampNeg).toInt8.toInt32))) else f_Jd_judgeVariable_177 h1 (nI i)) else none)) := by
        rw [eC]
        unfold f_Jd_judgeVariable_32
        rw [eV]
        show (if (h.1 38 3) = 0 then _ else _) = _
        rw [if_pos J1, if_pos (zi_in (by omega) hi), if_pos (zi_in (by omega) (by omega)), if_neg (by decide), nI_clamp (show i < 2147483648 by omega), nI_clamp (show 32 + u < 2147483648 by omega), t2, zv_nar3 t1, ← hh1, c3]
        unfold f_Jd_judgeVariable_122
        rw [if_pos rfl, if_pos (zi_in (by omega) (by omega)), if_pos (zi_in (by omega) ha), nI_clamp (show a < 2147483648 by omega), nI_clamp (show 32 + u < 2147483648 by omega), va, f01.2.1 30 (by decide), b2]
        simp only [if_pos (zi_in (show i < 2147483648 by omega) hi), nI_clamp (show i < 2147483648 by omega)]
      have I1 : zv_I LC LM nb nf (F nb) F q h1 g := zv_Ifr I (zfr_w f01 (by decide) (by decide) (by decide)) zfr_rfl
      have si1 : zv_si (F nb) h1 := fun v hv hs => by
        rw [f01.2.1 _ (by decide)] at hs ⊢
        exact si v hv hs
      have jf : (h1.1 38 3) = 0 := (f01.1 _ _ List.not_mem_nil).trans J1
      have p1 : (h1.2.1 15) i = p := by rw [f01.2.1 _ (by decide)]; exact c2
      rcases zv_pinE (inp := 0) I1 si1 hb hcf hwf (show B < 8 + nb by omega) (by decide) with ⟨cv, pp, ty, off, ⟨⟨o1, oB⟩, oF⟩, o2, o3, o4, o5, o6, o7, o8, o9, o10, o11⟩ | ⟨o1, o2⟩
      · rw [if_pos rfl] at o3
        refine ⟨zs_uM (zs_uM h1 16 a (nI off)) 14 i (nI ty), zs_uM (zs_uM g 100 k (nI ty)) 101 k (nI (x + off)), ?_, ?_, .inr ⟨u, ty, nI t0, x, off, v1, v2, o5, by rw [hh1], rfl, v5, v7, x2, x1, ⟨by omega, B, cv, b2, by omega, oB, oF, (congrFun (f01.2.1 32 (by decide)) cv).symm.trans o6, ⟨.inr ((congrFun (f01.2.1 29 (by decide)) cv).symm.trans o3), (congrFun (f01.2.1 31 (by decide)) cv).symm.trans o4⟩⟩⟩⟩
        · rw [eC3, o2, Option.bind_some, if_neg (zc_m1 (by omega)), if_pos (zi_in (by omega) o1), nI_clamp (show cv < 2147483648 by omega), if_pos (show (h1.2.1 29) cv = 2 from o3), o6, o4, zv_nar3 o5]
        · rw [eM5, o8, Option.bind_some, if_pos (zv_neg (show pp < 2147483648 by omega)).1]
          unfold f_Mo_lookAtOutput_60
          rw [zv_rule0, Option.bind_some, if_pos J2, if_pos (zi_in (by omega) (by omega)), nI_clamp (show u < 2147483648 by omega), b4]
          rw [show f_Mo_pinType g (nI (if B < 9 then 100000 + B else B - 9)) 0 (nI pp) = some (nI ty) from o10, Option.bind_some, if_pos (zi_in (by omega) hk), nI_clamp (show k < 2147483648 by omega)]
          have epc : f_Mo_pinCell (zs_uM g 100 k (nI ty)) (nI (if B < 9 then 100000 + B else B - 9)) 0 (nI pp) = some (nI off) := by
            rw [← o11]
            have em : ((zs_uM g 100 k (nI ty)).2.1 94) = (g.2.1 94) := funext fun j => by rw [zu_MM, if_neg (fun z => absurd z.1 (by decide))]
            unfold f_Mo_pinCell
            rw [em]
            rfl
          rw [epc, Option.bind_some, x2, show nI x + nI off = nI (x + off) from (Int32.ofNat_add x off).symm]
      · refine ⟨zv_rf 23 i h1, zv_ru 23 k g, ?_, ?_, .inl (zv_mkF (φ := 23) (by decide) (by decide) c2 m2 (zfr_w f01 (by decide) (by decide) (by decide)) zfr_rfl zfr_rfl zfr_rfl)⟩
        · have e177 : f_Jd_judgeVariable_177 h1 (nI i) = some (zv_rf 23 i h1) := by
            unfold f_Jd_judgeVariable_177
            rw [show (23 : Int32) = nI 23 from rfl, zv_refu jf hi, Option.bind_some]; rfl
          rw [eC3]
          rcases o1 with o1 | ⟨cv, o3, o4, o5⟩
          · rw [o1, Option.bind_some, if_pos rfl, e177]
          · rw [o4, Option.bind_some, if_neg (zc_m1 (by omega)), if_pos (zi_in (by omega) o3), nI_clamp (show cv < 2147483648 by omega), if_neg (show ¬ (h1.2.1 29) cv = 2 from o5), e177]
        · rw [eM5, o2, Option.bind_some, if_neg (by decide)]
          unfold f_Mo_lookAtOutput_60
          rw [show (23 : Int32) = nI 23 from rfl, zv_rule1 (by decide) J2 hk, Option.bind_some]
          show (if ((zv_ru 23 k g).1 68 29) = 0 then _ else some (zv_ru 23 k g)) = _
          rw [if_neg (zv_ruf (φ := 23) (k := k) (g := g) (by decide) (by decide))]
    · have zi : ¬ 0 ≤ ins := fun u => z (s2.mpr u)
      have eV := zv_vaC1p (form := 0) (by decide) hi c1 J1 v4 v3 v6
      rw [if_neg zi] at eV
      refine ⟨zv_rf 21 i h, zv_ru 21 k g, eC.trans (zv_jvF eV (zv_rff (by decide) (by decide))), bad 21 (by decide) (by decide) ?_, .inl (zv_mkF (by decide) (by decide) c2 m2 zfr_rfl zfr_rfl zfr_rfl zfr_rfl)⟩
      rw [eI3, if_neg z]
      unfold f_Mo_lookAtInstance_51
      rw [show (21 : Int32) = nI 21 from rfl, zv_rule1 (by decide) J2 hk, Option.bind_some]
      rfl
end
section
/-! The judge: a FUNCTION's inputs. -/
/-- the inputs among m variables from v on -/
def zv_il (h : zs_H) : Nat → Nat → List Nat
  | 0, _ => []
  | m + 1, v => if (h.2.1 29) (32 + v) = 1 then v :: zv_il h m (v + 1) else zv_il h m (v + 1)
theorem zv_ilen (h : zs_H) : ∀ m v, (zv_il h m v).length ≤ m := by
  intro m
  induction m with
  | zero => intro v; exact Nat.le_refl _
  | succ m ih =>
    intro v
    show (if (h.2.1 29) (32 + v) = 1 then v :: zv_il h m (v + 1) else zv_il h m (v + 1)).length ≤ m + 1
    have := ih (v + 1)
    split
    · show (zv_il h m (v + 1)).length + 1 ≤ m + 1; omega
    · omega
theorem zv_ilcons {h : zs_H} : ∀ m v w l, zv_il h m v = w :: l → v ≤ w ∧ w < v + m ∧ (h.2.1 29) (32 + w) = 1 ∧ zv_il h (v + m - (w + 1)) (w + 1) = l ∧ ∀ j, v ≤ j → j < w → ¬ (h.2.1 29) (32 + j) = 1 := by
  intro m
  induction m with
  | zero => intro v w l e; cases e
  | succ m ih =>
    intro v w l e
    have e' : (if (h.2.1 29) (32 + v) = 1 then v :: zv_il h m (v + 1) else zv_il h m (v + 1)) = w :: l := e
    by_cases z : (h.2.1 29) (32 + v) = 1
    · rw [if_pos z] at e'
      obtain ⟨rfl, rfl⟩ := List.cons.inj e'
      exact ⟨Nat.le_refl _, by omega, z, by rw [show v + (m + 1) - (v + 1) = m by omega], fun j h1 h2 => by omega⟩
    · rw [if_neg z] at e'
      obtain ⟨a1, a2, a3, a4, a5⟩ := ih (v + 1) w l e'
      refine ⟨by omega, by omega, a3, by rw [show v + (m + 1) - (w + 1) = v + 1 + m - (w + 1) by omega]; exact a4, fun j h1 h2 => ?_⟩
      by_cases ej : j = v
      · rw [ej]; exact z
      · exact a5 j (by omega) h2
section ZVI
variable {h g : zs_H} {b e : Nat}
theorem zv_inpC (hb : b < 620) (he : e ≤ 5900) (hbd : (h.2.1 24) (9 + b) = nI (32 + e)) : ∀ m v n N, v + m = e → m < N → f_Pl_inputs_L9 h N (nI (9 + b)) (nI n) (nI (32 + v)) = some (nI (n + (zv_il h m v).length)) := by
  intro m
  induction m with
  | zero =>
    intro v n N hv hN
    obtain ⟨N, rfl⟩ : ∃ z, N = z + 1 := ⟨N - 1, by omega⟩
    show f_Pl_inputs_9 h (f_Pl_inputs_L9 h N) (nI (9 + b)) (nI n) (nI (32 + v)) = _
    unfold f_Pl_inputs_9
    rw [if_pos (zi_in (by omega) (by omega)), nI_clamp (show 9 + b < 2147483648 by omega), hbd, if_pos ((nI_leI (by omega) (by omega)).mpr (by omega))]
    rfl
  | succ m ih =>
    intro v n N hv hN
    obtain ⟨N, rfl⟩ : ∃ z, N = z + 1 := ⟨N - 1, by omega⟩
    show f_Pl_inputs_9 h (f_Pl_inputs_L9 h N) (nI (9 + b)) (nI n) (nI (32 + v)) = some (nI (n + (if (h.2.1 29) (32 + v) = 1 then v :: zv_il h m (v + 1) else zv_il h m (v + 1)).length))
    unfold f_Pl_inputs_9 f_Pl_inputs_35
    rw [if_pos (zi_in (by omega) (by omega)), nI_clamp (show 9 + b < 2147483648 by omega), hbd, if_neg (mt (nI_leI (by omega) (by omega)).mp (by omega)), if_pos (zi_in (by omega) (by omega)), nI_clamp (show 32 + v < 2147483648 by omega), show nI (32 + v) + 1 = nI (32 + (v + 1)) from by rw [nI_1]; rfl]
    by_cases z : (h.2.1 29) (32 + v) = 1
    · rw [if_pos z, if_pos z, nI_1, ih (v + 1) (n + 1) N (by omega) (by omega)]
      show some (nI (n + 1 + (zv_il h m (v + 1)).length)) = some (nI (n + ((zv_il h m (v + 1)).length + 1)))
      rw [show n + 1 + (zv_il h m (v + 1)).length = n + ((zv_il h m (v + 1)).length + 1) by omega]
    · rw [if_neg z, if_neg z, show nI n + 0 = nI n from Int32.add_zero _]
      exact ih (v + 1) n N (by omega) (by omega)
theorem zv_inpM (hb : b < 600) (he : e ≤ 5900) (hbd : (if nI b = (g.1 68 33) - 1 then (g.1 68 41) else (g.2.1 90) (b + 1)) = nI e) (hsec : ∀ v, v < e → ((g.2.1 95) v = 1 ↔ (h.2.1 29) (32 + v) = 1)) : ∀ m v n N, v + m = e → m < N → f_Mo_inputs_L9 g N (nI b) (nI n) (nI v) = some (nI (n + (zv_il h m v).length)) := by
  have go : ∀ (N v n : Nat), f_Mo_inputs_9 g (f_Mo_inputs_L9 g N) (nI b) (nI n) (nI v) = f_Mo_inputs_35 g (f_Mo_inputs_L9 g N) (nI b) (nI n) (nI v) (nI e) (nI v) := by
    intro N v n
    unfold f_Mo_inputs_9
    rw [nI_1, if_pos (zi_in (show b + 1 < 2147483648 by omega) (by omega)), nI_clamp (show b + 1 < 2147483648 by omega), ← hbd]
    split <;> rfl
  intro m
  induction m with
  | zero =>
    intro v n N hv hN
    obtain ⟨N, rfl⟩ : ∃ z, N = z + 1 := ⟨N - 1, by omega⟩
    show f_Mo_inputs_9 g (f_Mo_inputs_L9 g N) (nI b) (nI n) (nI v) = _
    rw [go]
    unfold f_Mo_inputs_35
    rw [if_pos ((nI_leI (by omega) (by omega)).mpr (by omega))]
    rfl
  | succ m ih =>
    intro v n N hv hN
    obtain ⟨N, rfl⟩ : ∃ z, N = z + 1 := ⟨N - 1, by omega⟩
    show f_Mo_inputs_9 g (f_Mo_inputs_L9 g N) (nI b) (nI n) (nI v) = some (nI (n + (if (h.2.1 29) (32 + v) = 1 then v :: zv_il h m (v + 1) else zv_il h m (v + 1)).length))
    rw [go]
    unfold f_Mo_inputs_35 f_Mo_inputs_54
    rw [if_neg (mt (nI_leI (by omega) (by omega)).mp (by omega)), if_pos (zi_in (by omega) (by omega)), nI_clamp (show v < 2147483648 by omega)]
    have hs := hsec v (by omega)
    by_cases z : (h.2.1 29) (32 + v) = 1
    · rw [if_pos (hs.mpr z), if_pos z, nI_1, nI_1, ih (v + 1) (n + 1) N (by omega) (by omega)]
      show some (nI (n + 1 + (zv_il h m (v + 1)).length)) = some (nI (n + ((zv_il h m (v + 1)).length + 1)))
      rw [show n + 1 + (zv_il h m (v + 1)).length = n + ((zv_il h m (v + 1)).length + 1) by omega]
    · rw [if_neg (mt hs.mp z), if_neg z, show nI n + 0 = nI n from Int32.add_zero _, nI_1]
      exact ih (v + 1) n N (by omega) (by omega)
/-- the next input -/
theorem zv_ifrC (hb : b < 620) (he : e ≤ 5900) (hbd : (h.2.1 24) (9 + b) = nI (32 + e)) {w : Nat} : ∀ m v N, v + m = e → m < N → v ≤ w → w < e → (h.2.1 29) (32 + w) = 1 → (∀ j, v ≤ j → j < w → ¬ (h.2.1 29) (32 + j) = 1) → f_Pl_inputFrom_L11 h N (nI (9 + b)) (nI (32 + v)) = some (nI (32 + w)) := by
  intro m
  induction m with
  | zero => intro v N hv _ h1 h2; omega
  | succ m ih =>
    intro v N hv hN h1 h2 h3 h4
    obtain ⟨N, rfl⟩ : ∃ z, N = z + 1 := ⟨N - 1, by omega⟩
    show f_Pl_inputFrom_11 h (f_Pl_inputFrom_L11 h N) (nI (9 + b)) (nI (32 + v)) = _
    unfold f_Pl_inputFrom_11
    rw [if_pos (zi_in (by omega) (by omega)), nI_clamp (show 9 + b < 2147483648 by omega), hbd, if_neg (mt (nI_leI (by omega) (by omega)).mp (by omega)), if_pos (zi_in (by omega) (by omega)), nI_clamp (show 32 + v < 2147483648 by omega)]
    by_cases ev : v = w
    · subst ev
      rw [if_pos h3]
    · rw [if_neg (h4 v (Nat.le_refl _) (by omega)), show nI (32 + v) + 1 = nI (32 + (v + 1)) from by rw [nI_1]; rfl]
      exact ih (v + 1) N (by omega) (by omega) (by omega) h2 h3 (fun j a1 a2 => h4 j (by omega) a2)
/-- the input of a number -/
theorem zv_ixM (he : e ≤ 5900) (hsec : ∀ v, v < e → ((g.2.1 95) v = 1 ↔ (h.2.1 29) (32 + v) = 1)) : ∀ m v k N w, v + m = e → m < N → k < 6000 → (zv_il h m v)[k]? = some w → f_Mo_input_L10 g N (nI k) (nI v) = some (nI w) := by
  intro m
  induction m with
  | zero => intro v k N w _ _ _ e; cases e
  | succ m ih =>
    intro v k N w hv hN hk e
    obtain ⟨N, rfl⟩ : ∃ z, N = z + 1 := ⟨N - 1, by omega⟩
    have e' : (if (h.2.1 29) (32 + v) = 1 then v :: zv_il h m (v + 1) else zv_il h m (v + 1))[k]? = some w := e
    show f_Mo_input_10 g (f_Mo_input_L10 g N) (nI k) (nI v) = _
    unfold f_Mo_input_10 f_Mo_input_25 f_Mo_input_42
    have hs := hsec v (by omega)
    simp only [if_pos (zi_in (show v < 2147483648 by omega) (show v < 8400 by omega)), nI_clamp (show v < 2147483648 by omega)]
    by_cases z : (h.2.1 29) (32 + v) = 1
    · rw [if_pos z] at e'
      rw [if_pos (hs.mpr z)]
      by_cases ek : k = 0
      · subst ek
        rw [if_pos ((zc_el (k := 0) (by decide) (by omega)).mpr (by omega))]
        exact congrArg (fun o => o.map nI) (show some v = some w from e')
      · obtain ⟨k, rfl⟩ : ∃ z, k = z + 1 := ⟨k - 1, by omega⟩
        rw [if_neg (mt (zc_el (k := 0) (by decide) (by omega)).mp (by omega)), show nI (k + 1) - 1 = nI k by rw [show (1 : Int32) = nI 1 from rfl, zi_sub (by omega)]; rfl, nI_1, if_pos (hs.mpr z)]
        exact ih (v + 1) k N w (by omega) (by omega) (by omega) e'
    · rw [if_neg z] at e'
      rw [if_neg (mt hs.mp z), if_neg (mt hs.mp z), show nI k - 0 = nI k from Int32.sub_zero _, nI_1]
      exact ih (v + 1) k N w (by omega) (by omega) hk e'
end ZVI
end
section
/-! The judge: calls of FUNCTIONs (25, 26). -/
/-- the arguments' types, in the class and in the model -/
def ya_C (h : zs_H) (i : Nat) : List Nat → Int32 → Prop
  | [], x => x = -1
  | t :: l, x => ∃ a, a < 32784 ∧ ¬ a = i ∧ x = nI a ∧ (h.2.1 14) a = nI t ∧ t < 3 ∧ ya_C h i l ((h.2.1 18) a)
def ya_M (g : zs_H) : List Nat → Int32 → Prop
  | [], x => x = -1
  | t :: l, x => ∃ b, b < 33500 ∧ x = nI b ∧ (g.2.1 100) b = nI t ∧ t < 3 ∧ ya_M g l ((g.2.1 78) b)
section YA
variable {h g : zs_H} {i k sz : Nat}
theorem ya_cntC {nm : Int32} (hsz : (h.1 12 6) = nI sz) (hs2 : sz < 100000) : ∀ l x n turn N, ya_C h i l x → turn + l.length ≤ sz → l.length < N → f_Jd_judgeCall_L26 N h (nI i) nm (nI n) x (nI turn) = f_Jd_judgeCall_65 h (nI i) nm (nI (n + l.length)) := by
  intro l
  induction l with
  | nil =>
    intro x n turn N hx h1 h2
    obtain ⟨N, rfl⟩ : ∃ z, N = z + 1 := ⟨N - 1, by omega⟩
    show f_Jd_judgeCall_26 (f_Jd_judgeCall_L26 N) h (nI i) nm (nI n) x (nI turn) = _
    unfold f_Jd_judgeCall_26
    rw [if_pos (show x = -1 from hx), ite_self]
    rfl
  | cons t l ih =>
    intro x n turn N hx h1 h2
    have hl : (t :: l).length = l.length + 1 := rfl
    obtain ⟨N, rfl⟩ : ∃ z, N = z + 1 := ⟨N - 1, by omega⟩
    obtain ⟨a, a1, a2, a3, a4, a5, a6⟩ := hx
    show f_Jd_judgeCall_26 (f_Jd_judgeCall_L26 N) h (nI i) nm (nI n) x (nI turn) = _
    unfold f_Jd_judgeCall_26
    rw [hsz, if_neg (mt (nI_leI (by omega) (by omega)).mp (by omega)), a3, if_neg (zc_m1 (by omega)), if_pos (zi_in (by omega) a1), nI_clamp (show a < 2147483648 by omega), nI_1, nI_1, ih _ (n + 1) (turn + 1) N a6 (by omega) (by omega), hl, show n + 1 + l.length = n + (l.length + 1) by omega]
def ya_fl (y : Int32) : List Nat → Int32
  | [] => y
  | t :: l => ya_fl (if y = 0 then 0 else if t = 0 then 0 else 1) l
def ya_wd (w : Int32) : List Nat → Int32
  | [] => w
  | t :: l => ya_wd (f_Mo_wider w (nI t)) l
theorem ya_cntM {s b : Int32} (hk : k < 33500) : ∀ l x n y w N, ya_M g l x → l.length < N → f_Mo_lookAtCall_L86 N g (nI k) s b (nI n) y w x = f_Mo_lookAtCall_86 (fun _ _ _ _ _ _ _ _ => none) g (nI k) s b (nI (n + l.length)) (ya_fl y l) (ya_wd w l) (-1) := by
  intro l
  induction l with
  | nil =>
    intro x n y w N hx h2
    obtain ⟨N, rfl⟩ : ∃ z, N = z + 1 := ⟨N - 1, by omega⟩
    rw [show x = -1 from hx]
    show f_Mo_lookAtCall_86 (f_Mo_lookAtCall_L86 N) g (nI k) s b (nI n) y w (-1) = f_Mo_lookAtCall_86 (fun _ _ _ _ _ _ _ _ => none) g (nI k) s b (nI n) y w (-1)
    unfold f_Mo_lookAtCall_86
    simp only [show ((-1 : Int32) < 0) by decide, if_true]
  | cons t l ih =>
    intro x n y w N hx h2
    have hl : (t :: l).length = l.length + 1 := rfl
    obtain ⟨N, rfl⟩ : ∃ z, N = z + 1 := ⟨N - 1, by omega⟩
    obtain ⟨b', a1, a3, a4, a5, a6⟩ := hx
    show f_Mo_lookAtCall_86 (f_Mo_lookAtCall_L86 N) g (nI k) s b (nI n) y w x = _
    have e1 : ∀ z, f_Mo_lookAtCall_117 (f_Mo_lookAtCall_L86 N) g (nI k) s b (nI (n + 1)) w (nI b') z = f_Mo_lookAtCall_L86 N g (nI k) s b (nI (n + 1)) z (f_Mo_wider w (nI t)) ((g.2.1 78) b') := by
      intro z
      unfold f_Mo_lookAtCall_117
      rw [if_pos (zi_in (by omega) a1), nI_clamp (show b' < 2147483648 by omega), a4]
    have e2 : f_Mo_lookAtCall_86 (f_Mo_lookAtCall_L86 N) g (nI k) s b (nI n) y w x = f_Mo_lookAtCall_L86 N g (nI k) s b (nI (n + 1)) (if y = 0 then 0 else if t = 0 then 0 else 1) (f_Mo_wider w (nI t)) ((g.2.1 78) b') := by
      unfold f_Mo_lookAtCall_86 f_Mo_lookAtCall_116
      rw [a3, if_neg (zv_neg (show b' < 2147483648 by omega)).2, nI_1, e1, e1, if_pos (zi_in (by omega) a1), nI_clamp (show b' < 2147483648 by omega), a4, zv_isn a5]
      by_cases z1 : y = 0
      · rw [if_pos z1, if_pos z1]
      · rw [if_neg z1, if_neg z1]
        by_cases z2 : t = 0
        · rw [if_pos z2, if_pos rfl]
        · rw [if_neg z2, if_neg (by decide)]
    rw [e2, ih _ (n + 1) _ _ N a6 (by omega), hl, show n + 1 + l.length = n + (l.length + 1) by omega]
    rfl
end YA
/-- the arguments fit the inputs -/
def ya_fit (h : zs_H) : List Nat → Int32 → Prop
  | [], _ => True
  | w :: ws, x => ∃ a, x = nI a ∧ a < 32784 ∧ ((h.2.1 31) (32 + w) = 0 → (h.2.1 14) a = 0) ∧ ya_fit h ws ((h.2.1 18) a)
theorem ya_fit0 : ∀ t, t < 3 → ¬ f_Jd_fits (nI t) 0 = 0 → nI t = 0 := by decide +kernel
section YB
variable {h g : zs_H} {i k b lo e : Nat}
/-- the arguments against the inputs (26) -/
theorem ya_args (J1 : (h.1 38 3) = 0) (J2 : (g.1 68 29) = 0) (hi : i < 32784) (hk : k < 33500) (hb : b < 600) (he : e ≤ 5900) (hbd : (h.2.1 24) (9 + b) = nI (32 + e)) (hfi : (h.2.1 23) (9 + b) = nI (32 + lo)) (hfm : (g.2.1 90) b = nI lo) (hsec : ∀ v, v < e → ((g.2.1 95) v = 1 ↔ (h.2.1 29) (32 + v) = 1)) (hT : ∀ w, lo ≤ w → w < e → (h.2.1 29) (32 + w) = 1 → ∃ tw, (h.2.1 31) (32 + w) = nI tw ∧ (g.2.1 93) w = nI tw) (hlo : lo ≤ e) :
    ∀ (l : List Nat) (x x' inp : Int32) (v m j N N' : Nat), ya_C h i l x → ya_M g l x' → v + m = e → lo ≤ v → (zv_il h (e - lo) lo).drop j = zv_il h m v → (zv_il h m v).length = l.length → j + l.length < 6000 → zd_max (inp + 1) (nI (32 + lo)) = nI (32 + v) → l.length + 1 < N → l.length + 1 < N' →
    ∃ h' g', f_Jd_judgeCall_L173 N h (nI i) (nI (j + l.length)) x (nI (9 + b)) inp (nI j) = f_Jd_judgeCall_269 h' (nI i) (nI (9 + b)) ∧ f_Mo_callOwn_L32 N' g (nI k) (nI b) (nI j) x' = f_Mo_callOwn_96 g' (nI k) (nI b) ∧ ((h' = h ∧ g' = g ∧ ya_fit h (zv_il h m v) x) ∨ (h' = zv_rf 26 i h ∧ g' = zv_ru 26 k g)) := by
  have hzF := zF_big
  intro l
  induction l with
  | nil =>
    intro x x' inp v m j N N' hx hx' hv hlv hd hll hj hm hN hN'
    obtain ⟨N, rfl⟩ : ∃ z, N = z + 1 := ⟨N - 1, by omega⟩
    obtain ⟨N', rfl⟩ : ∃ z, N' = z + 1 := ⟨N' - 1, by omega⟩
    refine ⟨h, g, ?_, ?_, .inl ⟨rfl, rfl, by rw [List.eq_nil_of_length_eq_zero hll]; trivial⟩⟩
    · show f_Jd_judgeCall_173 (f_Jd_judgeCall_L173 N) h (nI i) (nI j) x (nI (9 + b)) inp (nI j) = _
      unfold f_Jd_judgeCall_173
      rw [if_pos ((nI_leI (by omega) (by omega)).mpr (Nat.le_refl _))]
    · show f_Mo_callOwn_32 (f_Mo_callOwn_L32 N') g (nI k) (nI b) (nI j) x' = _
      unfold f_Mo_callOwn_32
      rw [if_pos (by rw [show x' = -1 from hx']; decide)]
  | cons t l ih =>
    intro x x' inp v m j N N' hx hx' hv hlv hd hll hj hm hN hN'
    have hl : (t :: l).length = l.length + 1 := rfl
    rw [hl] at hll hN hN' hj
    obtain ⟨N, rfl⟩ : ∃ z, N = z + 1 := ⟨N - 1, by omega⟩
    obtain ⟨N', rfl⟩ : ∃ z, N' = z + 1 := ⟨N' - 1, by omega⟩
    obtain ⟨a, a1, a2, a3, a4, a5, a6⟩ := hx
    obtain ⟨b', b1, b3, b4, b5, b6⟩ := hx'
    have hlen := zv_ilen h m v
    cases eil : zv_il h m v with
    | nil => rw [eil] at hll; cases hll
    | cons w il =>
      rw [eil] at hll hd
      have hll' : il.length = l.length := Nat.succ.inj hll
      obtain ⟨w1, w2, w3, w4, w5⟩ := zv_ilcons m v w il eil
      obtain ⟨tw, t1, t2⟩ := hT w (by omega) (by omega) w3
      have hin : f_Pl_inputFrom h (nI (9 + b)) (inp + 1) = some (nI (32 + w)) := by
        unfold f_Pl_inputFrom
        rw [if_pos (zi_in (by omega) (by omega)), nI_clamp (show 9 + b < 2147483648 by omega), hfi, hm]
        exact zv_ifrC (by omega) he hbd m v zF hv (by omega) w1 (by omega) w3 w5
      have hixM : f_Mo_input g (nI b) (nI j) = some (nI w) := by
        unfold f_Mo_input
        rw [if_pos (zi_in (by omega) (by omega)), nI_clamp (show b < 2147483648 by omega), hfm]
        refine zv_ixM he hsec (e - lo) lo j zF w (by omega) (by omega) (by omega) ?_
        have := congrArg (fun L : List Nat => L[0]?) hd
        rw [List.getElem?_drop] at this
        exact this
      have hmx : zd_max (nI (32 + w) + 1) (nI (32 + lo)) = nI (32 + (w + 1)) := by
        rw [nI_1]
        unfold zd_max
        rw [if_neg (mt (nI_ltI (by omega) (by omega)).mp (by omega))]
        rfl
      have ihh := ih ((h.2.1 18) a) ((g.2.1 78) b') (nI (32 + w)) (w + 1) (v + m - (w + 1)) (j + 1) N N' a6 b6 (by omega) (by omega) (by rw [w4, ← List.drop_drop, hd]; rfl) (by rw [w4]; exact hll') (by omega) hmx (by omega) (by omega)
      rw [show j + 1 + l.length = j + (l.length + 1) by omega] at ihh
      rw [hl]
      have eC : f_Jd_judgeCall_L173 (N + 1) h (nI i) (nI (j + (l.length + 1))) x (nI (9 + b)) inp (nI j) = if f_Jd_fits (nI t) (nI tw) = 0 then f_Jd_judgeCall_245 (f_Jd_judgeCall_L173 N) h (nI i) (nI (j + (l.length + 1))) (nI a) (nI (9 + b)) (nI (32 + w)) (nI j) 1 else f_Jd_judgeCall_245 (f_Jd_judgeCall_L173 N) h (nI i) (nI (j + (l.length + 1))) (nI a) (nI (9 + b)) (nI (32 + w)) (nI j) 0 := by
        show f_Jd_judgeCall_173 (f_Jd_judgeCall_L173 N) h (nI i) (nI (j + (l.length + 1))) x (nI (9 + b)) inp (nI j) = _
        unfold f_Jd_judgeCall_173 f_Jd_judgeCall_240
        rw [if_neg (mt (nI_leI (by omega) (by omega)).mp (by omega)), if_pos J1, a3, if_neg (zc_m1 (by omega)), hin, Option.bind_some, if_neg (zc_m1 (by omega)), if_pos (zi_in (by omega) a1), if_pos (zi_in (by omega) (by omega)), nI_clamp (show a < 2147483648 by omega), nI_clamp (show 32 + w < 2147483648 by omega), a4, t1]
      have eM : f_Mo_callOwn_L32 (N' + 1) g (nI k) (nI b) (nI j) x' = if f_Jd_fits (nI t) (nI tw) = 0 then f_Mo_callOwn_75 (f_Mo_callOwn_L32 N') g (nI k) (nI b) (nI j) (nI b') 1 else f_Mo_callOwn_75 (f_Mo_callOwn_L32 N') g (nI k) (nI b) (nI j) (nI b') 0 := by
        show f_Mo_callOwn_32 (f_Mo_callOwn_L32 N') g (nI k) (nI b) (nI j) x' = _
        unfold f_Mo_callOwn_32
        rw [b3, if_neg (zv_neg (show b' < 2147483648 by omega)).2, if_pos J2, if_pos (zi_in (by omega) b1), hixM, Option.bind_some, if_pos (zi_in (by omega) (by omega)), nI_clamp (show b' < 2147483648 by omega), nI_clamp (show w < 2147483648 by omega), b4, t2]
        rfl
      rw [eC, eM]
      by_cases zf : f_Jd_fits (nI t) (nI tw) = 0
      · rw [if_pos zf, if_pos zf]
        unfold f_Jd_judgeCall_245 f_Mo_callOwn_75
        rw [show (26 : Int32) = nI 26 from rfl, zv_ref1 (by decide) J1 hi, zv_rule1 (by decide) J2 hk, Option.bind_some, Option.bind_some, if_pos (zi_in (by omega) a1), if_pos (zi_in (by omega) b1), nI_1]
        obtain ⟨N, rfl⟩ : ∃ z, N = z + 1 := ⟨N - 1, by omega⟩
        obtain ⟨N', rfl⟩ : ∃ z, N' = z + 1 := ⟨N' - 1, by omega⟩
        refine ⟨zv_rf 26 i h, zv_ru 26 k g, ?_, ?_, .inr ⟨rfl, rfl⟩⟩
        · show f_Jd_judgeCall_173 (f_Jd_judgeCall_L173 N) (zv_rf 26 i h) (nI i) (nI (j + (l.length + 1))) _ (nI (9 + b)) (nI (32 + w)) (nI (j + 1)) = _
          unfold f_Jd_judgeCall_173
          rw [if_neg (zv_rff (φ := 26) (i := i) (h := h) (by decide) (by decide)), ite_self]
        · show f_Mo_callOwn_32 (f_Mo_callOwn_L32 N') (zv_ru 26 k g) (nI k) (nI b) (nI (j + 1)) _ = _
          unfold f_Mo_callOwn_32
          rw [if_neg (zv_ruf (φ := 26) (k := k) (g := g) (by decide) (by decide)), ite_self]
      · rw [if_neg zf, if_neg zf]
        unfold f_Jd_judgeCall_245 f_Mo_callOwn_75
        rw [zv_ref0, zv_rule0, Option.bind_some, Option.bind_some, if_pos (zi_in (by omega) a1), if_pos (zi_in (by omega) b1), nI_1, nI_clamp (show a < 2147483648 by omega), nI_clamp (show b' < 2147483648 by omega)]
        obtain ⟨h', g', q1, q2, q3⟩ := ihh
        refine ⟨h', g', q1, q2, ?_⟩
        rcases q3 with ⟨q3, q4, q5⟩ | q3
        · refine .inl ⟨q3, q4, a, a3, a1, fun z => ?_, by rw [← w4]; exact q5⟩
          rw [a4]
          rw [t1] at z
          rw [z] at zf
          exact ya_fit0 t a5 zf
        · exact .inr q3
end YB
end
section
/-! The judge: a call of a FUNCTION (24, 25, 26). -/
theorem ya_Mf {g g' : zs_H} (e1 : g'.2.1 100 = g.2.1 100) (e2 : g'.2.1 78 = g.2.1 78) : ∀ l x, ya_M g l x → ya_M g' l x := by
  intro l
  induction l with
  | nil => intro x h; exact h
  | cons t l ih =>
    intro x ⟨b, b1, b2, b3, b4, b5⟩
    exact ⟨b, b1, b2, by rw [e1]; exact b3, b4, by rw [e2]; exact ih _ b5⟩
/-- what the tables tell of a block before -/
theorem zv_bF {LC LM : List (List Int32)} {nb nf b : Nat} {F : Nat → Nat} {q : Int32} {h g : zs_H} (I : zv_I LC LM nb nf (F nb) F q h g) (si : zv_si (F nb) h) (hb : b < nb) : (h.2.1 23) (9 + b) = nI (32 + F b) ∧ (g.2.1 90) b = nI (F b) ∧ (h.2.1 24) (9 + b) = nI (32 + F (b + 1)) ∧ (F b ≤ F (b + 1) ∧ F (b + 1) ≤ F nb) ∧ (∀ v, v < F (b + 1) → ((g.2.1 95) v = 1 ↔ (h.2.1 29) (32 + v) = 1)) ∧ (∀ w, F b ≤ w → w < F (b + 1) → (h.2.1 29) (32 + w) = 1 → ∃ tw, (h.2.1 31) (32 + w) = nI tw ∧ (g.2.1 93) w = nI tw) ∧ ((h.2.1 21) (9 + b) = nI 1 → ∃ ty, ty < 3 ∧ (h.2.1 31) (32 + F b) = nI ty ∧ (g.2.1 87) b = nI ty) := by
  obtain ⟨HS, HB, HN, HV, HC, HT, HJ, J1, J2⟩ := I
  obtain ⟨x1, x2, x3⟩ := HB.2.2.2.2.2.1 b hb
  have hF := HB.2.2.2.1 b hb
  have V3 : F nb ≤ 5900 := HB.2.1.2.2
  refine ⟨x1, x2, x3, hF, fun v hv => ?_, fun w w1 w2 w3 => ?_, fun hk => ?_⟩
  · obtain ⟨s, s1, s2, s3⟩ := HV.1 v (by omega)
    rw [s2, s3]
    have a1 : s = 0 ∨ s = 1 ∨ s = 2 ∨ s = 3 := by omega
    rcases a1 with e | e | e | e <;> subst e <;> decide
  · have Q := HV.2.1 b w hb w1 w2 (by omega)
    have i1 := si w (by omega) (.inl w3)
    obtain ⟨ty, x, s', y, ⟨t1, t2⟩, _, _, _, _, _, _, q8, _⟩ := Q
    rcases q8 with ⟨_, _, e, _⟩ | ⟨e, _⟩ | ⟨B, hB, e, _⟩
    · exact ⟨ty, t2, e⟩
    · rw [i1] at e; exact absurd e (by decide)
    · rw [i1] at e; exact absurd e.symm (zc_m1 (by have := HB.1.2.2; omega))
  · obtain ⟨y1, y2, _⟩ := HC.2.2.2 b hb hk
    obtain ⟨ty, x, s', y, ⟨t1, t2⟩, _⟩ := HV.2.1 b (F b) hb (Nat.le_refl _) y1 (by omega)
    exact ⟨ty, t1, t2, y2.trans t2⟩
theorem zv_ownE {LC LM : List (List Int32)} {nb nf i k c sz : Nat} {F : Nat → Nat} {q w p : Int32} {h g : zs_H} {l : List Nat} (I : zv_I LC LM nb nf (F nb) F q h g) (si : zv_si (F nb) h) (hb : 0 < nb) (hi : i < 32784) (hk : k < 33500) (hc : c < 6000) (hw : zt_nr LC LM (nI c) w) (hsz : (h.1 12 6) = nI sz) (hs2 : sz < 40000) (hl : l.length ≤ sz) (hcF : ¬ (50 ≤ c ∧ c < 60)) (c1 : (h.2.1 16) i = nI c) (c2 : (h.2.1 15) i = p) (c3 : ya_C h i l ((h.2.1 17) i)) (m0 : (g.2.1 72) k = 34) (m1 : (g.2.1 74) k = w) (m2 : (g.2.1 73) k = p) (m3 : ya_M g l ((g.2.1 76) k)) :
    ∃ h' g', f_Jd_judgeCall h (nI i) = some h' ∧ f_Mo_lookAtExpressions g (nI k) = some g' ∧ (zv_Fb h g h' g' ∨ (∃ b ty, b < nb - 1 ∧ ty < 3 ∧ ((h.2.1 21) (9 + b) = 1 ∧ F b < F (b + 1) ∧ (h.2.1 31) (32 + F b) = nI ty ∧ ya_fit h (zv_il h (F (b + 1) - F b) (F b)) ((h.2.1 17) i)) ∧ l.length = (zv_il h (F (b + 1) - F b) (F b)).length ∧ h' = zs_uM (zs_uM h 16 i (nI (9 + b))) 14 i (nI ty) ∧ g' = zs_uM (zs_uM g 102 k (nI b)) 100 k (nI ty) ∧ (g.2.1 86) b = 1 ∧ f_Mo_blockNamed g w (nI (nb - 1)) = some (nI b))) := by
  have hzF := zF_big
  have J1 : (h.1 38 3) = 0 := I.2.2.2.2.2.2.2.1
  have J2 : (g.1 68 29) = 0 := I.2.2.2.2.2.2.2.2
  have hB3 : nb ≤ 568 := I.2.1.1.2.2
  have V3 : F nb ≤ 5900 := I.2.1.2.1.2.2
  have HJ := I.2.2.2.2.2.2.1 hb
  have hwf := zv_wF I.1 hw hc
  rw [if_neg hcF] at hwf
  have eC : f_Jd_judgeCall h (nI i) = f_Jd_judgeCall_65 h (nI i) (nI c) (nI l.length) := by
    unfold f_Jd_judgeCall
    rw [if_pos (zi_in (by omega) hi), nI_clamp (show i < 2147483648 by omega), c1]
    have := ya_cntC (i := i) (nm := nI c) hsz (by omega) l ((h.2.1 17) i) 0 0 zF c3 (by omega) (by omega)
    rw [Nat.zero_add] at this
    exact this
  have eM0 : f_Mo_lookAtExpressions g (nI k) = (f_Mo_blockNamed g w (nI (nb - 1))).bind fun v5 => (if v5 < 0 then f_Mo_lookAtCall_47 g (nI k) (-1) else (if zd_in v5 2100 then (if ((g.2.1 86) v5.toNatClampNeg) = 1 then f_Mo_lookAtCall_48 g (nI k) (-1) v5 else f_Mo_lookAtCall_47 g (nI k) (-1)) else none)) := by
    unfold f_Mo_lookAtExpressions f_Mo_lookAtCall
    simp (config := { decide := true }) only [if_pos (zi_in (show k < 2147483648 by omega) hk), nI_clamp (show k < 2147483648 by omega), m0, if_false, if_true, Option.bind_fun_some, m1, hwf, Option.bind_some, HJ.2]
  have e47 : f_Mo_lookAtCall_47 g (nI k) (-1) = some (zv_ru 24 k g) := by
    unfold f_Mo_lookAtCall_47 f_Mo_lookAtCall_48 f_Mo_lookAtCall_63
    rw [if_neg (by decide), if_neg (by decide), show (24 : Int32) = nI 24 from rfl, zv_rule1 (by decide) J2 hk, Option.bind_some, if_pos (zi_in (by omega) hk), nI_clamp (show k < 2147483648 by omega)]
    show f_Mo_lookAtCall_L86 zF (zv_ru 24 k g) (nI k) (-1) (-1) (nI 0) 1 (-1) ((g.2.1 76) k) = _
    rw [ya_cntM (g := zv_ru 24 k g) hk l _ 0 _ _ zF (ya_Mf (g := g) (g' := zv_ru 24 k g) rfl rfl _ _ m3) (by omega)]
    unfold f_Mo_lookAtCall_86
    rw [if_pos (by decide), if_neg (zv_ruf0 (φ := 24) (k := k) (g := g) (by decide) (by decide))]
  have bad : f_Jd_judgeCall_65 h (nI i) (nI c) (nI l.length) = f_Jd_judgeCall_123 h (nI i) → f_Mo_lookAtExpressions g (nI k) = f_Mo_lookAtCall_47 g (nI k) (-1) → ∃ h' g', f_Jd_judgeCall h (nI i) = some h' ∧ f_Mo_lookAtExpressions g (nI k) = some g' ∧ zv_Fb h g h' g' := by
    intro e1 e2
    refine ⟨zv_rf 24 i h, zv_ru 24 k g, ?_, e2.trans e47, zv_mkF (φ := 24) (by decide) (by decide) c2 m2 zfr_rfl zfr_rfl zfr_rfl zfr_rfl⟩
    rw [eC, e1]
    unfold f_Jd_judgeCall_123
    rw [show (24 : Int32) = nI 24 from rfl, zv_refu J1 hi, Option.bind_some]; rfl
  have eC65 : f_Jd_judgeCall_65 h (nI i) (nI c) (nI l.length) = (if ((h.2.1 36) c) = (-1) then f_Jd_judgeCall_123 h (nI i) else (if ((h.2.1 36) c) = nI (8 + nb) then f_Jd_judgeCall_123 h (nI i) else (if zd_in ((h.2.1 36) c) 629 then (if ((h.2.1 21) ((h.2.1 36) c).toNatClampNeg) = 1 then ((f_Pl_inputs h ((h.2.1 36) c)).bind fun v9 => (if nI l.length = v9 then f_Jd_judgeCall_150 h (nI i) (nI l.length) ((h.2.1 36) c) 0 else f_Jd_judgeCall_150 h (nI i) (nI l.length) ((h.2.1 36) c) 1)) else f_Jd_judgeCall_123 h (nI i)) else none))) := by
    unfold f_Jd_judgeCall_65
    rw [zv_isF hc, if_neg hcF, if_pos rfl, if_pos (zi_in (by omega) hc), nI_clamp (show c < 2147483648 by omega), HJ.1]
  rcases zv_blk I hb hw hc with ⟨b1, b2, b3, b4, b5, b6⟩ | ⟨b, kd, b1, b2, b3, b4, b5, b6, b7⟩ | ⟨b1, b2, b3⟩
  · have : ∃ h' g', f_Jd_judgeCall h (nI i) = some h' ∧ f_Mo_lookAtExpressions g (nI k) = some g' ∧ zv_Fb h g h' g' := by
      apply bad
      · rw [eC65, b3, if_neg (zc_m1 (by omega)), if_neg (fun z => by have := (nI_eq (by omega) (by omega)).mp z; omega), if_pos (zi_in (by omega) (by omega)), nI_clamp (show c - 41 < 2147483648 by omega), b5, if_neg (by decide)]
      · rw [eM0, b6, Option.bind_some, if_pos (by decide)]
    obtain ⟨h', g', x1, x2, x3⟩ := this
    exact ⟨h', g', x1, x2, .inl x3⟩
  · by_cases k1 : kd = 1
    · subst k1
      obtain ⟨f1, f2, f3, ⟨f4, f6⟩, f5, f7, f8⟩ := zv_bF I si (show b < nb by omega)
      have hiC : f_Pl_inputs h (nI (9 + b)) = some (nI (zv_il h (F (b + 1) - F b) (F b)).length) := by
        unfold f_Pl_inputs
        rw [if_pos (zi_in (by omega) (by omega)), nI_clamp (show 9 + b < 2147483648 by omega), f1]
        have := zv_inpC (h := h) (b := b) (e := F (b + 1)) (by omega) (by omega) f3 (F (b + 1) - F b) (F b) 0 zF (by omega) (by omega)
        rw [Nat.zero_add] at this
        exact this
      have hiM : f_Mo_inputs g (nI b) = some (nI (zv_il h (F (b + 1) - F b) (F b)).length) := by
        unfold f_Mo_inputs
        rw [if_pos (zi_in (by omega) (by omega)), nI_clamp (show b < 2147483648 by omega), f2]
        have := zv_inpM (h := h) (g := g) (b := b) (e := F (b + 1)) (by omega) (by omega) (zv_bdM I.2.1 (by omega)) f5 (F (b + 1) - F b) (F b) 0 zF (by omega) (by omega)
        rw [Nat.zero_add] at this
        exact this
      have hlen := zv_ilen h (F (b + 1) - F b) (F b)
      obtain ⟨ty, t1, t2, t3⟩ := f8 b6
      have e269 : ∀ h2 : zs_H, h2.2 = h.2 → f_Jd_judgeCall_269 h2 (nI i) (nI (9 + b)) = some (zs_uM (zs_uM h2 16 i (nI (9 + b))) 14 i (nI ty)) := by
        intro h2 e2
        unfold f_Jd_judgeCall_269
        rw [e2, if_pos (zi_in (by omega) hi), if_pos (zi_in (by omega) (by omega)), nI_clamp (show 9 + b < 2147483648 by omega), f1, if_pos (zi_in (by omega) (by omega)), nI_clamp (show 32 + F b < 2147483648 by omega), t2, zv_nar3 t1, nI_clamp (show i < 2147483648 by omega)]
      have e96 : ∀ g2 : zs_H, g2.2 = g.2 → f_Mo_callOwn_96 g2 (nI k) (nI b) = some (zs_uM (zs_uM g2 102 k (nI b)) 100 k (nI ty)) := by
        intro g2 e2
        unfold f_Mo_callOwn_96
        rw [e2, if_pos (zi_in (by omega) hk), if_pos (zi_in (by omega) (by omega)), nI_clamp (show b < 2147483648 by omega), nI_clamp (show k < 2147483648 by omega), t3]
      have eC5 : f_Jd_judgeCall h (nI i) = if l.length = (zv_il h (F (b + 1) - F b) (F b)).length then f_Jd_judgeCall_150 h (nI i) (nI l.length) (nI (9 + b)) 0 else f_Jd_judgeCall_150 h (nI i) (nI l.length) (nI (9 + b)) 1 := by
        rw [eC, eC65, b2, if_neg (zc_m1 (by omega)), if_neg (fun z => by have := (nI_eq (by omega) (by omega)).mp z; omega), if_pos (zi_in (by omega) (by omega)), nI_clamp (show 9 + b < 2147483648 by omega), b6, if_pos (show nI 1 = 1 from rfl), hiC, Option.bind_some]
        simp only [nI_eq (show l.length < 2147483648 by omega) (show (zv_il h (F (b + 1) - F b) (F b)).length < 2147483648 by omega)]
      have eM5 : f_Mo_lookAtExpressions g (nI k) = if l.length = (zv_il h (F (b + 1) - F b) (F b)).length then f_Mo_callOwn_15 g (nI k) (nI b) 0 else f_Mo_callOwn_15 g (nI k) (nI b) 1 := by
        rw [eM0, b4, Option.bind_some, if_neg (zv_neg (show b < 2147483648 by omega)).2, if_pos (zi_in (by omega) (by omega)), nI_clamp (show b < 2147483648 by omega), b7, if_pos (show nI 1 = 1 from rfl)]
        unfold f_Mo_lookAtCall_48 f_Mo_lookAtCall_62 f_Mo_lookAtCall_63
        rw [if_neg (by decide), if_pos (zv_neg (show b < 2147483648 by omega)).1, zv_rule0, Option.bind_some, if_pos (zi_in (by omega) hk), nI_clamp (show k < 2147483648 by omega)]
        have := ya_cntM (s := -1) (b := nI b) hk l ((g.2.1 76) k) 0 1 (-1) zF m3 (by omega)
        rw [Nat.zero_add] at this
        rw [show f_Mo_lookAtCall_L86 zF g (nI k) (-1) (nI b) 0 1 (-1) ((g.2.1 76) k) = _ from this]
        unfold f_Mo_lookAtCall_86 f_Mo_callOwn
        rw [if_pos (by decide), J2, if_pos (by decide), if_neg (by decide), hiM, Option.bind_some, Option.bind_fun_some]
        simp only [nI_eq (show l.length < 2147483648 by omega) (show (zv_il h (F (b + 1) - F b) (F b)).length < 2147483648 by omega)]
      by_cases zl : l.length = (zv_il h (F (b + 1) - F b) (F b)).length
      · rw [if_pos zl] at eC5 eM5
        have eC6 : f_Jd_judgeCall h (nI i) = f_Jd_judgeCall_L173 zF h (nI i) (nI (0 + l.length)) ((h.2.1 17) i) (nI (9 + b)) (-1) (nI 0) := by
          rw [eC5, Nat.zero_add]
          unfold f_Jd_judgeCall_150
          rw [zv_ref0, Option.bind_some, if_pos (zi_in (by omega) hi), nI_clamp (show i < 2147483648 by omega)]
          rfl
        have eM6 : f_Mo_lookAtExpressions g (nI k) = f_Mo_callOwn_L32 zF g (nI k) (nI b) (nI 0) ((g.2.1 76) k) := by
          rw [eM5]
          unfold f_Mo_callOwn_15
          rw [zv_rule0, Option.bind_some, if_pos (zi_in (by omega) hk), nI_clamp (show k < 2147483648 by omega)]
          rfl
        obtain ⟨h', g', x1, x2, x3⟩ := ya_args (h := h) (g := g) (i := i) (k := k) (b := b) (lo := F b) (e := F (b + 1)) J1 J2 hi hk (by omega) (by omega) f3 f1 f2 f5 f7 (by omega) l ((h.2.1 17) i) ((g.2.1 76) k) (-1) (F b) (F (b + 1) - F b) 0 zF zF c3 m3 (by omega) (Nat.le_refl _) rfl zl.symm (by omega) (by
          unfold zd_max
          rw [if_pos (show (-1 + 1 : Int32) < nI (32 + F b) from (zc_lt (k := 0) (by decide) (by omega)).mpr (by omega))]) (by omega) (by omega)
        rw [eC6, eM6, x1, x2]
        rcases x3 with ⟨y1, y2, y3⟩ | ⟨y1, y2⟩
        · subst y1; subst y2
          rw [e269 _ rfl, e96 _ rfl]
          exact ⟨_, _, rfl, rfl, .inr ⟨b, ty, b1, t1, ⟨b6, (I.2.2.2.2.1.2.2.2 b (by omega) b6).1, t2, y3⟩, zl, rfl, rfl, b7, b4⟩⟩
        · subst y1; subst y2
          rw [e269 (zv_rf 26 i h) rfl, e96 (zv_ru 26 k g) rfl]
          exact ⟨_, _, rfl, rfl, .inl (zv_mkF (φ := 26) (by decide) (by decide) c2 m2 zfr_rfl zfr_rfl (zfr_M (by decide) (zfr_M (by decide) zfr_rfl)) (zfr_M (by decide) (zfr_M (by decide) zfr_rfl)))⟩
      · rw [if_neg zl] at eC5 eM5
        have hzz : zF = 18446744073709551615 + 1 := rfl
        have eC6 : f_Jd_judgeCall h (nI i) = f_Jd_judgeCall_269 (zv_rf 25 i h) (nI i) (nI (9 + b)) := by
          rw [eC5]
          unfold f_Jd_judgeCall_150
          rw [show (25 : Int32) = nI 25 from rfl, zv_ref1 (by decide) J1 hi, Option.bind_some, if_pos (zi_in (by omega) hi), hzz]
          show f_Jd_judgeCall_173 _ (zv_rf 25 i h) (nI i) (nI l.length) _ (nI (9 + b)) (-1) 0 = _
          unfold f_Jd_judgeCall_173
          rw [if_neg (zv_rff (φ := 25) (i := i) (h := h) (by decide) (by decide)), ite_self]
        have eM6 : f_Mo_lookAtExpressions g (nI k) = f_Mo_callOwn_96 (zv_ru 25 k g) (nI k) (nI b) := by
          rw [eM5]
          unfold f_Mo_callOwn_15
          rw [show (25 : Int32) = nI 25 from rfl, zv_rule1 (by decide) J2 hk, Option.bind_some, if_pos (zi_in (by omega) hk), hzz]
          show f_Mo_callOwn_32 _ (zv_ru 25 k g) (nI k) (nI b) 0 _ = _
          unfold f_Mo_callOwn_32
          rw [if_neg (zv_ruf (φ := 25) (k := k) (g := g) (by decide) (by decide)), ite_self]
        rw [eC6, eM6, e269 (zv_rf 25 i h) rfl, e96 (zv_ru 25 k g) rfl]
        exact ⟨_, _, rfl, rfl, .inl (zv_mkF (φ := 25) (by decide) (by decide) c2 m2 zfr_rfl zfr_rfl (zfr_M (by decide) (zfr_M (by decide) zfr_rfl)) (zfr_M (by decide) (zfr_M (by decide) zfr_rfl)))⟩
    · have : ∃ h' g', f_Jd_judgeCall h (nI i) = some h' ∧ f_Mo_lookAtExpressions g (nI k) = some g' ∧ zv_Fb h g h' g' := by
        have n1 : ¬ nI kd = 1 := fun z => k1 ((zc_eq (k := 1) (by decide) (by omega)).mp z)
        apply bad
        · rw [eC65, b2, if_neg (zc_m1 (by omega)), if_neg (fun z => by have := (nI_eq (by omega) (by omega)).mp z; omega), if_pos (zi_in (by omega) (by omega)), nI_clamp (show 9 + b < 2147483648 by omega), b6, if_neg n1]
        · rw [eM0, b4, Option.bind_some, if_neg (zv_neg (show b < 2147483648 by omega)).2, if_pos (zi_in (by omega) (by omega)), nI_clamp (show b < 2147483648 by omega), b7, if_neg n1]
      obtain ⟨h', g', x1, x2, x3⟩ := this
      exact ⟨h', g', x1, x2, .inl x3⟩
  · have : ∃ h' g', f_Jd_judgeCall h (nI i) = some h' ∧ f_Mo_lookAtExpressions g (nI k) = some g' ∧ zv_Fb h g h' g' := by
      apply bad
      · rw [eC65]
        rcases b1 with z | z
        · rw [if_pos z]
        · rw [if_pos z, ite_self]
      · rw [eM0, b3, Option.bind_some, if_pos (by decide)]
    obtain ⟨h', g', x1, x2, x3⟩ := this
    exact ⟨h', g', x1, x2, .inl x3⟩
end
section
/-! The judge: calls of standard functions (25, 26): the class. -/
def ya_ok (h : zs_H) (i t : Nat) (x : Int32) : Prop := (x = -1 ∧ t = 1) ∨ ∃ a, x = nI a ∧ a < 32784 ∧ ¬ a = i ∧ (h.2.1 14) a = nI t
abbrev ya_con (h : zs_H) (x : Int32) : Prop := x = -1 ∨ zv_kc h x.toNatClampNeg
def ya_val (h : zs_H) (x : Int32) : Int32 := if x = -1 then 0 else (h.2.1 16) x.toNatClampNeg
def ya_h2 (h : zs_H) (i s ty : Nat) : zs_H := zs_uM (zs_uM (zs_uM h 13 i 39) 16 i (nI s)) 14 i (nI ty)
theorem ya_T1 : ∀ s, s < 10 → ∀ t1, t1 < 3 → ∀ t2, t2 < 3 → ∀ t3, t3 < 3 → f_Jd_standardType (nI s) (nI t1) (nI t2) (nI t3) = -1 ∨ ((f_Jd_standardType (nI s) (nI t1) (nI t2) (nI t3)).toNatClampNeg < 3 ∧ f_Jd_standardType (nI s) (nI t1) (nI t2) (nI t3) = nI (f_Jd_standardType (nI s) (nI t1) (nI t2) (nI t3)).toNatClampNeg) := by decide +kernel
theorem ya_T2 : ∀ s, s < 10 → zt_4.getD s 0 = nI ([1, 2, 2, 3, 3, 2, 2, 1, 1, 1].getD s 0) := by decide +kernel
theorem ya_tot {s : Nat} (hs : s < 10) (t x y z : Int32) : ∃ v, f_Cd_standard (nI s) t x y z = some v := by
  unfold f_Cd_standard
  rw [if_pos (zi_in (show s < 2147483648 by omega) hs)]
  obtain ⟨v, e⟩ := zv_two (f_Cd_standardKind (nI s) t) x y
  rw [e, Option.bind_some, ← Option.isSome_iff_exists]
  repeat' (first | rfl | (apply zv_ois <;> intro _))
section YS
variable {h : zs_H} {i s a t1 t2 t3 ty : Nat} {x5 x6 : Int32}
theorem ya_h2k (hai : ¬ a = i) : ((ya_h2 h i s ty).2.1 13) a = (h.2.1 13) a ∧ ((ya_h2 h i s ty).2.1 16) a = (h.2.1 16) a := by
  unfold ya_h2
  refine ⟨?_, ?_⟩
  · rw [zu_MM, if_neg (fun z => absurd z.1 (by decide)), zu_MM, if_neg (fun z => absurd z.1 (by decide)), zu_MM, if_neg (fun z => hai z.2)]
  · rw [zu_MM, if_neg (fun z => absurd z.1 (by decide)), zu_MM, if_neg (fun z => hai z.2), zu_MM, if_neg (fun z => absurd z.1 (by decide))]
theorem ya_isc (ok : ya_ok h i t1 x5) (hn : ¬ x5 = -1) : f_Tr_isConstant (ya_h2 h i s ty) x5 = some (if ya_con h x5 then 1 else 0) := by
  rcases ok with ⟨z, _⟩ | ⟨a, e1, e2, e3, _⟩
  · exact absurd z hn
  · subst e1
    have hk := (ya_h2k (h := h) (s := s) (ty := ty) e3).1
    unfold ya_con
    rw [nI_clamp (show a < 2147483648 by omega)]
    by_cases z : zv_kc h a
    · rw [zv_isC1 e2 (by unfold zv_kc; rw [hk]; exact z), if_pos (.inr z)]
    · rw [zv_isC0 e2 (by unfold zv_kc; rw [hk]; exact z), if_neg (fun u => u.elim (fun u => zc_m1 (by omega) u) z)]
theorem ya_std59 (J1 : (h.1 38 3) = 0) (hi : i < 32784) (hs : s < 10) (ok1 : ya_ok h i t1 (nI a)) (ha : a < 32784) (hai : ¬ a = i) (c4 : (h.2.1 14) a = nI t1) (ok2 : ya_ok h i t2 x5) (ok3 : ya_ok h i t3 x6) (hty : ¬ f_Jd_standardType (nI s) (nI t1) (nI t2) (nI t3) = -1 → f_Jd_standardType (nI s) (nI t1) (nI t2) (nI t3) = nI ty ∧ ty < 3) :
    f_Jd_judgeStandardCall_59 h (nI i) (nI s) (nI a) x5 x6 = if f_Jd_standardType (nI s) (nI t1) (nI t2) (nI t3) = -1 then some (zv_rf 26 i h) else (if ya_con h (nI a) ∧ ya_con h x5 ∧ ya_con h x6 then (f_Cd_standard (nI s) (nI ty) ((h.2.1 16) a) (ya_val h x5) (ya_val h x6)).bind (fun v => some (zv_fo i v (ya_h2 h i s ty))) else some (ya_h2 h i s ty)) := by
  have e59 : f_Jd_judgeStandardCall_59 h (nI i) (nI s) (nI a) x5 x6 = f_Jd_judgeStandardCall_103 h (nI i) (nI s) (nI a) x5 x6 (nI t2) (nI t3) := by
    have e81 : ∀ y, f_Jd_judgeStandardCall_81 h (nI i) (nI s) (nI a) x5 x6 y = f_Jd_judgeStandardCall_103 h (nI i) (nI s) (nI a) x5 x6 y (nI t3) := by
      intro y
      unfold f_Jd_judgeStandardCall_81
      rcases ok3 with ⟨z, z2⟩ | ⟨b, e1, e2, e3, e4⟩
      · rw [if_pos z, z2]; rfl
      · rw [e1, if_neg (zc_m1 (by omega)), if_pos (zi_in (by omega) e2), nI_clamp (show b < 2147483648 by omega), e4]
    unfold f_Jd_judgeStandardCall_59
    rcases ok2 with ⟨z, z2⟩ | ⟨b, e1, e2, e3, e4⟩
    · rw [if_pos z, z2, e81]; rfl
    · have n1 : ¬ x5 = -1 := by rw [e1]; exact zc_m1 (by omega)
      rw [if_neg n1, e81, e1, if_pos (zi_in (by omega) e2), nI_clamp (show b < 2147483648 by omega), e4]
  have ev : ∀ {t : Nat} {x : Int32}, ya_ok h i t x → ¬ x = -1 → ∃ b, x = nI b ∧ b < 32784 ∧ ((ya_h2 h i s ty).2.1 16) b = ya_val h x := by
    intro t x ok hn
    rcases ok with ⟨z, _⟩ | ⟨b, e1, e2, e3, _⟩
    · exact absurd z hn
    · refine ⟨b, e1, e2, ?_⟩
      unfold ya_val
      rw [if_neg hn, e1, nI_clamp (show b < 2147483648 by omega)]
      exact (ya_h2k e3).2
  rw [e59]
  unfold f_Jd_judgeStandardCall_103
  simp only [if_pos (zi_in (show a < 2147483648 by omega) ha), nI_clamp (show a < 2147483648 by omega), c4]
  by_cases zb : f_Jd_standardType (nI s) (nI t1) (nI t2) (nI t3) = -1
  · rw [if_pos zb, if_pos zb, show (26 : Int32) = nI 26 from rfl, zv_refu J1 hi, Option.bind_some]; rfl
  · obtain ⟨hT, ht⟩ := hty zb
    rw [if_neg zb, if_neg zb, hT, zv_nar3 ht, if_pos (zi_in (by omega) hi), nI_clamp (show i < 2147483648 by omega)]
    have eh : zs_uM (zs_uM (zs_uM h 13 i (vp_nar .byte 39)) 16 i (nI s)) 14 i (nI ty) = ya_h2 h i s ty := rfl
    rw [eh, ya_isc ok1 (zc_m1 (by omega)), Option.bind_some]
    -- what comes behind the constants
    have e274 : ∀ y z, f_Jd_judgeStandardCall_274 (ya_h2 h i s ty) (nI i) (nI s) (nI a) (nI ty) y z = (f_Cd_standard (nI s) (nI ty) ((h.2.1 16) a) y z).bind (fun v => some (zv_fo i v (ya_h2 h i s ty))) := by
      intro y z
      unfold f_Jd_judgeStandardCall_274
      rw [if_pos (zi_in (by omega) ha), nI_clamp (show a < 2147483648 by omega), (ya_h2k hai).2]
      refine congrArg _ (funext fun v => ?_)
      rw [zv_fold1 hi, Option.bind_some]
    have e252 : ∀ y, f_Jd_judgeStandardCall_252 (ya_h2 h i s ty) (nI i) (nI s) (nI a) x6 (nI ty) y = (f_Cd_standard (nI s) (nI ty) ((h.2.1 16) a) y (ya_val h x6)).bind (fun v => some (zv_fo i v (ya_h2 h i s ty))) := by
      intro y
      unfold f_Jd_judgeStandardCall_252
      rw [e274]
      by_cases z : x6 = -1
      · rw [if_pos z]; unfold ya_val; rw [if_pos z]
      · obtain ⟨b, b1, b2, b3⟩ := ev ok3 z
        rw [if_neg z, e274]
        rw [if_pos (by rw [b1]; exact zi_in (by omega) b2), show ((ya_h2 h i s ty).2.1 16) x6.toNatClampNeg = ya_val h x6 from by rw [← b3, b1, nI_clamp (show b < 2147483648 by omega)]]
    have e225 : f_Jd_judgeStandardCall_225 (ya_h2 h i s ty) (nI i) (nI s) (nI a) x5 x6 (nI ty) 1 = (f_Cd_standard (nI s) (nI ty) ((h.2.1 16) a) (ya_val h x5) (ya_val h x6)).bind (fun v => some (zv_fo i v (ya_h2 h i s ty))) := by
      unfold f_Jd_judgeStandardCall_225
      rw [if_neg (by decide), e252]
      by_cases z : x5 = -1
      · rw [if_pos z]; unfold ya_val; rw [if_pos z]
      · obtain ⟨b, b1, b2, b3⟩ := ev ok2 z
        rw [if_neg z, e252]
        rw [if_pos (by rw [b1]; exact zi_in (by omega) b2), show ((ya_h2 h i s ty).2.1 16) x5.toNatClampNeg = ya_val h x5 from by rw [← b3, b1, nI_clamp (show b < 2147483648 by omega)]]
    have e224 : f_Jd_judgeStandardCall_224 (ya_h2 h i s ty) (nI i) (nI s) (nI a) x5 x6 (nI ty) = some (ya_h2 h i s ty) := by
      unfold f_Jd_judgeStandardCall_224 f_Jd_judgeStandardCall_225
      rw [if_pos rfl]
    have e202 : f_Jd_judgeStandardCall_202 (ya_h2 h i s ty) (nI i) (nI s) (nI a) x5 x6 (nI ty) = if ya_con h x6 then (f_Cd_standard (nI s) (nI ty) ((h.2.1 16) a) (ya_val h x5) (ya_val h x6)).bind (fun v => some (zv_fo i v (ya_h2 h i s ty))) else some (ya_h2 h i s ty) := by
      unfold f_Jd_judgeStandardCall_202 f_Jd_judgeStandardCall_220
      rw [e225, e224]
      by_cases z : x6 = -1
      · rw [if_pos z, if_pos (show ya_con h x6 from .inl z)]
      · rw [if_neg z, ya_isc ok3 z, Option.bind_some]
        by_cases zc : ya_con h x6
        · rw [if_pos zc, if_pos zc, if_neg (by decide)]
        · rw [if_neg zc, if_neg zc, if_pos rfl]
    rw [e202, e224]
    by_cases za : ya_con h (nI a)
    · rw [if_pos za, if_neg (by decide)]
      by_cases z5 : x5 = -1
      · rw [if_pos z5]
        have c5 : ya_con h x5 := .inl z5
        by_cases z6 : ya_con h x6
        · rw [if_pos z6, if_pos ⟨za, c5, z6⟩]
        · rw [if_neg z6, if_neg (fun u => z6 u.2.2)]
      · rw [if_neg z5, ya_isc ok2 z5, Option.bind_some]
        by_cases c5 : ya_con h x5
        · rw [if_pos c5, if_neg (by decide)]
          by_cases z6 : ya_con h x6
          · rw [if_pos z6, if_pos ⟨za, c5, z6⟩]
          · rw [if_neg z6, if_neg (fun u => z6 u.2.2)]
        · rw [if_neg c5, if_pos rfl, if_neg (fun u => c5 u.2.1)]
    · rw [if_neg za, if_pos rfl, if_neg (fun u => za u.1)]
end YS
end
section
/-! The judge: calls of standard functions (25, 26): both sides. -/
def ya_ar (s : Nat) : Nat := [1, 2, 2, 3, 3, 2, 2, 1, 1, 1].getD s 0
def ya_bM (s : Nat) (fl : Int32) : Int32 := if s = 7 then 0 else if s = 8 then 0 else if fl = 0 then 1 else 0
def ya_tM (s t1 : Nat) (wd : Int32) : Int32 := if 4 ≤ s then (if 7 ≤ s then (if s = 9 then 0 else nI s - 6) else nI t1) else wd
def ya_chk (s t1 : Nat) (l : List Nat) : Bool := (decide (ya_bM s (ya_fl 1 l) = 1) && decide (f_Jd_standardType (nI s) (nI t1) (nI (l.getD 1 1)) (nI (l.getD 2 1)) = -1)) || (decide (ya_bM s (ya_fl 1 l) = 0) && decide (f_Jd_standardType (nI s) (nI t1) (nI (l.getD 1 1)) (nI (l.getD 2 1)) = ya_tM s t1 (ya_wd (-1) l)) && decide (¬ ya_tM s t1 (ya_wd (-1) l) = -1))
theorem ya_T3 : ∀ s, s < 10 → ¬ s = 4 → ∀ t1, t1 < 3 → ∀ t2, t2 < 3 → ∀ t3, t3 < 3 → ya_chk s t1 ([t1, t2, t3].take (ya_ar s)) = true := by decide +kernel
theorem ya_T4 : ∀ t1, t1 < 3 → ∀ t2, t2 < 3 → ∀ t3, t3 < 3 → f_Jd_standardType (nI 4) (nI t1) (nI t2) (nI t3) = if t1 = 0 ∧ (t2 = 0 ↔ t3 = 0) then nI (max t2 t3) else -1 := by decide +kernel
theorem ya_T5 : ∀ s, s < 10 → 1 ≤ ya_ar s ∧ ya_ar s ≤ 3 := by decide +kernel
section YD
variable {g : zs_H} {k ka s t1 : Nat} {fl wd : Int32}
theorem ya_206 (J2 : (g.1 68 29) = 0) (hk : k < 33500) (hs : s < 10) (h4 : ¬ s = 4) (m3 : (g.2.1 76) k = nI ka) (hka : ka < 33500) (m4 : (g.2.1 100) ka = nI t1) : f_Mo_lookAtCall_206 g (nI k) (nI s) fl wd 0 = (f_Mo_rule (zs_uM g 102 k (nI (100 + s))) (ya_bM s fl) 26 (nI k)).bind fun h2 => some (zs_uM h2 100 k (ya_tM s t1 wd)) := by
  have e4 : (nI s = 4) ↔ s = 4 := zc_eq (k := 4) (by decide) (by omega)
  have e7 : (nI s = 7) ↔ s = 7 := zc_eq (k := 7) (by decide) (by omega)
  have e8 : (nI s = 8) ↔ s = 8 := zc_eq (k := 8) (by decide) (by omega)
  have e9 : (nI s = 9) ↔ s = 9 := zc_eq (k := 9) (by decide) (by omega)
  have l4 : (4 ≤ nI s) ↔ 4 ≤ s := zc_le (k := 4) (by decide) (by omega)
  have l7 : (7 ≤ nI s) ↔ 7 ≤ s := zc_le (k := 7) (by decide) (by omega)
  have e100 : (100 : Int32) + nI s = nI (100 + s) := (Int32.ofNat_add 100 s).symm
  have g424 : ∀ (x : Int32) (h2 : zs_H), f_Mo_lookAtCall_424 h2 x (nI k) = some (zs_uM h2 100 k x) := by
    intro x h2
    unfold f_Mo_lookAtCall_424
    rw [if_pos (zi_in (by omega) hk), nI_clamp (show k < 2147483648 by omega)]
  have g369 : ∀ y, f_Mo_lookAtCall_369 (zs_uM g 102 k (nI (100 + s))) (nI k) (nI s) wd y = (f_Mo_rule (zs_uM g 102 k (nI (100 + s))) y 26 (nI k)).bind fun h2 => some (zs_uM h2 100 k (ya_tM s t1 wd)) := by
    intro y
    unfold f_Mo_lookAtCall_369 ya_tM
    simp only [g424, l4, l7, e9, if_pos (zi_in (show k < 2147483648 by omega) hk), nI_clamp (show k < 2147483648 by omega)]
    have key : ∀ h2 : zs_H, f_Mo_rule (zs_uM g 102 k (nI (100 + s))) y 26 (nI k) = some h2 → (h2.2.1 76) k = nI ka ∧ (h2.2.1 100) ka = nI t1 := by
      intro h2 e
      have J2' : ((zs_uM g 102 k (nI (100 + s))).1 68 29) = 0 := J2
      by_cases zy : y = 0
      · rw [zy, zv_rule0] at e
        rw [← Option.some.inj e]
        exact ⟨by rw [zu_MM, if_neg (fun z => absurd z.1 (by decide))]; exact m3, by rw [zu_MM, if_neg (fun z => absurd z.1 (by decide))]; exact m4⟩
      · rw [show (26 : Int32) = nI 26 from rfl, zv_rule1 zy J2' hk] at e
        rw [← Option.some.inj e]
        exact ⟨by show ((zs_uM g 102 k (nI (100 + s))).2.1 76) k = _; rw [zu_MM, if_neg (fun z => absurd z.1 (by decide))]; exact m3, by show ((zs_uM g 102 k (nI (100 + s))).2.1 100) ka = _; rw [zu_MM, if_neg (fun z => absurd z.1 (by decide))]; exact m4⟩
    cases e : f_Mo_rule (zs_uM g 102 k (nI (100 + s))) y 26 (nI k) with
    | none => rfl
    | some h2 =>
      obtain ⟨k1, k2⟩ := key h2 e
      rw [Option.bind_some, Option.bind_some, k1, if_pos (zi_in (by omega) hka), nI_clamp (show ka < 2147483648 by omega), k2]
      by_cases z4 : 4 ≤ s
      · by_cases z7 : 7 ≤ s
        · by_cases z9 : s = 9
          · rw [if_pos z4, if_pos z7, if_pos z9, if_pos z4, if_pos z7, if_pos z9]
          · simp only [z4, z7, z9, if_true, if_false]
        · simp only [z4, z7, if_true, if_false]
      · simp only [z4, if_false]
  unfold f_Mo_lookAtCall_206 f_Mo_lookAtCall_368 ya_bM
  rw [zv_rule0, Option.bind_some, J2, if_pos (by decide), if_pos (zi_in (by omega) hk), nI_clamp (show k < 2147483648 by omega), e100, g369, g369, if_neg (mt e4.mp h4)]
  simp only [e7, e8]
  by_cases z7 : s = 7
  · simp only [z7, if_true]
  · by_cases z8 : s = 8
    · rw [if_neg z7, if_pos z8, if_neg z7, if_pos z8]
    · by_cases zf : fl = 0
      · simp only [z7, z8, zf, if_true, if_false]
      · simp only [z7, z8, zf, if_false]
theorem ya_206s {kb kc t2 t3 : Nat} (J2 : (g.1 68 29) = 0) (hk : k < 33500) (m3 : (g.2.1 76) k = nI ka) (hka : ka < 33500) (m4 : (g.2.1 100) ka = nI t1) (m5 : (g.2.1 78) ka = nI kb) (hkb : kb < 33500) (m6 : (g.2.1 100) kb = nI t2) (m7 : (g.2.1 77) k = nI kc) (hkc : kc < 33500) (m8 : (g.2.1 100) kc = nI t3) (h1 : t1 < 3) (h2 : t2 < 3) (h3 : t3 < 3) : f_Mo_lookAtCall_206 g (nI k) (nI 4) fl wd 0 = (f_Mo_rule (zs_uM g 102 k (nI 104)) (if t1 = 0 ∧ (t2 = 0 ↔ t3 = 0) then 0 else 1) 26 (nI k)).bind fun h2 => some (zs_uM h2 100 k (nI (max t2 t3))) := by
  have A : ∀ z j, ¬ z = 102 → (zs_uM g 102 k (nI 104)).2.1 z j = g.2.1 z j := fun z j hz => by rw [zu_MM, if_neg (fun u => hz u.1)]
  have g324 : ∀ y, f_Mo_lookAtCall_324 (zs_uM g 102 k (nI 104)) (nI k) (nI t2) (nI t3) y = (f_Mo_rule (zs_uM g 102 k (nI 104)) y 26 (nI k)).bind fun h2 => some (zs_uM h2 100 k (nI (max t2 t3))) := by
    intro y
    unfold f_Mo_lookAtCall_324
    simp only [if_pos (zi_in (show k < 2147483648 by omega) hk), nI_clamp (show k < 2147483648 by omega), zv_widM h2 h3]
  have g297 : ∀ y, f_Mo_lookAtCall_297 (zs_uM g 102 k (nI 104)) (nI k) (nI t2) (nI t3) y = if t1 = 0 ∧ ¬ y = 0 then f_Mo_lookAtCall_324 (zs_uM g 102 k (nI 104)) (nI k) (nI t2) (nI t3) 0 else f_Mo_lookAtCall_324 (zs_uM g 102 k (nI 104)) (nI k) (nI t2) (nI t3) 1 := by
    intro y
    unfold f_Mo_lookAtCall_297 f_Mo_lookAtCall_319
    simp only [if_pos (zi_in (show k < 2147483648 by omega) hk), nI_clamp (show k < 2147483648 by omega), A _ _ (show ¬ (76 : Nat) = 102 by decide), m3, if_pos (zi_in (show ka < 2147483648 by omega) hka), nI_clamp (show ka < 2147483648 by omega), A _ _ (show ¬ (100 : Nat) = 102 by decide), m4, zv_t0 h1]
    by_cases z1 : t1 = 0
    · by_cases z2 : y = 0
      · simp only [z1, z2, if_true, not_true, and_false, if_false]
      · simp only [z1, z2, if_true, not_false_iff, and_self, if_false]
    · simp only [z1, if_false, false_and]
  have g276 : f_Mo_lookAtCall_276 (zs_uM g 102 k (nI 104)) (nI k) (nI t2) (nI t3) = f_Mo_lookAtCall_297 (zs_uM g 102 k (nI 104)) (nI k) (nI t2) (nI t3) (if t2 = 0 then 0 else if t3 = 0 then 0 else 1) := by
    unfold f_Mo_lookAtCall_276 f_Mo_lookAtCall_296 f_Mo_lookAtCall_292
    rw [zv_isn h2, zv_isn h3]
    by_cases z2 : t2 = 0
    · simp (config := { decide := true }) only [z2, if_true]
    · by_cases z3 : t3 = 0
      · simp (config := { decide := true }) only [z2, z3, if_true, if_false]
      · simp (config := { decide := true }) only [z2, z3, if_false]
  unfold f_Mo_lookAtCall_206 f_Mo_lookAtCall_292
  rw [zv_rule0, Option.bind_some, J2, if_pos (by decide), if_pos (zi_in (by omega) hk), if_pos (show nI 4 = 4 from rfl), nI_clamp (show k < 2147483648 by omega), m3, if_pos (zi_in (by omega) hka), nI_clamp (show ka < 2147483648 by omega), m5, if_pos (zi_in (by omega) hkb), m7, if_pos (zi_in (by omega) hkc), nI_clamp (show kb < 2147483648 by omega), nI_clamp (show kc < 2147483648 by omega), m6, m8, show (100 : Int32) + nI 4 = nI 104 from rfl, g276, g297, g297, g324, g324]
  simp only [zv_t0 h2, zv_t0 h3]
  by_cases z1 : t1 = 0
  · by_cases z2 : t2 = 0
    · by_cases z3 : t3 = 0
      · simp (config := { decide := true }) only [z1, z2, z3, if_true, and_self]
      · simp (config := { decide := true }) only [z1, z2, z3, if_true, if_false]
    · by_cases z3 : t3 = 0
      · simp (config := { decide := true }) only [z1, z2, z3, if_true, if_false]
      · simp (config := { decide := true }) only [z1, z2, z3, if_true, if_false]
  · by_cases z2 : t2 = 0
    · by_cases z3 : t3 = 0
      · simp (config := { decide := true }) only [z1, z2, z3, if_true, if_false, false_and]
      · simp (config := { decide := true }) only [z1, z2, z3, if_true, if_false, false_and]
    · simp (config := { decide := true }) only [z1, z2, if_false, false_and]
end YD
end
