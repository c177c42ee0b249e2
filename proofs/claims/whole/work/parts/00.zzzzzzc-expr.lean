/-! The coder: what is known of an expression's code. -/
/-- how many numbers an instruction takes from the stack, how many it lays there -/
def yo_t (o : Nat) : Nat := [0, 0, 1, 1, 2, 0, 1, 2, 1, 3, 0, 1].getD o 0
def yo_l (o : Nat) : Nat := [1, 1, 0, 1, 0, 1, 0, 1, 1, 1].getD o 0
/-- how high the stack is behind a row of instructions -/
def yo_h : Nat → List yI → Option Nat
  | d, [] => some d
  | d, i :: L => if yo_t i.1 ≤ d then yo_h (d - yo_t i.1 + yo_l i.1) L else none
theorem yo_ap : ∀ (A B : List yI) (d : Nat), yo_h d (A ++ B) = (yo_h d A).bind fun e => yo_h e B := by
  intro A
  induction A with
  | nil => intro B d; rfl
  | cons i A ih =>
    intro B d
    show (if yo_t i.1 ≤ d then yo_h (d - yo_t i.1 + yo_l i.1) (A ++ B) else none) = (if yo_t i.1 ≤ d then yo_h (d - yo_t i.1 + yo_l i.1) A else none).bind _
    split
    · exact ih B _
    · rfl
theorem yo_1 {A B : List yI} {d e : Nat} (h : yo_h d A = some e) : yo_h d (A ++ B) = yo_h e B := by rw [yo_ap, h]; rfl
/-- an instruction of an expression of block b: its numbers are in their bounds -/
def yo_i (X : Nat → Nat) (fn : Nat → Prop) (b : Nat) (i : yI) : Prop :=
  i.1 = 0 ∨ i.1 = 9 ∨ (i.1 = 1 ∧ ∃ x, i.2.1 = nI x ∧ x < X b) ∨ (i.1 = 3 ∧ ∃ x s, i.2.1 = nI x ∧ i.2.2.2 = nI s ∧ x + s ≤ X b) ∨ (i.1 = 5 ∧ i.2.2.1 = 0 ∧ ∃ u, i.2.1 = nI u ∧ u < b ∧ fn u) ∨ (i.1 = 6 ∧ ∃ u x, i.2.1 = nI u ∧ i.2.2.1 = nI x ∧ u < b ∧ fn u ∧ x < X u) ∨ (i.1 = 7 ∧ ∃ k, i.2.1 = nI k ∧ k < 25) ∨ (i.1 = 8 ∧ ∃ k, i.2.1 = nI k ∧ k < 8) ∨ (i.1 = 16 ∧ ∃ u, i.2.1 = nI u ∧ u < b ∧ fn u)
def yk_e (X : Nat → Nat) (fn : Nat → Prop) (b : Nat) (L : List yI) : Prop := (∀ d, yo_h d L = some (d + 1)) ∧ ∀ i, i ∈ L → yo_i X fn b i
/-- all blocks have been judged -/
def yk_cx (LC LM : List (List Int32)) (nb : Nat) (F X Y : Nat → Nat) (h0 g0 : zs_H) : Prop := zv_I LC LM nb nb (F nb) F (-1) h0 g0 ∧ zv_si (F nb) h0 ∧ ∀ b, b < nb → (X b ≤ 30000 ∧ Y b ≤ X b ∧ Y b ≤ 4096) ∧ (h0.2.1 26) (9 + b) = nI (X b) ∧ (g0.2.1 88) b = nI (X b) ∧ (h0.2.1 25) (9 + b) = nI (Y b) ∧ ((h0.2.1 21) (9 + b) = 3 → 960 ≤ Y b) ∧ ∀ v, F b ≤ v → v < F (b + 1) → zv_lv (F b) ((h0.2.1 21) (9 + b)) v h0 ∧ ((h0.2.1 21) (9 + b) = 1 → (h0.2.1 30) (32 + v) = -1 ∨ (h0.2.1 30) (32 + v) = -2)
section YKX
variable {LC LM : List (List Int32)} {nb b v : Nat} {F X Y : Nat → Nat} {h0 g0 : zs_H}
theorem yk_Q (C : yk_cx LC LM nb F X Y h0 g0) (hb : b < nb) (h1 : F b ≤ v) (h2 : v < F (b + 1)) : ∃ ty x s, (ty < 3 ∧ (h0.2.1 31) (32 + v) = nI ty) ∧ ((h0.2.1 32) (32 + v) = nI x ∧ (g0.2.1 94) v = nI x) ∧ ((h0.2.1 34) (32 + v) = nI s ∧ (g0.2.1 98) v = nI s) ∧ (g0.2.1 97) v = (h0.2.1 33) (32 + v) ∧ (g0.2.1 99) v = (h0.2.1 35) (32 + v) ∧ (x + s ≤ Y b ∧ v < 5900) ∧ (((h0.2.1 30) (32 + v) = -1 ∧ (g0.2.1 92) v = 0 ∧ (g0.2.1 93) v = nI ty ∧ s = 1) ∨ ((h0.2.1 30) (32 + v) = -2 ∧ (g0.2.1 92) v = 1 ∧ (g0.2.1 93) v = nI ty ∧ 1 ≤ s ∧ s ≤ 256) ∨ (∃ B, B < 9 + b ∧ (h0.2.1 30) (32 + v) = nI B ∧ (g0.2.1 92) v = 2 ∧ (g0.2.1 93) v = nI (if B < 9 then 100000 + B else B - 9) ∧ (9 ≤ B → (h0.2.1 21) B = 2) ∧ (h0.2.1 26) B = nI s)) := by
  obtain ⟨I, si, K⟩ := C
  obtain ⟨⟨k1, k2, k3⟩, k4, k5, k6, k7⟩ := K b hb
  have hF := I.2.1.2.2.2.1 b hb
  have V3 : F nb ≤ 5900 := I.2.1.2.1.2.2
  obtain ⟨ty, x, s, y, q1, q2, q3, q4, q5, q6, q7, q8, q9⟩ := I.2.2.2.1.2.1 b v hb h1 h2 (by omega)
  have ey : y = Y b := (nI_eq (by omega) (by omega)).mp (q4.symm.trans k6)
  refine ⟨ty, x, s, q1, q2, q3, q6, q7, ⟨?_, by omega⟩, q8⟩
  rcases q9 with ⟨_, z, _⟩ | ⟨p, p1, _, p3, p4, p5, p6⟩
  · omega
  · have := (zv_pcC p p1 p5).2
    have := k7.1 p3
    omega
theorem yk_T9 : ∀ B, B < 9 → zt_2.getD B 0 = nI (zt_2.getD B 0).toNatClampNeg ∧ (zt_2.getD B 0).toNatClampNeg < 100 ∧ ∀ v, v < 32 → zj_sv B ≤ v → v < zj_sv (B + 1) → zp_tN v 4 < (zt_2.getD B 0).toNatClampNeg := by decide +kernel
/-- a pin lies in its block -/
theorem yk_pin {Fb : Nat → Nat} {B cv s : Nat} (C : yk_cx LC LM nb F X Y h0 g0) (hb : b < nb) (hF : ∀ j, j ≤ b + 1 → Fb j = F j) (hB : B < 9 + b) (zB : zi_B Fb B cv) (hs : (h0.2.1 29) cv = 1 ∨ (h0.2.1 29) cv = 2) (ec : (h0.2.1 26) B = nI s) (hs2 : s ≤ 30000) : ∃ off, (h0.2.1 32) cv = nI off ∧ off < s ∧ cv < 6000 := by
  unfold zi_B at zB
  by_cases h9 : B < 9
  · rw [if_pos h9] at zB
    have r := zp_T5 B h9
    have hv : cv < 32 := by omega
    obtain ⟨t1, t2, t3⟩ := yk_T9 B h9
    obtain ⟨_, _, _, o4, o5, _⟩ := zp_T3 cv hv
    obtain ⟨ST1, ST2⟩ := C.1.2.1.2.2.1
    have e := (ST1 B h9).2.2.2
    rw [ec, t1] at e
    have es : s = (zt_2.getD B 0).toNatClampNeg := (nI_eq (by omega) (by omega)).mp e
    exact ⟨zp_tN cv 4, by rw [(ST2 cv hv).2.2.2.2]; exact o5, by rw [es]; exact t3 cv hv zB.1 zB.2, by omega⟩
  · rw [if_neg h9, hF _ (by omega), hF _ (by omega)] at zB
    obtain ⟨v, rfl⟩ : ∃ v, cv = 32 + v := ⟨cv - 32, by omega⟩
    have hb' : B - 9 < nb := by omega
    have e9 : 9 + (B - 9) = B := by omega
    have B3 : nb ≤ 568 := C.1.2.1.1.2.2
    have hFF := C.1.2.1.2.2.2.1 (B - 9) hb'
    have V3 : F nb ≤ 5900 := C.1.2.1.2.1.2.2
    obtain ⟨ty, x, s', q1, q2, q3, _, _, q6, q7⟩ := yk_Q C hb' (show F (B - 9) ≤ v by omega) (show v < F (B - 9 + 1) by omega)
    have i1 := C.2.1 v (by omega) hs
    have e1 : s' = 1 := by
      rcases q7 with ⟨_, _, _, e⟩ | ⟨e, _⟩ | ⟨B', hB', e, _⟩
      · exact e
      · rw [i1] at e; exact absurd e (by decide)
      · rw [i1] at e; exact absurd e.symm (zc_m1 (by omega))
    obtain ⟨⟨k1, k2, k3⟩, k4, _⟩ := C.2.2 (B - 9) hb'
    rw [e9, ec] at k4
    have es : s = X (B - 9) := (nI_eq (by omega) (by omega)).mp k4
    exact ⟨x, q2.1, by omega, by omega⟩
/-- what is known of the type of an expression's code -/
def yk_ty (h0 : zs_H) (b i : Nat) (L : List yI) : Prop := (∀ LD : Nat → Prop, yo_E (yq_b LD h0) b ((h0.2.1 14) i = 0) L) ∧ (zv_kc h0 i → (h0.2.1 14) i = 0 → (h0.2.1 16) i = 0 ∨ (h0.2.1 16) i = 1)
/-- all expressions of a forest -/
def yk_X (h0 g0 : zs_H) (X : Nat → Nat) (b : Nat) : zt_T → (Nat → Prop) → Int32 → Int32 → List (List yI) → Prop
  | .leaf, _, x, x', Ls => x = -1 ∧ x' = -1 ∧ Ls = []
  | .inner _ _ _ l r, Q, x, x', Ls => ∃ (i k : Nat) (Q1 Q2 : Nat → Prop) (L : List yI) (Lr : List (List yI)), Ls = L :: Lr ∧ (i < 32784 ∧ x = nI i) ∧ (Q k ∧ k < 33500 ∧ x' = nI k) ∧ (∀ j, Q1 j → Q j ∧ ¬ j = k) ∧ (∀ j, Q2 j → Q j) ∧ (yk_C h0 (zg_d l) (nI i) L ∧ yk_M g0 b Q1 (zg_d l) k L) ∧ ((L.length + 1 ≤ 6 * (1 + zt_sz l) ∧ yk_ty h0 b i L) ∧ yk_e X (fun u => (h0.2.1 21) (9 + u) = 1) b L) ∧ yk_X h0 g0 X b r Q2 ((h0.2.1 18) i) ((g0.2.1 78) k) Lr
theorem yk_Cm {dl dl2 : Nat} {x : Int32} {L : List yI} (h : dl ≤ dl2) (A : yk_C h0 dl x L) : yk_C h0 dl2 x L := fun D d n h' f e hn hD hd => A D d n h' f e hn (by omega) (by omega)
theorem yk_Mm {dl dl2 k : Nat} {Q : Nat → Prop} {L : List yI} (h : dl ≤ dl2) (A : yk_M g0 b Q dl k L) : yk_M g0 b Q dl2 k L := fun D n s v N top g f c hn hD ht hQ hN => by
  obtain ⟨g', N2, a1, a2, a3⟩ := A D n s v N top g f c hn (by omega) ht hQ (by omega)
  exact ⟨g', N2, by omega, a2, a3⟩
theorem yk_Xl : ∀ (t : zt_T) (Q : Nat → Prop) (x x' : Int32) (Ls : List (List yI)) (D : Nat), yk_X h0 g0 X b t Q x x' Ls → zg_d t ≤ D + 1 → yk_L h0 D Ls x ∧ yk_N g0 b D Ls x' ∧ Ls.length = zt_ln t ∧ (yx_s Ls).length + Ls.length ≤ 6 * zt_sz t ∧ (∀ d, yo_h d (yx_s Ls) = some (d + Ls.length)) ∧ ∀ i, i ∈ yx_s Ls → yo_i X (fun u => (h0.2.1 21) (9 + u) = 1) b i := by
  intro t
  induction t with
  | leaf =>
    intro Q x x' Ls D ⟨e1, e2, e3⟩ _
    subst e3
    exact ⟨e1, e2, rfl, Nat.le_refl _, fun d => rfl, fun i hi => by cases hi⟩
  | inner kd kv o l r _ ihr =>
    intro Q x x' Ls D ⟨i, k, Q1, Q2, L, Lr, e, ⟨i1, i2⟩, ⟨k1, k2, k3⟩, q1, q2, ⟨A, B⟩, ⟨n1, n2, n3⟩, R⟩ hD
    have hd : max (zg_d l + 1) (zg_d r) ≤ zg_d (.inner kd kv o l r) := zg_d1
    have hs : zt_sz (.inner kd kv o l r) = 1 + zt_sz l + zt_sz r := rfl
    have hl : zt_ln (.inner kd kv o l r) = 1 + zt_ln r := rfl
    obtain ⟨r1, r2, r3, r4, r5, r6⟩ := ihr Q2 _ _ Lr D R (by omega)
    subst e
    refine ⟨⟨i, i1, i2, yk_Cm (by omega) A, r1⟩, ⟨k, Q1, k2, k3, fun z => (q1 k z).2 rfl, yk_Mm (by omega) B, r2⟩, ?_, ?_, ?_, ?_⟩
    · show Lr.length + 1 = _; omega
    · show (L ++ yx_s Lr).length + (Lr.length + 1) ≤ _
      rw [List.length_append]; omega
    · intro d
      show yo_h d (L ++ yx_s Lr) = some (d + (Lr.length + 1))
      rw [yo_1 (n2 d), r5, Nat.add_assoc, Nat.add_comm 1]
    · intro j hj
      rcases List.mem_append.mp (show j ∈ L ++ yx_s Lr from hj) with z | z
      · exact n3 j z
      · exact r6 j z
end YKX
