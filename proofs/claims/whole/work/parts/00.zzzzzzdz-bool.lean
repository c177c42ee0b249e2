/-! BOOLs: what calls and constants leave. -/
theorem yk_eop : ∀ s, s < 14 → (2 < s ∧ s < 9 → (13 : Int32) ≤ f_Cd_operation (nI s) (nI 0) ∧ f_Cd_operation (nI s) (nI 0) ≤ 18) ∧ (s < 3 → f_Cd_operation (nI s) (nI 0) = 10 ∨ f_Cd_operation (nI s) (nI 0) = 11 ∨ f_Cd_operation (nI s) (nI 0) = 12) := by decide +kernel
theorem yk_c01 {k x y v : Int32} (h : 13 ≤ k ∧ k ≤ 18) (e : f_Cd_two k x y = some v) : v = 0 ∨ v = 1 := by
  have nk : ∀ c : Int32, c < 13 → ¬ k = c := fun c hc z => absurd (Int32.lt_of_le_of_lt h.1 (z ▸ hc)) (Int32.lt_irrefl)
  have ub : ∀ c : Int32, 18 < c → ¬ k = c := fun c hc z => absurd (Int32.lt_of_lt_of_le (z ▸ hc) h.2) (Int32.lt_irrefl)
  have p : ∀ (P : Prop) [Decidable P] (a b : Int32), (a = 0 ∨ a = 1) → (b = 0 ∨ b = 1) → (if P then some a else some b) = some v → v = 0 ∨ v = 1 := by
    intro P _ a b ha hb q
    by_cases z : P
    · rw [if_pos z] at q; rw [← Option.some.inj q]; exact ha
    · rw [if_neg z] at q; rw [← Option.some.inj q]; exact hb
  unfold f_Cd_two at e
  rw [if_neg (nk 0 (by decide)), if_neg (nk 1 (by decide)), if_neg (nk 2 (by decide)), if_neg (nk 3 (by decide)), if_neg (nk 4 (by decide)), if_neg (nk 5 (by decide)), if_neg (nk 6 (by decide)), if_neg (nk 7 (by decide)), if_neg (nk 8 (by decide)), if_neg (nk 9 (by decide)), if_neg (nk 10 (by decide)), if_neg (nk 11 (by decide)), if_neg (nk 12 (by decide))] at e
  by_cases z13 : k = 13
  · rw [if_pos z13] at e; exact p _ _ _ (.inr rfl) (.inl rfl) e
  rw [if_neg z13] at e
  by_cases z14 : k = 14
  · rw [if_pos z14] at e; exact p _ _ _ (.inl rfl) (.inr rfl) e
  rw [if_neg z14] at e
  by_cases z15 : k = 15
  · rw [if_pos z15] at e; exact p _ _ _ (.inl rfl) (.inr rfl) e
  rw [if_neg z15] at e
  by_cases z16 : k = 16
  · rw [if_pos z16] at e; exact p _ _ _ (.inl rfl) (.inr rfl) e
  rw [if_neg z16] at e
  by_cases z17 : k = 17
  · rw [if_pos z17] at e; exact p _ _ _ (.inl rfl) (.inr rfl) e
  rw [if_neg z17] at e
  by_cases z18 : k = 18
  · rw [if_pos z18] at e; exact p _ _ _ (.inl rfl) (.inr rfl) e
  · exfalso
    have i1 := Int32.le_iff_toInt_le.mp h.1
    have i2 := Int32.le_iff_toInt_le.mp h.2
    have e13 : (13 : Int32).toInt = 13 := rfl
    have e18 : (18 : Int32).toInt = 18 := rfl
    have n : ∀ c : Int32, ¬ k = c → ¬ k.toInt = c.toInt := fun c hc z => hc (Int32.toInt_inj.mp z)
    have n13 := n 13 z13
    have n14 := n 14 z14
    have n15 := n 15 z15
    have n16 := n 16 z16
    have n17 := n 17 z17
    have n18 := n 18 z18
    rw [show (14 : Int32).toInt = 14 from rfl] at n14
    rw [show (15 : Int32).toInt = 15 from rfl] at n15
    rw [show (16 : Int32).toInt = 16 from rfl] at n16
    rw [show (17 : Int32).toInt = 17 from rfl] at n17
    omega
theorem yk_b01 {k x y v : Int32} (h : k = 10 ∨ k = 11 ∨ k = 12) (hx : x = 0 ∨ x = 1) (hy : y = 0 ∨ y = 1) (e : f_Cd_two k x y = some v) : v = 0 ∨ v = 1 := by
  rcases h with z | z | z <;> subst z <;> rcases hx with w | w <;> subst w <;> rcases hy with w | w <;> subst w <;> (rw [← Option.some.inj e]; decide)
theorem yk_v2 {k x y v : Int32} (h : 13 ≤ k ∧ k ≤ 18) (e : f_Cd_two k x y = some v) : v = 0 ∨ v = 1 := yk_c01 h e
theorem yk_v2b {k x y v : Int32} (h : k = 10 ∨ k = 11 ∨ k = 12) (hx : x = 0 ∨ x = 1) (hy : y = 0 ∨ y = 1) (e : f_Cd_two k x y = some v) : v = 0 ∨ v = 1 := yk_b01 h hx hy e
theorem yk_o01 {k x : Int32} (h : k = 2 ∨ k = 7) : f_Cd_one k x = 0 ∨ f_Cd_one k x = 1 := by
  rcases h with z | z <;> subst z
  · show (if x = 0 then (1 : Int32) else 0) = 0 ∨ (if x = 0 then (1 : Int32) else 0) = 1
    by_cases w : x = 0
    · rw [if_pos w]; exact .inr rfl
    · rw [if_neg w]; exact .inl rfl
  · show (if x = 0 then (0 : Int32) else 1) = 0 ∨ (if x = 0 then (0 : Int32) else 1) = 1
    by_cases w : x = 0
    · rw [if_pos w]; exact .inl rfl
    · rw [if_neg w]; exact .inr rfl
theorem yk_v1b {x : Int32} : f_Cd_one (f_Cd_turning (if (1 : Nat) = 0 then 1 else 0) (nI 0)) x = 0 ∨ f_Cd_one (f_Cd_turning (if (1 : Nat) = 0 then 1 else 0) (nI 0)) x = 1 := yk_o01 (.inl rfl)
theorem yk_v9 {x y z v : Int32} (e : f_Cd_standard (nI 9) (nI 0) x y z = some v) : v = 0 ∨ v = 1 := by
  have h : f_Cd_standard (nI 9) (nI 0) x y z = some (f_Cd_one 7 x) := rfl
  rw [← Option.some.inj (h.symm.trans e)]
  exact yk_o01 (.inr rfl)
theorem yk_v4 {x y z v : Int32} (e : f_Cd_standard (nI 4) (nI 0) x y z = some v) (hy : y = 0 ∨ y = 1) (hz : z = 0 ∨ z = 1) : v = 0 ∨ v = 1 := by
  have h : f_Cd_standard (nI 4) (nI 0) x y z = if x = 0 then some y else some z := rfl
  rw [h] at e
  by_cases w : x = 0
  · rw [if_pos w] at e; rw [← Option.some.inj e]; exact hy
  · rw [if_neg w] at e; rw [← Option.some.inj e]; exact hz
/-- numbers, one for each -/
def yo_a (R : Nat → Prop → Prop) : List Nat → List Prop → Prop
  | [], ps => ps = []
  | a :: l, ps => ∃ p qs, ps = p :: qs ∧ R a p ∧ yo_a R l qs
theorem yo_aap {R : Nat → Prop → Prop} {a : Nat} {p : Prop} (h : R a p) : ∀ (l : List Nat) (qs : List Prop), yo_a R l qs → yo_a R (l ++ [a]) (qs ++ [p]) := by
  intro l
  induction l with
  | nil => intro qs e; rw [show qs = [] from e]; exact ⟨p, [], rfl, h, rfl⟩
  | cons b l ih =>
    intro qs ⟨q, rs, e, r, A⟩
    rw [e]
    exact ⟨q, rs ++ [p], rfl, r, ih _ A⟩
theorem yo_arev {R : Nat → Prop → Prop} : ∀ (l : List Nat) (qs : List Prop), yo_a R l qs → yo_a R l.reverse qs.reverse := by
  intro l
  induction l with
  | nil => intro qs e; rw [show qs = [] from e]; rfl
  | cons b l ih =>
    intro qs ⟨q, rs, e, r, A⟩
    rw [e, List.reverse_cons, List.reverse_cons]
    exact yo_aap r _ _ (ih _ A)
section YOD
variable {h0 g0 : zs_H} {X : Nat → Nat} {b : Nat} {P : Nat → Prop} {Bc : Nat → Nat → Prop} {φ : Prop}
theorem yk_Xf : ∀ (t : zt_T) (Q : Nat → Prop) (x x' : Int32) (Ls : List (List yI)) (ws : List Nat), yk_X h0 g0 X b t Q x x' Ls → yb_fit h0 P ws x → Ls.length = ws.length → ∀ (LD : Nat → Prop) (K : List Prop → Prop) (st : List Prop), (∀ ps, yo_a (fun w p => (h0.2.1 31) (32 + w) = 0 → p) ws ps → K (ps.reverse ++ st)) → yo_W (yq_b LD h0) b (yx_s Ls) K st := by
  intro t
  induction t with
  | leaf =>
    intro Q x x' Ls ws ⟨_, _, e⟩ _ hl LD K st H
    subst e
    have ew : ws = [] := List.eq_nil_of_length_eq_zero hl.symm
    subst ew
    exact H [] rfl
  | inner kd kv o l r _ ihr =>
    intro Q x x' Ls ws ⟨i, k, Q1, Q2, L, Lr, e, ⟨i1, i2⟩, _, _, _, _, ⟨⟨_, T⟩, _⟩, R⟩ hfit hl LD K st H
    subst e
    cases ws with
    | nil => exact absurd hl (by simp)
    | cons w ws =>
      obtain ⟨a, a1, a2, a3, a4, a5⟩ := hfit
      have ea : i = a := (nI_eq (by omega) (by omega)).mp (i2.symm.trans a1)
      subst ea
      show yo_W (yq_b LD h0) b (L ++ yx_s Lr) K st
      rw [yo_Wap]
      refine T.1 LD _ _ fun p hp => ?_
      refine ihr Q2 _ _ Lr ws R a5 (Nat.succ.inj hl) LD K (p :: st) fun ps hps => ?_
      have := H (p :: ps) ⟨p, ps, rfl, fun z => hp (a4 z), hps⟩
      rw [List.reverse_cons, List.append_assoc] at this
      exact this
theorem yk_Xt : ∀ (t : zt_T) (Q : Nat → Prop) (x x' : Int32) (Ls : List (List yI)), yk_X h0 g0 X b t Q x x' Ls → ∀ L, L ∈ Ls → ∀ LD, yo_E (yq_b LD h0) b False L := by
  intro t
  induction t with
  | leaf =>
    intro Q x x' Ls ⟨_, _, e⟩ L hL
    rw [e] at hL; cases hL
  | inner kd kv o l r _ ihr =>
    intro Q x x' Ls ⟨i, k, Q1, Q2, L0, Lr, e, _, _, _, _, _, ⟨⟨_, T⟩, _⟩, R⟩ L hL LD
    rw [e] at hL
    rcases List.mem_cons.mp hL with z | z
    · rw [z]; exact yo_Em (fun q => q.elim) (T.1 LD)
    · exact ihr Q2 _ _ Lr R L z LD
theorem yk_X3 (t : zt_T) (Q : Nat → Prop) (x x' : Int32) (Ls : List (List yI)) {a : Nat} {x5 x6 : Int32} (XL : yk_X h0 g0 X b t Q x x' Ls) (hl : Ls.length = 3) (ex : x = nI a) (ha : a < 32784) (e5 : x5 = (h0.2.1 18) a) (e6 : x6 = (if x5 = -1 then -1 else (h0.2.1 18) x5.toNatClampNeg)) : ∃ b5 b6 L1 L2 L3, (x5 = nI b5 ∧ b5 < 32784 ∧ x6 = nI b6 ∧ b6 < 32784) ∧ Ls = [L1, L2, L3] ∧ yk_ty h0 b b5 L2 ∧ yk_ty h0 b b6 L3 := by
  cases t with
  | leaf => rw [XL.2.2] at hl; exact absurd hl (by decide)
  | inner kd kv o l r =>
    obtain ⟨i, k, Q1, Q2, L1, Lr, e, ⟨i1, i2⟩, _, _, _, _, _, R⟩ := XL
    have ei : i = a := (nI_eq (by omega) (by omega)).mp (i2.symm.trans ex)
    subst ei
    rw [e] at hl
    cases r with
    | leaf =>
      rw [R.2.2] at hl
      exact absurd (show 1 = 3 from hl) (by decide)
    | inner kd' kv' o' l' r' =>
      obtain ⟨j, k', Q1', Q2', L2, Lr', e', ⟨j1, j2⟩, _, _, _, _, ⟨⟨_, T2⟩, _⟩, R'⟩ := R
      rw [e'] at hl
      cases r' with
      | leaf =>
        rw [R'.2.2] at hl
        exact absurd (show 2 = 3 from hl) (by decide)
      | inner kd'' kv'' o'' l'' r'' =>
        obtain ⟨m, k'', Q1'', Q2'', L3, Lr'', e'', ⟨m1, m2⟩, _, _, _, _, ⟨⟨_, T3⟩, _⟩, R''⟩ := R'
        rw [e''] at hl
        have en : Lr'' = [] := List.eq_nil_of_length_eq_zero (by
          have : Lr''.length + 1 + 1 + 1 = 3 := hl
          omega)
        have x5e : x5 = nI j := e5.trans j2
        refine ⟨j, m, L1, L2, L3, ⟨x5e, j1, ?_, m1⟩, by rw [e, e', e'', en], T2, T3⟩
        rw [e6, x5e, if_neg (zc_m1 (by omega)), nI_clamp (show j < 2147483648 by omega), m2]
theorem yo_Wr {u : Nat} (hu : u < 2147483648) : ∀ (ws : List Nat) (ps st : List Prop) (K : List Prop → Prop), yo_a (fun w p => (h0.2.1 31) (32 + w) = 0 → p) ws ps → (∀ w, w ∈ ws → ∃ x, (h0.2.1 32) (32 + w) = nI x ∧ x < 2147483648 ∧ (Bc u x → (h0.2.1 31) (32 + w) = 0)) → K st → yo_W Bc b ((ws.map (fun w => (h0.2.1 32) (32 + w))).map (fun w => ((6, nI u, w, 0) : yI))) K (ps ++ st) := by
  intro ws
  induction ws with
  | nil => intro ps st K e _ H; rw [show ps = [] from e]; exact H
  | cons w ws ih =>
    intro ps st K ⟨p, qs, e, r, A⟩ hw H
    rw [e]
    obtain ⟨x, x1, x2, x3⟩ := hw w (List.mem_cons_self ..)
    show (Bc (nI u).toNatClampNeg ((h0.2.1 32) (32 + w)).toNatClampNeg → p) ∧ yo_W Bc b ((ws.map (fun w => (h0.2.1 32) (32 + w))).map (fun w => ((6, nI u, w, 0) : yI))) K (qs ++ st)
    rw [x1, nI_clamp hu, nI_clamp x2]
    exact ⟨fun z => r (x3 z), ih qs st K A (fun v hv => hw v (List.mem_cons_of_mem _ hv)) H⟩
/-- a call -/
theorem yo_ec {u : Nat} {ws : List Nat} {L : List yI} (hu : u < 2147483648) (A : ∀ (K : List Prop → Prop) (st : List Prop), (∀ ps, yo_a (fun w p => (h0.2.1 31) (32 + w) = 0 → p) ws ps → K (ps.reverse ++ st)) → yo_W Bc b L K st) (hw : ∀ w, w ∈ ws → ∃ x, (h0.2.1 32) (32 + w) = nI x ∧ x < 2147483648 ∧ (Bc u x → (h0.2.1 31) (32 + w) = 0)) (hr : φ → Bc u 0) : yo_E Bc b φ (yx_call u (ws.reverse.map (fun w => (h0.2.1 32) (32 + w))) L) := by
  intro K st H
  unfold yx_call
  rw [yo_Wap]
  refine A _ _ fun ps hps => ?_
  rw [yo_Wap]
  refine yo_Wr hu ws.reverse ps.reverse st _ (yo_arev _ _ hps) (fun w hw' => hw w (List.mem_reverse.mp hw')) ?_
  show K (Bc (nI u).toNatClampNeg (0 : Int32).toNatClampNeg :: st)
  rw [nI_clamp hu]
  exact H _ hr
/-- a standard function -/
theorem yo_es {s ty : Nat} {Ls : List (List yI)} (hs : s < 10) (ht : ty < 3) (hl : Ls.length = ya_ar s) (A : ∀ L, L ∈ Ls → yo_E Bc b False L) (h : φ → s = 9 ∨ (s = 4 ∧ ∃ L1 L2 L3, Ls = [L1, L2, L3] ∧ yo_E Bc b True L2 ∧ yo_E Bc b True L3)) : yo_E Bc b φ (yx_t s (f_Cd_standardKind (nI s) (nI ty)) Ls) := by
  have hars : ∀ s, s < 10 → (ya_ar s = 3 → s = 3 ∨ s = 4) ∧ 1 ≤ ya_ar s ∧ ya_ar s ≤ 3 := by decide
  obtain ⟨r3, r4, r5⟩ := hars s hs
  have a9 : ya_ar 9 = 1 := rfl
  have a4 : ya_ar 4 = 3 := rfl
  match Ls, hl, A, h with
  | [], hl, A, h => exact absurd hl (by show ¬ 0 = _; omega)
  | [a], hl, A, h =>
    have A1 := A a (by simp)
    have hl' : 1 = ya_ar s := hl
    have h9 : φ → s = 9 := fun z => by
      rcases h z with w | ⟨w, _⟩
      · exact w
      · rw [w] at hl'; omega
    show yo_E Bc b φ (if s = 8 then a else a ++ [(8, _, 0, 0)])
    by_cases h8 : s = 8
    · rw [if_pos h8]
      exact yo_Em (fun z => by have := h9 z; omega) A1
    · rw [if_neg h8]
      refine yo_E8 A1 fun z => .inr ?_
      rw [h9 z]; rfl
  | [a, c], hl, A, h =>
    have hl' : 2 = ya_ar s := hl
    refine yo_E7 (A a (by simp)) (A c (by simp)) fun z => ?_
    rcases h z with w | ⟨w, _⟩
    · rw [w] at hl'; omega
    · rw [w] at hl'; omega
  | [a, c, d], hl, A, h =>
    have hl' : 3 = ya_ar s := hl
    show yo_E Bc b φ (if s = 3 then _ else _)
    by_cases h3 : s = 3
    · rw [if_pos h3]
      refine yo_E7 (yo_E7 (φ := False) (A a (by simp)) (A c (by simp)) (fun z => z.elim)) (A d (by simp)) fun z => ?_
      rcases h z with w | ⟨w, _⟩ <;> omega
    · rw [if_neg h3]
      by_cases z : φ
      · rcases h z with w | ⟨w, L1, L2, L3, e, E2, E3⟩
        · rw [w] at hl'; omega
        · have e1 : c = L2 := by injection e with _ e; injection e
          have e2 : d = L3 := by injection e with _ e; injection e with _ e; injection e
          rw [e1, e2]
          exact yo_E9 (A a (by simp)) E2 E3 (fun _ => ⟨trivial, trivial⟩)
      · exact yo_E9 (A a (by simp)) (A c (by simp)) (A d (by simp)) (fun w => absurd w z)
  | a :: c :: d :: e :: es, hl, A, h => exact absurd hl (by show ¬ es.length + 1 + 1 + 1 + 1 = _; omega)
end YOD
