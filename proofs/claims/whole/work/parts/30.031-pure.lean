section
/-! The coder: all expressions, on both sides. -/
section YKZ
variable {X : Nat → Nat} {fn : Nat → Prop} {b : Nat} {La Lb Lc L : List yI}
theorem yo_s {i : yI} {d : Nat} (h : yo_t i.1 ≤ d) : yo_h d [i] = some (d - yo_t i.1 + yo_l i.1) := by
  show (if yo_t i.1 ≤ d then _ else none) = _
  rw [if_pos h]; rfl
theorem yk_e0 {i : yI} (h1 : yo_t i.1 = 0) (h2 : yo_l i.1 = 1) (h : yo_i X fn b i) : yk_e X fn b [i] := by
  refine ⟨fun d => ?_, fun j hj => ?_⟩
  · rw [yo_s (by omega), h1, h2]; rfl
  · rw [List.mem_singleton.mp hj]; exact h
theorem yk_e1 {i : yI} (h1 : yo_t i.1 = 1) (h2 : yo_l i.1 = 1) (h : yo_i X fn b i) (A : yk_e X fn b La) : yk_e X fn b (La ++ [i]) := by
  refine ⟨fun d => ?_, fun j hj => ?_⟩
  · rw [yo_1 (A.1 d), yo_s (by omega), h1, h2]; rfl
  · rcases List.mem_append.mp hj with z | z
    · exact A.2 j z
    · rw [List.mem_singleton.mp z]; exact h
theorem yk_e2 {k : Int32} {kk : Nat} (ek : k = nI kk) (hk : kk < 25) (A : yk_e X fn b La) (B : yk_e X fn b Lb) : yk_e X fn b (La ++ (Lb ++ [(7, k, 0, 0)])) := by
  refine ⟨fun d => ?_, fun j hj => ?_⟩
  · rw [yo_1 (A.1 d), yo_1 (B.1 (d + 1)), yo_s (show yo_t 7 ≤ d + 1 + 1 by show 2 ≤ _; omega)]
    show some (d + 1 + 1 - 2 + 1) = _
    rfl
  · rcases List.mem_append.mp hj with z | z
    · exact A.2 j z
    · rcases List.mem_append.mp z with z | z
      · exact B.2 j z
      · rw [List.mem_singleton.mp z]; exact .inr (.inr (.inr (.inr (.inr (.inr (.inl ⟨rfl, kk, ek, hk⟩))))))
theorem yk_e3 (A : yk_e X fn b La) (B : yk_e X fn b Lb) (D : yk_e X fn b Lc) : yk_e X fn b (La ++ (Lb ++ (Lc ++ [(9, 0, 0, 0)]))) := by
  refine ⟨fun d => ?_, fun j hj => ?_⟩
  · rw [yo_1 (A.1 d), yo_1 (B.1 (d + 1)), yo_1 (D.1 (d + 1 + 1)), yo_s (show yo_t 9 ≤ d + 1 + 1 + 1 by show 3 ≤ _; omega)]
    show some (d + 1 + 1 + 1 - 3 + 1) = _
    rfl
  · rcases List.mem_append.mp hj with z | z
    · exact A.2 j z
    · rcases List.mem_append.mp z with z | z
      · exact B.2 j z
      · rcases List.mem_append.mp z with z | z
        · exact D.2 j z
        · rw [List.mem_singleton.mp z]; exact .inr (.inl rfl)
theorem yk_ew {u : Nat} : ∀ (ws : List Int32) (d : Nat), yo_h (d + ws.length) (ws.map (fun w => ((6, nI u, w, 0) : yI))) = some d := by
  intro ws
  induction ws with
  | nil => intro d; rfl
  | cons w ws ih =>
    intro d
    show (if 1 ≤ d + (ws.length + 1) then yo_h (d + (ws.length + 1) - 1 + 0) (ws.map _) else none) = _
    rw [if_pos (by omega), show d + (ws.length + 1) - 1 + 0 = d + ws.length by omega]
    exact ih d
theorem yk_ec {u : Nat} {ws : List Int32} {Ls : List (List yI)} (hu : u < b) (hf : fn u) (hl : ws.length = Ls.length) (hw : ∀ w, w ∈ ws → ∃ x, w = nI x ∧ x < X u) (A : ∀ d, yo_h d (yx_s Ls) = some (d + Ls.length)) (B : ∀ i, i ∈ yx_s Ls → yo_i X fn b i) : yk_e X fn b (yx_call u ws (yx_s Ls)) := by
  refine ⟨fun d => ?_, fun j hj => ?_⟩
  · unfold yx_call
    rw [yo_1 (A d), ← hl, yo_1 (yk_ew ws d)]
    rfl
  · rcases List.mem_append.mp hj with z | z
    · exact B j z
    · rcases List.mem_append.mp z with z | z
      · obtain ⟨w, w1, w2⟩ := List.mem_map.mp z
        obtain ⟨x, x1, x2⟩ := hw w w1
        rw [← w2]
        exact .inr (.inr (.inr (.inr (.inr (.inl ⟨rfl, u, x, rfl, x1, hu, hf, x2⟩)))))
      · rcases List.mem_cons.mp z with z | z
        · rw [z]; exact .inr (.inr (.inr (.inr (.inr (.inr (.inr (.inr ⟨rfl, u, rfl, hu, hf⟩)))))))
        · rw [List.mem_singleton.mp z]; exact .inr (.inr (.inr (.inr (.inl ⟨rfl, rfl, u, rfl, hu, hf⟩))))
theorem yk_ek : ∀ s, s < 10 → ∀ ty, ty < 3 → (ya_ar s = 1 → ¬ s = 8 → ∃ k, k < 8 ∧ f_Cd_standardKind (nI s) (nI ty) = nI k) ∧ (ya_ar s = 2 → ∃ k, k < 25 ∧ f_Cd_standardKind (nI s) (nI ty) = nI k) := by decide +kernel
theorem yk_eo : ∀ s, s < 14 → ∀ ty, ty < 3 → ∃ k, k < 25 ∧ f_Cd_operation (nI s) (nI ty) = nI k := by decide +kernel
theorem yk_et : ∀ s, s < 2 → ∀ ty, ty < 3 → ∃ k, k < 8 ∧ f_Cd_turning (if s = 0 then 1 else 0) (nI ty) = nI k := by decide +kernel
theorem yk_es {s ty : Nat} {Ls : List (List yI)} (hs : s < 10) (ht : ty < 3) (hl : Ls.length = ya_ar s) (A : ∀ L, L ∈ Ls → yk_e X fn b L) : yk_e X fn b (yx_t s (f_Cd_standardKind (nI s) (nI ty)) Ls) := by
  obtain ⟨k1, k2⟩ := yk_ek s hs ty ht
  have hars : ∀ s, s < 10 → (ya_ar s = 3 → s = 3 ∨ s = 4) ∧ 1 ≤ ya_ar s ∧ ya_ar s ≤ 3 := by decide
  obtain ⟨r3, r4, r5⟩ := hars s hs
  match Ls, hl, A with
  | [], hl, A => exact absurd hl (by show ¬ 0 = _; omega)
  | [a], hl, A =>
    have A1 := A a (by simp)
    show yk_e X fn b (if s = 8 then a else a ++ [(8, _, 0, 0)])
    by_cases h8 : s = 8
    · rw [if_pos h8]; exact A1
    · rw [if_neg h8]
      obtain ⟨k, q1, q2⟩ := k1 hl.symm h8
      exact yk_e1 rfl rfl (.inr (.inr (.inr (.inr (.inr (.inr (.inr (.inl ⟨rfl, k, q2, q1⟩)))))))) A1
  | [a, c], hl, A =>
    obtain ⟨k, q1, q2⟩ := k2 hl.symm
    exact yk_e2 q2 q1 (A a (by simp)) (A c (by simp))
  | [a, c, d], hl, A =>
    show yk_e X fn b (if s = 3 then _ else _)
    by_cases h3 : s = 3
    · rw [if_pos h3]
      exact yk_e2 (kk := 23) rfl (by decide) (yk_e2 (kk := 24) rfl (by decide) (A a (by simp)) (A c (by simp))) (A d (by simp))
    · rw [if_neg h3]
      exact yk_e3 (A a (by simp)) (A c (by simp)) (A d (by simp))
  | a :: c :: d :: e :: es, hl, A => exact absurd hl (by show ¬ es.length + 1 + 1 + 1 + 1 = _; omega)
end YKZ
theorem yk_Xe {h0 g0 : zs_H} {X : Nat → Nat} {b : Nat} : ∀ (t : zt_T) (Q : Nat → Prop) (x x' : Int32) (Ls : List (List yI)), yk_X h0 g0 X b t Q x x' Ls → ∀ L, L ∈ Ls → yk_e X (fun u => (h0.2.1 21) (9 + u) = 1) b L := by
  intro t
  induction t with
  | leaf =>
    intro Q x x' Ls ⟨_, _, e⟩ L hL
    rw [e] at hL; cases hL
  | inner kd kv o l r _ ihr =>
    intro Q x x' Ls ⟨i, k, Q1, Q2, L0, Lr, e, _, _, _, _, _, ⟨_, n2⟩, R⟩ L hL
    rw [e] at hL
    rcases List.mem_cons.mp hL with z | z
    · rw [z]; exact n2
    · exact ihr Q2 _ _ Lr R L z
theorem yk_tl {s : Nat} {k : Int32} {Ls : List (List yI)} (hs : s < 10) (hl : Ls.length = ya_ar s) : (yx_t s k Ls).length ≤ (yx_s Ls).length + 2 := by
  match Ls with
  | [] => exact Nat.zero_le _
  | [a] =>
    show (if s = 8 then a else a ++ [(8, k, 0, 0)]).length ≤ (a ++ []).length + 2
    rw [List.append_nil]
    split
    · omega
    · rw [List.length_append]; show a.length + 1 ≤ _; omega
  | [a, c] =>
    show (a ++ (c ++ [(7, k, 0, 0)])).length ≤ (a ++ (c ++ [])).length + 2
    rw [List.append_nil, List.length_append, List.length_append, List.length_append]; show a.length + (c.length + 1) ≤ _; omega
  | [a, c, d] =>
    show (if s = 3 then (a ++ (c ++ [(7, 24, 0, 0)])) ++ (d ++ [(7, 23, 0, 0)]) else a ++ (c ++ (d ++ [(9, 0, 0, 0)]))).length ≤ (a ++ (c ++ (d ++ []))).length + 2
    rw [List.append_nil]
    split <;> simp only [List.length_append, List.length_cons, List.length_nil] <;> omega
  | a :: c :: d :: e :: es =>
    exact absurd hl (by
      have : ∀ s, s < 10 → ya_ar s ≤ 3 := by decide
      have := this s hs
      show ¬ es.length + 1 + 1 + 1 + 1 = _
      omega)
theorem yk_fva {g0 g : zs_H} (f : yM_f g0 g) : f_Mo_variable g = f_Mo_variable g0 := by
  have e : ∀ a, ¬ a ∈ yM_M → g.2.1 a = g0.2.1 a := fun a ha => f.2.1 a ha
  have s33 : f_Mo_variable_33 g = f_Mo_variable_33 g0 := by
    funext k7 x1 x2 x3 y0 y1
    unfold f_Mo_variable_33
    rw [e 91 (by decide)]
  have s7 : f_Mo_variable_7 g = f_Mo_variable_7 g0 := by
    funext k7 x1 x2 x3
    unfold f_Mo_variable_7
    rw [s33, e 90 (by decide), f.1 68 33 (by decide), f.1 68 41 (by decide)]
  have sL : f_Mo_variable_L7 g = f_Mo_variable_L7 g0 := by
    unfold f_Mo_variable_L7
    rw [s7]
  funext x y
  unfold f_Mo_variable
  rw [sL, e 90 (by decide)]
/-- the model finds the variable -/
theorem yk_vM {LC LM : List (List Int32)} {nb b u x : Nat} {F Fb X Y : Nat → Nat} {h0 g0 : zs_H} {v w : Int32} (C : yk_cx LC LM nb F X Y h0 g0) (hb : b < nb) (hF : ∀ j, j ≤ b + 1 → Fb j = F j) (V : yb_V Fb b h0 v u x) (hw : zt_nr LC LM v w) : f_Mo_variable g0 (nI b) w = some (nI u) := by
  obtain ⟨c, k, w1, w2, w3, w4, w5, w6⟩ := id hw
  obtain ⟨v1, v2, v3, v4, _⟩ := V
  rw [hF _ (by omega)] at v1
  rw [hF _ (by omega)] at v2
  subst w1
  rcases zv_of C.1.1 C.1.2.1 C.1.2.2.1 hb hw with ⟨j, j1, j2, j3, _, j5⟩ | ⟨_, _, z⟩
  · rw [j5, v4 j (by rw [hF _ (by omega)]; exact j1) (by rw [hF _ (by omega)]; exact j2) j3]
  · exact absurd v3 (z u v1 v2)
end
section
/-! BOOLs: what calls and constants leave. -/
theorem yk_eop : ∀ s, s < 14 → (2 < s ∧ s < 9 → (13 : Int32) ≤ f_Cd_operation (nI s) (nI 0) ∧ f_Cd_operation (nI s) (nI 0) ≤ 18) ∧ (s < 3 → f_Cd_operation (nI s) (nI 0) = 10 ∨ f_Cd_operation (nI s) (nI 0) = 11 ∨ f_Cd_operation (nI s) (nI 0) = 12) := by decide +kernel
theorem yk_c01 {k x y v : Int32} (h : 13 ≤ k ∧ k ≤ 18) (e : f_Cd_two k x y = some v) : v = 0 ∨ v = 1 := by
  have nk : ∀ c : Int32, c < 13 → ¬ k = c := fun c hc z => absurd (Int32.lt_of_le_of_lt h.1 (z ▸ hc)) (Int32.lt_irrefl)
  have ub : ∀ c : Int32, 18 < c → ¬ k = c := fun c hc z => absurd (Int32.lt_of_lt_of_le (z ▸ hc) h.2) (Int32.lt_irrefl)
  have p : ∀ (P : Prop) [Decidable P] (a b : Int32), (a = 0 ∨ a = 1) → (b = 0 ∨ b = 1) → (if P then some a else some b) = some v → v = 0 ∨ v = 1 := by
    intro P _ a b ha hb q
    by_cases z : P
    · rw [if_pos z] at q; rw [← Option.some.inj q]; exact ha
    · rw [if_neg z] at q; rw [← Option.some.inj q]; exact hb
  unfold f_Cd_two at e
  rw [if_neg (nk 0 (by decide)), if_neg (nk 1 (by decide)), if_neg (nk 2 (by decide)), if_neg (nk 3 (by decide)), if_neg (nk 4 (by decide)), if_neg (nk 5 (by decide)), if_neg (nk 6 (by decide)), if_neg (nk 7 (by decide)), if_neg (nk 8 (by decide)), if_neg (nk 9 (by decide)), if_neg (nk 10 (by decide)), if_neg (nk 11 (by decide)), if_neg (nk 12 (by decide))] at e
  by_cases z13 : k = 13
  · rw [if_pos z13] at e; exact p _ _ _ (.inr rfl) (.inl rfl) e
  rw [if_neg z13] at e
  by_cases z14 : k = 14
  · rw [if_pos z14] at e; exact p _ _ _ (.inl rfl) (.inr rfl) e
  rw [if_neg z14] at e
  by_cases z15 : k = 15
  · rw [if_pos z15] at e; exact p _ _ _ (.inl rfl) (.inr rfl) e
  rw [if_neg z15] at e
  by_cases z16 : k = 16
  · rw [if_pos z16] at e; exact p _ _ _ (.inl rfl) (.inr rfl) e
  rw [if_neg z16] at e
  by_cases z17 : k = 17
  · rw [if_pos z17] at e; exact p _ _ _ (.inl rfl) (.inr rfl) e
  rw [if_neg z17] at e
  by_cases z18 : k = 18
  · rw [if_pos z18] at e; exact p _ _ _ (.inl rfl) (.inr rfl) e
  · exfalso
    have i1 := Int32.le_iff_toInt_le.mp h.1
    have i2 := Int32.le_iff_toInt_le.mp h.2
    have e13 : (13 : Int32).toInt = 13 := rfl
    have e18 : (18 : Int32).toInt = 18 := rfl
    have n : ∀ c : Int32, ¬ k = c → ¬ k.toInt = c.toInt := fun c hc z => hc (Int32.toInt_inj.mp z)
    have n13 := n 13 z13
    have n14 := n 14 z14
    have n15 := n 15 z15
    have n16 := n 16 z16
    have n17 := n 17 z17
    have n18 := n 18 z18
    rw [show (14 : Int32).toInt = 14 from rfl] at n14
    rw [show (15 : Int32).toInt = 15 from rfl] at n15
    rw [show (16 : Int32).toInt = 16 from rfl] at n16
    rw [show (17 : Int32).toInt = 17 from rfl] at n17
    omega
theorem yk_b01 {k x y v : Int32} (h : k = 10 ∨ k = 11 ∨ k = 12) (hx : x = 0 ∨ x = 1) (hy : y = 0 ∨ y = 1) (e : f_Cd_two k x y = some v) : v = 0 ∨ v = 1 := by
  rcases h with z | z | z <;> subst z <;> rcases hx with w | w <;> subst w <;> rcases hy with w | w <;> subst w <;> (rw [← Option.some.inj e]; decide)
theorem yk_v2 {k x y v : Int32} (h : 13 ≤ k ∧ k ≤ 18) (e : f_Cd_two k x y = some v) : v = 0 ∨ v = 1 := yk_c01 h e
theorem yk_v2b {k x y v : Int32} (h : k = 10 ∨ k = 11 ∨ k = 12) (hx : x = 0 ∨ x = 1) (hy : y = 0 ∨ y = 1) (e : f_Cd_two k x y = some v) : v = 0 ∨ v = 1 := yk_b01 h hx hy e
theorem yk_o01 {k x : Int32} (h : k = 2 ∨ k = 7) : f_Cd_one k x = 0 ∨ f_Cd_one k x = 1 := by
  rcases h with z | z <;> subst z
  · show (if x = 0 then (1 : Int32) else 0) = 0 ∨ (if x = 0 then (1 : Int32) else 0) = 1
    by_cases w : x = 0
    · rw [if_pos w]; exact .inr rfl
    · rw [if_neg w]; exact .inl rfl
  · show (if x = 0 then (0 : Int32) else 1) = 0 ∨ (if x = 0 then (0 : Int32) else 1) = 1
    by_cases w : x = 0
    · rw [if_pos w]; exact .inl rfl
    · rw [if_neg w]; exact .inr rfl
theorem yk_v1b {x : Int32} : f_Cd_one (f_Cd_turning (if (1 : Nat) = 0 then 1 else 0) (nI 0)) x = 0 ∨ f_Cd_one (f_Cd_turning (if (1 : Nat) = 0 then 1 else 0) (nI 0)) x = 1 := yk_o01 (.inl rfl)
theorem yk_v9 {x y z v : Int32} (e : f_Cd_standard (nI 9) (nI 0) x y z = some v) : v = 0 ∨ v = 1 := by
  have h : f_Cd_standard (nI 9) (nI 0) x y z = some (f_Cd_one 7 x) := rfl
  rw [← Option.some.inj (h.symm.trans e)]
  exact yk_o01 (.inr rfl)
theorem yk_v4 {x y z v : Int32} (e : f_Cd_standard (nI 4) (nI 0) x y z = some v) (hy : y = 0 ∨ y = 1) (hz : z = 0 ∨ z = 1) : v = 0 ∨ v = 1 := by
  have h : f_Cd_standard (nI 4) (nI 0) x y z = if x = 0 then some y else some z := rfl
  rw [h] at e
  by_cases w : x = 0
  · rw [if_pos w] at e; rw [← Option.some.inj e]; exact hy
  · rw [if_neg w] at e; rw [← Option.some.inj e]; exact hz
/-- numbers, one for each -/
def yo_a (R : Nat → Prop → Prop) : List Nat → List Prop → Prop
  | [], ps => ps = []
  | a :: l, ps => ∃ p qs, ps = p :: qs ∧ R a p ∧ yo_a R l qs
theorem yo_aap {R : Nat → Prop → Prop} {a : Nat} {p : Prop} (h : R a p) : ∀ (l : List Nat) (qs : List Prop), yo_a R l qs → yo_a R (l ++ [a]) (qs ++ [p]) := by
  intro l
  induction l with
  | nil => intro qs e; rw [show qs = [] from e]; exact ⟨p, [], rfl, h, rfl⟩
  | cons b l ih =>
    intro qs ⟨q, rs, e, r, A⟩
    rw [e]
    exact ⟨q, rs ++ [p], rfl, r, ih _ A⟩
theorem yo_arev {R : Nat → Prop → Prop} : ∀ (l : List Nat) (qs : List Prop), yo_a R l qs → yo_a R l.reverse qs.reverse := by
  intro l
  induction l with
  | nil => intro qs e; rw [show qs = [] from e]; rfl
  | cons b l ih =>
    intro qs ⟨q, rs, e, r, A⟩
    rw [e, List.reverse_cons, List.reverse_cons]
    exact yo_aap r _ _ (ih _ A)
section YOD
variable {h0 g0 : zs_H} {X : Nat → Nat} {b : Nat} {P : Nat → Prop} {Bc : Nat → Nat → Prop} {φ : Prop}
theorem yk_Xf : ∀ (t : zt_T) (Q : Nat → Prop) (x x' : Int32) (Ls : List (List yI)) (ws : List Nat), yk_X h0 g0 X b t Q x x' Ls → yb_fit h0 P ws x → Ls.length = ws.length → ∀ (LD : Nat → Prop) (K : List Prop → Prop) (st : List Prop), (∀ ps, yo_a (fun w p => (h0.2.1 31) (32 + w) = 0 → p) ws ps → K (ps.reverse ++ st)) → yo_W (yq_b LD h0) b (yx_s Ls) K st := by
  intro t
  induction t with
  | leaf =>
    intro Q x x' Ls ws ⟨_, _, e⟩ _ hl LD K st H
    subst e
    have ew : ws = [] := List.eq_nil_of_length_eq_zero hl.symm
    subst ew
    exact H [] rfl
  | inner kd kv o l r _ ihr =>
    intro Q x x' Ls ws ⟨i, k, Q1, Q2, L, Lr, e, ⟨i1, i2⟩, _, _, _, _, ⟨⟨_, T⟩, _⟩, R⟩ hfit hl LD K st H
    subst e
    cases ws with
    | nil => exact absurd hl (by simp)
    | cons w ws =>
      obtain ⟨a, a1, a2, a3, a4, a5⟩ := hfit
      have ea : i = a := (nI_eq (by omega) (by omega)).mp (i2.symm.trans a1)
      subst ea
      show yo_W (yq_b LD h0) b (L ++ yx_s Lr) K st
      rw [yo_Wap]
      refine T.1 LD _ _ fun p hp => ?_
      refine ihr Q2 _ _ Lr ws R a5 (Nat.succ.inj hl) LD K (p :: st) fun ps hps => ?_
      have := H (p :: ps) ⟨p, ps, rfl, fun z => hp (a4 z), hps⟩
      rw [List.reverse_cons, List.append_assoc] at this
      exact this
theorem yk_Xt : ∀ (t : zt_T) (Q : Nat → Prop) (x x' : Int32) (Ls : List (List yI)), yk_X h0 g0 X b t Q x x' Ls → ∀ L, L ∈ Ls → ∀ LD, yo_E (yq_b LD h0) b False L := by
  intro t
  induction t with
  | leaf =>
    intro Q x x' Ls ⟨_, _, e⟩ L hL
    rw [e] at hL; cases hL
  | inner kd kv o l r _ ihr =>
    intro Q x x' Ls ⟨i, k, Q1, Q2, L0, Lr, e, _, _, _, _, _, ⟨⟨_, T⟩, _⟩, R⟩ L hL LD
    rw [e] at hL
    rcases List.mem_cons.mp hL with z | z
    · rw [z]; exact yo_Em (fun q => q.elim) (T.1 LD)
    · exact ihr Q2 _ _ Lr R L z LD
theorem yk_X3 (t : zt_T) (Q : Nat → Prop) (x x' : Int32) (Ls : List (List yI)) {a : Nat} {x5 x6 : Int32} (XL : yk_X h0 g0 X b t Q x x' Ls) (hl : Ls.length = 3) (ex : x = nI a) (ha : a < 32784) (e5 : x5 = (h0.2.1 18) a) (e6 : x6 = (if x5 = -1 then -1 else (h0.2.1 18) x5.toNatClampNeg)) : ∃ b5 b6 L1 L2 L3, (x5 = nI b5 ∧ b5 < 32784 ∧ x6 = nI b6 ∧ b6 < 32784) ∧ Ls = [L1, L2, L3] ∧ yk_ty h0 b b5 L2 ∧ yk_ty h0 b b6 L3 := by
  cases t with
  | leaf => rw [XL.2.2] at hl; exact absurd hl (by decide)
  | inner kd kv o l r =>
    obtain ⟨i, k, Q1, Q2, L1, Lr, e, ⟨i1, i2⟩, _, _, _, _, _, R⟩ := XL
    have ei : i = a := (nI_eq (by omega) (by omega)).mp (i2.symm.trans ex)
    subst ei
    rw [e] at hl
    cases r with
    | leaf =>
      rw [R.2.2] at hl
      exact absurd (show 1 = 3 from hl) (by decide)
    | inner kd' kv' o' l' r' =>
      obtain ⟨j, k', Q1', Q2', L2, Lr', e', ⟨j1, j2⟩, _, _, _, _, ⟨⟨_, T2⟩, _⟩, R'⟩ := R
      rw [e'] at hl
      cases r' with
      | leaf =>
        rw [R'.2.2] at hl
        exact absurd (show 2 = 3 from hl) (by decide)
      | inner kd'' kv'' o'' l'' r'' =>
        obtain ⟨m, k'', Q1'', Q2'', L3, Lr'', e'', ⟨m1, m2⟩, _, _, _, _, ⟨⟨_, T3⟩, _⟩, R''⟩ := R'
        rw [e''] at hl
        have en : Lr'' = [] := List.eq_nil_of_length_eq_zero (by
          have : Lr''.length + 1 + 1 + 1 = 3 := hl
          omega)
        have x5e : x5 = nI j := e5.trans j2
        refine ⟨j, m, L1, L2, L3, ⟨x5e, j1, ?_, m1⟩, by rw [e, e', e'', en], T2, T3⟩
        rw [e6, x5e, if_neg (zc_m1 (by omega)), nI_clamp (show j < 2147483648 by omega), m2]
theorem yo_Wr {u : Nat} (hu : u < 2147483648) : ∀ (ws : List Nat) (ps st : List Prop) (K : List Prop → Prop), yo_a (fun w p => (h0.2.1 31) (32 + w) = 0 → p) ws ps → (∀ w, w ∈ ws → ∃ x, (h0.2.1 32) (32 + w) = nI x ∧ x < 2147483648 ∧ (Bc u x → (h0.2.1 31) (32 + w) = 0)) → K st → yo_W Bc b ((ws.map (fun w => (h0.2.1 32) (32 + w))).map (fun w => ((6, nI u, w, 0) : yI))) K (ps ++ st) := by
  intro ws
  induction ws with
  | nil => intro ps st K e _ H; rw [show ps = [] from e]; exact H
  | cons w ws ih =>
    intro ps st K ⟨p, qs, e, r, A⟩ hw H
    rw [e]
    obtain ⟨x, x1, x2, x3⟩ := hw w (List.mem_cons_self ..)
    show (Bc (nI u).toNatClampNeg ((h0.2.1 32) (32 + w)).toNatClampNeg → p) ∧ yo_W Bc b ((ws.map (fun w => (h0.2.1 32) (32 + w))).map (fun w => ((6, nI u, w, 0) : yI))) K (qs ++ st)
    rw [x1, nI_clamp hu, nI_clamp x2]
    exact ⟨fun z => r (x3 z), ih qs st K A (fun v hv => hw v (List.mem_cons_of_mem _ hv)) H⟩
/-- a call -/
theorem yo_ec {u : Nat} {ws : List Nat} {L : List yI} (hu : u < 2147483648) (A : ∀ (K : List Prop → Prop) (st : List Prop), (∀ ps, yo_a (fun w p => (h0.2.1 31) (32 + w) = 0 → p) ws ps → K (ps.reverse ++ st)) → yo_W Bc b L K st) (hw : ∀ w, w ∈ ws → ∃ x, (h0.2.1 32) (32 + w) = nI x ∧ x < 2147483648 ∧ (Bc u x → (h0.2.1 31) (32 + w) = 0)) (hr : φ → Bc u 0) : yo_E Bc b φ (yx_call u (ws.reverse.map (fun w => (h0.2.1 32) (32 + w))) L) := by
  intro K st H
  unfold yx_call
  rw [yo_Wap]
  refine A _ _ fun ps hps => ?_
  rw [yo_Wap]
  refine yo_Wr hu ws.reverse ps.reverse st _ (yo_arev _ _ hps) (fun w hw' => hw w (List.mem_reverse.mp hw')) ?_
  show K (Bc (nI u).toNatClampNeg (0 : Int32).toNatClampNeg :: st)
  rw [nI_clamp hu]
  exact H _ hr
/-- a standard function -/
theorem yo_es {s ty : Nat} {Ls : List (List yI)} (hs : s < 10) (ht : ty < 3) (hl : Ls.length = ya_ar s) (A : ∀ L, L ∈ Ls → yo_E Bc b False L) (h : φ → s = 9 ∨ (s = 4 ∧ ∃ L1 L2 L3, Ls = [L1, L2, L3] ∧ yo_E Bc b True L2 ∧ yo_E Bc b True L3)) : yo_E Bc b φ (yx_t s (f_Cd_standardKind (nI s) (nI ty)) Ls) := by
  have hars : ∀ s, s < 10 → (ya_ar s = 3 → s = 3 ∨ s = 4) ∧ 1 ≤ ya_ar s ∧ ya_ar s ≤ 3 := by decide
  obtain ⟨r3, r4, r5⟩ := hars s hs
  have a9 : ya_ar 9 = 1 := rfl
  have a4 : ya_ar 4 = 3 := rfl
  match Ls, hl, A, h with
  | [], hl, A, h => exact absurd hl (by show ¬ 0 = _; omega)
  | [a], hl, A, h =>
    have A1 := A a (by simp)
    have hl' : 1 = ya_ar s := hl
    have h9 : φ → s = 9 := fun z => by
      rcases h z with w | ⟨w, _⟩
      · exact w
      · rw [w] at hl'; omega
    show yo_E Bc b φ (if s = 8 then a else a ++ [(8, _, 0, 0)])
    by_cases h8 : s = 8
    · rw [if_pos h8]
      exact yo_Em (fun z => by have := h9 z; omega) A1
    · rw [if_neg h8]
      refine yo_E8 A1 fun z => .inr ?_
      rw [h9 z]; rfl
  | [a, c], hl, A, h =>
    have hl' : 2 = ya_ar s := hl
    refine yo_E7 (A a (by simp)) (A c (by simp)) fun z => ?_
    rcases h z with w | ⟨w, _⟩
    · rw [w] at hl'; omega
    · rw [w] at hl'; omega
  | [a, c, d], hl, A, h =>
    have hl' : 3 = ya_ar s := hl
    show yo_E Bc b φ (if s = 3 then _ else _)
    by_cases h3 : s = 3
    · rw [if_pos h3]
      refine yo_E7 (yo_E7 (φ := False) (A a (by simp)) (A c (by simp)) (fun z => z.elim)) (A d (by simp)) fun z => ?_
      rcases h z with w | ⟨w, _⟩ <;> omega
    · rw [if_neg h3]
      by_cases z : φ
      · rcases h z with w | ⟨w, L1, L2, L3, e, E2, E3⟩
        · rw [w] at hl'; omega
        · have e1 : c = L2 := by injection e with _ e; injection e
          have e2 : d = L3 := by injection e with _ e; injection e with _ e; injection e
          rw [e1, e2]
          exact yo_E9 (A a (by simp)) E2 E3 (fun _ => ⟨trivial, trivial⟩)
      · exact yo_E9 (A a (by simp)) (A c (by simp)) (A d (by simp)) (fun w => absurd w z)
  | a :: c :: d :: e :: es, hl, A, h => exact absurd hl (by show ¬ es.length + 1 + 1 + 1 + 1 = _; omega)
end YOD
end
section
/-! The coder: all expressions, on both sides. -/
theorem yk_exp1 {LC LM : List (List Int32)} {nb b sz : Nat} {F Fb X Y : Nat → Nat} {h0 g0 : zs_H} {P Q : Nat → Prop} (C : yk_cx LC LM nb F X Y h0 g0) (hb : b < nb) (hF : ∀ j, j ≤ b + 1 → Fb j = F j) (hP : ∀ j, P j → j < 32784) (hsz : (h0.1 12 6) = nI sz) (hs2 : sz ≤ 32784) {kd : Nat} {kv : Int32 × Int32} {o : Unit} {l r : zt_T} (ihl : zg_ok l → yb_top l → ∀ (Qm : Nat → Prop) (up x x' y : Int32), zt_M LC LM g0 l Qm up x' y → yb_F Fb b h0 g0 P Q l x x' (-1) (-1) → zg_d l ≤ 190 → zt_sz l ≤ sz → ∃ Ls, yk_X h0 g0 X b l Qm x x' Ls) (hA : zg_A kd (zg_run kd 0 l) = true) (hv : zg_v kd kv.2) (okl : zg_ok l) (hE : kd ∈ yb_E) : ∀ (Qm : Nat → Prop) (up x x' y ea eb : Int32), zt_M LC LM g0 (.inner kd kv o l r) Qm up x' y → yb_F Fb b h0 g0 P Q (.inner kd kv o l r) x x' ea eb → zg_d l + 1 ≤ 190 → zt_sz l + 1 ≤ sz → ∃ (i k : Nat) (Q1 Q2 : Nat → Prop) (z2 : Int32) (L : List yI), (P i ∧ i < 32784 ∧ x = nI i) ∧ (Qm k ∧ k < 33500 ∧ x' = nI k) ∧ (∀ j, Q1 j → Qm j ∧ ¬ j = k) ∧ (∀ j, Q2 j → Qm j) ∧ (yk_C h0 (zg_d l) (nI i) L ∧ yk_M g0 b Q1 (zg_d l) k L) ∧ ((L.length + 1 ≤ 6 * (1 + zt_sz l) ∧ yk_ty h0 b i L) ∧ yk_e X (fun u => (h0.2.1 21) (9 + u) = 1) b L) ∧ zt_M LC LM g0 r Q2 up ((g0.2.1 78) k) z2 ∧ yb_F Fb b h0 g0 P Q r ((h0.2.1 18) i) ((g0.2.1 78) k) ea eb := by
  have HS := C.1.1
  have V3 : F nb ≤ 5900 := C.1.2.1.2.1.2.2
  have B3 : nb ≤ 568 := C.1.2.1.1.2.2
  have hFb := C.1.2.1.2.2.2.1 b hb
  obtain ⟨⟨kX1, kX2, kX3⟩, kX4, _, _, _⟩ := C.2.2 b hb
  intro Qm up x x' y ea eb HM HF hd hz
  obtain ⟨i', k', QQ1, QQ2, _, ⟨_, ix'⟩, ⟨_, kk2, kx'⟩, qq1, _, KN, _, _⟩ := yk_const1 HS hP (fun okl tpl => yk_const HS hP l okl tpl) hA hv okl hE Qm up x x' y ea eb HM HF (by omega)
  obtain ⟨k'', P1, P2, z1, z2, qk, k40, ex', NM, hP1, hP2, Ml, Mr, ey⟩ := HM
  obtain ⟨i, k, xl, ⟨pi, i2, ix⟩, ⟨qk', k2, kx, km⟩, N, Al, Ar⟩ := HF
  have ek : k'' = k := (nI_eq (by omega) (by omega)).mp (ex'.symm.trans kx)
  subst ek
  have ek2 : k' = k'' := (nI_eq (by omega) (by omega)).mp (kx'.symm.trans kx)
  subst ek2
  have ei2 : i' = i := (nI_eq (by omega) (by omega)).mp (ix'.symm.trans ix)
  subst ei2
  obtain ⟨n1, n2, n3, n4, n5⟩ := NM
  have con1 : zv_kc h0 i' → f_Mo_isConstant 400 g0 (nI k') = some 1 ∧ f_Mo_valueOf 400 g0 (nI k') = some ((h0.2.1 16) i') := by
    intro z
    rcases KN with ⟨_, a, c⟩ | ⟨a, _⟩
    · exact ⟨yk_k1 (by omega) a (by omega), yk_v1 (by omega) k2 (fun q => (qq1 k' q).2 rfl) c (by omega)⟩
    · exact absurd z a
  have con0 : ¬ zv_kc h0 i' → f_Mo_isConstant 400 g0 (nI k') = some 0 := by
    intro z
    rcases KN with ⟨a, _⟩ | ⟨_, a⟩
    · exact absurd a z
    · exact yk_k1 (by omega) a (by omega)
  have fin : ∀ L, yk_C h0 (zg_d l) (nI i') L → yk_M g0 b P1 (zg_d l) k' L → L.length + 1 ≤ 6 * (1 + zt_sz l) → yk_e X (fun u => (h0.2.1 21) (9 + u) = 1) b L → yk_ty h0 b i' L → ∃ (i k : Nat) (Q1 Q2 : Nat → Prop) (z2 : Int32) (L : List yI), (P i ∧ i < 32784 ∧ x = nI i) ∧ (Qm k ∧ k < 33500 ∧ x' = nI k) ∧ (∀ j, Q1 j → Qm j ∧ ¬ j = k) ∧ (∀ j, Q2 j → Qm j) ∧ (yk_C h0 (zg_d l) (nI i) L ∧ yk_M g0 b Q1 (zg_d l) k L) ∧ ((L.length + 1 ≤ 6 * (1 + zt_sz l) ∧ yk_ty h0 b i L) ∧ yk_e X (fun u => (h0.2.1 21) (9 + u) = 1) b L) ∧ zt_M LC LM g0 r Q2 up ((g0.2.1 78) k) z2 ∧ yb_F Fb b h0 g0 P Q r ((h0.2.1 18) i) ((g0.2.1 78) k) ea eb := fun L a1 a2 a3 a4 a5 => ⟨i', k', P1, P2, z2, L, ⟨pi, i2, ix⟩, ⟨qk, k2, kx⟩, fun j hj => ⟨(hP1 j hj).1, (hP1 j hj).2.1⟩, fun j hj => (hP2 j hj).1, ⟨a1, a2⟩, ⟨⟨a3, a5⟩, a4⟩, Mr, Ar⟩
  have cst := fun (z : zv_kc h0 i') (hv01 : (h0.2.1 14) i' = 0 → (h0.2.1 16) i' = 0 ∨ (h0.2.1 16) i' = 1) => fin [(0, (h0.2.1 16) i', 0, 0)] (yk_C30 i2 z) (yk_Mc k2 (con1 z).1 (con1 z).2) (by show 1 + 1 ≤ _; omega) (yk_e0 rfl rfl (.inl rfl)) ⟨fun LD => yo_E0 hv01, fun _ => hv01⟩
  have nk : ∀ c : Int32, (h0.2.1 13) i' = c → ¬ c = 30 → ¬ c = 31 → ¬ zv_kc h0 i' := by
    intro c e a1 a2 z
    rcases z with z | z
    · exact a1 (e.symm.trans z)
    · exact a2 (e.symm.trans z)
  rcases N with N | ⟨ty, t1, t2, t3, N⟩
  · exact absurd hE (yb_SE N)
  · have ty0 : (h0.2.1 14) i' = 0 → ty = 0 := fun z => (zc_eq (k := 0) (by decide) (by omega)).mp (t2.symm.trans z)
    have var : ∀ u xx, yb_V Fb b h0 kv.2 u xx → F b ≤ u ∧ u < F (b + 1) ∧ (h0.2.1 32) (32 + u) = nI xx := by
      intro u xx ⟨v1, v2, _, _, v5⟩
      rw [hF _ (by omega)] at v1
      rw [hF _ (by omega)] at v2
      exact ⟨v1, v2, v5⟩
    rcases N with ⟨e, c1, u, xx, V, c3, c4, c5, c5t⟩ | ⟨e, c1, c2, c2a, c2b⟩ | ⟨e, c1, c2, u, xx, V, c4, c5, c6, c6t⟩ | ⟨e, c1, c2, a, u, xx, off, c3, c4, V, c6, c7, c8, c9, B, cv, d1, d2, d3, d4, d5, d6, d6t⟩ | ⟨e, c1, c2, bf, f1, f2, f3, f4, f5, f6, c, ec, hc, hcF, hlt, htyF, hfit⟩ | ⟨e, s, a, x5, x6, s1, s2, ⟨s3, s3', s3t⟩, s4, ⟨y1, y2, y3, y4, y5, y6⟩, s6⟩ | ⟨e, s, a, bn, s1, s2, s3, s4, s5, ⟨s6, s6t⟩, s7⟩ | ⟨e, s, a, s1, s2, s3, ⟨s4, s4t⟩, s5⟩
    · -- a name
      subst e
      obtain ⟨v1, v2, v5⟩ := var u xx V
      obtain ⟨ty', x0, s0, _, ⟨q2, _⟩, ⟨q3, _⟩, _, _, ⟨q6, q6'⟩, q7⟩ := yk_Q C hb v1 v2
      have e1 : s0 = 1 := by
        rcases q7 with ⟨_, _, _, e⟩ | ⟨e, _⟩ | ⟨B', hB', e, _⟩
        · exact e
        · rw [c5] at e; exact absurd e (by decide)
        · rw [c5] at e; exact absurd e.symm (zc_m1 (by omega))
      exact fin [(1, nI x0, 0, 0)] (yk_C6 i2 c1 (show 32 + u < 6000 by omega) c3 q2) (yk_M6 (km := 6) k2 (.inl rfl) km (con0 (nk 6 c1 (by decide) (by decide))) (c4.trans (v5.symm.trans q2))) (by show 1 + 1 ≤ _; omega) (yk_e0 rfl rfl (.inr (.inr (.inl ⟨rfl, x0, rfl, by omega⟩)))) ⟨fun LD => yo_E1 (by omega) (fun z => yq_bv (j := 0) C hb ⟨v1, v2⟩ (.inl c5) (by rw [c5t, ty0 z]; rfl) q2 (by omega) q3 (by omega) (by omega)), fun z => absurd z (nk 6 c1 (by decide) (by decide))⟩
    · -- a constant
      rcases e with e | e <;> subst e
      · exact cst (.inl c1) (fun z => absurd (ty0 z) (c2a rfl))
      · refine cst (.inr c1) (fun _ => ?_)
        rw [c2]
        rcases hv with q | ⟨x, x1, x2, _⟩
        · exact absurd q (by decide)
        · have x1' : x < 2 := x1
          have : x = 0 ∨ x = 1 := by omega
          rcases this with e | e <;> subst e
          · exact .inl x2
          · exact .inr x2
    · -- an element
      subst e
      obtain ⟨v1, v2, v5⟩ := var u xx V
      obtain ⟨ty', x0, s0, _, ⟨q2, _⟩, ⟨q3, q3'⟩, q4, _, ⟨q6, q6'⟩, q7⟩ := yk_Q C hb v1 v2
      obtain ⟨cd, ckv, co, cl, el, hcE⟩ := yb_g1 (.inl rfl) hA
      subst el
      have dl0 : max (zg_d cl + 1) 0 ≤ zg_d (.inner cd ckv co cl .leaf) := zg_d1 (r := .leaf)
      have zl0 : zt_sz (.inner cd ckv co cl .leaf) = 1 + zt_sz cl + 0 := rfl
      obtain ⟨Ls, i1, k1, Q1, Q2, L, Lr', eL, ⟨w1, w2⟩, ⟨w3, w4, w5⟩, w6, w7, ⟨wC, wM⟩, ⟨wl, we⟩, _⟩ := ihl okl ⟨hcE, trivial⟩ P1 _ _ _ _ Ml Al (by omega) (by omega)
      have nv := yk_vM C hb hF V (by rw [if_pos (by decide)] at n3; exact n3)
      have A := yk_C32 (dl := zg_d (.inner cd ckv co cl .leaf)) i2 c1 (show 32 + u < 6000 by omega) c4 q2 (show zg_d cl < _ by omega) (by rw [c2, w2]; exact wC)
      have B := yk_M32 (Q := P1) (dl := zg_d (.inner cd ckv co cl .leaf)) k2 w4 (show zg_d cl < _ by omega) (by omega) km (con0 (nk 32 c1 (by decide) (by decide))) w5 (fun g f => by rw [yk_fva f]; exact nv) (show u < 8400 by omega) (c5.trans (v5.symm.trans q2)) (fun z => (w6 k1 z).2 rfl) wM
      rw [q4, q3', ← q3] at B
      refine fin _ A B ?_ (yk_e1 rfl rfl (.inr (.inr (.inr (.inl ⟨rfl, x0, s0, rfl, q3, by omega⟩)))) we) ⟨fun LD => yo_E3 (by omega) (by omega) q3 (wl.2.1 LD) (fun z j hj => yq_bv C hb ⟨v1, v2⟩ (.inr c6) (by rw [c6t, ty0 z]; rfl) q2 (by omega) q3 (by omega) hj), fun z => absurd z (nk 32 c1 (by decide) (by decide))⟩
      rw [List.length_append]
      show L.length + 1 + 1 ≤ _
      omega
    · -- an output
      subst e
      obtain ⟨v1, v2, v5⟩ := var u xx V
      obtain ⟨ty', x0, s0, _, ⟨q2, _⟩, ⟨q3, _⟩, _, _, ⟨q6, q6'⟩, q7⟩ := yk_Q C hb v1 v2
      obtain ⟨B', b1, b2, b3⟩ : ∃ B', B' < 9 + b ∧ nI B = nI B' ∧ (h0.2.1 26) B' = nI s0 := by
        rcases q7 with ⟨e, _⟩ | ⟨e, _⟩ | ⟨B', b1, e, _, _, _, b3⟩
        · rw [d1] at e; exact absurd e (zc_m1 (by omega))
        · rw [d1] at e
          exact absurd e (by
            intro z
            have := congrArg (fun x => x.toNatClampNeg) z
            rw [nI_clamp (show B < 2147483648 by omega)] at this
            have e2 : (-2 : Int32).toNatClampNeg = 0 := by decide
            rw [e2] at this
            rw [this] at z
            exact absurd z (by decide))
        · exact ⟨B', b1, d1.symm.trans e, b3⟩
      have eB : B = B' := (nI_eq (by omega) (by omega)).mp b2
      subst eB
      obtain ⟨⟨kY1, kY2, kY3⟩, _⟩ := C.2.2 b hb
      obtain ⟨o0, o1, o2, _⟩ := yk_pin C hb hF d2 d3 d6 b3 (by omega)
      have eo : nI off = nI o0 := d5.symm.trans o1
      have ha : a < 32784 := hP a c4
      have A := yk_C33 (dl := zg_d l) i2 c1 (show 32 + u < 6000 by omega) c6 q2 (c2.trans c3) ha (c7.trans eo)
      have M8 : (g0.2.1 101) k' = nI (x0 + o0) := by
        rw [c8, ← nI_add, ← v5, q2, eo, nI_add]
      exact fin [(1, nI (x0 + o0), 0, 0)] A (yk_M6 (km := 33) k2 (.inr rfl) km (con0 (nk 33 c1 (by decide) (by decide))) M8) (by show 1 + 1 ≤ _; omega) (yk_e0 rfl rfl (.inr (.inr (.inl ⟨rfl, x0 + o0, rfl, by omega⟩)))) ⟨fun LD => yo_E1 (by omega) (fun z => (yq_bp C hb hF ⟨v1, v2⟩ d1 d2 q2 (by omega) q3 (by omega) d3 d6 o1 o2).mpr (by rw [d6t, ty0 z]; rfl)), fun z => absurd z (nk 33 c1 (by decide) (by decide))⟩
    · -- a call
      subst e
      obtain ⟨Ls, XL⟩ := ihl okl (yb_g34 hA) P1 _ _ _ _ Ml Al (by omega) (by omega)
      have hbf : bf < nb := by omega
      have hFF := C.1.2.1.2.2.2.1 bf hbf
      obtain ⟨g1, g2, g3⟩ := C.1.2.1.2.2.2.2.2.1 bf hbf
      rw [hF _ (by omega), hF _ (by omega)] at f4 hlt hfit
      rw [hF _ (by omega)] at htyF
      obtain ⟨r1, r2, r3, r4, r5, r6⟩ := yk_Xl l P1 _ _ Ls (zg_d l - 1) XL (by omega)
      have hdd : Ls = [] ∨ zg_d l - 1 < zg_d l := by
        cases l with
        | leaf => exact .inl XL.2.2
        | inner cd ckv co cl cr =>
          have : max (zg_d cl + 1) (zg_d cr) ≤ zg_d (.inner cd ckv co cl cr) := zg_d1
          exact .inr (by omega)
      have hls : Ls.length ≤ zt_sz l := by rw [r3]; exact zv_lnsz l
      have emm : F bf + (F (bf + 1) - F bf) = F (bf + 1) := by omega
      have A := yk_C34 (dl := zg_d l) (m := F (bf + 1) - F bf) i2 c1 (show bf < 600 by omega) f2 g1 (by rw [emm]; exact g3) (by omega) hsz (by omega) (by omega) hdd (by rw [c2]; exact r1)
      rw [if_pos (by decide), ec] at n3
      have w := zv_wF HS n3 hc
      rw [if_neg hcF] at w
      have hsec : ∀ v, v < F (bf + 1) → ((g0.2.1 95) v = 1 ↔ (h0.2.1 29) (32 + v) = 1) := by
        intro v hv
        obtain ⟨s, q1, q2, q3⟩ := C.1.2.2.2.1.1 v (by omega)
        rw [q2, q3]
        have : s = 0 ∨ s = 1 ∨ s = 2 ∨ s = 3 := by omega
        rcases this with e | e | e | e <;> subst e <;> decide
      have hin : ∀ j w, (zv_il h0 (F (bf + 1) - F bf) (F bf))[j]? = some w → f_Mo_input g0 (nI bf) (nI j) = some (nI w) ∧ w < 8400 := by
        intro j w hj
        have hm := List.mem_of_getElem? hj
        obtain ⟨m1, m2, _⟩ := zv_ilm h0 _ _ _ hm
        have hjl : j < (zv_il h0 (F (bf + 1) - F bf) (F bf)).length := by
          obtain ⟨z, _⟩ := List.getElem?_eq_some_iff.mp hj
          exact z
        have hlen := zv_ilen h0 (F (bf + 1) - F bf) (F bf)
        refine ⟨?_, by omega⟩
        unfold f_Mo_input
        rw [if_pos (zi_in (by omega) (by omega)), nI_clamp (show bf < 2147483648 by omega), g2]
        exact zv_ixM (e := F (bf + 1)) (by omega) hsec _ _ j zF w (by omega) (by have := zF_big; omega) (by omega) hj
      have M := yk_M34 (Q := P1) (dl := zg_d l) k2 hdd (by omega) (by omega) km (con0 (nk 34 c1 (by decide) (by decide))) w (show bf < 600 by omega) f3 hin (by rw [r3, f4]) (by have := zv_ilen h0 (F (bf + 1) - F bf) (F bf); omega) r2
      have ews : (zv_il h0 (F (bf + 1) - F bf) (F bf)).reverse.map (fun w => (g0.2.1 94) w) = (zv_il h0 (F (bf + 1) - F bf) (F bf)).reverse.map (fun w => (h0.2.1 32) (32 + w)) := by
        refine List.map_congr_left (fun w hw => ?_)
        obtain ⟨m1, m2, _⟩ := zv_ilm h0 _ _ _ (List.mem_reverse.mp hw)
        obtain ⟨_, x0, _, _, ⟨q2, q2'⟩, _⟩ := yk_Q C hbf m1 (show w < F (bf + 1) by omega)
        rw [q2, q2']
      rw [ews] at M
      have cv0 : (h0.2.1 32) (32 + F bf) = 0 := (C.1.2.2.2.2.1.2.2.2 bf hbf f5).2.2
      have kY := (C.2.2 bf hbf).1
      have tyC : yk_ty h0 b i' (yx_call bf ((zv_il h0 (F (bf + 1) - F bf) (F bf)).reverse.map (fun w => (h0.2.1 32) (32 + w))) (yx_s Ls)) := by
        refine ⟨fun LD => yo_ec (by omega) (fun K st => yk_Xf l P1 _ _ Ls _ XL hfit (by rw [r3, f4]) LD K st) (fun w hw => ?_) (fun z => ?_), fun z => absurd z (nk 34 c1 (by decide) (by decide))⟩
        · obtain ⟨m1, m2, m3⟩ := zv_ilm h0 _ _ _ hw
          obtain ⟨_, x0, s0, _, ⟨q2, _⟩, ⟨q3, _⟩, _, _, ⟨q6, _⟩, q7⟩ := yk_Q C hbf m1 (show w < F (bf + 1) by omega)
          have i1 := C.2.1 w (by omega) (.inl m3)
          have e1 : s0 = 1 := by
            rcases q7 with ⟨_, _, _, e⟩ | ⟨e, _⟩ | ⟨B', hB', e, _⟩
            · exact e
            · rw [i1] at e; exact absurd e (by decide)
            · rw [i1] at e; exact absurd e.symm (zc_m1 (by omega))
          exact ⟨x0, q2, by omega, fun z => yq_bc (j := 0) C hbf ⟨m1, by omega⟩ (.inl i1) q2 (by omega) q3 (by omega) (by omega) z⟩
        · obtain ⟨_, x0, s0, _, ⟨q2, _⟩, ⟨q3, _⟩, _, _, ⟨q6, _⟩, q7⟩ := yk_Q C hbf (Nat.le_refl (F bf)) hlt
          have ii := ((C.2.2 bf hbf).2.2.2.2.2 (F bf) (Nat.le_refl _) hlt).2 f5
          have e0 : x0 = 0 := (zc_eq (k := 0) (by decide) (by omega)).mp (q2.symm.trans cv0)
          have e1 : 1 ≤ s0 := by
            rcases q7 with ⟨_, _, _, e⟩ | ⟨_, _, _, e, _⟩ | ⟨B', hB', e, _⟩
            · omega
            · exact e
            · rcases ii with w | w
              · exact absurd (e.symm.trans w) (zc_m1 (by omega))
              · exact absurd (e.symm.trans w) (yq_m2 (by omega))
          have := yq_bv (LD := LD) (j := 0) C hbf ⟨Nat.le_refl _, hlt⟩ ii (by rw [htyF, ty0 z]; rfl) q2 (by omega) q3 (by omega) (by omega)
          rw [e0] at this
          exact this
      refine fin _ A M ?_ (yk_ec f1 f5 ?_ ?_ r5 r6) tyC
      · unfold yx_call
        rw [List.length_append, List.length_append, List.length_map, List.length_map, List.length_reverse]
        show (yx_s Ls).length + ((zv_il h0 (F (bf + 1) - F bf) (F bf)).length + 2) + 1 ≤ _
        omega
      · rw [List.length_map, List.length_reverse, r3, f4]
      · intro w hw
        obtain ⟨v, hv, ev⟩ := List.mem_map.mp hw
        obtain ⟨m1, m2, m3⟩ := zv_ilm h0 _ _ _ (List.mem_reverse.mp hv)
        obtain ⟨_, x0, s0, _, ⟨q2, q2'⟩, _, _, _, ⟨q6, _⟩, q7⟩ := yk_Q C hbf m1 (show v < F (bf + 1) by omega)
        have i1 := C.2.1 v (by omega) (.inl m3)
        have e1 : s0 = 1 := by
          rcases q7 with ⟨_, _, _, e⟩ | ⟨e, _⟩ | ⟨B', hB', e, _⟩
          · exact e
          · rw [i1] at e; exact absurd e (by decide)
          · rw [i1] at e; exact absurd e.symm (zc_m1 (by omega))
        have := (C.2.2 bf hbf).1
        exact ⟨x0, by rw [← ev]; exact q2, by omega⟩
    · -- a standard function
      subst e
      obtain ⟨Ls, XL⟩ := ihl okl (yb_g34 hA) P1 _ _ _ _ Ml Al (by omega) (by omega)
      obtain ⟨r1, r2, r3, r4, r5, r6⟩ := yk_Xl l P1 _ _ Ls (zg_d l - 1) XL (by omega)
      have x3 : s = 4 → ∃ b5 b6 L1 L2 L3, (x5 = nI b5 ∧ b5 < 32784 ∧ x6 = nI b6 ∧ b6 < 32784) ∧ Ls = [L1, L2, L3] ∧ yk_ty h0 b b5 L2 ∧ yk_ty h0 b b6 L3 := fun e4 => yk_X3 l P1 xl _ Ls XL (by rw [r3, s3, e4]; rfl) y1 (hP a y2) y3 y4
      rcases s6 with ⟨kk, q, qv⟩ | ⟨f1, f2, f3, f4⟩
      · refine cst (.inl q) (fun z => ?_)
        have e0 := ty0 z
        rw [e0] at qv
        rcases s3t e0 with e9 | ⟨e4, t4⟩
        · subst e9
          exact yk_v9 qv
        · obtain ⟨b5, b6, L1, L2, L3, ⟨x51, x52, x61, x62⟩, _, T5, T6⟩ := x3 e4
          subst e4
          refine yk_v4 qv ?_ ?_
          · have c5 := kk.2.1
            unfold ya_con at c5
            unfold ya_val
            rw [x51, nI_clamp (show b5 < 2147483648 by omega)] at c5
            rw [x51, if_neg (zc_m1 (by omega)), nI_clamp (show b5 < 2147483648 by omega)]
            exact T5.2 (c5.resolve_left (zc_m1 (by omega))) (t4 b5 x52 (.inl x51))
          · have c6 := kk.2.2
            unfold ya_con at c6
            unfold ya_val
            rw [x61, nI_clamp (show b6 < 2147483648 by omega)] at c6
            rw [x61, if_neg (zc_m1 (by omega)), nI_clamp (show b6 < 2147483648 by omega)]
            exact T6.2 (c6.resolve_left (zc_m1 (by omega))) (t4 b6 x62 (.inr x61))
      · have tyS : yk_ty h0 b i' (yx_t s (f_Cd_standardKind (nI s) (nI ty)) Ls) := by
          refine ⟨fun LD => yo_es s1 t1 (r3.trans s3) (fun L hL => yk_Xt l P1 _ _ Ls XL L hL LD) (fun z => ?_), fun z => absurd z (nk 39 f2 (by decide) (by decide))⟩
          rcases s3t (ty0 z) with e9 | ⟨e4, t4⟩
          · exact .inl e9
          · obtain ⟨b5, b6, L1, L2, L3, ⟨x51, x52, x61, x62⟩, eL, T5, T6⟩ := x3 e4
            exact .inr ⟨e4, L1, L2, L3, eL, yo_Em (fun _ => t4 b5 x52 (.inl x51)) (T5.1 LD), yo_Em (fun _ => t4 b6 x62 (.inr x61)) (T6.1 LD)⟩
        have hn1 : 1 ≤ zt_ln l := by
          rw [s3]
          have : ∀ s, s < 10 → 1 ≤ ya_ar s := by decide
          exact this s s1
        have hdd : zg_d l - 1 < zg_d l := by
          cases l with
          | leaf => exact absurd hn1 (by decide)
          | inner cd ckv co cl cr =>
            have : max (zg_d cl + 1) (zg_d cr) ≤ zg_d (.inner cd ckv co cl cr) := zg_d1
            omega
        obtain ⟨ka, ka1, ka2, ka3⟩ : ∃ kk, kk < 33500 ∧ (g0.2.1 76) k' = nI kk ∧ (s = 0 ∨ s = 5 ∨ s = 6 → (g0.2.1 100) kk = nI ty) := by
          cases l with
          | leaf => exact absurd hn1 (by decide)
          | inner cd ckv co cl cr =>
            obtain ⟨ic, kc, xc, ⟨_, ic2, icx⟩, ⟨_, kc2, kcx, _⟩, Nc, _, _⟩ := Al
            refine ⟨kc, kc2, kcx, fun q => ?_⟩
            have : ic = a := (nI_eq (by omega) (by have := hP a y2; omega)).mp (icx.symm.trans y1)
            subst this
            have hEc : cd ∈ yb_E := (yb_g34 hA).1
            rcases Nc with Nc | ⟨ty', _, w2, w3, _⟩
            · exact absurd hEc (yb_SE Nc)
            · rw [w3, ← w2]; exact s3' q
        rw [if_pos (by decide), s2] at n3
        have w := zv_wF HS n3 (show 50 + s < 6000 by omega)
        rw [if_pos (by omega), show 50 + s - 50 = s by omega] at w
        have A := yk_C39 (dl := zg_d l) i2 f2 s1 f3 (r3.trans s3) hdd (by rw [f4]; exact r1)
        rw [t2] at A
        have M := yk_M39 (Q := P1) (dl := zg_d l) k2 hdd (by omega) km (con0 (nk 39 f2 (by decide) (by decide))) s1 w t1 ka1 ka2 ka3 (r3.trans s3) r2
        refine fin _ A M ?_ (yk_es s1 t1 (r3.trans s3) (yk_Xe l P1 _ _ Ls XL)) tyS
        have := yk_tl (k := f_Cd_standardKind (nI s) (nI ty)) (Ls := Ls) s1 (r3.trans s3)
        omega
    · -- an operation of two
      subst e
      obtain ⟨cd, ckv, co, cl, cd2, ckv2, co2, cl2, el, hc, hc2⟩ := yb_g2 hA
      subst el
      have dl0 : max (zg_d cl + 1) (max (zg_d cl2 + 1) 0) ≤ zg_d (.inner cd ckv co cl (.inner cd2 ckv2 co2 cl2 .leaf)) := zg_d2 (r := .leaf)
      have zl0 : zt_sz (.inner cd ckv co cl (.inner cd2 ckv2 co2 cl2 .leaf)) = 1 + zt_sz cl + (1 + zt_sz cl2 + 0) := rfl
      obtain ⟨Ls, i1, k1, Q1, Q2, L1, Lr1, _, ⟨w1, w2⟩, ⟨w3, w4, w5⟩, w6, w7, ⟨wC, wM⟩, ⟨wl, we⟩, i1', k1', Q1', Q2', L2, Lr2, _, ⟨v1, v2⟩, ⟨v3, v4, v5⟩, v6, v7, ⟨vC, vM⟩, ⟨vl, ve⟩, _⟩ := ihl okl ⟨hc, hc2, trivial⟩ P1 _ _ _ _ Ml Al (by omega) (by omega)
      have ea : i1 = a := (nI_eq (by omega) (by have := hP a s4; omega)).mp (w2.symm.trans s3)
      subst ea
      have eb : i1' = bn := (nI_eq (by omega) (by have := hP bn s6; omega)).mp (v2.symm.trans s5)
      subst eb
      rcases s7 with ⟨kk, q, qv⟩ | ⟨f1, f2, f3, f4⟩
      · refine cst (.inl q) (fun z => ?_)
        have e0 := ty0 z
        rw [e0] at qv
        rcases s6t e0 with w | ⟨w1, w2', w3'⟩
        · exact yk_v2 ((yk_eop s s1).1 w) qv
        · exact yk_v2b ((yk_eop s s1).2 w1) (wl.2.2 kk.1 w2') (vl.2.2 kk.2.1 w3') qv
      · have hl : (g0.2.1 77) k' = nI k1' ∧ (g0.2.1 75) k1 = nI k' := by
          obtain ⟨q, R1, R2, zz1, zz2, _, q40, qx, NQ, _, _, _, ⟨q', R1', R2', zz1', zz2', _, q40', qx', _, _, _, _, mr, ey2⟩, ey1⟩ := Ml
          rw [mr.2, if_pos rfl] at ey2
          rw [ey2, qx', if_neg (zc_m1 (by omega))] at ey1
          have eq : q = k1 := (nI_eq (by omega) (by omega)).mp (qx.symm.trans w5)
          subst eq
          refine ⟨?_, NQ.2.2.2.1⟩
          rw [n5, ey1, ← qx', v5]
        rw [if_neg (by decide), s2] at n3
        have A := yk_C35 (dl := zg_d (.inner cd ckv co cl (.inner cd2 ckv2 co2 cl2 .leaf))) i2 f2 (f4.trans w2) w1 s5 (show zg_d cl < _ by omega) (show zg_d cl2 < _ by omega) wC vC
        rw [f3, s2, t2] at A
        have M := yk_M35 (Q := P1) (dl := zg_d (.inner cd ckv co cl (.inner cd2 ckv2 co2 cl2 .leaf))) k2 w4 v4 (show zg_d cl < _ by omega) (show zg_d cl2 < _ by omega) (by omega) km (con0 (nk 35 f2 (by decide) (by decide))) w5 hl.2 hl.1 (fun j hj => (w6 j hj).1) w3 (fun z => (v6 k1' z).2 rfl) (yi_sign k2 s1 t1 n3 t3) wM vM
        obtain ⟨kk, kk1, kk2⟩ := yk_eo s s1 ty t1
        have tyS : yk_ty h0 b i' (L1 ++ (L2 ++ [(7, f_Cd_operation (nI s) (nI ty), 0, 0)])) := by
          refine ⟨fun LD => yo_E7 (wl.2.1 LD) (vl.2.1 LD) (fun z => ?_), fun z => absurd z (nk 35 f2 (by decide) (by decide))⟩
          rw [ty0 z]
          rcases s6t (ty0 z) with w | ⟨w1, w2', w3'⟩
          · exact .inl ((yk_eop s s1).1 w)
          · exact .inr ⟨(yk_eop s s1).2 w1, w2', w3'⟩
        refine fin _ A M ?_ (yk_e2 kk2 kk1 we ve) tyS
        rw [List.length_append, List.length_append]
        show L1.length + (L2.length + 1) + 1 ≤ _
        omega
    · -- one with a sign before it
      subst e
      rcases s5 with ⟨_, q, qv⟩ | ⟨f1, f2, f3, f4⟩
      · refine cst (.inl q) (fun z => ?_)
        rw [qv, ty0 z, s4t (ty0 z)]
        exact yk_v1b
      · obtain ⟨cd, ckv, co, cl, el, hcE⟩ := yb_g1 (.inr rfl) hA
        subst el
        have dl0 : max (zg_d cl + 1) 0 ≤ zg_d (.inner cd ckv co cl .leaf) := zg_d1 (r := .leaf)
        have zl0 : zt_sz (.inner cd ckv co cl .leaf) = 1 + zt_sz cl + 0 := rfl
        obtain ⟨Ls, i1, k1, Q1, Q2, L, Lr', eL, ⟨w1, w2⟩, ⟨w3, w4, w5⟩, w6, w7, ⟨wC, wM⟩, ⟨wl, we⟩, _⟩ := ihl okl ⟨hcE, trivial⟩ P1 _ _ _ _ Ml Al (by omega) (by omega)
        rw [if_neg (by decide), s2] at n3
        have A := yk_C36 (dl := zg_d (.inner cd ckv co cl .leaf)) i2 f2 (f4.trans w2) (show zg_d cl < _ by omega) wC
        have et : (if (h0.2.1 16) i' = 0 then (1 : Int32) else 0) = if s = 0 then 1 else 0 := by
          rw [f3, s2]
          by_cases z : s = 0
          · rw [if_pos z, if_pos (by rw [z]; rfl)]
          · rw [if_neg z, if_neg (mt (zc_eq (k := 0) (by decide) (by omega)).mp z)]
        rw [et, t2] at A
        have M := yk_M36 (Q := P1) (dl := zg_d (.inner cd ckv co cl .leaf)) k2 w4 (show zg_d cl < _ by omega) (by omega) km (con0 (nk 36 f2 (by decide) (by decide))) w5 (yi_turn k2 s1 t1 n3 t3) (fun z => (w6 k1 z).2 rfl) wM
        obtain ⟨kk, kk1, kk2⟩ := yk_et s s1 ty t1
        refine fin _ A M ?_ (yk_e1 rfl rfl (.inr (.inr (.inr (.inr (.inr (.inr (.inr (.inl ⟨rfl, kk, kk2, kk1⟩)))))))) we) ⟨fun LD => yo_E8 (wl.2.1 LD) (fun z => .inl (by rw [ty0 z, s4t (ty0 z)]; rfl)), fun z => absurd z (nk 36 f2 (by decide) (by decide))⟩
        rw [List.length_append]
        show L.length + 1 + 1 ≤ _
        omega
theorem yk_exp {LC LM : List (List Int32)} {nb b sz : Nat} {F Fb X Y : Nat → Nat} {h0 g0 : zs_H} {P Q : Nat → Prop} (C : yk_cx LC LM nb F X Y h0 g0) (hb : b < nb) (hF : ∀ j, j ≤ b + 1 → Fb j = F j) (hP : ∀ j, P j → j < 32784) (hsz : (h0.1 12 6) = nI sz) (hs2 : sz ≤ 32784) : ∀ (t : zt_T), zg_ok t → yb_top t → ∀ (Qm : Nat → Prop) (up x x' y : Int32), zt_M LC LM g0 t Qm up x' y → yb_F Fb b h0 g0 P Q t x x' (-1) (-1) → zg_d t ≤ 190 → zt_sz t ≤ sz → ∃ Ls, yk_X h0 g0 X b t Qm x x' Ls := by
  intro t
  induction t with
  | leaf => intro _ _ Qm up x x' y _ A _ _; exact ⟨[], A.1, A.2, rfl⟩
  | inner kd kv o l r ihl ihr =>
    intro ⟨⟨hA, hv⟩, okl, okr⟩ ⟨hE, tr⟩ Qm up x x' y HM HF hd hz
    have hd0 : max (zg_d l + 1) (zg_d r) ≤ zg_d (.inner kd kv o l r) := zg_d1
    have hz0 : zt_sz (.inner kd kv o l r) = 1 + zt_sz l + zt_sz r := rfl
    obtain ⟨i, k, Q1, Q2, z2, L, ⟨_, a1⟩, a2, a3, a4, a5, a6, Mr, Ar⟩ := yk_exp1 C hb hF hP hsz hs2 ihl hA hv okl hE Qm up x x' y (-1) (-1) HM HF (by omega) (by omega)
    obtain ⟨Lr, XR⟩ := ihr okr tr Q2 up _ _ z2 Mr Ar (by omega) (by omega)
    exact ⟨L :: Lr, i, k, Q1, Q2, L, Lr, rfl, a1, a2, a3, a4, a5, a6, XR⟩
end
section
/-! The coder: code with jumps whose ends are not known yet. -/
/-- all of an instruction but where it jumps to -/
def yC_m0 (h : zs_H) (j : Nat) (i : yI) : Prop := (h.2.1 42) j = nI i.1 ∧ (h.2.1 44) j = i.2.2.1 ∧ (h.2.1 45) j = i.2.2.2
def yM_m0 (s : Nat) (g : zs_H) (j : Nat) (i : yJ) : Prop := (g.2.1 104) j = nI i.1.1 ∧ (g.2.1 107) j = i.1.2.2.2 ∧ (g.2.1 108) j = nI i.2 ∧ (if i.1.1 = 13 then (g.2.1 105) j = yM_A s i.1 else (g.2.1 106) j = yM_B s i.1)
def yM_t (s : Nat) (g : zs_H) (j : Nat) (i : yJ) : Prop := if i.1.1 = 13 then (g.2.1 106) j = yM_B s i.1 else (g.2.1 105) j = yM_A s i.1
abbrev yC_g : List (Nat × Nat) := [(41, 5), (47, 4), (47, 6)]
abbrev yM_g : List (Nat × Nat) := [(68, 56), (68, 64), (68, 66), (68, 68)]
abbrev yM_x : List Nat := [104, 105, 106, 107, 108, 110, 111]
/-- L has been laid down from n on, with holes at H -/
def yC_H (n : Nat) (L : List yI) (H : List Nat) (h h' : zs_H) : Prop := (h'.1 41 5) = nI (n + L.length) ∧ zfr yC_g yC_w [] h h' ∧ (n + L.length ≤ 4000 → (∀ j, j < n → ∀ a, a ∈ yC_w → h'.2.1 a j = h.2.1 a j) ∧ ∀ k i, L[k]? = some i → yC_m0 h' (n + k) i ∧ (¬ n + k ∈ H → (h'.2.1 43) (n + k) = i.2.1))
def yM_H (s n : Nat) (L : List yJ) (H : List Nat) (g g' : zs_H) : Prop := (g'.1 68 56) = nI (n + L.length) ∧ zfr yM_g yM_x [] g g' ∧ (n + L.length ≤ 4000 → (∀ j, j < n → ∀ a, a ∈ yM_w → g'.2.1 a j = g.2.1 a j) ∧ ∀ k i, L[k]? = some i → yM_m0 s g' (n + k) i ∧ (¬ n + k ∈ H → yM_t s g' (n + k) i))
section YH
variable {n s : Nat} {L L1 L2 : List yI} {M M1 M2 : List yJ} {H H1 H2 : List Nat} {h h1 h2 h' g g1 g2 g' : zs_H}
theorem yC_EH (E : yC_E n L h h') : yC_H n L [] h h' := by
  obtain ⟨e1, e2, e3⟩ := E
  refine ⟨e1, zfr_w e2 (by decide) (by decide) (by decide), fun hn => ⟨(e3 hn).1, fun k i ei => ?_⟩⟩
  obtain ⟨m1, m2, m3, m4⟩ := (e3 hn).2 k i ei
  exact ⟨⟨m1, m3, m4⟩, fun _ => m2⟩
theorem yM_EH (E : yM_E s n M g g') : yM_H s n M [] g g' := by
  obtain ⟨e1, e2, e3⟩ := E
  refine ⟨e1, zfr_w e2 (by decide) (by decide) (by decide), fun hn => ⟨(e3 hn).1, fun k i ei => ?_⟩⟩
  obtain ⟨m1, m2, m3, m4, m5⟩ := (e3 hn).2 k i ei
  refine ⟨⟨m1, m4, m5, ?_⟩, fun _ => ?_⟩
  · split
    · exact m2
    · exact m3
  · unfold yM_t
    split
    · exact m3
    · exact m2
theorem yC_m0f {j : Nat} {i : yI} (e : ∀ a, a ∈ yC_w → h'.2.1 a j = h.2.1 a j) (m : yC_m0 h j i) : yC_m0 h' j i := by
  obtain ⟨m1, m2, m3⟩ := m
  exact ⟨by rw [e _ (by decide)]; exact m1, by rw [e _ (by decide)]; exact m2, by rw [e _ (by decide)]; exact m3⟩
theorem yM_m0f {j : Nat} {i : yJ} (e : ∀ a, a ∈ yM_w → g'.2.1 a j = g.2.1 a j) (m : yM_m0 s g j i) : yM_m0 s g' j i := by
  obtain ⟨m1, m2, m3, m4⟩ := m
  refine ⟨by rw [e _ (by decide)]; exact m1, by rw [e _ (by decide)]; exact m2, by rw [e _ (by decide)]; exact m3, ?_⟩
  rw [e 105 (by decide), e 106 (by decide)]; exact m4
theorem yM_tf {j : Nat} {i : yJ} (e : ∀ a, a ∈ yM_w → g'.2.1 a j = g.2.1 a j) (m : yM_t s g j i) : yM_t s g' j i := by
  unfold yM_t at m ⊢
  rw [e 105 (by decide), e 106 (by decide)]; exact m
theorem yC_Hap (A : yC_H n L1 H1 h h1) (B : yC_H (n + L1.length) L2 H2 h1 h2) : yC_H n (L1 ++ L2) (H1 ++ H2) h h2 := by
  obtain ⟨a1, a2, a3⟩ := A
  obtain ⟨b1, b2, b3⟩ := B
  refine ⟨by rw [b1, List.length_append, Nat.add_assoc], zfr_trans a2 b2, fun hn => ?_⟩
  rw [List.length_append] at hn
  obtain ⟨c1, c2⟩ := a3 (by omega)
  obtain ⟨d1, d2⟩ := b3 (by omega)
  refine ⟨fun j hj a ha => (d1 j (by omega) a ha).trans (c1 j hj a ha), fun k i e => ?_⟩
  rw [List.getElem?_append] at e
  by_cases z : k < L1.length
  · rw [if_pos z] at e
    obtain ⟨x1, x2⟩ := c2 k i e
    have ee : ∀ a, a ∈ yC_w → h2.2.1 a (n + k) = h1.2.1 a (n + k) := fun a ha => d1 _ (by omega) a ha
    exact ⟨yC_m0f ee x1, fun q => (ee _ (by decide)).trans (x2 (fun w => q (List.mem_append.mpr (.inl w))))⟩
  · rw [if_neg z] at e
    have := d2 _ i e
    rw [show n + L1.length + (k - L1.length) = n + k by omega] at this
    exact ⟨this.1, fun q => this.2 (fun w => q (List.mem_append.mpr (.inr w)))⟩
theorem yM_Hap (A : yM_H s n M1 H1 g g1) (B : yM_H s (n + M1.length) M2 H2 g1 g2) : yM_H s n (M1 ++ M2) (H1 ++ H2) g g2 := by
  obtain ⟨a1, a2, a3⟩ := A
  obtain ⟨b1, b2, b3⟩ := B
  refine ⟨by rw [b1, List.length_append, Nat.add_assoc], zfr_trans a2 b2, fun hn => ?_⟩
  rw [List.length_append] at hn
  obtain ⟨c1, c2⟩ := a3 (by omega)
  obtain ⟨d1, d2⟩ := b3 (by omega)
  refine ⟨fun j hj a ha => (d1 j (by omega) a ha).trans (c1 j hj a ha), fun k i e => ?_⟩
  rw [List.getElem?_append] at e
  by_cases z : k < M1.length
  · rw [if_pos z] at e
    obtain ⟨x1, x2⟩ := c2 k i e
    have ee : ∀ a, a ∈ yM_w → g2.2.1 a (n + k) = g1.2.1 a (n + k) := fun a ha => d1 _ (by omega) a ha
    exact ⟨yM_m0f ee x1, fun q => yM_tf ee (x2 (fun w => q (List.mem_append.mpr (.inl w))))⟩
  · rw [if_neg z] at e
    have := d2 _ i e
    rw [show n + M1.length + (k - M1.length) = n + k by omega] at this
    exact ⟨this.1, fun q => this.2 (fun w => q (List.mem_append.mpr (.inr w)))⟩
theorem yC_Hm (A : yC_H n L H h h') (hH : ∀ j, j ∈ H → j ∈ H1) : yC_H n L H1 h h' := ⟨A.1, A.2.1, fun hn => ⟨(A.2.2 hn).1, fun k i e => ⟨((A.2.2 hn).2 k i e).1, fun q => ((A.2.2 hn).2 k i e).2 (fun w => q (hH _ w))⟩⟩⟩
theorem yM_Hm (A : yM_H s n M H g g') (hH : ∀ j, j ∈ H → j ∈ H1) : yM_H s n M H1 g g' := ⟨A.1, A.2.1, fun hn => ⟨(A.2.2 hn).1, fun k i e => ⟨((A.2.2 hn).2 k i e).1, fun q => ((A.2.2 hn).2 k i e).2 (fun w => q (hH _ w))⟩⟩⟩
/-- a row of jumps, each of which tells the one before it -/
def yC_ch (h : zs_H) (x0 : Int32) : Nat → List Nat → Int32 → Prop
  | _, [], x => x = x0
  | m, j :: js, x => j < m ∧ x = nI j ∧ yC_ch h x0 j js ((h.2.1 43) j)
theorem yC_chf {x0 : Int32} : ∀ (js : List Nat) (m : Nat) (x : Int32), (∀ j, j < m → (h'.2.1 43) j = (h.2.1 43) j) → yC_ch h x0 m js x → yC_ch h' x0 m js x := by
  intro js
  induction js with
  | nil => intro m x _ H; exact H
  | cons j js ih =>
    intro m x e ⟨h1, h2, h3⟩
    exact ⟨h1, h2, by rw [e j h1]; exact ih j _ (fun i hi => e i (by omega)) h3⟩
theorem yC_chm {x0 x : Int32} {js : List Nat} {m m' : Nat} (hm : m ≤ m') (H : yC_ch h x0 m js x) : yC_ch h x0 m' js x := by
  cases js with
  | nil => exact H
  | cons j js => exact ⟨by have := H.1; omega, H.2⟩
theorem yC_cha {x0 : Int32} : ∀ (js ks : List Nat) (m m' : Nat) (x y : Int32), (∀ j, j ∈ js → m' ≤ j) → yC_ch h y m js x → yC_ch h x0 m' ks y → m' ≤ m → yC_ch h x0 m (js ++ ks) x := by
  intro js
  induction js with
  | nil => intro ks m m' x y _ A B hm; rw [show x = y from A]; exact yC_chm hm B
  | cons j js ih =>
    intro ks m m' x y hj ⟨a1, a2, a3⟩ B hm
    exact ⟨a1, a2, ih ks j m' _ y (fun i hi => hj i (List.mem_cons.mpr (.inr hi))) a3 B (hj j (List.mem_cons.mpr (.inl rfl)))⟩
theorem yC_chl : ∀ (js : List Nat) (m : Nat) (x0 x : Int32), yC_ch h x0 m js x → js.length ≤ m ∧ ∀ j, j ∈ js → j < m := by
  intro js
  induction js with
  | nil => intro m x0 x _; exact ⟨Nat.zero_le _, fun j hj => by cases hj⟩
  | cons j js ih =>
    intro m x0 x ⟨h1, _, h3⟩
    obtain ⟨a, b⟩ := ih j _ _ h3
    refine ⟨by show js.length + 1 ≤ m; omega, fun i hi => ?_⟩
    rcases List.mem_cons.mp hi with e | e
    · omega
    · have := b i e; omega
theorem yC_uj {N : Nat} {x y : Int32} : f_Cd_joinHere_L4 (N + 1) h x y = f_Cd_joinHere_4 (f_Cd_joinHere_L4 N) h x y := rfl
/-- all of them go to the next instruction -/
theorem yC_jh : ∀ (js : List Nat) (m t N : Nat) (h : zs_H) (x : Int32), yC_ch h (-1) m js x → m ≤ 4000 → t + js.length ≤ 4000 → js.length < N → ∃ h', f_Cd_joinHere_L4 N h x (nI t) = some h' ∧ zfr [] [43] [] h h' ∧ ∀ j, (h'.2.1 43) j = if j ∈ js then (h.1 41 5) else (h.2.1 43) j := by
  intro js
  induction js with
  | nil =>
    intro m t N h x H hm ht hN
    obtain ⟨N, rfl⟩ : ∃ z, N = z + 1 := ⟨N - 1, by omega⟩
    refine ⟨h, ?_, zfr_rfl, fun j => by simp⟩
    rw [yC_uj, show x = -1 from H]
    unfold f_Cd_joinHere_4
    rw [if_pos (show (-1 : Int32) < 0 by decide), ite_self]
  | cons j js ih =>
    intro m t N h x ⟨h1, h2, h3⟩ hm ht hN
    have ht' : t + (js.length + 1) ≤ 4000 := ht
    have hN' : js.length + 1 < N := hN
    obtain ⟨N, rfl⟩ : ∃ z, N = z + 1 := ⟨N - 1, by omega⟩
    have hj4 : j < 4000 := by omega
    have e0 : ∀ i, ((zs_uM h 43 j ((h.1 41 5))).2.1 43) i = if i = j then (h.1 41 5) else (h.2.1 43) i := fun i => by
      rw [zu_MM]
      by_cases z : i = j
      · rw [if_pos ⟨rfl, z⟩, if_pos z]
      · rw [if_neg (fun q => z q.2), if_neg z]
    obtain ⟨h', a1, a2, a3⟩ := ih j (t + 1) N (zs_uM h 43 j ((h.1 41 5))) ((h.2.1 43) j) (yC_chf (h := h) js j _ (fun i hi => by rw [e0, if_neg (by omega)]) h3) (by omega) (by omega) (by omega)
    refine ⟨h', ?_, zfr_trans (zfr_M (by decide) zfr_rfl) a2, fun i => ?_⟩
    · rw [yC_uj, h2]
      unfold f_Cd_joinHere_4
      rw [if_neg (mt (zc_le (k := 4000) (by decide) (by omega)).mp (by omega)), if_neg (nI_pos (by omega)), if_neg (mt (zc_le (k := 4000) (by decide) (by omega)).mp (by omega)), if_pos (zi_in (by omega) hj4), nI_clamp (show j < 2147483648 by omega), nI_1]
      exact a1
    · rw [a3 i, e0 i]
      show (if i ∈ js then (h.1 41 5) else _) = _
      by_cases z : i ∈ js
      · rw [if_pos z, if_pos (List.mem_cons.mpr (.inr z))]
      · rw [if_neg z]
        by_cases w : i = j
        · rw [if_pos w, if_pos (List.mem_cons.mpr (.inl w))]
        · rw [if_neg w, if_neg (fun q => (List.mem_cons.mp q).elim w z)]
/-- it ends in any case -/
theorem yC_jt : ∀ (u t N : Nat) (h : zs_H) (x : Int32), t + u = 4000 → u < N → ∃ h', f_Cd_joinHere_L4 N h x (nI t) = some h' ∧ zfr [] [43] [] h h' := by
  intro u
  induction u with
  | zero =>
    intro t N h x ht hN
    obtain ⟨N, rfl⟩ : ∃ z, N = z + 1 := ⟨N - 1, by omega⟩
    refine ⟨h, ?_, zfr_rfl⟩
    rw [yC_uj]
    unfold f_Cd_joinHere_4
    rw [if_pos ((zc_le (k := 4000) (by decide) (by omega)).mpr (by omega))]
  | succ u ih =>
    intro t N h x ht hN
    obtain ⟨N, rfl⟩ : ∃ z, N = z + 1 := ⟨N - 1, by omega⟩
    rw [yC_uj]
    unfold f_Cd_joinHere_4
    rw [if_neg (mt (zc_le (k := 4000) (by decide) (by omega)).mp (by omega))]
    by_cases z : x < 0
    · rw [if_pos z]; exact ⟨h, rfl, zfr_rfl⟩
    · rw [if_neg z]
      obtain ⟨j, hj⟩ : ∃ j, j = x.toNatClampNeg := ⟨_, rfl⟩
      have ex : x = nI j := by rw [hj]; exact (zi_nn z).symm
      have hjb : j < 2147483648 := by rw [hj]; exact Int32.toNatClampNeg_lt x
      rw [ex]
      by_cases w : j < 4000
      · rw [if_neg (mt (zc_le (k := 4000) (by decide) hjb).mp (by omega)), if_pos (zi_in hjb w), nI_clamp hjb, nI_1]
        obtain ⟨h', a1, a2⟩ := ih (t + 1) N (zs_uM h 43 j ((h.1 41 5))) ((h.2.1 43) j) (by omega) (by omega)
        exact ⟨h', a1, zfr_trans (zfr_M (by decide) zfr_rfl) a2⟩
      · rw [if_pos ((zc_le (k := 4000) (by decide) hjb).mpr (by omega))]
        exact ⟨h, rfl, zfr_rfl⟩
/-- jumps of a row L go to its end -/
theorem yC_join {js : List Nat} {x : Int32} (hn : n + L.length < 100000000) (A : yC_H n L H h h1) (K : n + L.length ≤ 4000 → yC_ch h1 (-1) (n + L.length) js x ∧ (∀ j, j ∈ js → n ≤ j) ∧ ∀ k i, L[k]? = some i → n + k ∈ js → i.2.1 = nI (n + L.length)) : ∃ h', f_Cd_joinHere h1 x = some h' ∧ zfr [] [43] [] h1 h' ∧ (n + L.length ≤ 4000 → ∀ j, ¬ j ∈ js → (h'.2.1 43) j = (h1.2.1 43) j) ∧ ∀ H', (∀ j, j ∈ H → j ∈ js ∨ j ∈ H') → yC_H n L H' h h' := by
  have hz := zF_big
  obtain ⟨a1, a2, a3⟩ := A
  unfold f_Cd_joinHere
  by_cases z : n + L.length ≤ 4000
  · obtain ⟨k1, k2, k3⟩ := K z
    obtain ⟨b1, b2⟩ := a3 z
    have hl := (yC_chl js _ _ _ k1).1
    obtain ⟨h', e1, e2, e3⟩ := yC_jh js _ 0 zF h1 x k1 z (by omega) (by omega)
    refine ⟨h', e1, e2, fun _ j hj => by rw [e3 j, if_neg hj], fun H' hH' => ⟨(e2.1 _ _ List.not_mem_nil).trans a1, zfr_trans a2 (zfr_w e2 (by decide) (by decide) (by decide)), fun _ => ⟨fun j hj a ha => ?_, fun k i ei => ?_⟩⟩⟩
    · rw [← b1 j hj a ha]
      by_cases w : a = 43
      · subst w
        rw [e3 j, if_neg (fun q => by have := k2 j q; omega)]
      · rw [e2.2.1 a (by simpa using w)]
    · obtain ⟨c1, c2⟩ := b2 k i ei
      refine ⟨?_, fun q => ?_⟩
      · obtain ⟨m1, m2, m3⟩ := c1
        exact ⟨by rw [e2.2.1 _ (by decide)]; exact m1, by rw [e2.2.1 _ (by decide)]; exact m2, by rw [e2.2.1 _ (by decide)]; exact m3⟩
      · rw [e3 (n + k)]
        by_cases w : n + k ∈ js
        · rw [if_pos w, a1, k3 k i ei w]
        · rw [if_neg w]
          exact c2 (fun p => (hH' _ p).elim w q)
  · obtain ⟨h', e1, e2⟩ := yC_jt 4000 0 zF h1 x (by omega) (by omega)
    exact ⟨h', e1, e2, fun q => absurd q z, fun H' _ => ⟨(e2.1 _ _ List.not_mem_nil).trans a1, zfr_trans a2 (zfr_w e2 (by decide) (by decide) (by decide)), fun q => absurd q z⟩⟩
end YH
theorem yC_chg {h h' : zs_H} {x0 : Int32} : ∀ (js : List Nat) (m : Nat) (x : Int32), (∀ j, j ∈ js → (h'.2.1 43) j = (h.2.1 43) j) → yC_ch h x0 m js x → yC_ch h' x0 m js x := by
  intro js
  induction js with
  | nil => intro m x _ H; exact H
  | cons j js ih =>
    intro m x e ⟨h1, h2, h3⟩
    exact ⟨h1, h2, by rw [e j (List.mem_cons.mpr (.inl rfl))]; exact ih j _ (fun i hi => e i (List.mem_cons.mpr (.inr hi))) h3⟩
/-- a jump whose end is not known -/
theorem yC_EHh {n o : Nat} {a a' b c : Int32} {h h' : zs_H} (E : yC_E n [(o, a, b, c)] h h') : yC_H n [(o, a', b, c)] [n] h h' := by
  obtain ⟨e1, e2, e3⟩ := E
  refine ⟨e1, zfr_w e2 (by decide) (by decide) (by decide), fun hn => ⟨(e3 hn).1, fun k i ei => ?_⟩⟩
  obtain ⟨rfl, rfl⟩ := yI_one ei
  obtain ⟨m1, m2, m3, m4⟩ := (e3 hn).2 0 _ rfl
  exact ⟨⟨m1, m3, m4⟩, fun w => absurd (show n + 0 ∈ [n] from List.mem_singleton.mpr rfl) w⟩
theorem yM_EHh {s n o v : Nat} {a a' b c : Int32} {g g' : zs_H} (ho : ¬ o = 13) (E : yM_E s n [((o, a, b, c), v)] g g') : yM_H s n [((o, a', b, c), v)] [n] g g' := by
  obtain ⟨e1, e2, e3⟩ := E
  refine ⟨e1, zfr_w e2 (by decide) (by decide) (by decide), fun hn => ⟨(e3 hn).1, fun k i ei => ?_⟩⟩
  obtain ⟨rfl, rfl⟩ := yI_one ei
  obtain ⟨m1, m2, m3, m4, m5⟩ := (e3 hn).2 0 _ rfl
  refine ⟨⟨m1, m4, m5, ?_⟩, fun w => absurd (show n + 0 ∈ [n] from List.mem_singleton.mpr rfl) w⟩
  unfold yM_B at m3 ⊢
  rw [if_neg ho] at m3 ⊢
  rw [if_neg ho]
  exact m3
theorem yM_EH13 {s n v : Nat} {a a' b c : Int32} {g g' : zs_H} (E : yM_E s n [((13, a, b, c), v)] g g') : yM_H s n [((13, a', b, c), v)] [n] g g' := by
  obtain ⟨e1, e2, e3⟩ := E
  refine ⟨e1, zfr_w e2 (by decide) (by decide) (by decide), fun hn => ⟨(e3 hn).1, fun k i ei => ?_⟩⟩
  obtain ⟨rfl, rfl⟩ := yI_one ei
  obtain ⟨m1, m2, m3, m4, m5⟩ := (e3 hn).2 0 _ rfl
  refine ⟨⟨m1, m4, m5, ?_⟩, fun w => absurd (show n + 0 ∈ [n] from List.mem_singleton.mpr rfl) w⟩
  have eA : ∀ z : Int32, yM_A s (13, z, b, c) = b := fun z => by
    unfold yM_A
    rw [if_neg (show ¬ ((13 : Nat) = 10 ∨ (13 : Nat) = 11 ∨ (13 : Nat) = 14) by decide), if_pos rfl]
  rw [if_pos rfl, eA]
  exact m2.trans (eA a)
end
section
/-! The coder: how the model tells jumps where to go. -/
/-- jumps that wait -/
def yM_st (A : Nat → Int32) (s w : Nat) : List Nat → Prop
  | [] => True
  | j :: js => (A (w + js.length) = nI (j - s) ∧ s ≤ j ∧ j < 100000000) ∧ yM_st A s w js
section YA
variable {g g1 g' : zs_H} {n s u v : Nat} {M : List yJ} {H : List Nat}
theorem yM_stf {A A' : Nat → Int32} {s w : Nat} : ∀ js : List Nat, (∀ k, k < w + js.length → A' k = A k) → yM_st A s w js → yM_st A' s w js := by
  intro js
  induction js with
  | nil => intro _ _; trivial
  | cons j js ih =>
    intro e ⟨⟨a1, a2, a3⟩, b⟩
    have hl : (j :: js).length = js.length + 1 := rfl
    exact ⟨⟨by rw [e _ (by omega)]; exact a1, a2, a3⟩, ih (fun k hk => e k (by omega)) b⟩
theorem yM_sta {A : Nat → Int32} {s w : Nat} : ∀ js ks : List Nat, yM_st A s (w + ks.length) js → yM_st A s w ks → yM_st A s w (js ++ ks) := by
  intro js
  induction js with
  | nil => intro ks _ B; exact B
  | cons j js ih =>
    intro ks ⟨⟨a1, a2, a3⟩, b⟩ B
    refine ⟨⟨?_, a2, a3⟩, ih ks b B⟩
    show A (w + (js ++ ks).length) = _
    rw [List.length_append, show w + (js.length + ks.length) = w + ks.length + js.length by omega]
    exact a1
theorem yM_here (c : yM_c g n s u v) : f_Mo_here g = some (nI (n - s)) := by
  obtain ⟨⟨c1, c2⟩, ⟨c3, c4, c5⟩, _⟩ := c
  unfold f_Mo_here
  rw [c3, if_pos (zi_in (by omega) (by omega)), nI_clamp (show u < 2147483648 by omega), c5, c1, zi_sub c2]
/-- one jump is told where to go -/
def yM_am (T : Int32) (j : Nat) (g g' : zs_H) : Prop := zfr [] [105, 106] [] g g' ∧ (∀ i, ¬ i = j → (g'.2.1 105) i = (g.2.1 105) i ∧ (g'.2.1 106) i = (g.2.1 106) i) ∧ (j < 4000 → if (g.2.1 104) j = 13 then (g'.2.1 106) j = T ∧ (g'.2.1 105) j = (g.2.1 105) j else (g'.2.1 105) j = T ∧ (g'.2.1 106) j = (g.2.1 106) j)
theorem yM_aim {j : Nat} (T : Int32) (c : yM_c g n s u v) (hs : s ≤ j) (hj : j < 100000000) : ∃ g', f_Mo_aim g (nI (j - s)) T = some g' ∧ yM_am T j g g' := by
  obtain ⟨⟨c1, c2⟩, ⟨c3, c4, c5⟩, _⟩ := c
  unfold f_Mo_aim f_Mo_aim_40
  rw [c3, if_pos (zi_in (by omega) (by omega)), nI_clamp (show u < 2147483648 by omega), c5, nI_add, show s + (j - s) = j by omega]
  by_cases z : j < 4000
  · rw [if_neg (mt (zc_le (k := 4000) (by decide) (by omega)).mp (by omega)), if_pos (zi_in (by omega) z)]
    simp only [nI_clamp (show j < 2147483648 by omega), if_pos (zi_in (show j < 2147483648 by omega) z)]
    by_cases w : (g.2.1 104) j = 13
    · rw [if_pos w]
      refine ⟨_, rfl, zfr_M (by decide) zfr_rfl, fun i hi => ⟨?_, ?_⟩, fun _ => ?_⟩
      · rw [zu_MM, if_neg (fun q => absurd q.1 (by decide))]
      · rw [zu_MM, if_neg (fun q => hi q.2)]
      · rw [if_pos w]
        exact ⟨by rw [zu_MM, if_pos ⟨rfl, rfl⟩], by rw [zu_MM, if_neg (fun q => absurd q.1 (by decide))]⟩
    · rw [if_neg w, if_neg (mt (zc_le (k := 4000) (by decide) (by omega)).mp (by omega))]
      refine ⟨_, rfl, zfr_M (by decide) zfr_rfl, fun i hi => ⟨?_, ?_⟩, fun _ => ?_⟩
      · rw [zu_MM, if_neg (fun q => hi q.2)]
      · rw [zu_MM, if_neg (fun q => absurd q.1 (by decide))]
      · rw [if_neg w]
        exact ⟨by rw [zu_MM, if_pos ⟨rfl, rfl⟩], by rw [zu_MM, if_neg (fun q => absurd q.1 (by decide))]⟩
  · rw [if_pos ((zc_le (k := 4000) (by decide) (by omega)).mpr (by omega)), if_pos ((zc_le (k := 4000) (by decide) (by omega)).mpr (by omega))]
    exact ⟨g, rfl, zfr_rfl, fun _ _ => ⟨rfl, rfl⟩, fun q => absurd q z⟩
/-- many are -/
def yM_aj (T : Int32) (js : List Nat) (g g' : zs_H) : Prop := (∀ a, ¬ a ∈ [105, 106] → g'.2.1 a = g.2.1 a) ∧ g'.2.2 = g.2.2 ∧ (∀ i, ¬ i ∈ js → (g'.2.1 105) i = (g.2.1 105) i ∧ (g'.2.1 106) i = (g.2.1 106) i) ∧ ∀ j, j ∈ js → j < 4000 → if (g.2.1 104) j = 13 then (g'.2.1 106) j = T ∧ (g'.2.1 105) j = (g.2.1 105) j else (g'.2.1 105) j = T ∧ (g'.2.1 106) j = (g.2.1 106) j
theorem yM_aj0 {T : Int32} : yM_aj T [] g g := ⟨fun _ _ => rfl, rfl, fun _ _ => ⟨rfl, rfl⟩, fun j hj => by cases hj⟩
theorem yM_ajc {T : Int32} {j : Nat} {js : List Nat} {k k2 w : Nat} {x : Int32} (hj : ¬ j ∈ js) (A : yM_am T j (zs_uF g k k2 x) g1) (B : yM_aj T js g1 g') : yM_aj T (j :: js) g g' := by
  obtain ⟨a1, a2, a3⟩ := A
  obtain ⟨b1, b2, b3, b4⟩ := B
  have e72 : (g1.2.1 104) = (g.2.1 104) := a1.2.1 _ (by decide)
  refine ⟨fun a ha => (b1 a ha).trans (a1.2.1 a ha), b2.trans (funext fun a => a1.2.2 a List.not_mem_nil), fun i hi => ?_, fun i hi h4 => ?_⟩
  · have n1 : ¬ i = j := fun q => hi (List.mem_cons.mpr (.inl q))
    have n2 : ¬ i ∈ js := fun q => hi (List.mem_cons.mpr (.inr q))
    exact ⟨(b3 i n2).1.trans (a2 i n1).1, (b3 i n2).2.trans (a2 i n1).2⟩
  · by_cases z : i = j
    · subst z
      rw [(b3 i hj).1, (b3 i hj).2]
      exact a3 h4
    · have hm : i ∈ js := (List.mem_cons.mp hi).resolve_left z
      have := b4 i hm h4
      rw [e72, (a2 i z).1, (a2 i z).2] at this
      exact this
/-- the ends of a choice -/
theorem yM_pop {w m0 : Nat} : ∀ (js : List Nat) (g : zs_H) (N : Nat), yM_c g n s u v → (g.1 68 66) = nI (w + js.length) → w + js.length ≤ 8400 → yM_st ((g.2.1 110)) s w js → js.Nodup → js.length < N → ∃ g', f_Mo_choiceCode_L174 N g (nI w) = some g' ∧ yM_aj (nI (n - s)) js g g' ∧ (g'.1 68 66) = nI w ∧ (∀ a b, ¬ (a, b) = (68, 66) → g'.1 a b = g.1 a b) := by
  intro js
  induction js with
  | nil =>
    intro g N c hw _ _ _ hN
    obtain ⟨N, rfl⟩ : ∃ z, N = z + 1 := ⟨N - 1, by omega⟩
    refine ⟨g, ?_, yM_aj0, hw, fun _ _ _ => rfl⟩
    show f_Mo_choiceCode_174 (f_Mo_choiceCode_L174 N) g (nI w) = _
    unfold f_Mo_choiceCode_174
    rw [hw, if_pos (show nI (w + ([] : List Nat).length) ≤ nI w from Int32.le_refl _)]
  | cons j js ih =>
    intro g N c hw h84 ⟨⟨s1, s2, s3⟩, S⟩ nd hN
    have hl : (j :: js).length = js.length + 1 := rfl
    obtain ⟨N, rfl⟩ : ∃ z, N = z + 1 := ⟨N - 1, by omega⟩
    obtain ⟨nj, nd⟩ := List.nodup_cons.mp nd
    have c1 : yM_c (zs_uF g 68 66 (nI (w + js.length))) n s u v := c
    obtain ⟨g1, a1, a2⟩ := yM_aim (nI (n - s)) c1 s2 s3
    have f1 : ∀ a b, g1.1 a b = (zs_uF g 68 66 (nI (w + js.length))).1 a b := fun a b => a2.1.1 a b List.not_mem_nil
    have c2 : yM_c g1 n s u v := by
      obtain ⟨⟨q1, q2⟩, ⟨q3, q4, q5⟩, q6, q7⟩ := c1
      exact ⟨⟨(f1 _ _).trans q1, q2⟩, ⟨(f1 _ _).trans q3, q4, by rw [a2.1.2.1 _ (by decide)]; exact q5⟩, (f1 _ _).trans q6, (f1 _ _).trans q7⟩
    obtain ⟨g', b1, b2, b3, b4⟩ := ih g1 N c2 (by rw [f1]; rfl) (by omega) (by rw [a2.1.2.1 _ (by decide)]; exact S) nd (by omega)
    refine ⟨g', ?_, yM_ajc (w := 0) nj a2 b2, b3, fun a b hab => ?_⟩
    · show f_Mo_choiceCode_174 (f_Mo_choiceCode_L174 N) g (nI w) = _
      unfold f_Mo_choiceCode_174
      rw [hw, if_neg (mt (nI_leI (by omega) (by omega)).mp (by omega)), zc_sb (k := 1) (by omega), show w + (j :: js).length - OfNat.ofNat 1 = w + js.length from by show w + (js.length + 1) - 1 = _; omega, if_pos (zi_in (by omega) (by omega)), nI_clamp (show w + js.length < 2147483648 by omega), yM_here c1, Option.bind_some, s1, a1, Option.bind_some]
      exact b1
    · rw [b4 a b hab, f1, zu_FF, if_neg (fun q => hab (by rw [q.1, q.2]))]
/-- the EXITs of a loop -/
theorem yM_popx {w : Nat} : ∀ (js : List Nat) (g : zs_H) (N : Nat), yM_c g n s u v → (g.1 68 68) = nI (w + js.length) → w + js.length ≤ 4000 → yM_st ((g.2.1 111)) s w js → js.Nodup → js.length < N → ∃ g', f_Mo_loopCode_L235 N g (nI w) = some (zs_uF g' 68 64 (nI v - 1)) ∧ yM_aj (nI (n - s)) js g g' ∧ (g'.1 68 68) = nI w ∧ (∀ a b, ¬ (a, b) = (68, 68) → g'.1 a b = g.1 a b) := by
  intro js
  induction js with
  | nil =>
    intro g N c hw _ _ _ hN
    obtain ⟨N, rfl⟩ : ∃ z, N = z + 1 := ⟨N - 1, by omega⟩
    refine ⟨g, ?_, yM_aj0, hw, fun _ _ _ => rfl⟩
    show f_Mo_loopCode_235 (f_Mo_loopCode_L235 N) g (nI w) = _
    unfold f_Mo_loopCode_235
    rw [hw, if_pos (show nI (w + ([] : List Nat).length) ≤ nI w from Int32.le_refl _), c.2.2.1]
  | cons j js ih =>
    intro g N c hw h84 ⟨⟨s1, s2, s3⟩, S⟩ nd hN
    have hl : (j :: js).length = js.length + 1 := rfl
    obtain ⟨N, rfl⟩ : ∃ z, N = z + 1 := ⟨N - 1, by omega⟩
    obtain ⟨nj, nd⟩ := List.nodup_cons.mp nd
    have c1 : yM_c (zs_uF g 68 68 (nI (w + js.length))) n s u v := c
    obtain ⟨g1, a1, a2⟩ := yM_aim (nI (n - s)) c1 s2 s3
    have f1 : ∀ a b, g1.1 a b = (zs_uF g 68 68 (nI (w + js.length))).1 a b := fun a b => a2.1.1 a b List.not_mem_nil
    have c2 : yM_c g1 n s u v := by
      obtain ⟨⟨q1, q2⟩, ⟨q3, q4, q5⟩, q6, q7⟩ := c1
      exact ⟨⟨(f1 _ _).trans q1, q2⟩, ⟨(f1 _ _).trans q3, q4, by rw [a2.1.2.1 _ (by decide)]; exact q5⟩, (f1 _ _).trans q6, (f1 _ _).trans q7⟩
    obtain ⟨g', b1, b2, b3, b4⟩ := ih g1 N c2 (by rw [f1]; rfl) (by omega) (by rw [a2.1.2.1 _ (by decide)]; exact S) nd (by omega)
    refine ⟨g', ?_, yM_ajc (w := 0) nj a2 b2, b3, fun a b hab => ?_⟩
    · show f_Mo_loopCode_235 (f_Mo_loopCode_L235 N) g (nI w) = _
      unfold f_Mo_loopCode_235
      rw [hw, if_neg (mt (nI_leI (by omega) (by omega)).mp (by omega)), zc_sb (k := 1) (by omega), show w + (j :: js).length - OfNat.ofNat 1 = w + js.length from by show w + (js.length + 1) - 1 = _; omega, if_pos (zi_in (by omega) (by omega)), nI_clamp (show w + js.length < 2147483648 by omega), yM_here c1, Option.bind_some, s1, a1, Option.bind_some]
      exact b1
    · rw [b4 a b hab, f1, zu_FF, if_neg (fun q => hab (by rw [q.1, q.2]))]
/-- jumps of a row go to its end -/
theorem yM_join {js : List Nat} {fs : List (Nat × Nat)} (hfs : ∀ x, x ∈ fs → x ∈ yM_g) (A : yM_H s n M H g g1) (J : yM_aj (nI (n + M.length - s)) js g1 g') (F : ∀ a b, ¬ (a, b) ∈ fs → g'.1 a b = g1.1 a b) (hc : (g'.1 68 56) = (g1.1 68 56)) (hs : s ≤ n) (K : n + M.length ≤ 4000 → (∀ j, j ∈ js → n ≤ j) ∧ ∀ k i, M[k]? = some i → n + k ∈ js → i.1.2.1 = nI (n + M.length) ∧ (i.1.1 = 10 ∨ i.1.1 = 11 ∨ i.1.1 = 13)) : ∀ H', (∀ j, j ∈ H → j ∈ js ∨ j ∈ H') → yM_H s n M H' g g' := by
  intro H' hH'
  obtain ⟨a1, a2, a3⟩ := A
  obtain ⟨j1, j2, j3, j4⟩ := J
  refine ⟨hc.trans a1, zfr_trans a2 ⟨fun a b hab => F a b (fun q => hab (hfs _ q)), fun a ha => j1 a (fun q => ha (by
    rcases List.mem_cons.mp q with q | q
    · rw [q]; decide
    · rw [List.mem_singleton.mp q]; decide)), fun a _ => by rw [j2]⟩, fun hn => ?_⟩
  obtain ⟨k1, k2⟩ := K hn
  obtain ⟨b1, b2⟩ := a3 hn
  refine ⟨fun j hj a ha => ?_, fun k i ei => ?_⟩
  · rw [← b1 j hj a ha]
    have nj : ¬ j ∈ js := fun q => by have := k1 j q; omega
    by_cases w : a = 105
    · subst w; exact (j3 j nj).1
    · by_cases w2 : a = 106
      · subst w2; exact (j3 j nj).2
      · rw [j1 a (fun q => by
          rcases List.mem_cons.mp q with q | q
          · exact w q
          · exact w2 (List.mem_singleton.mp q))]
  · obtain ⟨c1, c2⟩ := b2 k i ei
    obtain ⟨m1, m2, m3, m4⟩ := c1
    have hk : k < M.length := by
      obtain ⟨z, _⟩ := List.getElem?_eq_some_iff.mp ei
      exact z
    have eo : (g'.2.1 104) (n + k) = nI i.1.1 := by rw [j1 _ (by decide)]; exact m1
    by_cases w : n + k ∈ js
    · obtain ⟨q1, q2⟩ := k2 k i ei w
      have r := j4 (n + k) w (by omega)
      rw [m1] at r
      have ea : i.1.2.1 - nI s = nI (n + M.length - s) := by rw [q1]; exact zi_sub (by omega)
      by_cases z : i.1.1 = 13
      · rw [if_pos (by rw [z]; rfl)] at r
        rw [if_pos z] at m4
        refine ⟨⟨eo, by rw [j1 _ (by decide)]; exact m2, by rw [j1 _ (by decide)]; exact m3, ?_⟩, fun _ => ?_⟩
        · rw [if_pos z, r.2]; exact m4
        · unfold yM_t yM_B
          rw [if_pos z, if_pos z, r.1, ea]
      · have h10 : i.1.1 = 10 ∨ i.1.1 = 11 := by omega
        rw [if_neg (fun q => z (by rcases h10 with e | e <;> rw [e] at q <;> exact absurd q (by decide)))] at r
        rw [if_neg z] at m4
        refine ⟨⟨eo, by rw [j1 _ (by decide)]; exact m2, by rw [j1 _ (by decide)]; exact m3, ?_⟩, fun _ => ?_⟩
        · rw [if_neg z, r.2]; exact m4
        · unfold yM_t yM_A
          rw [if_neg z, if_pos (by omega), r.1, ea]
    · obtain ⟨q1, q2⟩ := j3 _ w
      refine ⟨⟨eo, by rw [j1 _ (by decide)]; exact m2, by rw [j1 _ (by decide)]; exact m3, ?_⟩, fun p => ?_⟩
      · rw [q1, q2]; exact m4
      · have := c2 (fun x => (hH' _ x).elim w p)
        unfold yM_t at this ⊢
        rw [q1, q2]; exact this
end YA
end
