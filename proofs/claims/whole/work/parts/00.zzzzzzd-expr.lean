/-! The coder: all expressions, on both sides. -/
section YKZ
variable {X : Nat → Nat} {fn : Nat → Prop} {b : Nat} {La Lb Lc L : List yI}
theorem yo_s {i : yI} {d : Nat} (h : yo_t i.1 ≤ d) : yo_h d [i] = some (d - yo_t i.1 + yo_l i.1) := by
  show (if yo_t i.1 ≤ d then _ else none) = _
  rw [if_pos h]; rfl
theorem yk_e0 {i : yI} (h1 : yo_t i.1 = 0) (h2 : yo_l i.1 = 1) (h : yo_i X fn b i) : yk_e X fn b [i] := by
  refine ⟨fun d => ?_, fun j hj => ?_⟩
  · rw [yo_s (by omega), h1, h2]; rfl
  · rw [List.mem_singleton.mp hj]; exact h
theorem yk_e1 {i : yI} (h1 : yo_t i.1 = 1) (h2 : yo_l i.1 = 1) (h : yo_i X fn b i) (A : yk_e X fn b La) : yk_e X fn b (La ++ [i]) := by
  refine ⟨fun d => ?_, fun j hj => ?_⟩
  · rw [yo_1 (A.1 d), yo_s (by omega), h1, h2]; rfl
  · rcases List.mem_append.mp hj with z | z
    · exact A.2 j z
    · rw [List.mem_singleton.mp z]; exact h
theorem yk_e2 {k : Int32} {kk : Nat} (ek : k = nI kk) (hk : kk < 25) (A : yk_e X fn b La) (B : yk_e X fn b Lb) : yk_e X fn b (La ++ (Lb ++ [(7, k, 0, 0)])) := by
  refine ⟨fun d => ?_, fun j hj => ?_⟩
  · rw [yo_1 (A.1 d), yo_1 (B.1 (d + 1)), yo_s (show yo_t 7 ≤ d + 1 + 1 by show 2 ≤ _; omega)]
    show some (d + 1 + 1 - 2 + 1) = _
    rfl
  · rcases List.mem_append.mp hj with z | z
    · exact A.2 j z
    · rcases List.mem_append.mp z with z | z
      · exact B.2 j z
      · rw [List.mem_singleton.mp z]; exact .inr (.inr (.inr (.inr (.inr (.inr (.inl ⟨rfl, kk, ek, hk⟩))))))
theorem yk_e3 (A : yk_e X fn b La) (B : yk_e X fn b Lb) (D : yk_e X fn b Lc) : yk_e X fn b (La ++ (Lb ++ (Lc ++ [(9, 0, 0, 0)]))) := by
  refine ⟨fun d => ?_, fun j hj => ?_⟩
  · rw [yo_1 (A.1 d), yo_1 (B.1 (d + 1)), yo_1 (D.1 (d + 1 + 1)), yo_s (show yo_t 9 ≤ d + 1 + 1 + 1 by show 3 ≤ _; omega)]
    show some (d + 1 + 1 + 1 - 3 + 1) = _
    rfl
  · rcases List.mem_append.mp hj with z | z
    · exact A.2 j z
    · rcases List.mem_append.mp z with z | z
      · exact B.2 j z
      · rcases List.mem_append.mp z with z | z
        · exact D.2 j z
        · rw [List.mem_singleton.mp z]; exact .inr (.inl rfl)
theorem yk_ew {u : Nat} : ∀ (ws : List Int32) (d : Nat), yo_h (d + ws.length) (ws.map (fun w => ((6, nI u, w, 0) : yI))) = some d := by
  intro ws
  induction ws with
  | nil => intro d; rfl
  | cons w ws ih =>
    intro d
    show (if 1 ≤ d + (ws.length + 1) then yo_h (d + (ws.length + 1) - 1 + 0) (ws.map _) else none) = _
    rw [if_pos (by omega), show d + (ws.length + 1) - 1 + 0 = d + ws.length by omega]
    exact ih d
theorem yk_ec {u : Nat} {ws : List Int32} {Ls : List (List yI)} (hu : u < b) (hf : fn u) (hl : ws.length = Ls.length) (hw : ∀ w, w ∈ ws → ∃ x, w = nI x ∧ x < X u) (A : ∀ d, yo_h d (yx_s Ls) = some (d + Ls.length)) (B : ∀ i, i ∈ yx_s Ls → yo_i X fn b i) : yk_e X fn b (yx_call u ws (yx_s Ls)) := by
  refine ⟨fun d => ?_, fun j hj => ?_⟩
  · unfold yx_call
    rw [yo_1 (A d), ← hl, yo_1 (yk_ew ws d)]
    rfl
  · rcases List.mem_append.mp hj with z | z
    · exact B j z
    · rcases List.mem_append.mp z with z | z
      · obtain ⟨w, w1, w2⟩ := List.mem_map.mp z
        obtain ⟨x, x1, x2⟩ := hw w w1
        rw [← w2]
        exact .inr (.inr (.inr (.inr (.inr (.inl ⟨rfl, u, x, rfl, x1, hu, hf, x2⟩)))))
      · rcases List.mem_cons.mp z with z | z
        · rw [z]; exact .inr (.inr (.inr (.inr (.inr (.inr (.inr (.inr ⟨rfl, u, rfl, hu, hf⟩)))))))
        · rw [List.mem_singleton.mp z]; exact .inr (.inr (.inr (.inr (.inl ⟨rfl, rfl, u, rfl, hu, hf⟩))))
theorem yk_ek : ∀ s, s < 10 → ∀ ty, ty < 3 → (ya_ar s = 1 → ¬ s = 8 → ∃ k, k < 8 ∧ f_Cd_standardKind (nI s) (nI ty) = nI k) ∧ (ya_ar s = 2 → ∃ k, k < 25 ∧ f_Cd_standardKind (nI s) (nI ty) = nI k) := by decide +kernel
theorem yk_eo : ∀ s, s < 14 → ∀ ty, ty < 3 → ∃ k, k < 25 ∧ f_Cd_operation (nI s) (nI ty) = nI k := by decide +kernel
theorem yk_et : ∀ s, s < 2 → ∀ ty, ty < 3 → ∃ k, k < 8 ∧ f_Cd_turning (if s = 0 then 1 else 0) (nI ty) = nI k := by decide +kernel
theorem yk_es {s ty : Nat} {Ls : List (List yI)} (hs : s < 10) (ht : ty < 3) (hl : Ls.length = ya_ar s) (A : ∀ L, L ∈ Ls → yk_e X fn b L) : yk_e X fn b (yx_t s (f_Cd_standardKind (nI s) (nI ty)) Ls) := by
  obtain ⟨k1, k2⟩ := yk_ek s hs ty ht
  have hars : ∀ s, s < 10 → (ya_ar s = 3 → s = 3 ∨ s = 4) ∧ 1 ≤ ya_ar s ∧ ya_ar s ≤ 3 := by decide
  obtain ⟨r3, r4, r5⟩ := hars s hs
  match Ls, hl, A with
  | [], hl, A => exact absurd hl (by show ¬ 0 = _; omega)
  | [a], hl, A =>
    have A1 := A a (by simp)
    show yk_e X fn b (if s = 8 then a else a ++ [(8, _, 0, 0)])
    by_cases h8 : s = 8
    · rw [if_pos h8]; exact A1
    · rw [if_neg h8]
      obtain ⟨k, q1, q2⟩ := k1 hl.symm h8
      exact yk_e1 rfl rfl (.inr (.inr (.inr (.inr (.inr (.inr (.inr (.inl ⟨rfl, k, q2, q1⟩)))))))) A1
  | [a, c], hl, A =>
    obtain ⟨k, q1, q2⟩ := k2 hl.symm
    exact yk_e2 q2 q1 (A a (by simp)) (A c (by simp))
  | [a, c, d], hl, A =>
    show yk_e X fn b (if s = 3 then _ else _)
    by_cases h3 : s = 3
    · rw [if_pos h3]
      exact yk_e2 (kk := 23) rfl (by decide) (yk_e2 (kk := 24) rfl (by decide) (A a (by simp)) (A c (by simp))) (A d (by simp))
    · rw [if_neg h3]
      exact yk_e3 (A a (by simp)) (A c (by simp)) (A d (by simp))
  | a :: c :: d :: e :: es, hl, A => exact absurd hl (by show ¬ es.length + 1 + 1 + 1 + 1 = _; omega)
end YKZ
theorem yk_Xe {h0 g0 : zs_H} {X : Nat → Nat} {b : Nat} : ∀ (t : zt_T) (Q : Nat → Prop) (x x' : Int32) (Ls : List (List yI)), yk_X h0 g0 X b t Q x x' Ls → ∀ L, L ∈ Ls → yk_e X (fun u => (h0.2.1 21) (9 + u) = 1) b L := by
  intro t
  induction t with
  | leaf =>
    intro Q x x' Ls ⟨_, _, e⟩ L hL
    rw [e] at hL; cases hL
  | inner kd kv o l r _ ihr =>
    intro Q x x' Ls ⟨i, k, Q1, Q2, L0, Lr, e, _, _, _, _, _, ⟨_, n2⟩, R⟩ L hL
    rw [e] at hL
    rcases List.mem_cons.mp hL with z | z
    · rw [z]; exact n2
    · exact ihr Q2 _ _ Lr R L z
theorem yk_tl {s : Nat} {k : Int32} {Ls : List (List yI)} (hs : s < 10) (hl : Ls.length = ya_ar s) : (yx_t s k Ls).length ≤ (yx_s Ls).length + 2 := by
  match Ls with
  | [] => exact Nat.zero_le _
  | [a] =>
    show (if s = 8 then a else a ++ [(8, k, 0, 0)]).length ≤ (a ++ []).length + 2
    rw [List.append_nil]
    split
    · omega
    · rw [List.length_append]; show a.length + 1 ≤ _; omega
  | [a, c] =>
    show (a ++ (c ++ [(7, k, 0, 0)])).length ≤ (a ++ (c ++ [])).length + 2
    rw [List.append_nil, List.length_append, List.length_append, List.length_append]; show a.length + (c.length + 1) ≤ _; omega
  | [a, c, d] =>
    show (if s = 3 then (a ++ (c ++ [(7, 24, 0, 0)])) ++ (d ++ [(7, 23, 0, 0)]) else a ++ (c ++ (d ++ [(9, 0, 0, 0)]))).length ≤ (a ++ (c ++ (d ++ []))).length + 2
    rw [List.append_nil]
    split <;> simp only [List.length_append, List.length_cons, List.length_nil] <;> omega
  | a :: c :: d :: e :: es =>
    exact absurd hl (by
      have : ∀ s, s < 10 → ya_ar s ≤ 3 := by decide
      have := this s hs
      show ¬ es.length + 1 + 1 + 1 + 1 = _
      omega)
theorem yk_fva {g0 g : zs_H} (f : yM_f g0 g) : f_Mo_variable g = f_Mo_variable g0 := by
  have e : ∀ a, ¬ a ∈ yM_M → g.2.1 a = g0.2.1 a := fun a ha => f.2.1 a ha
  have s33 : f_Mo_variable_33 g = f_Mo_variable_33 g0 := by
    funext k7 x1 x2 x3 y0 y1
    unfold f_Mo_variable_33
    rw [e 91 (by decide)]
  have s7 : f_Mo_variable_7 g = f_Mo_variable_7 g0 := by
    funext k7 x1 x2 x3
    unfold f_Mo_variable_7
    rw [s33, e 90 (by decide), f.1 68 33 (by decide), f.1 68 41 (by decide)]
  have sL : f_Mo_variable_L7 g = f_Mo_variable_L7 g0 := by
    unfold f_Mo_variable_L7
    rw [s7]
  funext x y
  unfold f_Mo_variable
  rw [sL, e 90 (by decide)]
/-- the model finds the variable -/
theorem yk_vM {LC LM : List (List Int32)} {nb b u x : Nat} {F Fb X Y : Nat → Nat} {h0 g0 : zs_H} {v w : Int32} (C : yk_cx LC LM nb F X Y h0 g0) (hb : b < nb) (hF : ∀ j, j ≤ b + 1 → Fb j = F j) (V : yb_V Fb b h0 v u x) (hw : zt_nr LC LM v w) : f_Mo_variable g0 (nI b) w = some (nI u) := by
  obtain ⟨c, k, w1, w2, w3, w4, w5, w6⟩ := id hw
  obtain ⟨v1, v2, v3, v4, _⟩ := V
  rw [hF _ (by omega)] at v1
  rw [hF _ (by omega)] at v2
  subst w1
  rcases zv_of C.1.1 C.1.2.1 C.1.2.2.1 hb hw with ⟨j, j1, j2, j3, _, j5⟩ | ⟨_, _, z⟩
  · rw [j5, v4 j (by rw [hF _ (by omega)]; exact j1) (by rw [hF _ (by omega)]; exact j2) j3]
  · exact absurd v3 (z u v1 v2)
