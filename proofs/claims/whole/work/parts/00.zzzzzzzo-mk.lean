/-! The coder: the rows of a rung out of the tree. -/
section YUQ
variable {LC LM : List (List Int32)} {nb b sz : Nat} {F Fb X Y : Nat → Nat} {h0 g0 : zs_H} {P Q : Nat → Prop}
theorem yu_24 : ∀ (l : zt_T) (st : Nat), ¬ zg_run 24 st l = 99 → (st = 0 → yu_fl l = false) ∧ zt_ln l ≤ 2 * yl_n l + (if st = 1 then 1 else 0) := by
  have key : ∀ r ∈ zg_R, r.1 = 24 → (r.2.2.1 = [29] ∧ r.2.1 = 1 ∧ r.2.2.2 = 2) ∨ (¬ 29 ∈ r.2.2.1 ∧ r.2.2.2 = 1) := by decide +kernel
  intro l
  induction l with
  | leaf => intro st _; exact ⟨fun _ => rfl, Nat.zero_le _⟩
  | inner c kv o lc r _ ihr =>
    intro st h
    obtain ⟨cs, to, m1, m2, _, m4⟩ := yj_q h
    obtain ⟨_, i2⟩ := ihr to m4
    have hl : zt_ln (.inner c kv o lc r) = 1 + zt_ln r := rfl
    have hn : yl_n (.inner c kv o lc r) = (if c = 29 then 0 else 1) + yl_n r := rfl
    have k1 := key _ m1 rfl
    rcases k1 with ⟨e1, e2, e3⟩ | ⟨e1, e3⟩
    · have e1' : cs = [29] := e1
      have e2' : st = 1 := e2
      have e3' : to = 2 := e3
      rw [e1'] at m2
      have ec := List.mem_singleton.mp m2
      rw [e3', if_neg (by decide)] at i2
      refine ⟨fun z => by omega, ?_⟩
      rw [hl, hn, if_pos ec, if_pos e2']
      omega
    · have e1' : ¬ 29 ∈ cs := e1
      have e3' : to = 1 := e3
      have ec : ¬ c = 29 := fun z => e1' (by rw [← z]; exact m2)
      rw [e3', if_pos rfl] at i2
      refine ⟨fun _ => decide_eq_false ec, ?_⟩
      rw [hl, hn, if_neg ec]
      split <;> omega
theorem yu_mkQ (C : yj_cx LC LM nb b sz F Fb X Y h0 g0 P) : ∀ (t : zt_T), yl_rows t → zg_ok t → (∀ n, n ∈ yl_ns t → n ≤ 12) → ∀ (ow : Nat) (Qm : Nat → Prop) (up x x' y : Int32), yb_F Fb b h0 g0 P Q t x x' (-1) (-1) → zt_M LC LM g0 t Qm up x' y → yg_G 1 g0 Q ow t x' → ∃ rows, yu_Q h0 g0 t x x' ow rows ∧ yu_er rows = yg_c 1 t ∧ (∀ cs, cs ∈ rows → ∀ u, u ∈ cs → yu_B (yu_tb h0 b) (yq_k h0 b).2 (Y b) ow (ow + yg_c 1 t) u) ∧ (∀ cs, cs ∈ rows → cs.length ∈ yl_ns t) ∧ (zg_rc t → ∀ cs, cs ∈ rows → ∀ j u, cs[j]? = some u → u.1 = 28 → j + 1 = cs.length) := by
  intro t
  induction t with
  | leaf => intro _ _ _ ow Qm up x x' y A _ _; exact ⟨[], ⟨A.1, A.2, rfl⟩, rfl, fun cs h => (by cases h), fun cs h => (by cases h), fun _ cs h => (by cases h)⟩
  | inner kd kv o lc r _ ihr =>
    intro ⟨⟨e24, ht⟩, tr⟩ ⟨⟨hA, _⟩, okl, okr⟩ hN ow Qm up x x' y ⟨i, k, xl, ⟨_, i2, ix⟩, ⟨_, k2, kx, _⟩, N, Al, Ar⟩ M ⟨b', _, b2, bx, _, G1, G2⟩
    subst e24
    obtain ⟨k', P1, P2, z2, ex', _, _, _, _, _, _, _, _, Ml, Mr, _⟩ := zv_hM M
    have ek : k' = k := (nI_eq (by omega) (by omega)).mp (ex'.symm.trans kx)
    subst ek
    have eb : b' = k' := (nI_eq (by omega) (by omega)).mp (bx.symm.trans kx)
    subst eb
    obtain ⟨_, n2, _⟩ := yl_pl (by decide) N
    rcases G1 with z | ⟨_, _, _, g4⟩
    · exact absurd z (by decide)
    have g4' : yg_G 1 g0 Q ow lc ((g0.2.1 76) b') := g4
    have G2' : yg_G 1 g0 Q (ow + (0 + yg_c 1 lc)) r ((g0.2.1 78) b') := G2
    rw [Nat.zero_add] at G2'
    have ec : yg_c 1 (.inner 24 kv o lc r) = 0 + yg_c 1 lc + yg_c 1 r := rfl
    obtain ⟨cs, r1, r2, r3, r4⟩ := yu_mkR C lc ht okl ow P1 _ _ _ _ Al Ml g4'
    obtain ⟨rows, q1, q2, q3, q4, q5⟩ := ihr tr okr (fun n hn => hN n (List.mem_cons_of_mem _ hn)) _ P2 up _ _ z2 Ar Mr G2'
    obtain ⟨f1, f2⟩ := yu_24 lc 0 (yc_gA hA)
    rw [if_neg (by decide)] at f2
    have hl := (yu_Rl _ _ _ _ _ r1).1
    have h12 := hN (yl_n lc) List.mem_cons_self
    refine ⟨cs :: rows, ⟨i, b', cs, rows, rfl, ⟨i2, ix⟩, ⟨k2, kx⟩, ⟨by rw [n2]; exact r1, f1 rfl, by omega⟩, by rw [r2]; exact q1⟩, ?_, fun c hc u hu => ?_, fun c hc => ?_, fun rc c hc j u => ?_⟩
    · show yu_ec cs + yu_er rows = _
      rw [r2, q2, ec]; omega
    · rw [ec]
      rcases List.mem_cons.mp hc with z | z
      · rw [z] at hu
        obtain ⟨a1, a2, a3⟩ := r3 u hu
        exact ⟨a1, fun h25 h2 => by have := a2 h25 h2; omega, a3⟩
      · obtain ⟨a1, a2, a3⟩ := q3 c z u hu
        exact ⟨a1, fun h25 h2 => by have := a2 h25 h2; omega, a3⟩
    · rcases List.mem_cons.mp hc with z | z
      · rw [z, hl]; exact List.mem_cons_self
      · exact List.mem_cons_of_mem _ (q4 c z)
    · rcases List.mem_cons.mp hc with z | z
      · rw [z]; exact r4 rc.1 j u
      · exact q5 rc.2 c z j u
/-- a rung's form -/
theorem yu_mkF {t : zt_T} {x x' : Int32} {ow n0 : Nat} {rows : List (List yT)} (Qr : yu_Q h0 g0 t x x' ow rows) (h1 : zt_ln t ≤ 12) (h2 : 1 ≤ zt_ln t) (h3 : n0 ≤ 12) (h4 : 1 ≤ n0) (h5 : ∀ n, n ∈ yl_ns t → n = n0) (h6 : ∀ cs, cs ∈ rows → cs.length ∈ yl_ns t) (h7 : ∀ cs, cs ∈ rows → ∀ j u, cs[j]? = some u → u.1 = 28 → j + 1 = cs.length) : yu_F n0 rows := by
  have hl := yu_Ql _ _ _ _ _ Qr
  have hc : ∀ cs, cs ∈ rows → cs.length = n0 := fun cs hcs => h5 _ (h6 cs hcs)
  refine ⟨⟨by omega, by omega, h4, h3⟩, hc, fun r c hr hcc e28 => ?_⟩
  have e1 : rows[r]? = some rows[r] := List.getElem?_eq_getElem hr
  have hm := List.getElem_mem hr
  have hlc := hc _ hm
  have e2 : (rows[r])[c]? = some (rows[r])[c] := List.getElem?_eq_getElem (by omega)
  rw [yu_qg e1 e2] at e28
  have := h7 _ hm c _ e2 e28
  omega
end YUQ
