section
/-! The coder: the cells of a row out of the tree. -/
section YUO
variable {LC LM : List (List Int32)} {nb b sz : Nat} {F Fb X Y : Nat → Nat} {h0 g0 : zs_H} {P Q : Nat → Prop}
theorem yj_g1 : ∀ t : zt_T, zg_ok t → yb_top t → yg_c 1 t = 0 := by
  intro t
  induction t with
  | leaf => intro _ _; rfl
  | inner kd kv o l r _ ihr =>
    intro ⟨⟨hA, _⟩, okl, okr⟩ ⟨hE, tr⟩
    show (if 30 ≤ zt_km kd then 0 else yg_w 1 kd kv.2 + yg_c 1 l) + yg_c 1 r = 0
    rw [ihr okr tr]
    have key : ∀ z ∈ yb_E, z = 6 ∨ 30 ≤ zt_km z := by decide
    rcases key kd hE with e | e
    · subst e
      rw [zv_nolf (kd := 6) (by decide +kernel) hA]
      rfl
    · rw [if_pos e]
/-- bounds of a cell -/
def yu_tb (h0 : zs_H) (b S : Nat) : Prop := ∀ LD : Nat → Prop, yq_b LD h0 b S
def yu_B (Tb Qb : Nat → Prop) (Yb lo hi : Nat) (t : yT) : Prop := (t.1 = 25 ∨ t.1 = 28 → t.2.2.1 < Yb ∧ (t.1 = 28 → ¬ Qb t.2.2.1)) ∧ (t.1 = 25 → 2 ≤ t.2.1 → lo ≤ t.2.2.2.1 ∧ t.2.2.2.1 < hi) ∧ t.2.1 < 4 ∧ (t.1 = 25 → Tb t.2.2.1)
theorem yu_mkR (C : yj_cx LC LM nb b sz F Fb X Y h0 g0 P) : ∀ (l : zt_T), yl_top l → zg_ok l → ∀ (ow : Nat) (Qm : Nat → Prop) (up x x' y : Int32), yb_F Fb b h0 g0 P Q l x x' (-1) (-1) → zt_M LC LM g0 l Qm up x' y → yg_G 1 g0 Q ow l x' → ∃ cs, yu_R h0 g0 l x x' ow cs ∧ yu_ec cs = yg_c 1 l ∧ (∀ t, t ∈ cs → yu_B (yu_tb h0 b) (yq_k h0 b).2 (Y b) ow (ow + yg_c 1 l) t) ∧ (zg_cl l → ∀ j t, cs[j]? = some t → t.1 = 28 → j + 1 = cs.length) := by
  intro l
  induction l with
  | leaf => intro _ _ ow Qm up x x' y A _ _; exact ⟨[], ⟨A.1, A.2, rfl⟩, rfl, fun t ht => (by cases ht), fun _ j t e => (by cases e)⟩
  | inner kd kv o lc r _ ihr =>
    intro ⟨ht, tr⟩ ⟨⟨hA, hv⟩, okl, okr⟩ ow Qm up x x' y ⟨i, k, xl, ⟨_, i2, ix⟩, ⟨_, k2, kx, km⟩, N, Al, Ar⟩ M ⟨b', _, b2, bx, _, G1, G2⟩
    obtain ⟨k', P1, P2, z2, ex', _, _, _, _, nv, _, _, _, _, Mr, _⟩ := zv_hM M
    have ek : k' = k := (nI_eq (by omega) (by omega)).mp (ex'.symm.trans kx)
    subst ek
    have eb : b' = k' := (nI_eq (by omega) (by omega)).mp (bx.symm.trans kx)
    subst eb
    have kd100 : kd < 100 := by omega
    have ekm : zt_km kd = kd := by unfold zt_km; rw [if_neg (by omega), if_neg (by omega)]
    have enk : zt_nk kd = false := by rcases ht with e | e | e | e | e <;> subst e <;> rfl
    rw [enk, if_neg (by decide)] at nv
    rw [ekm] at km
    have h30 : ¬ 30 ≤ zt_km kd := by omega
    rcases G1 with z | ⟨_, _, g3, _⟩
    · exact absurd z h30
    rw [if_neg h30] at G2
    obtain ⟨n1, n2, n3⟩ := yl_pl (show kd ∈ [22, 23, 24, 25, 26, 27, 28, 29] by rcases ht with e | e | e | e | e <;> subst e <;> decide) N
    have ec : yg_c 1 (.inner kd kv o lc r) = (yg_w 1 kd kv.2 + yg_c 1 lc) + yg_c 1 r := by
      show (if 30 ≤ zt_km kd then 0 else yg_w 1 kd kv.2 + yg_c 1 lc) + yg_c 1 r = _
      rw [if_neg h30]
    -- the value, what is seen
    have D : ∃ v S, v < 4 ∧ (kd = 25 ∨ kd = 28 → kv.2 = nI v ∧ S < Y b ∧ (∃ a, (h0.2.1 17) i = nI a ∧ a < 32784 ∧ (kd = 28 → ∃ w, (h0.2.1 16) a = nI w ∧ w < 6000 ∧ (h0.2.1 32) w = nI S ∧ ¬ (yq_k h0 b).2 S)) ∧ f_Cr_cellOf h0 ((h0.2.1 17) i) = some (nI S) ∧ ∃ a, (g0.2.1 76) b' = nI a ∧ a < 33500 ∧ (g0.2.1 101) a = nI S) ∧ yg_c 1 lc = 0 ∧ (kd = 25 → yu_tb h0 b S) := by
      have vv : zg_b kd = 4 → ∃ v, v < 4 ∧ kv.2 = nI v := by
        intro e
        rcases hv with z | ⟨v, v1, v2, _⟩
        · rw [e] at z; exact absurd z (by decide)
        · exact ⟨v, by rw [e] at v1; exact v1, v2⟩
      rcases ht with e | e | e | e | e <;> subst e
      · obtain ⟨v, v1, v2⟩ := vv rfl
        obtain ⟨c, kvc, oc, lcc, el, hc⟩ := yl_g1 (kd := 25) (cs := [6, 33]) (by decide +kernel) rfl hA
        subst el
        have hc' : c = 6 ∨ c = 33 := by simp only [List.mem_cons, List.not_mem_nil, or_false] at hc; exact hc
        obtain ⟨a, ka, S, ⟨s1, s2⟩, ⟨s3, s4⟩, s5, s6, s7, _, s9⟩ := yu_see C hc' okl Al
        obtain ⟨a', q1, q2, q3⟩ := (yj_sy (.inr rfl) N).2 rfl
        have ea' : a' = a := (nI_eq (by have := C.2.2.2.1 _ q2; omega) (by omega)).mp (q1.symm.trans s1)
        rw [ea'] at q3
        exact ⟨v, S, v1, fun _ => ⟨v2, s7, ⟨a, n2.trans s1, s2, fun z => absurd z (by decide)⟩, by rw [n2]; exact s5, ka, s3, s4, s6⟩, yj_g1 _ okl ⟨by rcases hc' with e | e <;> subst e <;> decide, trivial⟩, fun _ => s9 q3⟩
      · exact ⟨0, 0, by decide, fun z => absurd z (by decide), by rw [zv_nolf (kd := 26) (by decide +kernel) hA]; rfl, fun z => absurd z (by decide)⟩
      · exact ⟨0, 0, by decide, fun z => absurd z (by decide), by rw [zv_nolf (kd := 27) (by decide +kernel) hA]; rfl, fun z => absurd z (by decide)⟩
      · obtain ⟨v, v1, v2⟩ := vv rfl
        obtain ⟨c, kvc, oc, lcc, el, hc⟩ := yl_g1 (kd := 28) (cs := [6]) (by decide +kernel) rfl hA
        subst el
        have hc' : c = 6 := List.mem_singleton.mp hc
        subst hc'
        obtain ⟨a, ka, S, ⟨s1, s2⟩, ⟨s3, s4⟩, s5, s6, s7, s8, _⟩ := yu_see C (.inl rfl) okl Al
        exact ⟨v, S, v1, fun _ => ⟨v2, s7, ⟨a, n2.trans s1, s2, fun _ => s8 rfl⟩, by rw [n2]; exact s5, ka, s3, s4, s6⟩, yj_g1 _ okl ⟨by decide, trivial⟩, fun z => absurd z (by decide)⟩
      · exact ⟨0, 0, by decide, fun z => absurd z (by decide), by rw [zv_nolf (kd := 29) (by decide +kernel) hA]; rfl, fun z => absurd z (by decide)⟩
    obtain ⟨v, S, v4, D1, D2, D3⟩ := D
    rw [D2, Nat.add_zero] at G2 ec
    have ew : yg_w 1 kd kv.2 = if kd = 25 ∧ 2 ≤ v then 1 else 0 := by
      unfold yg_w
      rw [if_neg (by decide)]
      by_cases z : kd = 25
      · rw [(D1 (.inl z)).1]
        have : ((2 : Int32) ≤ nI v) ↔ 2 ≤ v := zc_le (k := 2) (by decide) (by omega)
        simp only [this]
      · rw [if_neg (fun w => z w.1), if_neg (fun w => z w.1)]
    obtain ⟨cs, r1, r2, r3, r4⟩ := ihr tr okr _ P2 up _ _ z2 Ar Mr G2
    by_cases z : kd = 29
    · have e0 : yg_w 1 kd kv.2 = 0 := by rw [ew, if_neg (fun w => by omega)]
      rw [e0, Nat.add_zero] at r1 r3
      rw [e0, Nat.zero_add] at ec
      refine ⟨cs, ⟨i, b', ⟨i2, ix, n1⟩, ⟨k2, kx, km⟩, kd100, by rw [if_pos z]; exact r1⟩, by rw [ec]; exact r2, fun t h => by rw [ec]; exact r3 t h, fun cl => r4 cl.2⟩
    · rw [ew] at r1 r3 ec
      refine ⟨(kd, v, S, ow, yu_fl r, i, b') :: cs, ⟨i, b', ⟨i2, ix, n1⟩, ⟨k2, kx, km⟩, kd100, ?_⟩, ?_, fun t ht' => ?_, fun cl j t ej e28 => ?_⟩
      · rw [if_neg z]
        refine ⟨v, S, ow, cs, rfl, ⟨⟨⟨kd100, v4, i2, n1⟩, fun h25 => ?_, fun h28 => ?_⟩, ⟨⟨kd100, v4, k2, km⟩, fun hh => ?_, fun h25 h2 => ?_⟩⟩, fun _ _ => rfl, r1⟩
        · obtain ⟨q1, _, _, q4, _⟩ := D1 (.inl h25)
          exact ⟨n3.trans q1, q4⟩
        · obtain ⟨q1, _, ⟨a, q2, q3, q4⟩, _⟩ := D1 (.inr h28)
          obtain ⟨w, w1, w2, w3, _⟩ := q4 h28
          exact ⟨n3.trans q1, a, w, q2, q3, w1, w2, w3⟩
        · obtain ⟨q1, _, _, _, q5⟩ := D1 hh
          exact ⟨nv.trans q1, q5⟩
        · obtain ⟨q1, _⟩ := D1 (.inl h25)
          refine g3 rfl h25 ?_
          rw [q1]
          exact (zc_le (k := 2) (by decide) (by have : v < 4 := v4; omega)).mpr h2
      · rw [ec]
        show (if kd = 25 ∧ 2 ≤ v then 1 else 0) + yu_ec cs = _
        rw [r2]
      · rw [ec]
        rcases List.mem_cons.mp ht' with e | e
        · rw [e]
          refine ⟨fun hh => ⟨(D1 hh).2.1, fun z => by
            obtain ⟨_, _, ⟨a, _, _, q4⟩, _⟩ := D1 hh
            obtain ⟨w, _, _, _, nq⟩ := q4 z
            exact nq⟩, fun h25 h2 => ?_, v4, D3⟩
          have h25' : kd = 25 := h25
          have h2' : 2 ≤ v := h2
          rw [if_pos ⟨h25', h2'⟩]
          exact ⟨Nat.le_refl _, by show ow < _; omega⟩
        · obtain ⟨q1, q2, q3⟩ := r3 t e
          exact ⟨q1, fun h25 h2 => by have := q2 h25 h2; omega, q3⟩
      · cases j with
        | zero =>
          have ej' : some ((kd, v, S, ow, yu_fl r, i, b') : yT) = some t := ej
          cases ej'
          have hr := cl.1 e28
          subst hr
          have : cs = [] := r1.2.2
          rw [this]; rfl
        | succ j =>
          have := r4 cl.2 j t ej e28
          show j + 1 + 1 = cs.length + 1
          omega
end YUO
end
section
/-! The coder: the rows of a rung out of the tree. -/
section YUQ
variable {LC LM : List (List Int32)} {nb b sz : Nat} {F Fb X Y : Nat → Nat} {h0 g0 : zs_H} {P Q : Nat → Prop}
theorem yu_24 : ∀ (l : zt_T) (st : Nat), ¬ zg_run 24 st l = 99 → (st = 0 → yu_fl l = false) ∧ zt_ln l ≤ 2 * yl_n l + (if st = 1 then 1 else 0) := by
  have key : ∀ r ∈ zg_R, r.1 = 24 → (r.2.2.1 = [29] ∧ r.2.1 = 1 ∧ r.2.2.2 = 2) ∨ (¬ 29 ∈ r.2.2.1 ∧ r.2.2.2 = 1) := by decide +kernel
  intro l
  induction l with
  | leaf => intro st _; exact ⟨fun _ => rfl, Nat.zero_le _⟩
  | inner c kv o lc r _ ihr =>
    intro st h
    obtain ⟨cs, to, m1, m2, _, m4⟩ := yj_q h
    obtain ⟨_, i2⟩ := ihr to m4
    have hl : zt_ln (.inner c kv o lc r) = 1 + zt_ln r := rfl
    have hn : yl_n (.inner c kv o lc r) = (if c = 29 then 0 else 1) + yl_n r := rfl
    have k1 := key _ m1 rfl
    rcases k1 with ⟨e1, e2, e3⟩ | ⟨e1, e3⟩
    · have e1' : cs = [29] := e1
      have e2' : st = 1 := e2
      have e3' : to = 2 := e3
      rw [e1'] at m2
      have ec := List.mem_singleton.mp m2
      rw [e3', if_neg (by decide)] at i2
      refine ⟨fun z => by omega, ?_⟩
      rw [hl, hn, if_pos ec, if_pos e2']
      omega
    · have e1' : ¬ 29 ∈ cs := e1
      have e3' : to = 1 := e3
      have ec : ¬ c = 29 := fun z => e1' (by rw [← z]; exact m2)
      rw [e3', if_pos rfl] at i2
      refine ⟨fun _ => decide_eq_false ec, ?_⟩
      rw [hl, hn, if_neg ec]
      split <;> omega
theorem yu_mkQ (C : yj_cx LC LM nb b sz F Fb X Y h0 g0 P) : ∀ (t : zt_T), yl_rows t → zg_ok t → (∀ n, n ∈ yl_ns t → n ≤ 12) → ∀ (ow : Nat) (Qm : Nat → Prop) (up x x' y : Int32), yb_F Fb b h0 g0 P Q t x x' (-1) (-1) → zt_M LC LM g0 t Qm up x' y → yg_G 1 g0 Q ow t x' → ∃ rows, yu_Q h0 g0 t x x' ow rows ∧ yu_er rows = yg_c 1 t ∧ (∀ cs, cs ∈ rows → ∀ u, u ∈ cs → yu_B (yu_tb h0 b) (yq_k h0 b).2 (Y b) ow (ow + yg_c 1 t) u) ∧ (∀ cs, cs ∈ rows → cs.length ∈ yl_ns t) ∧ (zg_rc t → ∀ cs, cs ∈ rows → ∀ j u, cs[j]? = some u → u.1 = 28 → j + 1 = cs.length) := by
  intro t
  induction t with
  | leaf => intro _ _ _ ow Qm up x x' y A _ _; exact ⟨[], ⟨A.1, A.2, rfl⟩, rfl, fun cs h => (by cases h), fun cs h => (by cases h), fun _ cs h => (by cases h)⟩
  | inner kd kv o lc r _ ihr =>
    intro ⟨⟨e24, ht⟩, tr⟩ ⟨⟨hA, _⟩, okl, okr⟩ hN ow Qm up x x' y ⟨i, k, xl, ⟨_, i2, ix⟩, ⟨_, k2, kx, _⟩, N, Al, Ar⟩ M ⟨b', _, b2, bx, _, G1, G2⟩
    subst e24
    obtain ⟨k', P1, P2, z2, ex', _, _, _, _, _, _, _, _, Ml, Mr, _⟩ := zv_hM M
    have ek : k' = k := (nI_eq (by omega) (by omega)).mp (ex'.symm.trans kx)
    subst ek
    have eb : b' = k' := (nI_eq (by omega) (by omega)).mp (bx.symm.trans kx)
    subst eb
    obtain ⟨_, n2, _⟩ := yl_pl (by decide) N
    rcases G1 with z | ⟨_, _, _, g4⟩
    · exact absurd z (by decide)
    have g4' : yg_G 1 g0 Q ow lc ((g0.2.1 76) b') := g4
    have G2' : yg_G 1 g0 Q (ow + (0 + yg_c 1 lc)) r ((g0.2.1 78) b') := G2
    rw [Nat.zero_add] at G2'
    have ec : yg_c 1 (.inner 24 kv o lc r) = 0 + yg_c 1 lc + yg_c 1 r := rfl
    obtain ⟨cs, r1, r2, r3, r4⟩ := yu_mkR C lc ht okl ow P1 _ _ _ _ Al Ml g4'
    obtain ⟨rows, q1, q2, q3, q4, q5⟩ := ihr tr okr (fun n hn => hN n (List.mem_cons_of_mem _ hn)) _ P2 up _ _ z2 Ar Mr G2'
    obtain ⟨f1, f2⟩ := yu_24 lc 0 (yc_gA hA)
    rw [if_neg (by decide)] at f2
    have hl := (yu_Rl _ _ _ _ _ r1).1
    have h12 := hN (yl_n lc) List.mem_cons_self
    refine ⟨cs :: rows, ⟨i, b', cs, rows, rfl, ⟨i2, ix⟩, ⟨k2, kx⟩, ⟨by rw [n2]; exact r1, f1 rfl, by omega⟩, by rw [r2]; exact q1⟩, ?_, fun c hc u hu => ?_, fun c hc => ?_, fun rc c hc j u => ?_⟩
    · show yu_ec cs + yu_er rows = _
      rw [r2, q2, ec]; omega
    · rw [ec]
      rcases List.mem_cons.mp hc with z | z
      · rw [z] at hu
        obtain ⟨a1, a2, a3⟩ := r3 u hu
        exact ⟨a1, fun h25 h2 => by have := a2 h25 h2; omega, a3⟩
      · obtain ⟨a1, a2, a3⟩ := q3 c z u hu
        exact ⟨a1, fun h25 h2 => by have := a2 h25 h2; omega, a3⟩
    · rcases List.mem_cons.mp hc with z | z
      · rw [z, hl]; exact List.mem_cons_self
      · exact List.mem_cons_of_mem _ (q4 c z)
    · rcases List.mem_cons.mp hc with z | z
      · rw [z]; exact r4 rc.1 j u
      · exact q5 rc.2 c z j u
/-- a rung's form -/
theorem yu_mkF {t : zt_T} {x x' : Int32} {ow n0 : Nat} {rows : List (List yT)} (Qr : yu_Q h0 g0 t x x' ow rows) (h1 : zt_ln t ≤ 12) (h2 : 1 ≤ zt_ln t) (h3 : n0 ≤ 12) (h4 : 1 ≤ n0) (h5 : ∀ n, n ∈ yl_ns t → n = n0) (h6 : ∀ cs, cs ∈ rows → cs.length ∈ yl_ns t) (h7 : ∀ cs, cs ∈ rows → ∀ j u, cs[j]? = some u → u.1 = 28 → j + 1 = cs.length) : yu_F n0 rows := by
  have hl := yu_Ql _ _ _ _ _ Qr
  have hc : ∀ cs, cs ∈ rows → cs.length = n0 := fun cs hcs => h5 _ (h6 cs hcs)
  refine ⟨⟨by omega, by omega, h4, h3⟩, hc, fun r c hr hcc e28 => ?_⟩
  have e1 : rows[r]? = some rows[r] := List.getElem?_eq_getElem hr
  have hm := List.getElem_mem hr
  have hlc := hc _ hm
  have e2 : (rows[r])[c]? = some (rows[r])[c] := List.getElem?_eq_getElem (by omega)
  rw [yu_qg e1 e2] at e28
  have := h7 _ hm c _ e2 e28
  omega
end YUQ
end
section
/-! The coder: the rungs of a ladder, on both sides. -/
section YUR
variable {LC LM : List (List Int32)} {nb b sz : Nat} {F Fb X Y : Nat → Nat} {h0 g0 : zs_H} {P Q : Nat → Prop}
theorem yu_nm {m : Nat} : ∀ t : zt_T, (∀ n, n ∈ yl_ns t → n = m) → zt_ln t * m ≤ zt_sz t := by
  have yn : ∀ t, yl_n t ≤ zt_ln t := by
    intro t
    induction t with
    | leaf => exact Nat.le_refl _
    | inner kd kv o l r _ ihr => show (if kd = 29 then 0 else 1) + yl_n r ≤ 1 + zt_ln r; split <;> omega
  intro t
  induction t with
  | leaf => intro _; show 0 * m ≤ 0; omega
  | inner kd kv o l r _ ihr =>
    intro h
    have a := ihr (fun n hn => h n (List.mem_cons_of_mem _ hn))
    have c := h (yl_n l) List.mem_cons_self
    have d := yn l
    have e := zv_lnsz l
    show (1 + zt_ln r) * m ≤ 1 + zt_sz l + zt_sz r
    rw [Nat.add_mul]
    omega
theorem yu_cin {g : zs_H} (f : yM_f g0 g) : f_Mo_cellsIn g = f_Mo_cellsIn g0 := by
  have e : ∀ a, ¬ a ∈ yM_M → g.2.1 a = g0.2.1 a := fun a ha => f.2.1 a ha
  have c30 : f_Mo_cellsIn_30 g = f_Mo_cellsIn_30 g0 := by
    funext k9 x3 y0 y1
    unfold f_Mo_cellsIn_30
    rw [e 78 (by decide)]
  have c9 : f_Mo_cellsIn_9 g = f_Mo_cellsIn_9 g0 := by
    funext k9 x2 x3
    unfold f_Mo_cellsIn_9
    rw [c30, e 72 (by decide)]
  have cL : f_Mo_cellsIn_L9 g = f_Mo_cellsIn_L9 g0 := by
    unfold f_Mo_cellsIn_L9; rw [c9]
  funext x
  unfold f_Mo_cellsIn
  rw [cL, e 76 (by decide)]
/-- one rung, from its tree -/
theorem yu_one (C : yj_cx LC LM nb b sz F Fb X Y h0 g0 P) {kv : Int32 × Int32} {o : Unit} {l : zt_T} {i k ow pw : Nat} {xl y : Int32} {Qm : Nat → Prop} (hA : zg_A 23 (zg_run 23 0 l) = true) (ok : zg_ok l) (ro : zg_ro l) (hi : i < 32784) (hk : k < 33500) (ech : (h0.2.1 17) i = xl) (A : yb_F Fb b h0 g0 P Q l xl ((g0.2.1 76) k) (-1) (-1)) (M : zt_M LC LM g0 l Qm (nI k) ((g0.2.1 76) k) y) (G : yg_G 1 g0 Q ow l ((g0.2.1 76) k)) (hpw : pw < 100000) (ex : (g0.2.1 88) b = nI (pw + 156)) : ∃ (rows : List (List yT)) (m : Nat), yu_F m rows ∧ (∀ cs, cs ∈ rows → ∀ u, u ∈ cs → yu_B (yu_tb h0 b) (yq_k h0 b).2 (Y b) ow (ow + yg_c 1 l) u) ∧ (∀ (h : zs_H) (kk : Nat), yC_f h0 h → (h.1 41 5) = nI kk → (h.1 47 4) = nI ow → (h.1 47 5) = nI pw → kk + 1700 ≤ 80000000 → (yu_rg pw (yu_q rows) rows.length m).length ≤ 16 * zt_sz l ∧ (yu_cs pw (yu_q rows) rows.length m m).length ≤ 1584 ∧ ∃ h', f_Cr_codeRung h (nI i) = some h' ∧ yC_U kk (yu_rg pw (yu_q rows) rows.length m) h h' ∧ (h'.1 47 4) = nI (ow + yg_c 1 l) ∧ (h'.1 47 6) = (h.1 47 6)) ∧ ∀ (g : zs_H) (kk s v : Nat), yM_f g0 g → yM_c g kk s b v → kk + (yu_cs pw (yu_q rows) rows.length m m).length + 60 ≤ 80000000 → ∃ g', f_Mo_rungCode g (nI k) = some g' ∧ yM_E s kk (yv v (yu_rg pw (yu_q rows) rows.length m)) g g' := by
  have hz := zF_big
  obtain ⟨rc, l12, n0, n12, hns⟩ := ro
  have hr := yl_g23 ok (yc_gA hA)
  obtain ⟨rows, q1, q2, q3, q4, q5⟩ := yu_mkQ C l hr ok (fun n hn => by rw [hns n hn]; exact n12) ow Qm (nI k) xl _ y A M G
  -- the first row
  have first : 1 ≤ zt_ln l ∧ 1 ≤ n0 ∧ f_Mo_cellsIn g0 ((g0.2.1 76) k) = some (nI n0) := by
    cases l with
    | leaf => exact absurd hA (by decide)
    | inner kd kv1 o1 lc r =>
      obtain ⟨⟨e24, ht⟩, _⟩ := hr
      obtain ⟨ok1, _, _⟩ := ok
      subst e24
      obtain ⟨_, f2⟩ := yu_24 lc 0 (yc_gA ok1.1)
      rw [if_neg (by decide)] at f2
      have e0 : yl_n lc = n0 := hns _ List.mem_cons_self
      have h1 : 1 ≤ zt_ln lc := by
        cases lc with
        | leaf => exact absurd ok1.1 (by decide)
        | inner => show 1 ≤ 1 + _; omega
      obtain ⟨a, ka, xa, _, ⟨_, hka, eka, _⟩, _, Al, _⟩ := A
      have hln := zv_lnsz lc
      refine ⟨by show 1 ≤ 1 + _; omega, by omega, ?_⟩
      unfold f_Mo_cellsIn
      rw [eka, if_pos (zi_in (by omega) hka), nI_clamp (show ka < 2147483648 by omega)]
      have := yl_cM lc xa ((g0.2.1 76) ka) 0 zF ht Al (by
        have : yl_n lc = n0 := e0
        omega)
      rw [Nat.zero_add, e0] at this
      exact this
  obtain ⟨hl1, hn1, hcin⟩ := first
  have Fm := yu_mkF q1 l12 hl1 n12 hn1 hns q4 (q5 rc)
  have q1' : yu_Q h0 g0 l ((h0.2.1 17) i) ((g0.2.1 76) k) ow rows := by rw [ech]; exact q1
  refine ⟨rows, n0, Fm, q3, fun h kk f es ho hp hkk => ?_, fun g kk s v f c hkk => ?_⟩
  · obtain ⟨h', a1, a2, a3, a4, a5, a6⟩ := yu_rC q1' Fm hi f es ho hp hpw (by omega)
    have hrl := yu_Ql _ _ _ _ _ q1
    have nm := yu_nm l hns
    have e1 : 11 * rows.length * n0 = 11 * (zt_ln l * n0) := by rw [hrl, Nat.mul_assoc]
    have e2 : rows.length ≤ zt_ln l * n0 := by rw [hrl]; exact Nat.le_mul_of_pos_right _ (by omega)
    exact ⟨by omega, a5, h', a1, a2, by rw [a3, q2], a4⟩
  · exact yu_rM q1' Fm hk (by rw [yu_cin f]; exact hcin) ex hpw f c hkk
end YUR
end
section
/-! The coder: all rungs of a ladder, on both sides. -/
def yu_ll (pw : Nat) : List (List (List yT) × Nat) → List yI
  | [] => []
  | a :: gs => yu_rg pw (yu_q a.1) a.1.length a.2 ++ yu_ll pw gs
section YUS
variable {LC LM : List (List Int32)} {nb b sz : Nat} {F Fb X Y : Nat → Nat} {h0 g0 : zs_H} {P Q : Nat → Prop}
theorem yu_lad (C : yj_cx LC LM nb b sz F Fb X Y h0 g0 P) {pw : Nat} (hpw : pw < 100000) (ex : (g0.2.1 88) b = nI (pw + 156)) : ∀ (t : zt_T), zg_ok t → ¬ zg_run 22 0 t = 99 → zg_ru t → ∀ (ow : Nat) (Qm : Nat → Prop) (up x x' y : Int32), yb_F Fb b h0 g0 P Q t x x' (-1) (-1) → zt_M LC LM g0 t Qm up x' y → yg_G 1 g0 Q ow t x' → ∃ gs : List (List (List yT) × Nat), (∀ a, a ∈ gs → yu_F a.2 a.1 ∧ ∀ cs, cs ∈ a.1 → ∀ u, u ∈ cs → yu_B (yu_tb h0 b) (yq_k h0 b).2 (Y b) ow (ow + yg_c 1 t) u) ∧ (∀ (h : zs_H) (kk tt N : Nat), yC_f h0 h → (h.1 41 5) = nI kk → (h.1 47 4) = nI ow → (h.1 47 5) = nI pw → kk + 16 * zt_sz t + 1700 ≤ 80000000 → tt + zt_ln t ≤ sz → zt_ln t < N → (yu_ll pw gs).length ≤ 16 * zt_sz t ∧ ∃ h', f_Cr_codeBlock_L157 N h x (nI tt) = some h' ∧ yC_U kk (yu_ll pw gs) h h' ∧ (h'.1 47 4) = nI (ow + yg_c 1 t) ∧ (h'.1 47 6) = (h.1 47 6)) ∧ ∀ (g : zs_H) (kk s v N : Nat), yM_f g0 g → yM_c g kk s b v → kk + (yu_ll pw gs).length + 60 ≤ 80000000 → zt_ln t < N → ∃ g', f_Mo_ladderCode_L7 N g x' = some g' ∧ yM_E s kk (yv v (yu_ll pw gs)) g g' := by
  have key : ∀ r ∈ zg_R, r.1 = 22 → r.2 = (0, [23], 0) := by decide +kernel
  have hsz := C.2.2.2.2.1
  have hs2 := C.2.2.2.2.2
  intro t
  induction t with
  | leaf =>
    intro _ _ _ ow Qm up x x' y A _ _
    refine ⟨[], fun a ha => (by cases ha), fun h kk tt N f es ho hp hkk htt hN => ⟨Nat.zero_le _, h, ?_, ⟨es, zfr_rfl, fun _ => ⟨fun _ _ _ _ => rfl, fun k i e => by cases e⟩⟩, ho, rfl⟩, fun g kk s v N f c hkk hN => ⟨g, ?_, yM_nil c.1.1⟩⟩
    · obtain ⟨N, rfl⟩ : ∃ z, N = z + 1 := ⟨N - 1, by omega⟩
      show f_Cr_codeBlock_157 (f_Cr_codeBlock_L157 N) h x (nI tt) = _
      unfold f_Cr_codeBlock_157
      rw [A.1, if_pos (show (-1 : Int32) = -1 from rfl), ite_self]
    · obtain ⟨N, rfl⟩ : ∃ z, N = z + 1 := ⟨N - 1, by omega⟩
      show f_Mo_ladderCode_7 (f_Mo_ladderCode_L7 N) g x' = _
      unfold f_Mo_ladderCode_7
      rw [A.2, if_pos (by decide)]
  | inner kd kv o lc r _ ihr =>
    intro ⟨⟨hA, _⟩, okl, okr⟩ hr ⟨ru1, ru2⟩ ow Qm up x x' y ⟨i, k, xl, ⟨_, i2, ix⟩, ⟨_, k2, kx, _⟩, N, Al, Ar⟩ M ⟨b', _, b2, bx, _, G1, G2⟩
    obtain ⟨cs, to, m1, m2, _, m4⟩ := yj_q hr
    have k1 := key _ m1 rfl
    simp only [Prod.mk.injEq] at k1
    obtain ⟨_, e2, e3⟩ := k1
    rw [e2] at m2
    rw [e3] at m4
    have ec := List.mem_singleton.mp m2
    subst ec
    rw [if_pos rfl] at ru1
    obtain ⟨k', P1, P2, z2, ex', _, _, _, _, _, _, _, _, Ml, Mr, _⟩ := zv_hM M
    have ek : k' = k := (nI_eq (by omega) (by omega)).mp (ex'.symm.trans kx)
    subst ek
    have eb : b' = k' := (nI_eq (by omega) (by omega)).mp (bx.symm.trans kx)
    subst eb
    obtain ⟨_, n2, _⟩ := yl_pl (by decide) N
    rcases G1 with z | ⟨_, _, _, g4⟩
    · exact absurd z (by decide)
    have g4' : yg_G 1 g0 Q ow lc ((g0.2.1 76) b') := g4
    have G2' : yg_G 1 g0 Q (ow + (0 + yg_c 1 lc)) r ((g0.2.1 78) b') := G2
    rw [Nat.zero_add] at G2'
    have ecc : yg_c 1 (.inner 23 kv o lc r) = 0 + yg_c 1 lc + yg_c 1 r := rfl
    have hz0 : zt_sz (.inner 23 kv o lc r) = 1 + zt_sz lc + zt_sz r := rfl
    have hl0 : zt_ln (.inner 23 kv o lc r) = 1 + zt_ln r := rfl
    obtain ⟨rows, m, q1, q2, q3, q4⟩ := yu_one (kv := kv) (o := o) (ow := ow) C hA okl ru1 i2 k2 n2 Al Ml g4' hpw ex
    obtain ⟨gs, p1, p2, p3⟩ := ihr okr m4 ru2 _ P2 up _ _ z2 Ar Mr G2'
    have el : (yu_ll pw ((rows, m) :: gs)).length = (yu_rg pw (yu_q rows) rows.length m).length + (yu_ll pw gs).length := by
      show (yu_rg pw (yu_q rows) rows.length m ++ yu_ll pw gs).length = _
      rw [List.length_append]
    refine ⟨(rows, m) :: gs, fun a ha => ?_, fun h kk tt N f es ho hp hkk htt hN => ?_, fun g kk s v N f c hkk hN => ?_⟩
    · rw [ecc]
      rcases List.mem_cons.mp ha with z | z
      · rw [z]
        refine ⟨q1, fun cs hcs u hu => ?_⟩
        obtain ⟨a1, a2, a3⟩ := q2 cs hcs u hu
        exact ⟨a1, fun h25 h2 => by have := a2 h25 h2; omega, a3⟩
      · obtain ⟨w1, w2⟩ := p1 a z
        refine ⟨w1, fun cs hcs u hu => ?_⟩
        obtain ⟨a1, a2, a3⟩ := w2 cs hcs u hu
        exact ⟨a1, fun h25 h2 => by have := a2 h25 h2; omega, a3⟩
    · obtain ⟨N, rfl⟩ : ∃ z, N = z + 1 := ⟨N - 1, by omega⟩
      obtain ⟨c1, _, h1, c3, c4, c5, c6⟩ := q3 h kk f es ho hp (by omega)
      have f1 : yC_f h0 h1 := zfr_trans f (zfr_w c4.2.1 (by decide) (by decide) (by decide))
      obtain ⟨d1, h2, d2, d3, d4, d5⟩ := p2 h1 _ (tt + 1) N f1 c4.1 c5 ((c4.2.1.1 _ _ (by decide)).trans hp) (by omega) (by omega) (by omega)
      refine ⟨by omega, h2, ?_, yC_Uap c4 d3, by rw [d4, ecc]; exact congrArg nI (by omega), d5.trans c6⟩
      show f_Cr_codeBlock_157 (f_Cr_codeBlock_L157 N) h x (nI tt) = _
      unfold f_Cr_codeBlock_157
      rw [f.1 _ _ (by decide), hsz, if_neg (mt (nI_leI (by omega) (by omega)).mp (by omega)), ix, if_neg (zc_m1 (by omega)), c3, Option.bind_some, if_pos (zi_in (by omega) i2), nI_clamp (show i < 2147483648 by omega), nI_1, f1.2.1 18 (by decide)]
      exact d2
    · rw [el] at hkk
      obtain ⟨N, rfl⟩ : ∃ z, N = z + 1 := ⟨N - 1, by omega⟩
      have ecs : (yu_cs pw (yu_q rows) rows.length m m).length ≤ (yu_rg pw (yu_q rows) rows.length m).length := by
        unfold yu_rg; rw [List.length_append]; omega
      obtain ⟨g1, a1, a2⟩ := q4 g kk s v f c (by omega)
      have f1 := yM_fE f a2
      obtain ⟨g2, d1, d2⟩ := p3 g1 _ s v N f1 (yM_cL c a2) (by omega) (by omega)
      refine ⟨g2, ?_, yM_aL a2 d2⟩
      show f_Mo_ladderCode_7 (f_Mo_ladderCode_L7 N) g x' = _
      unfold f_Mo_ladderCode_7
      rw [kx, if_neg (nI_pos (by omega)), a1, Option.bind_some, if_pos (zi_in (by omega) k2), nI_clamp (show b' < 2147483648 by omega), f1.2.1 78 (by decide)]
      exact d1
end YUS
end
section
/-! The coder: what is known of a ladder's code. -/
section YUT
variable {X Y : Nat → Nat} {kb : Nat → yK} {Tb : Nat → Prop} {b lo pw n m : Nat} {q : Nat → Nat → yT}
/-- all instructions are in their bounds, and d numbers more lie on the stack -/
def yu_w (X Y : Nat → Nat) (kb : Nat → yK) (b lo : Nat) (L : List yI) (d e : Nat) : Prop := (∀ k, yo_h (k + d) L = some (k + e)) ∧ ∀ i, i ∈ L → yw_i X Y kb b lo i
theorem yu_wap {L1 L2 : List yI} {d e f : Nat} (A : yu_w X Y kb b lo L1 d e) (B : yu_w X Y kb b lo L2 e f) : yu_w X Y kb b lo (L1 ++ L2) d f := by
  refine ⟨fun k => by rw [yo_1 (A.1 k)]; exact B.1 k, fun i hi => ?_⟩
  rcases List.mem_append.mp hi with z | z
  · exact A.2 i z
  · exact B.2 i z
theorem yu_wn {d : Nat} : yu_w X Y kb b lo [] d d := ⟨fun k => rfl, fun i hi => (by cases hi)⟩
theorem yu_w1 {i : yI} {d e : Nat} (h1 : yo_t i.1 ≤ d) (h2 : d - yo_t i.1 + yo_l i.1 = e) (h3 : yw_i X Y kb b lo i) : yu_w X Y kb b lo [i] d e := by
  refine ⟨fun k => ?_, fun j hj => by rw [List.mem_singleton.mp hj]; exact h3⟩
  show (if yo_t i.1 ≤ k + d then some (k + d - yo_t i.1 + yo_l i.1) else none) = _
  rw [if_pos (by omega)]
  exact congrArg some (by omega)
theorem yu_w0 {d : Nat} {v : Int32} : yu_w X Y kb b lo [(0, v, 0, 0)] d (d + 1) := yu_w1 (Nat.zero_le _) rfl (.inl (.inl rfl))
theorem yu_wl {d x : Nat} (h : x < X b) : yu_w X Y kb b lo [(1, nI x, 0, 0)] d (d + 1) := yu_w1 (Nat.zero_le _) rfl (.inl (.inr (.inr (.inl ⟨rfl, x, rfl, h⟩))))
theorem yu_ws {d x : Nat} (h : (x < Y b ∧ ¬ (kb b).2 x) ∨ (lo ≤ x ∧ x < X b)) : yu_w X Y kb b lo [(2, nI x, 0, 0)] (d + 1) d := yu_w1 (by show 1 ≤ d + 1; omega) (by show d + 1 - 1 + 0 = d; omega) (.inr (.inl ⟨rfl, x, rfl, h⟩))
theorem yu_w7 {d k : Nat} (h : k < 25) : yu_w X Y kb b lo [(7, nI k, 0, 0)] (d + 2) (d + 1) := yu_w1 (by show 2 ≤ d + 2; omega) (by show d + 2 - 2 + 1 = d + 1; omega) (.inl (.inr (.inr (.inr (.inr (.inr (.inr (.inl ⟨rfl, k, rfl, h⟩))))))))
theorem yu_w8 {d : Nat} : yu_w X Y kb b lo [(8, 2, 0, 0)] (d + 1) (d + 1) := yu_w1 (by show 1 ≤ d + 1; omega) (by show d + 1 - 1 + 1 = d + 1; omega) (.inl (.inr (.inr (.inr (.inr (.inr (.inr (.inr (.inl ⟨rfl, 2, rfl, by decide⟩)))))))))
theorem yu_wct {t : yT} {d : Nat} (B : yu_B Tb (kb b).2 (Y b) lo (X b) t) (hYX : Y b ≤ X b) (v4 : t.2.1 < 4) : yu_w X Y kb b lo (yu_ct t) (d + 1) (d + 1) := by
  unfold yu_ct
  split
  · rename_i h25
    have hS := B.1 (.inl h25)
    have l1 : ∀ d, yu_w X Y kb b lo [(1, nI t.2.2.1, 0, 0)] d (d + 1) := fun d => yu_wl (by omega)
    split
    · exact yu_wap (l1 _) (yu_w7 (k := 10) (by decide))
    · split
      · exact yu_wap (l1 _) (yu_wap yu_w8 (yu_w7 (k := 10) (by decide)))
      · have hE := B.2.1 h25 (by omega)
        have l2 : ∀ d, yu_w X Y kb b lo [(1, nI t.2.2.2.1, 0, 0)] d (d + 1) := fun d => yu_wl (by omega)
        have st : ∀ d, yu_w X Y kb b lo [(2, nI t.2.2.2.1, 0, 0)] (d + 1) d := fun d => yu_ws (.inr (by omega))
        split
        · exact yu_wap (l1 _) (yu_wap (l2 _) (yu_wap yu_w8 (yu_wap (yu_w7 (k := 10) (by decide)) (yu_wap (yu_w7 (k := 10) (by decide)) (yu_wap (l1 _) (st _))))))
        · exact yu_wap (l2 _) (yu_wap (l1 _) (yu_wap yu_w8 (yu_wap (yu_w7 (k := 10) (by decide)) (yu_wap (yu_w7 (k := 10) (by decide)) (yu_wap (l1 _) (st _))))))
  · exact yu_wn
end YUT
end
section
/-! The coder: what is known of a ladder's code, to its end. -/
section YUU
variable {X Y : Nat → Nat} {kb : Nat → yK} {Tb : Nat → Prop} {b lo pw n m : Nat} {q : Nat → Nat → yT}
/-- a grid whose cells are in their bounds -/
def yu_H (Tb Qb : Nat → Prop) (X Y : Nat → Nat) (b lo pw n m : Nat) (q : Nat → Nat → yT) : Prop := (1 ≤ n ∧ n ≤ 12 ∧ 1 ≤ m ∧ m ≤ 12) ∧ (lo ≤ pw ∧ pw + 156 ≤ X b ∧ Y b ≤ X b) ∧ ∀ r c, r < n → c < m → yu_B Tb Qb (Y b) lo (X b) (q r c) ∧ (q r c).2.1 < 4
theorem yu_hp (H : yu_H Tb (kb b).2 X Y b lo pw n m q) {r c : Nat} (hr : r < n) (hc : c < m) : lo ≤ yu_pw pw q r c ∧ yu_pw pw q r c < X b := by
  obtain ⟨h1, h2, _⟩ := H
  have := yu_lsl q c r
  unfold yu_pw
  omega
theorem yu_wwy (H : yu_H Tb (kb b).2 X Y b lo pw n m q) {r c d : Nat} (hr : r < n) (hc : c < m) : yu_w X Y kb b lo (yu_wy pw q r c) d (d + 1) := by
  obtain ⟨h1, h2⟩ := H.2.2 r c hr hc
  unfold yu_wy
  refine yu_wap (e := d + 1) ?_ (yu_wct h1 H.2.1.2.2 h2)
  split
  · exact yu_w0
  · exact yu_wl (yu_hp H hr (by omega)).2
theorem yu_wgr (H : yu_H Tb (kb b).2 X Y b lo pw n m q) {c : Nat} (hc : c < m) : ∀ (k r w d : Nat), r + k ≤ n → yu_w X Y kb b lo (yu_gr pw q c k r w) (d + (if w = 0 then 0 else 1)) (d + 1) := by
  intro k
  induction k with
  | zero =>
    intro r w d _
    show yu_w X Y kb b lo (if w = 0 then [(0, 0, 0, 0)] else []) _ _
    by_cases z : w = 0
    · rw [if_pos z, if_pos z]; exact yu_w0
    · rw [if_neg z, if_neg z]; exact yu_wn
  | succ k ih =>
    intro r w d hr
    show yu_w X Y kb b lo (if (q r c).1 = 27 then yu_gr pw q c k (r + 1) w else yu_wy pw q r c ++ ((if w = 0 then [] else [(7, 11, 0, 0)]) ++ yu_gr pw q c k (r + 1) (w + 1))) _ _
    split
    · exact ih (r + 1) w d (by omega)
    · have a := ih (r + 1) (w + 1) d (by omega)
      rw [if_neg (by omega)] at a
      by_cases z : w = 0
      · rw [if_pos z, if_pos z]
        exact yu_wap (yu_wwy H (by omega) hc) a
      · rw [if_neg z, if_neg z]
        exact yu_wap (yu_wwy H (by omega) hc) (yu_wap (yu_w7 (k := 11) (by decide)) a)
theorem yu_wgp (H : yu_H Tb (kb b).2 X Y b lo pw n m q) {c r d : Nat} (hc : c < m) (hr : r < n) : yu_w X Y kb b lo (yu_gp pw q n c r) d d := by
  obtain ⟨_, l2, _, _⟩ := yu_lef (q := q) (c := c) (n - 1 - r) r
  have a := yu_wgr (kb := kb) H hc (yu_le q c (n - 1 - r) r) r 0 d (by omega)
  rw [if_pos rfl] at a
  unfold yu_gp
  exact yu_wap a (yu_ws (.inr (yu_hp H hr hc)))
theorem yu_wco (H : yu_H Tb (kb b).2 X Y b lo pw n m q) {c d : Nat} (hc : c < m) : ∀ k, k ≤ n → yu_w X Y kb b lo (yu_co pw q n c k) d d := by
  intro k
  induction k with
  | zero => intro _; exact yu_wn
  | succ k ih =>
    intro hk
    show yu_w X Y kb b lo ((if yu_ls q (n - (k + 1)) c = n - (k + 1) ∧ ¬ (q (n - (k + 1)) c).1 = 28 then yu_gp pw q n c (n - (k + 1)) else []) ++ yu_co pw q n c k) d d
    refine yu_wap (e := d) ?_ (ih (by omega))
    split
    · exact yu_wgp H hc (by omega)
    · exact yu_wn
theorem yu_wcs (H : yu_H Tb (kb b).2 X Y b lo pw n m q) {d : Nat} : ∀ k, k ≤ m → yu_w X Y kb b lo (yu_cs pw q n m k) d d := by
  intro k
  induction k with
  | zero => intro _; exact yu_wn
  | succ k ih =>
    intro hk
    exact yu_wap (yu_wco H (show m - (k + 1) < m by omega) n (Nat.le_refl _)) (ih (by omega))
theorem yu_wcc (H : yu_H Tb (kb b).2 X Y b lo pw n m q) {r d : Nat} (hr : r < n) (h28 : (q r (m - 1)).1 = 28) : yu_w X Y kb b lo (yu_cc pw q m r (q r (m - 1))) d d := by
  have hm := H.1
  obtain ⟨h1, h2⟩ := H.2.2 r (m - 1) hr (by omega)
  have hS := h1.1 (.inr h28)
  have hYX := H.2.1.2.2
  have st : ∀ d, yu_w X Y kb b lo [(2, nI (q r (m - 1)).2.2.1, 0, 0)] (d + 1) d := fun d => yu_ws (.inl ⟨hS.1, hS.2 h28⟩)
  have pwr : ∀ d, yu_w X Y kb b lo (if m = 1 then [(0, 1, 0, 0)] else [(1, nI (yu_pw pw q r (m - 2)), 0, 0)]) d (d + 1) := by
    intro d
    split
    · exact yu_w0
    · exact yu_wl (yu_hp H hr (by omega)).2
  have w8 : ∀ d, yu_w X Y kb b lo (if (q r (m - 1)).2.1 = 1 ∨ (q r (m - 1)).2.1 = 3 then [(8, 2, 0, 0)] else []) (d + 1) (d + 1) := by
    intro d
    split
    · exact yu_w8
    · exact yu_wn
  unfold yu_cc
  by_cases z : (q r (m - 1)).2.1 < 2
  · rw [if_pos z, if_pos z]
    exact yu_wap yu_wn (yu_wap (pwr _) (yu_wap (w8 _) (yu_wap yu_wn (st _))))
  · rw [if_neg z, if_neg z]
    refine yu_wap (yu_wl (by omega)) (yu_wap (pwr _) (yu_wap (w8 _) (yu_wap (e := d + 1) ?_ (st _))))
    split
    · exact yu_w7 (k := 11) (by decide)
    · exact yu_w7 (k := 10) (by decide)
theorem yu_wcl (H : yu_H Tb (kb b).2 X Y b lo pw n m q) {d : Nat} : ∀ k, k ≤ n → yu_w X Y kb b lo (yu_cl pw q n m k) d d := by
  intro k
  induction k with
  | zero => intro _; exact yu_wn
  | succ k ih =>
    intro hk
    show yu_w X Y kb b lo ((if (q (n - (k + 1)) (m - 1)).1 = 28 then yu_cc pw q m (n - (k + 1)) (q (n - (k + 1)) (m - 1)) else []) ++ yu_cl pw q n m k) d d
    refine yu_wap (e := d) ?_ (ih (by omega))
    split
    · rename_i h; exact yu_wcc H (by omega) h
    · exact yu_wn
theorem yu_wrg (H : yu_H Tb (kb b).2 X Y b lo pw n m q) {d : Nat} : yu_w X Y kb b lo (yu_rg pw q n m) d d := yu_wap (yu_wcs H m (Nat.le_refl _)) (yu_wcl H n (Nat.le_refl _))
/-- a ladder is straight code -/
theorem yu_wll {gs : List (List (List yT) × Nat)} (hg : ∀ a, a ∈ gs → yu_H Tb (kb b).2 X Y b lo pw a.1.length a.2 (yu_q a.1)) : yu_w X Y kb b lo (yu_ll pw gs) 0 0 := by
  induction gs with
  | nil => exact yu_wn
  | cons a gs ih => exact yu_wap (yu_wrg (hg a List.mem_cons_self)) (ih (fun c hc => hg c (List.mem_cons_of_mem _ hc)))
theorem yu_Wll {gs : List (List (List yT) × Nat)} (hg : ∀ a, a ∈ gs → yu_H Tb (kb b).2 X Y b lo pw a.1.length a.2 (yu_q a.1)) : yz_W X Y kb b (yz_i (yu_ll pw gs)) lo := by
  have a := yu_wll (kb := kb) hg
  exact yz_Wi (a.1 0) a.2
end YUU
end
section
/-! BOOLs: a ladder's code. -/
/-- .. in a ladder -/
def yz_Ld (h0 : zs_H) (b : Nat) (T : ys) : Prop := ∀ LD : Nat → Prop, LD b → yz_B (yq_b LD h0) b T
def yz_NL (h0 : zs_H) (b : Nat) (T : ys) : Prop := yz_N h0 b T ∨ yz_Ld h0 b T
section YUB
variable {X Y : Nat → Nat} {Tb Qb : Nat → Prop} {Bc : Nat → Nat → Prop} {b lo pw n m : Nat} {q : Nat → Nat → yT}
/-- d BOOLs are taken, e BOOLs are left -/
def yu_t (Bc : Nat → Nat → Prop) (b : Nat) (L : List yI) (d e : Nat) : Prop := ∀ (K : List Prop → Prop) (st : List Prop), K (List.replicate e True ++ st) → yo_W Bc b L K (List.replicate d True ++ st)
theorem yu_tap {L1 L2 : List yI} {d e f : Nat} (A : yu_t Bc b L1 d e) (B : yu_t Bc b L2 e f) : yu_t Bc b (L1 ++ L2) d f := fun K st H => by
  rw [yo_Wap]
  exact A _ _ (B _ _ H)
theorem yu_tn {d : Nat} : yu_t Bc b [] d d := fun _ _ H => H
theorem yu_t0 {d : Nat} {v : Int32} (h : v = 0 ∨ v = 1) : yu_t Bc b [(0, v, 0, 0)] d (d + 1) := fun K st H => by
  show K ((v = 0 ∨ v = 1) :: (List.replicate d True ++ st))
  rw [eq_true h]; exact H
theorem yu_tl {d x : Nat} (hx : x < 2147483648) (h : Bc b x) : yu_t Bc b [(1, nI x, 0, 0)] d (d + 1) := fun K st H => by
  show K (Bc b (nI x).toNatClampNeg :: (List.replicate d True ++ st))
  rw [nI_clamp hx, eq_true h]; exact H
theorem yu_ts {d x : Nat} : yu_t Bc b [(2, nI x, 0, 0)] (d + 1) d := fun K st H => by
  show (Bc b (nI x).toNatClampNeg → True) ∧ K (List.replicate d True ++ st)
  exact ⟨fun _ => trivial, H⟩
theorem yu_t7 {d : Nat} {k : Int32} (h : k = 10 ∨ k = 11 ∨ k = 12) : yu_t Bc b [(7, k, 0, 0)] (d + 2) (d + 1) := fun K st H => by
  show K (yo_2 k True True :: (List.replicate d True ++ st))
  rw [eq_true (show yo_2 k True True from .inr ⟨h, trivial, trivial⟩)]; exact H
theorem yu_t8 {d : Nat} : yu_t Bc b [(8, 2, 0, 0)] (d + 1) (d + 1) := fun K st H => by
  show K (((2 : Int32) = 2 ∨ (2 : Int32) = 7) :: (List.replicate d True ++ st))
  rw [eq_true (show (2 : Int32) = 2 ∨ (2 : Int32) = 7 from .inl rfl)]; exact H
theorem yu_tct {t : yT} {d : Nat} (hx : t.2.2.1 < 2147483648) (ho : t.2.2.2.1 < 2147483648) (B : t.1 = 25 → Bc b t.2.2.1 ∧ (2 ≤ t.2.1 → Bc b t.2.2.2.1)) (v4 : t.2.1 < 4) : yu_t Bc b (yu_ct t) (d + 1) (d + 1) := by
  unfold yu_ct
  split
  · rename_i h25
    obtain ⟨b1, b2⟩ := B h25
    have l1 : ∀ d, yu_t Bc b [(1, nI t.2.2.1, 0, 0)] d (d + 1) := fun d => yu_tl hx b1
    have a10 : ∀ d, yu_t Bc b [(7, 10, 0, 0)] (d + 2) (d + 1) := fun d => yu_t7 (.inl rfl)
    split
    · exact yu_tap (l1 _) (a10 _)
    · split
      · exact yu_tap (l1 _) (yu_tap yu_t8 (a10 _))
      · have l2 : ∀ d, yu_t Bc b [(1, nI t.2.2.2.1, 0, 0)] d (d + 1) := fun d => yu_tl ho (b2 (by omega))
        have st : ∀ d, yu_t Bc b [(2, nI t.2.2.2.1, 0, 0)] (d + 1) d := fun d => yu_ts
        split
        · exact yu_tap (l1 _) (yu_tap (l2 _) (yu_tap yu_t8 (yu_tap (a10 _) (yu_tap (a10 _) (yu_tap (l1 _) (st _))))))
        · exact yu_tap (l2 _) (yu_tap (l1 _) (yu_tap yu_t8 (yu_tap (a10 _) (yu_tap (a10 _) (yu_tap (l1 _) (st _))))))
  · exact yu_tn
/-- the grid's cells hold BOOLs -/
def yu_G (Bc : Nat → Nat → Prop) (b pw n m : Nat) (q : Nat → Nat → yT) : Prop := 1 ≤ m ∧ (∀ r c, r < n → c < m → yu_pw pw q r c < 2147483648 ∧ Bc b (yu_pw pw q r c)) ∧ ∀ r c, r < n → c < m → ((q r c).2.2.1 < 2147483648 ∨ ¬ ((q r c).1 = 25 ∨ (q r c).1 = 28)) ∧ ((q r c).1 = 25 → Bc b (q r c).2.2.1 ∧ (2 ≤ (q r c).2.1 → (q r c).2.2.2.1 < 2147483648 ∧ Bc b (q r c).2.2.2.1)) ∧ (q r c).2.1 < 4
theorem yu_tcq {r c d : Nat} (G : yu_G Bc b pw n m q) (hr : r < n) (hc : c < m) : yu_t Bc b (yu_ct (q r c)) (d + 1) (d + 1) := by
  obtain ⟨_, _, g3⟩ := G
  obtain ⟨a1, a2, a3⟩ := g3 r c hr hc
  by_cases h25 : (q r c).1 = 25
  · have hx : (q r c).2.2.1 < 2147483648 := by
      rcases a1 with z | z
      · exact z
      · exact absurd (.inl h25) z
    obtain ⟨b1, b2⟩ := a2 h25
    by_cases h2 : 2 ≤ (q r c).2.1
    · exact yu_tct hx (b2 h2).1 (fun _ => ⟨b1, fun _ => (b2 h2).2⟩) a3
    · unfold yu_ct
      rw [if_pos h25]
      have l1 : ∀ d, yu_t Bc b [(1, nI (q r c).2.2.1, 0, 0)] d (d + 1) := fun d => yu_tl hx b1
      have a10 : ∀ d, yu_t Bc b [(7, 10, 0, 0)] (d + 2) (d + 1) := fun d => yu_t7 (.inl rfl)
      by_cases h0 : (q r c).2.1 = 0
      · rw [if_pos h0]; exact yu_tap (l1 _) (a10 _)
      · rw [if_neg h0, if_pos (show (q r c).2.1 = 1 by omega)]
        exact yu_tap (l1 _) (yu_tap yu_t8 (a10 _))
  · unfold yu_ct
    rw [if_neg h25]; exact yu_tn
theorem yu_twy (G : yu_G Bc b pw n m q) {r c d : Nat} (hr : r < n) (hc : c < m) : yu_t Bc b (yu_wy pw q r c) d (d + 1) := by
  unfold yu_wy
  refine yu_tap (e := d + 1) ?_ (yu_tcq G hr hc)
  split
  · exact yu_t0 (.inr rfl)
  · obtain ⟨g1, g2⟩ := G.2.1 r (c - 1) hr (by omega)
    exact yu_tl g1 g2
theorem yu_tgr (G : yu_G Bc b pw n m q) {c : Nat} (hc : c < m) : ∀ (k r w d : Nat), r + k ≤ n → yu_t Bc b (yu_gr pw q c k r w) (d + (if w = 0 then 0 else 1)) (d + 1) := by
  intro k
  induction k with
  | zero =>
    intro r w d _
    show yu_t Bc b (if w = 0 then [(0, 0, 0, 0)] else []) _ _
    by_cases z : w = 0
    · rw [if_pos z, if_pos z]; exact yu_t0 (.inl rfl)
    · rw [if_neg z, if_neg z]; exact yu_tn
  | succ k ih =>
    intro r w d hr
    show yu_t Bc b (if (q r c).1 = 27 then yu_gr pw q c k (r + 1) w else yu_wy pw q r c ++ ((if w = 0 then [] else [(7, 11, 0, 0)]) ++ yu_gr pw q c k (r + 1) (w + 1))) _ _
    split
    · exact ih (r + 1) w d (by omega)
    · have a := ih (r + 1) (w + 1) d (by omega)
      rw [if_neg (by omega)] at a
      by_cases z : w = 0
      · rw [if_pos z, if_pos z]
        exact yu_tap (yu_twy G (by omega) hc) a
      · rw [if_neg z, if_neg z]
        exact yu_tap (yu_twy G (by omega) hc) (yu_tap (yu_t7 (.inr (.inl rfl))) a)
theorem yu_tgp (G : yu_G Bc b pw n m q) {c r d : Nat} (hc : c < m) (hr : r < n) : yu_t Bc b (yu_gp pw q n c r) d d := by
  obtain ⟨_, l2, _, _⟩ := yu_lef (q := q) (c := c) (n - 1 - r) r
  have a := yu_tgr G hc (yu_le q c (n - 1 - r) r) r 0 d (by omega)
  rw [if_pos rfl] at a
  unfold yu_gp
  exact yu_tap a yu_ts
theorem yu_tco (G : yu_G Bc b pw n m q) {c d : Nat} (hc : c < m) : ∀ k, k ≤ n → yu_t Bc b (yu_co pw q n c k) d d := by
  intro k
  induction k with
  | zero => intro _; exact yu_tn
  | succ k ih =>
    intro hk
    show yu_t Bc b ((if yu_ls q (n - (k + 1)) c = n - (k + 1) ∧ ¬ (q (n - (k + 1)) c).1 = 28 then yu_gp pw q n c (n - (k + 1)) else []) ++ yu_co pw q n c k) d d
    refine yu_tap (e := d) ?_ (ih (by omega))
    split
    · exact yu_tgp G hc (by omega)
    · exact yu_tn
theorem yu_tcs (G : yu_G Bc b pw n m q) {d : Nat} : ∀ k, k ≤ m → yu_t Bc b (yu_cs pw q n m k) d d := by
  intro k
  induction k with
  | zero => intro _; exact yu_tn
  | succ k ih =>
    intro hk
    exact yu_tap (yu_tco G (show m - (k + 1) < m by omega) n (Nat.le_refl _)) (ih (by omega))
theorem yu_tcc (G : yu_G Bc b pw n m q) {r : Nat} (hr : r < n) (h28 : (q r (m - 1)).1 = 28) : yo_N Bc b (yu_cc pw q m r (q r (m - 1))) := by
  have hm := G.1
  have hx : (q r (m - 1)).2.2.1 < 2147483648 := by
    rcases (G.2.2 r (m - 1) hr (by omega)).1 with z | z
    · exact z
    · exact absurd (.inr h28) z
  have ecl : (nI (q r (m - 1)).2.2.1).toNatClampNeg = (q r (m - 1)).2.2.1 := nI_clamp hx
  have pwr : yu_t Bc b (if m = 1 then [(0, 1, 0, 0)] else [(1, nI (yu_pw pw q r (m - 2)), 0, 0)]) 0 1 := by
    split
    · exact yu_t0 (.inr rfl)
    · obtain ⟨g1, g2⟩ := G.2.1 r (m - 2) hr (by omega)
      exact yu_tl g1 g2
  have w8 : yu_t Bc b (if (q r (m - 1)).2.1 = 1 ∨ (q r (m - 1)).2.1 = 3 then [(8, 2, 0, 0)] else []) 1 1 := by
    split
    · exact yu_t8
    · exact yu_tn
  intro K st H
  unfold yu_cc
  by_cases z : (q r (m - 1)).2.1 < 2
  · rw [if_pos z, if_pos z, List.nil_append, yo_Wap]
    refine pwr _ st ?_
    rw [yo_Wap]
    refine w8 _ st ?_
    rw [List.nil_append]
    exact yu_ts (d := 0) K st H
  · rw [if_neg z, if_neg z, yo_Wap]
    show yo_W Bc b _ K (Bc b (nI (q r (m - 1)).2.2.1).toNatClampNeg :: st)
    rw [ecl, yo_Wap]
    refine pwr _ (Bc b (q r (m - 1)).2.2.1 :: st) ?_
    rw [yo_Wap]
    refine w8 _ (Bc b (q r (m - 1)).2.2.1 :: st) ?_
    split
    · show (Bc b (nI (q r (m - 1)).2.2.1).toNatClampNeg → yo_2 11 (Bc b (q r (m - 1)).2.2.1) True) ∧ K st
      rw [ecl]
      exact ⟨fun w => .inr ⟨.inr (.inl rfl), w, trivial⟩, H⟩
    · show (Bc b (nI (q r (m - 1)).2.2.1).toNatClampNeg → yo_2 10 (Bc b (q r (m - 1)).2.2.1) True) ∧ K st
      rw [ecl]
      exact ⟨fun w => .inr ⟨.inl rfl, w, trivial⟩, H⟩
theorem yo_Nap {L1 L2 : List yI} (A : yo_N Bc b L1) (B : yo_N Bc b L2) : yo_N Bc b (L1 ++ L2) := fun K st H => by
  rw [yo_Wap]
  exact A _ _ (B _ _ H)
theorem yu_tcl (G : yu_G Bc b pw n m q) : ∀ k, k ≤ n → yo_N Bc b (yu_cl pw q n m k) := by
  intro k
  induction k with
  | zero => intro _ K st H; exact H
  | succ k ih =>
    intro hk
    show yo_N Bc b ((if (q (n - (k + 1)) (m - 1)).1 = 28 then yu_cc pw q m (n - (k + 1)) (q (n - (k + 1)) (m - 1)) else []) ++ yu_cl pw q n m k)
    refine yo_Nap ?_ (ih (by omega))
    split
    · rename_i h; exact yu_tcc G (by omega) h
    · exact fun K st H => H
theorem yu_trg (G : yu_G Bc b pw n m q) : yo_N Bc b (yu_rg pw q n m) := yo_Nap (fun K st H => yu_tcs G m (Nat.le_refl _) (d := 0) K st H) (yu_tcl G n (Nat.le_refl _))
theorem yu_mkG (hT : ∀ S, Tb S → Bc b S) (hO : ∀ j, Y b ≤ j → j < X b → Bc b j) (hX : X b ≤ 100000) (hY : Y b ≤ lo) (H : yu_H Tb Qb X Y b lo pw n m q) : yu_G Bc b pw n m q := by
  obtain ⟨⟨h1, h2, h3, h4⟩, ⟨h5, h6, h7⟩, h8⟩ := H
  refine ⟨h3, fun r c hr hc => ?_, fun r c hr hc => ?_⟩
  · have e := yu_lsl q c r
    have : yu_pw pw q r c = pw + 12 * c + yu_ls q r c := rfl
    exact ⟨by omega, hO _ (by omega) (by omega)⟩
  · obtain ⟨⟨b1, b2, b3, b4⟩, b5⟩ := h8 r c hr hc
    refine ⟨?_, fun h25 => ⟨hT _ (b4 h25), fun hv => ?_⟩, b5⟩
    · by_cases z : (q r c).1 = 25 ∨ (q r c).1 = 28
      · have := b1 z
        exact .inl (by omega)
      · exact .inr z
    · have := b2 h25 hv
      exact ⟨by omega, hO _ (by omega) (by omega)⟩
theorem yu_tll (hT : ∀ S, Tb S → Bc b S) (hO : ∀ j, Y b ≤ j → j < X b → Bc b j) {gs : List (List (List yT) × Nat)} (hg : ∀ a, a ∈ gs → yu_H Tb Qb X Y b lo pw a.1.length a.2 (yu_q a.1)) (hX : X b ≤ 100000) (hY : Y b ≤ lo) : yo_N Bc b (yu_ll pw gs) := by
  induction gs with
  | nil => exact fun K st H => H
  | cons a gs ih => exact yo_Nap (yu_trg (yu_mkG hT hO hX hY (hg a List.mem_cons_self))) (ih (fun c hc => hg c (List.mem_cons_of_mem _ hc)))
end YUB
end
section
/-! The coder: a ladder's grids are in their bounds. -/
section YUV
variable {X Y : Nat → Nat} {b lo hi pw m : Nat} {rows : List (List yT)}
theorem yu_mkH {Tb Qb : Nat → Prop} (Fm : yu_F m rows) (hB : ∀ cs, cs ∈ rows → ∀ u, u ∈ cs → yu_B Tb Qb (Y b) lo hi u) (h1 : lo ≤ pw) (h2 : pw + 156 ≤ X b) (h3 : Y b ≤ X b) (h4 : hi ≤ X b) : yu_H Tb Qb X Y b lo pw rows.length m (yu_q rows) := by
  refine ⟨Fm.1, ⟨h1, h2, h3⟩, fun r c hr hc => ?_⟩
  obtain ⟨cs, e1, e2, _⟩ := yu_Fg Fm hr hc
  obtain ⟨a1, a2, a3⟩ := hB cs (List.mem_of_getElem? e1) _ (List.mem_of_getElem? e2)
  exact ⟨⟨a1, fun h25 hv => by have := a2 h25 hv; omega, a3⟩, a3.1⟩
end YUV
section YUW
variable {n v q ow : Nat} {T : ys} {h h' : zs_H}
/-- statements are a part of a unit -/
theorem yC_RU (R : yC_R n v q T ow h h') (hx : yz_x T n = []) : yC_U n ((yz_c T n v q 0).map Prod.fst) h h' := by
  obtain ⟨⟨r1, r2, r3⟩, _, _⟩ := R
  rw [hx] at r3
  refine ⟨r1, zfr_w r2 (by decide) (by decide) (by decide), fun h4 => ⟨(r3 h4).1, fun k i e => ?_⟩⟩
  obtain ⟨⟨a1, a2, a3⟩, a4⟩ := (r3 h4).2 k i e
  exact ⟨a1, a4 List.not_mem_nil, a2, a3⟩
end YUW
end
section
/-! The coder: what a FUNCTION begins with. -/
/-- first values of VARs, m variables from v on -/
def yu_vs (h : zs_H) : Nat → Nat → List yI
  | 0, _ => []
  | m + 1, v => (if (h.2.1 29) (32 + v) = 0 then [(0, (h.2.1 35) (32 + v), 0, 0)] ++ [(2, (h.2.1 32) (32 + v), 0, 0)] else []) ++ yu_vs h m (v + 1)
def yu_pre (h : zs_H) (m v : Nat) : List yI := [(0, 0, 0, 0)] ++ [(2, 0, 0, 0)] ++ yu_vs h m v
section YUX
variable {LC LM : List (List Int32)} {h0 g0 h g : zs_H} {nb b e : Nat} {F : Nat → Nat}
theorem yu_vl : ∀ (m v : Nat), (yu_vs h0 m v).length ≤ 2 * m := by
  intro m
  induction m with
  | zero => intro v; exact Nat.le_refl _
  | succ m ih =>
    intro v
    have := ih (v + 1)
    rw [yu_vs, List.length_append]
    split
    · show 2 + _ ≤ _; omega
    · show 0 + _ ≤ _; omega
theorem yu_bfC (hb : b < 600) (eb : (h0.2.1 24) (9 + b) = nI (32 + e)) (he : e ≤ 5900) : ∀ (m v N n : Nat) (h : zs_H), v + m = e → yC_f h0 h → (h.1 47 3) = nI (9 + b) → (h.1 41 5) = nI n → n + 2 * m < 90000000 → m < N → ∃ h', f_Cr_beginFunction_L33 N h (nI (32 + v)) = some h' ∧ yC_E n (yu_vs h0 m v) h h' := by
  intro m
  induction m with
  | zero =>
    intro v N n h hv f hbk es hn hN
    obtain ⟨N, rfl⟩ : ∃ z, N = z + 1 := ⟨N - 1, by omega⟩
    refine ⟨h, ?_, yC_nil es⟩
    show f_Cr_beginFunction_33 (f_Cr_beginFunction_L33 N) h (nI (32 + v)) = _
    unfold f_Cr_beginFunction_33
    simp only [hbk, if_pos (zi_in (show 9 + b < 2147483648 by omega) (show 9 + b < 629 by omega)), nI_clamp (show 9 + b < 2147483648 by omega), f.2.1 24 (by decide), eb, if_pos ((nI_leI (show 32 + e < 2147483648 by omega) (show 32 + v < 2147483648 by omega)).mpr (by omega))]
  | succ m ih =>
    intro v N n h hv f hbk es hn hN
    obtain ⟨N, rfl⟩ : ∃ z, N = z + 1 := ⟨N - 1, by omega⟩
    have e1 : nI (32 + v) + 1 = nI (32 + (v + 1)) := zc_ad 1 (32 + v)
    have st : f_Cr_beginFunction_L33 (N + 1) h (nI (32 + v)) = (if (h0.2.1 29) (32 + v) = 0 then (zd_B (f_Cd_emit h 0 ((h0.2.1 35) (32 + v))) fun v6 h7 => (zd_B (f_Cd_emit h7 2 ((h7.2.1 32) (32 + v))) fun v10 h11 => f_Cr_beginFunction_L33 N h11 (nI (32 + (v + 1))))) else f_Cr_beginFunction_L33 N h (nI (32 + (v + 1)))) := by
      show f_Cr_beginFunction_33 (f_Cr_beginFunction_L33 N) h (nI (32 + v)) = _
      unfold f_Cr_beginFunction_33 f_Cr_beginFunction_97
      simp only [hbk, if_pos (zi_in (show 9 + b < 2147483648 by omega) (show 9 + b < 629 by omega)), nI_clamp (show 9 + b < 2147483648 by omega), f.2.1 24 (by decide), eb, if_neg (mt (nI_leI (show 32 + e < 2147483648 by omega) (show 32 + v < 2147483648 by omega)).mp (by omega)), if_pos (zi_in (show 32 + v < 2147483648 by omega) (show 32 + v < 6000 by omega)), nI_clamp (show 32 + v < 2147483648 by omega), f.2.1 29 (by decide), f.2.1 35 (by decide), e1]
    rw [st, yu_vs]
    by_cases z : (h0.2.1 29) (32 + v) = 0
    · rw [if_pos z, if_pos z]
      obtain ⟨h1, a1, a2⟩ := yC_emit es (by omega) 0 (by decide) ((h0.2.1 35) (32 + v))
      have f1 : yC_f h0 h1 := zfr_trans f (zfr_w a2.2.1 (by decide) (by decide) (by decide))
      obtain ⟨h2, b1, b2⟩ := yC_emit a2.1 (show n + 1 < 100000000 by omega) 2 (by decide) ((h0.2.1 32) (32 + v))
      have f2 : yC_f h0 h2 := zfr_trans f1 (zfr_w b2.2.1 (by decide) (by decide) (by decide))
      have bk2 : (h2.1 47 3) = nI (9 + b) := (b2.2.1.1 _ _ (by decide)).trans ((a2.2.1.1 _ _ (by decide)).trans hbk)
      obtain ⟨h3, c1, c2⟩ := ih (v + 1) N (n + 1 + 1) h2 (by omega) f2 bk2 b2.1 (by omega) (by omega)
      refine ⟨h3, ?_, yC_ap (yC_ap a2 b2) c2⟩
      refine (congrArg (fun z => zd_B z _) a1).trans ?_
      show zd_B (f_Cd_emit h1 2 ((h1.2.1 32) (32 + v))) _ = _
      rw [f1.2.1 32 (by decide)]
      exact (congrArg (fun z => zd_B z _) b1).trans c1
    · rw [if_neg z, if_neg z]
      exact ih (v + 1) N n h (by omega) f hbk es (by omega) (by omega)
theorem yu_end (B : zv_B LC LM nb F h0 g0) (hb : b < nb) (f : yM_f g0 g) : f_Mo_endOf g (nI b) = some (nI (F (b + 1))) := by
  have hn := B.1.2.2
  unfold f_Mo_endOf
  rw [f.1 68 33 (by decide), f.1 68 41 (by decide), f.2.1 90 (by decide), B.1.2.1, B.2.1.2.1, show nI nb - 1 = nI (nb - 1) from zi_sub (b := 1) (by omega)]
  by_cases q : b = nb - 1
  · rw [if_pos (by rw [q]), show b + 1 = nb by omega]
  · rw [if_neg (mt (nI_eq (by omega) (by omega)).mp q), show nI b + 1 = nI (b + 1) from zc_ad 1 b, if_pos (zi_in (by omega) (by omega)), nI_clamp (by omega), (B.2.2.2.2.2.1 (b + 1) (by omega)).2.1]
theorem yu_bfM {a : Nat} (ee : ∀ g, yM_f g0 g → f_Mo_endOf g (nI b) = some (nI e)) (he : e ≤ 5900) (H : ∀ v, a ≤ v → v < e → ((g0.2.1 95) v = 0 ↔ (h0.2.1 29) (32 + v) = 0) ∧ (g0.2.1 99) v = (h0.2.1 35) (32 + v) ∧ (g0.2.1 94) v = (h0.2.1 32) (32 + v)) : ∀ (m v N n s lv : Nat) (g : zs_H), v + m = e → a ≤ v → yM_f g0 g → yM_c g n s b lv → n + 2 * m < 90000000 → m < N → ∃ g', f_Mo_beginFunction_L27 N g (nI b) (nI v) = some g' ∧ yM_E s n (yv lv (yu_vs h0 m v)) g g' := by
  intro m
  induction m with
  | zero =>
    intro v N n s lv g hv ha f c hn hN
    obtain ⟨N, rfl⟩ : ∃ z, N = z + 1 := ⟨N - 1, by omega⟩
    refine ⟨g, ?_, yM_nil c.1.1⟩
    show f_Mo_beginFunction_27 (f_Mo_beginFunction_L27 N) g (nI b) (nI v) = _
    unfold f_Mo_beginFunction_27
    rw [ee g f, Option.bind_some, if_pos ((nI_leI (by omega) (by omega)).mpr (by omega))]
  | succ m ih =>
    intro v N n s lv g hv ha f c hn hN
    obtain ⟨N, rfl⟩ : ∃ z, N = z + 1 := ⟨N - 1, by omega⟩
    have e1 : nI v + 1 = nI (v + 1) := zc_ad 1 v
    obtain ⟨H1, H2, H3⟩ := H v ha (by omega)
    have st : f_Mo_beginFunction_L27 (N + 1) g (nI b) (nI v) = (if (g0.2.1 95) v = 0 then (zd_B (f_Mo_emit g 0 ((g0.2.1 99) v) 0 0) fun v7 h8 => (zd_B (f_Mo_emit h8 2 ((h8.2.1 94) v) 0 0) fun v11 h12 => f_Mo_beginFunction_L27 N h12 (nI b) (nI (v + 1)))) else f_Mo_beginFunction_L27 N g (nI b) (nI (v + 1))) := by
      show f_Mo_beginFunction_27 (f_Mo_beginFunction_L27 N) g (nI b) (nI v) = _
      unfold f_Mo_beginFunction_27 f_Mo_beginFunction_73
      simp only [ee g f, Option.bind_some, if_neg (mt (nI_leI (show e < 2147483648 by omega) (show v < 2147483648 by omega)).mp (by omega)), if_pos (zi_in (show v < 2147483648 by omega) (show v < 8400 by omega)), nI_clamp (show v < 2147483648 by omega), f.2.1 95 (by decide), f.2.1 99 (by decide), e1]
    rw [st, yu_vs]
    by_cases z : (h0.2.1 29) (32 + v) = 0
    · rw [if_pos (H1.mpr z), if_pos z, H2]
      obtain ⟨g1, a1, a2⟩ := yM_e c (show n < 100000000 by omega) 0 ((h0.2.1 35) (32 + v)) 0 0 (by decide)
      have f1 : yM_f g0 g1 := zfr_trans f (zfr_w a2.2.1 (by decide) (by decide) (by decide))
      have c1 := yM_cL c a2
      obtain ⟨g2, b1, b2⟩ := yM_e c1 (show n + 1 < 100000000 by omega) 2 ((h0.2.1 32) (32 + v)) 0 0 (by decide)
      have f2 : yM_f g0 g2 := zfr_trans f1 (zfr_w b2.2.1 (by decide) (by decide) (by decide))
      have c2 := yM_cL c1 b2
      obtain ⟨g3, d1, d2⟩ := ih (v + 1) N (n + 1 + 1) s lv g2 (by omega) (by omega) f2 c2 (by omega) (by omega)
      refine ⟨g3, ?_, ?_⟩
      · refine (congrArg (fun z => zd_B z _) a1).trans ?_
        show zd_B (f_Mo_emit g1 2 ((g1.2.1 94) v) 0 0) _ = _
        rw [f1.2.1 94 (by decide), H3]
        exact (congrArg (fun z => zd_B z _) b1).trans d1
      · have := yM_ap (yM_ap a2 b2) d2
        unfold yv at this ⊢
        rw [List.map_append]
        exact this
    · rw [if_neg (mt H1.mp z), if_neg z]
      exact ih (v + 1) N n s lv g (by omega) (by omega) f c (by omega) (by omega)
end YUX
end
section
/-! The coder: a unit, on both sides. -/
/-- what ladders are made of -/
def yu_ld : zt_T → Prop
  | .leaf => True
  | .inner kd _ _ _ r => kd ∈ [6, 22, 23, 24, 25, 26, 27, 28, 29, 33, 38] ∧ yu_ld r
theorem yu_gld {kd : Nat} (hkd : kd ∈ [6, 22, 23, 24, 25, 26, 27, 28, 29, 33, 38]) : ∀ {l : zt_T} {st : Nat}, ¬ zg_run kd st l = 99 → yu_ld l := by
  have key : ∀ r ∈ zg_R, r.1 ∈ [6, 22, 23, 24, 25, 26, 27, 28, 29, 33, 38] → ∀ c ∈ r.2.2.1, c ∈ [6, 22, 23, 24, 25, 26, 27, 28, 29, 33, 38] := by decide +kernel
  intro l
  induction l with
  | leaf => intro _ _; trivial
  | inner c kv o lc r _ ihr =>
    intro st h
    obtain ⟨p, h1⟩ := yl_gr (kd := kd) (p := fun c => c ∈ [6, 22, 23, 24, 25, 26, 27, 28, 29, 33, 38]) (fun r hr e c hc => key r hr (by rw [e]; exact hkd) c hc) h
    exact ⟨p, ihr h1⟩
theorem yu_ld0 : ∀ t : zt_T, zg_ok t → yu_ld t → yg_c 0 t = 0 := by
  have key : ∀ z ∈ [6, 22, 23, 24, 25, 26, 27, 28, 29, 33, 38], ¬ z = 16 ∧ ¬ z = 19 := by decide
  intro t
  induction t with
  | leaf => intro _ _; rfl
  | inner kd kv o l r ihl ihr =>
    intro ⟨⟨hA, hv⟩, okl, okr⟩ ⟨hk, tr⟩
    obtain ⟨k1, k2⟩ := key kd hk
    show (if 30 ≤ zt_km kd then 0 else yg_w 0 kd kv.2 + yg_c 0 l) + yg_c 0 r = 0
    have e : yg_w 0 kd kv.2 = 0 := by
      unfold yg_w
      rw [if_pos rfl, if_neg (by omega)]
    rw [ihr okr tr, ihl okl (yu_gld hk (yc_gA hA)), e, ite_self]
/-- a part of a unit has been coded, in the model -/
def yM_U (s n : Nat) (L : List yJ) (g g' : zs_H) : Prop := (g'.1 68 56) = nI (n + L.length) ∧ zfr yM_g yM_x [] g g' ∧ (n + L.length ≤ 4000 → (∀ j, j < n → ∀ a, a ∈ yM_w → g'.2.1 a j = g.2.1 a j) ∧ ∀ k i, L[k]? = some i → yM_m s g' (n + k) i)
section YUZ
variable {s n v q w ww : Nat} {L : List yI} {M M1 M2 : List yJ} {T : ys} {h h1 h2 h' g g1 g2 g' : zs_H}
theorem yM_UE (E : yM_E s n M g g') : yM_U s n M g g' := ⟨E.1, zfr_w E.2.1 (by decide) (by decide) (by decide), E.2.2⟩
theorem yM_RU (R : yM_R s n v q T w ww g g') (hx : yz_x T n = []) : yM_U s n (yz_c T n v q 0) g g' ∧ (g'.1 68 64) = (g.1 68 64) ∧ (g'.1 68 66) = (g.1 68 66) ∧ (g'.1 68 68) = nI w := by
  obtain ⟨⟨r1, r2, r3⟩, l1, l2, l3, _⟩ := R
  rw [hx] at r3 l3
  refine ⟨⟨r1, r2, fun h4 => ⟨(r3 h4).1, fun k i e => ?_⟩⟩, l1, l2, l3⟩
  obtain ⟨⟨a1, a2, a3, a4⟩, a5⟩ := (r3 h4).2 k i e
  have a6 := a5 List.not_mem_nil
  unfold yM_t at a6
  by_cases z : i.1.1 = 13
  · rw [if_pos z] at a4 a6
    exact ⟨a1, a4, a6, a2, a3⟩
  · rw [if_neg z] at a4 a6
    exact ⟨a1, a6, a4, a2, a3⟩
theorem yM_Uap (A : yM_U s n M1 g g1) (B : yM_U s (n + M1.length) M2 g1 g2) : yM_U s n (M1 ++ M2) g g2 := by
  obtain ⟨a1, a2, a3⟩ := A
  obtain ⟨b1, b2, b3⟩ := B
  have el : n + (M1 ++ M2).length = n + M1.length + M2.length := by rw [List.length_append]; omega
  refine ⟨by rw [el]; exact b1, zfr_trans a2 b2, fun h4 => ?_⟩
  rw [el] at h4
  obtain ⟨c1, c2⟩ := a3 (by omega)
  obtain ⟨d1, d2⟩ := b3 h4
  refine ⟨fun j hj a ha => (d1 j (by omega) a ha).trans (c1 j hj a ha), fun k i e => ?_⟩
  rw [List.getElem?_append] at e
  by_cases z : k < M1.length
  · rw [if_pos z] at e
    have m0 := c2 k i e
    have hd := fun a ha => d1 (n + k) (by omega) a ha
    unfold yM_m at m0 ⊢
    rw [hd _ (by decide), hd _ (by decide), hd _ (by decide), hd _ (by decide), hd _ (by decide)]
    exact m0
  · rw [if_neg z] at e
    have := d2 _ i e
    rw [show n + M1.length + (k - M1.length) = n + k by omega] at this
    exact this
/-- the way to a block's body -/
theorem yu_chain {a sz : Nat} (ha : a < 32784) (hsz : (h.1 12 6) = nI sz) (hs2 : sz ≤ 32784) : ∀ (m N t : Nat) (x : Int32), yg_cn ((h.2.1 18)) a m x → t + m < sz → m < N → f_Cr_codeBlock_L84 N h x (nI t) = f_Cr_codeBlock_124 h (nI a) := by
  intro m
  induction m with
  | zero =>
    intro N t x ⟨e1, e2⟩ ht hN
    obtain ⟨N, rfl⟩ : ∃ z, N = z + 1 := ⟨N - 1, by omega⟩
    subst e1
    show f_Cr_codeBlock_84 (f_Cr_codeBlock_L84 N) h (nI a) (nI t) = _
    unfold f_Cr_codeBlock_84
    simp only [hsz, if_neg (mt (nI_leI (show sz < 2147483648 by omega) (show t < 2147483648 by omega)).mp (by omega)), if_pos (zi_in (show a < 2147483648 by omega) ha), nI_clamp (show a < 2147483648 by omega), e2, if_true]
  | succ m ih =>
    intro N t x ⟨b, hb, e1, e2, e3⟩ ht hN
    obtain ⟨N, rfl⟩ : ∃ z, N = z + 1 := ⟨N - 1, by omega⟩
    subst e1
    show f_Cr_codeBlock_84 (f_Cr_codeBlock_L84 N) h (nI b) (nI t) = _
    unfold f_Cr_codeBlock_84
    simp only [hsz, if_neg (mt (nI_leI (show sz < 2147483648 by omega) (show t < 2147483648 by omega)).mp (by omega)), if_pos (zi_in (show b < 2147483648 by omega) hb), nI_clamp (show b < 2147483648 by omega), if_neg e2, show nI t + 1 = nI (t + 1) from zc_ad 1 t]
    exact ih N (t + 1) _ e3 (by omega) (by omega)
end YUZ
abbrev yx_F : List (Nat × Nat) := [(41, 5), (47, 4), (47, 5), (47, 6), (47, 10), (47, 11)]
/-- a unit has been coded -/
def yx_U (n : Nat) (L : List yI) (h h' : zs_H) : Prop := (h'.1 41 5) = nI (n + L.length) ∧ zfr yx_F yU_M [] h h' ∧ (n + L.length ≤ 4000 → (∀ j, j < n → ∀ a, a ∈ yC_w → h'.2.1 a j = h.2.1 a j) ∧ ∀ k i, L[k]? = some i → yC_m h' (n + k) i)
/-- one code T for a block's body on both sides -/
def yx_B (h0 g0 : zs_H) (b a bn y : Nat) (T : ys) : Prop := (∀ (h : zs_H) (n : Nat), yC_f h0 h → (h.1 41 5) = nI n → (h.1 47 4) = nI y → (h.1 47 5) = (h0.2.1 26) (9 + b) - 156 → n + yz_l T + 600000 ≤ 80000000 → ∃ h', f_Cr_codeBlock_124 h (nI a) = some h' ∧ yC_U n ((yz_c T n 0 0 0).map Prod.fst) h h') ∧ (∀ (g : zs_H) (n s : Nat), yM_f g0 g → yM_c g n s b 0 → (g.1 68 68) = 0 → (g.1 68 66) = 0 → n + yz_l T + 600000 ≤ 80000000 → ∃ g', (if (g.2.1 72) bn = 11 then f_Mo_bodyCode 400 g (nI bn) else f_Mo_ladderCode g (nI bn)) = some g' ∧ yM_U s n (yz_c T n 0 0 0) g g' ∧ (g'.1 68 68) = 0 ∧ (g'.1 68 66) = 0 ∧ (g'.1 68 64) = 0)
section YXB
variable {LC LM : List (List Int32)} {nb b sz a bn : Nat} {F Fb X Y : Nat → Nat} {h0 g0 : zs_H} {P Q : Nat → Prop} {kv : Int32 × Int32} {lb : zt_T} {Qm : Nat → Prop} {up yy : Int32}
theorem yx_b11 (C : yj_cx LC LM nb b sz F Fb X Y h0 g0 P) (A : yb_F Fb b h0 g0 P Q (.inner 11 kv () lb .leaf) (nI a) (nI bn) (-1) (-1)) (M : zt_M LC LM g0 (.inner 11 kv () lb .leaf) Qm up (nI bn) yy) (G0 : yg_G 0 g0 Q (Y b) (.inner 11 kv () lb .leaf) (nI bn)) (ha : a < 32784) (hbn : bn < 33500) (mk : (g0.2.1 72) bn = 11) (hA : zg_A 11 (zg_run 11 0 lb) = true) (ok : zg_ok lb) (hd : zg_d lb ≤ 184) (hcx : zg_cx lb) (hz : zt_sz lb + 1 ≤ sz) (hX : Y b + yg_c 0 lb ≤ X b) (hx : zg_x (.inner 11 kv () lb .leaf) = 0) : ∃ T, yx_B h0 g0 b a bn (Y b) T ∧ yz_st T ∧ (∀ n, yz_x T n = []) ∧ yz_l T ≤ 16 * zt_sz lb ∧ yz_W X Y (yq_k h0) b T (Y b) ∧ yz_v T ≤ 61 ∧ yz_NL h0 b T := by
  obtain ⟨T, ⟨B1, B2⟩, t1, t2, t3, t4, t5, tN⟩ := yj_body C (a := a) (bn := bn) ⟨A, M, G0⟩ ha hbn hA ok hd hz (Nat.le_refl _) hX hx
  obtain ⟨i, k, xl, ⟨_, i2, ix⟩, _, N, _⟩ := A
  have ei : i = a := ((nI_eq (by omega) (by omega)).mp ix).symm
  subst ei
  obtain ⟨n1, _, _⟩ := yj_pl (by decide) N
  refine ⟨T, ⟨fun h n f es ho hp hn => ?_, fun g n s f c w1 w2 hn => ?_⟩, t1, t2, by omega, t4, t5, .inl tN⟩
  · obtain ⟨h', e1, e2⟩ := B1 400 0 n 0 0 h f es ho (by omega) (by omega) (by omega)
    refine ⟨h', ?_, yC_RU e2 (t2 n)⟩
    unfold f_Cr_codeBlock_124
    rw [if_pos (zi_in (by omega) ha), nI_clamp (by omega), f.2.1 13 (by decide), if_pos (show (h0.2.1 13) i = 11 from n1)]
    exact (congrArg (fun z => Option.bind z _) e1).trans rfl
  · obtain ⟨g', e1, e2⟩ := B2 400 n s 0 0 0 0 g f c w1 w2 (by omega) (by have := hcx.1; omega) (by have := hcx.2; omega) (by omega)
    obtain ⟨r1, r2, r3, r4⟩ := yM_RU e2 (t2 n)
    refine ⟨g', ?_, r1, r4, r3.trans w2, r2.trans c.2.2.1⟩
    rw [f.2.1 72 (by decide), if_pos mk]
    exact e1
theorem yx_b22 (C : yj_cx LC LM nb b sz F Fb X Y h0 g0 P) (A : yb_F Fb b h0 g0 P Q (.inner 22 kv () lb .leaf) (nI a) (nI bn) (-1) (-1)) (M : zt_M LC LM g0 (.inner 22 kv () lb .leaf) Qm up (nI bn) yy) (G1 : yg_G 1 g0 Q (Y b) (.inner 22 kv () lb .leaf) (nI bn)) (ha : a < 32784) (hbn : bn < 33500) (mk : (g0.2.1 72) bn = 22) (hA : zg_A 22 (zg_run 22 0 lb) = true) (ok : zg_ok lb) (hz : zt_sz lb + 1 ≤ sz) (hX : X b = Y b + yg_c 1 lb + 156) (hru : zg_ru (.inner 22 kv () lb .leaf)) : ∃ T, yx_B h0 g0 b a bn (Y b) T ∧ yz_st T ∧ (∀ n, yz_x T n = []) ∧ yz_l T ≤ 16 * zt_sz lb ∧ yz_W X Y (yq_k h0) b T (Y b) ∧ yz_v T ≤ 61 ∧ yz_NL h0 b T := by
  have hF := zF_big
  have hln := zv_lnsz lb
  have hs2 := C.2.2.2.2.2
  obtain ⟨⟨x1, x2, x3⟩, x4, x5, _⟩ := C.1.2.2 b C.2.1
  obtain ⟨i, k, xl, ⟨_, i2, ix⟩, ⟨_, k2, kx, _⟩, N, Al, _⟩ := A
  have ei : i = a := ((nI_eq (by omega) (by omega)).mp ix).symm
  have ek : k = bn := ((nI_eq (by omega) (by omega)).mp kx).symm
  subst ei; subst ek
  obtain ⟨n1, n2, _⟩ := yl_pl (by decide) N
  obtain ⟨k', P1, _, _, ex', _, _, _, _, _, _, _, _, Ml, _, _⟩ := zv_hM M
  have ek : k' = k := (nI_eq (by omega) (by omega)).mp ex'.symm
  subst ek
  obtain ⟨b', _, b2, bx, _, G1', _⟩ := G1
  have eb : b' = k' := (nI_eq (by omega) (by omega)).mp bx.symm
  subst eb
  rcases G1' with z | ⟨_, _, _, g4⟩
  · exact absurd z (by decide)
  have g4' : yg_G 1 g0 Q (Y b) lb ((g0.2.1 76) b') := g4
  have ru : zg_ru lb := by
    have := hru.1
    rw [if_neg (by decide), if_pos rfl] at this
    exact this
  obtain ⟨gs, p1, p2, p3⟩ := yu_lad C (pw := X b - 156) (by omega) (by rw [x5, show X b - 156 + 156 = X b by omega]) lb ok (yc_gA hA) ru (Y b) P1 (nI b') xl _ _ Al Ml g4'
  have ec : ∀ n v q, yz_c (yz_i (yu_ll (X b - 156) gs)) n v q 0 = yv v (yu_ll (X b - 156) gs) := fun n v q => List.append_nil _
  have el : yz_l (yz_i (yu_ll (X b - 156) gs)) = (yu_ll (X b - 156) gs).length := rfl
  have hlen : (yu_ll (X b - 156) gs).length ≤ 16 * zt_sz lb := by
    refine (p2 (zs_uF (zs_uF (zs_uF h0 41 5 (nI 0)) 47 4 (nI (Y b))) 47 5 (nI (X b - 156))) 0 0 zF (zfr_F (by decide) (zfr_F (by decide) (zfr_F (by decide) zfr_rfl))) ?_ ?_ ?_ (by omega) (by omega) (by omega)).1
    · rfl
    · rfl
    · rfl
  have hH : ∀ a, a ∈ gs → yu_H (yu_tb h0 b) (yq_k h0 b).2 X Y b (Y b) (X b - 156) a.1.length a.2 (yu_q a.1) := fun a ha => by
    obtain ⟨q1, q2⟩ := p1 a ha
    exact yu_mkH q1 q2 (by omega) (by omega) x2 (by omega)
  refine ⟨yz_i (yu_ll (X b - 156) gs), ⟨fun h n f es ho hp hn => ?_, fun g n s f c w1 w2 hn => ?_⟩, ⟨by decide, trivial⟩, fun _ => rfl, by rw [el]; exact hlen, yu_Wll (Tb := yu_tb h0 b) fun a ha => hH a ha, Nat.zero_le _, .inr fun LD ld => yz_Bi (yu_tll (fun S hS => hS LD) (fun j j1 j2 => (yq_bo C.1 C.2.1 j1 j2).mpr ld) hH (by omega) (by omega))⟩
  · have hpw : (h.1 47 5) = nI (X b - 156) := by rw [hp, x4]; exact zi_sub (b := 156) (by omega)
    obtain ⟨_, h', e1, e2, _, _⟩ := p2 h n 0 zF f es ho hpw (by omega) (by omega) (by omega)
    refine ⟨h', ?_, ?_⟩
    · unfold f_Cr_codeBlock_124
      rw [if_pos (zi_in (by omega) ha), nI_clamp (by omega), f.2.1 13 (by decide), show (h0.2.1 13) i = 22 from n1, if_neg (by decide), f.2.1 17 (by decide), n2]
      exact e1
    · rw [ec, yv_m]; exact e2
  · obtain ⟨g', e1, e2⟩ := p3 g n s 0 zF f c (by rw [el] at hn; omega) (by omega)
    refine ⟨g', ?_, by rw [ec]; exact yM_UE e2, (e2.2.1.1 _ _ (by decide)).trans w1, (e2.2.1.1 _ _ (by decide)).trans w2, (e2.2.1.1 _ _ (by decide)).trans c.2.2.1⟩
    rw [f.2.1 72 (by decide), mk, if_neg (by decide)]
    unfold f_Mo_ladderCode
    rw [if_pos (zi_in (by omega) hbn), nI_clamp (by omega), f.2.1 76 (by decide)]
    exact e1
end YXB
end
section
/-! The coder: a block, on both sides. -/
section YXC
variable {LC LM : List (List Int32)} {nb b e sz : Nat} {F X Y : Nat → Nat} {h0 g0 : zs_H} {P Q : Nat → Prop}
theorem yu_vW {kb : Nat → yK} {lo a : Nat} (nq : ∀ j, ¬ (kb b).2 j) (H : ∀ v, a ≤ v → v < e → ∃ x, (h0.2.1 32) (32 + v) = nI x ∧ x < Y b) : ∀ (m v : Nat), a ≤ v → v + m = e → yo_h 0 (yu_vs h0 m v) = some 0 ∧ ∀ i, i ∈ yu_vs h0 m v → yw_i X Y kb b lo i := by
  intro m
  induction m with
  | zero => intro v _ _; exact ⟨rfl, fun i hi => by cases hi⟩
  | succ m ih =>
    intro v ha hv
    obtain ⟨i1, i2⟩ := ih (v + 1) (by omega) (by omega)
    rw [yu_vs]
    split
    · refine ⟨?_, fun i hi => ?_⟩
      · rw [yo_1 (e := 0) rfl]; exact i1
      · rcases List.mem_append.mp hi with z | z
        · rcases List.mem_append.mp z with z | z
          · rw [List.mem_singleton.mp z]; exact .inl (.inl rfl)
          · rw [List.mem_singleton.mp z]
            obtain ⟨x, e1, e2⟩ := H v ha (by omega)
            exact .inr (.inl ⟨rfl, x, e1, .inl ⟨e2, nq _⟩⟩)
        · exact i2 i z
    · rw [List.nil_append]; exact ⟨i1, i2⟩
/-- the beginning of a FUNCTION -/
theorem yu_vsN {Bc : Nat → Nat → Prop} {a : Nat} (H : ∀ v, a ≤ v → v < e → ∀ x : Nat, (h0.2.1 32) (32 + v) = nI x → x < 100000 → Bc b x → (h0.2.1 35) (32 + v) = 0 ∨ (h0.2.1 35) (32 + v) = 1) (hc : ∀ v, a ≤ v → v < e → ∃ x : Nat, (h0.2.1 32) (32 + v) = nI x ∧ x < 100000) : ∀ (m v : Nat), a ≤ v → v + m = e → yo_N Bc b (yu_vs h0 m v) := by
  intro m
  induction m with
  | zero => intro v _ _ K st A; exact A
  | succ m ih =>
    intro v ha hv K st A
    have i1 := ih (v + 1) (by omega) (by omega) K st A
    rw [yu_vs]
    split
    · rw [yo_Wap]
      obtain ⟨x, e1, e2⟩ := hc v ha (by omega)
      show (Bc b ((h0.2.1 32) (32 + v)).toNatClampNeg → _) ∧ yo_W Bc b (yu_vs h0 m (v + 1)) K st
      rw [e1, nI_clamp (by omega)]
      exact ⟨fun z => H v ha (by omega) x e1 e2 z, i1⟩
    · rw [List.nil_append]; exact i1
theorem zc_m2 {t : Nat} (ht : t < 2147483646) : ¬ nI t = -2 := fun z => by
  have h : nI t + 1 = -1 := by rw [z]; rfl
  rw [show nI t + 1 = nI (t + 1) from zc_ad 1 t] at h
  exact zc_m1 (by omega) h
/-- what is known of the variables of a block -/
def yx_v (F : Nat → Nat) (b : Nat) (h0 : zs_H) : Prop := ∀ v, F b ≤ v → v < F (b + 1) → ((h0.2.1 29) (32 + v) = 3 ↔ (h0.2.1 21) (9 + b) = 1 ∧ v = F b) ∧ ((h0.2.1 21) (9 + b) = 1 → (h0.2.1 30) (32 + v) = -1 ∨ (h0.2.1 30) (32 + v) = -2)
theorem yx_fun (C : yk_cx LC LM nb F X Y h0 g0) (hb : b < nb) (k1 : (h0.2.1 21) (9 + b) = 1) (S3 : yx_v F b h0) (kb : Nat → yK) (nq : ∀ j, ¬ (kb b).2 j) (lo : Nat) : ∃ L : List yI, L.length ≤ 12000 ∧ (yo_h 0 L = some 0 ∧ (∀ i, i ∈ L → yw_i X Y kb b lo i) ∧ ∀ LD : Nat → Prop, yo_N (yq_b LD h0) b L) ∧ (∀ (h : zs_H) (n : Nat), yC_f h0 h → (h.1 47 3) = nI (9 + b) → (h.1 41 5) = nI n → n + 12000 < 90000000 → ∃ h', f_Cr_beginFunction h = some h' ∧ yC_E n L h h') ∧ (∀ (g : zs_H) (n s lv : Nat), yM_f g0 g → yM_c g n s b lv → n + 12000 < 90000000 → ∃ g', f_Mo_beginFunction g (nI b) = some g' ∧ yM_E s n (yv lv L) g g') := by
  have hz := zF_big
  have C0 := C
  obtain ⟨I, _, CC⟩ := C
  obtain ⟨⟨x1, x2, x3⟩, x4, x5, x6, x7⟩ := CC b hb
  have HB := I.2.1
  have hn := HB.1.2.2
  have hF := HB.2.1.2.2
  have hFb := (HB.2.2.2.1 b hb).2
  obtain ⟨f1, f2, f3⟩ := HB.2.2.2.2.2.1 b hb
  have hlt := (I.2.2.2.2.1.2.2.2 b hb k1).1
  have V : ∀ v, F b ≤ v → v < F (b + 1) → (∃ x, (h0.2.1 32) (32 + v) = nI x ∧ x < Y b) ∧ (g0.2.1 99) v = (h0.2.1 35) (32 + v) ∧ (g0.2.1 94) v = (h0.2.1 32) (32 + v) := by
    intro v v1 v2
    obtain ⟨ty, x, s, y, _, ⟨q1, q2⟩, _, q4, ⟨q5, q6, q7⟩, _, q8, q9, q10⟩ := I.2.2.2.1.2.1 b v hb v1 v2 (by omega)
    refine ⟨⟨x, q1, ?_⟩, q8, q2.trans q1.symm⟩
    have ey : y = Y b := (nI_eq (by omega) (by omega)).mp (q4.symm.trans x6)
    have hs : 1 ≤ s := by
      rcases q9 with ⟨_, _, _, e⟩ | ⟨_, _, _, e, _⟩ | ⟨B, B1, B2, _⟩
      · omega
      · exact e
      · rcases (S3 v v1 v2).2 k1 with z | z
        · exact absurd (B2.symm.trans z) (zc_m1 (by omega))
        · exact absurd (B2.symm.trans z) (zc_m2 (by omega))
    rcases q10 with ⟨_, z, _⟩ | ⟨p, _, _, z, _⟩
    · omega
    · rw [k1] at z; exact absurd z (by decide)
  obtain ⟨m, hm⟩ : ∃ m, F (b + 1) = F b + 1 + m := ⟨F (b + 1) - (F b + 1), by omega⟩
  have sec : ∀ v, F b + 1 ≤ v → v < F (b + 1) → ((g0.2.1 95) v = 0 ↔ (h0.2.1 29) (32 + v) = 0) ∧ (g0.2.1 99) v = (h0.2.1 35) (32 + v) ∧ (g0.2.1 94) v = (h0.2.1 32) (32 + v) := by
    intro v v1 v2
    refine ⟨?_, (V v (by omega) v2).2⟩
    obtain ⟨s, s1, s2, s3⟩ := I.2.2.2.1.1 v (by omega)
    have n3 : ¬ s = 3 := fun z => by
      have := ((S3 v (by omega) v2).1.mp (by rw [s2, z]; rfl)).2
      omega
    rw [s3, s2, if_neg n3]
  have lv := yu_vl (h0 := h0) m (F b + 1)
  have W := yu_vW (h0 := h0) (X := X) (Y := Y) (b := b) (kb := kb) (lo := lo) (a := F b + 1) (e := F (b + 1)) nq (fun v v1 v2 => (V v (by omega) v2).1) m (F b + 1) (Nat.le_refl _) hm.symm
  have Y1 : 0 < Y b := by
    obtain ⟨x, _, h2⟩ := (V (F b) (Nat.le_refl _) hlt).1
    omega
  refine ⟨yu_pre h0 m (F b + 1), ?_, ⟨?_, fun i hi => ?_, fun LD K st A => ?_⟩, fun h n f hbk es hn => ?_, fun g n s lv f c hn => ?_⟩
  · show ((yu_vs h0 m (F b + 1)).length + 1) + 1 ≤ _
    omega
  · unfold yu_pre
    rw [yo_1 (e := 0) rfl]; exact W.1
  · rcases List.mem_append.mp hi with z | z
    · rcases List.mem_append.mp z with z | z
      · rw [List.mem_singleton.mp z]; exact .inl (.inl rfl)
      · rw [List.mem_singleton.mp z]
        exact .inr (.inl ⟨rfl, 0, rfl, .inl ⟨Y1, nq _⟩⟩)
    · exact W.2 i z
  · have N := yu_vsN (h0 := h0) (Bc := yq_b LD h0) (b := b) (a := F b + 1) (e := F (b + 1)) ?_ (fun v v1 v2 => by
      obtain ⟨x, q1, q2⟩ := (V v (by omega) v2).1
      exact ⟨x, q1, by omega⟩) m (F b + 1) (Nat.le_refl _) hm.symm K st A
    · unfold yu_pre
      rw [yo_Wap]
      show (yq_b LD h0 b (0 : Int32).toNatClampNeg → _) ∧ yo_W (yq_b LD h0) b (yu_vs h0 m (F b + 1)) K st
      exact ⟨fun _ => .inl rfl, N⟩
    intro v v1 v2 x e1 hx z
    obtain ⟨ty, x', s', y', ⟨t1, t2⟩, ⟨r1, _⟩, ⟨r2, _⟩, q4, ⟨r3, r4, _, r5, _⟩, _, _, q9, _⟩ := I.2.2.2.1.2.1 b v hb (by omega) v2 (by omega)
    have ex : x' = x := (nI_eq (by omega) (by omega)).mp (r1.symm.trans e1)
    have hs : 1 ≤ s' := by
      rcases q9 with ⟨_, _, _, e⟩ | ⟨_, _, _, e, _⟩ | ⟨B, B1, B2, _⟩
      · omega
      · exact e
      · rcases (S3 v (by omega) v2).2 k1 with z | z
        · exact absurd (B2.symm.trans z) (zc_m1 (by omega))
        · exact absurd (B2.symm.trans z) (zc_m2 (by omega))
    have t0 := yq_bc (LD := LD) (j := 0) C0 hb ⟨by omega, v2⟩ ((S3 v (by omega) v2).2 k1) e1 hx r2 (by omega) (by omega) z
    exact r5 ((zc_eq (k := 0) (by decide) (by omega)).mp (t2.symm.trans t0))
  · obtain ⟨h1, a1, a2⟩ := yC_emit es (by omega) 0 (by decide) 0
    have ff1 : yC_f h0 h1 := zfr_trans f (zfr_w a2.2.1 (by decide) (by decide) (by decide))
    obtain ⟨h2, b1, b2⟩ := yC_emit a2.1 (show n + 1 < 100000000 by omega) 2 (by decide) 0
    have ff2 : yC_f h0 h2 := zfr_trans ff1 (zfr_w b2.2.1 (by decide) (by decide) (by decide))
    have bk2 : (h2.1 47 3) = nI (9 + b) := (b2.2.1.1 _ _ (by decide)).trans ((a2.2.1.1 _ _ (by decide)).trans hbk)
    obtain ⟨h3, c1, c2⟩ := yu_bfC (b := b) (by omega) f3 (by omega) (m + 1) (F b) zF (n + 1 + 1) h2 (by omega) ff2 bk2 b2.1 (by omega) (by omega)
    rw [yu_vs, if_neg (by rw [(S3 (F b) (Nat.le_refl _) hlt).1.mpr ⟨k1, rfl⟩]; decide), List.nil_append] at c2
    refine ⟨h3, ?_, yC_ap (yC_ap a2 b2) c2⟩
    unfold f_Cr_beginFunction
    refine (congrArg (fun z => zd_B z _) a1).trans ?_
    show zd_B (f_Cd_emit h1 2 0) (fun _ h6 => if zd_in ((h6.1 47 3)) 629 then f_Cr_beginFunction_L33 zF h6 ((h6.2.1 23) ((h6.1 47 3)).toNatClampNeg) else none) = _
    refine (congrArg (fun z => zd_B z _) b1).trans ?_
    show (if zd_in ((h2.1 47 3)) 629 then f_Cr_beginFunction_L33 zF h2 ((h2.2.1 23) ((h2.1 47 3)).toNatClampNeg) else none) = _
    rw [bk2, if_pos (zi_in (by omega) (by omega)), nI_clamp (by omega), ff2.2.1 23 (by decide), f1]
    exact c1
  · obtain ⟨g1, a1, a2⟩ := yM_e c (show n < 100000000 by omega) 0 0 0 0 (by decide)
    have ff1 : yM_f g0 g1 := zfr_trans f (zfr_w a2.2.1 (by decide) (by decide) (by decide))
    have c1 := yM_cL c a2
    obtain ⟨g2, b1, b2⟩ := yM_e c1 (show n + 1 < 100000000 by omega) 2 0 0 0 (by decide)
    have ff2 : yM_f g0 g2 := zfr_trans ff1 (zfr_w b2.2.1 (by decide) (by decide) (by decide))
    have c2 := yM_cL c1 b2
    obtain ⟨g3, d1, d2⟩ := yu_bfM (h0 := h0) (a := F b + 1) (fun g f => yu_end HB hb f) (by omega) sec m (F b + 1) zF (n + 1 + 1) s lv g2 hm.symm (Nat.le_refl _) ff2 c2 (by omega) (by omega)
    refine ⟨g3, ?_, ?_⟩
    · unfold f_Mo_beginFunction
      refine (congrArg (fun z => zd_B z _) a1).trans ?_
      show zd_B (f_Mo_emit g1 2 0 0 0) (fun _ h6 => if zd_in (nI b) 2101 then f_Mo_beginFunction_L27 zF h6 (nI b) ((h6.2.1 90) (nI b).toNatClampNeg + 1) else none) = _
      refine (congrArg (fun z => zd_B z _) b1).trans ?_
      show (if zd_in (nI b) 2101 then f_Mo_beginFunction_L27 zF g2 (nI b) ((g2.2.1 90) (nI b).toNatClampNeg + 1) else none) = _
      rw [if_pos (zi_in (by omega) (by omega)), nI_clamp (by omega), ff2.2.1 90 (by decide), f2, show nI (F b) + 1 = nI (F b + 1) from zc_ad 1 (F b)]
      exact d1
    · have := yM_ap (yM_ap a2 b2) d2
      unfold yu_pre
      rw [yv_ap, yv_ap]
      exact this
/-- a unit's code -/
def yx_C (h0 : zs_H) (b : Nat) (T : ys) : Prop := ∀ (h : zs_H) (n : Nat), yC_f h0 h → (h.1 47 3) = nI (9 + b) → (h.1 41 5) = nI n → n + yz_l T + 700000 ≤ 80000000 → ∃ h', f_Cr_codeBlock h = some h' ∧ yx_U n ((yz_c T n 0 0 0).map Prod.fst) h h'
def yx_M (g0 : zs_H) (b : Nat) (T : ys) : Prop := ∀ (g : zs_H) (n : Nat), yM_f g0 g → yM_c g n n b 0 → (g.1 68 68) = 0 → (g.1 68 66) = 0 → n + yz_l T + 700000 ≤ 80000000 → ∃ g', (∀ K : zs_H → Int32 → Option (Int32 × zs_H), (if (g.2.1 86) b = 1 then ((f_Mo_beginFunction g (nI b)).bind fun h8 => f_Mo_generate_66 K h8 (nI b)) else f_Mo_generate_66 K g (nI b)) = K g' (nI (b + 1))) ∧ yM_U n n (yz_c T n 0 0 0) g g' ∧ (g'.1 68 68) = 0 ∧ (g'.1 68 66) = 0
/-- all that is known of a unit's code -/
def yx_T (X Y : Nat → Nat) (h0 : zs_H) (b : Nat) (T : ys) : Prop := yz_st T ∧ (∀ n, yz_x T n = []) ∧ yz_l T ≤ 600000 ∧ yz_W X Y (yq_k h0) b T (Y b) ∧ yz_v T ≤ 61 ∧ yz_NL h0 b T
theorem yx_unit (C : yk_cx LC LM nb F X Y h0 g0) (hb : b < nb) (hn16 : nb ≤ 16) (hP : ∀ j, P j → j < 32784) (hsz : (h0.1 12 6) = nI sz) (hs2 : sz ≤ 32784) (K : yg_K LC LM F sz b P Q h0 g0) : ∃ T, yx_C h0 b T ∧ yx_M g0 b T ∧ yx_T X Y h0 b T := by
  have hz := zF_big
  obtain ⟨Fb, i, k, c, kv, lb, a, bn, y, m, FbF, ⟨i1, i2, i3, i4⟩, ⟨l1, l2, l3, Qm, _, M⟩, ⟨hc, hA, ok, hd, hcx, hx, hru⟩, ⟨a1, ⟨a2, a2'⟩, a3⟩, A, ⟨⟨y1, y1'⟩, y2, y3⟩, G0, G1, S3, _⟩ := K
  have C' : yj_cx LC LM nb b sz F Fb X Y h0 g0 P := ⟨C, hb, FbF, hP, hsz, hs2⟩
  obtain ⟨⟨x1, x2, x3⟩, x4, x5, x6, x7⟩ := C.2.2 b hb
  have ey : y = Y b := (nI_eq (by omega) (by omega)).mp (y2.symm.trans x6)
  subst ey
  have hbd := yg_body (kv := kv) (o := ()) hc hA ok
  have hsl : zt_sz (.inner c kv () lb .leaf) = 1 + zt_sz lb + 0 := rfl
  have eX : X b = Y b + yc_o (.inner c kv () lb .leaf) := (nI_eq (by omega) (by omega)).mp (x4.symm.trans y3)
  have body : ∃ T, yx_B h0 g0 b a bn (Y b) T ∧ yz_st T ∧ (∀ n, yz_x T n = []) ∧ yz_l T ≤ 16 * zt_sz lb ∧ yz_W X Y (yq_k h0) b T (Y b) ∧ yz_v T ≤ 61 ∧ yz_NL h0 b T := by
    rcases hc with e | e <;> subst e
    · have e0 : yg_c 0 (.inner 11 kv () lb .leaf) = yg_c 0 lb := by show 0 + yg_c 0 lb + 0 = _; omega
      exact yx_b11 C' A M G0 a1 l2 l3 hA ok hd hcx a2' (by rw [eX, hbd.1, e0]; omega) hx
    · have e0 : yg_c 0 (.inner 22 kv () lb .leaf) = 0 := by
        have : yg_c 0 (.inner 22 kv () lb .leaf) = 0 + yg_c 0 lb + 0 := rfl
        rw [this, yu_ld0 lb ok (yu_gld (by decide) (yc_gA hA))]
      have e1 : yg_c 1 (.inner 22 kv () lb .leaf) = yg_c 1 lb := by show 0 + yg_c 1 lb + 0 = _; omega
      rw [e0, Nat.add_zero] at G1
      have hX : X b = Y b + yg_c 1 lb + 156 := by rw [eX, hbd.1, e0, e1, if_pos rfl]; omega
      exact yx_b22 C' A M G1 a1 l2 l3 hA ok a2' hX hru
  obtain ⟨T0, ⟨BC, BM⟩, t1, t2, t3, t4, t5⟩ := body
  have h61 : ∀ h : zs_H, yC_f h0 h → (h.1 47 3) = nI (9 + b) → f_Cr_codeBlock_61 h = f_Cr_codeBlock_124 h (nI a) := by
    intro h f hbk
    unfold f_Cr_codeBlock_61
    rw [hbk, if_pos (zi_in (by omega) (by omega)), nI_clamp (by omega), f.2.1 22 (by decide), i3, if_pos (zi_in (by omega) i1), nI_clamp (by omega), f.2.1 17 (by decide)]
    exact yu_chain a1 ((f.1 _ _ (by decide)).trans hsz) hs2 m zF 0 _ (by rw [f.2.1 18 (by decide)]; exact a3) (by omega) (by omega)
  have m66 : ∀ (K : zs_H → Int32 → Option (Int32 × zs_H)) (g g' : zs_H), yM_f g0 g → (if (g.2.1 72) bn = 11 then f_Mo_bodyCode 400 g (nI bn) else f_Mo_ladderCode g (nI bn)) = some g' → f_Mo_generate_66 K g (nI b) = K g' (nI (b + 1)) := by
    intro K g g' f hg
    unfold f_Mo_generate_66 f_Mo_generate_102
    simp only [if_pos (zi_in (show b < 2147483648 by omega) (show b < 2100 by omega)), nI_clamp (show b < 2147483648 by omega), f.2.1 84 (by decide), i4, if_pos (zi_in (show k < 2147483648 by omega) i2), nI_clamp (show k < 2147483648 by omega), f.2.1 77 (by decide), l1, if_pos (zi_in (show bn < 2147483648 by omega) l2), nI_clamp (show bn < 2147483648 by omega), show nI b + 1 = nI (b + 1) from zc_ad 1 b]
    by_cases z : (g.2.1 72) bn = 11
    · rw [if_pos z] at hg ⊢; rw [hg]; rfl
    · rw [if_neg z] at hg ⊢; rw [hg]; rfl
  obtain ⟨kd, kd1, kd2, kd3, _⟩ := C.1.2.1.2.2.2.2.1 b hb
  have pre : ∀ h : zs_H, yC_f h0 h → (h.1 47 3) = nI (9 + b) → ∃ h3, h3 = zs_uF (zs_uF (zs_uF h 47 4 (nI (Y b))) 47 5 ((h0.2.1 26) (9 + b) - 156)) 47 6 (-1) ∧ f_Cr_codeBlock h = (if (h0.2.1 21) (9 + b) = 1 then ((f_Cr_beginFunction h3).bind fun h4 => f_Cr_codeBlock_61 h4) else f_Cr_codeBlock_61 h3) := by
    intro h f hbk
    refine ⟨_, rfl, ?_⟩
    unfold f_Cr_codeBlock
    simp only [hbk, if_pos (zi_in (show 9 + b < 2147483648 by omega) (show 9 + b < 629 by omega)), nI_clamp (show 9 + b < 2147483648 by omega), f.2.1 21 (by decide), f.2.1 25 (by decide), f.2.1 26 (by decide), x6]
  have toU : ∀ (h h3 h' : zs_H) (n : Nat) (L : List yI), h3 = zs_uF (zs_uF (zs_uF h 47 4 (nI (Y b))) 47 5 ((h0.2.1 26) (9 + b) - 156)) 47 6 (-1) → yC_U n L h3 h' → yx_U n L h h' := by
    intro h h3 h' n L e U
    have f3 : zfr yx_F yU_M [] h h3 := by rw [e]; exact zfr_F (by decide) (zfr_F (by decide) (zfr_F (by decide) zfr_rfl))
    have e2 : h3.2.1 = h.2.1 := by rw [e]; rfl
    refine ⟨U.1, zfr_trans f3 (zfr_w U.2.1 (by decide) (by decide) (by decide)), fun h4 => ⟨fun j hj a ha => ?_, (U.2.2 h4).2⟩⟩
    rw [(U.2.2 h4).1 j hj a ha, e2]
  by_cases k1 : (h0.2.1 21) (9 + b) = 1
  · obtain ⟨L, L1, ⟨L2, L3, LN⟩, L4, L5⟩ := yx_fun C hb k1 (fun v v1 v2 => ⟨(S3 v v1 v2).1, (S3 v v1 v2).2.1⟩) (yq_k h0) (fun j => yq_fn C hb (fun v v1 v2 => (S3 v v1 v2).2.1 k1)) (Y b)
    have sL : yz_st (yz_i L) := ⟨by decide, trivial⟩
    have lL : yz_l (yz_i L) = L.length := rfl
    have cL : ∀ n, yz_c (yz_i L) n 0 0 0 = yv 0 L := fun n => List.append_nil _
    have eT : yz_l (yz_ap (yz_i L) T0) = L.length + yz_l T0 := by rw [yz_apl _ _ sL, lL]
    have cT : ∀ n, yz_c (yz_ap (yz_i L) T0) n 0 0 0 = yv 0 L ++ yz_c T0 (n + L.length) 0 0 0 := fun n => by rw [yz_apc _ _ _ _ _ _ sL, cL, lL]
    refine ⟨yz_ap (yz_i L) T0, fun h n f hbk es hn => ?_, fun g n f c w1 w2 hn => ?_, yz_stap _ _ sL t1, fun n => ?_, by rw [eT]; omega, yz_Wap _ _ _ (yz_Wi L2 L3) t4, ?_, t5.2.imp (fun q LD nl => yz_Bap _ _ (yz_Bi (LN LD)) (q LD nl)) (fun q LD ld => yz_Bap _ _ (yz_Bi (LN LD)) (q LD ld))⟩
    · rw [eT] at hn
      obtain ⟨h3, e3, p1⟩ := pre h f hbk
      have f3 : yC_f h0 h3 := by rw [e3]; exact zfr_F (by decide) (zfr_F (by decide) (zfr_F (by decide) f))
      have bk3 : (h3.1 47 3) = nI (9 + b) := by rw [e3]; exact hbk
      obtain ⟨h4, q1, q2⟩ := L4 h3 n f3 bk3 (by rw [e3]; exact es) (by omega)
      have f4 : yC_f h0 h4 := zfr_trans f3 (zfr_w q2.2.1 (by decide) (by decide) (by decide))
      have bk4 : (h4.1 47 3) = nI (9 + b) := (q2.2.1.1 _ _ (by decide)).trans bk3
      obtain ⟨h5, r1, r2⟩ := BC h4 (n + L.length) f4 q2.1 ((q2.2.1.1 _ _ (by decide)).trans (by rw [e3]; rfl)) ((q2.2.1.1 _ _ (by decide)).trans (by rw [e3]; rfl)) (by omega)
      refine ⟨h5, ?_, toU h h3 h5 n _ e3 ?_⟩
      · rw [p1, if_pos k1, q1, Option.bind_some, h61 h4 f4 bk4, r1]
      · rw [cT, List.map_append, yv_m]
        exact yC_Uap (yC_UE q2) r2
    · rw [eT] at hn
      obtain ⟨g1, q1, q2⟩ := L5 g n n 0 f c (by omega)
      have f1 : yM_f g0 g1 := zfr_trans f (zfr_w q2.2.1 (by decide) (by decide) (by decide))
      obtain ⟨g2, r1, r2, r3, r4, _⟩ := BM g1 (n + L.length) n f1 (yM_cL c q2) ((q2.2.1.1 _ _ (by decide)).trans w1) ((q2.2.1.1 _ _ (by decide)).trans w2) (by omega)
      refine ⟨g2, fun K => ?_, ?_, r3, r4⟩
      · rw [f.2.1 86 (by decide), kd3, ← kd2, if_pos k1, q1, Option.bind_some]
        exact m66 K g1 g2 f1 r1
      · rw [cT]
        refine yM_Uap (yM_UE q2) ?_
        rw [yv_len]
        exact r2
    · rw [yz_apx _ _ _ sL, t2]; rfl
    · rw [yz_vap]; exact Nat.max_le.mpr ⟨Nat.zero_le _, t5.1⟩
  · refine ⟨T0, fun h n f hbk es hn => ?_, fun g n f c w1 w2 hn => ?_, t1, t2, by omega, t4, t5⟩
    · obtain ⟨h3, e3, p1⟩ := pre h f hbk
      have f3 : yC_f h0 h3 := by rw [e3]; exact zfr_F (by decide) (zfr_F (by decide) (zfr_F (by decide) f))
      have bk3 : (h3.1 47 3) = nI (9 + b) := by rw [e3]; exact hbk
      obtain ⟨h5, r1, r2⟩ := BC h3 n f3 (by rw [e3]; exact es) (by rw [e3]; rfl) (by rw [e3]; rfl) (by omega)
      exact ⟨h5, by rw [p1, if_neg k1, h61 h3 f3 bk3, r1], toU h h3 h5 n _ e3 r2⟩
    · obtain ⟨g2, r1, r2, r3, r4, _⟩ := BM g n n f c w1 w2 (by omega)
      refine ⟨g2, fun K => ?_, r2, r3, r4⟩
      rw [f.2.1 86 (by decide), kd3, ← kd2, if_neg k1]
      exact m66 K g g2 f r1
end YXC
end
