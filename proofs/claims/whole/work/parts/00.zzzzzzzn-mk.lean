/-! The coder: the cells of a row out of the tree. -/
section YUO
variable {LC LM : List (List Int32)} {nb b sz : Nat} {F Fb X Y : Nat → Nat} {h0 g0 : zs_H} {P Q : Nat → Prop}
theorem yj_g1 : ∀ t : zt_T, zg_ok t → yb_top t → yg_c 1 t = 0 := by
  intro t
  induction t with
  | leaf => intro _ _; rfl
  | inner kd kv o l r _ ihr =>
    intro ⟨⟨hA, _⟩, okl, okr⟩ ⟨hE, tr⟩
    show (if 30 ≤ zt_km kd then 0 else yg_w 1 kd kv.2 + yg_c 1 l) + yg_c 1 r = 0
    rw [ihr okr tr]
    have key : ∀ z ∈ yb_E, z = 6 ∨ 30 ≤ zt_km z := by decide
    rcases key kd hE with e | e
    · subst e
      rw [zv_nolf (kd := 6) (by decide +kernel) hA]
      rfl
    · rw [if_pos e]
/-- bounds of a cell -/
def yu_tb (h0 : zs_H) (b S : Nat) : Prop := ∀ LD : Nat → Prop, yq_b LD h0 b S
def yu_B (Tb Qb : Nat → Prop) (Yb lo hi : Nat) (t : yT) : Prop := (t.1 = 25 ∨ t.1 = 28 → t.2.2.1 < Yb ∧ (t.1 = 28 → ¬ Qb t.2.2.1)) ∧ (t.1 = 25 → 2 ≤ t.2.1 → lo ≤ t.2.2.2.1 ∧ t.2.2.2.1 < hi) ∧ t.2.1 < 4 ∧ (t.1 = 25 → Tb t.2.2.1)
theorem yu_mkR (C : yj_cx LC LM nb b sz F Fb X Y h0 g0 P) : ∀ (l : zt_T), yl_top l → zg_ok l → ∀ (ow : Nat) (Qm : Nat → Prop) (up x x' y : Int32), yb_F Fb b h0 g0 P Q l x x' (-1) (-1) → zt_M LC LM g0 l Qm up x' y → yg_G 1 g0 Q ow l x' → ∃ cs, yu_R h0 g0 l x x' ow cs ∧ yu_ec cs = yg_c 1 l ∧ (∀ t, t ∈ cs → yu_B (yu_tb h0 b) (yq_k h0 b).2 (Y b) ow (ow + yg_c 1 l) t) ∧ (zg_cl l → ∀ j t, cs[j]? = some t → t.1 = 28 → j + 1 = cs.length) := by
  intro l
  induction l with
  | leaf => intro _ _ ow Qm up x x' y A _ _; exact ⟨[], ⟨A.1, A.2, rfl⟩, rfl, fun t ht => (by cases ht), fun _ j t e => (by cases e)⟩
  | inner kd kv o lc r _ ihr =>
    intro ⟨ht, tr⟩ ⟨⟨hA, hv⟩, okl, okr⟩ ow Qm up x x' y ⟨i, k, xl, ⟨_, i2, ix⟩, ⟨_, k2, kx, km⟩, N, Al, Ar⟩ M ⟨b', _, b2, bx, _, G1, G2⟩
    obtain ⟨k', P1, P2, z2, ex', _, _, _, _, nv, _, _, _, _, Mr, _⟩ := zv_hM M
    have ek : k' = k := (nI_eq (by omega) (by omega)).mp (ex'.symm.trans kx)
    subst ek
    have eb : b' = k' := (nI_eq (by omega) (by omega)).mp (bx.symm.trans kx)
    subst eb
    have kd100 : kd < 100 := by omega
    have ekm : zt_km kd = kd := by unfold zt_km; rw [if_neg (by omega), if_neg (by omega)]
    have enk : zt_nk kd = false := by rcases ht with e | e | e | e | e <;> subst e <;> rfl
    rw [enk, if_neg (by decide)] at nv
    rw [ekm] at km
    have h30 : ¬ 30 ≤ zt_km kd := by omega
    rcases G1 with z | ⟨_, _, g3, _⟩
    · exact absurd z h30
    rw [if_neg h30] at G2
    obtain ⟨n1, n2, n3⟩ := yl_pl (show kd ∈ [22, 23, 24, 25, 26, 27, 28, 29] by rcases ht with e | e | e | e | e <;> subst e <;> decide) N
    have ec : yg_c 1 (.inner kd kv o lc r) = (yg_w 1 kd kv.2 + yg_c 1 lc) + yg_c 1 r := by
      show (if 30 ≤ zt_km kd then 0 else yg_w 1 kd kv.2 + yg_c 1 lc) + yg_c 1 r = _
      rw [if_neg h30]
    -- the value, what is seen
    have D : ∃ v S, v < 4 ∧ (kd = 25 ∨ kd = 28 → kv.2 = nI v ∧ S < Y b ∧ (∃ a, (h0.2.1 17) i = nI a ∧ a < 32784 ∧ (kd = 28 → ∃ w, (h0.2.1 16) a = nI w ∧ w < 6000 ∧ (h0.2.1 32) w = nI S ∧ ¬ (yq_k h0 b).2 S)) ∧ f_Cr_cellOf h0 ((h0.2.1 17) i) = some (nI S) ∧ ∃ a, (g0.2.1 76) b' = nI a ∧ a < 33500 ∧ (g0.2.1 101) a = nI S) ∧ yg_c 1 lc = 0 ∧ (kd = 25 → yu_tb h0 b S) := by
      have vv : zg_b kd = 4 → ∃ v, v < 4 ∧ kv.2 = nI v := by
        intro e
        rcases hv with z | ⟨v, v1, v2, _⟩
        · rw [e] at z; exact absurd z (by decide)
        · exact ⟨v, by rw [e] at v1; exact v1, v2⟩
      rcases ht with e | e | e | e | e <;> subst e
      · obtain ⟨v, v1, v2⟩ := vv rfl
        obtain ⟨c, kvc, oc, lcc, el, hc⟩ := yl_g1 (kd := 25) (cs := [6, 33]) (by decide +kernel) rfl hA
        subst el
        have hc' : c = 6 ∨ c = 33 := by simp only [List.mem_cons, List.not_mem_nil, or_false] at hc; exact hc
        obtain ⟨a, ka, S, ⟨s1, s2⟩, ⟨s3, s4⟩, s5, s6, s7, _, s9⟩ := yu_see C hc' okl Al
        obtain ⟨a', q1, q2, q3⟩ := (yj_sy (.inr rfl) N).2 rfl
        have ea' : a' = a := (nI_eq (by have := C.2.2.2.1 _ q2; omega) (by omega)).mp (q1.symm.trans s1)
        rw [ea'] at q3
        exact ⟨v, S, v1, fun _ => ⟨v2, s7, ⟨a, n2.trans s1, s2, fun z => absurd z (by decide)⟩, by rw [n2]; exact s5, ka, s3, s4, s6⟩, yj_g1 _ okl ⟨by rcases hc' with e | e <;> subst e <;> decide, trivial⟩, fun _ => s9 q3⟩
      · exact ⟨0, 0, by decide, fun z => absurd z (by decide), by rw [zv_nolf (kd := 26) (by decide +kernel) hA]; rfl, fun z => absurd z (by decide)⟩
      · exact ⟨0, 0, by decide, fun z => absurd z (by decide), by rw [zv_nolf (kd := 27) (by decide +kernel) hA]; rfl, fun z => absurd z (by decide)⟩
      · obtain ⟨v, v1, v2⟩ := vv rfl
        obtain ⟨c, kvc, oc, lcc, el, hc⟩ := yl_g1 (kd := 28) (cs := [6]) (by decide +kernel) rfl hA
        subst el
        have hc' : c = 6 := List.mem_singleton.mp hc
        subst hc'
        obtain ⟨a, ka, S, ⟨s1, s2⟩, ⟨s3, s4⟩, s5, s6, s7, s8, _⟩ := yu_see C (.inl rfl) okl Al
        exact ⟨v, S, v1, fun _ => ⟨v2, s7, ⟨a, n2.trans s1, s2, fun _ => s8 rfl⟩, by rw [n2]; exact s5, ka, s3, s4, s6⟩, yj_g1 _ okl ⟨by decide, trivial⟩, fun z => absurd z (by decide)⟩
      · exact ⟨0, 0, by decide, fun z => absurd z (by decide), by rw [zv_nolf (kd := 29) (by decide +kernel) hA]; rfl, fun z => absurd z (by decide)⟩
    obtain ⟨v, S, v4, D1, D2, D3⟩ := D
    rw [D2, Nat.add_zero] at G2 ec
    have ew : yg_w 1 kd kv.2 = if kd = 25 ∧ 2 ≤ v then 1 else 0 := by
      unfold yg_w
      rw [if_neg (by decide)]
      by_cases z : kd = 25
      · rw [(D1 (.inl z)).1]
        have : ((2 : Int32) ≤ nI v) ↔ 2 ≤ v := zc_le (k := 2) (by decide) (by omega)
        simp only [this]
      · rw [if_neg (fun w => z w.1), if_neg (fun w => z w.1)]
    obtain ⟨cs, r1, r2, r3, r4⟩ := ihr tr okr _ P2 up _ _ z2 Ar Mr G2
    by_cases z : kd = 29
    · have e0 : yg_w 1 kd kv.2 = 0 := by rw [ew, if_neg (fun w => by omega)]
      rw [e0, Nat.add_zero] at r1 r3
      rw [e0, Nat.zero_add] at ec
      refine ⟨cs, ⟨i, b', ⟨i2, ix, n1⟩, ⟨k2, kx, km⟩, kd100, by rw [if_pos z]; exact r1⟩, by rw [ec]; exact r2, fun t h => by rw [ec]; exact r3 t h, fun cl => r4 cl.2⟩
    · rw [ew] at r1 r3 ec
      refine ⟨(kd, v, S, ow, yu_fl r, i, b') :: cs, ⟨i, b', ⟨i2, ix, n1⟩, ⟨k2, kx, km⟩, kd100, ?_⟩, ?_, fun t ht' => ?_, fun cl j t ej e28 => ?_⟩
      · rw [if_neg z]
        refine ⟨v, S, ow, cs, rfl, ⟨⟨⟨kd100, v4, i2, n1⟩, fun h25 => ?_, fun h28 => ?_⟩, ⟨⟨kd100, v4, k2, km⟩, fun hh => ?_, fun h25 h2 => ?_⟩⟩, fun _ _ => rfl, r1⟩
        · obtain ⟨q1, _, _, q4, _⟩ := D1 (.inl h25)
          exact ⟨n3.trans q1, q4⟩
        · obtain ⟨q1, _, ⟨a, q2, q3, q4⟩, _⟩ := D1 (.inr h28)
          obtain ⟨w, w1, w2, w3, _⟩ := q4 h28
          exact ⟨n3.trans q1, a, w, q2, q3, w1, w2, w3⟩
        · obtain ⟨q1, _, _, _, q5⟩ := D1 hh
          exact ⟨nv.trans q1, q5⟩
        · obtain ⟨q1, _⟩ := D1 (.inl h25)
          refine g3 rfl h25 ?_
          rw [q1]
          exact (zc_le (k := 2) (by decide) (by have : v < 4 := v4; omega)).mpr h2
      · rw [ec]
        show (if kd = 25 ∧ 2 ≤ v then 1 else 0) + yu_ec cs = _
        rw [r2]
      · rw [ec]
        rcases List.mem_cons.mp ht' with e | e
        · rw [e]
          refine ⟨fun hh => ⟨(D1 hh).2.1, fun z => by
            obtain ⟨_, _, ⟨a, _, _, q4⟩, _⟩ := D1 hh
            obtain ⟨w, _, _, _, nq⟩ := q4 z
            exact nq⟩, fun h25 h2 => ?_, v4, D3⟩
          have h25' : kd = 25 := h25
          have h2' : 2 ≤ v := h2
          rw [if_pos ⟨h25', h2'⟩]
          exact ⟨Nat.le_refl _, by show ow < _; omega⟩
        · obtain ⟨q1, q2, q3⟩ := r3 t e
          exact ⟨q1, fun h25 h2 => by have := q2 h25 h2; omega, q3⟩
      · cases j with
        | zero =>
          have ej' : some ((kd, v, S, ow, yu_fl r, i, b') : yT) = some t := ej
          cases ej'
          have hr := cl.1 e28
          subst hr
          have : cs = [] := r1.2.2
          rw [this]; rfl
        | succ j =>
          have := r4 cl.2 j t ej e28
          show j + 1 + 1 = cs.length + 1
          omega
end YUO
