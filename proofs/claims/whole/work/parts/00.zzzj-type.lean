/-! The judge: a declaration's type, when its children have been looked at. -/
theorem zv_bof {LC LM : List (List Int32)} {nb nf ns c B : Nat} {F : Nat → Nat} {q w : Int32} {h g : zs_H} (I : zv_I LC LM nb nf ns F q h g) (hb : 0 < nb) (hw : zt_nr LC LM (nI c) w) (hc : c < 6000) (e : (h.2.1 36) c = nI B) (hB : B < 8 + nb) : f_Mo_blockOf g w = some (nI (if B < 9 then 100000 + B else B - 9)) := by
  have hbl := zv_blk I hb hw hc
  obtain ⟨_, _, _, _, _, k5, k6⟩ := zv_cur I hb
  unfold f_Mo_blockOf
  rcases hbl with ⟨x1, x2, x3, x4, x5, x6⟩ | ⟨b, kd', x1, x2, x3, x4, x5, x6, x7⟩ | ⟨x1, x2, x3⟩
  · have eB : B = c - 41 := (nI_eq (by omega) (by omega)).mp (e.symm.trans x3)
    rw [x4, Option.bind_some, if_neg (mt (zc_tl (k := 0) (by decide) (by omega)).mp (by omega)), if_pos (by omega), show (100000 : Int32) + nI (c - 41) = nI (100000 + (c - 41)) from zc_da 100000 _, eB]
  · have eB : B = 9 + b := (nI_eq (by omega) (by omega)).mp (e.symm.trans x2)
    rw [x3, Option.bind_some, if_pos (by decide), k5, x4, Option.bind_some, if_neg (by omega), eB, show 9 + b - 9 = b by omega]
  · rcases x1 with x1 | x1
    · rw [e] at x1; exact absurd x1 (zc_m1 (by omega))
    · have := (nI_eq (by omega) (by omega)).mp (e.symm.trans x1); omega
def zv_arr (lt : zt_T) : Prop := ∃ (a1 a2 : Nat) (kv1 kv2 kv3 : Int32 × Int32) (l1 l2 l3 : zt_T), lt = .inner a1 kv1 () l1 (.inner a2 kv2 () l2 (.inner 8 kv3 () l3 .leaf)) ∧ ¬ kv2.2.toInt64 - kv1.2.toInt64 < 0 ∧ kv2.2.toInt64 - kv1.2.toInt64 ≤ 255 ∧ (a1 = 30 ∧ a2 = 30)
def zv_Ph (nb : Nat) (h1 : zs_H) (f : Nat) (kvt : Int32 × Int32) (lt : zt_T) : Prop := (f = 9 → zv_arr lt) ∧ (f = 10 → ∃ c B : Nat, kvt.2 = nI c ∧ c < 6000 ∧ B < 8 + nb ∧ (h1.2.1 36) c = nI B ∧ (9 ≤ B → (h1.2.1 21) B = 2)) ∧ (f = 10 → ¬ (h1.2.1 21) (8 + nb) = 1)
theorem zv_mkTY {LC LM : List (List Int32)} {nb nf ns : Nat} {F : Nat → Nat} {q : Int32} {h1 h g : zs_H} {P Q : Nat → Prop} {pl cn cm v : Int32} {it kt f ic km kc : Nat} {kvt : Int32 × Int32} {lt : zt_T} (I : zv_I LC LM nb nf ns F q h g) (hb : 0 < nb) (hP : ∀ i, P i → i < 32784) (hQ : ∀ i, Q i → i < 33500) (e36 : h.2.1 36 = h1.2.1 36) (e21 : h.2.1 21 = h1.2.1 21) (DP : zv_DP LC LM h g P Q pl cn cm it kt f ic km kc v kvt lt) (Ph : zv_Ph nb h1 f kvt lt) : ∃ t of, t < 3 ∧ zv_TY nb f t it kt of h g := by
  obtain ⟨⟨D1, D2, D3⟩, ⟨D4, D5, D6, D7⟩, ⟨P1, Q1, z, D8, D9, D10, D11⟩, ⟨D12, D13, D14⟩, _⟩ := DP
  rcases D3 with e | e | e
  · subst e
    rcases D13 with z | ⟨x, x1, x2, _⟩
    · exact absurd z (by decide)
    · rw [if_neg (by decide)] at D7
      exact ⟨x, nI x, x1, .inl ⟨rfl, D6.trans x2, D7.trans x2, rfl⟩⟩
  · subst e
    obtain ⟨a1, a2, kv1, kv2, kv3, l1, l2, l3, el, r1, r2, r3, r4⟩ := Ph.1 rfl
    subst el; subst r3; subst r4
    obtain ⟨i1, A1, A2, _, _, ei1, _, p1, _, _, w1, _, q1, _, c2, _⟩ := zv_hC D8
    obtain ⟨i2, A3, A4, _, _, ei2, _, p2, _, _, w2, _, q2, _, c3, _⟩ := zv_hC c2
    obtain ⟨i3, A5, A6, _, _, ei3, _, p3, _, _, w3, _⟩ := zv_hC c3
    obtain ⟨k1, U1, U2, y1, ek1, _, s1, _, _, v1, _, _, t1, _, d2, f1⟩ := zv_hM D9
    obtain ⟨k2, U3, U4, y2, ek2, _, s2, _, _, v2, _, _, t2, _, d3, f2⟩ := zv_hM d2
    obtain ⟨k3, U5, U6, y3, ek3, _, s3, _, _, v3, _, _, t3, _, d4, f3⟩ := zv_hM d3
    rw [if_neg (by decide)] at v1 v2 v3
    obtain ⟨_, ey3⟩ := (show (g.2.1 78) k3 = -1 ∧ y3 = -1 from d4)
    have b1 := hP i1 (D10 _ p1)
    have b2 := hP i2 (D10 _ (q1 _ p2).1)
    have b3 := hP i3 (D10 _ (q1 _ (q2 _ p3).1).1)
    have b4 := hQ k1 (D11 _ s1)
    have b5 := hQ k2 (D11 _ (t1 _ s2).1)
    have b6 := hQ k3 (D11 _ (t1 _ (t2 _ s3).1).1)
    rw [if_pos ey3, ek3] at f3
    rw [f3, if_neg (zc_m1 (by omega))] at f2
    rw [f2, if_neg (zc_m1 (by omega))] at f1
    rcases D14.2.2.2.2.1.2 with z | ⟨x, x1, x2, _⟩
    · exact absurd z (by decide)
    · exact ⟨x, nI x, x1, .inr (.inl ⟨rfl, rfl, i1, i2, i3, k1, k2, k3, kv1.2, kv2.2, ⟨b1, b2, b3, b4, b5, b6⟩, ⟨ei1, ei2, ei3, w1, w2, w3.trans x2⟩, ⟨ek1, ek2, f1, v1, v2, v3.trans x2⟩, r1, r2⟩)⟩
  · subst e
    obtain ⟨c, B, x1, x2, x3, x4, x5⟩ := Ph.2.1 rfl
    rw [if_pos rfl, x1] at D7
    exact ⟨0, _, by omega, .inr (.inr ⟨rfl, rfl, c, B, _, x2, x3, D6.trans x1, rfl, by rw [e36]; exact x4, fun z => by rw [e21]; exact x5 z, zv_bof I hb D7 x2 (by rw [e36]; exact x4) x3, rfl⟩)⟩
