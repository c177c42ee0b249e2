/-! The judge: the walk through a declaration: an array. -/
theorem zv_q9 {st c : Nat} (h : ¬ zg_q 9 st c = 99) : ((c = 30 ∨ c = 31) ∧ st = 0 ∧ zg_q 9 st c = 1) ∨ ((c = 30 ∨ c = 31) ∧ st = 1 ∧ zg_q 9 st c = 2) ∨ (c = 8 ∧ st = 2 ∧ zg_q 9 st c = 3) := by
  obtain ⟨cs, to, h1, h2, h3⟩ := zv_qR h
  have key : ∀ r ∈ zg_R, r.1 = 9 → r.2 ∈ [(0, [30, 31], 1), (1, [30, 31], 2), (2, [8], 3)] := by decide +kernel
  have m := key _ h1 rfl
  simp only [List.mem_cons, List.not_mem_nil, or_false, Prod.mk.injEq] at m
  rw [h3]
  rcases m with ⟨e1, e2, e3⟩ | ⟨e1, e2, e3⟩ | ⟨e1, e2, e3⟩ <;> subst e2 <;> simp only [List.mem_cons, List.not_mem_nil, or_false] at h2 <;> omega
theorem zv_A9 {st : Nat} (h : zg_A 9 st = true) : st = 3 := by
  unfold zg_A at h
  rw [List.elem_eq_mem, decide_eq_true_eq] at h
  simp only [List.mem_cons, Prod.mk.injEq, List.not_mem_nil, or_false] at h
  omega
theorem zv_lc9 {lc : zt_T} (h : zg_A 9 (zg_run 9 0 lc) = true) : ∃ (a1 a2 : Nat) (kv1 kv2 kv3 : Int32 × Int32) (l1 l2 l3 : zt_T), lc = .inner a1 kv1 () l1 (.inner a2 kv2 () l2 (.inner 8 kv3 () l3 .leaf)) ∧ (a1 = 30 ∨ a1 = 31) ∧ (a2 = 30 ∨ a2 = 31) := by
  have h3 := zv_A9 h
  cases lc with
  | leaf => exact absurd h3 (by decide)
  | inner a1 kv1 o1 l1 r1 =>
    have e1 : zg_run 9 (zg_q 9 0 a1) r1 = 3 := h3
    have n1 : ¬ zg_q 9 0 a1 = 99 := fun z => by rw [z, zv_q99] at e1; exact absurd e1 (by decide)
    rcases zv_q9 n1 with ⟨x1, _, x3⟩ | ⟨_, x2, _⟩ | ⟨_, x2, _⟩
    · rw [x3] at e1
      cases r1 with
      | leaf => exact absurd e1 (by decide)
      | inner a2 kv2 o2 l2 r2 =>
        have e2 : zg_run 9 (zg_q 9 1 a2) r2 = 3 := e1
        have n2 : ¬ zg_q 9 1 a2 = 99 := fun z => by rw [z, zv_q99] at e2; exact absurd e2 (by decide)
        rcases zv_q9 n2 with ⟨_, x2, _⟩ | ⟨y1, _, y3⟩ | ⟨_, x2, _⟩
        · omega
        · rw [y3] at e2
          cases r2 with
          | leaf => exact absurd e2 (by decide)
          | inner a3 kv3 o3 l3 r3 =>
            have e3 : zg_run 9 (zg_q 9 2 a3) r3 = 3 := e2
            have n3 : ¬ zg_q 9 2 a3 = 99 := fun z => by rw [z, zv_q99] at e3; exact absurd e3 (by decide)
            rcases zv_q9 n3 with ⟨_, x2, _⟩ | ⟨_, x2, _⟩ | ⟨w1, _, w3⟩
            · omega
            · omega
            · rw [w3] at e3
              cases r3 with
              | leaf => subst w1; exact ⟨a1, a2, kv1, kv2, kv3, l1, l2, l3, rfl, x1, y1⟩
              | inner a4 kv4 o4 l4 r4 =>
                have e4 : zg_run 9 (zg_q 9 3 a4) r4 = 3 := e3
                have n4 : ¬ zg_q 9 3 a4 = 99 := fun z => by rw [z, zv_q99] at e4; exact absurd e4 (by decide)
                rcases zv_q9 n4 with ⟨_, x2, _⟩ | ⟨_, x2, _⟩ | ⟨_, x2, _⟩ <;> omega
        · omega
    · omega
    · omega
theorem zv_sArr {LC LM : List (List Int32)} {nb nf ns sz k d D D' : Nat} {F : Nat → Nat} {l : zt_T} {P Q : Nat → Prop} {h1 g1 : zs_H} {kv : Int32 × Int32} {o : Unit} {lc r : zt_T} {h g : zs_H} {x x' : Int32} (hP : ∀ j, P j → j < 32784) (hQ : ∀ j, Q j → j < 33500) (hb : 0 < nb) (hd : d + 1 < 240) (hsz : (h1.1 12 6) = nI sz) (hs3 : 3 ≤ sz) (hsz2 : sz < 100000) (S : zv_SD LC LM nb nf ns k F l P Q h1 g1 (.inner 9 kv o lc r) h g x x') : zv_res (D + 2) (D' + 4) d sz h1 g1 (zv_SD LC LM nb nf ns k F l P Q h1 g1 r) h g x x' := by
  obtain ⟨st', a, b, P1, Q1, z1, q, F', ⟨e1, e2, e3, e4⟩, ⟨J1, J2, J3⟩, ⟨c1, c2, c3, c4⟩, ⟨b1, b2, b3⟩, ⟨cC, cM, cP, cQ, qb⟩, ⟨⟨o1, o2⟩, o3⟩, I, ⟨e36, e21⟩, _, fa, nx⟩ := zv_SDx hP hQ hsz S (by omega)
  obtain ⟨a1, a2, kv1, kv2, kv3, l1, l2, l3, el, ha1, ha2⟩ := zv_lc9 o1
  subst el
  obtain ⟨⟨u1, _⟩, _, ⟨u2, _⟩, _, ⟨u3, _⟩, _, _⟩ := o3
  have el1 : l1 = .leaf := by rcases ha1 with e | e <;> subst e <;> exact zv_nolf (by decide +kernel) u1
  have el2 : l2 = .leaf := by rcases ha2 with e | e <;> subst e <;> exact zv_nolf (by decide +kernel) u2
  have el3 : l3 = .leaf := zv_nolf (by decide +kernel) u3
  subst el1; subst el2; subst el3
  obtain ⟨i1, A1, A2, y1, _, ei1, _, p1, d1, _, w1, _, q1, f1, cC2, _⟩ := zv_hC cC
  obtain ⟨i2, A3, A4, y2, _, ei2, _, p2, d2, _, w2, _, q2, f2, cC3, _⟩ := zv_hC cC2
  obtain ⟨i3, A5, A6, y3, y4, ei3, _, p3, d3, _, w3, _, q3, f3, cC4, _⟩ := zv_hC cC3
  obtain ⟨k1, U1, U2, _, ek1, _, s1, m1, _, v1, _, _, t1, g1', cM2, _⟩ := zv_hM cM
  obtain ⟨k2, U3, U4, _, ek2, _, s2, m2, _, v2, _, _, t2, g2', cM3, _⟩ := zv_hM cM2
  obtain ⟨k3, U5, U6, y5, ek3, _, s3, m3, _, v3, _, _, t3, g3', cM4, _⟩ := zv_hM cM3
  have km1 : zt_km a1 = a1 := by rcases ha1 with e | e <;> subst e <;> decide
  have km2 : zt_km a2 = a2 := by rcases ha2 with e | e <;> subst e <;> decide
  rw [km1] at m1
  rw [km2] at m2
  have v1' : (g.2.1 74) k1 = kv1.2 := by rcases ha1 with e | e <;> subst e <;> (rw [if_neg (by decide)] at v1; exact v1)
  have v2' : (g.2.1 74) k2 = kv2.2 := by rcases ha2 with e | e <;> subst e <;> (rw [if_neg (by decide)] at v2; exact v2)
  have P2 := (q1 i2 p2).1
  have P3 := (q1 i3 (q2 i3 p3).1).1
  have Q2' := (t1 k2 s2).1
  have Q3' := (t1 k3 (t2 k3 s3).1).1
  obtain ⟨h', g', r1, r2, r3, r4, r5, r6, r7, r8, r9⟩ := zv_vArray (D := D) (D' := D') (d := d + 1) (sz := sz) (i := a) (k := b) (v3 := (g.2.1 74) k3) I hd hb hs3 hsz2 J3 e2 e4 (cP i1 p1).1 (cP i2 P2).1 (cP i3 P3).1 (cQ k1 s1).1 (cQ k2 Q2').1 (cQ k3 Q3').1 ⟨(q1 i2 p2).2, (q1 i3 (q2 i3 p3).1).2, (q2 i3 p3).2⟩ ha1 ha2 c1 ei1 ei2 ei3 (show (h.2.1 18) i3 = -1 ∧ y4 = -1 from cC4).1 d1 d2 d3 (show (h.2.1 17) i1 = -1 ∧ y1 = -1 from f1).1 (show (h.2.1 17) i2 = -1 ∧ y2 = -1 from f2).1 (show (h.2.1 17) i3 = -1 ∧ y3 = -1 from f3).1 w1 w2 (cP i1 p1).2.2 (cP i2 P2).2.2 c2 b1 ek1 ek2 ek3 (show (g.2.1 78) k3 = -1 ∧ y5 = -1 from cM4).1 m1 m2 m3 (show (g.2.1 76) k1 = -1 ∧ (g.2.1 77) k1 = -1 from g1').1 (show (g.2.1 76) k2 = -1 ∧ (g.2.1 77) k2 = -1 from g2').1 (show (g.2.1 76) k3 = -1 ∧ (g.2.1 77) k3 = -1 from g3').1 v1' v2' rfl b2
  refine ⟨a, b, e1, e2, e3, e4, J1, J2, J3, h', g', r1, r2, ?_⟩
  rcases r9 with ⟨φ, X⟩ | ⟨I', x1, x2, x3, x4, x5, x6⟩
  · exact .inl (fa h' g' φ _ X r3 r4)
  · refine .inr (nx h' g' (fun _ => ⟨fun _ => ⟨a1, a2, kv1, kv2, kv3, _, _, _, rfl, x5, x6, ha1.resolve_right x3, ha2.resolve_right x4⟩, fun z => by omega, fun z => by omega⟩) x1 x2 (fun j _ hj => r5 j (fun z => hj (by rw [z]; exact p1)) (fun z => hj (by rw [z]; exact P2))) fun j hj => r6 j (fun z => hj (by rw [z]; exact (cQ k1 s1).2)) (fun z => hj (by rw [z]; exact (cQ k2 Q2').2)) (fun z => hj (by rw [z]; exact (cQ k3 Q3').2)))
