/-! The coder: invocations, on both sides. -/
section YJI
variable {LC LM : List (List Int32)} {nb b sz ow : Nat} {F Fb X Y : Nat → Nat} {h0 g0 : zs_H} {P Q Qm : Nat → Prop} {up x x' y : Int32} {kd : Nat} {kv : Int32 × Int32} {o : Unit} {l r : zt_T}
theorem yj_13 {i k n : Nat} {v xl : Int32} (N : yb_N Fb b h0 g0 P Q 13 v i k xl n) : (h0.2.1 13) i = 13 ∧ (h0.2.1 17) i = xl ∧ ∃ u x B, yb_V Fb b h0 v u x ∧ (h0.2.1 16) i = nI (32 + u) ∧ (h0.2.1 30) (32 + u) = nI B ∧ B < 9 + b ∧ (g0.2.1 101) k = nI x ∧ (g0.2.1 102) k = nI (if B < 9 then 100 + B else B - 9) ∧ yb_pr Fb b h0 g0 P Q B x n xl ((g0.2.1 76) k) := by
  rcases N with N | ⟨ty, _, _, _, N⟩
  · rcases N with e | ⟨e, _⟩ | ⟨_, a⟩ | ⟨e, _⟩ | ⟨e, _⟩
    · exact absurd e (by decide)
    · exact absurd e (by decide)
    · exact a
    · exact absurd e (by decide)
    · exact absurd e (by decide)
  · rcases N with ⟨e, _⟩ | ⟨e, _⟩ | ⟨e, _⟩ | ⟨e, _⟩ | ⟨e, _⟩ | ⟨e, _⟩ | ⟨e, _⟩ | ⟨e, _⟩ <;> exact absurd e (by decide)
theorem yj_14 {i k n : Nat} {v xl : Int32} (N : yb_N Fb b h0 g0 P Q 14 v i k xl n) : (h0.2.1 13) i = 14 ∧ (h0.2.1 17) i = xl := by
  rcases N with N | ⟨ty, _, _, _, N⟩
  · rcases N with e | ⟨e, _⟩ | ⟨e, _⟩ | ⟨_, a⟩ | ⟨e, _⟩
    · exact absurd e (by decide)
    · exact absurd e (by decide)
    · exact absurd e (by decide)
    · exact a
    · exact absurd e (by decide)
  · rcases N with ⟨e, _⟩ | ⟨e, _⟩ | ⟨e, _⟩ | ⟨e, _⟩ | ⟨e, _⟩ | ⟨e, _⟩ | ⟨e, _⟩ | ⟨e, _⟩ <;> exact absurd e (by decide)
/-- the parameters -/
theorem yj_prm {B xx x0 s uu : Nat} (C : yj_cx LC LM nb b sz F Fb X Y h0 g0 P) (hu : F b ≤ uu ∧ uu < F (b + 1)) (uB : (h0.2.1 30) (32 + uu) = nI B) (uc : (h0.2.1 32) (32 + uu) = nI x0) (ul : (h0.2.1 34) (32 + uu) = nI s) (hB : B < 9 + b) (ex : nI xx = nI x0) (hs : x0 + s ≤ Y b) (ec : (h0.2.1 26) B = nI s) : ∀ (l : zt_T) (ow : Nat) (Qm : Nat → Prop) (up x x' y : Int32), zg_ok l → ¬ zg_run 13 0 l = 99 → yj_f LC LM Fb b h0 g0 P Q ow l Qm up x x' y → yb_pr Fb b h0 g0 P Q B xx (zt_ln l) x x' → zg_d l ≤ 187 → zt_sz l + 1 ≤ sz → ∃ ps, yk_PC h0 x0 ps x ∧ yk_PM g0 b x0 ps x' ∧ ps.length = zt_ln l ∧ (yz_p x0 ps).length ≤ 6 * zt_sz l ∧ yo_h 0 (yz_p x0 ps) = some 0 ∧ (∀ i, i ∈ yz_p x0 ps → yw_i X Y (yq_k h0) b ow i) ∧ yg_c 0 l = 0 ∧ ∀ LD : Nat → Prop, yo_N (yq_b LD h0) b (yz_p x0 ps) := by
  have kB := (C.1.2.2 b C.2.1).1
  intro l
  induction l with
  | leaf => intro ow Qm up x x' y _ _ A _ _ _; exact ⟨[], A.1.1, A.1.2, rfl, Nat.le_refl _, rfl, fun i hi => (by cases hi), rfl, fun LD K st H => H⟩
  | inner c kv o lc r _ ihr =>
    intro ow Qm up x x' y ok hr A pr hd hz
    obtain ⟨ok1, okl, okr⟩ := id ok
    have key : ∀ r ∈ zg_R, r.1 = 13 → r.2 = (0, [14], 0) := by decide +kernel
    obtain ⟨cs, to, m1, m2, _, m4⟩ := yj_q hr
    have k1 := key _ m1 rfl
    simp only [Prod.mk.injEq] at k1
    obtain ⟨_, e2, e3⟩ := k1
    rw [e2] at m2
    rw [e3] at m4
    have ec14 : c = 14 := List.mem_singleton.mp m2
    subst ec14
    have hd0 : max (zg_d lc + 1) (zg_d r) ≤ zg_d (.inner 14 kv o lc r) := zg_d1
    have hz0 : zt_sz (.inner 14 kv o lc r) = 1 + zt_sz lc + zt_sz r := rfl
    obtain ⟨i, k, xl, Q1, Q2, z2, ⟨⟨pi, hi, ei⟩, ⟨qk, hk, ek⟩, mk⟩, N, _, _, G, ⟨Al, Ml⟩, R, _⟩ := yj_c A
    obtain ⟨k14, ech⟩ := yj_14 N
    obtain ⟨ce, kve, oe, le, el, hce⟩ := yc_g14 ok1.1
    subst el
    have hd1 : max (zg_d le + 1) 0 ≤ zg_d (.inner ce kve oe le .leaf) := zg_d1 (r := .leaf)
    have hz1 : zt_sz (.inner ce kve oe le .leaf) = 1 + zt_sz le + 0 := rfl
    obtain ⟨a, b', cv, off, ⟨pa, ha, ea⟩, ⟨qb, hb', eb, _⟩, p1, p2, p3, p4, ⟨p5, p6, p7, p7t⟩, p8⟩ := (show yb_pr Fb b h0 g0 P Q B xx (zt_ln r + 1) x x' by rw [show zt_ln r + 1 = zt_ln (.inner 14 kv o (.inner ce kve oe le .leaf) r) from Nat.add_comm _ _]; exact pr)
    have eai : a = i := (nI_eq (by omega) (by omega)).mp (ea.symm.trans ei)
    subst eai
    have ebk : b' = k := (nI_eq (by omega) (by omega)).mp (eb.symm.trans ek)
    subst ebk
    obtain ⟨off', f1, f2, f3⟩ := yk_pin C.1 C.2.1 C.2.2.1 hB p6 (.inl p7) ec (by omega)
    have eo : off = off' := (nI_eq (by omega) (by omega)).mp (p3.symm.trans f1)
    subst eo
    obtain ⟨e, ke, Qe, L, ⟨he, exe⟩, ⟨hke, eke, nQ⟩, ⟨LC', LM'⟩, ⟨Ll, Le⟩⟩ := yj_e C okl hce (by omega) (by omega) Al Ml
    obtain ⟨ps, r1, r2, r3, r4, r5, r6, r7, r8⟩ := ihr _ Q2 up _ _ z2 okr m4 R p8 (by omega) (by omega)
    have g14 : yg_c 0 (.inner 14 kv o (.inner ce kve oe le .leaf) .leaf) = 0 := by
      show 0 + yg_c 0 (.inner ce kve oe le .leaf) + 0 = 0
      rw [yj_g0 _ okl ⟨hce, trivial⟩]
    refine ⟨(L, off) :: ps, ⟨a, cv, zg_d le, ha, ei, by omega, by rw [ech, exe]; exact LC', f3, p1, f1, r1⟩, ⟨b', ke, zg_d le, Qe, hk, ek, by omega, hke, nQ, eke, LM', ?_, r2⟩, ?_, ?_, ?_, fun j hj => ?_, ?_, fun LD K st H => ?_⟩
    · rw [p4, ← nI_add, ex, nI_add]
    · show ps.length + 1 = 1 + zt_ln r; omega
    · show (L ++ ([((2, nI (x0 + off), 0, 0) : yI)] ++ yz_p x0 ps)).length ≤ _
      rw [List.length_append, List.length_append]
      show L.length + (1 + (yz_p x0 ps).length) ≤ _
      omega
    · show yo_h 0 (L ++ ([((2, nI (x0 + off), 0, 0) : yI)] ++ yz_p x0 ps)) = _
      rw [yo_1 (Le.1 0)]
      exact r5
    · rcases List.mem_append.mp (show j ∈ L ++ ([((2, nI (x0 + off), 0, 0) : yI)] ++ yz_p x0 ps) from hj) with z | z
      · exact yw_e Le j z
      rcases List.mem_append.mp z with z | z
      · rw [List.mem_singleton.mp z]
        exact .inr (.inl ⟨rfl, x0 + off, rfl, .inl ⟨by omega, yq_pin C.1 C.2.1 C.2.2.1 hu uB hB uc (by have := (C.1.2.2 b C.2.1).1; omega) ul (by have := (C.1.2.2 b C.2.1).1; omega) p6 p7 p3 f2⟩⟩)
      · exact yw_m (by omega) (r6 j z)
    · rw [yg_c1, g14, r7]
    · show yo_W (yq_b LD h0) b (L ++ ([((2, nI (x0 + off), 0, 0) : yI)] ++ yz_p x0 ps)) K st
      rw [yo_Wap]
      refine Ll.2.1 LD _ _ fun p hp => ?_
      show (yq_b LD h0 b (nI (x0 + off)).toNatClampNeg → p) ∧ yo_W (yq_b LD h0) b (yz_p x0 ps) K st
      rw [nI_clamp (by omega)]
      refine ⟨fun z => hp ?_, r8 LD K st H⟩
      have tc := (yq_bp C.1 C.2.1 C.2.2.1 hu uB hB uc (by omega) ul (by omega) p6 (.inl p7) p3 f2).mp z
      obtain ⟨c', c0, c1, _, c3⟩ := p7t
      have ecc : c' = e := (nI_eq (by omega) (by omega)).mp (c1.symm.trans (ech.trans exe))
      rw [← ecc]
      exact c3 tc
theorem yj_inv {i k : Nat} {xl : Int32} {Q1 : Nat → Prop} (C : yj_cx LC LM nb b sz F Fb X Y h0 g0 P) (hi : i < 32784) (hk : k < 33500) (km : (g0.2.1 72) k = 13) (N : yb_N Fb b h0 g0 P Q 13 kv.2 i k xl (zt_ln l)) (nv : zt_nr LC LM kv.2 ((g0.2.1 74) k)) (A : yj_f LC LM Fb b h0 g0 P Q ow l Q1 (nI k) xl ((g0.2.1 76) k) ((g0.2.1 77) k)) (hA : zg_A 13 (zg_run 13 0 l) = true) (ok : zg_ok l) (hd : zg_d l ≤ 187) (hz : zt_sz l + 1 ≤ sz) : ∃ T, yj_1 X Y h0 g0 b 13 kv l i k ow T := by
  obtain ⟨_, ec, u, xx, B, V, a1, a2, a3, a4, a5, pr⟩ := yj_13 N
  have B3 : nb ≤ 568 := C.1.1.2.1.1.2.2
  have hbn := C.2.1
  have kB := (C.1.2.2 b C.2.1).1
  have hs2 := C.2.2.2.2.2
  obtain ⟨x0, s, ty, ⟨v1, v2⟩, ⟨v3, _⟩, _, ⟨v5, v6⟩, _, _, v9⟩ := yj_var C V
  obtain ⟨w1, w2, w3⟩ := v9 B (by omega) a2
  have ra := (yj_ra C V).1
  have qn := fun j (hj : j < s) => yq_in (n := b) (j := j) C.1 C.2.1 ra a2 a3 v2 (by omega) v3 (by omega) hj
  obtain ⟨ps, r1, r2, r3, r4, r5, r6, r7, r8⟩ := yj_prm C ra a2 v2 v3 a3 v1 v5 w3 l ow Q1 _ _ _ _ ok (yc_gA hA) A pr hd hz
  have hln := zv_lnsz l
  have g13 : yg_c 0 (.inner 13 kv () l .leaf) = 0 := by
    show 0 + yg_c 0 l + 0 = 0
    rw [r7]
  refine ⟨yz_i (yz_p x0 ps ++ [if 9 ≤ B then (15, nI (B - 9), nI x0, 0) else (17, nI B, nI x0, 0)]), ⟨by decide, trivial⟩, ⟨?_, ?_⟩, ⟨fun n => Nat.zero_le _, ?_⟩, yz_Wi ?_ ?_, Nat.zero_le _, fun LD _ => yz_Bi (fun K st H => by
    rw [yo_Wap]
    refine r8 LD _ _ ?_
    have qb := fun j (hj : j < s) => yq_bi (LD := LD) (j := j) C.1 C.2.1 ra a2 a3 v2 (by omega) v3 (by omega) hj
    by_cases h9 : 9 ≤ B
    · rw [if_pos h9]
      show (∀ j : Nat, yq_b LD h0 (1000 + (nI (B - 9)).toNatClampNeg) j → (yq_b LD h0 b ((nI x0).toNatClampNeg + j) ↔ yq_b LD h0 (nI (B - 9)).toNatClampNeg j)) ∧ K st
      rw [nI_clamp (show B - 9 < 2147483648 by omega), nI_clamp (show x0 < 2147483648 by omega)]
      refine ⟨fun j hj => ?_, H⟩
      obtain ⟨_, k4, _⟩ := C.1.2.2 (B - 9) (by omega)
      have e9 : 9 + (B - 9) = B := by omega
      rw [e9, w3] at k4
      have kX := (C.1.2.2 (B - 9) (by omega)).1.1
      have es : s = X (B - 9) := (nI_eq (by omega) (by omega)).mp k4
      have hj' := (yq_bz C.1 (show B - 9 < nb by omega)).mp hj
      rw [qb j (by omega)]
      exact ⟨fun z => z.elim (fun w => by omega) (fun w => w.2), fun z => .inr ⟨h9, z⟩⟩
    · rw [if_neg h9]
      show (∀ j : Nat, j < (zt_2.getD (nI B).toNatClampNeg 0).toNatClampNeg → (yq_b LD h0 b ((nI x0).toNatClampNeg + j) ↔ yq_sB (nI B).toNatClampNeg j)) ∧ K st
      rw [nI_clamp (show B < 2147483648 by omega), nI_clamp (show x0 < 2147483648 by omega)]
      refine ⟨fun j hj => ?_, H⟩
      obtain ⟨t1, t2, _⟩ := yk_T9 B (by omega)
      have e := (C.1.1.2.1.2.2.1.1 B (by omega)).2.2.2
      rw [w3, t1] at e
      have es : s = (zt_2.getD B 0).toNatClampNeg := (nI_eq (by omega) (by omega)).mp e
      rw [qb j (by omega)]
      exact ⟨fun z => z.elim (fun w => w.2) (fun w => by omega), fun z => .inl ⟨by omega, z⟩⟩)⟩
  · rw [g13]
    exact yk_S13 hi (by omega) a1 v2 a2 (by omega) C.2.2.2.2.1 (by omega) (by omega) (by rw [ec]; exact r1)
  · exact yk_T13 hk km (by omega) (yk_vM C.1 C.2.1 C.2.2.1 V nv) w1 (by omega) (a4.trans v1) a5 (by omega) r2
  · rw [yz_il, List.length_append]
    show (yz_p x0 ps).length + 1 ≤ 6 * (1 + zt_sz l + 0)
    omega
  · rw [yo_1 r5]
    split <;> rfl
  · intro j hj
    rcases List.mem_append.mp hj with z | z
    · exact r6 j z
    · rw [List.mem_singleton.mp z]
      by_cases h9 : 9 ≤ B
      · rw [if_pos h9]
        obtain ⟨_, k4, _⟩ := C.1.2.2 (B - 9) (by omega)
        have e9 : 9 + (B - 9) = B := by omega
        rw [e9, w3] at k4
        have kX := (C.1.2.2 (B - 9) (by omega)).1.1
        have es : s = X (B - 9) := (nI_eq (by omega) (by omega)).mp k4
        exact .inr (.inr (.inr (.inl ⟨rfl, B - 9, x0, rfl, rfl, by omega, by show (h0.2.1 21) (9 + (B - 9)) = 2; rw [e9]; exact w2 h9, by omega, fun j hj => ((qn j (by omega)).trans ⟨fun z => z.elim (fun w => by omega) (fun w => yq_f1 _ _ _ _ (by omega) (by omega) w.2), fun z => .inr ⟨h9, yq_f1 _ _ _ _ (by omega) (by omega) z⟩⟩)⟩)))
      · rw [if_neg h9]
        obtain ⟨t1, t2, _⟩ := yk_T9 B (by omega)
        have e := (C.1.1.2.1.2.2.1.1 B (by omega)).2.2.2
        rw [w3, t1] at e
        have es : s = (zt_2.getD B 0).toNatClampNeg := (nI_eq (by omega) (by omega)).mp e
        exact .inr (.inr (.inr (.inr ⟨rfl, B, x0, rfl, rfl, by omega, by omega, fun j hj => ((qn j (by omega)).trans ⟨fun z => z.elim id (fun w => by omega), .inl⟩)⟩)))
end YJI
