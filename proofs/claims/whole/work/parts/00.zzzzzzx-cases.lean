/-! The coder: CASE, on both sides. -/
section YJX
variable {LC LM : List (List Int32)} {nb b sz ow : Nat} {F Fb X Y : Nat → Nat} {h0 g0 : zs_H} {P Q Qm : Nat → Prop} {up x x' y : Int32} {kd : Nat} {kv : Int32 × Int32} {o : Unit} {l r : zt_T}
theorem yr_sl {own : Nat} : ∀ (rs : List (Int32 × Option Int32)) (t : Nat), (yr_s own t rs).length ≤ 8 * rs.length := by
  intro rs
  induction rs with
  | nil => intro t; exact Nat.le_refl _
  | cons r rs ih =>
    intro t
    show (yr_1 own r ++ ((if t = 0 then [] else [((7, 11, 0, 0) : yI)]) ++ yr_s own (t + 1) rs)).length ≤ 8 * (rs.length + 1)
    rw [List.length_append, List.length_append]
    have a := yr_1l (own := own) (r := r)
    have c := ih (t + 1)
    have e : (if t = 0 then [] else [((7, 11, 0, 0) : yI)]).length ≤ 1 := by split <;> decide
    omega
theorem yr_1h {own : Nat} {r : Int32 × Option Int32} {d : Nat} : yo_h d (yr_1 own r) = some (d + 1) := by
  unfold yr_1
  split
  · show (if 2 ≤ d + 1 + 1 then some (d + 1 + 1 - 2 + 1) else none) = _
    rw [if_pos (by omega)]
    exact congrArg some (by omega)
  · show (if 2 ≤ d + 1 + 1 then (if 2 ≤ d + 1 + 1 - 2 + 1 + 1 + 1 then (if 2 ≤ d + 1 + 1 - 2 + 1 + 1 + 1 - 2 + 1 then some (d + 1 + 1 - 2 + 1 + 1 + 1 - 2 + 1 - 2 + 1) else none) else none) else none) = _
    rw [if_pos (by omega), if_pos (by omega), if_pos (by omega)]
    exact congrArg some (by omega)
theorem yr_sh {own : Nat} : ∀ (rs : List (Int32 × Option Int32)) (t d : Nat), yo_h (d + 1) (yr_s own (t + 1) rs) = some (d + 1) := by
  intro rs
  induction rs with
  | nil => intro t d; rfl
  | cons r rs ih =>
    intro t d
    show yo_h (d + 1) (yr_1 own r ++ ((if t + 1 = 0 then [] else [((7, 11, 0, 0) : yI)]) ++ yr_s own (t + 1 + 1) rs)) = _
    rw [yo_1 yr_1h, if_neg (by omega)]
    show (if 2 ≤ d + 1 + 1 then yo_h (d + 1 + 1 - 2 + 1) (yr_s own (t + 1 + 1) rs) else none) = _
    rw [if_pos (by omega), show d + 1 + 1 - 2 + 1 = d + 1 by omega, ih]
theorem yr_s0 {own : Nat} {rs : List (Int32 × Option Int32)} (h : ¬ rs = []) : yo_h 0 (yr_s own 0 rs) = some 1 := by
  cases rs with
  | nil => exact absurd rfl h
  | cons r rs =>
    show yo_h 0 (yr_1 own r ++ ([] ++ yr_s own (0 + 1) rs)) = _
    rw [yo_1 yr_1h, List.nil_append]
    exact yr_sh rs 0 0
theorem yr_si {own : Nat} {fn : Nat → Prop} (ho : own < X b) : ∀ (rs : List (Int32 × Option Int32)) (t : Nat) (i : yI), i ∈ yr_s own t rs → yo_i X fn b i := by
  intro rs
  induction rs with
  | nil => intro t i hi; cases hi
  | cons r rs ih =>
    intro t i hi
    have l1 : yo_i X fn b (1, nI own, 0, 0) := .inr (.inr (.inl ⟨rfl, own, rfl, ho⟩))
    have l7 : ∀ k : Nat, k < 25 → yo_i X fn b (7, nI k, 0, 0) := fun k hk => .inr (.inr (.inr (.inr (.inr (.inr (.inl ⟨rfl, k, rfl, hk⟩))))))
    have l0 : ∀ v : Int32, yo_i X fn b (0, v, 0, 0) := fun v => .inl rfl
    rcases List.mem_append.mp (show i ∈ yr_1 own r ++ ((if t = 0 then [] else [((7, 11, 0, 0) : yI)]) ++ yr_s own (t + 1) rs) from hi) with z | z
    · unfold yr_1 at z
      split at z
      · simp only [List.cons_append, List.nil_append, List.mem_cons, List.not_mem_nil, or_false] at z
        rcases z with e | e | e <;> rw [e]
        · exact l1
        · exact l0 _
        · exact l7 13 (by decide)
      · simp only [List.cons_append, List.nil_append, List.mem_cons, List.not_mem_nil, or_false] at z
        rcases z with e | e | e | e | e | e | e <;> rw [e]
        · exact l1
        · exact l0 _
        · exact l7 18 (by decide)
        · exact l1
        · exact l0 _
        · exact l7 17 (by decide)
        · exact l7 10 (by decide)
    rcases List.mem_append.mp z with z | z
    · split at z
      · cases z
      · rw [List.mem_singleton.mp z]; exact l7 11 (by decide)
    · exact ih _ i z
theorem yr_1B {own : Nat} {r : Int32 × Option Int32} {Bc : Nat → Nat → Prop} : yo_E Bc b False (yr_1 own r) := by
  intro K st H
  unfold yr_1
  split
  · exact H _ (fun z => z.elim)
  · exact H _ (fun z => z.elim)
theorem yr_sB1 {own : Nat} {Bc : Nat → Nat → Prop} : ∀ (rs : List (Int32 × Option Int32)) (t : Nat) (K : List Prop → Prop) (st : List Prop) (q : Prop), (∀ p : Prop, K (p :: st)) → yo_W Bc b (yr_s own (t + 1) rs) K (q :: st) := by
  intro rs
  induction rs with
  | nil => intro t K st q H; exact H q
  | cons r rs ih =>
    intro t K st q H
    show yo_W Bc b (yr_1 own r ++ ((if t + 1 = 0 then [] else [((7, 11, 0, 0) : yI)]) ++ yr_s own (t + 1 + 1) rs)) K (q :: st)
    rw [yo_Wap, if_neg (by omega)]
    refine yr_1B _ _ fun p _ => ?_
    exact ih (t + 1) K st _ H
theorem yr_sB {own : Nat} {Bc : Nat → Nat → Prop} {rs : List (Int32 × Option Int32)} (h : ¬ rs = []) : yo_E Bc b False (yr_s own 0 rs) := by
  cases rs with
  | nil => exact absurd rfl h
  | cons r rs =>
    intro K st H
    show yo_W Bc b (yr_1 own r ++ ([] ++ yr_s own (0 + 1) rs)) K st
    rw [yo_Wap, List.nil_append]
    refine yr_1B _ _ fun p _ => ?_
    exact yr_sB1 rs 0 K st p (fun p => H p (fun z => z.elim))
/-- the range of a choice -/
theorem yj_18 {k : Nat} {xl : Int32} {Q1 : Nat → Prop} (A : yb_F Fb b h0 g0 P Q l xl ((g0.2.1 76) k) (-1) (-1)) (M : zt_M LC LM g0 l Q1 (nI k) ((g0.2.1 76) k) ((g0.2.1 77) k)) (hA : zg_A 18 (zg_run 18 0 l) = true) : ∃ (w : Int32) (w2 : Option Int32) (lo klo : Nat), (xl = nI lo ∧ lo < 32784 ∧ (h0.2.1 16) lo = w ∧ ((w2 = none ∧ (h0.2.1 18) lo = -1) ∨ ∃ v hi, w2 = some v ∧ hi < 32784 ∧ (h0.2.1 18) lo = nI hi ∧ (h0.2.1 16) hi = v)) ∧ ((g0.2.1 76) k = nI klo ∧ klo < 33500 ∧ (g0.2.1 74) klo = w ∧ ((w2 = none ∧ (g0.2.1 77) k = nI klo) ∨ ∃ v hi, w2 = some v ∧ hi < 33500 ∧ ¬ hi = klo ∧ (g0.2.1 77) k = nI hi ∧ (g0.2.1 74) hi = v)) ∧ 1 ≤ zt_sz l ∧ yg_c 0 l = 0 := by
  have key : ∀ r ∈ zg_R, r.1 = 18 → r.2 = (0, [30, 31], 1) ∨ r.2 = (1, [30, 31], 2) := by decide +kernel
  have two : ∀ c, c ∈ [30, 31] → (c = 30 ∨ c = 31) := by intro c hc; simp only [List.mem_cons, List.not_mem_nil, or_false] at hc; exact hc
  cases l with
  | leaf => exact absurd hA (by decide)
  | inner c1 kv1 o1 l1 r1 =>
    obtain ⟨cs, to, m1, m2, m3, _⟩ := yj_q (yc_gA' hA)
    have k1 := key _ m1 rfl
    simp only [Prod.mk.injEq] at k1
    obtain ⟨e1, e2⟩ : cs = [30, 31] ∧ to = 1 := by
      rcases k1 with ⟨_, a, a'⟩ | ⟨a, _⟩
      · exact ⟨a, a'⟩
      · exact absurd a (by decide)
    subst e1; subst e2
    have hc1 := two _ m2
    have hA1 : zg_A 18 (zg_run 18 1 r1) = true := by
      have : zg_run 18 0 (.inner c1 kv1 o1 l1 r1) = zg_run 18 1 r1 := by show zg_run 18 (zg_q 18 0 c1) r1 = _; rw [m3]
      rw [← this]; exact hA
    obtain ⟨a, ka, _, a2, a3, b2, b3, t1, t2, t3, t4, B, _⟩ := yc_cst2 hc1 A M
    obtain ⟨ka', S1, S2, z2, q1, _, _, _, _, _, _, _, d2, _, Mr, ey⟩ := zv_hM M
    have eka : ka' = ka := (nI_eq (by omega) (by omega)).mp (q1.symm.trans b3)
    subst eka
    have k30 : ∀ z, (z = 30 ∨ z = 31) → 30 ≤ zt_km z := by rintro z (e | e) <;> subst e <;> decide
    cases r1 with
    | leaf =>
      have hl : (g0.2.1 77) k = nI ka' := by
        rw [ey, if_pos (show (g0.2.1 78) ka' = -1 ∧ z2 = -1 from Mr).2]; exact b3
      refine ⟨kv1.2, none, a, ka', ⟨a3, a2, t2, .inl ⟨rfl, B.1⟩⟩, ⟨b3, b2, t4, .inl ⟨rfl, hl⟩⟩, by show 1 ≤ 1 + zt_sz l1 + 0; omega, ?_⟩
      show (if 30 ≤ zt_km c1 then 0 else _) + 0 = 0
      rw [if_pos (k30 _ hc1)]
    | inner c2 kv2 o2 l2 r2 =>
      obtain ⟨cs, to, m1', m2', m3', _⟩ := yj_q (yc_gA' hA1)
      have k1 := key _ m1' rfl
      simp only [Prod.mk.injEq] at k1
      obtain ⟨e1, e2⟩ : cs = [30, 31] ∧ to = 2 := by
        rcases k1 with ⟨a, _⟩ | ⟨_, a, a'⟩
        · exact absurd a (by decide)
        · exact ⟨a, a'⟩
      subst e1; subst e2
      have hc2 := two _ m2'
      have hA2 : zg_A 18 (zg_run 18 2 r2) = true := by
        have : zg_run 18 1 (.inner c2 kv2 o2 l2 r2) = zg_run 18 2 r2 := by show zg_run 18 (zg_q 18 1 c2) r2 = _; rw [m3']
        rw [← this]; exact hA1
      have er2 : r2 = .leaf := by
        cases r2 with
        | leaf => rfl
        | inner c3 kv3 o3 l3 r3 =>
          obtain ⟨cs, to, m1'', _⟩ := yj_q (yc_gA' hA2)
          have k1 := key _ m1'' rfl
          simp only [Prod.mk.injEq] at k1
          rcases k1 with ⟨a, _⟩ | ⟨a, _⟩ <;> exact absurd a (by decide)
      subst er2
      obtain ⟨e, ke, _, p2, p3, s2, s3, u1, u2, u3, u4, B2, _⟩ := yc_cst2 hc2 B Mr
      obtain ⟨ke', S3, S4, z3, q1', _, q3', _, _, _, _, _, _, _, Mr', ey'⟩ := zv_hM Mr
      have eke : ke' = ke := (nI_eq (by omega) (by omega)).mp (q1'.symm.trans s3)
      subst eke
      have hz2 : z2 = nI ke' := by
        rw [ey', if_pos (show (g0.2.1 78) ke' = -1 ∧ z3 = -1 from Mr').2]; exact s3
      have hl : (g0.2.1 77) k = nI ke' := by
        rw [ey, hz2, if_neg (zc_m1 (by omega))]
      refine ⟨kv1.2, some kv2.2, a, ka', ⟨a3, a2, t2, .inr ⟨_, e, rfl, p2, p3, u2⟩⟩, ⟨b3, b2, t4, .inr ⟨_, ke', rfl, s2, (d2 ke' q3').2, hl, u4⟩⟩, by show 1 ≤ 1 + zt_sz l1 + _; omega, ?_⟩
      show (if 30 ≤ zt_km c1 then 0 else _) + ((if 30 ≤ zt_km c2 then 0 else _) + 0) = 0
      rw [if_pos (k30 _ hc1), if_pos (k30 _ hc2)]
end YJX
