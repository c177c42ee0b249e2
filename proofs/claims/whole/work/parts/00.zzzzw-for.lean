/-! The judge: what a FOR's rules do behind a fault; its parts. -/
theorem yc_ex {α : Type} {f : Int32 → α} {c : Prop} [Decidable c] {x y : α} (hx : ∃ A, x = f A) (hy : ∃ A, y = f A) : ∃ A, (if c then x else y) = f A := by
  by_cases z : c
  · rw [if_pos z]; exact hx
  · rw [if_neg z]; exact hy
section YGW
variable {h g : zs_H} {i k u nb n : Nat}
/-- the class, behind a fault -/
theorem yc_asgFC (hf : ¬ (h.1 38 3) = 0) (hu : u < 5900) (hb : (h.1 38 4) = nI (8 + nb)) (hnb : nb ≤ 568) (hl : (h.1 38 12) = nI n) (hn : n ≤ 240) : f_Jd_judgeAssigned h (nI (32 + u)) (nI i) = some h := by
  have hz := zF_big
  have : ∃ A, f_Jd_judgeAssigned h (nI (32 + u)) (nI i) = f_Jd_judgeAssigned_108 h (nI (32 + u)) (nI i) A := by
    unfold f_Jd_judgeAssigned f_Jd_judgeAssigned_24 f_Jd_judgeAssigned_48 f_Jd_judgeAssigned_49 f_Jd_judgeAssigned_81 f_Jd_judgeAssigned_77 f_Jd_judgeAssigned_82 f_Jd_judgeAssigned_103
    simp only [if_pos (zi_in (show 32 + u < 2147483648 by omega) (show 32 + u < 6000 by omega)), hb, if_pos (zi_in (show 8 + nb < 2147483648 by omega) (show 8 + nb < 629 by omega))]
    repeat' (first | exact ⟨_, rfl⟩ | apply yc_ex)
  obtain ⟨A, e⟩ := this
  rw [e]
  unfold f_Jd_judgeAssigned_108
  rw [zv_refF hf, Option.bind_some]
  exact yc_lpF hf hl hn hu n 0 zF (by omega) (by omega)
/-- the model, behind a fault -/
theorem yc_asgFM {m p : Nat} {L : List Int32} {v w : Int32} (hg : ¬ (g.1 68 29) = 0) (hv : v = -1 ∨ ∃ u, u < 5900 ∧ v = nI u) (e : f_Mo_variable g ((g.1 68 54)) w = some v) (hA : yc_A g m p L) (hm : m < 1000) (hk : k < 33500) (ea : (g.2.1 75) k = nI p) : f_Mo_lookAtAssigned g w (nI k) = some g := by
  have e70 : ∀ A, f_Mo_lookAtAssigned_70 g w (nI k) A = some g := by
    intro A
    unfold f_Mo_lookAtAssigned_70
    rw [zv_ruleF hg, Option.bind_some, yc_isLoops hA hm hk ea, Option.bind_some, zv_ruleF hg, Option.bind_some]
  have : ∃ A, f_Mo_lookAtAssigned g w (nI k) = f_Mo_lookAtAssigned_70 g w (nI k) A := by
    unfold f_Mo_lookAtAssigned f_Mo_lookAtAssigned_24 f_Mo_lookAtAssigned_65 f_Mo_lookAtAssigned_69
    rw [e, Option.bind_some]
    rcases hv with z | ⟨u, z1, z2⟩
    · rw [z, if_neg (by decide), if_pos (by decide)]; exact ⟨_, rfl⟩
    · rw [z2]
      simp only [(zv_neg (show u < 2147483648 by omega)).1, (zv_neg (show u < 2147483648 by omega)).2, if_true, if_false, if_pos (zi_in (show u < 2147483648 by omega) (show u < 8400 by omega))]
      repeat' (first | exact ⟨_, rfl⟩ | apply yc_ex)
  obtain ⟨A, e2⟩ := this
  rw [e2, e70]
theorem yc_78F {x y w : Int32} (hg : ¬ (g.1 68 29) = 0) (hg0 : ¬ (g.1 68 29) ≤ 0) (hk : k < 33500) (hw : (g.2.1 74) k = w) (e : f_Mo_lookAtAssigned g w (nI k) = some g) : f_Mo_lookAtLoop_78 g (nI k) x y = some g := by
  unfold f_Mo_lookAtLoop_78
  rw [zv_ruleF hg, Option.bind_some, if_pos (zi_in (by omega) hk)]
  have : (g.2.1 74) (nI k).toNatClampNeg = w := by rw [nI_clamp (show k < 2147483648 by omega)]; exact hw
  rw [this, e, Option.bind_some, if_neg hg0]
/-- the name is looked up behind a fault as before -/
theorem yc_hereF {LC LM : List (List Int32)} {nf c φ k' : Nat} {F : Nat → Nat} {q w : Int32} (I : zv_I LC LM nb nf (F nb) F q h g) (hb : 0 < nb) (hc : c < 6000) (hw : zt_nr LC LM (nI c) w) : f_Mo_variable (zv_ru φ k' g) (((zv_ru φ k' g).1 68 54)) w = f_Mo_variable g ((g.1 68 54)) w := by
  obtain ⟨HS, HB, HN, HV, HC, HT, HJ, J1, J2⟩ := I
  have a := zv_here HS HB HN hb hc hw
  have b := zv_here (g := zv_ru φ k' g) (h := h) (F := F) (nb := nb) HS HB HN hb hc hw
  have eh : ((zv_ru φ k' g).1 68 54) = (g.1 68 54) := rfl
  rw [eh, (HJ hb).2]
  rcases a with ⟨v, _, _, _, v4, v5⟩ | ⟨z1, z2, _⟩
  · rcases b with ⟨v', _, _, _, v4', v5'⟩ | ⟨y1, y2, _⟩
    · rw [v5, v5', show nI v' = nI v from ?_]
      rw [v4] at v4'
      have V3 : F nb ≤ 5900 := HB.2.1.2.2
      have := (nI_eq (by omega) (by omega)).mp (Option.some.inj v4')
      rw [show v' = v by omega]
    · rw [v4] at y1
      exact absurd (Option.some.inj y1) (zc_m1 (by have V3 : F nb ≤ 5900 := HB.2.1.2.2; omega))
  · rcases b with ⟨v', _, _, _, v4', v5'⟩ | ⟨y1, y2, _⟩
    · rw [z1] at v4'
      exact absurd (Option.some.inj v4').symm (zc_m1 (by have V3 : F nb ≤ 5900 := HB.2.1.2.2; omega))
    · rw [z2, y2]
theorem yc_tmT (a b st : Int32) : ∃ T, f_Cd_times a b st = some T ∧ (¬ st = 0 → 0 ≤ T.toInt) := by
  by_cases z : st = 0
  · subst z
    have : f_Cd_times a b 0 = some 0 := by
      unfold f_Cd_times f_Cd_times_17
      rw [if_pos (by decide), if_pos (show zd_absl ((0 : Int32).toInt64) = 0 by decide), ite_self]
    exact ⟨0, this, fun n => absurd rfl n⟩
  · obtain ⟨T, t1, t2, _⟩ := yc_tm (a := a) (b := b) z
    exact ⟨T, t1, fun _ => t2⟩
end YGW
section YGP
variable {LC LM : List (List Int32)} {F : Nat → Nat} {bb : Nat} {h g : zs_H} {P Q Qm : Nat → Prop}
/-- a constant, with the model's value -/
theorem yc_cst2 {c : Nat} {kv : Int32 × Int32} {o : Unit} {lc r : zt_T} {x x' e e' up y : Int32} (hc : c = 30 ∨ c = 31) (A : yb_F F bb h g P Q (.inner c kv o lc r) x x' e e') (M : zt_M LC LM g (.inner c kv o lc r) Qm up x' y) : ∃ a ka, P a ∧ a < 32784 ∧ x = nI a ∧ ka < 33500 ∧ x' = nI ka ∧ (h.2.1 13) a = nI c ∧ (h.2.1 16) a = kv.2 ∧ (g.2.1 72) ka = nI c ∧ (g.2.1 74) ka = kv.2 ∧ yb_F F bb h g P Q r ((h.2.1 18) a) ((g.2.1 78) ka) e e' ∧ ∃ Q2 y2, zt_M LC LM g r Q2 up ((g.2.1 78) ka) y2 := by
  obtain ⟨a, ka, a1, a2, a3, b1, b2, b3, t1, t2, t3, B⟩ := yc_cst hc A
  obtain ⟨b', Q1, Q2, z3, q1, q2, q3, q4, q5, q6, q7, _, _, _, q11, q12⟩ := zv_hM M
  have ekb : b' = ka := by rw [b3] at q1; exact ((nI_eq (by omega) (by omega)).mp q1).symm
  subst ekb
  rw [if_neg (by rcases hc with e | e <;> rw [e] <;> decide)] at q6
  exact ⟨a, b', a1, a2, a3, b2, b3, t1, t2, t3, q6, B, Q2, z3, q11⟩
theorem yc_k11 {kv : Int32 × Int32} {o : Unit} {lc r : zt_T} {x x' e e' : Int32} (A : yb_F F bb h g P Q (.inner 11 kv o lc r) x x' e e') : ∃ a ka, P a ∧ a < 32784 ∧ x = nI a ∧ ka < 33500 ∧ x' = nI ka ∧ (h.2.1 13) a = 11 ∧ (g.2.1 72) ka = 11 := by
  obtain ⟨a, ka, xl, ⟨a1, a2, a3⟩, ⟨b1, b2, b3, b4⟩, N, _, _⟩ := A
  refine ⟨a, ka, a1, a2, a3, b2, b3, ?_, b4⟩
  rcases N with N | ⟨t, t1, t2, t3, N⟩
  · rcases N with e | ⟨_, e, _⟩ | ⟨e, _⟩ | ⟨e, _⟩ | ⟨e, _⟩
    · exact absurd e (by decide)
    · exact e
    · exact absurd e (by decide)
    · exact absurd e (by decide)
    · exact absurd e (by decide)
  · rcases N with ⟨e, _⟩ | ⟨e, _⟩ | ⟨e, _⟩ | ⟨e, _⟩ | ⟨e, _⟩ | ⟨e, _⟩ | ⟨e, _⟩ | ⟨e, _⟩
    · exact absurd e (by decide)
    · exact absurd e (by decide)
    all_goals exact absurd e (by decide)
end YGP
theorem yc_g19 {l : zt_T} (h : zg_A 19 (zg_run 19 0 l) = true) : ∃ c1 kv1 o1 l1 c2 kv2 o2 l2, (c1 = 30 ∨ c1 = 31) ∧ (c2 = 30 ∨ c2 = 31) ∧ ((∃ kv3 o3 l3, l = .inner c1 kv1 o1 l1 (.inner c2 kv2 o2 l2 (.inner 11 kv3 o3 l3 .leaf))) ∨ ∃ c3 kv3 o3 l3 kv4 o4 l4, (c3 = 30 ∨ c3 = 31) ∧ l = .inner c1 kv1 o1 l1 (.inner c2 kv2 o2 l2 (.inner c3 kv3 o3 l3 (.inner 11 kv4 o4 l4 .leaf)))) := by
  have key : ∀ r ∈ zg_R, r.1 = 19 → r.2 = (0, [30, 31], 1) ∨ r.2 = (1, [30, 31], 2) ∨ r.2 = (2, [30, 31], 3) ∨ r.2 = (2, [11], 4) ∨ r.2 = (3, [11], 4) := by decide +kernel
  have two : ∀ c, c ∈ [30, 31] → c = 30 ∨ c = 31 := by intro c hc; simp only [List.mem_cons, List.not_mem_nil, or_false] at hc; exact hc
  have nxt : ∀ (st c : Nat) (kv : Int32 × Int32) (o : Unit) (lc r : zt_T) (to : Nat), zg_A 19 (zg_run 19 st (.inner c kv o lc r)) = true → zg_q 19 st c = to → zg_A 19 (zg_run 19 to r) = true := by
    intro st c kv o lc r to h e
    have : zg_run 19 st (.inner c kv o lc r) = zg_run 19 to r := by show zg_run 19 (zg_q 19 st c) r = _; rw [e]
    rw [← this]; exact h
  have end4 : ∀ r, zg_A 19 (zg_run 19 4 r) = true → r = .leaf := by
    intro r hr
    cases r with
    | leaf => rfl
    | inner c kv o lc r =>
      obtain ⟨cs, to, m1, m2, m3⟩ := zv_qR (yb_run hr)
      have k1 := key _ m1 rfl
      simp only [Prod.mk.injEq] at k1
      rcases k1 with ⟨a, _⟩ | ⟨a, _⟩ | ⟨a, _⟩ | ⟨a, _⟩ | ⟨a, _⟩ <;> exact absurd a (by decide)
  cases l with
  | leaf => exact absurd h (by decide)
  | inner c1 kv1 o1 l1 r1 =>
    obtain ⟨cs, to, m1, m2, m3⟩ := zv_qR (yb_run h)
    have k1 := key _ m1 rfl
    simp only [Prod.mk.injEq] at k1
    obtain ⟨e2, e3⟩ : cs = [30, 31] ∧ to = 1 := by
      rcases k1 with ⟨_, a, b⟩ | ⟨a, _⟩ | ⟨a, _⟩ | ⟨a, _⟩ | ⟨a, _⟩
      · exact ⟨a, b⟩
      all_goals exact absurd a (by decide)
    rw [e2] at m2
    have h1 := nxt 0 c1 kv1 o1 l1 r1 1 h (m3.trans e3)
    cases r1 with
    | leaf => exact absurd h1 (by decide)
    | inner c2 kv2 o2 l2 r2 =>
      obtain ⟨cs, to, n1, n2, n3⟩ := zv_qR (yb_run h1)
      have k1 := key _ n1 rfl
      simp only [Prod.mk.injEq] at k1
      obtain ⟨e2, e3⟩ : cs = [30, 31] ∧ to = 2 := by
        rcases k1 with ⟨a, _⟩ | ⟨_, a, b⟩ | ⟨a, _⟩ | ⟨a, _⟩ | ⟨a, _⟩
        · exact absurd a (by decide)
        · exact ⟨a, b⟩
        all_goals exact absurd a (by decide)
      rw [e2] at n2
      have h2 := nxt 1 c2 kv2 o2 l2 r2 2 h1 (n3.trans e3)
      refine ⟨c1, kv1, o1, l1, c2, kv2, o2, l2, two _ m2, two _ n2, ?_⟩
      cases r2 with
      | leaf => exact absurd h2 (by decide)
      | inner c3 kv3 o3 l3 r3 =>
        obtain ⟨cs, to, p1, p2, p3⟩ := zv_qR (yb_run h2)
        have k1 := key _ p1 rfl
        simp only [Prod.mk.injEq] at k1
        rcases k1 with ⟨a, _⟩ | ⟨a, _⟩ | ⟨_, a, b⟩ | ⟨_, a, b⟩ | ⟨a, _⟩
        · exact absurd a (by decide)
        · exact absurd a (by decide)
        · rw [a] at p2
          have h3 := nxt 2 c3 kv3 o3 l3 r3 3 h2 (p3.trans b)
          cases r3 with
          | leaf => exact absurd h3 (by decide)
          | inner c4 kv4 o4 l4 r4 =>
            obtain ⟨cs, to, q1, q2, q3⟩ := zv_qR (yb_run h3)
            have k1 := key _ q1 rfl
            simp only [Prod.mk.injEq] at k1
            rcases k1 with ⟨a, _⟩ | ⟨a, _⟩ | ⟨a, _⟩ | ⟨a, _⟩ | ⟨_, a, b⟩
            · exact absurd a (by decide)
            · exact absurd a (by decide)
            · exact absurd a (by decide)
            · exact absurd a (by decide)
            · rw [a] at q2
              have ec := List.mem_singleton.mp q2
              have er := end4 r4 (nxt 3 c4 kv4 o4 l4 r4 4 h3 (q3.trans b))
              subst ec; subst er
              exact .inr ⟨c3, kv3, o3, l3, kv4, o4, l4, two _ p2, rfl⟩
        · rw [a] at p2
          have ec := List.mem_singleton.mp p2
          have er := end4 r3 (nxt 2 c3 kv3 o3 l3 r3 4 h2 (p3.trans b))
          subst ec; subst er
          exact .inl ⟨kv3, o3, l3, rfl⟩
        · exact absurd a (by decide)
