/-! The coder: constants, all nodes of an expression. -/
section YKD
variable {g h : zs_H} {k : Nat}
theorem yk_val {x : Nat} (hx : x < 32784) : ya_val h (nI x) = (h.2.1 16) x := by
  unfold ya_val
  rw [if_neg (zc_m1 (by omega)), nI_clamp (show x < 2147483648 by omega)]
theorem yk_con {x : Nat} (hx : x < 32784) : ya_con h (nI x) ↔ zv_kc h x := by
  unfold ya_con
  rw [nI_clamp (show x < 2147483648 by omega)]
  exact ⟨fun z => z.resolve_left (zc_m1 (by omega)), .inr⟩
/-- the arguments' values -/
theorem yk_va {l : zt_T} {Q : Nat → Prop} {x : Int32} {dl D : Nat} (hk : k < 33500) (T : yk_T h g l Q x ((g.2.1 76) k)) (h1 : 1 ≤ zt_ln l) (h3 : zt_ln l ≤ 3) (hc : yk_co h l x) (hd : zg_d l ≤ dl) (hdl : dl < 1000) (hD : 2 * dl + 1 ≤ D) : ∃ a, x = nI a ∧ a < 32784 ∧ f_Mo_valueAlone D g (nI k) = f_Mo_valueAlone_81 g (nI k) ((h.2.1 16) a) (ya_val h ((h.2.1 18) a)) (ya_val h (if (h.2.1 18) a = -1 then -1 else (h.2.1 18) ((h.2.1 18) a).toNatClampNeg)) := by
  obtain ⟨D, rfl⟩ : ∃ z, D = z + 1 := ⟨D - 1, by omega⟩
  have key : ∀ (Q1 : Nat → Prop) (dl1 i b : Nat), yk_n h g Q1 dl1 i b → zv_kc h i → b < 33500 → ¬ Q1 b → dl1 < dl → f_Mo_valueOf D g (nI b) = some ((h.2.1 16) i) := by
    intro Q1 dl1 i b A c hb hQ hd1
    rcases A with ⟨_, _, A⟩ | ⟨z, _⟩
    · exact yk_v1 (by omega) hb hQ A (by omega)
    · exact absurd c z
  cases l with
  | leaf => exact absurd h1 (by decide)
  | inner kd kv o l r =>
    have d1 : max (zg_d l + 1) (zg_d r) ≤ zg_d (.inner kd kv o l r) := zg_d1
    have n1 : zt_ln (.inner kd kv o l r) = 1 + zt_ln r := rfl
    obtain ⟨i, b, Q1, Q2, ⟨i1, i2⟩, ⟨b1, b2, b3⟩, q1, q2, A, B⟩ := T
    have hc' : zv_kc h x.toNatClampNeg ∧ yk_co h r ((h.2.1 18) x.toNatClampNeg) := hc
    rw [i2, nI_clamp (show i < 2147483648 by omega)] at hc'
    have ea := key Q1 _ i b A hc'.1 b2 (fun z => (q1 b z).2 rfl) (by omega)
    refine ⟨i, i2, i1, ?_⟩
    show g_Mo_valueAlone (f_Mo_valueOf D) g (nI k) = _
    unfold g_Mo_valueAlone
    rw [if_pos (zi_in (by omega) hk), nI_clamp (show k < 2147483648 by omega), b3, if_pos ((zc_le (k := 0) (by decide) (by omega)).mpr (by omega)), ea, Option.bind_some, if_pos (zi_in (by omega) b2), nI_clamp (show b < 2147483648 by omega)]
    cases r with
    | leaf =>
      obtain ⟨e1, e2⟩ := B
      rw [e2, if_neg (by decide), e1]
      unfold f_Mo_valueAlone_52 f_Mo_valueAlone_67
      rw [if_pos (by decide)]
      rfl
    | inner kd2 kv2 o2 l2 r2 =>
      have d2 : max (zg_d l2 + 1) (zg_d r2) ≤ zg_d (.inner kd2 kv2 o2 l2 r2) := zg_d1
      have n2 : zt_ln (.inner kd2 kv2 o2 l2 r2) = 1 + zt_ln r2 := rfl
      obtain ⟨i', b', Q1', Q2', ⟨i1', i2'⟩, ⟨b1', b2', b3'⟩, q1', q2', A', B'⟩ := B
      have hc2 : zv_kc h ((h.2.1 18) i).toNatClampNeg ∧ yk_co h r2 ((h.2.1 18) ((h.2.1 18) i).toNatClampNeg) := hc'.2
      rw [i2', nI_clamp (show i' < 2147483648 by omega)] at hc2
      have ea' := key Q1' _ i' b' A' hc2.1 b2' (fun z => (q1' b' z).2 rfl) (by omega)
      rw [b3', if_pos ((zc_le (k := 0) (by decide) (by omega)).mpr (by omega)), ea', Option.bind_some]
      unfold f_Mo_valueAlone_52 f_Mo_valueAlone_67
      rw [if_neg (nI_pos (by omega)), if_pos (zi_in (by omega) b2'), nI_clamp (show b' < 2147483648 by omega), i2', yk_val i1', if_neg (zc_m1 (show i' < 2147483648 by omega)), nI_clamp (show i' < 2147483648 by omega)]
      cases r2 with
      | leaf =>
        obtain ⟨e1, e2⟩ := B'
        rw [e2, if_neg (by decide), e1]
        rfl
      | inner kd3 kv3 o3 l3 r3 =>
        have d3 : max (zg_d l3 + 1) (zg_d r3) ≤ zg_d (.inner kd3 kv3 o3 l3 r3) := zg_d1
        have n3 : zt_ln (.inner kd3 kv3 o3 l3 r3) = 1 + zt_ln r3 := rfl
        obtain ⟨i3, b3x, Q1x, Q2x, ⟨i1x, i2x⟩, ⟨b1x, b2x, b3y⟩, q1x, q2x, Ax, Bx⟩ := B'
        have hc3 : zv_kc h ((h.2.1 18) i').toNatClampNeg ∧ yk_co h r3 ((h.2.1 18) ((h.2.1 18) i').toNatClampNeg) := hc2.2
        rw [i2x, nI_clamp (show i3 < 2147483648 by omega)] at hc3
        have eax := key Q1x _ i3 b3x Ax hc3.1 b2x (fun z => (q1x b3x z).2 rfl) (by omega)
        rw [b3y, if_pos ((zc_le (k := 0) (by decide) (by omega)).mpr (by omega)), eax, Option.bind_some, i2x, yk_val i1x]
/-- which arguments are constants -/
theorem yk_cs {l : zt_T} {Q : Nat → Prop} {x x' x5 x6 : Int32} {a : Nat} (T : yk_T h g l Q x x') (h1 : 1 ≤ zt_ln l) (h3 : zt_ln l ≤ 3) (e : x = nI a) (ha : a < 32784) (e5 : x5 = (h.2.1 18) a) (e6 : x6 = (if x5 = -1 then -1 else (h.2.1 18) x5.toNatClampNeg)) : (ya_con h (nI a) ∧ ya_con h x5 ∧ ya_con h x6) ↔ yk_co h l x := by
  have cm : ya_con h (-1) ↔ True := ⟨fun _ => trivial, fun _ => .inl rfl⟩
  cases l with
  | leaf => exact absurd h1 (by decide)
  | inner kd kv o l r =>
    have n1 : zt_ln (.inner kd kv o l r) = 1 + zt_ln r := rfl
    obtain ⟨i, b, Q1, Q2, ⟨i1, i2⟩, _, _, _, _, B⟩ := T
    have ei : i = a := (nI_eq (by omega) (by omega)).mp (i2.symm.trans e)
    subst ei
    show _ ↔ zv_kc h x.toNatClampNeg ∧ yk_co h r ((h.2.1 18) x.toNatClampNeg)
    rw [i2, nI_clamp (show i < 2147483648 by omega), yk_con i1]
    cases r with
    | leaf =>
      obtain ⟨e1, _⟩ := B
      rw [e1] at e5
      rw [e5, if_pos rfl] at e6
      rw [e5, e6, cm]
      exact ⟨fun z => ⟨z.1, trivial⟩, fun z => ⟨z.1, trivial, trivial⟩⟩
    | inner kd2 kv2 o2 l2 r2 =>
      have n2 : zt_ln (.inner kd2 kv2 o2 l2 r2) = 1 + zt_ln r2 := rfl
      obtain ⟨i', b', Q1', Q2', ⟨i1', i2'⟩, _, _, _, _, B'⟩ := B
      rw [i2'] at e5
      rw [e5, if_neg (zc_m1 (show i' < 2147483648 by omega)), nI_clamp (show i' < 2147483648 by omega)] at e6
      show _ ↔ zv_kc h i ∧ (zv_kc h ((h.2.1 18) i).toNatClampNeg ∧ yk_co h r2 ((h.2.1 18) ((h.2.1 18) i).toNatClampNeg))
      rw [i2', nI_clamp (show i' < 2147483648 by omega), e5, yk_con i1', e6]
      cases r2 with
      | leaf =>
        obtain ⟨e1, _⟩ := B'
        rw [e1, cm]
        exact Iff.rfl
      | inner kd3 kv3 o3 l3 r3 =>
        have n3 : zt_ln (.inner kd3 kv3 o3 l3 r3) = 1 + zt_ln r3 := rfl
        obtain ⟨i3, _, _, _, ⟨i1x, i2x⟩, _, _, _, _, Bx⟩ := B'
        show _ ↔ zv_kc h i ∧ zv_kc h i' ∧ (zv_kc h ((h.2.1 18) i').toNatClampNeg ∧ yk_co h r3 ((h.2.1 18) ((h.2.1 18) i').toNatClampNeg))
        rw [i2x, nI_clamp (show i3 < 2147483648 by omega), yk_con i1x]
        cases r3 with
        | leaf => exact ⟨fun z => ⟨z.1, z.2.1, z.2.2, trivial⟩, fun z => ⟨z.1, z.2.1, z.2.2.1⟩⟩
        | inner kd4 kv4 o4 l4 r4 =>
          have n4 : zt_ln (.inner kd4 kv4 o4 l4 r4) = 1 + zt_ln r4 := rfl
          omega
theorem yk_bz : ∀ s, s < 14 → ∀ ty, ty < 3 → ((f_Cd_operation (nI s) (nI ty) = 3 ∨ f_Cd_operation (nI s) (nI ty) = 4 ∨ f_Cd_operation (nI s) (nI ty) = 8 ∨ f_Cd_operation (nI s) (nI ty) = 9) ↔ 12 ≤ s) := by decide +kernel
theorem yk_by {s ty : Nat} {y : Int32} (hs : s < 14) (ht : ty < 3) : f_Cd_isByZero (f_Cd_operation (nI s) (nI ty)) y = 0 ↔ ¬ (12 ≤ s ∧ y = 0) := by
  have e := yk_bz s hs ty ht
  unfold f_Cd_isByZero
  by_cases z : y = 0
  · rw [if_pos z]
    by_cases w : 12 ≤ s
    · refine ⟨fun q => ?_, fun q => absurd ⟨w, z⟩ q⟩
      rcases e.mpr w with c | c | c | c <;> rw [c] at q <;> exact absurd q (by decide)
    · refine ⟨fun _ q => w q.1, fun _ => ?_⟩
      rw [if_neg (fun c => w (e.mp (.inl c))), if_neg (fun c => w (e.mp (.inr (.inl c)))), if_neg (fun c => w (e.mp (.inr (.inr (.inl c))))), if_neg (fun c => w (e.mp (.inr (.inr (.inr c)))))]
  · rw [if_neg z]
    exact ⟨fun _ q => z q.2, fun _ => rfl⟩
end YKD
/-- the kinds of both sides agree on what is a constant -/
theorem yk_const1 {LC LM : List (List Int32)} {F : Nat → Nat} {bb : Nat} {h g : zs_H} {P Q : Nat → Prop} (HS : zv_S LC LM g) (hP : ∀ j, P j → j < 32784) {kd : Nat} {kv : Int32 × Int32} {o : Unit} {l r : zt_T} (ihl : zg_ok l → yb_top l → ∀ (Qm : Nat → Prop) (up x x' y : Int32), zt_M LC LM g l Qm up x' y → yb_F F bb h g P Q l x x' (-1) (-1) → zg_d l < 199 → yk_T h g l Qm x x') (hA : zg_A kd (zg_run kd 0 l) = true) (hv : zg_v kd kv.2) (okl : zg_ok l) (hE : kd ∈ yb_E) : ∀ (Qm : Nat → Prop) (up x x' y ea eb : Int32), zt_M LC LM g (.inner kd kv o l r) Qm up x' y → yb_F F bb h g P Q (.inner kd kv o l r) x x' ea eb → zg_d l + 1 < 199 → ∃ (i k : Nat) (Q1 Q2 : Nat → Prop) (z2 : Int32), (i < 32784 ∧ x = nI i) ∧ (Qm k ∧ k < 33500 ∧ x' = nI k) ∧ (∀ j, Q1 j → Qm j ∧ ¬ j = k) ∧ (∀ j, Q2 j → Qm j) ∧ yk_n h g Q1 (zg_d l) i k ∧ zt_M LC LM g r Q2 up ((g.2.1 78) k) z2 ∧ yb_F F bb h g P Q r ((h.2.1 18) i) ((g.2.1 78) k) ea eb := by
  have hz := zF_big
  intro Qm up x x' y ea eb ⟨k', P1, P2, z1, z2, qk, k40, ex', NM, hP1, hP2, Ml, Mr, ey⟩ ⟨i, k, xl, ⟨pi, i2, ix⟩, ⟨qk', k2, kx, km⟩, N, Al, Ar⟩ hd
  have ek : k' = k := (nI_eq (by omega) (by omega)).mp (ex'.symm.trans kx)
  subst ek
  refine ⟨i, k', P1, P2, z2, ⟨i2, ix⟩, ⟨qk, k2, kx⟩, fun j hj => ⟨(hP1 j hj).1, (hP1 j hj).2.1⟩, fun j hj => (hP2 j hj).1, ?_, Mr, Ar⟩
  obtain ⟨n1, n2, n3, n4, n5⟩ := NM
  rcases N with N | ⟨ty, t1, t2, t3, N⟩
  · exact absurd hE (yb_SE N)
  · rcases N with ⟨e, c1, _⟩ | ⟨e, c1, c2, _⟩ | ⟨e, c1, c2, _⟩ | ⟨e, c1, c2, _⟩ | ⟨e, c1, c2, b, _, _, _, _, _, _, c, ec, hc, hcF, _⟩ | ⟨e, s, a, x5, x6, s1, s2, ⟨s3, s3', _⟩, s4, ⟨y1, y2, y3, y4, y5, y6⟩, s6⟩ | ⟨e, s, a, b, s1, s2, s3, s4, s5, ⟨s6, _⟩, s7⟩ | ⟨e, s, a, s1, s2, s3, ⟨s4, _⟩, s5⟩
    · subst e
      exact .inr ⟨by rintro (z | z) <;> rw [c1] at z <;> exact absurd z (by decide), yk_kl (km := 6) k2 (by decide) km⟩
    · have el : l = .leaf := by
        rcases e with e | e <;> subst e
        · exact zv_nolf (kd := 30) (by decide +kernel) hA
        · exact zv_nolf (kd := 31) (by decide +kernel) hA
      have ekm : zt_km kd = kd := by rcases e with e | e <;> subst e <;> rfl
      have enk : zt_nk kd = false := by rcases e with e | e <;> subst e <;> rfl
      rw [enk, if_neg (by decide)] at n3
      rw [ekm] at km
      refine .inl ⟨?_, ?_, ?_⟩
      · rcases e with e | e <;> subst e
        · exact .inl c1
        · exact .inr c1
      · have := yk_kl (g := g) (dl := zg_d l) k2 (show kd < 34 by rcases e with e | e <;> omega) km
        rw [if_pos e] at this
        exact this
      · refine yk_v0 k2 (show kd < 100 by rcases e with e | e <;> omega) (by rcases e with e | e <;> omega) km ?_
        intro D hD
        obtain ⟨D, rfl⟩ : ∃ z, D = z + 1 := ⟨D - 1, by omega⟩
        rw [el] at Ml
        show g_Mo_valueAlone (f_Mo_valueOf D) g (nI k') = _
        unfold g_Mo_valueAlone
        rw [if_pos (zi_in (by omega) k2), nI_clamp (show k' < 2147483648 by omega), Ml.1, if_neg (by decide), n3, c2]
    · subst e
      exact .inr ⟨by rintro (z | z) <;> rw [c1] at z <;> exact absurd z (by decide), yk_kl (km := 32) k2 (by decide) km⟩
    · subst e
      exact .inr ⟨by rintro (z | z) <;> rw [c1] at z <;> exact absurd z (by decide), yk_kl (km := 33) k2 (by decide) km⟩
    · subst e
      rw [if_pos (by decide), ec] at n3
      have w := zv_wF HS n3 hc
      rw [if_neg hcF] at w
      exact .inr ⟨by rintro (z | z) <;> rw [c1] at z <;> exact absurd z (by decide), yk_k34 k2 km w⟩
    · subst e
      have T := ihl okl (yb_g34 hA) P1 _ _ _ _ Ml Al (by omega)
      rw [if_pos (by decide), s2] at n3
      have w := zv_wF HS n3 (show 50 + s < 6000 by omega)
      rw [if_pos (by omega), show 50 + s - 50 = s by omega] at w
      have hn1 : 1 ≤ zt_ln l ∧ zt_ln l ≤ 3 := by
        rw [s3]
        have : ∀ s, s < 10 → 1 ≤ ya_ar s ∧ ya_ar s ≤ 3 := by decide
        exact this s s1
      have ha : a < 32784 := hP a y2
      have cs := yk_cs T hn1.1 hn1.2 y1 ha y3 y4
      have lp : ∀ D, zg_d l ≤ D → _ := fun D hD => yk_loop l P1 xl _ D zF T hD (by omega) (by omega)
      rcases s6 with ⟨f1, f2, f3⟩ | ⟨f1, f2, _⟩
      · have hco := cs.mp f1
        refine .inl ⟨.inl f2, yk_kL (km := 34) k2 (.inr ⟨rfl, s1, w⟩) km (fun D hD => ((lp D hD).resolve_right (fun z => z.1 hco)).2), ?_⟩
        refine yk_v0 k2 (km := 34) (by decide) (by decide) km ?_
        intro D hD
        obtain ⟨a', q1, q2, q3⟩ := yk_va k2 T hn1.1 hn1.2 hco (Nat.le_refl _) (by omega) hD
        have ea : a' = a := (nI_eq (by omega) (by omega)).mp (q1.symm.trans y1)
        subst ea
        rw [q3]
        unfold f_Mo_valueAlone_81
        have hst : ∃ kk, kk < 33500 ∧ (g.2.1 76) k' = nI kk ∧ (s = 0 ∨ s = 5 ∨ s = 6 → (g.2.1 100) kk = nI ty) := by
          cases l with
          | leaf => exact absurd hn1.1 (by decide)
          | inner cd ckv co cl cr =>
            obtain ⟨ic, kc, xc, ⟨_, ic2, icx⟩, ⟨_, kc2, kcx, _⟩, Nc, _, _⟩ := Al
            refine ⟨kc, kc2, kcx, fun q => ?_⟩
            have : ic = a' := (nI_eq (by omega) (by omega)).mp (icx.symm.trans y1)
            subst this
            have hEc : cd ∈ yb_E := (yb_g34 hA).1
            rcases Nc with Nc | ⟨ty', _, w2, w3, _⟩
            · exact absurd hEc (yb_SE Nc)
            · rw [w3, ← w2]; exact s3' q
        obtain ⟨kk, kk1, kk2, kk3⟩ := hst
        rw [if_pos (zi_in (by omega) k2), nI_clamp (show k' < 2147483648 by omega), km, if_neg (by decide), yi_std k2 kk1 s1 t1 kk2 s4 kk3]
        rw [y3] at f3 y4
        rw [y4] at f3
        rw [f3]; rfl
      · refine .inr ⟨by rintro (z | z) <;> rw [f2] at z <;> exact absurd z (by decide), yk_kL (km := 34) k2 (.inr ⟨rfl, s1, w⟩) km (fun D hD => ((lp D hD).resolve_left (fun z => f1 (cs.mpr z.1))).2)⟩
    · subst e
      obtain ⟨cd, ckv, co, cl, cd2, ckv2, co2, cl2, el, hc, hc2⟩ := yb_g2 hA
      subst el
      have dl0 : max (zg_d cl + 1) (max (zg_d cl2 + 1) 0) ≤ zg_d (.inner cd ckv co cl (.inner cd2 ckv2 co2 cl2 .leaf)) := zg_d2 (r := .leaf)
      obtain ⟨i1, k1, Q1, Q2, ⟨w1, w2⟩, ⟨w3, w4, w5⟩, w6, w7, A1, i1', k1', Q1', Q2', ⟨v1, v2⟩, ⟨v3, v4, v5⟩, v6, v7, A2, _⟩ := ihl okl ⟨hc, hc2, trivial⟩ P1 _ _ _ _ Ml Al (by omega)
      have ea : i1 = a := (nI_eq (by omega) (by have := hP a s4; omega)).mp (w2.symm.trans s3)
      subst ea
      have eb : i1' = b := (nI_eq (by omega) (by have := hP b s6; omega)).mp (v2.symm.trans s5)
      subst eb
      have hl : (g.2.1 77) k' = nI k1' ∧ (g.2.1 75) k1 = nI k' := by
        obtain ⟨q, R1, R2, zz1, zz2, _, q40, qx, NQ, _, _, _, ⟨q', R1', R2', zz1', zz2', _, q40', qx', _, _, _, _, mr, ey2⟩, ey1⟩ := Ml
        rw [mr.2, if_pos rfl] at ey2
        rw [ey2, qx', if_neg (zc_m1 (by omega))] at ey1
        have eq : q = k1 := (nI_eq (by omega) (by omega)).mp (qx.symm.trans w5)
        subst eq
        refine ⟨?_, NQ.2.2.2.1⟩
        rw [n5, ey1, ← qx', v5]
      rw [if_neg (by decide), s2] at n3
      have hQ1 : ∀ j, Q1 j → P1 j := fun j hj => (w6 j hj).1
      have sg := yi_sign k2 s1 t1 n3 t3
      have by0 := yk_by (y := (h.2.1 16) i1') s1 t1
      have nz : ¬ (12 ≤ s ∧ (h.2.1 16) i1' = 0) → ¬ ((h.2.1 16) i1' = 0 ∧ (f_Cd_operation (nI s) (nI ty) = 3 ∨ f_Cd_operation (nI s) (nI ty) = 4 ∨ f_Cd_operation (nI s) (nI ty) = 8 ∨ f_Cd_operation (nI s) (nI ty) = 9)) := fun z q => z ⟨(yk_bz s s1 ty t1).mp q.2, q.1⟩
      have nq : ¬ Q1' k1' := fun z => (v6 k1' z).2 rfl
      rcases s7 with ⟨⟨f0, f1, f2⟩, f3, f4⟩ | ⟨f1, f2, _⟩
      · obtain ⟨_, a2, a3⟩ := A1.resolve_right (fun z => z.1 f0)
        obtain ⟨_, b2, b3⟩ := A2.resolve_right (fun z => z.1 f1)
        have nn := by0.mp f2
        refine .inl ⟨.inl f3, yk_k35 k2 v4 (show zg_d cl < _ by omega) (show zg_d cl2 < _ by omega) (by omega) s1 km w5 hl.1 n3 a2 b2 nq (.inr b3) (by rw [if_neg (by decide), if_neg nn]), ?_⟩
        exact yk_v35 k2 w4 v4 (show zg_d cl < _ by omega) (show zg_d cl2 < _ by omega) (by omega) km w5 hl.2 hl.1 hQ1 w3 nq a3 b3 sg (by rw [yi_twoA (nz nn)]; exact f4)
      · refine .inr ⟨by rintro (z | z) <;> rw [f2] at z <;> exact absurd z (by decide), ?_⟩
        rcases A2 with ⟨b1, b2, b3⟩ | ⟨b1, b2⟩
        · rcases A1 with ⟨a1, a2, a3⟩ | ⟨a1, a2⟩
          · refine yk_k35 k2 v4 (show zg_d cl < _ by omega) (show zg_d cl2 < _ by omega) (by omega) s1 km w5 hl.1 n3 a2 b2 nq (.inr b3) ?_
            rw [if_neg (by decide)]
            by_cases nn : 12 ≤ s ∧ (h.2.1 16) i1' = 0
            · rw [if_pos nn]
            · exact absurd ⟨a1, b1, by0.mpr nn⟩ f1
          · refine yk_k35 k2 v4 (show zg_d cl < _ by omega) (show zg_d cl2 < _ by omega) (by omega) s1 km w5 hl.1 n3 a2 b2 nq (.inr b3) ?_
            rw [if_neg (by decide), ite_self]
        · rcases A1 with ⟨a1, a2, a3⟩ | ⟨a1, a2⟩
          · exact yk_k35 (vb := 0) k2 v4 (show zg_d cl < _ by omega) (show zg_d cl2 < _ by omega) (by omega) s1 km w5 hl.1 n3 a2 b2 nq (.inl rfl) (by rw [if_pos rfl])
          · exact yk_k35 (vb := 0) k2 v4 (show zg_d cl < _ by omega) (show zg_d cl2 < _ by omega) (by omega) s1 km w5 hl.1 n3 a2 b2 nq (.inl rfl) (by rw [if_pos rfl])
    · subst e
      obtain ⟨cd, ckv, co, cl, el, hc⟩ := yb_g1 (.inr rfl) hA
      have T := ihl okl (by rw [el]; exact ⟨hc, trivial⟩) P1 _ _ _ _ Ml Al (by omega)
      have hn1 : zt_ln l = 1 := by rw [el]; rfl
      rw [if_neg (by decide), s2] at n3
      have lp : ∀ D, zg_d l ≤ D → _ := fun D hD => yk_loop l P1 xl _ D zF T hD (by omega) (by omega)
      have ha : a < 32784 := hP a s4
      have cs : zv_kc h a ↔ yk_co h l xl := by
        rw [el]
        show _ ↔ zv_kc h xl.toNatClampNeg ∧ True
        rw [s3, nI_clamp (show a < 2147483648 by omega)]
        exact ⟨fun z => ⟨z, trivial⟩, fun z => z.1⟩
      rcases s5 with ⟨f1, f2, f3⟩ | ⟨f1, f2, _⟩
      · have hco := cs.mp f1
        refine .inl ⟨.inl f2, yk_kL (km := 36) (s := 0) k2 (.inl rfl) km (fun D hD => ((lp D hD).resolve_right (fun z => z.1 hco)).2), ?_⟩
        refine yk_v0 k2 (km := 36) (by decide) (by decide) km ?_
        intro D hD
        obtain ⟨a', q1, q2, q3⟩ := yk_va k2 T (by omega) (by omega) hco (Nat.le_refl _) (by omega) hD
        have ea : a' = a := (nI_eq (by omega) (by omega)).mp (q1.symm.trans s3)
        subst ea
        rw [q3]
        unfold f_Mo_valueAlone_81
        rw [if_pos (zi_in (by omega) k2), nI_clamp (show k' < 2147483648 by omega), km, if_pos (by decide), yi_turn k2 s1 t1 n3 t3, Option.bind_some, yi_one, f3]
      · exact .inr ⟨by rintro (z | z) <;> rw [f2] at z <;> exact absurd z (by decide), yk_kL (km := 36) (s := 0) k2 (.inl rfl) km (fun D hD => ((lp D hD).resolve_left (fun z => f1 (cs.mpr z.1))).2)⟩
theorem yk_const {LC LM : List (List Int32)} {F : Nat → Nat} {bb : Nat} {h g : zs_H} {P Q : Nat → Prop} (HS : zv_S LC LM g) (hP : ∀ j, P j → j < 32784) : ∀ (t : zt_T), zg_ok t → yb_top t → ∀ (Qm : Nat → Prop) (up x x' y : Int32), zt_M LC LM g t Qm up x' y → yb_F F bb h g P Q t x x' (-1) (-1) → zg_d t < 199 → yk_T h g t Qm x x' := by
  intro t
  induction t with
  | leaf => intro _ _ Qm up x x' y _ A _; exact A
  | inner kd kv o l r ihl ihr =>
    intro ⟨⟨hA, hv⟩, okl, okr⟩ ⟨hE, tr⟩ Qm up x x' y HM HF hd
    have hd0 : max (zg_d l + 1) (zg_d r) ≤ zg_d (.inner kd kv o l r) := zg_d1
    obtain ⟨i, k, Q1, Q2, z2, a1, a2, a3, a4, a5, Mr, Ar⟩ := yk_const1 HS hP ihl hA hv okl hE Qm up x x' y (-1) (-1) HM HF (by omega)
    exact ⟨i, k, Q1, Q2, a1, a2, a3, a4, a5, ihr okr tr Q2 up _ _ z2 Mr Ar (by omega)⟩
