/-! The coder: bodies, IF, on both sides. -/
theorem yk_BCm {h0 : zs_H} {dl dl2 i ow oc : Nat} {T : ys} (h : dl ≤ dl2) (A : yk_BC h0 dl i ow oc T) : yk_BC h0 dl2 i ow oc T := fun D d n v q h' f e ho hn hD hd => A D d n v q h' f e ho hn (by omega) (by omega)
theorem yk_BMm {g0 : zs_H} {b dl dl2 k c20 c11 : Nat} {T : ys} (h : dl ≤ dl2) (A : yk_BM g0 b dl k T c20 c11) : yk_BM g0 b dl2 k T c20 c11 := fun D n s v q w ww g f c hl hw hn h20 h11 hD => A D n s v q w ww g f c hl hw hn h20 h11 (by omega)
theorem yc_gA' {kd st : Nat} {l : zt_T} (h : zg_A kd (zg_run kd st l) = true) : ¬ zg_run kd st l = 99 := fun z => by
  rw [z, zv_A99] at h
  exact absurd h (by decide)
section YJF
variable {LC LM : List (List Int32)} {nb b sz ow : Nat} {F Fb X Y : Nat → Nat} {h0 g0 : zs_H} {P Q Qm : Nat → Prop} {up x x' y : Int32} {kd : Nat} {kv : Int32 × Int32} {o : Unit} {l r : zt_T}
/-- a body that has been coded -/
def yj_B (X Y : Nat → Nat) (h0 g0 : zs_H) (b : Nat) (lb : zt_T) (i k ow : Nat) (T : ys) : Prop := (yk_BC h0 (zg_d lb) i ow (yg_c 0 lb) T ∧ yk_BM g0 b (zg_d lb) k T (zg_ct 20 lb) (zg_ct 11 lb)) ∧ (yz_st T ∧ (∀ n, (yz_x T n).length ≤ zg_x lb) ∧ yz_l T ≤ 6 * zt_sz lb) ∧ yz_W X Y (yq_k h0) b T ow ∧ 3 * yz_v T ≤ zg_d lb ∧ yz_N h0 b T
theorem yj_bd (C : yj_cx LC LM nb b sz F Fb X Y h0 g0 P) (K : yj_K LC LM b sz Fb X Y h0 g0 P Q l) (H : yj_f LC LM Fb b h0 g0 P Q ow (.inner 11 kv o l r) Qm up x x' y) (ok : zg_ok (.inner 11 kv o l r)) (hd : zg_d l ≤ 187) (hz : zt_sz l + 1 ≤ sz) (hY : Y b ≤ ow) (hX : ow + yg_c 0 l ≤ X b) : ∃ (i k : Nat) (T : ys) (Q2 : Nat → Prop) (z2 : Int32), (i < 32784 ∧ x = nI i ∧ (h0.2.1 13) i = 11) ∧ (k < 33500 ∧ x' = nI k ∧ (g0.2.1 72) k = 11) ∧ yj_B X Y h0 g0 b l i k ow T ∧ yj_f LC LM Fb b h0 g0 P Q (ow + yg_c 0 l) r Q2 up ((h0.2.1 18) i) ((g0.2.1 78) k) z2 ∧ y = (if z2 = -1 then x' else z2) := by
  obtain ⟨⟨hA, _⟩, okl, _⟩ := ok
  obtain ⟨i, k, xl, Q1, Q2, z2, ⟨⟨pi, hi, ei⟩, ⟨qk, hk, ek⟩, mk⟩, N, _, _, G, _, R, ey⟩ := yj_c H
  obtain ⟨n1, n2, _⟩ := yj_pl (by decide) N
  obtain ⟨_, _, A⟩ := G (by decide)
  have e11 : yg_c 0 (.inner 11 kv o l .leaf) = yg_c 0 l := by show 0 + yg_c 0 l + 0 = _; omega
  rw [e11] at R
  obtain ⟨T, t1, t2, t3, t4⟩ := K ow Q1 (nI k) xl _ _ A okl (yc_gA hA) hd hz hY hX
  have hs2 := C.2.2.2.2.2
  have hln := zv_lnsz l
  obtain ⟨b1, b2, b3, b4, b5⟩ := yk_body (t := l) C.2.2.2.2.1 (by omega) hi hk (by omega) (by rw [n2]; exact t1)
  exact ⟨i, k, T, Q2, z2, ⟨hi, ei, n1⟩, ⟨hk, ek, mk⟩, ⟨⟨b1, b2⟩, ⟨b3, t2, b5⟩, t3, t4⟩, R, ey⟩
theorem yj_n11 {i k n : Nat} {v xl : Int32} (hE : kd ∈ yb_E) (N : yb_N Fb b h0 g0 P Q kd v i k xl n) : ¬ (h0.2.1 13) i = 11 := by
  rcases N with N | ⟨ty, _, _, _, N⟩
  · exact absurd hE (yb_SE N)
  · rcases N with ⟨_, a, _⟩ | ⟨e, a, _⟩ | ⟨_, a, _⟩ | ⟨_, a, _⟩ | ⟨_, a, _⟩ | ⟨_, _, _, _, _, _, _, _, _, _, ⟨_, a, _⟩ | ⟨_, a, _⟩⟩ | ⟨_, _, _, _, _, _, _, _, _, _, ⟨_, a, _⟩ | ⟨_, a, _⟩⟩ | ⟨_, _, _, _, _, _, _, ⟨_, a, _⟩ | ⟨_, a, _⟩⟩
    · rw [a]; decide
    · rcases e with e | e <;> subst e <;> rw [a] <;> decide
    all_goals (rw [a]; decide)
/-- the branches of an IF -/
def yj_G (X Y : Nat → Nat) (h0 g0 : zs_H) (b dlb : Nat) (CI MI : Nat → Nat → Nat → List yI → Prop) (l : zt_T) (x x' : Int32) (ow : Nat) (B : ys) : Prop := yk_GL h0 g0 b dlb CI MI B x x' ow (ow + yg_c 0 l) (zg_ct 20 l) (zg_ct 11 l) ∧ (yz_n B ≤ zt_sz l ∧ yz_l B ≤ 6 * zt_sz l ∧ ∀ n, (yz_x B n).length ≤ zg_x l) ∧ (yz_br B ∧ yz_W X Y (yq_k h0) b B ow) ∧ 3 * yz_v B ≤ dlb ∧ (B = .leaf ↔ l = .leaf) ∧ yz_N h0 b B
theorem yj_q15 {c st : Nat} {kv : Int32 × Int32} {o : Unit} {lc r : zt_T} (h : zg_A 15 (zg_run 15 st (.inner c kv o lc r)) = true) (hs : st = 0 ∨ st = 2) : (c ∈ yb_E ∧ ∃ kv2 o2 lb r2, r = .inner 11 kv2 o2 lb r2 ∧ zg_A 15 (zg_run 15 2 r2) = true) ∨ (c = 11 ∧ r = .leaf) := by
  have key : ∀ r ∈ zg_R, r.1 = 15 → r.2 = (0, yb_E, 1) ∨ r.2 = (1, [11], 2) ∨ r.2 = (2, yb_E, 1) ∨ r.2 = (2, [11], 3) := by decide +kernel
  obtain ⟨cs, to, m1, m2, m3, m4⟩ := yj_q (yc_gA' h)
  have h1 : zg_A 15 (zg_run 15 to r) = true := by
    have : zg_run 15 st (.inner c kv o lc r) = zg_run 15 to r := by show zg_run 15 (zg_q 15 st c) r = _; rw [m3]
    rw [← this]; exact h
  have k1 := key _ m1 rfl
  simp only [Prod.mk.injEq] at k1
  have fE : cs = yb_E → to = 1 → (c ∈ yb_E ∧ ∃ kv2 o2 lb r2, r = .inner 11 kv2 o2 lb r2 ∧ zg_A 15 (zg_run 15 2 r2) = true) := by
    intro e1 e2
    subst e1; subst e2
    refine ⟨m2, ?_⟩
    cases r with
    | leaf => exact absurd h1 (by decide)
    | inner c2 kv2 o2 lb r2 =>
      obtain ⟨cs2, to2, p1, p2, p3, p4⟩ := yj_q (yc_gA' h1)
      have k2 := key _ p1 rfl
      simp only [Prod.mk.injEq] at k2
      rcases k2 with ⟨a, _⟩ | ⟨_, a, a'⟩ | ⟨a, _⟩ | ⟨a, _⟩
      · exact absurd a (by decide)
      · subst a; subst a'
        have e11 := List.mem_singleton.mp p2
        subst e11
        refine ⟨kv2, o2, lb, r2, rfl, ?_⟩
        have : zg_run 15 1 (.inner 11 kv2 o2 lb r2) = zg_run 15 2 r2 := by show zg_run 15 (zg_q 15 1 11) r2 = _; rw [p3]
        rw [← this]; exact h1
      · exact absurd a (by decide)
      · exact absurd a (by decide)
  rcases k1 with ⟨_, a, a'⟩ | ⟨a, _⟩ | ⟨_, a, a'⟩ | ⟨_, a, a'⟩
  · exact .inl (fE a a')
  · omega
  · exact .inl (fE a a')
  · right
    subst a; subst a'
    refine ⟨List.mem_singleton.mp m2, ?_⟩
    cases r with
    | leaf => rfl
    | inner c2 kv2 o2 lb r2 =>
      obtain ⟨cs2, to2, p1, p2, p3, p4⟩ := yj_q (yc_gA' h1)
      have k2 := key _ p1 rfl
      simp only [Prod.mk.injEq] at k2
      rcases k2 with ⟨a, _⟩ | ⟨a, _⟩ | ⟨a, _⟩ | ⟨a, _⟩ <;> exact absurd a (by decide)
theorem yj_ifs (C : yj_cx LC LM nb b sz F Fb X Y h0 g0 P) : ∀ (m : Nat) (l : zt_T), zt_sz l ≤ m → (∀ u, zt_sz u < zt_sz l → yj_K LC LM b sz Fb X Y h0 g0 P Q u) → ∀ (st ow dlb : Nat) (Qm : Nat → Prop) (up x x' y : Int32), (st = 0 ∨ st = 2) → zg_A 15 (zg_run 15 st l) = true → zg_ok l → yj_f LC LM Fb b h0 g0 P Q ow l Qm up x x' y → zg_d l ≤ dlb + 1 → dlb ≤ 187 → zt_sz l + 1 ≤ sz → Y b ≤ ow → ow + yg_c 0 l ≤ X b → ∃ B, yj_G X Y h0 g0 b dlb (yk_ci h0) (yk_mi g0 b (-1)) l x x' ow B := by
  intro m
  induction m with
  | zero =>
    intro l hm _ st ow dlb Qm up x x' y _ _ _ A _ _ _ _ _
    cases l with
    | leaf => exact ⟨.leaf, ⟨A.1.1, A.1.2, rfl⟩, ⟨Nat.le_refl _, Nat.le_refl _, fun n => Nat.le_refl _⟩, ⟨trivial, trivial⟩, Nat.zero_le _, ⟨fun _ => rfl, fun _ => rfl⟩, fun LD _ => trivial⟩
    | inner c kv o lc r => exact absurd hm (by show ¬ 1 + zt_sz lc + zt_sz r ≤ 0; omega)
  | succ m ih =>
    intro l hm K st ow dlb Qm up x x' y hst hA ok A hd hdb hz hY hX
    cases l with
    | leaf => exact ⟨.leaf, ⟨A.1.1, A.1.2, rfl⟩, ⟨Nat.le_refl _, Nat.le_refl _, fun n => Nat.le_refl _⟩, ⟨trivial, trivial⟩, Nat.zero_le _, ⟨fun _ => rfl, fun _ => rfl⟩, fun LD _ => trivial⟩
    | inner c kv o lc r =>
      have hd0 : max (zg_d lc + 1) (zg_d r) ≤ zg_d (.inner c kv o lc r) := zg_d1
      have hz0 : zt_sz (.inner c kv o lc r) = 1 + zt_sz lc + zt_sz r := rfl
      rcases yj_q15 hA hst with ⟨hE, kv2, o2, lb, r2, er, hA2⟩ | ⟨e11, er⟩
      · subst er
        obtain ⟨ok1, okl, okr⟩ := id ok
        obtain ⟨_, okb, okr2⟩ := id okr
        have hd1 : max (zg_d lb + 1) (zg_d r2) ≤ zg_d (.inner 11 kv2 o2 lb r2) := zg_d1
        have hz1 : zt_sz (.inner 11 kv2 o2 lb r2) = 1 + zt_sz lb + zt_sz r2 := rfl
        obtain ⟨i', k', xl, Q1', Q2', z2', ⟨⟨_, hi', ei'⟩, ⟨_, hk', ek'⟩, mk⟩, N, _, _, _, _, R, _⟩ := yj_c A
        obtain ⟨i, k, Q1, L, ⟨hi, ei⟩, ⟨hk, ek, nQ⟩, ⟨LC', LM'⟩, ⟨Ll, Le⟩⟩ := yj_e C ok hE (by omega) (by omega) A.1 A.2.1
        have e1 : i' = i := (nI_eq (by omega) (by omega)).mp (ei'.symm.trans ei)
        subst e1
        have e2 : k' = k := (nI_eq (by omega) (by omega)).mp (ek'.symm.trans ek)
        subst e2
        have gc : yg_c 0 (.inner c kv o lc .leaf) = 0 := yj_g0 _ ⟨ok1, okl, trivial⟩ ⟨hE, trivial⟩
        rw [gc, Nat.add_zero] at R
        have gl : yg_c 0 (.inner c kv o lc (.inner 11 kv2 o2 lb r2)) = yg_c 0 lb + yg_c 0 r2 := by
          rw [yg_c1, gc]; show 0 + (0 + yg_c 0 lb + yg_c 0 r2) = _; omega
        rw [gl] at hX
        obtain ⟨ib, kb, T, Q2, z2, ⟨hib, eib, kib⟩, ⟨hkb, ekb, kkb⟩, ⟨⟨BC, BM⟩, ⟨t1, t2, t3⟩, t4, t5⟩, R2, _⟩ := yj_bd C (K lb (by omega)) R okr (by omega) (by omega) hY (by omega)
        obtain ⟨Br, ⟨g1, ⟨g2, g3, g4⟩, g5, g6, g7⟩⟩ := ih r2 (by omega) (fun u hu => K u (by omega)) 2 _ dlb Q2 up _ _ z2 (.inr rfl) hA2 okr2 R2 (by omega) hdb (by omega) (by omega) (by omega)
        have kE : ∀ z ∈ yb_E, zt_km z = z ∧ ¬ z = 11 ∧ ¬ z = 17 ∧ z < 100 ∧ ¬ z = 20 ∧ ¬ z = 15 ∧ ¬ z = 16 := by decide
        obtain ⟨q1, q2, q3, q4, q5, q6, q7⟩ := kE c hE
        rw [q1] at mk
        have c20 : zg_ct 20 (.inner c kv o lc (.inner 11 kv2 o2 lb r2)) = zg_ct 20 lc + (zg_ct 20 lb + zg_ct 20 r2) := by
          show (if c = 20 then 1 else 0) + zg_ct 20 lc + (0 + zg_ct 20 lb + zg_ct 20 r2) = _
          rw [if_neg q5]; omega
        have c11 : zg_ct 11 (.inner c kv o lc (.inner 11 kv2 o2 lb r2)) = zg_ct 11 lc + (1 + zg_ct 11 lb + zg_ct 11 r2) := by
          show (if c = 11 then 1 else 0) + zg_ct 11 lc + (1 + zg_ct 11 lb + zg_ct 11 r2) = _
          rw [if_neg q2]; omega
        have cx : zg_x (.inner c kv o lc (.inner 11 kv2 o2 lb r2)) = zg_x lb + zg_x r2 := by
          show (if c = 20 then 1 else if c = 11 ∨ c = 15 ∨ c = 16 ∨ c = 17 then zg_x lc else 0) + (zg_x lb + zg_x r2) = _
          rw [if_neg q5, if_neg (by omega), Nat.zero_add]
        refine ⟨.inner 5 (L, 0, 0) () T Br, ⟨i', k', ib, kb, ib, kb, yg_c 0 lb, zg_ct 20 lb, zg_ct 11 lb, zg_ct 20 r2, zg_ct 11 r2, ⟨hi, ei, hib⟩, ⟨hk, ek, hkb⟩, ⟨yk_BCm (by omega) BC, yk_BMm (by omega) BM⟩, ⟨t1, fun n => Nat.le_trans (t2 n) (zg_x20 lb)⟩, .inr ⟨rfl, rfl, ⟨rfl, hib, yj_n11 hE N, eib, zg_d lc, by omega, LC'⟩, yk_miI hk (by rw [mk]; exact fun z => q3 ((zc_eq (k := 17) (by decide) (by omega)).mp z)) (by rw [mk]; exact fun z => q2 ((zc_eq (k := 11) (by decide) (by omega)).mp z)) ekb (by omega) nQ LM', fun z => ?_, fun z => ?_⟩, ⟨by omega, by omega⟩, ?_⟩, ⟨?_, ?_, fun n => ?_⟩, ⟨⟨.inl rfl, g5.1⟩, ⟨Le.1 0, Le.2, t1, t4⟩, yz_Wm _ _ _ (by omega) g5.2⟩, ?_, ⟨fun z => (by cases z), fun z => (by cases z)⟩, fun LD nl => ⟨⟨yo_Em (fun z => z.elim) (Ll.2.1 LD), t5.2 LD nl⟩, g7.2 LD nl⟩⟩
        · have e := g7.1.mp z
          subst e
          exact R2.1.1
        · cases r2 with
          | leaf => exact absurd (g7.1.mpr rfl) z
          | inner c3 kv3 o3 l3 r3 =>
            obtain ⟨i3, k3, _, _, _, _, ⟨⟨_, h1, h2⟩, ⟨_, h3, h4⟩, _⟩, _⟩ := yj_c R2
            exact ⟨⟨i3, h1, h2⟩, k3, h3, h4⟩
        · rw [gl, ← Nat.add_assoc]; exact g1
        · show 1 + yz_n Br ≤ _; omega
        · show L.length + 1 + yz_l T + (if yz_f Br = true then 0 else 1) + yz_l Br ≤ _
          have : (if yz_f Br = true then 0 else 1) ≤ 1 := by split <;> omega
          omega
        · show (yz_x Br _ ++ yz_x T _).length ≤ _
          rw [List.length_append, cx]
          have := g4 (n + (L.length + 1 + yz_l T + (if yz_f Br = true then 0 else 1)))
          have := t2 (n + L.length + 1)
          show (yz_x Br (n + (L.length + 1 + yz_l T + (if yz_f Br = true then 0 else 1)))).length + (yz_x T (n + L.length + 1)).length ≤ _
          omega
        · show 3 * max (yz_v T) (yz_v Br) ≤ _
          omega
      · subst er; subst e11
        obtain ⟨_, okb, _⟩ := id ok
        have gl : yg_c 0 (.inner 11 kv o lc .leaf) = yg_c 0 lc := by show 0 + yg_c 0 lc + 0 = _; omega
        rw [gl] at hX
        obtain ⟨i, k, T, Q2, z2, ⟨hi, ei, ki⟩, ⟨hk, ek, kk⟩, ⟨⟨BC, BM⟩, ⟨t1, t2, t3⟩, t4, t5⟩, R2, _⟩ := yj_bd C (K lc (by omega)) A ok (by omega) (by omega) hY (by omega)
        refine ⟨.inner 6 ([], 0, 0) () T .leaf, ⟨i, k, i, k, i, k, yg_c 0 lc, zg_ct 20 lc, zg_ct 11 lc, 0, 0, ⟨hi, ei, hi⟩, ⟨hk, ek, hk⟩, ⟨yk_BCm (by omega) BC, yk_BMm (by omega) BM⟩, ⟨t1, fun n => Nat.le_trans (t2 n) (zg_x20 lc)⟩, .inl ⟨rfl, rfl, rfl, rfl, rfl, rfl, rfl, ki, kk⟩, ⟨?_, ?_⟩, R2.1.1, R2.1.2, by rw [gl]⟩, ⟨?_, ?_, fun n => ?_⟩, ⟨⟨.inr ⟨rfl, rfl⟩, trivial⟩, ⟨t1, t4⟩, trivial⟩, ?_, ⟨fun z => (by cases z), fun z => (by cases z)⟩, fun LD nl => ⟨t5.2 LD nl, trivial⟩⟩
        · show zg_ct 20 lc + 0 ≤ 0 + zg_ct 20 lc + 0; omega
        · show zg_ct 11 lc + 1 + 0 ≤ 1 + zg_ct 11 lc + 0; omega
        · show 1 + 0 ≤ _; omega
        · show yz_l T + 0 ≤ _; omega
        · have := t2 n
          show ([] ++ yz_x T n).length ≤ zg_x lc + 0
          rw [List.nil_append]; exact this
        · show 3 * max (yz_v T) 0 ≤ _; omega
theorem yj_15 {i k : Nat} {xl : Int32} {Q1 : Nat → Prop} (C : yj_cx LC LM nb b sz F Fb X Y h0 g0 P) (K : ∀ u, zt_sz u < zt_sz l → yj_K LC LM b sz Fb X Y h0 g0 P Q u) (hi : i < 32784) (hk : k < 33500) (km : (g0.2.1 72) k = 15) (N : yb_N Fb b h0 g0 P Q 15 kv.2 i k xl (zt_ln l)) (A : yj_f LC LM Fb b h0 g0 P Q ow l Q1 (nI k) xl ((g0.2.1 76) k) ((g0.2.1 77) k)) (hA : zg_A 15 (zg_run 15 0 l) = true) (ok : zg_ok l) (hd : zg_d l ≤ 187) (hz : zt_sz l + 1 ≤ sz) (hY : Y b ≤ ow) (hX : ow + yg_c 0 l ≤ X b) : ∃ T, yj_1 X Y h0 g0 b 15 kv l i k ow T := by
  obtain ⟨_, ec, _⟩ := yj_pl (by decide) N
  have hs2 := C.2.2.2.2.2
  have h1 : 1 ≤ zg_d l := by
    cases l with
    | leaf => exact absurd hA (by decide)
    | inner c kvc oc lc r =>
      have : max (zg_d lc + 1) (zg_d r) ≤ zg_d (.inner c kvc oc lc r) := zg_d1
      omega
  obtain ⟨B, G, ⟨g2, g3, g4⟩, g5, g6, _, gN⟩ := yj_ifs C (zt_sz l) l (Nat.le_refl _) K 0 ow (zg_d l - 1) Q1 (nI k) xl _ _ (.inl rfl) hA ok A (by omega) (by omega) hz hY hX
  have gl : yg_c 0 (.inner 15 kv () l .leaf) = ow + yg_c 0 l - ow := by show 0 + yg_c 0 l + 0 = _; omega
  have c20 : zg_ct 20 (.inner 15 kv () l .leaf) = zg_ct 20 l := by show 0 + zg_ct 20 l + 0 = _; omega
  have c11 : zg_ct 11 (.inner 15 kv () l .leaf) = zg_ct 11 l := by show 0 + zg_ct 11 l + 0 = _; omega
  have hdn : max (zg_d l + 1) 0 ≤ zg_d (.inner 15 kv () l .leaf) := zg_d1 (r := .leaf)
  refine ⟨.inner 1 ([], 0, 0) () B .leaf, ⟨by decide, trivial⟩, ⟨?_, ?_⟩, ⟨fun n => ?_, ?_⟩, ⟨g5, trivial⟩, ?_, fun LD nl => ⟨gN LD nl, trivial⟩⟩
  · rw [gl]
    exact yk_S15 (dlb := zg_d l - 1) C.2.2.2.2.1 (by omega) hi (by omega) (by omega) (by omega) (by rw [ec]; exact G)
  · rw [c20, c11]
    exact yk_T15 (dlb := zg_d l - 1) hk km (by omega) (by omega) G
  · have := g4 n
    show ([] ++ yz_x B n).length ≤ zg_x l + 0
    rw [List.nil_append]; exact this
  · show yz_l B + 0 ≤ 6 * (1 + zt_sz l + 0); omega
  · show 3 * max (yz_v B) 0 ≤ _; omega
end YJF
