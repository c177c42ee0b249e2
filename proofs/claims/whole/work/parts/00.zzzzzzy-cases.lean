/-! The coder: CASE, on both sides, to its end. -/
section YJY
variable {LC LM : List (List Int32)} {nb b sz ow : Nat} {F Fb X Y : Nat → Nat} {h0 g0 : zs_H} {P Q Qm : Nat → Prop} {up x x' y : Int32} {kd : Nat} {kv : Int32 × Int32} {o : Unit} {l r : zt_T}
/-- a choice: its ranges, its body -/
theorem yj_rg (C : yj_cx LC LM nb b sz F Fb X Y h0 g0 P) : ∀ (l : zt_T), (∀ u, zt_sz u < zt_sz l → yj_K LC LM b sz Fb X Y h0 g0 P Q u) → ∀ (st ow : Nat) (Qm : Nat → Prop) (up x x' y : Int32), (st = 0 ∨ st = 1) → zg_A 17 (zg_run 17 st l) = true → zg_ok l → yj_f LC LM Fb b h0 g0 P Q ow l Qm up x x' y → zg_d l ≤ 188 → zt_sz l + 1 ≤ sz → Y b ≤ ow → ow + yg_c 0 l ≤ X b → ∃ (rs : List (Int32 × Option Int32)) (lb : zt_T) (ib kb : Nat) (T : ys), (yr_C h0 rs x ib ∧ yr_M g0 rs x' kb) ∧ (ib < 32784 ∧ kb < 33500) ∧ yj_B X Y h0 g0 b lb ib kb ow T ∧ y = nI kb ∧ (st = 0 → ¬ rs = []) ∧ (2 * rs.length + 1 + zt_sz lb ≤ zt_sz l ∧ zg_d lb + 1 ≤ zg_d l) ∧ (zg_ct 20 lb ≤ zg_ct 20 l ∧ 1 + zg_ct 11 lb ≤ zg_ct 11 l) ∧ zg_x lb ≤ zg_x l ∧ yg_c 0 l = yg_c 0 lb := by
  have key : ∀ r ∈ zg_R, r.1 = 17 → r.2 = (0, [18], 1) ∨ r.2 = (1, [18], 1) ∨ r.2 = (1, [11], 2) := by decide +kernel
  intro l
  induction l with
  | leaf => intro _ st ow Qm up x x' y hst hA; rcases hst with e | e <;> subst e <;> exact absurd hA (by decide)
  | inner c kv o lc r _ ihr =>
    intro K st ow Qm up x x' y hst hA ok A hd hz hY hX
    have hd0 : max (zg_d lc + 1) (zg_d r) ≤ zg_d (.inner c kv o lc r) := zg_d1
    have hz0 : zt_sz (.inner c kv o lc r) = 1 + zt_sz lc + zt_sz r := rfl
    obtain ⟨ok1, okl, okr⟩ := id ok
    obtain ⟨cs, to, m1, m2, m3, _⟩ := yj_q (yc_gA' hA)
    have k1 := key _ m1 rfl
    simp only [Prod.mk.injEq] at k1
    have hA1 : zg_A 17 (zg_run 17 to r) = true := by
      have : zg_run 17 st (.inner c kv o lc r) = zg_run 17 to r := by show zg_run 17 (zg_q 17 st c) r = _; rw [m3]
      rw [← this]; exact hA
    have k18 : (cs = [18] ∧ to = 1) ∨ (st = 1 ∧ cs = [11] ∧ to = 2) := by
      rcases k1 with ⟨_, a, a'⟩ | ⟨_, a, a'⟩ | ⟨a0, a, a'⟩
      · exact .inl ⟨a, a'⟩
      · exact .inl ⟨a, a'⟩
      · exact .inr ⟨a0, a, a'⟩
    rcases k18 with ⟨e1, e2⟩ | ⟨e0, e1, e2⟩
    · subst e1; subst e2
      have ec := List.mem_singleton.mp m2
      subst ec
      obtain ⟨i, k, xl, Q1, Q2, z2, ⟨⟨_, hi, ei⟩, ⟨_, hk, ek⟩, mk⟩, N, _, _, _, ⟨Al, Ml⟩, R, ey⟩ := yj_c A
      obtain ⟨n1, n2, _⟩ := yj_pl (by decide) N
      obtain ⟨w, w2, lo, klo, ⟨w3, w4, w5, w6⟩, ⟨w7, w8, w9, w10⟩, w11, w12⟩ := yj_18 Al Ml ok1.1
      have g18 : yg_c 0 (.inner 18 kv o lc .leaf) = 0 := by
        show 0 + yg_c 0 lc + 0 = 0
        rw [w12]
      rw [g18, Nat.add_zero] at R
      have gl : yg_c 0 (.inner 18 kv o lc r) = yg_c 0 r := by rw [yg_c1, g18, Nat.zero_add]
      rw [gl] at hX ⊢
      obtain ⟨rs, lb, ib, kb, T, ⟨r1, r2⟩, ⟨r3, r4⟩, r5, r6, _, ⟨r8, r9⟩, ⟨r10, r11⟩, r12, r13⟩ := ihr (fun u hu => K u (by omega)) 1 ow Q2 up _ _ z2 (.inr rfl) hA1 okr R (by omega) (by omega) hY hX
      have c20 : zg_ct 20 (.inner 18 kv o lc r) = 0 + zg_ct 20 lc + zg_ct 20 r := rfl
      have c11 : zg_ct 11 (.inner 18 kv o lc r) = 0 + zg_ct 11 lc + zg_ct 11 r := rfl
      refine ⟨(w, w2) :: rs, lb, ib, kb, T, ⟨⟨i, lo, hi, ei, n1, by rw [n2]; exact w3, w4, w5, w6, r1⟩, ⟨k, klo, hk, ek, mk, w7, w8, w9, w10, r2⟩⟩, ⟨r3, r4⟩, r5, ?_, fun _ z => (by cases z), ⟨?_, by omega⟩, ⟨by omega, by omega⟩, ?_, r13⟩
      · rw [ey, r6, if_neg (zc_m1 (by omega))]
      · show 2 * (rs.length + 1) + 1 + zt_sz lb ≤ _; omega
      · show zg_x lb ≤ 0 + zg_x r; omega
    · subst e0; subst e1; subst e2
      have ec := List.mem_singleton.mp m2
      subst ec
      have er : r = .leaf := by
        cases r with
        | leaf => rfl
        | inner c3 kv3 o3 l3 r3 =>
          obtain ⟨cs, to, m1'', _⟩ := yj_q (yc_gA' hA1)
          have k1 := key _ m1'' rfl
          simp only [Prod.mk.injEq] at k1
          rcases k1 with ⟨a, _⟩ | ⟨a, _⟩ | ⟨a, _⟩ <;> exact absurd a (by decide)
      subst er
      have gl : yg_c 0 (.inner 11 kv o lc .leaf) = yg_c 0 lc := by show 0 + yg_c 0 lc + 0 = _; omega
      rw [gl] at hX
      obtain ⟨i, k, T, Q2, z2, ⟨hi, ei, ki⟩, ⟨hk, ek, kk⟩, B, R2, ey⟩ := yj_bd C (K lc (by omega)) A ok (by omega) (by omega) hY hX
      refine ⟨[], lc, i, k, T, ⟨⟨ei, hi, by rw [ki]; decide⟩, ⟨ek, hk, by rw [kk]; decide⟩⟩, ⟨hi, hk⟩, B, ?_, fun z => absurd z (by decide), ⟨?_, by omega⟩, ⟨?_, ?_⟩, ?_, gl⟩
      · rw [ey, if_pos (show (g0.2.1 78) k = -1 ∧ z2 = -1 from R2.2.1).2]; exact ek
      · show 2 * 0 + 1 + zt_sz lc ≤ 1 + zt_sz lc + 0; omega
      · show zg_ct 20 lc ≤ 0 + zg_ct 20 lc + 0; omega
      · show 1 + zg_ct 11 lc ≤ 1 + zg_ct 11 lc + 0; omega
      · show zg_x lc ≤ zg_x lc + 0; omega
/-- the choices of a CASE -/
theorem yj_cas {own : Nat} (C : yj_cx LC LM nb b sz F Fb X Y h0 g0 P) (ho : own < X b) : ∀ (l : zt_T), (∀ u, zt_sz u < zt_sz l → yj_K LC LM b sz Fb X Y h0 g0 P Q u) → ∀ (ow dlb : Nat) (Qm : Nat → Prop) (up x x' y : Int32), zg_A 16 (zg_run 16 1 l) = true → zg_ok l → yj_f LC LM Fb b h0 g0 P Q ow l Qm up x x' y → zg_d l ≤ dlb + 1 → dlb ≤ 187 → zt_sz l + 1 ≤ sz → Y b ≤ ow → ow + yg_c 0 l ≤ X b → ∃ B, yj_G X Y h0 g0 b dlb (yk_cc h0 own) (yk_mi g0 b (nI own)) l x x' ow B := by
  have key : ∀ r ∈ zg_R, r.1 = 16 → r.2 = (0, yb_E, 1) ∨ r.2 = (1, [17], 1) ∨ r.2 = (1, [11], 2) := by decide +kernel
  have hs2 := C.2.2.2.2.2
  intro l
  induction l with
  | leaf => intro _ ow dlb Qm up x x' y _ _ A _ _ _ _ _; exact ⟨.leaf, ⟨A.1.1, A.1.2, rfl⟩, ⟨Nat.le_refl _, Nat.le_refl _, fun n => Nat.le_refl _⟩, ⟨trivial, trivial⟩, Nat.zero_le _, ⟨fun _ => rfl, fun _ => rfl⟩, fun LD _ => trivial⟩
  | inner c kv o lc r _ ihr =>
    intro K ow dlb Qm up x x' y hA ok A hd hdb hz hY hX
    have hd0 : max (zg_d lc + 1) (zg_d r) ≤ zg_d (.inner c kv o lc r) := zg_d1
    have hz0 : zt_sz (.inner c kv o lc r) = 1 + zt_sz lc + zt_sz r := rfl
    obtain ⟨ok1, okl, okr⟩ := id ok
    obtain ⟨cs, to, m1, m2, m3, _⟩ := yj_q (yc_gA' hA)
    have k1 := key _ m1 rfl
    simp only [Prod.mk.injEq] at k1
    have hA1 : zg_A 16 (zg_run 16 to r) = true := by
      have : zg_run 16 1 (.inner c kv o lc r) = zg_run 16 to r := by show zg_run 16 (zg_q 16 1 c) r = _; rw [m3]
      rw [← this]; exact hA
    rcases k1 with ⟨a, _⟩ | ⟨_, e1, e2⟩ | ⟨_, e1, e2⟩
    · exact absurd a (by decide)
    · subst e1; subst e2
      have ec := List.mem_singleton.mp m2
      subst ec
      obtain ⟨i, k, xl, Q1, Q2, z2, ⟨⟨_, hi, ei⟩, ⟨_, hk, ek⟩, mk⟩, N, _, _, G, _, R, _⟩ := yj_c A
      obtain ⟨n1, n2, _⟩ := yj_pl (by decide) N
      obtain ⟨_, _, A17⟩ := G (by decide)
      have gn : yg_c 0 (.inner 17 kv o lc .leaf) = yg_c 0 lc := by show 0 + yg_c 0 lc + 0 = _; omega
      have gl : yg_c 0 (.inner 17 kv o lc r) = yg_c 0 lc + yg_c 0 r := by rw [yg_c1, gn]
      rw [gn] at R
      rw [gl] at hX
      obtain ⟨rs, lb, ib, kb, T, ⟨r1, r2⟩, ⟨r3, r4⟩, ⟨⟨BC, BM⟩, ⟨t1, t2, t3⟩, t4, t5⟩, r6, r7, ⟨r8, r9⟩, ⟨r10, r11⟩, r12, r13⟩ := yj_rg C lc (fun u hu => K u (by omega)) 0 ow Q1 (nI k) xl _ _ (.inl rfl) ok1.1 okl A17 (by omega) (by omega) hY (by omega)
      obtain ⟨Br, ⟨g1, ⟨g2, g3, g4⟩, g5, g6, g7⟩⟩ := ihr (fun u hu => K u (by omega)) _ dlb Q2 up _ _ z2 hA1 okr R (by omega) hdb (by omega) (by omega) (by omega)
      have c20 : zg_ct 20 (.inner 17 kv o lc r) = 0 + zg_ct 20 lc + zg_ct 20 r := rfl
      have c11 : zg_ct 11 (.inner 17 kv o lc r) = 0 + zg_ct 11 lc + zg_ct 11 r := rfl
      have cx : zg_x (.inner 17 kv o lc r) = zg_x lc + zg_x r := rfl
      have hl8 := yr_sl (own := own) rs 0
      refine ⟨.inner 5 (yr_s own 0 rs, 0, 0) () T Br, ⟨i, k, ib, kb, i, k, yg_c 0 lb, zg_ct 20 lb, zg_ct 11 lb, zg_ct 20 r, zg_ct 11 r, ⟨hi, ei, hi⟩, ⟨hk, ek, hk⟩, ⟨yk_BCm (by omega) BC, yk_BMm (by omega) BM⟩, ⟨t1, fun n => Nat.le_trans (t2 n) (zg_x20 lb)⟩, .inr ⟨rfl, rfl, yk_ccC C.2.2.2.2.1 (by omega) hi (by rw [n1]; decide) (by omega) (by rw [n2]; exact r1), yk_miC hk mk r6 (by omega) r2, fun z => ?_, fun z => ?_⟩, ⟨by omega, by omega⟩, ?_⟩, ⟨?_, ?_, fun n => ?_⟩, ⟨⟨.inl rfl, g5.1⟩, ⟨yr_s0 (r7 rfl), yr_si ho rs 0, t1, t4⟩, yz_Wm _ _ _ (by omega) g5.2⟩, ?_, ⟨fun z => (by cases z), fun z => (by cases z)⟩, fun LD nl => ⟨⟨yr_sB (r7 rfl), t5.2 LD nl⟩, g7.2 LD nl⟩⟩
      · have e := g7.1.mp z
        subst e
        exact R.1.1
      · cases r with
        | leaf => exact absurd (g7.1.mpr rfl) z
        | inner c3 kv3 o3 l3 r3 =>
          obtain ⟨i3, k3, _, _, _, _, ⟨⟨_, h1, h2⟩, ⟨_, h3, h4⟩, _⟩, _⟩ := yj_c R
          exact ⟨⟨i3, h1, h2⟩, k3, h3, h4⟩
      · rw [gl, ← Nat.add_assoc, ← r13]; exact g1
      · show 1 + yz_n Br ≤ _; omega
      · show (yr_s own 0 rs).length + 1 + yz_l T + (if yz_f Br = true then 0 else 1) + yz_l Br ≤ _
        have : (if yz_f Br = true then 0 else 1) ≤ 1 := by split <;> omega
        omega
      · show (yz_x Br (n + ((yr_s own 0 rs).length + 1 + yz_l T + (if yz_f Br = true then 0 else 1))) ++ yz_x T (n + (yr_s own 0 rs).length + 1)).length ≤ _
        rw [List.length_append, cx]
        have := g4 (n + ((yr_s own 0 rs).length + 1 + yz_l T + (if yz_f Br = true then 0 else 1)))
        have := t2 (n + (yr_s own 0 rs).length + 1)
        omega
      · show 3 * max (yz_v T) (yz_v Br) ≤ _
        omega
    · subst e1; subst e2
      have ec := List.mem_singleton.mp m2
      subst ec
      have er : r = .leaf := by
        cases r with
        | leaf => rfl
        | inner c3 kv3 o3 l3 r3 =>
          obtain ⟨cs, to, m1'', _⟩ := yj_q (yc_gA' hA1)
          have k1 := key _ m1'' rfl
          simp only [Prod.mk.injEq] at k1
          rcases k1 with ⟨a, _⟩ | ⟨a, _⟩ | ⟨a, _⟩ <;> exact absurd a (by decide)
      subst er
      have gl : yg_c 0 (.inner 11 kv o lc .leaf) = yg_c 0 lc := by show 0 + yg_c 0 lc + 0 = _; omega
      rw [gl] at hX
      obtain ⟨i, k, T, Q2, z2, ⟨hi, ei, ki⟩, ⟨hk, ek, kk⟩, ⟨⟨BC, BM⟩, ⟨t1, t2, t3⟩, t4, t5⟩, R2, _⟩ := yj_bd C (K lc (by omega)) A ok (by omega) (by omega) hY (by omega)
      refine ⟨.inner 6 ([], 0, 0) () T .leaf, ⟨i, k, i, k, i, k, yg_c 0 lc, zg_ct 20 lc, zg_ct 11 lc, 0, 0, ⟨hi, ei, hi⟩, ⟨hk, ek, hk⟩, ⟨yk_BCm (by omega) BC, yk_BMm (by omega) BM⟩, ⟨t1, fun n => Nat.le_trans (t2 n) (zg_x20 lc)⟩, .inl ⟨rfl, rfl, rfl, rfl, rfl, rfl, rfl, ki, kk⟩, ⟨?_, ?_⟩, R2.1.1, R2.1.2, by rw [gl]⟩, ⟨?_, ?_, fun n => ?_⟩, ⟨⟨.inr ⟨rfl, rfl⟩, trivial⟩, ⟨t1, t4⟩, trivial⟩, ?_, ⟨fun z => (by cases z), fun z => (by cases z)⟩, fun LD nl => ⟨t5.2 LD nl, trivial⟩⟩
      · show zg_ct 20 lc + 0 ≤ 0 + zg_ct 20 lc + 0; omega
      · show zg_ct 11 lc + 1 + 0 ≤ 1 + zg_ct 11 lc + 0; omega
      · show 1 + 0 ≤ _; omega
      · show yz_l T + 0 ≤ _; omega
      · have := t2 n
        show ([] ++ yz_x T n).length ≤ zg_x lc + 0
        rw [List.nil_append]; exact this
      · show 3 * max (yz_v T) 0 ≤ _; omega
theorem yj_16 {i k : Nat} {xl : Int32} {Q1 : Nat → Prop} (C : yj_cx LC LM nb b sz F Fb X Y h0 g0 P) (K : ∀ u, zt_sz u < zt_sz l → yj_K LC LM b sz Fb X Y h0 g0 P Q u) (hi : i < 32784) (hk : k < 33500) (km : (g0.2.1 72) k = 16) (m2 : (g0.2.1 101) k = nI ow) (N : yb_N Fb b h0 g0 P Q 16 kv.2 i k xl (zt_ln l)) (A : yj_f LC LM Fb b h0 g0 P Q (ow + 1) l Q1 (nI k) xl ((g0.2.1 76) k) ((g0.2.1 77) k)) (hA : zg_A 16 (zg_run 16 0 l) = true) (ok : zg_ok l) (hd : zg_d l ≤ 187) (hz : zt_sz l + 1 ≤ sz) (hY : Y b ≤ ow) (hX : ow + 1 + yg_c 0 l ≤ X b) : ∃ T, yj_1 X Y h0 g0 b 16 kv l i k ow T := by
  have key : ∀ r ∈ zg_R, r.1 = 16 → r.2 = (0, yb_E, 1) ∨ r.2 = (1, [17], 1) ∨ r.2 = (1, [11], 2) := by decide +kernel
  obtain ⟨_, ec, _⟩ := yj_pl (by decide) N
  have hs2 := C.2.2.2.2.2
  cases l with
  | leaf => exact absurd hA (by decide)
  | inner c kvc oc lc r =>
    have hd0 : max (zg_d lc + 1) (zg_d r) ≤ zg_d (.inner c kvc oc lc r) := zg_d1
    have hz0 : zt_sz (.inner c kvc oc lc r) = 1 + zt_sz lc + zt_sz r := rfl
    obtain ⟨ok1, okl, okr⟩ := id ok
    obtain ⟨cs, to, m1, m2', m3, _⟩ := yj_q (yc_gA' hA)
    have k1 := key _ m1 rfl
    simp only [Prod.mk.injEq] at k1
    obtain ⟨e1, e2⟩ : cs = yb_E ∧ to = 1 := by
      rcases k1 with ⟨_, a, a'⟩ | ⟨a, _⟩ | ⟨a, _⟩
      · exact ⟨a, a'⟩
      · exact absurd a (by decide)
      · exact absurd a (by decide)
    subst e1; subst e2
    have hA1 : zg_A 16 (zg_run 16 1 r) = true := by
      have : zg_run 16 0 (.inner c kvc oc lc r) = zg_run 16 1 r := by show zg_run 16 (zg_q 16 0 c) r = _; rw [m3]
      rw [← this]; exact hA
    obtain ⟨e', ke', _, _, Q2, z2, ⟨⟨_, he', ee'⟩, ⟨_, hke', eke'⟩, _⟩, _, _, _, _, _, R, _⟩ := yj_c A
    obtain ⟨e, ke, Qe, L, ⟨he, exe⟩, ⟨hke, eke, nQ⟩, ⟨LC', LM'⟩, ⟨Ll, Le⟩⟩ := yj_e C ok m2' (by omega) (by omega) A.1 A.2.1
    have q1 : e' = e := (nI_eq (by omega) (by omega)).mp (ee'.symm.trans exe)
    subst q1
    have q2 : ke' = ke := (nI_eq (by omega) (by omega)).mp (eke'.symm.trans eke)
    subst q2
    have gc : yg_c 0 (.inner c kvc oc lc .leaf) = 0 := yj_g0 _ ⟨ok1, okl, trivial⟩ ⟨m2', trivial⟩
    rw [gc, Nat.add_zero] at R
    have gl : yg_c 0 (.inner c kvc oc lc r) = yg_c 0 r := by rw [yg_c1, gc, Nat.zero_add]
    rw [gl] at hX
    obtain ⟨B, G, ⟨g2, g3, g4⟩, g5, g6, _, gN⟩ := yj_cas (own := ow) C (by omega) r (fun u hu => K u (by omega)) (ow + 1) (zg_d (.inner c kvc oc lc r) - 1) Q2 (nI k) _ _ z2 hA1 okr R (by omega) (by omega) (by omega) (by omega) (by omega)
    have gn : yg_c 0 (.inner 16 kv () (.inner c kvc oc lc r) .leaf) = ow + 1 + yg_c 0 r - ow := by
      show 1 + yg_c 0 (.inner c kvc oc lc r) + 0 = _
      rw [gl]; omega
    have kE : ∀ z ∈ yb_E, ¬ z = 11 ∧ ¬ z = 20 ∧ ¬ (z = 11 ∨ z = 15 ∨ z = 16 ∨ z = 17) := by decide
    obtain ⟨p1, p2, p3⟩ := kE c m2'
    have c20 : zg_ct 20 r ≤ zg_ct 20 (.inner 16 kv () (.inner c kvc oc lc r) .leaf) := by
      show _ ≤ 0 + ((if c = 20 then 1 else 0) + zg_ct 20 lc + zg_ct 20 r) + 0; omega
    have c11 : zg_ct 11 r ≤ zg_ct 11 (.inner 16 kv () (.inner c kvc oc lc r) .leaf) := by
      show _ ≤ 0 + ((if c = 11 then 1 else 0) + zg_ct 11 lc + zg_ct 11 r) + 0; omega
    have cx : zg_x (.inner 16 kv () (.inner c kvc oc lc r) .leaf) = zg_x r := by
      show ((if c = 20 then 1 else if c = 11 ∨ c = 15 ∨ c = 16 ∨ c = 17 then zg_x lc else 0) + zg_x r) + 0 = _
      rw [if_neg p2, if_neg p3]; omega
    have hdn : max (zg_d (.inner c kvc oc lc r) + 1) 0 ≤ zg_d (.inner 16 kv () (.inner c kvc oc lc r) .leaf) := zg_d1 (r := .leaf)
    have SMm : ∀ {T : ys} {a1 a2 b1 b2 dl : Nat}, a1 ≤ a2 → b1 ≤ b2 → yk_SM g0 b dl k T a1 b1 → yk_SM g0 b dl k T a2 b2 := fun h1 h2 S D n s v q w ww g f c hl hw hn h20 h11 hD => S D n s v q w ww g f c hl hw hn (by omega) (by omega) hD
    have kXb := (C.1.2.2 b C.2.1).1
    refine ⟨yz_ap (yz_i (L ++ [(2, nI ow, 0, 0)])) (.inner 1 ([], 0, 0) () B .leaf), ⟨by decide, by decide, trivial⟩, ⟨?_, ?_⟩, ⟨fun n => ?_, ?_⟩, ⟨⟨?_, fun j hj => ?_⟩, ⟨g5.1, yz_Wm _ _ _ (by omega) g5.2⟩, trivial⟩, ?_, fun LD nl => ⟨yo_N2 (yo_Em (fun z => z.elim) (Ll.2.1 LD)) (by omega) (fun z => nl ((yq_bo C.1 C.2.1 hY (by omega)).mp z)), ⟨gN LD nl, trivial⟩⟩⟩
    · rw [gn]
      exact yk_S16 (dlb := zg_d (.inner c kvc oc lc r) - 1) C.2.2.2.2.1 (by omega) hi (ec.trans exe) he (by omega) LC' (by omega) (by omega) (by omega) G
    · exact SMm c20 c11 (yk_T16 (dlb := zg_d (.inner c kvc oc lc r) - 1) hk km eke hke m2 (by omega) nQ LM' (by omega) (by omega) G)
    · rw [cx]
      have := g4 (n + (L ++ [((2, nI ow, 0, 0) : yI)]).length)
      show ([] ++ yz_x B (n + (L ++ [((2, nI ow, 0, 0) : yI)]).length)).length ≤ _
      rw [List.nil_append]; exact this
    · show (L ++ [((2, nI ow, 0, 0) : yI)]).length + (yz_l B + 0) ≤ 6 * (1 + zt_sz (.inner c kvc oc lc r) + 0)
      rw [List.length_append]
      show L.length + 1 + (yz_l B + 0) ≤ _
      omega
    · rw [show (L ++ [((2, nI ow, 0, 0) : yI)], (0 : Int32), (0 : Int32)).1 = L ++ [((2, nI ow, 0, 0) : yI)] from rfl, yo_1 (Le.1 0)]; rfl
    · rcases List.mem_append.mp hj with z | z
      · exact yw_e Le j z
      · rw [List.mem_singleton.mp z]
        exact .inr (.inl ⟨rfl, ow, rfl, .inr ⟨Nat.le_refl _, by omega⟩⟩)
    · show 3 * max 0 (max (yz_v B) 0) ≤ _; omega
end YJY
