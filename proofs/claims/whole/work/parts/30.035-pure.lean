section
/-! The coder: CASE, on both sides, to its end. -/
section YJY
variable {LC LM : List (List Int32)} {nb b sz ow : Nat} {F Fb X Y : Nat → Nat} {h0 g0 : zs_H} {P Q Qm : Nat → Prop} {up x x' y : Int32} {kd : Nat} {kv : Int32 × Int32} {o : Unit} {l r : zt_T}
/-- a choice: its ranges, its body -/
theorem yj_rg (C : yj_cx LC LM nb b sz F Fb X Y h0 g0 P) : ∀ (l : zt_T), (∀ u, zt_sz u < zt_sz l → yj_K LC LM b sz Fb X Y h0 g0 P Q u) → ∀ (st ow : Nat) (Qm : Nat → Prop) (up x x' y : Int32), (st = 0 ∨ st = 1) → zg_A 17 (zg_run 17 st l) = true → zg_ok l → yj_f LC LM Fb b h0 g0 P Q ow l Qm up x x' y → zg_d l ≤ 188 → zt_sz l + 1 ≤ sz → Y b ≤ ow → ow + yg_c 0 l ≤ X b → ∃ (rs : List (Int32 × Option Int32)) (lb : zt_T) (ib kb : Nat) (T : ys), (yr_C h0 rs x ib ∧ yr_M g0 rs x' kb) ∧ (ib < 32784 ∧ kb < 33500) ∧ yj_B X Y h0 g0 b lb ib kb ow T ∧ y = nI kb ∧ (st = 0 → ¬ rs = []) ∧ (2 * rs.length + 1 + zt_sz lb ≤ zt_sz l ∧ zg_d lb + 1 ≤ zg_d l) ∧ (zg_ct 20 lb ≤ zg_ct 20 l ∧ 1 + zg_ct 11 lb ≤ zg_ct 11 l) ∧ zg_x lb ≤ zg_x l ∧ yg_c 0 l = yg_c 0 lb := by
  have key : ∀ r ∈ zg_R, r.1 = 17 → r.2 = (0, [18], 1) ∨ r.2 = (1, [18], 1) ∨ r.2 = (1, [11], 2) := by decide +kernel
  intro l
  induction l with
  | leaf => intro _ st ow Qm up x x' y hst hA; rcases hst with e | e <;> subst e <;> exact absurd hA (by decide)
  | inner c kv o lc r _ ihr =>
    intro K st ow Qm up x x' y hst hA ok A hd hz hY hX
    have hd0 : max (zg_d lc + 1) (zg_d r) ≤ zg_d (.inner c kv o lc r) := zg_d1
    have hz0 : zt_sz (.inner c kv o lc r) = 1 + zt_sz lc + zt_sz r := rfl
    obtain ⟨ok1, okl, okr⟩ := id ok
    obtain ⟨cs, to, m1, m2, m3, _⟩ := yj_q (yc_gA' hA)
    have k1 := key _ m1 rfl
    simp only [Prod.mk.injEq] at k1
    have hA1 : zg_A 17 (zg_run 17 to r) = true := by
      have : zg_run 17 st (.inner c kv o lc r) = zg_run 17 to r := by show zg_run 17 (zg_q 17 st c) r = _; rw [m3]
      rw [← this]; exact hA
    have k18 : (cs = [18] ∧ to = 1) ∨ (st = 1 ∧ cs = [11] ∧ to = 2) := by
      rcases k1 with ⟨_, a, a'⟩ | ⟨_, a, a'⟩ | ⟨a0, a, a'⟩
      · exact .inl ⟨a, a'⟩
      · exact .inl ⟨a, a'⟩
      · exact .inr ⟨a0, a, a'⟩
    rcases k18 with ⟨e1, e2⟩ | ⟨e0, e1, e2⟩
    · subst e1; subst e2
      have ec := List.mem_singleton.mp m2
      subst ec
      obtain ⟨i, k, xl, Q1, Q2, z2, ⟨⟨_, hi, ei⟩, ⟨_, hk, ek⟩, mk⟩, N, _, _, _, ⟨Al, Ml⟩, R, ey⟩ := yj_c A
      obtain ⟨n1, n2, _⟩ := yj_pl (by decide) N
      obtain ⟨w, w2, lo, klo, ⟨w3, w4, w5, w6⟩, ⟨w7, w8, w9, w10⟩, w11, w12⟩ := yj_18 Al Ml ok1.1
      have g18 : yg_c 0 (.inner 18 kv o lc .leaf) = 0 := by
        show 0 + yg_c 0 lc + 0 = 0
        rw [w12]
      rw [g18, Nat.add_zero] at R
      have gl : yg_c 0 (.inner 18 kv o lc r) = yg_c 0 r := by rw [yg_c1, g18, Nat.zero_add]
      rw [gl] at hX ⊢
      obtain ⟨rs, lb, ib, kb, T, ⟨r1, r2⟩, ⟨r3, r4⟩, r5, r6, _, ⟨r8, r9⟩, ⟨r10, r11⟩, r12, r13⟩ := ihr (fun u hu => K u (by omega)) 1 ow Q2 up _ _ z2 (.inr rfl) hA1 okr R (by omega) (by omega) hY hX
      have c20 : zg_ct 20 (.inner 18 kv o lc r) = 0 + zg_ct 20 lc + zg_ct 20 r := rfl
      have c11 : zg_ct 11 (.inner 18 kv o lc r) = 0 + zg_ct 11 lc + zg_ct 11 r := rfl
      refine ⟨(w, w2) :: rs, lb, ib, kb, T, ⟨⟨i, lo, hi, ei, n1, by rw [n2]; exact w3, w4, w5, w6, r1⟩, ⟨k, klo, hk, ek, mk, w7, w8, w9, w10, r2⟩⟩, ⟨r3, r4⟩, r5, ?_, fun _ z => (by cases z), ⟨?_, by omega⟩, ⟨by omega, by omega⟩, ?_, r13⟩
      · rw [ey, r6, if_neg (zc_m1 (by omega))]
      · show 2 * (rs.length + 1) + 1 + zt_sz lb ≤ _; omega
      · show zg_x lb ≤ 0 + zg_x r; omega
    · subst e0; subst e1; subst e2
      have ec := List.mem_singleton.mp m2
      subst ec
      have er : r = .leaf := by
        cases r with
        | leaf => rfl
        | inner c3 kv3 o3 l3 r3 =>
          obtain ⟨cs, to, m1'', _⟩ := yj_q (yc_gA' hA1)
          have k1 := key _ m1'' rfl
          simp only [Prod.mk.injEq] at k1
          rcases k1 with ⟨a, _⟩ | ⟨a, _⟩ | ⟨a, _⟩ <;> exact absurd a (by decide)
      subst er
      have gl : yg_c 0 (.inner 11 kv o lc .leaf) = yg_c 0 lc := by show 0 + yg_c 0 lc + 0 = _; omega
      rw [gl] at hX
      obtain ⟨i, k, T, Q2, z2, ⟨hi, ei, ki⟩, ⟨hk, ek, kk⟩, B, R2, ey⟩ := yj_bd C (K lc (by omega)) A ok (by omega) (by omega) hY hX
      refine ⟨[], lc, i, k, T, ⟨⟨ei, hi, by rw [ki]; decide⟩, ⟨ek, hk, by rw [kk]; decide⟩⟩, ⟨hi, hk⟩, B, ?_, fun z => absurd z (by decide), ⟨?_, by omega⟩, ⟨?_, ?_⟩, ?_, gl⟩
      · rw [ey, if_pos (show (g0.2.1 78) k = -1 ∧ z2 = -1 from R2.2.1).2]; exact ek
      · show 2 * 0 + 1 + zt_sz lc ≤ 1 + zt_sz lc + 0; omega
      · show zg_ct 20 lc ≤ 0 + zg_ct 20 lc + 0; omega
      · show 1 + zg_ct 11 lc ≤ 1 + zg_ct 11 lc + 0; omega
      · show zg_x lc ≤ zg_x lc + 0; omega
/-- the choices of a CASE -/
theorem yj_cas {own : Nat} (C : yj_cx LC LM nb b sz F Fb X Y h0 g0 P) (ho : own < X b) : ∀ (l : zt_T), (∀ u, zt_sz u < zt_sz l → yj_K LC LM b sz Fb X Y h0 g0 P Q u) → ∀ (ow dlb : Nat) (Qm : Nat → Prop) (up x x' y : Int32), zg_A 16 (zg_run 16 1 l) = true → zg_ok l → yj_f LC LM Fb b h0 g0 P Q ow l Qm up x x' y → zg_d l ≤ dlb + 1 → dlb ≤ 187 → zt_sz l + 1 ≤ sz → Y b ≤ ow → ow + yg_c 0 l ≤ X b → ∃ B, yj_G X Y h0 g0 b dlb (yk_cc h0 own) (yk_mi g0 b (nI own)) l x x' ow B := by
  have key : ∀ r ∈ zg_R, r.1 = 16 → r.2 = (0, yb_E, 1) ∨ r.2 = (1, [17], 1) ∨ r.2 = (1, [11], 2) := by decide +kernel
  have hs2 := C.2.2.2.2.2
  intro l
  induction l with
  | leaf => intro _ ow dlb Qm up x x' y _ _ A _ _ _ _ _; exact ⟨.leaf, ⟨A.1.1, A.1.2, rfl⟩, ⟨Nat.le_refl _, Nat.le_refl _, fun n => Nat.le_refl _⟩, ⟨trivial, trivial⟩, Nat.zero_le _, ⟨fun _ => rfl, fun _ => rfl⟩, fun LD _ => trivial⟩
  | inner c kv o lc r _ ihr =>
    intro K ow dlb Qm up x x' y hA ok A hd hdb hz hY hX
    have hd0 : max (zg_d lc + 1) (zg_d r) ≤ zg_d (.inner c kv o lc r) := zg_d1
    have hz0 : zt_sz (.inner c kv o lc r) = 1 + zt_sz lc + zt_sz r := rfl
    obtain ⟨ok1, okl, okr⟩ := id ok
    obtain ⟨cs, to, m1, m2, m3, _⟩ := yj_q (yc_gA' hA)
    have k1 := key _ m1 rfl
    simp only [Prod.mk.injEq] at k1
    have hA1 : zg_A 16 (zg_run 16 to r) = true := by
      have : zg_run 16 1 (.inner c kv o lc r) = zg_run 16 to r := by show zg_run 16 (zg_q 16 1 c) r = _; rw [m3]
      rw [← this]; exact hA
    rcases k1 with ⟨a, _⟩ | ⟨_, e1, e2⟩ | ⟨_, e1, e2⟩
    · exact absurd a (by decide)
    · subst e1; subst e2
      have ec := List.mem_singleton.mp m2
      subst ec
      obtain ⟨i, k, xl, Q1, Q2, z2, ⟨⟨_, hi, ei⟩, ⟨_, hk, ek⟩, mk⟩, N, _, _, G, _, R, _⟩ := yj_c A
      obtain ⟨n1, n2, _⟩ := yj_pl (by decide) N
      obtain ⟨_, _, A17⟩ := G (by decide)
      have gn : yg_c 0 (.inner 17 kv o lc .leaf) = yg_c 0 lc := by show 0 + yg_c 0 lc + 0 = _; omega
      have gl : yg_c 0 (.inner 17 kv o lc r) = yg_c 0 lc + yg_c 0 r := by rw [yg_c1, gn]
      rw [gn] at R
      rw [gl] at hX
      obtain ⟨rs, lb, ib, kb, T, ⟨r1, r2⟩, ⟨r3, r4⟩, ⟨⟨BC, BM⟩, ⟨t1, t2, t3⟩, t4, t5⟩, r6, r7, ⟨r8, r9⟩, ⟨r10, r11⟩, r12, r13⟩ := yj_rg C lc (fun u hu => K u (by omega)) 0 ow Q1 (nI k) xl _ _ (.inl rfl) ok1.1 okl A17 (by omega) (by omega) hY (by omega)
      obtain ⟨Br, ⟨g1, ⟨g2, g3, g4⟩, g5, g6, g7⟩⟩ := ihr (fun u hu => K u (by omega)) _ dlb Q2 up _ _ z2 hA1 okr R (by omega) hdb (by omega) (by omega) (by omega)
      have c20 : zg_ct 20 (.inner 17 kv o lc r) = 0 + zg_ct 20 lc + zg_ct 20 r := rfl
      have c11 : zg_ct 11 (.inner 17 kv o lc r) = 0 + zg_ct 11 lc + zg_ct 11 r := rfl
      have cx : zg_x (.inner 17 kv o lc r) = zg_x lc + zg_x r := rfl
      have hl8 := yr_sl (own := own) rs 0
      refine ⟨.inner 5 (yr_s own 0 rs, 0, 0) () T Br, ⟨i, k, ib, kb, i, k, yg_c 0 lb, zg_ct 20 lb, zg_ct 11 lb, zg_ct 20 r, zg_ct 11 r, ⟨hi, ei, hi⟩, ⟨hk, ek, hk⟩, ⟨yk_BCm (by omega) BC, yk_BMm (by omega) BM⟩, ⟨t1, fun n => Nat.le_trans (t2 n) (zg_x20 lb)⟩, .inr ⟨rfl, rfl, yk_ccC C.2.2.2.2.1 (by omega) hi (by rw [n1]; decide) (by omega) (by rw [n2]; exact r1), yk_miC hk mk r6 (by omega) r2, fun z => ?_, fun z => ?_⟩, ⟨by omega, by omega⟩, ?_⟩, ⟨?_, ?_, fun n => ?_⟩, ⟨⟨.inl rfl, g5.1⟩, ⟨yr_s0 (r7 rfl), yr_si ho rs 0, t1, t4⟩, yz_Wm _ _ _ (by omega) g5.2⟩, ?_, ⟨fun z => (by cases z), fun z => (by cases z)⟩, fun LD nl => ⟨⟨yr_sB (r7 rfl), t5.2 LD nl⟩, g7.2 LD nl⟩⟩
      · have e := g7.1.mp z
        subst e
        exact R.1.1
      · cases r with
        | leaf => exact absurd (g7.1.mpr rfl) z
        | inner c3 kv3 o3 l3 r3 =>
          obtain ⟨i3, k3, _, _, _, _, ⟨⟨_, h1, h2⟩, ⟨_, h3, h4⟩, _⟩, _⟩ := yj_c R
          exact ⟨⟨i3, h1, h2⟩, k3, h3, h4⟩
      · rw [gl, ← Nat.add_assoc, ← r13]; exact g1
      · show 1 + yz_n Br ≤ _; omega
      · show (yr_s own 0 rs).length + 1 + yz_l T + (if yz_f Br = true then 0 else 1) + yz_l Br ≤ _
        have : (if yz_f Br = true then 0 else 1) ≤ 1 := by split <;> omega
        omega
      · show (yz_x Br (n + ((yr_s own 0 rs).length + 1 + yz_l T + (if yz_f Br = true then 0 else 1))) ++ yz_x T (n + (yr_s own 0 rs).length + 1)).length ≤ _
        rw [List.length_append, cx]
        have := g4 (n + ((yr_s own 0 rs).length + 1 + yz_l T + (if yz_f Br = true then 0 else 1)))
        have := t2 (n + (yr_s own 0 rs).length + 1)
        omega
      · show 3 * max (yz_v T) (yz_v Br) ≤ _
        omega
    · subst e1; subst e2
      have ec := List.mem_singleton.mp m2
      subst ec
      have er : r = .leaf := by
        cases r with
        | leaf => rfl
        | inner c3 kv3 o3 l3 r3 =>
          obtain ⟨cs, to, m1'', _⟩ := yj_q (yc_gA' hA1)
          have k1 := key _ m1'' rfl
          simp only [Prod.mk.injEq] at k1
          rcases k1 with ⟨a, _⟩ | ⟨a, _⟩ | ⟨a, _⟩ <;> exact absurd a (by decide)
      subst er
      have gl : yg_c 0 (.inner 11 kv o lc .leaf) = yg_c 0 lc := by show 0 + yg_c 0 lc + 0 = _; omega
      rw [gl] at hX
      obtain ⟨i, k, T, Q2, z2, ⟨hi, ei, ki⟩, ⟨hk, ek, kk⟩, ⟨⟨BC, BM⟩, ⟨t1, t2, t3⟩, t4, t5⟩, R2, _⟩ := yj_bd C (K lc (by omega)) A ok (by omega) (by omega) hY (by omega)
      refine ⟨.inner 6 ([], 0, 0) () T .leaf, ⟨i, k, i, k, i, k, yg_c 0 lc, zg_ct 20 lc, zg_ct 11 lc, 0, 0, ⟨hi, ei, hi⟩, ⟨hk, ek, hk⟩, ⟨yk_BCm (by omega) BC, yk_BMm (by omega) BM⟩, ⟨t1, fun n => Nat.le_trans (t2 n) (zg_x20 lc)⟩, .inl ⟨rfl, rfl, rfl, rfl, rfl, rfl, rfl, ki, kk⟩, ⟨?_, ?_⟩, R2.1.1, R2.1.2, by rw [gl]⟩, ⟨?_, ?_, fun n => ?_⟩, ⟨⟨.inr ⟨rfl, rfl⟩, trivial⟩, ⟨t1, t4⟩, trivial⟩, ?_, ⟨fun z => (by cases z), fun z => (by cases z)⟩, fun LD nl => ⟨t5.2 LD nl, trivial⟩⟩
      · show zg_ct 20 lc + 0 ≤ 0 + zg_ct 20 lc + 0; omega
      · show zg_ct 11 lc + 1 + 0 ≤ 1 + zg_ct 11 lc + 0; omega
      · show 1 + 0 ≤ _; omega
      · show yz_l T + 0 ≤ _; omega
      · have := t2 n
        show ([] ++ yz_x T n).length ≤ zg_x lc + 0
        rw [List.nil_append]; exact this
      · show 3 * max (yz_v T) 0 ≤ _; omega
theorem yj_16 {i k : Nat} {xl : Int32} {Q1 : Nat → Prop} (C : yj_cx LC LM nb b sz F Fb X Y h0 g0 P) (K : ∀ u, zt_sz u < zt_sz l → yj_K LC LM b sz Fb X Y h0 g0 P Q u) (hi : i < 32784) (hk : k < 33500) (km : (g0.2.1 72) k = 16) (m2 : (g0.2.1 101) k = nI ow) (N : yb_N Fb b h0 g0 P Q 16 kv.2 i k xl (zt_ln l)) (A : yj_f LC LM Fb b h0 g0 P Q (ow + 1) l Q1 (nI k) xl ((g0.2.1 76) k) ((g0.2.1 77) k)) (hA : zg_A 16 (zg_run 16 0 l) = true) (ok : zg_ok l) (hd : zg_d l ≤ 187) (hz : zt_sz l + 1 ≤ sz) (hY : Y b ≤ ow) (hX : ow + 1 + yg_c 0 l ≤ X b) : ∃ T, yj_1 X Y h0 g0 b 16 kv l i k ow T := by
  have key : ∀ r ∈ zg_R, r.1 = 16 → r.2 = (0, yb_E, 1) ∨ r.2 = (1, [17], 1) ∨ r.2 = (1, [11], 2) := by decide +kernel
  obtain ⟨_, ec, _⟩ := yj_pl (by decide) N
  have hs2 := C.2.2.2.2.2
  cases l with
  | leaf => exact absurd hA (by decide)
  | inner c kvc oc lc r =>
    have hd0 : max (zg_d lc + 1) (zg_d r) ≤ zg_d (.inner c kvc oc lc r) := zg_d1
    have hz0 : zt_sz (.inner c kvc oc lc r) = 1 + zt_sz lc + zt_sz r := rfl
    obtain ⟨ok1, okl, okr⟩ := id ok
    obtain ⟨cs, to, m1, m2', m3, _⟩ := yj_q (yc_gA' hA)
    have k1 := key _ m1 rfl
    simp only [Prod.mk.injEq] at k1
    obtain ⟨e1, e2⟩ : cs = yb_E ∧ to = 1 := by
      rcases k1 with ⟨_, a, a'⟩ | ⟨a, _⟩ | ⟨a, _⟩
      · exact ⟨a, a'⟩
      · exact absurd a (by decide)
      · exact absurd a (by decide)
    subst e1; subst e2
    have hA1 : zg_A 16 (zg_run 16 1 r) = true := by
      have : zg_run 16 0 (.inner c kvc oc lc r) = zg_run 16 1 r := by show zg_run 16 (zg_q 16 0 c) r = _; rw [m3]
      rw [← this]; exact hA
    obtain ⟨e', ke', _, _, Q2, z2, ⟨⟨_, he', ee'⟩, ⟨_, hke', eke'⟩, _⟩, _, _, _, _, _, R, _⟩ := yj_c A
    obtain ⟨e, ke, Qe, L, ⟨he, exe⟩, ⟨hke, eke, nQ⟩, ⟨LC', LM'⟩, ⟨Ll, Le⟩⟩ := yj_e C ok m2' (by omega) (by omega) A.1 A.2.1
    have q1 : e' = e := (nI_eq (by omega) (by omega)).mp (ee'.symm.trans exe)
    subst q1
    have q2 : ke' = ke := (nI_eq (by omega) (by omega)).mp (eke'.symm.trans eke)
    subst q2
    have gc : yg_c 0 (.inner c kvc oc lc .leaf) = 0 := yj_g0 _ ⟨ok1, okl, trivial⟩ ⟨m2', trivial⟩
    rw [gc, Nat.add_zero] at R
    have gl : yg_c 0 (.inner c kvc oc lc r) = yg_c 0 r := by rw [yg_c1, gc, Nat.zero_add]
    rw [gl] at hX
    obtain ⟨B, G, ⟨g2, g3, g4⟩, g5, g6, _, gN⟩ := yj_cas (own := ow) C (by omega) r (fun u hu => K u (by omega)) (ow + 1) (zg_d (.inner c kvc oc lc r) - 1) Q2 (nI k) _ _ z2 hA1 okr R (by omega) (by omega) (by omega) (by omega) (by omega)
    have gn : yg_c 0 (.inner 16 kv () (.inner c kvc oc lc r) .leaf) = ow + 1 + yg_c 0 r - ow := by
      show 1 + yg_c 0 (.inner c kvc oc lc r) + 0 = _
      rw [gl]; omega
    have kE : ∀ z ∈ yb_E, ¬ z = 11 ∧ ¬ z = 20 ∧ ¬ (z = 11 ∨ z = 15 ∨ z = 16 ∨ z = 17) := by decide
    obtain ⟨p1, p2, p3⟩ := kE c m2'
    have c20 : zg_ct 20 r ≤ zg_ct 20 (.inner 16 kv () (.inner c kvc oc lc r) .leaf) := by
      show _ ≤ 0 + ((if c = 20 then 1 else 0) + zg_ct 20 lc + zg_ct 20 r) + 0; omega
    have c11 : zg_ct 11 r ≤ zg_ct 11 (.inner 16 kv () (.inner c kvc oc lc r) .leaf) := by
      show _ ≤ 0 + ((if c = 11 then 1 else 0) + zg_ct 11 lc + zg_ct 11 r) + 0; omega
    have cx : zg_x (.inner 16 kv () (.inner c kvc oc lc r) .leaf) = zg_x r := by
      show ((if c = 20 then 1 else if c = 11 ∨ c = 15 ∨ c = 16 ∨ c = 17 then zg_x lc else 0) + zg_x r) + 0 = _
      rw [if_neg p2, if_neg p3]; omega
    have hdn : max (zg_d (.inner c kvc oc lc r) + 1) 0 ≤ zg_d (.inner 16 kv () (.inner c kvc oc lc r) .leaf) := zg_d1 (r := .leaf)
    have SMm : ∀ {T : ys} {a1 a2 b1 b2 dl : Nat}, a1 ≤ a2 → b1 ≤ b2 → yk_SM g0 b dl k T a1 b1 → yk_SM g0 b dl k T a2 b2 := fun h1 h2 S D n s v q w ww g f c hl hw hn h20 h11 hD => S D n s v q w ww g f c hl hw hn (by omega) (by omega) hD
    have kXb := (C.1.2.2 b C.2.1).1
    refine ⟨yz_ap (yz_i (L ++ [(2, nI ow, 0, 0)])) (.inner 1 ([], 0, 0) () B .leaf), ⟨by decide, by decide, trivial⟩, ⟨?_, ?_⟩, ⟨fun n => ?_, ?_⟩, ⟨⟨?_, fun j hj => ?_⟩, ⟨g5.1, yz_Wm _ _ _ (by omega) g5.2⟩, trivial⟩, ?_, fun LD nl => ⟨yo_N2 (yo_Em (fun z => z.elim) (Ll.2.1 LD)) (by omega) (fun z => nl ((yq_bo C.1 C.2.1 hY (by omega)).mp z)), ⟨gN LD nl, trivial⟩⟩⟩
    · rw [gn]
      exact yk_S16 (dlb := zg_d (.inner c kvc oc lc r) - 1) C.2.2.2.2.1 (by omega) hi (ec.trans exe) he (by omega) LC' (by omega) (by omega) (by omega) G
    · exact SMm c20 c11 (yk_T16 (dlb := zg_d (.inner c kvc oc lc r) - 1) hk km eke hke m2 (by omega) nQ LM' (by omega) (by omega) G)
    · rw [cx]
      have := g4 (n + (L ++ [((2, nI ow, 0, 0) : yI)]).length)
      show ([] ++ yz_x B (n + (L ++ [((2, nI ow, 0, 0) : yI)]).length)).length ≤ _
      rw [List.nil_append]; exact this
    · show (L ++ [((2, nI ow, 0, 0) : yI)]).length + (yz_l B + 0) ≤ 6 * (1 + zt_sz (.inner c kvc oc lc r) + 0)
      rw [List.length_append]
      show L.length + 1 + (yz_l B + 0) ≤ _
      omega
    · rw [show (L ++ [((2, nI ow, 0, 0) : yI)], (0 : Int32), (0 : Int32)).1 = L ++ [((2, nI ow, 0, 0) : yI)] from rfl, yo_1 (Le.1 0)]; rfl
    · rcases List.mem_append.mp hj with z | z
      · exact yw_e Le j z
      · rw [List.mem_singleton.mp z]
        exact .inr (.inl ⟨rfl, ow, rfl, .inr ⟨Nat.le_refl _, by omega⟩⟩)
    · show 3 * max 0 (max (yz_v B) 0) ≤ _; omega
end YJY
end
section
/-! The coder: FOR, on both sides; all statements. -/
section YJZ
variable {LC LM : List (List Int32)} {nb b sz ow : Nat} {F Fb X Y : Nat → Nat} {h0 g0 : zs_H} {P Q Qm : Nat → Prop} {up x x' y : Int32} {kd : Nat} {kv : Int32 × Int32} {o : Unit} {l r : zt_T}
theorem yk_tmM {k ka kb kc : Nat} {st : Int32} {T : Int64} (hk : k < 33500) (m1 : (g0.2.1 76) k = nI ka) (hka : ka < 33500) (m2 : (g0.2.1 78) ka = nI kb) (hkb : kb < 33500) (m3 : (g0.2.1 78) kb = nI kc) (hkc : kc < 33500) (es0 : (¬ (g0.2.1 72) kc = 11 ∧ st = (g0.2.1 74) kc) ∨ ((g0.2.1 72) kc = 11 ∧ st = 1)) (hs : ¬ st = 0) (hT : f_Cd_times ((g0.2.1 74) ka) ((g0.2.1 74) kb) st = some T) : f_Mo_times g0 (nI k) = some T.toInt32 := by
  have i64 : (st.toInt64 = 0) ↔ st = 0 := by
    rw [← Int64.toInt_inj, Int32.toInt_toInt64, ← Int32.toInt_inj]; rfl
  have zS : ¬ st.toInt64 = 0 := mt i64.mp hs
  have e46 : f_Mo_times g0 (nI k) = f_Mo_times_46 g0 (nI ka) (nI kb) st.toInt64 := by
    unfold f_Mo_times
    simp only [if_pos (zi_in (show k < 2147483648 by omega) hk), nI_clamp (show k < 2147483648 by omega), m1, if_pos (zi_in (show ka < 2147483648 by omega) hka), nI_clamp (show ka < 2147483648 by omega), m2, if_pos (zi_in (show kb < 2147483648 by omega) hkb), nI_clamp (show kb < 2147483648 by omega), m3, if_pos (zi_in (show kc < 2147483648 by omega) hkc), nI_clamp (show kc < 2147483648 by omega)]
    rcases es0 with ⟨z1, z2⟩ | ⟨z1, z2⟩
    · rw [if_neg z1, z2]
    · rw [if_pos z1, z2]; rfl
  obtain ⟨T', t1, _, t3⟩ := yc_tm (a := (g0.2.1 74) ka) (b := (g0.2.1 74) kb) hs
  have eT : T' = T := Option.some.inj (t1.symm.trans hT)
  rw [e46, ← eT, t3]
  unfold f_Mo_times_46 f_Mo_times_84 f_Mo_times_96 f_Mo_times_103
  rw [if_pos (zi_in (by omega) hkb), if_pos (zi_in (by omega) hka), nI_clamp (show ka < 2147483648 by omega), nI_clamp (show kb < 2147483648 by omega)]
  generalize ((g0.2.1 74) kb).toInt64 - ((g0.2.1 74) ka).toInt64 = w
  generalize st.toInt64 = S at zS
  have lS : (S ≤ 0) ↔ ¬ 0 < S := Int64.not_lt.symm
  have lw : (w ≤ 0) ↔ ¬ 0 < w := Int64.not_lt.symm
  simp only [zS, lS, lw, if_false]
  by_cases y0 : w = 0
  · simp only [y0, true_or, if_true]
  · by_cases y1 : 0 < w
    · by_cases y2 : 0 < S
      · simp (config := { decide := true }) only [y0, y1, y2, not_true, if_false, if_true, false_or]
      · simp (config := { decide := true }) only [y0, y1, y2, not_true, not_false_iff, if_false, if_true, false_or, iff_false]
    · by_cases y2 : 0 < S
      · simp (config := { decide := true }) only [y0, y1, y2, not_true, not_false_iff, if_false, if_true, false_or, false_iff]
      · simp (config := { decide := true }) only [y0, y1, y2, not_false_iff, if_false, if_true, false_or]
theorem yj_30 (hc : kd = 30 ∨ kd = 31) (H : yj_f LC LM Fb b h0 g0 P Q ow (.inner kd kv o l r) Qm up x x' y) : ∃ (a ka : Nat) (Q2 : Nat → Prop) (z2 : Int32), (a < 32784 ∧ x = nI a ∧ zv_kc h0 a) ∧ (ka < 33500 ∧ x' = nI ka) ∧ yj_f LC LM Fb b h0 g0 P Q ow r Q2 up ((h0.2.1 18) a) ((g0.2.1 78) ka) z2 ∧ y = (if z2 = -1 then x' else z2) := by
  obtain ⟨a, ka, xl, _, Q2, z2, ⟨⟨_, ha, ea⟩, ⟨_, hka, eka⟩, _⟩, N, _, _, _, _, R, ey⟩ := yj_c H
  have k30 : 30 ≤ zt_km kd := by rcases hc with e | e <;> subst e <;> decide
  have gc : yg_c 0 (.inner kd kv o l .leaf) = 0 := by
    show (if 30 ≤ zt_km kd then 0 else _) + 0 = 0
    rw [if_pos k30]
  rw [gc] at R
  refine ⟨a, ka, Q2, z2, ⟨ha, ea, ?_⟩, ⟨hka, eka⟩, R, ey⟩
  rcases N with N | ⟨ty, _, _, _, N⟩
  · exact absurd (show kd ∈ [6, 30, 31, 32, 33, 34, 35, 36] by rcases hc with e | e <;> subst e <;> decide) (yb_SE N)
  · rcases N with ⟨e, _⟩ | ⟨e, q, _⟩ | ⟨e, _⟩ | ⟨e, _⟩ | ⟨e, _⟩ | ⟨e, _⟩ | ⟨e, _⟩ | ⟨e, _⟩
    · omega
    · rcases e with e | e <;> subst e
      · exact .inl q
      · exact .inr q
    all_goals omega
theorem yj_19N {i k n : Nat} {v xl : Int32} (N : yb_N Fb b h0 g0 P Q 19 v i k xl n) : (h0.2.1 13) i = 19 ∧ (h0.2.1 17) i = xl ∧ ∃ u x ty, yb_V Fb b h0 v u x ∧ (h0.2.1 16) i = nI (32 + u) ∧ (h0.2.1 14) i = nI ty ∧ (h0.2.1 31) (32 + u) = nI ty ∧ ((ty = 1 ∨ ty = 2) ∧ (h0.2.1 30) (32 + u) = -1) ∧ (g0.2.1 101) k = nI x ∧ yb_fo h0 P xl := by
  rcases N with N | ⟨ty, _, _, _, N⟩
  · rcases N with e | ⟨e, _⟩ | ⟨e, _⟩ | ⟨e, _⟩ | ⟨_, a⟩
    · exact absurd e (by decide)
    · exact absurd e (by decide)
    · exact absurd e (by decide)
    · exact absurd e (by decide)
    · exact a
  · rcases N with ⟨e, _⟩ | ⟨e, _⟩ | ⟨e, _⟩ | ⟨e, _⟩ | ⟨e, _⟩ | ⟨e, _⟩ | ⟨e, _⟩ | ⟨e, _⟩ <;> exact absurd e (by decide)
theorem yj_19 {i k : Nat} {xl : Int32} {Q1 : Nat → Prop} (C : yj_cx LC LM nb b sz F Fb X Y h0 g0 P) (K : ∀ u, zt_sz u < zt_sz l → yj_K LC LM b sz Fb X Y h0 g0 P Q u) (hi : i < 32784) (hk : k < 33500) (km : (g0.2.1 72) k = 19) (m5 : (g0.2.1 102) k = nI ow) (nv : zt_nr LC LM kv.2 ((g0.2.1 74) k)) (N : yb_N Fb b h0 g0 P Q 19 kv.2 i k xl (zt_ln l)) (A : yj_f LC LM Fb b h0 g0 P Q (ow + 1) l Q1 (nI k) xl ((g0.2.1 76) k) ((g0.2.1 77) k)) (hA : zg_A 19 (zg_run 19 0 l) = true) (ok : zg_ok l) (hd : zg_d l ≤ 187) (hz : zt_sz l + 1 ≤ sz) (hY : Y b ≤ ow) (hX : ow + 1 + yg_c 0 l ≤ X b) : ∃ T, yj_1 X Y h0 g0 b 19 kv l i k ow T := by
  obtain ⟨_, ec, u, xx, ty, V, n1, n2, n3, ⟨n4, n5⟩, n6, fo⟩ := yj_19N N
  obtain ⟨x0, s, ty', ⟨v1, v2⟩, _, _, ⟨v5, v6⟩, ⟨v7, v7'⟩, v8, _⟩ := yj_var C V
  obtain ⟨s1, vt⟩ := v8 n5
  have ety : ty' = ty := (nI_eq (by omega) (by omega)).mp (v7.symm.trans n3)
  subst ety
  obtain ⟨a, c, cc, ka, kb, kc, st, ⟨a1, a2, _⟩, ⟨b1, b2, _⟩, ⟨d1, d2, _⟩, ⟨e1, e2⟩, ⟨f1, f2⟩, ⟨j1, j2⟩, _, hst, _, _, hstm, ⟨_, va, _, vb⟩, _⟩ := yc_parts hA A.1 A.2.1
  -- how often
  obtain ⟨n, hn, hT, hs0⟩ : ∃ n, n ≤ 1000000 ∧ f_Cd_times ((h0.2.1 16) a) ((h0.2.1 16) c) st = some (Int64.ofNat n) ∧ ¬ st = 0 := by
    obtain ⟨a', c', cc', st', ⟨q1, qP1, q2, qP2, q3, qP3⟩, q4, q5, n, q6, q7⟩ := fo
    have hP := C.2.2.2.1
    have h1 := hP _ qP1
    have h2 := hP _ qP2
    have h3 := hP _ qP3
    have t1 : a' = a := (nI_eq (by omega) (by omega)).mp (q1.symm.trans a1)
    subst t1
    have t2 : c' = c := (nI_eq (by omega) (by omega)).mp (q2.symm.trans b1)
    subst t2
    have t3 : cc' = cc := (nI_eq (by omega) (by omega)).mp (q3.symm.trans d1)
    subst t3
    have t4 : st' = st := by
      rcases q4 with ⟨z1, z2⟩ | ⟨z1, z2⟩
      · rcases hst with ⟨y1, y2⟩ | ⟨y1, y2⟩
        · exact z2.trans y2.symm
        · exact absurd z1 y1
      · rcases hst with ⟨y1, y2⟩ | ⟨y1, y2⟩
        · exact absurd y1 z1
        · exact z2.trans y2.symm
    subst t4
    exact ⟨n, q6, q7, q5⟩
  -- the body
  obtain ⟨lb, ib, ke, Tb, ⟨⟨BC, BM⟩, ⟨t1, t2, t3⟩, t4, t5⟩, ⟨hib, hke⟩, hl, hstb, ⟨z1, z2⟩, z3, z4, z5⟩ : ∃ (lb : zt_T) (ib ke : Nat) (Tb : ys), yj_B X Y h0 g0 b lb ib ke (ow + 1) Tb ∧ (ib < 32784 ∧ ke < 33500) ∧ (g0.2.1 77) k = nI ke ∧ ((zv_kc h0 cc ∧ (h0.2.1 18) cc = nI ib) ∨ (¬ zv_kc h0 cc ∧ ib = cc)) ∧ (3 + zt_sz lb ≤ zt_sz l ∧ zg_d lb + 1 ≤ zg_d l) ∧ yg_c 0 l = yg_c 0 lb ∧ zg_ct 20 lb ≤ zg_ct 20 l ∧ zg_ct 11 lb ≤ zg_ct 11 l := by
    obtain ⟨c1', kv1, o1, lt1, c2', kv2, o2, lt2, hk1, hk2, gr⟩ := yc_g19 hA
    have k30 : ∀ z, (z = 30 ∨ z = 31) → 30 ≤ zt_km z := by rintro z (e | e) <;> subst e <;> decide
    rcases gr with ⟨kv3, o3, lb, el⟩ | ⟨c3', kv3, o3, lt3, kv4, o4, lb, hk3, el⟩
    · subst el
      have gl : yg_c 0 (.inner c1' kv1 o1 lt1 (.inner c2' kv2 o2 lt2 (.inner 11 kv3 o3 lb .leaf))) = yg_c 0 lb := by
        show (if 30 ≤ zt_km c1' then 0 else _) + ((if 30 ≤ zt_km c2' then 0 else _) + (0 + yg_c 0 lb + 0)) = _
        rw [if_pos (k30 _ hk1), if_pos (k30 _ hk2)]; omega
      have hzl : zt_sz (.inner c1' kv1 o1 lt1 (.inner c2' kv2 o2 lt2 (.inner 11 kv3 o3 lb .leaf))) = 1 + zt_sz lt1 + (1 + zt_sz lt2 + (1 + zt_sz lb + 0)) := rfl
      have hdl : max (zg_d lt1 + 1) (max (zg_d lt2 + 1) (zg_d (.inner 11 kv3 o3 lb .leaf))) ≤ zg_d (.inner c1' kv1 o1 lt1 (.inner c2' kv2 o2 lt2 (.inner 11 kv3 o3 lb .leaf))) := zg_d2
      have hdb : max (zg_d lb + 1) 0 ≤ zg_d (.inner 11 kv3 o3 lb .leaf) := zg_d1 (r := .leaf)
      rw [gl] at hX ⊢
      obtain ⟨ok1, okl1, ok2⟩ := id ok
      obtain ⟨ok3, okl2, ok4⟩ := id ok2
      obtain ⟨i1, k1, S1, y1, ⟨p1, p2, p3⟩, ⟨p4, p5⟩, R1, ey1⟩ := yj_30 hk1 A
      obtain ⟨i2, k2, S2, y2, ⟨q1, q2, q3⟩, ⟨q4, q5⟩, R2, ey2⟩ := yj_30 hk2 R1
      obtain ⟨ib, ke, Tb, S3, y3, ⟨r1, r2, r3⟩, ⟨r4, r5, r6⟩, B, R3, ey3⟩ := yj_bd C (K lb (by omega)) R2 ok4 (by omega) (by omega) (by omega) hX
      have i1a : i1 = a := (nI_eq (by omega) (by omega)).mp (p2.symm.trans a1)
      subst i1a
      have i2c : i2 = c := (nI_eq (by omega) (by omega)).mp (q2.symm.trans b1)
      subst i2c
      have ibc : ib = cc := (nI_eq (by omega) (by omega)).mp (r2.symm.trans d1)
      have hy3 : y3 = -1 := (show (g0.2.1 78) ke = -1 ∧ y3 = -1 from R3.2.1).2
      rw [hy3, if_pos rfl, r5] at ey3
      rw [ey3, if_neg (zc_m1 (by omega))] at ey2
      rw [ey2, if_neg (zc_m1 (by omega))] at ey1
      have c20 : zg_ct 20 (.inner c1' kv1 o1 lt1 (.inner c2' kv2 o2 lt2 (.inner 11 kv3 o3 lb .leaf))) = (if c1' = 20 then 1 else 0) + zg_ct 20 lt1 + ((if c2' = 20 then 1 else 0) + zg_ct 20 lt2 + (0 + zg_ct 20 lb + 0)) := rfl
      have c11 : zg_ct 11 (.inner c1' kv1 o1 lt1 (.inner c2' kv2 o2 lt2 (.inner 11 kv3 o3 lb .leaf))) = (if c1' = 11 then 1 else 0) + zg_ct 11 lt1 + ((if c2' = 11 then 1 else 0) + zg_ct 11 lt2 + (1 + zg_ct 11 lb + 0)) := rfl
      refine ⟨lb, ib, ke, Tb, B, ⟨r1, r4⟩, ey1, .inr ⟨?_, ibc⟩, ⟨by omega, by omega⟩, rfl, by omega, by omega⟩
      rw [← ibc]
      unfold zv_kc
      rw [r3]; decide
    · subst el
      have gl : yg_c 0 (.inner c1' kv1 o1 lt1 (.inner c2' kv2 o2 lt2 (.inner c3' kv3 o3 lt3 (.inner 11 kv4 o4 lb .leaf)))) = yg_c 0 lb := by
        show (if 30 ≤ zt_km c1' then 0 else _) + ((if 30 ≤ zt_km c2' then 0 else _) + ((if 30 ≤ zt_km c3' then 0 else _) + (0 + yg_c 0 lb + 0))) = _
        rw [if_pos (k30 _ hk1), if_pos (k30 _ hk2), if_pos (k30 _ hk3)]; omega
      have hzl : zt_sz (.inner c1' kv1 o1 lt1 (.inner c2' kv2 o2 lt2 (.inner c3' kv3 o3 lt3 (.inner 11 kv4 o4 lb .leaf)))) = 1 + zt_sz lt1 + (1 + zt_sz lt2 + (1 + zt_sz lt3 + (1 + zt_sz lb + 0))) := rfl
      have hdl : max (zg_d lt1 + 1) (max (zg_d lt2 + 1) (zg_d (.inner c3' kv3 o3 lt3 (.inner 11 kv4 o4 lb .leaf)))) ≤ zg_d (.inner c1' kv1 o1 lt1 (.inner c2' kv2 o2 lt2 (.inner c3' kv3 o3 lt3 (.inner 11 kv4 o4 lb .leaf)))) := zg_d2
      have hdb : max (zg_d lt3 + 1) (max (zg_d lb + 1) 0) ≤ zg_d (.inner c3' kv3 o3 lt3 (.inner 11 kv4 o4 lb .leaf)) := zg_d2 (r := .leaf)
      rw [gl] at hX ⊢
      obtain ⟨ok1, okl1, ok2⟩ := id ok
      obtain ⟨ok3, okl2, ok4⟩ := id ok2
      obtain ⟨ok5, okl3, ok6⟩ := id ok4
      obtain ⟨i1, k1, S1, y1, ⟨p1, p2, p3⟩, ⟨p4, p5⟩, R1, ey1⟩ := yj_30 hk1 A
      obtain ⟨i2, k2, S2, y2, ⟨q1, q2, q3⟩, ⟨q4, q5⟩, R2, ey2⟩ := yj_30 hk2 R1
      obtain ⟨i3, k3, S4, y4, ⟨w1, w2, w3⟩, ⟨w4, w5⟩, R4, ey4⟩ := yj_30 hk3 R2
      obtain ⟨ib, ke, Tb, S3, y3, ⟨r1, r2, r3⟩, ⟨r4, r5, r6⟩, B, R3, ey3⟩ := yj_bd C (K lb (by omega)) R4 ok6 (by omega) (by omega) (by omega) hX
      have i1a : i1 = a := (nI_eq (by omega) (by omega)).mp (p2.symm.trans a1)
      subst i1a
      have i2c : i2 = c := (nI_eq (by omega) (by omega)).mp (q2.symm.trans b1)
      subst i2c
      have i3c : i3 = cc := (nI_eq (by omega) (by omega)).mp (w2.symm.trans d1)
      subst i3c
      have hy3 : y3 = -1 := (show (g0.2.1 78) ke = -1 ∧ y3 = -1 from R3.2.1).2
      rw [hy3, if_pos rfl, r5] at ey3
      rw [ey3, if_neg (zc_m1 (by omega))] at ey4
      rw [ey4, if_neg (zc_m1 (by omega))] at ey2
      rw [ey2, if_neg (zc_m1 (by omega))] at ey1
      have c20 : zg_ct 20 (.inner c1' kv1 o1 lt1 (.inner c2' kv2 o2 lt2 (.inner c3' kv3 o3 lt3 (.inner 11 kv4 o4 lb .leaf)))) = (if c1' = 20 then 1 else 0) + zg_ct 20 lt1 + ((if c2' = 20 then 1 else 0) + zg_ct 20 lt2 + ((if c3' = 20 then 1 else 0) + zg_ct 20 lt3 + (0 + zg_ct 20 lb + 0))) := rfl
      have c11 : zg_ct 11 (.inner c1' kv1 o1 lt1 (.inner c2' kv2 o2 lt2 (.inner c3' kv3 o3 lt3 (.inner 11 kv4 o4 lb .leaf)))) = (if c1' = 11 then 1 else 0) + zg_ct 11 lt1 + ((if c2' = 11 then 1 else 0) + zg_ct 11 lt2 + ((if c3' = 11 then 1 else 0) + zg_ct 11 lt3 + (1 + zg_ct 11 lb + 0))) := rfl
      exact ⟨lb, ib, ke, Tb, B, ⟨r1, r4⟩, ey1, .inl ⟨w3, r2⟩, ⟨by omega, by omega⟩, rfl, by omega, by omega⟩
  have eTn : (Int64.ofNat n).toInt32 = nI n := Int64.toInt32_ofNat'
  have hes : (zv_kc h0 cc ∧ st = (h0.2.1 16) cc ∧ (h0.2.1 18) cc = nI ib) ∨ (¬ zv_kc h0 cc ∧ st = 1 ∧ ib = cc) := by
    rcases hstb with ⟨y1, y2⟩ | ⟨y1, y2⟩
    · rcases hst with ⟨_, q⟩ | ⟨q, _⟩
      · exact .inl ⟨y1, q, y2⟩
      · exact absurd y1 q
    · rcases hst with ⟨q, _⟩ | ⟨_, q⟩
      · exact absurd q y1
      · exact .inr ⟨y1, q, y2⟩
  have hesm : (¬ (g0.2.1 72) kc = 11 ∧ st = (g0.2.1 74) kc) ∨ ((g0.2.1 72) kc = 11 ∧ st = 1) := by
    rcases hstm with ⟨y1, y2, _⟩ | y1
    · exact .inl ⟨by rcases y1 with e | e <;> rw [e] <;> decide, y2⟩
    · exact .inr y1
  have g19 : yg_c 0 (.inner 19 kv () l .leaf) = 1 + yg_c 0 lb := by
    show 1 + yg_c 0 l + 0 = _
    rw [z3]; omega
  have SMm : ∀ {T : ys} {a1 a2 b1 b2 dl : Nat}, a1 ≤ a2 → b1 ≤ b2 → yk_SM g0 b dl k T a1 b1 → yk_SM g0 b dl k T a2 b2 := fun h1 h2 S D n s v q w ww g f c hl hw hn h20 h11 hD => S D n s v q w ww g f c hl hw hn (by omega) (by omega) hD
  have hdn : zg_d l + 2 ≤ zg_d (.inner 19 kv () l .leaf) := by show _ ≤ max (zg_d l + 2) 0; omega
  rw [z3] at hX
  refine ⟨yz_for x0 ((h0.2.1 16) a) st (if nI ty' = 1 then 0 else 5) ow (nI n) Tb, yz_fors, ⟨?_, ?_⟩, ⟨fun n => Nat.zero_le _, ?_⟩, ⟨⟨rfl, fun j hj => ?_⟩, ⟨ow, n, rfl, rfl, Nat.le_refl _, by omega, hn, yz_stap _ _ t1 ⟨by decide, trivial⟩, yz_Wap _ _ _ t4 (yz_Wi rfl (fun j hj => ?_))⟩, trivial⟩, ?_, fun LD nl => ?_⟩
  · rw [g19, ← eTn]
    exact yk_S19 (dlb := zg_d lb) hi (ec.trans a1) a2 n1 (show 32 + u < 6000 by omega) v2 b1 b2 d1 d2 hes hT (by rw [n2]) (by omega) BC t1
  · have etM : f_Mo_times g0 (nI k) = some (nI n) := by
      rw [← eTn]
      exact yk_tmM hk e1 e2 f1 f2 j1 j2 hesm hs0 (by rw [va, vb]; exact hT)
    refine SMm (a1 := zg_ct 20 lb) (b1 := zg_ct 11 lb) (by show _ ≤ 0 + zg_ct 20 l + 0; omega) (by show _ ≤ 0 + zg_ct 11 l + 0; omega) ?_
    rw [← va]
    exact yk_T19 (dl := zg_d l) (dlb := zg_d lb) hk km e1 e2 f1 f2 j1 j2 (yk_vM C.1 C.2.1 C.2.2.1 V nv) (show u < 8400 by omega) (n6.trans v1) m5 hl hesm etM (by rw [vt]) (by omega) (fun n => Nat.le_trans (t2 n) (zg_x20 lb)) BM t1
  · rw [yz_forl t1]
    show _ ≤ 6 * (1 + zt_sz l + 0)
    omega
  · rcases List.mem_cons.mp hj with e | hj
    · rw [e]; exact .inl (.inl rfl)
    rw [List.mem_singleton.mp hj]
    exact .inr (.inl ⟨rfl, x0, rfl, .inl ⟨by omega, yj_ni C V n5 v2 (by omega)⟩⟩)
  · have hYX := (C.1.2.2 b C.2.1).1.2.1
    have l7 : ∀ k : Nat, k < 25 → yw_i X Y (yq_k h0) b (ow + 1) (7, nI k, 0, 0) := fun k hk => .inl (.inr (.inr (.inr (.inr (.inr (.inr (.inl ⟨rfl, k, rfl, hk⟩)))))))
    rcases List.mem_cons.mp hj with e | hj
    · rw [e]; exact .inl (.inr (.inr (.inl ⟨rfl, x0, rfl, by omega⟩)))
    rcases List.mem_cons.mp hj with e | hj
    · rw [e]; exact .inl (.inl rfl)
    rcases List.mem_cons.mp hj with e | hj
    · rw [e]
      split
      · exact l7 0 (by decide)
      · exact l7 5 (by decide)
    rw [List.mem_singleton.mp hj]
    exact .inr (.inl ⟨rfl, x0, rfl, .inl ⟨by omega, yj_ni C V n5 v2 (by omega)⟩⟩)
  · show 3 * max 0 (max (yz_v (yz_ap Tb _) + 1) 0) ≤ _
    rw [yz_vap]
    show 3 * max 0 (max (max (yz_v Tb) (max 0 0) + 1) 0) ≤ _
    omega
  · have hY4 := (C.1.2.2 b C.2.1).1
    have nx : ¬ yq_b LD h0 b x0 := fun z => by
      have e0 := yj_b1 C V n5 v2 (by omega) z
      rw [n3] at e0
      have e1 := (zc_eq (k := 0) (by decide) (Nat.lt_of_lt_of_le v7' (by decide))).mp e0
      rcases n4 with w | w
      · rw [w] at e1; exact absurd e1 (by decide)
      · rw [w] at e1; exact absurd e1 (by decide)
    have ecl : (nI x0).toNatClampNeg = x0 := nI_clamp (by omega)
    refine ⟨fun K st H => ?_, ⟨?_, yz_Bap _ _ (t5.2 LD nl) (yz_Bi (fun K st H => ?_))⟩, trivial⟩
    · show (yq_b LD h0 b (nI x0).toNatClampNeg → _) ∧ K st
      rw [ecl]
      exact ⟨fun z => absurd z nx, H⟩
    · show ¬ yq_b LD h0 b (nI ow).toNatClampNeg
      rw [nI_clamp (by omega)]
      exact fun z => nl ((yq_bo C.1 C.2.1 hY (by omega)).mp z)
    · show (yq_b LD h0 b (nI x0).toNatClampNeg → _) ∧ K st
      rw [ecl]
      exact ⟨fun z => absurd z nx, H⟩
end YJZ
end
section
/-! The coder: all statements, on both sides. -/
section YJT
variable {LC LM : List (List Int32)} {nb b sz ow : Nat} {F Fb X Y : Nat → Nat} {h0 g0 : zs_H} {P Q Qm : Nat → Prop} {up x x' y : Int32} {kd : Nat} {kv : Int32 × Int32} {o : Unit} {l r : zt_T}
theorem zg_dn : zg_d (.inner kd kv o l .leaf) ≤ zg_d (.inner kd kv o l r) := by
  show max (zg_d l + (if kd = 19 then 2 else 1)) 0 ≤ max (zg_d l + (if kd = 19 then 2 else 1)) (zg_d r)
  omega
theorem yj_all (C : yj_cx LC LM nb b sz F Fb X Y h0 g0 P) : ∀ (m : Nat) (t : zt_T), zt_sz t ≤ m → yj_K LC LM b sz Fb X Y h0 g0 P Q t := by
  have lf : yj_K LC LM b sz Fb X Y h0 g0 P Q .leaf := fun ow Qm up x x' y A _ _ _ _ _ _ => ⟨.leaf, ⟨A.1.1, A.1.2, rfl⟩, fun n => Nat.le_refl _, trivial, Nat.le_refl _, fun LD _ => trivial⟩
  intro m
  induction m with
  | zero =>
    intro t hm
    cases t with
    | leaf => exact lf
    | inner kd kv o l r => exact absurd hm (by show ¬ 1 + zt_sz l + zt_sz r ≤ 0; omega)
  | succ m ih =>
    intro t hm
    cases t with
    | leaf => exact lf
    | inner kd kv o l r =>
      intro ow Qm up x x' y A ok hr hd hz hY hX
      have hd0 : max (zg_d l + 1) (zg_d r) ≤ zg_d (.inner kd kv o l r) := zg_d1
      have hz0 : zt_sz (.inner kd kv o l r) = 1 + zt_sz l + zt_sz r := rfl
      obtain ⟨⟨hA, hv⟩, okl, okr⟩ := ok
      obtain ⟨hkd, hr2⟩ := yj_q11 hr
      have K : ∀ u, zt_sz u < zt_sz l → yj_K LC LM b sz Fb X Y h0 g0 P Q u := fun u hu => ih u (by omega)
      obtain ⟨i, k, xl, Q1, Q2, z2, ⟨⟨_, hi, ei⟩, ⟨_, hk, ek⟩, mk⟩, N, nv, _, G, _, R, _⟩ := yj_c A
      rw [yg_c1] at hX
      obtain ⟨Tr, r1, r2, r3, r4⟩ := ih r (by omega) _ Q2 up _ _ z2 R okr hr2 (by omega) (by omega) (by omega) (by omega)
      have key : (h0.2.1 13) i = nI kd ∧ ∃ T, yj_1 X Y h0 g0 b kd kv l i k ow T := by
        rcases hkd with e | e | e | e | e | e | e <;> subst e
        · exact ⟨(yj_pl (by decide) N).1, yj_12 C hi hk mk N (G (by decide)).2.2 hA okl (by omega) (by omega)⟩
        · exact ⟨(yj_13 N).1, yj_inv C hi hk mk N nv (G (by decide)).2.2 hA okl (by omega) (by omega)⟩
        · have e : yg_c 0 (.inner 15 kv o l .leaf) = 0 + yg_c 0 l + 0 := rfl
          exact ⟨(yj_pl (by decide) N).1, yj_15 C K hi hk mk N (G (by decide)).2.2 hA okl (by omega) (by omega) hY (by omega)⟩
        · have e : yg_c 0 (.inner 16 kv o l .leaf) = 1 + yg_c 0 l + 0 := rfl
          obtain ⟨m2, _, A2⟩ := G (by decide)
          exact ⟨(yj_pl (by decide) N).1, yj_16 C K hi hk mk (m2 rfl) N A2 hA okl (by omega) (by omega) hY (by omega)⟩
        · have e : yg_c 0 (.inner 19 kv o l .leaf) = 1 + yg_c 0 l + 0 := rfl
          obtain ⟨_, m5, A2⟩ := G (by decide)
          exact ⟨(yj_19N N).1, yj_19 C K hi hk mk (m5 rfl) nv N A2 hA okl (by omega) (by omega) hY (by omega)⟩
        · exact ⟨(yj_pl (by decide) N).1, yj_20 hk mk (zv_nolf (kd := 20) (by decide +kernel) hA)⟩
        · exact ⟨(yj_pl (by decide) N).1, yj_21 hi hk mk (zv_nolf (kd := 21) (by decide +kernel) hA)⟩
      obtain ⟨ki, T1, t1, ⟨t2, t3⟩, ⟨t4, t5⟩, t6, t7⟩ := key
      refine ⟨yz_ap T1 Tr, ⟨i, k, T1, Tr, rfl, t1, ⟨hi, ei, ki⟩, ⟨hk, ek⟩, hkd, ⟨t2, t3⟩, ⟨fun n => Nat.le_trans (t4 n) (zg_x20 _), t5⟩, r1⟩, fun n => ?_, yz_Wap _ _ _ t6 (yz_Wm _ _ _ (by omega) r3), ?_, fun LD nl => yz_Bap _ _ (t7.2 LD nl) (r4.2 LD nl)⟩
      · rw [yz_apx _ _ _ t1, List.length_append]
        have a := r2 (n + yz_l T1)
        have c := t4 n
        have ex : zg_x (.inner kd kv o l r) = zg_x (.inner kd kv () l .leaf) + zg_x r := rfl
        omega
      · rw [yz_vap]
        have a := zg_dn (kd := kd) (kv := kv) (o := o) (l := l) (r := r)
        have c : 3 * yz_v T1 ≤ zg_d (.inner kd kv o l .leaf) := t7.1
        omega
/-- a block whose body is statements -/
theorem yj_body (C : yj_cx LC LM nb b sz F Fb X Y h0 g0 P) {a bn : Nat} (A : yj_f LC LM Fb b h0 g0 P Q ow (.inner 11 kv o l .leaf) Qm up (nI a) (nI bn) y) (ha : a < 32784) (hbn : bn < 33500) (hA : zg_A 11 (zg_run 11 0 l) = true) (ok : zg_ok l) (hd : zg_d l ≤ 184) (hz : zt_sz l + 1 ≤ sz) (hY : Y b ≤ ow) (hX : ow + yg_c 0 l ≤ X b) (hx : zg_x (.inner 11 kv o l .leaf) = 0) : ∃ T, (yk_BC h0 (zg_d l) a ow (yg_c 0 l) T ∧ yk_BM g0 b (zg_d l) bn T (zg_ct 20 l) (zg_ct 11 l)) ∧ yz_st T ∧ (∀ n, yz_x T n = []) ∧ yz_l T ≤ 6 * zt_sz l ∧ yz_W X Y (yq_k h0) b T ow ∧ yz_v T ≤ 61 ∧ yz_N h0 b T := by
  obtain ⟨i, k, T, _, _, ⟨hi, ei, _⟩, ⟨hk, ek, _⟩, ⟨B1, ⟨t1, t2, t3⟩, t4, t5⟩, _, _⟩ := yj_bd C (yj_all C (zt_sz l) l (Nat.le_refl _)) A ⟨⟨hA, .inl rfl⟩, ok, trivial⟩ (by omega) hz hY hX
  have e1 : i = a := ((nI_eq (by omega) (by omega)).mp ei).symm
  have e2 : k = bn := ((nI_eq (by omega) (by omega)).mp ek).symm
  subst e1; subst e2
  have hx' : zg_x l + 0 = 0 := hx
  exact ⟨T, B1, t1, fun n => List.eq_nil_of_length_eq_zero (by have := t2 n; omega), t3, t4, by omega, t5.2⟩
end YJT
end
section
/-! The coder: rungs: what they mean; the class. -/
/-- a cell of a rung: its kind, its value, the cell it sees or writes, its own cell; linked to the row below; its nodes -/
abbrev yT : Type := Nat × Nat × Nat × Nat × Bool × Nat × Nat
/-- the least row of a group -/
def yu_ls (q : Nat → Nat → yT) : Nat → Nat → Nat
  | 0, _ => 0
  | r + 1, c => if (q r c).2.2.2.2.1 = true then yu_ls q r c else r + 1
/-- how many rows a group has, from its row r on, if k rows are behind it -/
def yu_le (q : Nat → Nat → yT) (c : Nat) : Nat → Nat → Nat
  | 0, _ => 1
  | k + 1, r => if (q r c).2.2.2.2.1 = true then 1 + yu_le q c k (r + 1) else 1
def yu_pw (pw : Nat) (q : Nat → Nat → yT) (r c : Nat) : Nat := pw + 12 * c + yu_ls q r c
def yu_ct (t : yT) : List yI := if t.1 = 25 then (if t.2.1 = 0 then [(1, nI t.2.2.1, 0, 0), (7, 10, 0, 0)] else if t.2.1 = 1 then [(1, nI t.2.2.1, 0, 0), (8, 2, 0, 0), (7, 10, 0, 0)] else if t.2.1 = 2 then [(1, nI t.2.2.1, 0, 0), (1, nI t.2.2.2.1, 0, 0), (8, 2, 0, 0), (7, 10, 0, 0), (7, 10, 0, 0), (1, nI t.2.2.1, 0, 0), (2, nI t.2.2.2.1, 0, 0)] else [(1, nI t.2.2.2.1, 0, 0), (1, nI t.2.2.1, 0, 0), (8, 2, 0, 0), (7, 10, 0, 0), (7, 10, 0, 0), (1, nI t.2.2.1, 0, 0), (2, nI t.2.2.2.1, 0, 0)]) else []
def yu_wy (pw : Nat) (q : Nat → Nat → yT) (r c : Nat) : List yI := (if c = 0 then [(0, 1, 0, 0)] else [(1, nI (yu_pw pw q r (c - 1)), 0, 0)]) ++ yu_ct (q r c)
/-- the ways of a group, k rows from r on, w ways before -/
def yu_gr (pw : Nat) (q : Nat → Nat → yT) (c : Nat) : Nat → Nat → Nat → List yI
  | 0, _, w => if w = 0 then [(0, 0, 0, 0)] else []
  | k + 1, r, w => if (q r c).1 = 27 then yu_gr pw q c k (r + 1) w else yu_wy pw q r c ++ ((if w = 0 then [] else [(7, 11, 0, 0)]) ++ yu_gr pw q c k (r + 1) (w + 1))
def yu_gp (pw : Nat) (q : Nat → Nat → yT) (n c r : Nat) : List yI := yu_gr pw q c (yu_le q c (n - 1 - r) r) r 0 ++ [(2, nI (yu_pw pw q r c), 0, 0)]
/-- the groups of a column, the last k rows -/
def yu_co (pw : Nat) (q : Nat → Nat → yT) (n c : Nat) : Nat → List yI
  | 0 => []
  | k + 1 => (if yu_ls q (n - (k + 1)) c = n - (k + 1) ∧ ¬ (q (n - (k + 1)) c).1 = 28 then yu_gp pw q n c (n - (k + 1)) else []) ++ yu_co pw q n c k
/-- the last k columns -/
def yu_cs (pw : Nat) (q : Nat → Nat → yT) (n m : Nat) : Nat → List yI
  | 0 => []
  | k + 1 => yu_co pw q n (m - (k + 1)) n ++ yu_cs pw q n m k
def yu_cc (pw : Nat) (q : Nat → Nat → yT) (m r : Nat) (t : yT) : List yI := (if t.2.1 < 2 then [] else [(1, nI t.2.2.1, 0, 0)]) ++ ((if m = 1 then [(0, 1, 0, 0)] else [(1, nI (yu_pw pw q r (m - 2)), 0, 0)]) ++ ((if t.2.1 = 1 ∨ t.2.1 = 3 then [(8, 2, 0, 0)] else []) ++ ((if t.2.1 < 2 then [] else if t.2.1 = 2 then [(7, 11, 0, 0)] else [(7, 10, 0, 0)]) ++ [(2, nI t.2.2.1, 0, 0)])))
/-- the coils, the last k rows -/
def yu_cl (pw : Nat) (q : Nat → Nat → yT) (n m : Nat) : Nat → List yI
  | 0 => []
  | k + 1 => (if (q (n - (k + 1)) (m - 1)).1 = 28 then yu_cc pw q m (n - (k + 1)) (q (n - (k + 1)) (m - 1)) else []) ++ yu_cl pw q n m k
def yu_rg (pw : Nat) (q : Nat → Nat → yT) (n m : Nat) : List yI := yu_cs pw q n m m ++ yu_cl pw q n m n
theorem yu_lsl (q : Nat → Nat → yT) (c : Nat) : ∀ r, yu_ls q r c ≤ r := by
  intro r
  induction r with
  | zero => exact Nat.le_refl _
  | succ r ih =>
    show (if (q r c).2.2.2.2.1 = true then yu_ls q r c else r + 1) ≤ r + 1
    split <;> omega
/-- the class has laid its grid -/
def yu_S (pw n m : Nat) (q : Nat → Nat → yT) (h : zs_H) : Prop := ((h.1 47 10) = nI n ∧ (h.1 47 11) = nI m ∧ (h.1 47 5) = nI pw) ∧ (1 ≤ n ∧ n ≤ 12 ∧ 1 ≤ m ∧ m ≤ 12 ∧ pw < 100000) ∧ ∀ r c, r < n → c < m → (h.2.1 48) (r * 12 + c) = nI (q r c).2.2.2.2.2.1 ∧ (h.2.1 50) (r * 12 + c) = (if (q r c).2.2.2.2.1 = true then 1 else 0) ∧ ((q r c).1 = 25 → 2 ≤ (q r c).2.1 → (h.2.1 49) (r * 12 + c) = nI (q r c).2.2.2.1)
/-- a cell's node in the class -/
def yu_N (h0 : zs_H) (t : yT) : Prop := (t.1 < 100 ∧ t.2.1 < 4 ∧ t.2.2.2.2.2.1 < 32784 ∧ (h0.2.1 13) t.2.2.2.2.2.1 = nI t.1) ∧ (t.1 = 25 → (h0.2.1 16) t.2.2.2.2.2.1 = nI t.2.1 ∧ f_Cr_cellOf h0 ((h0.2.1 17) t.2.2.2.2.2.1) = some (nI t.2.2.1)) ∧ (t.1 = 28 → (h0.2.1 16) t.2.2.2.2.2.1 = nI t.2.1 ∧ ∃ a w, (h0.2.1 17) t.2.2.2.2.2.1 = nI a ∧ a < 32784 ∧ (h0.2.1 16) a = nI w ∧ w < 6000 ∧ (h0.2.1 32) w = nI t.2.2.1)
section YLC
variable {pw n m : Nat} {q : Nat → Nat → yT} {h0 h h' : zs_H}
theorem yu_Sf {k : Nat} {L : List yI} (S : yu_S pw n m q h) (E : yC_E k L h h') : yu_S pw n m q h' := by
  obtain ⟨⟨s1, s2, s3⟩, s4, s5⟩ := S
  refine ⟨⟨(E.2.1.1 _ _ (by decide)).trans s1, (E.2.1.1 _ _ (by decide)).trans s2, (E.2.1.1 _ _ (by decide)).trans s3⟩, s4, fun r c hr hc => ?_⟩
  rw [E.2.1.2.1 _ (by decide), E.2.1.2.1 _ (by decide), E.2.1.2.1 _ (by decide)]
  exact s5 r c hr hc
theorem yu_pC {N : Nat} (S : yu_S pw n m q h) {c : Nat} (hc : c < m) : ∀ r, r < n → r < N → f_Cr_power_L2 h N (nI c) (nI r) = some (nI (yu_pw pw q r c)) := by
  obtain ⟨⟨s1, s2, s3⟩, ⟨_, s4, _, s5, s6⟩, s7⟩ := S
  have e28 : ∀ r, r < n → f_Cr_power_28 h (nI c) (nI r) = some (nI (pw + 12 * c + r)) := by
    intro r hr
    unfold f_Cr_power_28
    rw [s3, zc_ml, nI_add, nI_add]
  intro r
  induction r generalizing N with
  | zero =>
    intro hr hN
    obtain ⟨N, rfl⟩ : ∃ z, N = z + 1 := ⟨N - 1, by omega⟩
    show f_Cr_power_2 h (f_Cr_power_L2 h N) (nI c) (nI 0) = _
    unfold f_Cr_power_2
    rw [if_pos (by decide), e28 0 hr]; rfl
  | succ r ih =>
    intro hr hN
    obtain ⟨N, rfl⟩ : ∃ z, N = z + 1 := ⟨N - 1, by omega⟩
    show f_Cr_power_2 h (f_Cr_power_L2 h N) (nI c) (nI (r + 1)) = _
    unfold f_Cr_power_2
    rw [if_neg (mt (zc_el (k := 0) (by decide) (by omega)).mp (by omega)), show nI (r + 1) - 1 = nI r from zi_sub (b := 1) (by omega), show nI r * 12 + nI c = nI (r * 12 + c) by rw [show (12 : Int32) = nI 12 from rfl, zi_mul, nI_add], if_pos (zi_in (by omega) (by omega)), nI_clamp (show r * 12 + c < 2147483648 by omega), (s7 r c (by omega) hc).2.1, zi_dec (by omega)]
    show (if (if (q r c).2.2.2.2.1 = true then (1 : Int32) else 0) = 0 then f_Cr_power_28 h (nI c) (nI (r + 1)) else f_Cr_power_L2 h N (nI c) (nI (r + 1 - 1))) = _
    have el : yu_pw pw q (r + 1) c = pw + 12 * c + (if (q r c).2.2.2.2.1 = true then yu_ls q r c else r + 1) := rfl
    rw [el]
    by_cases z : (q r c).2.2.2.2.1 = true
    · rw [if_pos z, if_neg (by decide), if_pos z]
      exact ih (by omega) (by omega)
    · rw [if_neg z, if_pos rfl, if_neg z, e28 _ hr]
theorem yu_p (S : yu_S pw n m q h) {r c : Nat} (hr : r < n) (hc : c < m) : f_Cr_power h (nI r) (nI c) = some (nI (yu_pw pw q r c)) := by
  have hz := zF_big
  have := S.2.1.2.1
  exact yu_pC S hc r hr (by omega)
/-- the last row of a group -/
theorem yu_l (S : yu_S pw n m q h) {c : Nat} (hc : c < m) : ∀ (k r N : Nat), r + k + 1 = n → k < N → f_Cr_lastOfGroup_L2 h N (nI c) (nI r) = some (nI (r + yu_le q c k r - 1)) := by
  obtain ⟨⟨s1, s2, s3⟩, ⟨_, s4, _, s5, s6⟩, s7⟩ := S
  intro k
  induction k with
  | zero =>
    intro r N hr hN
    obtain ⟨N, rfl⟩ : ∃ z, N = z + 1 := ⟨N - 1, by omega⟩
    show f_Cr_lastOfGroup_2 h (f_Cr_lastOfGroup_L2 h N) (nI c) (nI r) = _
    unfold f_Cr_lastOfGroup_2
    rw [s1, show nI n - 1 = nI (n - 1) from zi_sub (b := 1) (by omega), if_pos ((nI_leI (by omega) (by omega)).mpr (by omega))]
    exact congrArg some (congrArg nI (show r = r + 1 - 1 by omega))
  | succ k ih =>
    intro r N hr hN
    obtain ⟨N, rfl⟩ : ∃ z, N = z + 1 := ⟨N - 1, by omega⟩
    show f_Cr_lastOfGroup_2 h (f_Cr_lastOfGroup_L2 h N) (nI c) (nI r) = _
    unfold f_Cr_lastOfGroup_2
    rw [s1, show nI n - 1 = nI (n - 1) from zi_sub (b := 1) (by omega), if_neg (mt (nI_leI (by omega) (by omega)).mp (by omega)), show nI r * 12 + nI c = nI (r * 12 + c) by rw [show (12 : Int32) = nI 12 from rfl, zi_mul, nI_add], if_pos (zi_in (by omega) (by omega)), nI_clamp (show r * 12 + c < 2147483648 by omega), (s7 r c (by omega) hc).2.1, nI_1]
    have el : yu_le q c (k + 1) r = if (q r c).2.2.2.2.1 = true then 1 + yu_le q c k (r + 1) else 1 := rfl
    rw [el]
    by_cases z : (q r c).2.2.2.2.1 = true
    · rw [if_pos z, if_neg (by decide), if_pos z, ih (r + 1) N (by omega) (by omega)]
      exact congrArg some (congrArg nI (by omega))
    · rw [if_neg z, if_pos rfl, if_neg z]
      exact congrArg some (congrArg nI (show r = r + 1 - 1 by omega))
end YLC
end
section
/-! The coder: rungs, the class's code. -/
section YLD
variable {pw n m : Nat} {q : Nat → Nat → yT} {h0 h h' : zs_H}
theorem yu_edge {k s E fl : Nat} (es : (h.1 41 5) = nI k) (hk : k + 7 ≤ 90000000) (hf : fl < 2) : ∃ h', f_Cr_codeEdge h (nI s) (nI fl) (nI E) = some h' ∧ yC_E k (if fl = 1 then [(1, nI s, 0, 0), (1, nI E, 0, 0), (8, 2, 0, 0), (7, 10, 0, 0), (7, 10, 0, 0), (1, nI s, 0, 0), (2, nI E, 0, 0)] else [(1, nI E, 0, 0), (1, nI s, 0, 0), (8, 2, 0, 0), (7, 10, 0, 0), (7, 10, 0, 0), (1, nI s, 0, 0), (2, nI E, 0, 0)]) h h' := by
  have go : ∀ a1 a2 : Nat, ∃ h', zd_B (f_Cd_emit h 1 (nI a1)) (fun _ h3 => f_Cr_codeEdge_32 h3 (nI s) (nI E) (nI a2) 1) = some h' ∧ yC_E k [(1, nI a1, 0, 0), (1, nI a2, 0, 0), (8, 2, 0, 0), (7, 10, 0, 0), (7, 10, 0, 0), (1, nI s, 0, 0), (2, nI E, 0, 0)] h h' := by
    intro a1 a2
    obtain ⟨h1, p1, p2⟩ := yC_emit es (by omega) 1 (by decide) (nI a1)
    obtain ⟨h2, q1, q2⟩ := yC_emit p2.1 (by show k + 1 < _; omega) 1 (by decide) (nI a2)
    obtain ⟨h3, r1, r2⟩ := yC_emit q2.1 (by show k + 1 + 1 < _; omega) 8 (by decide) 2
    obtain ⟨h4, s1, s2⟩ := yC_emit r2.1 (by show k + 1 + 1 + 1 < _; omega) 7 (by decide) 10
    obtain ⟨h5, t1, t2⟩ := yC_emit s2.1 (by show k + 1 + 1 + 1 + 1 < _; omega) 7 (by decide) 10
    obtain ⟨h6, u1, u2⟩ := yC_emit t2.1 (by show k + 1 + 1 + 1 + 1 + 1 < _; omega) 1 (by decide) (nI s)
    obtain ⟨h7, v1, v2⟩ := yC_emit u2.1 (by show k + 1 + 1 + 1 + 1 + 1 + 1 < _; omega) 2 (by decide) (nI E)
    refine ⟨h7, ?_, yC_ap p2 (yC_ap q2 (yC_ap r2 (yC_ap s2 (yC_ap t2 (yC_ap u2 v2)))))⟩
    refine (congrArg (fun z => zd_B z _) p1).trans ?_
    show f_Cr_codeEdge_32 h1 (nI s) (nI E) (nI a2) 1 = _
    unfold f_Cr_codeEdge_32
    refine (congrArg (fun z => zd_B z _) q1).trans ?_
    refine (show zd_B (f_Cd_emit h2 8 2) _ = _ from (congrArg (fun z => zd_B z _) r1).trans ?_)
    refine (show zd_B (f_Cd_emit h3 7 10) _ = _ from (congrArg (fun z => zd_B z _) s1).trans ?_)
    refine (show zd_B (f_Cd_emit h4 7 10) _ = _ from (congrArg (fun z => zd_B z _) t1).trans ?_)
    refine (show zd_B (f_Cd_emit h5 1 (nI s)) _ = _ from (congrArg (fun z => zd_B z _) u1).trans ?_)
    exact (show zd_B (f_Cd_emit h6 2 (nI E)) _ = _ from (congrArg (fun z => zd_B z _) v1).trans rfl)
  unfold f_Cr_codeEdge f_Cr_codeEdge_14
  by_cases z : fl = 1
  · rw [if_pos z]
    have z0 : ¬ nI fl = 0 := fun e => by have := (zc_eq (k := 0) (by decide) (by omega)).mp e; omega
    obtain ⟨h', a1, a2⟩ := go s E
    refine ⟨h', ?_, a2⟩
    rw [if_neg z0]
    simp only [if_neg z0]
    exact a1
  · rw [if_neg z]
    have z0 : nI fl = 0 := by rw [show fl = 0 by omega]; rfl
    obtain ⟨h', a1, a2⟩ := go E s
    refine ⟨h', ?_, a2⟩
    rw [if_pos z0]
    simp only [if_pos z0]
    exact a1
theorem yu_ctl {t : yT} : (yu_ct t).length ≤ 7 := by
  unfold yu_ct
  split
  · split
    · show 2 ≤ 7; omega
    · split
      · show 3 ≤ 7; omega
      · split <;> exact Nat.le_refl _
  · exact Nat.zero_le _
theorem yu_wyl {r c : Nat} : (yu_wy pw q r c).length ≤ 8 := by
  unfold yu_wy
  rw [List.length_append]
  have := yu_ctl (t := q r c)
  have e : (if c = 0 then [((0, 1, 0, 0) : yI)] else [(1, nI (yu_pw pw q r (c - 1)), 0, 0)]).length = 1 := by split <;> rfl
  omega
/-- the class sees a cell -/
theorem yu_cOf (f : yC_f h0 h) (x : Int32) : f_Cr_cellOf h x = f_Cr_cellOf h0 x := by
  unfold f_Cr_cellOf
  rw [f.2.1 16 (by decide), f.2.1 13 (by decide), f.2.1 17 (by decide), f.2.1 32 (by decide)]
theorem yu_w34 {k r c : Nat} (f : yC_f h0 h) (S : yu_S pw n m q h) (hr : r < n) (hc : c < m) (N : yu_N h0 (q r c)) (es : (h.1 41 5) = nI k) (hk : k + 7 ≤ 90000000) : ∃ h', f_Cr_codeWay_34 h (nI (q r c).2.2.2.2.2.1) (nI r) (nI c) = some h' ∧ yC_E k (yu_ct (q r c)) h h' := by
  obtain ⟨⟨n1, n2, n3, n4⟩, n5, _⟩ := N
  have f' : ∀ a, ¬ a ∈ yC_M → h.2.1 a = h0.2.1 a := fun a ha => f.2.1 a ha
  have sn := S.2.1
  unfold f_Cr_codeWay_34 yu_ct
  simp only [if_pos (zi_in (show (q r c).2.2.2.2.2.1 < 2147483648 by omega) n3), nI_clamp (show (q r c).2.2.2.2.2.1 < 2147483648 by omega), f' 13 (by decide), n4, f' 17 (by decide), yu_cOf f, f' 16 (by decide)]
  by_cases z : (q r c).1 = 25
  · obtain ⟨m1, m2⟩ := n5 z
    rw [if_pos z, if_pos (by rw [z]; rfl), m2, Option.bind_some, m1]
    by_cases z2 : (q r c).2.1 < 2
    · rw [if_pos ((zc_tl (k := 2) (by decide) (by omega)).mpr z2)]
      obtain ⟨h1, a1, a2⟩ := yC_emit es (by omega) 1 (by decide) (nI (q r c).2.2.1)
      have f1 := yC_fE f a2
      by_cases z1 : (q r c).2.1 = 1
      · obtain ⟨h2, b1, b2⟩ := yC_emit a2.1 (by show k + 1 < _; omega) 8 (by decide) 2
        obtain ⟨h3, d1, d2⟩ := yC_emit b2.1 (by show k + 1 + 1 < _; omega) 7 (by decide) 10
        rw [if_neg (by omega), if_pos z1]
        refine ⟨h3, ?_, yC_ap a2 (yC_ap b2 d2)⟩
        refine (congrArg (fun z => zd_B z _) a1).trans ?_
        show (if nI (q r c).2.1 = 1 then (zd_B (f_Cd_emit h1 8 2) fun _ h12 => f_Cr_codeWay_138 h12) else f_Cr_codeWay_138 h1) = _
        rw [if_pos (by rw [z1]; rfl)]
        refine (congrArg (fun z => zd_B z _) b1).trans ?_
        show f_Cr_codeWay_138 h2 = _
        unfold f_Cr_codeWay_138
        exact (congrArg (fun z => zd_B z _) d1).trans rfl
      · obtain ⟨h3, d1, d2⟩ := yC_emit a2.1 (by show k + 1 < _; omega) 7 (by decide) 10
        rw [if_pos (by omega)]
        refine ⟨h3, ?_, yC_ap a2 d2⟩
        refine (congrArg (fun z => zd_B z _) a1).trans ?_
        show (if nI (q r c).2.1 = 1 then (zd_B (f_Cd_emit h1 8 2) fun _ h12 => f_Cr_codeWay_138 h12) else f_Cr_codeWay_138 h1) = _
        rw [if_neg (fun e => z1 ((zc_eq (k := 1) (by decide) (by omega)).mp e))]
        unfold f_Cr_codeWay_138
        exact (congrArg (fun z => zd_B z _) d1).trans rfl
    · rw [if_neg (mt (zc_tl (k := 2) (by decide) (by omega)).mp z2), if_neg (show ¬ (q r c).2.1 = 0 by omega), if_neg (show ¬ (q r c).2.1 = 1 by omega)]
      have e95 : ∀ fl : Nat, f_Cr_codeWay_95 h (nI r) (nI c) (nI fl) (nI (q r c).2.2.1) = f_Cr_codeEdge h (nI (q r c).2.2.1) (nI fl) (nI (q r c).2.2.2.1) := by
        intro fl
        unfold f_Cr_codeWay_95
        rw [show nI r * 12 + nI c = nI (r * 12 + c) by rw [show (12 : Int32) = nI 12 from rfl, zi_mul, nI_add], if_pos (zi_in (by omega) (by omega)), nI_clamp (show r * 12 + c < 2147483648 by omega), (S.2.2 r c hr hc).2.2 z (by omega), Option.bind_fun_some]
      by_cases z3 : (q r c).2.1 = 2
      · rw [if_pos z3, if_pos (by rw [z3]; rfl)]
        obtain ⟨h', a1, a2⟩ := yu_edge (s := (q r c).2.2.1) (E := (q r c).2.2.2.1) (fl := 1) es hk (by decide)
        exact ⟨h', (e95 1).trans a1, a2⟩
      · rw [if_neg z3, if_neg (fun e => z3 ((zc_eq (k := 2) (by decide) (by omega)).mp e))]
        obtain ⟨h', a1, a2⟩ := yu_edge (s := (q r c).2.2.1) (E := (q r c).2.2.2.1) (fl := 0) es hk (by decide)
        exact ⟨h', (e95 0).trans a1, a2⟩
  · rw [if_neg z, if_neg (fun e => z ((zc_eq (k := 25) (by decide) (by omega)).mp e))]
    exact ⟨h, rfl, yC_nil es⟩
theorem yu_way {k r c : Nat} (f : yC_f h0 h) (S : yu_S pw n m q h) (hr : r < n) (hc : c < m) (N : yu_N h0 (q r c)) (es : (h.1 41 5) = nI k) (hk : k + 8 ≤ 90000000) : ∃ h', f_Cr_codeWay h (nI (q r c).2.2.2.2.2.1) (nI r) (nI c) = some h' ∧ yC_E k (yu_wy pw q r c) h h' := by
  have sn := S.2.1
  unfold f_Cr_codeWay yu_wy
  by_cases z : c = 0
  · obtain ⟨h1, a1, a2⟩ := yC_emit es (by omega) 0 (by decide) 1
    obtain ⟨h2, b1, b2⟩ := yu_w34 (yC_fE f a2) (yu_Sf S a2) hr hc N a2.1 (by show k + 1 + 7 ≤ _; omega)
    rw [if_pos z, if_pos (by rw [z]; rfl)]
    refine ⟨h2, ?_, yC_ap a2 b2⟩
    exact (congrArg (fun z => zd_B z _) a1).trans b1
  · obtain ⟨h1, a1, a2⟩ := yC_emit es (by omega) 1 (by decide) (nI (yu_pw pw q r (c - 1)))
    obtain ⟨h2, b1, b2⟩ := yu_w34 (yC_fE f a2) (yu_Sf S a2) hr hc N a2.1 (by show k + 1 + 7 ≤ _; omega)
    rw [if_neg z, if_neg (fun e => z ((zc_eq (k := 0) (by decide) (by omega)).mp e)), show nI c - 1 = nI (c - 1) from zi_sub (b := 1) (by omega), yu_p S hr (by omega), Option.bind_some]
    refine ⟨h2, ?_, yC_ap a2 b2⟩
    exact (congrArg (fun z => zd_B z _) a1).trans b1
/-- a group -/
theorem yu_grC {c fr la : Nat} (hc : c < m) (hf : fr < n) (hn : ∀ r, r < n → yu_N h0 (q r c)) : ∀ (k r w kk N : Nat) (h : zs_H), yC_f h0 h → yu_S pw n m q h → r + k = la + 1 → la < n → (h.1 41 5) = nI kk → kk + 9 * k + 2 ≤ 90000000 → k < N → w ≤ r → ∃ h', f_Cr_codeGroup_L6 N h (nI fr) (nI la) (nI c) (nI w) (nI r) = some h' ∧ yC_E kk (yu_gr pw q c k r w ++ [(2, nI (yu_pw pw q fr c), 0, 0)]) h h' := by
  intro k
  induction k with
  | zero =>
    intro r w kk N h f S hr hl es hk hN hw
    have sn := S.2.1
    obtain ⟨N, rfl⟩ : ∃ z, N = z + 1 := ⟨N - 1, by omega⟩
    have fin : ∀ (h1 : zs_H) (k1 : Nat), yu_S pw n m q h1 → (h1.1 41 5) = nI k1 → k1 < 90000000 → ∃ h', f_Cr_codeGroup_92 h1 (nI fr) (nI c) = some h' ∧ yC_E k1 [(2, nI (yu_pw pw q fr c), 0, 0)] h1 h' := by
      intro h1 k1 S1 e1 hk1
      obtain ⟨h2, b1, b2⟩ := yC_emit e1 (by omega) 2 (by decide) (nI (yu_pw pw q fr c))
      refine ⟨h2, ?_, b2⟩
      unfold f_Cr_codeGroup_92
      rw [yu_p S1 hf hc, Option.bind_some]
      exact (congrArg (fun z => zd_B z _) b1).trans rfl
    show ∃ h', f_Cr_codeGroup_6 (f_Cr_codeGroup_L6 N) h (nI fr) (nI la) (nI c) (nI w) (nI r) = some h' ∧ yC_E kk ((if w = 0 then [(0, 0, 0, 0)] else []) ++ [(2, nI (yu_pw pw q fr c), 0, 0)]) h h'
    unfold f_Cr_codeGroup_6
    rw [if_pos ((nI_ltI (by omega) (by omega)).mpr (by omega))]
    by_cases z : w = 0
    · obtain ⟨h1, a1, a2⟩ := yC_emit es (by omega) 0 (by decide) 0
      obtain ⟨h2, b1, b2⟩ := fin h1 _ (yu_Sf S a2) a2.1 (by show kk + 1 < _; omega)
      rw [if_pos z, if_pos (by rw [z]; rfl)]
      exact ⟨h2, (congrArg (fun z => zd_B z _) a1).trans b1, yC_ap a2 b2⟩
    · obtain ⟨h2, b1, b2⟩ := fin h kk S es (by omega)
      rw [if_neg z, if_neg (fun e => z ((zc_eq (k := 0) (by decide) (by omega)).mp e))]
      exact ⟨h2, b1, b2⟩
  | succ k ih =>
    intro r w kk N h f S hr hl es hk hN hw
    have sn := S.2.1
    obtain ⟨N, rfl⟩ : ∃ z, N = z + 1 := ⟨N - 1, by omega⟩
    have Nr := hn r (by omega)
    have hrn : r < n := by omega
    obtain ⟨g1, _, _⟩ := S.2.2 r c hrn hc
    show ∃ h', f_Cr_codeGroup_6 (f_Cr_codeGroup_L6 N) h (nI fr) (nI la) (nI c) (nI w) (nI r) = some h' ∧ yC_E kk ((if (q r c).1 = 27 then yu_gr pw q c k (r + 1) w else yu_wy pw q r c ++ ((if w = 0 then [] else [(7, 11, 0, 0)]) ++ yu_gr pw q c k (r + 1) (w + 1))) ++ [(2, nI (yu_pw pw q fr c), 0, 0)]) h h'
    unfold f_Cr_codeGroup_6
    rw [if_neg (mt (nI_ltI (by omega) (by omega)).mp (by omega)), show nI r * 12 + nI c = nI (r * 12 + c) by rw [show (12 : Int32) = nI 12 from rfl, zi_mul, nI_add], if_pos (zi_in (by omega) (by omega)), nI_clamp (show r * 12 + c < 2147483648 by omega), g1, if_pos (zi_in (by have := Nr.1.2.2.1; omega) Nr.1.2.2.1), nI_clamp (by have := Nr.1.2.2.1; omega), f.2.1 13 (by decide), Nr.1.2.2.2]
    by_cases z : (q r c).1 = 27
    · rw [if_pos z, if_pos (by rw [z]; rfl)]
      unfold f_Cr_codeGroup_71
      rw [nI_1]
      exact ih (r + 1) w kk N h f S (by omega) hl es (by omega) (by omega) (by omega)
    · rw [if_neg z, if_neg (fun e => z ((zc_eq (k := 27) (by decide) (by have := Nr.1.1; omega)).mp e))]
      obtain ⟨h1, a1, a2⟩ := yu_way f S hrn hc Nr es (by omega)
      have f1 := yC_fE f a2
      have S1 := yu_Sf S a2
      have wl := yu_wyl (pw := pw) (q := q) (r := r) (c := c)
      rw [a1, Option.bind_some, nI_1, List.append_assoc, List.append_assoc]
      by_cases zw : w = 0
      · rw [if_pos ((zc_el (k := 1) (by decide) (by omega)).mpr (by omega)), if_pos zw]
        unfold f_Cr_codeGroup_71
        rw [nI_1]
        obtain ⟨h2, b1, b2⟩ := ih (r + 1) (w + 1) _ N h1 f1 S1 (by omega) hl a2.1 (by omega) (by omega) (by omega)
        exact ⟨h2, b1, yC_ap a2 b2⟩
      · rw [if_neg (mt (zc_el (k := 1) (by decide) (by omega)).mp (by omega)), if_neg zw]
        obtain ⟨h2, b1, b2⟩ := yC_emit a2.1 (by omega) 7 (by decide) 11
        have f2 := yC_fE f1 b2
        obtain ⟨h3, d1, d2⟩ := ih (r + 1) (w + 1) _ N h2 f2 (yu_Sf S1 b2) (by omega) hl b2.1 (by show kk + (yu_wy pw q r c).length + 1 + 9 * k + 2 ≤ _; omega) (by omega) (by omega)
        refine ⟨h3, ?_, yC_ap a2 (yC_ap b2 d2)⟩
        refine (congrArg (fun z => zd_B z _) b1).trans ?_
        show f_Cr_codeGroup_71 (f_Cr_codeGroup_L6 N) h2 (nI fr) (nI la) (nI c) (nI (w + 1)) (nI r) = _
        unfold f_Cr_codeGroup_71
        rw [nI_1]
        exact d1
end YLD
end
section
/-! The coder: rungs, the class's columns and coils. -/
section YUD
variable {pw n m : Nat} {q : Nat → Nat → yT} {h0 h h' : zs_H}
theorem yu_lef {c : Nat} : ∀ (k r : Nat), 1 ≤ yu_le q c k r ∧ yu_le q c k r ≤ k + 1 ∧ (∀ j, j < yu_le q c k r → yu_ls q (r + j) c = yu_ls q r c) ∧ (yu_le q c k r ≤ k → yu_ls q (r + yu_le q c k r) c = r + yu_le q c k r) := by
  intro k
  induction k with
  | zero => intro r; exact ⟨Nat.le_refl _, Nat.le_refl _, fun j hj => (show yu_ls q (r + j) c = yu_ls q r c by rw [show j = 0 from Nat.lt_one_iff.mp hj]; rfl), fun h => absurd h (by show ¬ 1 ≤ 0; omega)⟩
  | succ k ih =>
    intro r
    have el : yu_le q c (k + 1) r = if (q r c).2.2.2.2.1 = true then 1 + yu_le q c k (r + 1) else 1 := rfl
    have es : yu_ls q (r + 1) c = if (q r c).2.2.2.2.1 = true then yu_ls q r c else r + 1 := rfl
    rw [el]
    by_cases z : (q r c).2.2.2.2.1 = true
    · rw [if_pos z] at es ⊢
      obtain ⟨a1, a2, a3, a4⟩ := ih (r + 1)
      refine ⟨by omega, by omega, fun j hj => ?_, fun hk => ?_⟩
      · by_cases j0 : j = 0
        · rw [j0]; rfl
        · have := a3 (j - 1) (by omega)
          rw [show r + 1 + (j - 1) = r + j by omega, es] at this
          exact this
      · have := a4 (by omega)
        rw [show r + 1 + yu_le q c k (r + 1) = r + (1 + yu_le q c k (r + 1)) by omega] at this
        exact this
    · rw [if_neg z] at es ⊢
      exact ⟨Nat.le_refl _, by omega, fun j hj => (show yu_ls q (r + j) c = yu_ls q r c by rw [show j = 0 from Nat.lt_one_iff.mp hj]; rfl), fun _ => es⟩
/-- rows that are no first ones -/
theorem yu_skip {c r : Nat} : ∀ j : Nat, r + 1 + j ≤ n → (∀ i, i < j → ¬ yu_ls q (r + 1 + i) c = r + 1 + i) → yu_co pw q n c (n - (r + 1)) = yu_co pw q n c (n - (r + 1 + j)) := by
  intro j
  induction j with
  | zero => intro _ _; rfl
  | succ j ih =>
    intro h1 h2
    rw [ih (by omega) (fun i hi => h2 i (by omega))]
    obtain ⟨k, hk⟩ : ∃ k, n - (r + 1 + j) = k + 1 := ⟨n - (r + 1 + j) - 1, by omega⟩
    rw [hk, show n - (r + 1 + (j + 1)) = k by omega]
    show (if yu_ls q (n - (k + 1)) c = n - (k + 1) ∧ ¬ (q (n - (k + 1)) c).1 = 28 then yu_gp pw q n c (n - (k + 1)) else []) ++ yu_co pw q n c k = _
    rw [show n - (k + 1) = r + 1 + j by omega, if_neg (fun z => h2 j (by omega) z.1), List.nil_append]
theorem yu_stp {c r : Nat} (hr : r < n) (h1 : yu_ls q r c = r) : yu_co pw q n c (n - r) = (if (q r c).1 = 28 then [] else yu_gp pw q n c r) ++ yu_co pw q n c (n - (r + yu_le q c (n - 1 - r) r)) ∧ r + yu_le q c (n - 1 - r) r ≤ n ∧ (r + yu_le q c (n - 1 - r) r < n → yu_ls q (r + yu_le q c (n - 1 - r) r) c = r + yu_le q c (n - 1 - r) r) := by
  obtain ⟨a1, a2, a3, a4⟩ := yu_lef (q := q) (c := c) (n - 1 - r) r
  refine ⟨?_, by omega, fun h => a4 (by omega)⟩
  obtain ⟨k, hk⟩ : ∃ k, n - r = k + 1 := ⟨n - r - 1, by omega⟩
  have e := yu_skip (pw := pw) (q := q) (n := n) (c := c) (r := r) (yu_le q c (n - 1 - r) r - 1) (by omega) (fun i hi z => by
    have := a3 (1 + i) (by omega)
    rw [show r + (1 + i) = r + 1 + i by omega, z, h1] at this
    omega)
  rw [show r + 1 + (yu_le q c (n - 1 - r) r - 1) = r + yu_le q c (n - 1 - r) r by omega, show n - (r + 1) = k by omega] at e
  rw [hk]
  show (if yu_ls q (n - (k + 1)) c = n - (k + 1) ∧ ¬ (q (n - (k + 1)) c).1 = 28 then yu_gp pw q n c (n - (k + 1)) else []) ++ yu_co pw q n c k = _
  rw [show n - (k + 1) = r by omega, e]
  by_cases z : (q r c).1 = 28
  · rw [if_neg (fun w => w.2 z), if_pos z]
  · rw [if_pos ⟨h1, z⟩, if_neg z]
theorem yu_grl {c : Nat} : ∀ (k r w : Nat), (yu_gr pw q c k r w).length ≤ 9 * k + 1 := by
  intro k
  induction k with
  | zero => intro r w; show (if w = 0 then [((0, 0, 0, 0) : yI)] else []).length ≤ 1; split <;> decide
  | succ k ih =>
    intro r w
    show (if (q r c).1 = 27 then yu_gr pw q c k (r + 1) w else yu_wy pw q r c ++ ((if w = 0 then [] else [((7, 11, 0, 0) : yI)]) ++ yu_gr pw q c k (r + 1) (w + 1))).length ≤ _
    split
    · have := ih (r + 1) w; omega
    · rw [List.length_append, List.length_append]
      have a := yu_wyl (pw := pw) (q := q) (r := r) (c := c)
      have b := ih (r + 1) (w + 1)
      have e : (if w = 0 then [] else [((7, 11, 0, 0) : yI)]).length ≤ 1 := by split <;> decide
      omega
theorem yu_colC {c : Nat} (hc : c < m) (hn : ∀ r, r < n → yu_N h0 (q r c)) {k7 : zs_H → Int32 → Option zs_H} : ∀ (k r t kk N : Nat) (h : zs_H), n - r ≤ k → r ≤ n → (r < n → yu_ls q r c = r) → t ≤ r → yC_f h0 h → yu_S pw n m q h → (h.1 41 5) = nI kk → kk + 11 * (n - r) ≤ 90000000 → k < N → (yu_co pw q n c (n - r)).length ≤ 11 * (n - r) ∧ ∃ h', f_Cr_codeRung_L20 k7 N h (nI c) (nI r) (nI t) = k7 h' (nI (c + 1)) ∧ yC_E kk (yu_co pw q n c (n - r)) h h' := by
  have hz := zF_big
  intro k
  induction k with
  | zero =>
    intro r t kk N h hk hr _ ht f S es hkk hN
    obtain ⟨N, rfl⟩ : ∃ z, N = z + 1 := ⟨N - 1, by omega⟩
    have sn := S.2.1
    have e0 : n - r = 0 := by omega
    rw [e0]
    refine ⟨Nat.le_refl _, h, ?_, yC_nil es⟩
    show f_Cr_codeRung_20 k7 (f_Cr_codeRung_L20 k7 N) h (nI c) (nI r) (nI t) = _
    unfold f_Cr_codeRung_20 f_Cr_codeRung_86
    rw [S.1.1, if_pos (show nI n ≤ nI r from (nI_leI (by omega) (by omega)).mpr (by omega)), ite_self, nI_1]
  | succ k ih =>
    intro r t kk N h hk hr hls ht f S es hkk hN
    obtain ⟨N, rfl⟩ : ∃ z, N = z + 1 := ⟨N - 1, by omega⟩
    have sn := S.2.1
    by_cases er : r = n
    · have e0 : n - r = 0 := by omega
      rw [e0]
      refine ⟨Nat.le_refl _, h, ?_, yC_nil es⟩
      show f_Cr_codeRung_20 k7 (f_Cr_codeRung_L20 k7 N) h (nI c) (nI r) (nI t) = _
      unfold f_Cr_codeRung_20 f_Cr_codeRung_86
      rw [S.1.1, if_pos (show nI n ≤ nI r from (nI_leI (by omega) (by omega)).mpr (by omega)), ite_self, nI_1]
    · have hrn : r < n := by omega
      obtain ⟨s1, s2, s3⟩ := yu_stp (pw := pw) (q := q) (n := n) (c := c) hrn (hls hrn)
      obtain ⟨a1, a2, a3, _⟩ := yu_lef (q := q) (c := c) (n - 1 - r) r
      have Nr := hn r hrn
      obtain ⟨g1, _, _⟩ := S.2.2 r c hrn hc
      have el : f_Cr_lastOfGroup h (nI r) (nI c) = some (nI (r + yu_le q c (n - 1 - r) r - 1)) := yu_l S hc (n - 1 - r) r zF (by omega) (by omega)
      rw [s1]
      have e20 : ∀ h1 : zs_H, f_Cr_codeRung_75 k7 (f_Cr_codeRung_L20 k7 N) h1 (nI c) (nI t) (nI (r + yu_le q c (n - 1 - r) r - 1)) = f_Cr_codeRung_L20 k7 N h1 (nI c) (nI (r + yu_le q c (n - 1 - r) r)) (nI (t + 1)) := by
        intro h1
        unfold f_Cr_codeRung_75
        rw [nI_1, nI_1, show r + yu_le q c (n - 1 - r) r - 1 + 1 = r + yu_le q c (n - 1 - r) r by omega]
      have e0 : f_Cr_codeRung_L20 k7 (N + 1) h (nI c) (nI r) (nI t) = if nI (q r c).1 = 28 then f_Cr_codeRung_75 k7 (f_Cr_codeRung_L20 k7 N) h (nI c) (nI t) (nI (r + yu_le q c (n - 1 - r) r - 1)) else (f_Cr_codeGroup h (nI r) (nI (r + yu_le q c (n - 1 - r) r - 1)) (nI c)).bind fun h9 => f_Cr_codeRung_75 k7 (f_Cr_codeRung_L20 k7 N) h9 (nI c) (nI t) (nI (r + yu_le q c (n - 1 - r) r - 1)) := by
        show f_Cr_codeRung_20 k7 (f_Cr_codeRung_L20 k7 N) h (nI c) (nI r) (nI t) = _
        unfold f_Cr_codeRung_20
        rw [if_neg (mt (zc_le (k := 12) (by decide) (by omega)).mp (by omega)), S.1.1, if_neg (mt (nI_leI (by omega) (by omega)).mp (by omega)), el, Option.bind_some, show nI r * 12 + nI c = nI (r * 12 + c) by rw [show (12 : Int32) = nI 12 from rfl, zi_mul, nI_add], if_pos (zi_in (by omega) (by omega)), nI_clamp (show r * 12 + c < 2147483648 by omega), g1, if_pos (zi_in (by have := Nr.1.2.2.1; omega) Nr.1.2.2.1), nI_clamp (by have := Nr.1.2.2.1; omega), f.2.1 13 (by decide), Nr.1.2.2.2]
      by_cases z : (q r c).1 = 28
      · rw [e0, if_pos z, if_pos (show nI (q r c).1 = 28 by rw [z]; rfl), e20, List.nil_append]
        obtain ⟨b0, h1, b1, b2⟩ := ih (r + yu_le q c (n - 1 - r) r) (t + 1) kk N h (by omega) s2 s3 (by omega) f S es (by omega) (by omega)
        exact ⟨by omega, h1, b1, b2⟩
      · rw [e0, if_neg z, if_neg (show ¬ nI (q r c).1 = 28 from fun e => z ((zc_eq (k := 28) (by decide) (by have := Nr.1.1; omega)).mp e))]
        obtain ⟨h1, b1, b2⟩ := yu_grC (la := r + yu_le q c (n - 1 - r) r - 1) hc hrn hn (yu_le q c (n - 1 - r) r) r 0 kk zF h f S (by omega) (by omega) es (by omega) (by omega) (by omega)
        have b1' : f_Cr_codeGroup h (nI r) (nI (r + yu_le q c (n - 1 - r) r - 1)) (nI c) = some h1 := b1
        have b2' : yC_E kk (yu_gp pw q n c r) h h1 := b2
        have gl : (yu_gp pw q n c r).length ≤ 9 * yu_le q c (n - 1 - r) r + 2 := by
          unfold yu_gp
          rw [List.length_append]
          have := yu_grl (pw := pw) (q := q) (c := c) (yu_le q c (n - 1 - r) r) r 0
          show _ + 1 ≤ _
          omega
        rw [b1', Option.bind_some, e20]
        obtain ⟨d0, h2, d1, d2⟩ := ih (r + yu_le q c (n - 1 - r) r) (t + 1) _ N h1 (by omega) s2 s3 (by omega) (yC_fE f b2') (yu_Sf S b2') b2'.1 (by omega) (by omega)
        exact ⟨by rw [List.length_append]; omega, h2, d1, yC_ap b2' d2⟩
end YUD
end
section
/-! The coder: rungs, the class's coils; a whole rung. -/
section YUE
variable {pw n m : Nat} {q : Nat → Nat → yT} {h0 h h' : zs_H}
theorem yu_ccl {r : Nat} {t : yT} : (yu_cc pw q m r t).length ≤ 5 := by
  unfold yu_cc
  rw [List.length_append, List.length_append, List.length_append, List.length_append]
  have e1 : (if t.2.1 < 2 then [] else [((1, nI t.2.2.1, 0, 0) : yI)]).length ≤ 1 := by
    split
    · exact Nat.zero_le _
    · exact Nat.le_refl _
  have e2 : (if m = 1 then [((0, 1, 0, 0) : yI)] else [(1, nI (yu_pw pw q r (m - 2)), 0, 0)]).length = 1 := by split <;> rfl
  have e3 : (if t.2.1 = 1 ∨ t.2.1 = 3 then [((8, 2, 0, 0) : yI)] else []).length ≤ 1 := by split <;> decide
  have e4 : (if t.2.1 < 2 then [] else if t.2.1 = 2 then [((7, 11, 0, 0) : yI)] else [(7, 10, 0, 0)]).length ≤ 1 := by split <;> (try split) <;> decide
  show _ + (_ + (_ + (_ + 1))) ≤ 5
  omega
theorem yu_coilC {k r : Nat} {t : yT} (f : yC_f h0 h) (S : yu_S pw n m q h) (hr : r < n) (N : yu_N h0 t) (h28 : t.1 = 28) (es : (h.1 41 5) = nI k) (hk : k + 5 ≤ 90000000) : ∃ h', f_Cr_codeCoil h (nI t.2.2.2.2.2.1) (nI r) = some h' ∧ yC_E k (yu_cc pw q m r t) h h' := by
  obtain ⟨⟨n1, n2, n3, n4⟩, _, n5⟩ := N
  obtain ⟨v1, a, w, a1, a2, a3, a4, a5⟩ := n5 h28
  have sn := S.2.1
  have f' : ∀ a, ¬ a ∈ yC_M → h.2.1 a = h0.2.1 a := fun a ha => f.2.1 a ha
  -- the end
  have e142 : ∀ (h1 : zs_H) (k1 : Nat), (h1.1 41 5) = nI k1 → k1 < 90000000 → ∃ h', f_Cr_codeCoil_142 h1 (nI t.2.2.1) = some h' ∧ yC_E k1 [(2, nI t.2.2.1, 0, 0)] h1 h' := by
    intro h1 k1 e1 hk1
    obtain ⟨h2, b1, b2⟩ := yC_emit e1 (by omega) 2 (by decide) (nI t.2.2.1)
    refine ⟨h2, ?_, b2⟩
    unfold f_Cr_codeCoil_142
    exact (congrArg (fun z => zd_B z _) b1).trans rfl
  have e115 : ∀ (h1 : zs_H) (k1 : Nat), (h1.1 41 5) = nI k1 → k1 + 1 < 90000000 → ∃ h', f_Cr_codeCoil_115 h1 (nI t.2.1) (nI t.2.2.1) = some h' ∧ yC_E k1 ((if t.2.1 < 2 then [] else if t.2.1 = 2 then [(7, 11, 0, 0)] else [(7, 10, 0, 0)]) ++ [(2, nI t.2.2.1, 0, 0)]) h1 h' := by
    intro h1 k1 e1 hk1
    unfold f_Cr_codeCoil_115
    by_cases z : t.2.1 < 2
    · rw [if_pos ((zc_tl (k := 2) (by decide) (by omega)).mpr z), if_pos z]
      exact e142 h1 k1 e1 (by omega)
    · rw [if_neg (mt (zc_tl (k := 2) (by decide) (by omega)).mp z), if_neg z]
      by_cases z2 : t.2.1 = 2
      · rw [if_pos (show nI t.2.1 = 2 by rw [z2]; rfl), if_pos z2]
        obtain ⟨h2, b1, b2⟩ := yC_emit e1 (by omega) 7 (by decide) 11
        obtain ⟨h3, d1, d2⟩ := e142 h2 _ b2.1 (by show k1 + 1 < _; omega)
        refine ⟨h3, ?_, yC_ap b2 d2⟩
        unfold f_Cr_codeCoil_138
        exact (congrArg (fun z => zd_B z _) b1).trans d1
      · rw [if_neg (show ¬ nI t.2.1 = 2 from fun e => z2 ((zc_eq (k := 2) (by decide) (by omega)).mp e)), if_neg z2]
        obtain ⟨h2, b1, b2⟩ := yC_emit e1 (by omega) 7 (by decide) 10
        obtain ⟨h3, d1, d2⟩ := e142 h2 _ b2.1 (by show k1 + 1 < _; omega)
        refine ⟨h3, ?_, yC_ap b2 d2⟩
        unfold f_Cr_codeCoil_138
        exact (congrArg (fun z => zd_B z _) b1).trans d1
  have e94 : ∀ (h1 : zs_H) (k1 : Nat), (h1.1 41 5) = nI k1 → k1 + 2 < 90000000 → ∃ h', f_Cr_codeCoil_94 h1 (nI t.2.1) (nI t.2.2.1) = some h' ∧ yC_E k1 ((if t.2.1 = 1 ∨ t.2.1 = 3 then [(8, 2, 0, 0)] else []) ++ ((if t.2.1 < 2 then [] else if t.2.1 = 2 then [(7, 11, 0, 0)] else [(7, 10, 0, 0)]) ++ [(2, nI t.2.2.1, 0, 0)])) h1 h' := by
    intro h1 k1 e1 hk1
    have i1 : (nI t.2.1 = 1) ↔ t.2.1 = 1 := zc_eq (k := 1) (by decide) (by omega)
    have i3 : (nI t.2.1 = 3) ↔ t.2.1 = 3 := zc_eq (k := 3) (by decide) (by omega)
    unfold f_Cr_codeCoil_94
    by_cases z : t.2.1 = 1 ∨ t.2.1 = 3
    · rw [if_pos z]
      obtain ⟨h2, b1, b2⟩ := yC_emit e1 (by omega) 8 (by decide) 2
      obtain ⟨h3, d1, d2⟩ := e115 h2 _ b2.1 (by show k1 + 1 + 1 < _; omega)
      refine ⟨h3, ?_, yC_ap b2 d2⟩
      have e104 : f_Cr_codeCoil_104 h1 (nI t.2.1) (nI t.2.2.1) = some h3 := by
        unfold f_Cr_codeCoil_104
        exact (congrArg (fun z => zd_B z _) b1).trans d1
      rcases z with z | z
      · rw [if_pos (i1.mpr z)]; exact e104
      · rw [if_neg (fun e => by have := i1.mp e; omega), if_pos (i3.mpr z)]; exact e104
    · rw [if_neg z, if_neg (fun e => z (.inl (i1.mp e))), if_neg (fun e => z (.inr (i3.mp e)))]
      exact e115 h1 k1 e1 (by omega)
  have e53 : ∀ (h1 : zs_H) (k1 : Nat), yu_S pw n m q h1 → (h1.1 41 5) = nI k1 → k1 + 3 < 90000000 → ∃ h', f_Cr_codeCoil_53 h1 (nI r) (nI t.2.1) (nI t.2.2.1) = some h' ∧ yC_E k1 ((if m = 1 then [(0, 1, 0, 0)] else [(1, nI (yu_pw pw q r (m - 2)), 0, 0)]) ++ ((if t.2.1 = 1 ∨ t.2.1 = 3 then [(8, 2, 0, 0)] else []) ++ ((if t.2.1 < 2 then [] else if t.2.1 = 2 then [(7, 11, 0, 0)] else [(7, 10, 0, 0)]) ++ [(2, nI t.2.2.1, 0, 0)]))) h1 h' := by
    intro h1 k1 S1 e1 hk1
    unfold f_Cr_codeCoil_53
    rw [S1.1.2.1]
    by_cases z : m = 1
    · rw [if_pos (show nI m = 1 by rw [z]; rfl), if_pos z]
      obtain ⟨h2, b1, b2⟩ := yC_emit e1 (by omega) 0 (by decide) 1
      obtain ⟨h3, d1, d2⟩ := e94 h2 _ b2.1 (by show k1 + 1 + 2 < _; omega)
      exact ⟨h3, (congrArg (fun z => zd_B z _) b1).trans d1, yC_ap b2 d2⟩
    · rw [if_neg (show ¬ nI m = 1 from fun e => z ((zc_eq (k := 1) (by decide) (by omega)).mp e)), if_neg z, show nI m - 2 = nI (m - 2) from zi_sub (b := 2) (by omega), yu_p S1 hr (by omega), Option.bind_some]
      obtain ⟨h2, b1, b2⟩ := yC_emit e1 (by omega) 1 (by decide) (nI (yu_pw pw q r (m - 2)))
      obtain ⟨h3, d1, d2⟩ := e94 h2 _ b2.1 (by show k1 + 1 + 2 < _; omega)
      exact ⟨h3, (congrArg (fun z => zd_B z _) b1).trans d1, yC_ap b2 d2⟩
  unfold f_Cr_codeCoil yu_cc
  simp only [if_pos (zi_in (show t.2.2.2.2.2.1 < 2147483648 by omega) n3), nI_clamp (show t.2.2.2.2.2.1 < 2147483648 by omega), f' 17 (by decide), a1, if_pos (zi_in (show a < 2147483648 by omega) a2), nI_clamp (show a < 2147483648 by omega), f' 16 (by decide), a3, if_pos (zi_in (show w < 2147483648 by omega) a4), nI_clamp (show w < 2147483648 by omega), v1, f' 32 (by decide), a5]
  by_cases z : t.2.1 < 2
  · rw [if_pos ((zc_tl (k := 2) (by decide) (by omega)).mpr z), if_pos z, if_pos z]
    have := e53 h k S es (by omega)
    rw [if_pos z] at this
    exact this
  · rw [if_neg (mt (zc_tl (k := 2) (by decide) (by omega)).mp z)]
    obtain ⟨h2, b1, b2⟩ := yC_emit es (by omega) 1 (by decide) (nI t.2.2.1)
    obtain ⟨h3, d1, d2⟩ := e53 h2 _ (yu_Sf S b2) b2.1 (by show k + 1 + 3 < _; omega)
    refine ⟨h3, (congrArg (fun z => zd_B z _) b1).trans d1, ?_⟩
    have := yC_ap b2 d2
    rw [show (if t.2.1 < 2 then [] else [((1, nI t.2.2.1, 0, 0) : yI)]) = [(1, nI t.2.2.1, 0, 0)] from if_neg z]
    exact this
/-- all coils -/
theorem yu_clC (hn : ∀ r, r < n → yu_N h0 (q r (m - 1))) : ∀ (k kk N : Nat) (h : zs_H), k ≤ n → yC_f h0 h → yu_S pw n m q h → (h.1 41 5) = nI kk → kk + 5 * k ≤ 90000000 → k < N → (yu_cl pw q n m k).length ≤ 5 * k ∧ ∃ h', f_Cr_codeRung_L94 N h (nI (n - k)) = some h' ∧ yC_E kk (yu_cl pw q n m k) h h' := by
  intro k
  induction k with
  | zero =>
    intro kk N h _ f S es _ hN
    obtain ⟨N, rfl⟩ : ∃ z, N = z + 1 := ⟨N - 1, by omega⟩
    have sn := S.2.1
    refine ⟨Nat.le_refl _, h, ?_, yC_nil es⟩
    show f_Cr_codeRung_94 (f_Cr_codeRung_L94 N) h (nI (n - 0)) = _
    unfold f_Cr_codeRung_94
    rw [S.1.1, if_pos ((nI_leI (by omega) (by omega)).mpr (by omega))]
  | succ k ih =>
    intro kk N h hkn f S es hkk hN
    obtain ⟨N, rfl⟩ : ∃ z, N = z + 1 := ⟨N - 1, by omega⟩
    have sn := S.2.1
    have hr : n - (k + 1) < n := by omega
    have Nr := hn _ hr
    obtain ⟨g1, _, _⟩ := S.2.2 (n - (k + 1)) (m - 1) hr (by omega)
    have e1 : n - (k + 1) + 1 = n - k := by omega
    show ((if (q (n - (k + 1)) (m - 1)).1 = 28 then yu_cc pw q m (n - (k + 1)) (q (n - (k + 1)) (m - 1)) else []) ++ yu_cl pw q n m k).length ≤ _ ∧ ∃ h', f_Cr_codeRung_94 (f_Cr_codeRung_L94 N) h (nI (n - (k + 1))) = some h' ∧ yC_E kk ((if (q (n - (k + 1)) (m - 1)).1 = 28 then yu_cc pw q m (n - (k + 1)) (q (n - (k + 1)) (m - 1)) else []) ++ yu_cl pw q n m k) h h'
    unfold f_Cr_codeRung_94
    rw [S.1.1, S.1.2.1, if_neg (mt (nI_leI (by omega) (by omega)).mp (by omega)), show nI (n - (k + 1)) * 12 + nI m - 1 = nI ((n - (k + 1)) * 12 + (m - 1)) by rw [show (12 : Int32) = nI 12 from rfl, zi_mul, nI_add, show (1 : Int32) = nI 1 from rfl, zi_sub (by omega)]; exact congrArg nI (by omega), if_pos (zi_in (by omega) (by omega)), nI_clamp (show (n - (k + 1)) * 12 + (m - 1) < 2147483648 by omega), g1, if_pos (zi_in (by have := Nr.1.2.2.1; omega) Nr.1.2.2.1), nI_clamp (by have := Nr.1.2.2.1; omega), f.2.1 13 (by decide), Nr.1.2.2.2]
    by_cases z : (q (n - (k + 1)) (m - 1)).1 = 28
    · rw [if_pos z, if_pos (show nI (q (n - (k + 1)) (m - 1)).1 = 28 by rw [z]; rfl)]
      obtain ⟨h1, a1, a2⟩ := yu_coilC f S hr Nr z es (by omega)
      have cl := yu_ccl (pw := pw) (q := q) (m := m) (r := n - (k + 1)) (t := q (n - (k + 1)) (m - 1))
      obtain ⟨b0, h2, b1, b2⟩ := ih _ N h1 (by omega) (yC_fE f a2) (yu_Sf S a2) a2.1 (by omega) (by omega)
      rw [a1, Option.bind_some]
      unfold f_Cr_codeRung_139
      rw [nI_1, e1]
      exact ⟨by rw [List.length_append]; omega, h2, b1, yC_ap a2 b2⟩
    · rw [if_neg z, if_neg (show ¬ nI (q (n - (k + 1)) (m - 1)).1 = 28 from fun e => z ((zc_eq (k := 28) (by decide) (by have := Nr.1.1; omega)).mp e)), List.nil_append]
      unfold f_Cr_codeRung_139
      rw [nI_1, e1]
      obtain ⟨b0, h2, b1, b2⟩ := ih kk N h (by omega) f S es (by omega) (by omega)
      exact ⟨by omega, h2, b1, b2⟩
/-- all columns, then the coils -/
theorem yu_csC (hn : ∀ r c, r < n → c < m → yu_N h0 (q r c)) : ∀ (k kk N : Nat) (h : zs_H), k ≤ m → yC_f h0 h → yu_S pw n m q h → (h.1 41 5) = nI kk → kk + 11 * n * k + 5 * n ≤ 90000000 → k < N → (yu_cs pw q n m k).length ≤ 11 * n * k ∧ ∃ h', f_Cr_codeRung_L7 N h (nI (m - k)) = some h' ∧ yC_E kk (yu_cs pw q n m k ++ yu_cl pw q n m n) h h' := by
  have hz := zF_big
  intro k
  induction k with
  | zero =>
    intro kk N h _ f S es hkk hN
    obtain ⟨N, rfl⟩ : ∃ z, N = z + 1 := ⟨N - 1, by omega⟩
    have sn := S.2.1
    obtain ⟨_, h1, b1, b2⟩ := yu_clC (pw := pw) (fun r hr => hn r (m - 1) hr (by omega)) n kk zF h (Nat.le_refl _) f S es (by omega) (by omega)
    refine ⟨Nat.zero_le _, h1, ?_, b2⟩
    show f_Cr_codeRung_7 (f_Cr_codeRung_L7 N) h (nI (m - 0)) = _
    unfold f_Cr_codeRung_7
    rw [S.1.2.1, if_pos ((nI_leI (by omega) (by omega)).mpr (by omega))]
    rw [Nat.sub_self] at b1
    exact b1
  | succ k ih =>
    intro kk N h hkm f S es hkk hN
    obtain ⟨N, rfl⟩ : ∃ z, N = z + 1 := ⟨N - 1, by omega⟩
    have sn := S.2.1
    have em : 11 * n * (k + 1) = 11 * n * k + 11 * n := Nat.mul_succ _ _
    have hc : m - (k + 1) < m := by omega
    obtain ⟨a0, h1, a1, a2⟩ := yu_colC (pw := pw) (k7 := f_Cr_codeRung_L7 N) hc (fun r hr => hn r _ hr hc) n 0 0 kk zF h (by omega) (by omega) (fun _ => rfl) (Nat.le_refl _) f S es (by omega) (by omega)
    rw [Nat.sub_zero] at a0 a2
    obtain ⟨b0, h2, b1, b2⟩ := ih _ N h1 (by omega) (yC_fE f a2) (yu_Sf S a2) a2.1 (by omega) (by omega)
    refine ⟨?_, h2, ?_, ?_⟩
    · show (yu_co pw q n (m - (k + 1)) n ++ yu_cs pw q n m k).length ≤ _
      rw [List.length_append]; omega
    · show f_Cr_codeRung_7 (f_Cr_codeRung_L7 N) h (nI (m - (k + 1))) = _
      unfold f_Cr_codeRung_7
      rw [S.1.2.1, if_neg (mt (nI_leI (by omega) (by omega)).mp (by omega))]
      refine Eq.trans a1 ?_
      rw [show m - (k + 1) + 1 = m - k by omega]
      exact b1
    · show yC_E kk ((yu_co pw q n (m - (k + 1)) n ++ yu_cs pw q n m k) ++ yu_cl pw q n m n) h h2
      rw [List.append_assoc]
      exact yC_ap a2 b2
end YUE
end
