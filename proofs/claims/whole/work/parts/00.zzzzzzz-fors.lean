/-! The coder: FOR, on both sides; all statements. -/
section YJZ
variable {LC LM : List (List Int32)} {nb b sz ow : Nat} {F Fb X Y : Nat → Nat} {h0 g0 : zs_H} {P Q Qm : Nat → Prop} {up x x' y : Int32} {kd : Nat} {kv : Int32 × Int32} {o : Unit} {l r : zt_T}
theorem yk_tmM {k ka kb kc : Nat} {st : Int32} {T : Int64} (hk : k < 33500) (m1 : (g0.2.1 76) k = nI ka) (hka : ka < 33500) (m2 : (g0.2.1 78) ka = nI kb) (hkb : kb < 33500) (m3 : (g0.2.1 78) kb = nI kc) (hkc : kc < 33500) (es0 : (¬ (g0.2.1 72) kc = 11 ∧ st = (g0.2.1 74) kc) ∨ ((g0.2.1 72) kc = 11 ∧ st = 1)) (hs : ¬ st = 0) (hT : f_Cd_times ((g0.2.1 74) ka) ((g0.2.1 74) kb) st = some T) : f_Mo_times g0 (nI k) = some T.toInt32 := by
  have i64 : (st.toInt64 = 0) ↔ st = 0 := by
    rw [← Int64.toInt_inj, Int32.toInt_toInt64, ← Int32.toInt_inj]; rfl
  have zS : ¬ st.toInt64 = 0 := mt i64.mp hs
  have e46 : f_Mo_times g0 (nI k) = f_Mo_times_46 g0 (nI ka) (nI kb) st.toInt64 := by
    unfold f_Mo_times
    simp only [if_pos (zi_in (show k < 2147483648 by omega) hk), nI_clamp (show k < 2147483648 by omega), m1, if_pos (zi_in (show ka < 2147483648 by omega) hka), nI_clamp (show ka < 2147483648 by omega), m2, if_pos (zi_in (show kb < 2147483648 by omega) hkb), nI_clamp (show kb < 2147483648 by omega), m3, if_pos (zi_in (show kc < 2147483648 by omega) hkc), nI_clamp (show kc < 2147483648 by omega)]
    rcases es0 with ⟨z1, z2⟩ | ⟨z1, z2⟩
    · rw [if_neg z1, z2]
    · rw [if_pos z1, z2]; rfl
  obtain ⟨T', t1, _, t3⟩ := yc_tm (a := (g0.2.1 74) ka) (b := (g0.2.1 74) kb) hs
  have eT : T' = T := Option.some.inj (t1.symm.trans hT)
  rw [e46, ← eT, t3]
  unfold f_Mo_times_46 f_Mo_times_84 f_Mo_times_96 f_Mo_times_103
  rw [if_pos (zi_in (by omega) hkb), if_pos (zi_in (by omega) hka), nI_clamp (show ka < 2147483648 by omega), nI_clamp (show kb < 2147483648 by omega)]
  generalize ((g0.2.1 74) kb).toInt64 - ((g0.2.1 74) ka).toInt64 = w
  generalize st.toInt64 = S at zS
  have lS : (S ≤ 0) ↔ ¬ 0 < S := Int64.not_lt.symm
  have lw : (w ≤ 0) ↔ ¬ 0 < w := Int64.not_lt.symm
  simp only [zS, lS, lw, if_false]
  by_cases y0 : w = 0
  · simp only [y0, true_or, if_true]
  · by_cases y1 : 0 < w
    · by_cases y2 : 0 < S
      · simp (config := { decide := true }) only [y0, y1, y2, not_true, if_false, if_true, false_or]
      · simp (config := { decide := true }) only [y0, y1, y2, not_true, not_false_iff, if_false, if_true, false_or, iff_false]
    · by_cases y2 : 0 < S
      · simp (config := { decide := true }) only [y0, y1, y2, not_true, not_false_iff, if_false, if_true, false_or, false_iff]
      · simp (config := { decide := true }) only [y0, y1, y2, not_false_iff, if_false, if_true, false_or]
theorem yj_30 (hc : kd = 30 ∨ kd = 31) (H : yj_f LC LM Fb b h0 g0 P Q ow (.inner kd kv o l r) Qm up x x' y) : ∃ (a ka : Nat) (Q2 : Nat → Prop) (z2 : Int32), (a < 32784 ∧ x = nI a ∧ zv_kc h0 a) ∧ (ka < 33500 ∧ x' = nI ka) ∧ yj_f LC LM Fb b h0 g0 P Q ow r Q2 up ((h0.2.1 18) a) ((g0.2.1 78) ka) z2 ∧ y = (if z2 = -1 then x' else z2) := by
  obtain ⟨a, ka, xl, _, Q2, z2, ⟨⟨_, ha, ea⟩, ⟨_, hka, eka⟩, _⟩, N, _, _, _, _, R, ey⟩ := yj_c H
  have k30 : 30 ≤ zt_km kd := by rcases hc with e | e <;> subst e <;> decide
  have gc : yg_c 0 (.inner kd kv o l .leaf) = 0 := by
    show (if 30 ≤ zt_km kd then 0 else _) + 0 = 0
    rw [if_pos k30]
  rw [gc] at R
  refine ⟨a, ka, Q2, z2, ⟨ha, ea, ?_⟩, ⟨hka, eka⟩, R, ey⟩
  rcases N with N | ⟨ty, _, _, _, N⟩
  · exact absurd (show kd ∈ [6, 30, 31, 32, 33, 34, 35, 36] by rcases hc with e | e <;> subst e <;> decide) (yb_SE N)
  · rcases N with ⟨e, _⟩ | ⟨e, q, _⟩ | ⟨e, _⟩ | ⟨e, _⟩ | ⟨e, _⟩ | ⟨e, _⟩ | ⟨e, _⟩ | ⟨e, _⟩
    · omega
    · rcases e with e | e <;> subst e
      · exact .inl q
      · exact .inr q
    all_goals omega
theorem yj_19N {i k n : Nat} {v xl : Int32} (N : yb_N Fb b h0 g0 P Q 19 v i k xl n) : (h0.2.1 13) i = 19 ∧ (h0.2.1 17) i = xl ∧ ∃ u x ty, yb_V Fb b h0 v u x ∧ (h0.2.1 16) i = nI (32 + u) ∧ (h0.2.1 14) i = nI ty ∧ (h0.2.1 31) (32 + u) = nI ty ∧ ((ty = 1 ∨ ty = 2) ∧ (h0.2.1 30) (32 + u) = -1) ∧ (g0.2.1 101) k = nI x ∧ yb_fo h0 P xl := by
  rcases N with N | ⟨ty, _, _, _, N⟩
  · rcases N with e | ⟨e, _⟩ | ⟨e, _⟩ | ⟨e, _⟩ | ⟨_, a⟩
    · exact absurd e (by decide)
    · exact absurd e (by decide)
    · exact absurd e (by decide)
    · exact absurd e (by decide)
    · exact a
  · rcases N with ⟨e, _⟩ | ⟨e, _⟩ | ⟨e, _⟩ | ⟨e, _⟩ | ⟨e, _⟩ | ⟨e, _⟩ | ⟨e, _⟩ | ⟨e, _⟩ <;> exact absurd e (by decide)
theorem yj_19 {i k : Nat} {xl : Int32} {Q1 : Nat → Prop} (C : yj_cx LC LM nb b sz F Fb X Y h0 g0 P) (K : ∀ u, zt_sz u < zt_sz l → yj_K LC LM b sz Fb X Y h0 g0 P Q u) (hi : i < 32784) (hk : k < 33500) (km : (g0.2.1 72) k = 19) (m5 : (g0.2.1 102) k = nI ow) (nv : zt_nr LC LM kv.2 ((g0.2.1 74) k)) (N : yb_N Fb b h0 g0 P Q 19 kv.2 i k xl (zt_ln l)) (A : yj_f LC LM Fb b h0 g0 P Q (ow + 1) l Q1 (nI k) xl ((g0.2.1 76) k) ((g0.2.1 77) k)) (hA : zg_A 19 (zg_run 19 0 l) = true) (ok : zg_ok l) (hd : zg_d l ≤ 187) (hz : zt_sz l + 1 ≤ sz) (hY : Y b ≤ ow) (hX : ow + 1 + yg_c 0 l ≤ X b) : ∃ T, yj_1 X Y h0 g0 b 19 kv l i k ow T := by
  obtain ⟨_, ec, u, xx, ty, V, n1, n2, n3, ⟨n4, n5⟩, n6, fo⟩ := yj_19N N
  obtain ⟨x0, s, ty', ⟨v1, v2⟩, _, _, ⟨v5, v6⟩, ⟨v7, v7'⟩, v8, _⟩ := yj_var C V
  obtain ⟨s1, vt⟩ := v8 n5
  have ety : ty' = ty := (nI_eq (by omega) (by omega)).mp (v7.symm.trans n3)
  subst ety
  obtain ⟨a, c, cc, ka, kb, kc, st, ⟨a1, a2, _⟩, ⟨b1, b2, _⟩, ⟨d1, d2, _⟩, ⟨e1, e2⟩, ⟨f1, f2⟩, ⟨j1, j2⟩, _, hst, _, _, hstm, ⟨_, va, _, vb⟩, _⟩ := yc_parts hA A.1 A.2.1
  -- how often
  obtain ⟨n, hn, hT, hs0⟩ : ∃ n, n ≤ 1000000 ∧ f_Cd_times ((h0.2.1 16) a) ((h0.2.1 16) c) st = some (Int64.ofNat n) ∧ ¬ st = 0 := by
    obtain ⟨a', c', cc', st', ⟨q1, qP1, q2, qP2, q3, qP3⟩, q4, q5, n, q6, q7⟩ := fo
    have hP := C.2.2.2.1
    have h1 := hP _ qP1
    have h2 := hP _ qP2
    have h3 := hP _ qP3
    have t1 : a' = a := (nI_eq (by omega) (by omega)).mp (q1.symm.trans a1)
    subst t1
    have t2 : c' = c := (nI_eq (by omega) (by omega)).mp (q2.symm.trans b1)
    subst t2
    have t3 : cc' = cc := (nI_eq (by omega) (by omega)).mp (q3.symm.trans d1)
    subst t3
    have t4 : st' = st := by
      rcases q4 with ⟨z1, z2⟩ | ⟨z1, z2⟩
      · rcases hst with ⟨y1, y2⟩ | ⟨y1, y2⟩
        · exact z2.trans y2.symm
        · exact absurd z1 y1
      · rcases hst with ⟨y1, y2⟩ | ⟨y1, y2⟩
        · exact absurd y1 z1
        · exact z2.trans y2.symm
    subst t4
    exact ⟨n, q6, q7, q5⟩
  -- the body
  obtain ⟨lb, ib, ke, Tb, ⟨⟨BC, BM⟩, ⟨t1, t2, t3⟩, t4, t5⟩, ⟨hib, hke⟩, hl, hstb, ⟨z1, z2⟩, z3, z4, z5⟩ : ∃ (lb : zt_T) (ib ke : Nat) (Tb : ys), yj_B X Y h0 g0 b lb ib ke (ow + 1) Tb ∧ (ib < 32784 ∧ ke < 33500) ∧ (g0.2.1 77) k = nI ke ∧ ((zv_kc h0 cc ∧ (h0.2.1 18) cc = nI ib) ∨ (¬ zv_kc h0 cc ∧ ib = cc)) ∧ (3 + zt_sz lb ≤ zt_sz l ∧ zg_d lb + 1 ≤ zg_d l) ∧ yg_c 0 l = yg_c 0 lb ∧ zg_ct 20 lb ≤ zg_ct 20 l ∧ zg_ct 11 lb ≤ zg_ct 11 l := by
    obtain ⟨c1', kv1, o1, lt1, c2', kv2, o2, lt2, hk1, hk2, gr⟩ := yc_g19 hA
    have k30 : ∀ z, (z = 30 ∨ z = 31) → 30 ≤ zt_km z := by rintro z (e | e) <;> subst e <;> decide
    rcases gr with ⟨kv3, o3, lb, el⟩ | ⟨c3', kv3, o3, lt3, kv4, o4, lb, hk3, el⟩
    · subst el
      have gl : yg_c 0 (.inner c1' kv1 o1 lt1 (.inner c2' kv2 o2 lt2 (.inner 11 kv3 o3 lb .leaf))) = yg_c 0 lb := by
        show (if 30 ≤ zt_km c1' then 0 else _) + ((if 30 ≤ zt_km c2' then 0 else _) + (0 + yg_c 0 lb + 0)) = _
        rw [if_pos (k30 _ hk1), if_pos (k30 _ hk2)]; omega
      have hzl : zt_sz (.inner c1' kv1 o1 lt1 (.inner c2' kv2 o2 lt2 (.inner 11 kv3 o3 lb .leaf))) = 1 + zt_sz lt1 + (1 + zt_sz lt2 + (1 + zt_sz lb + 0)) := rfl
      have hdl : max (zg_d lt1 + 1) (max (zg_d lt2 + 1) (zg_d (.inner 11 kv3 o3 lb .leaf))) ≤ zg_d (.inner c1' kv1 o1 lt1 (.inner c2' kv2 o2 lt2 (.inner 11 kv3 o3 lb .leaf))) := zg_d2
      have hdb : max (zg_d lb + 1) 0 ≤ zg_d (.inner 11 kv3 o3 lb .leaf) := zg_d1 (r := .leaf)
      rw [gl] at hX ⊢
      obtain ⟨ok1, okl1, ok2⟩ := id ok
      obtain ⟨ok3, okl2, ok4⟩ := id ok2
      obtain ⟨i1, k1, S1, y1, ⟨p1, p2, p3⟩, ⟨p4, p5⟩, R1, ey1⟩ := yj_30 hk1 A
      obtain ⟨i2, k2, S2, y2, ⟨q1, q2, q3⟩, ⟨q4, q5⟩, R2, ey2⟩ := yj_30 hk2 R1
      obtain ⟨ib, ke, Tb, S3, y3, ⟨r1, r2, r3⟩, ⟨r4, r5, r6⟩, B, R3, ey3⟩ := yj_bd C (K lb (by omega)) R2 ok4 (by omega) (by omega) (by omega) hX
      have i1a : i1 = a := (nI_eq (by omega) (by omega)).mp (p2.symm.trans a1)
      subst i1a
      have i2c : i2 = c := (nI_eq (by omega) (by omega)).mp (q2.symm.trans b1)
      subst i2c
      have ibc : ib = cc := (nI_eq (by omega) (by omega)).mp (r2.symm.trans d1)
      have hy3 : y3 = -1 := (show (g0.2.1 78) ke = -1 ∧ y3 = -1 from R3.2.1).2
      rw [hy3, if_pos rfl, r5] at ey3
      rw [ey3, if_neg (zc_m1 (by omega))] at ey2
      rw [ey2, if_neg (zc_m1 (by omega))] at ey1
      have c20 : zg_ct 20 (.inner c1' kv1 o1 lt1 (.inner c2' kv2 o2 lt2 (.inner 11 kv3 o3 lb .leaf))) = (if c1' = 20 then 1 else 0) + zg_ct 20 lt1 + ((if c2' = 20 then 1 else 0) + zg_ct 20 lt2 + (0 + zg_ct 20 lb + 0)) := rfl
      have c11 : zg_ct 11 (.inner c1' kv1 o1 lt1 (.inner c2' kv2 o2 lt2 (.inner 11 kv3 o3 lb .leaf))) = (if c1' = 11 then 1 else 0) + zg_ct 11 lt1 + ((if c2' = 11 then 1 else 0) + zg_ct 11 lt2 + (1 + zg_ct 11 lb + 0)) := rfl
      refine ⟨lb, ib, ke, Tb, B, ⟨r1, r4⟩, ey1, .inr ⟨?_, ibc⟩, ⟨by omega, by omega⟩, rfl, by omega, by omega⟩
      rw [← ibc]
      unfold zv_kc
      rw [r3]; decide
    · subst el
      have gl : yg_c 0 (.inner c1' kv1 o1 lt1 (.inner c2' kv2 o2 lt2 (.inner c3' kv3 o3 lt3 (.inner 11 kv4 o4 lb .leaf)))) = yg_c 0 lb := by
        show (if 30 ≤ zt_km c1' then 0 else _) + ((if 30 ≤ zt_km c2' then 0 else _) + ((if 30 ≤ zt_km c3' then 0 else _) + (0 + yg_c 0 lb + 0))) = _
        rw [if_pos (k30 _ hk1), if_pos (k30 _ hk2), if_pos (k30 _ hk3)]; omega
      have hzl : zt_sz (.inner c1' kv1 o1 lt1 (.inner c2' kv2 o2 lt2 (.inner c3' kv3 o3 lt3 (.inner 11 kv4 o4 lb .leaf)))) = 1 + zt_sz lt1 + (1 + zt_sz lt2 + (1 + zt_sz lt3 + (1 + zt_sz lb + 0))) := rfl
      have hdl : max (zg_d lt1 + 1) (max (zg_d lt2 + 1) (zg_d (.inner c3' kv3 o3 lt3 (.inner 11 kv4 o4 lb .leaf)))) ≤ zg_d (.inner c1' kv1 o1 lt1 (.inner c2' kv2 o2 lt2 (.inner c3' kv3 o3 lt3 (.inner 11 kv4 o4 lb .leaf)))) := zg_d2
      have hdb : max (zg_d lt3 + 1) (max (zg_d lb + 1) 0) ≤ zg_d (.inner c3' kv3 o3 lt3 (.inner 11 kv4 o4 lb .leaf)) := zg_d2 (r := .leaf)
      rw [gl] at hX ⊢
      obtain ⟨ok1, okl1, ok2⟩ := id ok
      obtain ⟨ok3, okl2, ok4⟩ := id ok2
      obtain ⟨ok5, okl3, ok6⟩ := id ok4
      obtain ⟨i1, k1, S1, y1, ⟨p1, p2, p3⟩, ⟨p4, p5⟩, R1, ey1⟩ := yj_30 hk1 A
      obtain ⟨i2, k2, S2, y2, ⟨q1, q2, q3⟩, ⟨q4, q5⟩, R2, ey2⟩ := yj_30 hk2 R1
      obtain ⟨i3, k3, S4, y4, ⟨w1, w2, w3⟩, ⟨w4, w5⟩, R4, ey4⟩ := yj_30 hk3 R2
      obtain ⟨ib, ke, Tb, S3, y3, ⟨r1, r2, r3⟩, ⟨r4, r5, r6⟩, B, R3, ey3⟩ := yj_bd C (K lb (by omega)) R4 ok6 (by omega) (by omega) (by omega) hX
      have i1a : i1 = a := (nI_eq (by omega) (by omega)).mp (p2.symm.trans a1)
      subst i1a
      have i2c : i2 = c := (nI_eq (by omega) (by omega)).mp (q2.symm.trans b1)
      subst i2c
      have i3c : i3 = cc := (nI_eq (by omega) (by omega)).mp (w2.symm.trans d1)
      subst i3c
      have hy3 : y3 = -1 := (show (g0.2.1 78) ke = -1 ∧ y3 = -1 from R3.2.1).2
      rw [hy3, if_pos rfl, r5] at ey3
      rw [ey3, if_neg (zc_m1 (by omega))] at ey4
      rw [ey4, if_neg (zc_m1 (by omega))] at ey2
      rw [ey2, if_neg (zc_m1 (by omega))] at ey1
      have c20 : zg_ct 20 (.inner c1' kv1 o1 lt1 (.inner c2' kv2 o2 lt2 (.inner c3' kv3 o3 lt3 (.inner 11 kv4 o4 lb .leaf)))) = (if c1' = 20 then 1 else 0) + zg_ct 20 lt1 + ((if c2' = 20 then 1 else 0) + zg_ct 20 lt2 + ((if c3' = 20 then 1 else 0) + zg_ct 20 lt3 + (0 + zg_ct 20 lb + 0))) := rfl
      have c11 : zg_ct 11 (.inner c1' kv1 o1 lt1 (.inner c2' kv2 o2 lt2 (.inner c3' kv3 o3 lt3 (.inner 11 kv4 o4 lb .leaf)))) = (if c1' = 11 then 1 else 0) + zg_ct 11 lt1 + ((if c2' = 11 then 1 else 0) + zg_ct 11 lt2 + ((if c3' = 11 then 1 else 0) + zg_ct 11 lt3 + (1 + zg_ct 11 lb + 0))) := rfl
      exact ⟨lb, ib, ke, Tb, B, ⟨r1, r4⟩, ey1, .inl ⟨w3, r2⟩, ⟨by omega, by omega⟩, rfl, by omega, by omega⟩
  have eTn : (Int64.ofNat n).toInt32 = nI n := Int64.toInt32_ofNat'
  have hes : (zv_kc h0 cc ∧ st = (h0.2.1 16) cc ∧ (h0.2.1 18) cc = nI ib) ∨ (¬ zv_kc h0 cc ∧ st = 1 ∧ ib = cc) := by
    rcases hstb with ⟨y1, y2⟩ | ⟨y1, y2⟩
    · rcases hst with ⟨_, q⟩ | ⟨q, _⟩
      · exact .inl ⟨y1, q, y2⟩
      · exact absurd y1 q
    · rcases hst with ⟨q, _⟩ | ⟨_, q⟩
      · exact absurd q y1
      · exact .inr ⟨y1, q, y2⟩
  have hesm : (¬ (g0.2.1 72) kc = 11 ∧ st = (g0.2.1 74) kc) ∨ ((g0.2.1 72) kc = 11 ∧ st = 1) := by
    rcases hstm with ⟨y1, y2, _⟩ | y1
    · exact .inl ⟨by rcases y1 with e | e <;> rw [e] <;> decide, y2⟩
    · exact .inr y1
  have g19 : yg_c 0 (.inner 19 kv () l .leaf) = 1 + yg_c 0 lb := by
    show 1 + yg_c 0 l + 0 = _
    rw [z3]; omega
  have SMm : ∀ {T : ys} {a1 a2 b1 b2 dl : Nat}, a1 ≤ a2 → b1 ≤ b2 → yk_SM g0 b dl k T a1 b1 → yk_SM g0 b dl k T a2 b2 := fun h1 h2 S D n s v q w ww g f c hl hw hn h20 h11 hD => S D n s v q w ww g f c hl hw hn (by omega) (by omega) hD
  have hdn : zg_d l + 2 ≤ zg_d (.inner 19 kv () l .leaf) := by show _ ≤ max (zg_d l + 2) 0; omega
  rw [z3] at hX
  refine ⟨yz_for x0 ((h0.2.1 16) a) st (if nI ty' = 1 then 0 else 5) ow (nI n) Tb, yz_fors, ⟨?_, ?_⟩, ⟨fun n => Nat.zero_le _, ?_⟩, ⟨⟨rfl, fun j hj => ?_⟩, ⟨ow, n, rfl, rfl, Nat.le_refl _, by omega, hn, yz_stap _ _ t1 ⟨by decide, trivial⟩, yz_Wap _ _ _ t4 (yz_Wi rfl (fun j hj => ?_))⟩, trivial⟩, ?_, fun LD nl => ?_⟩
  · rw [g19, ← eTn]
    exact yk_S19 (dlb := zg_d lb) hi (ec.trans a1) a2 n1 (show 32 + u < 6000 by omega) v2 b1 b2 d1 d2 hes hT (by rw [n2]) (by omega) BC t1
  · have etM : f_Mo_times g0 (nI k) = some (nI n) := by
      rw [← eTn]
      exact yk_tmM hk e1 e2 f1 f2 j1 j2 hesm hs0 (by rw [va, vb]; exact hT)
    refine SMm (a1 := zg_ct 20 lb) (b1 := zg_ct 11 lb) (by show _ ≤ 0 + zg_ct 20 l + 0; omega) (by show _ ≤ 0 + zg_ct 11 l + 0; omega) ?_
    rw [← va]
    exact yk_T19 (dl := zg_d l) (dlb := zg_d lb) hk km e1 e2 f1 f2 j1 j2 (yk_vM C.1 C.2.1 C.2.2.1 V nv) (show u < 8400 by omega) (n6.trans v1) m5 hl hesm etM (by rw [vt]) (by omega) (fun n => Nat.le_trans (t2 n) (zg_x20 lb)) BM t1
  · rw [yz_forl t1]
    show _ ≤ 6 * (1 + zt_sz l + 0)
    omega
  · rcases List.mem_cons.mp hj with e | hj
    · rw [e]; exact .inl (.inl rfl)
    rw [List.mem_singleton.mp hj]
    exact .inr (.inl ⟨rfl, x0, rfl, .inl ⟨by omega, yj_ni C V n5 v2 (by omega)⟩⟩)
  · have hYX := (C.1.2.2 b C.2.1).1.2.1
    have l7 : ∀ k : Nat, k < 25 → yw_i X Y (yq_k h0) b (ow + 1) (7, nI k, 0, 0) := fun k hk => .inl (.inr (.inr (.inr (.inr (.inr (.inr (.inl ⟨rfl, k, rfl, hk⟩)))))))
    rcases List.mem_cons.mp hj with e | hj
    · rw [e]; exact .inl (.inr (.inr (.inl ⟨rfl, x0, rfl, by omega⟩)))
    rcases List.mem_cons.mp hj with e | hj
    · rw [e]; exact .inl (.inl rfl)
    rcases List.mem_cons.mp hj with e | hj
    · rw [e]
      split
      · exact l7 0 (by decide)
      · exact l7 5 (by decide)
    rw [List.mem_singleton.mp hj]
    exact .inr (.inl ⟨rfl, x0, rfl, .inl ⟨by omega, yj_ni C V n5 v2 (by omega)⟩⟩)
  · show 3 * max 0 (max (yz_v (yz_ap Tb _) + 1) 0) ≤ _
    rw [yz_vap]
    show 3 * max 0 (max (max (yz_v Tb) (max 0 0) + 1) 0) ≤ _
    omega
  · have hY4 := (C.1.2.2 b C.2.1).1
    have nx : ¬ yq_b LD h0 b x0 := fun z => by
      have e0 := yj_b1 C V n5 v2 (by omega) z
      rw [n3] at e0
      have e1 := (zc_eq (k := 0) (by decide) (Nat.lt_of_lt_of_le v7' (by decide))).mp e0
      rcases n4 with w | w
      · rw [w] at e1; exact absurd e1 (by decide)
      · rw [w] at e1; exact absurd e1 (by decide)
    have ecl : (nI x0).toNatClampNeg = x0 := nI_clamp (by omega)
    refine ⟨fun K st H => ?_, ⟨?_, yz_Bap _ _ (t5.2 LD nl) (yz_Bi (fun K st H => ?_))⟩, trivial⟩
    · show (yq_b LD h0 b (nI x0).toNatClampNeg → _) ∧ K st
      rw [ecl]
      exact ⟨fun z => absurd z nx, H⟩
    · show ¬ yq_b LD h0 b (nI ow).toNatClampNeg
      rw [nI_clamp (by omega)]
      exact fun z => nl ((yq_bo C.1 C.2.1 hY (by omega)).mp z)
    · show (yq_b LD h0 b (nI x0).toNatClampNeg → _) ∧ K st
      rw [ecl]
      exact ⟨fun z => absurd z nx, H⟩
end YJZ
