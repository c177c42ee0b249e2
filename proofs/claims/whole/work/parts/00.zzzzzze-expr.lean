/-! The coder: all expressions, on both sides. -/
theorem yk_exp1 {LC LM : List (List Int32)} {nb b sz : Nat} {F Fb X Y : Nat → Nat} {h0 g0 : zs_H} {P Q : Nat → Prop} (C : yk_cx LC LM nb F X Y h0 g0) (hb : b < nb) (hF : ∀ j, j ≤ b + 1 → Fb j = F j) (hP : ∀ j, P j → j < 32784) (hsz : (h0.1 12 6) = nI sz) (hs2 : sz ≤ 32784) {kd : Nat} {kv : Int32 × Int32} {o : Unit} {l r : zt_T} (ihl : zg_ok l → yb_top l → ∀ (Qm : Nat → Prop) (up x x' y : Int32), zt_M LC LM g0 l Qm up x' y → yb_F Fb b h0 g0 P Q l x x' (-1) (-1) → zg_d l ≤ 190 → zt_sz l ≤ sz → ∃ Ls, yk_X h0 g0 X b l Qm x x' Ls) (hA : zg_A kd (zg_run kd 0 l) = true) (hv : zg_v kd kv.2) (okl : zg_ok l) (hE : kd ∈ yb_E) : ∀ (Qm : Nat → Prop) (up x x' y ea eb : Int32), zt_M LC LM g0 (.inner kd kv o l r) Qm up x' y → yb_F Fb b h0 g0 P Q (.inner kd kv o l r) x x' ea eb → zg_d l + 1 ≤ 190 → zt_sz l + 1 ≤ sz → ∃ (i k : Nat) (Q1 Q2 : Nat → Prop) (z2 : Int32) (L : List yI), (P i ∧ i < 32784 ∧ x = nI i) ∧ (Qm k ∧ k < 33500 ∧ x' = nI k) ∧ (∀ j, Q1 j → Qm j ∧ ¬ j = k) ∧ (∀ j, Q2 j → Qm j) ∧ (yk_C h0 (zg_d l) (nI i) L ∧ yk_M g0 b Q1 (zg_d l) k L) ∧ ((L.length + 1 ≤ 6 * (1 + zt_sz l) ∧ yk_ty h0 b i L) ∧ yk_e X (fun u => (h0.2.1 21) (9 + u) = 1) b L) ∧ zt_M LC LM g0 r Q2 up ((g0.2.1 78) k) z2 ∧ yb_F Fb b h0 g0 P Q r ((h0.2.1 18) i) ((g0.2.1 78) k) ea eb := by
  have HS := C.1.1
  have V3 : F nb ≤ 5900 := C.1.2.1.2.1.2.2
  have B3 : nb ≤ 568 := C.1.2.1.1.2.2
  have hFb := C.1.2.1.2.2.2.1 b hb
  obtain ⟨⟨kX1, kX2, kX3⟩, kX4, _, _, _⟩ := C.2.2 b hb
  intro Qm up x x' y ea eb HM HF hd hz
  obtain ⟨i', k', QQ1, QQ2, _, ⟨_, ix'⟩, ⟨_, kk2, kx'⟩, qq1, _, KN, _, _⟩ := yk_const1 HS hP (fun okl tpl => yk_const HS hP l okl tpl) hA hv okl hE Qm up x x' y ea eb HM HF (by omega)
  obtain ⟨k'', P1, P2, z1, z2, qk, k40, ex', NM, hP1, hP2, Ml, Mr, ey⟩ := HM
  obtain ⟨i, k, xl, ⟨pi, i2, ix⟩, ⟨qk', k2, kx, km⟩, N, Al, Ar⟩ := HF
  have ek : k'' = k := (nI_eq (by omega) (by omega)).mp (ex'.symm.trans kx)
  subst ek
  have ek2 : k' = k'' := (nI_eq (by omega) (by omega)).mp (kx'.symm.trans kx)
  subst ek2
  have ei2 : i' = i := (nI_eq (by omega) (by omega)).mp (ix'.symm.trans ix)
  subst ei2
  obtain ⟨n1, n2, n3, n4, n5⟩ := NM
  have con1 : zv_kc h0 i' → f_Mo_isConstant 400 g0 (nI k') = some 1 ∧ f_Mo_valueOf 400 g0 (nI k') = some ((h0.2.1 16) i') := by
    intro z
    rcases KN with ⟨_, a, c⟩ | ⟨a, _⟩
    · exact ⟨yk_k1 (by omega) a (by omega), yk_v1 (by omega) k2 (fun q => (qq1 k' q).2 rfl) c (by omega)⟩
    · exact absurd z a
  have con0 : ¬ zv_kc h0 i' → f_Mo_isConstant 400 g0 (nI k') = some 0 := by
    intro z
    rcases KN with ⟨a, _⟩ | ⟨_, a⟩
    · exact absurd a z
    · exact yk_k1 (by omega) a (by omega)
  have fin : ∀ L, yk_C h0 (zg_d l) (nI i') L → yk_M g0 b P1 (zg_d l) k' L → L.length + 1 ≤ 6 * (1 + zt_sz l) → yk_e X (fun u => (h0.2.1 21) (9 + u) = 1) b L → yk_ty h0 b i' L → ∃ (i k : Nat) (Q1 Q2 : Nat → Prop) (z2 : Int32) (L : List yI), (P i ∧ i < 32784 ∧ x = nI i) ∧ (Qm k ∧ k < 33500 ∧ x' = nI k) ∧ (∀ j, Q1 j → Qm j ∧ ¬ j = k) ∧ (∀ j, Q2 j → Qm j) ∧ (yk_C h0 (zg_d l) (nI i) L ∧ yk_M g0 b Q1 (zg_d l) k L) ∧ ((L.length + 1 ≤ 6 * (1 + zt_sz l) ∧ yk_ty h0 b i L) ∧ yk_e X (fun u => (h0.2.1 21) (9 + u) = 1) b L) ∧ zt_M LC LM g0 r Q2 up ((g0.2.1 78) k) z2 ∧ yb_F Fb b h0 g0 P Q r ((h0.2.1 18) i) ((g0.2.1 78) k) ea eb := fun L a1 a2 a3 a4 a5 => ⟨i', k', P1, P2, z2, L, ⟨pi, i2, ix⟩, ⟨qk, k2, kx⟩, fun j hj => ⟨(hP1 j hj).1, (hP1 j hj).2.1⟩, fun j hj => (hP2 j hj).1, ⟨a1, a2⟩, ⟨⟨a3, a5⟩, a4⟩, Mr, Ar⟩
  have cst := fun (z : zv_kc h0 i') (hv01 : (h0.2.1 14) i' = 0 → (h0.2.1 16) i' = 0 ∨ (h0.2.1 16) i' = 1) => fin [(0, (h0.2.1 16) i', 0, 0)] (yk_C30 i2 z) (yk_Mc k2 (con1 z).1 (con1 z).2) (by show 1 + 1 ≤ _; omega) (yk_e0 rfl rfl (.inl rfl)) ⟨fun LD => yo_E0 hv01, fun _ => hv01⟩
  have nk : ∀ c : Int32, (h0.2.1 13) i' = c → ¬ c = 30 → ¬ c = 31 → ¬ zv_kc h0 i' := by
    intro c e a1 a2 z
    rcases z with z | z
    · exact a1 (e.symm.trans z)
    · exact a2 (e.symm.trans z)
  rcases N with N | ⟨ty, t1, t2, t3, N⟩
  · exact absurd hE (yb_SE N)
  · have ty0 : (h0.2.1 14) i' = 0 → ty = 0 := fun z => (zc_eq (k := 0) (by decide) (by omega)).mp (t2.symm.trans z)
    have var : ∀ u xx, yb_V Fb b h0 kv.2 u xx → F b ≤ u ∧ u < F (b + 1) ∧ (h0.2.1 32) (32 + u) = nI xx := by
      intro u xx ⟨v1, v2, _, _, v5⟩
      rw [hF _ (by omega)] at v1
      rw [hF _ (by omega)] at v2
      exact ⟨v1, v2, v5⟩
    rcases N with ⟨e, c1, u, xx, V, c3, c4, c5, c5t⟩ | ⟨e, c1, c2, c2a, c2b⟩ | ⟨e, c1, c2, u, xx, V, c4, c5, c6, c6t⟩ | ⟨e, c1, c2, a, u, xx, off, c3, c4, V, c6, c7, c8, c9, B, cv, d1, d2, d3, d4, d5, d6, d6t⟩ | ⟨e, c1, c2, bf, f1, f2, f3, f4, f5, f6, c, ec, hc, hcF, hlt, htyF, hfit⟩ | ⟨e, s, a, x5, x6, s1, s2, ⟨s3, s3', s3t⟩, s4, ⟨y1, y2, y3, y4, y5, y6⟩, s6⟩ | ⟨e, s, a, bn, s1, s2, s3, s4, s5, ⟨s6, s6t⟩, s7⟩ | ⟨e, s, a, s1, s2, s3, ⟨s4, s4t⟩, s5⟩
    · -- a name
      subst e
      obtain ⟨v1, v2, v5⟩ := var u xx V
      obtain ⟨ty', x0, s0, _, ⟨q2, _⟩, ⟨q3, _⟩, _, _, ⟨q6, q6'⟩, q7⟩ := yk_Q C hb v1 v2
      have e1 : s0 = 1 := by
        rcases q7 with ⟨_, _, _, e⟩ | ⟨e, _⟩ | ⟨B', hB', e, _⟩
        · exact e
        · rw [c5] at e; exact absurd e (by decide)
        · rw [c5] at e; exact absurd e.symm (zc_m1 (by omega))
      exact fin [(1, nI x0, 0, 0)] (yk_C6 i2 c1 (show 32 + u < 6000 by omega) c3 q2) (yk_M6 (km := 6) k2 (.inl rfl) km (con0 (nk 6 c1 (by decide) (by decide))) (c4.trans (v5.symm.trans q2))) (by show 1 + 1 ≤ _; omega) (yk_e0 rfl rfl (.inr (.inr (.inl ⟨rfl, x0, rfl, by omega⟩)))) ⟨fun LD => yo_E1 (by omega) (fun z => yq_bv (j := 0) C hb ⟨v1, v2⟩ (.inl c5) (by rw [c5t, ty0 z]; rfl) q2 (by omega) q3 (by omega) (by omega)), fun z => absurd z (nk 6 c1 (by decide) (by decide))⟩
    · -- a constant
      rcases e with e | e <;> subst e
      · exact cst (.inl c1) (fun z => absurd (ty0 z) (c2a rfl))
      · refine cst (.inr c1) (fun _ => ?_)
        rw [c2]
        rcases hv with q | ⟨x, x1, x2, _⟩
        · exact absurd q (by decide)
        · have x1' : x < 2 := x1
          have : x = 0 ∨ x = 1 := by omega
          rcases this with e | e <;> subst e
          · exact .inl x2
          · exact .inr x2
    · -- an element
      subst e
      obtain ⟨v1, v2, v5⟩ := var u xx V
      obtain ⟨ty', x0, s0, _, ⟨q2, _⟩, ⟨q3, q3'⟩, q4, _, ⟨q6, q6'⟩, q7⟩ := yk_Q C hb v1 v2
      obtain ⟨cd, ckv, co, cl, el, hcE⟩ := yb_g1 (.inl rfl) hA
      subst el
      have dl0 : max (zg_d cl + 1) 0 ≤ zg_d (.inner cd ckv co cl .leaf) := zg_d1 (r := .leaf)
      have zl0 : zt_sz (.inner cd ckv co cl .leaf) = 1 + zt_sz cl + 0 := rfl
      obtain ⟨Ls, i1, k1, Q1, Q2, L, Lr', eL, ⟨w1, w2⟩, ⟨w3, w4, w5⟩, w6, w7, ⟨wC, wM⟩, ⟨wl, we⟩, _⟩ := ihl okl ⟨hcE, trivial⟩ P1 _ _ _ _ Ml Al (by omega) (by omega)
      have nv := yk_vM C hb hF V (by rw [if_pos (by decide)] at n3; exact n3)
      have A := yk_C32 (dl := zg_d (.inner cd ckv co cl .leaf)) i2 c1 (show 32 + u < 6000 by omega) c4 q2 (show zg_d cl < _ by omega) (by rw [c2, w2]; exact wC)
      have B := yk_M32 (Q := P1) (dl := zg_d (.inner cd ckv co cl .leaf)) k2 w4 (show zg_d cl < _ by omega) (by omega) km (con0 (nk 32 c1 (by decide) (by decide))) w5 (fun g f => by rw [yk_fva f]; exact nv) (show u < 8400 by omega) (c5.trans (v5.symm.trans q2)) (fun z => (w6 k1 z).2 rfl) wM
      rw [q4, q3', ← q3] at B
      refine fin _ A B ?_ (yk_e1 rfl rfl (.inr (.inr (.inr (.inl ⟨rfl, x0, s0, rfl, q3, by omega⟩)))) we) ⟨fun LD => yo_E3 (by omega) (by omega) q3 (wl.2.1 LD) (fun z j hj => yq_bv C hb ⟨v1, v2⟩ (.inr c6) (by rw [c6t, ty0 z]; rfl) q2 (by omega) q3 (by omega) hj), fun z => absurd z (nk 32 c1 (by decide) (by decide))⟩
      rw [List.length_append]
      show L.length + 1 + 1 ≤ _
      omega
    · -- an output
      subst e
      obtain ⟨v1, v2, v5⟩ := var u xx V
      obtain ⟨ty', x0, s0, _, ⟨q2, _⟩, ⟨q3, _⟩, _, _, ⟨q6, q6'⟩, q7⟩ := yk_Q C hb v1 v2
      obtain ⟨B', b1, b2, b3⟩ : ∃ B', B' < 9 + b ∧ nI B = nI B' ∧ (h0.2.1 26) B' = nI s0 := by
        rcases q7 with ⟨e, _⟩ | ⟨e, _⟩ | ⟨B', b1, e, _, _, _, b3⟩
        · rw [d1] at e; exact absurd e (zc_m1 (by omega))
        · rw [d1] at e
          exact absurd e (by
            intro z
            have := congrArg (fun x => x.toNatClampNeg) z
            rw [nI_clamp (show B < 2147483648 by omega)] at this
            have e2 : (-2 : Int32).toNatClampNeg = 0 := by decide
            rw [e2] at this
            rw [this] at z
            exact absurd z (by decide))
        · exact ⟨B', b1, d1.symm.trans e, b3⟩
      have eB : B = B' := (nI_eq (by omega) (by omega)).mp b2
      subst eB
      obtain ⟨⟨kY1, kY2, kY3⟩, _⟩ := C.2.2 b hb
      obtain ⟨o0, o1, o2, _⟩ := yk_pin C hb hF d2 d3 d6 b3 (by omega)
      have eo : nI off = nI o0 := d5.symm.trans o1
      have ha : a < 32784 := hP a c4
      have A := yk_C33 (dl := zg_d l) i2 c1 (show 32 + u < 6000 by omega) c6 q2 (c2.trans c3) ha (c7.trans eo)
      have M8 : (g0.2.1 101) k' = nI (x0 + o0) := by
        rw [c8, ← nI_add, ← v5, q2, eo, nI_add]
      exact fin [(1, nI (x0 + o0), 0, 0)] A (yk_M6 (km := 33) k2 (.inr rfl) km (con0 (nk 33 c1 (by decide) (by decide))) M8) (by show 1 + 1 ≤ _; omega) (yk_e0 rfl rfl (.inr (.inr (.inl ⟨rfl, x0 + o0, rfl, by omega⟩)))) ⟨fun LD => yo_E1 (by omega) (fun z => (yq_bp C hb hF ⟨v1, v2⟩ d1 d2 q2 (by omega) q3 (by omega) d3 d6 o1 o2).mpr (by rw [d6t, ty0 z]; rfl)), fun z => absurd z (nk 33 c1 (by decide) (by decide))⟩
    · -- a call
      subst e
      obtain ⟨Ls, XL⟩ := ihl okl (yb_g34 hA) P1 _ _ _ _ Ml Al (by omega) (by omega)
      have hbf : bf < nb := by omega
      have hFF := C.1.2.1.2.2.2.1 bf hbf
      obtain ⟨g1, g2, g3⟩ := C.1.2.1.2.2.2.2.2.1 bf hbf
      rw [hF _ (by omega), hF _ (by omega)] at f4 hlt hfit
      rw [hF _ (by omega)] at htyF
      obtain ⟨r1, r2, r3, r4, r5, r6⟩ := yk_Xl l P1 _ _ Ls (zg_d l - 1) XL (by omega)
      have hdd : Ls = [] ∨ zg_d l - 1 < zg_d l := by
        cases l with
        | leaf => exact .inl XL.2.2
        | inner cd ckv co cl cr =>
          have : max (zg_d cl + 1) (zg_d cr) ≤ zg_d (.inner cd ckv co cl cr) := zg_d1
          exact .inr (by omega)
      have hls : Ls.length ≤ zt_sz l := by rw [r3]; exact zv_lnsz l
      have emm : F bf + (F (bf + 1) - F bf) = F (bf + 1) := by omega
      have A := yk_C34 (dl := zg_d l) (m := F (bf + 1) - F bf) i2 c1 (show bf < 600 by omega) f2 g1 (by rw [emm]; exact g3) (by omega) hsz (by omega) (by omega) hdd (by rw [c2]; exact r1)
      rw [if_pos (by decide), ec] at n3
      have w := zv_wF HS n3 hc
      rw [if_neg hcF] at w
      have hsec : ∀ v, v < F (bf + 1) → ((g0.2.1 95) v = 1 ↔ (h0.2.1 29) (32 + v) = 1) := by
        intro v hv
        obtain ⟨s, q1, q2, q3⟩ := C.1.2.2.2.1.1 v (by omega)
        rw [q2, q3]
        have : s = 0 ∨ s = 1 ∨ s = 2 ∨ s = 3 := by omega
        rcases this with e | e | e | e <;> subst e <;> decide
      have hin : ∀ j w, (zv_il h0 (F (bf + 1) - F bf) (F bf))[j]? = some w → f_Mo_input g0 (nI bf) (nI j) = some (nI w) ∧ w < 8400 := by
        intro j w hj
        have hm := List.mem_of_getElem? hj
        obtain ⟨m1, m2, _⟩ := zv_ilm h0 _ _ _ hm
        have hjl : j < (zv_il h0 (F (bf + 1) - F bf) (F bf)).length := by
          obtain ⟨z, _⟩ := List.getElem?_eq_some_iff.mp hj
          exact z
        have hlen := zv_ilen h0 (F (bf + 1) - F bf) (F bf)
        refine ⟨?_, by omega⟩
        unfold f_Mo_input
        rw [if_pos (zi_in (by omega) (by omega)), nI_clamp (show bf < 2147483648 by omega), g2]
        exact zv_ixM (e := F (bf + 1)) (by omega) hsec _ _ j zF w (by omega) (by have := zF_big; omega) (by omega) hj
      have M := yk_M34 (Q := P1) (dl := zg_d l) k2 hdd (by omega) (by omega) km (con0 (nk 34 c1 (by decide) (by decide))) w (show bf < 600 by omega) f3 hin (by rw [r3, f4]) (by have := zv_ilen h0 (F (bf + 1) - F bf) (F bf); omega) r2
      have ews : (zv_il h0 (F (bf + 1) - F bf) (F bf)).reverse.map (fun w => (g0.2.1 94) w) = (zv_il h0 (F (bf + 1) - F bf) (F bf)).reverse.map (fun w => (h0.2.1 32) (32 + w)) := by
        refine List.map_congr_left (fun w hw => ?_)
        obtain ⟨m1, m2, _⟩ := zv_ilm h0 _ _ _ (List.mem_reverse.mp hw)
        obtain ⟨_, x0, _, _, ⟨q2, q2'⟩, _⟩ := yk_Q C hbf m1 (show w < F (bf + 1) by omega)
        rw [q2, q2']
      rw [ews] at M
      have cv0 : (h0.2.1 32) (32 + F bf) = 0 := (C.1.2.2.2.2.1.2.2.2 bf hbf f5).2.2
      have kY := (C.2.2 bf hbf).1
      have tyC : yk_ty h0 b i' (yx_call bf ((zv_il h0 (F (bf + 1) - F bf) (F bf)).reverse.map (fun w => (h0.2.1 32) (32 + w))) (yx_s Ls)) := by
        refine ⟨fun LD => yo_ec (by omega) (fun K st => yk_Xf l P1 _ _ Ls _ XL hfit (by rw [r3, f4]) LD K st) (fun w hw => ?_) (fun z => ?_), fun z => absurd z (nk 34 c1 (by decide) (by decide))⟩
        · obtain ⟨m1, m2, m3⟩ := zv_ilm h0 _ _ _ hw
          obtain ⟨_, x0, s0, _, ⟨q2, _⟩, ⟨q3, _⟩, _, _, ⟨q6, _⟩, q7⟩ := yk_Q C hbf m1 (show w < F (bf + 1) by omega)
          have i1 := C.2.1 w (by omega) (.inl m3)
          have e1 : s0 = 1 := by
            rcases q7 with ⟨_, _, _, e⟩ | ⟨e, _⟩ | ⟨B', hB', e, _⟩
            · exact e
            · rw [i1] at e; exact absurd e (by decide)
            · rw [i1] at e; exact absurd e.symm (zc_m1 (by omega))
          exact ⟨x0, q2, by omega, fun z => yq_bc (j := 0) C hbf ⟨m1, by omega⟩ (.inl i1) q2 (by omega) q3 (by omega) (by omega) z⟩
        · obtain ⟨_, x0, s0, _, ⟨q2, _⟩, ⟨q3, _⟩, _, _, ⟨q6, _⟩, q7⟩ := yk_Q C hbf (Nat.le_refl (F bf)) hlt
          have ii := ((C.2.2 bf hbf).2.2.2.2.2 (F bf) (Nat.le_refl _) hlt).2 f5
          have e0 : x0 = 0 := (zc_eq (k := 0) (by decide) (by omega)).mp (q2.symm.trans cv0)
          have e1 : 1 ≤ s0 := by
            rcases q7 with ⟨_, _, _, e⟩ | ⟨_, _, _, e, _⟩ | ⟨B', hB', e, _⟩
            · omega
            · exact e
            · rcases ii with w | w
              · exact absurd (e.symm.trans w) (zc_m1 (by omega))
              · exact absurd (e.symm.trans w) (yq_m2 (by omega))
          have := yq_bv (LD := LD) (j := 0) C hbf ⟨Nat.le_refl _, hlt⟩ ii (by rw [htyF, ty0 z]; rfl) q2 (by omega) q3 (by omega) (by omega)
          rw [e0] at this
          exact this
      refine fin _ A M ?_ (yk_ec f1 f5 ?_ ?_ r5 r6) tyC
      · unfold yx_call
        rw [List.length_append, List.length_append, List.length_map, List.length_map, List.length_reverse]
        show (yx_s Ls).length + ((zv_il h0 (F (bf + 1) - F bf) (F bf)).length + 2) + 1 ≤ _
        omega
      · rw [List.length_map, List.length_reverse, r3, f4]
      · intro w hw
        obtain ⟨v, hv, ev⟩ := List.mem_map.mp hw
        obtain ⟨m1, m2, m3⟩ := zv_ilm h0 _ _ _ (List.mem_reverse.mp hv)
        obtain ⟨_, x0, s0, _, ⟨q2, q2'⟩, _, _, _, ⟨q6, _⟩, q7⟩ := yk_Q C hbf m1 (show v < F (bf + 1) by omega)
        have i1 := C.2.1 v (by omega) (.inl m3)
        have e1 : s0 = 1 := by
          rcases q7 with ⟨_, _, _, e⟩ | ⟨e, _⟩ | ⟨B', hB', e, _⟩
          · exact e
          · rw [i1] at e; exact absurd e (by decide)
          · rw [i1] at e; exact absurd e.symm (zc_m1 (by omega))
        have := (C.2.2 bf hbf).1
        exact ⟨x0, by rw [← ev]; exact q2, by omega⟩
    · -- a standard function
      subst e
      obtain ⟨Ls, XL⟩ := ihl okl (yb_g34 hA) P1 _ _ _ _ Ml Al (by omega) (by omega)
      obtain ⟨r1, r2, r3, r4, r5, r6⟩ := yk_Xl l P1 _ _ Ls (zg_d l - 1) XL (by omega)
      have x3 : s = 4 → ∃ b5 b6 L1 L2 L3, (x5 = nI b5 ∧ b5 < 32784 ∧ x6 = nI b6 ∧ b6 < 32784) ∧ Ls = [L1, L2, L3] ∧ yk_ty h0 b b5 L2 ∧ yk_ty h0 b b6 L3 := fun e4 => yk_X3 l P1 xl _ Ls XL (by rw [r3, s3, e4]; rfl) y1 (hP a y2) y3 y4
      rcases s6 with ⟨kk, q, qv⟩ | ⟨f1, f2, f3, f4⟩
      · refine cst (.inl q) (fun z => ?_)
        have e0 := ty0 z
        rw [e0] at qv
        rcases s3t e0 with e9 | ⟨e4, t4⟩
        · subst e9
          exact yk_v9 qv
        · obtain ⟨b5, b6, L1, L2, L3, ⟨x51, x52, x61, x62⟩, _, T5, T6⟩ := x3 e4
          subst e4
          refine yk_v4 qv ?_ ?_
          · have c5 := kk.2.1
            unfold ya_con at c5
            unfold ya_val
            rw [x51, nI_clamp (show b5 < 2147483648 by omega)] at c5
            rw [x51, if_neg (zc_m1 (by omega)), nI_clamp (show b5 < 2147483648 by omega)]
            exact T5.2 (c5.resolve_left (zc_m1 (by omega))) (t4 b5 x52 (.inl x51))
          · have c6 := kk.2.2
            unfold ya_con at c6
            unfold ya_val
            rw [x61, nI_clamp (show b6 < 2147483648 by omega)] at c6
            rw [x61, if_neg (zc_m1 (by omega)), nI_clamp (show b6 < 2147483648 by omega)]
            exact T6.2 (c6.resolve_left (zc_m1 (by omega))) (t4 b6 x62 (.inr x61))
      · have tyS : yk_ty h0 b i' (yx_t s (f_Cd_standardKind (nI s) (nI ty)) Ls) := by
          refine ⟨fun LD => yo_es s1 t1 (r3.trans s3) (fun L hL => yk_Xt l P1 _ _ Ls XL L hL LD) (fun z => ?_), fun z => absurd z (nk 39 f2 (by decide) (by decide))⟩
          rcases s3t (ty0 z) with e9 | ⟨e4, t4⟩
          · exact .inl e9
          · obtain ⟨b5, b6, L1, L2, L3, ⟨x51, x52, x61, x62⟩, eL, T5, T6⟩ := x3 e4
            exact .inr ⟨e4, L1, L2, L3, eL, yo_Em (fun _ => t4 b5 x52 (.inl x51)) (T5.1 LD), yo_Em (fun _ => t4 b6 x62 (.inr x61)) (T6.1 LD)⟩
        have hn1 : 1 ≤ zt_ln l := by
          rw [s3]
          have : ∀ s, s < 10 → 1 ≤ ya_ar s := by decide
          exact this s s1
        have hdd : zg_d l - 1 < zg_d l := by
          cases l with
          | leaf => exact absurd hn1 (by decide)
          | inner cd ckv co cl cr =>
            have : max (zg_d cl + 1) (zg_d cr) ≤ zg_d (.inner cd ckv co cl cr) := zg_d1
            omega
        obtain ⟨ka, ka1, ka2, ka3⟩ : ∃ kk, kk < 33500 ∧ (g0.2.1 76) k' = nI kk ∧ (s = 0 ∨ s = 5 ∨ s = 6 → (g0.2.1 100) kk = nI ty) := by
          cases l with
          | leaf => exact absurd hn1 (by decide)
          | inner cd ckv co cl cr =>
            obtain ⟨ic, kc, xc, ⟨_, ic2, icx⟩, ⟨_, kc2, kcx, _⟩, Nc, _, _⟩ := Al
            refine ⟨kc, kc2, kcx, fun q => ?_⟩
            have : ic = a := (nI_eq (by omega) (by have := hP a y2; omega)).mp (icx.symm.trans y1)
            subst this
            have hEc : cd ∈ yb_E := (yb_g34 hA).1
            rcases Nc with Nc | ⟨ty', _, w2, w3, _⟩
            · exact absurd hEc (yb_SE Nc)
            · rw [w3, ← w2]; exact s3' q
        rw [if_pos (by decide), s2] at n3
        have w := zv_wF HS n3 (show 50 + s < 6000 by omega)
        rw [if_pos (by omega), show 50 + s - 50 = s by omega] at w
        have A := yk_C39 (dl := zg_d l) i2 f2 s1 f3 (r3.trans s3) hdd (by rw [f4]; exact r1)
        rw [t2] at A
        have M := yk_M39 (Q := P1) (dl := zg_d l) k2 hdd (by omega) km (con0 (nk 39 f2 (by decide) (by decide))) s1 w t1 ka1 ka2 ka3 (r3.trans s3) r2
        refine fin _ A M ?_ (yk_es s1 t1 (r3.trans s3) (yk_Xe l P1 _ _ Ls XL)) tyS
        have := yk_tl (k := f_Cd_standardKind (nI s) (nI ty)) (Ls := Ls) s1 (r3.trans s3)
        omega
    · -- an operation of two
      subst e
      obtain ⟨cd, ckv, co, cl, cd2, ckv2, co2, cl2, el, hc, hc2⟩ := yb_g2 hA
      subst el
      have dl0 : max (zg_d cl + 1) (max (zg_d cl2 + 1) 0) ≤ zg_d (.inner cd ckv co cl (.inner cd2 ckv2 co2 cl2 .leaf)) := zg_d2 (r := .leaf)
      have zl0 : zt_sz (.inner cd ckv co cl (.inner cd2 ckv2 co2 cl2 .leaf)) = 1 + zt_sz cl + (1 + zt_sz cl2 + 0) := rfl
      obtain ⟨Ls, i1, k1, Q1, Q2, L1, Lr1, _, ⟨w1, w2⟩, ⟨w3, w4, w5⟩, w6, w7, ⟨wC, wM⟩, ⟨wl, we⟩, i1', k1', Q1', Q2', L2, Lr2, _, ⟨v1, v2⟩, ⟨v3, v4, v5⟩, v6, v7, ⟨vC, vM⟩, ⟨vl, ve⟩, _⟩ := ihl okl ⟨hc, hc2, trivial⟩ P1 _ _ _ _ Ml Al (by omega) (by omega)
      have ea : i1 = a := (nI_eq (by omega) (by have := hP a s4; omega)).mp (w2.symm.trans s3)
      subst ea
      have eb : i1' = bn := (nI_eq (by omega) (by have := hP bn s6; omega)).mp (v2.symm.trans s5)
      subst eb
      rcases s7 with ⟨kk, q, qv⟩ | ⟨f1, f2, f3, f4⟩
      · refine cst (.inl q) (fun z => ?_)
        have e0 := ty0 z
        rw [e0] at qv
        rcases s6t e0 with w | ⟨w1, w2', w3'⟩
        · exact yk_v2 ((yk_eop s s1).1 w) qv
        · exact yk_v2b ((yk_eop s s1).2 w1) (wl.2.2 kk.1 w2') (vl.2.2 kk.2.1 w3') qv
      · have hl : (g0.2.1 77) k' = nI k1' ∧ (g0.2.1 75) k1 = nI k' := by
          obtain ⟨q, R1, R2, zz1, zz2, _, q40, qx, NQ, _, _, _, ⟨q', R1', R2', zz1', zz2', _, q40', qx', _, _, _, _, mr, ey2⟩, ey1⟩ := Ml
          rw [mr.2, if_pos rfl] at ey2
          rw [ey2, qx', if_neg (zc_m1 (by omega))] at ey1
          have eq : q = k1 := (nI_eq (by omega) (by omega)).mp (qx.symm.trans w5)
          subst eq
          refine ⟨?_, NQ.2.2.2.1⟩
          rw [n5, ey1, ← qx', v5]
        rw [if_neg (by decide), s2] at n3
        have A := yk_C35 (dl := zg_d (.inner cd ckv co cl (.inner cd2 ckv2 co2 cl2 .leaf))) i2 f2 (f4.trans w2) w1 s5 (show zg_d cl < _ by omega) (show zg_d cl2 < _ by omega) wC vC
        rw [f3, s2, t2] at A
        have M := yk_M35 (Q := P1) (dl := zg_d (.inner cd ckv co cl (.inner cd2 ckv2 co2 cl2 .leaf))) k2 w4 v4 (show zg_d cl < _ by omega) (show zg_d cl2 < _ by omega) (by omega) km (con0 (nk 35 f2 (by decide) (by decide))) w5 hl.2 hl.1 (fun j hj => (w6 j hj).1) w3 (fun z => (v6 k1' z).2 rfl) (yi_sign k2 s1 t1 n3 t3) wM vM
        obtain ⟨kk, kk1, kk2⟩ := yk_eo s s1 ty t1
        have tyS : yk_ty h0 b i' (L1 ++ (L2 ++ [(7, f_Cd_operation (nI s) (nI ty), 0, 0)])) := by
          refine ⟨fun LD => yo_E7 (wl.2.1 LD) (vl.2.1 LD) (fun z => ?_), fun z => absurd z (nk 35 f2 (by decide) (by decide))⟩
          rw [ty0 z]
          rcases s6t (ty0 z) with w | ⟨w1, w2', w3'⟩
          · exact .inl ((yk_eop s s1).1 w)
          · exact .inr ⟨(yk_eop s s1).2 w1, w2', w3'⟩
        refine fin _ A M ?_ (yk_e2 kk2 kk1 we ve) tyS
        rw [List.length_append, List.length_append]
        show L1.length + (L2.length + 1) + 1 ≤ _
        omega
    · -- one with a sign before it
      subst e
      rcases s5 with ⟨_, q, qv⟩ | ⟨f1, f2, f3, f4⟩
      · refine cst (.inl q) (fun z => ?_)
        rw [qv, ty0 z, s4t (ty0 z)]
        exact yk_v1b
      · obtain ⟨cd, ckv, co, cl, el, hcE⟩ := yb_g1 (.inr rfl) hA
        subst el
        have dl0 : max (zg_d cl + 1) 0 ≤ zg_d (.inner cd ckv co cl .leaf) := zg_d1 (r := .leaf)
        have zl0 : zt_sz (.inner cd ckv co cl .leaf) = 1 + zt_sz cl + 0 := rfl
        obtain ⟨Ls, i1, k1, Q1, Q2, L, Lr', eL, ⟨w1, w2⟩, ⟨w3, w4, w5⟩, w6, w7, ⟨wC, wM⟩, ⟨wl, we⟩, _⟩ := ihl okl ⟨hcE, trivial⟩ P1 _ _ _ _ Ml Al (by omega) (by omega)
        rw [if_neg (by decide), s2] at n3
        have A := yk_C36 (dl := zg_d (.inner cd ckv co cl .leaf)) i2 f2 (f4.trans w2) (show zg_d cl < _ by omega) wC
        have et : (if (h0.2.1 16) i' = 0 then (1 : Int32) else 0) = if s = 0 then 1 else 0 := by
          rw [f3, s2]
          by_cases z : s = 0
          · rw [if_pos z, if_pos (by rw [z]; rfl)]
          · rw [if_neg z, if_neg (mt (zc_eq (k := 0) (by decide) (by omega)).mp z)]
        rw [et, t2] at A
        have M := yk_M36 (Q := P1) (dl := zg_d (.inner cd ckv co cl .leaf)) k2 w4 (show zg_d cl < _ by omega) (by omega) km (con0 (nk 36 f2 (by decide) (by decide))) w5 (yi_turn k2 s1 t1 n3 t3) (fun z => (w6 k1 z).2 rfl) wM
        obtain ⟨kk, kk1, kk2⟩ := yk_et s s1 ty t1
        refine fin _ A M ?_ (yk_e1 rfl rfl (.inr (.inr (.inr (.inr (.inr (.inr (.inr (.inl ⟨rfl, kk, kk2, kk1⟩)))))))) we) ⟨fun LD => yo_E8 (wl.2.1 LD) (fun z => .inl (by rw [ty0 z, s4t (ty0 z)]; rfl)), fun z => absurd z (nk 36 f2 (by decide) (by decide))⟩
        rw [List.length_append]
        show L.length + 1 + 1 ≤ _
        omega
theorem yk_exp {LC LM : List (List Int32)} {nb b sz : Nat} {F Fb X Y : Nat → Nat} {h0 g0 : zs_H} {P Q : Nat → Prop} (C : yk_cx LC LM nb F X Y h0 g0) (hb : b < nb) (hF : ∀ j, j ≤ b + 1 → Fb j = F j) (hP : ∀ j, P j → j < 32784) (hsz : (h0.1 12 6) = nI sz) (hs2 : sz ≤ 32784) : ∀ (t : zt_T), zg_ok t → yb_top t → ∀ (Qm : Nat → Prop) (up x x' y : Int32), zt_M LC LM g0 t Qm up x' y → yb_F Fb b h0 g0 P Q t x x' (-1) (-1) → zg_d t ≤ 190 → zt_sz t ≤ sz → ∃ Ls, yk_X h0 g0 X b t Qm x x' Ls := by
  intro t
  induction t with
  | leaf => intro _ _ Qm up x x' y _ A _ _; exact ⟨[], A.1, A.2, rfl⟩
  | inner kd kv o l r ihl ihr =>
    intro ⟨⟨hA, hv⟩, okl, okr⟩ ⟨hE, tr⟩ Qm up x x' y HM HF hd hz
    have hd0 : max (zg_d l + 1) (zg_d r) ≤ zg_d (.inner kd kv o l r) := zg_d1
    have hz0 : zt_sz (.inner kd kv o l r) = 1 + zt_sz l + zt_sz r := rfl
    obtain ⟨i, k, Q1, Q2, z2, L, ⟨_, a1⟩, a2, a3, a4, a5, a6, Mr, Ar⟩ := yk_exp1 C hb hF hP hsz hs2 ihl hA hv okl hE Qm up x x' y (-1) (-1) HM HF (by omega) (by omega)
    obtain ⟨Lr, XR⟩ := ihr okr tr Q2 up _ _ z2 Mr Ar (by omega) (by omega)
    exact ⟨L :: Lr, i, k, Q1, Q2, L, Lr, rfl, a1, a2, a3, a4, a5, a6, XR⟩
