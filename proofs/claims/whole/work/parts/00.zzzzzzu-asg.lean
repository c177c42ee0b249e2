/-! The coder: assignments, invocations, EXIT, RETURN, on both sides. -/
section YJA
variable {LC LM : List (List Int32)} {nb b sz ow : Nat} {F Fb X Y : Nat → Nat} {h0 g0 : zs_H} {P Q Qm : Nat → Prop} {up x x' y : Int32} {kd : Nat} {kv : Int32 × Int32} {o : Unit} {l r : zt_T}
theorem yj_pl {i k n : Nat} {v xl : Int32} (hk : kd ∈ yb_pl) (N : yb_N Fb b h0 g0 P Q kd v i k xl n) : (h0.2.1 13) i = nI kd ∧ (h0.2.1 17) i = xl ∧ (h0.2.1 16) i = v := by
  have key : ∀ z ∈ yb_pl, ¬ z = 38 ∧ ¬ z = 13 ∧ ¬ z = 14 ∧ ¬ z = 19 ∧ ¬ z = 6 ∧ ¬ (z = 30 ∨ z = 31) ∧ ¬ z = 32 ∧ ¬ z = 33 ∧ ¬ z = 34 ∧ ¬ z = 35 ∧ ¬ z = 36 := by decide
  obtain ⟨k1, k2, k3, k4, k5, k6, k7, k8, k9, k10, k11⟩ := key _ hk
  rcases N with N | ⟨ty, _, _, _, N⟩
  · rcases N with e | ⟨_, a⟩ | ⟨e, _⟩ | ⟨e, _⟩ | ⟨e, _⟩
    · exact absurd e k1
    · exact ⟨a.1, a.2.1, a.2.2.1⟩
    · exact absurd e k2
    · exact absurd e k3
    · exact absurd e k4
  · rcases N with ⟨e, _⟩ | ⟨e, _⟩ | ⟨e, _⟩ | ⟨e, _⟩ | ⟨e, _⟩ | ⟨e, _⟩ | ⟨e, _⟩ | ⟨e, _⟩
    · exact absurd e k5
    · exact absurd e k6
    · exact absurd e k7
    · exact absurd e k8
    · exact absurd e k9
    · exact absurd e k9
    · exact absurd e k10
    · exact absurd e k11
theorem yj_sy {i k n : Nat} {v xl : Int32} (hk : kd = 12 ∨ kd = 25) (N : yb_N Fb b h0 g0 P Q kd v i k xl n) : yb_sy h0 P kd xl := by
  rcases N with N | ⟨ty, _, _, _, N⟩
  · rcases N with e | ⟨_, a⟩ | ⟨e, _⟩ | ⟨e, _⟩ | ⟨e, _⟩
    · omega
    · exact a.2.2.2
    · omega
    · omega
    · omega
  · rcases N with ⟨e, _⟩ | ⟨e, _⟩ | ⟨e, _⟩ | ⟨e, _⟩ | ⟨e, _⟩ | ⟨e, _⟩ | ⟨e, _⟩ | ⟨e, _⟩ <;> omega
theorem yj_6 {i k n : Nat} {v xl : Int32} (N : yb_N Fb b h0 g0 P Q 6 v i k xl n) : (h0.2.1 13) i = 6 ∧ ∃ u x, yb_V Fb b h0 v u x ∧ (h0.2.1 16) i = nI (32 + u) ∧ (g0.2.1 101) k = nI x ∧ (h0.2.1 30) (32 + u) = -1 ∧ (h0.2.1 14) i = (h0.2.1 31) (32 + u) := by
  rcases N with N | ⟨ty, _, t2, _, N⟩
  · exact absurd (yb_SE N) (fun z => z (by decide))
  · rcases N with ⟨_, a, u, x, b1, b2, b3, b4, b5⟩ | ⟨e, _⟩ | ⟨e, _⟩ | ⟨e, _⟩ | ⟨e, _⟩ | ⟨e, _⟩ | ⟨e, _⟩ | ⟨e, _⟩
    · exact ⟨a, u, x, b1, b2, b3, b4, t2.trans b5.symm⟩
    all_goals exact absurd e (by decide)
theorem yj_32 {i k n : Nat} {v xl : Int32} (N : yb_N Fb b h0 g0 P Q 32 v i k xl n) : (h0.2.1 13) i = 32 ∧ (h0.2.1 17) i = xl ∧ ∃ u x, yb_V Fb b h0 v u x ∧ (h0.2.1 16) i = nI (32 + u) ∧ (g0.2.1 101) k = nI x ∧ (h0.2.1 30) (32 + u) = -2 ∧ (h0.2.1 14) i = (h0.2.1 31) (32 + u) := by
  rcases N with N | ⟨ty, _, t2, _, N⟩
  · exact absurd (yb_SE N) (fun z => z (by decide))
  · rcases N with ⟨e, _⟩ | ⟨e, _⟩ | ⟨_, a, a', u, x, b1, b2, b3, b4, b5⟩ | ⟨e, _⟩ | ⟨e, _⟩ | ⟨e, _⟩ | ⟨e, _⟩ | ⟨e, _⟩
    · exact absurd e (by decide)
    · exact absurd e (by decide)
    · exact ⟨a, a', u, x, b1, b2, b3, b4, t2.trans b5.symm⟩
    all_goals exact absurd e (by decide)
/-- expressions have no own cells -/
theorem yj_g0 : ∀ t : zt_T, zg_ok t → yb_top t → yg_c 0 t = 0 := by
  intro t
  induction t with
  | leaf => intro _ _; rfl
  | inner kd kv o l r _ ihr =>
    intro ⟨⟨hA, _⟩, okl, okr⟩ ⟨hE, tr⟩
    show (if 30 ≤ zt_km kd then 0 else yg_w 0 kd kv.2 + yg_c 0 l) + yg_c 0 r = 0
    rw [ihr okr tr]
    have key : ∀ z ∈ yb_E, z = 6 ∨ 30 ≤ zt_km z := by decide
    rcases key kd hE with e | e
    · subst e
      rw [zv_nolf (kd := 6) (by decide +kernel) hA]
      rfl
    · rw [if_pos e]
theorem nI_m2 {t : Nat} (ht : t < 2147483648) : ¬ nI t = -2 := by
  intro q
  have h := nI_pos ht
  rw [q] at h
  exact h (by decide)
/-- a variable of the block -/
theorem yj_var {u xx : Nat} {v : Int32} (C : yj_cx LC LM nb b sz F Fb X Y h0 g0 P) (V : yb_V Fb b h0 v u xx) : ∃ x0 s ty, (nI xx = nI x0 ∧ (h0.2.1 32) (32 + u) = nI x0) ∧ ((h0.2.1 34) (32 + u) = nI s ∧ (g0.2.1 98) u = nI s) ∧ (g0.2.1 97) u = (h0.2.1 33) (32 + u) ∧ (x0 + s ≤ Y b ∧ u < 5900) ∧ ((h0.2.1 31) (32 + u) = nI ty ∧ ty < 3) ∧ ((h0.2.1 30) (32 + u) = -1 → s = 1 ∧ (g0.2.1 93) u = nI ty) ∧ ∀ B, B < 600 → (h0.2.1 30) (32 + u) = nI B → (g0.2.1 93) u = nI (if B < 9 then 100000 + B else B - 9) ∧ (9 ≤ B → (h0.2.1 21) B = 2) ∧ (h0.2.1 26) B = nI s := by
  obtain ⟨c1, c2, c3, c4, c5, c6⟩ := C
  obtain ⟨v1, v2, _, _, v5⟩ := V
  rw [c3 _ (by omega)] at v1
  rw [c3 _ (by omega)] at v2
  have B3 : nb ≤ 568 := c1.1.2.1.1.2.2
  obtain ⟨ty, x0, s, ⟨t0, t1⟩, ⟨q2, _⟩, q3, q4, _, q6, q7⟩ := yk_Q c1 c2 v1 v2
  refine ⟨x0, s, ty, ⟨v5.symm.trans q2, q2⟩, q3, q4, q6, ⟨t1, t0⟩, fun z => ?_, fun B hB z => ?_⟩
  · rcases q7 with ⟨_, _, e1, e⟩ | ⟨e, _⟩ | ⟨B', hB', e, _⟩
    · exact ⟨e, e1⟩
    · rw [z] at e; exact absurd e (by decide)
    · rw [z] at e; exact absurd e.symm (zc_m1 (by omega))
  · rcases q7 with ⟨e, _⟩ | ⟨e, _⟩ | ⟨B', hB', e, _, e2, e3, e4⟩
    · rw [z] at e; exact absurd e (zc_m1 (by omega))
    · rw [z] at e; exact absurd e (nI_m2 (by omega))
    · rw [z] at e
      have : B = B' := (nI_eq (by omega) (by omega)).mp e
      subst this
      exact ⟨e2, e3, e4⟩
theorem yj_ra {u xx : Nat} {v : Int32} (C : yj_cx LC LM nb b sz F Fb X Y h0 g0 P) (V : yb_V Fb b h0 v u xx) : (F b ≤ u ∧ u < F (b + 1)) ∧ Y b ≤ 4096 := by
  obtain ⟨c1, c2, c3, _⟩ := C
  obtain ⟨v1, v2, _⟩ := V
  rw [c3 _ (by omega)] at v1
  rw [c3 _ (by omega)] at v2
  exact ⟨⟨v1, v2⟩, (c1.2.2 b c2).1.2.2⟩
theorem yj_ni {u xx x0 : Nat} {v : Int32} (C : yj_cx LC LM nb b sz F Fb X Y h0 g0 P) (V : yb_V Fb b h0 v u xx) (hi : (h0.2.1 30) (32 + u) = -1) (c1 : (h0.2.1 32) (32 + u) = nI x0) (hx : x0 < Y b) : ¬ (yq_k h0 b).2 x0 := by
  obtain ⟨r1, r2⟩ := yj_ra C V
  obtain ⟨_, s, _, _, ⟨c2, _⟩, _, _, _, c8, _⟩ := yj_var C V
  rw [(c8 hi).1] at c2
  exact yq_ni (s := 1) (j := 0) C.1 C.2.1 r1 (.inl hi) c1 (by omega) c2 (by omega) (by omega)
theorem yj_na {u xx x0 s : Nat} {v : Int32} (C : yj_cx LC LM nb b sz F Fb X Y h0 g0 P) (V : yb_V Fb b h0 v u xx) (hi : (h0.2.1 30) (32 + u) = -2) (c1 : (h0.2.1 32) (32 + u) = nI x0) (c2 : (h0.2.1 34) (32 + u) = nI s) (hx : x0 + s ≤ Y b) : ∀ j, j < s → ¬ (yq_k h0 b).2 (x0 + j) := by
  obtain ⟨r1, r2⟩ := yj_ra C V
  exact fun j hj => yq_ni C.1 C.2.1 r1 (.inr hi) c1 (by omega) c2 (by omega) hj
theorem yw_e {L : List yI} {kb : Nat → yK} {lo : Nat} (E : yk_e X (fun u => (kb u).1 = 1) b L) : ∀ i, i ∈ L → yw_i X Y kb b lo i := fun i hi => .inl (E.2 i hi)
/-- a BOOL's cell, if it is among them -/
theorem yj_b1 {u xx x0 : Nat} {v : Int32} {LD : Nat → Prop} (C : yj_cx LC LM nb b sz F Fb X Y h0 g0 P) (V : yb_V Fb b h0 v u xx) (hi : (h0.2.1 30) (32 + u) = -1) (c1 : (h0.2.1 32) (32 + u) = nI x0) (hx : x0 < Y b) (H : yq_b LD h0 b x0) : (h0.2.1 31) (32 + u) = 0 := by
  obtain ⟨r1, r2⟩ := yj_ra C V
  obtain ⟨_, s, _, _, ⟨c2, _⟩, _, _, _, c8, _⟩ := yj_var C V
  rw [(c8 hi).1] at c2
  exact yq_bc (s := 1) (j := 0) C.1 C.2.1 r1 (.inl hi) c1 (by omega) c2 (by omega) (by omega) H
theorem yj_ba {u xx x0 s : Nat} {v : Int32} {LD : Nat → Prop} (C : yj_cx LC LM nb b sz F Fb X Y h0 g0 P) (V : yb_V Fb b h0 v u xx) (hi : (h0.2.1 30) (32 + u) = -2) (c1 : (h0.2.1 32) (32 + u) = nI x0) (c2 : (h0.2.1 34) (32 + u) = nI s) (hx : x0 + s ≤ Y b) (j : Nat) (hj : j < s) (H : yq_b LD h0 b (x0 + j)) : (h0.2.1 31) (32 + u) = 0 := by
  obtain ⟨r1, r2⟩ := yj_ra C V
  exact yq_bc C.1 C.2.1 r1 (.inr hi) c1 (by omega) c2 (by omega) hj H
/-- an assignment -/
theorem yj_12 {i k : Nat} {xl : Int32} {Q1 : Nat → Prop} (C : yj_cx LC LM nb b sz F Fb X Y h0 g0 P) (hi : i < 32784) (hk : k < 33500) (km : (g0.2.1 72) k = 12) (N : yb_N Fb b h0 g0 P Q 12 kv.2 i k xl (zt_ln l)) (A : yj_f LC LM Fb b h0 g0 P Q ow l Q1 (nI k) xl ((g0.2.1 76) k) ((g0.2.1 77) k)) (hA : zg_A 12 (zg_run 12 0 l) = true) (ok : zg_ok l) (hd : zg_d l ≤ 187) (hz : zt_sz l + 1 ≤ sz) : ∃ T, yj_1 X Y h0 g0 b 12 kv l i k ow T := by
  obtain ⟨_, ec, _⟩ := yj_pl (by decide) N
  obtain ⟨c1, kv1, o1, l1, c2, kv2, o2, l2, el, hc1, hc2⟩ := yc_g12 hA
  subst el
  have hd0 : max (zg_d l1 + 1) (max (zg_d l2 + 1) 0) ≤ zg_d (.inner c1 kv1 o1 l1 (.inner c2 kv2 o2 l2 .leaf)) := zg_d2 (r := .leaf)
  have hz0 : zt_sz (.inner c1 kv1 o1 l1 (.inner c2 kv2 o2 l2 .leaf)) = 1 + zt_sz l1 + (1 + zt_sz l2 + 0) := rfl
  obtain ⟨ok1, okl1, ok2⟩ := id ok
  have hc1E : c1 ∈ yb_E := by rcases hc1 with e | e <;> subst e <;> decide
  have g0' : yg_c 0 (.inner 12 kv () (.inner c1 kv1 o1 l1 (.inner c2 kv2 o2 l2 .leaf)) .leaf) = 0 := by
    show 0 + yg_c 0 (.inner c1 kv1 o1 l1 (.inner c2 kv2 o2 l2 .leaf)) + 0 = 0
    rw [yj_g0 _ ok ⟨hc1E, hc2, trivial⟩]
  obtain ⟨a, ka, xa, Qa, Qb, z2, ⟨⟨pa, ha, ea⟩, ⟨_, hka, eka⟩, mka⟩, Na, nva, _, _, ⟨Aa, Ma⟩, R, ey⟩ := yj_c A
  obtain ⟨c, kc, Qc, L, ⟨hc, exc⟩, ⟨hkc, ekc, nQ⟩, ⟨LC', LM'⟩, ⟨Ll, Le⟩⟩ := yj_e C ok2 hc2 (by omega) (by omega) R.1 R.2.1
  have ez : z2 = nI kc := by
    obtain ⟨_, _, _, _, _, z3, _, _, _, _, _, _, R2, ey2⟩ := yj_c R
    have := (show (g0.2.1 78) _ = -1 ∧ z3 = -1 from R2.2.1).2
    rw [this, if_pos rfl, ekc] at ey2
    exact ey2
  have elast : (g0.2.1 77) k = nI kc := by
    rw [ey, ez, if_neg (zc_m1 (by omega))]
  rw [ekc] at *
  have tyA : (h0.2.1 14) a = 0 → (h0.2.1 14) c = 0 := by
    obtain ⟨a', b', q1, q2, q3, q4, q5⟩ := (yj_sy (.inl rfl) N).1 rfl
    have hP := C.2.2.2.1
    have t1 : a' = a := (nI_eq (by have := hP _ q2; omega) (by omega)).mp (q1.symm.trans ea)
    subst t1
    have t2 : b' = c := (nI_eq (by have := hP _ q4; omega) (by omega)).mp (q3.symm.trans exc)
    subst t2
    exact q5
  have hY4 := (C.1.2.2 b C.2.1).1
  rcases hc1 with e | e
  · subst e
    obtain ⟨k6, u, xx, V, a1, a2, a3, a3t⟩ := yj_6 Na
    obtain ⟨x0, s, ty, ⟨v1, v2⟩, _, _, ⟨v5, v6⟩, _, v8, _⟩ := yj_var C V
    have s1 := (v8 a3).1
    refine ⟨yz_i (L ++ [(2, nI x0, 0, 0)]), ⟨by decide, trivial⟩, ⟨?_, ?_⟩, ⟨fun n => Nat.zero_le _, ?_⟩, yz_Wi ?_ ?_, Nat.zero_le _, fun LD _ => yz_Bi (yo_N2 (Ll.2.1 LD) (by omega) (fun z => tyA (a3t.trans (yj_b1 C V a3 v2 (by omega) z))))⟩
    · rw [g0']
      exact yk_S12 hi (ec.trans ea) ha k6 (show 32 + u < 6000 by omega) a1 v2 exc (by omega) LC'
    · exact yk_T12 hk km eka hka mka elast hkc (a2.trans v1) (by omega) nQ LM'
    · rw [yz_il, List.length_append]
      show L.length + 1 ≤ 6 * (1 + zt_sz (.inner 6 kv1 o1 l1 (.inner c2 kv2 o2 l2 .leaf)) + 0)
      omega
    · rw [yo_1 (Le.1 0)]; rfl
    · intro j hj
      rcases List.mem_append.mp hj with z | z
      · exact yw_e Le j z
      · rw [List.mem_singleton.mp z]
        exact .inr (.inl ⟨rfl, x0, rfl, .inl ⟨by omega, yj_ni C V a3 v2 (by omega)⟩⟩)
  · subst e
    obtain ⟨k32, ecl, u, xx, V, a1, a2, a3, a3t⟩ := yj_32 Na
    obtain ⟨x0, s, ty, ⟨v1, v2⟩, ⟨v3, v3'⟩, v4, ⟨v5, v6⟩, _, _, _⟩ := yj_var C V
    obtain ⟨cd, ckv, co, cl, el1, hcE⟩ := yb_g1 (.inl rfl) ok1.1
    subst el1
    have hd1 : max (zg_d cl + 1) 0 ≤ zg_d (.inner cd ckv co cl .leaf) := zg_d1 (r := .leaf)
    have hz1 : zt_sz (.inner cd ckv co cl .leaf) = 1 + zt_sz cl + 0 := rfl
    obtain ⟨e, ke, Qe, L1, ⟨he, exe⟩, ⟨hke, eke, nQe⟩, ⟨LC1, LM1⟩, ⟨Ll1, Le1⟩⟩ := yj_e C okl1 hcE (by omega) (by omega) Aa Ma
    rw [if_pos (by decide)] at nva
    have hv := yk_vM C.1 C.2.1 C.2.2.1 V nva
    refine ⟨yz_i (L1 ++ (L ++ [(4, nI x0, (h0.2.1 33) (32 + u), nI s)])), ⟨by decide, trivial⟩, ⟨?_, ?_⟩, ⟨fun n => Nat.zero_le _, ?_⟩, yz_Wi ?_ ?_, Nat.zero_le _, fun LD _ => yz_Bi (yo_N4 (Ll1.2.1 LD) (Ll.2.1 LD) (by omega) (by omega) (fun j hj z => tyA (a3t.trans (yj_ba C V a3 v2 v3 v5 j hj z))))⟩
    · rw [g0', ← v3]
      exact yk_S12e hi (ec.trans ea) ha k32 (show 32 + u < 6000 by omega) a1 v2 exc (ecl.trans exe) (by omega) (by omega) LC1 LC'
    · rw [← v4, ← v3']
      exact yk_T12e hk km eka hka mka elast hkc (a2.trans v1) eke hke hv (by omega) (by omega) (by omega) nQe nQ LM1 LM'
    · rw [yz_il, List.length_append, List.length_append]
      show L1.length + (L.length + 1) ≤ 6 * (1 + zt_sz (.inner 32 kv1 o1 (.inner cd ckv co cl .leaf) (.inner c2 kv2 o2 l2 .leaf)) + 0)
      omega
    · rw [yo_1 (Le1.1 0), yo_1 (Le.1 _)]; rfl
    · intro j hj
      rcases List.mem_append.mp hj with z | z
      · exact yw_e Le1 j z
      rcases List.mem_append.mp z with z | z
      · exact yw_e Le j z
      · rw [List.mem_singleton.mp z]
        exact .inr (.inr (.inl ⟨rfl, x0, s, rfl, rfl, v5, yj_na C V a3 v2 v3 v5⟩))
theorem yj_20 {i k : Nat} (hk : k < 33500) (km : (g0.2.1 72) k = 20) (hl : l = .leaf) : ∃ T, yj_1 X Y h0 g0 b 20 kv l i k ow T := by
  subst hl
  exact ⟨.inner 3 ([], 0, 0) () .leaf .leaf, ⟨by decide, trivial⟩, ⟨yk_S20, yk_T20 hk km (Nat.le_refl _)⟩, ⟨fun n => Nat.le_refl _, by show 1 + 0 ≤ 6 * (1 + 0 + 0); omega⟩, ⟨⟨trivial, trivial⟩, trivial⟩, Nat.zero_le _, fun LD _ => ⟨trivial, trivial⟩⟩
theorem yj_21 {i k : Nat} (hi : i < 32784) (hk : k < 33500) (km : (g0.2.1 72) k = 21) (hl : l = .leaf) : ∃ T, yj_1 X Y h0 g0 b 21 kv l i k ow T := by
  subst hl
  exact ⟨.inner 4 ([], 0, 0) () .leaf .leaf, ⟨by decide, trivial⟩, ⟨yk_S21 hi, yk_T21 hk km⟩, ⟨fun n => Nat.le_refl _, by show 1 + 0 ≤ 6 * (1 + 0 + 0); omega⟩, ⟨⟨trivial, trivial⟩, trivial⟩, Nat.zero_le _, fun LD _ => ⟨trivial, trivial⟩⟩
end YJA
