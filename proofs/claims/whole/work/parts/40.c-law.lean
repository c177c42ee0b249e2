/-! The law: its loop. -/
theorem jz_lt {L a : Nat} (hL : L ≤ 3072) (ha : a ≤ L) (h : L < a + 6) : (nI L - 6 : Int32) < nI a := by
  by_cases h6 : L < 6
  · by_cases ha0 : a = 0
    · subst ha0
      rcases (show L = 0 ∨ L = 1 ∨ L = 2 ∨ L = 3 ∨ L = 4 ∨ L = 5 by omega) with rfl | rfl | rfl | rfl | rfl | rfl <;> decide
    · rcases (show L = 1 ∨ L = 2 ∨ L = 3 ∨ L = 4 ∨ L = 5 by omega) with rfl | rfl | rfl | rfl | rfl <;> rcases (show a = 1 ∨ a = 2 ∨ a = 3 ∨ a = 4 ∨ a = 5 by omega) with rfl | rfl | rfl | rfl | rfl <;> decide
  · have e : (nI L - 6 : Int32) = nI (L - 6) := js_subI (a := L) (b := 6) (by omega)
    rw [e]
    exact nI_lt (by omega) (by omega)
theorem jz_ge {L a : Nat} (hL : L ≤ 3072) (h : a + 6 ≤ L) : ¬ (nI L - 6 : Int32) < nI a := by
  have e : (nI L - 6 : Int32) = nI (L - 6) := js_subI (a := L) (b := 6) (by omega)
  rw [e]
  exact nI_nlt (by omega) (by omega)
set_option maxHeartbeats 4000000 in
set_option maxRecDepth 100000 in
theorem jz_loop {X : zkj_T} {S : zs_T} {P : ze_T} {l : Launch} {D : va_G} {sz0 b L : Nat} {xs : Nat → Int32} (hL : L ≤ 3072) (C : zk_C X km_law (zs_G S l D sz0) room_1 (ze_E P)) (hs : jz_scr X b L xs) (hret : ∀ (ws : va_W) (cells slots : Nat) (lv : List (Nat × Value)), cells ≤ 600000 → slots ≤ 7302249 → zk_Ab X ws cells slots 483 lv [.int 1]) : ∀ (m j u t i : Nat) (h : zs_H), i = 6 * j → L < 6 * j + 6 * m + 6 → 6 * j ≤ L → yO t h h → t ≤ 20 * j → u + 2 * t ≤ 42 * j → zk_Ab X (zs_W S h) (121 + 8 * u) (1494679 + 28 * u) 18 [(0, .ref b), (1, .ref (S.1 0)), (2, .ref (S.1 68)), (3, .int (nI i))] [] := by
  have enter : ∀ (j u t i : Nat) (h : zs_H), i = 6 * j → 6 * j ≤ L → t ≤ 20 * j → u + 2 * t ≤ 42 * j → (i + 6 ≤ L → zk_Ab X (zs_W S h) (121 + 8 * u) (1494679 + 28 * u) 27 [(0, .ref b), (1, .ref (S.1 0)), (2, .ref (S.1 68)), (3, .int (nI i))] []) → zk_Ab X (zs_W S h) (121 + 8 * u) (1494679 + 28 * u) 18 [(0, .ref b), (1, .ref (S.1 0)), (2, .ref (S.1 68)), (3, .int (nI i))] [] := by
    intro j u t i h hi hj ht hu kk
    refine zk_iload_n C kd_law_18 rfl 3 rfl rfl ?_
    refine zk_aload_n C kd_law_19 rfl 0 rfl rfl ?_
    refine jz_slen C hs kd_law_20 rfl ?_
    refine zk_bipush (v := 6) C kd_law_21 (by decide) rfl ?_
    refine zk_isub C kd_law_23 rfl ?_
    by_cases hx : i + 6 ≤ L
    · exact zk_icmp_gt (tgt := 482) C kd_law_24 (by decide) rfl (fun q => absurd q (jz_ge hL hx)) (fun q => kk hx)
    · refine zk_icmp_gt (tgt := 482) C kd_law_24 (by decide) rfl (fun q => ?_) (fun q => absurd (jz_lt hL (by omega) (by omega)) q)
      refine zk_iconst (v := 1) C kd_law_482 (by decide) rfl ?_
      exact hret _ _ _ _ (by omega) (by omega)
  intro m
  induction m with
  | zero =>
    intro j u t i h hi hm hj R ht hu
    exact enter j u t i h hi hj ht hu (fun hx => absurd hx (by omega))
  | succ m ih =>
    intro j u t i h hi hm hj R ht hu
    refine enter j u t i h hi hj ht hu (fun hx => ?_)
    have back : ∀ (u2 t2 : Nat) (h2 : zs_H), yO t2 h2 h2 → t2 ≤ 20 * (j + 1) → u2 + 2 * t2 ≤ 42 * (j + 1) → zk_Ab X (zs_W S h2) (121 + 8 * u2) (1494679 + 28 * u2) 476 [(0, .ref b), (1, .ref (S.1 0)), (2, .ref (S.1 68)), (3, .int (nI i))] [] := by
      intro u2 t2 h2 R2 ht2 hu2
      refine zk_iinc (v := nI (i + 6)) (lv' := [(3, .int (nI (i + 6))), (0, .ref b), (1, .ref (S.1 0)), (2, .ref (S.1 68))]) C kd_law_476 3 rfl (nI_add i 6) (by decide) rfl rfl ?_
      refine zk_goto (tgt := 18) C kd_law_479 (by decide) ?_
      refine zk_lvs (lv' := [(0, .ref b), (1, .ref (S.1 0)), (2, .ref (S.1 68)), (3, .int (nI (i + 6)))]) [1, 2, 3, 0] rfl ?_
      exact ih (j + 1) u2 t2 (i + 6) h2 (by omega) (by omega) (by omega) R2 ht2 hu2
    refine zk_aload_n C kd_law_27 rfl 0 rfl rfl ?_
    refine zk_iload_n C kd_law_28 rfl 3 rfl rfl ?_
    refine jz_sld C hs (vp_in_nI (by omega) (by omega)) kd_law_29 rfl ?_
    rw [nI_clamp (by omega)]
    refine zk_bipush (v := 15) C kd_law_30 (by decide) rfl ?_
    refine zk_iand C kd_law_32 rfl ?_
    obtain ⟨q, hq, eq⟩ := pk_andE (xs i) (m := 15) 4 (by decide)
    rw [eq]
    have hjb : j < 512 := by omega
    match q, hq with
    | 0, _ =>
      obtain ⟨v, h1, h2, t2, d1, d2, d3, d4, d5, d6⟩ := zlw_3 R (by omega) 0 (xs (i + 1)) (xs (i + 2)) (xs (i + 3)) (xs (i + 4)) (xs (i + 5))
      exact zk_tableIn (tgt := 104) C kd_law_33 (by decide) (by decide) rfl (by decide) (jz_k0 C hs hL i u hx ⟨by omega, by omega⟩ d1 d2 (back u t2 h2 d4 (by omega) (by omega)))
    | 1, _ =>
      obtain ⟨v, h1, h2, t2, d1, d2, d3, d4, d5, d6⟩ := zlw_3 R (by omega) 1 (xs (i + 1)) (xs (i + 2)) (xs (i + 3)) (xs (i + 4)) (xs (i + 5))
      exact zk_tableIn (tgt := 167) C kd_law_33 (by decide) (by decide) rfl (by decide) (jz_k1 C hs hL i u hx ⟨by omega, by omega⟩ d1 d2 (back u t2 h2 d4 (by omega) (by omega)))
    | 2, _ =>
      obtain ⟨v, h1, h2, t2, d1, d2, d3, d4, d5, d6⟩ := zlw_3 R (by omega) 2 (xs (i + 1)) (xs (i + 2)) (xs (i + 3)) (xs (i + 4)) (xs (i + 5))
      by_cases hr : ¬ xs (i + 1) < 100 ∧ xs (i + 1) ≤ 100000
      · have d7 : 1 + 2 * t + 2 * t2 ≤ 2 * t + 42 := by
          unfold jw_u at d6
          rw [if_pos rfl, if_pos hr] at d6
          exact d6
        exact zk_tableIn (tgt := 190) C kd_law_33 (by decide) (by decide) rfl (by decide) (jz_k2 C hs hL i u hx (1 + 2 * t) (jn_H (1 + 2 * t)) (fun _ _ => jp_load R d5) ⟨by omega, by omega⟩ d1 d2 (back (u + (1 + 2 * t)) t2 h2 d4 (by omega) (by omega)))
      · exact zk_tableIn (tgt := 190) C kd_law_33 (by decide) (by decide) rfl (by decide) (jz_k2 C hs hL i u hx 0 (Pz := fun _ => False) ⟨fun _ _ _ z => z, fun _ _ _ z => z, fun _ _ _ z => z, fun _ _ z => z, fun _ _ z => z.elim⟩ (fun z1 z2 => absurd ⟨z1, z2⟩ hr) ⟨by omega, by omega⟩ d1 d2 (back (u + 0) t2 h2 d4 (by omega) (by omega)))
    | 3, _ =>
      obtain ⟨v, h1, h2, t2, d1, d2, d3, d4, d5, d6⟩ := zlw_3 R (by omega) 3 (xs (i + 1)) (xs (i + 2)) (xs (i + 3)) (xs (i + 4)) (xs (i + 5))
      exact zk_tableIn (tgt := 213) C kd_law_33 (by decide) (by decide) rfl (by decide) (jz_k3 C hs hL i u hx ⟨by omega, by omega⟩ d1 d2 (back u t2 h2 d4 (by omega) (by omega)))
    | 4, _ =>
      obtain ⟨v, h1, h2, t2, d1, d2, d3, d4, d5, d6⟩ := zlw_3 R (by omega) 4 (xs (i + 1)) (xs (i + 2)) (xs (i + 3)) (xs (i + 4)) (xs (i + 5))
      exact zk_tableIn (tgt := 226) C kd_law_33 (by decide) (by decide) rfl (by decide) (jz_k4 C hs hL i u hx ⟨by omega, by omega⟩ d1 d2 (back u t2 h2 d4 (by omega) (by omega)))
    | 5, _ =>
      obtain ⟨v, h1, h2, t2, d1, d2, d3, d4, d5, d6⟩ := zlw_3 R (by omega) 5 (xs (i + 1)) (xs (i + 2)) (xs (i + 3)) (xs (i + 4)) (xs (i + 5))
      have y1 : (f_Pk_get h (xs (i + 1)) (xs (i + 2))).bind (fun v => some (v, h)) = some (v, h1) := d1
      obtain ⟨z1, f1, w1⟩ := zd_b y1
      clear y1 d1
      injection w1 with w1
      injection w1 with r1 x1
      subst x1
      subst r1
      have y2 : (f_Mo_get h (xs (i + 1)) (xs (i + 2))).bind (fun v => some (v, h)) = some (_, h2) := d2
      obtain ⟨z2, f2, w2⟩ := zd_b y2
      clear y2 d2
      injection w2 with w2
      injection w2 with r2 x2
      subst x2
      subst r2
      exact zk_tableIn (tgt := 269) C kd_law_33 (by decide) (by decide) rfl (by decide) (jz_k5 C hs hL i u hx ⟨by omega, by omega⟩ f1 f2 (back u t2 h d4 (by omega) (by omega)))
    | 6, _ =>
      obtain ⟨v, h1, h2, t2, d1, d2, d3, d4, d5, d6⟩ := zlw_3 R (by omega) 6 (xs (i + 1)) (xs (i + 2)) (xs (i + 3)) (xs (i + 4)) (xs (i + 5))
      exact zk_tableIn (tgt := 302) C kd_law_33 (by decide) (by decide) rfl (by decide) (jz_k6 C hs hL i u hx ⟨by omega, by omega⟩ d1 d2 (back u t2 h2 d4 (by omega) (by omega)))
    | 7, _ =>
      obtain ⟨v, h1, h2, t2, d1, d2, d3, d4, d5, d6⟩ := zlw_3 R (by omega) 7 (xs (i + 1)) (xs (i + 2)) (xs (i + 3)) (xs (i + 4)) (xs (i + 5))
      exact zk_tableIn (tgt := 345) C kd_law_33 (by decide) (by decide) rfl (by decide) (jz_k7 C hs hL i u hx ⟨by omega, by omega⟩ d1 d2 (back u t2 h2 d4 (by omega) (by omega)))
    | 8, _ =>
      obtain ⟨v, h1, h2, t2, d1, d2, d3, d4, d5, d6⟩ := zlw_3 R (by omega) 8 (xs (i + 1)) (xs (i + 2)) (xs (i + 3)) (xs (i + 4)) (xs (i + 5))
      have d7 : 2 + 2 * t2 ≤ 2 * t + 42 := d6
      exact zk_tableIn (tgt := 368) C kd_law_33 (by decide) (by decide) rfl (by decide) (jz_k8 C hs hL i u hx ⟨by omega, by omega⟩ d1 d2 (back (u + 2) t2 h2 d4 (by omega) (by omega)))
    | 9, _ =>
      obtain ⟨v, h1, h2, t2, d1, d2, d3, d4, d5, d6⟩ := zlw_3 R (by omega) 9 (xs (i + 1)) (xs (i + 2)) (xs (i + 3)) (xs (i + 4)) (xs (i + 5))
      have y1 : some (f_Pk_watched h, h) = some (v, h1) := d1
      clear d1
      injection y1 with w1
      injection w1 with r1 x1
      subst x1
      subst r1
      have y2 : some (f_Mo_watched h, h) = some (_, h2) := d2
      clear d2
      injection y2 with w2
      injection w2 with f2 x2
      subst x2
      exact zk_tableIn (tgt := 381) C kd_law_33 (by decide) (by decide) rfl (by decide) (jz_k9 C hs hL i u hx ⟨by omega, by omega⟩ f2 (back u t2 h d4 (by omega) (by omega)))
    | 10, _ =>
      obtain ⟨v, h1, h2, t2, d1, d2, d3, d4, d5, d6⟩ := zlw_3 R (by omega) 10 (xs (i + 1)) (xs (i + 2)) (xs (i + 3)) (xs (i + 4)) (xs (i + 5))
      exact zk_tableIn (tgt := 394) C kd_law_33 (by decide) (by decide) rfl (by decide) (jz_k10 C hs hL i u hx ⟨by omega, by omega⟩ d1 d2 (back u t2 h2 d4 (by omega) (by omega)))
    | 11, _ =>
      obtain ⟨v, h1, h2, t2, d1, d2, d3, d4, d5, d6⟩ := zlw_3 R (by omega) 11 (xs (i + 1)) (xs (i + 2)) (xs (i + 3)) (xs (i + 4)) (xs (i + 5))
      exact zk_tableIn (tgt := 407) C kd_law_33 (by decide) (by decide) rfl (by decide) (jz_k11 C hs hL i u hx ⟨by omega, by omega⟩ d1 d2 (back u t2 h2 d4 (by omega) (by omega)))
    | 12, _ =>
      obtain ⟨v, h1, h2, t2, d1, d2, d3, d4, d5, d6⟩ := zlw_3 R (by omega) 12 (xs (i + 1)) (xs (i + 2)) (xs (i + 3)) (xs (i + 4)) (xs (i + 5))
      have y1 : (f_Pk_byteAt h (xs (i + 1))).bind (fun v => some (v, h)) = some (v, h1) := d1
      obtain ⟨z1, f1, w1⟩ := zd_b y1
      clear y1 d1
      injection w1 with w1
      injection w1 with r1 x1
      subst x1
      subst r1
      have y2 : (f_Mo_byteAt h (xs (i + 1))).bind (fun v => some (v, h)) = some (_, h2) := d2
      obtain ⟨z2, f2, w2⟩ := zd_b y2
      clear y2 d2
      injection w2 with w2
      injection w2 with r2 x2
      subst x2
      subst r2
      exact zk_tableIn (tgt := 430) C kd_law_33 (by decide) (by decide) rfl (by decide) (jz_k12 C hs hL i u hx ⟨by omega, by omega⟩ f1 f2 (back u t2 h d4 (by omega) (by omega)))
    | 13, _ =>
      obtain ⟨v, h1, h2, t2, d1, d2, d3, d4, d5, d6⟩ := zlw_3 R (by omega) 13 (xs (i + 1)) (xs (i + 2)) (xs (i + 3)) (xs (i + 4)) (xs (i + 5))
      have y1 : some (f_Pk_count h (xs (i + 1)), h) = some (v, h1) := d1
      clear d1
      injection y1 with w1
      injection w1 with r1 x1
      subst x1
      subst r1
      have y2 : (f_Mo_count h (xs (i + 1))).bind (fun v => some (v, h)) = some (_, h2) := d2
      obtain ⟨z2, f2, w2⟩ := zd_b y2
      clear y2 d2
      injection w2 with w2
      injection w2 with r2 x2
      subst x2
      subst r2
      exact zk_tableIn (tgt := 453) C kd_law_33 (by decide) (by decide) rfl (by decide) (jz_k13 C hs hL i u hx ⟨by omega, by omega⟩ f2 (back u t2 h d4 (by omega) (by omega)))
    | 14, _ => exact zk_tableOut (tgt := 476) C kd_law_33 (by decide) (by decide) (back u t h R (by omega) (by omega))
    | 15, _ => exact zk_tableOut (tgt := 476) C kd_law_33 (by decide) (by decide) (back u t h R (by omega) (by omega))
    | q + 16, hq => exact absurd hq (by omega)
theorem jz_kn : ∀ i, i < 405 → zs_known i = zk_kn.getD i 0 := by decide +kernel
theorem jz_0 : yO 0 zs_h0 zs_h0 := yO_new jz_kn
set_option maxHeartbeats 4000000 in
set_option maxRecDepth 100000 in
theorem jz_head {X : zkj_T} {S : zs_T} {P : ze_T} {l : Launch} {D : va_G} {sz0 b L : Nat} {xs : Nat → Int32} (hL : L ≤ 3072) (C : zk_C X km_law (zs_G S l D sz0) room_1 (ze_E P)) (hs : jz_scr X b L xs) (hret : ∀ (ws : va_W) (cells slots : Nat) (lv : List (Nat × Value)), cells ≤ 600000 → slots ≤ 7302249 → zk_Ab X ws cells slots 483 lv [.int 1]) : zk_Ab X (zs_W S zs_h0) 121 1494679 18 [(0, .ref b), (1, .ref (S.1 0)), (2, .ref (S.1 68)), (3, .int 0)] [] := jz_loop hL C hs hret 600 0 0 0 0 zs_h0 rfl (by omega) (by omega) jz_0 (by omega) (by omega)
