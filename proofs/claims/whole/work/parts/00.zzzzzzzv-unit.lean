/-! The coder: a unit, on both sides. -/
/-- what ladders are made of -/
def yu_ld : zt_T → Prop
  | .leaf => True
  | .inner kd _ _ _ r => kd ∈ [6, 22, 23, 24, 25, 26, 27, 28, 29, 33, 38] ∧ yu_ld r
theorem yu_gld {kd : Nat} (hkd : kd ∈ [6, 22, 23, 24, 25, 26, 27, 28, 29, 33, 38]) : ∀ {l : zt_T} {st : Nat}, ¬ zg_run kd st l = 99 → yu_ld l := by
  have key : ∀ r ∈ zg_R, r.1 ∈ [6, 22, 23, 24, 25, 26, 27, 28, 29, 33, 38] → ∀ c ∈ r.2.2.1, c ∈ [6, 22, 23, 24, 25, 26, 27, 28, 29, 33, 38] := by decide +kernel
  intro l
  induction l with
  | leaf => intro _ _; trivial
  | inner c kv o lc r _ ihr =>
    intro st h
    obtain ⟨p, h1⟩ := yl_gr (kd := kd) (p := fun c => c ∈ [6, 22, 23, 24, 25, 26, 27, 28, 29, 33, 38]) (fun r hr e c hc => key r hr (by rw [e]; exact hkd) c hc) h
    exact ⟨p, ihr h1⟩
theorem yu_ld0 : ∀ t : zt_T, zg_ok t → yu_ld t → yg_c 0 t = 0 := by
  have key : ∀ z ∈ [6, 22, 23, 24, 25, 26, 27, 28, 29, 33, 38], ¬ z = 16 ∧ ¬ z = 19 := by decide
  intro t
  induction t with
  | leaf => intro _ _; rfl
  | inner kd kv o l r ihl ihr =>
    intro ⟨⟨hA, hv⟩, okl, okr⟩ ⟨hk, tr⟩
    obtain ⟨k1, k2⟩ := key kd hk
    show (if 30 ≤ zt_km kd then 0 else yg_w 0 kd kv.2 + yg_c 0 l) + yg_c 0 r = 0
    have e : yg_w 0 kd kv.2 = 0 := by
      unfold yg_w
      rw [if_pos rfl, if_neg (by omega)]
    rw [ihr okr tr, ihl okl (yu_gld hk (yc_gA hA)), e, ite_self]
/-- a part of a unit has been coded, in the model -/
def yM_U (s n : Nat) (L : List yJ) (g g' : zs_H) : Prop := (g'.1 68 56) = nI (n + L.length) ∧ zfr yM_g yM_x [] g g' ∧ (n + L.length ≤ 4000 → (∀ j, j < n → ∀ a, a ∈ yM_w → g'.2.1 a j = g.2.1 a j) ∧ ∀ k i, L[k]? = some i → yM_m s g' (n + k) i)
section YUZ
variable {s n v q w ww : Nat} {L : List yI} {M M1 M2 : List yJ} {T : ys} {h h1 h2 h' g g1 g2 g' : zs_H}
theorem yM_UE (E : yM_E s n M g g') : yM_U s n M g g' := ⟨E.1, zfr_w E.2.1 (by decide) (by decide) (by decide), E.2.2⟩
theorem yM_RU (R : yM_R s n v q T w ww g g') (hx : yz_x T n = []) : yM_U s n (yz_c T n v q 0) g g' ∧ (g'.1 68 64) = (g.1 68 64) ∧ (g'.1 68 66) = (g.1 68 66) ∧ (g'.1 68 68) = nI w := by
  obtain ⟨⟨r1, r2, r3⟩, l1, l2, l3, _⟩ := R
  rw [hx] at r3 l3
  refine ⟨⟨r1, r2, fun h4 => ⟨(r3 h4).1, fun k i e => ?_⟩⟩, l1, l2, l3⟩
  obtain ⟨⟨a1, a2, a3, a4⟩, a5⟩ := (r3 h4).2 k i e
  have a6 := a5 List.not_mem_nil
  unfold yM_t at a6
  by_cases z : i.1.1 = 13
  · rw [if_pos z] at a4 a6
    exact ⟨a1, a4, a6, a2, a3⟩
  · rw [if_neg z] at a4 a6
    exact ⟨a1, a6, a4, a2, a3⟩
theorem yM_Uap (A : yM_U s n M1 g g1) (B : yM_U s (n + M1.length) M2 g1 g2) : yM_U s n (M1 ++ M2) g g2 := by
  obtain ⟨a1, a2, a3⟩ := A
  obtain ⟨b1, b2, b3⟩ := B
  have el : n + (M1 ++ M2).length = n + M1.length + M2.length := by rw [List.length_append]; omega
  refine ⟨by rw [el]; exact b1, zfr_trans a2 b2, fun h4 => ?_⟩
  rw [el] at h4
  obtain ⟨c1, c2⟩ := a3 (by omega)
  obtain ⟨d1, d2⟩ := b3 h4
  refine ⟨fun j hj a ha => (d1 j (by omega) a ha).trans (c1 j hj a ha), fun k i e => ?_⟩
  rw [List.getElem?_append] at e
  by_cases z : k < M1.length
  · rw [if_pos z] at e
    have m0 := c2 k i e
    have hd := fun a ha => d1 (n + k) (by omega) a ha
    unfold yM_m at m0 ⊢
    rw [hd _ (by decide), hd _ (by decide), hd _ (by decide), hd _ (by decide), hd _ (by decide)]
    exact m0
  · rw [if_neg z] at e
    have := d2 _ i e
    rw [show n + M1.length + (k - M1.length) = n + k by omega] at this
    exact this
/-- the way to a block's body -/
theorem yu_chain {a sz : Nat} (ha : a < 32784) (hsz : (h.1 12 6) = nI sz) (hs2 : sz ≤ 32784) : ∀ (m N t : Nat) (x : Int32), yg_cn ((h.2.1 18)) a m x → t + m < sz → m < N → f_Cr_codeBlock_L84 N h x (nI t) = f_Cr_codeBlock_124 h (nI a) := by
  intro m
  induction m with
  | zero =>
    intro N t x ⟨e1, e2⟩ ht hN
    obtain ⟨N, rfl⟩ : ∃ z, N = z + 1 := ⟨N - 1, by omega⟩
    subst e1
    show f_Cr_codeBlock_84 (f_Cr_codeBlock_L84 N) h (nI a) (nI t) = _
    unfold f_Cr_codeBlock_84
    simp only [hsz, if_neg (mt (nI_leI (show sz < 2147483648 by omega) (show t < 2147483648 by omega)).mp (by omega)), if_pos (zi_in (show a < 2147483648 by omega) ha), nI_clamp (show a < 2147483648 by omega), e2, if_true]
  | succ m ih =>
    intro N t x ⟨b, hb, e1, e2, e3⟩ ht hN
    obtain ⟨N, rfl⟩ : ∃ z, N = z + 1 := ⟨N - 1, by omega⟩
    subst e1
    show f_Cr_codeBlock_84 (f_Cr_codeBlock_L84 N) h (nI b) (nI t) = _
    unfold f_Cr_codeBlock_84
    simp only [hsz, if_neg (mt (nI_leI (show sz < 2147483648 by omega) (show t < 2147483648 by omega)).mp (by omega)), if_pos (zi_in (show b < 2147483648 by omega) hb), nI_clamp (show b < 2147483648 by omega), if_neg e2, show nI t + 1 = nI (t + 1) from zc_ad 1 t]
    exact ih N (t + 1) _ e3 (by omega) (by omega)
end YUZ
abbrev yx_F : List (Nat × Nat) := [(41, 5), (47, 4), (47, 5), (47, 6), (47, 10), (47, 11)]
/-- a unit has been coded -/
def yx_U (n : Nat) (L : List yI) (h h' : zs_H) : Prop := (h'.1 41 5) = nI (n + L.length) ∧ zfr yx_F yU_M [] h h' ∧ (n + L.length ≤ 4000 → (∀ j, j < n → ∀ a, a ∈ yC_w → h'.2.1 a j = h.2.1 a j) ∧ ∀ k i, L[k]? = some i → yC_m h' (n + k) i)
/-- one code T for a block's body on both sides -/
def yx_B (h0 g0 : zs_H) (b a bn y : Nat) (T : ys) : Prop := (∀ (h : zs_H) (n : Nat), yC_f h0 h → (h.1 41 5) = nI n → (h.1 47 4) = nI y → (h.1 47 5) = (h0.2.1 26) (9 + b) - 156 → n + yz_l T + 600000 ≤ 80000000 → ∃ h', f_Cr_codeBlock_124 h (nI a) = some h' ∧ yC_U n ((yz_c T n 0 0 0).map Prod.fst) h h') ∧ (∀ (g : zs_H) (n s : Nat), yM_f g0 g → yM_c g n s b 0 → (g.1 68 68) = 0 → (g.1 68 66) = 0 → n + yz_l T + 600000 ≤ 80000000 → ∃ g', (if (g.2.1 72) bn = 11 then f_Mo_bodyCode 400 g (nI bn) else f_Mo_ladderCode g (nI bn)) = some g' ∧ yM_U s n (yz_c T n 0 0 0) g g' ∧ (g'.1 68 68) = 0 ∧ (g'.1 68 66) = 0 ∧ (g'.1 68 64) = 0)
section YXB
variable {LC LM : List (List Int32)} {nb b sz a bn : Nat} {F Fb X Y : Nat → Nat} {h0 g0 : zs_H} {P Q : Nat → Prop} {kv : Int32 × Int32} {lb : zt_T} {Qm : Nat → Prop} {up yy : Int32}
theorem yx_b11 (C : yj_cx LC LM nb b sz F Fb X Y h0 g0 P) (A : yb_F Fb b h0 g0 P Q (.inner 11 kv () lb .leaf) (nI a) (nI bn) (-1) (-1)) (M : zt_M LC LM g0 (.inner 11 kv () lb .leaf) Qm up (nI bn) yy) (G0 : yg_G 0 g0 Q (Y b) (.inner 11 kv () lb .leaf) (nI bn)) (ha : a < 32784) (hbn : bn < 33500) (mk : (g0.2.1 72) bn = 11) (hA : zg_A 11 (zg_run 11 0 lb) = true) (ok : zg_ok lb) (hd : zg_d lb ≤ 184) (hcx : zg_cx lb) (hz : zt_sz lb + 1 ≤ sz) (hX : Y b + yg_c 0 lb ≤ X b) (hx : zg_x (.inner 11 kv () lb .leaf) = 0) : ∃ T, yx_B h0 g0 b a bn (Y b) T ∧ yz_st T ∧ (∀ n, yz_x T n = []) ∧ yz_l T ≤ 16 * zt_sz lb ∧ yz_W X Y (yq_k h0) b T (Y b) ∧ yz_v T ≤ 61 ∧ yz_NL h0 b T := by
  obtain ⟨T, ⟨B1, B2⟩, t1, t2, t3, t4, t5, tN⟩ := yj_body C (a := a) (bn := bn) ⟨A, M, G0⟩ ha hbn hA ok hd hz (Nat.le_refl _) hX hx
  obtain ⟨i, k, xl, ⟨_, i2, ix⟩, _, N, _⟩ := A
  have ei : i = a := ((nI_eq (by omega) (by omega)).mp ix).symm
  subst ei
  obtain ⟨n1, _, _⟩ := yj_pl (by decide) N
  refine ⟨T, ⟨fun h n f es ho hp hn => ?_, fun g n s f c w1 w2 hn => ?_⟩, t1, t2, by omega, t4, t5, .inl tN⟩
  · obtain ⟨h', e1, e2⟩ := B1 400 0 n 0 0 h f es ho (by omega) (by omega) (by omega)
    refine ⟨h', ?_, yC_RU e2 (t2 n)⟩
    unfold f_Cr_codeBlock_124
    rw [if_pos (zi_in (by omega) ha), nI_clamp (by omega), f.2.1 13 (by decide), if_pos (show (h0.2.1 13) i = 11 from n1)]
    exact (congrArg (fun z => Option.bind z _) e1).trans rfl
  · obtain ⟨g', e1, e2⟩ := B2 400 n s 0 0 0 0 g f c w1 w2 (by omega) (by have := hcx.1; omega) (by have := hcx.2; omega) (by omega)
    obtain ⟨r1, r2, r3, r4⟩ := yM_RU e2 (t2 n)
    refine ⟨g', ?_, r1, r4, r3.trans w2, r2.trans c.2.2.1⟩
    rw [f.2.1 72 (by decide), if_pos mk]
    exact e1
theorem yx_b22 (C : yj_cx LC LM nb b sz F Fb X Y h0 g0 P) (A : yb_F Fb b h0 g0 P Q (.inner 22 kv () lb .leaf) (nI a) (nI bn) (-1) (-1)) (M : zt_M LC LM g0 (.inner 22 kv () lb .leaf) Qm up (nI bn) yy) (G1 : yg_G 1 g0 Q (Y b) (.inner 22 kv () lb .leaf) (nI bn)) (ha : a < 32784) (hbn : bn < 33500) (mk : (g0.2.1 72) bn = 22) (hA : zg_A 22 (zg_run 22 0 lb) = true) (ok : zg_ok lb) (hz : zt_sz lb + 1 ≤ sz) (hX : X b = Y b + yg_c 1 lb + 156) (hru : zg_ru (.inner 22 kv () lb .leaf)) : ∃ T, yx_B h0 g0 b a bn (Y b) T ∧ yz_st T ∧ (∀ n, yz_x T n = []) ∧ yz_l T ≤ 16 * zt_sz lb ∧ yz_W X Y (yq_k h0) b T (Y b) ∧ yz_v T ≤ 61 ∧ yz_NL h0 b T := by
  have hF := zF_big
  have hln := zv_lnsz lb
  have hs2 := C.2.2.2.2.2
  obtain ⟨⟨x1, x2, x3⟩, x4, x5, _⟩ := C.1.2.2 b C.2.1
  obtain ⟨i, k, xl, ⟨_, i2, ix⟩, ⟨_, k2, kx, _⟩, N, Al, _⟩ := A
  have ei : i = a := ((nI_eq (by omega) (by omega)).mp ix).symm
  have ek : k = bn := ((nI_eq (by omega) (by omega)).mp kx).symm
  subst ei; subst ek
  obtain ⟨n1, n2, _⟩ := yl_pl (by decide) N
  obtain ⟨k', P1, _, _, ex', _, _, _, _, _, _, _, _, Ml, _, _⟩ := zv_hM M
  have ek : k' = k := (nI_eq (by omega) (by omega)).mp ex'.symm
  subst ek
  obtain ⟨b', _, b2, bx, _, G1', _⟩ := G1
  have eb : b' = k' := (nI_eq (by omega) (by omega)).mp bx.symm
  subst eb
  rcases G1' with z | ⟨_, _, _, g4⟩
  · exact absurd z (by decide)
  have g4' : yg_G 1 g0 Q (Y b) lb ((g0.2.1 76) b') := g4
  have ru : zg_ru lb := by
    have := hru.1
    rw [if_neg (by decide), if_pos rfl] at this
    exact this
  obtain ⟨gs, p1, p2, p3⟩ := yu_lad C (pw := X b - 156) (by omega) (by rw [x5, show X b - 156 + 156 = X b by omega]) lb ok (yc_gA hA) ru (Y b) P1 (nI b') xl _ _ Al Ml g4'
  have ec : ∀ n v q, yz_c (yz_i (yu_ll (X b - 156) gs)) n v q 0 = yv v (yu_ll (X b - 156) gs) := fun n v q => List.append_nil _
  have el : yz_l (yz_i (yu_ll (X b - 156) gs)) = (yu_ll (X b - 156) gs).length := rfl
  have hlen : (yu_ll (X b - 156) gs).length ≤ 16 * zt_sz lb := by
    refine (p2 (zs_uF (zs_uF (zs_uF h0 41 5 (nI 0)) 47 4 (nI (Y b))) 47 5 (nI (X b - 156))) 0 0 zF (zfr_F (by decide) (zfr_F (by decide) (zfr_F (by decide) zfr_rfl))) ?_ ?_ ?_ (by omega) (by omega) (by omega)).1
    · rfl
    · rfl
    · rfl
  have hH : ∀ a, a ∈ gs → yu_H (yu_tb h0 b) (yq_k h0 b).2 X Y b (Y b) (X b - 156) a.1.length a.2 (yu_q a.1) := fun a ha => by
    obtain ⟨q1, q2⟩ := p1 a ha
    exact yu_mkH q1 q2 (by omega) (by omega) x2 (by omega)
  refine ⟨yz_i (yu_ll (X b - 156) gs), ⟨fun h n f es ho hp hn => ?_, fun g n s f c w1 w2 hn => ?_⟩, ⟨by decide, trivial⟩, fun _ => rfl, by rw [el]; exact hlen, yu_Wll (Tb := yu_tb h0 b) fun a ha => hH a ha, Nat.zero_le _, .inr fun LD ld => yz_Bi (yu_tll (fun S hS => hS LD) (fun j j1 j2 => (yq_bo C.1 C.2.1 j1 j2).mpr ld) hH (by omega) (by omega))⟩
  · have hpw : (h.1 47 5) = nI (X b - 156) := by rw [hp, x4]; exact zi_sub (b := 156) (by omega)
    obtain ⟨_, h', e1, e2, _, _⟩ := p2 h n 0 zF f es ho hpw (by omega) (by omega) (by omega)
    refine ⟨h', ?_, ?_⟩
    · unfold f_Cr_codeBlock_124
      rw [if_pos (zi_in (by omega) ha), nI_clamp (by omega), f.2.1 13 (by decide), show (h0.2.1 13) i = 22 from n1, if_neg (by decide), f.2.1 17 (by decide), n2]
      exact e1
    · rw [ec, yv_m]; exact e2
  · obtain ⟨g', e1, e2⟩ := p3 g n s 0 zF f c (by rw [el] at hn; omega) (by omega)
    refine ⟨g', ?_, by rw [ec]; exact yM_UE e2, (e2.2.1.1 _ _ (by decide)).trans w1, (e2.2.1.1 _ _ (by decide)).trans w2, (e2.2.1.1 _ _ (by decide)).trans c.2.2.1⟩
    rw [f.2.1 72 (by decide), mk, if_neg (by decide)]
    unfold f_Mo_ladderCode
    rw [if_pos (zi_in (by omega) hbn), nI_clamp (by omega), f.2.1 76 (by decide)]
    exact e1
end YXB
