/-! The coder: the statements of a body. -/
def yk_SL (h0 g0 : zs_H) (b : Nat) : zt_T → Int32 → Int32 → Nat → ys → Prop
  | .leaf, x, x', _, T => x = -1 ∧ x' = -1 ∧ T = .leaf
  | .inner kd kv o l r, x, x', ow, T => ∃ (i k : Nat) (T1 Tr : ys), T = yz_ap T1 Tr ∧ yz_st T1 ∧ (i < 32784 ∧ x = nI i ∧ (h0.2.1 13) i = nI kd) ∧ (k < 33500 ∧ x' = nI k) ∧ (kd = 12 ∨ kd = 13 ∨ kd = 15 ∨ kd = 16 ∨ kd = 19 ∨ kd = 20 ∨ kd = 21) ∧ (yk_SC h0 (zg_d l) kd i ow (yg_c 0 (.inner kd kv o l .leaf)) T1 ∧ yk_SM g0 b (zg_d l) k T1 (zg_ct 20 (.inner kd kv o l .leaf)) (zg_ct 11 (.inner kd kv o l .leaf))) ∧ ((∀ n, (yz_x T1 n).length ≤ zg_ct 20 (.inner kd kv o l .leaf)) ∧ yz_l T1 ≤ 6 * zt_sz (.inner kd kv o l .leaf)) ∧ yk_SL h0 g0 b r ((h0.2.1 18) i) ((g0.2.1 78) k) (ow + yg_c 0 (.inner kd kv o l .leaf)) Tr
/-- a body that has been coded: the class's node i, the model's node k -/
def yk_BC (h0 : zs_H) (dl i ow oc : Nat) (T : ys) : Prop := ∀ (D d n v q : Nat) (h : zs_H), yC_f h0 h → (h.1 41 5) = nI n → (h.1 47 4) = nI ow → n + yz_l T ≤ 90000000 → 2 * dl + 1 ≤ D → d + dl ≤ 240 → ∃ h', f_Cr_codeBody D h (nI i) (nI d) = some h' ∧ yC_R n v q T (ow + oc) h h'
def yk_BM (g0 : zs_H) (b dl k : Nat) (T : ys) (c20 c11 : Nat) : Prop := ∀ (D n s v q w ww : Nat) (g : zs_H), yM_f g0 g → yM_c g n s b v → (g.1 68 68) = nI w → (g.1 68 66) = nI ww → n + yz_l T ≤ 90000000 → w + c20 ≤ 4000 → ww + c11 ≤ 8400 → 2 * dl + 1 ≤ D → ∃ g', f_Mo_bodyCode D g (nI k) = some g' ∧ yM_R s n v q T w ww g g'
section YKB
variable {h0 h g0 g : zs_H} {b : Nat}
theorem yk_uB {D N : Nat} {x2 x3 x4 : Int32} : f_Cr_codeBody_L21 (f_Cr_codeCase D) (f_Cr_codeFor D) (f_Cr_codeIf D) (N + 1) h x2 x3 x4 = f_Cr_codeBody_21 (f_Cr_codeCase D) (f_Cr_codeFor D) (f_Cr_codeIf D) (f_Cr_codeBody_L21 (f_Cr_codeCase D) (f_Cr_codeFor D) (f_Cr_codeIf D) N) h x2 x3 x4 := rfl
theorem yk_ub {D N : Nat} {x2 : Int32} : f_Mo_bodyCode_L7 (f_Mo_statementCode D) (N + 1) g x2 = f_Mo_bodyCode_7 (f_Mo_statementCode D) (f_Mo_bodyCode_L7 (f_Mo_statementCode D) N) g x2 := rfl
/-- one statement, and the next ones -/
theorem yk_do1 {sz kd i d t D N : Nat} {h' : zs_H} (hsz : (h0.1 12 6) = nI sz) (hs2 : sz < 100000) (f : yC_f h0 h) (f1 : yC_f h0 h') (hi : i < 32784) (hk : (h0.2.1 13) i = nI kd) (hkd : kd = 12 ∨ kd = 13 ∨ kd = 15 ∨ kd = 16 ∨ kd = 19 ∨ kd = 20 ∨ kd = 21) (ht : t < sz) (e : yk_do kd D d h i = some h') : f_Cr_codeBody_L21 (f_Cr_codeCase D) (f_Cr_codeFor D) (f_Cr_codeIf D) (N + 1) h (nI d) (nI i) (nI t) = f_Cr_codeBody_L21 (f_Cr_codeCase D) (f_Cr_codeFor D) (f_Cr_codeIf D) N h' (nI d) ((h0.2.1 18) i) (nI (t + 1)) := by
  have f' : ∀ a, ¬ a ∈ yC_M → h.2.1 a = h0.2.1 a := fun a ha => f.2.1 a ha
  have e176 : f_Cr_codeBody_176 (f_Cr_codeCase D) (f_Cr_codeFor D) (f_Cr_codeIf D) (f_Cr_codeBody_L21 (f_Cr_codeCase D) (f_Cr_codeFor D) (f_Cr_codeIf D) N) h' (nI d) (nI i) (nI t) = f_Cr_codeBody_L21 (f_Cr_codeCase D) (f_Cr_codeFor D) (f_Cr_codeIf D) N h' (nI d) ((h0.2.1 18) i) (nI (t + 1)) := by
    unfold f_Cr_codeBody_176
    rw [if_pos (zi_in (by omega) hi), nI_clamp (show i < 2147483648 by omega), f1.2.1 18 (by decide), nI_1]
  rw [yk_uB]
  unfold f_Cr_codeBody_21
  rw [f.1 _ _ (by decide), hsz, if_neg (mt (nI_leI (by omega) (by omega)).mp (by omega)), if_neg (zc_m1 (by omega)), if_pos (zi_in (by omega) hi), nI_clamp (show i < 2147483648 by omega), f' 13 (by decide), hk, nI_1]
  unfold yk_do at e
  rcases hkd with rfl | rfl | rfl | rfl | rfl | rfl | rfl
  · rw [if_pos rfl] at e
    rw [if_pos (by decide), e, Option.bind_some, e176]
  · rw [if_neg (by decide), if_pos rfl] at e
    rw [if_neg (by decide), if_pos (by decide), e, Option.bind_some, e176]
  · rw [if_neg (by decide), if_neg (by decide), if_pos rfl] at e
    rw [if_neg (by decide), if_neg (by decide), if_pos (by decide), e, Option.bind_some, e176]
  · rw [if_neg (by decide), if_neg (by decide), if_neg (by decide), if_pos rfl] at e
    rw [if_neg (by decide), if_neg (by decide), if_neg (by decide), if_pos (by decide), e, Option.bind_some, e176]
  · rw [if_neg (by decide), if_neg (by decide), if_neg (by decide), if_neg (by decide), if_pos rfl] at e
    rw [if_neg (by decide), if_neg (by decide), if_neg (by decide), if_neg (by decide), if_pos (by decide), e, Option.bind_some, e176]
  · rw [if_neg (by decide), if_neg (by decide), if_neg (by decide), if_neg (by decide), if_neg (by decide), if_pos rfl] at e
    rw [if_neg (by decide), if_neg (by decide), if_neg (by decide), if_neg (by decide), if_neg (by decide), if_pos (by decide)]
    obtain ⟨v, h1, e1, e2⟩ := zd_Be e
    cases e2
    rw [e1]
    exact e176
  · rw [if_neg (by decide), if_neg (by decide), if_neg (by decide), if_neg (by decide), if_neg (by decide), if_neg (by decide)] at e
    rw [if_neg (by decide), if_neg (by decide), if_neg (by decide), if_neg (by decide), if_neg (by decide), if_neg (by decide)]
    obtain ⟨v, h1, e1, e2⟩ := zd_Be e
    cases e2
    rw [e1]
    exact e176
theorem yg_c1 {p kd : Nat} {kv : Int32 × Int32} {o : Unit} {l r : zt_T} : yg_c p (.inner kd kv o l r) = yg_c p (.inner kd kv o l .leaf) + yg_c p r := rfl
theorem zg_c1 {c kd : Nat} {kv : Int32 × Int32} {o : Unit} {l r : zt_T} : zg_ct c (.inner kd kv o l r) = zg_ct c (.inner kd kv o l .leaf) + zg_ct c r := rfl
theorem zt_s1 {kd : Nat} {kv : Int32 × Int32} {o : Unit} {l r : zt_T} : zt_sz (.inner kd kv o l r) = zt_sz (.inner kd kv o l .leaf) + zt_sz r := rfl
theorem yk_list {sz : Nat} (hsz : (h0.1 12 6) = nI sz) (hs2 : sz < 100000) : ∀ (t : zt_T) (x x' : Int32) (ow : Nat) (T : ys), yk_SL h0 g0 b t x x' ow T → yz_st T ∧ (∀ n, (yz_x T n).length ≤ zg_ct 20 t) ∧ yz_l T ≤ 6 * zt_sz t ∧ (∀ (D d n v q tt N : Nat) (h : zs_H), yC_f h0 h → (h.1 41 5) = nI n → (h.1 47 4) = nI ow → n + yz_l T ≤ 90000000 → 2 * zg_d t ≤ D → d + zg_d t ≤ 240 → tt + zt_ln t ≤ sz → zt_ln t < N → ∃ h', f_Cr_codeBody_L21 (f_Cr_codeCase D) (f_Cr_codeFor D) (f_Cr_codeIf D) N h (nI d) x (nI tt) = some h' ∧ yC_R n v q T (ow + yg_c 0 t) h h') ∧ (∀ (D n s v q w ww N : Nat) (g : zs_H), yM_f g0 g → yM_c g n s b v → (g.1 68 68) = nI w → (g.1 68 66) = nI ww → n + yz_l T ≤ 90000000 → w + zg_ct 20 t ≤ 4000 → ww + zg_ct 11 t ≤ 8400 → 2 * zg_d t ≤ D → zt_ln t < N → ∃ g', f_Mo_bodyCode_L7 (f_Mo_statementCode D) N g x' = some g' ∧ yM_R s n v q T w ww g g') := by
  intro t
  induction t with
  | leaf =>
    intro x x' ow T ⟨e1, e2, e3⟩
    subst e3
    refine ⟨trivial, fun n => Nat.zero_le _, Nat.zero_le _, fun D d n v q tt N h f e ho hn hD hd ht hN => ?_, fun D n s v q w ww N g f c hl hw hn _ _ hD hN => ?_⟩
    · obtain ⟨N, rfl⟩ : ∃ z, N = z + 1 := ⟨N - 1, by have : zt_ln .leaf = 0 := rfl; omega⟩
      refine ⟨h, ?_, yC_Rn ho e⟩
      rw [yk_uB, e1]
      unfold f_Cr_codeBody_21
      rw [if_pos (show (-1 : Int32) = -1 from rfl), ite_self]
    · obtain ⟨N, rfl⟩ : ∃ z, N = z + 1 := ⟨N - 1, by have : zt_ln .leaf = 0 := rfl; omega⟩
      refine ⟨g, ?_, yM_Rn hl c.1.1⟩
      rw [yk_ub, e2]
      unfold f_Mo_bodyCode_7
      rw [if_pos (by decide)]
  | inner kd kv o l r _ ihr =>
    intro x x' ow T ⟨i, k, T1, Tr, eT, sT, ⟨i1, i2, i3⟩, ⟨k1, k2⟩, hkd, ⟨SC, SM⟩, ⟨nx, nl⟩, R⟩
    have hd0 : max (zg_d l + 1) (zg_d r) ≤ zg_d (.inner kd kv o l r) := zg_d1
    have hl0 : zt_ln (.inner kd kv o l r) = 1 + zt_ln r := rfl
    obtain ⟨r1, r2, r3, r4, r5⟩ := ihr _ _ _ _ R
    subst eT
    have hL := yz_apl T1 Tr sT
    refine ⟨yz_stap _ _ sT r1, fun n => ?_, ?_, fun D d n v q tt N h f e ho hn hD hd ht hN => ?_, fun D n s v q w ww N g f c hl hw hn h20 h11 hD hN => ?_⟩
    · rw [yz_apx _ _ _ sT, List.length_append, zg_c1]
      have := nx n
      have := r2 (n + yz_l T1)
      omega
    · rw [hL, zt_s1]; omega
    · rw [hL] at hn
      obtain ⟨N, rfl⟩ : ∃ z, N = z + 1 := ⟨N - 1, by omega⟩
      obtain ⟨h1, a1, a2⟩ := SC D d n v q h f e ho (by omega) (by omega) (by omega)
      obtain ⟨f1, e1, o1⟩ := yC_Rf f a2
      obtain ⟨h2, b1, b2⟩ := r4 D d _ v q (tt + 1) N h1 f1 e1 o1 (by omega) (by omega) (by omega) (by omega) (by omega)
      refine ⟨h2, ?_, ?_⟩
      · rw [i2, yk_do1 hsz hs2 f f1 i1 i3 hkd (by omega) a1, b1]
      · rw [yg_c1, ← Nat.add_assoc]
        exact yC_Rap sT a2 b2
    · rw [hL] at hn
      rw [zg_c1] at h20 h11
      obtain ⟨N, rfl⟩ : ∃ z, N = z + 1 := ⟨N - 1, by omega⟩
      obtain ⟨g1, a1, a2⟩ := SM D n s v q w ww g f c hl hw (by omega) (by omega) (by omega) (by omega)
      obtain ⟨f1, c1, l1, w1⟩ := yM_Rf f c a2
      have nx1 := nx n
      obtain ⟨g2, b1, b2⟩ := r5 D _ s v q _ ww N g1 f1 c1 l1 (w1.trans hw) (by omega) (by omega) (by omega) (by omega) (by omega)
      refine ⟨g2, ?_, yM_Rap sT hw a2 b2⟩
      rw [yk_ub, k2]
      unfold f_Mo_bodyCode_7
      rw [if_neg (nI_pos (by omega)), a1, Option.bind_some, if_pos (zi_in (by omega) k1), nI_clamp (show k < 2147483648 by omega), f1.2.1 78 (by decide)]
      exact b1
/-- a body -/
theorem yk_body {sz i k ow : Nat} {t : zt_T} {T : ys} (hsz : (h0.1 12 6) = nI sz) (hs2 : sz < 100000) (hi : i < 32784) (hk : k < 33500) (hln : zt_ln t ≤ sz) (H : yk_SL h0 g0 b t ((h0.2.1 17) i) ((g0.2.1 76) k) ow T) : yk_BC h0 (zg_d t) i ow (yg_c 0 t) T ∧ yk_BM g0 b (zg_d t) k T (zg_ct 20 t) (zg_ct 11 t) ∧ yz_st T ∧ (∀ n, (yz_x T n).length ≤ zg_ct 20 t) ∧ yz_l T ≤ 6 * zt_sz t := by
  have hz := zF_big
  obtain ⟨r1, r2, r3, r4, r5⟩ := yk_list hsz hs2 t _ _ ow T H
  refine ⟨fun D d n v q h f e ho hn hD hd => ?_, fun D n s v q w ww g f c hl hw hn h20 h11 hD => ?_, r1, r2, r3⟩
  · obtain ⟨D, rfl⟩ : ∃ z, D = z + 1 := ⟨D - 1, by omega⟩
    obtain ⟨h', a1, a2⟩ := r4 D d n v q 0 zF h f e ho hn (by omega) hd (by omega) (by omega)
    refine ⟨h', ?_, a2⟩
    show g_Cr_codeBody (f_Cr_codeCase D) (f_Cr_codeFor D) (f_Cr_codeIf D) h (nI i) (nI d) = _
    unfold g_Cr_codeBody
    rw [if_pos ((zc_el (k := 240) (by decide) (by omega)).mpr (by omega)), if_pos (zi_in (by omega) hi), nI_clamp (show i < 2147483648 by omega), f.2.1 17 (by decide)]
    exact a1
  · obtain ⟨D, rfl⟩ : ∃ z, D = z + 1 := ⟨D - 1, by omega⟩
    obtain ⟨g', a1, a2⟩ := r5 D n s v q w ww zF g f c hl hw hn h20 h11 (by omega) (by omega)
    refine ⟨g', ?_, a2⟩
    show g_Mo_bodyCode (f_Mo_statementCode D) g (nI k) = _
    unfold g_Mo_bodyCode
    rw [if_pos (zi_in (by omega) hk), nI_clamp (show k < 2147483648 by omega), f.2.1 76 (by decide)]
    exact a1
end YKB
