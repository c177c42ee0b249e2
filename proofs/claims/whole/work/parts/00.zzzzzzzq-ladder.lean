/-! The coder: all rungs of a ladder, on both sides. -/
def yu_ll (pw : Nat) : List (List (List yT) × Nat) → List yI
  | [] => []
  | a :: gs => yu_rg pw (yu_q a.1) a.1.length a.2 ++ yu_ll pw gs
section YUS
variable {LC LM : List (List Int32)} {nb b sz : Nat} {F Fb X Y : Nat → Nat} {h0 g0 : zs_H} {P Q : Nat → Prop}
theorem yu_lad (C : yj_cx LC LM nb b sz F Fb X Y h0 g0 P) {pw : Nat} (hpw : pw < 100000) (ex : (g0.2.1 88) b = nI (pw + 156)) : ∀ (t : zt_T), zg_ok t → ¬ zg_run 22 0 t = 99 → zg_ru t → ∀ (ow : Nat) (Qm : Nat → Prop) (up x x' y : Int32), yb_F Fb b h0 g0 P Q t x x' (-1) (-1) → zt_M LC LM g0 t Qm up x' y → yg_G 1 g0 Q ow t x' → ∃ gs : List (List (List yT) × Nat), (∀ a, a ∈ gs → yu_F a.2 a.1 ∧ ∀ cs, cs ∈ a.1 → ∀ u, u ∈ cs → yu_B (yu_tb h0 b) (yq_k h0 b).2 (Y b) ow (ow + yg_c 1 t) u) ∧ (∀ (h : zs_H) (kk tt N : Nat), yC_f h0 h → (h.1 41 5) = nI kk → (h.1 47 4) = nI ow → (h.1 47 5) = nI pw → kk + 16 * zt_sz t + 1700 ≤ 80000000 → tt + zt_ln t ≤ sz → zt_ln t < N → (yu_ll pw gs).length ≤ 16 * zt_sz t ∧ ∃ h', f_Cr_codeBlock_L157 N h x (nI tt) = some h' ∧ yC_U kk (yu_ll pw gs) h h' ∧ (h'.1 47 4) = nI (ow + yg_c 1 t) ∧ (h'.1 47 6) = (h.1 47 6)) ∧ ∀ (g : zs_H) (kk s v N : Nat), yM_f g0 g → yM_c g kk s b v → kk + (yu_ll pw gs).length + 60 ≤ 80000000 → zt_ln t < N → ∃ g', f_Mo_ladderCode_L7 N g x' = some g' ∧ yM_E s kk (yv v (yu_ll pw gs)) g g' := by
  have key : ∀ r ∈ zg_R, r.1 = 22 → r.2 = (0, [23], 0) := by decide +kernel
  have hsz := C.2.2.2.2.1
  have hs2 := C.2.2.2.2.2
  intro t
  induction t with
  | leaf =>
    intro _ _ _ ow Qm up x x' y A _ _
    refine ⟨[], fun a ha => (by cases ha), fun h kk tt N f es ho hp hkk htt hN => ⟨Nat.zero_le _, h, ?_, ⟨es, zfr_rfl, fun _ => ⟨fun _ _ _ _ => rfl, fun k i e => by cases e⟩⟩, ho, rfl⟩, fun g kk s v N f c hkk hN => ⟨g, ?_, yM_nil c.1.1⟩⟩
    · obtain ⟨N, rfl⟩ : ∃ z, N = z + 1 := ⟨N - 1, by omega⟩
      show f_Cr_codeBlock_157 (f_Cr_codeBlock_L157 N) h x (nI tt) = _
      unfold f_Cr_codeBlock_157
      rw [A.1, if_pos (show (-1 : Int32) = -1 from rfl), ite_self]
    · obtain ⟨N, rfl⟩ : ∃ z, N = z + 1 := ⟨N - 1, by omega⟩
      show f_Mo_ladderCode_7 (f_Mo_ladderCode_L7 N) g x' = _
      unfold f_Mo_ladderCode_7
      rw [A.2, if_pos (by decide)]
  | inner kd kv o lc r _ ihr =>
    intro ⟨⟨hA, _⟩, okl, okr⟩ hr ⟨ru1, ru2⟩ ow Qm up x x' y ⟨i, k, xl, ⟨_, i2, ix⟩, ⟨_, k2, kx, _⟩, N, Al, Ar⟩ M ⟨b', _, b2, bx, _, G1, G2⟩
    obtain ⟨cs, to, m1, m2, _, m4⟩ := yj_q hr
    have k1 := key _ m1 rfl
    simp only [Prod.mk.injEq] at k1
    obtain ⟨_, e2, e3⟩ := k1
    rw [e2] at m2
    rw [e3] at m4
    have ec := List.mem_singleton.mp m2
    subst ec
    rw [if_pos rfl] at ru1
    obtain ⟨k', P1, P2, z2, ex', _, _, _, _, _, _, _, _, Ml, Mr, _⟩ := zv_hM M
    have ek : k' = k := (nI_eq (by omega) (by omega)).mp (ex'.symm.trans kx)
    subst ek
    have eb : b' = k' := (nI_eq (by omega) (by omega)).mp (bx.symm.trans kx)
    subst eb
    obtain ⟨_, n2, _⟩ := yl_pl (by decide) N
    rcases G1 with z | ⟨_, _, _, g4⟩
    · exact absurd z (by decide)
    have g4' : yg_G 1 g0 Q ow lc ((g0.2.1 76) b') := g4
    have G2' : yg_G 1 g0 Q (ow + (0 + yg_c 1 lc)) r ((g0.2.1 78) b') := G2
    rw [Nat.zero_add] at G2'
    have ecc : yg_c 1 (.inner 23 kv o lc r) = 0 + yg_c 1 lc + yg_c 1 r := rfl
    have hz0 : zt_sz (.inner 23 kv o lc r) = 1 + zt_sz lc + zt_sz r := rfl
    have hl0 : zt_ln (.inner 23 kv o lc r) = 1 + zt_ln r := rfl
    obtain ⟨rows, m, q1, q2, q3, q4⟩ := yu_one (kv := kv) (o := o) (ow := ow) C hA okl ru1 i2 k2 n2 Al Ml g4' hpw ex
    obtain ⟨gs, p1, p2, p3⟩ := ihr okr m4 ru2 _ P2 up _ _ z2 Ar Mr G2'
    have el : (yu_ll pw ((rows, m) :: gs)).length = (yu_rg pw (yu_q rows) rows.length m).length + (yu_ll pw gs).length := by
      show (yu_rg pw (yu_q rows) rows.length m ++ yu_ll pw gs).length = _
      rw [List.length_append]
    refine ⟨(rows, m) :: gs, fun a ha => ?_, fun h kk tt N f es ho hp hkk htt hN => ?_, fun g kk s v N f c hkk hN => ?_⟩
    · rw [ecc]
      rcases List.mem_cons.mp ha with z | z
      · rw [z]
        refine ⟨q1, fun cs hcs u hu => ?_⟩
        obtain ⟨a1, a2, a3⟩ := q2 cs hcs u hu
        exact ⟨a1, fun h25 h2 => by have := a2 h25 h2; omega, a3⟩
      · obtain ⟨w1, w2⟩ := p1 a z
        refine ⟨w1, fun cs hcs u hu => ?_⟩
        obtain ⟨a1, a2, a3⟩ := w2 cs hcs u hu
        exact ⟨a1, fun h25 h2 => by have := a2 h25 h2; omega, a3⟩
    · obtain ⟨N, rfl⟩ : ∃ z, N = z + 1 := ⟨N - 1, by omega⟩
      obtain ⟨c1, _, h1, c3, c4, c5, c6⟩ := q3 h kk f es ho hp (by omega)
      have f1 : yC_f h0 h1 := zfr_trans f (zfr_w c4.2.1 (by decide) (by decide) (by decide))
      obtain ⟨d1, h2, d2, d3, d4, d5⟩ := p2 h1 _ (tt + 1) N f1 c4.1 c5 ((c4.2.1.1 _ _ (by decide)).trans hp) (by omega) (by omega) (by omega)
      refine ⟨by omega, h2, ?_, yC_Uap c4 d3, by rw [d4, ecc]; exact congrArg nI (by omega), d5.trans c6⟩
      show f_Cr_codeBlock_157 (f_Cr_codeBlock_L157 N) h x (nI tt) = _
      unfold f_Cr_codeBlock_157
      rw [f.1 _ _ (by decide), hsz, if_neg (mt (nI_leI (by omega) (by omega)).mp (by omega)), ix, if_neg (zc_m1 (by omega)), c3, Option.bind_some, if_pos (zi_in (by omega) i2), nI_clamp (show i < 2147483648 by omega), nI_1, f1.2.1 18 (by decide)]
      exact d2
    · rw [el] at hkk
      obtain ⟨N, rfl⟩ : ∃ z, N = z + 1 := ⟨N - 1, by omega⟩
      have ecs : (yu_cs pw (yu_q rows) rows.length m m).length ≤ (yu_rg pw (yu_q rows) rows.length m).length := by
        unfold yu_rg; rw [List.length_append]; omega
      obtain ⟨g1, a1, a2⟩ := q4 g kk s v f c (by omega)
      have f1 := yM_fE f a2
      obtain ⟨g2, d1, d2⟩ := p3 g1 _ s v N f1 (yM_cL c a2) (by omega) (by omega)
      refine ⟨g2, ?_, yM_aL a2 d2⟩
      show f_Mo_ladderCode_7 (f_Mo_ladderCode_L7 N) g x' = _
      unfold f_Mo_ladderCode_7
      rw [kx, if_neg (nI_pos (by omega)), a1, Option.bind_some, if_pos (zi_in (by omega) k2), nI_clamp (show b' < 2147483648 by omega), f1.2.1 78 (by decide)]
      exact d1
end YUS
