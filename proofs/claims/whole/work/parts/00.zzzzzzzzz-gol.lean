/-! The machine: the model's loop over instructions. -/
section YNL
variable {X Y : Nat → Nat} {kb : Nat → yK} {pl : Nat → Nat} {tm : Nat → Nat → (Nat → Int32) → Nat → Int32} {U : Nat → Nat → yE → yE × Nat} {R : zs_H → Int32 → Int32 → Option zs_H} {B : Nat → Nat} {b base lo j s0 sz lv n d2 : Nat} {g g0 : zs_H} {i : yI} {c : Nat → Int32} {S S0 : List Int32} {st : zs_H → Int32 → Int32 → Int32 → Option (Int32 × zs_H)}
theorem yN_cf (f : zfr yN_F yN_M [] g0 g) (C : yD_c b s0 sz g0) : yD_c b s0 sz g := ⟨C.1, C.2.1, by rw [f.2.1 _ (by decide)]; exact C.2.2.1, by rw [f.2.1 _ (by decide)]; exact C.2.2.2⟩
theorem yN_mf {k : yJ} {q : Nat} (f : zfr yN_F yN_M [] g0 g) (m : yM_m s0 g0 q k) : yM_m s0 g q k := by
  unfold yM_m at m ⊢
  rw [f.2.1 _ (by decide), f.2.1 _ (by decide), f.2.1 _ (by decide), f.2.1 _ (by decide), f.2.1 _ (by decide)]
  exact m
theorem yN_go {N : Nat} (C : yD_c b s0 sz g) (hj : j < sz) (m : yM_m s0 g (s0 + j) (i, lv)) (ho : i.1 < 19) (hs : yN_s g (c, S, n)) (ht : yo_t i.1 ≤ S.length) : f_Mo_go_L2 st (N + 1) g (nI b) (nI base) (nI j) = zd_B (st (yN_g g (n + 1) (S.length - yo_t i.1)) (nI b) (nI j) (nI base)) (fun v h => f_Mo_go_L2 st N h (nI b) (nI base) v) := by
  have key : ∀ o : Fin 19, zt_6.getD o.1 0 = nI (yo_t o.1) := by decide
  obtain ⟨c1, c2, c3, c4⟩ := id C
  obtain ⟨_, q2, _, q4, q5⟩ := hs
  have q2' : (g.1 68 76) = nI S.length := q2
  have q4' : (g.1 68 74) = nI n := q4
  have m1 : (g.2.1 104) (s0 + j) = nI i.1 := m.1
  have k1 : zt_6.getD i.1 0 = nI (yo_t i.1) := key ⟨i.1, ho⟩
  show f_Mo_go_2 st (f_Mo_go_L2 st N) g (nI b) (nI base) (nI j) = _
  unfold f_Mo_go_2
  rw [yV_sz C, Option.bind_some, if_neg (mt (nI_leI (by omega) (by omega)).mp (by omega)), if_pos q5, if_pos (zi_in (by omega) (by omega)), nI_clamp (n := b) (by omega), c3, nI_add, if_pos (zi_in (by omega) (by omega)), nI_clamp (n := s0 + j) (by omega), m1, if_pos (zi_in (by omega) ho), nI_clamp (n := i.1) (by omega), k1, q2', q4', show nI n + 1 = nI (n + 1) from zc_ad 1 n, zi_sub ht]
  rfl
theorem yN_end {N q : Nat} (C : yD_c b s0 sz g) (h : ¬ (g.1 68 75) = 0) : f_Mo_go_L2 st (N + 1) g (nI b) (nI base) (nI q) = some g := by
  show f_Mo_go_2 st (f_Mo_go_L2 st N) g (nI b) (nI base) (nI q) = _
  unfold f_Mo_go_2
  rw [yV_sz C, Option.bind_some, if_neg h, ite_self]
/-- straight code: k turns of the loop -/
theorem yN_L (G : yG_h X Y kb pl tm B b base U) (H : yN_h X Y kb pl tm b base U R g0) (C : yD_c b s0 sz g0) (h0 : S0.length + 64 * (b + 1) ≤ 1088) (hY : Y b ≤ lo) : ∀ (L : List yI) (A : List Int32) (j n : Nat) (c : Nat → Int32) (g : zs_H), zfr yN_F yN_M [] g0 g → yN_s g (c, A ++ S0, n) → yS_g kb b base c → (∀ k i, L[k]? = some i → ∃ lv, yM_m s0 g0 (s0 + j + k) (i, lv)) → j + L.length ≤ sz → (∀ i, i ∈ L → yw_i X Y kb b lo i) → yo_h A.length L = some d2 → A.length ≤ 64 → yH_d A.length L = false → ∃ g' k, zfr yN_F yN_M [] g g' ∧ yN_o g' (yE_L pl tm U base L (c, A ++ S0, n)) ∧ n + k ≤ (yE_L pl tm U base L (c, A ++ S0, n)).1.2.2 ∧ ((yE_L pl tm U base L (c, A ++ S0, n)).2 = 0 → ∀ N, f_Mo_go_L2 (g_Mo_step R) (N + k) g (nI b) (nI base) (nI j) = f_Mo_go_L2 (g_Mo_step R) N g' (nI b) (nI base) (nI (j + L.length))) ∧ (¬ (yE_L pl tm U base L (c, A ++ S0, n)).2 = 0 → ∀ N, f_Mo_go_L2 (g_Mo_step R) (N + 1 + k) g (nI b) (nI base) (nI j) = some g') := by
  intro L
  induction L with
  | nil =>
    intro A j n c g f hs _ _ _ _ _ _ _
    exact ⟨g, 0, zfr_rfl, yN_so hs, Nat.le_refl _, fun _ _ => rfl, fun z => absurd rfl z⟩
  | cons i L ih =>
    intro A j n c g f hs gd K hj W e ha hd
    have hj' : j + (L.length + 1) ≤ sz := hj
    have Wi := W i (List.mem_cons_self ..)
    have ht : yo_t i.1 ≤ A.length := by
      rcases Nat.lt_or_ge A.length (yo_t i.1) with z | z
      · rw [yo_h, if_neg (by omega)] at e; cases e
      · exact z
    rw [yo_h, if_pos ht] at e
    rw [yH_d, Bool.or_eq_false_iff, decide_eq_false_iff_not] at hd
    have oi := yP_wo (b := b) (by have := H.1; omega) Wi
    have o19 : i.1 < 19 := by have := oi.1; omega
    have lA : (A ++ S0).length = A.length + S0.length := List.length_append
    have C1 := yN_cf f C
    obtain ⟨lv, m0⟩ := K 0 i rfl
    have mm : yM_m s0 g (s0 + j) (i, lv) := yN_mf f m0
    have hb : yN_b g b s0 j lv i c (A ++ S0) := ⟨⟨by have := H.1; omega, C1.2.2.1, by have := C.2.1; omega, mm⟩, hs.1, hs.2.2.1, hs.2.2.2.2, by omega⟩
    obtain ⟨g1, a1, a2, a3⟩ := yN_any (n := n) H f hb Wi (by omega) (by omega) gd
    have C2 := yN_cf a2 C1
    obtain ⟨o1, o2, o3, _⟩ := yG_1 (tm := tm) G.1 ⟨G.2.1.1, G.2.1.2 b (Nat.le_refl _)⟩ G.2.2.1 G.2.2.2.2.2.1 G.2.2.2.2.2.2 Wi A S0 c n ht
    have o3' : n + 1 ≤ (yE_1 pl tm U base i (c, A ++ S0, n)).1.2.2 := o3
    have stp : ∀ N, f_Mo_go_L2 (g_Mo_step R) (N + 1) g (nI b) (nI base) (nI j) = f_Mo_go_L2 (g_Mo_step R) N g1 (nI b) (nI base) (nI (j + 1)) := fun N => by
      rw [yN_go C1 (by omega) mm o19 hs (by omega), a1]
      rfl
    rw [yE_L]
    by_cases z : (yE_1 pl tm U base i (c, A ++ S0, n)).2 = 0
    · rw [if_pos z]
      obtain ⟨A', b1, b2⟩ := o2 z
      have es : (yE_1 pl tm U base i (c, A ++ S0, n)).1 = ((yE_1 pl tm U base i (c, A ++ S0, n)).1.1, A' ++ S0, (yE_1 pl tm U base i (c, A ++ S0, n)).1.2.2) := by rw [← b1]
      have hs1 := a3.1 z
      have gd1 := yS_1 H.2.2.2.2.2.2 hY Wi (c, A ++ S0, n) gd
      rw [es] at hs1 ⊢
      rw [← b2] at e hd
      obtain ⟨g2, k, d1, d2', d3, d4, d5⟩ := ih A' (j + 1) _ _ g1 (zfr_trans f a2) hs1 gd1 (fun k i' e' => by have := K (k + 1) i' e'; rwa [show s0 + j + (k + 1) = s0 + (j + 1) + k by omega] at this) (by omega) (fun i hi => W i (List.mem_cons_of_mem _ hi)) e (by omega) hd.2
      refine ⟨g2, k + 1, zfr_trans a2 d1, d2', Nat.le_trans (show n + (k + 1) ≤ (n + 1) + k by omega) (Nat.le_trans (Nat.add_le_add_right o3' k) d3), fun q N => ?_, fun q N => ?_⟩
      · rw [show N + (k + 1) = (N + k) + 1 by omega, stp, d4 q N, show j + 1 + L.length = j + (i :: L).length by rw [List.length_cons]; omega]
      · rw [show N + 1 + (k + 1) = (N + 1 + k) + 1 by omega, stp, d5 q N]
    · rw [if_neg z]
      have sp : ¬ (g1.1 68 75) = 0 := by
        rw [(a3.2 (o1.resolve_left z)).1]
        split
        · exact (show ¬ (-3 : Int32) = 0 by decide)
        · exact (show ¬ (-4 : Int32) = 0 by decide)
      refine ⟨g1, 1, a2, a3, o3', fun q => absurd q z, fun _ N => ?_⟩
      rw [stp (N + 1)]
      exact yN_end C2 sp
end YNL
