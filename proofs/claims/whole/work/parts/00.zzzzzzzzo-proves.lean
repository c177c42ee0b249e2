/-! The prover: the loop over all units, on both sides. -/
section YVQ
variable {X Y : Nat → Nat} {h0 g0 h1 g1 : zs_H} {T : Nat → ys} {nb bu : Nat} {pl : Nat → Int32}
theorem yV_cl (hn : nb ≤ 16) (h1n : 0 < nb) (hbu : bu ≤ 100000) (S4 : yx_S T nb ≤ 4000) (P : yx_PC h0 T nb h1) (U : ∀ b, b < nb → yx_T X Y h0 b (T b)) (pr : (h0.1 20 19) = nI (8 + nb)) (L : ∀ j, j < nb → ∃ i, i < 32784 ∧ (h0.2.1 22) (9 + j) = nI i ∧ (h0.2.1 15) i = pl j) : ∀ (m b N : Nat) (h : zs_H), b + m = nb → m + 1 < N → zfr yV_CF yV_CM yV_CL h1 h → (h.1 0 2) = 0 → (∀ u, u < b → h.2.1 52 u = yV_c (yV_b T u) ∧ yV_le 1000000000 (yV_b T u) = true) → ∃ h', f_Pk_proveAll_L2 N h (nI bu) (nI b) = some h' ∧ zfr yV_CF yV_CM yV_CL h1 h' ∧ (h'.1 0 2) = nI (yV_f T bu m b).1 ∧ (h'.1 0 3) = (if (yV_f T bu m b).1 = 0 then (h.1 0 3) else pl (yV_f T bu m b).2) ∧ ((yV_f T bu m b).1 = 0 → ∀ u, u < nb → h'.2.1 52 u = yV_c (yV_b T u) ∧ yV_le 1000000000 (yV_b T u) = true) := by
  have nd : ∀ (h : zs_H), zfr yV_CF yV_CM yV_CL h1 h → ∀ j, j < nb → ∃ i, i < 32784 ∧ (h.2.1 22) (9 + j) = nI i ∧ (h.2.1 15) i = pl j := fun h f j hj => by
    obtain ⟨i, i1, i2, i3⟩ := L j hj
    exact ⟨i, i1, by rw [f.2.1 _ (by decide), P.1.2.1 _ (by decide)]; exact i2, by rw [f.2.1 _ (by decide), P.1.2.1 _ (by decide)]; exact i3⟩
  -- behind a fault
  have stop : ∀ (N b : Nat) (h : zs_H), ¬ (h.1 0 2) = 0 → f_Pk_proveAll_L2 (N + 1) h (nI bu) (nI b) = some h := fun N b h e => by
    show f_Pk_proveAll_2 (f_Pk_proveAll_L2 N) h (nI bu) (nI b) = _
    unfold f_Pk_proveAll_2 f_Pk_proveAll_58
    rw [if_neg e, if_neg e, ite_self]
  intro m
  induction m with
  | zero =>
    intro b N h hb hN f e0 hB
    obtain ⟨N, rfl⟩ : ∃ z, N = z + 1 := ⟨N - 1, by omega⟩
    have eb : b = nb := hb
    subst eb
    have un : (h.1 41 6) = nI b := (f.1 _ _ (by decide)).trans P.2.2.1
    have pg : (h.1 20 19) = nI (8 + b) := (f.1 _ _ (by decide)).trans ((P.1.1 _ _ (by decide)).trans pr)
    have e1 : f_Pk_proveAll_L2 (N + 1) h (nI bu) (nI b) = (if yV_le bu (yV_b T (b - 1)) = true then some h else some (zs_uF (zs_uF h 0 2 53) 0 3 (pl (b - 1)))) := by
      show f_Pk_proveAll_2 (f_Pk_proveAll_L2 N) h (nI bu) (nI b) = _
      unfold f_Pk_proveAll_2 f_Pk_proveAll_58
      obtain ⟨i, i1, i2, i3⟩ := nd h f (b - 1) (by omega)
      rw [show 9 + (b - 1) = 8 + b by omega] at i2
      rw [un, if_pos ((nI_leI (by omega) (by omega)).mpr (Nat.le_refl _)), if_pos e0, pg, show nI (8 + b) - 9 = nI (b - 1) by rw [show nI (8 + b) - 9 = nI (8 + b - 9) from zi_sub (b := 9) (by omega), show 8 + b - 9 = b - 1 by omega], if_pos (zi_in (by omega) (by omega)), nI_clamp (n := b - 1) (by omega), (hB (b - 1) (by omega)).1]
      by_cases z : yV_le bu (yV_b T (b - 1)) = true
      · rw [if_pos ((yV_bu (hB (b - 1) (by omega)).2 hbu).1.mpr z), if_pos z]
      · rw [if_neg (mt (yV_bu (hB (b - 1) (by omega)).2 hbu).1.mp z), if_neg z, if_pos (zi_in (by omega) (by omega)), nI_clamp (n := 8 + b) (by omega), i2, if_pos (zi_in (by omega) i1), nI_clamp (n := i) (by omega), i3]
        rfl
    have ef : yV_f T bu 0 b = if yV_le bu (yV_b T (b - 1)) = true then (0, 0) else (53, b - 1) := rfl
    rw [e1, ef]
    by_cases z : yV_le bu (yV_b T (b - 1)) = true
    · rw [if_pos z, if_pos z]
      exact ⟨h, rfl, f, e0, (if_pos rfl).symm, fun _ => hB⟩
    · rw [if_neg z, if_neg z]
      exact ⟨_, rfl, zfr_F (by decide) (zfr_F (by decide) f), rfl, rfl, fun q => absurd q (show ¬ (53 : Nat) = 0 by decide)⟩
  | succ m ih =>
    intro b N h hb hN f e0 hB
    obtain ⟨N, rfl⟩ : ∃ z, N = z + 1 := ⟨N - 1, by omega⟩
    have un : (h.1 41 6) = nI nb := (f.1 _ _ (by decide)).trans P.2.2.1
    obtain ⟨h2, a1, a2, a3⟩ := yV_pC hn (show b < nb by omega) S4 P f (U b (by omega)) hB
    have f2 : zfr yV_CF yV_CM yV_CL h1 h2 := zfr_trans f (zfr_w a2 (by decide) (by decide) (by decide))
    obtain ⟨i, i1, i2, i3⟩ := nd h2 f2 b (by omega)
    have e1 : ∀ v, f_Pv_prove h (nI b) = some (v, h2) → f_Pk_proveAll_L2 (N + 1) h (nI bu) (nI b) = f_Pk_proveAll_L2 N (if v = 0 then h2 else zs_uF (zs_uF h2 0 2 v) 0 3 (pl b)) (nI bu) (nI (b + 1)) := fun v ev => by
      show f_Pk_proveAll_2 (f_Pk_proveAll_L2 N) h (nI bu) (nI b) = _
      unfold f_Pk_proveAll_2
      rw [un, if_neg (mt (nI_leI (by omega) (by omega)).mp (by omega)), if_pos e0]
      refine (congrArg (fun z => zd_B z _) ev).trans ?_
      show (if zd_in (9 + nI b) 629 then _ else none) = _
      rw [show (9 : Int32) + nI b = nI (9 + b) from zc_da 9 b, if_pos (zi_in (by omega) (by omega)), nI_clamp (n := 9 + b) (by omega), i2, if_pos (zi_in (by omega) i1), nI_clamp (n := i) (by omega), i3, show nI b + 1 = nI (b + 1) from zc_ad 1 b]
      unfold f_Pk_note
      by_cases z : v = 0
      · rw [if_pos z, if_pos z]; rfl
      · rw [if_neg z, if_neg z]; rfl
    have ef : yV_f T bu (m + 1) b = if yH_D (T b) true = true then (51, b) else if yV_le 1000000000 (yV_b T b) = true then yV_f T bu m (b + 1) else (52, b) := rfl
    rw [ef]
    obtain ⟨N, rfl⟩ : ∃ z, N = z + 1 := ⟨N - 1, by omega⟩
    by_cases z : yH_D (T b) true = true
    · rw [if_pos z] at a1 ⊢
      rw [e1 51 a1, if_neg (by decide)]
      exact ⟨_, stop N _ _ (show ¬ (51 : Int32) = 0 by decide), zfr_F (by decide) (zfr_F (by decide) f2), rfl, rfl, fun q => absurd q (show ¬ (51 : Nat) = 0 by decide)⟩
    · rw [if_neg z] at a1 ⊢
      by_cases y : yV_le 1000000000 (yV_b T b) = true
      · rw [if_pos y] at a1 ⊢
        rw [e1 0 a1, if_pos rfl]
        have nz : yH_D (T b) true = false := by cases q : yH_D (T b) true with
          | true => exact absurd q z
          | false => rfl
        obtain ⟨h3, b1, b2, b3, b4, b5⟩ := ih (b + 1) (N + 1) h2 (by omega) (by omega) f2 ((a2.1 _ _ (by decide)).trans e0) (fun u hu => ⟨a3 nz y u hu, by
          by_cases q : u = b
          · rw [q]; exact y
          · exact (hB u (by omega)).2⟩)
        exact ⟨h3, b1, b2, b3, by rw [b4, a2.1 _ _ (by decide)], b5⟩
      · rw [if_neg y] at a1 ⊢
        rw [e1 52 a1, if_neg (by decide)]
        exact ⟨_, stop N _ _ (show ¬ (52 : Int32) = 0 by decide), zfr_F (by decide) (zfr_F (by decide) f2), rfl, rfl, fun q => absurd q (show ¬ (52 : Nat) = 0 by decide)⟩
theorem yV_ml (hn : nb ≤ 16) (h1n : 0 < nb) (hbu : bu ≤ 100000) (S4 : yx_S T nb ≤ 4000) (P : yx_PM g0 T nb g1) (pe : (g1.2.1 103) nb = nI (yx_S T nb)) (U : ∀ b, b < nb → yx_T X Y h0 b (T b)) (bl : (g0.1 68 33) = nI nb) (L : ∀ j, j < nb → ∃ k, k < 33500 ∧ (g0.2.1 84) j = nI k ∧ (g0.2.1 73) k = pl j) : ∀ (m b N : Nat) (g : zs_H), b + m = nb → m + 1 < N → zfr yV_MF yV_MM yV_ML g1 g → (g.1 68 80) = 0 → (∀ u, u < b → g.2.2 109 u = yV_m (yV_b T u) ∧ yV_le 1000000000 (yV_b T u) = true) → ∃ g', f_Mo_load_L90 N g (nI bu) (nI b) = f_Mo_load_226 g' ∧ zfr yV_MF yV_MM yV_ML g1 g' ∧ (g'.1 68 80) = nI (yV_f T bu m b).1 ∧ (g'.1 68 81) = (if (yV_f T bu m b).1 = 0 then (g.1 68 81) else pl (yV_f T bu m b).2) ∧ ((yV_f T bu m b).1 = 0 → ∀ u, u < nb → g'.2.2 109 u = yV_m (yV_b T u) ∧ yV_le 1000000000 (yV_b T u) = true) := by
  have nd : ∀ (g : zs_H), zfr yV_MF yV_MM yV_ML g1 g → ∀ j, j < nb → ∃ k, k < 33500 ∧ (g.2.1 84) j = nI k ∧ (g.2.1 73) k = pl j := fun g f j hj => by
    obtain ⟨i, i1, i2, i3⟩ := L j hj
    exact ⟨i, i1, by rw [f.2.1 _ (by decide), P.1.2.1 _ (by decide)]; exact i2, by rw [f.2.1 _ (by decide), P.1.2.1 _ (by decide)]; exact i3⟩
  have stop : ∀ (N b : Nat) (g : zs_H), ¬ (g.1 68 80) = 0 → f_Mo_load_L90 (N + 1) g (nI bu) (nI b) = f_Mo_load_226 g := fun N b g e => by
    show f_Mo_load_90 (f_Mo_load_L90 N) g (nI bu) (nI b) = _
    unfold f_Mo_load_90 f_Mo_load_180
    rw [if_neg e, if_neg e, ite_self]
  intro m
  induction m with
  | zero =>
    intro b N g hb hN f e0 hB
    obtain ⟨N, rfl⟩ : ∃ z, N = z + 1 := ⟨N - 1, by omega⟩
    have eb : b = nb := hb
    subst eb
    have un : (g.1 68 33) = nI b := (f.1 _ _ (by decide)).trans ((P.1.1 _ _ (by decide)).trans bl)
    have e1 : f_Mo_load_L90 (N + 1) g (nI bu) (nI b) = (if yV_le bu (yV_b T (b - 1)) = true then f_Mo_load_226 g else f_Mo_load_226 (zs_uF (zs_uF g 68 80 53) 68 81 (pl (b - 1)))) := by
      show f_Mo_load_90 (f_Mo_load_L90 N) g (nI bu) (nI b) = _
      unfold f_Mo_load_90 f_Mo_load_180 f_Mo_refuse
      obtain ⟨i, i1, i2, i3⟩ := nd g f (b - 1) (by omega)
      simp only [un, if_pos ((nI_leI (show b < 2147483648 by omega) (show b < 2147483648 by omega)).mpr (Nat.le_refl b)), e0, if_true, show nI b - 1 = nI (b - 1) from zi_sub (b := 1) (by omega), if_pos (zi_in (show b - 1 < 2147483648 by omega) (show b - 1 < 16 by omega)), if_pos (zi_in (show b - 1 < 2147483648 by omega) (show b - 1 < 2100 by omega)), nI_clamp (show b - 1 < 2147483648 by omega), (hB (b - 1) (by omega)).1, i2, if_pos (zi_in (show i < 2147483648 by omega) i1), nI_clamp (show i < 2147483648 by omega), i3, Option.bind_some]
      by_cases z : yV_le bu (yV_b T (b - 1)) = true
      · rw [if_pos ((yV_bu (hB (b - 1) (by omega)).2 hbu).2.mpr z), if_pos z]
      · rw [if_neg (mt (yV_bu (hB (b - 1) (by omega)).2 hbu).2.mp z), if_neg z]
    have ef : yV_f T bu 0 b = if yV_le bu (yV_b T (b - 1)) = true then (0, 0) else (53, b - 1) := rfl
    rw [e1, ef]
    by_cases z : yV_le bu (yV_b T (b - 1)) = true
    · rw [if_pos z, if_pos z]
      exact ⟨g, rfl, f, e0, (if_pos rfl).symm, fun _ => hB⟩
    · rw [if_neg z, if_neg z]
      exact ⟨_, rfl, zfr_F (by decide) (zfr_F (by decide) f), rfl, rfl, fun q => absurd q (show ¬ (53 : Nat) = 0 by decide)⟩
  | succ m ih =>
    intro b N g hb hN f e0 hB
    obtain ⟨N, rfl⟩ : ∃ z, N = z + 1 := ⟨N - 1, by omega⟩
    have un : (g.1 68 33) = nI nb := (f.1 _ _ (by decide)).trans ((P.1.1 _ _ (by decide)).trans bl)
    obtain ⟨g2, g3, a1, a2, a3, a4⟩ := yV_pM hn (show b < nb by omega) S4 P pe f (U b (by omega)) hB
    have f2 : zfr yV_MF yV_MM yV_ML g1 g2 := zfr_trans f (zfr_w a3 (by decide) (by decide) (by decide))
    have f3 : zfr yV_MF yV_MM yV_ML g1 g3 := zfr_trans f2 (zfr_w a4 (by decide) (by decide) (by decide))
    obtain ⟨i, i1, i2, i3⟩ := nd g2 f2 b (by omega)
    obtain ⟨j, j1, j2, j3⟩ := nd g3 f3 b (by omega)
    have e1 : f_Mo_load_L90 (N + 1) g (nI bu) (nI b) = (if yH_D (T b) true = true then f_Mo_load_L90 N (zs_uF (zs_uF g2 68 80 51) 68 81 (pl b)) (nI bu) (nI (b + 1)) else if yV_le 1000000000 (yV_b T b) = true then f_Mo_load_L90 N (zs_uL g3 109 b (yP_s 1000000000000 (yV_b T b))) (nI bu) (nI (b + 1)) else f_Mo_load_L90 N (zs_uF (zs_uF (zs_uL g3 109 b (yP_s 1000000000000 (yV_b T b))) 68 80 52) 68 81 (pl b)) (nI bu) (nI (b + 1))) := by
      show f_Mo_load_90 (f_Mo_load_L90 N) g (nI bu) (nI b) = _
      unfold f_Mo_load_90 f_Mo_load_174 f_Mo_refuse
      rw [un, if_neg (mt (nI_leI (by omega) (by omega)).mp (by omega)), if_pos e0]
      refine (congrArg (fun z => zd_B z _) a1).trans ?_
      simp only [zd_B, show nI b + 1 = nI (b + 1) from zc_ad 1 b, if_pos (zi_in (show b < 2147483648 by omega) (show b < 2100 by omega)), if_pos (zi_in (show b < 2147483648 by omega) (show b < 16 by omega)), nI_clamp (show b < 2147483648 by omega), i2, if_pos (zi_in (show i < 2147483648 by omega) i1), nI_clamp (show i < 2147483648 by omega), i3, Option.bind_some, a2, j2, if_pos (zi_in (show j < 2147483648 by omega) j1), nI_clamp (show j < 2147483648 by omega), j3]
      by_cases z : yH_D (T b) true = true
      · simp only [if_pos z, show ¬ (1 : Int32) = 0 by decide, if_false]
      · simp only [if_neg z, if_true]
        by_cases y : yV_le 1000000000 (yV_b T b) = true
        · rw [if_pos y, if_pos ((yV_sl (by decide) (by decide) _).mpr y)]
        · rw [if_neg y, if_neg (mt (yV_sl (by decide) (by decide) _).mp y)]
    have ef : yV_f T bu (m + 1) b = if yH_D (T b) true = true then (51, b) else if yV_le 1000000000 (yV_b T b) = true then yV_f T bu m (b + 1) else (52, b) := rfl
    rw [e1, ef]
    obtain ⟨N, rfl⟩ : ∃ z, N = z + 1 := ⟨N - 1, by omega⟩
    by_cases z : yH_D (T b) true = true
    · rw [if_pos z, if_pos z]
      exact ⟨_, stop N _ _ (show ¬ (51 : Int32) = 0 by decide), zfr_F (by decide) (zfr_F (by decide) f2), rfl, rfl, fun q => absurd q (show ¬ (51 : Nat) = 0 by decide)⟩
    · rw [if_neg z, if_neg z]
      by_cases y : yV_le 1000000000 (yV_b T b) = true
      · rw [if_pos y, if_pos y]
        obtain ⟨g4, b1, b2, b3, b4, b5⟩ := ih (b + 1) (N + 1) (zs_uL g3 109 b (yP_s 1000000000000 (yV_b T b))) (by omega) (by omega) (zfr_L (by decide) f3) ((a4.1 _ _ (by decide)).trans ((a3.1 _ _ (by decide)).trans e0)) (fun u hu => by
          by_cases q : u = b
          · rw [q]
            exact ⟨zu_LL.trans ((if_pos ⟨rfl, rfl⟩).trans (yV_min y).2), y⟩
          · refine ⟨zu_LL.trans ((if_neg fun w => q w.2).trans ?_), (hB u (by omega)).2⟩
            rw [a4.2.2 _ (by decide), a3.2.2 _ (by decide)]
            exact (hB u (by omega)).1)
        refine ⟨g4, b1, b2, b3, ?_, b5⟩
        rw [b4]
        show (if (yV_f T bu m (b + 1)).1 = 0 then (g3.1 68 81) else _) = _
        rw [a4.1 _ _ (by decide), a3.1 _ _ (by decide)]
      · rw [if_neg y, if_neg y]
        exact ⟨_, stop N _ _ (show ¬ (52 : Int32) = 0 by decide), zfr_F (by decide) (zfr_F (by decide) (zfr_L (by decide) f3)), rfl, rfl, fun q => absurd q (show ¬ (52 : Nat) = 0 by decide)⟩
end YVQ
