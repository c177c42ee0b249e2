section
/-! The prover: the loop over all units, on both sides. -/
section YVQ
variable {X Y : Nat → Nat} {h0 g0 h1 g1 : zs_H} {T : Nat → ys} {nb bu : Nat} {pl : Nat → Int32}
theorem yV_cl (hn : nb ≤ 16) (h1n : 0 < nb) (hbu : bu ≤ 100000) (S4 : yx_S T nb ≤ 4000) (P : yx_PC h0 T nb h1) (U : ∀ b, b < nb → yx_T X Y h0 b (T b)) (pr : (h0.1 20 19) = nI (8 + nb)) (L : ∀ j, j < nb → ∃ i, i < 32784 ∧ (h0.2.1 22) (9 + j) = nI i ∧ (h0.2.1 15) i = pl j) : ∀ (m b N : Nat) (h : zs_H), b + m = nb → m + 1 < N → zfr yV_CF yV_CM yV_CL h1 h → (h.1 0 2) = 0 → (∀ u, u < b → h.2.1 52 u = yV_c (yV_b T u) ∧ yV_le 1000000000 (yV_b T u) = true) → ∃ h', f_Pk_proveAll_L2 N h (nI bu) (nI b) = some h' ∧ zfr yV_CF yV_CM yV_CL h1 h' ∧ (h'.1 0 2) = nI (yV_f T bu m b).1 ∧ (h'.1 0 3) = (if (yV_f T bu m b).1 = 0 then (h.1 0 3) else pl (yV_f T bu m b).2) ∧ ((yV_f T bu m b).1 = 0 → ∀ u, u < nb → h'.2.1 52 u = yV_c (yV_b T u) ∧ yV_le 1000000000 (yV_b T u) = true) := by
  have nd : ∀ (h : zs_H), zfr yV_CF yV_CM yV_CL h1 h → ∀ j, j < nb → ∃ i, i < 32784 ∧ (h.2.1 22) (9 + j) = nI i ∧ (h.2.1 15) i = pl j := fun h f j hj => by
    obtain ⟨i, i1, i2, i3⟩ := L j hj
    exact ⟨i, i1, by rw [f.2.1 _ (by decide), P.1.2.1 _ (by decide)]; exact i2, by rw [f.2.1 _ (by decide), P.1.2.1 _ (by decide)]; exact i3⟩
  -- behind a fault
  have stop : ∀ (N b : Nat) (h : zs_H), ¬ (h.1 0 2) = 0 → f_Pk_proveAll_L2 (N + 1) h (nI bu) (nI b) = some h := fun N b h e => by
    show f_Pk_proveAll_2 (f_Pk_proveAll_L2 N) h (nI bu) (nI b) = _
    unfold f_Pk_proveAll_2 f_Pk_proveAll_58
    rw [if_neg e, if_neg e, ite_self]
  intro m
  induction m with
  | zero =>
    intro b N h hb hN f e0 hB
    obtain ⟨N, rfl⟩ : ∃ z, N = z + 1 := ⟨N - 1, by omega⟩
    have eb : b = nb := hb
    subst eb
    have un : (h.1 41 6) = nI b := (f.1 _ _ (by decide)).trans P.2.2.1
    have pg : (h.1 20 19) = nI (8 + b) := (f.1 _ _ (by decide)).trans ((P.1.1 _ _ (by decide)).trans pr)
    have e1 : f_Pk_proveAll_L2 (N + 1) h (nI bu) (nI b) = (if yV_le bu (yV_b T (b - 1)) = true then some h else some (zs_uF (zs_uF h 0 2 53) 0 3 (pl (b - 1)))) := by
      show f_Pk_proveAll_2 (f_Pk_proveAll_L2 N) h (nI bu) (nI b) = _
      unfold f_Pk_proveAll_2 f_Pk_proveAll_58
      obtain ⟨i, i1, i2, i3⟩ := nd h f (b - 1) (by omega)
      rw [show 9 + (b - 1) = 8 + b by omega] at i2
      rw [un, if_pos ((nI_leI (by omega) (by omega)).mpr (Nat.le_refl _)), if_pos e0, pg, show nI (8 + b) - 9 = nI (b - 1) by rw [show nI (8 + b) - 9 = nI (8 + b - 9) from zi_sub (b := 9) (by omega), show 8 + b - 9 = b - 1 by omega], if_pos (zi_in (by omega) (by omega)), nI_clamp (n := b - 1) (by omega), (hB (b - 1) (by omega)).1]
      by_cases z : yV_le bu (yV_b T (b - 1)) = true
      · rw [if_pos ((yV_bu (hB (b - 1) (by omega)).2 hbu).1.mpr z), if_pos z]
      · rw [if_neg (mt (yV_bu (hB (b - 1) (by omega)).2 hbu).1.mp z), if_neg z, if_pos (zi_in (by omega) (by omega)), nI_clamp (n := 8 + b) (by omega), i2, if_pos (zi_in (by omega) i1), nI_clamp (n := i) (by omega), i3]
        rfl
    have ef : yV_f T bu 0 b = if yV_le bu (yV_b T (b - 1)) = true then (0, 0) else (53, b - 1) := rfl
    rw [e1, ef]
    by_cases z : yV_le bu (yV_b T (b - 1)) = true
    · rw [if_pos z, if_pos z]
      exact ⟨h, rfl, f, e0, (if_pos rfl).symm, fun _ => hB⟩
    · rw [if_neg z, if_neg z]
      exact ⟨_, rfl, zfr_F (by decide) (zfr_F (by decide) f), rfl, rfl, fun q => absurd q (show ¬ (53 : Nat) = 0 by decide)⟩
  | succ m ih =>
    intro b N h hb hN f e0 hB
    obtain ⟨N, rfl⟩ : ∃ z, N = z + 1 := ⟨N - 1, by omega⟩
    have un : (h.1 41 6) = nI nb := (f.1 _ _ (by decide)).trans P.2.2.1
    obtain ⟨h2, a1, a2, a3⟩ := yV_pC hn (show b < nb by omega) S4 P f (U b (by omega)) hB
    have f2 : zfr yV_CF yV_CM yV_CL h1 h2 := zfr_trans f (zfr_w a2 (by decide) (by decide) (by decide))
    obtain ⟨i, i1, i2, i3⟩ := nd h2 f2 b (by omega)
    have e1 : ∀ v, f_Pv_prove h (nI b) = some (v, h2) → f_Pk_proveAll_L2 (N + 1) h (nI bu) (nI b) = f_Pk_proveAll_L2 N (if v = 0 then h2 else zs_uF (zs_uF h2 0 2 v) 0 3 (pl b)) (nI bu) (nI (b + 1)) := fun v ev => by
      show f_Pk_proveAll_2 (f_Pk_proveAll_L2 N) h (nI bu) (nI b) = _
      unfold f_Pk_proveAll_2
      rw [un, if_neg (mt (nI_leI (by omega) (by omega)).mp (by omega)), if_pos e0]
      refine (congrArg (fun z => zd_B z _) ev).trans ?_
      show (if zd_in (9 + nI b) 629 then _ else none) = _
      rw [show (9 : Int32) + nI b = nI (9 + b) from zc_da 9 b, if_pos (zi_in (by omega) (by omega)), nI_clamp (n := 9 + b) (by omega), i2, if_pos (zi_in (by omega) i1), nI_clamp (n := i) (by omega), i3, show nI b + 1 = nI (b + 1) from zc_ad 1 b]
      unfold f_Pk_note
      by_cases z : v = 0
      · rw [if_pos z, if_pos z]; rfl
      · rw [if_neg z, if_neg z]; rfl
    have ef : yV_f T bu (m + 1) b = if yH_D (T b) true = true then (51, b) else if yV_le 1000000000 (yV_b T b) = true then yV_f T bu m (b + 1) else (52, b) := rfl
    rw [ef]
    obtain ⟨N, rfl⟩ : ∃ z, N = z + 1 := ⟨N - 1, by omega⟩
    by_cases z : yH_D (T b) true = true
    · rw [if_pos z] at a1 ⊢
      rw [e1 51 a1, if_neg (by decide)]
      exact ⟨_, stop N _ _ (show ¬ (51 : Int32) = 0 by decide), zfr_F (by decide) (zfr_F (by decide) f2), rfl, rfl, fun q => absurd q (show ¬ (51 : Nat) = 0 by decide)⟩
    · rw [if_neg z] at a1 ⊢
      by_cases y : yV_le 1000000000 (yV_b T b) = true
      · rw [if_pos y] at a1 ⊢
        rw [e1 0 a1, if_pos rfl]
        have nz : yH_D (T b) true = false := by cases q : yH_D (T b) true with
          | true => exact absurd q z
          | false => rfl
        obtain ⟨h3, b1, b2, b3, b4, b5⟩ := ih (b + 1) (N + 1) h2 (by omega) (by omega) f2 ((a2.1 _ _ (by decide)).trans e0) (fun u hu => ⟨a3 nz y u hu, by
          by_cases q : u = b
          · rw [q]; exact y
          · exact (hB u (by omega)).2⟩)
        exact ⟨h3, b1, b2, b3, by rw [b4, a2.1 _ _ (by decide)], b5⟩
      · rw [if_neg y] at a1 ⊢
        rw [e1 52 a1, if_neg (by decide)]
        exact ⟨_, stop N _ _ (show ¬ (52 : Int32) = 0 by decide), zfr_F (by decide) (zfr_F (by decide) f2), rfl, rfl, fun q => absurd q (show ¬ (52 : Nat) = 0 by decide)⟩
theorem yV_ml (hn : nb ≤ 16) (h1n : 0 < nb) (hbu : bu ≤ 100000) (S4 : yx_S T nb ≤ 4000) (P : yx_PM g0 T nb g1) (pe : (g1.2.1 103) nb = nI (yx_S T nb)) (U : ∀ b, b < nb → yx_T X Y h0 b (T b)) (bl : (g0.1 68 33) = nI nb) (L : ∀ j, j < nb → ∃ k, k < 33500 ∧ (g0.2.1 84) j = nI k ∧ (g0.2.1 73) k = pl j) : ∀ (m b N : Nat) (g : zs_H), b + m = nb → m + 1 < N → zfr yV_MF yV_MM yV_ML g1 g → (g.1 68 80) = 0 → (∀ u, u < b → g.2.2 109 u = yV_m (yV_b T u) ∧ yV_le 1000000000 (yV_b T u) = true) → ∃ g', f_Mo_load_L90 N g (nI bu) (nI b) = f_Mo_load_226 g' ∧ zfr yV_MF yV_MM yV_ML g1 g' ∧ (g'.1 68 80) = nI (yV_f T bu m b).1 ∧ (g'.1 68 81) = (if (yV_f T bu m b).1 = 0 then (g.1 68 81) else pl (yV_f T bu m b).2) ∧ ((yV_f T bu m b).1 = 0 → ∀ u, u < nb → g'.2.2 109 u = yV_m (yV_b T u) ∧ yV_le 1000000000 (yV_b T u) = true) := by
  have nd : ∀ (g : zs_H), zfr yV_MF yV_MM yV_ML g1 g → ∀ j, j < nb → ∃ k, k < 33500 ∧ (g.2.1 84) j = nI k ∧ (g.2.1 73) k = pl j := fun g f j hj => by
    obtain ⟨i, i1, i2, i3⟩ := L j hj
    exact ⟨i, i1, by rw [f.2.1 _ (by decide), P.1.2.1 _ (by decide)]; exact i2, by rw [f.2.1 _ (by decide), P.1.2.1 _ (by decide)]; exact i3⟩
  have stop : ∀ (N b : Nat) (g : zs_H), ¬ (g.1 68 80) = 0 → f_Mo_load_L90 (N + 1) g (nI bu) (nI b) = f_Mo_load_226 g := fun N b g e => by
    show f_Mo_load_90 (f_Mo_load_L90 N) g (nI bu) (nI b) = _
    unfold f_Mo_load_90 f_Mo_load_180
    rw [if_neg e, if_neg e, ite_self]
  intro m
  induction m with
  | zero =>
    intro b N g hb hN f e0 hB
    obtain ⟨N, rfl⟩ : ∃ z, N = z + 1 := ⟨N - 1, by omega⟩
    have eb : b = nb := hb
    subst eb
    have un : (g.1 68 33) = nI b := (f.1 _ _ (by decide)).trans ((P.1.1 _ _ (by decide)).trans bl)
    have e1 : f_Mo_load_L90 (N + 1) g (nI bu) (nI b) = (if yV_le bu (yV_b T (b - 1)) = true then f_Mo_load_226 g else f_Mo_load_226 (zs_uF (zs_uF g 68 80 53) 68 81 (pl (b - 1)))) := by
      show f_Mo_load_90 (f_Mo_load_L90 N) g (nI bu) (nI b) = _
      unfold f_Mo_load_90 f_Mo_load_180 f_Mo_refuse
      obtain ⟨i, i1, i2, i3⟩ := nd g f (b - 1) (by omega)
      simp only [un, if_pos ((nI_leI (show b < 2147483648 by omega) (show b < 2147483648 by omega)).mpr (Nat.le_refl b)), e0, if_true, show nI b - 1 = nI (b - 1) from zi_sub (b := 1) (by omega), if_pos (zi_in (show b - 1 < 2147483648 by omega) (show b - 1 < 16 by omega)), if_pos (zi_in (show b - 1 < 2147483648 by omega) (show b - 1 < 2100 by omega)), nI_clamp (show b - 1 < 2147483648 by omega), (hB (b - 1) (by omega)).1, i2, if_pos (zi_in (show i < 2147483648 by omega) i1), nI_clamp (show i < 2147483648 by omega), i3, Option.bind_some]
      by_cases z : yV_le bu (yV_b T (b - 1)) = true
      · rw [if_pos ((yV_bu (hB (b - 1) (by omega)).2 hbu).2.mpr z), if_pos z]
      · rw [if_neg (mt (yV_bu (hB (b - 1) (by omega)).2 hbu).2.mp z), if_neg z]
    have ef : yV_f T bu 0 b = if yV_le bu (yV_b T (b - 1)) = true then (0, 0) else (53, b - 1) := rfl
    rw [e1, ef]
    by_cases z : yV_le bu (yV_b T (b - 1)) = true
    · rw [if_pos z, if_pos z]
      exact ⟨g, rfl, f, e0, (if_pos rfl).symm, fun _ => hB⟩
    · rw [if_neg z, if_neg z]
      exact ⟨_, rfl, zfr_F (by decide) (zfr_F (by decide) f), rfl, rfl, fun q => absurd q (show ¬ (53 : Nat) = 0 by decide)⟩
  | succ m ih =>
    intro b N g hb hN f e0 hB
    obtain ⟨N, rfl⟩ : ∃ z, N = z + 1 := ⟨N - 1, by omega⟩
    have un : (g.1 68 33) = nI nb := (f.1 _ _ (by decide)).trans ((P.1.1 _ _ (by decide)).trans bl)
    obtain ⟨g2, g3, a1, a2, a3, a4⟩ := yV_pM hn (show b < nb by omega) S4 P pe f (U b (by omega)) hB
    have f2 : zfr yV_MF yV_MM yV_ML g1 g2 := zfr_trans f (zfr_w a3 (by decide) (by decide) (by decide))
    have f3 : zfr yV_MF yV_MM yV_ML g1 g3 := zfr_trans f2 (zfr_w a4 (by decide) (by decide) (by decide))
    obtain ⟨i, i1, i2, i3⟩ := nd g2 f2 b (by omega)
    obtain ⟨j, j1, j2, j3⟩ := nd g3 f3 b (by omega)
    have e1 : f_Mo_load_L90 (N + 1) g (nI bu) (nI b) = (if yH_D (T b) true = true then f_Mo_load_L90 N (zs_uF (zs_uF g2 68 80 51) 68 81 (pl b)) (nI bu) (nI (b + 1)) else if yV_le 1000000000 (yV_b T b) = true then f_Mo_load_L90 N (zs_uL g3 109 b (yP_s 1000000000000 (yV_b T b))) (nI bu) (nI (b + 1)) else f_Mo_load_L90 N (zs_uF (zs_uF (zs_uL g3 109 b (yP_s 1000000000000 (yV_b T b))) 68 80 52) 68 81 (pl b)) (nI bu) (nI (b + 1))) := by
      show f_Mo_load_90 (f_Mo_load_L90 N) g (nI bu) (nI b) = _
      unfold f_Mo_load_90 f_Mo_load_174 f_Mo_refuse
      rw [un, if_neg (mt (nI_leI (by omega) (by omega)).mp (by omega)), if_pos e0]
      refine (congrArg (fun z => zd_B z _) a1).trans ?_
      simp only [zd_B, show nI b + 1 = nI (b + 1) from zc_ad 1 b, if_pos (zi_in (show b < 2147483648 by omega) (show b < 2100 by omega)), if_pos (zi_in (show b < 2147483648 by omega) (show b < 16 by omega)), nI_clamp (show b < 2147483648 by omega), i2, if_pos (zi_in (show i < 2147483648 by omega) i1), nI_clamp (show i < 2147483648 by omega), i3, Option.bind_some, a2, j2, if_pos (zi_in (show j < 2147483648 by omega) j1), nI_clamp (show j < 2147483648 by omega), j3]
      by_cases z : yH_D (T b) true = true
      · simp only [if_pos z, show ¬ (1 : Int32) = 0 by decide, if_false]
      · simp only [if_neg z, if_true]
        by_cases y : yV_le 1000000000 (yV_b T b) = true
        · rw [if_pos y, if_pos ((yV_sl (by decide) (by decide) _).mpr y)]
        · rw [if_neg y, if_neg (mt (yV_sl (by decide) (by decide) _).mp y)]
    have ef : yV_f T bu (m + 1) b = if yH_D (T b) true = true then (51, b) else if yV_le 1000000000 (yV_b T b) = true then yV_f T bu m (b + 1) else (52, b) := rfl
    rw [e1, ef]
    obtain ⟨N, rfl⟩ : ∃ z, N = z + 1 := ⟨N - 1, by omega⟩
    by_cases z : yH_D (T b) true = true
    · rw [if_pos z, if_pos z]
      exact ⟨_, stop N _ _ (show ¬ (51 : Int32) = 0 by decide), zfr_F (by decide) (zfr_F (by decide) f2), rfl, rfl, fun q => absurd q (show ¬ (51 : Nat) = 0 by decide)⟩
    · rw [if_neg z, if_neg z]
      by_cases y : yV_le 1000000000 (yV_b T b) = true
      · rw [if_pos y, if_pos y]
        obtain ⟨g4, b1, b2, b3, b4, b5⟩ := ih (b + 1) (N + 1) (zs_uL g3 109 b (yP_s 1000000000000 (yV_b T b))) (by omega) (by omega) (zfr_L (by decide) f3) ((a4.1 _ _ (by decide)).trans ((a3.1 _ _ (by decide)).trans e0)) (fun u hu => by
          by_cases q : u = b
          · rw [q]
            exact ⟨zu_LL.trans ((if_pos ⟨rfl, rfl⟩).trans (yV_min y).2), y⟩
          · refine ⟨zu_LL.trans ((if_neg fun w => q w.2).trans ?_), (hB u (by omega)).2⟩
            rw [a4.2.2 _ (by decide), a3.2.2 _ (by decide)]
            exact (hB u (by omega)).1)
        refine ⟨g4, b1, b2, b3, ?_, b5⟩
        rw [b4]
        show (if (yV_f T bu m (b + 1)).1 = 0 then (g3.1 68 81) else _) = _
        rw [a4.1 _ _ (by decide), a3.1 _ _ (by decide)]
      · rw [if_neg y, if_neg y]
        exact ⟨_, stop N _ _ (show ¬ (52 : Int32) = 0 by decide), zfr_F (by decide) (zfr_F (by decide) (zfr_L (by decide) f3)), rfl, rfl, fun q => absurd q (show ¬ (52 : Nat) = 0 by decide)⟩
end YVQ
end
section
/-! A text is coded and proved, on both sides. -/
/-- all is proved: T, the bounds -/
def yV_Z (sz bu : Nat) (LC LM : List (List Int32)) (h0 g0 h g : zs_H) : Prop := ∃ (nb : Nat) (F X Y K : Nat → Nat) (T : Nat → ys), (0 < nb ∧ nb ≤ 16 ∧ yk_cx LC LM nb F X Y h0 g0) ∧ ((∀ j, j < nb → (K j = 1 ∨ K j = 2 ∨ K j = 3) ∧ (h0.2.1 21) (9 + j) = nI (K j) ∧ (g0.2.1 86) j = nI (K j)) ∧ yh_T nb X K h0 g0) ∧ (∀ b, b < nb → yx_T X Y h0 b (T b) ∧ yH_D (T b) true = false ∧ yV_le 1000000000 (yV_b T b) = true) ∧ yV_le bu (yV_b T (nb - 1)) = true ∧ yx_S T nb ≤ 4000 ∧ ((∀ u, u ≤ nb → (h.2.1 46) u = nI (yx_S T u)) ∧ (h.1 41 6) = nI nb ∧ (h.1 41 5) = nI (yx_S T nb) ∧ yx_AC T nb h) ∧ ((∀ u, u ≤ nb → (g.2.1 103) u = nI (yx_S T u)) ∧ (g.1 68 56) = nI (yx_S T nb) ∧ yx_AM T nb g) ∧ ∀ u, u < nb → h.2.1 52 u = yV_c (yV_b T u) ∧ g.2.2 109 u = yV_m (yV_b T u)
section YVR
theorem yV_f0 {T : Nat → ys} {bu : Nat} : ∀ (m b : Nat), (yV_f T bu m b).1 < 100 ∧ ((yV_f T bu m b).1 = 0 → (∀ u, b ≤ u → u < b + m → yH_D (T u) true = false) ∧ yV_le bu (yV_b T (b + m - 1)) = true) := by
  intro m
  induction m with
  | zero =>
    intro b
    rw [yV_f]
    by_cases z : yV_le bu (yV_b T (b - 1)) = true
    · rw [if_pos z]; exact ⟨by decide, fun _ => ⟨fun u h1 h2 => by omega, z⟩⟩
    · rw [if_neg z]; exact ⟨show (53 : Nat) < 100 by decide, fun q => absurd q (show ¬ (53 : Nat) = 0 by decide)⟩
  | succ m ih =>
    intro b
    rw [yV_f]
    by_cases z : yH_D (T b) true = true
    · rw [if_pos z]; exact ⟨show (51 : Nat) < 100 by decide, fun q => absurd q (show ¬ (51 : Nat) = 0 by decide)⟩
    rw [if_neg z]
    by_cases y : yV_le 1000000000 (yV_b T b) = true
    · rw [if_pos y]
      refine ⟨(ih (b + 1)).1, fun q => ?_⟩
      obtain ⟨a1, a2⟩ := (ih (b + 1)).2 q
      refine ⟨fun u h1 h2 => ?_, by rw [show b + (m + 1) - 1 = b + 1 + m - 1 by omega]; exact a2⟩
      by_cases w : u = b
      · rw [w]
        cases q : yH_D (T b) true with
        | true => exact absurd q z
        | false => rfl
      · exact a1 u (by omega) (by omega)
    · rw [if_neg y]; exact ⟨show (52 : Nat) < 100 by decide, fun q => absurd q (show ¬ (52 : Nat) = 0 by decide)⟩
theorem yV_all {sz bu : Nat} {LC LM : List (List Int32)} {h0 g0 h1 g1 h2 g2 : zs_H} (Z : yx_Z sz LC LM h0 g0 h1 g1) (hbu : bu ≤ 100000) (fh : zfr [(0, 2), (0, 3)] [] [] h1 h2) (fg : zfr yV_MF [] [] g1 g2) (e0 : (h2.1 0 2) = 0) (e1 : (g2.1 68 80) = 0) : ∃ (h g : zs_H) (φ : Nat) (p : Int32), f_Pk_proveAll h2 (nI bu) = some h ∧ f_Mo_load_88 g2 (nI bu) = f_Mo_load_226 g ∧ zfr yV_CF yV_CM yV_CL h1 h ∧ zfr yV_MF yV_MM yV_ML g1 g ∧ φ < 100 ∧ (h.1 0 2) = nI φ ∧ (g.1 68 80) = nI φ ∧ (h.1 0 3) = (if φ = 0 then (h2.1 0 3) else p) ∧ (g.1 68 81) = (if φ = 0 then (g2.1 68 81) else p) ∧ (φ = 0 → yV_Z sz bu LC LM h0 g0 h g) := by
  have hz := zF_big
  obtain ⟨nb, F, X, Y, K, T, ⟨n16, C⟩, ⟨KK, TT⟩, U, S4, PC, PM, pe, L⟩ := Z
  have n0 := TT.1.1
  have HB := C.1.2.1
  have pr : (h0.1 20 19) = nI (8 + nb) := by
    rw [HB.2.2.2.2.2.2.2.2.2, if_pos ⟨n0, by rw [(KK (nb - 1) (by omega)).2.2, TT.1.2]; rfl⟩]
  obtain ⟨pl, hpl⟩ : ∃ pl : Nat → Int32, pl = fun j => (h0.2.1 15) ((h0.2.1 22) (9 + j)).toNatClampNeg := ⟨_, rfl⟩
  have LCs : ∀ j, j < nb → ∃ i, i < 32784 ∧ (h0.2.1 22) (9 + j) = nI i ∧ (h0.2.1 15) i = pl j := fun j hj => by
    obtain ⟨i, k, i1, i2, i3, i4, i5⟩ := L j hj
    refine ⟨i, i1, i3, ?_⟩
    rw [hpl]
    show _ = (h0.2.1 15) ((h0.2.1 22) (9 + j)).toNatClampNeg
    rw [i3, nI_clamp (by omega)]
  have LMs : ∀ j, j < nb → ∃ k, k < 33500 ∧ (g0.2.1 84) j = nI k ∧ (g0.2.1 73) k = pl j := fun j hj => by
    obtain ⟨i, k, i1, i2, i3, i4, i5⟩ := L j hj
    refine ⟨k, i2, i4, ?_⟩
    rw [hpl, ← i5]
    show _ = (h0.2.1 15) ((h0.2.1 22) (9 + j)).toNatClampNeg
    rw [i3, nI_clamp (by omega)]
  obtain ⟨h, a1, a2, a3, a4, a5⟩ := yV_cl (bu := bu) n16 n0 hbu S4 PC U pr LCs nb 0 zF h2 (by omega) (by omega) (zfr_w fh (by decide) (by decide) (by decide)) e0 (fun u hu => absurd hu (Nat.not_lt_zero u))
  obtain ⟨g, b1, b2, b3, b4, b5⟩ := yV_ml (bu := bu) n16 n0 hbu S4 PM pe U HB.1.2.1 LMs nb 0 zF g2 (by omega) (by omega) (zfr_w fg (by decide) (by decide) (by decide)) e1 (fun u hu => absurd hu (Nat.not_lt_zero u))
  obtain ⟨c1, c2⟩ := yV_f0 (T := T) (bu := bu) nb 0
  refine ⟨h, g, (yV_f T bu nb 0).1, pl (yV_f T bu nb 0).2, a1, b1, a2, b2, c1, a3, b3, a4, b4, fun z => ?_⟩
  obtain ⟨d1, d2⟩ := c2 z
  have bg : ∀ u, u ≤ nb → (g.2.1 103) u = nI (yx_S T u) := fun u hu => by
    rw [b2.2.1 _ (by decide)]
    by_cases q : u = nb
    · rw [q]; exact pe
    · exact PM.2.2.1 u (by omega)
  refine ⟨nb, F, X, Y, K, T, ⟨n0, n16, C⟩, ⟨KK, TT⟩, fun b hb => ⟨U b hb, d1 b (Nat.zero_le _) (by omega), (a5 z b hb).2⟩, by rw [Nat.zero_add] at d2; exact d2, S4, ⟨fun u hu => by rw [a2.2.1 _ (by decide)]; exact PC.2.2.2.1 u hu, (a2.1 _ _ (by decide)).trans PC.2.2.1, (a2.1 _ _ (by decide)).trans PC.2.1, fun u hu k i e => ?_⟩, ⟨bg, (b2.1 _ _ (by decide)).trans PM.2.1, fun u hu k i e => ?_⟩, fun u hu => ⟨(a5 z u hu).1, (b5 z u hu).1⟩⟩
  · have q := PC.2.2.2.2 S4 u hu k i e
    unfold yC_m at q ⊢
    rw [a2.2.1 _ (by decide), a2.2.1 _ (by decide), a2.2.1 _ (by decide), a2.2.1 _ (by decide)]
    exact q
  · have q := PM.2.2.2.2 S4 u hu k i e
    unfold yM_m at q ⊢
    rw [b2.2.1 _ (by decide), b2.2.1 _ (by decide), b2.2.1 _ (by decide), b2.2.1 _ (by decide), b2.2.1 _ (by decide)]
    exact q
end YVR
end
section
/-! The machine: what code does, by T. -/
/-- cells, the stack (its top first), steps -/
abbrev yE : Type := (Nat → Int32) × List Int32 × Nat
def yE_u (c : Nat → Int32) (j : Nat) (v : Int32) : Nat → Int32 := fun k => if k = j then v else c k
/-- an index is none of an array's -/
abbrev yE_bad (i : yI) (x : Int32) : Prop := x.toInt64 - i.2.2.1.toInt64 < 0 ∨ ¬ x.toInt64 - i.2.2.1.toInt64 < i.2.2.2.toInt64
def yE_ix (i : yI) (x : Int32) : Nat := (x.toInt64 - i.2.2.1.toInt64).toInt32.toNatClampNeg
/-- one instruction of straight code; 0: it goes on; 3, 4: faults; 5: never -/
def yE_1 (pl : Nat → Nat) (tm : Nat → Nat → (Nat → Int32) → Nat → Int32) (U : Nat → Nat → yE → yE × Nat) (base : Nat) (i : yI) (s : yE) : yE × Nat :=
  if i.1 = 0 then ((s.1, i.2.1 :: s.2.1, s.2.2 + 1), 0)
  else if i.1 = 1 then ((s.1, s.1 (base + i.2.1.toNatClampNeg) :: s.2.1, s.2.2 + 1), 0)
  else if i.1 = 2 then (match s.2.1 with
    | x :: S => ((yE_u s.1 (base + i.2.1.toNatClampNeg) x, S, s.2.2 + 1), 0)
    | [] => (s, 5))
  else if i.1 = 3 then (match s.2.1 with
    | x :: S => if yE_bad i x then ((s.1, S, s.2.2 + 1), 4) else ((s.1, s.1 (base + i.2.1.toNatClampNeg + yE_ix i x) :: S, s.2.2 + 1), 0)
    | [] => (s, 5))
  else if i.1 = 4 then (match s.2.1 with
    | y :: x :: S => if yE_bad i x then ((s.1, S, s.2.2 + 1), 4) else ((yE_u s.1 (base + i.2.1.toNatClampNeg + yE_ix i x) y, S, s.2.2 + 1), 0)
    | _ => (s, 5))
  else if i.1 = 5 then ((s.1, s.1 (pl i.2.1.toNatClampNeg + i.2.2.1.toNatClampNeg) :: s.2.1, s.2.2 + 1), 0)
  else if i.1 = 6 then (match s.2.1 with
    | x :: S => ((yE_u s.1 (pl i.2.1.toNatClampNeg + i.2.2.1.toNatClampNeg) x, S, s.2.2 + 1), 0)
    | [] => (s, 5))
  else if i.1 = 7 then (match s.2.1 with
    | y :: x :: S => if f_Cd_isByZero i.2.1 y = 0 then (match f_Cd_two i.2.1 x y with
      | some v => ((s.1, v :: S, s.2.2 + 1), 0)
      | none => (s, 5)) else ((s.1, S, s.2.2 + 1), 3)
    | _ => (s, 5))
  else if i.1 = 8 then (match s.2.1 with
    | x :: S => ((s.1, f_Cd_one i.2.1 x :: S, s.2.2 + 1), 0)
    | [] => (s, 5))
  else if i.1 = 9 then (match s.2.1 with
    | y :: x :: z :: S => ((s.1, (if z = 0 then x else y) :: S, s.2.2 + 1), 0)
    | _ => (s, 5))
  else if i.1 = 12 then ((yE_u s.1 (base + i.2.1.toNatClampNeg) i.2.2.1, s.2.1, s.2.2 + 1), 0)
  else if i.1 = 15 then U i.2.1.toNatClampNeg (base + i.2.2.1.toNatClampNeg) (s.1, s.2.1, s.2.2 + 1)
  else if i.1 = 16 then U i.2.1.toNatClampNeg (pl i.2.1.toNatClampNeg) (s.1, s.2.1, s.2.2 + 1)
  else ((tm i.2.1.toNatClampNeg (base + i.2.2.1.toNatClampNeg) s.1, s.2.1, s.2.2 + 1), 0)
section YEX
variable (pl : Nat → Nat) (tm : Nat → Nat → (Nat → Int32) → Nat → Int32) (U : Nat → Nat → yE → yE × Nat) (base : Nat)
def yE_L : List yI → yE → yE × Nat
  | [], s => (s, 0)
  | i :: L, s => if (yE_1 pl tm U base i s).2 = 0 then yE_L L (yE_1 pl tm U base i s).1 else yE_1 pl tm U base i s
/-- rounds of a loop: from NEXT on -/
def yE_l (body : yE → yE × Nat) (cell : Nat) : Nat → yE → yE × Nat
  | 0, s => (s, 5)
  | f + 1, s => if s.1 cell = 0 then ((s.1, s.2.1, s.2.2 + 1), 0) else
    if (body (yE_u s.1 cell (s.1 cell - 1), s.2.1, s.2.2 + 1)).2 = 0 then yE_l body cell f ((body (yE_u s.1 cell (s.1 cell - 1), s.2.1, s.2.2 + 1)).1.1, (body (yE_u s.1 cell (s.1 cell - 1), s.2.1, s.2.2 + 1)).1.2.1, (body (yE_u s.1 cell (s.1 cell - 1), s.2.1, s.2.2 + 1)).1.2.2 + 1)
    else if (body (yE_u s.1 cell (s.1 cell - 1), s.2.1, s.2.2 + 1)).2 = 1 then ((body (yE_u s.1 cell (s.1 cell - 1), s.2.1, s.2.2 + 1)).1, 0)
    else body (yE_u s.1 cell (s.1 cell - 1), s.2.1, s.2.2 + 1)
/-- 0: through; 1: out of the loop; 2: out of the unit -/
def yE_T : ys → yE → yE × Nat
  | .leaf, s => (s, 0)
  | .inner k p _ l r, s =>
    if k = 0 then (if (yE_L pl tm U base p.1 s).2 = 0 then yE_T r (yE_L pl tm U base p.1 s).1 else yE_L pl tm U base p.1 s)
    else if k = 1 then (if (yE_T l s).2 = 0 then yE_T r (yE_T l s).1 else yE_T l s)
    else if k = 2 then (if (yE_l (yE_T l) (base + p.2.1.toNatClampNeg) (p.2.2.toNatClampNeg + 1) (yE_u s.1 (base + p.2.1.toNatClampNeg) p.2.2, s.2.1, s.2.2 + 1)).2 = 0 then yE_T r (yE_l (yE_T l) (base + p.2.1.toNatClampNeg) (p.2.2.toNatClampNeg + 1) (yE_u s.1 (base + p.2.1.toNatClampNeg) p.2.2, s.2.1, s.2.2 + 1)).1 else yE_l (yE_T l) (base + p.2.1.toNatClampNeg) (p.2.2.toNatClampNeg + 1) (yE_u s.1 (base + p.2.1.toNatClampNeg) p.2.2, s.2.1, s.2.2 + 1))
    else if k = 3 then ((s.1, s.2.1, s.2.2 + 1), 1)
    else if k = 4 then ((s.1, s.2.1, s.2.2 + 1), 2)
    else if k = 5 then (if (yE_L pl tm U base p.1 s).2 = 0 then (match (yE_L pl tm U base p.1 s).1.2.1 with
      | y :: S => if y = 0 then yE_T r ((yE_L pl tm U base p.1 s).1.1, S, (yE_L pl tm U base p.1 s).1.2.2 + 1) else (if (yE_T l ((yE_L pl tm U base p.1 s).1.1, S, (yE_L pl tm U base p.1 s).1.2.2 + 1)).2 = 0 then (if yz_f r = true then yE_T l ((yE_L pl tm U base p.1 s).1.1, S, (yE_L pl tm U base p.1 s).1.2.2 + 1) else (((yE_T l ((yE_L pl tm U base p.1 s).1.1, S, (yE_L pl tm U base p.1 s).1.2.2 + 1)).1.1, (yE_T l ((yE_L pl tm U base p.1 s).1.1, S, (yE_L pl tm U base p.1 s).1.2.2 + 1)).1.2.1, (yE_T l ((yE_L pl tm U base p.1 s).1.1, S, (yE_L pl tm U base p.1 s).1.2.2 + 1)).1.2.2 + 1), 0)) else yE_T l ((yE_L pl tm U base p.1 s).1.1, S, (yE_L pl tm U base p.1 s).1.2.2 + 1))
      | [] => (s, 5)) else yE_L pl tm U base p.1 s)
    else (if (yE_T l s).2 = 0 then yE_T r (yE_T l s).1 else yE_T l s)
end YEX
/-- units below b -/
def yE_U (T : Nat → ys) (pl : Nat → Nat) (tm : Nat → Nat → (Nat → Int32) → Nat → Int32) : Nat → Nat → Nat → yE → yE × Nat
  | 0, _, _, s => (s, 5)
  | b + 1, u, base, s => if u = b then ((yE_T pl tm (yE_U T pl tm b) base (T b) s).1, if (yE_T pl tm (yE_U T pl tm b) base (T b) s).2 = 2 then 0 else (yE_T pl tm (yE_U T pl tm b) base (T b) s).2) else yE_U T pl tm b u base s
/-- a stack in an array: its top last -/
def yE_k (A : Nat → Int32) : List Int32 → Prop
  | [] => True
  | x :: S => A S.length = x ∧ yE_k A S
theorem yE_kf {A B : Nat → Int32} : ∀ {S : List Int32}, (∀ j, j < S.length → B j = A j) → yE_k A S → yE_k B S := by
  intro S
  induction S with
  | nil => intro _ _; trivial
  | cons x S ih =>
    intro h ⟨h1, h2⟩
    exact ⟨(h _ (by rw [List.length_cons]; omega)).trans h1, ih (fun j hj => h j (by rw [List.length_cons]; omega)) h2⟩
theorem yE_kp {A B : Nat → Int32} {S : List Int32} {v : Int32} (h : yE_k A S) (h1 : B S.length = v) (h2 : ∀ j, ¬ j = S.length → B j = A j) : yE_k B (v :: S) := ⟨h1, yE_kf (fun j hj => h2 j (by omega)) h⟩
end
section
/-! The machine: which cells code writes. -/
/-- cells that block b may write -/
def yE_al (X Y : Nat → Nat) (kb : Nat → yK) (pl : Nat → Nat) (b base lo j : Nat) : Prop := (base ≤ j ∧ j < base + Y b) ∨ (base + lo ≤ j ∧ j < base + X b) ∨ ∃ u, u < b ∧ (kb u).1 = 1 ∧ pl u ≤ j ∧ j < pl u + X u
/-- what units below b write -/
def yE_hU (X : Nat → Nat) (kb : Nat → yK) (pl : Nat → Nat) (b : Nat) (U : Nat → Nat → yE → yE × Nat) : Prop := ∀ (u base : Nat) (s : yE) (j : Nat), u < b → ¬ (base ≤ j ∧ j < base + X u) → (∀ w, w < u → (kb w).1 = 1 → ¬ (pl w ≤ j ∧ j < pl w + X w)) → (U u base s).1.1 j = s.1 j
/-- what standard blocks write -/
def yE_ht (tm : Nat → Nat → (Nat → Int32) → Nat → Int32) : Prop := ∀ (B at_ : Nat) (c : Nat → Int32) (j : Nat), B < 9 → ¬ (at_ ≤ j ∧ j < at_ + (zt_2.getD B 0).toNatClampNeg) → tm B at_ c j = c j
theorem yE_ixl {i : yI} {x : Int32} {s : Nat} (hs : i.2.2.2 = nI s) (h2 : s ≤ 100000) (h : ¬ yE_bad i x) : yE_ix i x < s := by
  unfold yE_bad at h
  rw [not_or, Classical.not_not, hs, zj_32 (by omega)] at h
  obtain ⟨h3, h4⟩ := h
  unfold yE_ix
  generalize x.toInt64 - i.2.2.1.toInt64 = v at h3 h4
  have h0 : 0 ≤ v.toInt := by
    have := Int64.le_iff_toInt_le.mp (Int64.not_lt.mp h3)
    exact this
  have h5 : v ≤ 1000000 := Int64.le_of_lt (Int64.lt_of_lt_of_le h4 ((zj_el (k := 1000000) (by decide) (by omega)).mpr (by omega)))
  obtain ⟨n, n1, n2⟩ := yc_ofN h0 h5
  have n2' : v = lN n := n2
  rw [n2'] at h4 ⊢
  rw [lN_i, nI_clamp (by omega)]
  exact (zj_lt (by omega) (by omega)).mp h4
section YEW
variable {X Y : Nat → Nat} {kb : Nat → yK} {pl : Nat → Nat} {tm : Nat → Nat → (Nat → Int32) → Nat → Int32} {U : Nat → Nat → yE → yE × Nat} {b base lo : Nat}
theorem yE_uo {c : Nat → Int32} {k j : Nat} {v : Int32} (h : ¬ j = k) : yE_u c k v j = c j := if_neg h
theorem yE_1w (hb : b ≤ 16) (hX : Y b ≤ X b ∧ ∀ u, u ≤ b → X u ≤ 100000) (hU : yE_hU X kb pl b U) (ht : yE_ht tm) {i : yI} (W : yw_i X Y kb b lo i) (s : yE) (j : Nat) (nj : ¬ yE_al X Y kb pl b base lo j) : (yE_1 pl tm U base i s).1.1 j = s.1 j := by
  have n1 : ¬ (base ≤ j ∧ j < base + Y b) := fun z => nj (.inl z)
  have n2 : ¬ (base + lo ≤ j ∧ j < base + X b) := fun z => nj (.inr (.inl z))
  have n3 : ∀ u, u < b → (kb u).1 = 1 → ¬ (pl u ≤ j ∧ j < pl u + X u) := fun u h1 h2 z => nj (.inr (.inr ⟨u, h1, h2, z⟩))
  obtain ⟨c, S, n⟩ := s
  unfold yE_1
  rcases W with W | ⟨e, x, e1, W⟩ | ⟨e, x, s, e1, e2, W⟩ | ⟨e, u, x, e1, e2, W1, W2, W3⟩ | ⟨e, B, x, e1, e2, W1, W2⟩
  · rcases W with e | e | ⟨e, _⟩ | ⟨e, _⟩ | ⟨e, _⟩ | ⟨e, u, x, e1, e2, W1, W2, W3⟩ | ⟨e, _⟩ | ⟨e, _⟩ | ⟨e, u, e1, W1, W2⟩
    · rw [if_pos e]
    · simp (config := { decide := true }) only [e, if_false, if_true]
      split <;> rfl
    · simp (config := { decide := true }) only [e, if_false, if_true]
    · simp (config := { decide := true }) only [e, if_false, if_true]
      split
      · split <;> rfl
      · rfl
    · simp (config := { decide := true }) only [e, if_false, if_true]
    · simp (config := { decide := true }) only [e, if_false, if_true, e1, e2]
      split
      · show yE_u c _ _ j = c j
        have hx := n3 u W1 W2
        have := hX.2 u (by omega)
        rw [nI_clamp (show u < 2147483648 by omega), nI_clamp (show x < 2147483648 by omega)]
        exact yE_uo (by omega)
      · rfl
    · simp (config := { decide := true }) only [e, if_false, if_true]
      split
      · split
        · split <;> rfl
        · rfl
      · rfl
    · simp (config := { decide := true }) only [e, if_false, if_true]
      split <;> rfl
    · simp (config := { decide := true }) only [e, if_false, if_true, e1]
      rw [nI_clamp (show u < 2147483648 by omega)]
      exact hU u (pl u) _ j W1 (n3 u W1 W2) (fun w hw hk => n3 w (by omega) hk)
  · simp (config := { decide := true }) only [e, if_false, if_true, e1]
    have := hX.2 b (Nat.le_refl _)
    split
    · show yE_u c _ _ j = c j
      rw [nI_clamp (show x < 2147483648 by omega)]
      exact yE_uo (by omega)
    · rfl
  · simp (config := { decide := true }) only [e, if_false, if_true, e1]
    have := hX.2 b (Nat.le_refl _)
    split
    · split
      · rfl
      · rename_i y x' S' hS hbad
        have := yE_ixl e2 (by omega) hbad
        show yE_u c _ _ j = c j
        rw [nI_clamp (show x < 2147483648 by omega)]
        exact yE_uo (by omega)
    · rfl
  · simp (config := { decide := true }) only [e, if_false, if_true, e1, e2]
    have := hX.2 b (Nat.le_refl _)
    rw [nI_clamp (show u < 2147483648 by omega), nI_clamp (show x < 2147483648 by omega)]
    exact hU u (base + x) _ j W1 (by omega) (fun w hw hk => n3 w (by omega) hk)
  · simp (config := { decide := true }) only [e, if_false, if_true, e1, e2]
    have := hX.2 b (Nat.le_refl _)
    rw [nI_clamp (show B < 2147483648 by omega), nI_clamp (show x < 2147483648 by omega)]
    exact ht B (base + x) c j W1 (by omega)
theorem yE_Lw (hb : b ≤ 16) (hX : Y b ≤ X b ∧ ∀ u, u ≤ b → X u ≤ 100000) (hU : yE_hU X kb pl b U) (ht : yE_ht tm) (j : Nat) (nj : ¬ yE_al X Y kb pl b base lo j) : ∀ (L : List yI) (s : yE), (∀ i, i ∈ L → yw_i X Y kb b lo i) → (yE_L pl tm U base L s).1.1 j = s.1 j := by
  intro L
  induction L with
  | nil => intro s _; rfl
  | cons i L ih =>
    intro s W
    have h1 := yE_1w hb hX hU ht (W i (List.mem_cons_self ..)) s j nj
    rw [yE_L]
    split
    · exact (ih _ (fun i hi => W i (List.mem_cons_of_mem _ hi))).trans h1
    · exact h1
theorem yE_alm {lo lo' j : Nat} (h : lo ≤ lo') (nj : ¬ yE_al X Y kb pl b base lo j) : ¬ yE_al X Y kb pl b base lo' j := fun z => nj (by
  rcases z with z | z | z
  · exact .inl z
  · exact .inr (.inl ⟨by omega, z.2⟩)
  · exact .inr (.inr z))
theorem yE_lw {body : yE → yE × Nat} {cell j : Nat} (hj : ¬ j = cell) (hb : ∀ s, (body s).1.1 j = s.1 j) : ∀ (f : Nat) (s : yE), (yE_l body cell f s).1.1 j = s.1 j := by
  intro f
  induction f with
  | zero => intro s; rfl
  | succ f ih =>
    intro s
    have h1 : (body (yE_u s.1 cell (s.1 cell - 1), s.2.1, s.2.2 + 1)).1.1 j = s.1 j := (hb _).trans (yE_uo hj)
    rw [yE_l]
    split
    · rfl
    split
    · exact (ih _).trans h1
    split
    · exact h1
    · exact h1
theorem yE_Tw (hb : b ≤ 16) (hX : Y b ≤ X b ∧ ∀ u, u ≤ b → X u ≤ 100000) (hU : yE_hU X kb pl b U) (ht : yE_ht tm) : ∀ (T : ys) (lo : Nat) (s : yE) (j : Nat), yz_W X Y kb b T lo → ¬ yE_al X Y kb pl b base lo j → (yE_T pl tm U base T s).1.1 j = s.1 j := by
  have xb := hX.2 b (Nat.le_refl _)
  intro T
  induction T with
  | leaf => intro lo s j _ _; rfl
  | inner k p o l r ihl ihr =>
    intro lo s j ⟨W1, W2⟩ nj
    rw [yE_T]
    by_cases k0 : k = 0
    · rw [if_pos k0] at W1 ⊢
      have h1 := yE_Lw hb hX hU ht j nj p.1 s W1.2
      split
      · exact (ihr lo _ j W2 nj).trans h1
      · exact h1
    rw [if_neg k0] at W1 ⊢
    by_cases k2 : k = 2
    · rw [if_neg (show ¬ k = 1 by omega), if_pos k2]
      rw [if_pos k2] at W1
      obtain ⟨cc, N, w1, w2, w3, w4, w5, w6, w7⟩ := W1
      have hc : ¬ j = base + cc := fun z => nj (.inr (.inl (by omega)))
      rw [w1, nI_clamp (show cc < 2147483648 by omega)]
      have h1 : (yE_l (yE_T pl tm U base l) (base + cc) (p.2.2.toNatClampNeg + 1) (yE_u s.1 (base + cc) p.2.2, s.2.1, s.2.2 + 1)).1.1 j = s.1 j := (yE_lw hc (fun s => ihl (cc + 1) s j w7 (yE_alm (by omega) nj)) _ _).trans (yE_uo hc)
      split
      · exact (ihr lo _ j W2 nj).trans h1
      · exact h1
    rw [if_neg k2] at W1
    by_cases k5 : k = 5
    · rw [if_pos k5] at W1
      rw [if_neg (show ¬ k = 1 by omega), if_neg k2, if_neg (show ¬ k = 3 by omega), if_neg (show ¬ k = 4 by omega), if_pos k5]
      have h1 := yE_Lw hb hX hU ht j nj p.1 s (fun i hi => .inl (W1.2.1 i hi))
      split
      · split
        · split
          · exact (ihr lo _ j W2 nj).trans h1
          · split
            · split
              · exact (ihl lo _ j W1.2.2.2 nj).trans h1
              · exact (ihl lo _ j W1.2.2.2 nj).trans h1
            · exact (ihl lo _ j W1.2.2.2 nj).trans h1
        · rfl
      · exact h1
    rw [if_neg k5] at W1
    have h1 := ihl lo s j W1.2 nj
    by_cases k1 : k = 1
    · rw [if_pos k1]
      split
      · exact (ihr lo _ j W2 nj).trans h1
      · exact h1
    rw [if_neg k1, if_neg k2]
    rw [if_neg k5]
    split
    · rfl
    split
    · rfl
    split
    · exact (ihr lo _ j W2 nj).trans h1
    · exact h1
end YEW
/-- all units -/
theorem yE_Uw {X Y : Nat → Nat} {kb : Nat → yK} {pl : Nat → Nat} {tm : Nat → Nat → (Nat → Int32) → Nat → Int32} {T : Nat → ys} {nb : Nat} (hn : nb ≤ 16) (hX : ∀ u, u < nb → Y u ≤ X u ∧ X u ≤ 100000) (ht : yE_ht tm) (W : ∀ u, u < nb → yz_W X Y kb u (T u) (Y u)) : ∀ b, b ≤ nb → yE_hU X kb pl b (yE_U T pl tm b) := by
  intro b
  induction b with
  | zero => intro _ u base s j hu; omega
  | succ b ih =>
    intro hb u base s j hu n1 n2
    rw [yE_U]
    by_cases z : u = b
    · rw [if_pos z]
      subst z
      refine yE_Tw (by omega) ⟨(hX u (by omega)).1, fun w hw => (hX w (by omega)).2⟩ (ih (by omega)) ht (T u) (Y u) s j (W u (by omega)) (fun q => ?_)
      have := (hX u (by omega)).1
      rcases q with q | q | ⟨w, w1, w2, w3⟩
      · exact n1 ⟨q.1, by omega⟩
      · exact n1 ⟨by omega, q.2⟩
      · exact n2 w w1 w2 w3
    · rw [if_neg z]
      exact ih (by omega) u base s j (by omega) n1 n2
end
section
/-! The machine: steps and bounds: the algebra; every T has a way. -/
def yF_le (a b : Option Nat) : Prop := ∀ x, a = some x → ∃ y, b = some y ∧ x ≤ y
def yF_M (t : yP3) : Option Nat := yP_m t.1 (yP_m t.2.1 t.2.2)
def yF_sh (d : Nat) (c t : yP3) : Prop := yF_le (yP_p (some d) c.1) t.1 ∧ yF_le (yP_p (some d) c.2.1) t.2.1 ∧ yF_le (yP_p (some d) c.2.2) t.2.2
/-- d steps with outcome o: within t, if c is behind -/
def yF (c t : yP3) (d o : Nat) : Prop := (o = 0 → yF_sh d c t) ∧ (o = 1 → yF_le (some d) t.2.1) ∧ (o = 2 → yF_le (some d) t.2.2) ∧ (o = 3 ∨ o = 4 → yF_le (some d) (yF_M t))
theorem yF_lt {a b c : Option Nat} (h1 : yF_le a b) (h2 : yF_le b c) : yF_le a c := fun x e => by
  obtain ⟨y, e1, l1⟩ := h1 x e
  obtain ⟨z, e2, l2⟩ := h2 y e1
  exact ⟨z, e2, Nat.le_trans l1 l2⟩
theorem yF_l0 {a : Option Nat} : yF_le a a := fun x e => ⟨x, e, Nat.le_refl _⟩
theorem yF_lp {d : Nat} {a b : Option Nat} (h : yF_le a b) : yF_le (yP_p (some d) a) (yP_p (some d) b) := fun x e => by
  cases a with
  | none => cases e
  | some a =>
    obtain ⟨y, e1, l1⟩ := h a rfl
    have : d + a = x := Option.some.inj e
    exact ⟨d + y, by rw [e1]; rfl, by omega⟩
theorem yF_lm {a b c : Option Nat} : yF_le a (yP_m a b) ∧ yF_le b (yP_m a b) ∧ (yF_le a c → yF_le b c → yF_le (yP_m a b) c) := by
  refine ⟨fun x e => ?_, fun x e => ?_, fun h1 h2 x e => ?_⟩
  · subst e
    cases b with
    | none => exact ⟨x, rfl, Nat.le_refl _⟩
    | some b => exact ⟨max x b, rfl, Nat.le_max_left _ _⟩
  · subst e
    cases a with
    | none => exact ⟨x, rfl, Nat.le_refl _⟩
    | some a => exact ⟨max a x, rfl, Nat.le_max_right _ _⟩
  · cases a with
    | none => exact h2 x e
    | some a =>
      cases b with
      | none => exact h1 x e
      | some b =>
        have e' : max a b = x := Option.some.inj e
        obtain ⟨y1, f1, l1⟩ := h1 a rfl
        obtain ⟨y2, f2, l2⟩ := h2 b rfl
        have : y1 = y2 := Option.some.inj (f1.symm.trans f2)
        exact ⟨y1, f1, by omega⟩
theorem yF_Mc {t : yP3} : yF_le t.1 (yF_M t) ∧ yF_le t.2.1 (yF_M t) ∧ yF_le t.2.2 (yF_M t) := ⟨(yF_lm (c := none)).1, yF_lt (yF_lm (c := none)).1 (yF_lm (c := none)).2.1, yF_lt (yF_lm (c := none)).2.1 (yF_lm (c := none)).2.1⟩
theorem yF_shM {d : Nat} {c t : yP3} (h : yF_sh d c t) : yF_le (yP_p (some d) (yF_M c)) (yF_M t) := by
  unfold yF_M
  rw [yP_pm, yP_pm]
  exact yF_lm.2.2 (yF_lt h.1 yF_Mc.1) (yF_lm.2.2 (yF_lt h.2.1 yF_Mc.2.1) (yF_lt h.2.2 yF_Mc.2.2))
theorem yF_pp {d e : Nat} {a : Option Nat} : yP_p (some (d + e)) a = yP_p (some d) (yP_p (some e) a) := by
  cases a with
  | none => rfl
  | some a => show some (d + e + a) = some (d + (e + a)); rw [Nat.add_assoc]
theorem yF_sht {d e : Nat} {a c t : yP3} (h1 : yF_sh d c t) (h2 : yF_sh e a c) : yF_sh (d + e) a t := ⟨by rw [yF_pp]; exact yF_lt (yF_lp h2.1) h1.1, by rw [yF_pp]; exact yF_lt (yF_lp h2.2.1) h1.2.1, by rw [yF_pp]; exact yF_lt (yF_lp h2.2.2) h1.2.2⟩
theorem yF_seq {d e o : Nat} {a c t : yP3} (h1 : yF_sh d c t) (h2 : yF a c e o) : yF a t (d + e) o :=
  ⟨fun z => yF_sht h1 (h2.1 z), fun z => yF_lt (yF_lp (d := d) (h2.2.1 z)) h1.2.1, fun z => yF_lt (yF_lp (d := d) (h2.2.2.1 z)) h1.2.2, fun z => yF_lt (yF_lp (d := d) (h2.2.2.2 z)) (yF_shM h1)⟩
theorem yF_a {d w : Nat} {c : yP3} (h : d ≤ w) : yF_sh d c (yP_a w c) := by
  have key : ∀ a : Option Nat, yF_le (yP_p (some d) a) (yP_p (some w) a) := fun a x e => by
    cases a with
    | none => cases e
    | some a =>
      have : d + a = x := Option.some.inj e
      exact ⟨w + a, rfl, by omega⟩
  exact ⟨key _, key _, key _⟩
theorem yF_aM {d w : Nat} {c : yP3} (h : d ≤ w) (hc : ¬ yF_M c = none) : yF_le (some d) (yF_M (yP_a w c)) := by
  have h1 := yF_shM (yF_a (c := c) h)
  cases e : yF_M c with
  | none => exact absurd e hc
  | some m =>
    rw [e] at h1
    intro x ex
    have : d = x := Option.some.inj ex
    obtain ⟨y, y1, y2⟩ := h1 (d + m) rfl
    exact ⟨y, y1, by omega⟩
theorem yF_ne {d : Nat} {c t : yP3} (h : yF_sh d c t) (hc : ¬ yF_M c = none) : ¬ yF_M t = none := fun z => by
  have h1 := yF_shM h
  cases e : yF_M c with
  | none => exact absurd e hc
  | some m =>
    rw [e] at h1
    obtain ⟨y, y1, _⟩ := h1 (d + m) rfl
    rw [z] at y1; cases y1
theorem yF_n3 {t : yP3} (h : ¬ yF_M t = none) : (∃ x, t.1 = some x) ∨ (∃ x, t.2.1 = some x) ∨ ∃ x, t.2.2 = some x := by
  obtain ⟨a, b, c⟩ := t
  cases a with
  | some x => exact .inl ⟨x, rfl⟩
  | none =>
    cases b with
    | some x => exact .inr (.inl ⟨x, rfl⟩)
    | none =>
      cases c with
      | some x => exact .inr (.inr ⟨x, rfl⟩)
      | none => exact absurd rfl h
theorem yF_nM {t : yP3} {x : Nat} (h : t.1 = some x ∨ t.2.1 = some x ∨ t.2.2 = some x) : ¬ yF_M t = none := fun z => by
  rcases h with h | h | h
  · obtain ⟨y, y1, _⟩ := (yF_Mc (t := t)).1 x h
    rw [z] at y1; cases y1
  · obtain ⟨y, y1, _⟩ := (yF_Mc (t := t)).2.1 x h
    rw [z] at y1; cases y1
  · obtain ⟨y, y1, _⟩ := (yF_Mc (t := t)).2.2 x h
    rw [z] at y1; cases y1
/-- a loop's way up to what is behind it -/
theorem yF_ps {N : Nat} {t : yP3} : (∀ x, t.1 = some x → ∃ y, yP_ps N t = some y ∧ yP_b N (some (1 + x)) + (1 + x) + 1 ≤ y) ∧ (∀ x, t.2.1 = some x → ∃ y, yP_ps N t = some y ∧ yP_b N (yP_p (some 1) t.1) + 1 + x ≤ y) := by
  refine ⟨fun x e => ?_, fun x e => ?_⟩
  · unfold yP_ps
    rw [e]
    exact (yF_lm (c := none)).1 (yP_b N (some (1 + x)) + (1 + x) + 1) rfl
  · unfold yP_ps
    rw [e]
    exact (yF_lm (c := none)).2.1 (yP_b N (yP_p (some 1) t.1) + 1 + x) rfl
theorem yF_N0 {t c : yP3} : yP_N 0 t c = yP_a 1 c := if_pos rfl
theorem yF_Nn {N : Nat} {t c : yP3} (h : ¬ N = 0) : yP_N N t c = (yP_p (yP_ps N t) c.1, yP_p (yP_ps N t) c.2.1, yP_m (yP_p (some (yP_b N (yP_p (some 1) t.1) + 1)) t.2.2) (yP_p (yP_ps N t) c.2.2)) := if_neg h
/-- behind a loop, d steps, if its way is at least that -/
theorem yF_pc {N d y : Nat} {t c : yP3} (h : ¬ N = 0) (e : yP_ps N t = some y) (l : d ≤ y) : yF_sh d c (yP_N N t c) := by
  rw [yF_Nn h, e]
  have key : ∀ a : Option Nat, yF_le (yP_p (some d) a) (yP_p (some y) a) := fun a x e => by
    cases a with
    | none => cases e
    | some a =>
      have : d + a = x := Option.some.inj e
      exact ⟨y + a, rfl, by omega⟩
  exact ⟨key _, key _, yF_lt (key _) (yF_lm (c := none)).2.1⟩
theorem yF_NM {N : Nat} {t c : yP3} (ht : ¬ yF_M t = none) (hc : ¬ yF_M c = none) : ¬ yF_M (yP_N N t c) = none := by
  by_cases h : N = 0
  · rw [h, yF_N0]; exact yF_ne (yF_a (d := 0) (Nat.zero_le _)) hc
  · rcases yF_n3 ht with ⟨x, e⟩ | ⟨x, e⟩ | ⟨x, e⟩
    · obtain ⟨y, y1, _⟩ := (yF_ps (N := N) (t := t)).1 x e
      exact yF_ne (yF_pc (d := 0) h y1 (Nat.zero_le _)) hc
    · obtain ⟨y, y1, _⟩ := (yF_ps (N := N) (t := t)).2 x e
      exact yF_ne (yF_pc (d := 0) h y1 (Nat.zero_le _)) hc
    · rw [yF_Nn h, e]
      obtain ⟨y, y1, _⟩ := (yF_lm (a := yP_p (some (yP_b N (yP_p (some 1) t.1) + 1)) (some x)) (b := yP_p (yP_ps N t) c.2.2) (c := none)).1 _ rfl
      exact yF_nM (x := y) (.inr (.inr y1))
theorem yF_LM {B : Nat → Nat} : ∀ (L : List yI) {c : yP3}, ¬ yF_M c = none → ¬ yF_M (yP_L B L c) = none := by
  intro L
  induction L with
  | nil => intro c h; exact h
  | cons i L ih => intro c h; exact yF_ne (yF_a (d := 0) (Nat.zero_le _)) (ih h)
/-- every T has a way -/
theorem yF_way {B : Nat → Nat} : ∀ (T : ys) (E c : yP3), ¬ yF_M c = none → ¬ yF_M (yP_T B T E c) = none := by
  intro T
  induction T with
  | leaf => intro E c h; exact h
  | inner k p o l r ihl ihr =>
    intro E c h
    have hr := ihr E c h
    rw [yP_T]
    split
    · exact yF_LM p.1 hr
    split
    · exact ihl _ _ hr
    split
    · exact yF_ne (yF_a (d := 0) (Nat.zero_le _)) (yF_NM (ihl _ _ (yF_nM (x := 1) (.inl rfl))) hr)
    split
    · exact yF_nM (x := 1) (.inr (.inl rfl))
    split
    · exact yF_nM (x := 1) (.inr (.inr rfl))
    split
    · refine yF_LM p.1 (yF_ne (yF_a (d := 0) (Nat.zero_le _)) ?_)
      rcases yF_n3 hr with ⟨x, e⟩ | ⟨x, e⟩ | ⟨x, e⟩
      · obtain ⟨y, y1, _⟩ := (yF_lm (a := (yP_T B l (none, none, none) (if yz_f r = true then yP_T B r E c else yP_a 1 E)).1) (b := (yP_T B r E c).1) (c := none)).2.1 x e
        exact yF_nM (x := y) (.inl y1)
      · obtain ⟨y, y1, _⟩ := (yF_lm (a := (yP_T B l (none, none, none) (if yz_f r = true then yP_T B r E c else yP_a 1 E)).2.1) (b := (yP_T B r E c).2.1) (c := none)).2.1 x e
        exact yF_nM (x := y) (.inr (.inl y1))
      · obtain ⟨y, y1, _⟩ := (yF_lm (a := (yP_T B l (none, none, none) (if yz_f r = true then yP_T B r E c else yP_a 1 E)).2.2) (b := (yP_T B r E c).2.2) (c := none)).2.1 x e
        exact yF_nM (x := y) (.inr (.inr y1))
    · exact ihl _ _ hr
/-- without EXITs outside loops nothing goes out -/
theorem yF_out {B : Nat → Nat} : ∀ (T : ys) (E c : yP3) (n : Nat), yz_x T n = [] → c.2.1 = none → E.2.1 = none → (yP_T B T E c).2.1 = none := by
  have hL : ∀ (L : List yI) (c : yP3), c.2.1 = none → (yP_L B L c).2.1 = none := by
    intro L
    induction L with
    | nil => intro c h; exact h
    | cons i L ih => intro c h; show yP_p (some _) (yP_L B L c).2.1 = none; rw [ih c h]; rfl
  intro T
  induction T with
  | leaf => intro E c n _ h _; exact h
  | inner k p o l r ihl ihr =>
    intro E c n hx h hE
    rw [yP_T]
    rw [yz_x] at hx
    by_cases k0 : k = 0
    · rw [if_pos k0] at hx ⊢
      exact hL _ _ (ihr E c _ hx h hE)
    rw [if_neg k0] at hx ⊢
    by_cases k1 : k = 1
    · rw [if_pos k1] at hx ⊢
      obtain ⟨x1, x2⟩ := List.append_eq_nil_iff.mp hx
      have hr := ihr E c _ x1 h hE
      exact ihl _ _ _ x2 hr hr
    rw [if_neg k1] at hx ⊢
    by_cases k2 : k = 2
    · rw [if_pos k2] at hx ⊢
      have hr := ihr E c _ hx h hE
      show yP_p (some 1) (yP_N _ _ (yP_T B r E c)).2.1 = none
      by_cases hN : p.2.2.toNatClampNeg = 0
      · rw [hN, yF_N0]
        show yP_p (some 1) (yP_p (some 1) (yP_T B r E c).2.1) = none
        rw [hr]; rfl
      · rw [yF_Nn hN]
        show yP_p (some 1) (yP_p _ (yP_T B r E c).2.1) = none
        rw [hr]
        cases yP_ps p.2.2.toNatClampNeg (yP_T B l (none, none, none) (some 1, none, none)) <;> rfl
    rw [if_neg k2] at hx ⊢
    by_cases k3 : k = 3
    · rw [if_pos k3] at hx
      exact absurd (List.append_eq_nil_iff.mp hx).2 (by intro q; cases q)
    rw [if_neg k3] at hx ⊢
    by_cases k4 : k = 4
    · rw [if_pos k4]
    rw [if_neg k4] at hx ⊢
    by_cases k5 : k = 5
    · rw [if_pos k5] at hx ⊢
      obtain ⟨x1, x2⟩ := List.append_eq_nil_iff.mp hx
      have hr := ihr E c _ x1 h hE
      refine hL _ _ ?_
      show yP_p (some 1) (yP_m _ (yP_T B r E c).2.1) = none
      rw [hr, ihl (none, none, none) _ _ x2 (by
        split
        · exact hr
        · show yP_p (some 1) E.2.1 = none; rw [hE]; rfl) rfl]
      rfl
    · rw [if_neg k5] at hx ⊢
      obtain ⟨x1, x2⟩ := List.append_eq_nil_iff.mp hx
      exact ihl _ _ _ x2 (ihr E c _ x1 h hE) rfl
end
section
/-! The machine: a run of straight code: its outcomes, its stack, its steps. -/
/-- a frame of block b at base lies apart from FUNCTIONs below b -/
def yE_dj (X : Nat → Nat) (kb : Nat → yK) (pl : Nat → Nat) (b base : Nat) : Prop := ∀ w, w < b → (kb w).1 = 1 → pl w + X w ≤ base ∨ base + X b ≤ pl w
def yG_r (B : Nat → Nat) (u : Nat) (s : yE) (r : yE × Nat) : Prop := (r.2 = 0 ∨ r.2 = 3 ∨ r.2 = 4) ∧ (r.2 = 0 → r.1.2.1 = s.2.1) ∧ s.2.2 ≤ r.1.2.2 ∧ r.1.2.2 + 1 ≤ s.2.2 + B u
def yG_U (X : Nat → Nat) (kb : Nat → yK) (pl : Nat → Nat) (B : Nat → Nat) (b : Nat) (U : Nat → Nat → yE → yE × Nat) : Prop := ∀ (u base : Nat) (s : yE), u < b → yE_dj X kb pl u base → yG_r B u s (U u base s)
theorem yG_ite {p : Prop} [Decidable p] {a b : Option Int32} (ha : ¬ a = none) (hb : ¬ b = none) : ¬ (if p then a else b) = none := by
  by_cases h : p
  · rw [if_pos h]; exact ha
  · rw [if_neg h]; exact hb
theorem yG_two {k x y : Int32} (h : f_Cd_isByZero k y = 0) : ∃ v, f_Cd_two k x y = some v := by
  have hz : ¬ (y = 0 ∧ (k = 3 ∨ k = 4 ∨ k = 8 ∨ k = 9)) := fun ⟨h1, h2⟩ => by
    unfold f_Cd_isByZero at h
    rw [if_pos h1] at h
    rcases h2 with e | e | e | e <;> rw [e] at h <;> exact absurd h (by decide)
  rw [← yi_twoA (x := x) hz]
  have key : ∀ o : Option Int32, ¬ o = none → ∃ v, o = some v := fun o ho => by
    cases o with
    | none => exact absurd rfl ho
    | some v => exact ⟨v, rfl⟩
  apply key
  unfold f_Mo_two
  by_cases hy : y = 0
  · have n3 : ¬ k = 3 := fun e => hz ⟨hy, .inl e⟩
    have n4 : ¬ k = 4 := fun e => hz ⟨hy, .inr (.inl e)⟩
    have n8 : ¬ k = 8 := fun e => hz ⟨hy, .inr (.inr (.inl e))⟩
    have n9 : ¬ k = 9 := fun e => hz ⟨hy, .inr (.inr (.inr e))⟩
    simp only [if_neg n3, if_neg n4, if_neg n8, if_neg n9]
    repeat' refine yG_ite ?_ ?_
    all_goals exact Option.some_ne_none _
  · simp only [if_neg hy]
    repeat' refine yG_ite ?_ ?_
    all_goals exact Option.some_ne_none _
section YGT
variable {X Y : Nat → Nat} {kb : Nat → yK} {pl : Nat → Nat} {tm : Nat → Nat → (Nat → Int32) → Nat → Int32} {U : Nat → Nat → yE → yE × Nat} {B : Nat → Nat} {b base lo : Nat}
theorem yG_c1 {A : List Int32} (h : 1 ≤ A.length) : ∃ x A1, A = x :: A1 ∧ A1.length = A.length - 1 := by
  cases A with
  | nil => exact absurd h (by decide)
  | cons x A => exact ⟨x, A, rfl, rfl⟩
def yG_o (B : Nat → Nat) (i : yI) (A S0 : List Int32) (s : yE) (r : yE × Nat) : Prop := (r.2 = 0 ∨ r.2 = 3 ∨ r.2 = 4) ∧ (r.2 = 0 → ∃ A', r.1.2.1 = A' ++ S0 ∧ A'.length = A.length - yo_t i.1 + yo_l i.1) ∧ s.2.2 + 1 ≤ r.1.2.2 ∧ r.1.2.2 ≤ s.2.2 + yP_w B i
theorem yG_1 (hb : b ≤ 16) (hX : Y b ≤ X b ∧ X b ≤ 100000) (hU : yG_U X kb pl B b U) (hP : ∀ u, u < b → (kb u).1 = 1 → yE_dj X kb pl u (pl u)) (dj : yE_dj X kb pl b base) {i : yI} (W : yw_i X Y kb b lo i) (A S0 : List Int32) (c : Nat → Int32) (n : Nat) (ht : yo_t i.1 ≤ A.length) : yG_o B i A S0 (c, A ++ S0, n) (yE_1 pl tm U base i (c, A ++ S0, n)) := by
  have one : ¬ (i.1 = 15 ∨ i.1 = 16) → yP_w B i = 1 := fun z => if_neg z
  have t0 : ∀ {c' : Nat → Int32} {A' : List Int32}, ¬ (i.1 = 15 ∨ i.1 = 16) → A'.length = A.length - yo_t i.1 + yo_l i.1 → yG_o B i A S0 (c, A ++ S0, n) ((c', A' ++ S0, n + 1), 0) := fun z e => ⟨.inl rfl, fun _ => ⟨_, rfl, e⟩, Nat.le_refl _, by rw [one z]; exact Nat.le_refl _⟩
  have tf : ∀ {c' : Nat → Int32} {S : List Int32} {o : Nat}, ¬ (i.1 = 15 ∨ i.1 = 16) → o = 3 ∨ o = 4 → yG_o B i A S0 (c, A ++ S0, n) ((c', S, n + 1), o) := fun z e => ⟨.inr e, fun q => by have q' : _ = 0 := q; omega, Nat.le_refl _, by rw [one z]; exact Nat.le_refl _⟩
  unfold yE_1
  rcases W with W | ⟨e, x, e1, W⟩ | ⟨e, x, s, e1, e2, W⟩ | ⟨e, u, x, e1, e2, W1, W2, W3⟩ | ⟨e, B', x, e1, e2, W1, W2⟩
  · rcases W with e | e | ⟨e, _⟩ | ⟨e, _⟩ | ⟨e, _⟩ | ⟨e, _⟩ | ⟨e, _⟩ | ⟨e, _⟩ | ⟨e, u, e1, W1, W2⟩
    · rw [if_pos e]
      exact t0 (A' := i.2.1 :: A) (by omega) (by rw [e, List.length_cons]; rfl)
    · rw [e] at ht
      obtain ⟨x1, A1, rfl, l1⟩ := yG_c1 (A := A) (Nat.le_trans (by decide) ht)
      have ht1 : 3 ≤ A1.length + 1 := ht
      obtain ⟨x2, A2, rfl, l2⟩ := yG_c1 (A := A1) (by omega)
      have ht2 : 3 ≤ A2.length + 1 + 1 := ht
      obtain ⟨x3, A3, rfl, l3⟩ := yG_c1 (A := A2) (by omega)
      simp (config := { decide := true }) only [e, if_false, if_true, List.cons_append]
      exact t0 (A' := (if x3 = 0 then x2 else x1) :: A3) (by omega) (by rw [e]; show A3.length + 1 = A3.length + 1 + 1 + 1 - 3 + 1; omega)
    · simp (config := { decide := true }) only [e, if_false, if_true]
      exact t0 (A' := c (base + i.2.1.toNatClampNeg) :: A) (by omega) (by rw [e]; rfl)
    · rw [e] at ht
      obtain ⟨x1, A1, rfl, l1⟩ := yG_c1 (A := A) ht
      simp (config := { decide := true }) only [e, if_false, if_true, List.cons_append]
      split
      · exact tf (by omega) (.inr rfl)
      · exact t0 (A' := c (base + i.2.1.toNatClampNeg + yE_ix i x1) :: A1) (by omega) (by rw [e]; show A1.length + 1 = A1.length + 1 - 1 + 1; omega)
    · simp (config := { decide := true }) only [e, if_false, if_true]
      exact t0 (A' := c (pl i.2.1.toNatClampNeg + i.2.2.1.toNatClampNeg) :: A) (by omega) (by rw [e]; rfl)
    · rw [e] at ht
      obtain ⟨x1, A1, rfl, l1⟩ := yG_c1 (A := A) ht
      simp (config := { decide := true }) only [e, if_false, if_true, List.cons_append]
      exact t0 (A' := A1) (by omega) (by rw [e]; show A1.length = A1.length + 1 - 1 + 0; omega)
    · rw [e] at ht
      obtain ⟨x1, A1, rfl, l1⟩ := yG_c1 (A := A) (Nat.le_trans (by decide) ht)
      have ht1 : 2 ≤ A1.length + 1 := ht
      obtain ⟨x2, A2, rfl, l2⟩ := yG_c1 (A := A1) (by omega)
      simp (config := { decide := true }) only [e, if_false, if_true, List.cons_append]
      split
      · rename_i hz
        obtain ⟨v, ev⟩ := yG_two (x := x2) hz
        rw [ev]
        exact t0 (A' := v :: A2) (by omega) (by rw [e]; show A2.length + 1 = A2.length + 1 + 1 - 2 + 1; omega)
      · exact tf (by omega) (.inl rfl)
    · rw [e] at ht
      obtain ⟨x1, A1, rfl, l1⟩ := yG_c1 (A := A) ht
      simp (config := { decide := true }) only [e, if_false, if_true, List.cons_append]
      exact t0 (A' := f_Cd_one i.2.1 x1 :: A1) (by omega) (by rw [e]; show A1.length + 1 = A1.length + 1 - 1 + 1; omega)
    · simp (config := { decide := true }) only [e, if_false, if_true, e1]
      rw [nI_clamp (show u < 2147483648 by omega)]
      obtain ⟨h1, h2, h3, h4⟩ := hU u (pl u) (c, A ++ S0, n + 1) W1 (hP u W1 W2)
      have ew : yP_w B i = B u := by unfold yP_w; rw [if_pos (.inr e), e1, nI_clamp (by omega)]
      refine ⟨h1, fun z => ⟨A, h2 z, by rw [e]; rfl⟩, h3, ?_⟩
      rw [ew]
      have : (U u (pl u) (c, A ++ S0, n + 1)).1.2.2 + 1 ≤ n + 1 + B u := h4
      show _ ≤ n + B u
      omega
  · rw [e] at ht
    obtain ⟨x1, A1, rfl, l1⟩ := yG_c1 (A := A) ht
    simp (config := { decide := true }) only [e, if_false, if_true, List.cons_append]
    exact t0 (A' := A1) (by omega) (by rw [e]; show A1.length = A1.length + 1 - 1 + 0; omega)
  · rw [e] at ht
    obtain ⟨x1, A1, rfl, l1⟩ := yG_c1 (A := A) (Nat.le_trans (by decide) ht)
    have ht1 : 2 ≤ A1.length + 1 := ht
    obtain ⟨x2, A2, rfl, l2⟩ := yG_c1 (A := A1) (by omega)
    simp (config := { decide := true }) only [e, if_false, if_true, List.cons_append]
    split
    · exact tf (by omega) (.inr rfl)
    · exact t0 (A' := A2) (by omega) (by rw [e]; show A2.length = A2.length + 1 + 1 - 2 + 0; omega)
  · simp (config := { decide := true }) only [e, if_false, if_true, e1, e2]
    rw [nI_clamp (show u < 2147483648 by omega), nI_clamp (show x < 2147483648 by omega)]
    obtain ⟨h1, h2, h3, h4⟩ := hU u (base + x) (c, A ++ S0, n + 1) W1 (fun w hw hk => by
      rcases dj w (by omega) hk with z | z
      · exact .inl (by omega)
      · exact .inr (by omega))
    have ew : yP_w B i = B u := by unfold yP_w; rw [if_pos (.inl e), e1, nI_clamp (by omega)]
    refine ⟨h1, fun z => ⟨A, h2 z, by rw [e]; rfl⟩, h3, ?_⟩
    rw [ew]
    have : (U u (base + x) (c, A ++ S0, n + 1)).1.2.2 + 1 ≤ n + 1 + B u := h4
    show _ ≤ n + B u
    omega
  · simp (config := { decide := true }) only [e, if_false, if_true]
    exact t0 (A' := A) (by omega) (by rw [e]; rfl)
theorem yG_L (hb : b ≤ 16) (hX : Y b ≤ X b ∧ X b ≤ 100000) (hU : yG_U X kb pl B b U) (hP : ∀ u, u < b → (kb u).1 = 1 → yE_dj X kb pl u (pl u)) (dj : yE_dj X kb pl b base) (S0 : List Int32) (c3 : yP3) (hc : ¬ yF_M c3 = none) : ∀ (L : List yI) (A : List Int32) (d2 : Nat) (c : Nat → Int32) (n : Nat), (∀ i, i ∈ L → yw_i X Y kb b lo i) → yo_h A.length L = some d2 → ((yE_L pl tm U base L (c, A ++ S0, n)).2 = 0 ∨ (yE_L pl tm U base L (c, A ++ S0, n)).2 = 3 ∨ (yE_L pl tm U base L (c, A ++ S0, n)).2 = 4) ∧ ((yE_L pl tm U base L (c, A ++ S0, n)).2 = 0 → ∃ A', (yE_L pl tm U base L (c, A ++ S0, n)).1.2.1 = A' ++ S0 ∧ A'.length = d2) ∧ n ≤ (yE_L pl tm U base L (c, A ++ S0, n)).1.2.2 ∧ yF c3 (yP_L B L c3) ((yE_L pl tm U base L (c, A ++ S0, n)).1.2.2 - n) (yE_L pl tm U base L (c, A ++ S0, n)).2 := by
  intro L
  induction L with
  | nil =>
    intro A d2 c n _ e
    refine ⟨.inl rfl, fun _ => ⟨A, rfl, Option.some.inj e⟩, Nat.le_refl _, fun _ => ?_, fun z => absurd z (show ¬ (0 : Nat) = 1 by decide), fun z => absurd z (show ¬ (0 : Nat) = 2 by decide), fun z => absurd z (show ¬ ((0 : Nat) = 3 ∨ (0 : Nat) = 4) by decide)⟩
    show yF_sh (n - n) c3 c3
    rw [Nat.sub_self]
    have key : ∀ a : Option Nat, yF_le (yP_p (some 0) a) a := fun a x ex => by
      cases a with
      | none => cases ex
      | some a =>
        have : 0 + a = x := Option.some.inj ex
        exact ⟨a, rfl, by omega⟩
    exact ⟨key _, key _, key _⟩
  | cons i L ih =>
    intro A d2 c n W e
    have ht : yo_t i.1 ≤ A.length := by
      rcases Nat.lt_or_ge A.length (yo_t i.1) with z | z
      · rw [yo_h, if_neg (by omega)] at e; cases e
      · exact z
    rw [yo_h, if_pos ht] at e
    obtain ⟨h1, h2, h3, h4⟩ := yG_1 (tm := tm) hb hX hU hP dj (W i (List.mem_cons_self ..)) A S0 c n ht
    have h3' : n ≤ (yE_1 pl tm U base i (c, A ++ S0, n)).1.2.2 := Nat.le_of_succ_le h3
    have h4' : (yE_1 pl tm U base i (c, A ++ S0, n)).1.2.2 ≤ n + yP_w B i := h4
    rw [yE_L, yP_L]
    by_cases z : (yE_1 pl tm U base i (c, A ++ S0, n)).2 = 0
    · rw [if_pos z]
      obtain ⟨A', a1, a2⟩ := h2 z
      rw [← a2] at e
      have es : (yE_1 pl tm U base i (c, A ++ S0, n)).1 = ((yE_1 pl tm U base i (c, A ++ S0, n)).1.1, A' ++ S0, (yE_1 pl tm U base i (c, A ++ S0, n)).1.2.2) := by rw [← a1]
      rw [es]
      obtain ⟨b1, b2, b3, b4⟩ := ih A' d2 (yE_1 pl tm U base i (c, A ++ S0, n)).1.1 (yE_1 pl tm U base i (c, A ++ S0, n)).1.2.2 (fun i hi => W i (List.mem_cons_of_mem _ hi)) e
      refine ⟨b1, b2, Nat.le_trans h3' b3, ?_⟩
      have := yF_seq (yF_a (d := (yE_1 pl tm U base i (c, A ++ S0, n)).1.2.2 - n) (w := yP_w B i) (c := yP_L B L c3) (by omega)) b4
      rw [show ((yE_1 pl tm U base i (c, A ++ S0, n)).1.2.2 - n) + ((yE_L pl tm U base L ((yE_1 pl tm U base i (c, A ++ S0, n)).1.1, A' ++ S0, (yE_1 pl tm U base i (c, A ++ S0, n)).1.2.2)).1.2.2 - (yE_1 pl tm U base i (c, A ++ S0, n)).1.2.2) = (yE_L pl tm U base L ((yE_1 pl tm U base i (c, A ++ S0, n)).1.1, A' ++ S0, (yE_1 pl tm U base i (c, A ++ S0, n)).1.2.2)).1.2.2 - n by omega] at this
      exact this
    · rw [if_neg z]
      exact ⟨h1, fun q => absurd q z, h3', fun q => absurd q z, fun q => by rw [q] at h1; omega, fun q => by rw [q] at h1; omega, fun _ => yF_aM (by omega) (yF_LM L hc)⟩
end YGT
end
section
/-! The machine: a run of statements: its outcomes, its stack, its steps. -/
theorem yF_Mx {t : yP3} {y : Nat} (h : yF_M t = some y) : t.1 = some y ∨ t.2.1 = some y ∨ t.2.2 = some y := by
  obtain ⟨a, b, c⟩ := t
  have key : ∀ (a b : Option Nat) (y : Nat), yP_m a b = some y → a = some y ∨ b = some y := by
    intro a b y h
    cases a with
    | none => exact .inr h
    | some a =>
      cases b with
      | none => exact .inl h
      | some b =>
        have h' : max a b = y := Option.some.inj h
        rcases Nat.le_total a b with z | z
        · right; rw [← h', Nat.max_eq_right z]
        · left; rw [← h', Nat.max_eq_left z]
  rcases key _ _ _ h with z | z
  · exact .inl z
  · rcases key _ _ _ z with z | z
    · exact .inr (.inl z)
    · exact .inr (.inr z)
theorem yF_psn {m x : Nat} {t : yP3} (hm : ¬ m = 0) (e : t.1 = some x) : yP_ps (m + 1) t = yP_p (some (1 + x)) (yP_ps m t) ∧ yP_b (m + 1) (yP_p (some 1) t.1) = yP_b m (yP_p (some 1) t.1) + (1 + x) := by
  have h1 : (m + 1 - 1) * (1 + x) = (m - 1) * (1 + x) + (1 + x) := by
    rw [Nat.add_sub_cancel]; exact yP_N1 hm (1 + x)
  have e2 : yP_b (m + 1) (yP_p (some 1) t.1) = yP_b m (yP_p (some 1) t.1) + (1 + x) := by rw [e]; exact h1
  refine ⟨?_, e2⟩
  unfold yP_ps
  rw [e2, e]
  show yP_m (some (yP_b m (yP_p (some 1) (some x)) + (1 + x) + (1 + x) + 1)) (yP_p (some (yP_b m (yP_p (some 1) (some x)) + (1 + x) + 1)) t.2.1) = yP_p (some (1 + x)) (yP_m (some (yP_b m (yP_p (some 1) (some x)) + (1 + x) + 1)) (yP_p (some (yP_b m (yP_p (some 1) (some x)) + 1)) t.2.1))
  generalize yP_b m (yP_p (some 1) (some x)) = w
  cases t.2.1 with
  | none => show some _ = some _; congr 1; omega
  | some z =>
    show some (max (w + (1 + x) + (1 + x) + 1) (w + (1 + x) + 1 + z)) = some (1 + x + max (w + (1 + x) + 1) (w + 1 + z))
    congr 1; omega
theorem yF_le2 {e y : Nat} {a : Option Nat} (l : e ≤ y) : yF_le (yP_p (some e) a) (yP_p (some y) a) := fun x ex => by
  cases a with
  | none => cases ex
  | some a =>
    have : e + a = x := Option.some.inj ex
    exact ⟨y + a, rfl, by omega⟩
/-- one more round -/
theorem yF_Ns {m x e : Nat} {t c : yP3} (h : t.1 = some x) (l : e ≤ 1 + x) : yF_sh e (yP_N m t c) (yP_N (m + 1) t c) := by
  by_cases hm : m = 0
  · subst hm
    rw [yF_N0]
    obtain ⟨y, y1, y2⟩ := (yF_ps (N := 0 + 1) (t := t)).1 x h
    have q := yF_pc (N := 0 + 1) (d := e + 1) (c := c) (by omega) y1 (by omega)
    refine ⟨?_, ?_, ?_⟩
    · show yF_le (yP_p (some e) (yP_p (some 1) c.1)) _
      rw [← yF_pp]; exact q.1
    · show yF_le (yP_p (some e) (yP_p (some 1) c.2.1)) _
      rw [← yF_pp]; exact q.2.1
    · show yF_le (yP_p (some e) (yP_p (some 1) c.2.2)) _
      rw [← yF_pp]; exact q.2.2
  · obtain ⟨p1, p2⟩ := yF_psn hm h
    rw [yF_Nn hm, yF_Nn (show ¬ m + 1 = 0 by omega), p1, p2]
    have k1 : ∀ a : Option Nat, yF_le (yP_p (some e) (yP_p (yP_ps m t) a)) (yP_p (yP_p (some (1 + x)) (yP_ps m t)) a) := fun a => by
      rw [yP_pa]; exact yF_le2 l
    refine ⟨k1 _, k1 _, ?_⟩
    rw [yP_pm]
    refine yF_lm.2.2 (yF_lt ?_ (yF_lm (c := none)).1) (yF_lt (k1 _) (yF_lm (c := none)).2.1)
    have : yP_p (some (yP_b m (yP_p (some 1) t.1) + (1 + x) + 1)) t.2.2 = yP_p (some (1 + x)) (yP_p (some (yP_b m (yP_p (some 1) t.1) + 1)) t.2.2) := by
      rw [← yF_pp]; congr 2; omega
    rw [this]
    exact yF_le2 l
section YGR
variable {X Y : Nat → Nat} {kb : Nat → yK} {pl : Nat → Nat} {tm : Nat → Nat → (Nat → Int32) → Nat → Int32} {U : Nat → Nat → yE → yE × Nat} {B : Nat → Nat} {b base : Nat}
/-- what holds of a run -/
def yG_R (c t : yP3) (s : yE) (r : yE × Nat) : Prop := r.2 ≤ 4 ∧ (r.2 ≤ 2 → r.1.2.1 = s.2.1) ∧ s.2.2 ≤ r.1.2.2 ∧ yF c t (r.1.2.2 - s.2.2) r.2
theorem yG_0 {c : yP3} {s : yE} : yG_R c c s (s, 0) := by
  refine ⟨by show 0 ≤ 4; omega, fun _ => rfl, Nat.le_refl _, fun _ => ?_, fun z => absurd z (show ¬ (0 : Nat) = 1 by decide), fun z => absurd z (show ¬ (0 : Nat) = 2 by decide), fun z => absurd z (show ¬ ((0 : Nat) = 3 ∨ (0 : Nat) = 4) by decide)⟩
  show yF_sh (s.2.2 - s.2.2) c c
  rw [Nat.sub_self]
  have key : ∀ a : Option Nat, yF_le (yP_p (some 0) a) a := fun a x ex => by
    cases a with
    | none => cases ex
    | some a =>
      have : 0 + a = x := Option.some.inj ex
      exact ⟨a, rfl, by omega⟩
  exact ⟨key _, key _, key _⟩
/-- one run behind the other -/
theorem yG_sq {a c t : yP3} {s : yE} {r q : yE × Nat} (R1 : yG_R c t s r) (h0 : r.2 = 0) (R2 : yG_R a c r.1 q) : yG_R a t s q := by
  refine ⟨R2.1, fun z => (R2.2.1 z).trans (R1.2.1 (by omega)), Nat.le_trans R1.2.2.1 R2.2.2.1, ?_⟩
  have := yF_seq (R1.2.2.2.1 h0) R2.2.2.2
  have e1 := R1.2.2.1
  have e2 := R2.2.2.1
  rw [show (r.1.2.2 - s.2.2) + (q.1.2.2 - r.1.2.2) = q.1.2.2 - s.2.2 by omega] at this
  exact this
/-- a run that does not go on -/
theorem yG_st {a c t : yP3} {s : yE} {r : yE × Nat} (R1 : yG_R c t s r) (h0 : ¬ r.2 = 0) : yG_R a t s r := ⟨R1.1, R1.2.1, R1.2.2.1, fun z => absurd z h0, R1.2.2.2.2⟩
/-- one more step before -/
theorem yG_pre {a c t : yP3} {s s' : yE} {q : yE × Nat} (h1 : s'.2.1 = s.2.1) (h2 : s'.2.2 = s.2.2 + 1) (h3 : yF_sh 1 c t) (R2 : yG_R a c s' q) : yG_R a t s q := by
  refine ⟨R2.1, fun z => (R2.2.1 z).trans h1, by have := R2.2.2.1; omega, ?_⟩
  have := yF_seq h3 R2.2.2.2
  have e2 := R2.2.2.1
  rw [show 1 + (q.1.2.2 - s'.2.2) = q.1.2.2 - s.2.2 by omega] at this
  exact this
/-- rounds of a loop -/
theorem yG_lp {body : yE → yE × Nat} {cell : Nat} {t c : yP3} (hc : ¬ yF_M c = none) (Hb : ∀ s, yG_R (some 1, none, none) t s (body s)) (Hc : ∀ s, (body s).1.1 cell = s.1 cell) : ∀ (m f : Nat) (s : yE), s.1 cell = nI m → m < f → m ≤ 1000000 → yG_R c (yP_N m t c) s (yE_l body cell f s) ∧ ¬ (yE_l body cell f s).2 = 1 := by
  intro m
  induction m with
  | zero =>
    intro f s e hf _
    obtain ⟨f, rfl⟩ : ∃ z, f = z + 1 := ⟨f - 1, by omega⟩
    rw [yE_l, if_pos (by rw [e]; rfl), yF_N0]
    exact ⟨yG_pre (s' := (s.1, s.2.1, s.2.2 + 1)) rfl rfl (yF_a (Nat.le_refl _)) yG_0, by show ¬ (0 : Nat) = 1; decide⟩
  | succ m ih =>
    intro f s e hf hm
    obtain ⟨f, rfl⟩ : ∃ z, f = z + 1 := ⟨f - 1, by omega⟩
    have e1 : s.1 cell - 1 = nI m := by rw [e]; exact zi_sub (a := m + 1) (b := 1) (by omega)
    rw [yE_l, if_neg (by rw [e]; exact mt (zc_eq (k := 0) (by decide) (by omega)).mp (by omega)), e1]
    have R := Hb (yE_u s.1 cell (nI m), s.2.1, s.2.2 + 1)
    have cl : (body (yE_u s.1 cell (nI m), s.2.1, s.2.2 + 1)).1.1 cell = nI m := (Hc _).trans (if_pos rfl)
    generalize hq : body (yE_u s.1 cell (nI m), s.2.1, s.2.2 + 1) = q at R cl
    obtain ⟨r1, r2, r3, r4⟩ := R
    have r2' : q.2 ≤ 2 → q.1.2.1 = s.2.1 := r2
    have r3' : s.2.2 + 1 ≤ q.1.2.2 := r3
    have r4' : yF (some 1, none, none) t (q.1.2.2 - (s.2.2 + 1)) q.2 := r4
    have mono : ∀ {d y : Nat}, yP_ps (m + 1) t = some y → d ≤ y → yF_sh d c (yP_N (m + 1) t c) := fun h1 h2 => yF_pc (by omega) h1 h2
    by_cases z0 : q.2 = 0
    · rw [if_pos z0]
      obtain ⟨x, x1, x2⟩ := (r4'.1 z0).1 (q.1.2.2 - (s.2.2 + 1) + 1) rfl
      obtain ⟨Rl, nl⟩ := ih f (q.1.1, q.1.2.1, q.1.2.2 + 1) cl (by omega) (by omega)
      refine ⟨⟨Rl.1, fun w => (Rl.2.1 w).trans (r2' (by omega)), by have : q.1.2.2 + 1 ≤ _ := Rl.2.2.1; omega, ?_⟩, nl⟩
      have := yF_seq (yF_Ns (m := m) (c := c) (e := 1 + (q.1.2.2 - (s.2.2 + 1) + 1)) x1 (by omega)) Rl.2.2.2
      have l3 : q.1.2.2 + 1 ≤ (yE_l body cell f (q.1.1, q.1.2.1, q.1.2.2 + 1)).1.2.2 := Rl.2.2.1
      rw [show 1 + (q.1.2.2 - (s.2.2 + 1) + 1) + ((yE_l body cell f (q.1.1, q.1.2.1, q.1.2.2 + 1)).1.2.2 - (q.1.1, q.1.2.1, q.1.2.2 + 1).2.2) = (yE_l body cell f (q.1.1, q.1.2.1, q.1.2.2 + 1)).1.2.2 - s.2.2 by
        show 1 + (q.1.2.2 - (s.2.2 + 1) + 1) + ((yE_l body cell f (q.1.1, q.1.2.1, q.1.2.2 + 1)).1.2.2 - (q.1.2.2 + 1)) = _
        omega] at this
      exact this
    rw [if_neg z0]
    by_cases z1 : q.2 = 1
    · rw [if_pos z1]
      obtain ⟨x, x1, x2⟩ := r4'.2.1 z1 _ rfl
      obtain ⟨y, y1, y2⟩ := (yF_ps (N := m + 1) (t := t)).2 x x1
      refine ⟨⟨by show 0 ≤ 4; omega, fun _ => r2' (by omega), by show s.2.2 ≤ q.1.2.2; omega, fun _ => mono y1 (by show q.1.2.2 - s.2.2 ≤ y; omega), fun w => absurd w (show ¬ (0 : Nat) = 1 by decide), fun w => absurd w (show ¬ (0 : Nat) = 2 by decide), fun w => absurd w (show ¬ ((0 : Nat) = 3 ∨ (0 : Nat) = 4) by decide)⟩, by show ¬ (0 : Nat) = 1; decide⟩
    rw [if_neg z1]
    refine ⟨⟨r1, r2', by omega, fun w => absurd w z0, fun w => absurd w z1, fun w => ?_, fun w => ?_⟩, z1⟩
    · obtain ⟨x, x1, x2⟩ := r4'.2.2.1 w _ rfl
      rw [yF_Nn (show ¬ m + 1 = 0 by omega), x1]
      intro d ed
      have : q.1.2.2 - s.2.2 = d := Option.some.inj ed
      obtain ⟨y, y1, y2⟩ := (yF_lm (a := yP_p (some (yP_b (m + 1) (yP_p (some 1) t.1) + 1)) (some x)) (b := yP_p (yP_ps (m + 1) t) c.2.2) (c := none)).1 _ rfl
      exact ⟨y, y1, by omega⟩
    · obtain ⟨x, x1, x2⟩ := r4'.2.2.2 w _ rfl
      have fin : ∀ {y : Nat}, yP_ps (m + 1) t = some y → q.1.2.2 - s.2.2 ≤ y → yF_le (some (q.1.2.2 - s.2.2)) (yF_M (yP_N (m + 1) t c)) := fun {y} h1 h2 => by
        have k := yF_shM (mono h1 h2)
        cases hm2 : yF_M c with
        | none => exact absurd hm2 hc
        | some mc =>
          rw [hm2] at k
          intro d ed
          have : q.1.2.2 - s.2.2 = d := Option.some.inj ed
          obtain ⟨y', k1, k2⟩ := k _ rfl
          exact ⟨y', k1, by omega⟩
      rcases yF_Mx x1 with e | e | e
      · obtain ⟨y, y1, y2⟩ := (yF_ps (N := m + 1) (t := t)).1 x e
        exact fin y1 (by omega)
      · obtain ⟨y, y1, y2⟩ := (yF_ps (N := m + 1) (t := t)).2 x e
        exact fin y1 (by omega)
      · refine yF_lt ?_ yF_Mc.2.2
        rw [yF_Nn (show ¬ m + 1 = 0 by omega), e]
        intro d ed
        have : q.1.2.2 - s.2.2 = d := Option.some.inj ed
        obtain ⟨y, y1, y2⟩ := (yF_lm (a := yP_p (some (yP_b (m + 1) (yP_p (some 1) t.1) + 1)) (some x)) (b := yP_p (yP_ps (m + 1) t) c.2.2) (c := none)).1 _ rfl
        exact ⟨y, y1, by omega⟩
end YGR
end
section
/-! The machine: a run of statements, by T; of units. -/
section YGV
variable {X Y : Nat → Nat} {kb : Nat → yK} {pl : Nat → Nat} {tm : Nat → Nat → (Nat → Int32) → Nat → Int32} {U : Nat → Nat → yE → yE × Nat} {B : Nat → Nat} {b base : Nat}
theorem yG_pr2 {a c t : yP3} {s s' : yE} {q : yE × Nat} {k : Nat} (h1 : s'.2.1 = s.2.1) (h2 : s'.2.2 = s.2.2 + k) (h3 : yF_sh k c t) (R2 : yG_R a c s' q) : yG_R a t s q := by
  refine ⟨R2.1, fun z => (R2.2.1 z).trans h1, by have := R2.2.2.1; omega, ?_⟩
  have := yF_seq h3 R2.2.2.2
  have e2 := R2.2.2.1
  rw [show k + (q.1.2.2 - s'.2.2) = q.1.2.2 - s.2.2 by omega] at this
  exact this
theorem yF_x {c d : yP3} : yF_sh 0 c (yP_x c d) ∧ yF_sh 0 d (yP_x c d) := by
  have k0 : ∀ a : Option Nat, yP_p (some 0) a = a := fun a => by
    cases a with
    | none => rfl
    | some a => show some (0 + a) = some a; rw [Nat.zero_add]
  unfold yF_sh
  rw [k0, k0, k0, k0, k0, k0]
  exact ⟨⟨(yF_lm (c := none)).1, (yF_lm (c := none)).1, (yF_lm (c := none)).1⟩, (yF_lm (c := none)).2.1, (yF_lm (c := none)).2.1, (yF_lm (c := none)).2.1⟩
/-- the hypotheses of a block -/
def yG_h (X Y : Nat → Nat) (kb : Nat → yK) (pl : Nat → Nat) (tm : Nat → Nat → (Nat → Int32) → Nat → Int32) (B : Nat → Nat) (b base : Nat) (U : Nat → Nat → yE → yE × Nat) : Prop := b ≤ 16 ∧ (Y b ≤ X b ∧ ∀ u, u ≤ b → X u ≤ 100000) ∧ yG_U X kb pl B b U ∧ yE_hU X kb pl b U ∧ yE_ht tm ∧ (∀ u, u < b → (kb u).1 = 1 → yE_dj X kb pl u (pl u)) ∧ yE_dj X kb pl b base
def yG_V (X Y : Nat → Nat) (kb : Nat → yK) (pl : Nat → Nat) (tm : Nat → Nat → (Nat → Int32) → Nat → Int32) (B : Nat → Nat) (b base : Nat) (U : Nat → Nat → yE → yE × Nat) (T : ys) : Prop := ∀ (m lo : Nat) (E c : yP3) (s : yE), ((m = 0 ∧ yz_st T) ∨ (m = 1 ∧ yz_br T)) → yz_W X Y kb b T lo → Y b ≤ lo → (m = 1 → E = c) → ¬ yF_M c = none → yG_R c (yP_T B T E c) s (yE_T pl tm U base T s) ∧ ∀ n, yz_x T n = [] → ¬ (yE_T pl tm U base T s).2 = 1
/-- straight code with nothing left on the stack, or one number -/
theorem yG_Ls (H : yG_h X Y kb pl tm B b base U) {L : List yI} {d2 lo : Nat} (W : ∀ i, i ∈ L → yw_i X Y kb b lo i) (e : yo_h 0 L = some d2) {c : yP3} (hc : ¬ yF_M c = none) (s : yE) : ((yE_L pl tm U base L s).2 = 0 ∨ (yE_L pl tm U base L s).2 = 3 ∨ (yE_L pl tm U base L s).2 = 4) ∧ ((yE_L pl tm U base L s).2 = 0 → ∃ A', (yE_L pl tm U base L s).1.2.1 = A' ++ s.2.1 ∧ A'.length = d2) ∧ s.2.2 ≤ (yE_L pl tm U base L s).1.2.2 ∧ yF c (yP_L B L c) ((yE_L pl tm U base L s).1.2.2 - s.2.2) (yE_L pl tm U base L s).2 :=
  yG_L (lo := lo) H.1 ⟨H.2.1.1, H.2.1.2 b (Nat.le_refl _)⟩ H.2.2.1 H.2.2.2.2.2.1 H.2.2.2.2.2.2 s.2.1 c hc L [] d2 s.1 s.2.2 W e
variable {p : List yI × Int32 × Int32} {o : Unit} {l r : ys}
theorem yG_fin {c c' t : yP3} {s : yE} {q q2 : yE × Nat} (R : yG_R c' t s q) (n1 : ¬ q.2 = 1) (h : q.2 = 0 → yG_R c c' q.1 q2) : yG_R c t s (if q.2 = 0 then q2 else q) := by
  split
  · rename_i z; exact yG_sq R z (h z)
  · rename_i z; exact yG_st R z
theorem yG_fi2 {c c' t : yP3} {s : yE} {q q2 : yE × Nat} (R : yG_R c' t s q) (h : q.2 = 0 → yG_R c c' q.1 q2) : yG_R c t s (if q.2 = 0 then q2 else q) := by
  split
  · rename_i z; exact yG_sq R z (h z)
  · rename_i z; exact yG_st R z
theorem yG_T (H : yG_h X Y kb pl tm B b base U) : ∀ T : ys, yG_V X Y kb pl tm B b base U T := by
  intro T
  induction T with
  | leaf =>
    intro m lo E c s _ _ _ _ _
    exact ⟨yG_0, fun n _ => (show ¬ (0 : Nat) = 1 by decide)⟩
  | inner k p o l r ihl ihr =>
    intro m lo E c s hm ⟨W1, W2⟩ hY hE hc
    have hr : ((m = 0 ∧ yz_st r) ∨ (m = 1 ∧ yz_br r)) := hm.elim (fun z => .inl ⟨z.1, z.2.2⟩) (fun z => .inr ⟨z.1, z.2.2⟩)
    have hc' : ¬ yF_M (yP_T B r E c) = none := yF_way r E c hc
    have go := fun s => ihr m lo E c s hr W2 hY hE hc
    have xb := H.2.1.2 b (Nat.le_refl _)
    rw [yE_T, yP_T]
    by_cases k0 : k = 0
    · rw [if_pos k0] at W1
      rw [if_pos k0, if_pos k0]
      obtain ⟨a1, a2, a3, a4⟩ := yG_Ls H W1.2 W1.1 hc' s
      have R : yG_R (yP_T B r E c) (yP_L B p.1 (yP_T B r E c)) s (yE_L pl tm U base p.1 s) := ⟨by omega, fun z => by
        obtain ⟨A', q1, q2⟩ := a2 (by omega)
        rw [q1, List.eq_nil_of_length_eq_zero q2]; rfl, a3, a4⟩
      refine ⟨yG_fi2 R (fun z => (go _).1), fun n hx => ?_⟩
      have hx' : yz_x r (n + p.1.length) = [] := by rw [yz_x, if_pos k0] at hx; exact hx
      split
      · exact (go _).2 _ hx'
      · omega
    rw [if_neg k0] at W1
    rw [if_neg k0, if_neg k0]
    by_cases k2 : k = 2
    · rw [if_pos k2] at W1
      rw [if_neg (show ¬ k = 1 by omega), if_neg (show ¬ k = 1 by omega), if_pos k2, if_pos k2]
      obtain ⟨cc, N, w1, w2, w3, w4, w5, w6, w7⟩ := W1
      rw [w1, w2, nI_clamp (show cc < 2147483648 by omega), nI_clamp (show N < 2147483648 by omega)]
      have nal : ¬ yE_al X Y kb pl b base (cc + 1) (base + cc) := fun z => by
        rcases z with z | z | ⟨u, u1, u2, u3⟩
        · omega
        · omega
        · rcases H.2.2.2.2.2.2 u u1 u2 with z | z
          · omega
          · omega
      obtain ⟨R, nR⟩ := yG_lp (body := yE_T pl tm U base l) (cell := base + cc) (t := yP_T B l (none, none, none) (some 1, none, none)) hc' (fun s => (ihl 0 (cc + 1) (none, none, none) (some 1, none, none) s (.inl ⟨rfl, w6⟩) w7 (by omega) (fun z => absurd z (by decide)) (yF_nM (x := 1) (.inl rfl))).1) (fun s => yE_Tw H.1 H.2.1 H.2.2.2.1 H.2.2.2.2.1 l (cc + 1) s (base + cc) w7 nal) N (N + 1) (yE_u s.1 (base + cc) (nI N), s.2.1, s.2.2 + 1) (if_pos rfl) (by omega) w5
      have R' := yG_pr2 (s := s) (s' := (yE_u s.1 (base + cc) (nI N), s.2.1, s.2.2 + 1)) (k := 1) (t := yP_a 1 (yP_N N (yP_T B l (none, none, none) (some 1, none, none)) (yP_T B r E c))) rfl rfl (yF_a (Nat.le_refl _)) R
      refine ⟨yG_fi2 R' (fun z => (go _).1), fun n hx => ?_⟩
      have hx' : yz_x r (n + (3 + yz_l l)) = [] := by rw [yz_x, if_neg k0, if_neg (show ¬ k = 1 by omega), if_pos k2] at hx; exact hx
      split
      · exact (go _).2 _ hx'
      · exact nR
    rw [if_neg k2] at W1
    by_cases k5 : k = 5
    · rw [if_pos k5] at W1
      have m1 : m = 1 := by
        rcases hm with ⟨_, z, _⟩ | ⟨z1, _⟩
        · omega
        · exact z1
      have eE := hE m1
      subst eE
      rw [if_neg (show ¬ k = 1 by omega), if_neg (show ¬ k = 1 by omega), if_neg k2, if_neg k2, if_neg (show ¬ k = 3 by omega), if_neg (show ¬ k = 3 by omega), if_neg (show ¬ k = 4 by omega), if_neg (show ¬ k = 4 by omega), if_pos k5, if_pos k5]
      obtain ⟨cb, hcb⟩ : ∃ cb, cb = (if yz_f r = true then yP_T B r E E else yP_a 1 E) := ⟨_, rfl⟩
      rw [← hcb]
      have hcbM : ¬ yF_M cb = none := by
        rw [hcb]; split
        · exact hc'
        · exact yF_ne (yF_a (d := 0) (Nat.zero_le _)) hc
      have lv : yz_f r = true → yP_T B r E E = E := fun z => by
        cases r with
        | leaf => rfl
        | inner => cases z
      have c5M : ¬ yF_M (yP_a 1 (yP_x (yP_T B l (none, none, none) cb) (yP_T B r E E))) = none := yF_ne (yF_a (d := 0) (Nat.zero_le _)) (yF_ne yF_x.2 hc')
      obtain ⟨a1, a2, a3, a4⟩ := yG_Ls (lo := lo) H (fun i hi => .inl (W1.2.1 i hi)) W1.1 c5M s
      generalize yE_L pl tm U base p.1 s = q at a1 a2 a3 a4
      have sh1 : ∀ {z : yP3}, yF_sh 0 z (yP_x (yP_T B l (none, none, none) cb) (yP_T B r E E)) → yF_sh 1 z (yP_a 1 (yP_x (yP_T B l (none, none, none) cb) (yP_T B r E E))) := fun h => by
        have := yF_sht (yF_a (d := 1) (w := 1) (Nat.le_refl _)) h
        exact this
      by_cases z : q.2 = 0
      · rw [if_pos z]
        obtain ⟨A', q1, q2⟩ := a2 z
        obtain ⟨y, rfl⟩ : ∃ y, A' = [y] := by
          cases A' with
          | nil => cases q2
          | cons y A' =>
            have : A'.length + 1 = 1 := q2
            exact ⟨y, by rw [List.eq_nil_of_length_eq_zero (show A'.length = 0 by omega)]⟩
        have q1' : q.1.2.1 = y :: s.2.1 := q1
        rw [q1']
        have pre : ∀ {z : yP3}, yF_sh 0 z (yP_x (yP_T B l (none, none, none) cb) (yP_T B r E E)) → yF_sh (q.1.2.2 - s.2.2 + 1) z (yP_L B p.1 (yP_a 1 (yP_x (yP_T B l (none, none, none) cb) (yP_T B r E E)))) := fun h => yF_sht (a4.1 z) (sh1 h)
        have st2 : (q.1.1, s.2.1, q.1.2.2 + 1).2.2 = s.2.2 + (q.1.2.2 - s.2.2 + 1) := by show q.1.2.2 + 1 = _; omega
        show yG_R E _ s (if y = 0 then _ else _) ∧ ∀ n, _ → ¬ (if y = 0 then _ else _ : yE × Nat).2 = 1
        by_cases zy : y = 0
        · rw [if_pos zy]
          have g := go (q.1.1, s.2.1, q.1.2.2 + 1)
          refine ⟨yG_pr2 (s' := (q.1.1, s.2.1, q.1.2.2 + 1)) rfl st2 (pre yF_x.2) g.1, fun n hx => ?_⟩
          rw [yz_x, if_neg k0, if_neg (show ¬ k = 1 by omega), if_neg k2, if_neg (show ¬ k = 3 by omega), if_neg (show ¬ k = 4 by omega), if_pos k5] at hx
          exact g.2 _ (List.append_eq_nil_iff.mp hx).1
        · rw [if_neg zy]
          have g := ihl 0 lo (none, none, none) cb (q.1.1, s.2.1, q.1.2.2 + 1) (.inl ⟨rfl, W1.2.2.1⟩) W1.2.2.2 hY (fun z => absurd z (by decide)) hcbM
          have R := yG_pr2 (s := s) (s' := (q.1.1, s.2.1, q.1.2.2 + 1)) rfl st2 (pre yF_x.1) g.1
          generalize yE_T pl tm U base l (q.1.1, s.2.1, q.1.2.2 + 1) = q3 at R g
          have nx : ∀ n, yz_x (.inner k p o l r) n = [] → ¬ q3.2 = 1 := fun n hx => by
            rw [yz_x, if_neg k0, if_neg (show ¬ k = 1 by omega), if_neg k2, if_neg (show ¬ k = 3 by omega), if_neg (show ¬ k = 4 by omega), if_pos k5] at hx
            exact g.2 _ (List.append_eq_nil_iff.mp hx).2
          by_cases z3 : q3.2 = 0
          · rw [if_pos z3]
            by_cases zf : yz_f r = true
            · rw [if_pos zf]
              rw [if_pos zf, lv zf] at hcb
              rw [hcb] at R ⊢
              exact ⟨R, nx⟩
            · rw [if_neg zf]
              rw [if_neg zf] at hcb
              refine ⟨?_, fun n _ => (show ¬ (0 : Nat) = 1 by decide)⟩
              rw [hcb] at R ⊢
              exact yG_sq R z3 (yG_pr2 (s' := (q3.1.1, q3.1.2.1, q3.1.2.2 + 1)) (k := 1) rfl rfl (yF_a (Nat.le_refl _)) yG_0)
          · rw [if_neg z3]
            exact ⟨yG_st R z3, nx⟩
      · rw [if_neg z]
        exact ⟨⟨by omega, fun w => by omega, a3, fun w => absurd w z, a4.2⟩, fun n _ => by omega⟩
    rw [if_neg k5] at W1
    by_cases k1 : k = 1
    · rw [if_pos k1] at W1
      rw [if_pos k1, if_pos k1]
      have g := ihl 1 lo (yP_T B r E c) (yP_T B r E c) s (.inr ⟨rfl, W1.1⟩) W1.2 hY (fun _ => rfl) hc'
      refine ⟨yG_fi2 g.1 (fun z => (go _).1), fun n hx => ?_⟩
      rw [yz_x, if_neg k0, if_pos k1] at hx
      obtain ⟨x1, x2⟩ := List.append_eq_nil_iff.mp hx
      split
      · exact (go _).2 _ x1
      · exact g.2 _ x2
    rw [if_neg k1] at W1
    rw [if_neg k1, if_neg k1, if_neg k2, if_neg k2]
    by_cases k3 : k = 3
    · rw [if_pos k3, if_pos k3]
      refine ⟨⟨by show 1 ≤ 4; omega, fun _ => rfl, by show s.2.2 ≤ s.2.2 + 1; omega, fun z => absurd z (show ¬ (1 : Nat) = 0 by decide), fun _ => ?_, fun z => absurd z (show ¬ (1 : Nat) = 2 by decide), fun z => absurd z (show ¬ ((1 : Nat) = 3 ∨ (1 : Nat) = 4) by decide)⟩, fun n hx => ?_⟩
      · show yF_le (some (s.2.2 + 1 - s.2.2)) (some 1)
        rw [Nat.add_sub_cancel_left]; exact yF_l0
      · rw [yz_x, if_neg k0, if_neg k1, if_neg k2, if_pos k3] at hx
        exact absurd (List.append_eq_nil_iff.mp hx).2 (by intro q; cases q)
    rw [if_neg k3, if_neg k3]
    by_cases k4 : k = 4
    · rw [if_pos k4, if_pos k4]
      refine ⟨⟨by show 2 ≤ 4; omega, fun _ => rfl, by show s.2.2 ≤ s.2.2 + 1; omega, fun z => absurd z (show ¬ (2 : Nat) = 0 by decide), fun z => absurd z (show ¬ (2 : Nat) = 1 by decide), fun _ => ?_, fun z => absurd z (show ¬ ((2 : Nat) = 3 ∨ (2 : Nat) = 4) by decide)⟩, fun n hx => (show ¬ (2 : Nat) = 1 by decide)⟩
      show yF_le (some (s.2.2 + 1 - s.2.2)) (some 1)
      rw [Nat.add_sub_cancel_left]; exact yF_l0
    rw [if_neg k4, if_neg k4, if_neg k5, if_neg k5]
    have g := ihl 0 lo (none, none, none) (yP_T B r E c) s (.inl ⟨rfl, W1.1⟩) W1.2 hY (fun z => absurd z (by decide)) hc'
    refine ⟨yG_fi2 g.1 (fun z => (go _).1), fun n hx => ?_⟩
    rw [yz_x, if_neg k0, if_neg k1, if_neg k2, if_neg k3, if_neg k4, if_neg k5] at hx
    obtain ⟨x1, x2⟩ := List.append_eq_nil_iff.mp hx
    split
    · exact (go _).2 _ x1
    · exact g.2 _ x2
/-- all units -/
theorem yG_Us {X Y : Nat → Nat} {kb : Nat → yK} {pl : Nat → Nat} {tm : Nat → Nat → (Nat → Int32) → Nat → Int32} {T : Nat → ys} {nb : Nat} (hn : nb ≤ 16) (hX : ∀ u, u < nb → Y u ≤ X u ∧ X u ≤ 100000) (ht : yE_ht tm) (W : ∀ u, u < nb → yz_st (T u) ∧ (∀ n, yz_x (T u) n = []) ∧ yz_W X Y kb u (T u) (Y u)) (hP : ∀ u, u < nb → (kb u).1 = 1 → yE_dj X kb pl u (pl u)) : ∀ b, b ≤ nb → yG_U X kb pl (yV_B T b) b (yE_U T pl tm b) := by
  have hw : ∀ b, b ≤ nb → yE_hU X kb pl b (yE_U T pl tm b) := yE_Uw hn hX ht (fun u hu => (W u hu).2.2)
  intro b
  induction b with
  | zero => intro _ u base s hu; omega
  | succ b ih =>
    intro hb u base s hu dj
    unfold yG_r
    rw [yE_U, show yV_B T (b + 1) u = if u = b then yV_u (yV_W (yV_B T b) (T b)) else yV_B T b u from rfl]
    by_cases z : u = b
    · rw [if_pos z, if_pos z]
      subst z
      obtain ⟨w1, w2, w3⟩ := W u (by omega)
      have H : yG_h X Y kb pl tm (yV_B T u) u base (yE_U T pl tm u) := ⟨by omega, ⟨(hX u (by omega)).1, fun w hw => (hX w (by omega)).2⟩, ih (by omega), hw u (by omega), ht, fun w hw2 hk => hP w (by omega) hk, dj⟩
      obtain ⟨R, nR⟩ := yG_T H (T u) 0 (Y u) (none, none, none) (some 0, none, none) s (.inl ⟨rfl, w1⟩) w3 (Nat.le_refl _) (fun z => absurd z (by decide)) (yF_nM (x := 0) (.inl rfl))
      have n1 := nR 0 (w2 0)
      generalize yE_T pl tm (yE_U T pl tm u) base (T u) s = q at R n1
      obtain ⟨r1, r2, r3, r4⟩ := R
      have eW : yV_W (yV_B T u) (T u) = yF_M (yP_T (yV_B T u) (T u) (none, none, none) (some 0, none, none)) := by
        unfold yV_W yF_M
        rw [yF_out (T u) (none, none, none) (some 0, none, none) 0 (w2 0) rfl rfl]
        rfl
      have le : yF_le (some (q.1.2.2 - s.2.2)) (yV_W (yV_B T u) (T u)) := by
        rw [eW]
        have : q.2 = 0 ∨ q.2 = 2 ∨ (q.2 = 3 ∨ q.2 = 4) := by omega
        rcases this with z | z | z
        · refine yF_lt ?_ yF_Mc.1
          have := (r4.1 z).1
          exact this
        · exact yF_lt (r4.2.2.1 z) yF_Mc.2.2
        · exact r4.2.2.2 z
      obtain ⟨y, y1, y2⟩ := le _ rfl
      refine ⟨?_, fun z => r2 ?_, r3, ?_⟩
      · show (if q.2 = 2 then 0 else q.2) = 0 ∨ (if q.2 = 2 then 0 else q.2) = 3 ∨ (if q.2 = 2 then 0 else q.2) = 4
        split <;> omega
      · have z' : (if q.2 = 2 then 0 else q.2) = 0 := z
        split at z' <;> omega
      · rw [y1]
        show q.1.2.2 + 1 ≤ s.2.2 + (y + 1)
        omega
    · rw [if_neg z, if_neg z]
      exact ih (by omega) u base s (by omega) dj
end YGV
end
