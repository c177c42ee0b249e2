/-! The prover: a unit, on both sides. -/
/-- the bound of a unit -/
def yV_W (B : Nat → Nat) (T : ys) : Option Nat := yP_m (yP_T B T (none, none, none) (some 0, none, none)).1 (yP_T B T (none, none, none) (some 0, none, none)).2.2
section YVU
variable {B X Y : Nat → Nat} {kb : Nat → yK} {b s e u sz lo : Nat} {T : ys} {h g : zs_H}
theorem yV_i (hs : s ≤ e) (he : e ≤ 4000) : ∀ (m k N : Nat) (h : zs_H), k + m = e + 1 → s ≤ k → m < N → ∃ h', f_Pv_highest_L2 N h (nI s) (nI e) (nI k) = f_Pv_highest_L37 zF h' (nI e) (nI 0) (nI 0) (nI s) ∧ (∀ j, k ≤ j → j ≤ e → h'.2.1 53 j = if j = s then 1 else 0) ∧ (∀ j, j < k → h'.2.1 53 j = h.2.1 53 j) ∧ zfr [] [53] [] h h' := by
  have vb1 : vp_nar .boolean 1 = (1 : Int32) := by decide
  have vb0 : vp_nar .boolean 0 = (0 : Int32) := by decide
  intro m
  induction m with
  | zero =>
    intro k N h hk hsk hN
    obtain ⟨N, rfl⟩ : ∃ z, N = z + 1 := ⟨N - 1, by omega⟩
    refine ⟨h, ?_, fun j j1 j2 => by omega, fun _ _ => rfl, zfr_rfl⟩
    show f_Pv_highest_2 (f_Pv_highest_L2 N) h (nI s) (nI e) (nI k) = _
    unfold f_Pv_highest_2
    rw [if_pos ((nI_ltI (by omega) (by omega)).mpr (by omega))]
    rfl
  | succ m ih =>
    intro k N h hk hsk hN
    obtain ⟨N, rfl⟩ : ∃ z, N = z + 1 := ⟨N - 1, by omega⟩
    obtain ⟨h1, e1⟩ : ∃ h1, h1 = zs_uM h 53 k (if k = s then 1 else 0) := ⟨_, rfl⟩
    obtain ⟨h', a1, a2, a3, a4⟩ := ih (k + 1) N h1 (by omega) (by omega) (by omega)
    refine ⟨h', ?_, fun j j1 j2 => ?_, fun j j1 => ?_, zfr_trans (by rw [e1]; exact zfr_M (by decide) zfr_rfl) a4⟩
    · show f_Pv_highest_2 (f_Pv_highest_L2 N) h (nI s) (nI e) (nI k) = _
      unfold f_Pv_highest_2 f_Pv_highest_22
      simp only [if_neg (mt (nI_ltI (show e < 2147483648 by omega) (show k < 2147483648 by omega)).mp (by omega)), if_pos (zi_in (show k < 2147483648 by omega) (show k < 4001 by omega)), nI_clamp (show k < 2147483648 by omega), show nI k + 1 = nI (k + 1) from zc_ad 1 k, vb0, vb1]
      by_cases z : k = s
      · rw [if_pos (by rw [z])]
        rw [if_pos z] at e1
        rw [← e1]; exact a1
      · rw [if_neg (mt (nI_eq (by omega) (by omega)).mp z)]
        rw [if_neg z] at e1
        rw [← e1]; exact a1
    · by_cases z : j = k
      · rw [a3 j (by omega), e1, z]
        exact zu_MM.trans (if_pos ⟨rfl, rfl⟩)
      · exact a2 j (by omega) j2
    · rw [a3 j (by omega), e1]
      exact zu_MM.trans (if_neg fun z => by omega)
theorem yV_hi (hb : b ≤ 16) (he : s + yz_l T ≤ 4000) (st : yz_st T) (W : yz_W X Y kb b T lo) (xx : ∀ n, yz_x T n = []) (K : yP_K h s ((yz_c T s 0 0 0).map Prod.fst)) : ∃ h' mo, f_Pv_highest h (nI s) (nI (s + yz_l T)) = some (nI mo, h') ∧ mo ≤ 6000 ∧ (64 < mo ↔ yH_D T true = true) ∧ zfr [] [53] [] h h' := by
  have hz := zF_big
  obtain ⟨h1, a1, a2, _, a4⟩ := yV_i (show s ≤ s + yz_l T by omega) he (yz_l T + 1) s zF h (by omega) (Nat.le_refl _) (by omega)
  have K1 : yP_K h1 s ((yz_c T s 0 0 0).map Prod.fst) := by
    intro k i ei
    have q := K k i ei
    unfold yC_m at q ⊢
    rw [a4.2.1 _ (by decide), a4.2.1 _ (by decide), a4.2.1 _ (by decide), a4.2.1 _ (by decide)]
    exact q
  obtain ⟨h2, mo, b1, b2, b3, _, _, b6⟩ := yH_TC (X := X) (Y := Y) (kb := kb) hb he T 0 s 0 0 s 0 lo 0 true h1 (.inl ⟨rfl, st⟩) W (Nat.le_refl _) K1 (fun _ => xx s) (.inr ⟨rfl, Nat.le_refl _⟩) (fun z => absurd z (by decide)) (by omega) (by rw [a2 s (Nat.le_refl _) (by omega), if_pos rfl]; rfl) (fun j j1 j2 => by rw [a2 j (by omega) (by omega), if_neg (by omega)])
  obtain ⟨M, hM⟩ : ∃ M, zF = (M + 1) + yz_l T := ⟨zF - yz_l T - 1, by omega⟩
  refine ⟨h2, mo, ?_, b2, by rw [b3]; exact ⟨fun z => z.elim (fun z => by omega) id, .inr⟩, zfr_trans a4 ⟨fun _ _ _ => by rw [b6.1], fun a ha => by funext j; exact b6.2.2 a j (.inl (by simpa using ha)), fun _ _ => by rw [b6.2.1]⟩⟩
  unfold f_Pv_highest
  rw [a1, hM, b1]
  show f_Pv_highest_37 (f_Pv_highest_L37 M) h2 (nI (s + yz_l T)) (nI mo) (nI 0) (nI (s + yz_l T)) = _
  unfold f_Pv_highest_37
  rw [if_pos ((nI_leI (by omega) (by omega)).mpr (Nat.le_refl _))]
theorem yV_lo (hb : b ≤ 16) (he : s + yz_l T ≤ 4000) (st : yz_st T) (W : yz_W X Y kb b T lo) (xx : ∀ n, yz_x T n = []) (hv : yz_v T ≤ 61) (K : yP_K h s ((yz_c T s 0 0 0).map Prod.fst)) (hB : yP_B B b h) : ∃ h', f_Pv_longest h (nI s) (nI (s + yz_l T)) = some (yP_s 1099511627776 (yV_W B T), h') ∧ zfr [(51, 7)] [57] [54, 55, 56] h h' := by
  have hz := zF_big
  obtain ⟨h1, e1⟩ : ∃ h1, h1 = zs_uF h 51 7 (nI 0) := ⟨_, rfl⟩
  have f1 : zfr [(51, 7)] [57] [54, 55, 56] h h1 := by rw [e1]; exact zfr_F (by decide) zfr_rfl
  obtain ⟨h2, a1, a2, a3⟩ := yP_tell (h := h1) (v := 0) (j := s + yz_l T) (c := (some 0, none, none)) (by omega)
  have cv : ∀ {h h' : zs_H} {lo hi : Nat}, yP_fr lo hi 0 h h' → zfr [(51, 7)] [57] [54, 55, 56] h h' := fun f => ⟨fun a b _ => f.1 a b, fun a ha => by funext j; exact f.2.1 a j (fun z => absurd z (by simpa using ha)), fun a ha => by funext j; exact f.2.2 a j (.inl ha)⟩
  have K2 : yP_K h2 s ((yz_c T s 0 0 0).map Prod.fst) := yP_Kf a3 (by rw [e1]; exact K)
  have B2 : yP_B B b h2 := yP_Bf (by rw [e1]; exact hB) a3
  obtain ⟨h3, b1, b2, b3⟩ := yP_TC (X := X) (Y := Y) (kb := kb) (B := B) hb T 0 s 0 0 0 lo s (none, none, none) (some 0, none, none) h2 (.inl ⟨rfl, st⟩) W (Nat.le_refl _) he (by omega) B2 K2 ((a3.1 _ _).trans (by rw [e1]; rfl)) (fun _ => xx s) (fun z => absurd z (Nat.lt_irrefl 0)) (fun z => absurd z (by decide)) a2
  obtain ⟨M, hM⟩ : ∃ M, zF = (M + 1) + yz_l T := ⟨zF - yz_l T - 1, by omega⟩
  refine ⟨h3, ?_, zfr_trans f1 (zfr_trans (cv a3) (cv b3))⟩
  unfold f_Pv_longest
  rw [show (0 : Int32) = nI 0 from rfl, ← e1]
  rw [show f_Pv_tell h1 (nI (s + yz_l T)) 0 (-1) (-1) = some h2 from a1, Option.bind_some, hM, b1 (M + 1)]
  show f_Pv_longest_21 (f_Pv_longest_L21 M) h3 (nI s) (nI s - 1) = _
  unfold f_Pv_longest_21
  have lt : nI s - 1 < nI s := by
    by_cases z : s = 0
    · rw [z]; decide
    · rw [show nI s - 1 = nI (s - 1) from zi_sub (b := 1) (by omega)]
      exact (nI_ltI (by omega) (by omega)).mpr (by omega)
  rw [if_pos lt, if_pos (zi_in (by omega) (by omega)), nI_clamp (by omega), b2.1, b2.2.2, yP_mx (by decide)]
  rfl
theorem yV_d (he : sz ≤ 4000) : ∀ (m k N : Nat) (g : zs_H), k + m = sz + 1 → m < N → ∃ g', f_Mo_isDeep_L8 N g (nI u) (nI sz) (nI k) = f_Mo_isDeep_L35 zF (zs_uM g' 112 0 0) (nI u) (nI sz) (nI 0) ∧ (∀ j, k ≤ j → j ≤ sz → g'.2.1 112 j = -1) ∧ (∀ j, j < k → g'.2.1 112 j = g.2.1 112 j) ∧ zfr [] [112] [] g g' := by
  intro m
  induction m with
  | zero =>
    intro k N g hk hN
    obtain ⟨N, rfl⟩ : ∃ z, N = z + 1 := ⟨N - 1, by omega⟩
    refine ⟨g, ?_, fun j j1 j2 => by omega, fun _ _ => rfl, zfr_rfl⟩
    show f_Mo_isDeep_8 (f_Mo_isDeep_L8 N) g (nI u) (nI sz) (nI k) = _
    unfold f_Mo_isDeep_8
    rw [if_pos ((nI_ltI (by omega) (by omega)).mpr (by omega))]
    rfl
  | succ m ih =>
    intro k N g hk hN
    obtain ⟨N, rfl⟩ : ∃ z, N = z + 1 := ⟨N - 1, by omega⟩
    obtain ⟨g1, e1⟩ : ∃ g1, g1 = zs_uM g 112 k (-1) := ⟨_, rfl⟩
    obtain ⟨g', a1, a2, a3, a4⟩ := ih (k + 1) N g1 (by omega) (by omega)
    refine ⟨g', ?_, fun j j1 j2 => ?_, fun j j1 => ?_, zfr_trans (by rw [e1]; exact zfr_M (by decide) zfr_rfl) a4⟩
    · show f_Mo_isDeep_8 (f_Mo_isDeep_L8 N) g (nI u) (nI sz) (nI k) = _
      unfold f_Mo_isDeep_8
      rw [if_neg (mt (nI_ltI (by omega) (by omega)).mp (by omega)), if_pos (zi_in (by omega) (by omega)), nI_clamp (by omega), show nI k + 1 = nI (k + 1) from zc_ad 1 k, ← e1]
      exact a1
    · by_cases z : j = k
      · rw [a3 j (by omega), e1, z]
        exact zu_MM.trans (if_pos ⟨rfl, rfl⟩)
      · exact a2 j (by omega) j2
    · rw [a3 j (by omega), e1]
      exact zu_MM.trans (if_neg fun z => by omega)
theorem yV_sz (C : yD_c u s sz g) : f_Mo_sizeOf g (nI u) = some (nI sz) := by
  obtain ⟨c1, c2, c3, c4⟩ := C
  unfold f_Mo_sizeOf
  rw [show nI u + 1 = nI (u + 1) from zc_ad 1 u, if_pos (zi_in (by omega) (by omega)), if_pos (zi_in (by omega) (by omega)), nI_clamp (by omega), nI_clamp (by omega), c3, c4, zi_sub (by omega), Nat.add_sub_cancel_left]
theorem yV_deep (hb : b ≤ 16) (C : yD_c u s (yz_l T) g) (st : yz_st T) (W : yz_W X Y kb b T lo) (xx : ∀ n, yz_x T n = []) (K : yQ_K g s s (yz_c T s 0 0 0)) : ∃ g', f_Mo_isDeep g (nI u) = some (if yH_D T true = true then 1 else 0, g') ∧ zfr [] [112] [] g g' := by
  have hz := zF_big
  have c2 := C.2.1
  obtain ⟨g1, a1, a2, _, a4⟩ := yV_d (u := u) (sz := yz_l T) (by omega) (yz_l T + 1) 0 zF g (by omega) (by omega)
  obtain ⟨g2, e2⟩ : ∃ g2, g2 = zs_uM g1 112 0 0 := ⟨_, rfl⟩
  have f2 : zfr [] [112] [] g g2 := zfr_trans a4 (by rw [e2]; exact zfr_M (by decide) zfr_rfl)
  have K2 : yQ_K g2 s s (yz_c T s 0 0 0) := by
    intro k i ei
    have q := K k i ei
    unfold yM_m at q ⊢
    rw [f2.2.1 _ (by decide), f2.2.1 _ (by decide), f2.2.1 _ (by decide), f2.2.1 _ (by decide), f2.2.1 _ (by decide)]
    exact q
  have C2 : yD_c u s (yz_l T) g2 := ⟨C.1, C.2.1, by rw [f2.2.1 _ (by decide)]; exact C.2.2.1, by rw [f2.2.1 _ (by decide)]; exact C.2.2.2⟩
  have e0 : f_Mo_isDeep g (nI u) = f_Mo_isDeep_L35 zF g2 (nI u) (nI (yz_l T)) (nI (s - s)) := by
    unfold f_Mo_isDeep
    rw [yV_sz C, Option.bind_some, Nat.sub_self, e2]
    exact a1
  obtain ⟨M, hM⟩ : ∃ M, zF = (M + 1) + yz_l T := ⟨zF - yz_l T - 1, by omega⟩
  rcases yD_TM (X := X) (Y := Y) (kb := kb) hb T 0 s 0 0 s 0 lo true g2 (.inl ⟨rfl, st⟩) W (Nat.le_refl _) (Nat.le_refl _) C2 K2 (fun _ => xx s) (.inr ⟨rfl, Nat.le_refl _⟩) (fun z => absurd z (by decide)) (fun _ => by rw [Nat.sub_self, e2]; exact zu_MM.trans (if_pos ⟨rfl, rfl⟩)) (fun j j1 j2 => by
    rw [e2]
    exact (zu_MM.trans (if_neg fun z => by have := z.2; omega)).trans (a2 (j - s) (by omega) (by omega))) with ⟨d, g3, b1, b2⟩ | ⟨d, g3, b1, _, _, b4⟩
  · refine ⟨g3, ?_, zfr_trans f2 b2⟩
    rw [e0, if_pos d, hM]
    exact b1 _
  · refine ⟨g3, ?_, zfr_trans f2 (yD_z b4)⟩
    rw [e0, d, if_neg (by decide), hM, b1]
    show f_Mo_isDeep_35 (f_Mo_isDeep_L35 M) g3 (nI u) (nI (yz_l T)) (nI (s + yz_l T - s)) = _
    unfold f_Mo_isDeep_35
    rw [if_pos ((nI_leI (by omega) (by omega)).mpr (by omega))]
theorem yV_sum (hb : b ≤ 16) (C : yD_c u s (yz_l T) g) (st : yz_st T) (W : yz_W X Y kb b T lo) (xx : ∀ n, yz_x T n = []) (hv : yz_v T ≤ 61) (K : yQ_K g s s (yz_c T s 0 0 0)) (hB : yQ_B B b g) : ∃ g', f_Mo_sumOf g (nI u) = some (yP_s 1000000000000 (yV_W B T), g') ∧ zfr [] [] [113] g g' := by
  have hz := zF_big
  have c1 := C.1
  have c2 := C.2.1
  have cv : ∀ {g g' : zs_H} {lo hi : Nat}, yQ_fr lo hi g g' → zfr [] [] [113] g g' := fun f => ⟨fun _ _ _ => by rw [f.1], fun _ _ => by rw [f.2.1], fun a ha => by funext j; exact f.2.2 a j (.inl (by simpa using ha))⟩
  obtain ⟨g1, a1, a2, a3⟩ := yQ_step (g := g) (s := s) (u := u) (j := yz_l T) (n := yz_l T) (v := 0) (R := yQ_e) (Nat.le_refl _) (by omega) (by decide) (by omega) (fun k hk => if_neg (by omega)) (.inl ⟨rfl, rfl⟩) (fun k g' hk _ => by
    rw [if_pos rfl, show k = 0 by omega]; rfl)
  have C1 : yQ_c B b u s (yz_l T) g1 := yQ_cf a3 ⟨⟨C.2.2.1, C.2.2.2⟩, hB⟩
  have r0 : yQ_at g1 (yz_l T) (yP_R 0 (fun _ => none) (some 0, none, none)) := fun k hk => by
    rw [a2 k hk]
    refine congrArg (yP_s 1000000000000) ?_
    unfold yQ_e yP_R
    by_cases z : k = 0
    · rw [if_pos z, if_neg (by omega), if_pos z, if_pos rfl]; rfl
    · rw [if_neg z, if_pos (by omega)]
  obtain ⟨g2, b1, b2, b3⟩ := yQ_TM (X := X) (Y := Y) (kb := kb) (B := B) hb c1 c2 T 0 s 0 0 0 lo (fun _ => none) (none, none, none) (some 0, none, none) g1 (.inl ⟨rfl, st⟩) W (Nat.le_refl _) (Nat.le_refl _) (by omega) C1 (yQ_Kf a3 K) (fun _ => xx s) (fun z => absurd z (Nat.lt_irrefl 0)) (fun z => absurd z (by decide)) a2 (by rw [Nat.add_sub_cancel_left]; exact r0)
  obtain ⟨M, hM⟩ : ∃ M, zF = (M + 1 + yz_l T) + 1 := ⟨zF - yz_l T - 2, by omega⟩
  refine ⟨g2, ?_, zfr_trans (cv a3) (cv b3)⟩
  unfold f_Mo_sumOf
  rw [yV_sz C, Option.bind_some, hM]
  have e1 : nI (yz_l T) = nI (yz_l T + 1) - 1 := (zi_sub (a := yz_l T + 1) (b := 1) (by omega)).symm
  have s1 := a1 (M + 1 + yz_l T)
  rw [← e1] at s1
  rw [s1]
  have s2 := b1 (M + 1)
  rw [Nat.add_sub_cancel_left, Nat.sub_self] at s2
  rw [s2]
  show f_Mo_sumOf_8 (f_Mo_sumOf_L8 M) g2 (nI u) (nI (yz_l T)) (nI 0 - 1) = _
  unfold f_Mo_sumOf_8
  rw [if_pos (by decide)]
  have r := b2 0 (by decide)
  rw [Nat.sub_self] at r
  rw [show g2.2.2 113 0 = yP_s 1000000000000 (yP_R 0 (fun _ => none) (yP_T B T (none, none, none) (some 0, none, none)) 0) from r]
  rfl
end YVU
