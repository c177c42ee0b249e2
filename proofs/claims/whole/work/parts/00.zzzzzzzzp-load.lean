/-! A text is coded and proved, on both sides. -/
/-- all is proved: T, the bounds -/
def yV_Z (sz bu : Nat) (LC LM : List (List Int32)) (h0 g0 h g : zs_H) : Prop := ∃ (nb : Nat) (F X Y K : Nat → Nat) (T : Nat → ys), (0 < nb ∧ nb ≤ 16 ∧ yk_cx LC LM nb F X Y h0 g0) ∧ ((∀ j, j < nb → (K j = 1 ∨ K j = 2 ∨ K j = 3) ∧ (h0.2.1 21) (9 + j) = nI (K j) ∧ (g0.2.1 86) j = nI (K j)) ∧ yh_T nb X K h0 g0) ∧ (∀ b, b < nb → yx_T X Y h0 b (T b) ∧ yH_D (T b) true = false ∧ yV_le 1000000000 (yV_b T b) = true) ∧ yV_le bu (yV_b T (nb - 1)) = true ∧ yx_S T nb ≤ 4000 ∧ ((∀ u, u ≤ nb → (h.2.1 46) u = nI (yx_S T u)) ∧ (h.1 41 6) = nI nb ∧ (h.1 41 5) = nI (yx_S T nb) ∧ yx_AC T nb h) ∧ ((∀ u, u ≤ nb → (g.2.1 103) u = nI (yx_S T u)) ∧ (g.1 68 56) = nI (yx_S T nb) ∧ yx_AM T nb g) ∧ ∀ u, u < nb → h.2.1 52 u = yV_c (yV_b T u) ∧ g.2.2 109 u = yV_m (yV_b T u)
section YVR
theorem yV_f0 {T : Nat → ys} {bu : Nat} : ∀ (m b : Nat), (yV_f T bu m b).1 < 100 ∧ ((yV_f T bu m b).1 = 0 → (∀ u, b ≤ u → u < b + m → yH_D (T u) true = false) ∧ yV_le bu (yV_b T (b + m - 1)) = true) := by
  intro m
  induction m with
  | zero =>
    intro b
    rw [yV_f]
    by_cases z : yV_le bu (yV_b T (b - 1)) = true
    · rw [if_pos z]; exact ⟨by decide, fun _ => ⟨fun u h1 h2 => by omega, z⟩⟩
    · rw [if_neg z]; exact ⟨show (53 : Nat) < 100 by decide, fun q => absurd q (show ¬ (53 : Nat) = 0 by decide)⟩
  | succ m ih =>
    intro b
    rw [yV_f]
    by_cases z : yH_D (T b) true = true
    · rw [if_pos z]; exact ⟨show (51 : Nat) < 100 by decide, fun q => absurd q (show ¬ (51 : Nat) = 0 by decide)⟩
    rw [if_neg z]
    by_cases y : yV_le 1000000000 (yV_b T b) = true
    · rw [if_pos y]
      refine ⟨(ih (b + 1)).1, fun q => ?_⟩
      obtain ⟨a1, a2⟩ := (ih (b + 1)).2 q
      refine ⟨fun u h1 h2 => ?_, by rw [show b + (m + 1) - 1 = b + 1 + m - 1 by omega]; exact a2⟩
      by_cases w : u = b
      · rw [w]
        cases q : yH_D (T b) true with
        | true => exact absurd q z
        | false => rfl
      · exact a1 u (by omega) (by omega)
    · rw [if_neg y]; exact ⟨show (52 : Nat) < 100 by decide, fun q => absurd q (show ¬ (52 : Nat) = 0 by decide)⟩
theorem yV_all {sz bu : Nat} {LC LM : List (List Int32)} {h0 g0 h1 g1 h2 g2 : zs_H} (Z : yx_Z sz LC LM h0 g0 h1 g1) (hbu : bu ≤ 100000) (fh : zfr [(0, 2), (0, 3)] [] [] h1 h2) (fg : zfr yV_MF [] [] g1 g2) (e0 : (h2.1 0 2) = 0) (e1 : (g2.1 68 80) = 0) : ∃ (h g : zs_H) (φ : Nat) (p : Int32), f_Pk_proveAll h2 (nI bu) = some h ∧ f_Mo_load_88 g2 (nI bu) = f_Mo_load_226 g ∧ zfr yV_CF yV_CM yV_CL h1 h ∧ zfr yV_MF yV_MM yV_ML g1 g ∧ φ < 100 ∧ (h.1 0 2) = nI φ ∧ (g.1 68 80) = nI φ ∧ (h.1 0 3) = (if φ = 0 then (h2.1 0 3) else p) ∧ (g.1 68 81) = (if φ = 0 then (g2.1 68 81) else p) ∧ (φ = 0 → yV_Z sz bu LC LM h0 g0 h g) := by
  have hz := zF_big
  obtain ⟨nb, F, X, Y, K, T, ⟨n16, C⟩, ⟨KK, TT⟩, U, S4, PC, PM, pe, L⟩ := Z
  have n0 := TT.1.1
  have HB := C.1.2.1
  have pr : (h0.1 20 19) = nI (8 + nb) := by
    rw [HB.2.2.2.2.2.2.2.2.2, if_pos ⟨n0, by rw [(KK (nb - 1) (by omega)).2.2, TT.1.2]; rfl⟩]
  obtain ⟨pl, hpl⟩ : ∃ pl : Nat → Int32, pl = fun j => (h0.2.1 15) ((h0.2.1 22) (9 + j)).toNatClampNeg := ⟨_, rfl⟩
  have LCs : ∀ j, j < nb → ∃ i, i < 32784 ∧ (h0.2.1 22) (9 + j) = nI i ∧ (h0.2.1 15) i = pl j := fun j hj => by
    obtain ⟨i, k, i1, i2, i3, i4, i5⟩ := L j hj
    refine ⟨i, i1, i3, ?_⟩
    rw [hpl]
    show _ = (h0.2.1 15) ((h0.2.1 22) (9 + j)).toNatClampNeg
    rw [i3, nI_clamp (by omega)]
  have LMs : ∀ j, j < nb → ∃ k, k < 33500 ∧ (g0.2.1 84) j = nI k ∧ (g0.2.1 73) k = pl j := fun j hj => by
    obtain ⟨i, k, i1, i2, i3, i4, i5⟩ := L j hj
    refine ⟨k, i2, i4, ?_⟩
    rw [hpl, ← i5]
    show _ = (h0.2.1 15) ((h0.2.1 22) (9 + j)).toNatClampNeg
    rw [i3, nI_clamp (by omega)]
  obtain ⟨h, a1, a2, a3, a4, a5⟩ := yV_cl (bu := bu) n16 n0 hbu S4 PC U pr LCs nb 0 zF h2 (by omega) (by omega) (zfr_w fh (by decide) (by decide) (by decide)) e0 (fun u hu => absurd hu (Nat.not_lt_zero u))
  obtain ⟨g, b1, b2, b3, b4, b5⟩ := yV_ml (bu := bu) n16 n0 hbu S4 PM pe U HB.1.2.1 LMs nb 0 zF g2 (by omega) (by omega) (zfr_w fg (by decide) (by decide) (by decide)) e1 (fun u hu => absurd hu (Nat.not_lt_zero u))
  obtain ⟨c1, c2⟩ := yV_f0 (T := T) (bu := bu) nb 0
  refine ⟨h, g, (yV_f T bu nb 0).1, pl (yV_f T bu nb 0).2, a1, b1, a2, b2, c1, a3, b3, a4, b4, fun z => ?_⟩
  obtain ⟨d1, d2⟩ := c2 z
  have bg : ∀ u, u ≤ nb → (g.2.1 103) u = nI (yx_S T u) := fun u hu => by
    rw [b2.2.1 _ (by decide)]
    by_cases q : u = nb
    · rw [q]; exact pe
    · exact PM.2.2.1 u (by omega)
  refine ⟨nb, F, X, Y, K, T, ⟨n0, n16, C⟩, ⟨KK, TT⟩, fun b hb => ⟨U b hb, d1 b (Nat.zero_le _) (by omega), (a5 z b hb).2⟩, by rw [Nat.zero_add] at d2; exact d2, S4, ⟨fun u hu => by rw [a2.2.1 _ (by decide)]; exact PC.2.2.2.1 u hu, (a2.1 _ _ (by decide)).trans PC.2.2.1, (a2.1 _ _ (by decide)).trans PC.2.1, fun u hu k i e => ?_⟩, ⟨bg, (b2.1 _ _ (by decide)).trans PM.2.1, fun u hu k i e => ?_⟩, fun u hu => ⟨(a5 z u hu).1, (b5 z u hu).1⟩⟩
  · have q := PC.2.2.2.2 S4 u hu k i e
    unfold yC_m at q ⊢
    rw [a2.2.1 _ (by decide), a2.2.1 _ (by decide), a2.2.1 _ (by decide), a2.2.1 _ (by decide)]
    exact q
  · have q := PM.2.2.2.2 S4 u hu k i e
    unfold yM_m at q ⊢
    rw [b2.2.1 _ (by decide), b2.2.1 _ (by decide), b2.2.1 _ (by decide), b2.2.1 _ (by decide), b2.2.1 _ (by decide)]
    exact q
end YVR
