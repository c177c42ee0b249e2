/-! A scan, on both sides. -/
/-- a text is loaded -/
def yY_L (h0 : zs_H) (nb : Nat) (T : Nat → ys) (X Y K : Nat → Nat) (w : Nat) (h g : zs_H) : Prop := yX_Z nb T X Y K h0 ∧ (yV_b T (nb - 1) = some w ∧ w ≤ 100000) ∧ ((∀ u, u < nb → (yq_k h0 u).1 = 1 → (h.2.1 27) (9 + u) = nI (yh_pl X K (X (nb - 1)) u)) ∧ ((∀ u, u ≤ nb → (h.2.1 46) u = nI (yx_S T u)) ∧ (h.1 41 6) = nI nb) ∧ yx_AC T nb h ∧ (h.1 20 19) = nI (8 + nb) ∧ (h.1 58 5) = nI w) ∧ ((∀ u, u < nb → (yq_k h0 u).1 = 1 → (g.2.1 89) u = nI (yh_pl X K (X (nb - 1)) u)) ∧ (∀ u, u ≤ nb → (g.2.1 103) u = nI (yx_S T u)) ∧ yx_AM T nb g ∧ (g.1 68 33) = nI nb ∧ g.2.2 109 (nb - 1) = lN w)
/-- the machines -/
def yY_M (J : (Nat → Int32) → Prop) (h g : zs_H) : Prop := (∀ j, j < 8192 → (h.2.1 62) j = (g.2.1 114) j) ∧ J ((g.2.1 114)) ∧ ((h.1 58 9) = (g.1 68 73) ∧ (h.1 58 7) = (g.1 68 84) ∧ (h.1 58 8) = (g.1 68 85) ∧ (h.1 58 6) = (g.1 68 74)) ∧ (h.1 58 4) = (g.1 68 86)
abbrev yY_cF : List (Nat × Nat) := [(58, 4), (58, 6), (58, 7), (58, 8), (58, 9), (58, 14), (58, 17), (58, 18), (58, 19), (58, 20)]
abbrev yY_cM : List Nat := [60, 62, 63, 64]
abbrev yY_mF : List (Nat × Nat) := [(68, 73), (68, 74), (68, 75), (68, 76), (68, 84), (68, 85), (68, 86)]
abbrev yY_mM : List Nat := [114, 115, 119]
section YYT
variable {h0 h g h' g' : zs_H} {nb w : Nat} {T : Nat → ys} {X Y K : Nat → Nat}
theorem yY_Lf (L : yY_L h0 nb T X Y K w h g) (f1 : zfr yY_cF yY_cM [] h h') (f2 : zfr yY_mF yY_mM [] g g') : yY_L h0 nb T X Y K w h' g' := by
  obtain ⟨L1, L2, ⟨c1, ⟨c2, c3⟩, c4, c5, c6⟩, ⟨m1, m2, m3, m4, m5⟩⟩ := L
  refine ⟨L1, L2, ⟨fun u hu hk => by rw [f1.2.1 _ (by decide)]; exact c1 u hu hk, ⟨fun u hu => by rw [f1.2.1 _ (by decide)]; exact c2 u hu, (f1.1 _ _ (by decide)).trans c3⟩, fun u hu k i e => ?_, (f1.1 _ _ (by decide)).trans c5, (f1.1 _ _ (by decide)).trans c6⟩, ⟨fun u hu hk => by rw [f2.2.1 _ (by decide)]; exact m1 u hu hk, fun u hu => by rw [f2.2.1 _ (by decide)]; exact m2 u hu, fun u hu k i e => ?_, (f2.1 _ _ (by decide)).trans m4, by rw [f2.2.2 _ (by decide)]; exact m5⟩⟩
  · have q := c4 u hu k i e
    unfold yC_m at q ⊢
    rw [f1.2.1 _ (by decide), f1.2.1 _ (by decide), f1.2.1 _ (by decide), f1.2.1 _ (by decide)]
    exact q
  · have q := m3 u hu k i e
    unfold yM_m at q ⊢
    rw [f2.2.1 _ (by decide), f2.2.1 _ (by decide), f2.2.1 _ (by decide), f2.2.1 _ (by decide), f2.2.1 _ (by decide)]
    exact q
theorem yY_iof (io : yY_io h g) (f1 : zfr yY_cF [62, 63, 64] [] h h') (f2 : zfr yY_mF [114, 115] [] g g') : yY_io h' g' := fun i hi => by
  rw [f1.2.1 _ (by decide), f1.2.1 _ (by decide), f1.2.1 _ (by decide), f2.2.1 _ (by decide), f2.2.1 _ (by decide), f2.2.1 _ (by decide)]
  exact io i hi
theorem yY_scan (L : yY_L h0 nb T X Y K w h g) (M : yY_M (yJ_J h0 nb T X K) h g) (io : yY_io h g) (x1 : Int32) (st : (h.1 58 4) = 0) : ∃ v h' g', f_Mc_scanBy h x1 = some (v, h') ∧ f_Mo_scan_L45 zF (zs_uF g 68 73 ((g.1 68 73) + x1)) 0 = some (v, g') ∧ zfr yY_cF yY_cM [] h h' ∧ zfr yY_mF yY_mM [] g g' ∧ yY_M (yJ_J h0 nb T X K) h' g' ∧ yY_io h' g' ∧ ((h'.1 58 4) = 0 ∨ (h'.1 58 4) = 1) := by
  have hz := zF_big
  obtain ⟨L1, ⟨L2, L2'⟩, ⟨c1, c2, c4, c5, c6⟩, ⟨m1, m2, m3, m4, m5⟩⟩ := id L
  obtain ⟨M1, M2, ⟨M3, M4, M5, M6⟩, M7⟩ := M
  obtain ⟨⟨n0, k3, p8, q9, _⟩, _, A⟩ := id L1
  have n16 := (A 0).1
  have hle : yV_le w (yV_b T (nb - 1)) = true := by rw [L2]; exact decide_eq_true (Nat.le_refl _)
  -- inputs
  obtain ⟨ha, ea⟩ : ∃ ha, ha = zs_uF h 58 9 ((h.1 58 9) + x1) := ⟨_, rfl⟩
  obtain ⟨ga, eb⟩ : ∃ ga, ga = zs_uF g 68 73 ((g.1 68 73) + x1) := ⟨_, rfl⟩
  have fa : zfr yY_cF [] [] h ha := by rw [ea]; exact zfr_F (by decide) zfr_rfl
  have fb : zfr yY_mF [] [] g ga := by rw [eb]; exact zfr_F (by decide) zfr_rfl
  have ioa : yY_io ha ga := by rw [ea, eb]; exact io
  obtain ⟨h1, g1, c, a1, a2, a3, a4, a5, a6, a7⟩ := yY_take (h := ha) (g := ga) (c := (g.2.1 114)) ioa (by rw [ea]; exact M1) (by rw [eb]; exact fun _ _ => rfl)
  have now1 : (h1.1 58 9) = (g.1 68 73) + x1 := by
    rw [a3.1 _ _ List.not_mem_nil, ea, ← M3]; rfl
  have f1 : zfr yY_cF yY_cM [] h h1 := zfr_trans (zfr_w fa (by decide) (by decide) (by decide)) (zfr_w a3 (by decide) (by decide) (by decide))
  obtain ⟨g2, eg2⟩ : ∃ g2, g2 = zs_uF (zs_uF (zs_uF (zs_uF g1 68 84 ((g1.1 68 84) + 1)) 68 74 0) 68 75 0) 68 76 0 := ⟨_, rfl⟩
  have f2a : zfr yY_mF [114, 115] [] g g1 := zfr_trans (zfr_w fb (by decide) (by decide) (by decide)) (zfr_w a4 (by decide) (by decide) (by decide))
  have f2b : zfr yY_mF [114, 115] [] g1 g2 := by rw [eg2]; exact zfr_F (by decide) (zfr_F (by decide) (zfr_F (by decide) (zfr_F (by decide) zfr_rfl)))
  have f2 : zfr yY_mF yY_mM [] g g2 := zfr_w (zfr_trans f2a f2b) (by decide) (by decide) (by decide)
  have Lb := yY_Lf L f1 f2
  obtain ⟨_, _, ⟨d1, d2, d4, d5, d6⟩, ⟨n1, n2, n3, n4, n5⟩⟩ := Lb
  have now2 : (g2.1 68 73) = (g.1 68 73) + x1 := by
    rw [eg2]
    show (g1.1 68 73) = _
    rw [a4.1 _ _ List.not_mem_nil, eb]; rfl
  have GJ : yJ_J h0 nb T X K c := yJ_J9 L1 M2 a7
  have G := GJ.1
  -- the run
  obtain ⟨h3, r1, r2, r3, r4⟩ := yX_C (nw := (g.1 68 73) + x1) (c := c) (h := h1) L1 hle (by omega) ⟨yX_tR now1, d1, d2, d4⟩ a5
  obtain ⟨g3, s1, s2, s3, s4, s5⟩ := yX_M (nw := (g.1 68 73) + x1) (c := c) (g := g2) L1 hle ⟨yX_tN now2, n1, n2, n3⟩ (by rw [eg2]; exact a6) (by rw [eg2]; rfl) (by rw [eg2]; rfl) (by rw [eg2]; rfl) G
  obtain ⟨o1, o2, _, o4, o5⟩ := yX_R (nw := (g.1 68 73) + x1) (c := c) L1 hle
  have G' : yJ_J h0 nb T X K (yX_r nb T X K ((g.1 68 73) + x1) c).1.1 := ⟨o4 G, o5 GJ.2⟩
  generalize yX_r nb T X K ((g.1 68 73) + x1) c = r at r1 r3 r4 s3 s4 s5 o1 o2 G'
  have ePr : (h1.1 20 19) - 9 = nI (nb - 1) := by
    rw [d5]
    have := zi_sub (a := 8 + nb) (b := 9) (by omega)
    rw [show 8 + nb - 9 = nb - 1 by omega] at this
    exact this
  have eBl : (g1.1 68 33) - 1 = nI (nb - 1) := by
    have : (g1.1 68 33) = nI nb := by rw [← n4, eg2]; rfl
    rw [this]
    exact zi_sub (a := nb) (b := 1) (by omega)
  have fh3 : zfr yY_cF yY_cM [] h1 h3 := zfr_w r2 (by decide) (by decide) (by decide)
  have fg3 : zfr yY_mF yY_mM [] g2 g3 := zfr_w s2 (by decide) (by decide) (by decide)
  have bd : (h3.1 58 5) = nI w := (fh3.1 _ _ (by decide)).trans d6
  have sc3 : (h3.1 58 7) = (g.1 68 84) := (r2.1 _ _ (by decide)).trans ((a3.1 _ _ List.not_mem_nil).trans (by rw [ea]; exact M4))
  have ab3 : (h3.1 58 8) = (g.1 68 85) := (r2.1 _ _ (by decide)).trans ((a3.1 _ _ List.not_mem_nil).trans (by rw [ea]; exact M5))
  have nw3 : (h3.1 58 9) = (g.1 68 73) + x1 := (r2.1 _ _ (by decide)).trans now1
  have sg3 : (g3.1 68 84) = (g.1 68 84) + 1 := (s2.1 _ _ (by decide)).trans (by
    rw [eg2]
    show (g1.1 68 84) + 1 = _
    rw [a4.1 _ _ List.not_mem_nil, eb]; rfl)
  have og3 : (g3.1 68 85) = (g.1 68 85) := (s2.1 _ _ (by decide)).trans (by
    rw [eg2]
    show (g1.1 68 85) = _
    rw [a4.1 _ _ List.not_mem_nil, eb]; rfl)
  have hg3 : (g3.1 68 86) = (g.1 68 86) := (s2.1 _ _ (by decide)).trans (by
    rw [eg2]
    show (g1.1 68 86) = _
    rw [a4.1 _ _ List.not_mem_nil, eb]; rfl)
  have ng3 : (g3.1 68 73) = (g.1 68 73) + x1 := (s2.1 _ _ (by decide)).trans now2
  have io3 : yY_io h3 g3 := yY_iof io (zfr_trans (zfr_w fa (by decide) (by decide) (by decide)) (zfr_trans (zfr_w a3 (by decide) (by decide) (by decide)) (zfr_w r2 (by decide) (by decide) (by decide)))) (zfr_trans f2a (zfr_trans f2b (zfr_w s2 (by decide) (by decide) (by decide))))
  -- the class behind the run
  have eC : f_Mc_scanBy h x1 = f_Mc_scanBy_60 (zs_uF h3 58 7 ((h3.1 58 7) + 1)) (if r.2 = 0 then 0 else if r.2 = 3 then -3 else -4) 0 ((h3.1 58 8)) := by
    unfold f_Mc_scanBy
    rw [← ea, a1, Option.bind_some, ePr, r1]
    show (if (h3.1 58 6) ≤ (h3.1 58 5) then _ else _) = _
    rw [if_pos (by rw [r4, bd]; exact (nI_leI (by omega) (by omega)).mpr o2)]
  have eM : f_Mo_scan_L45 zF (zs_uF g 68 73 ((g.1 68 73) + x1)) 0 = f_Mo_scan_155 g3 0 ((g3.1 68 85)) := by
    rw [← eb, show zF = (zF - 320 - 1 + 1) + 320 by omega, show (0 : Int32) = nI 0 from rfl, a2]
    show f_Mo_scan_45 (f_Mo_scan_L45 (zF - 320 - 1)) g1 (nI 320) = _
    unfold f_Mo_scan_45
    rw [if_pos (show (320 : Int32) ≤ nI 320 by decide), ← eg2, eBl, s1, Option.bind_some]
    have e3 : (g3.1 68 33) - 1 = nI (nb - 1) := by
      rw [(fg3.1 _ _ (by decide)).trans n4]
      exact zi_sub (a := nb) (b := 1) (by omega)
    rw [e3, if_pos (zi_in (by omega) (by omega)), nI_clamp (by omega), s4, zj_32 (by omega), show g3.2.2 109 (nb - 1) = lN w by rw [fg3.2.2 _ (by decide)]; exact n5, if_pos ((zj_le (by omega) (by omega)).mpr o2)]
    rfl
  rw [eC, eM]
  have a0 : ∀ x : Int32, x + 0 = x := fun x => Int32.add_zero x
  by_cases z : r.2 = 0
  · rw [if_pos z] at s5 ⊢
    obtain ⟨h4, eh4⟩ : ∃ h4, h4 = zs_uF (zs_uF (zs_uF h3 58 7 ((h3.1 58 7) + 1)) 58 8 ((h3.1 58 8))) 58 4 0 := ⟨_, rfl⟩
    obtain ⟨g4, eg4⟩ : ∃ g4, g4 = zs_uF g3 68 85 ((g3.1 68 85)) := ⟨_, rfl⟩
    have k4 : zfr yY_cF yY_cM [] h3 h4 := by rw [eh4]; exact zfr_F (by decide) (zfr_F (by decide) (zfr_F (by decide) zfr_rfl))
    have l4 : zfr yY_mF yY_mM [] g3 g4 := by rw [eg4]; exact zfr_F (by decide) zfr_rfl
    have cc : ∀ j, j < 8192 → (h4.2.1 62) j = (g4.2.1 114) j := fun j hj => by rw [eh4, eg4]; exact (r3 j hj).trans (s3 j hj).symm
    have io4 : yY_io h4 g4 := by rw [eh4, eg4]; exact io3
    obtain ⟨h5, g5, p1, p2, p3, p4, p5⟩ := yY_pubC io4 cc (fun j hj => yJ_J7 L1 (yJ_Jf L1 G' (fun j hj => by rw [eg4]; exact s3 j hj)) hj)
    have e4 : (h5.1 58 4) = 0 := (p3.1 _ _ List.not_mem_nil).trans (by rw [eh4]; rfl)
    have e5 : (h5.1 58 6) = nI r.1.2.2 := (p3.1 _ _ List.not_mem_nil).trans (by rw [eh4]; exact r4)
    have e6 : (g4.1 68 74) = nI r.1.2.2 := by rw [eg4]; exact s4
    refine ⟨nI r.1.2.2, h5, g5, ?_, ?_, zfr_trans f1 (zfr_trans fh3 (zfr_trans k4 (zfr_w p3 (by decide) (by decide) (by decide)))), zfr_trans f2 (zfr_trans fg3 (zfr_trans l4 (zfr_w p4 (by decide) (by decide) (by decide)))), ⟨fun j hj => ?_, ?_, ⟨?_, ?_, ?_, ?_⟩, ?_⟩, p5, .inl e4⟩
    · unfold f_Mc_scanBy_60 f_Mc_scanBy_74
      rw [if_pos rfl, a0, if_pos (Or.inl rfl), if_pos rfl, ← eh4, p1, Option.bind_some, if_pos e4, e5]
    · unfold f_Mo_scan_155
      rw [if_pos s5, a0, ← eg4, show (0 : Int32) = nI 0 from rfl, p2, e6]
    · rw [p3.2.1 _ (by decide), p4.2.1 _ (by decide)]; exact cc j hj
    · rw [p4.2.1 _ (by decide), eg4]
      exact yJ_Jf L1 G' s3
    · rw [p3.1 _ _ List.not_mem_nil, p4.1 _ _ List.not_mem_nil, eh4, eg4]; exact nw3.trans ng3.symm
    · rw [p3.1 _ _ List.not_mem_nil, p4.1 _ _ List.not_mem_nil, eh4, eg4]
      show (h3.1 58 7) + 1 = (g3.1 68 84)
      rw [sc3, sg3]
    · rw [p3.1 _ _ List.not_mem_nil, p4.1 _ _ List.not_mem_nil, eh4, eg4]
      show (h3.1 58 8) = (g3.1 68 85)
      rw [ab3, og3]
    · rw [e5, p4.1 _ _ List.not_mem_nil, e6]
    · rw [e4, p4.1 _ _ List.not_mem_nil, eg4]
      show (0 : Int32) = (g3.1 68 86)
      rw [hg3, ← M7, st]
  · rw [if_neg z] at s5 ⊢
    have vn : ¬ (if r.2 = 3 then (-3 : Int32) else -4) = 0 := by split <;> decide
    generalize (if r.2 = 3 then (-3 : Int32) else -4) = v at s5 vn
    obtain ⟨h4, eh4⟩ : ∃ h4, h4 = zs_uF (zs_uF (zs_uF h3 58 7 ((h3.1 58 7) + 1)) 58 8 ((h3.1 58 8))) 58 4 1 := ⟨_, rfl⟩
    obtain ⟨g4, eg4⟩ : ∃ g4, g4 = zs_uF (zs_uF g3 68 85 ((g3.1 68 85))) 68 86 1 := ⟨_, rfl⟩
    have k4 : zfr yY_cF yY_cM [] h3 h4 := by rw [eh4]; exact zfr_F (by decide) (zfr_F (by decide) (zfr_F (by decide) zfr_rfl))
    have l4 : zfr yY_mF yY_mM [] g3 g4 := by rw [eg4]; exact zfr_F (by decide) (zfr_F (by decide) zfr_rfl)
    have cc : ∀ j, j < 8192 → (h4.2.1 62) j = (g4.2.1 114) j := fun j hj => by rw [eh4, eg4]; exact (r3 j hj).trans (s3 j hj).symm
    have io4 : yY_io h4 g4 := by rw [eh4, eg4]; exact io3
    obtain ⟨h5, g5, p1, p2, p3, p4, p5⟩ := yY_pubS io4
    have e4 : (h5.1 58 4) = 1 := (p3.1 _ _ List.not_mem_nil).trans (by rw [eh4]; rfl)
    have e5 : (h5.1 58 6) = nI r.1.2.2 := (p3.1 _ _ List.not_mem_nil).trans (by rw [eh4]; exact r4)
    have e6 : (g4.1 68 74) = nI r.1.2.2 := by rw [eg4]; exact s4
    have e7 : (g5.1 68 75) = v := (p4.1 _ _ List.not_mem_nil).trans (by rw [eg4]; exact s5)
    refine ⟨v, h5, g5, ?_, ?_, zfr_trans f1 (zfr_trans fh3 (zfr_trans k4 (zfr_w p3 (by decide) (by decide) (by decide)))), zfr_trans f2 (zfr_trans fg3 (zfr_trans l4 (zfr_w p4 (by decide) (by decide) (by decide)))), ⟨fun j hj => ?_, ?_, ⟨?_, ?_, ?_, ?_⟩, ?_⟩, p5, .inr e4⟩
    · unfold f_Mc_scanBy_60 f_Mc_scanBy_74
      rw [if_neg vn, a0, if_pos (Or.inr rfl), if_neg (show ¬ (1 : Int32) = 0 by decide), ← eh4, p1, Option.bind_some, if_neg (by rw [e4]; decide)]
    · unfold f_Mo_scan_155
      rw [if_neg (by rw [s5]; exact vn), a0, ← eg4, p2, Option.bind_some, e7]
    · rw [p3.2.1 _ (by decide), p4.2.1 _ (by decide)]; exact cc j hj
    · rw [p4.2.1 _ (by decide), eg4]
      exact yJ_Jf L1 G' s3
    · rw [p3.1 _ _ List.not_mem_nil, p4.1 _ _ List.not_mem_nil, eh4, eg4]; exact nw3.trans ng3.symm
    · rw [p3.1 _ _ List.not_mem_nil, p4.1 _ _ List.not_mem_nil, eh4, eg4]
      show (h3.1 58 7) + 1 = (g3.1 68 84)
      rw [sc3, sg3]
    · rw [p3.1 _ _ List.not_mem_nil, p4.1 _ _ List.not_mem_nil, eh4, eg4]
      show (h3.1 58 8) = (g3.1 68 85)
      rw [ab3, og3]
    · rw [e5, p4.1 _ _ List.not_mem_nil, e6]
    · rw [e4, p4.1 _ _ List.not_mem_nil, eg4]; rfl
end YYT
