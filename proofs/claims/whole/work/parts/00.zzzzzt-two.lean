/-! The judge: a text is read and judged. -/
abbrev yh_n : List (Nat × Nat) := [(0, 2), (0, 3)]
abbrev yh_m : List (Nat × Nat) := [(68, 29), (68, 30), (68, 33), (68, 41), (68, 31), (68, 32)]
theorem zk_TXf {LC LM : List (List Int32)} {t : zt_T} {s m : Nat} {h g h' g' : zs_H} (H : zk_TX LC LM t s m h g) (a : zfr yh_n [] [] h h') (b : zfr yh_m [] [] g g') : zk_TX LC LM t s m h' g' := by
  obtain ⟨x1, x2, x3, x4, x5, x6, x7, x8, x9, x10, x11⟩ := H
  have A : ∀ z, h'.2.1 z = h.2.1 z := fun z => a.2.1 z List.not_mem_nil
  have G : ∀ z, g'.2.1 z = g.2.1 z := fun z => b.2.1 z List.not_mem_nil
  refine ⟨x1, x2, (a.1 _ _ (by decide)).trans x3, x4, ?_, (b.1 _ _ (by decide)).trans x6, x7, ?_, ?_, x10, x11⟩
  · exact zt_fr t _ _ 0 _ _ (fun i _ => ⟨fun kd k up z hz => by unfold zt_NC at hz ⊢; rw [A, A, A]; exact hz, by rw [A], by rw [A]⟩) (fun i hi => hi) x5
  · exact zt_fr t _ _ _ _ _ (fun i _ => ⟨fun kd k up z hz => by unfold zt_NM at hz ⊢; rw [G, G, G, G, G]; exact hz, by rw [G], by rw [G]⟩) (fun i hi => hi) x8
  · unfold zn_M at x9 ⊢
    rw [b.1 _ _ (by decide), G, G]
    exact x9
/-- what a text that is read and judged leaves -/
theorem yh_two {h g : zs_H} {T : Nat → Int32} {n K : Nat} {LC : List (List Int32)} (HS : zq_S h T n K LC) (HX : zl_X g T n) (CX : ∀ h1 t LM s m g1, f_Ps_parse h = some (nI 0, h1) → zk_TX LC LM t s m h1 g1 → zg_cx t) : ∃ φ h1, f_Ps_parse h = some (nI φ, h1) ∧ φ < 1000 ∧ zq_f h h1 ∧
    ((¬ φ = 0 ∧ ∃ g', f_Mo_judge g = some (nI φ, g') ∧ (g'.1 68 30) = (h1.1 19 0) ∧ zfr (yh_m ++ zx_fs2) zx_ms2 [] g g') ∨
     (φ = 0 ∧ ∀ h2, zfr yh_n [] [] h1 h2 → ∃ ψ h3 g', f_Jd_judge h2 = some (nI ψ, h3) ∧ f_Mo_judge g = some (nI ψ, g') ∧ ψ < 1000 ∧ zfr zv_cf (13 :: 14 :: 16 :: 17 :: zv_cm) [] h2 h3 ∧ zfr (yh_m ++ zx_fs2 ++ zv_mf) (zx_ms2 ++ zv_mm) [] g g' ∧ (¬ ψ = 0 → (h3.1 38 0) = (g'.1 68 30)) ∧ (ψ = 0 → ∃ s LM g5, s ≤ 20500 ∧ (h3.1 12 6) = nI s ∧ g' = zs_uF g5 68 31 1 ∧ yh_Z s LC LM h3 g5))) := by
  obtain ⟨φ, h1, g1, e1, e2, hφ, f1, f2, y0, yF⟩ := zk_parse HS HX
  refine ⟨φ, h1, e1, hφ, f1, ?_⟩
  by_cases z : φ = 0
  · right
    refine ⟨z, fun h2 fh => ?_⟩
    obtain ⟨t, LM, s, m, TX⟩ := y0 z
    obtain ⟨g2, hg2⟩ : ∃ g2, g2 = (zs_uF (zs_uF (zs_uF (zs_uF (zs_uF (zs_uF g1 68 29 (nI φ)) 68 30 (g1.1 68 11)) 68 33 0) 68 41 0) 68 31 0) 68 32 0) := ⟨_, rfl⟩
    have fg : zfr yh_m [] [] g1 g2 := by
      rw [hg2]
      exact zfr_F (by decide) (zfr_F (by decide) (zfr_F (by decide) (zfr_F (by decide) (zfr_F (by decide) (zfr_F (by decide) zfr_rfl)))))
    have TX2 := zk_TXf TX fh fg
    have hs : (h2.1 12 6) = nI s ∧ s ≤ 20500 := ⟨TX2.2.2.1, TX2.2.2.2.1⟩
    have ty : ∀ i, i < s → (h2.2.1 14) i = 0 := by
      obtain ⟨s', s1, s2, s3⟩ := ty_parse _ _ e1
      have es : s' = s := (nI_eq (by omega) (by omega)).mp (s1.symm.trans TX.2.2.1)
      intro i hi
      rw [fh.2.1 _ List.not_mem_nil]
      exact s3 i (by omega)
    obtain ⟨_, _, _, _, _, q1, q2, q3, _⟩ := HS
    obtain ⟨ψ, h3, g3, r1, r2, r3, r4, r5, r6, r7⟩ := yh_judge TX2 (CX h1 t LM s m g1 (by rw [e1, z]) TX) ty q1 q3 q2 (by rw [hg2, z]; rfl) (by rw [hg2]; rfl) (by rw [hg2]; rfl)
    have eM : f_Mo_judge g = some (nI ψ, g3) := by
      unfold f_Mo_judge
      rw [e2]
      show (if nI φ = 0 then f_Mo_judge_L45 zF (zs_uF (zs_uF (zs_uF (zs_uF (zs_uF (zs_uF g1 68 29 (nI φ)) 68 30 (g1.1 68 11)) 68 33 0) 68 41 0) 68 31 0) 68 32 0) 0 else _) = _
      rw [if_pos (by rw [z]; rfl), ← hg2]
      exact r2
    refine ⟨ψ, h3, g3, r1, eM, r3, r4, zfr_trans (zfr_w f2 (by decide) (by decide) (by decide)) (zfr_trans (zfr_w fg (by decide) (by decide) (by decide)) (zfr_w r5 (by decide) (by decide) (by decide))), fun q => (r6 q).2.2, fun q => ?_⟩
    obtain ⟨_, _, g5, w1, w2⟩ := r7 q
    exact ⟨s, LM, g5, hs.2, (r4.1 _ _ (by decide)).trans hs.1, w1, w2⟩
  · left
    have eM : f_Mo_judge g = some (nI φ, zs_uF (zs_uF (zs_uF (zs_uF (zs_uF g1 68 29 (nI φ)) 68 30 (g1.1 68 11)) 68 33 0) 68 41 0) 68 31 0) := by
      unfold f_Mo_judge
      rw [e2]
      show (if nI φ = 0 then _ else f_Mo_judge_128 (zs_uF (zs_uF (zs_uF (zs_uF (zs_uF g1 68 29 (nI φ)) 68 30 (g1.1 68 11)) 68 33 0) 68 41 0) 68 31 0)) = _
      rw [if_neg (fun q => by have := (zc_eq (k := 0) (by decide) (by omega)).mp q; omega)]
      rfl
    refine ⟨z, _, eM, (yF z).symm, zfr_F (by decide) (zfr_F (by decide) (zfr_F (by decide) (zfr_F (by decide) (zfr_F (by decide) (zfr_w f2 (by decide) (by decide) (by decide))))))⟩
