/-! frame, on both sides: the end. -/
section ZLH
variable {h g h' g' : zs_H} {t n : Nat} {b : Nat → Nat}
theorem zln_ans (B : zln_B b t h g) (O : zln_O 0 h g) (st : b 0 = 0 ∨ (g.1 68 83) = nI (b 0)) {r : Nat} (hr : r < 4) (G : r = 0 → zln_G b t) (V : r = 0 → b 1 ≤ 4 → zln_V h g) : ∃ n h' g', f_Ln_answer_c1_135 h (nI (b 0)) (nI (b 1)) (nI r) = some (nI n, h') ∧ f_Mo_frame_151 g (nI (b 1)) (nI r) = some (nI n, g') ∧ zln_O n h' g' ∧ zln_f1 h h' ∧ zln_f2 g g' := by
  have ht := B.1
  have hb := B.2.1 0
  have e0 : f_Mo_heard g 0 = some (nI (b 0)) := zln_hrd B (i := 0) (by omega)
  unfold f_Ln_answer_c1_135 f_Mo_frame_151
  rw [e0, Option.bind_some]
  by_cases z : b 0 = 0
  · rw [if_pos (show nI (b 0) = 0 by rw [z]; rfl), if_pos (show nI (b 0) ≤ 0 by rw [z]; decide)]
    unfold f_Ln_answer_c1_204 f_Mo_frame_167
    rw [O.2.1, O.2.2.1]
    exact ⟨0, h, g, rfl, rfl, O, zfr_rfl, zfr_rfl⟩
  · rw [if_neg (fun q => z ((zc_eq (k := 0) (by decide) (by omega)).mp q)), if_neg (mt (zc_el (k := 0) (by decide) (by omega)).mp (by omega))]
    obtain ⟨h1, g1, s1, s2, s3, s4, s5⟩ := zln_snd O (by decide) (nI (b 0))
    have sta : (g.1 68 83) = nI (b 0) := by rcases st with q | q; exact absurd q z; exact q
    unfold f_Mo_reply
    rw [s1, Option.bind_some, sta, s2, Option.bind_some]
    by_cases y : r = 0
    · subst y
      rw [if_pos (show nI 0 = 0 from rfl), if_pos (show nI 0 ≤ 0 by decide)]
      obtain ⟨n, h2, g2, q1, q2, q3, q4, q5⟩ := zln_rp (zln_Bs B s4 s5) (G rfl) (fun q => zln_Vf (V rfl q) s4 s5) s3
      rw [q1, show f_Mo_reply_22 g1 (nI (b 1)) (nI 0) (nI (b 1)) = some g2 from q2, Option.bind_some]
      unfold f_Mo_frame_167
      rw [q3.2.2.1]
      exact ⟨n, h2, g2, rfl, rfl, q3, zfr_trans s4 q4, zfr_trans s5 q5⟩
    · rw [if_neg (fun q => y ((zc_eq (k := 0) (by decide) (by omega)).mp q)), if_neg (mt (zc_el (k := 0) (by decide) (by omega)).mp (by omega))]
      obtain ⟨n, h2, g2, q1, q2, q3, q4, q5⟩ := zln_rr (r := r) (x := nI (b 1)) (by omega) s3
      rw [q1, q2, Option.bind_some]
      unfold f_Mo_frame_167
      rw [q3.2.2.1]
      exact ⟨n, h2, g2, rfl, rfl, q3, zfr_trans s4 q4, zfr_trans s5 q5⟩
/-- a request that is for this station -/
theorem zln_95 (R : yO 0 h g) (l : (h.1 58 3) = 1) (hs : (g.1 68 82) = 1) (Bt : zln_b g) (O : zln_O 0 h g) (ht : 4 ≤ t ∧ t ≤ 256) (hb : ∀ i, b i < 256) (hC : ∀ i, i < t → (h.2.1 1) i &&& 255 = nI (b i)) (hM : ∀ i, i < t → (g.2.1 116) i &&& 255 = nI (b i)) (st : b 0 = 0 ∨ (h.1 66 2) = nI (b 0)) : ∃ n h' g', f_Ln_answer_c1_95 h (nI t) (nI (b 0)) = some (nI n, h') ∧ ((f_Mo_heard g 1).bind fun v9 => ((f_Mo_refusal g v9 (nI t - 4)).bind fun v11 => (if v11 = 0 then ((f_Mo_obey g v9).bind fun h14 => f_Mo_frame_151 h14 v9 v11) else f_Mo_frame_151 g v9 v11))) = some (nI n, g') ∧ yO 0 h' g' ∧ zln_b g' ∧ zO_r h g h' g' := by
  obtain ⟨h2, hh2⟩ : ∃ h2, h2 = zs_uF (zs_uF h 66 4 1) 66 5 (nI (t - 4)) := ⟨_, rfl⟩
  have R2 : yO 0 h2 g := by rw [hh2]; exact yO_ln2 R
  have B : zln_B b t h2 g := by rw [hh2]; exact ⟨ht, hb, hC, hM, rfl, rfl⟩
  have z2 : zO_C h h2 := by rw [hh2]; exact zO_Cz (fs := [(66, 4), (66, 5)]) (ms := []) (ls := []) (zfr_F (by decide) (zfr_F (by decide) zfr_rfl))
  have O2 : zln_O 0 h2 g := by rw [hh2]; exact O
  have l2 : (h2.1 58 3) = 1 := by rw [hh2]; exact l
  have sg : b 0 = 0 ∨ (g.1 68 83) = nI (b 0) := by
    rcases st with q | q
    · exact .inl q
    · exact .inr (R.2.2.2.2.1.2.symm.trans q)
  obtain ⟨J, kk, kD⟩ := yO_k R2.2.2.2.2.2.2
  have K : zln_K J b t h2 g := ⟨B, R2.2.2.1, ⟨l2, hs⟩, kk⟩
  obtain ⟨r, r1, r2, r3, r4⟩ := zln_ref B
  have e4 : nI t - 4 = nI (t - 4) := zi_sub (b := 4) ht.1
  have e1 : f_Mo_heard g 1 = some (nI (b 1)) := zln_hrd B (i := 1) (by omega)
  unfold f_Ln_answer_c1_95
  rw [e4, ← hh2, hC 1 (by omega), r2, Option.bind_some, e1, Option.bind_some, r3, Option.bind_some]
  by_cases z : r = 0
  · rw [if_pos (show nI r = 0 by rw [z]; rfl), if_pos (show nI r = 0 by rw [z]; rfl)]
    obtain ⟨h3, g3, w1, w2, w3, w4, w5, w6, w7⟩ := zln_wr K (r4 z)
    have R3 : yO 0 h3 g3 := yO_mach R2 (zfr_w w3 (by decide) (by decide) (by decide)) (zfr_w w4 (by decide) (by decide) (by decide)) w5.2.1 (kD h3 g3 w3 w4 w5.2.2.2)
    have O3 : zln_O 0 h3 g3 := ⟨by decide, (w3.1 _ _ List.not_mem_nil).trans O2.2.1, (w4.1 _ _ List.not_mem_nil).trans O2.2.2.1, fun i hi => absurd hi (Nat.not_lt_zero i)⟩
    rw [w1, Option.bind_some, w2, Option.bind_some]
    obtain ⟨n, h4, g4, q1, q2, q3, q4, q5⟩ := zln_ans w5.1 O3 (by rw [w4.1 68 83 List.not_mem_nil]; exact sg) r1 r4 (fun _ _ => ⟨(w5.2.2.2 ((w3.1 _ _ List.not_mem_nil).trans l2)).1, w5.2.1, w6 Bt⟩)
    exact ⟨n, h4, g4, q1, q2, yO_snd R3 q4 q5 q3, zln_bf (w6 Bt) q5, zO_Ct z2 (zO_Ct (zO_Cz w3) (zO_Cz q4)), zO_Mt (zO_Mz w4) (zO_Mz q5)⟩
  · rw [if_neg (fun q => z ((zc_eq (k := 0) (by decide) (by omega)).mp q)), if_neg (fun q => z ((zc_eq (k := 0) (by decide) (by omega)).mp q))]
    obtain ⟨n, h4, g4, q1, q2, q3, q4, q5⟩ := zln_ans B O2 sg r1 r4 (fun q => absurd q z)
    exact ⟨n, h4, g4, q1, q2, yO_snd R2 q4 q5 q3, zln_bf Bt q5, zO_Ct z2 (zO_Cz q4), zO_Mz q5⟩
theorem zln_M37 (hn : 4 ≤ t ∧ t ≤ 256) (hb : ∀ i, b i < 256) (hM : ∀ i, i < t → (g.2.1 116) i &&& 255 = nI (b i)) : ∀ (m i N : Nat), i + m = t - 2 → m < N → f_Mo_frame_L37 N g (nI t) (nI (zln_c b i)) (nI i) = (if nI (b 0) = 0 then f_Mo_frame_80 g (nI t) (nI (zln_c b (t - 2))) else if nI (b 0) = (g.1 68 83) then f_Mo_frame_80 g (nI t) (nI (zln_c b (t - 2))) else f_Mo_frame_85 g (nI t) (nI (zln_c b (t - 2))) 0) := by
  have H : ∀ i, i < t → f_Mo_heard g (nI i) = some (nI (b i)) := fun i hi => by
    unfold f_Mo_heard
    rw [if_pos (zi_in (by omega) (show i < 16384 by omega)), nI_clamp (by omega), hM i hi]
  have e2 : nI t - 2 = nI (t - 2) := zi_sub (b := 2) (by omega)
  intro m
  induction m with
  | zero =>
    intro i N hi hN
    obtain ⟨N, rfl⟩ : ∃ z, N = z + 1 := ⟨N - 1, by omega⟩
    show f_Mo_frame_37 (f_Mo_frame_L37 N) g (nI t) (nI (zln_c b i)) (nI i) = _
    unfold f_Mo_frame_37
    have e : i = t - 2 := hi
    subst e
    rw [e2, if_pos ((nI_leI (by omega) (by omega)).mpr (Nat.le_refl _)), show f_Mo_heard g 0 = some (nI (b 0)) from H 0 (by omega), Option.bind_some, Option.bind_some]
  | succ m ih =>
    intro i N hi hN
    obtain ⟨N, rfl⟩ : ∃ z, N = z + 1 := ⟨N - 1, by omega⟩
    show f_Mo_frame_37 (f_Mo_frame_L37 N) g (nI t) (nI (zln_c b i)) (nI i) = _
    unfold f_Mo_frame_37
    rw [e2, if_neg (mt (nI_leI (by omega) (by omega)).mp (by omega)), H i (by omega), Option.bind_some, zln_sum (zln_cl hb i) (hb i), Option.bind_some, nI_1]
    exact ih (i + 1) N (by omega) (by omega)
theorem yO_bits (R : yO t h g) (hs : (g.1 68 82) = 1) : zln_b g := by
  rcases R.2.2.2.2.2.2 with ⟨d1, _⟩ | ⟨_, _, _, Z⟩
  · exact absurd (d1.symm.trans hs) (by decide)
  · obtain ⟨LC, LM, nb, F, X, Y, K, T, w, h0, g0, S, M⟩ := yO_ZS Z
    intro i hi
    have q := (R.2.2.1 i (by omega)).2 hi
    exact ⟨yJ_J7 S.2.2.1.1 M.2.1 (by omega), q.1, q.2.1⟩
theorem yO_frame (R : yO t h g) : ∃ v h' g', f_Pk_frame h = some (v, h') ∧ f_Mo_frame g = some (v, g') ∧ yO 0 h' g' ∧ ((g.1 68 82) = 1 → zln_b g') ∧ zO_r h g h' g' := by
  have Bt := fun q => yO_bits R q
  have hz := zF_big
  have R1 := yO_ln0 R
  obtain ⟨⟨⟨t1, t2, t3⟩, t4, t5⟩, _⟩ := id R
  obtain ⟨h1, hh1⟩ : ∃ h1, h1 = zs_uF (zs_uF h 0 1 0) 66 1 0 := ⟨_, rfl⟩
  obtain ⟨g1, hg1⟩ : ∃ g1, g1 = zs_uF (zs_uF g 68 78 0) 68 88 0 := ⟨_, rfl⟩
  rw [← hh1, ← hg1] at R1
  have y1 : zO_C h h1 := by rw [hh1]; exact zO_Cz (fs := [(0, 1), (66, 1)]) (ms := []) (ls := []) (zfr_F (by decide) (zfr_F (by decide) zfr_rfl))
  have y2 : zO_M g g1 := by rw [hg1]; exact zO_Mz (fs := [(68, 78), (68, 88)]) (ms := []) (ls := []) (zfr_F (by decide) (zfr_F (by decide) zfr_rfl))
  have nil : ∃ v h' g', some ((0 : Int32), h1) = some (v, h') ∧ some ((0 : Int32), g1) = some (v, g') ∧ yO 0 h' g' ∧ ((g.1 68 82) = 1 → zln_b g') ∧ zO_r h g h' g' := ⟨0, h1, g1, rfl, rfl, R1, fun q => by rw [hg1]; exact Bt q, y1, y2⟩
  have l1 : (h1.1 58 3) = (h.1 58 3) := by rw [hh1]; rfl
  have eM : f_Mo_frame g = (if (g.1 68 82) = 0 then some (0, g1) else if nI t < 4 then some (0, g1) else if nI t ≤ 256 then f_Mo_frame_L37 zF g1 (nI t) 65535 0 else some (0, g1)) := by
    unfold f_Mo_frame f_Mo_useTape
    rw [yL_B, t2, hg1]
    rfl
  have e54 : f_Ln_answer_c1_54 h1 (nI t) = some (0, h1) := by
    unfold f_Ln_answer_c1_54 f_Ln_answer_c1_55
    split
    · rfl
    · rw [if_pos (show (0 : Int32) = 0 from rfl)]
  obtain ⟨b, hbd⟩ : ∃ b : Nat → Nat, b = fun i => ((h.2.1 1) i).toBitVec.toNat % 256 := ⟨_, rfl⟩
  have hb : ∀ i, b i < 256 := fun i => by rw [hbd]; exact Nat.mod_lt _ (by decide)
  have hC : ∀ i, (h.2.1 1) i &&& 255 = nI (b i) := fun i => by rw [hbd]; exact zln_255 _
  have hC1 : ∀ i, i < t → (h1.2.1 1) i &&& 255 = nI (b i) := fun i _ => by rw [hh1]; exact hC i
  have hM1 : ∀ i, i < t → (g1.2.1 116) i &&& 255 = nI (b i) := fun i hi => by
    rw [hg1]
    show (g.2.1 116) i &&& 255 = _
    rw [t5 i hi]; exact hC i
  have eC : f_Pk_frame h = (if nI t < 4 then f_Ln_answer_c1_54 h1 (nI t) else if 256 < nI t then f_Ln_answer_c1_54 h1 (nI t) else ((f_Ln_checkSum_c1 h1 (nI t - 2)).bind fun v4 => (if zd_in (nI t - 2) 16384 then (if zd_in (nI t - 1) 16384 then (if v4 = ((((h.2.1 1) (nI t - 2).toNatClampNeg) &&& 255) + (256 * (((h.2.1 1) (nI t - 1).toNatClampNeg) &&& 255))) then f_Ln_answer_c1_55 h1 (nI t) 1 else f_Ln_answer_c1_54 h1 (nI t)) else none) else none))) := by
    unfold f_Pk_frame f_Ln_answer_c1
    rw [t1, hh1]
    have id1 : ∀ o : Option (Int32 × zs_H), zd_B o (fun v2 h3 => some (v2, h3)) = o := fun o => by
      cases o with
      | none => rfl
      | some p => rfl
    rw [id1]
    rfl
  by_cases c4 : t < 4
  · rw [eC, eM, if_pos ((zc_tl (k := 4) (by decide) (by omega)).mpr c4), if_pos ((zc_tl (k := 4) (by decide) (by omega)).mpr c4), e54, ite_self]
    exact nil
  rw [if_neg (mt (zc_tl (k := 4) (by decide) (by omega)).mp c4)] at eC eM
  by_cases c256 : 256 < t
  · rw [eC, eM, if_pos ((zc_lt (k := 256) (by decide) (by omega)).mpr c256), if_neg (mt (zc_el (k := 256) (by decide) (by omega)).mp (by omega)), e54, ite_self]
    exact nil
  have crC : f_Ln_checkSum_c1 h1 (nI (t - 2)) = some (nI (zln_c b (t - 2))) := zln_C5 (by omega) hb (fun i hi => hC1 i (by omega)) (t - 2) 0 zF (by omega) (by omega)
  rw [if_neg (mt (zc_lt (k := 256) (by decide) (by omega)).mp c256), show nI t - 2 = nI (t - 2) from zi_sub (b := 2) (by omega), show nI t - 1 = nI (t - 1) from zi_sub (b := 1) (by omega), crC, Option.bind_some, if_pos (zi_in (by omega) (show t - 2 < 16384 by omega)), if_pos (zi_in (by omega) (show t - 1 < 16384 by omega)), nI_clamp (by omega), nI_clamp (by omega), hC, hC] at eC
  rw [if_pos ((zc_el (k := 256) (by decide) (by omega)).mpr (by omega))] at eM
  have hcl := zln_cl hb (t - 2)
  have h2 := hb (t - 2)
  have h1' := hb (t - 1)
  rw [show 256 * nI (b (t - 1)) = nI (256 * b (t - 1)) from zi_mul 256 _, nI_add] at eC
  rcases R.2.2.2.2.2.2 with ⟨d1, u⟩ | ⟨d1, d2, _⟩
  · have e55 : f_Ln_answer_c1_55 h1 (nI t) 1 = some (0, h1) := by
      unfold f_Ln_answer_c1_55
      rw [l1, u.1, if_pos (show (0 : Int32) = 0 from rfl)]
    rw [e55, e54, ite_self] at eC
    rw [if_pos d1] at eM
    rw [eC, eM]
    exact nil
  rw [d2, if_neg (show ¬ (1 : Int32) = 0 by decide)] at eM
  have L := zln_M37 (g := g1) (b := b) (t := t) (by omega) hb hM1 (t - 2) 0 zF (by omega) (by omega)
  rw [show f_Mo_frame_L37 zF g1 (nI t) 65535 0 = _ from L] at eM
  have hd1 : f_Mo_heard g1 (nI (t - 2)) = some (nI (b (t - 2))) := by
    unfold f_Mo_heard
    rw [if_pos (zi_in (by omega) (show t - 2 < 16384 by omega)), nI_clamp (by omega), hM1 _ (by omega)]
  have hd2 : f_Mo_heard g1 (nI (t - 1)) = some (nI (b (t - 1))) := by
    unfold f_Mo_heard
    rw [if_pos (zi_in (by omega) (show t - 1 < 16384 by omega)), nI_clamp (by omega), hM1 _ (by omega)]
  generalize hcc : zln_c b (t - 2) = cc at eC eM hcl
  have e85 : ∀ y : Int32, f_Mo_frame_85 g1 (nI t) (nI cc) y = if cc = b (t - 2) + 256 * b (t - 1) then (if y = 0 then some (0, g1) else ((f_Mo_heard g1 1).bind fun v9 => ((f_Mo_refusal g1 v9 (nI t - 4)).bind fun v11 => (if v11 = 0 then ((f_Mo_obey g1 v9).bind fun h14 => f_Mo_frame_151 h14 v9 v11) else f_Mo_frame_151 g1 v9 v11)))) else some (0, g1) := fun y => by
    unfold f_Mo_frame_85
    rw [show nI t - 2 = nI (t - 2) from zi_sub (b := 2) (by omega), show nI t - 1 = nI (t - 1) from zi_sub (b := 1) (by omega), hd1, Option.bind_some, hd2, Option.bind_some, show nI cc / 256 = nI (cc / 256) from zln_d (b := 256) (by omega) (by decide), show nI (cc / 256) * 256 = nI (cc / 256 * 256) from zi_mul _ 256, zi_sub (by omega)]
    by_cases q : cc = b (t - 2) + 256 * b (t - 1)
    · rw [if_pos q, if_pos (congrArg nI (show b (t - 2) = cc - cc / 256 * 256 by omega)), if_pos (congrArg nI (show b (t - 1) = cc / 256 by omega))]
    · rw [if_neg q]
      by_cases p : b (t - 2) = cc - cc / 256 * 256
      · rw [if_pos (congrArg nI p), if_neg (fun w => by have := (nI_eq (by omega) (by omega)).mp w; omega)]
      · rw [if_neg (fun w => p ((nI_eq (by omega) (by omega)).mp w))]
  unfold f_Mo_frame_80 at eM
  rw [e85, e85] at eM
  by_cases q : cc = b (t - 2) + 256 * b (t - 1)
  · rw [if_pos (congrArg nI q)] at eC
    rw [if_pos q, if_pos q, if_neg (show ¬ (1 : Int32) = 0 by decide), if_pos (show (0 : Int32) = 0 from rfl)] at eM
    unfold f_Ln_answer_c1_55 at eC
    rw [l1, d1, if_neg (show ¬ (1 : Int32) = 0 by decide), if_neg (show ¬ (1 : Int32) = 0 by decide), hC1 0 (by omega)] at eC
    have sE : (h1.1 66 2) = (g1.1 68 83) := R1.2.2.2.2.1.2
    have O1 : zln_O 0 h1 g1 := by rw [hh1, hg1]; exact ⟨by decide, rfl, rfl, fun i hi => absurd hi (Nat.not_lt_zero i)⟩
    have go : (b 0 = 0 ∨ (h1.1 66 2) = nI (b 0)) → _ := fun st => zln_95 (t := t) (b := b) R1 (l1.trans d1) (by rw [hg1]; exact d2) (by rw [hg1]; exact Bt d2) O1 (by omega) hb hC1 hM1 st
    by_cases z0 : nI (b 0) = 0
    · rw [if_pos z0] at eC eM
      obtain ⟨n, h', g', a1, a2, a3, a4, a5, a6⟩ := go (.inl ((zc_eq (k := 0) (by decide) (by have := hb 0; omega)).mp z0))
      exact ⟨nI n, h', g', eC.trans a1, eM.trans a2, a3, fun _ => a4, zO_Ct y1 a5, zO_Mt y2 a6⟩
    · rw [if_neg z0] at eC eM
      rw [sE] at eC
      by_cases zs : nI (b 0) = (g1.1 68 83)
      · rw [if_pos zs] at eC eM
        obtain ⟨n, h', g', a1, a2, a3, a4, a5, a6⟩ := go (.inr (sE.trans zs.symm))
        exact ⟨nI n, h', g', eC.trans a1, eM.trans a2, a3, fun _ => a4, zO_Ct y1 a5, zO_Mt y2 a6⟩
      · rw [if_neg zs] at eC eM
        rw [eC, eM]
        exact nil
  · rw [if_neg (fun w => q ((nI_eq (by omega) (by omega)).mp w)), e54] at eC
    rw [if_neg q, if_neg q, ite_self, ite_self] at eM
    rw [eC, eM]
    exact nil
end ZLH
