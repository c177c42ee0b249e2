/-! The judge: both sides settle the variables of a declaration. -/
theorem zv_pcM : ∀ p, p < 1536 → (768 ≤ p → p % 256 < 64) → ((if (768 : Int32) ≤ nI p then 576 else 0) + (nI p / 256) * (if (768 : Int32) ≤ nI p then 64 else 256)) + (nI p - nI p / 256 * 256) = nI (zv_pc p) := by
  have key : ∀ p, p < 1536 → (p < 768 ∨ p % 256 < 64) → ((if (768 : Int32) ≤ nI p then 576 else 0) + (nI p / 256) * (if (768 : Int32) ≤ nI p then 64 else 256)) + (nI p - nI p / 256 * 256) = nI (zv_pc p) := by decide +kernel
  intro p h1 h2
  exact key p h1 (by omega)
abbrev zv_pl (pl : Int32) (x y y' s : Nat) : Prop := (pl = -1 ∧ x = y ∧ y' = y + s) ∨ ∃ p, p < 1536 ∧ (768 ≤ p → p % 256 < 64) ∧ pl = nI p ∧ x = zv_pc p ∧ y' = y
theorem zv_stepC {K : zs_H → Int32 → Int32 → Int32 → Int32 → Int32 → Int32 → Int32 → Option zs_H} {h : zs_H} {nb n v x y y' s : Nat} {ty pl co inst low : Int32} (hn : (h.1 20 18) = nI (32 + n)) (hv : v < n) (hn2 : n ≤ 5900) (hj : (h.1 38 4) = nI (8 + nb)) (hnb : nb ≤ 568) (hy : (h.2.1 25) (8 + nb) = nI y) (hpl : zv_pl pl x y y' s) :
    ∃ h', f_Jd_settle_124 K h ty pl co inst low (nI s) (nI (32 + v)) = K h' ty pl co inst low (nI s) (nI (32 + (v + 1))) ∧ (∀ j, (h'.2.1 30) j = if j = 32 + v then inst else (h.2.1 30) j) ∧ (∀ j, (h'.2.1 31) j = if j = 32 + v then ty else (h.2.1 31) j) ∧ (∀ j, (h'.2.1 33) j = if j = 32 + v then low else (h.2.1 33) j) ∧ (∀ j, (h'.2.1 34) j = if j = 32 + v then nI s else (h.2.1 34) j) ∧ (∀ j, (h'.2.1 35) j = if j = 32 + v then co else (h.2.1 35) j) ∧ (∀ j, (h'.2.1 32) j = if j = 32 + v then nI x else (h.2.1 32) j) ∧ (∀ j, (h'.2.1 25) j = if j = 8 + nb then nI y' else (h.2.1 25) j) ∧
      zfr [] [30, 31, 33, 34, 35, 32, 25] [] h h' := by
  have hl : ¬ nI (32 + n) ≤ nI (32 + v) := mt (nI_leI (by omega) (by omega)).mp (by omega)
  have hiv : zd_in (nI (32 + v)) 6000 := zi_in (by omega) (by omega)
  have cv : (nI (32 + v)).toNatClampNeg = 32 + v := nI_clamp (by omega)
  have cn : (nI (8 + nb)).toNatClampNeg = 8 + nb := nI_clamp (by omega)
  have hin : zd_in (nI (8 + nb)) 629 := zi_in (by omega) (by omega)
  unfold f_Jd_settle_124 f_Jd_settle_256
  rcases hpl with ⟨r1, r2, r3⟩ | ⟨p, p1, p2, p3, p4, p5⟩
  · subst r1; subst r2; subst r3
    simp only [hn, if_neg hl, if_pos hiv, cv, if_true, hj, if_pos hin, cn, hy, nI_add, nI_1, Nat.add_assoc]
    refine ⟨_, rfl, fun j => ?_, fun j => ?_, fun j => ?_, fun j => ?_, fun j => ?_, fun j => ?_, fun j => ?_, ?_⟩
    all_goals first | (refine zfr_M (by decide) ?_; repeat (first | exact zfr_rfl | refine zfr_M (by decide) ?_ | refine zfr_F (by decide) ?_)) | simp only [zu_FM, zu_MM, zu_FF, zu_MF, Nat.reduceEqDiff, and_true, true_and, and_false, false_and, if_true, if_false]
  · subst p3; subst p4; subst p5
    simp only [hn, if_neg hl, if_pos hiv, cv, if_neg (zc_m1 (show p < 2147483648 by omega)), (zv_pcC p p1 p2).1, Option.bind_some, nI_1, Nat.add_assoc]
    refine ⟨_, rfl, fun j => ?_, fun j => ?_, fun j => ?_, fun j => ?_, fun j => ?_, fun j => ?_, fun j => ?_, ?_⟩
    all_goals first | (refine zfr_M (by decide) ?_; repeat (first | exact zfr_rfl | refine zfr_M (by decide) ?_ | refine zfr_F (by decide) ?_)) | simp only [zu_FM, zu_MM, zu_FF, zu_MF, Nat.reduceEqDiff, and_true, true_and, and_false, false_and, if_true, if_false]
    by_cases z : j = 8 + nb
    · rw [if_pos z, z, hy]
    · rw [if_neg z]
theorem zv_stepM {K : zs_H → Int32 → Int32 → Int32 → Int32 → Int32 → Int32 → Int32 → Int32 → Int32 → Option zs_H} {g : zs_H} {hb v kj x y y' s : Nat} {x1 x4 x5 pl co so of low : Int32} (hv : v < 8400) (hkj : kj < 33500) (hj : (g.1 68 54) = nI hb) (hnb : hb < 2100) (hy : (g.2.1 88) hb = nI y) (hkd : (g.2.1 72) kj = 6) (hpl : zv_pl pl x y y' s) (hp0 : (g.2.1 96) v = -1)
    (hlow : (so = 1 ∧ ∃ kt k1, x4 = nI kt ∧ kt < 33500 ∧ (g.2.1 76) kt = nI k1 ∧ k1 < 33500 ∧ (g.2.1 74) k1 = low) ∨ (¬ so = 1 ∧ low = 0)) (hco : (x5 = -1 ∧ co = 0) ∨ ∃ kc, kc < 33500 ∧ x5 = nI kc ∧ (g.2.1 74) kc = co) :
    ∃ g', f_Mo_lookAtDeclaration_480 K g x1 pl x4 x5 so of (nI s) (nI v) (nI kj) = K g' x1 pl x4 x5 so of (nI s) (nI (v + 1)) ((g.2.1 78) kj) ∧ (∀ j, (g'.2.1 92) j = if j = v then so else (g.2.1 92) j) ∧ (∀ j, (g'.2.1 93) j = if j = v then of else (g.2.1 93) j) ∧ (∀ j, (g'.2.1 94) j = if j = v then nI x else (g.2.1 94) j) ∧ (∀ j, (g'.2.1 96) j = if j = v then pl else (g.2.1 96) j) ∧ (∀ j, (g'.2.1 97) j = if j = v then low else (g.2.1 97) j) ∧ (∀ j, (g'.2.1 98) j = if j = v then nI s else (g.2.1 98) j) ∧ (∀ j, (g'.2.1 99) j = if j = v then co else (g.2.1 99) j) ∧ (∀ j, (g'.2.1 88) j = if j = hb then nI y' else (g.2.1 88) j) ∧ (∀ j, ¬ j = kj → (g'.2.1 101) j = (g.2.1 101) j) ∧
      zfr [] [92, 93, 94, 96, 97, 98, 99, 88, 101] [] g g' := by
  have hik : zd_in (nI kj) 33500 := zi_in (by omega) hkj
  have ck : (nI kj).toNatClampNeg = kj := nI_clamp (by omega)
  have hiv : zd_in (nI v) 8400 := zi_in (by omega) hv
  have cv : (nI v).toNatClampNeg = v := nI_clamp (by omega)
  have hih : zd_in (nI hb) 2100 := zi_in (by omega) hnb
  have ch : (nI hb).toNatClampNeg = hb := nI_clamp (by omega)
  -- the end of a turn
  have fin : ∀ (g1 : zs_H), (∀ j, g1.2.1 72 j = g.2.1 72 j) → (∀ j, (g1.2.1 76) j = (g.2.1 76) j) → (∀ j, (g1.2.1 74) j = (g.2.1 74) j) → (∀ j, (g1.2.1 78) j = (g.2.1 78) j) → ∃ g', f_Mo_lookAtDeclaration_573 K g1 x1 pl x4 x5 so of (nI s) (nI v) (nI kj) = K g' x1 pl x4 x5 so of (nI s) (nI (v + 1)) ((g.2.1 78) kj) ∧ g' = zs_uM (zs_uM (zs_uM (zs_uM g1 101 kj ((g1.2.1 94) v)) 97 v low) 98 v (nI s)) 99 v co := by
    intro g1 e1 e2 e3 e4
    unfold f_Mo_lookAtDeclaration_573 f_Mo_lookAtDeclaration_615 f_Mo_lookAtDeclaration_647
    simp only [if_pos hiv, if_pos hik, ck, cv, zu_MM, Nat.reduceEqDiff, false_and, if_false, e2, e3, e4, nI_1]
    have tail : ∀ G : zs_H, (∀ j, (G.2.1 74) j = (g.2.1 74) j) → (if (0 : Int32) ≤ x5 then (if zd_in x5 33500 then K (zs_uM G 99 v ((g.2.1 74) x5.toNatClampNeg)) x1 pl x4 x5 so of (nI s) (nI (v + 1)) ((g.2.1 78) kj) else none) else K (zs_uM G 99 v 0) x1 pl x4 x5 so of (nI s) (nI (v + 1)) ((g.2.1 78) kj)) = K (zs_uM G 99 v co) x1 pl x4 x5 so of (nI s) (nI (v + 1)) ((g.2.1 78) kj) := by
      intro G _
      rcases hco with ⟨r1, r2⟩ | ⟨kc, r1, r2, r3⟩
      · rw [r1, r2, if_neg (by decide)]
      · rw [r2, if_pos ((zc_le (k := 0) (by decide) (by omega)).mpr (by omega)), if_pos (zi_in (by omega) r1), nI_clamp (by omega), r3]
    rcases hlow with ⟨l1, kt, k1, l2, l3, l4, l5, l6⟩ | ⟨l1, l2⟩
    · subst l1
      simp only [l2, if_true, if_pos (zi_in (show kt < 2147483648 by omega) l3), nI_clamp (show kt < 2147483648 by omega), l4, if_pos (zi_in (show k1 < 2147483648 by omega) l5), nI_clamp (show k1 < 2147483648 by omega), l6]
      rw [← l2, tail _ (fun j => by simp only [zu_MM, Nat.reduceEqDiff, false_and, if_false, e3])]
      exact ⟨_, rfl, rfl⟩
    · simp only [if_neg l1]
      rw [tail _ (fun j => by simp only [zu_MM, Nat.reduceEqDiff, false_and, if_false, e3]), l2]
      exact ⟨_, rfl, rfl⟩
  unfold f_Mo_lookAtDeclaration_480 f_Mo_lookAtDeclaration_509 f_Mo_layOut
  rcases hpl with ⟨r1, r2, r3⟩ | ⟨p, p1, p2, p3, p4, p5⟩
  · subst r1; subst r2; subst r3
    simp only [if_pos hik, ck, hkd, if_true, if_neg (show ¬ (0 : Int32) ≤ -1 by decide), if_pos hiv, cv, hj, if_pos hih, ch, hy, Option.bind_some, nI_add, if_pos (show (-1 : Int32) < 0 by decide)]
    obtain ⟨g', e1, e2⟩ := fin (zs_uM (zs_uM (zs_uM (zs_uM g 92 v so) 93 v of) 94 v (nI x)) 88 hb (nI (x + s))) (fun j => by simp only [zu_MM, Nat.reduceEqDiff, false_and, if_false]) (fun j => by simp only [zu_MM, Nat.reduceEqDiff, false_and, if_false]) (fun j => by simp only [zu_MM, Nat.reduceEqDiff, false_and, if_false]) (fun j => by simp only [zu_MM, Nat.reduceEqDiff, false_and, if_false])
    refine ⟨g', e1, ?_⟩
    rw [e2]
    refine ⟨fun j => ?_, fun j => ?_, fun j => ?_, fun j => ?_, fun j => ?_, fun j => ?_, fun j => ?_, fun j => ?_, fun j hj => ?_, ?_⟩
    all_goals first | (refine zfr_M (by decide) ?_; repeat (first | exact zfr_rfl | refine zfr_M (by decide) ?_ | refine zfr_F (by decide) ?_)) | simp only [zu_FM, zu_MM, zu_FF, zu_MF, Nat.reduceEqDiff, and_true, true_and, and_false, false_and, if_true, if_false]
    · by_cases z : j = v
      · rw [if_pos z, z, hp0]
      · rw [if_neg z]
    · rw [if_neg hj]
  · subst p3; subst p4; subst p5
    have hp : ¬ nI p < 0 := mt (zc_tl (k := 0) (by decide) (by omega)).mp (by omega)
    have hpm := zv_pcM p p1 p2
    simp only [if_pos hik, ck, hkd, if_true, if_pos ((zc_le (k := 0) (by decide) (show p < 2147483648 by omega)).mpr (Nat.zero_le p)), if_pos hiv, cv, hj, if_pos hih, ch, hy, Option.bind_some, Int32.add_zero, if_neg hp]
    unfold f_Mo_lookAtDeclaration_544 f_Mo_lookAtDeclaration_564
    simp only [if_pos hiv, cv]
    have e5 : ∀ (G : zs_H), (if (768 : Int32) ≤ nI p then (if (768 : Int32) ≤ nI p then f_Mo_lookAtDeclaration_573 K (zs_uM G 94 v (576 + nI p / 256 * 64 + (nI p - nI p / 256 * 256))) x1 (nI p) x4 x5 so of (nI s) (nI v) (nI kj) else f_Mo_lookAtDeclaration_573 K (zs_uM G 94 v (576 + nI p / 256 * 256 + (nI p - nI p / 256 * 256))) x1 (nI p) x4 x5 so of (nI s) (nI v) (nI kj)) else (if (768 : Int32) ≤ nI p then f_Mo_lookAtDeclaration_573 K (zs_uM G 94 v (0 + nI p / 256 * 64 + (nI p - nI p / 256 * 256))) x1 (nI p) x4 x5 so of (nI s) (nI v) (nI kj) else f_Mo_lookAtDeclaration_573 K (zs_uM G 94 v (0 + nI p / 256 * 256 + (nI p - nI p / 256 * 256))) x1 (nI p) x4 x5 so of (nI s) (nI v) (nI kj))) = f_Mo_lookAtDeclaration_573 K (zs_uM G 94 v (nI (zv_pc p))) x1 (nI p) x4 x5 so of (nI s) (nI v) (nI kj) := by
      intro G
      rw [← hpm]
      by_cases z : (768 : Int32) ≤ nI p
      · simp only [if_pos z]
      · simp only [if_neg z]
    rw [e5]
    obtain ⟨g', e1, e2⟩ := fin (zs_uM (zs_uM (zs_uM (zs_uM (zs_uM (zs_uM g 92 v so) 93 v of) 94 v (nI y')) 88 hb (nI y')) 96 v (nI p)) 94 v (nI (zv_pc p))) (fun j => by simp only [zu_MM, Nat.reduceEqDiff, false_and, if_false]) (fun j => by simp only [zu_MM, Nat.reduceEqDiff, false_and, if_false]) (fun j => by simp only [zu_MM, Nat.reduceEqDiff, false_and, if_false]) (fun j => by simp only [zu_MM, Nat.reduceEqDiff, false_and, if_false])
    refine ⟨g', e1, ?_⟩
    rw [e2]
    refine ⟨fun j => ?_, fun j => ?_, fun j => ?_, fun j => ?_, fun j => ?_, fun j => ?_, fun j => ?_, fun j => ?_, fun j hj => ?_, ?_⟩
    all_goals first | (refine zfr_M (by decide) ?_; repeat (first | exact zfr_rfl | refine zfr_M (by decide) ?_ | refine zfr_F (by decide) ?_)) | simp only [zu_FM, zu_MM, zu_FF, zu_MF, Nat.reduceEqDiff, and_true, true_and, and_false, false_and, if_true, if_false]
    all_goals (split <;> first | rfl | simp_all)
