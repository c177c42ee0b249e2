/-! put, get, safe, scan, restart, load keep what holds between two calls. -/
section YOK
variable {h g h' g' : zs_H} {t : Nat}
/-- the machine has moved, nothing else -/
theorem yO_mach (R : yO t h g) (f1 : zfr [(58, 4), (58, 6), (58, 7), (58, 8), (58, 9), (58, 14), (58, 17), (58, 18), (58, 19), (58, 20)] [59, 60, 61, 62, 63, 64, 65] [] h h') (f2 : zfr [(68, 73), (68, 74), (68, 75), (68, 76), (68, 84), (68, 85), (68, 86)] [114, 115, 118, 119, 120] [] g g') (io : yY_io h' g') (D : yO_D h' g') : yO t h' g' := by
  obtain ⟨⟨⟨t1, t2, t3⟩, t4, t5⟩, N, _, c, ⟨s1, s2⟩, o, _⟩ := R
  have F1 : zfr yO_F1 yO_M1 [] h h' := zfr_w f1 (by decide) (by decide) (by decide)
  have F2 : zfr yO_F2 yO_M2 [] g g' := zfr_w f2 (by decide) (by decide) (by decide)
  refine ⟨⟨⟨(f1.1 _ _ (by decide)).trans t1, (f2.1 _ _ (by decide)).trans t2, t3⟩, fun i => by rw [f1.2.1 _ (by decide)]; exact t4 i, fun i hi => by rw [f1.2.1 _ (by decide), f2.2.1 _ (by decide)]; exact t5 i hi⟩, yO_Nf N F1 F2, io, yO_cf c F1 F2, ⟨?_, ?_⟩, ?_, D⟩
  · exact (f1.1 _ _ (by decide)).trans (s1.trans (f2.1 _ _ (by decide)).symm)
  · exact (f1.1 _ _ (by decide)).trans (s2.trans (f2.1 _ _ (by decide)).symm)
  · obtain ⟨n, n1, n2, n3, n4⟩ := o
    exact ⟨n, n1, (f1.1 _ _ (by decide)).trans n2, (f2.1 _ _ (by decide)).trans n3, fun i hi => by rw [f1.2.1 _ (by decide), f2.2.1 _ (by decide)]; exact n4 i hi⟩
/-- what yZ_chg and yZ_put want, and that what they leave will do -/
theorem yO_k (D : yO_D h g) : ∃ J, yZ_k J h g ∧ ∀ h' g', zfr [] [59, 62] [] h h' → zfr [] [114, 118] [] g g' → yZ_k J h' g' → yO_D h' g' := by
  rcases D with ⟨d1, ⟨u1, u2, u3, u4, u5, u6, u7⟩⟩ | ⟨d1, d2, d3, Z⟩
  · refine ⟨fun _ => True, fun q => absurd (u1.symm.trans q) (by decide), fun h' g' f1 f2 _ => .inl ⟨(f2.1 _ _ (by decide)).trans d1, (f1.1 _ _ (by decide)).trans u1, (f1.1 _ _ (by decide)).trans u2, (f1.1 _ _ (by decide)).trans u3, (f1.1 _ _ (by decide)).trans u4, (f1.1 _ _ (by decide)).trans u5, (f1.1 _ _ (by decide)).trans u6, (f1.1 _ _ (by decide)).trans u7⟩⟩
  · obtain ⟨LC, LM, nb, F, X, Y, K, T, w, h0, g0, S, ⟨m1, m2, ⟨m3, m4, m5, m6⟩, m7⟩⟩ := yO_ZS Z
    refine ⟨yJ_J h0 nb T X K, fun _ => ⟨m1, m2, fun c c' j e => yJ_J9 S.2.2.1.1 j e⟩, fun h' g' f1 f2 k => ?_⟩
    have d1' : (h'.1 58 3) = 1 := (f1.1 _ _ (by decide)).trans d1
    obtain ⟨k1, k2, _⟩ := k d1'
    refine .inr ⟨d1', (f2.1 _ _ (by decide)).trans d2, by rw [f1.1 58 4 (by decide)]; exact d3, yO_SZ (yO_Sf S (zfr_w f1 (by decide) (by decide) (by decide)) (zfr_w f2 (by decide) (by decide) (by decide))) ⟨k1, k2, ⟨?_, ?_, ?_, ?_⟩, ?_⟩⟩
    · exact (f1.1 _ _ (by decide)).trans (m3.trans (f2.1 _ _ (by decide)).symm)
    · exact (f1.1 _ _ (by decide)).trans (m4.trans (f2.1 _ _ (by decide)).symm)
    · exact (f1.1 _ _ (by decide)).trans (m5.trans (f2.1 _ _ (by decide)).symm)
    · exact (f1.1 _ _ (by decide)).trans (m6.trans (f2.1 _ _ (by decide)).symm)
    · exact (f1.1 _ _ (by decide)).trans (m7.trans (f2.1 _ _ (by decide)).symm)
theorem yO_kc (D : yO_D h g) : ¬ (h.1 58 3) = 0 → ∀ j, j < 8192 → (h.2.1 62) j = (g.2.1 114) j := fun q => by
  rcases D with ⟨_, u⟩ | ⟨_, _, _, Z⟩
  · exact absurd u.1 q
  · obtain ⟨LC, LM, nb, F, X, Y, K, T, w, h0, g0, S, M⟩ := yO_ZS Z
    exact M.1
theorem yO_put (R : yO t h g) (x1 x2 x3 : Int32) : ∃ v h' g', f_Pk_put h x1 x2 x3 = some (v, h') ∧ f_Mo_put g x1 x2 x3 = some (v, g') ∧ yO t h' g' ∧ zO_r h g h' g' := by
  have D := R.2.2.2.2.2.2
  obtain ⟨J, kk, kD⟩ := yO_k D
  obtain ⟨v, h', g', a1, a2, a3, a4, a5, a6⟩ := yZ_put x1 x2 x3 R.2.2.1 (yO_el D).1 kk
  exact ⟨v, h', g', a1, a2, yO_mach R (zfr_w a3 (by decide) (by decide) (by decide)) (zfr_w a4 (by decide) (by decide) (by decide)) a5 (kD h' g' a3 a4 a6), zO_Cz a3, zO_Mz a4⟩
theorem yO_get (R : yO t h g) (x1 x2 : Int32) : ∃ v, f_Pk_get h x1 x2 = some v ∧ f_Mo_get g x1 x2 = some v := yZ_get x1 x2 R.2.2.1 (yO_el R.2.2.2.2.2.2).1 (yO_kc R.2.2.2.2.2.2)
theorem yO_safe (R : yO t h g) (x1 x2 x3 : Int32) : ∃ v h' g', f_Pk_safe h x1 x2 x3 = some (v, h') ∧ f_Mo_safe g x1 x2 x3 = some (v, g') ∧ yO t h' g' ∧ zO_r h g h' g' := by
  obtain ⟨v, h', g', a1, a2, a3, a4, a5⟩ := yZ_safe x1 x2 x3 R.2.2.1
  exact ⟨v, h', g', a1, a2, yO_mach R (zfr_w a3 (by decide) (by decide) (by decide)) (zfr_w a4 (by decide) (by decide) (by decide)) a5 (yO_Df R.2.2.2.2.2.2 (zfr_w a3 (by decide) (by decide) (by decide)) (zfr_w a4 (by decide) (by decide) (by decide))), zO_Cz a3, zO_Mz a4⟩
theorem yO_restart (R : yO t h g) : ∃ v h' g', f_Pk_restart h = some (v, h') ∧ f_Mo_restart g = some (v, g') ∧ yO t h' g' ∧ zO_r h g h' g' := by
  unfold f_Pk_restart f_Mo_restart
  rcases R.2.2.2.2.2.2 with ⟨d1, u⟩ | ⟨d1, d2, d3, Z⟩
  · rw [u.1, d1, if_pos (show (0 : Int32) = 0 from rfl), if_pos (show (0 : Int32) = 0 from rfl)]
    exact ⟨_, _, _, rfl, rfl, R, zO_C0, zO_M0⟩
  · obtain ⟨LC, LM, nb, F, X, Y, K, T, w, h0, g0, S, ⟨m1, m2, ⟨m3, m4, m5, m6⟩, m7⟩⟩ := yO_ZS Z
    obtain ⟨h', g', a1, a2, a3, a4, a5, a6, a7, a8, a9⟩ := yB_anew S.1 (yL_EB S.2.1) (yL_Eb S.2.1) S.2.2.2.1.1 R.2.2.1
    rw [d1, d2, if_neg (show ¬ (1 : Int32) = 0 by decide), if_neg (show ¬ (1 : Int32) = 0 by decide), a1, a2, Option.bind_some, Option.bind_some]
    refine ⟨0, h', g', rfl, rfl, yO_mach R (zfr_w a3 (by decide) (by decide) (by decide)) (zfr_w a4 (by decide) (by decide) (by decide)) a7 (.inr ⟨(a3.1 _ _ (by decide)).trans d1, (a4.1 _ _ (by decide)).trans d2, .inl a8, yO_SZ (yO_Sf S (zfr_w a3 (by decide) (by decide) (by decide)) (zfr_w a4 (by decide) (by decide) (by decide))) ⟨a5, ⟨a6.1, a6.2 _⟩, ⟨?_, ?_, ?_, ?_⟩, a8.trans a9.symm⟩⟩), zO_Cz a3, zO_Mz a4⟩
    · exact (a3.1 _ _ (by decide)).trans (m3.trans (a4.1 _ _ (by decide)).symm)
    · exact (a3.1 _ _ (by decide)).trans (m4.trans (a4.1 _ _ (by decide)).symm)
    · exact (a3.1 _ _ (by decide)).trans (m5.trans (a4.1 _ _ (by decide)).symm)
    · exact (a3.1 _ _ (by decide)).trans (m6.trans (a4.1 _ _ (by decide)).symm)
theorem yO_scan (R : yO t h g) (x1 : Int32) : ∃ v h' g', f_Pk_scan h x1 = some (v, h') ∧ f_Mo_scan g x1 = some (v, g') ∧ yO t h' g' ∧ zO_r h g h' g' := by
  unfold f_Pk_scan f_Mo_scan
  by_cases c1 : x1 < 0
  · rw [if_pos c1, if_pos c1]; exact ⟨_, _, _, rfl, rfl, R, zO_C0, zO_M0⟩
  rw [if_neg c1, if_neg c1]
  by_cases c2 : x1 ≤ 100000
  · rw [if_pos c2, if_pos c2]
    rcases R.2.2.2.2.2.2 with ⟨d1, u⟩ | ⟨d1, d2, d3, Z⟩
    · rw [u.1, d1, if_pos (show (0 : Int32) = 0 from rfl), if_pos (show (0 : Int32) = 0 from rfl)]
      exact ⟨_, _, _, rfl, rfl, R, zO_C0, zO_M0⟩
    · obtain ⟨LC, LM, nb, F, X, Y, K, T, w, h0, g0, S, M⟩ := yO_ZS Z
      rw [d1, d2, if_neg (show ¬ (1 : Int32) = 0 by decide), if_neg (show ¬ (1 : Int32) = 0 by decide), ← M.2.2.2]
      by_cases st : (h.1 58 4) = 0
      · rw [if_pos st, if_pos st]
        obtain ⟨v, h', g', a1, a2, a3, a4, a5, a6, a7⟩ := yY_scan S.2.2.1 M R.2.2.1 x1 st
        rw [a1, a2]
        exact ⟨v, h', g', rfl, rfl, yO_mach R (zfr_w a3 (by decide) (by decide) (by decide)) (zfr_w a4 (by decide) (by decide) (by decide)) a6 (.inr ⟨(a3.1 _ _ (by decide)).trans d1, (a4.1 _ _ (by decide)).trans d2, a7, yO_SZ (yO_Sf S (zfr_w a3 (by decide) (by decide) (by decide)) (zfr_w a4 (by decide) (by decide) (by decide))) a5⟩), zO_Cz a3, zO_Mz a4⟩
      · rw [if_neg st, if_neg st]; exact ⟨_, _, _, rfl, rfl, R, zO_C0, zO_M0⟩
  · rw [if_neg c2, if_neg c2]; exact ⟨_, _, _, rfl, rfl, R, zO_C0, zO_M0⟩
theorem yO_load (CX : yL_CX) (R : yO t h g) (x1 : Int32) : ∃ v h' g' t', f_Pk_load h x1 = some (v, h') ∧ f_Mo_load g x1 = some (v, g') ∧ t' ≤ t ∧ yO t' h' g' ∧ zO_r h g h' g' := by
  by_cases c1 : x1 < 100
  · unfold f_Pk_load f_Mo_load
    rw [if_pos c1, if_pos c1]; exact ⟨_, _, _, t, rfl, rfl, Nat.le_refl _, R, zO_C0, zO_M0⟩
  by_cases c2 : x1 ≤ 100000
  · obtain ⟨bu, b1, b2⟩ := yZ_nn (x := x1) (k := 100000) (fun q => c1 (Int32.lt_trans q (by decide))) (fun q => Int32.lt_irrefl (Int32.lt_of_le_of_lt c2 q)) (by decide)
    subst b2
    have b3 : 100 ≤ bu := by
      have := mt (zc_tl (k := 100) (t := bu) (by decide) (by omega)).mpr c1
      omega
    obtain ⟨H, N, io, c, ⟨s1, s2⟩, o, D⟩ := R
    obtain ⟨φ, h', g', a1, a2, a3, f1, f2, ⟨t1, t2⟩, ⟨e1, e2, e3⟩, N', io', alt⟩ := yL_load CX H N io b3 b1
    refine ⟨nI φ, h', g', 0, a1, a2, Nat.zero_le _, ⟨⟨⟨t1, t2, by decide⟩, fun i => by rw [f1.2.1 _ (by decide)]; exact H.2.1 i, fun i hi => absurd hi (Nat.not_lt_zero i)⟩, N', io', ⟨e1.trans e2.symm, ?_⟩, ⟨?_, ?_⟩, ?_, ?_⟩, zO_Cz f1, zO_Mz f2⟩
    · rw [e3, e2]
      by_cases z : φ = 0
      · rw [if_pos z, if_pos (by rw [z]; rfl)]
      · rw [if_neg z, if_neg (fun q => z ((zc_eq (k := 0) (by decide) (by omega)).mp q))]
    · exact (f1.1 _ _ (by decide)).trans (s1.trans (f2.1 _ _ (by decide)).symm)
    · exact (f1.1 _ _ (by decide)).trans (s2.trans (f2.1 _ _ (by decide)).symm)
    · obtain ⟨n, n1, n2, n3, n4⟩ := o
      exact ⟨n, n1, (f1.1 _ _ (by decide)).trans n2, (f2.1 _ _ (by decide)).trans n3, fun i hi => by rw [f1.2.1 _ (by decide), f2.2.1 _ (by decide)]; exact n4 i hi⟩
    · rcases alt with ⟨_, q1, q2⟩ | ⟨_, q1, q2, q3⟩
      · exact .inl ⟨q1, q2⟩
      · exact .inr ⟨q1.1, q2, .inl q1.2, q3⟩
  · unfold f_Pk_load f_Mo_load
    rw [if_neg c1, if_neg c2, if_neg c1, if_neg c2]; exact ⟨_, _, _, t, rfl, rfl, Nat.le_refl _, R, zO_C0, zO_M0⟩
end YOK
