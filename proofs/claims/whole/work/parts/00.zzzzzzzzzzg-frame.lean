/-! frame, on both sides. -/
section ZLF
variable {h g h' g' : zs_H} {t n : Nat}
theorem yO_ln0 (R : yO t h g) : yO 0 (zs_uF (zs_uF h 0 1 0) 66 1 0) (zs_uF (zs_uF g 68 78 0) 68 88 0) := by
  obtain ⟨H, N, io, c, s, o, D⟩ := R
  refine ⟨⟨⟨rfl, rfl, by decide⟩, H.2.1, fun i hi => absurd hi (Nat.not_lt_zero i)⟩, N, io, c, s, ⟨0, by decide, rfl, rfl, fun i hi => absurd hi (Nat.not_lt_zero i)⟩, yO_Df D ?_ ?_⟩
  · exact zfr_F (by decide) (zfr_F (by decide) zfr_rfl)
  · exact zfr_F (by decide) (zfr_F (by decide) zfr_rfl)
theorem yO_ln2 {x : Int32} (R : yO t h g) : yO t (zs_uF (zs_uF h 66 4 1) 66 5 x) g := by
  obtain ⟨H, N, io, c, s, o, D⟩ := R
  refine ⟨H, N, io, c, s, o, yO_Df D ?_ zfr_rfl⟩
  exact zfr_F (by decide) (zfr_F (by decide) zfr_rfl)
theorem yO_snd (R : yO t h g) (f1 : zln_f1 h h') (f2 : zln_f2 g g') (O : zln_O n h' g') : yO t h' g' := by
  obtain ⟨⟨⟨t1, t2, t3⟩, t4, t5⟩, N, io, c, ⟨s1, s2⟩, _, D⟩ := R
  have F1 : zfr yO_F1 yO_M1 [] h h' := zfr_w f1 (by decide) (by decide) (by decide)
  have F2 : zfr yO_F2 yO_M2 [] g g' := zfr_w f2 (by decide) (by decide) (by decide)
  refine ⟨⟨⟨(f1.1 _ _ (by decide)).trans t1, (f2.1 _ _ (by decide)).trans t2, t3⟩, fun i => by rw [f1.2.1 _ (by decide)]; exact t4 i, fun i hi => by rw [f1.2.1 _ (by decide), f2.2.1 _ (by decide)]; exact t5 i hi⟩, yO_Nf N F1 F2, fun i hi => ?_, yO_cf c F1 F2, ⟨?_, ?_⟩, ⟨n, O⟩, yO_Df D (zfr_w f1 (by decide) (by decide) (by decide)) (zfr_w f2 (by decide) (by decide) (by decide))⟩
  · rw [f1.2.1 _ (by decide), f1.2.1 _ (by decide), f1.2.1 _ (by decide), f2.2.1 _ (by decide), f2.2.1 _ (by decide), f2.2.1 _ (by decide)]
    exact io i hi
  · exact (f1.1 _ _ (by decide)).trans (s1.trans (f2.1 _ _ (by decide)).symm)
  · exact (f1.1 _ _ (by decide)).trans (s2.trans (f2.1 _ _ (by decide)).symm)
theorem zln_bf (q : zln_b g) (f2 : zln_f2 g g') : zln_b g' := fun i hi => by
  rw [f2.2.1 _ (by decide), f2.2.1 _ (by decide), f2.2.1 _ (by decide)]
  exact q i hi
variable {b : Nat → Nat}
theorem zln_Bs (B : zln_B b t h g) (f1 : zln_f1 h h') (f2 : zln_f2 g g') : zln_B b t h' g' := zln_Bf B (zfr_w f1 (by decide) (by decide) (by decide)) (zfr_w f2 (by decide) (by decide) (by decide))
/-- a reply that refuses nothing -/
theorem zln_rp (B : zln_B b t h g) (G : zln_G b t) (V : b 1 ≤ 4 → zln_V h g) (O : zln_O 1 h g) : ∃ n h' g', ((f_Ln_reply h (nI (b 1))).bind fun h10 => f_Ln_answer_c1_176 h10) = some (nI n, h') ∧ f_Mo_reply_22 g (nI (b 1)) 0 (nI (b 1)) = some g' ∧ zln_O n h' g' ∧ zln_f1 h h' ∧ zln_f2 g g' := by
  have hz := zF_big
  obtain ⟨G1, G2, G3, G4, G5⟩ := G
  have ht := B.1
  have t8 : 8 ≤ t := by unfold zln_is at G1; omega
  have e0 : f_Ln_number h 0 = some (nI (zln_v b 0)) := zln_nb B (i := 0) (by omega)
  have e2 : f_Ln_number h 2 = some (nI (zln_v b 2)) := zln_nb B (i := 2) (by omega)
  obtain ⟨h1, g1, s1, s2, s3, s4, s5⟩ := zln_snd O (by decide) (nI (b 1))
  have B1 := zln_Bs B s4 s5
  have m0 : f_Mo_dataTwo g1 0 = some (nI (zln_v b 0)) := zln_two B1 (i := 0) (by omega)
  have m2 : f_Mo_dataTwo g1 2 = some (nI (zln_v b 2)) := zln_two B1 (i := 2) (by omega)
  have hc := zln_vl B 2
  unfold f_Ln_reply f_Mo_reply_22
  rw [e0, Option.bind_some, e2, Option.bind_some, s1, Option.bind_some, s2, Option.bind_some, m0, Option.bind_some, m2, Option.bind_some, if_pos (show (0 : Int32) ≤ 0 by decide)]
  generalize zln_v b 0 = a at G5 e0 m0 ⊢
  generalize zln_v b 2 = c at hc G4 G5 e2 m2 ⊢
  generalize b 1 = f at G1 G2 G3 G4 G5 V s1 s2 ⊢
  have f17 : f < 17 := by unfold zln_is at G1; omega
  by_cases c2 : 2 < f
  · rw [if_pos ((zc_lt (k := 2) (by decide) (by omega)).mpr c2), if_pos ((zc_le (k := 3) (by decide) (by omega)).mpr (by omega))]
    by_cases c4 : 4 < f
    · rw [if_pos ((zc_lt (k := 4) (by decide) (by omega)).mpr c4), if_pos ((zc_le (k := 5) (by decide) (by omega)).mpr (by omega))]
      obtain ⟨h2, g2, r1, r2, r3, r4, r5⟩ := zln_r5 t8 4 0 2 zF zF h1 g1 (by omega) (by omega) (by omega) (by omega) B1 s3
      obtain ⟨h3, g3, q1, q2, q3, q4, q5⟩ := zln_end r3 (by omega)
      refine ⟨_, h3, g3, ?_, ?_, q3, zfr_trans s4 (zfr_trans r4 q4), zfr_trans s5 (zfr_trans r5 q5)⟩
      · rw [show f_Ln_reply_L151 zF h1 0 = some h2 from r1, Option.bind_some]; exact q1
      · exact Eq.trans r2 q2
    · have hf : f = 3 ∨ f = 4 := by omega
      have c125 : c ≤ 125 := by
        rcases hf with z | z <;> subst z
        · exact (of_decide_eq_true (show decide (1 ≤ c ∧ c ≤ 125) = true from G4)).2
        · exact (of_decide_eq_true (show decide (1 ≤ c ∧ c ≤ 125) = true from G4)).2
      rw [if_neg (mt (zc_lt (k := 4) (by decide) (by omega)).mp c4), if_neg (mt (zc_le (k := 5) (by decide) (by omega)).mp (by omega))]
      obtain ⟨h2, g2, r1, r2, r3, r4, r5⟩ := zln_snd s3 (by decide) (2 * nI c)
      have V2 := zln_Vf (zln_Vf (V (by omega)) s4 s5) r4 r5
      obtain ⟨h3, g3, u1, u2, u3, u4, u5⟩ := zln_r3 (a := a) (c := c) hf (by rw [if_neg (by omega)] at G5; exact G5) c 0 3 zF zF h2 g2 (by omega) (by omega) (by omega) (by omega) V2 r3
      obtain ⟨h4, g4, q1, q2, q3, q4, q5⟩ := zln_end u3 (by omega)
      refine ⟨_, h4, g4, ?_, ?_, q3, zfr_trans s4 (zfr_trans r4 (zfr_trans u4 q4)), zfr_trans s5 (zfr_trans r5 (zfr_trans u5 q5))⟩
      · rw [r1, Option.bind_some, show f_Ln_reply_L88 zF h2 (nI f) (nI a) (nI c) 0 = some h3 from u1, Option.bind_some]; exact q1
      · rw [r2, Option.bind_some]; exact Eq.trans u2 q2
  · have hf : f = 1 ∨ f = 2 := by unfold zln_is at G1; omega
    have ts : zln_ts f ≤ 512 := by rcases hf with z | z <;> subst z <;> decide
    rw [if_neg (mt (zc_lt (k := 2) (by decide) (by omega)).mp c2), if_neg (mt (zc_le (k := 3) (by decide) (by omega)).mp (by omega))]
    obtain ⟨h2, g2, r1, r2, r3, r4, r5⟩ := zln_snd s3 (by decide) ((nI c + 7) / 8)
    have V2 := zln_Vf (zln_Vf (V (by omega)) s4 s5) r4 r5
    have G5' : a + c ≤ zln_ts f := by rw [if_neg (by omega)] at G5; exact G5
    obtain ⟨h3, g3, n3, u1, u2, u0, u3, u4, u5⟩ := zln_r1 (a := a) (c := c) hf G5' 64 0 3 zF zF h2 g2 (by omega) (by omega) (by omega) (by omega) V2 r3 (by omega)
    obtain ⟨h4, g4, q1, q2, q3, q4, q5⟩ := zln_end u3 (by omega)
    refine ⟨_, h4, g4, ?_, ?_, q3, zfr_trans s4 (zfr_trans r4 (zfr_trans u4 q4)), zfr_trans s5 (zfr_trans r5 (zfr_trans u5 q5))⟩
    · rw [r1, Option.bind_some, show f_Ln_reply_L36 zF h2 (nI f) (nI a) (nI c) 0 = some h3 from u1, Option.bind_some]; exact q1
    · rw [r2, Option.bind_some]; exact Eq.trans u2 q2
/-- a reply that refuses -/
theorem zln_rr {r : Nat} {x : Int32} (hr : 0 < r ∧ r < 4) (O : zln_O 1 h g) : ∃ n h' g', ((f_Ln_send h (x ||| 128)).bind fun h6 => ((f_Ln_send h6 (nI r)).bind fun h8 => f_Ln_answer_c1_176 h8)) = some (nI n, h') ∧ f_Mo_reply_22 g x (nI r) (x ||| 128) = some g' ∧ zln_O n h' g' ∧ zln_f1 h h' ∧ zln_f2 g g' := by
  obtain ⟨h1, g1, s1, s2, s3, s4, s5⟩ := zln_snd O (by decide) (x ||| 128)
  obtain ⟨h2, g2, r1, r2, r3, r4, r5⟩ := zln_snd s3 (by decide) (nI r)
  obtain ⟨h3, g3, q1, q2, q3, q4, q5⟩ := zln_end r3 (by decide)
  have T : ∀ i : Nat, i < 10 → ∃ v, f_Mo_dataTwo g1 (nI i) = some v := fun i hi => by
    unfold f_Mo_dataTwo f_Mo_heard
    rw [show 2 + nI i = nI (2 + i) from nI_add 2 i, show 3 + nI i = nI (3 + i) from nI_add 3 i, if_pos (zi_in (by omega) (show 2 + i < 16384 by omega)), if_pos (zi_in (by omega) (show 3 + i < 16384 by omega)), Option.bind_some, Option.bind_some]
    exact ⟨_, rfl⟩
  obtain ⟨v0, e0⟩ := T 0 (by decide)
  obtain ⟨v2, e2⟩ := T 2 (by decide)
  refine ⟨_, h3, g3, ?_, ?_, q3, zfr_trans s4 (zfr_trans r4 q4), zfr_trans s5 (zfr_trans r5 q5)⟩
  · rw [s1, Option.bind_some, r1, Option.bind_some]; exact q1
  · unfold f_Mo_reply_22
    rw [s2, Option.bind_some, show f_Mo_dataTwo g1 0 = some v0 from e0, Option.bind_some, show f_Mo_dataTwo g1 2 = some v2 from e2, Option.bind_some, if_neg (mt (zc_el (k := 0) (by decide) (by omega)).mp (by omega)), r2, Option.bind_some]
    exact q2
end ZLF
