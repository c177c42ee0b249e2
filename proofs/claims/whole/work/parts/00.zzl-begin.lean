/-! The judge: a block begins. -/
def zv_BM (nb nv k kd : Nat) (w ty : Int32) (g g' : zs_H) : Prop :=
  ((g'.1 68 33) = nI (nb + 1) ∧ (g'.1 68 54) = nI nb ∧ (g'.1 68 41) = nI (if kd = 1 then nv + 1 else nv)) ∧
  (∀ i, (g'.2.1 84) i = if i = nb then nI k else (g.2.1 84) i) ∧ (∀ i, (g'.2.1 85) i = if i = nb then w else (g.2.1 85) i) ∧ (∀ i, (g'.2.1 86) i = if i = nb then nI kd else (g.2.1 86) i) ∧ (∀ i, (g'.2.1 87) i = if i = nb then (if kd = 1 then ty else -1) else (g.2.1 87) i) ∧ (∀ i, (g'.2.1 88) i = if i = nb then (if kd = 1 then 1 else if kd = 3 then 960 else 0) else (g.2.1 88) i) ∧ (∀ i, (g'.2.1 90) i = if i = nb then nI nv else (g.2.1 90) i) ∧
  (∀ i, (g'.2.1 91) i = if kd = 1 ∧ i = nv then w else (g.2.1 91) i) ∧ (∀ i, (g'.2.1 92) i = if kd = 1 ∧ i = nv then 0 else (g.2.1 92) i) ∧ (∀ i, (g'.2.1 93) i = if kd = 1 ∧ i = nv then ty else (g.2.1 93) i) ∧ (∀ i, (g'.2.1 94) i = if kd = 1 ∧ i = nv then 0 else (g.2.1 94) i) ∧ (∀ i, (g'.2.1 95) i = if kd = 1 ∧ i = nv then 0 else (g.2.1 95) i) ∧ (∀ i, (g'.2.1 96) i = if kd = 1 ∧ i = nv then -1 else (g.2.1 96) i) ∧ (∀ i, (g'.2.1 97) i = if kd = 1 ∧ i = nv then 0 else (g.2.1 97) i) ∧ (∀ i, (g'.2.1 98) i = if kd = 1 ∧ i = nv then 1 else (g.2.1 98) i) ∧ (∀ i, (g'.2.1 99) i = if kd = 1 ∧ i = nv then 0 else (g.2.1 99) i) ∧
  zfr [(68, 33), (68, 54), (68, 41)] [84, 85, 86, 87, 88, 89, 90, 91, 92, 93, 94, 95, 96, 97, 98, 99] [] g g'
theorem zv_bbR {g : zs_H} {nb nv k kd : Nat} {w ty y0 : Int32} (h1 : (g.1 68 33) = nI nb) (h2 : nb ≤ 2000) (h3 : (g.1 68 41) = nI nv) (h4 : nv < 8400) (hk : k < 33500) (hkd : kd < 4) (h5 : (g.2.1 72) k = nI kd) (h6 : (g.2.1 74) k = w) (h7 : kd = 1 → ∃ k', k' < 33500 ∧ (g.2.1 76) k = nI k' ∧ (g.2.1 74) k' = ty) (e0 : f_Mo_rule g y0 11 (nI k) = some g) :
    ∃ g', f_Mo_beginBlock_70 g (nI k) y0 = some g' ∧ zv_BM nb nv k kd w ty g g' := by
  unfold f_Mo_beginBlock_70 f_Mo_beginBlock_157 f_Mo_beginBlock_183
  have hin : zd_in (nI nb) 2100 := zi_in (by omega) (by omega)
  have hin1 : zd_in (nI nb) 2101 := zi_in (by omega) (by omega)
  have hik : zd_in (nI k) 33500 := zi_in (by omega) hk
  have ck : (nI k).toNatClampNeg = k := nI_clamp (by omega)
  have cb : (nI nb).toNatClampNeg = nb := nI_clamp (by omega)
  have cv : (nI nv).toNatClampNeg = nv := nI_clamp (by omega)
  have hiv : zd_in (nI nv) 8400 := zi_in (by omega) h4
  rw [e0, Option.bind_some, h1]
  simp only [if_pos hin, if_pos hik, ck, cb]
  by_cases c1 : kd = 1
  · subst c1
    obtain ⟨k', q1, q2, q3⟩ := h7 rfl
    have e1 : ((g.2.1 72) k = 1) := h5
    rw [if_pos e1, q2, if_pos (zi_in (by omega) q1), nI_clamp (by omega), q3]
    simp only [zu_FM, zu_MM, zu_FF, zu_MF, h1, h3, h6, e1, f_Mo_addVariable, f_Mo_layOut, zd_B, Nat.reduceEqDiff, and_true, true_and, and_false, false_and, if_true, if_false, if_pos hin, if_pos hin1, if_pos hiv, if_pos hik, cb, cv, ck, Option.bind_some, nI_1, show nI (nv + 1) - 1 = nI nv from zi_sub (b := 1) (by omega), show ¬ (1 : Int32) = 3 by decide]
    refine ⟨_, rfl, ⟨?_, ?_, ?_⟩, fun i => ?_, fun i => ?_, fun i => ?_, fun i => ?_, fun i => ?_, fun i => ?_, fun i => ?_, fun i => ?_, fun i => ?_, fun i => ?_, fun i => ?_, fun i => ?_, fun i => ?_, fun i => ?_, fun i => ?_, ?_⟩
    all_goals first | (refine zfr_M (by decide) ?_; repeat (first | exact zfr_rfl | refine zfr_M (by decide) ?_ | refine zfr_F (by decide) ?_)) | (refine zfr_F (by decide) ?_; repeat (first | exact zfr_rfl | refine zfr_M (by decide) ?_ | refine zfr_F (by decide) ?_)) | simp only [zu_FM, zu_MM, zu_FF, zu_MF, h1, h3, h6, Nat.reduceEqDiff, and_true, true_and, and_false, false_and, if_true, if_false]
    all_goals (first | rfl | (split <;> first | rfl | simp_all))
  · have n1 : ¬ nI kd = 1 := fun z => c1 ((zc_eq (k := 1) (by decide) (by omega)).mp z)
    rw [if_neg (show ¬ (g.2.1 72) k = 1 by rw [h5]; exact n1)]
    by_cases c3 : kd = 3
    · subst c3
      have e1 : (g.2.1 72) k = 3 := h5
      have n13 : ¬ (3 : Int32) = 1 := by decide
      have n3 : ¬ (3 : Nat) = 1 := by decide
      simp only [zu_FM, zu_MM, zu_FF, zu_MF, h1, h3, h6, e1, n13, f_Mo_addVariable, f_Mo_layOut, zd_B, Nat.reduceEqDiff, and_true, true_and, and_false, false_and, if_true, if_false, if_pos hin, if_pos hin1, if_pos hiv, if_pos hik, cb, cv, ck, Option.bind_some, nI_1, show nI (nv + 1) - 1 = nI nv from zi_sub (b := 1) (by omega), show ¬ (1 : Int32) = 3 by decide]
      refine ⟨_, rfl, ⟨?_, ?_, ?_⟩, fun i => ?_, fun i => ?_, fun i => ?_, fun i => ?_, fun i => ?_, fun i => ?_, fun i => ?_, fun i => ?_, fun i => ?_, fun i => ?_, fun i => ?_, fun i => ?_, fun i => ?_, fun i => ?_, fun i => ?_, ?_⟩
      all_goals first | (refine zfr_M (by decide) ?_; repeat (first | exact zfr_rfl | refine zfr_M (by decide) ?_ | refine zfr_F (by decide) ?_)) | (refine zfr_F (by decide) ?_; repeat (first | exact zfr_rfl | refine zfr_M (by decide) ?_ | refine zfr_F (by decide) ?_)) | simp only [zu_FM, zu_MM, zu_FF, zu_MF, h1, h3, h6, Nat.reduceEqDiff, and_true, true_and, and_false, false_and, if_true, if_false, n3]
      all_goals (first | rfl | (split <;> first | rfl | simp_all))
    · have n3 : ¬ nI kd = 3 := fun z => c3 ((zc_eq (k := 3) (by decide) (by omega)).mp z)
      simp only [zu_FM, zu_MM, zu_FF, zu_MF, h1, h3, h6, h5, n1, n3, f_Mo_addVariable, f_Mo_layOut, zd_B, Nat.reduceEqDiff, and_true, true_and, and_false, false_and, if_true, if_false, if_pos hin, if_pos hin1, if_pos hiv, if_pos hik, cb, cv, ck, Option.bind_some, nI_1, show nI (nv + 1) - 1 = nI nv from zi_sub (b := 1) (by omega), show ¬ (1 : Int32) = 3 by decide]
      refine ⟨_, rfl, ⟨?_, ?_, ?_⟩, fun i => ?_, fun i => ?_, fun i => ?_, fun i => ?_, fun i => ?_, fun i => ?_, fun i => ?_, fun i => ?_, fun i => ?_, fun i => ?_, fun i => ?_, fun i => ?_, fun i => ?_, fun i => ?_, fun i => ?_, ?_⟩
      all_goals first | (refine zfr_M (by decide) ?_; repeat (first | exact zfr_rfl | refine zfr_M (by decide) ?_ | refine zfr_F (by decide) ?_)) | (refine zfr_F (by decide) ?_; repeat (first | exact zfr_rfl | refine zfr_M (by decide) ?_ | refine zfr_F (by decide) ?_)) | simp only [zu_FM, zu_MM, zu_FF, zu_MF, h1, h3, h6, Nat.reduceEqDiff, and_true, true_and, and_false, false_and, if_true, if_false, c1, c3]
      all_goals (first | rfl | (split <;> first | rfl | simp_all))
def zv_BC (b v i kd c : Nat) (ty : Int32) (h h' : zs_H) : Prop :=
  ((h'.1 20 17) = nI (b + 1) ∧ (h'.1 20 19) = (if kd = 3 then nI b else (h.1 20 19)) ∧ (h'.1 20 18) = nI (if kd = 1 then v + 1 else v) ∧ (h'.1 38 4) = nI b ∧ (h'.1 38 10) = 0 ∧ (h'.2.1 27) b = 0) ∧
  (∀ j, (h'.2.1 21) j = if j = b then nI kd else (h.2.1 21) j) ∧ (∀ j, (h'.2.1 22) j = if j = b then nI i else (h.2.1 22) j) ∧ (∀ j, (h'.2.1 23) j = if j = b then nI v else (h.2.1 23) j) ∧ (∀ j, (h'.2.1 24) j = if j = b then nI (if kd = 1 then v + 1 else v) else (h.2.1 24) j) ∧ (∀ j, (h'.2.1 25) j = if j = b then (if kd = 1 then 1 else if kd = 3 then 960 else 0) else (h.2.1 25) j) ∧ (∀ j, (h'.2.1 26) j = if j = b then (if kd = 3 then 960 else 0) else (h.2.1 26) j) ∧ (∀ j, (h'.2.1 36) j = if j = c then nI b else (h.2.1 36) j) ∧
  (∀ j, (h'.2.1 28) j = if kd = 1 ∧ j = v then nI c else (h.2.1 28) j) ∧ (∀ j, (h'.2.1 29) j = if kd = 1 ∧ j = v then 3 else (h.2.1 29) j) ∧ (∀ j, (h'.2.1 30) j = if kd = 1 ∧ j = v then -1 else (h.2.1 30) j) ∧ (∀ j, (h'.2.1 31) j = if kd = 1 ∧ j = v then ty else (h.2.1 31) j) ∧ (∀ j, (h'.2.1 32) j = if kd = 1 ∧ j = v then 0 else (h.2.1 32) j) ∧ (∀ j, (h'.2.1 33) j = if kd = 1 ∧ j = v then 0 else (h.2.1 33) j) ∧ (∀ j, (h'.2.1 34) j = if kd = 1 ∧ j = v then 1 else (h.2.1 34) j) ∧ (∀ j, (h'.2.1 35) j = if kd = 1 ∧ j = v then 0 else (h.2.1 35) j) ∧ (∀ j, (h'.2.1 37) j = if kd = 1 ∧ j = c then nI v else (h.2.1 37) j) ∧
  zfr [(20, 17), (20, 18), (20, 19), (38, 4), (38, 10)] zj_ms [] h h'
theorem zv_ebR {h : zs_H} {b v i kd c : Nat} {ty y0 : Int32} (h1 : (h.1 20 17) = nI b) (h2 : b ≤ 628) (h3 : (h.1 20 18) = nI v) (h4 : v < 6000) (hi : i < 32784) (hkd : kd < 4) (h5 : (h.2.1 13) i = nI kd) (hc : c < 6000) (h7 : kd = 1 → ∃ i', i' < 32784 ∧ (h.2.1 17) i = nI i' ∧ (h.2.1 16) i' = ty) (e0 : f_Jd_refuseIf h y0 11 (nI i) = some h) (h8 : (h.1 38 3) = 0) :
    ∃ h', f_Jd_enterBlock_59 h (nI i) (nI c) y0 = some h' ∧ zv_BC b v i kd c ty h h' := by
  unfold f_Jd_enterBlock_59
  have hin : zd_in (nI i) 32784 := zi_in (by omega) hi
  have ck : (nI i).toNatClampNeg = i := nI_clamp (by omega)
  obtain ⟨h1', e1, O1, O2, O3, O4, O5, O6, O7, O8, O9, O10, O11⟩ := zj_open (nd := nI i) h1 h2 h3 hkd hc
  rw [e0, Option.bind_some, if_pos h8]
  simp only [if_pos hin, ck, h5, e1, zd_B]
  have ek : (h1'.2.1 13) i = nI kd := by rw [O11.2.1 _ (by decide)]; exact h5
  have ev : (h1'.1 20 18) = nI v := by rw [O11.1 _ _ (by decide)]; exact h3
  rw [ek]
  by_cases c1 : kd = 1
  · subst c1
    obtain ⟨i', q1, q2, q3⟩ := h7 rfl
    obtain ⟨h2', e2, A1, A2, A3, A4, A5, A6, A7, A8, A9, A10, A11, A12⟩ := zj_add (h := zs_uF (zs_uF h1' 38 4 (nI b)) 38 10 0) (ci := c) (sc := 3) (b := b) (v := v) (by simp only [zu_FF, Nat.reduceEqDiff, and_true, true_and, and_false, false_and, if_true, if_false]; exact O1) h2 (by simp only [zu_FF, Nat.reduceEqDiff, and_true, true_and, and_false, false_and, if_true, if_false]; exact ev) h4 hc
    have e4 : (h2'.2.1 17) i = nI i' := by rw [A12.2.1 _ (by decide)]; show (h1'.2.1 17) i = _; rw [O11.2.1 _ (by decide)]; exact q2
    have e5 : (h2'.2.1 16) i' = ty := by rw [A12.2.1 _ (by decide)]; show (h1'.2.1 16) i' = _; rw [O11.2.1 _ (by decide)]; exact q3
    have e6 : (h2'.1 38 4) = nI b := by rw [A12.1 _ _ (by decide)]; rfl
    rw [if_pos (show nI 1 = 1 from rfl), e2]
    simp only [e4, e6]
    rw [if_pos (zi_in (by omega) q1), if_pos (zi_in (by omega) h4), if_pos (zi_in (by omega) (by omega)), nI_clamp (n := i') (by omega), nI_clamp (n := v) (by omega), nI_clamp (n := b) (by omega), e5]
    refine ⟨_, rfl, ⟨?_, ?_, ?_, ?_, ?_, ?_⟩, fun j => ?_, fun j => ?_, fun j => ?_, fun j => ?_, fun j => ?_, fun j => ?_, fun j => ?_, fun j => ?_, fun j => ?_, fun j => ?_, fun j => ?_, fun j => ?_, fun j => ?_, fun j => ?_, fun j => ?_, fun j => ?_, ?_⟩
    all_goals try simp only [zu_FM, zu_MM, zu_FF, zu_MF, Nat.reduceEqDiff, and_true, true_and, and_false, false_and, if_true, if_false]
    · rw [A12.1 _ _ (by decide)]; exact O1
    · rw [A12.1 _ _ (by decide)]; exact O2
    · exact A1
    · exact e6
    · rw [A12.1 _ _ (by decide)]; rfl
    · rw [A12.2.1 _ (by decide)]; exact (O9 b).trans (if_pos rfl)
    · rw [A12.2.1 _ (by decide)]; exact O3 j
    · rw [A12.2.1 _ (by decide)]; exact O4 j
    · rw [A12.2.1 _ (by decide)]; exact O5 j
    · rw [A11 j]; simp only [zu_FM, O6 j]; split <;> rfl
    · rw [A12.2.1 _ (by decide)]; simp only [zu_FM, O7 j]; split <;> first | rfl | simp_all
    · rw [A12.2.1 _ (by decide)]; exact O8 j
    · rw [A12.2.1 _ (by decide)]; exact O10 j
    · rw [A2 j]; simp only [zu_FM]; rw [O11.2.1 _ (by decide)]
    · rw [A3 j]; simp only [zu_FM]; rw [O11.2.1 _ (by decide)]
    · rw [A4 j]; simp only [zu_FM]; rw [O11.2.1 _ (by decide)]
    · rw [A5 j]; simp only [zu_FM]; rw [O11.2.1 _ (by decide)]; split <;> rfl
    · rw [A6 j]; simp only [zu_FM]; rw [O11.2.1 _ (by decide)]
    · rw [A7 j]; simp only [zu_FM]; rw [O11.2.1 _ (by decide)]
    · rw [A8 j]; simp only [zu_FM]; rw [O11.2.1 _ (by decide)]
    · rw [A9 j]; simp only [zu_FM]; rw [O11.2.1 _ (by decide)]
    · rw [A10 j]; simp only [zu_FM]; rw [O11.2.1 _ (by decide)]
    · refine zfr_M (by decide) (zfr_M (by decide) (zfr_trans ?_ (zfr_w A12 (by decide) (by decide) (by decide))))
      exact zfr_F (by decide) (zfr_F (by decide) (zfr_w O11 (by decide) (by decide) (by decide)))
  · rw [if_neg (fun z => c1 ((zc_eq (k := 1) (by decide) (by omega)).mp z))]
    refine ⟨_, rfl, ⟨?_, ?_, ?_, ?_, ?_, ?_⟩, fun j => ?_, fun j => ?_, fun j => ?_, fun j => ?_, fun j => ?_, fun j => ?_, fun j => ?_, fun j => ?_, fun j => ?_, fun j => ?_, fun j => ?_, fun j => ?_, fun j => ?_, fun j => ?_, fun j => ?_, fun j => ?_, zfr_F (by decide) (zfr_F (by decide) (zfr_w O11 (by decide) (by decide) (by decide)))⟩
    all_goals try simp only [zu_FM, zu_MM, zu_FF, zu_MF, Nat.reduceEqDiff, and_true, true_and, and_false, false_and, if_true, if_false, c1]
    · exact O1
    · exact O2
    · exact ev
    · exact (O9 b).trans (if_pos rfl)
    · exact O3 j
    · exact O4 j
    · exact O5 j
    · exact O6 j
    · exact O7 j
    · exact O8 j
    · exact O10 j
    all_goals rw [O11.2.1 _ (by decide)]
