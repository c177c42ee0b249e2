/-! The coder: IF and CASE. -/
/-- the condition of a choice of a CASE -/
def yr_1 (own : Nat) (r : Int32 × Option Int32) : List yI := match r.2 with
  | none => [(1, nI own, 0, 0)] ++ ([(0, r.1, 0, 0)] ++ [(7, 13, 0, 0)])
  | some w => [(1, nI own, 0, 0)] ++ ([(0, r.1, 0, 0)] ++ ([(7, 18, 0, 0)] ++ ([(1, nI own, 0, 0)] ++ ([(0, w, 0, 0)] ++ ([(7, 17, 0, 0)] ++ [(7, 10, 0, 0)])))))
def yr_s (own : Nat) : Nat → List (Int32 × Option Int32) → List yI
  | _, [] => []
  | t, r :: rs => yr_1 own r ++ ((if t = 0 then [] else [(7, 11, 0, 0)]) ++ yr_s own (t + 1) rs)
def yr_C (h0 : zs_H) : List (Int32 × Option Int32) → Int32 → Nat → Prop
  | [], x, ib => x = nI ib ∧ ib < 32784 ∧ ¬ (h0.2.1 13) ib = 18
  | r :: rs, x, ib => ∃ a lo, a < 32784 ∧ x = nI a ∧ (h0.2.1 13) a = 18 ∧ (h0.2.1 17) a = nI lo ∧ lo < 32784 ∧ (h0.2.1 16) lo = r.1 ∧ ((r.2 = none ∧ (h0.2.1 18) lo = -1) ∨ ∃ w hi, r.2 = some w ∧ hi < 32784 ∧ (h0.2.1 18) lo = nI hi ∧ (h0.2.1 16) hi = w) ∧ yr_C h0 rs ((h0.2.1 18) a) ib
def yr_M (g0 : zs_H) : List (Int32 × Option Int32) → Int32 → Nat → Prop
  | [], x, kb => x = nI kb ∧ kb < 33500 ∧ ¬ (g0.2.1 72) kb = 18
  | r :: rs, x, kb => ∃ a lo, a < 33500 ∧ x = nI a ∧ (g0.2.1 72) a = 18 ∧ (g0.2.1 76) a = nI lo ∧ lo < 33500 ∧ (g0.2.1 74) lo = r.1 ∧ ((r.2 = none ∧ (g0.2.1 77) a = nI lo) ∨ ∃ w hi, r.2 = some w ∧ hi < 33500 ∧ ¬ hi = lo ∧ (g0.2.1 77) a = nI hi ∧ (g0.2.1 74) hi = w) ∧ yr_M g0 rs ((g0.2.1 78) a) kb
section YRA
variable {h0 h g0 g : zs_H} {b : Nat}
theorem yr_uC {N : Nat} {x2 x3 x4 : Int32} : f_Cr_codeRanges_L13 (N + 1) h x2 x3 x4 = f_Cr_codeRanges_13 (f_Cr_codeRanges_L13 N) h x2 x3 x4 := rfl
theorem yr_uM {N : Nat} {x2 x3 x5 : Int32} : f_Mo_rangesCode_L13 (N + 1) g x2 x3 x5 = f_Mo_rangesCode_13 (f_Mo_rangesCode_L13 N) g x2 x3 x5 := rfl
theorem yr_1l {own : Nat} {r : Int32 × Option Int32} : (yr_1 own r).length ≤ 7 := by
  unfold yr_1
  split
  · exact (by decide : 3 ≤ 7)
  · exact Nat.le_refl _
theorem yr_ran {sz own : Nat} (hsz : (h0.1 12 6) = nI sz) (hs2 : sz < 100000) : ∀ (rs : List (Int32 × Option Int32)) (x : Int32) (ib n t N : Nat) (h : zs_H), yr_C h0 rs x ib → yC_f h0 h → (h.1 41 5) = nI n → n + (yr_s own t rs).length ≤ 90000000 → t + rs.length < sz → rs.length < N → ∃ h', f_Cr_codeRanges_L13 N h (nI own) x (nI t) = some (nI ib, h') ∧ yC_E n (yr_s own t rs) h h' := by
  intro rs
  induction rs with
  | nil =>
    intro x ib n t N h ⟨e1, e2, e3⟩ f es hn ht hN
    obtain ⟨N, rfl⟩ : ∃ z, N = z + 1 := ⟨N - 1, by omega⟩
    have ht' : t + 0 < sz := ht
    refine ⟨h, ?_, yC_nil es⟩
    rw [yr_uC, e1]
    unfold f_Cr_codeRanges_13
    rw [f.1 _ _ (by decide), hsz, if_neg (mt (nI_leI (by omega) (by omega)).mp (by omega))]
    simp only [if_pos (zi_in (show ib < 2147483648 by omega) e2), nI_clamp (show ib < 2147483648 by omega), f.2.1 13 (by decide)]
    rw [if_neg e3]
  | cons r rs ih =>
    intro x ib n t N h ⟨a, lo, a1, a2, a3, a4, a5, a6, a7, R⟩ f es hn ht hN
    have ht' : t + (rs.length + 1) < sz := ht
    have hN' : rs.length + 1 < N := hN
    obtain ⟨N, rfl⟩ : ∃ z, N = z + 1 := ⟨N - 1, by omega⟩
    have hn' : n + (yr_1 own r ++ ((if t = 0 then [] else [((7, 11, 0, 0) : yI)]) ++ yr_s own (t + 1) rs)).length ≤ 90000000 := hn
    rw [List.length_append, List.length_append] at hn'
    have f' : ∀ a, ¬ a ∈ yC_M → h.2.1 a = h0.2.1 a := fun a ha => f.2.1 a ha
    have tail : ∀ (h2 : zs_H), yC_f h0 h2 → (h2.1 41 5) = nI (n + (yr_1 own r).length) → ∃ h', f_Cr_codeRanges_177 (f_Cr_codeRanges_L13 N) h2 (nI own) (nI a) (nI t) = some (nI ib, h') ∧ yC_E (n + (yr_1 own r).length) ((if t = 0 then [] else [(7, 11, 0, 0)]) ++ yr_s own (t + 1) rs) h2 h' := by
      intro h2 f2 s2
      have e194 : ∀ h3, yC_f h0 h3 → f_Cr_codeRanges_194 (f_Cr_codeRanges_L13 N) h3 (nI own) (nI a) (nI t) = f_Cr_codeRanges_L13 N h3 (nI own) ((h0.2.1 18) a) (nI (t + 1)) := by
        intro h3 f3
        unfold f_Cr_codeRanges_194
        rw [if_pos (zi_in (by omega) a1), nI_clamp (show a < 2147483648 by omega), f3.2.1 18 (by decide), nI_1]
      unfold f_Cr_codeRanges_177
      by_cases z : t = 0
      · rw [if_pos z] at hn' ⊢
        obtain ⟨h3, r1, r2⟩ := ih _ ib _ (t + 1) N h2 R f2 s2 (by have : ([] : List yI).length = 0 := rfl; omega) (by omega) (by omega)
        rw [if_pos ((zc_el (k := 0) (by decide) (by omega)).mpr (by omega)), e194 h2 f2, r1]
        exact ⟨h3, rfl, r2⟩
      · rw [if_neg z] at hn' ⊢
        have hn2 : n + ((yr_1 own r).length + (1 + (yr_s own (t + 1) rs).length)) ≤ 90000000 := hn'
        obtain ⟨h3, d1, d2⟩ := yC_emit s2 (by omega) 7 (by decide) 11
        have f3 := yC_fE f2 d2
        obtain ⟨h4, r1, r2⟩ := ih _ ib _ (t + 1) N h3 R f3 d2.1 (by show n + (yr_1 own r).length + 1 + _ ≤ _; omega) (by omega) (by omega)
        rw [if_neg (mt (zc_el (k := 0) (by decide) (by omega)).mp (by omega))]
        refine ⟨h4, ?_, yC_ap d2 r2⟩
        refine (congrArg (fun z => zd_B z _) d1).trans ?_
        show f_Cr_codeRanges_194 (f_Cr_codeRanges_L13 N) h3 (nI own) (nI a) (nI t) = _
        rw [e194 h3 f3, r1]
    have l7 := yr_1l (own := own) (r := r)
    obtain ⟨h1, b1, b2⟩ := yC_emit es (by omega) 1 (by decide) (nI own)
    have f1 := yC_fE f b2
    obtain ⟨h2, d1, d2⟩ := yC_emit b2.1 (show n + 1 < 100000000 by omega) 0 (by decide) r.1
    have f2 := yC_fE f1 d2
    rw [yr_uC, a2]
    unfold f_Cr_codeRanges_13
    rw [f.1 _ _ (by decide), hsz, if_neg (mt (nI_leI (by omega) (by omega)).mp (by omega))]
    simp only [if_pos (zi_in (show a < 2147483648 by omega) a1), nI_clamp (show a < 2147483648 by omega), f' 13 (by decide), f' 17 (by decide), f' 18 (by decide), a4, if_pos (zi_in (show lo < 2147483648 by omega) a5), nI_clamp (show lo < 2147483648 by omega)]
    rw [if_pos a3]
    rcases a7 with ⟨o1, o2⟩ | ⟨w, hi, o1, o2, o3, o4⟩
    · have e1 : yr_1 own r = [(1, nI own, 0, 0)] ++ ([(0, r.1, 0, 0)] ++ [(7, 13, 0, 0)]) := by unfold yr_1; rw [o1]
      obtain ⟨h3, p1, p2⟩ := yC_emit d2.1 (show n + 1 + 1 < 100000000 by omega) 7 (by decide) 13
      have f3 := yC_fE f2 p2
      have E := yC_ap b2 (yC_ap d2 p2)
      rw [← e1] at E
      obtain ⟨h4, t1, t2⟩ := tail h3 f3 E.1
      refine ⟨h4, ?_, yC_ap E t2⟩
      refine (congrArg (fun z => zd_B z _) b1).trans ?_
      show zd_B (f_Cd_emit h1 0 ((h1.2.1 16) lo)) _ = _
      rw [f1.2.1 16 (by decide), a6]
      refine (congrArg (fun z => zd_B z _) d1).trans ?_
      show (if (h0.2.1 18) lo = -1 then (zd_B (f_Cd_emit h2 7 13) fun v30 h31 => f_Cr_codeRanges_177 (f_Cr_codeRanges_L13 N) h31 (nI own) (nI a) (nI t)) else _) = _
      rw [if_pos o2]
      exact (congrArg (fun z => zd_B z _) p1).trans t1
    · have e1 : yr_1 own r = [(1, nI own, 0, 0)] ++ ([(0, r.1, 0, 0)] ++ ([(7, 18, 0, 0)] ++ ([(1, nI own, 0, 0)] ++ ([(0, w, 0, 0)] ++ ([(7, 17, 0, 0)] ++ [(7, 10, 0, 0)]))))) := by unfold yr_1; rw [o1]
      obtain ⟨h3, p1, p2⟩ := yC_emit d2.1 (show n + 1 + 1 < 100000000 by omega) 7 (by decide) 18
      have f3 := yC_fE f2 p2
      obtain ⟨h4, q1, q2⟩ := yC_emit p2.1 (show n + 1 + 1 + 1 < 100000000 by omega) 1 (by decide) (nI own)
      have f4 := yC_fE f3 q2
      obtain ⟨h5, u1, u2⟩ := yC_emit q2.1 (show n + 1 + 1 + 1 + 1 < 100000000 by omega) 0 (by decide) w
      have f5 := yC_fE f4 u2
      obtain ⟨h6, v1, v2⟩ := yC_emit u2.1 (show n + 1 + 1 + 1 + 1 + 1 < 100000000 by omega) 7 (by decide) 17
      have f6 := yC_fE f5 v2
      obtain ⟨h7, w1, w2⟩ := yC_emit v2.1 (show n + 1 + 1 + 1 + 1 + 1 + 1 < 100000000 by omega) 7 (by decide) 10
      have f7 := yC_fE f6 w2
      have E := yC_ap b2 (yC_ap d2 (yC_ap p2 (yC_ap q2 (yC_ap u2 (yC_ap v2 w2)))))
      rw [← e1] at E
      obtain ⟨h8, t1, t2⟩ := tail h7 f7 E.1
      refine ⟨h8, ?_, yC_ap E t2⟩
      refine (congrArg (fun z => zd_B z _) b1).trans ?_
      show zd_B (f_Cd_emit h1 0 ((h1.2.1 16) lo)) _ = _
      rw [f1.2.1 16 (by decide), a6]
      refine (congrArg (fun z => zd_B z _) d1).trans ?_
      show (if (h0.2.1 18) lo = -1 then _ else (zd_B (f_Cd_emit h2 7 18) fun v14 h15 => (zd_B (f_Cd_emit h15 1 (nI own)) fun v17 h18 => (if zd_in ((h0.2.1 18) lo) 32784 then (zd_B (f_Cd_emit h18 0 (h18.2.1 16 ((h0.2.1 18) lo).toNatClampNeg)) fun v21 h22 => (zd_B (f_Cd_emit h22 7 17) fun v24 h25 => (zd_B (f_Cd_emit h25 7 10) fun v27 h28 => f_Cr_codeRanges_177 (f_Cr_codeRanges_L13 N) h28 (nI own) (nI a) (nI t)))) else none)))) = _
      rw [o3, if_neg (zc_m1 (by omega))]
      refine (congrArg (fun z => zd_B z _) p1).trans ?_
      refine (show zd_B (f_Cd_emit h3 1 (nI own)) _ = _ from (congrArg (fun z => zd_B z _) q1).trans ?_)
      show (if zd_in (nI hi) 32784 then (zd_B (f_Cd_emit h4 0 (h4.2.1 16 (nI hi).toNatClampNeg)) fun v21 h22 => (zd_B (f_Cd_emit h22 7 17) fun v24 h25 => (zd_B (f_Cd_emit h25 7 10) fun v27 h28 => f_Cr_codeRanges_177 (f_Cr_codeRanges_L13 N) h28 (nI own) (nI a) (nI t)))) else none) = _
      rw [if_pos (zi_in (by omega) o2), nI_clamp (show hi < 2147483648 by omega), f4.2.1 16 (by decide), o4]
      refine (congrArg (fun z => zd_B z _) u1).trans ?_
      refine (show zd_B (f_Cd_emit h5 7 17) _ = _ from (congrArg (fun z => zd_B z _) v1).trans ?_)
      exact (show zd_B (f_Cd_emit h6 7 10) _ = _ from (congrArg (fun z => zd_B z _) w1).trans t1)
end YRA
