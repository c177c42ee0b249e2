/-! The class's tokens: places, signs, names; all of them. -/
theorem zl_gm {T : Nat → Int32} {n i : Nat} (hT : ∀ i, zb_ok (T i)) : ∃ k : Nat, k < 256 ∧ f_Nm_great (zd_max 0 (zl_b T n i)) = nI k ∧ ∀ m, 1 ≤ m → m < 256 → (nI k = nI m ↔ zl_g T n i = nI m) := by
  have key : ∀ j, j < 256 → ∃ k, k < 256 ∧ f_Nm_great (nI j) = nI k := by decide +kernel
  unfold zl_g zl_b
  by_cases c : i < n
  · rw [if_pos c]
    obtain ⟨j, hj, e, -, -⟩ := zl_byte (hT i)
    rw [e]
    obtain ⟨k, hk, e2⟩ := key j hj
    have e3 : zd_max 0 (nI j) = nI j := by
      unfold zd_max
      by_cases c2 : (0 : Int32) < nI j
      · rw [if_pos c2]
      · rw [if_neg c2]
        have : j = 0 := by
          refine Nat.eq_zero_of_not_pos fun q => c2 ((zc_lt (k := 0) (by decide) (by omega)).mpr q)
        rw [this]; rfl
    exact ⟨k, hk, by rw [e3, e2], fun m _ _ => by rw [e2]⟩
  · rw [if_neg c]
    refine ⟨0, by decide, rfl, fun m h1 h2 => ?_⟩
    constructor
    · intro q
      have := (nI_eq (by omega) (by omega)).mp q
      omega
    · intro q
      exact absurd q.symm (zc_m1 (by omega))
theorem zl_cPlace {h : zs_H} {T : Nat → Int32} {n s a : Nat} {L : List (List Int32)} {c : List Int32} (H : zl_Y h T n) (Hs : (h.1 8 3) = nI s) (hs : s < 16385) (Ha : (h.1 8 7) = nI a) (ha : a < n) (HL : zn_C h L) : zw (f_Tk_readPlace h) (zl_KT L c s h (zl_pl T n a)) := by
  have hn := H.2.1
  have hr := zl_dr_le (T := T) (n := n) (base := 10) (s := a + 3) (by omega)
  have hr2 := zl_dr_n (T := T) (n := n) (base := 10) (s := a + 3) (by decide)
  obtain ⟨k1, hk1, e1, f1⟩ := zl_gm (n := n) (i := a + 1) H.2.2.2.1
  obtain ⟨k2, hk2, e2, f2⟩ := zl_gm (n := n) (i := a + 2) H.2.2.2.1
  have h90 : zw (f_Tk_readPlace_90 h) (zl_KT L c s h (9, a, a, 5)) := by
    unfold f_Tk_readPlace_90
    exact zl_w2 (zl_refuse (w := 5) Hs hs Ha (by omega) HL)
  unfold f_Tk_readPlace
  rw [Ha, nI_1, zl_peek H (by omega), zw_bind, zw_some, e1, zw_bind]
  refine zw_mono (zx_I4 hk1) fun v4 q4 => ?_
  rw [show nI a + 2 = nI (a + 2) from nI_add a 2, zl_peek H (by omega), zw_bind, zw_some, e2, zw_bind]
  refine zw_mono (zx_I5 hk2) fun v8 q8 => ?_
  rw [show nI a + 3 = nI (a + 3) from nI_add a 3, show (10 : Int32) = nI 10 from rfl, zl_digitsEnd H (by decide) (by omega), zw_bind, zw_some]
  unfold zl_pl
  have g1 : ∀ j, j < 3 → (ze_f 4 j = nI k1 ↔ zl_g T n (a + 1) = ze_f 4 j) := by
    intro j hj
    have key : ∀ j, j < 3 → ∃ m, m < 256 ∧ 1 ≤ m ∧ ze_f 4 j = nI m := by decide +kernel
    obtain ⟨m, m2, m1, m3⟩ := key j hj
    rw [m3, ← f1 m m1 m2]
    exact ⟨Eq.symm, Eq.symm⟩
  have g2 : ∀ j, j < 2 → (ze_f 5 j = nI k2 ↔ zl_g T n (a + 2) = ze_f 5 j) := by
    intro j hj
    have key : ∀ j, j < 2 → ∃ m, m < 256 ∧ 1 ≤ m ∧ ze_f 5 j = nI m := by decide +kernel
    obtain ⟨m, m2, m1, m3⟩ := key j hj
    rw [m3, ← f2 m m1 m2]
    exact ⟨Eq.symm, Eq.symm⟩
  have t4 : ∀ k, k < 6 → zl_P.getD (2 * k) 0 = ze_f 4 (k % 3) ∧ zl_P.getD (2 * k + 1) 0 = ze_f 5 (k / 3) := by decide +kernel
  have u4 : ∀ i, i < 3 → ∀ j, j < 3 → ze_f 4 i = ze_f 4 j → i = j := by decide +kernel
  have u5 : ∀ i, i < 2 → ∀ j, j < 2 → ze_f 5 i = ze_f 5 j → i = j := by decide +kernel
  have wn : (∀ k, k < 6 → ¬ (zl_g T n (a + 1) = ze_f 4 (k % 3) ∧ zl_g T n (a + 2) = ze_f 5 (k / 3))) → zl_wh T n a 6 = none := by
    intro q
    have key : ∀ m, m ≤ 6 → zl_wh T n a m = none := by
      intro m
      induction m with
      | zero => intro _; rfl
      | succ m ih =>
        intro hm
        unfold zl_wh
        rw [(t4 m (by omega)).1, (t4 m (by omega)).2, if_neg (q m (by omega)), ih (by omega)]
    exact key 6 (Nat.le_refl 6)
  have ws : ∀ j w, j < 3 → w < 2 → zl_g T n (a + 1) = ze_f 4 j → zl_g T n (a + 2) = ze_f 5 w → zl_wh T n a 6 = some (j + 3 * w) := by
    intro j w hj hw p1 p2
    have key : ∀ m, m ≤ 6 → zl_wh T n a m = if j + 3 * w < m then some (j + 3 * w) else none := by
      intro m
      induction m with
      | zero => intro _; rfl
      | succ m ih =>
        intro hm
        unfold zl_wh
        rw [(t4 m (by omega)).1, (t4 m (by omega)).2, ih (by omega)]
        by_cases em : m = j + 3 * w
        · have e3 : m % 3 = j := by omega
          have e4 : m / 3 = w := by omega
          rw [e3, e4, if_pos ⟨p1, p2⟩, if_pos (by omega), em]
        · rw [if_neg (fun z => em (by have q1 := u4 _ (by omega) _ hj (z.1.symm.trans p1); have q2 := u5 _ (by omega) _ hw (z.2.symm.trans p2); omega))]
          by_cases c9 : j + 3 * w < m
          · rw [if_pos c9, if_pos (by omega)]
          · rw [if_neg c9, if_neg (by omega)]
    rw [key 6 (Nat.le_refl 6), if_pos (by omega)]
  rcases q4 with ⟨j, j1, j2, j3⟩ | ⟨j1, j2⟩
  · rcases q8 with ⟨w, w1, w2, w3⟩ | ⟨w1, w2⟩
    · rw [ws j w j1 w1 ((g1 j j1).mp j3) ((g2 w w1).mp w3), j2, w2, if_neg (nI_pos (by omega)), if_neg (nI_pos (by omega))]
      dsimp only
      generalize hE : zl_dr T n 10 (a + 3) = ee at hr hr2 ⊢
      by_cases c1 : ee - (a + 3) = 0
      · rw [if_pos (by congr 1; omega), if_pos (Or.inl c1)]; exact h90
      · have he := hr2 (by omega)
        rw [if_neg (fun q => c1 (by have := (nI_eq (by omega) (by omega)).mp q; omega)), zl_peek H (by omega), zw_bind, zw_some]
        by_cases c2 : f_Nm_isPart (zl_b T n ee) = 0
        · have p1 : ¬ zl_pt T n ee = true := by unfold zl_pt; simpa using c2
          rw [if_pos c2, zl_meaning H (by decide) (by decide) he (by omega), zw_bind, zw_some]
          generalize zl_vl T n 10 (a + 3) (ee - (a + 3)) = v
          have hv := zl_v3 (v := v)
          have h125 : ∀ y : Nat, y ≤ 255 → zw (f_Tk_readPlace_125 h (nI j) (nI w) (nI ee) (lN (min v zl_M3)) (nI y) (lN (min v zl_M3))) (zl_KT L c s h (if ee - (a + 3) = 0 ∨ y < v ∨ zl_pt T n ee = true then (9, a, a, 5) else (4, a, ee, 256 * (j + 3 * w) + v))) := by
            intro y hy
            unfold f_Tk_readPlace_125
            have hM : zl_M3 = 8589934592 := rfl
            rw [nI_l (by omega)]
            by_cases c3 : y < v
            · rw [if_neg (mt (zj_le hv.2.2 (by omega)).mp (by have := Nat.lt_min (a := y) (b := v) (c := zl_M3); omega)), if_pos (Or.inr (Or.inl c3))]
              exact zl_w2 (zl_refuse (w := 5) Hs hs Ha (by omega) HL)
            · have e0 : min v zl_M3 = v := hv.1 (by omega)
              rw [e0, if_pos ((zj_le (by omega) (by omega)).mpr (by omega)), if_neg (fun q => q.elim c1 fun q => q.elim c3 p1), lN_i, zc_ml, nI_add, zc_ml, nI_add]
              exact zl_w2 (zl_finish (k := 10) Hs hs Ha (by omega) HL (by simp) (by simp) rfl rfl rfl (by decide) rfl)
          by_cases c4 : w = 0
          · have := h125 255 (by decide)
            rw [if_pos (by rw [c4]; rfl), show (if j + 3 * w < 3 then 255 else 63) = 255 from if_pos (by omega)]
            exact this
          · have := h125 63 (by decide)
            rw [if_neg (fun q => c4 ((zc_eq (k := 0) (by decide) (by omega)).mp q)), show (if j + 3 * w < 3 then 255 else 63) = 63 from if_neg (by omega)]
            exact this
        · have p1 : zl_pt T n ee = true := by unfold zl_pt; simpa using c2
          rw [if_neg c2, if_pos (Or.inr (Or.inr p1))]; exact h90
    · rw [wn (fun k hk q => w2 (k / 3) (by omega) ((g2 _ (by omega)).mpr q.2)), j2, w1, if_neg (nI_pos (by omega)), if_pos (by decide)]
      exact h90
  · rw [wn (fun k hk q => j2 (k % 3) (by omega) ((g1 _ (by omega)).mpr q.1)), j1, if_pos (by decide)]
    exact h90
theorem zl_ckS : ∀ c, c < 256 → nI c ∈ zl_sg → zl_ck (5, 0, 0, c) = c := by decide +kernel
theorem zl_cSign {h : zs_H} {T : Nat → Int32} {n s a : Nat} {L : List (List Int32)} {c : List Int32} (H : zl_Y h T n) (Hs : (h.1 8 3) = nI s) (hs : s < 16385) (Ha : (h.1 8 7) = nI a) (ha : a < n) (HL : zn_C h L) : zw (f_Tk_readSign h (zl_b T n a)) (zl_KT L c s h (zl_sn T n a)) := by
  have hn := H.2.1
  obtain ⟨k, hk, ek, -, -⟩ := zl_byte (H.2.2.2.1 a)
  have eb : zl_b T n a = nI k := by unfold zl_b; rw [if_pos ha, ek]
  unfold f_Tk_readSign zl_sn
  rw [Ha, nI_1, zl_peek H (by omega), zw_bind, zw_some, eb]
  generalize zl_b T n (a + 1) = d
  have ek2 : (nI k).toNatClampNeg = k := nI_clamp (by omega)
  rw [ek2]
  have two : ∀ t kk : Nat, zl_ck (5, a, a + 2, t) = kk → kk < 65536 → zl_2 (nI k) d = t → ¬ t = 0 → zw (zd_B (f_Tk_finish h (nI kk) (nI a + 2) 0) fun v6 h7 => some (v6, h7)) (zl_KT L c s h (if zl_2 (nI k) d = 0 then (if nI k ∈ zl_sg then (5, a, a + 1, k) else (9, a, a, 1)) else (5, a, a + 2, zl_2 (nI k) d))) := by
    intro t kk h1 h2 h3 h4
    rw [h3, if_neg h4, show nI a + 2 = nI (a + 2) from nI_add a 2]
    exact zl_w2 (zl_finish (v := 0) Hs hs Ha (by omega) HL (by simp) (by simp) rfl rfl h1 h2 rfl)
  have one : zl_2 (nI k) d = 0 → zw (f_Tk_readSign_136 h (nI k)) (zl_KT L c s h (if zl_2 (nI k) d = 0 then (if nI k ∈ zl_sg then (5, a, a + 1, k) else (9, a, a, 1)) else (5, a, a + 2, zl_2 (nI k) d))) := by
    intro h3
    have hsg : (∃ j, j < 17 ∧ ze_f 6 j = nI k) ↔ nI k ∈ zl_sg := (zl_sgf k hk).1
    unfold f_Tk_readSign_136
    rw [zw_bind, if_pos h3, Ha]
    refine zw_mono (zx_I6 hk) fun v q => ?_
    rcases q with ⟨j, j1, j2, j3⟩ | ⟨j1, j2⟩
    · have hm := hsg.mp ⟨j, j1, j3⟩
      rw [j2, if_pos (nI_pos' (by omega)), if_pos hm, nI_1]
      exact zl_w2 (zl_finish (v := 0) (k := k) Hs hs Ha (by omega) HL (by simp) (by simp) rfl rfl (zl_ckS k hk hm) (by omega) rfl)
    · rw [j1, if_neg (by decide), if_neg (fun q => by obtain ⟨j, h5, h6⟩ := hsg.mpr q; exact j2 j h5 h6)]
      exact zl_w2 (zl_refuse (w := 1) Hs hs Ha (by omega) HL)
  unfold f_Tk_readSign_36 f_Tk_readSign_61 f_Tk_readSign_86 f_Tk_readSign_111
  rw [Ha]
  by_cases a1 : nI k = 58 ∧ d = 61
  · rw [if_pos a1.1, if_pos a1.2]; exact two 256 1 rfl (by decide) (if_pos a1) (by decide)
  by_cases a2 : nI k = 46 ∧ d = 46
  · have n1 : ¬ nI k = 58 := by rw [a2.1]; decide
    rw [if_neg n1, if_pos a2.1, if_pos a2.2]
    exact two 257 2 rfl (by decide) (by unfold zl_2; rw [if_neg a1, if_pos a2]) (by decide)
  by_cases a3 : nI k = 60 ∧ d = 61
  · have n1 : ¬ nI k = 58 := by rw [a3.1]; decide
    have n2 : ¬ nI k = 46 := by rw [a3.1]; decide
    rw [if_neg n1, if_neg n2, if_pos a3.1, if_pos a3.2]
    exact two 258 3 rfl (by decide) (by unfold zl_2; rw [if_neg a1, if_neg a2, if_pos a3]) (by decide)
  by_cases a4 : nI k = 62 ∧ d = 61
  · have n1 : ¬ nI k = 58 := by rw [a4.1]; decide
    have n2 : ¬ nI k = 46 := by rw [a4.1]; decide
    have n3 : ¬ nI k = 60 := by rw [a4.1]; decide
    rw [if_neg n1, if_neg n2, if_neg n3, if_pos a4.1, if_pos a4.2]
    exact two 259 4 rfl (by decide) (by unfold zl_2; rw [if_neg a1, if_neg a2, if_neg a3, if_pos a4]) (by decide)
  by_cases a5 : nI k = 60 ∧ d = 62
  · have n1 : ¬ nI k = 58 := by rw [a5.1]; decide
    have n2 : ¬ nI k = 46 := by rw [a5.1]; decide
    have n4 : ¬ nI k = 62 := by rw [a5.1]; decide
    have n5 : ¬ d = 61 := by rw [a5.2]; decide
    rw [if_neg n1, if_neg n2, if_pos a5.1, if_neg n5, if_neg n4, if_pos a5.1, if_pos a5.2]
    exact two 260 5 rfl (by decide) (by unfold zl_2; rw [if_neg a1, if_neg a2, if_neg a3, if_neg a4, if_pos a5]) (by decide)
  have f0 := one (by unfold zl_2; rw [if_neg a1, if_neg a2, if_neg a3, if_neg a4, if_neg a5])
  generalize zl_KT L c s h _ = Q at f0 ⊢
  repeat' split
  all_goals first | exact f0 | exact absurd (And.intro (by assumption) (by assumption)) a1 | exact absurd (And.intro (by assumption) (by assumption)) a2 | exact absurd (And.intro (by assumption) (by assumption)) a3 | exact absurd (And.intro (by assumption) (by assumption)) a4 | exact absurd (And.intro (by assumption) (by assumption)) a5
