/-! The coder: what a FUNCTION begins with. -/
/-- first values of VARs, m variables from v on -/
def yu_vs (h : zs_H) : Nat → Nat → List yI
  | 0, _ => []
  | m + 1, v => (if (h.2.1 29) (32 + v) = 0 then [(0, (h.2.1 35) (32 + v), 0, 0)] ++ [(2, (h.2.1 32) (32 + v), 0, 0)] else []) ++ yu_vs h m (v + 1)
def yu_pre (h : zs_H) (m v : Nat) : List yI := [(0, 0, 0, 0)] ++ [(2, 0, 0, 0)] ++ yu_vs h m v
section YUX
variable {LC LM : List (List Int32)} {h0 g0 h g : zs_H} {nb b e : Nat} {F : Nat → Nat}
theorem yu_vl : ∀ (m v : Nat), (yu_vs h0 m v).length ≤ 2 * m := by
  intro m
  induction m with
  | zero => intro v; exact Nat.le_refl _
  | succ m ih =>
    intro v
    have := ih (v + 1)
    rw [yu_vs, List.length_append]
    split
    · show 2 + _ ≤ _; omega
    · show 0 + _ ≤ _; omega
theorem yu_bfC (hb : b < 600) (eb : (h0.2.1 24) (9 + b) = nI (32 + e)) (he : e ≤ 5900) : ∀ (m v N n : Nat) (h : zs_H), v + m = e → yC_f h0 h → (h.1 47 3) = nI (9 + b) → (h.1 41 5) = nI n → n + 2 * m < 90000000 → m < N → ∃ h', f_Cr_beginFunction_L33 N h (nI (32 + v)) = some h' ∧ yC_E n (yu_vs h0 m v) h h' := by
  intro m
  induction m with
  | zero =>
    intro v N n h hv f hbk es hn hN
    obtain ⟨N, rfl⟩ : ∃ z, N = z + 1 := ⟨N - 1, by omega⟩
    refine ⟨h, ?_, yC_nil es⟩
    show f_Cr_beginFunction_33 (f_Cr_beginFunction_L33 N) h (nI (32 + v)) = _
    unfold f_Cr_beginFunction_33
    simp only [hbk, if_pos (zi_in (show 9 + b < 2147483648 by omega) (show 9 + b < 629 by omega)), nI_clamp (show 9 + b < 2147483648 by omega), f.2.1 24 (by decide), eb, if_pos ((nI_leI (show 32 + e < 2147483648 by omega) (show 32 + v < 2147483648 by omega)).mpr (by omega))]
  | succ m ih =>
    intro v N n h hv f hbk es hn hN
    obtain ⟨N, rfl⟩ : ∃ z, N = z + 1 := ⟨N - 1, by omega⟩
    have e1 : nI (32 + v) + 1 = nI (32 + (v + 1)) := zc_ad 1 (32 + v)
    have st : f_Cr_beginFunction_L33 (N + 1) h (nI (32 + v)) = (if (h0.2.1 29) (32 + v) = 0 then (zd_B (f_Cd_emit h 0 ((h0.2.1 35) (32 + v))) fun v6 h7 => (zd_B (f_Cd_emit h7 2 ((h7.2.1 32) (32 + v))) fun v10 h11 => f_Cr_beginFunction_L33 N h11 (nI (32 + (v + 1))))) else f_Cr_beginFunction_L33 N h (nI (32 + (v + 1)))) := by
      show f_Cr_beginFunction_33 (f_Cr_beginFunction_L33 N) h (nI (32 + v)) = _
      unfold f_Cr_beginFunction_33 f_Cr_beginFunction_97
      simp only [hbk, if_pos (zi_in (show 9 + b < 2147483648 by omega) (show 9 + b < 629 by omega)), nI_clamp (show 9 + b < 2147483648 by omega), f.2.1 24 (by decide), eb, if_neg (mt (nI_leI (show 32 + e < 2147483648 by omega) (show 32 + v < 2147483648 by omega)).mp (by omega)), if_pos (zi_in (show 32 + v < 2147483648 by omega) (show 32 + v < 6000 by omega)), nI_clamp (show 32 + v < 2147483648 by omega), f.2.1 29 (by decide), f.2.1 35 (by decide), e1]
    rw [st, yu_vs]
    by_cases z : (h0.2.1 29) (32 + v) = 0
    · rw [if_pos z, if_pos z]
      obtain ⟨h1, a1, a2⟩ := yC_emit es (by omega) 0 (by decide) ((h0.2.1 35) (32 + v))
      have f1 : yC_f h0 h1 := zfr_trans f (zfr_w a2.2.1 (by decide) (by decide) (by decide))
      obtain ⟨h2, b1, b2⟩ := yC_emit a2.1 (show n + 1 < 100000000 by omega) 2 (by decide) ((h0.2.1 32) (32 + v))
      have f2 : yC_f h0 h2 := zfr_trans f1 (zfr_w b2.2.1 (by decide) (by decide) (by decide))
      have bk2 : (h2.1 47 3) = nI (9 + b) := (b2.2.1.1 _ _ (by decide)).trans ((a2.2.1.1 _ _ (by decide)).trans hbk)
      obtain ⟨h3, c1, c2⟩ := ih (v + 1) N (n + 1 + 1) h2 (by omega) f2 bk2 b2.1 (by omega) (by omega)
      refine ⟨h3, ?_, yC_ap (yC_ap a2 b2) c2⟩
      refine (congrArg (fun z => zd_B z _) a1).trans ?_
      show zd_B (f_Cd_emit h1 2 ((h1.2.1 32) (32 + v))) _ = _
      rw [f1.2.1 32 (by decide)]
      exact (congrArg (fun z => zd_B z _) b1).trans c1
    · rw [if_neg z, if_neg z]
      exact ih (v + 1) N n h (by omega) f hbk es (by omega) (by omega)
theorem yu_end (B : zv_B LC LM nb F h0 g0) (hb : b < nb) (f : yM_f g0 g) : f_Mo_endOf g (nI b) = some (nI (F (b + 1))) := by
  have hn := B.1.2.2
  unfold f_Mo_endOf
  rw [f.1 68 33 (by decide), f.1 68 41 (by decide), f.2.1 90 (by decide), B.1.2.1, B.2.1.2.1, show nI nb - 1 = nI (nb - 1) from zi_sub (b := 1) (by omega)]
  by_cases q : b = nb - 1
  · rw [if_pos (by rw [q]), show b + 1 = nb by omega]
  · rw [if_neg (mt (nI_eq (by omega) (by omega)).mp q), show nI b + 1 = nI (b + 1) from zc_ad 1 b, if_pos (zi_in (by omega) (by omega)), nI_clamp (by omega), (B.2.2.2.2.2.1 (b + 1) (by omega)).2.1]
theorem yu_bfM {a : Nat} (ee : ∀ g, yM_f g0 g → f_Mo_endOf g (nI b) = some (nI e)) (he : e ≤ 5900) (H : ∀ v, a ≤ v → v < e → ((g0.2.1 95) v = 0 ↔ (h0.2.1 29) (32 + v) = 0) ∧ (g0.2.1 99) v = (h0.2.1 35) (32 + v) ∧ (g0.2.1 94) v = (h0.2.1 32) (32 + v)) : ∀ (m v N n s lv : Nat) (g : zs_H), v + m = e → a ≤ v → yM_f g0 g → yM_c g n s b lv → n + 2 * m < 90000000 → m < N → ∃ g', f_Mo_beginFunction_L27 N g (nI b) (nI v) = some g' ∧ yM_E s n (yv lv (yu_vs h0 m v)) g g' := by
  intro m
  induction m with
  | zero =>
    intro v N n s lv g hv ha f c hn hN
    obtain ⟨N, rfl⟩ : ∃ z, N = z + 1 := ⟨N - 1, by omega⟩
    refine ⟨g, ?_, yM_nil c.1.1⟩
    show f_Mo_beginFunction_27 (f_Mo_beginFunction_L27 N) g (nI b) (nI v) = _
    unfold f_Mo_beginFunction_27
    rw [ee g f, Option.bind_some, if_pos ((nI_leI (by omega) (by omega)).mpr (by omega))]
  | succ m ih =>
    intro v N n s lv g hv ha f c hn hN
    obtain ⟨N, rfl⟩ : ∃ z, N = z + 1 := ⟨N - 1, by omega⟩
    have e1 : nI v + 1 = nI (v + 1) := zc_ad 1 v
    obtain ⟨H1, H2, H3⟩ := H v ha (by omega)
    have st : f_Mo_beginFunction_L27 (N + 1) g (nI b) (nI v) = (if (g0.2.1 95) v = 0 then (zd_B (f_Mo_emit g 0 ((g0.2.1 99) v) 0 0) fun v7 h8 => (zd_B (f_Mo_emit h8 2 ((h8.2.1 94) v) 0 0) fun v11 h12 => f_Mo_beginFunction_L27 N h12 (nI b) (nI (v + 1)))) else f_Mo_beginFunction_L27 N g (nI b) (nI (v + 1))) := by
      show f_Mo_beginFunction_27 (f_Mo_beginFunction_L27 N) g (nI b) (nI v) = _
      unfold f_Mo_beginFunction_27 f_Mo_beginFunction_73
      simp only [ee g f, Option.bind_some, if_neg (mt (nI_leI (show e < 2147483648 by omega) (show v < 2147483648 by omega)).mp (by omega)), if_pos (zi_in (show v < 2147483648 by omega) (show v < 8400 by omega)), nI_clamp (show v < 2147483648 by omega), f.2.1 95 (by decide), f.2.1 99 (by decide), e1]
    rw [st, yu_vs]
    by_cases z : (h0.2.1 29) (32 + v) = 0
    · rw [if_pos (H1.mpr z), if_pos z, H2]
      obtain ⟨g1, a1, a2⟩ := yM_e c (show n < 100000000 by omega) 0 ((h0.2.1 35) (32 + v)) 0 0 (by decide)
      have f1 : yM_f g0 g1 := zfr_trans f (zfr_w a2.2.1 (by decide) (by decide) (by decide))
      have c1 := yM_cL c a2
      obtain ⟨g2, b1, b2⟩ := yM_e c1 (show n + 1 < 100000000 by omega) 2 ((h0.2.1 32) (32 + v)) 0 0 (by decide)
      have f2 : yM_f g0 g2 := zfr_trans f1 (zfr_w b2.2.1 (by decide) (by decide) (by decide))
      have c2 := yM_cL c1 b2
      obtain ⟨g3, d1, d2⟩ := ih (v + 1) N (n + 1 + 1) s lv g2 (by omega) (by omega) f2 c2 (by omega) (by omega)
      refine ⟨g3, ?_, ?_⟩
      · refine (congrArg (fun z => zd_B z _) a1).trans ?_
        show zd_B (f_Mo_emit g1 2 ((g1.2.1 94) v) 0 0) _ = _
        rw [f1.2.1 94 (by decide), H3]
        exact (congrArg (fun z => zd_B z _) b1).trans d1
      · have := yM_ap (yM_ap a2 b2) d2
        unfold yv at this ⊢
        rw [List.map_append]
        exact this
    · rw [if_neg (mt H1.mp z), if_neg z]
      exact ih (v + 1) N n s lv g (by omega) (by omega) f c (by omega) (by omega)
end YUX
