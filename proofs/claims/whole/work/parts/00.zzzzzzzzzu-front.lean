/-! A text is taken from the tape, on both sides. -/
theorem yL_lt {T : Nat → Int32} {n b : Nat} (h : (zl_tok T n b).1 = 1 ∨ (zl_tok T n b).1 = 2) : ¬ f_Mo_isLetter (zl_g T n (zl_tok T n b).2.1) = 0 := by
  have hfin : ∀ a v e, ¬ ((zl_fin T n a v e).1 = 1 ∨ (zl_fin T n a v e).1 = 2) := by
    intro a v e
    unfold zl_fin
    repeat' split
    all_goals simp
  revert h
  unfold zl_tok
  by_cases c : (zl_sk T n (n - b) b).2 = true
  · rw [if_pos c]
    generalize (zl_sk T n (n - b) b).1 = a
    unfold zl_tk
    by_cases c0 : n ≤ a
    · rw [if_pos c0]; intro h; simp at h
    rw [if_neg c0]
    by_cases c1 : zl_g T n a = 84 ∧ zl_b T n (a + 1) = 35
    · rw [if_pos c1]; intro h; exact absurd h (by unfold zl_tm; exact hfin _ _ _)
    rw [if_neg c1]
    by_cases c2 : ¬ f_Mo_isLetter (zl_g T n a) = 0
    · rw [if_pos c2]
      intro h
      unfold zl_tn at h ⊢
      by_cases d1 : 32 < zl_ne T n a - a
      · rw [if_pos d1] at h; simp at h
      rw [if_neg d1] at h ⊢
      by_cases d2 : zl_nm T n a (zl_ne T n a) ∈ zl_W
      · rw [if_pos d2]; exact c2
      · rw [if_neg d2]; exact c2
    rw [if_neg c2]
    by_cases c3 : ¬ f_Mo_isDigit (zl_g T n a) = 0
    · rw [if_pos c3]
      intro h
      unfold zl_nb at h
      exfalso
      revert h
      repeat' split
      all_goals first | exact hfin _ _ _ | simp
    rw [if_neg c3]
    by_cases c4 : zl_g T n a = 37
    · rw [if_pos c4]
      intro h
      unfold zl_pl at h
      exfalso
      revert h
      repeat' split
      all_goals simp
    · rw [if_neg c4]
      intro h
      unfold zl_sn at h
      exfalso
      revert h
      repeat' split
      all_goals simp
  · rw [if_neg c]; intro h; simp at h
/-- all names begin with a letter -/
def zwt_ld (L : List (List Int32)) : Prop := ∀ c, c ∈ L → ¬ f_Mo_isLetter (c.getD 0 0) = 0
theorem zwt_K : zwt_ld zk_K := by
  have q : (zk_K.all fun c => decide (¬ f_Mo_isLetter (c.getD 0 0) = 0)) = true := by decide +kernel
  intro c hc
  exact of_decide_eq_true (List.all_eq_true.mp q c hc)
theorem zwt_cn {T : Nat → Int32} {n j : Nat} (h : (zl_at T n j).1 = 1 ∨ (zl_at T n j).1 = 2) : ¬ f_Mo_isLetter ((zl_cn T n j).getD 0 0) = 0 := by
  obtain ⟨t1, t2, t3, _⟩ := zl_tok_nm (T := T) (n := n) (b := zl_bs T n j) h
  have hat : (zl_at T n j) = zl_tok T n (zl_bs T n j) := rfl
  rw [← hat] at t1 t2 t3
  have hl := zl_ne_le (T := T) (n := n) (a := (zl_at T n j).2.1) (by omega)
  rw [← t1] at hl
  have hne : ¬ (zl_at T n j).2.2.1 = (zl_at T n j).2.1 := fun e => by
    have := hl.2.2.1
    rw [e, t3] at this
    exact absurd this (by decide)
  unfold zl_cn
  rw [zl_nm_at (by omega), Nat.add_zero]
  exact yL_lt (T := T) (n := n) (b := zl_bs T n j) h
theorem yL_rd {n : Nat} {T : Nat → Int32} (hn : n ≤ 10240) : ∀ m j fuel (h : zs_H) (L : List (List Int32)), n ≤ zl_bs T n j + m → m + 1 < fuel → zl_Y h T n → zl_I h T n j L → (h.1 8 7) = nI (zl_bs T n j) → zl_bs T n j ≤ n → zl_J T n (zl_bs T n j) (L.length - 75) → zn_o L L.length ≤ 330 + zl_bs T n j → j ≤ zl_bs T n j → zwt_ld L →
    zw (f_Tk_read_c1_L25 fuel h 1 (nI j)) (fun h' => ∃ k L', j ≤ k ∧ k ≤ n ∧ (zl_I h' T n (k + 1) L' ∧ L'.length < 6000 ∧ zwt_ld L') ∧ (∀ i, j ≤ i → i < k → ¬ ((zl_at T n i).1 = 0 ∨ (zl_at T n i).1 = 9)) ∧ ((zl_at T n k).1 = 0 ∨ (zl_at T n k).1 = 9) ∧ zfr [(2, 5), (8, 3), (8, 7)] [4, 5, 6, 7, 9, 10, 11] [] h h') := by
  intro m
  induction m using Nat.strongRecOn with
  | ind m ih =>
    intro j fuel h L h1 h2 H HI Ha hb HJ ho hj hld
    have hld2 : zwt_ld (if ((zl_at T n j).1 = 1 ∨ (zl_at T n j).1 = 2) ∧ ¬ zl_cn T n j ∈ L then L ++ [zl_cn T n j] else L) := by
      split
      · rename_i y
        intro c hc
        rcases List.mem_append.mp hc with w | w
        · exact hld c w
        · rw [List.mem_singleton.mp w]; exact zwt_cn y.1
      · exact hld
    obtain ⟨f, rfl⟩ : ∃ f, fuel = f + 2 := ⟨fuel - 2, by omega⟩
    obtain ⟨i1, i2, i3, i4, i5⟩ := HI
    have hJ := HJ.1
    have hTok := zl_tok_kd (n := n) (b := zl_bs T n j) H.2.2.2.1 hb
    have hlast : ∀ (t : Int32) (g : zs_H), f_Tk_read_c1_L25 (f + 1) g 0 t = some g := by
      intro t g
      show f_Tk_read_c1_25 (f_Tk_read_c1_L25 f) g 0 t = _
      unfold f_Tk_read_c1_25
      rw [if_pos rfl]
      split <;> rfl
    have fin : ∀ p : Int32 × zs_H, zl_KT L (zl_cn T n j) j h (zl_at T n j) p → ((zl_at T n j).1 = 0 ∨ (zl_at T n j).1 = 9) → zw (f_Tk_read_c1_55 (f_Tk_read_c1_L25 (f + 1)) p.2 (nI j)) (fun h' => ∃ k L', j ≤ k ∧ k ≤ n ∧ (zl_I h' T n (k + 1) L' ∧ L'.length < 6000 ∧ zwt_ld L') ∧ (∀ i, j ≤ i → i < k → ¬ ((zl_at T n i).1 = 0 ∨ (zl_at T n i).1 = 9)) ∧ ((zl_at T n k).1 = 0 ∨ (zl_at T n k).1 = 9) ∧ zfr [(2, 5), (8, 3), (8, 7)] [4, 5, 6, 7, 9, 10, 11] [] h h') := by
      intro p q z
      unfold f_Tk_read_c1_55 f_Tk_read_c1_56
      rw [hlast, zw_some]
      exact ⟨j, _, Nat.le_refl j, by omega, ⟨zl_I_s ⟨i1, i2, i3, i4, i5⟩ q, by split <;> (try rw [List.length_append]) <;> (try simp only [List.length_singleton]) <;> omega, hld2⟩, fun i h3 h4 => by omega, z, q.2.2.2.2.2.2.2⟩
    show zw (f_Tk_read_c1_25 (f_Tk_read_c1_L25 (f + 1)) h 1 (nI j)) _
    unfold f_Tk_read_c1_25
    rw [if_neg (mt (zc_lt (k := 16384) (by decide) (by omega)).mp (by omega)), if_neg (by decide), zl_skipBlanks H Ha hb]
    have hs := zl_sk_le (T := T) (n := n) (n - zl_bs T n j) (zl_bs T n j) hb
    have hF : zfr [(8, 7)] [] [] h (zs_uF h 8 7 (nI (zl_sk T n (n - zl_bs T n j) (zl_bs T n j)).1)) := zfr_F (by decide) zfr_rfl
    have hC : zn_C (zs_uF h 8 7 (nI (zl_sk T n (n - zl_bs T n j) (zl_bs T n j)).1)) L := zn_C_fr hF (by decide) (by decide) (by decide) (by decide) (by decide) i2
    by_cases c0 : (zl_sk T n (n - zl_bs T n j) (zl_bs T n j)).2 = true
    · have et : zl_at T n j = zl_tk T n (zl_sk T n (n - zl_bs T n j) (zl_bs T n j)).1 := by
        unfold zl_at zl_tok; rw [if_pos c0]
      rw [if_pos c0, zw_B, zw_some]
      dsimp only
      rw [if_neg (by decide), zw_B]
      refine zw_mono (zl_cTok (h := zs_uF h 8 7 (nI (zl_sk T n (n - zl_bs T n j) (zl_bs T n j)).1)) (n := n) (s := j) (L := L) H i1.2 (by omega) rfl hs.1 hC i3 i4 (by omega) (by omega)) fun p q => ?_
      have q' : zl_KT L (zl_cn T n j) j h (zl_at T n j) p := by
        unfold zl_cn
        rw [et]
        exact zl_KT_pre hF q
      have qq := q'
      obtain ⟨q1, q2, q3, q4, q5, q6, q7, q8⟩ := q'
      by_cases z : (zl_at T n j).1 = 0 ∨ (zl_at T n j).1 = 9
      · rw [q1, if_pos z, if_pos rfl]; exact fin p qq z
      · rw [q1, if_neg z, if_neg (by decide)]
        unfold f_Tk_read_c1_56
        rw [nI_1]
        have hk := hTok.2.2.2.1 z
        have hk1 := hTok.1
        have hbs : zl_bs T n (j + 1) = (zl_at T n j).2.2.1 := rfl
        have hat : (zl_at T n j) = zl_tok T n (zl_bs T n j) := rfl
        rw [← hat] at hk hk1
        have hY : zl_Y p.2 T n := by
          obtain ⟨y1, y2, y3, y4, y5⟩ := H
          refine ⟨(q8.1 _ _ (by decide)).trans y1, y2, ?_, y4, ?_⟩
          · rw [q8.1 _ _ (by decide)]; exact y3
          · rw [q8.2.1 _ (by decide)]; exact y5
        have hI' := zl_I_s ⟨i1, i2, i3, i4, i5⟩ qq
        have hsub : ∀ L2 : List (List Int32), L2 = (if ((zl_at T n j).1 = 1 ∨ (zl_at T n j).1 = 2) ∧ ¬ zl_cn T n j ∈ L then L ++ [zl_cn T n j] else L) → zl_J T n (zl_bs T n (j + 1)) (L2.length - 75) ∧ zn_o L2 L2.length ≤ 330 + zl_bs T n (j + 1) := by
          intro L2 e2
          rw [hbs]
          by_cases y : ((zl_at T n j).1 = 1 ∨ (zl_at T n j).1 = 2) ∧ ¬ zl_cn T n j ∈ L
          · rw [if_pos y] at e2
            subst e2
            obtain ⟨t1, t2, t3, t4, t5, t6⟩ := zl_tok_nm (T := T) (n := n) (b := zl_bs T n j) y.1
            rw [← hat] at t1 t2 t3 t4
            have e3 : (L ++ [zl_cn T n j]).length = L.length + 1 := by rw [List.length_append]; rfl
            have e4 : ((L ++ [zl_cn T n j]).getD L.length []).length = (zl_at T n j).2.2.1 - (zl_at T n j).2.1 := by
              rw [List.getD_eq_getElem?_getD, List.getElem?_append_right (Nat.le_refl _), Nat.sub_self]
              show (zl_cn T n j).length = _
              unfold zl_cn; rw [zl_nm_len]
            have hne := zl_ne_le (T := T) (n := n) (a := (zl_at T n j).2.1) (by omega)
            rw [← t1] at hne
            rw [e3, zn_o_s (by rw [e3]; omega), zn_o_app (Nat.le_refl _), e4]
            refine ⟨⟨?_, Or.inr hne.2.2.1⟩, by omega⟩
            rcases HJ.2 with w | w
            · omega
            · have : ¬ (zl_at T n j).2.1 = zl_bs T n j := fun e5 => by rw [e5, w] at t3; exact absurd t3 (by decide)
              omega
          · rw [if_neg y] at e2
            subst e2
            exact ⟨⟨by omega, Or.inl (by omega)⟩, by omega⟩
        have hs2 := hsub _ rfl
        refine zw_mono (ih (m - 1) (by omega) (j + 1) (f + 1) p.2 _ (by rw [hbs]; omega) (by omega) hY hI' (q6 z) (by rw [hbs]; omega) hs2.1 hs2.2 (by rw [hbs]; omega) hld2) fun h' w => ?_
        obtain ⟨k, L', w1, w2, w3, w4, w5, w6⟩ := w
        refine ⟨k, L', by omega, w2, w3, fun i h3 h4 => ?_, w5, zfr_trans q8 w6⟩
        by_cases ei : i = j
        · rw [ei]; exact z
        · exact w4 i (by omega) h4
    · have et : zl_at T n j = (9, (zl_sk T n (n - zl_bs T n j) (zl_bs T n j)).1, (zl_sk T n (n - zl_bs T n j) (zl_bs T n j)).1, 2) := by
        unfold zl_at zl_tok; rw [if_neg c0]
      rw [if_neg c0, zw_B]
      refine zw_mono (zl_w2 (zl_refuse (h := zs_uF h 8 7 (nI (zl_sk T n (n - zl_bs T n j) (zl_bs T n j)).1)) (w := 2) (e := (zl_sk T n (n - zl_bs T n j) (zl_bs T n j)).1) (c := zl_cn T n j) (s := j) i1.2 (by omega) rfl (by omega) hC)) fun p q => ?_
      rw [← et] at q
      have q' := zl_KT_pre hF q
      have z : (zl_at T n j).1 = 0 ∨ (zl_at T n j).1 = 9 := Or.inr (by rw [et])
      rw [q'.1, if_pos z, if_pos rfl]
      exact fin p q' z
theorem yL_read {h : zs_H} {n : Nat} (hn : n ≤ 10240) (hT : ∀ i, zb_ok ((h.2.1 1) i)) (HC : zn_C h zk_K) : zw (f_Tk_read_c1 h (nI n)) (fun h' => ∃ k L, k ≤ n ∧ (zl_I h' (h.2.1 1) n (k + 1) L ∧ L.length < 6000 ∧ zwt_ld L) ∧ (∀ i, i < k → ¬ ((zl_at (h.2.1 1) n i).1 = 0 ∨ (zl_at (h.2.1 1) n i).1 = 9)) ∧ ((zl_at (h.2.1 1) n k).1 = 0 ∨ (zl_at (h.2.1 1) n k).1 = 9) ∧ zfr [(2, 5), (8, 3), (8, 7), (8, 5), (8, 6)] [4, 5, 6, 7, 9, 10, 11] [] h h') := by
  unfold f_Tk_read_c1
  have f0 : zfr [(2, 5), (8, 3), (8, 7), (8, 5), (8, 6)] [4, 5, 6, 7, 9, 10, 11] [] h (zs_uF (zs_uF (zs_uF (zs_uF h 8 5 1) 8 6 (nI n)) 8 7 0) 8 3 0) := zfr_F (by decide) (zfr_F (by decide) (zfr_F (by decide) (zfr_F (by decide) zfr_rfl)))
  have hI : zl_I (zs_uF (zs_uF (zs_uF (zs_uF h 8 5 1) 8 6 (nI n)) 8 7 0) 8 3 0) (h.2.1 1) n 0 zk_K := by
    refine ⟨⟨fun j hj => absurd hj (Nat.not_lt_zero j), rfl⟩, ?_, zk_Kn, ?_, ?_⟩
    · exact zn_C_fr (zfr_F (fs := [(8, 3), (8, 7), (8, 5), (8, 6)]) (ms := []) (ls := []) (by decide) (zfr_F (by decide) (zfr_F (by decide) (zfr_F (by decide) zfr_rfl)))) (by decide) (by decide) (by decide) (by decide) (by decide) HC
    · exact List.take_of_length_le (by rw [zk_Kl]; exact Nat.le_refl _)
    · rw [zk_Kl]; exact Nat.le_refl _
  refine zw_mono (yL_rd (T := (h.2.1 1)) hn n 0 zF (zs_uF (zs_uF (zs_uF (zs_uF h 8 5 1) 8 6 (nI n)) 8 7 0) 8 3 0) zk_K (by omega) (by have := zF_big; omega) ⟨rfl, by omega, (show ¬ (1 : Int32) = 0 by decide), hT, rfl⟩ hI rfl (Nat.zero_le n) ?_ ?_ (Nat.le_refl 0) zwt_K) fun h' q => ?_
  · rw [zk_Kl]; exact ⟨by omega, Or.inl (by omega)⟩
  · have := zk_Ko2; omega
  · obtain ⟨k, L, q1, q2, q3, q4, q5, q6⟩ := q
    exact ⟨k, L, q2, q3, fun i hi => q4 i (Nat.zero_le i) hi, q5, zfr_trans f0 (zfr_w q6 (by decide) (by decide) (by decide))⟩
theorem yL_by {x : Int32} (h : zb_ok x) : vp_nar .byte x = x := by
  rw [vp_nar_byte]
  apply Int32.toInt_inj.mp
  rw [Int8.toInt_toInt32, Int32.toInt_toInt8]
  unfold zb_ok at h
  exact Int.bmod_eq_of_le (by omega) (by omega)
/-- the model behind its copying -/
def yL_j (h : zs_H) (x1 : Int32) : Option (Int32 × zs_H) := (zd_B (f_Mo_judge h) fun v3 h4 => (if v3 = 0 then (zd_B (f_Mo_generate (zs_uF (zs_uF h4 68 80 v3) 68 81 (h4.1 68 30))) fun v7 h8 => (if v7 = 0 then ((f_Mo_refuse h8 50 0).bind fun h12 => f_Mo_load_88 h12 x1) else f_Mo_load_88 h8 x1)) else f_Mo_load_88 (zs_uF (zs_uF h4 68 80 v3) 68 81 (h4.1 68 30)) x1))
theorem yL_25 {x : Int32} {T : Nat → Int32} {t : Nat} (ht : t ≤ 10240) (hT : ∀ i, zb_ok (T i)) : ∀ (m i N : Nat) (g : zs_H), i + m = t → m < N → (g.1 68 1) = nI t → (∀ j, j < t → (g.2.1 116) j = T j) → (∀ j, j < i → (g.2.1 69) j = T j) → ∃ g', f_Mo_load_L25 N g x (nI i) = yL_j g' x ∧ zfr [] [69] [] g g' ∧ zl_X g' T t := by
  intro m
  induction m with
  | zero =>
    intro i N g hi hN hs hm hx
    obtain ⟨N, rfl⟩ : ∃ z, N = z + 1 := ⟨N - 1, by omega⟩
    have e : i = t := hi
    subst e
    refine ⟨g, ?_, zfr_rfl, hs, by omega, hx⟩
    show f_Mo_load_25 (f_Mo_load_L25 N) g x (nI i) = _
    unfold f_Mo_load_25
    rw [hs, if_pos ((nI_leI (by omega) (by omega)).mpr (Nat.le_refl _))]
    rfl
  | succ m ih =>
    intro i N g hi hN hs hm hx
    obtain ⟨N, rfl⟩ : ∃ z, N = z + 1 := ⟨N - 1, by omega⟩
    obtain ⟨g1, hg1⟩ : ∃ g1, g1 = zs_uM g 69 i (T i) := ⟨_, rfl⟩
    have f1 : zfr [] [69] [] g g1 := by rw [hg1]; exact zfr_M (by decide) zfr_rfl
    obtain ⟨g', a1, a2, a3⟩ := ih (i + 1) N g1 (by omega) (by omega) (by rw [hg1]; exact hs) (by rw [hg1]; exact hm) (fun j hj => by
      rw [hg1, zu_MM]
      by_cases z : j = i
      · rw [if_pos ⟨rfl, z⟩, z]
      · rw [if_neg (fun w => z w.2)]; exact hx j (by omega))
    refine ⟨g', ?_, zfr_trans f1 a2, a3⟩
    show f_Mo_load_25 (f_Mo_load_L25 N) g x (nI i) = _
    unfold f_Mo_load_25
    rw [hs, if_neg (mt (nI_leI (by omega) (by omega)).mp (by omega)), if_pos (zi_in (by omega) (show i < 16384 by omega)), nI_clamp (by omega), hm i (by omega), yL_by (hT i), ← hg1, nI_1]
    exact a1
/-- what both sides have on their tapes -/
def yL_T (t : Nat) (h g : zs_H) : Prop := ((h.1 0 1) = nI t ∧ (g.1 68 78) = nI t ∧ t ≤ 10240) ∧ (∀ i, zb_ok ((h.2.1 1) i)) ∧ ∀ i, i < t → (g.2.1 116) i = (h.2.1 1) i
theorem yL_m {h g : zs_H} {t bu : Nat} (H : yL_T t h g) (h1 : 100 ≤ bu) (h2 : bu ≤ 100000) : ∃ g', f_Mo_load g (nI bu) = yL_j g' (nI bu) ∧ zfr [(68, 1), (68, 78)] [69] [] g g' ∧ zl_X g' ((h.2.1 1)) t ∧ (g'.1 68 78) = 0 := by
  have hz := zF_big
  obtain ⟨⟨a1, a2, a3⟩, a4, a5⟩ := H
  obtain ⟨g1, hg1⟩ : ∃ g1, g1 = zs_uF (zs_uF g 68 78 0) 68 1 (nI t) := ⟨_, rfl⟩
  have f1 : zfr [(68, 1), (68, 78)] [69] [] g g1 := by rw [hg1]; exact zfr_F (by decide) (zfr_F (by decide) zfr_rfl)
  obtain ⟨g', b1, b2, b3⟩ := yL_25 (x := nI bu) (T := (h.2.1 1)) a3 a4 t 0 zF g1 (by omega) (by omega) (by rw [hg1]; rfl) (by rw [hg1]; exact a5) (fun j hj => absurd hj (Nat.not_lt_zero j))
  refine ⟨g', ?_, zfr_trans f1 (zfr_w b2 (by decide) (by decide) (by decide)), b3, (b2.1 _ _ List.not_mem_nil).trans (by rw [hg1]; rfl)⟩
  unfold f_Mo_load f_Mo_useTape
  rw [if_neg (mt (zc_tl (k := 100) (by decide) (by omega)).mp (by omega)), if_pos ((zc_el (k := 100000) (by decide) (by omega)).mpr h2), a2]
  rw [← b1, hg1]
  rfl
/-- the class behind its reading -/
def yL_p (h : zs_H) (x1 : Int32) : Option (Int32 × zs_H) := (zd_B (f_Ps_parse h) fun v10 h11 => ((f_Pk_note h11 v10 (h11.1 19 0)).bind fun h13 => (if (h13.1 0 2) = 0 then (zd_B (f_Jd_judge h13) fun v16 h17 => ((f_Pk_note h17 v16 (h17.1 38 0)).bind fun h19 => f_Pk_load_102 h19 x1)) else f_Pk_load_102 h13 x1)))
abbrev yL_cF : List (Nat × Nat) := [(58, 3), (58, 4), (58, 5), (58, 6), (58, 7), (58, 8), (58, 9), (0, 1), (0, 2), (0, 3), (2, 5), (8, 3), (8, 7), (8, 5), (8, 6)]
abbrev yL_cM : List Nat := [4, 5, 6, 7, 9, 10, 11]
theorem yL_c {h g : zs_H} {t bu : Nat} (H : yL_T t h g) (K0 : zk_k0 h) (h1 : 100 ≤ bu) (h2 : bu ≤ 100000) : ∃ h' k L, f_Pk_load h (nI bu) = yL_p h' (nI bu) ∧ zfr yL_cF yL_cM [] h h' ∧ zq_S h' ((h.2.1 1)) t k L ∧ (zn_C h' L ∧ zwt_ld L) ∧ ((h'.1 0 1) = 0 ∧ (h'.1 0 2) = 0 ∧ (h'.1 0 3) = -5) ∧ ((h'.1 58 3) = 0 ∧ (h'.1 58 4) = 0 ∧ (h'.1 58 5) = 0 ∧ (h'.1 58 6) = 0 ∧ (h'.1 58 7) = 0 ∧ (h'.1 58 8) = 0 ∧ (h'.1 58 9) = 0) := by
  obtain ⟨⟨a1, a2, a3⟩, a4, a5⟩ := H
  obtain ⟨h4, e4⟩ : ∃ h4, h4 = zs_uF (zs_uF (zs_uF (zs_uF (zs_uF (zs_uF (zs_uF (zs_uF (zs_uF h 58 3 0) 58 4 0) 58 5 0) 58 6 0) 58 7 0) 58 8 0) 58 9 0) 0 2 0) 0 3 (-5) := ⟨_, rfl⟩
  have f4 : zfr yL_cF yL_cM [] h h4 := by
    rw [e4]
    exact zfr_F (by decide) (zfr_F (by decide) (zfr_F (by decide) (zfr_F (by decide) (zfr_F (by decide) (zfr_F (by decide) (zfr_F (by decide) (zfr_F (by decide) (zfr_F (by decide) zfr_rfl))))))))
  have k4 : zk_k0 h4 := by rw [e4]; exact K0
  obtain ⟨h6, b1, b2, b3⟩ := zk_forget k4
  have t6 : (h6.2.1 1) = (h.2.1 1) := by rw [b3.2.1 _ (by decide), e4]; rfl
  have s6 : (h6.1 0 1) = nI t := (b3.1 _ _ (by decide)).trans (by rw [e4]; exact a1)
  obtain ⟨h8, c1, k, L, c2, ⟨c3, c4⟩, c5, c6, c7⟩ := yL_read (h := h6) a3 (by rw [t6]; exact a4) b2
  rw [t6] at c3 c5 c6
  have f8 : zfr yL_cF yL_cM [] h4 h8 := zfr_trans (zfr_w b3 (by decide) (by decide) (by decide)) (zfr_w c7 (by decide) (by decide) (by decide))
  have o8 : ∀ a b, ¬ (a, b) ∈ [(2, 5), (8, 3), (8, 7), (8, 5), (8, 6)] → h8.1 a b = h4.1 a b := fun a b q => (c7.1 a b q).trans (b3.1 a b (fun w => q (by rw [List.mem_singleton.mp w]; decide)))
  refine ⟨zs_uF h8 0 1 0, k, L, ?_, zfr_F (by decide) (zfr_trans f4 f8), ⟨c3.1, c2, a3, c5, c6, c3.2.2.1, c3.2.2.2.1, c4.1, a4, c3.2.2.2.2⟩, ⟨c3.2.1, c4.2⟩, ⟨rfl, ?_, ?_⟩, ?_, ?_, ?_, ?_, ?_, ?_, ?_⟩
  · unfold f_Pk_load f_Mc_forget
    rw [if_neg (mt (zc_tl (k := 100) (by decide) (by omega)).mp (by omega)), if_pos ((zc_el (k := 100000) (by decide) (by omega)).mpr h2), Option.bind_some, ← e4, b1, Option.bind_some, s6, c1, Option.bind_some]
    rfl
  all_goals exact (o8 _ _ (by decide)).trans (by rw [e4]; rfl)
