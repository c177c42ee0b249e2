/-! The class's row of tokens. -/
theorem zl_c84 (c : Int32) : f_Nm_great c = 84 ↔ c = 84 ∨ c = 116 := by grind [f_Nm_great]
theorem zl_cL (c : Int32) : f_Mo_isLetter (f_Nm_great c) = 0 ↔ f_Nm_isLetter c = 0 := by
  grind [f_Mo_isLetter, f_Mo_isLetter_12, f_Nm_great, f_Nm_isLetter, f_Nm_isLetter_12, f_Nm_isLetter_24]
theorem zl_cD (c : Int32) : f_Mo_isDigit (f_Nm_great c) = 0 ↔ (c < 48 ∨ 57 < c) := by grind [f_Nm_great, f_Mo_isDigit]
theorem zl_c37 (c : Int32) : f_Nm_great c = 37 ↔ c = 37 := by grind [f_Nm_great]
theorem zl_cTok {h : zs_H} {T : Nat → Int32} {n s a : Nat} {L : List (List Int32)} (H : zl_Y h T n) (Hs : (h.1 8 3) = nI s) (hs : s < 16385) (Ha : (h.1 8 7) = nI a) (ha : a ≤ n) (HL : zn_C h L) (hN : L.Nodup) (hK : L.take 75 = zk_K) (hL : L.length < 6000) (ho : zn_o L L.length + 32 ≤ 16789) :
    zw (f_Tk_readToken h) (zl_KT L (zl_nm T n (zl_tk T n a).2.1 (zl_tk T n a).2.2.1) s h (zl_tk T n a)) := by
  have hn := H.2.1
  unfold f_Tk_readToken
  rw [Ha, zl_peek H (by omega), zw_bind, zw_some]
  by_cases c0 : n ≤ a
  · rw [zl_b_hi c0, if_pos rfl, show (6 : Int32) = nI 6 from rfl, zl_add Hs hs (by decide) Ha (by omega), zw_bind, zw_some, zw_some]
    have e0 : zl_tk T n a = (0, n, n, 0) := by unfold zl_tk; rw [if_pos c0]
    rw [e0]
    exact (zl_KTa (n := 0) (t := (0, n, n, 0)) Hs HL (by simp) (show n = a by omega) rfl).1 (Or.inl rfl)
  · have hb : ¬ zl_b T n a = -1 := by
      obtain ⟨k, hk, ek, -, -⟩ := zl_byte (H.2.2.2.1 a)
      rw [zl_bT (by omega), ek]
      exact zc_m1 (by omega)
    rw [if_neg hb]
    have h55 : ¬ (zl_g T n a = 84 ∧ zl_b T n (a + 1) = 35) → zw (f_Tk_readToken_55 h (zl_b T n a)) (zl_KT L (zl_nm T n (zl_tk T n a).2.1 (zl_tk T n a).2.2.1) s h (zl_tk T n a)) := by
      intro q
      unfold f_Tk_readToken_55 f_Tk_readToken_84 zl_tk
      rw [if_neg c0, if_neg q]
      by_cases d1 : f_Nm_isLetter (zl_b T n a) = 0
      · rw [if_pos d1, if_neg (show ¬ ¬ f_Mo_isLetter (zl_g T n a) = 0 from not_not_intro ((zl_cL _).mpr d1))]
        by_cases d2 : f_Mo_isDigit (zl_g T n a) = 0
        · have d3 := (zl_cD _).mp d2
          rw [if_neg (not_not_intro d2)]
          have h84 : zw (if zl_b T n a = 37 then (zd_B (f_Tk_readPlace h) fun v7 h8 => (some (v7, h8))) else (zd_B (f_Tk_readSign h (zl_b T n a)) fun v3 h4 => (some (v3, h4)))) (zl_KT L (zl_nm T n (if zl_g T n a = 37 then zl_pl T n a else zl_sn T n a).2.1 (if zl_g T n a = 37 then zl_pl T n a else zl_sn T n a).2.2.1) s h (if zl_g T n a = 37 then zl_pl T n a else zl_sn T n a)) := by
            by_cases d4 : zl_b T n a = 37
            · rw [if_pos d4, if_pos (show zl_g T n a = 37 from (zl_c37 _).mpr d4)]
              exact zl_w2 (zl_cPlace H Hs hs Ha (by omega) HL)
            · rw [if_neg d4, if_neg (show ¬ zl_g T n a = 37 from fun z => d4 ((zl_c37 _).mp z))]
              exact zl_w2 (zl_cSign H Hs hs Ha (by omega) HL)
          by_cases d5 : zl_b T n a < 48
          · rw [if_pos d5]; exact h84
          · rw [if_neg d5, if_pos (d3.resolve_left d5)]; exact h84
        · have d3 : ¬ (zl_b T n a < 48 ∨ 57 < zl_b T n a) := fun z => d2 ((zl_cD _).mpr z)
          rw [if_pos d2, if_neg (show ¬ zl_b T n a < 48 from fun z => d3 (Or.inl z)), if_neg (show ¬ 57 < zl_b T n a from fun z => d3 (Or.inr z))]
          exact zl_w2 (zl_cNumber H Hs hs Ha (by omega) (by unfold zl_dp; exact decide_eq_true (zl_dp10 _ d2)) HL)
      · have d2 : ¬ f_Mo_isLetter (zl_g T n a) = 0 := fun z => d1 ((zl_cL _).mp z)
        rw [if_neg d1, if_pos d2]
        have e9 : (zl_tn T n a).2.1 = a ∧ (zl_tn T n a).2.2.1 = zl_ne T n a := by
          unfold zl_tn
          repeat' split
          all_goals exact ⟨rfl, rfl⟩
        rw [e9.1, e9.2]
        exact zl_w2 (zl_cName H Hs hs Ha (by omega) HL hN hK hL ho (by unfold zl_pt; exact decide_eq_true (zl_isLet _ d2)))
    have h35 : (zl_b T n a = 84 ∨ zl_b T n a = 116) → zw (f_Tk_readToken_35 h (zl_b T n a)) (zl_KT L (zl_nm T n (zl_tk T n a).2.1 (zl_tk T n a).2.2.1) s h (zl_tk T n a)) := by
      intro q
      unfold f_Tk_readToken_35
      rw [Ha, nI_1, zl_peek H (by omega), zw_bind, zw_some]
      by_cases c3 : zl_b T n (a + 1) = 35
      · rw [if_pos c3]
        have e98 : zl_tk T n a = zl_tm T n a := by unfold zl_tk; rw [if_neg c0, if_pos ⟨(zl_c84 _).mpr q, c3⟩]
        rw [e98]
        exact zl_w2 (zl_cTime H Hs hs Ha (by omega) HL)
      · rw [if_neg c3]; exact h55 (fun z => c3 z.2)
    by_cases c1 : zl_b T n a = 84
    · rw [if_pos c1]; exact h35 (Or.inl c1)
    · rw [if_neg c1]
      by_cases c2 : zl_b T n a = 116
      · rw [if_pos c2]; exact h35 (Or.inr c2)
      · rw [if_neg c2]; exact h55 (fun z => ((zl_c84 _).mp z.1).elim c1 c2)
/-- where the j-th token is looked for -/
def zl_bs (T : Nat → Int32) (n : Nat) : Nat → Nat
  | 0 => 0
  | j + 1 => (zl_tok T n (zl_bs T n j)).2.2.1
def zl_at (T : Nat → Int32) (n j : Nat) : zl_T := zl_tok T n (zl_bs T n j)
def zl_cn (T : Nat → Int32) (n j : Nat) : List Int32 := zl_nm T n (zl_at T n j).2.1 (zl_at T n j).2.2.1
/-- the class's first m tokens -/
def zl_CT (h : zs_H) (T : Nat → Int32) (n m : Nat) (L : List (List Int32)) : Prop :=
  (∀ j, j < m → (h.2.1 9) j = nI (zl_ck (zl_at T n j)) ∧ (h.2.1 10) j = nI (zl_at T n j).2.1 ∧ (h.2.1 11) j = nI (zl_cv (zl_at T n j) (L.idxOf (zl_cn T n j))) ∧ ((zl_at T n j).1 = 1 ∨ (zl_at T n j).1 = 2 → zl_cn T n j ∈ L)) ∧ (h.1 8 3) = nI m
def zl_J (T : Nat → Int32) (n b c : Nat) : Prop := 2 * c ≤ b + 1 ∧ (2 * c ≤ b ∨ zl_pt T n b = false)
theorem zl_idxa {L : List (List Int32)} {c d : List Int32} (h : d ∈ L) : (L ++ [c]).idxOf d = L.idxOf d := by
  rw [List.idxOf_append, if_pos h]
theorem zl_idxn {L : List (List Int32)} {c : List Int32} (h : ¬ c ∈ L) : (L ++ [c]).idxOf c = L.idxOf c := by
  rw [List.idxOf_append, if_neg h, List.idxOf_eq_length h]
  simp
theorem zl_tok_nm {T : Nat → Int32} {n b : Nat} (h : (zl_tok T n b).1 = 1 ∨ (zl_tok T n b).1 = 2) : (zl_tok T n b).2.2.1 = zl_ne T n (zl_tok T n b).2.1 ∧ (zl_tok T n b).2.1 < n ∧ zl_pt T n (zl_tok T n b).2.1 = true ∧ (zl_tok T n b).2.2.1 - (zl_tok T n b).2.1 ≤ 32 ∧ ((zl_tok T n b).1 = 2 ↔ zl_nm T n (zl_tok T n b).2.1 (zl_tok T n b).2.2.1 ∈ zl_W) ∧ ((zl_tok T n b).1 = 2 → (zl_tok T n b).2.2.2 = zl_W.idxOf (zl_nm T n (zl_tok T n b).2.1 (zl_tok T n b).2.2.1)) := by
  have hfin : ∀ a v e, ¬ ((zl_fin T n a v e).1 = 1 ∨ (zl_fin T n a v e).1 = 2) := by
    intro a v e
    unfold zl_fin
    repeat' split
    all_goals simp
  revert h
  unfold zl_tok
  by_cases c : (zl_sk T n (n - b) b).2 = true
  · rw [if_pos c]
    generalize (zl_sk T n (n - b) b).1 = a
    unfold zl_tk
    by_cases c0 : n ≤ a
    · rw [if_pos c0]; intro h; simp at h
    rw [if_neg c0]
    by_cases c1 : zl_g T n a = 84 ∧ zl_b T n (a + 1) = 35
    · rw [if_pos c1]; intro h; exact absurd h (by unfold zl_tm; exact hfin _ _ _)
    rw [if_neg c1]
    by_cases c2 : ¬ f_Mo_isLetter (zl_g T n a) = 0
    · rw [if_pos c2]
      intro h
      have hp : zl_pt T n a = true := by unfold zl_pt; exact decide_eq_true (zl_isLet _ c2)
      unfold zl_tn at h ⊢
      by_cases d1 : 32 < zl_ne T n a - a
      · rw [if_pos d1] at h; simp at h
      rw [if_neg d1] at h ⊢
      by_cases d2 : zl_nm T n a (zl_ne T n a) ∈ zl_W
      · rw [if_pos d2]; exact ⟨rfl, by show a < n; omega, hp, by show zl_ne T n a - a ≤ 32; omega, ⟨fun _ => d2, fun _ => rfl⟩, fun _ => rfl⟩
      · rw [if_neg d2]; exact ⟨rfl, by show a < n; omega, hp, by show zl_ne T n a - a ≤ 32; omega, ⟨fun q => absurd q (by simp), fun q => absurd q d2⟩, fun q => absurd q (by simp)⟩
    rw [if_neg c2]
    by_cases c3 : ¬ f_Mo_isDigit (zl_g T n a) = 0
    · rw [if_pos c3]
      intro h
      unfold zl_nb at h
      exfalso
      revert h
      repeat' split
      all_goals first | exact hfin _ _ _ | simp
    rw [if_neg c3]
    by_cases c4 : zl_g T n a = 37
    · rw [if_pos c4]
      intro h
      unfold zl_pl at h
      exfalso
      revert h
      repeat' split
      all_goals simp
    · rw [if_neg c4]
      intro h
      unfold zl_sn at h
      exfalso
      revert h
      repeat' split
      all_goals simp
  · rw [if_neg c]; intro h; simp at h
theorem zl_KT_pre {L : List (List Int32)} {c : List Int32} {s : Nat} {h h1 : zs_H} {t : zl_T} {p : Int32 × zs_H} (f : zfr [(8, 7)] [] [] h h1) (q : zl_KT L c s h1 t p) : zl_KT L c s h t p := by
  obtain ⟨q1, q2, q3, q4, q5, q6, q7, q8⟩ := q
  refine ⟨q1, q2, fun j => ?_, fun j => ?_, fun j => ?_, q6, q7, zfr_trans (zfr_w f (by decide) (by decide) (by decide)) q8⟩
  · rw [q3 j, f.2.1 _ (by decide)]
  · rw [q4 j, f.2.1 _ (by decide)]
  · rw [q5 j, f.2.1 _ (by decide)]
def zl_I (h : zs_H) (T : Nat → Int32) (n j : Nat) (L : List (List Int32)) : Prop :=
  zl_CT h T n j L ∧ zn_C h L ∧ L.Nodup ∧ L.take 75 = zk_K ∧ 75 ≤ L.length
theorem zl_I_s {h : zs_H} {T : Nat → Int32} {n j : Nat} {L : List (List Int32)} {p : Int32 × zs_H} (HI : zl_I h T n j L) (q : zl_KT L (zl_cn T n j) j h (zl_at T n j) p) : zl_I p.2 T n (j + 1) (if ((zl_at T n j).1 = 1 ∨ (zl_at T n j).1 = 2) ∧ ¬ zl_cn T n j ∈ L then L ++ [zl_cn T n j] else L) := by
  obtain ⟨q1, q2, q3, q4, q5, q6, q7, q8⟩ := q
  obtain ⟨i1, i2, i3, i4, i5⟩ := HI
  have hx : ∀ d, d ∈ L → (if ((zl_at T n j).1 = 1 ∨ (zl_at T n j).1 = 2) ∧ ¬ zl_cn T n j ∈ L then L ++ [zl_cn T n j] else L).idxOf d = L.idxOf d := by
    intro d hd
    split
    · exact zl_idxa hd
    · rfl
  refine ⟨⟨fun i hi => ?_, q2⟩, q7, ?_, ?_, ?_⟩
  · by_cases ei : i = j
    · subst ei
      refine ⟨by rw [q3, if_pos rfl], by rw [q4, if_pos rfl], ?_, fun z => ?_⟩
      · rw [q5, if_pos rfl]
        congr 1
        by_cases z : (zl_at T n i).1 = 1 ∨ (zl_at T n i).1 = 2
        · by_cases y : zl_cn T n i ∈ L
          · rw [hx _ y]
          · rw [if_pos ⟨z, y⟩, zl_idxn y]
        · rw [if_neg (fun w => z w.1)]
      · by_cases y : zl_cn T n i ∈ L
        · rw [if_neg (fun w => w.2 y)]; exact y
        · rw [if_pos ⟨z, y⟩]; exact List.mem_append_right _ (List.mem_singleton.mpr rfl)
    · obtain ⟨j1, j2, j3, j4⟩ := i1.1 i (by omega)
      refine ⟨by rw [q3, if_neg ei]; exact j1, by rw [q4, if_neg ei]; exact j2, ?_, fun z => ?_⟩
      · rw [q5, if_neg ei, j3]
        congr 1
        by_cases z : (zl_at T n i).1 = 1 ∨ (zl_at T n i).1 = 2
        · rw [hx _ (j4 z)]
        · unfold zl_cv; rw [if_neg z, if_neg z]
      · have := j4 z
        split
        · exact List.mem_append_left _ this
        · exact this
  · split
    · rename_i z
      refine List.nodup_append.mpr ⟨i3, List.nodup_cons.mpr ⟨List.not_mem_nil, List.nodup_nil⟩, fun a ha b hb e => ?_⟩
      rw [List.mem_singleton.mp hb] at e
      exact z.2 (e ▸ ha)
    · exact i3
  · split
    · rw [List.take_append_of_le_length i5]; exact i4
    · exact i4
  · split
    · rw [List.length_append]; omega
    · exact i5
theorem zl_rd {n : Nat} {T : Nat → Int32} (hn : n ≤ 10240) : ∀ m j fuel (h : zs_H) (L : List (List Int32)), n ≤ zl_bs T n j + m → m + 1 < fuel → zl_Y h T n → zl_I h T n j L → (h.1 8 7) = nI (zl_bs T n j) → zl_bs T n j ≤ n → zl_J T n (zl_bs T n j) (L.length - 75) → zn_o L L.length ≤ 330 + zl_bs T n j → j ≤ zl_bs T n j →
    zw (f_Tk_read_c1_L25 fuel h 1 (nI j)) (fun h' => ∃ k L', j ≤ k ∧ k ≤ n ∧ zl_I h' T n (k + 1) L' ∧ (∀ i, j ≤ i → i < k → ¬ ((zl_at T n i).1 = 0 ∨ (zl_at T n i).1 = 9)) ∧ ((zl_at T n k).1 = 0 ∨ (zl_at T n k).1 = 9) ∧ zfr [(2, 5), (8, 3), (8, 7)] [4, 5, 6, 7, 9, 10, 11] [] h h') := by
  intro m
  induction m using Nat.strongRecOn with
  | ind m ih =>
    intro j fuel h L h1 h2 H HI Ha hb HJ ho hj
    obtain ⟨f, rfl⟩ : ∃ f, fuel = f + 2 := ⟨fuel - 2, by omega⟩
    obtain ⟨i1, i2, i3, i4, i5⟩ := HI
    have hJ := HJ.1
    have hTok := zl_tok_kd (n := n) (b := zl_bs T n j) H.2.2.2.1 hb
    have hlast : ∀ (t : Int32) (g : zs_H), f_Tk_read_c1_L25 (f + 1) g 0 t = some g := by
      intro t g
      show f_Tk_read_c1_25 (f_Tk_read_c1_L25 f) g 0 t = _
      unfold f_Tk_read_c1_25
      rw [if_pos rfl]
      split <;> rfl
    have fin : ∀ p : Int32 × zs_H, zl_KT L (zl_cn T n j) j h (zl_at T n j) p → ((zl_at T n j).1 = 0 ∨ (zl_at T n j).1 = 9) → zw (f_Tk_read_c1_55 (f_Tk_read_c1_L25 (f + 1)) p.2 (nI j)) (fun h' => ∃ k L', j ≤ k ∧ k ≤ n ∧ zl_I h' T n (k + 1) L' ∧ (∀ i, j ≤ i → i < k → ¬ ((zl_at T n i).1 = 0 ∨ (zl_at T n i).1 = 9)) ∧ ((zl_at T n k).1 = 0 ∨ (zl_at T n k).1 = 9) ∧ zfr [(2, 5), (8, 3), (8, 7)] [4, 5, 6, 7, 9, 10, 11] [] h h') := by
      intro p q z
      unfold f_Tk_read_c1_55 f_Tk_read_c1_56
      rw [hlast, zw_some]
      exact ⟨j, _, Nat.le_refl j, by omega, zl_I_s ⟨i1, i2, i3, i4, i5⟩ q, fun i h3 h4 => by omega, z, q.2.2.2.2.2.2.2⟩
    show zw (f_Tk_read_c1_25 (f_Tk_read_c1_L25 (f + 1)) h 1 (nI j)) _
    unfold f_Tk_read_c1_25
    rw [if_neg (mt (zc_lt (k := 16384) (by decide) (by omega)).mp (by omega)), if_neg (by decide), zl_skipBlanks H Ha hb]
    have hs := zl_sk_le (T := T) (n := n) (n - zl_bs T n j) (zl_bs T n j) hb
    have hF : zfr [(8, 7)] [] [] h (zs_uF h 8 7 (nI (zl_sk T n (n - zl_bs T n j) (zl_bs T n j)).1)) := zfr_F (by decide) zfr_rfl
    have hC : zn_C (zs_uF h 8 7 (nI (zl_sk T n (n - zl_bs T n j) (zl_bs T n j)).1)) L := zn_C_fr hF (by decide) (by decide) (by decide) (by decide) (by decide) i2
    by_cases c0 : (zl_sk T n (n - zl_bs T n j) (zl_bs T n j)).2 = true
    · have et : zl_at T n j = zl_tk T n (zl_sk T n (n - zl_bs T n j) (zl_bs T n j)).1 := by
        unfold zl_at zl_tok; rw [if_pos c0]
      rw [if_pos c0, zw_B, zw_some]
      dsimp only
      rw [if_neg (by decide), zw_B]
      refine zw_mono (zl_cTok (h := zs_uF h 8 7 (nI (zl_sk T n (n - zl_bs T n j) (zl_bs T n j)).1)) (n := n) (s := j) (L := L) H i1.2 (by omega) rfl hs.1 hC i3 i4 (by omega) (by omega)) fun p q => ?_
      have q' : zl_KT L (zl_cn T n j) j h (zl_at T n j) p := by
        unfold zl_cn
        rw [et]
        exact zl_KT_pre hF q
      have qq := q'
      obtain ⟨q1, q2, q3, q4, q5, q6, q7, q8⟩ := q'
      by_cases z : (zl_at T n j).1 = 0 ∨ (zl_at T n j).1 = 9
      · rw [q1, if_pos z, if_pos rfl]; exact fin p qq z
      · rw [q1, if_neg z, if_neg (by decide)]
        unfold f_Tk_read_c1_56
        rw [nI_1]
        have hk := hTok.2.2.2.1 z
        have hk1 := hTok.1
        have hbs : zl_bs T n (j + 1) = (zl_at T n j).2.2.1 := rfl
        have hat : (zl_at T n j) = zl_tok T n (zl_bs T n j) := rfl
        rw [← hat] at hk hk1
        have hY : zl_Y p.2 T n := by
          obtain ⟨y1, y2, y3, y4, y5⟩ := H
          refine ⟨(q8.1 _ _ (by decide)).trans y1, y2, ?_, y4, ?_⟩
          · rw [q8.1 _ _ (by decide)]; exact y3
          · rw [q8.2.1 _ (by decide)]; exact y5
        have hI' := zl_I_s ⟨i1, i2, i3, i4, i5⟩ qq
        have hsub : ∀ L2 : List (List Int32), L2 = (if ((zl_at T n j).1 = 1 ∨ (zl_at T n j).1 = 2) ∧ ¬ zl_cn T n j ∈ L then L ++ [zl_cn T n j] else L) → zl_J T n (zl_bs T n (j + 1)) (L2.length - 75) ∧ zn_o L2 L2.length ≤ 330 + zl_bs T n (j + 1) := by
          intro L2 e2
          rw [hbs]
          by_cases y : ((zl_at T n j).1 = 1 ∨ (zl_at T n j).1 = 2) ∧ ¬ zl_cn T n j ∈ L
          · rw [if_pos y] at e2
            subst e2
            obtain ⟨t1, t2, t3, t4, t5, t6⟩ := zl_tok_nm (T := T) (n := n) (b := zl_bs T n j) y.1
            rw [← hat] at t1 t2 t3 t4
            have e3 : (L ++ [zl_cn T n j]).length = L.length + 1 := by rw [List.length_append]; rfl
            have e4 : ((L ++ [zl_cn T n j]).getD L.length []).length = (zl_at T n j).2.2.1 - (zl_at T n j).2.1 := by
              rw [List.getD_eq_getElem?_getD, List.getElem?_append_right (Nat.le_refl _), Nat.sub_self]
              show (zl_cn T n j).length = _
              unfold zl_cn; rw [zl_nm_len]
            have hne := zl_ne_le (T := T) (n := n) (a := (zl_at T n j).2.1) (by omega)
            rw [← t1] at hne
            rw [e3, zn_o_s (by rw [e3]; omega), zn_o_app (Nat.le_refl _), e4]
            refine ⟨⟨?_, Or.inr hne.2.2.1⟩, by omega⟩
            rcases HJ.2 with w | w
            · omega
            · have : ¬ (zl_at T n j).2.1 = zl_bs T n j := fun e5 => by rw [e5, w] at t3; exact absurd t3 (by decide)
              omega
          · rw [if_neg y] at e2
            subst e2
            exact ⟨⟨by omega, Or.inl (by omega)⟩, by omega⟩
        have hs2 := hsub _ rfl
        refine zw_mono (ih (m - 1) (by omega) (j + 1) (f + 1) p.2 _ (by rw [hbs]; omega) (by omega) hY hI' (q6 z) (by rw [hbs]; omega) hs2.1 hs2.2 (by rw [hbs]; omega)) fun h' w => ?_
        obtain ⟨k, L', w1, w2, w3, w4, w5, w6⟩ := w
        refine ⟨k, L', by omega, w2, w3, fun i h3 h4 => ?_, w5, zfr_trans q8 w6⟩
        by_cases ei : i = j
        · rw [ei]; exact z
        · exact w4 i (by omega) h4
    · have et : zl_at T n j = (9, (zl_sk T n (n - zl_bs T n j) (zl_bs T n j)).1, (zl_sk T n (n - zl_bs T n j) (zl_bs T n j)).1, 2) := by
        unfold zl_at zl_tok; rw [if_neg c0]
      rw [if_neg c0, zw_B]
      refine zw_mono (zl_w2 (zl_refuse (h := zs_uF h 8 7 (nI (zl_sk T n (n - zl_bs T n j) (zl_bs T n j)).1)) (w := 2) (e := (zl_sk T n (n - zl_bs T n j) (zl_bs T n j)).1) (c := zl_cn T n j) (s := j) i1.2 (by omega) rfl (by omega) hC)) fun p q => ?_
      rw [← et] at q
      have q' := zl_KT_pre hF q
      have z : (zl_at T n j).1 = 0 ∨ (zl_at T n j).1 = 9 := Or.inr (by rw [et])
      rw [q'.1, if_pos z, if_pos rfl]
      exact fin p q' z
