/-! The class's tokens: names; the whole row of tokens. -/
theorem zl_cn5 {h : zs_H} {T : Nat → Int32} {n : Nat} (H : zl_Y h T n) : ∀ m i fuel, n ≤ i + m → m < fuel → i ≤ n → f_Tk_readName_L5 fuel h (nI i) = f_Tk_readName_31 h (nI (zl_run (zl_pt T n) m i)) := by
  obtain ⟨H1, hn, H3, H4, H5⟩ := H
  intro m
  induction m with
  | zero =>
    intro i fuel h1 h2 h3
    obtain ⟨f, rfl⟩ : ∃ f, fuel = f + 1 := ⟨fuel - 1, by omega⟩
    show f_Tk_readName_5 (f_Tk_readName_L5 f) h (nI i) = _
    unfold f_Tk_readName_5
    rw [H1, if_pos ((nI_leI (by omega) (by omega)).mpr (by omega))]; rfl
  | succ m ih =>
    intro i fuel h1 h2 h3
    obtain ⟨f, rfl⟩ : ∃ f, fuel = f + 1 := ⟨fuel - 1, by omega⟩
    show f_Tk_readName_5 (f_Tk_readName_L5 f) h (nI i) = _
    unfold f_Tk_readName_5
    rw [H1]
    by_cases c : n ≤ i
    · rw [if_pos ((nI_leI (by omega) (by omega)).mpr c), zl_run_0 _ _ _ (zl_pt_hi c)]
    · have e1 : f_Nm_isPart (T i) = f_Nm_isPart (zl_b T n i) := by rw [zl_rawP (H4 i), zl_bT (by omega)]
      rw [if_neg (mt (nI_leI (by omega) (by omega)).mp c), if_neg H3, if_pos (zi_in (by omega) (by omega)), nI_clamp (by omega), H5, e1, nI_1]
      by_cases c1 : f_Nm_isPart (zl_b T n i) = 0
      · have p1 : zl_pt T n i = false := by unfold zl_pt; simpa using c1
        rw [if_pos c1, zl_run_0 _ _ _ p1]
      · have p1 : zl_pt T n i = true := by unfold zl_pt; simpa using c1
        rw [if_neg c1, ih (i + 1) f (by omega) (by omega) (by omega)]
        congr 2
        show _ = if _ then _ else _
        rw [if_pos p1]
theorem zl_rcn {h : zs_H} {T : Nat → Int32} {n a e : Nat} (H : zl_Y h T n) (he : e ≤ n) (hp : ∀ i, a ≤ i → i < e → zl_pt T n i = true) : zn_rc T a (e - a) = zl_nm T n a e ∧ ∀ i, i < e - a → vp_nar .byte ((f_Nm_great (T (a + i))).toInt8.toInt32) = f_Nm_great (T (a + i)) := by
  have key : ∀ i, i < e - a → f_Nm_great (T (a + i)) = zl_g T n (a + i) := by
    intro i hi
    have p := hp (a + i) (by omega) (by omega)
    have p2 : ¬ f_Nm_isPart (zl_b T n (a + i)) = 0 := by unfold zl_pt at p; simpa using p
    unfold zl_g
    rw [zl_bT (by omega)] at p2 ⊢
    exact zl_rawG (H.2.2.2.1 _) (by rw [zl_rawP (H.2.2.2.1 _)]; exact p2)
  constructor
  · refine zn_rc_eq.mpr ⟨zl_nm_len, fun i hi => ?_⟩
    rw [key i hi, zl_nm_at hi]
  · intro i hi
    rw [key i hi]
    exact zl_nar (hp (a + i) (by omega) (by omega))
theorem zl_WK : zk_K.take 41 = zl_W := by decide +kernel
theorem zl_cName {h : zs_H} {T : Nat → Int32} {n s a : Nat} {L : List (List Int32)} (H : zl_Y h T n) (Hs : (h.1 8 3) = nI s) (hs : s < 16385) (Ha : (h.1 8 7) = nI a) (ha : a < n) (HL : zn_C h L) (hN : L.Nodup) (hK : L.take 75 = zk_K) (hL : L.length < 6000) (ho : zn_o L L.length + 32 ≤ 16789) (hf : zl_pt T n a = true) : zw (f_Tk_readName h) (zl_KT L (zl_nm T n a (zl_ne T n a)) s h (zl_tn T n a)) := by
  have hn := H.2.1
  obtain ⟨n1, n2, n3, n4⟩ := zl_ne_le (T := T) (n := n) (a := a) (by omega)
  have n5 : a + 1 ≤ zl_ne T n a := by
    unfold zl_ne
    rw [zl_run_1 _ _ _ hf ha]
    exact zl_run_ge _ _ _
  have h5 := zl_cn5 H (n - a) a zF (by omega) (by have := zF_big; omega) (by omega)
  have h5' : f_Tk_readName h = f_Tk_readName_31 h (nI (zl_ne T n a)) := by unfold f_Tk_readName; rw [Ha]; exact h5
  rw [h5']
  unfold f_Tk_readName_31 zl_tn
  rw [if_neg H.2.2.1, Ha, zi_sub n1, zw_B]
  generalize zl_ne T n a = e at n1 n2 n3 n4 n5 ⊢
  obtain ⟨r1, r2⟩ := zl_rcn H n2 n4
  by_cases c1 : 32 < e - a
  · rw [if_pos c1]
    have e0 : f_Nm_numberOf_c1 h (nI a) (nI (e - a)) = some (-1, h) := by
      unfold f_Nm_numberOf_c1 f_Nm_find_c1 f_Nm_numberOf_c1_36 f_Nm_numberOf_c1_37
      have q1 : ¬ nI (e - a) < 1 := mt (zc_tl (k := 1) (by decide) (by omega)).mp (by omega)
      have q2 : (32 : Int32) < nI (e - a) := (zc_lt (k := 32) (by decide) (by omega)).mpr c1
      rw [if_neg q1, if_pos q2]
      show (if _ then _ else _) = _
      rw [if_neg q1, if_pos q2, if_pos rfl, if_pos rfl]
    rw [e0, zw_some]
    dsimp only
    rw [if_pos rfl]
    exact zl_w2 (zl_refuse (w := 3) Hs hs Ha (by omega) HL)
  · rw [if_neg c1]
    refine zw_mono (zn_numberc1 HL hN (by omega) (by omega) (by omega) hL (by omega) (by rw [H.2.2.2.2]; exact r2)) fun p q => ?_
    obtain ⟨q1, q2, q3⟩ := q
    rw [H.2.2.2.2, r1] at q1 q2
    generalize hc : zl_nm T n a e = c at q1 q2 ⊢
    have hidx : L.idxOf c ≤ L.length := List.idxOf_le_length
    rw [q2, if_neg (zc_m1 (by omega))]
    have Hs2 : (p.2.1 8 3) = nI s := (q3.1 _ _ (by decide)).trans Hs
    have Ha2 : (p.2.1 8 7) = nI a := (q3.1 _ _ (by decide)).trans Ha
    have hLW : L = zl_W ++ L.drop 41 := by
      rw [← zl_WK, ← hK, List.take_take, show min 41 75 = 41 from rfl, List.take_append_drop]
    have hW : zl_W.length = 41 := rfl
    have hix : L.idxOf c = if c ∈ zl_W then zl_W.idxOf c else (L.drop 41).idxOf c + 41 := by
      conv => lhs; rw [hLW]
      rw [List.idxOf_append, hW]
    have fin : ∀ (t : zl_T) (k : Nat), zl_ck t = k → k < 65536 → (t.1 = 1 ∨ t.1 = 2) → t.2.1 = a → t.2.2.1 = e → zw (f_Tk_readName_91 p.2 (nI e) (nI (L.idxOf c)) (nI k)) (zl_KT L c s h t) := by
      intro t k h1 h2 h3 h4 h6
      unfold f_Tk_readName_91 f_Tk_finish
      rw [zl_add Hs2 hs h2 Ha2 (by omega)]
      refine zl_w2 (zw_bind.mpr (zw_some.mpr (zw_some.mpr ?_)))
      have h7 : ¬ (t.1 = 0 ∨ t.1 = 9) := by omega
      have g1 : zfr [(2, 5)] [4, 5, 6, 7] [] h p.2 := q3
      refine ⟨(if_neg h7).symm, rfl, fun j => ?_, fun j => ?_, fun j => ?_, fun _ => by rw [h6]; rfl, ?_, ?_⟩
      · refine Eq.trans (zl_ada.1 j) ?_
        rw [h1, g1.2.1 _ (by decide)]
      · refine Eq.trans (zl_ada.2.1 j) ?_
        rw [h4, g1.2.1 _ (by decide)]
      · refine Eq.trans (zl_ada.2.2 j) ?_
        rw [show zl_cv t (L.idxOf c) = L.idxOf c from if_pos h3, g1.2.1 _ (by decide)]
      · have e9 : (if (t.1 = 1 ∨ t.1 = 2) ∧ ¬ c ∈ L then L ++ [c] else L) = if c ∈ L then L else L ++ [c] := by
          by_cases z : c ∈ L
          · rw [if_pos z, if_neg (fun y => y.2 z)]
          · rw [if_neg z, if_pos ⟨h3, z⟩]
        rw [e9]
        exact zn_C_fr (zfr_F (fs := [(8, 3), (8, 7)]) (by decide) (zfr_w zl_adf (by decide) (fun x q => q) (fun x q => q))) (by decide) (by decide) (by decide) (by decide) (by decide) q1
      · exact zfr_trans (zfr_w g1 (by decide) (by decide) (by decide)) (zfr_F (by decide) (zfr_w zl_adf (by decide) (by decide) (by decide)))
    by_cases c2 : c ∈ zl_W
    · have hw : zl_W.idxOf c < 41 := by have := List.idxOf_lt_length_of_mem c2; omega
      rw [if_pos c2] at hix
      rw [if_neg (mt (zc_le (k := 41) (by decide) (by omega)).mp (by omega)), if_pos c2]
      unfold f_Tk_readName_75
      rw [if_neg (by decide), zc_da]
      exact fin (2, a, e, zl_W.idxOf c) (128 + L.idxOf c) (by rw [hix]; rfl) (by omega) (Or.inr rfl) rfl rfl
    · rw [if_neg c2] at hix
      rw [if_pos ((zc_le (k := 41) (by decide) (by omega)).mpr (by omega)), if_neg c2]
      unfold f_Tk_readName_75
      rw [if_pos rfl]
      exact fin (1, a, e, 0) 8 rfl (by decide) (Or.inl rfl) rfl rfl
