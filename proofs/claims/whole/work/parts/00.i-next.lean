/-! The model's next token. -/
def zl_ne (T : Nat → Int32) (n a : Nat) : Nat := zl_run (zl_pt T n) (n - a) a
def zl_tn (T : Nat → Int32) (n a : Nat) : zl_T := if 32 < zl_ne T n a - a then (9, a, zl_ne T n a, 3) else if zl_nm T n a (zl_ne T n a) ∈ zl_W then (2, a, zl_ne T n a, zl_W.idxOf (zl_nm T n a (zl_ne T n a))) else (1, a, zl_ne T n a, 0)
def zl_tk (T : Nat → Int32) (n a : Nat) : zl_T :=
  if n ≤ a then (0, n, n, 0)
  else if zl_g T n a = 84 ∧ zl_b T n (a + 1) = 35 then zl_tm T n a
  else if ¬ f_Mo_isLetter (zl_g T n a) = 0 then zl_tn T n a
  else if ¬ f_Mo_isDigit (zl_g T n a) = 0 then zl_nb T n a
  else if zl_g T n a = 37 then zl_pl T n a
  else zl_sn T n a
def zl_tok (T : Nat → Int32) (n b : Nat) : zl_T := if (zl_sk T n (n - b) b).2 = true then zl_tk T n (zl_sk T n (n - b) b).1 else (9, (zl_sk T n (n - b) b).1, (zl_sk T n (n - b) b).1, 2)
theorem zl_rn8 {g : zs_H} {T : Nat → Int32} {n : Nat} (H : zl_X g T n) : ∀ m i fuel, n ≤ i + m → m < fuel → i ≤ n → f_Mo_readName_L8 fuel (zs_uF g 68 8 (nI i)) = f_Mo_readName_8 (fun _ => none) (zs_uF g 68 8 (nI (zl_run (zl_pt T n) m i))) := by
  have hn := H.2.1
  have hx : ∀ i k k', i ≤ n → zl_pt T n i = false → f_Mo_readName_8 k (zs_uF g 68 8 (nI i)) = f_Mo_readName_8 k' (zs_uF g 68 8 (nI i)) := by
    intro i k k' hi hp
    have c : f_Nm_isPart (zl_b T n i) = 0 := by unfold zl_pt at hp; simpa using hp
    unfold f_Mo_readName_8
    rw [show (zs_uF g 68 8 (nI i)).1 68 8 = nI i from rfl, zl_goesOn (g := zs_uF g 68 8 (nI i)) (n := n) H (by omega)]
    show (if f_Nm_isPart (zl_b T n i) = 0 then _ else _) = (if f_Nm_isPart (zl_b T n i) = 0 then _ else _)
    rw [if_pos c, if_pos c]
  intro m
  induction m with
  | zero =>
    intro i fuel h1 h2 h3
    obtain ⟨f, rfl⟩ : ∃ f, fuel = f + 1 := ⟨fuel - 1, by omega⟩
    exact hx i _ _ h3 (zl_pt_hi (by omega))
  | succ m ih =>
    intro i fuel h1 h2 h3
    obtain ⟨f, rfl⟩ : ∃ f, fuel = f + 1 := ⟨fuel - 1, by omega⟩
    by_cases c : zl_pt T n i = true
    · have hlt : i < n := Nat.lt_of_not_le fun q => by rw [zl_pt_hi q] at c; exact absurd c (by decide)
      have e2 : zl_run (zl_pt T n) (m + 1) i = zl_run (zl_pt T n) m (i + 1) := by
        show (if _ then _ else _) = _
        rw [if_pos c]
      rw [e2, ← ih (i + 1) f (by omega) (by omega) (by omega)]
      have c' : ¬ f_Nm_isPart (zl_b T n i) = 0 := by unfold zl_pt at c; simpa using c
      show f_Mo_readName_8 (f_Mo_readName_L8 f) _ = _
      unfold f_Mo_readName_8
      rw [show (zs_uF g 68 8 (nI i)).1 68 8 = nI i from rfl, zl_goesOn (g := zs_uF g 68 8 (nI i)) (n := n) H (by omega)]
      show (if f_Nm_isPart (zl_b T n i) = 0 then _ else _) = _
      rw [if_neg c', nI_1, zu_c]
    · have c' : zl_pt T n i = false := by simpa using c
      rw [zl_run_0 _ _ _ c']
      exact hx i _ _ h3 c'
theorem zl_ne_le {T : Nat → Int32} {n a : Nat} (ha : a ≤ n) : a ≤ zl_ne T n a ∧ zl_ne T n a ≤ n ∧ zl_pt T n (zl_ne T n a) = false ∧ ∀ i, a ≤ i → i < zl_ne T n a → zl_pt T n i = true := by
  have h1 := zl_run_le (zl_pt T n) (n - a) a
  refine ⟨zl_run_ge _ _ _, by unfold zl_ne; omega, zl_run_not _ _ _ (by rw [show a + (n - a) = n by omega]; exact zl_pt_hi (Nat.le_refl n)), fun i h2 h3 => zl_run_all _ _ _ i h2 h3⟩
theorem zl_readName {g : zs_H} {T : Nat → Int32} {n b a : Nat} {L : List (List Int32)} (H : zl_X g T n) (Ha : (g.1 68 7) = nI a) (ha : a < n) (hb : b ≤ a) (HL : zn_M g L) (hL : L.length < 8000) : zw (f_Mo_readName g) (zl_N n b L (zl_nm T n a (zl_ne T n a)) g (zl_tn T n a)) := by
  have hn := H.2.1
  obtain ⟨n1, n2, n3, n4⟩ := zl_ne_le (T := T) (n := n) (a := a) (by omega)
  have h8 := zl_rn8 H (n - a) a zF (by omega) (by have := zF_big; omega) (by omega)
  unfold f_Mo_readName zl_tn
  rw [Ha, h8]
  show zw (f_Mo_readName_8 (fun _ => none) (zs_uF g 68 8 (nI (zl_ne T n a)))) _
  generalize zl_ne T n a = e at n1 n2 n3 n4 ⊢
  have c : f_Nm_isPart (zl_b T n e) = 0 := by unfold zl_pt at n3; simpa using n3
  have hF : zfr [(68, 8)] [] [] g (zs_uF g 68 8 (nI e)) := zfr_F (by decide) zfr_rfl
  unfold f_Mo_readName_8
  rw [show (zs_uF g 68 8 (nI e)).1 68 8 = nI e from rfl, show (zs_uF g 68 8 (nI e)).1 68 7 = nI a from Ha, zl_goesOn (g := zs_uF g 68 8 (nI e)) (n := n) H (by omega), zw_bind, zw_some]
  show zw (if f_Nm_isPart (zl_b T n e) = 0 then _ else _) _
  rw [if_pos c, zi_sub n1]
  by_cases c1 : 32 < e - a
  · rw [if_neg (mt (zc_el (k := 32) (by decide) (by omega)).mp (by omega)), if_pos c1, show nI a = (zs_uF g 68 8 (nI e)).1 68 7 from Ha.symm, zl_fail (g := zs_uF g 68 8 (nI e)) Ha, zw_bind, zw_some, zw_some]
    exact zl_ftN (w := 3) hF (by decide) HL rfl n2 (by omega)
  · rw [if_pos ((zc_el (k := 32) (by decide) (by omega)).mpr (by omega)), if_neg c1, zl_wordAt (g := zs_uF g 68 8 (nI e)) (n := n) (a := a) (e := e) H Ha rfl n1 n2, zw_bind, zw_some]
    show zw (if (0 : Int32) ≤ (if zl_nm T n a e ∈ zl_W then nI (zl_W.idxOf (zl_nm T n a e)) else -1) then f_Mo_readName_79 (zs_uF (zs_uF g 68 8 (nI e)) 68 9 (if zl_nm T n a e ∈ zl_W then nI (zl_W.idxOf (zl_nm T n a e)) else -1)) 2 else f_Mo_readName_79 (zs_uF (zs_uF g 68 8 (nI e)) 68 9 (if zl_nm T n a e ∈ zl_W then nI (zl_W.idxOf (zl_nm T n a e)) else -1)) 1) _
    unfold f_Mo_readName_79 f_Mo_readName_101
    by_cases c2 : zl_nm T n a e ∈ zl_W
    · have hw : zl_W.idxOf (zl_nm T n a e) < 41 := List.idxOf_lt_length_of_mem c2
      rw [if_pos c2, if_pos c2, if_pos (nI_pos' (by omega)), show (zs_uF (zs_uF g 68 8 (nI e)) 68 9 (nI (zl_W.idxOf (zl_nm T n a e)))).1 68 9 = nI (zl_W.idxOf (zl_nm T n a e)) from rfl, if_pos (nI_pos' (by omega)), zw_some]
      exact zl_N_pre hF (by decide) ⟨zfr_F (by decide) (zfr_F (by decide) (zfr_F (by decide) zfr_rfl)), fun q => absurd q (by simp), fun _ => ⟨rfl, rfl, Ha, rfl, rfl, fun q => absurd q (by simp), fun _ => ⟨HL, fun _ => rfl⟩⟩⟩
    · rw [if_neg c2, if_neg c2, if_neg (by decide), show (zs_uF (zs_uF g 68 8 (nI e)) 68 9 (-1)).1 68 9 = -1 from rfl, if_neg (by decide), zw_B]
      refine zw_mono (zn_nameAt (g := zs_uF (zs_uF (zs_uF g 68 8 (nI e)) 68 9 (-1)) 68 6 1) (n := n) (a := a) (e := e) (L := L) H Ha rfl n1 n2 (by omega) n4 HL hL) fun p q => ?_
      rw [zw_some]
      have f1 : zfr [(68, 3), (68, 6), (68, 7), (68, 8), (68, 9), (68, 10), (68, 11)] [70, 71] [] (zs_uF (zs_uF (zs_uF g 68 8 (nI e)) 68 9 (-1)) 68 6 1) p.2 := zfr_w q.2.2 (by decide) (by decide) (by decide)
      refine ⟨zfr_F (by decide) (zfr_trans (zfr_F (by decide) (zfr_F (by decide) (zfr_F (by decide) zfr_rfl))) f1), fun z => absurd z (by simp), fun _ => ⟨?_, ?_, ?_, ?_, ?_, fun _ => ⟨?_, ?_⟩, fun z => absurd rfl z⟩⟩
      · exact (q.2.2.1 _ _ (by decide)).trans rfl
      · exact (q.2.2.1 _ _ (by decide)).trans rfl
      · exact (q.2.2.1 _ _ (by decide)).trans Ha
      · exact (q.2.2.1 _ _ (by decide)).trans rfl
      · exact (q.2.2.1 _ _ (by decide)).trans rfl
      · exact q.2.1
      · exact zn_fr (zfr_F (fs := [(68, 9)]) (ms := []) (ls := []) (by decide) zfr_rfl) (by decide) (by decide) (by decide) q.1
theorem zl_dp10 (c : Int32) (h : ¬ f_Mo_isDigit c = 0) : f_Mo_digit c < 10 := by grind [f_Mo_digit, f_Mo_isDigit]
theorem zl_next {g : zs_H} {T : Nat → Int32} {n b : Nat} {L : List (List Int32)} (H : zl_X g T n) (hT : ∀ i, zb_ok (T i)) (Hb : (g.1 68 8) = nI b) (hb : b ≤ n) (HL : zn_M g L) (hL : L.length < 8000) :
    zw (f_Mo_next g) (zl_N n b L (zl_nm T n (zl_tok T n b).2.1 (zl_tok T n b).2.2.1) g (zl_tok T n b)) := by
  have hn := H.2.1
  have hs := zl_sk_le (T := T) (n := n) (n - b) b hb
  unfold f_Mo_next
  rw [Hb, zl_skip H hb, zw_B, zw_some]
  unfold zl_tok
  generalize zl_sk T n (n - b) b = sk at hs ⊢
  obtain ⟨a, ok⟩ := sk
  dsimp only at hs ⊢
  by_cases c0 : ok = true
  · rw [if_pos c0, if_pos c0]
    dsimp only
    rw [if_pos (nI_pos' (by omega)), zl_great (g := zs_uF g 68 7 (nI a)) (n := n) H (by omega), zw_bind, zw_some, H.1]
    have hF : zfr [(68, 7)] [] [] g (zs_uF g 68 7 (nI a)) := zfr_F (by decide) zfr_rfl
    show zw (if nI a < nI n then (if zl_g T n a = 84 then _ else _) else _) _
    unfold zl_tk
    by_cases c1 : n ≤ a
    · rw [if_neg (mt (nI_ltI (by omega) (by omega)).mp (by omega)), if_pos c1, zw_some]
      exact ⟨zfr_F (by decide) (zfr_F (by decide) (zfr_F (by decide) (zfr_F (by decide) zfr_rfl))), fun q => absurd q (by simp), fun _ => ⟨rfl, rfl, rfl, rfl, rfl, fun q => absurd q (by simp), fun _ => ⟨HL, fun q => absurd rfl q⟩⟩⟩
    · rw [if_pos ((nI_ltI (by omega) (by omega)).mpr (by omega)), if_neg c1]
      have h97 : ¬ (zl_g T n a = 84 ∧ zl_b T n (a + 1) = 35) → zw (f_Mo_next_97 (zs_uF g 68 7 (nI a)) (zl_g T n a)) (zl_N n b L (zl_nm T n (zl_tk T n a).2.1 (zl_tk T n a).2.2.1) g (zl_tk T n a)) := by
        intro q
        unfold f_Mo_next_97 zl_tk
        rw [if_neg c1, if_neg q]
        by_cases d1 : f_Mo_isLetter (zl_g T n a) = 0
        · rw [if_pos d1, if_neg (not_not_intro d1)]
          by_cases d2 : f_Mo_isDigit (zl_g T n a) = 0
          · rw [if_pos d2, if_neg (not_not_intro d2)]
            by_cases d3 : zl_g T n a = 37
            · rw [if_pos d3, if_pos d3, zw_bind]
              exact zw_mono (zl_readPlace (g := zs_uF g 68 7 (nI a)) (n := n) H rfl Hb (by omega) (by omega) HL) fun g' z => zw_some.mpr (zl_N_pre hF (by decide) z)
            · rw [if_neg d3, if_neg d3, zw_bind]
              exact zw_mono (zl_readSign (g := zs_uF g 68 7 (nI a)) (n := n) H rfl Hb (by omega) (by omega) hT HL) fun g' z => zw_some.mpr (zl_N_pre hF (by decide) z)
          · rw [if_neg d2, if_pos d2, zw_bind]
            exact zw_mono (zl_readNumber (g := zs_uF g 68 7 (nI a)) (n := n) H rfl (by omega) (by omega) (by unfold zl_dp; exact decide_eq_true (zl_dp10 _ d2)) HL) fun g' z => zw_some.mpr (zl_N_pre hF (by decide) z)
        · rw [if_neg d1, if_pos d1, zw_bind]
          refine zw_mono (zl_readName (b := b) (g := zs_uF g 68 7 (nI a)) (n := n) H rfl (by omega) (by omega) HL hL) fun g' z => zw_some.mpr (zl_N_pre hF (by decide) ?_)
          have e9 : (zl_tn T n a).2.1 = a ∧ (zl_tn T n a).2.2.1 = zl_ne T n a := by
            unfold zl_tn
            repeat' split
            all_goals exact ⟨rfl, rfl⟩
          rw [e9.1, e9.2]
          exact z
      have e97 : (if zl_g T n a = 84 ∧ zl_b T n (a + 1) = 35 then zl_tm T n a else if ¬ f_Mo_isLetter (zl_g T n a) = 0 then zl_tn T n a else if ¬ f_Mo_isDigit (zl_g T n a) = 0 then zl_nb T n a else if zl_g T n a = 37 then zl_pl T n a else zl_sn T n a) = zl_tk T n a := by
        unfold zl_tk; rw [if_neg c1]
      rw [e97]
      by_cases c2 : zl_g T n a = 84
      · rw [if_pos c2, nI_1, zl_byteOf (g := zs_uF g 68 7 (nI a)) (n := n) H (by omega), zw_bind, zw_some]
        show zw (if zl_b T n (a + 1) = 35 then _ else _) _
        by_cases c3 : zl_b T n (a + 1) = 35
        · rw [if_pos c3, zw_bind]
          have e98 : zl_tk T n a = zl_tm T n a := by unfold zl_tk; rw [if_neg c1, if_pos ⟨c2, c3⟩]
          rw [e98]
          exact zw_mono (zl_readTime (g := zs_uF g 68 7 (nI a)) (n := n) H rfl (by have := zl_b_lt (T := T) (n := n) (i := a + 1) (by rw [c3]; decide); omega) (by omega) HL) fun g' z => zw_some.mpr (zl_N_pre hF (by decide) z)
        · rw [if_neg c3]; exact h97 (fun q => c3 q.2)
      · rw [if_neg c2]; exact h97 (fun q => c2 q.1)
  · rw [if_neg c0, if_neg c0]
    dsimp only
    rw [if_neg (by decide), zw_some]
    have f9 := zl_ftf (g := g) (w := 2) (a := a)
    refine ⟨zfr_F (by decide) (zfr_F (by decide) (zfr_w f9 (by decide) (by decide) (by decide))), fun _ => ⟨fun z => ?_, fun z => ?_, ?_, b, ?_, hb, Nat.le_refl b⟩, fun q => absurd rfl q⟩
    · rw [show zl_ft g 2 a = zs_uF (zs_uF g 68 10 2) 68 11 (nI a) from if_pos z]; exact ⟨rfl, rfl⟩
    · rw [show zl_ft g 2 a = g from if_neg z]; exact ⟨rfl, rfl⟩
    · exact zn_fr (zfr_F (fs := [(68, 10), (68, 11), (68, 7), (68, 6)]) (by decide) (zfr_F (by decide) (zfr_w f9 (by decide) (fun x q => q) (fun x q => q)))) (by decide) (by decide) (by decide) HL
    · show (zl_ft g 2 a).1 68 8 = _
      rw [f9.1 _ _ (by decide)]; exact Hb
