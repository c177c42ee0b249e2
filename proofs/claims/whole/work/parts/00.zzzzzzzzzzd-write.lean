/-! The line: what is written, on both sides. -/
def zln_01 (x : Int32) : Prop := x = 0 ∨ x = 1
/-- the bits that can be told are 0 or 1 -/
def zln_b (g : zs_H) : Prop := ∀ i, i < 256 → zln_01 ((g.2.1 114) (512 + i)) ∧ zln_01 ((g.2.1 118) i) ∧ zln_01 ((g.2.1 119) i)
theorem zln_b2 {g : zs_H} {i : Nat} {v : Int32} (q : zln_b g) (hv : zln_01 v) : zln_b (zs_uM g 114 (512 + i) v) := fun j hj => by
  refine ⟨?_, (q j hj).2⟩
  rw [zu_MM]
  split
  · exact hv
  · exact (q j hj).1
theorem zln_b5 {g : zs_H} {i : Nat} {v : Int32} (q : zln_b g) : zln_b (zs_uM g 114 (896 + i) v) := fun j hj => by
  refine ⟨?_, (q j hj).2⟩
  rw [zu_MM, if_neg (fun z => by have := z.2; omega)]
  exact (q j hj).1
theorem zln_a1 (x : Int32) : zln_01 (x &&& 1) := by
  have e : x &&& 1 = nI (x.toBitVec.toNat % 2) := by
    apply Int32.toBitVec_inj.mp
    show x.toBitVec &&& 1#32 = BitVec.ofNat 32 (x.toBitVec.toNat % 2)
    apply BitVec.eq_of_toNat_eq
    rw [BitVec.toNat_and]
    show x.toBitVec.toNat &&& (2 ^ 1 - 1) = _
    rw [Nat.and_two_pow_sub_one_eq_mod, BitVec.toNat_ofNat, Nat.mod_eq_of_lt (a := x.toBitVec.toNat % 2)]
    have := Nat.mod_lt x.toBitVec.toNat (show 2 > 0 by decide)
    omega
  rw [e]
  have := Nat.mod_lt x.toBitVec.toNat (show 2 > 0 by decide)
  generalize x.toBitVec.toNat % 2 = k at this
  unfold zln_01
  rcases (show k = 0 ∨ k = 1 by omega) with z | z <;> subst z
  · exact .inl rfl
  · exact .inr rfl
section ZLW
variable {h g : zs_H} {b : Nat → Nat} {t : Nat} {J : (Nat → Int32) → Prop}
theorem zln_nw {c : Nat} (hc : c < 65536) : (nI c).toInt16.toInt32 = f_Mo_narrow (nI c) := by
  have e : nI c &&& 65535 = nI c := by
    rw [show nI c &&& 65535 = nI (c &&& 65535) from zln_a c 65535, show c &&& 65535 = c from by
      rw [show (65535 : Nat) = 2 ^ 16 - 1 from rfl, Nat.and_two_pow_sub_one_eq_mod]; omega]
  unfold f_Mo_narrow
  rw [e]
  apply Int32.toInt_inj.mp
  rw [Int16.toInt_toInt32, Int32.toInt_toInt16, zln_ti (by omega)]
  by_cases z : c ≤ 32767
  · rw [if_pos ((zc_el (k := 32767) (by decide) (by omega)).mpr z), zln_ti (by omega)]
    exact Int.bmod_eq_of_le (by omega) (by omega)
  · rw [if_neg (mt (zc_el (k := 32767) (by decide) (by omega)).mp z), Int32.toInt_sub, zln_ti (by omega), show (65536 : Int32).toInt = 65536 from by decide]
    rw [show (c : Int).bmod (2 ^ 16) = ((c : Int) - 65536).bmod (2 ^ 16) from by rw [show (65536 : Int) = ((2 ^ 16 : Nat) : Int) from rfl, Int.sub_bmod_right]]
    rw [Int.bmod_eq_of_le (by omega) (by omega), Int.bmod_eq_of_le (by omega) (by omega)]
theorem zln_ch2 {i : Nat} (v : Int32) (hv : yJ_01 v) (hi : i < 256) (io : yY_io h g) (l : (h.1 58 3) = 1) (hs : (g.1 68 82) = 1) (kk : yZ_k J h g) : ∃ h', f_Mc_change h 2 (nI i) v = some (0, h') ∧ zfr [] [59, 62] [] h h' ∧ yY_io h' (zs_uM g 114 (512 + i) v) ∧ yZ_k J h' (zs_uM g 114 (512 + i) v) := by
  obtain ⟨v', h', g', a1, a2, a3, a4, a5, a6⟩ := yZ_chg (a := 2) (i := i) v (.inr (.inl rfl)) (by rw [if_pos (by decide)]; exact hi) (fun _ => hv) io (l.trans hs.symm) kk
  rw [if_neg (by decide), hs, if_neg (show ¬ (1 : Int32) = 0 by decide), if_pos (show (2 : Nat) = 2 from rfl)] at a2
  unfold f_Mo_put_82 at a2
  rw [show 512 + nI i = nI (512 + i) from nI_add 512 i, if_pos (zi_in (by omega) (show 512 + i < 8192 by omega)), nI_clamp (by omega)] at a2
  injection a2 with a2
  injection a2 with e1 e2
  subst e1
  subst e2
  exact ⟨h', a1, a3, a5, a6⟩
theorem zln_ch5 {i : Nat} (v : Int32) (hi : i < 64) (io : yY_io h g) (l : (h.1 58 3) = 1) (hs : (g.1 68 82) = 1) (kk : yZ_k J h g) : ∃ h', f_Mc_change h 5 (nI i) v = some (0, h') ∧ zfr [] [59, 62] [] h h' ∧ yY_io h' (zs_uM g 114 (896 + i) v) ∧ yZ_k J h' (zs_uM g 114 (896 + i) v) := by
  obtain ⟨v', h', g', a1, a2, a3, a4, a5, a6⟩ := yZ_chg (a := 5) (i := i) v (.inr (.inr (.inr rfl))) (by rw [if_neg (by decide)]; exact hi) (fun q => absurd q (by decide)) io (l.trans hs.symm) kk
  rw [if_neg (by decide), hs, if_neg (show ¬ (1 : Int32) = 0 by decide), if_neg (show ¬ (5 : Nat) = 2 by decide)] at a2
  unfold f_Mo_put_82 at a2
  rw [show 896 + nI i = nI (896 + i) from nI_add 896 i, if_pos (zi_in (by omega) (show 896 + i < 8192 by omega)), nI_clamp (by omega)] at a2
  injection a2 with a2
  injection a2 with e1 e2
  subst e1
  subst e2
  exact ⟨h', a1, a3, a5, a6⟩
theorem zln_o59 {fn : Nat} {x2 x3 : Int32} (hf : fn ≤ 14) : f_Mo_obey_59 g (nI fn) x2 x3 = some g := by
  have hz := zF_big
  unfold f_Mo_obey_59
  obtain ⟨N, hN⟩ : ∃ N, zF = N + 1 := ⟨zF - 1, by omega⟩
  rw [hN]
  show f_Mo_obey_62 (f_Mo_obey_L62 N) g (nI fn) x2 x3 0 = _
  unfold f_Mo_obey_62
  rw [if_pos ((zc_el (k := 14) (by decide) (by omega)).mpr hf)]
  split <;> rfl
/-- what stays -/
def zln_K (J : (Nat → Int32) → Prop) (b : Nat → Nat) (t : Nat) (h g : zs_H) : Prop := zln_B b t h g ∧ yY_io h g ∧ ((h.1 58 3) = 1 ∧ (g.1 68 82) = 1) ∧ yZ_k J h g
theorem zln_Kc {h' : zs_H} {j : Nat} {v : Int32} (K : zln_K J b t h g) (f : zfr [] [59, 62] [] h h') (io : yY_io h' (zs_uM g 114 j v)) (kk : yZ_k J h' (zs_uM g 114 j v)) : zln_K J b t h' (zs_uM g 114 j v) := by
  obtain ⟨B, _, ⟨l, hs⟩, _⟩ := K
  exact ⟨zln_Bf B (zfr_w f (by decide) (by decide) (by decide)) (zfr_M (by decide) zfr_rfl), io, ⟨(f.1 _ _ List.not_mem_nil).trans l, hs⟩, kk⟩
theorem zln_w15 {a c : Nat} (hac : a + c ≤ 256) (hct : 5 + (c + 7) / 8 ≤ t - 4) : ∀ (m i N N' : Nat) (h g : zs_H), i + m = c → m < N → m < N' → zln_K J b t h g → ∃ h' g', f_Ln_write_L69 N h (nI a) (nI c) (nI i) = some h' ∧ f_Mo_obey_L62 N' g 15 (nI a) (nI c) (nI i) = some g' ∧ zfr [] [59, 62] [] h h' ∧ zfr [] [114, 118] [] g g' ∧ zln_K J b t h' g' ∧ (zln_b g → zln_b g') := by
  intro m
  induction m with
  | zero =>
    intro i N N' h g hi hN hN' K
    obtain ⟨N, rfl⟩ : ∃ z, N = z + 1 := ⟨N - 1, by omega⟩
    obtain ⟨N', rfl⟩ : ∃ z, N' = z + 1 := ⟨N' - 1, by omega⟩
    refine ⟨h, g, ?_, ?_, zfr_rfl, zfr_rfl, K, id⟩
    · show f_Ln_write_69 (f_Ln_write_L69 N) h (nI a) (nI c) (nI i) = _
      unfold f_Ln_write_69
      rw [if_pos ((nI_leI (by omega) (by omega)).mpr (by omega))]
    · show f_Mo_obey_62 (f_Mo_obey_L62 N') g 15 (nI a) (nI c) (nI i) = _
      unfold f_Mo_obey_62
      rw [if_pos ((nI_leI (by omega) (by omega)).mpr (by omega))]
  | succ m ih =>
    intro i N N' h g hi hN hN' K
    obtain ⟨N, rfl⟩ : ∃ z, N = z + 1 := ⟨N - 1, by omega⟩
    obtain ⟨N', rfl⟩ : ∃ z, N' = z + 1 := ⟨N' - 1, by omega⟩
    obtain ⟨B, io, ⟨l, hs⟩, kk⟩ := id K
    have ht := B.1
    have e8 : nI i / 8 = nI (i / 8) := zln_d (b := 8) (by omega) (by decide)
    obtain ⟨v, hv⟩ : ∃ v : Int32, v = (nI (b (7 + i / 8)) >>> ((nI i - nI (i / 8) * 8) &&& 31)) &&& 1 := ⟨_, rfl⟩
    obtain ⟨h1, c1, c2, c3, c4⟩ := zln_ch2 (i := a + i) v (by rw [hv]; exact zln_a1 _) (by omega) io l hs kk
    have K1 := zln_Kc K c2 c3 c4
    obtain ⟨h2, g2, d1, d2, d3, d4, d5, d6⟩ := ih (i + 1) N N' h1 _ (by omega) (by omega) (by omega) K1
    refine ⟨h2, g2, ?_, ?_, zfr_trans c2 d3, zfr_trans (zfr_M (by decide) zfr_rfl) d4, d5, fun q => d6 (zln_b2 q (by rw [hv]; exact zln_a1 _))⟩
    · show f_Ln_write_69 (f_Ln_write_L69 N) h (nI a) (nI c) (nI i) = _
      unfold f_Ln_write_69
      rw [if_neg (mt (nI_leI (by omega) (by omega)).mp (by omega)), e8, show 5 + nI (i / 8) = nI (5 + i / 8) from nI_add 5 _, zln_dat B (by omega), Option.bind_some, show 2 + (5 + i / 8) = 7 + i / 8 by omega, ← hv, nI_add, c1, yL_B, nI_1]
      exact d1
    · show f_Mo_obey_62 (f_Mo_obey_L62 N') g 15 (nI a) (nI c) (nI i) = _
      unfold f_Mo_obey_62 f_Mo_obey_142
      rw [if_neg (mt (nI_leI (by omega) (by omega)).mp (by omega)), if_neg (show ¬ (15 : Int32) ≤ 14 by decide), if_pos (show (15 : Int32) = 15 from rfl), e8, show 7 + nI (i / 8) = nI (7 + i / 8) from nI_add 7 _, zln_hrd B (by omega), Option.bind_some, ← hv, show 512 + nI a = nI (512 + a) from nI_add 512 a, nI_add, if_pos (zi_in (by omega) (show 512 + a + i < 8192 by omega)), nI_clamp (by omega), nI_1, show 512 + a + i = 512 + (a + i) by omega]
      exact d2
theorem zln_w16 {a c : Nat} (hac : a + c ≤ 64) (hct : 5 + 2 * c ≤ t - 4) : ∀ (m i N N' : Nat) (h g : zs_H), i + m = c → m < N → m < N' → zln_K J b t h g → ∃ h' g', f_Ln_write_L125 N h (nI a) (nI c) (nI i) = some h' ∧ f_Mo_obey_L62 N' g 16 (nI a) (nI c) (nI i) = some g' ∧ zfr [] [59, 62] [] h h' ∧ zfr [] [114, 118] [] g g' ∧ zln_K J b t h' g' ∧ (zln_b g → zln_b g') := by
  intro m
  induction m with
  | zero =>
    intro i N N' h g hi hN hN' K
    obtain ⟨N, rfl⟩ : ∃ z, N = z + 1 := ⟨N - 1, by omega⟩
    obtain ⟨N', rfl⟩ : ∃ z, N' = z + 1 := ⟨N' - 1, by omega⟩
    refine ⟨h, g, ?_, ?_, zfr_rfl, zfr_rfl, K, id⟩
    · show f_Ln_write_125 (f_Ln_write_L125 N) h (nI a) (nI c) (nI i) = _
      unfold f_Ln_write_125
      rw [if_pos ((nI_leI (by omega) (by omega)).mpr (by omega))]
    · show f_Mo_obey_62 (f_Mo_obey_L62 N') g 16 (nI a) (nI c) (nI i) = _
      unfold f_Mo_obey_62
      rw [if_pos ((nI_leI (by omega) (by omega)).mpr (by omega))]
  | succ m ih =>
    intro i N N' h g hi hN hN' K
    obtain ⟨N, rfl⟩ : ∃ z, N = z + 1 := ⟨N - 1, by omega⟩
    obtain ⟨N', rfl⟩ : ∃ z, N' = z + 1 := ⟨N' - 1, by omega⟩
    obtain ⟨B, io, ⟨l, hs⟩, kk⟩ := id K
    have ht := B.1
    have e8 : 5 + 2 * nI i = nI (5 + 2 * i) := by rw [show 2 * nI i = nI (2 * i) from zi_mul 2 i, show 5 + nI (2 * i) = nI (5 + 2 * i) from nI_add 5 _]
    obtain ⟨h1, c1, c2, c3, c4⟩ := zln_ch5 (i := a + i) (f_Mo_narrow (nI (zln_v b (5 + 2 * i)))) (by omega) io l hs kk
    have K1 := zln_Kc K c2 c3 c4
    obtain ⟨h2, g2, d1, d2, d3, d4, d5, d6⟩ := ih (i + 1) N N' h1 _ (by omega) (by omega) (by omega) K1
    refine ⟨h2, g2, ?_, ?_, zfr_trans c2 d3, zfr_trans (zfr_M (by decide) zfr_rfl) d4, d5, fun q => d6 (zln_b5 q)⟩
    · show f_Ln_write_125 (f_Ln_write_L125 N) h (nI a) (nI c) (nI i) = _
      unfold f_Ln_write_125
      rw [if_neg (mt (nI_leI (by omega) (by omega)).mp (by omega)), e8, zln_nb B (by omega), Option.bind_some, nI_add, zln_nw (zln_vl B _), c1, yL_B, nI_1]
      exact d1
    · show f_Mo_obey_62 (f_Mo_obey_L62 N') g 16 (nI a) (nI c) (nI i) = _
      unfold f_Mo_obey_62 f_Mo_obey_142
      rw [if_neg (mt (nI_leI (by omega) (by omega)).mp (by omega)), if_neg (show ¬ (16 : Int32) ≤ 14 by decide), if_neg (show ¬ (16 : Int32) = 15 by decide), e8, zln_two B (by omega), Option.bind_some, show 896 + nI a = nI (896 + a) from nI_add 896 a, nI_add, if_pos (zi_in (by omega) (show 896 + a + i < 8192 by omega)), nI_clamp (by omega), nI_1, show 896 + a + i = 896 + (a + i) by omega]
      exact d2
theorem zln_wr (K : zln_K J b t h g) (G : zln_G b t) : ∃ h' g', f_Ln_write h (nI (b 1)) = some h' ∧ f_Mo_obey g (nI (b 1)) = some g' ∧ zfr [] [59, 62] [] h h' ∧ zfr [] [114, 118] [] g g' ∧ zln_K J b t h' g' ∧ (zln_b g → zln_b g') ∧ (b 1 ≤ 4 → h' = h ∧ g' = g) := by
  have hz := zF_big
  obtain ⟨B, io, ⟨l, hs⟩, kk⟩ := id K
  obtain ⟨G1, G2, G3, G4, G5⟩ := G
  have ht := B.1
  have t8 : 8 ≤ t := by unfold zln_is at G1; omega
  unfold f_Ln_write f_Mo_obey
  have e0 : f_Ln_number h 0 = some (nI (zln_v b 0)) := zln_nb B (i := 0) (by omega)
  have e2 : f_Ln_number h 2 = some (nI (zln_v b 2)) := zln_nb B (i := 2) (by omega)
  have m0 : f_Mo_dataTwo g 0 = some (nI (zln_v b 0)) := zln_two B (i := 0) (by omega)
  have m2 : f_Mo_dataTwo g 2 = some (nI (zln_v b 2)) := zln_two B (i := 2) (by omega)
  rw [e0, e2, m0, m2, Option.bind_some, Option.bind_some, Option.bind_some, Option.bind_some]
  have ha := zln_vl B 0
  have hc := zln_vl B 2
  generalize zln_v b 0 = a at ha G5 e0 m0 ⊢
  generalize zln_v b 2 = c at hc G4 G5 e2 m2 ⊢
  generalize b 1 = f at G1 G2 G3 G4 G5 ⊢
  have W2 : ∀ v : Int32, yJ_01 v → a + 1 ≤ 256 → ∃ h', f_Ln_write_32 h v (nI a) 2 = some h' ∧ f_Mo_obey_35 g 5 (nI a) (nI c) v (512 + nI a) = some (zs_uM g 114 (512 + a) v) ∧ zfr [] [59, 62] [] h h' ∧ zln_K J b t h' (zs_uM g 114 (512 + a) v) := fun v hv a1 => by
    obtain ⟨h1, c1, c2, c3, c4⟩ := zln_ch2 (i := a) v hv (by omega) io l hs kk
    refine ⟨h1, ?_, ?_, c2, zln_Kc K c2 c3 c4⟩
    · unfold f_Ln_write_32
      rw [c1, yL_B]
    · unfold f_Mo_obey_35
      rw [show 512 + nI a = nI (512 + a) from nI_add 512 a, if_pos (zi_in (by omega) (show 512 + a < 8192 by omega)), nI_clamp (by omega)]
      exact zln_o59 (fn := 5) (by decide)
  rcases G1 with z | z | z | z | z | z | z | z <;> subst z
  · rw [if_neg (show ¬ (nI 1 : Int32) = 5 by decide), if_neg (show ¬ (nI 1 : Int32) = 6 by decide), if_neg (show ¬ (nI 1 : Int32) = 15 by decide), if_neg (show ¬ (nI 1 : Int32) = 16 by decide), if_neg (show ¬ (nI 1 : Int32) = 5 by decide), if_neg (show ¬ (nI 1 : Int32) = 6 by decide), zln_o59 (by decide)]
    exact ⟨h, g, rfl, rfl, zfr_rfl, zfr_rfl, K, id, fun _ => ⟨rfl, rfl⟩⟩
  · rw [if_neg (show ¬ (nI 2 : Int32) = 5 by decide), if_neg (show ¬ (nI 2 : Int32) = 6 by decide), if_neg (show ¬ (nI 2 : Int32) = 15 by decide), if_neg (show ¬ (nI 2 : Int32) = 16 by decide), if_neg (show ¬ (nI 2 : Int32) = 5 by decide), if_neg (show ¬ (nI 2 : Int32) = 6 by decide), zln_o59 (by decide)]
    exact ⟨h, g, rfl, rfl, zfr_rfl, zfr_rfl, K, id, fun _ => ⟨rfl, rfl⟩⟩
  · rw [if_neg (show ¬ (nI 3 : Int32) = 5 by decide), if_neg (show ¬ (nI 3 : Int32) = 6 by decide), if_neg (show ¬ (nI 3 : Int32) = 15 by decide), if_neg (show ¬ (nI 3 : Int32) = 16 by decide), if_neg (show ¬ (nI 3 : Int32) = 5 by decide), if_neg (show ¬ (nI 3 : Int32) = 6 by decide), zln_o59 (by decide)]
    exact ⟨h, g, rfl, rfl, zfr_rfl, zfr_rfl, K, id, fun _ => ⟨rfl, rfl⟩⟩
  · rw [if_neg (show ¬ (nI 4 : Int32) = 5 by decide), if_neg (show ¬ (nI 4 : Int32) = 6 by decide), if_neg (show ¬ (nI 4 : Int32) = 15 by decide), if_neg (show ¬ (nI 4 : Int32) = 16 by decide), if_neg (show ¬ (nI 4 : Int32) = 5 by decide), if_neg (show ¬ (nI 4 : Int32) = 6 by decide), zln_o59 (by decide)]
    exact ⟨h, g, rfl, rfl, zfr_rfl, zfr_rfl, K, id, fun _ => ⟨rfl, rfl⟩⟩
  · have a1 : a + 1 ≤ 256 := G5
    rw [if_pos (show (nI 5 : Int32) = 5 by decide), if_pos (show (nI 5 : Int32) = 5 by decide)]
    by_cases z : c = 0
    · rw [if_pos (show nI c = 0 by rw [z]; rfl), if_pos (show nI c ≤ 0 by rw [z]; decide)]
      obtain ⟨h1, w1, w2, w3, w4⟩ := W2 0 (.inl rfl) a1
      exact ⟨h1, _, w1, w2, w3, zfr_M (by decide) zfr_rfl, w4, fun q => zln_b2 q (.inl rfl), fun q => absurd q (by decide)⟩
    · rw [if_neg (fun q => z ((zc_eq (k := 0) (by decide) (by omega)).mp q)), if_neg (mt (zc_el (k := 0) (by decide) (by omega)).mp (by omega))]
      obtain ⟨h1, w1, w2, w3, w4⟩ := W2 1 (.inr rfl) a1
      exact ⟨h1, _, w1, w2, w3, zfr_M (by decide) zfr_rfl, w4, fun q => zln_b2 q (.inr rfl), fun q => absurd q (by decide)⟩
  · have a1 : a + 1 ≤ 64 := G5
    rw [if_neg (show ¬ (nI 6 : Int32) = 5 by decide), if_pos (show (nI 6 : Int32) = 6 by decide), if_neg (show ¬ (nI 6 : Int32) = 5 by decide), if_pos (show (nI 6 : Int32) = 6 by decide)]
    obtain ⟨h1, c1, c2, c3, c4⟩ := zln_ch5 (i := a) (f_Mo_narrow (nI c)) (by omega) io l hs kk
    rw [zln_nw hc, c1, yL_B, show 896 + nI a = nI (896 + a) from nI_add 896 a, if_pos (zi_in (by omega) (show 896 + a < 8192 by omega)), nI_clamp (by omega), zln_o59 (fn := 6) (by decide)]
    exact ⟨h1, _, rfl, rfl, c2, zfr_M (by decide) zfr_rfl, zln_Kc K c2 c3 c4, fun q => zln_b5 q, fun q => absurd q (by decide)⟩
  · have a1 : a + c ≤ 256 := G5
    have g3 := G3 (by decide)
    have g4 : 1 ≤ c ∧ c ≤ 1968 ∧ b 6 = (c + 7) / 8 := of_decide_eq_true G4
    rw [if_neg (show ¬ (nI 15 : Int32) = 5 by decide), if_neg (show ¬ (nI 15 : Int32) = 6 by decide), if_pos (show (nI 15 : Int32) = 15 by decide), if_neg (show ¬ (nI 15 : Int32) = 5 by decide), if_neg (show ¬ (nI 15 : Int32) = 6 by decide)]
    obtain ⟨h1, g1, q1, q2, q3, q4, q5, q6⟩ := zln_w15 a1 (by omega) c 0 zF zF h g (by omega) (by omega) (by omega) K
    exact ⟨h1, g1, q1, q2, q3, q4, q5, q6, fun q => absurd q (by decide)⟩
  · have a1 : a + c ≤ 64 := G5
    have g3 := G3 (by decide)
    have g4 : 1 ≤ c ∧ c ≤ 123 ∧ b 6 = 2 * c := of_decide_eq_true G4
    rw [if_neg (show ¬ (nI 16 : Int32) = 5 by decide), if_neg (show ¬ (nI 16 : Int32) = 6 by decide), if_neg (show ¬ (nI 16 : Int32) = 15 by decide), if_pos (show (nI 16 : Int32) = 16 by decide), if_neg (show ¬ (nI 16 : Int32) = 5 by decide), if_neg (show ¬ (nI 16 : Int32) = 6 by decide)]
    obtain ⟨h1, g1, q1, q2, q3, q4, q5, q6⟩ := zln_w16 a1 (by omega) c 0 zF zF h g (by omega) (by omega) (by omega) K
    exact ⟨h1, g1, q1, q2, q3, q4, q5, q6, fun q => absurd q (by decide)⟩
end ZLW
