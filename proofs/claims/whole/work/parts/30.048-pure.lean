section
/-! The line: what is written, on both sides. -/
def zln_01 (x : Int32) : Prop := x = 0 ∨ x = 1
/-- the bits that can be told are 0 or 1 -/
def zln_b (g : zs_H) : Prop := ∀ i, i < 256 → zln_01 ((g.2.1 114) (512 + i)) ∧ zln_01 ((g.2.1 118) i) ∧ zln_01 ((g.2.1 119) i)
theorem zln_b2 {g : zs_H} {i : Nat} {v : Int32} (q : zln_b g) (hv : zln_01 v) : zln_b (zs_uM g 114 (512 + i) v) := fun j hj => by
  refine ⟨?_, (q j hj).2⟩
  rw [zu_MM]
  split
  · exact hv
  · exact (q j hj).1
theorem zln_b5 {g : zs_H} {i : Nat} {v : Int32} (q : zln_b g) : zln_b (zs_uM g 114 (896 + i) v) := fun j hj => by
  refine ⟨?_, (q j hj).2⟩
  rw [zu_MM, if_neg (fun z => by have := z.2; omega)]
  exact (q j hj).1
theorem zln_a1 (x : Int32) : zln_01 (x &&& 1) := by
  have e : x &&& 1 = nI (x.toBitVec.toNat % 2) := by
    apply Int32.toBitVec_inj.mp
    show x.toBitVec &&& 1#32 = BitVec.ofNat 32 (x.toBitVec.toNat % 2)
    apply BitVec.eq_of_toNat_eq
    rw [BitVec.toNat_and]
    show x.toBitVec.toNat &&& (2 ^ 1 - 1) = _
    rw [Nat.and_two_pow_sub_one_eq_mod, BitVec.toNat_ofNat, Nat.mod_eq_of_lt (a := x.toBitVec.toNat % 2)]
    have := Nat.mod_lt x.toBitVec.toNat (show 2 > 0 by decide)
    omega
  rw [e]
  have := Nat.mod_lt x.toBitVec.toNat (show 2 > 0 by decide)
  generalize x.toBitVec.toNat % 2 = k at this
  unfold zln_01
  rcases (show k = 0 ∨ k = 1 by omega) with z | z <;> subst z
  · exact .inl rfl
  · exact .inr rfl
section ZLW
variable {h g : zs_H} {b : Nat → Nat} {t : Nat} {J : (Nat → Int32) → Prop}
theorem zln_nw {c : Nat} (hc : c < 65536) : (nI c).toInt16.toInt32 = f_Mo_narrow (nI c) := by
  have e : nI c &&& 65535 = nI c := by
    rw [show nI c &&& 65535 = nI (c &&& 65535) from zln_a c 65535, show c &&& 65535 = c from by
      rw [show (65535 : Nat) = 2 ^ 16 - 1 from rfl, Nat.and_two_pow_sub_one_eq_mod]; omega]
  unfold f_Mo_narrow
  rw [e]
  apply Int32.toInt_inj.mp
  rw [Int16.toInt_toInt32, Int32.toInt_toInt16, zln_ti (by omega)]
  by_cases z : c ≤ 32767
  · rw [if_pos ((zc_el (k := 32767) (by decide) (by omega)).mpr z), zln_ti (by omega)]
    exact Int.bmod_eq_of_le (by omega) (by omega)
  · rw [if_neg (mt (zc_el (k := 32767) (by decide) (by omega)).mp z), Int32.toInt_sub, zln_ti (by omega), show (65536 : Int32).toInt = 65536 from by decide]
    rw [show (c : Int).bmod (2 ^ 16) = ((c : Int) - 65536).bmod (2 ^ 16) from by rw [show (65536 : Int) = ((2 ^ 16 : Nat) : Int) from rfl, Int.sub_bmod_right]]
    rw [Int.bmod_eq_of_le (by omega) (by omega), Int.bmod_eq_of_le (by omega) (by omega)]
theorem zln_ch2 {i : Nat} (v : Int32) (hv : yJ_01 v) (hi : i < 256) (io : yY_io h g) (l : (h.1 58 3) = 1) (hs : (g.1 68 82) = 1) (kk : yZ_k J h g) : ∃ h', f_Mc_change h 2 (nI i) v = some (0, h') ∧ zfr [] [59, 62] [] h h' ∧ yY_io h' (zs_uM g 114 (512 + i) v) ∧ yZ_k J h' (zs_uM g 114 (512 + i) v) := by
  obtain ⟨v', h', g', a1, a2, a3, a4, a5, a6⟩ := yZ_chg (a := 2) (i := i) v (.inr (.inl rfl)) (by rw [if_pos (by decide)]; exact hi) (fun _ => hv) io (l.trans hs.symm) kk
  rw [if_neg (by decide), hs, if_neg (show ¬ (1 : Int32) = 0 by decide), if_pos (show (2 : Nat) = 2 from rfl)] at a2
  unfold f_Mo_put_82 at a2
  rw [show 512 + nI i = nI (512 + i) from nI_add 512 i, if_pos (zi_in (by omega) (show 512 + i < 8192 by omega)), nI_clamp (by omega)] at a2
  injection a2 with a2
  injection a2 with e1 e2
  subst e1
  subst e2
  exact ⟨h', a1, a3, a5, a6⟩
theorem zln_ch5 {i : Nat} (v : Int32) (hi : i < 64) (io : yY_io h g) (l : (h.1 58 3) = 1) (hs : (g.1 68 82) = 1) (kk : yZ_k J h g) : ∃ h', f_Mc_change h 5 (nI i) v = some (0, h') ∧ zfr [] [59, 62] [] h h' ∧ yY_io h' (zs_uM g 114 (896 + i) v) ∧ yZ_k J h' (zs_uM g 114 (896 + i) v) := by
  obtain ⟨v', h', g', a1, a2, a3, a4, a5, a6⟩ := yZ_chg (a := 5) (i := i) v (.inr (.inr (.inr rfl))) (by rw [if_neg (by decide)]; exact hi) (fun q => absurd q (by decide)) io (l.trans hs.symm) kk
  rw [if_neg (by decide), hs, if_neg (show ¬ (1 : Int32) = 0 by decide), if_neg (show ¬ (5 : Nat) = 2 by decide)] at a2
  unfold f_Mo_put_82 at a2
  rw [show 896 + nI i = nI (896 + i) from nI_add 896 i, if_pos (zi_in (by omega) (show 896 + i < 8192 by omega)), nI_clamp (by omega)] at a2
  injection a2 with a2
  injection a2 with e1 e2
  subst e1
  subst e2
  exact ⟨h', a1, a3, a5, a6⟩
theorem zln_o59 {fn : Nat} {x2 x3 : Int32} (hf : fn ≤ 14) : f_Mo_obey_59 g (nI fn) x2 x3 = some g := by
  have hz := zF_big
  unfold f_Mo_obey_59
  obtain ⟨N, hN⟩ : ∃ N, zF = N + 1 := ⟨zF - 1, by omega⟩
  rw [hN]
  show f_Mo_obey_62 (f_Mo_obey_L62 N) g (nI fn) x2 x3 0 = _
  unfold f_Mo_obey_62
  rw [if_pos ((zc_el (k := 14) (by decide) (by omega)).mpr hf)]
  split <;> rfl
/-- what stays -/
def zln_K (J : (Nat → Int32) → Prop) (b : Nat → Nat) (t : Nat) (h g : zs_H) : Prop := zln_B b t h g ∧ yY_io h g ∧ ((h.1 58 3) = 1 ∧ (g.1 68 82) = 1) ∧ yZ_k J h g
theorem zln_Kc {h' : zs_H} {j : Nat} {v : Int32} (K : zln_K J b t h g) (f : zfr [] [59, 62] [] h h') (io : yY_io h' (zs_uM g 114 j v)) (kk : yZ_k J h' (zs_uM g 114 j v)) : zln_K J b t h' (zs_uM g 114 j v) := by
  obtain ⟨B, _, ⟨l, hs⟩, _⟩ := K
  exact ⟨zln_Bf B (zfr_w f (by decide) (by decide) (by decide)) (zfr_M (by decide) zfr_rfl), io, ⟨(f.1 _ _ List.not_mem_nil).trans l, hs⟩, kk⟩
theorem zln_w15 {a c : Nat} (hac : a + c ≤ 256) (hct : 5 + (c + 7) / 8 ≤ t - 4) : ∀ (m i N N' : Nat) (h g : zs_H), i + m = c → m < N → m < N' → zln_K J b t h g → ∃ h' g', f_Ln_write_L69 N h (nI a) (nI c) (nI i) = some h' ∧ f_Mo_obey_L62 N' g 15 (nI a) (nI c) (nI i) = some g' ∧ zfr [] [59, 62] [] h h' ∧ zfr [] [114, 118] [] g g' ∧ zln_K J b t h' g' ∧ (zln_b g → zln_b g') := by
  intro m
  induction m with
  | zero =>
    intro i N N' h g hi hN hN' K
    obtain ⟨N, rfl⟩ : ∃ z, N = z + 1 := ⟨N - 1, by omega⟩
    obtain ⟨N', rfl⟩ : ∃ z, N' = z + 1 := ⟨N' - 1, by omega⟩
    refine ⟨h, g, ?_, ?_, zfr_rfl, zfr_rfl, K, id⟩
    · show f_Ln_write_69 (f_Ln_write_L69 N) h (nI a) (nI c) (nI i) = _
      unfold f_Ln_write_69
      rw [if_pos ((nI_leI (by omega) (by omega)).mpr (by omega))]
    · show f_Mo_obey_62 (f_Mo_obey_L62 N') g 15 (nI a) (nI c) (nI i) = _
      unfold f_Mo_obey_62
      rw [if_pos ((nI_leI (by omega) (by omega)).mpr (by omega))]
  | succ m ih =>
    intro i N N' h g hi hN hN' K
    obtain ⟨N, rfl⟩ : ∃ z, N = z + 1 := ⟨N - 1, by omega⟩
    obtain ⟨N', rfl⟩ : ∃ z, N' = z + 1 := ⟨N' - 1, by omega⟩
    obtain ⟨B, io, ⟨l, hs⟩, kk⟩ := id K
    have ht := B.1
    have e8 : nI i / 8 = nI (i / 8) := zln_d (b := 8) (by omega) (by decide)
    obtain ⟨v, hv⟩ : ∃ v : Int32, v = (nI (b (7 + i / 8)) >>> ((nI i - nI (i / 8) * 8) &&& 31)) &&& 1 := ⟨_, rfl⟩
    obtain ⟨h1, c1, c2, c3, c4⟩ := zln_ch2 (i := a + i) v (by rw [hv]; exact zln_a1 _) (by omega) io l hs kk
    have K1 := zln_Kc K c2 c3 c4
    obtain ⟨h2, g2, d1, d2, d3, d4, d5, d6⟩ := ih (i + 1) N N' h1 _ (by omega) (by omega) (by omega) K1
    refine ⟨h2, g2, ?_, ?_, zfr_trans c2 d3, zfr_trans (zfr_M (by decide) zfr_rfl) d4, d5, fun q => d6 (zln_b2 q (by rw [hv]; exact zln_a1 _))⟩
    · show f_Ln_write_69 (f_Ln_write_L69 N) h (nI a) (nI c) (nI i) = _
      unfold f_Ln_write_69
      rw [if_neg (mt (nI_leI (by omega) (by omega)).mp (by omega)), e8, show 5 + nI (i / 8) = nI (5 + i / 8) from nI_add 5 _, zln_dat B (by omega), Option.bind_some, show 2 + (5 + i / 8) = 7 + i / 8 by omega, ← hv, nI_add, c1, yL_B, nI_1]
      exact d1
    · show f_Mo_obey_62 (f_Mo_obey_L62 N') g 15 (nI a) (nI c) (nI i) = _
      unfold f_Mo_obey_62 f_Mo_obey_142
      rw [if_neg (mt (nI_leI (by omega) (by omega)).mp (by omega)), if_neg (show ¬ (15 : Int32) ≤ 14 by decide), if_pos (show (15 : Int32) = 15 from rfl), e8, show 7 + nI (i / 8) = nI (7 + i / 8) from nI_add 7 _, zln_hrd B (by omega), Option.bind_some, ← hv, show 512 + nI a = nI (512 + a) from nI_add 512 a, nI_add, if_pos (zi_in (by omega) (show 512 + a + i < 8192 by omega)), nI_clamp (by omega), nI_1, show 512 + a + i = 512 + (a + i) by omega]
      exact d2
theorem zln_w16 {a c : Nat} (hac : a + c ≤ 64) (hct : 5 + 2 * c ≤ t - 4) : ∀ (m i N N' : Nat) (h g : zs_H), i + m = c → m < N → m < N' → zln_K J b t h g → ∃ h' g', f_Ln_write_L125 N h (nI a) (nI c) (nI i) = some h' ∧ f_Mo_obey_L62 N' g 16 (nI a) (nI c) (nI i) = some g' ∧ zfr [] [59, 62] [] h h' ∧ zfr [] [114, 118] [] g g' ∧ zln_K J b t h' g' ∧ (zln_b g → zln_b g') := by
  intro m
  induction m with
  | zero =>
    intro i N N' h g hi hN hN' K
    obtain ⟨N, rfl⟩ : ∃ z, N = z + 1 := ⟨N - 1, by omega⟩
    obtain ⟨N', rfl⟩ : ∃ z, N' = z + 1 := ⟨N' - 1, by omega⟩
    refine ⟨h, g, ?_, ?_, zfr_rfl, zfr_rfl, K, id⟩
    · show f_Ln_write_125 (f_Ln_write_L125 N) h (nI a) (nI c) (nI i) = _
      unfold f_Ln_write_125
      rw [if_pos ((nI_leI (by omega) (by omega)).mpr (by omega))]
    · show f_Mo_obey_62 (f_Mo_obey_L62 N') g 16 (nI a) (nI c) (nI i) = _
      unfold f_Mo_obey_62
      rw [if_pos ((nI_leI (by omega) (by omega)).mpr (by omega))]
  | succ m ih =>
    intro i N N' h g hi hN hN' K
    obtain ⟨N, rfl⟩ : ∃ z, N = z + 1 := ⟨N - 1, by omega⟩
    obtain ⟨N', rfl⟩ : ∃ z, N' = z + 1 := ⟨N' - 1, by omega⟩
    obtain ⟨B, io, ⟨l, hs⟩, kk⟩ := id K
    have ht := B.1
    have e8 : 5 + 2 * nI i = nI (5 + 2 * i) := by rw [show 2 * nI i = nI (2 * i) from zi_mul 2 i, show 5 + nI (2 * i) = nI (5 + 2 * i) from nI_add 5 _]
    obtain ⟨h1, c1, c2, c3, c4⟩ := zln_ch5 (i := a + i) (f_Mo_narrow (nI (zln_v b (5 + 2 * i)))) (by omega) io l hs kk
    have K1 := zln_Kc K c2 c3 c4
    obtain ⟨h2, g2, d1, d2, d3, d4, d5, d6⟩ := ih (i + 1) N N' h1 _ (by omega) (by omega) (by omega) K1
    refine ⟨h2, g2, ?_, ?_, zfr_trans c2 d3, zfr_trans (zfr_M (by decide) zfr_rfl) d4, d5, fun q => d6 (zln_b5 q)⟩
    · show f_Ln_write_125 (f_Ln_write_L125 N) h (nI a) (nI c) (nI i) = _
      unfold f_Ln_write_125
      rw [if_neg (mt (nI_leI (by omega) (by omega)).mp (by omega)), e8, zln_nb B (by omega), Option.bind_some, nI_add, zln_nw (zln_vl B _), c1, yL_B, nI_1]
      exact d1
    · show f_Mo_obey_62 (f_Mo_obey_L62 N') g 16 (nI a) (nI c) (nI i) = _
      unfold f_Mo_obey_62 f_Mo_obey_142
      rw [if_neg (mt (nI_leI (by omega) (by omega)).mp (by omega)), if_neg (show ¬ (16 : Int32) ≤ 14 by decide), if_neg (show ¬ (16 : Int32) = 15 by decide), e8, zln_two B (by omega), Option.bind_some, show 896 + nI a = nI (896 + a) from nI_add 896 a, nI_add, if_pos (zi_in (by omega) (show 896 + a + i < 8192 by omega)), nI_clamp (by omega), nI_1, show 896 + a + i = 896 + (a + i) by omega]
      exact d2
theorem zln_wr (K : zln_K J b t h g) (G : zln_G b t) : ∃ h' g', f_Ln_write h (nI (b 1)) = some h' ∧ f_Mo_obey g (nI (b 1)) = some g' ∧ zfr [] [59, 62] [] h h' ∧ zfr [] [114, 118] [] g g' ∧ zln_K J b t h' g' ∧ (zln_b g → zln_b g') ∧ (b 1 ≤ 4 → h' = h ∧ g' = g) := by
  have hz := zF_big
  obtain ⟨B, io, ⟨l, hs⟩, kk⟩ := id K
  obtain ⟨G1, G2, G3, G4, G5⟩ := G
  have ht := B.1
  have t8 : 8 ≤ t := by unfold zln_is at G1; omega
  unfold f_Ln_write f_Mo_obey
  have e0 : f_Ln_number h 0 = some (nI (zln_v b 0)) := zln_nb B (i := 0) (by omega)
  have e2 : f_Ln_number h 2 = some (nI (zln_v b 2)) := zln_nb B (i := 2) (by omega)
  have m0 : f_Mo_dataTwo g 0 = some (nI (zln_v b 0)) := zln_two B (i := 0) (by omega)
  have m2 : f_Mo_dataTwo g 2 = some (nI (zln_v b 2)) := zln_two B (i := 2) (by omega)
  rw [e0, e2, m0, m2, Option.bind_some, Option.bind_some, Option.bind_some, Option.bind_some]
  have ha := zln_vl B 0
  have hc := zln_vl B 2
  generalize zln_v b 0 = a at ha G5 e0 m0 ⊢
  generalize zln_v b 2 = c at hc G4 G5 e2 m2 ⊢
  generalize b 1 = f at G1 G2 G3 G4 G5 ⊢
  have W2 : ∀ v : Int32, yJ_01 v → a + 1 ≤ 256 → ∃ h', f_Ln_write_32 h v (nI a) 2 = some h' ∧ f_Mo_obey_35 g 5 (nI a) (nI c) v (512 + nI a) = some (zs_uM g 114 (512 + a) v) ∧ zfr [] [59, 62] [] h h' ∧ zln_K J b t h' (zs_uM g 114 (512 + a) v) := fun v hv a1 => by
    obtain ⟨h1, c1, c2, c3, c4⟩ := zln_ch2 (i := a) v hv (by omega) io l hs kk
    refine ⟨h1, ?_, ?_, c2, zln_Kc K c2 c3 c4⟩
    · unfold f_Ln_write_32
      rw [c1, yL_B]
    · unfold f_Mo_obey_35
      rw [show 512 + nI a = nI (512 + a) from nI_add 512 a, if_pos (zi_in (by omega) (show 512 + a < 8192 by omega)), nI_clamp (by omega)]
      exact zln_o59 (fn := 5) (by decide)
  rcases G1 with z | z | z | z | z | z | z | z <;> subst z
  · rw [if_neg (show ¬ (nI 1 : Int32) = 5 by decide), if_neg (show ¬ (nI 1 : Int32) = 6 by decide), if_neg (show ¬ (nI 1 : Int32) = 15 by decide), if_neg (show ¬ (nI 1 : Int32) = 16 by decide), if_neg (show ¬ (nI 1 : Int32) = 5 by decide), if_neg (show ¬ (nI 1 : Int32) = 6 by decide), zln_o59 (by decide)]
    exact ⟨h, g, rfl, rfl, zfr_rfl, zfr_rfl, K, id, fun _ => ⟨rfl, rfl⟩⟩
  · rw [if_neg (show ¬ (nI 2 : Int32) = 5 by decide), if_neg (show ¬ (nI 2 : Int32) = 6 by decide), if_neg (show ¬ (nI 2 : Int32) = 15 by decide), if_neg (show ¬ (nI 2 : Int32) = 16 by decide), if_neg (show ¬ (nI 2 : Int32) = 5 by decide), if_neg (show ¬ (nI 2 : Int32) = 6 by decide), zln_o59 (by decide)]
    exact ⟨h, g, rfl, rfl, zfr_rfl, zfr_rfl, K, id, fun _ => ⟨rfl, rfl⟩⟩
  · rw [if_neg (show ¬ (nI 3 : Int32) = 5 by decide), if_neg (show ¬ (nI 3 : Int32) = 6 by decide), if_neg (show ¬ (nI 3 : Int32) = 15 by decide), if_neg (show ¬ (nI 3 : Int32) = 16 by decide), if_neg (show ¬ (nI 3 : Int32) = 5 by decide), if_neg (show ¬ (nI 3 : Int32) = 6 by decide), zln_o59 (by decide)]
    exact ⟨h, g, rfl, rfl, zfr_rfl, zfr_rfl, K, id, fun _ => ⟨rfl, rfl⟩⟩
  · rw [if_neg (show ¬ (nI 4 : Int32) = 5 by decide), if_neg (show ¬ (nI 4 : Int32) = 6 by decide), if_neg (show ¬ (nI 4 : Int32) = 15 by decide), if_neg (show ¬ (nI 4 : Int32) = 16 by decide), if_neg (show ¬ (nI 4 : Int32) = 5 by decide), if_neg (show ¬ (nI 4 : Int32) = 6 by decide), zln_o59 (by decide)]
    exact ⟨h, g, rfl, rfl, zfr_rfl, zfr_rfl, K, id, fun _ => ⟨rfl, rfl⟩⟩
  · have a1 : a + 1 ≤ 256 := G5
    rw [if_pos (show (nI 5 : Int32) = 5 by decide), if_pos (show (nI 5 : Int32) = 5 by decide)]
    by_cases z : c = 0
    · rw [if_pos (show nI c = 0 by rw [z]; rfl), if_pos (show nI c ≤ 0 by rw [z]; decide)]
      obtain ⟨h1, w1, w2, w3, w4⟩ := W2 0 (.inl rfl) a1
      exact ⟨h1, _, w1, w2, w3, zfr_M (by decide) zfr_rfl, w4, fun q => zln_b2 q (.inl rfl), fun q => absurd q (by decide)⟩
    · rw [if_neg (fun q => z ((zc_eq (k := 0) (by decide) (by omega)).mp q)), if_neg (mt (zc_el (k := 0) (by decide) (by omega)).mp (by omega))]
      obtain ⟨h1, w1, w2, w3, w4⟩ := W2 1 (.inr rfl) a1
      exact ⟨h1, _, w1, w2, w3, zfr_M (by decide) zfr_rfl, w4, fun q => zln_b2 q (.inr rfl), fun q => absurd q (by decide)⟩
  · have a1 : a + 1 ≤ 64 := G5
    rw [if_neg (show ¬ (nI 6 : Int32) = 5 by decide), if_pos (show (nI 6 : Int32) = 6 by decide), if_neg (show ¬ (nI 6 : Int32) = 5 by decide), if_pos (show (nI 6 : Int32) = 6 by decide)]
    obtain ⟨h1, c1, c2, c3, c4⟩ := zln_ch5 (i := a) (f_Mo_narrow (nI c)) (by omega) io l hs kk
    rw [zln_nw hc, c1, yL_B, show 896 + nI a = nI (896 + a) from nI_add 896 a, if_pos (zi_in (by omega) (show 896 + a < 8192 by omega)), nI_clamp (by omega), zln_o59 (fn := 6) (by decide)]
    exact ⟨h1, _, rfl, rfl, c2, zfr_M (by decide) zfr_rfl, zln_Kc K c2 c3 c4, fun q => zln_b5 q, fun q => absurd q (by decide)⟩
  · have a1 : a + c ≤ 256 := G5
    have g3 := G3 (by decide)
    have g4 : 1 ≤ c ∧ c ≤ 1968 ∧ b 6 = (c + 7) / 8 := of_decide_eq_true G4
    rw [if_neg (show ¬ (nI 15 : Int32) = 5 by decide), if_neg (show ¬ (nI 15 : Int32) = 6 by decide), if_pos (show (nI 15 : Int32) = 15 by decide), if_neg (show ¬ (nI 15 : Int32) = 5 by decide), if_neg (show ¬ (nI 15 : Int32) = 6 by decide)]
    obtain ⟨h1, g1, q1, q2, q3, q4, q5, q6⟩ := zln_w15 a1 (by omega) c 0 zF zF h g (by omega) (by omega) (by omega) K
    exact ⟨h1, g1, q1, q2, q3, q4, q5, q6, fun q => absurd q (by decide)⟩
  · have a1 : a + c ≤ 64 := G5
    have g3 := G3 (by decide)
    have g4 : 1 ≤ c ∧ c ≤ 123 ∧ b 6 = 2 * c := of_decide_eq_true G4
    rw [if_neg (show ¬ (nI 16 : Int32) = 5 by decide), if_neg (show ¬ (nI 16 : Int32) = 6 by decide), if_neg (show ¬ (nI 16 : Int32) = 15 by decide), if_pos (show (nI 16 : Int32) = 16 by decide), if_neg (show ¬ (nI 16 : Int32) = 5 by decide), if_neg (show ¬ (nI 16 : Int32) = 6 by decide)]
    obtain ⟨h1, g1, q1, q2, q3, q4, q5, q6⟩ := zln_w16 a1 (by omega) c 0 zF zF h g (by omega) (by omega) (by omega) K
    exact ⟨h1, g1, q1, q2, q3, q4, q5, q6, fun q => absurd q (by decide)⟩
end ZLW
end
section
/-! The line: sending, and what is told, on both sides. -/
def zln_O (n : Nat) (h g : zs_H) : Prop := n ≤ 256 ∧ (h.1 66 1) = nI n ∧ (g.1 68 88) = nI n ∧ ∀ i, i < n → (h.2.1 67) i &&& 255 = (g.2.1 117) i
def zln_V (h g : zs_H) : Prop := (∀ j, j < 8192 → (h.2.1 62) j = (g.2.1 114) j) ∧ yY_io h g ∧ zln_b g
section ZLT
variable {h g h' g' : zs_H} {n : Nat}
theorem zln_255 (x : Int32) : x &&& 255 = nI (x.toBitVec.toNat % 256) := by
  apply Int32.toBitVec_inj.mp
  show x.toBitVec &&& 255#32 = BitVec.ofNat 32 (x.toBitVec.toNat % 256)
  apply BitVec.eq_of_toNat_eq
  rw [BitVec.toNat_and]
  show x.toBitVec.toNat &&& (2 ^ 8 - 1) = _
  rw [Nat.and_two_pow_sub_one_eq_mod, BitVec.toNat_ofNat, Nat.mod_eq_of_lt (a := x.toBitVec.toNat % 256)]
  have := Nat.mod_lt x.toBitVec.toNat (show 256 > 0 by decide)
  omega
theorem zln_bm (x : Int32) : ((x.toBitVec.toNat % 256 : Nat) : Int) = x.toInt % 256 := by
  have e : x.toInt = (x.toBitVec.toNat : Int).bmod (2 ^ 32) := BitVec.toInt_eq_toNat_bmod x.toBitVec
  have e2 := Int.bmod_emod (x := (x.toBitVec.toNat : Int)) (m := 2 ^ 32)
  rw [← e] at e2
  omega
theorem zln_nar (x : Int32) : vp_nar .byte (x.toInt8.toInt32) &&& 255 = x &&& 255 := by
  have e : ∀ y : Int32, y.toInt8.toInt32.toInt % 256 = y.toInt % 256 := fun y => by
    rw [Int8.toInt_toInt32, Int32.toInt_toInt8]
    exact Int.bmod_emod
  have h1 := zln_bm (vp_nar .byte (x.toInt8.toInt32))
  have h2 := zln_bm x
  rw [zln_255, zln_255 x]
  congr 1
  rw [vp_nar_byte, e, e, ← h2] at h1
  rw [vp_nar_byte]
  omega
theorem zln_snd (O : zln_O n h g) (hn : n < 256) (x : Int32) : ∃ h' g', f_Ln_send h x = some h' ∧ f_Mo_answer g x = some g' ∧ zln_O (n + 1) h' g' ∧ zfr [(66, 1)] [67] [] h h' ∧ zfr [(68, 88)] [117] [] g g' := by
  obtain ⟨o1, o2, o3, o4⟩ := O
  refine ⟨zs_uF (zs_uM h 67 n (vp_nar .byte (x.toInt8.toInt32))) 66 1 (nI (n + 1)), zs_uF (zs_uM g 117 n (x &&& 255)) 68 88 (nI (n + 1)), ?_, ?_, ⟨by omega, rfl, rfl, fun i hi => ?_⟩, zfr_F (by decide) (zfr_M (by decide) zfr_rfl), zfr_F (by decide) (zfr_M (by decide) zfr_rfl)⟩
  · unfold f_Ln_send
    rw [o2, if_neg (mt (zc_le (k := 256) (by decide) (by omega)).mp (by omega)), if_pos (zi_in (by omega) (show n < 256 by omega)), nI_clamp (by omega), nI_1]
  · unfold f_Mo_answer
    rw [o3, if_pos (zi_in (by omega) (show n < 300 by omega)), nI_clamp (by omega), nI_1]
  · show (zs_uM h 67 n _).2.1 67 i &&& 255 = (zs_uM g 117 n _).2.1 117 i
    rw [zu_MM, zu_MM]
    by_cases z : i = n
    · rw [if_pos ⟨rfl, z⟩, if_pos ⟨rfl, z⟩]; exact zln_nar x
    · rw [if_neg (fun q => z q.2), if_neg (fun q => z q.2)]; exact o4 i (by omega)
theorem zln_Vf (V : zln_V h g) (f1 : zfr [(66, 1)] [67] [] h h') (f2 : zfr [(68, 88)] [117] [] g g') : zln_V h' g' := by
  obtain ⟨v1, v2, v3⟩ := V
  refine ⟨fun j hj => by rw [f1.2.1 _ (by decide), f2.2.1 _ (by decide)]; exact v1 j hj, fun i hi => ?_, fun i hi => ?_⟩
  · rw [f1.2.1 _ (by decide), f1.2.1 _ (by decide), f1.2.1 _ (by decide), f2.2.1 _ (by decide), f2.2.1 _ (by decide), f2.2.1 _ (by decide)]
    exact v2 i hi
  · rw [f2.2.1 _ (by decide), f2.2.1 _ (by decide), f2.2.1 _ (by decide)]
    exact v3 i hi
/-- what the class tells of a table -/
def zln_C (h : zs_H) (fn j : Nat) : Option Int32 := if fn = 1 then f_Mc_seen h 2 (nI j) else if fn = 2 then f_Ln_lamp h (nI j) else if fn = 3 then f_Mc_seen h 5 (nI j) else f_Ln_meter h (nI j)
theorem zln_see (V : zln_V h g) {i : Nat} : (i < 256 → f_Mc_seen h 0 (nI i) = some ((g.2.1 118) i) ∧ f_Mc_seen h 1 (nI i) = some ((g.2.1 119) i) ∧ f_Mc_seen h 2 (nI i) = some ((g.2.1 114) (512 + i))) ∧ (i < 64 → f_Mc_seen h 3 (nI i) = some ((g.2.1 118) (256 + i)) ∧ f_Mc_seen h 4 (nI i) = some ((g.2.1 119) (256 + i)) ∧ f_Mc_seen h 5 (nI i) = some ((g.2.1 114) (896 + i))) := by
  obtain ⟨v1, v2, v3⟩ := V
  have S := fun (a : Nat) (ha : a < 6) (hi : i < (if a < 3 then 256 else 64)) => (yZ_see (h := h) (g := g) ha hi v2 (fun _ => v1)).1
  refine ⟨fun hi => ⟨?_, ?_, ?_⟩, fun hi => ⟨?_, ?_, ?_⟩⟩
  · refine (S 0 (by decide) hi).trans ?_
    rw [if_pos (by decide)]
    unfold f_Mo_get_19
    rw [(yZ_sp (a := 0) (by decide) hi).1, if_pos (show (0 : Nat) < 3 by decide), if_pos (zi_in (by omega) (show i < 320 by omega)), nI_clamp (by omega)]
  · refine (S 1 (by decide) hi).trans ?_
    rw [if_neg (by decide), if_pos (by decide)]
    unfold f_Mo_get_50
    rw [(yZ_sp (a := 1) (by decide) hi).1, if_pos (show (1 : Nat) < 3 by decide), if_pos (zi_in (by omega) (show i < 320 by omega)), nI_clamp (by omega)]
  · refine (S 2 (by decide) hi).trans ?_
    rw [if_neg (by decide), if_neg (by decide), if_pos (show (2 : Nat) = 2 from rfl)]
    unfold f_Mo_get_85
    rw [show 512 + nI i = nI (512 + i) from nI_add 512 i, if_pos (zi_in (by omega) (show 512 + i < 8192 by omega)), nI_clamp (by omega)]
  · refine (S 3 (by decide) hi).trans ?_
    rw [if_pos (by decide)]
    unfold f_Mo_get_19
    rw [(yZ_sp (a := 3) (by decide) hi).1, if_neg (show ¬ (3 : Nat) < 3 by decide), if_pos (zi_in (by omega) (show 256 + i < 320 by omega)), nI_clamp (by omega)]
  · refine (S 4 (by decide) hi).trans ?_
    rw [if_neg (by decide), if_pos (by decide)]
    unfold f_Mo_get_50
    rw [(yZ_sp (a := 4) (by decide) hi).1, if_neg (show ¬ (4 : Nat) < 3 by decide), if_pos (zi_in (by omega) (show 256 + i < 320 by omega)), nI_clamp (by omega)]
  · refine (S 5 (by decide) hi).trans ?_
    rw [if_neg (by decide), if_neg (by decide), if_neg (show ¬ (5 : Nat) = 2 by decide)]
    unfold f_Mo_get_85
    rw [show 896 + nI i = nI (896 + i) from nI_add 896 i, if_pos (zi_in (by omega) (show 896 + i < 8192 by omega)), nI_clamp (by omega)]
theorem zln_tld {fn j : Nat} (V : zln_V h g) (hf : fn = 1 ∨ fn = 2 ∨ fn = 3 ∨ fn = 4) (hj : j < zln_ts fn) : ∃ w, zln_C h fn j = some w ∧ f_Mo_told g (nI fn) (nI j) = some w ∧ (fn ≤ 2 → zln_01 w) := by
  have v3 := V.2.2
  rcases hf with z | z | z | z <;> subst z
  · have hj : j < 256 := hj
    refine ⟨(g.2.1 114) (512 + j), ((zln_see V).1 hj).2.2, ?_, fun _ => (v3 j hj).1⟩
    unfold f_Mo_told
    rw [if_pos (show (nI 1 : Int32) = 1 by decide), show 512 + nI j = nI (512 + j) from nI_add 512 j, if_pos (zi_in (by omega) (show 512 + j < 8192 by omega)), nI_clamp (by omega)]
  · have hj : j < 512 := hj
    unfold f_Mo_told
    rw [if_neg (show ¬ (nI 2 : Int32) = 1 by decide), if_pos (show (nI 2 : Int32) = 2 by decide)]
    show ∃ w, f_Ln_lamp h (nI j) = some w ∧ _
    unfold f_Ln_lamp
    by_cases c : 256 ≤ j
    · rw [if_pos ((zc_le (k := 256) (by decide) (by omega)).mpr c), if_pos ((zc_le (k := 256) (by decide) (by omega)).mpr c), show nI j - 256 = nI (j - 256) from zi_sub (b := 256) c, if_pos (zi_in (by omega) (show j - 256 < 320 by omega)), nI_clamp (by omega), ((zln_see V).1 (show j - 256 < 256 by omega)).2.1, Option.bind_some]
      exact ⟨_, rfl, rfl, fun _ => (v3 (j - 256) (by omega)).2.2⟩
    · rw [if_neg (mt (zc_le (k := 256) (by decide) (by omega)).mp c), if_neg (mt (zc_le (k := 256) (by decide) (by omega)).mp c), if_pos (zi_in (by omega) (show j < 320 by omega)), nI_clamp (by omega), ((zln_see V).1 (show j < 256 by omega)).1, Option.bind_some]
      exact ⟨_, rfl, rfl, fun _ => (v3 j (by omega)).2.1⟩
  · have hj : j < 64 := hj
    refine ⟨(g.2.1 114) (896 + j), ((zln_see V).2 hj).2.2, ?_, fun q => absurd q (by decide)⟩
    unfold f_Mo_told
    rw [if_neg (show ¬ (nI 3 : Int32) = 1 by decide), if_neg (show ¬ (nI 3 : Int32) = 2 by decide), if_pos (show (nI 3 : Int32) = 3 by decide), show 896 + nI j = nI (896 + j) from nI_add 896 j, if_pos (zi_in (by omega) (show 896 + j < 8192 by omega)), nI_clamp (by omega)]
  · have hj : j < 128 := hj
    unfold f_Mo_told
    rw [if_neg (show ¬ (nI 4 : Int32) = 1 by decide), if_neg (show ¬ (nI 4 : Int32) = 2 by decide), if_neg (show ¬ (nI 4 : Int32) = 3 by decide)]
    show ∃ w, f_Ln_meter h (nI j) = some w ∧ _
    unfold f_Ln_meter
    by_cases c : 64 ≤ j
    · rw [if_pos ((zc_le (k := 64) (by decide) (by omega)).mpr c), if_pos ((zc_le (k := 64) (by decide) (by omega)).mpr c), show 256 + nI j = nI (256 + j) from nI_add 256 j, show nI (256 + j) - 64 = nI (256 + j - 64) from zi_sub (b := 64) (by omega), show nI j - 64 = nI (j - 64) from zi_sub (b := 64) c, if_pos (zi_in (by omega) (show 256 + j - 64 < 320 by omega)), nI_clamp (by omega), ((zln_see V).2 (show j - 64 < 64 by omega)).2.1, Option.bind_some, show 256 + j - 64 = 256 + (j - 64) by omega]
      exact ⟨_, rfl, rfl, fun q => absurd q (by decide)⟩
    · rw [if_neg (mt (zc_le (k := 64) (by decide) (by omega)).mp c), if_neg (mt (zc_le (k := 64) (by decide) (by omega)).mp c), show 256 + nI j = nI (256 + j) from nI_add 256 j, if_pos (zi_in (by omega) (show 256 + j < 320 by omega)), nI_clamp (by omega), ((zln_see V).2 (show j < 64 by omega)).1, Option.bind_some]
      exact ⟨_, rfl, rfl, fun q => absurd q (by decide)⟩
/-- one bit more -/
theorem zln_bt {i n : Nat} {w : Int32} (hi : i < 8) (hn : n < 2 ^ i) (hw : zln_01 w) : ∃ n', n' < 2 ^ (i + 1) ∧ nI n ||| (w <<< (nI i &&& 31)) = nI n' ∧ nI n + (w <<< (nI i &&& 31)) = nI n' := by
  have key : ∀ i, i < 8 → ∀ n, n < 128 → n < 2 ^ i → (nI n ||| ((1 : Int32) <<< (nI i &&& 31)) = nI (n + 2 ^ i) ∧ nI n + ((1 : Int32) <<< (nI i &&& 31)) = nI (n + 2 ^ i)) ∧ (nI n ||| ((0 : Int32) <<< (nI i &&& 31)) = nI n ∧ nI n + ((0 : Int32) <<< (nI i &&& 31)) = nI n) := by decide +kernel
  have p7 : 2 ^ i ≤ 2 ^ 7 := Nat.pow_le_pow_right (by decide) (by omega)
  have := key i hi n (by omega) hn
  have e : 2 ^ (i + 1) = 2 ^ i * 2 := Nat.pow_succ 2 i
  rcases hw with z | z
  · subst z; exact ⟨n, by omega, this.2⟩
  · subst z; exact ⟨n + 2 ^ i, by omega, this.1⟩
end ZLT
end
section
/-! The line: the replies, on both sides. -/
abbrev zln_f1 (h h' : zs_H) : Prop := zfr [(66, 1)] [67] [] h h'
abbrev zln_f2 (g g' : zs_H) : Prop := zfr [(68, 88)] [117] [] g g'
section ZLR
variable {h g : zs_H} {fn a c : Nat}
theorem zln_bits {k70 : zs_H → Int32 → Int32 → Int32 → Int32 → Option zs_H} {p k : Nat} (V : zln_V h g) (hf : fn = 1 ∨ fn = 2) (hac : a + c ≤ zln_ts fn) (hpk : p + k ≤ c) (hk : k ≤ 8) (hk8 : k = 8 ∨ p + k = c) : ∀ (m i n N N' : Nat), i + m = k → m < N → m < N' → n < 2 ^ i → ∃ n', f_Ln_bitsFrom_L6 h N (nI fn) (nI (a + p)) (nI k) (nI n) (nI i) = some (nI n') ∧ f_Mo_reply_L83 k70 N' g (nI fn) (nI a) (nI c) (nI p) (nI n) (nI i) = f_Mo_reply_126 k70 g (nI fn) (nI a) (nI c) (nI p) (nI n') := by
  have ts : zln_ts fn ≤ 512 := by rcases hf with z | z <;> subst z <;> decide
  intro m
  induction m with
  | zero =>
    intro i n N N' hi hN hN' hn
    obtain ⟨N, rfl⟩ : ∃ z, N = z + 1 := ⟨N - 1, by omega⟩
    obtain ⟨N', rfl⟩ : ∃ z, N' = z + 1 := ⟨N' - 1, by omega⟩
    refine ⟨n, ?_, ?_⟩
    · show f_Ln_bitsFrom_6 h (f_Ln_bitsFrom_L6 h N) (nI fn) (nI (a + p)) (nI k) (nI n) (nI i) = _
      unfold f_Ln_bitsFrom_6
      rw [if_pos ((nI_leI (by omega) (by omega)).mpr (by omega))]
    · show f_Mo_reply_83 k70 (f_Mo_reply_L83 k70 N') g (nI fn) (nI a) (nI c) (nI p) (nI n) (nI i) = _
      unfold f_Mo_reply_83
      by_cases z : 8 ≤ i
      · rw [if_pos ((zc_le (k := 8) (by decide) (by omega)).mpr z)]
      · rw [if_neg (mt (zc_le (k := 8) (by decide) (by omega)).mp z), nI_add, if_pos ((nI_leI (by omega) (by omega)).mpr (by omega))]
  | succ m ih =>
    intro i n N N' hi hN hN' hn
    obtain ⟨N, rfl⟩ : ∃ z, N = z + 1 := ⟨N - 1, by omega⟩
    obtain ⟨N', rfl⟩ : ∃ z, N' = z + 1 := ⟨N' - 1, by omega⟩
    obtain ⟨w, w1, w2, w3⟩ := zln_tld (fn := fn) (j := a + p + i) V (by omega) (by omega)
    obtain ⟨n1, n2, n3, n4⟩ := zln_bt (i := i) (n := n) (w := w) (by omega) hn (w3 (by omega))
    obtain ⟨n', d1, d2⟩ := ih (i + 1) n1 N N' (by omega) (by omega) (by omega) n2
    refine ⟨n', ?_, ?_⟩
    · show f_Ln_bitsFrom_6 h (f_Ln_bitsFrom_L6 h N) (nI fn) (nI (a + p)) (nI k) (nI n) (nI i) = _
      unfold f_Ln_bitsFrom_6 f_Ln_bitsFrom_40
      rw [if_neg (mt (nI_leI (by omega) (by omega)).mp (by omega)), nI_add]
      rcases hf with z | z
      · subst z
        rw [if_pos (show (nI 1 : Int32) = 1 by decide), show f_Mc_seen h 2 (nI (a + p + i)) = some w from w1, Option.bind_some, n3, nI_1]
        exact d1
      · subst z
        rw [if_neg (show ¬ (nI 2 : Int32) = 1 by decide), show f_Ln_lamp h (nI (a + p + i)) = some w from w1, Option.bind_some, n3, nI_1]
        exact d1
    · show f_Mo_reply_83 k70 (f_Mo_reply_L83 k70 N') g (nI fn) (nI a) (nI c) (nI p) (nI n) (nI i) = _
      unfold f_Mo_reply_83
      rw [if_neg (mt (zc_le (k := 8) (by decide) (by omega)).mp (by omega)), nI_add p i, if_neg (mt (nI_leI (by omega) (by omega)).mp (by omega)), nI_add a p, nI_add (a + p) i, w2, Option.bind_some, n4, nI_1]
      exact d2
theorem zln_r1 (hf : fn = 1 ∨ fn = 2) (hac : a + c ≤ zln_ts fn) : ∀ (m p n N N' : Nat) (h g : zs_H), c ≤ p + 8 * m → m < N → m < N' → n + m ≤ 250 → zln_V h g → zln_O n h g → p ≤ c + 8 → ∃ h' g' n', f_Ln_reply_L36 N h (nI fn) (nI a) (nI c) (nI p) = some h' ∧ f_Mo_reply_L70 N' g (nI fn) (nI a) (nI c) (nI p) = f_Mo_reply_228 g' ∧ n' ≤ n + m ∧ zln_O n' h' g' ∧ zln_f1 h h' ∧ zln_f2 g g' := by
  have hz := zF_big
  have ts : zln_ts fn ≤ 512 := by rcases hf with z | z <;> subst z <;> decide
  intro m
  induction m with
  | zero =>
    intro p n N N' h g hp hN hN' hn V O hpc
    obtain ⟨N, rfl⟩ : ∃ z, N = z + 1 := ⟨N - 1, by omega⟩
    obtain ⟨N', rfl⟩ : ∃ z, N' = z + 1 := ⟨N' - 1, by omega⟩
    refine ⟨h, g, n, ?_, ?_, by omega, O, zfr_rfl, zfr_rfl⟩
    · show f_Ln_reply_36 (f_Ln_reply_L36 N) h (nI fn) (nI a) (nI c) (nI p) = _
      unfold f_Ln_reply_36
      rw [if_pos ((nI_leI (by omega) (by omega)).mpr (by omega))]
    · show f_Mo_reply_70 (f_Mo_reply_L70 N') g (nI fn) (nI a) (nI c) (nI p) = _
      unfold f_Mo_reply_70
      rw [if_pos ((nI_leI (by omega) (by omega)).mpr (by omega))]
  | succ m ih =>
    intro p n N N' h g hp hN hN' hn V O hpc
    obtain ⟨N, rfl⟩ : ∃ z, N = z + 1 := ⟨N - 1, by omega⟩
    obtain ⟨N', rfl⟩ : ∃ z, N' = z + 1 := ⟨N' - 1, by omega⟩
    by_cases z : c ≤ p
    · refine ⟨h, g, n, ?_, ?_, by omega, O, zfr_rfl, zfr_rfl⟩
      · show f_Ln_reply_36 (f_Ln_reply_L36 N) h (nI fn) (nI a) (nI c) (nI p) = _
        unfold f_Ln_reply_36
        rw [if_pos ((nI_leI (by omega) (by omega)).mpr z)]
      · show f_Mo_reply_70 (f_Mo_reply_L70 N') g (nI fn) (nI a) (nI c) (nI p) = _
        unfold f_Mo_reply_70
        rw [if_pos ((nI_leI (by omega) (by omega)).mpr z)]
    · obtain ⟨k, hk⟩ : ∃ k, k = if c - p < 8 then c - p else 8 := ⟨_, rfl⟩
      have hk1 : p + k ≤ c ∧ k ≤ 8 ∧ (k = 8 ∨ p + k = c) := by
        rw [hk]; split <;> omega
      have ek : zd_min 8 (nI c - nI p) = nI k := by
        rw [zi_sub (by omega), hk]
        unfold zd_min
        by_cases y : c - p < 8
        · rw [if_pos y, if_pos ((zc_tl (k := 8) (by decide) (by omega)).mpr y)]
        · rw [if_neg y, if_neg (mt (zc_tl (k := 8) (by decide) (by omega)).mp y)]; rfl
      obtain ⟨v, b1, b2⟩ := zln_bits (k70 := f_Mo_reply_L70 N') V hf hac hk1.1 hk1.2.1 hk1.2.2 k 0 0 zF zF (by omega) (by omega) (by omega) (by decide)
      obtain ⟨h1, g1, s1, s2, s3, s4, s5⟩ := zln_snd O (by omega) (nI v)
      obtain ⟨h2, g2, n2, d1, d2, d3, d4, d5, d6⟩ := ih (p + 8) (n + 1) N N' h1 g1 (by omega) (by omega) (by omega) (by omega) (zln_Vf V s4 s5) s3 (by omega)
      refine ⟨h2, g2, n2, ?_, ?_, by omega, d4, zfr_trans s4 d5, zfr_trans s5 d6⟩
      · show f_Ln_reply_36 (f_Ln_reply_L36 N) h (nI fn) (nI a) (nI c) (nI p) = _
        unfold f_Ln_reply_36 f_Ln_bitsFrom
        rw [if_neg (mt (nI_leI (by omega) (by omega)).mp z), ek, nI_add, show f_Ln_bitsFrom_L6 h zF (nI fn) (nI (a + p)) (nI k) 0 0 = some (nI v) from b1, Option.bind_some, s1, Option.bind_some, show nI p + 8 = nI (p + 8) from nI_add p 8]
        exact d1
      · show f_Mo_reply_70 (f_Mo_reply_L70 N') g (nI fn) (nI a) (nI c) (nI p) = _
        unfold f_Mo_reply_70
        rw [if_neg (mt (nI_leI (by omega) (by omega)).mp z), show f_Mo_reply_L83 (f_Mo_reply_L70 N') zF g (nI fn) (nI a) (nI c) (nI p) 0 0 = _ from b2]
        unfold f_Mo_reply_126
        rw [s2, Option.bind_some, show nI p + 8 = nI (p + 8) from nI_add p 8]
        exact d2
theorem zln_r3 (hf : fn = 3 ∨ fn = 4) (hac : a + c ≤ zln_ts fn) : ∀ (m i n N N' : Nat) (h g : zs_H), i + m = c → m < N → m < N' → n + 2 * m ≤ 253 → zln_V h g → zln_O n h g → ∃ h' g', f_Ln_reply_L88 N h (nI fn) (nI a) (nI c) (nI i) = some h' ∧ f_Mo_reply_L157 N' g (nI fn) (nI a) (nI c) (nI i) = f_Mo_reply_228 g' ∧ zln_O (n + 2 * m) h' g' ∧ zln_f1 h h' ∧ zln_f2 g g' := by
  have ts : zln_ts fn ≤ 512 := by rcases hf with z | z <;> subst z <;> decide
  intro m
  induction m with
  | zero =>
    intro i n N N' h g hi hN hN' hn V O
    obtain ⟨N, rfl⟩ : ∃ z, N = z + 1 := ⟨N - 1, by omega⟩
    obtain ⟨N', rfl⟩ : ∃ z, N' = z + 1 := ⟨N' - 1, by omega⟩
    refine ⟨h, g, ?_, ?_, O, zfr_rfl, zfr_rfl⟩
    · show f_Ln_reply_88 (f_Ln_reply_L88 N) h (nI fn) (nI a) (nI c) (nI i) = _
      unfold f_Ln_reply_88
      rw [if_pos ((nI_leI (by omega) (by omega)).mpr (by omega))]
    · show f_Mo_reply_157 (f_Mo_reply_L157 N') g (nI fn) (nI a) (nI c) (nI i) = _
      unfold f_Mo_reply_157
      rw [if_pos ((nI_leI (by omega) (by omega)).mpr (by omega))]
  | succ m ih =>
    intro i n N N' h g hi hN hN' hn V O
    obtain ⟨N, rfl⟩ : ∃ z, N = z + 1 := ⟨N - 1, by omega⟩
    obtain ⟨N', rfl⟩ : ∃ z, N' = z + 1 := ⟨N' - 1, by omega⟩
    obtain ⟨w, w1, w2, _⟩ := zln_tld (fn := fn) (j := a + i) V (by omega) (by omega)
    obtain ⟨h1, g1, s1, s2, s3, s4, s5⟩ := zln_snd O (by omega) (w >>> ((8 : Int32) &&& 31))
    have V1 := zln_Vf V s4 s5
    obtain ⟨w', w1', w2', _⟩ := zln_tld (fn := fn) (j := a + i) V1 (by omega) (by omega)
    have ew : w' = w := by
      have q : f_Mo_told g1 (nI fn) (nI (a + i)) = f_Mo_told g (nI fn) (nI (a + i)) := by
        unfold f_Mo_told
        rw [s5.2.1 114 (by decide), s5.2.1 118 (by decide), s5.2.1 119 (by decide)]
      rw [w2', w2] at q
      exact Option.some.inj q
    obtain ⟨h2, g2, r1, r2, r3, r4, r5⟩ := zln_snd s3 (by omega) w
    obtain ⟨h3, g3, d1, d2, d3, d4, d5⟩ := ih (i + 1) (n + 1 + 1) N N' h2 g2 (by omega) (by omega) (by omega) (by omega) (zln_Vf V1 r4 r5) r3
    refine ⟨h3, g3, ?_, ?_, by rw [show n + 2 * (m + 1) = n + 1 + 1 + 2 * m by omega]; exact d3, zfr_trans s4 (zfr_trans r4 d4), zfr_trans s5 (zfr_trans r5 d5)⟩
    · show f_Ln_reply_88 (f_Ln_reply_L88 N) h (nI fn) (nI a) (nI c) (nI i) = _
      unfold f_Ln_reply_88 f_Ln_reply_122
      rw [if_neg (mt (nI_leI (by omega) (by omega)).mp (by omega)), nI_add]
      rcases hf with z | z
      · subst z
        rw [if_pos (show (nI 3 : Int32) = 3 by decide), show f_Mc_seen h 5 (nI (a + i)) = some w from w1, Option.bind_some, s1, Option.bind_some, r1, Option.bind_some, nI_1]
        exact d1
      · subst z
        rw [if_neg (show ¬ (nI 4 : Int32) = 3 by decide), show f_Ln_meter h (nI (a + i)) = some w from w1, Option.bind_some, s1, Option.bind_some, r1, Option.bind_some, nI_1]
        exact d1
    · show f_Mo_reply_157 (f_Mo_reply_L157 N') g (nI fn) (nI a) (nI c) (nI i) = _
      unfold f_Mo_reply_157
      rw [if_neg (mt (nI_leI (by omega) (by omega)).mp (by omega)), nI_add, w2, Option.bind_some, s2, Option.bind_some, w2', ew, Option.bind_some, r2, Option.bind_some, nI_1]
      exact d2
theorem zln_r5 {b : Nat → Nat} {t : Nat} (t8 : 8 ≤ t) : ∀ (m i n N N' : Nat) (h g : zs_H), i + m = 4 → m < N → m < N' → n + m ≤ 250 → zln_B b t h g → zln_O n h g → ∃ h' g', f_Ln_reply_L151 N h (nI i) = some h' ∧ f_Mo_reply_L205 N' g (nI (2 + i)) = f_Mo_reply_228 g' ∧ zln_O (n + m) h' g' ∧ zln_f1 h h' ∧ zln_f2 g g' := by
  intro m
  induction m with
  | zero =>
    intro i n N N' h g hi hN hN' hn B O
    obtain ⟨N, rfl⟩ : ∃ z, N = z + 1 := ⟨N - 1, by omega⟩
    obtain ⟨N', rfl⟩ : ∃ z, N' = z + 1 := ⟨N' - 1, by omega⟩
    refine ⟨h, g, ?_, ?_, O, zfr_rfl, zfr_rfl⟩
    · show f_Ln_reply_151 (f_Ln_reply_L151 N) h (nI i) = _
      unfold f_Ln_reply_151
      rw [if_pos ((zc_le (k := 4) (by decide) (by omega)).mpr (by omega))]
    · show f_Mo_reply_205 (f_Mo_reply_L205 N') g (nI (2 + i)) = _
      unfold f_Mo_reply_205
      rw [if_pos ((zc_le (k := 6) (by decide) (by omega)).mpr (by omega))]
  | succ m ih =>
    intro i n N N' h g hi hN hN' hn B O
    obtain ⟨N, rfl⟩ : ∃ z, N = z + 1 := ⟨N - 1, by omega⟩
    obtain ⟨N', rfl⟩ : ∃ z, N' = z + 1 := ⟨N' - 1, by omega⟩
    obtain ⟨h1, g1, s1, s2, s3, s4, s5⟩ := zln_snd O (by omega) (nI (b (2 + i)))
    have B1 := zln_Bf B (zfr_w s4 (by decide) (by decide) (by decide)) (zfr_w s5 (by decide) (by decide) (by decide))
    obtain ⟨h2, g2, d1, d2, d3, d4, d5⟩ := ih (i + 1) (n + 1) N N' h1 g1 (by omega) (by omega) (by omega) (by omega) B1 s3
    refine ⟨h2, g2, ?_, ?_, by rw [show n + (m + 1) = n + 1 + m by omega]; exact d3, zfr_trans s4 d4, zfr_trans s5 d5⟩
    · show f_Ln_reply_151 (f_Ln_reply_L151 N) h (nI i) = _
      unfold f_Ln_reply_151
      rw [if_neg (mt (zc_le (k := 4) (by decide) (by omega)).mp (by omega)), zln_dat B (by omega), Option.bind_some, s1, Option.bind_some, nI_1]
      exact d1
    · show f_Mo_reply_205 (f_Mo_reply_L205 N') g (nI (2 + i)) = _
      unfold f_Mo_reply_205
      rw [if_neg (mt (zc_le (k := 6) (by decide) (by omega)).mp (by omega)), zln_hrd B (by omega), Option.bind_some, s2, Option.bind_some, nI_1]
      exact d2
/-- the check sum at a reply's end -/
theorem zln_end {n : Nat} (O : zln_O n h g) (hn : n ≤ 254) : ∃ h' g', f_Ln_answer_c1_176 h = some (nI (n + 2), h') ∧ f_Mo_reply_228 g = some g' ∧ zln_O (n + 2) h' g' ∧ zln_f1 h h' ∧ zln_f2 g g' := by
  have hz := zF_big
  obtain ⟨o1, o2, o3, o4⟩ := id O
  obtain ⟨b, hb⟩ : ∃ b : Nat → Nat, b = fun i => ((h.2.1 67) i).toBitVec.toNat % 256 := ⟨_, rfl⟩
  have b256 : ∀ i, b i < 256 := fun i => by rw [hb]; exact Nat.mod_lt _ (by decide)
  have bC : ∀ i, i < n → (h.2.1 67) i &&& 255 = nI (b i) := fun i _ => by rw [hb]; exact zln_255 _
  have bM : ∀ i, i < n → (g.2.1 117) i = nI (b i) := fun i hi => (o4 i hi).symm.trans (bC i hi)
  have crC : f_Ln_checkSum_c67 h (nI n) = some (nI (zln_c b n)) := zln_O5 (by omega) b256 bC n 0 zF (by omega) (by omega)
  obtain ⟨h1, g1, s1, s2, s3, s4, s5⟩ := zln_snd O (by omega) (nI (zln_c b n))
  obtain ⟨h2, g2, r1, r2, r3, r4, r5⟩ := zln_snd s3 (by omega) (nI (zln_c b n) >>> ((8 : Int32) &&& 31))
  have crM : ∀ (m i N : Nat), i + m = n → m < N → f_Mo_reply_L236 N g (nI (zln_c b i)) (nI i) = some g2 := by
    intro m
    induction m with
    | zero =>
      intro i N hi hN
      obtain ⟨N, rfl⟩ : ∃ z, N = z + 1 := ⟨N - 1, by omega⟩
      show f_Mo_reply_236 (f_Mo_reply_L236 N) g (nI (zln_c b i)) (nI i) = _
      unfold f_Mo_reply_236
      have e : i = n := hi
      subst e
      rw [o3, if_pos ((nI_leI (by omega) (by omega)).mpr (Nat.le_refl _)), s2, Option.bind_some, r2, Option.bind_some]
    | succ m ih =>
      intro i N hi hN
      obtain ⟨N, rfl⟩ : ∃ z, N = z + 1 := ⟨N - 1, by omega⟩
      show f_Mo_reply_236 (f_Mo_reply_L236 N) g (nI (zln_c b i)) (nI i) = _
      unfold f_Mo_reply_236
      rw [o3, if_neg (mt (nI_leI (by omega) (by omega)).mp (by omega)), if_pos (zi_in (by omega) (show i < 300 by omega)), nI_clamp (by omega), bM i (by omega), zln_sum (zln_cl b256 i) (b256 i), Option.bind_some, nI_1]
      exact ih (i + 1) N (by omega) (by omega)
  refine ⟨h2, g2, ?_, crM n 0 zF (by omega) (by omega), r3, zfr_trans s4 r4, zfr_trans s5 r5⟩
  unfold f_Ln_answer_c1_176 f_Ln_answer_c1_204
  rw [o2, crC, Option.bind_some, s1, Option.bind_some, r1, Option.bind_some, r3.2.1]
end ZLR
end
section
/-! frame, on both sides. -/
section ZLF
variable {h g h' g' : zs_H} {t n : Nat}
theorem yO_ln0 (R : yO t h g) : yO 0 (zs_uF (zs_uF h 0 1 0) 66 1 0) (zs_uF (zs_uF g 68 78 0) 68 88 0) := by
  obtain ⟨H, N, io, c, s, o, D⟩ := R
  refine ⟨⟨⟨rfl, rfl, by decide⟩, H.2.1, fun i hi => absurd hi (Nat.not_lt_zero i)⟩, N, io, c, s, ⟨0, by decide, rfl, rfl, fun i hi => absurd hi (Nat.not_lt_zero i)⟩, yO_Df D ?_ ?_⟩
  · exact zfr_F (by decide) (zfr_F (by decide) zfr_rfl)
  · exact zfr_F (by decide) (zfr_F (by decide) zfr_rfl)
theorem yO_ln2 {x : Int32} (R : yO t h g) : yO t (zs_uF (zs_uF h 66 4 1) 66 5 x) g := by
  obtain ⟨H, N, io, c, s, o, D⟩ := R
  refine ⟨H, N, io, c, s, o, yO_Df D ?_ zfr_rfl⟩
  exact zfr_F (by decide) (zfr_F (by decide) zfr_rfl)
theorem yO_snd (R : yO t h g) (f1 : zln_f1 h h') (f2 : zln_f2 g g') (O : zln_O n h' g') : yO t h' g' := by
  obtain ⟨⟨⟨t1, t2, t3⟩, t4, t5⟩, N, io, c, ⟨s1, s2⟩, _, D⟩ := R
  have F1 : zfr yO_F1 yO_M1 [] h h' := zfr_w f1 (by decide) (by decide) (by decide)
  have F2 : zfr yO_F2 yO_M2 [] g g' := zfr_w f2 (by decide) (by decide) (by decide)
  refine ⟨⟨⟨(f1.1 _ _ (by decide)).trans t1, (f2.1 _ _ (by decide)).trans t2, t3⟩, fun i => by rw [f1.2.1 _ (by decide)]; exact t4 i, fun i hi => by rw [f1.2.1 _ (by decide), f2.2.1 _ (by decide)]; exact t5 i hi⟩, yO_Nf N F1 F2, fun i hi => ?_, yO_cf c F1 F2, ⟨?_, ?_⟩, ⟨n, O⟩, yO_Df D (zfr_w f1 (by decide) (by decide) (by decide)) (zfr_w f2 (by decide) (by decide) (by decide))⟩
  · rw [f1.2.1 _ (by decide), f1.2.1 _ (by decide), f1.2.1 _ (by decide), f2.2.1 _ (by decide), f2.2.1 _ (by decide), f2.2.1 _ (by decide)]
    exact io i hi
  · exact (f1.1 _ _ (by decide)).trans (s1.trans (f2.1 _ _ (by decide)).symm)
  · exact (f1.1 _ _ (by decide)).trans (s2.trans (f2.1 _ _ (by decide)).symm)
theorem zln_bf (q : zln_b g) (f2 : zln_f2 g g') : zln_b g' := fun i hi => by
  rw [f2.2.1 _ (by decide), f2.2.1 _ (by decide), f2.2.1 _ (by decide)]
  exact q i hi
variable {b : Nat → Nat}
theorem zln_Bs (B : zln_B b t h g) (f1 : zln_f1 h h') (f2 : zln_f2 g g') : zln_B b t h' g' := zln_Bf B (zfr_w f1 (by decide) (by decide) (by decide)) (zfr_w f2 (by decide) (by decide) (by decide))
/-- a reply that refuses nothing -/
theorem zln_rp (B : zln_B b t h g) (G : zln_G b t) (V : b 1 ≤ 4 → zln_V h g) (O : zln_O 1 h g) : ∃ n h' g', ((f_Ln_reply h (nI (b 1))).bind fun h10 => f_Ln_answer_c1_176 h10) = some (nI n, h') ∧ f_Mo_reply_22 g (nI (b 1)) 0 (nI (b 1)) = some g' ∧ zln_O n h' g' ∧ zln_f1 h h' ∧ zln_f2 g g' := by
  have hz := zF_big
  obtain ⟨G1, G2, G3, G4, G5⟩ := G
  have ht := B.1
  have t8 : 8 ≤ t := by unfold zln_is at G1; omega
  have e0 : f_Ln_number h 0 = some (nI (zln_v b 0)) := zln_nb B (i := 0) (by omega)
  have e2 : f_Ln_number h 2 = some (nI (zln_v b 2)) := zln_nb B (i := 2) (by omega)
  obtain ⟨h1, g1, s1, s2, s3, s4, s5⟩ := zln_snd O (by decide) (nI (b 1))
  have B1 := zln_Bs B s4 s5
  have m0 : f_Mo_dataTwo g1 0 = some (nI (zln_v b 0)) := zln_two B1 (i := 0) (by omega)
  have m2 : f_Mo_dataTwo g1 2 = some (nI (zln_v b 2)) := zln_two B1 (i := 2) (by omega)
  have hc := zln_vl B 2
  unfold f_Ln_reply f_Mo_reply_22
  rw [e0, Option.bind_some, e2, Option.bind_some, s1, Option.bind_some, s2, Option.bind_some, m0, Option.bind_some, m2, Option.bind_some, if_pos (show (0 : Int32) ≤ 0 by decide)]
  generalize zln_v b 0 = a at G5 e0 m0 ⊢
  generalize zln_v b 2 = c at hc G4 G5 e2 m2 ⊢
  generalize b 1 = f at G1 G2 G3 G4 G5 V s1 s2 ⊢
  have f17 : f < 17 := by unfold zln_is at G1; omega
  by_cases c2 : 2 < f
  · rw [if_pos ((zc_lt (k := 2) (by decide) (by omega)).mpr c2), if_pos ((zc_le (k := 3) (by decide) (by omega)).mpr (by omega))]
    by_cases c4 : 4 < f
    · rw [if_pos ((zc_lt (k := 4) (by decide) (by omega)).mpr c4), if_pos ((zc_le (k := 5) (by decide) (by omega)).mpr (by omega))]
      obtain ⟨h2, g2, r1, r2, r3, r4, r5⟩ := zln_r5 t8 4 0 2 zF zF h1 g1 (by omega) (by omega) (by omega) (by omega) B1 s3
      obtain ⟨h3, g3, q1, q2, q3, q4, q5⟩ := zln_end r3 (by omega)
      refine ⟨_, h3, g3, ?_, ?_, q3, zfr_trans s4 (zfr_trans r4 q4), zfr_trans s5 (zfr_trans r5 q5)⟩
      · rw [show f_Ln_reply_L151 zF h1 0 = some h2 from r1, Option.bind_some]; exact q1
      · exact Eq.trans r2 q2
    · have hf : f = 3 ∨ f = 4 := by omega
      have c125 : c ≤ 125 := by
        rcases hf with z | z <;> subst z
        · exact (of_decide_eq_true (show decide (1 ≤ c ∧ c ≤ 125) = true from G4)).2
        · exact (of_decide_eq_true (show decide (1 ≤ c ∧ c ≤ 125) = true from G4)).2
      rw [if_neg (mt (zc_lt (k := 4) (by decide) (by omega)).mp c4), if_neg (mt (zc_le (k := 5) (by decide) (by omega)).mp (by omega))]
      obtain ⟨h2, g2, r1, r2, r3, r4, r5⟩ := zln_snd s3 (by decide) (2 * nI c)
      have V2 := zln_Vf (zln_Vf (V (by omega)) s4 s5) r4 r5
      obtain ⟨h3, g3, u1, u2, u3, u4, u5⟩ := zln_r3 (a := a) (c := c) hf (by rw [if_neg (by omega)] at G5; exact G5) c 0 3 zF zF h2 g2 (by omega) (by omega) (by omega) (by omega) V2 r3
      obtain ⟨h4, g4, q1, q2, q3, q4, q5⟩ := zln_end u3 (by omega)
      refine ⟨_, h4, g4, ?_, ?_, q3, zfr_trans s4 (zfr_trans r4 (zfr_trans u4 q4)), zfr_trans s5 (zfr_trans r5 (zfr_trans u5 q5))⟩
      · rw [r1, Option.bind_some, show f_Ln_reply_L88 zF h2 (nI f) (nI a) (nI c) 0 = some h3 from u1, Option.bind_some]; exact q1
      · rw [r2, Option.bind_some]; exact Eq.trans u2 q2
  · have hf : f = 1 ∨ f = 2 := by unfold zln_is at G1; omega
    have ts : zln_ts f ≤ 512 := by rcases hf with z | z <;> subst z <;> decide
    rw [if_neg (mt (zc_lt (k := 2) (by decide) (by omega)).mp c2), if_neg (mt (zc_le (k := 3) (by decide) (by omega)).mp (by omega))]
    obtain ⟨h2, g2, r1, r2, r3, r4, r5⟩ := zln_snd s3 (by decide) ((nI c + 7) / 8)
    have V2 := zln_Vf (zln_Vf (V (by omega)) s4 s5) r4 r5
    have G5' : a + c ≤ zln_ts f := by rw [if_neg (by omega)] at G5; exact G5
    obtain ⟨h3, g3, n3, u1, u2, u0, u3, u4, u5⟩ := zln_r1 (a := a) (c := c) hf G5' 64 0 3 zF zF h2 g2 (by omega) (by omega) (by omega) (by omega) V2 r3 (by omega)
    obtain ⟨h4, g4, q1, q2, q3, q4, q5⟩ := zln_end u3 (by omega)
    refine ⟨_, h4, g4, ?_, ?_, q3, zfr_trans s4 (zfr_trans r4 (zfr_trans u4 q4)), zfr_trans s5 (zfr_trans r5 (zfr_trans u5 q5))⟩
    · rw [r1, Option.bind_some, show f_Ln_reply_L36 zF h2 (nI f) (nI a) (nI c) 0 = some h3 from u1, Option.bind_some]; exact q1
    · rw [r2, Option.bind_some]; exact Eq.trans u2 q2
/-- a reply that refuses -/
theorem zln_rr {r : Nat} {x : Int32} (hr : 0 < r ∧ r < 4) (O : zln_O 1 h g) : ∃ n h' g', ((f_Ln_send h (x ||| 128)).bind fun h6 => ((f_Ln_send h6 (nI r)).bind fun h8 => f_Ln_answer_c1_176 h8)) = some (nI n, h') ∧ f_Mo_reply_22 g x (nI r) (x ||| 128) = some g' ∧ zln_O n h' g' ∧ zln_f1 h h' ∧ zln_f2 g g' := by
  obtain ⟨h1, g1, s1, s2, s3, s4, s5⟩ := zln_snd O (by decide) (x ||| 128)
  obtain ⟨h2, g2, r1, r2, r3, r4, r5⟩ := zln_snd s3 (by decide) (nI r)
  obtain ⟨h3, g3, q1, q2, q3, q4, q5⟩ := zln_end r3 (by decide)
  have T : ∀ i : Nat, i < 10 → ∃ v, f_Mo_dataTwo g1 (nI i) = some v := fun i hi => by
    unfold f_Mo_dataTwo f_Mo_heard
    rw [show 2 + nI i = nI (2 + i) from nI_add 2 i, show 3 + nI i = nI (3 + i) from nI_add 3 i, if_pos (zi_in (by omega) (show 2 + i < 16384 by omega)), if_pos (zi_in (by omega) (show 3 + i < 16384 by omega)), Option.bind_some, Option.bind_some]
    exact ⟨_, rfl⟩
  obtain ⟨v0, e0⟩ := T 0 (by decide)
  obtain ⟨v2, e2⟩ := T 2 (by decide)
  refine ⟨_, h3, g3, ?_, ?_, q3, zfr_trans s4 (zfr_trans r4 q4), zfr_trans s5 (zfr_trans r5 q5)⟩
  · rw [s1, Option.bind_some, r1, Option.bind_some]; exact q1
  · unfold f_Mo_reply_22
    rw [s2, Option.bind_some, show f_Mo_dataTwo g1 0 = some v0 from e0, Option.bind_some, show f_Mo_dataTwo g1 2 = some v2 from e2, Option.bind_some, if_neg (mt (zc_el (k := 0) (by decide) (by omega)).mp (by omega)), r2, Option.bind_some]
    exact q2
end ZLF
end
section
/-! frame, on both sides: the end. -/
section ZLH
variable {h g h' g' : zs_H} {t n : Nat} {b : Nat → Nat}
theorem zln_ans (B : zln_B b t h g) (O : zln_O 0 h g) (st : b 0 = 0 ∨ (g.1 68 83) = nI (b 0)) {r : Nat} (hr : r < 4) (G : r = 0 → zln_G b t) (V : r = 0 → b 1 ≤ 4 → zln_V h g) : ∃ n h' g', f_Ln_answer_c1_135 h (nI (b 0)) (nI (b 1)) (nI r) = some (nI n, h') ∧ f_Mo_frame_151 g (nI (b 1)) (nI r) = some (nI n, g') ∧ zln_O n h' g' ∧ zln_f1 h h' ∧ zln_f2 g g' := by
  have ht := B.1
  have hb := B.2.1 0
  have e0 : f_Mo_heard g 0 = some (nI (b 0)) := zln_hrd B (i := 0) (by omega)
  unfold f_Ln_answer_c1_135 f_Mo_frame_151
  rw [e0, Option.bind_some]
  by_cases z : b 0 = 0
  · rw [if_pos (show nI (b 0) = 0 by rw [z]; rfl), if_pos (show nI (b 0) ≤ 0 by rw [z]; decide)]
    unfold f_Ln_answer_c1_204 f_Mo_frame_167
    rw [O.2.1, O.2.2.1]
    exact ⟨0, h, g, rfl, rfl, O, zfr_rfl, zfr_rfl⟩
  · rw [if_neg (fun q => z ((zc_eq (k := 0) (by decide) (by omega)).mp q)), if_neg (mt (zc_el (k := 0) (by decide) (by omega)).mp (by omega))]
    obtain ⟨h1, g1, s1, s2, s3, s4, s5⟩ := zln_snd O (by decide) (nI (b 0))
    have sta : (g.1 68 83) = nI (b 0) := by rcases st with q | q; exact absurd q z; exact q
    unfold f_Mo_reply
    rw [s1, Option.bind_some, sta, s2, Option.bind_some]
    by_cases y : r = 0
    · subst y
      rw [if_pos (show nI 0 = 0 from rfl), if_pos (show nI 0 ≤ 0 by decide)]
      obtain ⟨n, h2, g2, q1, q2, q3, q4, q5⟩ := zln_rp (zln_Bs B s4 s5) (G rfl) (fun q => zln_Vf (V rfl q) s4 s5) s3
      rw [q1, show f_Mo_reply_22 g1 (nI (b 1)) (nI 0) (nI (b 1)) = some g2 from q2, Option.bind_some]
      unfold f_Mo_frame_167
      rw [q3.2.2.1]
      exact ⟨n, h2, g2, rfl, rfl, q3, zfr_trans s4 q4, zfr_trans s5 q5⟩
    · rw [if_neg (fun q => y ((zc_eq (k := 0) (by decide) (by omega)).mp q)), if_neg (mt (zc_el (k := 0) (by decide) (by omega)).mp (by omega))]
      obtain ⟨n, h2, g2, q1, q2, q3, q4, q5⟩ := zln_rr (r := r) (x := nI (b 1)) (by omega) s3
      rw [q1, q2, Option.bind_some]
      unfold f_Mo_frame_167
      rw [q3.2.2.1]
      exact ⟨n, h2, g2, rfl, rfl, q3, zfr_trans s4 q4, zfr_trans s5 q5⟩
/-- a request that is for this station -/
theorem zln_95 (R : yO 0 h g) (l : (h.1 58 3) = 1) (hs : (g.1 68 82) = 1) (Bt : zln_b g) (O : zln_O 0 h g) (ht : 4 ≤ t ∧ t ≤ 256) (hb : ∀ i, b i < 256) (hC : ∀ i, i < t → (h.2.1 1) i &&& 255 = nI (b i)) (hM : ∀ i, i < t → (g.2.1 116) i &&& 255 = nI (b i)) (st : b 0 = 0 ∨ (h.1 66 2) = nI (b 0)) : ∃ n h' g', f_Ln_answer_c1_95 h (nI t) (nI (b 0)) = some (nI n, h') ∧ ((f_Mo_heard g 1).bind fun v9 => ((f_Mo_refusal g v9 (nI t - 4)).bind fun v11 => (if v11 = 0 then ((f_Mo_obey g v9).bind fun h14 => f_Mo_frame_151 h14 v9 v11) else f_Mo_frame_151 g v9 v11))) = some (nI n, g') ∧ yO 0 h' g' ∧ zln_b g' ∧ zO_r h g h' g' := by
  obtain ⟨h2, hh2⟩ : ∃ h2, h2 = zs_uF (zs_uF h 66 4 1) 66 5 (nI (t - 4)) := ⟨_, rfl⟩
  have R2 : yO 0 h2 g := by rw [hh2]; exact yO_ln2 R
  have B : zln_B b t h2 g := by rw [hh2]; exact ⟨ht, hb, hC, hM, rfl, rfl⟩
  have z2 : zO_C h h2 := by rw [hh2]; exact zO_Cz (fs := [(66, 4), (66, 5)]) (ms := []) (ls := []) (zfr_F (by decide) (zfr_F (by decide) zfr_rfl))
  have O2 : zln_O 0 h2 g := by rw [hh2]; exact O
  have l2 : (h2.1 58 3) = 1 := by rw [hh2]; exact l
  have sg : b 0 = 0 ∨ (g.1 68 83) = nI (b 0) := by
    rcases st with q | q
    · exact .inl q
    · exact .inr (R.2.2.2.2.1.2.symm.trans q)
  obtain ⟨J, kk, kD⟩ := yO_k R2.2.2.2.2.2.2
  have K : zln_K J b t h2 g := ⟨B, R2.2.2.1, ⟨l2, hs⟩, kk⟩
  obtain ⟨r, r1, r2, r3, r4⟩ := zln_ref B
  have e4 : nI t - 4 = nI (t - 4) := zi_sub (b := 4) ht.1
  have e1 : f_Mo_heard g 1 = some (nI (b 1)) := zln_hrd B (i := 1) (by omega)
  unfold f_Ln_answer_c1_95
  rw [e4, ← hh2, hC 1 (by omega), r2, Option.bind_some, e1, Option.bind_some, r3, Option.bind_some]
  by_cases z : r = 0
  · rw [if_pos (show nI r = 0 by rw [z]; rfl), if_pos (show nI r = 0 by rw [z]; rfl)]
    obtain ⟨h3, g3, w1, w2, w3, w4, w5, w6, w7⟩ := zln_wr K (r4 z)
    have R3 : yO 0 h3 g3 := yO_mach R2 (zfr_w w3 (by decide) (by decide) (by decide)) (zfr_w w4 (by decide) (by decide) (by decide)) w5.2.1 (kD h3 g3 w3 w4 w5.2.2.2)
    have O3 : zln_O 0 h3 g3 := ⟨by decide, (w3.1 _ _ List.not_mem_nil).trans O2.2.1, (w4.1 _ _ List.not_mem_nil).trans O2.2.2.1, fun i hi => absurd hi (Nat.not_lt_zero i)⟩
    rw [w1, Option.bind_some, w2, Option.bind_some]
    obtain ⟨n, h4, g4, q1, q2, q3, q4, q5⟩ := zln_ans w5.1 O3 (by rw [w4.1 68 83 List.not_mem_nil]; exact sg) r1 r4 (fun _ _ => ⟨(w5.2.2.2 ((w3.1 _ _ List.not_mem_nil).trans l2)).1, w5.2.1, w6 Bt⟩)
    exact ⟨n, h4, g4, q1, q2, yO_snd R3 q4 q5 q3, zln_bf (w6 Bt) q5, zO_Ct z2 (zO_Ct (zO_Cz w3) (zO_Cz q4)), zO_Mt (zO_Mz w4) (zO_Mz q5)⟩
  · rw [if_neg (fun q => z ((zc_eq (k := 0) (by decide) (by omega)).mp q)), if_neg (fun q => z ((zc_eq (k := 0) (by decide) (by omega)).mp q))]
    obtain ⟨n, h4, g4, q1, q2, q3, q4, q5⟩ := zln_ans B O2 sg r1 r4 (fun q => absurd q z)
    exact ⟨n, h4, g4, q1, q2, yO_snd R2 q4 q5 q3, zln_bf Bt q5, zO_Ct z2 (zO_Cz q4), zO_Mz q5⟩
theorem zln_M37 (hn : 4 ≤ t ∧ t ≤ 256) (hb : ∀ i, b i < 256) (hM : ∀ i, i < t → (g.2.1 116) i &&& 255 = nI (b i)) : ∀ (m i N : Nat), i + m = t - 2 → m < N → f_Mo_frame_L37 N g (nI t) (nI (zln_c b i)) (nI i) = (if nI (b 0) = 0 then f_Mo_frame_80 g (nI t) (nI (zln_c b (t - 2))) else if nI (b 0) = (g.1 68 83) then f_Mo_frame_80 g (nI t) (nI (zln_c b (t - 2))) else f_Mo_frame_85 g (nI t) (nI (zln_c b (t - 2))) 0) := by
  have H : ∀ i, i < t → f_Mo_heard g (nI i) = some (nI (b i)) := fun i hi => by
    unfold f_Mo_heard
    rw [if_pos (zi_in (by omega) (show i < 16384 by omega)), nI_clamp (by omega), hM i hi]
  have e2 : nI t - 2 = nI (t - 2) := zi_sub (b := 2) (by omega)
  intro m
  induction m with
  | zero =>
    intro i N hi hN
    obtain ⟨N, rfl⟩ : ∃ z, N = z + 1 := ⟨N - 1, by omega⟩
    show f_Mo_frame_37 (f_Mo_frame_L37 N) g (nI t) (nI (zln_c b i)) (nI i) = _
    unfold f_Mo_frame_37
    have e : i = t - 2 := hi
    subst e
    rw [e2, if_pos ((nI_leI (by omega) (by omega)).mpr (Nat.le_refl _)), show f_Mo_heard g 0 = some (nI (b 0)) from H 0 (by omega), Option.bind_some, Option.bind_some]
  | succ m ih =>
    intro i N hi hN
    obtain ⟨N, rfl⟩ : ∃ z, N = z + 1 := ⟨N - 1, by omega⟩
    show f_Mo_frame_37 (f_Mo_frame_L37 N) g (nI t) (nI (zln_c b i)) (nI i) = _
    unfold f_Mo_frame_37
    rw [e2, if_neg (mt (nI_leI (by omega) (by omega)).mp (by omega)), H i (by omega), Option.bind_some, zln_sum (zln_cl hb i) (hb i), Option.bind_some, nI_1]
    exact ih (i + 1) N (by omega) (by omega)
theorem yO_bits (R : yO t h g) (hs : (g.1 68 82) = 1) : zln_b g := by
  rcases R.2.2.2.2.2.2 with ⟨d1, _⟩ | ⟨_, _, _, Z⟩
  · exact absurd (d1.symm.trans hs) (by decide)
  · obtain ⟨LC, LM, nb, F, X, Y, K, T, w, h0, g0, S, M⟩ := yO_ZS Z
    intro i hi
    have q := (R.2.2.1 i (by omega)).2 hi
    exact ⟨yJ_J7 S.2.2.1.1 M.2.1 (by omega), q.1, q.2.1⟩
theorem yO_frame (R : yO t h g) : ∃ v h' g', f_Pk_frame h = some (v, h') ∧ f_Mo_frame g = some (v, g') ∧ yO 0 h' g' ∧ ((g.1 68 82) = 1 → zln_b g') ∧ zO_r h g h' g' := by
  have Bt := fun q => yO_bits R q
  have hz := zF_big
  have R1 := yO_ln0 R
  obtain ⟨⟨⟨t1, t2, t3⟩, t4, t5⟩, _⟩ := id R
  obtain ⟨h1, hh1⟩ : ∃ h1, h1 = zs_uF (zs_uF h 0 1 0) 66 1 0 := ⟨_, rfl⟩
  obtain ⟨g1, hg1⟩ : ∃ g1, g1 = zs_uF (zs_uF g 68 78 0) 68 88 0 := ⟨_, rfl⟩
  rw [← hh1, ← hg1] at R1
  have y1 : zO_C h h1 := by rw [hh1]; exact zO_Cz (fs := [(0, 1), (66, 1)]) (ms := []) (ls := []) (zfr_F (by decide) (zfr_F (by decide) zfr_rfl))
  have y2 : zO_M g g1 := by rw [hg1]; exact zO_Mz (fs := [(68, 78), (68, 88)]) (ms := []) (ls := []) (zfr_F (by decide) (zfr_F (by decide) zfr_rfl))
  have nil : ∃ v h' g', some ((0 : Int32), h1) = some (v, h') ∧ some ((0 : Int32), g1) = some (v, g') ∧ yO 0 h' g' ∧ ((g.1 68 82) = 1 → zln_b g') ∧ zO_r h g h' g' := ⟨0, h1, g1, rfl, rfl, R1, fun q => by rw [hg1]; exact Bt q, y1, y2⟩
  have l1 : (h1.1 58 3) = (h.1 58 3) := by rw [hh1]; rfl
  have eM : f_Mo_frame g = (if (g.1 68 82) = 0 then some (0, g1) else if nI t < 4 then some (0, g1) else if nI t ≤ 256 then f_Mo_frame_L37 zF g1 (nI t) 65535 0 else some (0, g1)) := by
    unfold f_Mo_frame f_Mo_useTape
    rw [yL_B, t2, hg1]
    rfl
  have e54 : f_Ln_answer_c1_54 h1 (nI t) = some (0, h1) := by
    unfold f_Ln_answer_c1_54 f_Ln_answer_c1_55
    split
    · rfl
    · rw [if_pos (show (0 : Int32) = 0 from rfl)]
  obtain ⟨b, hbd⟩ : ∃ b : Nat → Nat, b = fun i => ((h.2.1 1) i).toBitVec.toNat % 256 := ⟨_, rfl⟩
  have hb : ∀ i, b i < 256 := fun i => by rw [hbd]; exact Nat.mod_lt _ (by decide)
  have hC : ∀ i, (h.2.1 1) i &&& 255 = nI (b i) := fun i => by rw [hbd]; exact zln_255 _
  have hC1 : ∀ i, i < t → (h1.2.1 1) i &&& 255 = nI (b i) := fun i _ => by rw [hh1]; exact hC i
  have hM1 : ∀ i, i < t → (g1.2.1 116) i &&& 255 = nI (b i) := fun i hi => by
    rw [hg1]
    show (g.2.1 116) i &&& 255 = _
    rw [t5 i hi]; exact hC i
  have eC : f_Pk_frame h = (if nI t < 4 then f_Ln_answer_c1_54 h1 (nI t) else if 256 < nI t then f_Ln_answer_c1_54 h1 (nI t) else ((f_Ln_checkSum_c1 h1 (nI t - 2)).bind fun v4 => (if zd_in (nI t - 2) 16384 then (if zd_in (nI t - 1) 16384 then (if v4 = ((((h.2.1 1) (nI t - 2).toNatClampNeg) &&& 255) + (256 * (((h.2.1 1) (nI t - 1).toNatClampNeg) &&& 255))) then f_Ln_answer_c1_55 h1 (nI t) 1 else f_Ln_answer_c1_54 h1 (nI t)) else none) else none))) := by
    unfold f_Pk_frame f_Ln_answer_c1
    rw [t1, hh1]
    have id1 : ∀ o : Option (Int32 × zs_H), zd_B o (fun v2 h3 => some (v2, h3)) = o := fun o => by
      cases o with
      | none => rfl
      | some p => rfl
    rw [id1]
    rfl
  by_cases c4 : t < 4
  · rw [eC, eM, if_pos ((zc_tl (k := 4) (by decide) (by omega)).mpr c4), if_pos ((zc_tl (k := 4) (by decide) (by omega)).mpr c4), e54, ite_self]
    exact nil
  rw [if_neg (mt (zc_tl (k := 4) (by decide) (by omega)).mp c4)] at eC eM
  by_cases c256 : 256 < t
  · rw [eC, eM, if_pos ((zc_lt (k := 256) (by decide) (by omega)).mpr c256), if_neg (mt (zc_el (k := 256) (by decide) (by omega)).mp (by omega)), e54, ite_self]
    exact nil
  have crC : f_Ln_checkSum_c1 h1 (nI (t - 2)) = some (nI (zln_c b (t - 2))) := zln_C5 (by omega) hb (fun i hi => hC1 i (by omega)) (t - 2) 0 zF (by omega) (by omega)
  rw [if_neg (mt (zc_lt (k := 256) (by decide) (by omega)).mp c256), show nI t - 2 = nI (t - 2) from zi_sub (b := 2) (by omega), show nI t - 1 = nI (t - 1) from zi_sub (b := 1) (by omega), crC, Option.bind_some, if_pos (zi_in (by omega) (show t - 2 < 16384 by omega)), if_pos (zi_in (by omega) (show t - 1 < 16384 by omega)), nI_clamp (by omega), nI_clamp (by omega), hC, hC] at eC
  rw [if_pos ((zc_el (k := 256) (by decide) (by omega)).mpr (by omega))] at eM
  have hcl := zln_cl hb (t - 2)
  have h2 := hb (t - 2)
  have h1' := hb (t - 1)
  rw [show 256 * nI (b (t - 1)) = nI (256 * b (t - 1)) from zi_mul 256 _, nI_add] at eC
  rcases R.2.2.2.2.2.2 with ⟨d1, u⟩ | ⟨d1, d2, _⟩
  · have e55 : f_Ln_answer_c1_55 h1 (nI t) 1 = some (0, h1) := by
      unfold f_Ln_answer_c1_55
      rw [l1, u.1, if_pos (show (0 : Int32) = 0 from rfl)]
    rw [e55, e54, ite_self] at eC
    rw [if_pos d1] at eM
    rw [eC, eM]
    exact nil
  rw [d2, if_neg (show ¬ (1 : Int32) = 0 by decide)] at eM
  have L := zln_M37 (g := g1) (b := b) (t := t) (by omega) hb hM1 (t - 2) 0 zF (by omega) (by omega)
  rw [show f_Mo_frame_L37 zF g1 (nI t) 65535 0 = _ from L] at eM
  have hd1 : f_Mo_heard g1 (nI (t - 2)) = some (nI (b (t - 2))) := by
    unfold f_Mo_heard
    rw [if_pos (zi_in (by omega) (show t - 2 < 16384 by omega)), nI_clamp (by omega), hM1 _ (by omega)]
  have hd2 : f_Mo_heard g1 (nI (t - 1)) = some (nI (b (t - 1))) := by
    unfold f_Mo_heard
    rw [if_pos (zi_in (by omega) (show t - 1 < 16384 by omega)), nI_clamp (by omega), hM1 _ (by omega)]
  generalize hcc : zln_c b (t - 2) = cc at eC eM hcl
  have e85 : ∀ y : Int32, f_Mo_frame_85 g1 (nI t) (nI cc) y = if cc = b (t - 2) + 256 * b (t - 1) then (if y = 0 then some (0, g1) else ((f_Mo_heard g1 1).bind fun v9 => ((f_Mo_refusal g1 v9 (nI t - 4)).bind fun v11 => (if v11 = 0 then ((f_Mo_obey g1 v9).bind fun h14 => f_Mo_frame_151 h14 v9 v11) else f_Mo_frame_151 g1 v9 v11)))) else some (0, g1) := fun y => by
    unfold f_Mo_frame_85
    rw [show nI t - 2 = nI (t - 2) from zi_sub (b := 2) (by omega), show nI t - 1 = nI (t - 1) from zi_sub (b := 1) (by omega), hd1, Option.bind_some, hd2, Option.bind_some, show nI cc / 256 = nI (cc / 256) from zln_d (b := 256) (by omega) (by decide), show nI (cc / 256) * 256 = nI (cc / 256 * 256) from zi_mul _ 256, zi_sub (by omega)]
    by_cases q : cc = b (t - 2) + 256 * b (t - 1)
    · rw [if_pos q, if_pos (congrArg nI (show b (t - 2) = cc - cc / 256 * 256 by omega)), if_pos (congrArg nI (show b (t - 1) = cc / 256 by omega))]
    · rw [if_neg q]
      by_cases p : b (t - 2) = cc - cc / 256 * 256
      · rw [if_pos (congrArg nI p), if_neg (fun w => by have := (nI_eq (by omega) (by omega)).mp w; omega)]
      · rw [if_neg (fun w => p ((nI_eq (by omega) (by omega)).mp w))]
  unfold f_Mo_frame_80 at eM
  rw [e85, e85] at eM
  by_cases q : cc = b (t - 2) + 256 * b (t - 1)
  · rw [if_pos (congrArg nI q)] at eC
    rw [if_pos q, if_pos q, if_neg (show ¬ (1 : Int32) = 0 by decide), if_pos (show (0 : Int32) = 0 from rfl)] at eM
    unfold f_Ln_answer_c1_55 at eC
    rw [l1, d1, if_neg (show ¬ (1 : Int32) = 0 by decide), if_neg (show ¬ (1 : Int32) = 0 by decide), hC1 0 (by omega)] at eC
    have sE : (h1.1 66 2) = (g1.1 68 83) := R1.2.2.2.2.1.2
    have O1 : zln_O 0 h1 g1 := by rw [hh1, hg1]; exact ⟨by decide, rfl, rfl, fun i hi => absurd hi (Nat.not_lt_zero i)⟩
    have go : (b 0 = 0 ∨ (h1.1 66 2) = nI (b 0)) → _ := fun st => zln_95 (t := t) (b := b) R1 (l1.trans d1) (by rw [hg1]; exact d2) (by rw [hg1]; exact Bt d2) O1 (by omega) hb hC1 hM1 st
    by_cases z0 : nI (b 0) = 0
    · rw [if_pos z0] at eC eM
      obtain ⟨n, h', g', a1, a2, a3, a4, a5, a6⟩ := go (.inl ((zc_eq (k := 0) (by decide) (by have := hb 0; omega)).mp z0))
      exact ⟨nI n, h', g', eC.trans a1, eM.trans a2, a3, fun _ => a4, zO_Ct y1 a5, zO_Mt y2 a6⟩
    · rw [if_neg z0] at eC eM
      rw [sE] at eC
      by_cases zs : nI (b 0) = (g1.1 68 83)
      · rw [if_pos zs] at eC eM
        obtain ⟨n, h', g', a1, a2, a3, a4, a5, a6⟩ := go (.inr (sE.trans zs.symm))
        exact ⟨nI n, h', g', eC.trans a1, eM.trans a2, a3, fun _ => a4, zO_Ct y1 a5, zO_Mt y2 a6⟩
      · rw [if_neg zs] at eC eM
        rw [eC, eM]
        exact nil
  · rw [if_neg (fun w => q ((nI_eq (by omega) (by omega)).mp w)), e54] at eC
    rw [if_neg q, if_neg q, ite_self, ite_self] at eM
    rw [eC, eM]
    exact nil
end ZLH
end
section
/-! watch: the model's methods that make Strings, by hand (zp_row is what they say); names on a path. -/
section ZWT
variable {h g : zs_H} {T : Nat → Int32} {n a : Nat}
/-- the model has a path of n bytes T and stands at a -/
def zwt_P (T : Nat → Int32) (n a : Nat) (g : zs_H) : Prop := (n ≤ 10240 ∧ a ≤ n) ∧ (∀ i, zb_ok (T i)) ∧ (∀ i, i < n → (g.2.1 116) i = T i) ∧ (g.1 68 94) = nI n ∧ (g.1 68 93) = nI a
theorem zwt_g (H : zwt_P T n a g) {i : Nat} (hi : i < 16384) : f_Mo_tapeGreat g (nI i) = some (if i < n then f_Nm_great (T i &&& 255) else 0) := by
  obtain ⟨⟨h1, h2⟩, h3, h4, h5, h6⟩ := H
  unfold f_Mo_tapeGreat f_Mo_tapeGreat_22
  rw [h5]
  by_cases c : i < n
  · rw [if_neg (mt (nI_leI (by omega) (by omega)).mp (by omega)), if_pos (zi_in (by omega) hi), nI_clamp (by omega), h4 i c, if_pos c]
    unfold f_Nm_great
    split
    · rfl
    · split <;> rfl
  · rw [if_pos ((nI_leI (by omega) (by omega)).mpr (by omega)), if_neg c, if_pos (by decide)]
theorem zwt_pt (hT : ∀ i, zb_ok (T i)) {i : Nat} (hi : i < n) : (zl_pt T n i = true ↔ ¬ (f_Mo_isLetter (f_Nm_great (T i &&& 255)) = 0 ∧ f_Mo_isDigit (f_Nm_great (T i &&& 255)) = 0)) ∧ (zl_pt T n i = true ↔ ¬ f_Nm_isPart (T i) = 0) := by
  have key : ∀ k, k < 256 → ((f_Mo_isLetter (f_Nm_great (nI k)) = 0 ∧ f_Mo_isDigit (f_Nm_great (nI k)) = 0) ↔ f_Nm_isPart (nI k) = 0) := by decide +kernel
  obtain ⟨k, k1, k2, _⟩ := zl_byte (hT i)
  have e : zl_pt T n i = true ↔ ¬ f_Nm_isPart (T i &&& 255) = 0 := by
    unfold zl_pt
    rw [zl_bT hi, decide_eq_true_iff]
  refine ⟨?_, ?_⟩
  · rw [e, k2]
    exact not_congr (key k k1).symm
  · rw [e, zl_rawP (hT i)]
theorem zwt_C2 (hT : ∀ i, zb_ok ((h.2.1 1) i)) (hn : n ≤ 10240) : ∀ (m i N : Nat), i + m = n → m < N → f_Pk_nameEnd_L2 h N (nI n) (nI i) = some (nI (zl_run (zl_pt ((h.2.1 1)) n) m i)) := by
  intro m
  induction m with
  | zero =>
    intro i N hi hN
    obtain ⟨N, rfl⟩ : ∃ z, N = z + 1 := ⟨N - 1, by omega⟩
    show f_Pk_nameEnd_2 h (f_Pk_nameEnd_L2 h N) (nI n) (nI i) = _
    unfold f_Pk_nameEnd_2
    rw [if_pos ((nI_leI (by omega) (by omega)).mpr (by omega))]
    rfl
  | succ m ih =>
    intro i N hi hN
    obtain ⟨N, rfl⟩ : ∃ z, N = z + 1 := ⟨N - 1, by omega⟩
    show f_Pk_nameEnd_2 h (f_Pk_nameEnd_L2 h N) (nI n) (nI i) = _
    unfold f_Pk_nameEnd_2
    rw [if_neg (mt (nI_leI (by omega) (by omega)).mp (by omega)), if_pos (zi_in (by omega) (show i < 16384 by omega)), nI_clamp (by omega)]
    have p := (zwt_pt (n := n) hT (show i < n by omega)).2
    show _ = some (nI (if zl_pt ((h.2.1 1)) n i = true then zl_run (zl_pt ((h.2.1 1)) n) m (i + 1) else i))
    by_cases c : f_Nm_isPart ((h.2.1 1) i) = 0
    · rw [if_pos c, if_neg (fun q => p.mp q c)]
    · rw [if_neg c, if_pos (p.mpr c), nI_1]
      exact ih (i + 1) N (by omega) (by omega)
theorem zwt_ne (hT : ∀ i, zb_ok ((h.2.1 1) i)) (hn : n ≤ 10240) (ha : a ≤ n) : f_Pk_nameEnd h (nI a) (nI n) = some (nI (zl_ne ((h.2.1 1)) n a)) := by
  have hz := zF_big
  exact zwt_C2 hT hn (n - a) a zF (by omega) (by omega)
/-- a name on a path -/
def zwt_ok (T : Nat → Int32) (n a : Nat) : Prop := a < zl_ne T n a ∧ zl_ne T n a - a ≤ 32 ∧ f_Mo_isDigit (f_Nm_great (T a &&& 255)) = 0
theorem zwt_M8 (hn : n ≤ 10240) (ha : a ≤ n) (hT : ∀ i, zb_ok (T i)) : ∀ (m i N : Nat) (g : zs_H), i + m = n → m < N → a ≤ i → (∀ j, j < n → (g.2.1 116) j = T j) → (g.1 68 94) = nI n → (g.1 68 93) = nI i → (g.1 68 95) = nI a → zl_ne T n a = zl_run (zl_pt T n) m i → ∃ g', ((zwt_ok T n a ∧ f_Mo_readPathName_L8 N g = some (1, g')) ∨ (¬ zwt_ok T n a ∧ f_Mo_readPathName_L8 N g = some (0, g'))) ∧ zfr [(68, 93)] [] [] g g' ∧ (g'.1 68 93) = nI (zl_ne T n a) := by
  have stop : ∀ (i N : Nat) (g : zs_H), i ≤ n → a ≤ i → (∀ j, j < n → (g.2.1 116) j = T j) → (g.1 68 94) = nI n → (g.1 68 93) = nI i → (g.1 68 95) = nI a → zl_ne T n a = i → (i = n ∨ ¬ zl_pt T n i = true) → ∃ g', ((zwt_ok T n a ∧ f_Mo_readPathName_L8 (N + 1) g = some (1, g')) ∨ (¬ zwt_ok T n a ∧ f_Mo_readPathName_L8 (N + 1) g = some (0, g'))) ∧ zfr [(68, 93)] [] [] g g' ∧ (g'.1 68 93) = nI (zl_ne T n a) := by
    intro i N g hi hai ht hE hA hF he hp
    have P : zwt_P T n i g := ⟨⟨hn, hi⟩, hT, ht, hE, hA⟩
    have e0 : f_Mo_tapeGreat g (nI i) = some (if i < n then f_Nm_great (T i &&& 255) else 0) := zwt_g P (by omega)
    have ea : f_Mo_tapeGreat g (nI a) = some (if a < n then f_Nm_great (T a &&& 255) else 0) := zwt_g P (by omega)
    have l0 : f_Mo_isLetter (if i < n then f_Nm_great (T i &&& 255) else 0) = 0 ∧ f_Mo_isDigit (if i < n then f_Nm_great (T i &&& 255) else 0) = 0 := by
      by_cases c : i < n
      · rw [if_pos c]
        rcases hp with q | q
        · omega
        · exact Decidable.not_not.mp (mt (zwt_pt hT c).1.mpr q)
      · rw [if_neg c]; decide
    refine ⟨g, ?_, zfr_rfl, by rw [he]; exact hA⟩
    show (_ ∧ f_Mo_readPathName_8 (f_Mo_readPathName_L8 N) g = _) ∨ (_ ∧ f_Mo_readPathName_8 (f_Mo_readPathName_L8 N) g = _)
    unfold f_Mo_readPathName_8
    rw [hA, hF, e0, Option.bind_some, if_pos l0.1, Option.bind_some, if_pos l0.2]
    by_cases c1 : i ≤ a
    · rw [if_pos ((nI_leI (by omega) (by omega)).mpr c1)]
      exact .inr ⟨fun q => by have := q.1; omega, rfl⟩
    rw [if_neg (mt (nI_leI (by omega) (by omega)).mp c1), zi_sub hai]
    by_cases c2 : 32 < i - a
    · rw [if_pos ((zc_lt (k := 32) (by decide) (by omega)).mpr c2)]
      exact .inr ⟨fun q => by have := q.2.1; omega, rfl⟩
    rw [if_neg (mt (zc_lt (k := 32) (by decide) (by omega)).mp c2), ea, Option.bind_some, if_pos (show a < n by omega)]
    by_cases c3 : f_Mo_isDigit (f_Nm_great (T a &&& 255)) = 0
    · rw [if_pos c3]; exact .inl ⟨⟨by omega, by omega, c3⟩, rfl⟩
    · rw [if_neg c3]; exact .inr ⟨fun q => c3 q.2.2, rfl⟩
  intro m
  induction m with
  | zero =>
    intro i N g hi hN hai ht hE hA hF he
    obtain ⟨N, rfl⟩ : ∃ z, N = z + 1 := ⟨N - 1, by omega⟩
    exact stop i N g (by omega) hai ht hE hA hF he (.inl hi)
  | succ m ih =>
    intro i N g hi hN hai ht hE hA hF he
    obtain ⟨N, rfl⟩ : ∃ z, N = z + 1 := ⟨N - 1, by omega⟩
    by_cases c : zl_pt T n i = true
    · have he2 : zl_ne T n a = zl_run (zl_pt T n) m (i + 1) := he.trans (if_pos c)
      obtain ⟨g1, hg1⟩ : ∃ g1, g1 = zs_uF g 68 93 (nI (i + 1)) := ⟨_, rfl⟩
      obtain ⟨g', a1, a2, a3⟩ := ih (i + 1) N g1 (by omega) (by omega) (by omega) (by rw [hg1]; exact ht) (by rw [hg1]; exact hE) (by rw [hg1]; rfl) (by rw [hg1]; exact hF) he2
      have P : zwt_P T n i g := ⟨⟨hn, by omega⟩, hT, ht, hE, hA⟩
      have e0 : f_Mo_tapeGreat g (nI i) = some (f_Nm_great (T i &&& 255)) := (zwt_g P (by omega)).trans (by rw [if_pos (by omega)])
      have eq : f_Mo_readPathName_L8 (N + 1) g = f_Mo_readPathName_L8 N g1 := by
        show f_Mo_readPathName_8 (f_Mo_readPathName_L8 N) g = _
        unfold f_Mo_readPathName_8 f_Mo_readPathName_36
        rw [hA, e0, Option.bind_some, nI_1, ← hg1]
        have q := (zwt_pt (n := n) hT (show i < n by omega)).1.mp c
        by_cases c1 : f_Mo_isLetter (f_Nm_great (T i &&& 255)) = 0
        · rw [if_pos c1, Option.bind_some, if_neg (fun w => q ⟨c1, w⟩)]
        · rw [if_neg c1]
      rw [eq]
      exact ⟨g', a1, zfr_trans (by rw [hg1]; exact zfr_F (by decide) zfr_rfl) a2, a3⟩
    · have he2 : zl_ne T n a = i := he.trans (if_neg c)
      exact stop i N g (by omega) hai ht hE hA hF he2 (.inr c)
theorem zwt_rd (H : zwt_P T n a g) : ∃ g', ((zwt_ok T n a ∧ f_Mo_readPathName g = some (1, g')) ∨ (¬ zwt_ok T n a ∧ f_Mo_readPathName g = some (0, g'))) ∧ zfr [(68, 93), (68, 95)] [] [] g g' ∧ zwt_P T n (zl_ne T n a) g' ∧ (g'.1 68 95) = nI a := by
  have hz := zF_big
  obtain ⟨⟨h1, h2⟩, h3, h4, h5, h6⟩ := H
  obtain ⟨g1, hg1⟩ : ∃ g1, g1 = zs_uF g 68 95 (nI a) := ⟨_, rfl⟩
  obtain ⟨g', a1, a2, a3⟩ := zwt_M8 h1 h2 h3 (n - a) a zF g1 (by omega) (by omega) (Nat.le_refl _) (by rw [hg1]; exact h4) (by rw [hg1]; exact h5) (by rw [hg1]; exact h6) (by rw [hg1]; rfl) rfl
  have hl := zl_ne_le (T := T) (n := n) (a := a) h2
  refine ⟨g', ?_, zfr_trans (by rw [hg1]; exact zfr_F (by decide) zfr_rfl) (zfr_w a2 (by decide) (by decide) (by decide)), ⟨⟨h1, hl.2.1⟩, h3, fun i hi => by rw [a2.2.1 _ List.not_mem_nil, hg1]; exact h4 i hi, (a2.1 _ _ (by decide)).trans (by rw [hg1]; exact h5), a3⟩, (a2.1 _ _ (by decide)).trans (by rw [hg1]; rfl)⟩
  unfold f_Mo_readPathName
  rw [h6, ← hg1]
  exact a1
end ZWT
end
section
/-! watch: a name on a path is a variable of a block, on both sides. -/
section ZWJ
variable {h g : zs_H} {T : Nat → Int32} {n a e : Nat} {LC LM : List (List Int32)}
theorem zwt_n26z {k : Nat} {x3 : Int32} {N : Nat} (hk : k < 8192) : f_Mo_isPathName_L26 g (N + 1) (nI k) 0 x3 = some 0 := by
  show f_Mo_isPathName_26 g (f_Mo_isPathName_L26 g N) (nI k) 0 x3 = _
  unfold f_Mo_isPathName_26
  rw [if_pos (zi_in (by omega) hk), if_pos (show (0 : Int32) = 0 ∨ (0 : Int32) = 1 from .inl rfl), if_pos (show (0 : Int32) = 0 from rfl), ite_self]
theorem zwt_n26 {k len : Nat} (P : zwt_P T n e g) (hF : (g.1 68 95) = nI a) (hk : k < 8000) (hl : len ≤ 32) (hae : a + len = e) (hS : (g.2.1 71) k = nI len) : ∀ (m i N : Nat), i + m = len → m + 1 < N →
    ((∀ j, i ≤ j → j < len → (g.2.1 70) (32 * k + j) = zl_g T n (a + j)) → f_Mo_isPathName_L26 g N (nI k) 1 (nI i) = some 1) ∧ ((¬ ∀ j, i ≤ j → j < len → (g.2.1 70) (32 * k + j) = zl_g T n (a + j)) → f_Mo_isPathName_L26 g N (nI k) 1 (nI i) = some 0) := by
  have hn := P.1
  intro m
  induction m with
  | zero =>
    intro i N hi hN
    obtain ⟨N, rfl⟩ : ∃ z, N = z + 1 := ⟨N - 1, by omega⟩
    refine ⟨fun _ => ?_, fun q => absurd (fun j h1 h2 => by omega) q⟩
    show f_Mo_isPathName_26 g (f_Mo_isPathName_L26 g N) (nI k) 1 (nI i) = _
    unfold f_Mo_isPathName_26
    rw [if_pos (zi_in (by omega) (show k < 8192 by omega)), nI_clamp (by omega), hS, if_pos ((nI_leI (by omega) (by omega)).mpr (by omega)), if_pos (show (1 : Int32) = 0 ∨ (1 : Int32) = 1 from .inr rfl)]
  | succ m ih =>
    intro i N hi hN
    obtain ⟨N, rfl⟩ : ∃ z, N = z + 1 := ⟨N - 1, by omega⟩
    have e1 : f_Mo_tapeGreat g (nI a + nI i) = some (zl_g T n (a + i)) := by
      rw [nI_add, zwt_g P (by omega), if_pos (by omega)]
      unfold zl_g
      rw [zl_bT (by omega)]
    have e0 : f_Mo_isPathName_L26 g (N + 1) (nI k) 1 (nI i) = if (g.2.1 70) (32 * k + i) = zl_g T n (a + i) then f_Mo_isPathName_L26 g N (nI k) 1 (nI (i + 1)) else f_Mo_isPathName_L26 g N (nI k) 0 (nI (i + 1)) := by
      show f_Mo_isPathName_26 g (f_Mo_isPathName_L26 g N) (nI k) 1 (nI i) = _
      unfold f_Mo_isPathName_26 f_Mo_isPathName_69
      rw [if_pos (zi_in (by omega) (show k < 8192 by omega)), nI_clamp (n := k) (by omega), hS, if_neg (mt (nI_leI (by omega) (by omega)).mp (by omega)), if_neg (show ¬ (1 : Int32) = 0 by decide), show 32 * nI k = nI (32 * k) from zi_mul 32 k, nI_add (32 * k) i, if_pos (zi_in (by omega) (show 32 * k + i < 262144 by omega)), nI_clamp (by omega), hF, e1, Option.bind_some, nI_1]
    obtain ⟨N, rfl⟩ : ∃ z, N = z + 1 := ⟨N - 1, by omega⟩
    rw [e0]
    obtain ⟨i1, i2⟩ := ih (i + 1) (N + 1) (by omega) (by omega)
    by_cases c : (g.2.1 70) (32 * k + i) = zl_g T n (a + i)
    · rw [if_pos c]
      refine ⟨fun q => i1 (fun j h1 h2 => q j (by omega) h2), fun q => i2 (fun w => q (fun j h1 h2 => ?_))⟩
      by_cases ej : j = i
      · subst ej; exact c
      · exact w j (by omega) h2
    · rw [if_neg c, zwt_n26z (by omega)]
      exact ⟨fun q => absurd (q i (Nat.le_refl _) (by omega)) c, fun _ => rfl⟩
/-- whether a name is the one on the path -/
theorem zwt_isN {k : Nat} (P : zwt_P T n e g) (hF : (g.1 68 95) = nI a) (ha : a ≤ e) (HM : zn_M g LM) (hk : k < LM.length) : f_Mo_isPathName g (nI k) = some (if LM.getD k [] = zl_nm T n a e then 1 else 0) := by
  have hz := zF_big
  have hn := P.1
  obtain ⟨m1, m2, m3⟩ := HM
  obtain ⟨s1, s2, s3⟩ := m3 k hk
  obtain ⟨N, hN⟩ : ∃ N, zF = N + 1 := ⟨zF - 1, by omega⟩
  unfold f_Mo_isPathName f_Mo_isPathName_23
  rw [if_pos (zi_in (by omega) (show k < 8192 by omega)), nI_clamp (by omega), s1, P.2.2.2.2, hF, zi_sub ha]
  by_cases c : (LM.getD k []).length = e - a
  · rw [if_pos (congrArg nI c)]
    obtain ⟨i1, i2⟩ := zwt_n26 (len := (LM.getD k []).length) P hF (by omega) s2 (by omega) s1 (LM.getD k []).length 0 zF (by omega) (by omega)
    have iff : LM.getD k [] = zl_nm T n a e ↔ ∀ j, 0 ≤ j → j < (LM.getD k []).length → (g.2.1 70) (32 * k + j) = zl_g T n (a + j) := by
      constructor
      · intro q j _ hj
        rw [s3 j hj, q, zl_nm_at (by omega)]
      · intro q
        apply List.ext_getElem?
        intro j
        by_cases hj : j < e - a
        · have h1 : j < (LM.getD k []).length := by omega
          have h2 : j < (zl_nm T n a e).length := by rw [zl_nm_len]; exact hj
          have q1 := q j (Nat.zero_le _) h1
          rw [s3 j h1] at q1
          have q2 := zl_nm_at (T := T) (n := n) (a := a) (e := e) (i := j) hj
          rw [List.getD_eq_getElem?_getD, List.getElem?_eq_getElem h1] at q1
          rw [List.getD_eq_getElem?_getD, List.getElem?_eq_getElem h2] at q2
          rw [List.getElem?_eq_getElem h1, List.getElem?_eq_getElem h2]
          exact congrArg some (q1.trans q2.symm)
        · rw [List.getElem?_eq_none (by omega), List.getElem?_eq_none (by rw [zl_nm_len]; omega)]
    by_cases d : LM.getD k [] = zl_nm T n a e
    · rw [if_pos d]; exact i1 (iff.mp d)
    · rw [if_neg d]; exact i2 (mt iff.mpr d)
  · rw [if_neg (fun q => c ((nI_eq (by omega) (by omega)).mp q)), if_neg (fun q => c (by rw [q, zl_nm_len])), hN]
    exact zwt_n26z (by omega)
theorem zwt_scanM {b z : Nat} (hb : b < 2100) (he : z ≤ 8400) (hbd : (if nI b = (g.1 68 33) - 1 then (g.1 68 41) else (g.2.1 90) (b + 1)) = nI z) (p : Nat → Prop) (hp : ∀ j, j < z → (p j → f_Mo_isPathName g ((g.2.1 91) j) = some 1) ∧ (¬ p j → f_Mo_isPathName g ((g.2.1 91) j) = some 0)) : ∀ m v fuel, v + m = z → m < fuel →
    ((∀ j, v ≤ j → j < z → ¬ p j) → f_Mo_variableOnPath_L7 g fuel (nI b) (nI v) = some (-1)) ∧ (∀ j, v ≤ j → j < z → p j → (∀ i, v ≤ i → i < j → ¬ p i) → f_Mo_variableOnPath_L7 g fuel (nI b) (nI v) = some (nI j)) := by
  have eE : f_Mo_endOf g (nI b) = some (nI z) := by
    unfold f_Mo_endOf
    rw [← hbd, nI_1]
    by_cases c : nI b = (g.1 68 33) - 1
    · rw [if_pos c, if_pos c]
    · rw [if_neg c, if_neg c, if_pos (zi_in (by omega) (show b + 1 < 2101 by omega)), nI_clamp (by omega)]
  intro m
  induction m with
  | zero =>
    intro v fuel h1 h2
    obtain ⟨f, rfl⟩ : ∃ f, fuel = f + 1 := ⟨fuel - 1, by omega⟩
    refine ⟨fun _ => ?_, fun j h3 h4 => by omega⟩
    show f_Mo_variableOnPath_7 g (f_Mo_variableOnPath_L7 g f) (nI b) (nI v) = _
    unfold f_Mo_variableOnPath_7
    rw [eE, Option.bind_some, if_pos ((nI_leI (by omega) (by omega)).mpr (by omega))]
  | succ m ih =>
    intro v fuel h1 h2
    obtain ⟨f, rfl⟩ : ∃ f, fuel = f + 1 := ⟨fuel - 1, by omega⟩
    have hi := ih (v + 1) f (by omega) (by omega)
    have e0 : ∀ w : Int32, f_Mo_isPathName g ((g.2.1 91) v) = some w → f_Mo_variableOnPath_L7 g (f + 1) (nI b) (nI v) = if w = 0 then f_Mo_variableOnPath_L7 g f (nI b) (nI (v + 1)) else some (nI v) := fun w ew => by
      show f_Mo_variableOnPath_7 g (f_Mo_variableOnPath_L7 g f) (nI b) (nI v) = _
      unfold f_Mo_variableOnPath_7
      rw [eE, Option.bind_some, if_neg (mt (nI_leI (by omega) (by omega)).mp (by omega)), if_pos (zi_in (by omega) (show v < 8400 by omega)), nI_clamp (by omega), ew, Option.bind_some, nI_1]
    obtain ⟨p1, p2⟩ := hp v (by omega)
    refine ⟨fun q => ?_, fun j h3 h4 h5 h6 => ?_⟩
    · rw [e0 0 (p2 (q v (by omega) (by omega))), if_pos (show (0 : Int32) = 0 from rfl)]
      exact hi.1 fun j h3 h4 => q j (by omega) h4
    · by_cases ej : j = v
      · subst ej; rw [e0 1 (p1 h5), if_neg (show ¬ (1 : Int32) = 0 by decide)]
      · rw [e0 0 (p2 (h6 v (by omega) (by omega))), if_pos (show (0 : Int32) = 0 from rfl)]
        exact hi.2 j (by omega) h4 h5 fun i h7 h8 => h6 i (by omega) h8
end ZWJ
end
section
/-! watch: a name on a path, looked up in a block of the text, on both sides. -/
section ZWK
variable {h g : zs_H} {T : Nat → Int32} {n a : Nat} {LC LM : List (List Int32)} {nb b : Nat} {F : Nat → Nat}
/-- the tables of a loaded text, as watch sees them -/
def zwt_Q (LC LM : List (List Int32)) (nb : Nat) (F : Nat → Nat) (h g : zs_H) : Prop := (LC.Nodup ∧ LC.length < 6000 ∧ zwt_ld LC ∧ zn_C h LC ∧ zn_M g LM) ∧ (nb ≤ 568 ∧ F nb ≤ 5900 ∧ ∀ b, b < nb → F b ≤ F (b + 1) ∧ F (b + 1) ≤ F nb) ∧ (∀ b, b < nb → (h.2.1 23) (9 + b) = nI (32 + F b) ∧ (g.2.1 90) b = nI (F b) ∧ (h.2.1 24) (9 + b) = nI (32 + F (b + 1)) ∧ (if nI b = (g.1 68 33) - 1 then (g.1 68 41) else (g.2.1 90) (b + 1)) = nI (F (b + 1))) ∧ ∀ v, v < F nb → zt_nr LC LM ((h.2.1 28) (32 + v)) ((g.2.1 91) v)
theorem zwt_inj {L : List (List Int32)} (hL : L.Nodup) {c j : Nat} (hc : c < L.length) (hj : j < L.length) (e : L.getD c [] = L.getD j []) : c = j := by
  rw [List.getD_eq_getElem?_getD, List.getD_eq_getElem?_getD, List.getElem?_eq_getElem hc, List.getElem?_eq_getElem hj] at e
  exact (List.getElem_inj hL).mp e
theorem zwt_nr {e : Nat} (hT : ∀ i, zb_ok (T i)) (he : e ≤ n) (hp : ∀ i, a ≤ i → i < e → zl_pt T n i = true) : zn_rc T a (e - a) = zl_nm T n a e := by
  unfold zn_rc zl_nm
  apply List.map_congr_left
  intro i hi
  have hi' := List.mem_range.mp hi
  have q := (zwt_pt (n := n) hT (show a + i < n by omega)).2.mp (hp (a + i) (by omega) (by omega))
  rw [zl_rawG (hT _) q]
  unfold zl_g
  rw [zl_bT (by omega)]
theorem zwt_let {x : Int32} (h : ¬ f_Mo_isLetter x = 0) : f_Mo_isDigit x = 0 := by
  unfold f_Mo_isLetter f_Mo_isLetter_12 at h
  unfold f_Mo_isDigit
  by_cases c1 : x < 48
  · rw [if_pos c1]
  · rw [if_neg c1]
    by_cases c2 : 57 < x
    · rw [if_pos c2]
    · exfalso
      apply h
      have c3 : x < 65 := Int32.lt_of_le_of_lt (Int32.not_lt.mp c2) (by decide)
      rw [if_pos c3, if_neg]
      intro q
      rw [q] at c3
      exact absurd c3 (by decide)
theorem zwt_own (Q : zwt_Q LC LM nb F h g) (hb : b < nb) (eT : (h.2.1 1) = T) (P : zwt_P T n a g) : ∃ g' w y x, f_Mo_watch_B g (nI b) = some (w, g') ∧ f_Nm_find_c1 h (nI a) (nI (zl_ne T n a) - nI a) = some x ∧ f_Pl_variableOf h (nI (9 + b)) x = some y ∧ zfr [(68, 93), (68, 95)] [] [] g g' ∧ zwt_P T n (zl_ne T n a) g' ∧ ((w = -1 ∧ y = -1) ∨ ∃ v, F b ≤ v ∧ v < F (b + 1) ∧ w = nI v ∧ y = nI (32 + v)) := by
  have hz := zF_big
  obtain ⟨⟨q1, q2, q3, q4, q5⟩, ⟨q6, q7, q8⟩, q9, q10⟩ := Q
  have hF := q8 b hb
  obtain ⟨b1, b2, b3, b4⟩ := q9 b hb
  have hn := P.1
  have hT := P.2.1
  have hl := zl_ne_le (T := T) (n := n) (a := a) hn.2
  obtain ⟨g', a1, a2, a3, a4⟩ := zwt_rd P
  have ez : nI (zl_ne T n a) - nI a = nI (zl_ne T n a - a) := zi_sub hl.1
  have eC : ∀ x, f_Pl_variableOf h (nI (9 + b)) x = f_Pl_variableOf_L7 h zF (nI (9 + b)) x (nI (32 + F b)) := fun x => by
    unfold f_Pl_variableOf
    rw [if_pos (zi_in (by omega) (show 9 + b < 629 by omega)), nI_clamp (by omega), b1]
  have sC := fun x => zv_scanC (h := h) (w := x) (show 9 + b < 629 by omega) (show 32 + F (b + 1) ≤ 6000 by omega) b3 (F (b + 1) - F b) (32 + F b) zF (by omega) (by omega)
  have nm : ∀ u, u < F nb → ∃ c k, (h.2.1 28) (32 + u) = nI c ∧ (g.2.1 91) u = nI k ∧ c < LC.length ∧ k < LM.length ∧ LC.getD c [] = LM.getD k [] := fun u hu => by
    obtain ⟨c, k, c1, c2, _, c3, c4, c5⟩ := q10 u hu
    exact ⟨c, k, c1, c2, c3, c4, c5⟩
  have no : f_Pl_variableOf h (nI (9 + b)) (-1) = some (-1) := by
    rw [eC]
    refine (sC (-1)).1 fun j h1 h2 h3 => ?_
    obtain ⟨c, k, c1, _, c3, _⟩ := nm (j - 32) (by omega)
    rw [show 32 + (j - 32) = j by omega, h3] at c1
    exact zc_m1 (t := c) (by omega) c1.symm
  have er : zn_rc T a (zl_ne T n a - a) = zl_nm T n a (zl_ne T n a) := zwt_nr hT hl.2.1 hl.2.2.2
  by_cases ok : zwt_ok T n a
  · have e1 : f_Mo_readPathName g = some (1, g') := by
      rcases a1 with q | q
      · exact q.2
      · exact absurd ok q.1
    obtain ⟨k1, k2, k3⟩ := ok
    obtain ⟨x, x1, x2⟩ := zn_findc1 (a := a) (len := zl_ne T n a - a) q4 (by omega) k2 (by omega)
    rw [eT, er] at x2
    have G' : ∀ z, g'.2.1 z = g.2.1 z := fun z => a2.2.1 z List.not_mem_nil
    have HM' : zn_M g' LM := by
      unfold zn_M
      rw [G', G', a2.1 68 3 (by decide)]
      exact q5
    have iff : ∀ u, u < F (b + 1) → ((h.2.1 28) (32 + u) = x → f_Mo_isPathName g' ((g'.2.1 91) u) = some 1) ∧ (¬ (h.2.1 28) (32 + u) = x → f_Mo_isPathName g' ((g'.2.1 91) u) = some 0) := fun u hu => by
      obtain ⟨c, k, c1, c2, c3, c4, c5⟩ := nm u (by omega)
      have e2 := zwt_isN a3 a4 (by omega) HM' c4
      have it : (h.2.1 28) (32 + u) = x ↔ LM.getD k [] = zl_nm T n a (zl_ne T n a) := by
        rw [c1, ← c5]
        rcases x2 with ⟨j, j1, j2, j3⟩ | ⟨j1, j2⟩
        · rw [j2, nI_eq (by omega) (by omega), ← j3]
          exact ⟨fun w => by rw [w], fun w => zwt_inj q1 c3 j1 w⟩
        · rw [j1]
          exact ⟨fun w => absurd w (zc_m1 (by omega)), fun w => absurd w (j2 c c3)⟩
      rw [G', c2, e2]
      exact ⟨fun w => by rw [if_pos (it.mp w)], fun w => by rw [if_neg (mt it.mpr w)]⟩
    have sM := zwt_scanM (g := g') (b := b) (z := F (b + 1)) (by omega) (by omega) (by rw [a2.1 68 33 (by decide), a2.1 68 41 (by decide), G']; exact b4) (fun u => (h.2.1 28) (32 + u) = x) iff (F (b + 1) - F b) (F b) zF (by omega) (by omega)
    have eM : f_Mo_variableOnPath g' (nI b) = f_Mo_variableOnPath_L7 g' zF (nI b) (nI (F b)) := by
      unfold f_Mo_variableOnPath
      rw [if_pos (zi_in (by omega) (show b < 2101 by omega)), nI_clamp (by omega), G', b2]
    have eB : ∀ w, f_Mo_variableOnPath_L7 g' zF (nI b) (nI (F b)) = some w → f_Mo_watch_B g (nI b) = some (w, g') := fun w ew => by
      unfold f_Mo_watch_B
      rw [e1, yL_B, if_neg (show ¬ (1 : Int32) = 0 by decide), eM, ew, Option.bind_some]
    rcases zv_least (fun u => (h.2.1 28) (32 + u) = x) (F b) (F (b + 1)) with q | ⟨v, v1, v2, v3, v4⟩
    · refine ⟨g', -1, -1, x, eB _ (sM.1 q), by rw [ez]; exact x1, ?_, a2, a3, .inl ⟨rfl, rfl⟩⟩
      rw [eC]
      exact (sC x).1 fun j h1 h2 h3 => q (j - 32) (by omega) (by omega) (by rw [show 32 + (j - 32) = j by omega]; exact h3)
    · refine ⟨g', nI v, nI (32 + v), x, eB _ (sM.2 v v1 v2 v3 v4), by rw [ez]; exact x1, ?_, a2, a3, .inr ⟨v, v1, v2, rfl, rfl⟩⟩
      rw [eC]
      exact (sC x).2 (32 + v) (by omega) (by omega) v3 fun i h5 h7 h8 => v4 (i - 32) (by omega) (by omega) (by show _ = _; rw [show 32 + (i - 32) = i by omega]; exact h8)
  · have e1 : f_Mo_readPathName g = some (0, g') := by
      rcases a1 with q | q
      · exact absurd q.1 ok
      · exact q.2
    refine ⟨g', -1, -1, -1, ?_, ?_, no, a2, a3, .inl ⟨rfl, rfl⟩⟩
    · unfold f_Mo_watch_B
      rw [e1, yL_B, if_pos (show (0 : Int32) = 0 from rfl)]
    · rw [ez]
      by_cases c1 : zl_ne T n a - a < 1
      · unfold f_Nm_find_c1
        rw [if_pos ((zc_tl (k := 1) (by decide) (by omega)).mpr c1)]
      by_cases c2 : 32 < zl_ne T n a - a
      · unfold f_Nm_find_c1
        rw [if_neg (mt (zc_tl (k := 1) (by decide) (by omega)).mp c1), if_pos ((zc_lt (k := 32) (by decide) (by omega)).mpr c2)]
      obtain ⟨x, x1, x2⟩ := zn_findc1 (a := a) (len := zl_ne T n a - a) q4 (by omega) (by omega) (by omega)
      rw [eT, er] at x2
      rcases x2 with ⟨j, j1, j2, j3⟩ | ⟨j1, _⟩
      · exfalso
        have hm : LC.getD j [] ∈ LC := by
          rw [List.getD_eq_getElem?_getD, List.getElem?_eq_getElem j1]
          exact List.getElem_mem j1
        have w := zwt_let (q3 _ hm)
        rw [j3, zl_nm_at (by omega), Nat.add_zero] at w
        unfold zl_g at w
        rw [zl_bT (by omega)] at w
        exact ok ⟨by omega, by omega, w⟩
      · rw [x1, j1]
end ZWK
end
