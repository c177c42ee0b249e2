/-! The judge: both sides judge a text. -/
/-- the state is kept when places are laid out -/
theorem yh_Ifr {LC LM : List (List Int32)} {nb : Nat} {F : Nat → Nat} {h g h' g' : zs_H} (I : zv_I LC LM nb nb (F nb) F (-1) h g) (a : zfr [(20, 20)] [27] [] h h') (b : zfr [(68, 55)] [89] [] g g') : zv_I LC LM nb nb (F nb) F (-1) h' g' := by
  obtain ⟨HS, HB, HN, HV, HC, HT, HJ, J1, J2⟩ := I
  have e21 : h'.2.1 21 = h.2.1 21 := a.2.1 _ (by decide)
  have e22 : h'.2.1 22 = h.2.1 22 := a.2.1 _ (by decide)
  have e23 : h'.2.1 23 = h.2.1 23 := a.2.1 _ (by decide)
  have e24 : h'.2.1 24 = h.2.1 24 := a.2.1 _ (by decide)
  have e25 : h'.2.1 25 = h.2.1 25 := a.2.1 _ (by decide)
  have e26 : h'.2.1 26 = h.2.1 26 := a.2.1 _ (by decide)
  have e28 : h'.2.1 28 = h.2.1 28 := a.2.1 _ (by decide)
  have e29 : h'.2.1 29 = h.2.1 29 := a.2.1 _ (by decide)
  have e30 : h'.2.1 30 = h.2.1 30 := a.2.1 _ (by decide)
  have e31 : h'.2.1 31 = h.2.1 31 := a.2.1 _ (by decide)
  have e32 : h'.2.1 32 = h.2.1 32 := a.2.1 _ (by decide)
  have e33 : h'.2.1 33 = h.2.1 33 := a.2.1 _ (by decide)
  have e34 : h'.2.1 34 = h.2.1 34 := a.2.1 _ (by decide)
  have e35 : h'.2.1 35 = h.2.1 35 := a.2.1 _ (by decide)
  have e36 : h'.2.1 36 = h.2.1 36 := a.2.1 _ (by decide)
  have e37 : h'.2.1 37 = h.2.1 37 := a.2.1 _ (by decide)
  have e40 : h'.2.1 40 = h.2.1 40 := a.2.1 _ (by decide)
  have g85 : g'.2.1 85 = g.2.1 85 := b.2.1 _ (by decide)
  have g86 : g'.2.1 86 = g.2.1 86 := b.2.1 _ (by decide)
  have g87 : g'.2.1 87 = g.2.1 87 := b.2.1 _ (by decide)
  have g88 : g'.2.1 88 = g.2.1 88 := b.2.1 _ (by decide)
  have g90 : g'.2.1 90 = g.2.1 90 := b.2.1 _ (by decide)
  have g91 : g'.2.1 91 = g.2.1 91 := b.2.1 _ (by decide)
  have g92 : g'.2.1 92 = g.2.1 92 := b.2.1 _ (by decide)
  have g93 : g'.2.1 93 = g.2.1 93 := b.2.1 _ (by decide)
  have g94 : g'.2.1 94 = g.2.1 94 := b.2.1 _ (by decide)
  have g95 : g'.2.1 95 = g.2.1 95 := b.2.1 _ (by decide)
  have g96 : g'.2.1 96 = g.2.1 96 := b.2.1 _ (by decide)
  have g97 : g'.2.1 97 = g.2.1 97 := b.2.1 _ (by decide)
  have g98 : g'.2.1 98 = g.2.1 98 := b.2.1 _ (by decide)
  have g99 : g'.2.1 99 = g.2.1 99 := b.2.1 _ (by decide)
  have f17 : h'.1 20 17 = h.1 20 17 := a.1 _ _ (by decide)
  have f18 : h'.1 20 18 = h.1 20 18 := a.1 _ _ (by decide)
  have f19 : h'.1 20 19 = h.1 20 19 := a.1 _ _ (by decide)
  have j3 : h'.1 38 3 = h.1 38 3 := a.1 _ _ (by decide)
  have j4 : h'.1 38 4 = h.1 38 4 := a.1 _ _ (by decide)
  have k29 : g'.1 68 29 = g.1 68 29 := b.1 _ _ (by decide)
  have k33 : g'.1 68 33 = g.1 68 33 := b.1 _ _ (by decide)
  have k41 : g'.1 68 41 = g.1 68 41 := b.1 _ _ (by decide)
  have k54 : g'.1 68 54 = g.1 68 54 := b.1 _ _ (by decide)
  refine ⟨zv_Sfr HS b (by decide) (by decide) (by decide), ?_, ?_, ?_, ?_, ?_, ?_, j3.trans J1, k29.trans J2⟩
  · unfold zv_B zj_ST at HB ⊢; simp only [e21, e22, e23, e24, e25, e26, e28, e29, e30, e31, e32, e33, e34, e35, e36, e37, e40, g85, g86, g87, g88, g90, g91, g92, g93, g94, g95, g96, g97, g98, g99, f17, f18, f19, j3, j4, k29, k33, k41, k54]; exact HB
  · unfold zv_N at HN ⊢; simp only [e21, e22, e23, e24, e25, e26, e28, e29, e30, e31, e32, e33, e34, e35, e36, e37, e40, g85, g86, g87, g88, g90, g91, g92, g93, g94, g95, g96, g97, g98, g99, f17, f18, f19, j3, j4, k29, k33, k41, k54]; exact HN
  · unfold zv_V zv_Q at HV ⊢; simp only [e21, e22, e23, e24, e25, e26, e28, e29, e30, e31, e32, e33, e34, e35, e36, e37, e40, g85, g86, g87, g88, g90, g91, g92, g93, g94, g95, g96, g97, g98, g99, f17, f18, f19, j3, j4, k29, k33, k41, k54]; exact HV
  · obtain ⟨_, c2, c3, c4⟩ := HC
    refine ⟨.inl rfl, ?_, ?_, ?_⟩
    · simp only [e21, e22, e23, e24, e25, e26, e28, e29, e30, e31, e32, e33, e34, e35, e36, e37, e40, g85, g86, g87, g88, g90, g91, g92, g93, g94, g95, g96, g97, g98, g99, f17, f18, f19, j3, j4, k29, k33, k41, k54]; exact c2
    · simp only [e21, e22, e23, e24, e25, e26, e28, e29, e30, e31, e32, e33, e34, e35, e36, e37, e40, g85, g86, g87, g88, g90, g91, g92, g93, g94, g95, g96, g97, g98, g99, f17, f18, f19, j3, j4, k29, k33, k41, k54]; exact c3
    · simp only [e21, e22, e23, e24, e25, e26, e28, e29, e30, e31, e32, e33, e34, e35, e36, e37, e40, g85, g86, g87, g88, g90, g91, g92, g93, g94, g95, g96, g97, g98, g99, f17, f18, f19, j3, j4, k29, k33, k41, k54]; exact c4
  · unfold zv_T at HT ⊢; simp only [e21, e22, e23, e24, e25, e26, e28, e29, e30, e31, e32, e33, e34, e35, e36, e37, e40, g85, g86, g87, g88, g90, g91, g92, g93, g94, g95, g96, g97, g98, g99, f17, f18, f19, j3, j4, k29, k33, k41, k54]; exact HT
  · simp only [e21, e22, e23, e24, e25, e26, e28, e29, e30, e31, e32, e33, e34, e35, e36, e37, e40, g85, g86, g87, g88, g90, g91, g92, g93, g94, g95, g96, g97, g98, g99, f17, f18, f19, j3, j4, k29, k33, k41, k54]; exact HJ
/-- at first -/
theorem yh_I0 {LC LM : List (List Int32)} {h g : zs_H} (HS : zv_S LC LM g) (H : zj_SB 9 32 h) (ST : zj_ST h) (tk : ∀ c, c < 960 → (h.2.1 40) c = 0) (b1 : (g.1 68 33) = 0) (b2 : (g.1 68 41) = 0) (J1 : (h.1 38 3) = 0) (J2 : (g.1 68 29) = 0) : zv_I LC LM 0 0 ((fun _ => 0) 0) (fun _ => 0) (-1) h g := by
  obtain ⟨h1, h2, h3, _, _, _, _, _, h9, h10, _, _⟩ := H
  refine ⟨HS, ⟨⟨h1, b1, by decide⟩, ⟨h2, b2, by decide⟩, ST, fun b hb => absurd hb (Nat.not_lt_zero b), fun b hb => absurd hb (Nat.not_lt_zero b), fun b hb => absurd hb (Nat.not_lt_zero b), fun b hb => absurd hb (Nat.not_lt_zero b), fun c hc => ?_, fun c q1 q2 => ?_, ?_⟩, ⟨fun v hv => absurd hv (Nat.not_lt_zero v), fun c hc => ?_, fun v _ hv => absurd hv (Nat.not_lt_zero v)⟩, ⟨fun v hv => absurd hv (Nat.not_lt_zero v), fun b v hb => absurd hb (Nat.not_lt_zero b), fun v _ hv => absurd hv (Nat.not_lt_zero v), Nat.le_refl _, fun z => absurd z (Nat.lt_irrefl 0)⟩, ⟨.inl rfl, fun b hb => absurd hb (Nat.not_lt_zero b), fun b _ hb => absurd hb (Nat.not_lt_zero b), fun b hb => absurd hb (Nat.not_lt_zero b)⟩, ⟨fun c hc => .inl (tk c hc), fun p hp hq => ?_⟩, fun z => absurd z (Nat.lt_irrefl 0), J1, J2⟩
  · rw [h9 c hc]
    by_cases z : 41 ≤ c ∧ c < 41 + 9
    · rw [if_pos z]; exact .inr (.inl ⟨z.1, by omega, rfl⟩)
    · rw [if_neg z]; exact .inl rfl
  · rw [h9 c (by omega), if_pos ⟨q1, by omega⟩]
  · rw [h3, if_neg (fun z => absurd z.1 (Nat.lt_irrefl 0))]
  · rcases h10 c hc with z | ⟨v, v1, v2⟩
    · exact .inl z
    · exact .inr ⟨v, by omega, v2, fun z => by omega⟩
  · have hpc : zv_pc p < 960 := by
      unfold zv_pc
      split
      · omega
      · have := hq (by omega); omega
    rw [tk _ hpc]
    constructor
    · intro z; exact absurd z (by decide)
    · rintro (z | ⟨v, _, hv, _⟩)
      · exact absurd z (zc_m1 (show p < 2147483648 by omega))
      · exact absurd hv (Nat.not_lt_zero v)
theorem yh_19 : ∀ (r x N : Nat) (h : zs_H), x + r = 960 → r < N → ∃ h', f_Jd_judge_L19 N h (nI x) = ((f_Jd_visit 400 h' 0 0).bind fun h3 => (some ((h3.1 38 3), h3))) ∧ zfr [] [40] [] h h' ∧ (∀ c, c < x → (h'.2.1 40) c = (h.2.1 40) c) ∧ (∀ c, x ≤ c → c < 960 → (h'.2.1 40) c = 0) := by
  have uL : ∀ (N : Nat) (h : zs_H) (x : Int32), f_Jd_judge_L19 (N + 1) h x = f_Jd_judge_19 (f_Jd_judge_L19 N) h x := fun _ _ _ => rfl
  intro r
  induction r with
  | zero =>
    intro x N h hx hN
    obtain ⟨N, rfl⟩ : ∃ z, N = z + 1 := ⟨N - 1, by omega⟩
    rw [uL]
    unfold f_Jd_judge_19
    rw [if_pos ((zc_le (k := 960) (by decide) (by omega)).mpr (by omega))]
    exact ⟨h, rfl, zfr_rfl, fun _ _ => rfl, fun c q1 q2 => by omega⟩
  | succ r ih =>
    intro x N h hx hN
    obtain ⟨N, rfl⟩ : ∃ z, N = z + 1 := ⟨N - 1, by omega⟩
    rw [uL]
    unfold f_Jd_judge_19
    rw [if_neg (mt (zc_le (k := 960) (by decide) (by omega)).mp (by omega)), if_pos (zi_in (by omega) (by omega)), nI_clamp (show x < 2147483648 by omega), nI_1, show vp_nar .boolean 0 = 0 by decide]
    have f0 : zfr [] [40] [] h (zs_uM h 40 x 0) := zfr_M (by decide) zfr_rfl
    obtain ⟨h', r1, r2, r3, r4⟩ := ih (x + 1) N (zs_uM h 40 x 0) (by omega) (by omega)
    refine ⟨h', r1, zfr_trans f0 r2, fun c hc => (r3 c (by omega)).trans ((yg_uM (h := h) c).trans (if_neg (by omega))), fun c q1 q2 => ?_⟩
    by_cases e : c = x
    · rw [e]; exact (r3 x (by omega)).trans ((yg_uM (h := h) x).trans (if_pos rfl))
    · exact r4 c (by omega) q2
def yh_end (g : zs_H) : Option (Int32 × zs_H) := ((f_Mo_look 500 g 0).bind fun h3 => (if ((h3.1 68 29)) = 0 then f_Mo_judge_125 h3 1 else f_Mo_judge_125 h3 0))
theorem yh_45 {m : Nat} (hm : m ≤ 33500) : ∀ (r x N : Nat) (g : zs_H), x + r = m → (g.1 68 14) = nI m → r < N → ∃ g', f_Mo_judge_L45 N g (nI x) = yh_end g' ∧ zfr [(68, 32)] [100, 101, 102] [] g g' ∧ (∀ j, j < x → (g'.2.1 100) j = (g.2.1 100) j ∧ (g'.2.1 101) j = (g.2.1 101) j ∧ (g'.2.1 102) j = (g.2.1 102) j) ∧ (∀ j, x ≤ j → j < m → (g'.2.1 100) j = -1 ∧ (g'.2.1 101) j = -1 ∧ (g'.2.1 102) j = -1) := by
  have uL : ∀ (N : Nat) (g : zs_H) (x : Int32), f_Mo_judge_L45 (N + 1) g x = f_Mo_judge_45 (f_Mo_judge_L45 N) g x := fun _ _ _ => rfl
  intro r
  induction r with
  | zero =>
    intro x N g hx h1 hN
    obtain ⟨N, rfl⟩ : ∃ z, N = z + 1 := ⟨N - 1, by omega⟩
    rw [uL]
    unfold f_Mo_judge_45
    rw [h1, if_pos ((nI_leI (by omega) (by omega)).mpr (by omega))]
    exact ⟨g, rfl, zfr_rfl, fun _ _ => ⟨rfl, rfl, rfl⟩, fun j q1 q2 => by omega⟩
  | succ r ih =>
    intro x N g hx h1 hN
    obtain ⟨N, rfl⟩ : ∃ z, N = z + 1 := ⟨N - 1, by omega⟩
    have go : ∀ y : Int32, ∃ g', f_Mo_judge_L45 N (zs_uF (zs_uM (zs_uM (zs_uM g 100 x (-1)) 101 x (-1)) 102 x (-1)) 68 32 y) (nI (x + 1)) = yh_end g' ∧ zfr [(68, 32)] [100, 101, 102] [] g g' ∧ (∀ j, j < x → (g'.2.1 100) j = (g.2.1 100) j ∧ (g'.2.1 101) j = (g.2.1 101) j ∧ (g'.2.1 102) j = (g.2.1 102) j) ∧ (∀ j, x ≤ j → j < m → (g'.2.1 100) j = -1 ∧ (g'.2.1 101) j = -1 ∧ (g'.2.1 102) j = -1) := by
      intro y
      have f0 : zfr [(68, 32)] [100, 101, 102] [] g (zs_uF (zs_uM (zs_uM (zs_uM g 100 x (-1)) 101 x (-1)) 102 x (-1)) 68 32 y) := zfr_F (by decide) (zfr_M (by decide) (zfr_M (by decide) (zfr_M (by decide) zfr_rfl)))
      have t0 : ∀ j, (zs_uF (zs_uM (zs_uM (zs_uM g 100 x (-1)) 101 x (-1)) 102 x (-1)) 68 32 y).2.1 100 j = (if j = x then -1 else (g.2.1 100) j) ∧ (zs_uF (zs_uM (zs_uM (zs_uM g 100 x (-1)) 101 x (-1)) 102 x (-1)) 68 32 y).2.1 101 j = (if j = x then -1 else (g.2.1 101) j) ∧ (zs_uF (zs_uM (zs_uM (zs_uM g 100 x (-1)) 101 x (-1)) 102 x (-1)) 68 32 y).2.1 102 j = (if j = x then -1 else (g.2.1 102) j) := fun j => ⟨yg_uM (h := g) j, yg_uM (h := zs_uM g 100 x (-1)) j, yg_uM (h := zs_uM (zs_uM g 100 x (-1)) 101 x (-1)) j⟩
      obtain ⟨g', r1, r2, r3, r4⟩ := ih (x + 1) N _ (by omega) ((f0.1 _ _ (by decide)).trans h1) (by omega)
      refine ⟨g', r1, zfr_trans f0 r2, fun j hj => ?_, fun j q1 q2 => ?_⟩
      · obtain ⟨a1, a2, a3⟩ := r3 j (by omega)
        obtain ⟨b1, b2, b3⟩ := t0 j
        rw [if_neg (by omega)] at b1 b2 b3
        exact ⟨a1.trans b1, a2.trans b2, a3.trans b3⟩
      · by_cases e : j = x
        · obtain ⟨a1, a2, a3⟩ := r3 j (by omega)
          obtain ⟨b1, b2, b3⟩ := t0 j
          rw [if_pos e] at b1 b2 b3
          exact ⟨a1.trans b1, a2.trans b2, a3.trans b3⟩
        · exact r4 j (by omega) q2
    rw [uL]
    unfold f_Mo_judge_45 f_Mo_judge_92 f_Mo_judge_97
    rw [h1, if_neg (mt (nI_leI (by omega) (by omega)).mp (by omega)), if_pos (zi_in (by omega) (by omega)), nI_clamp (show x < 2147483648 by omega), nI_1]
    split
    · exact go _
    · split
      · exact go _
      · exact go _
/-- a text that has been judged -/
def yh_Z (sz : Nat) (LC LM : List (List Int32)) (h g : zs_H) : Prop := ∃ (nb : Nat) (F X K : Nat → Nat), zv_I LC LM nb nb (F nb) F (-1) h g ∧ zv_si (F nb) h ∧ (∀ j, j < nb → (X j ≤ 30000 ∧ (K j = 1 ∨ K j = 2 ∨ K j = 3)) ∧ ((h.2.1 21) (9 + j) = nI (K j) ∧ (h.2.1 26) (9 + j) = nI (X j)) ∧ ((g.2.1 86) j = nI (K j) ∧ (g.2.1 88) j = nI (X j))) ∧ yh_T nb X K h g ∧ (∀ b, b < nb → ∃ Pb Qb : Nat → Prop, (∀ j, Pb j → j < 32784) ∧ yg_K LC LM F sz b Pb Qb h g)
theorem yh_judge {LC LM : List (List Int32)} {t : zt_T} {s m : Nat} {h g : zs_H} (HT : zk_TX LC LM t s m h g) (hcx : zg_cx t) (ty : ∀ i, i < s → (h.2.1 14) i = 0) (n1 : LC.Nodup) (n2 : LC.length < 6000) (n3 : LC.take 75 = zk_K) (g1 : (g.1 68 29) = 0) (g2 : (g.1 68 33) = 0) (g3 : (g.1 68 41) = 0) :
    ∃ φ h' g', f_Jd_judge h = some (nI φ, h') ∧ f_Mo_judge_L45 zF g 0 = some (nI φ, g') ∧ φ < 1000 ∧ zfr zv_cf (13 :: 14 :: 16 :: 17 :: zv_cm) [] h h' ∧ zfr ((68, 31) :: (68, 32) :: zv_mf) zv_mm [] g g' ∧ (¬ φ = 0 → (h'.1 38 3) = nI φ ∧ (g'.1 68 29) = nI φ ∧ (h'.1 38 0) = (g'.1 68 30)) ∧ (φ = 0 → (h'.1 38 3) = 0 ∧ (g'.1 68 29) = 0 ∧ ∃ g5, g' = zs_uF g5 68 31 1 ∧ yh_Z s LC LM h' g5) := by
  have hz := zF_big
  obtain ⟨⟨⟨kd, p, v, l, et, _, okt, dt⟩, u, eu, hu⟩, hc, hsz, hs2, hC, hmd, hm2, hM, nM, nd, nl⟩ := HT
  subst eu
  obtain ⟨⟨hA, _⟩, oku, _⟩ := (show zg_ok (.inner 0 (0, 0) () u .leaf) from okt)
  have du : max (zg_d u + 1) 0 ≤ 187 := dt
  have cu : (if 0 = 37 then 1 else 0) + zg_c u + 0 ≤ 5120 := hc
  rw [if_neg (by decide)] at cu
  obtain ⟨a, P1, P2, z1, z2, ea, _, a2, a3, a4, a5, a6, a7, a8, a9, a10⟩ := zv_hC (show zt_C h (.inner 0 (0, 0) () u .leaf) (fun i => i < s) (nI 0) (nI 0) from hC)
  obtain ⟨b, Q1, Q2, z3, eb, _, b2, b3, b4, b5, b6, b7, b8, b9, b10, b11⟩ := zv_hM (show zt_M LC LM g (.inner 0 (0, 0) () u .leaf) (fun i => i < m) (-1) (nI 0) (nI 0) from hM)
  have ea0 : a = 0 := ((nI_eq (by omega) (by omega)).mp ea).symm
  have eb0 : b = 0 := ((nI_eq (by omega) (by omega)).mp eb).symm
  subst ea0; subst eb0
  obtain ⟨h0, hh0⟩ : ∃ h0, h0 = zs_uF (zs_uF h 38 3 0) 38 12 0 := ⟨_, rfl⟩
  have f0 : zfr [(38, 3), (38, 12)] [] [] h h0 := by rw [hh0]; exact zfr_F (by decide) (zfr_F (by decide) zfr_rfl)
  obtain ⟨h2, f1, SB, ST, ff⟩ := zj_forget (h := h0)
  obtain ⟨h3, l1, l2, _, l4⟩ := yh_19 960 0 zF h2 (by omega) (by omega)
  obtain ⟨g4, k1, k2, _, k4⟩ := yh_45 (m := m) (by omega) m 0 zF g (by omega) hmd (by omega)
  have FC : zfr zv_cf zv_cm [] h h3 := zfr_trans (zfr_w f0 (by decide) (by decide) (by decide)) (zfr_trans (zfr_w ff (by decide) (by decide) (by decide)) (zfr_w l2 (by decide) (by decide) (by decide)))
  have FM : zfr ((68, 31) :: (68, 32) :: zv_mf) zv_mm [] g g4 := zfr_w k2 (by decide) (by decide) (by decide)
  have hA1 : ∀ z, ¬ z ∈ zv_cm → h3.2.1 z = h.2.1 z := fun z hz => FC.2.1 z hz
  have gA1 : ∀ z, ¬ z ∈ zv_mm → g4.2.1 z = g.2.1 z := fun z hz => FM.2.1 z hz
  have J1 : (h3.1 38 3) = 0 := by
    rw [l2.1 _ _ (by decide), ff.1 _ _ (by decide), hh0]; rfl
  have lp : (h3.1 38 12) = 0 := by
    rw [l2.1 _ _ (by decide), ff.1 _ _ (by decide), hh0]; rfl
  have J2 : (g4.1 68 29) = 0 := (k2.1 _ _ (by decide)).trans g1
  have eF : ∀ z, h3.2.1 z = h2.2.1 z ∨ z = 40 := fun z => by
    by_cases q : z = 40
    · exact .inr q
    · exact .inl (l2.2.1 z (by simpa using q))
  have SB3 : zj_SB 9 32 h3 := by
    unfold zj_SB at SB ⊢
    rw [l2.1 _ _ (by decide), l2.1 _ _ (by decide), l2.1 _ _ (by decide), l2.1 _ _ (by decide), l2.2.1 21 (by decide), l2.2.1 23 (by decide), l2.2.1 24 (by decide), l2.2.1 26 (by decide), l2.2.1 28 (by decide), l2.2.1 29 (by decide), l2.2.1 30 (by decide), l2.2.1 31 (by decide), l2.2.1 32 (by decide), l2.2.1 36 (by decide), l2.2.1 37 (by decide)]
    exact SB
  have ST3 : zj_ST h3 := by
    unfold zj_ST at ST ⊢
    rw [l2.2.1 21 (by decide), l2.2.1 23 (by decide), l2.2.1 24 (by decide), l2.2.1 26 (by decide), l2.2.1 28 (by decide), l2.2.1 29 (by decide), l2.2.1 30 (by decide), l2.2.1 31 (by decide), l2.2.1 32 (by decide)]
    exact ST
  have HS : zv_S LC LM g4 := by
    refine ⟨n1, nd, n2, by omega, n3, ?_⟩
    unfold zn_M at nM ⊢
    rw [k2.1 _ _ (by decide), gA1 _ (by decide), gA1 _ (by decide)]
    exact nM
  have I0 := yh_I0 HS SB3 ST3 (fun c hc => l4 c (Nat.zero_le _) hc) ((k2.1 _ _ (by decide)).trans g2) ((k2.1 _ _ (by decide)).trans g3) J1 J2
  have siz : (h3.1 12 6) = nI s := (FC.1 _ _ (by decide)).trans hsz
  have hP : ∀ j, P1 j → j < 32784 ∧ j < s := fun j hj => by have : j < s := (a6 j hj).1; omega
  have hQ : ∀ j, Q1 j → j < 33500 := fun j hj => by have : j < m := (b7 j hj).1; omega
  have hC3 : zt_C h3 u P1 ((h3.2.1 17) 0) z1 := by
    rw [hA1 17 (by decide)]
    exact zt_fr u P1 P1 0 _ z1 (fun i _ => ⟨fun kd k up z hz => by unfold zt_NC at hz ⊢; rw [hA1 13 (by decide), hA1 15 (by decide), hA1 16 (by decide)]; exact hz, by rw [hA1 17 (by decide)], by rw [hA1 18 (by decide)]⟩) (fun i hi => hi) a8
  have hM3 : zt_M LC LM g4 u Q1 (nI 0) ((g4.2.1 76) 0) ((g4.2.1 77) 0) := by
    rw [gA1 76 (by decide), gA1 77 (by decide)]
    exact zt_fr u Q1 Q1 _ _ _ (fun i _ => ⟨fun kd k up z hz => by unfold zt_NM at hz ⊢; rw [gA1 72 (by decide), gA1 73 (by decide), gA1 74 (by decide), gA1 75 (by decide), gA1 77 (by decide)]; exact hz, by rw [gA1 76 (by decide)], by rw [gA1 78 (by decide)]⟩) (fun i hi => hi) b9
  have hsl : zt_sz u ≤ s := Nat.le_trans (zt_sz_le u P1 _ _ _ s a8 (fun j hj => (hP j hj).2)) (zc_cnt_le _ _)
  have hst : 1 + zt_sz u + 0 ≤ s := Nat.le_trans (zt_sz_le (.inner 0 (0, 0) () u .leaf) (fun i => i < s) _ _ _ s hC (fun j hj => hj)) (zc_cnt_le _ _)
  have hln := zv_lnsz u
  have S0 : yh_S LC LM s 0 u P1 Q1 h3 g4 u h3 g4 ((h3.2.1 17) 0) ((g4.2.1 76) 0) := by
    refine ⟨0, fun _ => 0, P1, Q1, z1, (g4.2.1 77) 0, by omega, ⟨hC3, hM3⟩, ⟨fun _ z => z, fun _ z => z⟩, ⟨oku, yc_gA hA, Nat.le_refl _, (zg_cxi (show zg_cx (.inner 0 (0, 0) () u .leaf) from hcx)).1⟩, ⟨I0, fun v hv => absurd hv (Nat.not_lt_zero v), fun b hb => absurd hb (Nat.not_lt_zero b)⟩, by show 0 + zg_c u + zt_ln u ≤ zg_c u + zt_ln u; omega, fun j hj => ?_, lp, ⟨zfr_rfl, zfr_rfl, fun _ _ => ⟨rfl, rfl, rfl, rfl⟩, fun _ _ => ⟨rfl, rfl, rfl⟩⟩, fun b hb => absurd hb (Nat.not_lt_zero b)⟩
    rw [hA1 14 (by decide)]
    exact ty j (hP j hj).2
  have m72 : (g4.2.1 72) 0 = nI 0 := by rw [gA1 72 (by decide)]; exact b3
  have m75 : (g4.2.1 75) 0 = -1 := by rw [gA1 75 (by decide)]; exact b6
  have stp : zv_stp 399 498 0 s (yh_S LC LM s 0 u P1 Q1 h3 g4) (zv_Fb h3 g4) := by
    intro c kv w lc r hh gg x x' S
    have hs3 : 3 ≤ s := by
      cases u with
      | leaf =>
        exfalso
        obtain ⟨nb, _, _, _, _, _, en, _⟩ := S
        have e1 : zt_ln (.inner c kv w lc r) = 1 + zt_ln r := rfl
        have e2 : zt_ln .leaf = 0 := rfl
        omega
      | inner c1 kv1 o1 l1 r1 =>
        have es : zt_sz (.inner c1 kv1 o1 l1 r1) = 1 + zt_sz l1 + zt_sz r1 := rfl
        have key : ∀ r ∈ zg_R, r.1 = 0 → ∀ c ∈ r.2.2.1, (c = 1 ∨ c = 2 ∨ c = 3) := by decide +kernel
        obtain ⟨cs, to, q1, q2, _⟩ := zv_qR (yb_run hA)
        have q3 := key _ q1 rfl c1 q2
        cases l1 with
        | leaf =>
          exfalso
          have hA2 : zg_A c1 0 = true := oku.1.1
          rcases q3 with e | e | e <;> rw [e] at hA2 <;> exact absurd hA2 (by decide)
        | inner c2 kv2 o2 l2 r2 =>
          have es2 : zt_sz (.inner c2 kv2 o2 l2 r2) = 1 + zt_sz l2 + zt_sz r2 := rfl
          omega
    exact yh_step (D := 398) (D' := 496) hP hQ hu (by omega) (by omega) (by omega) hs3 (by omega) siz (by omega) (by omega) (by omega) m75 (by rw [m72]; decide) S
  have hend : ∀ hh gg x x', yh_S LC LM s 0 u P1 Q1 h3 g4 .leaf hh gg x x' → x = -1 ∧ x' = -1 := by
    intro hh gg x x' S
    obtain ⟨_, _, _, _, yy, yy', _, ⟨sC, sM⟩, _⟩ := S
    exact ⟨(show x = -1 ∧ yy = -1 from sC).1, (show x' = -1 ∧ yy' = -1 from sM).1⟩
  have c13 : (h3.2.1 13) 0 = nI 0 := by rw [hA1 13 (by decide)]; exact a3
  have nP0 : ¬ P1 0 := fun z => (a6 0 z).2.1 rfl
  have eJ : ∀ h', f_Jd_visit 400 h3 0 0 = some h' → f_Jd_judge h = some ((h'.1 38 3), h') := by
    intro h' e
    unfold f_Jd_judge
    rw [← hh0, f1, Option.bind_some, show f_Jd_judge_L19 zF h2 0 = _ from l1, e]
    rfl
  have eM1 : ∀ g', f_Mo_look 500 g4 0 = some g' → (g'.1 68 29) = 0 → f_Mo_judge_L45 zF g 0 = some ((g'.1 68 29), zs_uF g' 68 31 1) := by
    intro g' e1 e2
    rw [show f_Mo_judge_L45 zF g 0 = _ from k1]
    unfold yh_end
    rw [e1, Option.bind_some, if_pos e2]
    unfold f_Mo_judge_125 f_Mo_judge_128
    rw [if_pos (.inr rfl)]
    rfl
  have eM0 : ∀ g', f_Mo_look 500 g4 0 = some g' → ¬ (g'.1 68 29) = 0 → f_Mo_judge_L45 zF g 0 = some ((g'.1 68 29), zs_uF g' 68 31 0) := by
    intro g' e1 e2
    rw [show f_Mo_judge_L45 zF g 0 = _ from k1]
    unfold yh_end
    rw [e1, Option.bind_some, if_neg e2]
    unfold f_Mo_judge_125 f_Mo_judge_128
    rw [if_pos (.inl rfl)]
    rfl
  have FC' : zfr zv_cf (13 :: 14 :: 16 :: 17 :: zv_cm) [] h h3 := zfr_w FC (fun _ z => z) (by decide) (by decide)
  have bad : ∀ h' g', f_Jd_visit 400 h3 0 0 = some h' → f_Mo_look 500 g4 0 = some g' → zv_Fb h3 g4 h' g' → ∃ φ h' g', f_Jd_judge h = some (nI φ, h') ∧ f_Mo_judge_L45 zF g 0 = some (nI φ, g') ∧ φ < 1000 ∧ zfr zv_cf (13 :: 14 :: 16 :: 17 :: zv_cm) [] h h' ∧ zfr ((68, 31) :: (68, 32) :: zv_mf) zv_mm [] g g' ∧ (¬ φ = 0 → (h'.1 38 3) = nI φ ∧ (g'.1 68 29) = nI φ ∧ (h'.1 38 0) = (g'.1 68 30)) ∧ (φ = 0 → (h'.1 38 3) = 0 ∧ (g'.1 68 29) = 0 ∧ ∃ g5, g' = zs_uF g5 68 31 1 ∧ yh_Z s LC LM h' g5) := by
    intro h' g' e1 e2 B
    obtain ⟨⟨φ, p, X⟩, x1, x2⟩ := B
    obtain ⟨y1, y2, y3, y4, y5, y6⟩ := id X
    have q1 := eJ h' e1
    have q2 := eM0 g' e2 (zv_Xn X).2
    rw [y3] at q1
    rw [y5] at q2
    exact ⟨φ, h', zs_uF g' 68 31 0, q1, q2, y2, zfr_trans FC' x1, zfr_trans FM (zfr_F (by decide) (zfr_w x2 (by decide) (by decide) (by decide))), fun _ => ⟨y3, y5, y4.trans y6.symm⟩, fun z => by omega⟩
  rcases zv_node (D := 399) (D' := 498) (d := 0) (sz := s) (i := 0) (k := 0) (kd := 0) (l := u) (h := h3) (h1 := h3) (g := g4) (by omega) (by omega) (by omega) (by omega) (by decide) (.inl rfl) (by decide) m72 (zv_ent0 (kd := 0) (by omega) (by decide) c13 (by decide)) stp hend S0 (by omega) with ⟨h', g', e1, e2, B, _, _⟩ | ⟨h5, g5, S, e1, e2⟩
  · exact bad h' g' e1 e2 B
  obtain ⟨nb, F, Pu, Qu, yy, yy', en, _, _, _, ⟨I, si, p0⟩, _, _, lp5, fr, BB⟩ := S
  have J5 : (h5.1 38 3) = 0 := I.2.2.2.2.2.2.2.1
  have K5 : (g5.1 68 29) = 0 := I.2.2.2.2.2.2.2.2
  obtain ⟨X, K, hXK⟩ := yh_XK I
  obtain ⟨h', g', v1, v2, v3⟩ := yh_leave (i := 0) (k := 0) (p0 := 0) I (by omega) (by omega) (by rw [fr.1.2.1 15 (by decide), hA1 15 (by decide)]; exact a4) (by rw [fr.2.1.2.1 73 (by decide), gA1 73 (by decide)]; exact b4 (by decide)) hXK p0
  have w1 : f_Jd_visit 400 h3 0 0 = some h' := by
    rw [show f_Jd_visit 400 h3 0 0 = f_Jd_visit_74 h5 (nI 0) from e1]
    unfold f_Jd_visit_74
    rw [if_pos J5, Option.bind_fun_some, zv_lv0 (by omega) ((fr.2.2.1 0 nP0).1.trans c13), v1]
  have w2 : f_Mo_look 500 g4 0 = some g' := by
    rw [show f_Mo_look 500 g4 0 = _ from e2, Option.bind_fun_some, zv_54B (by decide) K5]
    unfold f_Mo_lookAtBlocks
    simp (config := { decide := true }) only [if_pos (zi_in (show 0 < 2147483648 by omega) (show 0 < 33500 by omega)), nI_clamp (show 0 < 2147483648 by omega), show (g5.2.1 72) 0 = 0 by rw [fr.2.1.2.1 72 (by decide)]; exact m72, if_true, Option.bind_fun_some, v2]
  rcases v3 with ⟨B, _, _⟩ | ⟨T, n4, n5, x1, x2⟩
  · exact bad h' g' w1 w2 ⟨B.1, zfr_trans fr.1 B.2.1, zfr_trans fr.2.1 B.2.2⟩
  · have q1 := eJ h' w1
    have q2 := eM1 g' w2 n5
    rw [n4] at q1
    rw [n5] at q2
    have x2' : zfr zv_mf zv_mm [] g5 g' := zfr_w x2 (by decide) (by decide) (by decide)
    have bf : yg_bf nb (F nb) (fun _ => False) (fun _ => False) h5 g5 h' g' := by
      have A : ∀ z, ¬ z ∈ [27] → h'.2.1 z = h5.2.1 z := fun z hz => x1.2.1 z hz
      have G : ∀ z, ¬ z ∈ [89] → g'.2.1 z = g5.2.1 z := fun z hz => x2.2.1 z hz
      refine ⟨zfr_w x1 (by decide) (by decide) (by decide), x2', fun j _ => ⟨by rw [A _ (by decide)], by rw [A _ (by decide)], by rw [A _ (by decide)], by rw [A _ (by decide)]⟩, fun j _ => ⟨by rw [G _ (by decide)], by rw [G _ (by decide)], by rw [G _ (by decide)]⟩, fun j _ => ⟨by rw [A _ (by decide)], by rw [A _ (by decide)], by rw [A _ (by decide)], by rw [A _ (by decide)], by rw [A _ (by decide)], by rw [A _ (by decide)], by rw [A _ (by decide)], by rw [A _ (by decide)]⟩, fun b _ => ⟨by rw [A _ (by decide)], by rw [A _ (by decide)], by rw [A _ (by decide)], by rw [A _ (by decide)], by rw [G _ (by decide)]⟩⟩
    refine ⟨0, h', zs_uF g' 68 31 1, q1, q2, by decide, zfr_trans FC' (zfr_trans fr.1 (zfr_w x1 (by decide) (by decide) (by decide))), zfr_trans FM (zfr_F (by decide) (zfr_w (zfr_trans fr.2.1 x2') (by decide) (by decide) (by decide))), fun z => absurd rfl z, fun _ => ⟨n4, n5, g', rfl, nb, F, X, K, yh_Ifr I x1 x2, fun v hv hs => ?_, fun j hj => ?_, T, fun b hb => ?_⟩⟩
    · rw [x1.2.1 30 (by decide)]
      rw [x1.2.1 29 (by decide)] at hs
      exact si v hv hs
    · rw [x1.2.1 21 (by decide), x1.2.1 26 (by decide), x2.2.1 86 (by decide), x2.2.1 88 (by decide)]
      exact hXK j hj
    · obtain ⟨Pb, Qb, y1, y2, y3, y4⟩ := BB b hb
      exact ⟨Pb, Qb, fun j hj => (hP j (y1 j hj).1).1, (yg_Kf (fun b hb => (I.2.1.2.2.2.1 b hb).1) (fun _ _ => rfl) hb bf (fun j hj => ⟨(hP j (y1 j hj).1).1, fun z => z⟩) (fun j hj z => z) y4 y3).1⟩
