/-! The line: the replies, on both sides. -/
abbrev zln_f1 (h h' : zs_H) : Prop := zfr [(66, 1)] [67] [] h h'
abbrev zln_f2 (g g' : zs_H) : Prop := zfr [(68, 88)] [117] [] g g'
section ZLR
variable {h g : zs_H} {fn a c : Nat}
theorem zln_bits {k70 : zs_H → Int32 → Int32 → Int32 → Int32 → Option zs_H} {p k : Nat} (V : zln_V h g) (hf : fn = 1 ∨ fn = 2) (hac : a + c ≤ zln_ts fn) (hpk : p + k ≤ c) (hk : k ≤ 8) (hk8 : k = 8 ∨ p + k = c) : ∀ (m i n N N' : Nat), i + m = k → m < N → m < N' → n < 2 ^ i → ∃ n', f_Ln_bitsFrom_L6 h N (nI fn) (nI (a + p)) (nI k) (nI n) (nI i) = some (nI n') ∧ f_Mo_reply_L83 k70 N' g (nI fn) (nI a) (nI c) (nI p) (nI n) (nI i) = f_Mo_reply_126 k70 g (nI fn) (nI a) (nI c) (nI p) (nI n') := by
  have ts : zln_ts fn ≤ 512 := by rcases hf with z | z <;> subst z <;> decide
  intro m
  induction m with
  | zero =>
    intro i n N N' hi hN hN' hn
    obtain ⟨N, rfl⟩ : ∃ z, N = z + 1 := ⟨N - 1, by omega⟩
    obtain ⟨N', rfl⟩ : ∃ z, N' = z + 1 := ⟨N' - 1, by omega⟩
    refine ⟨n, ?_, ?_⟩
    · show f_Ln_bitsFrom_6 h (f_Ln_bitsFrom_L6 h N) (nI fn) (nI (a + p)) (nI k) (nI n) (nI i) = _
      unfold f_Ln_bitsFrom_6
      rw [if_pos ((nI_leI (by omega) (by omega)).mpr (by omega))]
    · show f_Mo_reply_83 k70 (f_Mo_reply_L83 k70 N') g (nI fn) (nI a) (nI c) (nI p) (nI n) (nI i) = _
      unfold f_Mo_reply_83
      by_cases z : 8 ≤ i
      · rw [if_pos ((zc_le (k := 8) (by decide) (by omega)).mpr z)]
      · rw [if_neg (mt (zc_le (k := 8) (by decide) (by omega)).mp z), nI_add, if_pos ((nI_leI (by omega) (by omega)).mpr (by omega))]
  | succ m ih =>
    intro i n N N' hi hN hN' hn
    obtain ⟨N, rfl⟩ : ∃ z, N = z + 1 := ⟨N - 1, by omega⟩
    obtain ⟨N', rfl⟩ : ∃ z, N' = z + 1 := ⟨N' - 1, by omega⟩
    obtain ⟨w, w1, w2, w3⟩ := zln_tld (fn := fn) (j := a + p + i) V (by omega) (by omega)
    obtain ⟨n1, n2, n3, n4⟩ := zln_bt (i := i) (n := n) (w := w) (by omega) hn (w3 (by omega))
    obtain ⟨n', d1, d2⟩ := ih (i + 1) n1 N N' (by omega) (by omega) (by omega) n2
    refine ⟨n', ?_, ?_⟩
    · show f_Ln_bitsFrom_6 h (f_Ln_bitsFrom_L6 h N) (nI fn) (nI (a + p)) (nI k) (nI n) (nI i) = _
      unfold f_Ln_bitsFrom_6 f_Ln_bitsFrom_40
      rw [if_neg (mt (nI_leI (by omega) (by omega)).mp (by omega)), nI_add]
      rcases hf with z | z
      · subst z
        rw [if_pos (show (nI 1 : Int32) = 1 by decide), show f_Mc_seen h 2 (nI (a + p + i)) = some w from w1, Option.bind_some, n3, nI_1]
        exact d1
      · subst z
        rw [if_neg (show ¬ (nI 2 : Int32) = 1 by decide), show f_Ln_lamp h (nI (a + p + i)) = some w from w1, Option.bind_some, n3, nI_1]
        exact d1
    · show f_Mo_reply_83 k70 (f_Mo_reply_L83 k70 N') g (nI fn) (nI a) (nI c) (nI p) (nI n) (nI i) = _
      unfold f_Mo_reply_83
      rw [if_neg (mt (zc_le (k := 8) (by decide) (by omega)).mp (by omega)), nI_add p i, if_neg (mt (nI_leI (by omega) (by omega)).mp (by omega)), nI_add a p, nI_add (a + p) i, w2, Option.bind_some, n4, nI_1]
      exact d2
theorem zln_r1 (hf : fn = 1 ∨ fn = 2) (hac : a + c ≤ zln_ts fn) : ∀ (m p n N N' : Nat) (h g : zs_H), c ≤ p + 8 * m → m < N → m < N' → n + m ≤ 250 → zln_V h g → zln_O n h g → p ≤ c + 8 → ∃ h' g' n', f_Ln_reply_L36 N h (nI fn) (nI a) (nI c) (nI p) = some h' ∧ f_Mo_reply_L70 N' g (nI fn) (nI a) (nI c) (nI p) = f_Mo_reply_228 g' ∧ n' ≤ n + m ∧ zln_O n' h' g' ∧ zln_f1 h h' ∧ zln_f2 g g' := by
  have hz := zF_big
  have ts : zln_ts fn ≤ 512 := by rcases hf with z | z <;> subst z <;> decide
  intro m
  induction m with
  | zero =>
    intro p n N N' h g hp hN hN' hn V O hpc
    obtain ⟨N, rfl⟩ : ∃ z, N = z + 1 := ⟨N - 1, by omega⟩
    obtain ⟨N', rfl⟩ : ∃ z, N' = z + 1 := ⟨N' - 1, by omega⟩
    refine ⟨h, g, n, ?_, ?_, by omega, O, zfr_rfl, zfr_rfl⟩
    · show f_Ln_reply_36 (f_Ln_reply_L36 N) h (nI fn) (nI a) (nI c) (nI p) = _
      unfold f_Ln_reply_36
      rw [if_pos ((nI_leI (by omega) (by omega)).mpr (by omega))]
    · show f_Mo_reply_70 (f_Mo_reply_L70 N') g (nI fn) (nI a) (nI c) (nI p) = _
      unfold f_Mo_reply_70
      rw [if_pos ((nI_leI (by omega) (by omega)).mpr (by omega))]
  | succ m ih =>
    intro p n N N' h g hp hN hN' hn V O hpc
    obtain ⟨N, rfl⟩ : ∃ z, N = z + 1 := ⟨N - 1, by omega⟩
    obtain ⟨N', rfl⟩ : ∃ z, N' = z + 1 := ⟨N' - 1, by omega⟩
    by_cases z : c ≤ p
    · refine ⟨h, g, n, ?_, ?_, by omega, O, zfr_rfl, zfr_rfl⟩
      · show f_Ln_reply_36 (f_Ln_reply_L36 N) h (nI fn) (nI a) (nI c) (nI p) = _
        unfold f_Ln_reply_36
        rw [if_pos ((nI_leI (by omega) (by omega)).mpr z)]
      · show f_Mo_reply_70 (f_Mo_reply_L70 N') g (nI fn) (nI a) (nI c) (nI p) = _
        unfold f_Mo_reply_70
        rw [if_pos ((nI_leI (by omega) (by omega)).mpr z)]
    · obtain ⟨k, hk⟩ : ∃ k, k = if c - p < 8 then c - p else 8 := ⟨_, rfl⟩
      have hk1 : p + k ≤ c ∧ k ≤ 8 ∧ (k = 8 ∨ p + k = c) := by
        rw [hk]; split <;> omega
      have ek : zd_min 8 (nI c - nI p) = nI k := by
        rw [zi_sub (by omega), hk]
        unfold zd_min
        by_cases y : c - p < 8
        · rw [if_pos y, if_pos ((zc_tl (k := 8) (by decide) (by omega)).mpr y)]
        · rw [if_neg y, if_neg (mt (zc_tl (k := 8) (by decide) (by omega)).mp y)]; rfl
      obtain ⟨v, b1, b2⟩ := zln_bits (k70 := f_Mo_reply_L70 N') V hf hac hk1.1 hk1.2.1 hk1.2.2 k 0 0 zF zF (by omega) (by omega) (by omega) (by decide)
      obtain ⟨h1, g1, s1, s2, s3, s4, s5⟩ := zln_snd O (by omega) (nI v)
      obtain ⟨h2, g2, n2, d1, d2, d3, d4, d5, d6⟩ := ih (p + 8) (n + 1) N N' h1 g1 (by omega) (by omega) (by omega) (by omega) (zln_Vf V s4 s5) s3 (by omega)
      refine ⟨h2, g2, n2, ?_, ?_, by omega, d4, zfr_trans s4 d5, zfr_trans s5 d6⟩
      · show f_Ln_reply_36 (f_Ln_reply_L36 N) h (nI fn) (nI a) (nI c) (nI p) = _
        unfold f_Ln_reply_36 f_Ln_bitsFrom
        rw [if_neg (mt (nI_leI (by omega) (by omega)).mp z), ek, nI_add, show f_Ln_bitsFrom_L6 h zF (nI fn) (nI (a + p)) (nI k) 0 0 = some (nI v) from b1, Option.bind_some, s1, Option.bind_some, show nI p + 8 = nI (p + 8) from nI_add p 8]
        exact d1
      · show f_Mo_reply_70 (f_Mo_reply_L70 N') g (nI fn) (nI a) (nI c) (nI p) = _
        unfold f_Mo_reply_70
        rw [if_neg (mt (nI_leI (by omega) (by omega)).mp z), show f_Mo_reply_L83 (f_Mo_reply_L70 N') zF g (nI fn) (nI a) (nI c) (nI p) 0 0 = _ from b2]
        unfold f_Mo_reply_126
        rw [s2, Option.bind_some, show nI p + 8 = nI (p + 8) from nI_add p 8]
        exact d2
theorem zln_r3 (hf : fn = 3 ∨ fn = 4) (hac : a + c ≤ zln_ts fn) : ∀ (m i n N N' : Nat) (h g : zs_H), i + m = c → m < N → m < N' → n + 2 * m ≤ 253 → zln_V h g → zln_O n h g → ∃ h' g', f_Ln_reply_L88 N h (nI fn) (nI a) (nI c) (nI i) = some h' ∧ f_Mo_reply_L157 N' g (nI fn) (nI a) (nI c) (nI i) = f_Mo_reply_228 g' ∧ zln_O (n + 2 * m) h' g' ∧ zln_f1 h h' ∧ zln_f2 g g' := by
  have ts : zln_ts fn ≤ 512 := by rcases hf with z | z <;> subst z <;> decide
  intro m
  induction m with
  | zero =>
    intro i n N N' h g hi hN hN' hn V O
    obtain ⟨N, rfl⟩ : ∃ z, N = z + 1 := ⟨N - 1, by omega⟩
    obtain ⟨N', rfl⟩ : ∃ z, N' = z + 1 := ⟨N' - 1, by omega⟩
    refine ⟨h, g, ?_, ?_, O, zfr_rfl, zfr_rfl⟩
    · show f_Ln_reply_88 (f_Ln_reply_L88 N) h (nI fn) (nI a) (nI c) (nI i) = _
      unfold f_Ln_reply_88
      rw [if_pos ((nI_leI (by omega) (by omega)).mpr (by omega))]
    · show f_Mo_reply_157 (f_Mo_reply_L157 N') g (nI fn) (nI a) (nI c) (nI i) = _
      unfold f_Mo_reply_157
      rw [if_pos ((nI_leI (by omega) (by omega)).mpr (by omega))]
  | succ m ih =>
    intro i n N N' h g hi hN hN' hn V O
    obtain ⟨N, rfl⟩ : ∃ z, N = z + 1 := ⟨N - 1, by omega⟩
    obtain ⟨N', rfl⟩ : ∃ z, N' = z + 1 := ⟨N' - 1, by omega⟩
    obtain ⟨w, w1, w2, _⟩ := zln_tld (fn := fn) (j := a + i) V (by omega) (by omega)
    obtain ⟨h1, g1, s1, s2, s3, s4, s5⟩ := zln_snd O (by omega) (w >>> ((8 : Int32) &&& 31))
    have V1 := zln_Vf V s4 s5
    obtain ⟨w', w1', w2', _⟩ := zln_tld (fn := fn) (j := a + i) V1 (by omega) (by omega)
    have ew : w' = w := by
      have q : f_Mo_told g1 (nI fn) (nI (a + i)) = f_Mo_told g (nI fn) (nI (a + i)) := by
        unfold f_Mo_told
        rw [s5.2.1 114 (by decide), s5.2.1 118 (by decide), s5.2.1 119 (by decide)]
      rw [w2', w2] at q
      exact Option.some.inj q
    obtain ⟨h2, g2, r1, r2, r3, r4, r5⟩ := zln_snd s3 (by omega) w
    obtain ⟨h3, g3, d1, d2, d3, d4, d5⟩ := ih (i + 1) (n + 1 + 1) N N' h2 g2 (by omega) (by omega) (by omega) (by omega) (zln_Vf V1 r4 r5) r3
    refine ⟨h3, g3, ?_, ?_, by rw [show n + 2 * (m + 1) = n + 1 + 1 + 2 * m by omega]; exact d3, zfr_trans s4 (zfr_trans r4 d4), zfr_trans s5 (zfr_trans r5 d5)⟩
    · show f_Ln_reply_88 (f_Ln_reply_L88 N) h (nI fn) (nI a) (nI c) (nI i) = _
      unfold f_Ln_reply_88 f_Ln_reply_122
      rw [if_neg (mt (nI_leI (by omega) (by omega)).mp (by omega)), nI_add]
      rcases hf with z | z
      · subst z
        rw [if_pos (show (nI 3 : Int32) = 3 by decide), show f_Mc_seen h 5 (nI (a + i)) = some w from w1, Option.bind_some, s1, Option.bind_some, r1, Option.bind_some, nI_1]
        exact d1
      · subst z
        rw [if_neg (show ¬ (nI 4 : Int32) = 3 by decide), show f_Ln_meter h (nI (a + i)) = some w from w1, Option.bind_some, s1, Option.bind_some, r1, Option.bind_some, nI_1]
        exact d1
    · show f_Mo_reply_157 (f_Mo_reply_L157 N') g (nI fn) (nI a) (nI c) (nI i) = _
      unfold f_Mo_reply_157
      rw [if_neg (mt (nI_leI (by omega) (by omega)).mp (by omega)), nI_add, w2, Option.bind_some, s2, Option.bind_some, w2', ew, Option.bind_some, r2, Option.bind_some, nI_1]
      exact d2
theorem zln_r5 {b : Nat → Nat} {t : Nat} (t8 : 8 ≤ t) : ∀ (m i n N N' : Nat) (h g : zs_H), i + m = 4 → m < N → m < N' → n + m ≤ 250 → zln_B b t h g → zln_O n h g → ∃ h' g', f_Ln_reply_L151 N h (nI i) = some h' ∧ f_Mo_reply_L205 N' g (nI (2 + i)) = f_Mo_reply_228 g' ∧ zln_O (n + m) h' g' ∧ zln_f1 h h' ∧ zln_f2 g g' := by
  intro m
  induction m with
  | zero =>
    intro i n N N' h g hi hN hN' hn B O
    obtain ⟨N, rfl⟩ : ∃ z, N = z + 1 := ⟨N - 1, by omega⟩
    obtain ⟨N', rfl⟩ : ∃ z, N' = z + 1 := ⟨N' - 1, by omega⟩
    refine ⟨h, g, ?_, ?_, O, zfr_rfl, zfr_rfl⟩
    · show f_Ln_reply_151 (f_Ln_reply_L151 N) h (nI i) = _
      unfold f_Ln_reply_151
      rw [if_pos ((zc_le (k := 4) (by decide) (by omega)).mpr (by omega))]
    · show f_Mo_reply_205 (f_Mo_reply_L205 N') g (nI (2 + i)) = _
      unfold f_Mo_reply_205
      rw [if_pos ((zc_le (k := 6) (by decide) (by omega)).mpr (by omega))]
  | succ m ih =>
    intro i n N N' h g hi hN hN' hn B O
    obtain ⟨N, rfl⟩ : ∃ z, N = z + 1 := ⟨N - 1, by omega⟩
    obtain ⟨N', rfl⟩ : ∃ z, N' = z + 1 := ⟨N' - 1, by omega⟩
    obtain ⟨h1, g1, s1, s2, s3, s4, s5⟩ := zln_snd O (by omega) (nI (b (2 + i)))
    have B1 := zln_Bf B (zfr_w s4 (by decide) (by decide) (by decide)) (zfr_w s5 (by decide) (by decide) (by decide))
    obtain ⟨h2, g2, d1, d2, d3, d4, d5⟩ := ih (i + 1) (n + 1) N N' h1 g1 (by omega) (by omega) (by omega) (by omega) B1 s3
    refine ⟨h2, g2, ?_, ?_, by rw [show n + (m + 1) = n + 1 + m by omega]; exact d3, zfr_trans s4 d4, zfr_trans s5 d5⟩
    · show f_Ln_reply_151 (f_Ln_reply_L151 N) h (nI i) = _
      unfold f_Ln_reply_151
      rw [if_neg (mt (zc_le (k := 4) (by decide) (by omega)).mp (by omega)), zln_dat B (by omega), Option.bind_some, s1, Option.bind_some, nI_1]
      exact d1
    · show f_Mo_reply_205 (f_Mo_reply_L205 N') g (nI (2 + i)) = _
      unfold f_Mo_reply_205
      rw [if_neg (mt (zc_le (k := 6) (by decide) (by omega)).mp (by omega)), zln_hrd B (by omega), Option.bind_some, s2, Option.bind_some, nI_1]
      exact d2
/-- the check sum at a reply's end -/
theorem zln_end {n : Nat} (O : zln_O n h g) (hn : n ≤ 254) : ∃ h' g', f_Ln_answer_c1_176 h = some (nI (n + 2), h') ∧ f_Mo_reply_228 g = some g' ∧ zln_O (n + 2) h' g' ∧ zln_f1 h h' ∧ zln_f2 g g' := by
  have hz := zF_big
  obtain ⟨o1, o2, o3, o4⟩ := id O
  obtain ⟨b, hb⟩ : ∃ b : Nat → Nat, b = fun i => ((h.2.1 67) i).toBitVec.toNat % 256 := ⟨_, rfl⟩
  have b256 : ∀ i, b i < 256 := fun i => by rw [hb]; exact Nat.mod_lt _ (by decide)
  have bC : ∀ i, i < n → (h.2.1 67) i &&& 255 = nI (b i) := fun i _ => by rw [hb]; exact zln_255 _
  have bM : ∀ i, i < n → (g.2.1 117) i = nI (b i) := fun i hi => (o4 i hi).symm.trans (bC i hi)
  have crC : f_Ln_checkSum_c67 h (nI n) = some (nI (zln_c b n)) := zln_O5 (by omega) b256 bC n 0 zF (by omega) (by omega)
  obtain ⟨h1, g1, s1, s2, s3, s4, s5⟩ := zln_snd O (by omega) (nI (zln_c b n))
  obtain ⟨h2, g2, r1, r2, r3, r4, r5⟩ := zln_snd s3 (by omega) (nI (zln_c b n) >>> ((8 : Int32) &&& 31))
  have crM : ∀ (m i N : Nat), i + m = n → m < N → f_Mo_reply_L236 N g (nI (zln_c b i)) (nI i) = some g2 := by
    intro m
    induction m with
    | zero =>
      intro i N hi hN
      obtain ⟨N, rfl⟩ : ∃ z, N = z + 1 := ⟨N - 1, by omega⟩
      show f_Mo_reply_236 (f_Mo_reply_L236 N) g (nI (zln_c b i)) (nI i) = _
      unfold f_Mo_reply_236
      have e : i = n := hi
      subst e
      rw [o3, if_pos ((nI_leI (by omega) (by omega)).mpr (Nat.le_refl _)), s2, Option.bind_some, r2, Option.bind_some]
    | succ m ih =>
      intro i N hi hN
      obtain ⟨N, rfl⟩ : ∃ z, N = z + 1 := ⟨N - 1, by omega⟩
      show f_Mo_reply_236 (f_Mo_reply_L236 N) g (nI (zln_c b i)) (nI i) = _
      unfold f_Mo_reply_236
      rw [o3, if_neg (mt (nI_leI (by omega) (by omega)).mp (by omega)), if_pos (zi_in (by omega) (show i < 300 by omega)), nI_clamp (by omega), bM i (by omega), zln_sum (zln_cl b256 i) (b256 i), Option.bind_some, nI_1]
      exact ih (i + 1) N (by omega) (by omega)
  refine ⟨h2, g2, ?_, crM n 0 zF (by omega) (by omega), r3, zfr_trans s4 r4, zfr_trans s5 r5⟩
  unfold f_Ln_answer_c1_176 f_Ln_answer_c1_204
  rw [o2, crC, Option.bind_some, s1, Option.bind_some, r1, Option.bind_some, r3.2.1]
end ZLR
