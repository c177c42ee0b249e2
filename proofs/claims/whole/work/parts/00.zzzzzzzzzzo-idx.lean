/-! watch: the index on a path, on both sides. -/
abbrev zwt_dg (T : Nat → Int32) (i : Nat) : Prop := 48 ≤ (T i).toInt ∧ (T i).toInt ≤ 57
def zwt_d (T : Nat → Int32) (i : Nat) : Nat := ((T i).toInt - 48).toNat
def zwt_v (T : Nat → Int32) : Nat → Nat → Nat → Nat
  | 0, _, V => V
  | m + 1, i, V => zwt_v T m (i + 1) (V * 10 + zwt_d T i)
def zwt_I (h : zs_H) (v base : Int32) : Option (Int32 × zs_H) := (zd_B (f_Mo_readIndex h) fun i h2 => (if (h2.1 68 93) < 0 then (some ((-1), h2)) else (if (i - (h2.2.1 97 v.toNatClampNeg)) < 0 then (some ((-1), h2)) else (if (h2.2.1 98 v.toNatClampNeg) ≤ (i - (h2.2.1 97 v.toNatClampNeg)) then (some ((-1), h2)) else f_Mo_see h2 (h2.2.1 93 v.toNatClampNeg) ((base + (h2.2.1 94 v.toNatClampNeg)) + (i - (h2.2.1 97 v.toNatClampNeg)))))))
section ZWO
variable {h g : zs_H} {T : Nat → Int32} {n a : Nat}
theorem zwt_wrap {z l : Int} {s : Nat} (hs : s ≤ 30000) (h1 : -2147483648 ≤ z) (h2 : z < 2147483648) (l1 : -2147483648 ≤ l) (l2 : l < 2147483648) (l3 : l + s ≤ 2147483648) : ((0 ≤ (z - l).bmod (2 ^ 32) ∧ (z - l).bmod (2 ^ 32) < s) ↔ (0 ≤ z - l ∧ z - l < s)) ∧ (0 ≤ z - l → z - l < s → (z - l).bmod (2 ^ 32) = z - l) := by
  rw [show (2 : Nat) ^ 32 = 4294967296 from rfl]
  generalize hd : (z - l).bmod 4294967296 = d
  rw [Int.bmod_def] at hd
  split at hd
  · omega
  · omega
theorem zwt_toN {x : Int64} {k : Nat} (h : x.toInt = k) (hk : k < 2147483648) : x.toInt32 = nI k := by
  apply Int32.toInt_inj.mp
  rw [Int64.toInt_toInt32, h, show (nI k).toInt = (k : Int) from Int32.toInt_ofNat_of_lt hk]
  exact Int.bmod_eq_of_le (by omega) (by omega)
theorem zwt_tl {k : Nat} (hk : k < 9223372036854775808) : (lN k).toInt = (k : Int) := Int64.toInt_ofNat_of_lt hk
theorem zwt_dC {i : Nat} : zwt_dg T i ↔ ¬ T i < 48 ∧ T i ≤ 57 := by
  unfold zwt_dg
  rw [Int32.lt_iff_toInt_lt, Int32.le_iff_toInt_le, show (48 : Int32).toInt = 48 from by decide, show (57 : Int32).toInt = 57 from by decide]
  omega
theorem zwt_dM {i : Nat} : f_Mo_isDigit (T i) = if zwt_dg T i then 1 else 0 := by
  unfold f_Mo_isDigit
  by_cases c1 : T i < 48
  · rw [if_pos c1, if_neg (fun q => (zwt_dC.mp q).1 c1)]
  · rw [if_neg c1]
    by_cases c2 : T i ≤ 57
    · rw [if_neg (Int32.not_lt.mpr c2), if_pos (zwt_dC.mpr ⟨c1, c2⟩)]
    · rw [if_pos (Int32.not_le.mp c2), if_neg (fun q => c2 (zwt_dC.mp q).2)]
theorem zwt_dN {i : Nat} (q : zwt_dg T i) : T i = nI (48 + zwt_d T i) ∧ zwt_d T i ≤ 9 := by
  obtain ⟨q1, q2⟩ := q
  unfold zwt_d
  refine ⟨?_, by omega⟩
  apply Int32.toInt_inj.mp
  rw [show (nI (48 + ((T i).toInt - 48).toNat)).toInt = ((48 + ((T i).toInt - 48).toNat : Nat) : Int) from Int32.toInt_ofNat_of_lt (by omega)]
  omega
theorem zwt_ac {m d : Nat} (hd : d ≤ 9) : ((lN m * (10 : Int64)) + ((nI (48 + d)).toInt64)) - (48 : Int64) = lN (m * 10 + d) := by
  rw [zj_32 (by omega), show (10 : Int64) = lN 10 from rfl, lN_mul, lN_add, show (48 : Int64) = lN 48 from rfl, lN_sub (by omega), show m * 10 + (48 + d) - 48 = m * 10 + d by omega]
theorem zwt_ms {V M d : Nat} : min (min V M * 10 + d) M = min (V * 10 + d) M := by omega
/-- the class's digits -/
theorem zwt_C91 {x1 x4 : Int32} (eT : (h.2.1 1) = T) (hn : n ≤ 10240) (h1n : 1 ≤ n) : ∀ (m i N V : Nat), i + m = n - 1 → m < N → ((∀ j, i ≤ j → j < n - 1 → zwt_dg T j) → f_Pk_indexOnTape_L91 h N x1 (nI n) x4 (lN (min V 1099511627776)) (nI i) = f_Pk_indexOnTape_171 h x1 (if x4 = 0 then lN (min (zwt_v T m i V) 1099511627776) else -lN (min (zwt_v T m i V) 1099511627776))) ∧ ((¬ ∀ j, i ≤ j → j < n - 1 → zwt_dg T j) → f_Pk_indexOnTape_L91 h N x1 (nI n) x4 (lN (min V 1099511627776)) (nI i) = some (-1)) := by
  have e1 : nI n - 1 = nI (n - 1) := zi_sub (b := 1) h1n
  intro m
  induction m with
  | zero =>
    intro i N V hi hN
    obtain ⟨N, rfl⟩ : ∃ z, N = z + 1 := ⟨N - 1, by omega⟩
    refine ⟨fun _ => ?_, fun q => absurd (fun j _ _ => by omega) q⟩
    show f_Pk_indexOnTape_91 h (f_Pk_indexOnTape_L91 h N) x1 (nI n) x4 (lN (min V 1099511627776)) (nI i) = _
    unfold f_Pk_indexOnTape_91
    rw [e1, if_pos ((nI_leI (by omega) (by omega)).mpr (by omega))]
    show _ = f_Pk_indexOnTape_171 h x1 (if x4 = 0 then lN (min V 1099511627776) else -lN (min V 1099511627776))
    split <;> rfl
  | succ m ih =>
    intro i N V hi hN
    obtain ⟨N, rfl⟩ : ∃ z, N = z + 1 := ⟨N - 1, by omega⟩
    have e0 : f_Pk_indexOnTape_L91 h (N + 1) x1 (nI n) x4 (lN (min V 1099511627776)) (nI i) = if T i < 48 then some (-1) else if T i ≤ 57 then f_Pk_indexOnTape_L91 h N x1 (nI n) x4 (zd_minl (((lN (min V 1099511627776) * (10 : Int64)) + ((T i).toInt64)) - (48 : Int64)) (1099511627776 : Int64)) (nI (i + 1)) else some (-1) := by
      show f_Pk_indexOnTape_91 h (f_Pk_indexOnTape_L91 h N) x1 (nI n) x4 (lN (min V 1099511627776)) (nI i) = _
      unfold f_Pk_indexOnTape_91
      rw [e1, if_neg (mt (nI_leI (by omega) (by omega)).mp (by omega)), if_pos (zi_in (by omega) (show i < 16384 by omega)), nI_clamp (by omega), eT, nI_1]
    rw [e0]
    by_cases q : zwt_dg T i
    · obtain ⟨q1, q2⟩ := zwt_dC.mp q
      obtain ⟨d1, d2⟩ := zwt_dN q
      rw [if_neg q1, if_pos q2]
      have es : zd_minl (((lN (min V 1099511627776) * (10 : Int64)) + ((T i).toInt64)) - (48 : Int64)) (1099511627776 : Int64) = lN (min (V * 10 + zwt_d T i) 1099511627776) := by
        rw [d1, zwt_ac d2, show (1099511627776 : Int64) = lN 1099511627776 from rfl, zl_minl (by omega) (by decide), zwt_ms]
      rw [es]
      obtain ⟨i1, i2⟩ := ih (i + 1) N (V * 10 + zwt_d T i) (by omega) (by omega)
      refine ⟨fun w => i1 (fun j h1 h2 => w j (by omega) h2), fun w => i2 (fun y => w (fun j h1 h2 => ?_))⟩
      by_cases ej : j = i
      · subst ej; exact q
      · exact y j (by omega) h2
    · refine ⟨fun w => absurd (w i (Nat.le_refl _) (by omega)) q, fun _ => ?_⟩
      by_cases c1 : T i < 48
      · rw [if_pos c1]
      · rw [if_neg c1, if_neg (fun c2 => q (zwt_dC.mpr ⟨c1, c2⟩))]
/-- the model's digits -/
theorem zwt_M34 {x1 x2 x5 : Int32} : ∀ (m i N V : Nat) (g : zs_H), i + m = n → m < N → zwt_P T n i g → ∃ e g', (i ≤ e ∧ e ≤ n) ∧ (∀ j, i ≤ j → j < e → zwt_dg T j) ∧ (e < n → ¬ zwt_dg T e) ∧ f_Mo_readIndex_L34 N g x1 x2 (lN (min V 3000000000)) x5 = f_Mo_readIndex_110 g' x1 x2 (lN (min (zwt_v T (e - i) i V) 3000000000)) x5 ∧ zfr [(68, 93)] [] [] g g' ∧ zwt_P T n e g' := by
  intro m
  induction m with
  | zero =>
    intro i N V g hi hN P
    obtain ⟨N, rfl⟩ : ∃ z, N = z + 1 := ⟨N - 1, by omega⟩
    have hn := P.1
    refine ⟨i, g, ⟨Nat.le_refl _, by omega⟩, fun j h1 h2 => by omega, fun q => by omega, ?_, zfr_rfl, P⟩
    show f_Mo_readIndex_34 (f_Mo_readIndex_L34 N) g x1 x2 (lN (min V 3000000000)) x5 = _
    unfold f_Mo_readIndex_34
    rw [P.2.2.2.1, P.2.2.2.2, if_pos ((nI_leI (by omega) (by omega)).mpr (by omega)), Nat.sub_self]
    rfl
  | succ m ih =>
    intro i N V g hi hN P
    obtain ⟨N, rfl⟩ : ∃ z, N = z + 1 := ⟨N - 1, by omega⟩
    have hn := P.1
    have e0 : f_Mo_readIndex_L34 (N + 1) g x1 x2 (lN (min V 3000000000)) x5 = if f_Mo_isDigit (T i) = 0 then f_Mo_readIndex_110 g x1 x2 (lN (min V 3000000000)) x5 else if (((lN (min V 3000000000) * (10 : Int64)) + ((T i).toInt64)) - (48 : Int64)) ≤ (3000000000 : Int64) then f_Mo_readIndex_L34 N (zs_uF g 68 93 (nI (i + 1))) x1 x2 (((lN (min V 3000000000) * (10 : Int64)) + ((T i).toInt64)) - (48 : Int64)) x5 else f_Mo_readIndex_L34 N (zs_uF g 68 93 (nI (i + 1))) x1 x2 (3000000000 : Int64) x5 := by
      show f_Mo_readIndex_34 (f_Mo_readIndex_L34 N) g x1 x2 (lN (min V 3000000000)) x5 = _
      unfold f_Mo_readIndex_34 f_Mo_readIndex_96
      rw [P.2.2.2.1, P.2.2.2.2, if_neg (mt (nI_leI (by omega) (by omega)).mp (by omega)), if_pos (zi_in (by omega) (show i < 16384 by omega)), nI_clamp (by omega), P.2.2.1 i (by omega), nI_1]
    rw [e0, zwt_dM]
    by_cases q : zwt_dg T i
    · obtain ⟨d1, d2⟩ := zwt_dN q
      rw [if_pos q, if_neg (show ¬ (1 : Int32) = 0 by decide)]
      have es : ((lN (min V 3000000000) * (10 : Int64)) + ((T i).toInt64)) - (48 : Int64) = lN (min V 3000000000 * 10 + zwt_d T i) := by rw [d1]; exact zwt_ac d2
      obtain ⟨e, g', a1, a2, a3, a4, a5, a6⟩ := ih (i + 1) N (V * 10 + zwt_d T i) (zs_uF g 68 93 (nI (i + 1))) (by omega) (by omega) ⟨⟨hn.1, by omega⟩, P.2.1, P.2.2.1, P.2.2.2.1, rfl⟩
      refine ⟨e, g', by omega, fun j h1 h2 => ?_, a3, ?_, zfr_trans (zfr_F (by decide) zfr_rfl) a5, a6⟩
      · by_cases ej : j = i
        · subst ej; exact q
        · exact a2 j (by omega) h2
      · have ev : zwt_v T (e - i) i V = zwt_v T (e - (i + 1)) (i + 1) (V * 10 + zwt_d T i) := by
          rw [show e - i = (e - (i + 1)) + 1 by omega]; rfl
        rw [ev, ← a4, es]
        by_cases c : min V 3000000000 * 10 + zwt_d T i ≤ 3000000000
        · rw [if_pos ((zj_el (k := 3000000000) (by decide) (by omega)).mpr c), show min (V * 10 + zwt_d T i) 3000000000 = min V 3000000000 * 10 + zwt_d T i by omega]
        · rw [if_neg (mt (zj_el (k := 3000000000) (by decide) (by omega)).mp c), show min (V * 10 + zwt_d T i) 3000000000 = 3000000000 by omega]
          rfl
    · rw [if_neg q, if_pos (show (0 : Int32) = 0 from rfl)]
      refine ⟨i, g, ⟨Nat.le_refl _, by omega⟩, fun j h1 h2 => by omega, fun _ => q, ?_, zfr_rfl, P⟩
      rw [Nat.sub_self]; rfl
theorem zwt_147 {x2 : Int32} {x3 : Int64} : f_Mo_readIndex_147 g x2 x3 = some (0, zs_uF g 68 93 (-1)) := by
  unfold f_Mo_readIndex_147 f_Mo_readIndex_148 f_Mo_readIndex_159 f_Mo_readIndex_180
  split <;> rw [if_pos (show (0 : Int32) = 0 from rfl)]
theorem zwt_110 {e f : Nat} {x2 : Int32} {x3 : Int64} (P : zwt_P T n e g) (hf : f ≤ n) : ∃ g', zfr [(68, 93)] [] [] g g' ∧ (((f < e ∧ e + 1 = n ∧ T e = 93) ∧ f_Mo_readIndex_110 g 1 x2 x3 (nI f) = f_Mo_readIndex_148 g' x2 x3 1 ∧ zwt_P T n n g') ∨ (¬ (f < e ∧ e + 1 = n ∧ T e = 93) ∧ f_Mo_readIndex_110 g 1 x2 x3 (nI f) = some (0, g') ∧ (g'.1 68 93) = -1)) := by
  have hn := P.1
  unfold f_Mo_readIndex_110
  rw [if_neg (show ¬ (1 : Int32) = 0 by decide), P.2.2.2.2]
  by_cases c1 : e ≤ f
  · rw [if_pos ((nI_leI (by omega) (by omega)).mpr c1), zwt_147]
    exact ⟨_, zfr_F (by decide) zfr_rfl, .inr ⟨fun q => by omega, rfl, rfl⟩⟩
  rw [if_neg (mt (nI_leI (by omega) (by omega)).mp c1)]
  rcases zwt_pas P 93 with ⟨p1, p2, p3, p4⟩ | ⟨p1, p3, p4⟩
  · rw [p3, yL_B, if_neg (show ¬ (1 : Int32) = 0 by decide), p4.2.2.2.1, p4.2.2.2.2]
    by_cases c2 : e + 1 = n
    · rw [if_pos (congrArg nI c2)]
      rw [c2] at p4
      exact ⟨_, zfr_F (by decide) zfr_rfl, .inl ⟨⟨by omega, c2, p2⟩, by rw [c2], p4⟩⟩
    · rw [if_neg (mt (nI_eq (by omega) (by omega)).mp c2), zwt_147]
      exact ⟨_, zfr_F (by decide) (zfr_F (by decide) zfr_rfl), .inr ⟨fun q => c2 q.2.1, rfl, rfl⟩⟩
  · rw [p3, yL_B, if_pos (show (0 : Int32) = 0 from rfl), zwt_147]
    exact ⟨_, zfr_F (by decide) (zfr_F (by decide) zfr_rfl), .inr ⟨fun q => p1 ⟨by omega, q.2.2⟩, rfl, rfl⟩⟩
def zwt_sg (T : Nat → Int32) (n a : Nat) : Nat := if a + 1 < n ∧ T (a + 1) = 45 then 1 else 0
def zwt_io (T : Nat → Int32) (n a : Nat) : Prop := (a < n ∧ T a = 91) ∧ a + 1 + zwt_sg T n a + 1 < n ∧ T (n - 1) = 93 ∧ ∀ j, a + 1 + zwt_sg T n a ≤ j → j < n - 1 → zwt_dg T j
def zwt_iv (T : Nat → Int32) (n a : Nat) : Nat := zwt_v T (n - 1 - (a + 1 + zwt_sg T n a)) (a + 1 + zwt_sg T n a) 0
theorem zwt_93 {i : Nat} (h : T i = 93) : ¬ zwt_dg T i := fun q => by
  have := q.2
  rw [h, show (93 : Int32).toInt = 93 from by decide] at this
  omega
theorem zwt_riM (P : zwt_P T n a g) : ∃ g', zfr [(68, 93)] [] [] g g' ∧ ((zwt_io T n a ∧ f_Mo_readIndex g = f_Mo_readIndex_148 g' (nI (zwt_sg T n a)) (lN (min (zwt_iv T n a) 3000000000)) 1 ∧ zwt_P T n n g') ∨ (¬ zwt_io T n a ∧ f_Mo_readIndex g = some (0, g') ∧ (g'.1 68 93) = -1)) := by
  have hz := zF_big
  have hn := P.1
  have z0 : (0 : Int64) = lN (min 0 3000000000) := by decide
  have main : ∀ (f sg : Nat) (g1 : zs_H), zwt_P T n f g1 → f = a + 1 + sg → sg = zwt_sg T n a → (a < n ∧ T a = 91) → zfr [(68, 93)] [] [] g g1 → f_Mo_readIndex g = f_Mo_readIndex_L34 zF g1 1 (nI sg) (0 : Int64) (nI f) → ∃ g', zfr [(68, 93)] [] [] g g' ∧ ((zwt_io T n a ∧ f_Mo_readIndex g = f_Mo_readIndex_148 g' (nI (zwt_sg T n a)) (lN (min (zwt_iv T n a) 3000000000)) 1 ∧ zwt_P T n n g') ∨ (¬ zwt_io T n a ∧ f_Mo_readIndex g = some (0, g') ∧ (g'.1 68 93) = -1)) := fun f sg g1 P1 ef es ha fr er => by
    have hn1 := P1.1
    obtain ⟨e, g2, a1, a2, a3, a4, a5, a6⟩ := zwt_M34 (x1 := 1) (x2 := nI sg) (x5 := nI f) (n - f) f zF 0 g1 (by omega) (by omega) P1
    obtain ⟨g3, b1, b2⟩ := zwt_110 (f := f) (x2 := nI sg) (x3 := lN (min (zwt_v T (e - f) f 0) 3000000000)) a6 (by omega)
    rw [z0, a4] at er
    refine ⟨g3, zfr_trans fr (zfr_trans a5 b1), ?_⟩
    rcases b2 with ⟨⟨c1, c2, c3⟩, c4, c5⟩ | ⟨c1, c4, c5⟩
    · left
      have ee : e = n - 1 := by omega
      refine ⟨⟨ha, by rw [← es, ← ef]; omega, by rw [← ee]; exact c3, fun j h1 h2 => a2 j (by rw [ef, es]; exact h1) (by omega)⟩, ?_, c5⟩
      rw [er, c4, es]
      unfold zwt_iv
      rw [← es, ← ef, ee]
    · right
      refine ⟨fun q => c1 ?_, by rw [er, c4], c5⟩
      obtain ⟨_, q2, q3, q4⟩ := q
      rw [← es, ← ef] at q2 q4
      have ee : e = n - 1 := by
        by_cases y : e < n - 1
        · exact absurd (q4 e a1.1 y) (a3 (by omega))
        · by_cases y2 : e = n
          · exact absurd (a2 (n - 1) (by omega) (by omega)) (zwt_93 q3)
          · omega
      exact ⟨by omega, by omega, by rw [ee]; exact q3⟩
  rcases zwt_pas P 91 with ⟨p1, p2, p3, p4⟩ | ⟨p1, p3, p4⟩
  · rcases zwt_pas p4 45 with ⟨r1, r2, r3, r4⟩ | ⟨r1, r3, r4⟩
    · refine main (a + 1 + 1) 1 _ r4 rfl (by unfold zwt_sg; rw [if_pos ⟨r1, r2⟩]) ⟨p1, p2⟩ (zfr_F (by decide) (zfr_F (by decide) zfr_rfl)) ?_
      unfold f_Mo_readIndex f_Mo_readIndex_25
      rw [p3, yL_B, if_neg (show ¬ (1 : Int32) = 0 by decide), r3, yL_B, if_neg (show ¬ (1 : Int32) = 0 by decide)]
      rfl
    · refine main (a + 1) 0 _ r4 rfl (by unfold zwt_sg; rw [if_neg r1]) ⟨p1, p2⟩ (zfr_F (by decide) (zfr_F (by decide) zfr_rfl)) ?_
      unfold f_Mo_readIndex f_Mo_readIndex_24 f_Mo_readIndex_25
      rw [p3, yL_B, if_neg (show ¬ (1 : Int32) = 0 by decide), r3, yL_B, if_pos (show (0 : Int32) = 0 from rfl)]
      rfl
  · obtain ⟨e, g2, a1, a2, a3, a4, a5, a6⟩ := zwt_M34 (x1 := 0) (x2 := 0) (x5 := nI a) (n - a) a zF 0 _ (by omega) (by omega) p4
    refine ⟨zs_uF g2 68 93 (-1), zfr_F (by decide) (zfr_trans (zfr_F (by decide) zfr_rfl) a5), .inr ⟨fun q => p1 q.1, ?_, rfl⟩⟩
    unfold f_Mo_readIndex f_Mo_readIndex_24 f_Mo_readIndex_25
    rw [p3, yL_B, if_pos (show (0 : Int32) = 0 from rfl)]
    show f_Mo_readIndex_L34 zF (zs_uF g 68 93 (nI a)) 0 0 (0 : Int64) (nI a) = _
    rw [z0, a4]
    unfold f_Mo_readIndex_110
    rw [if_pos (show (0 : Int32) = 0 from rfl), zwt_147]
theorem zwt_riC {x1 : Int32} (eT : (h.2.1 1) = T) (hn : n ≤ 10240) (ha : a ≤ n) : (zwt_io T n a ∧ f_Pk_indexOnTape h x1 (nI a) (nI n) = f_Pk_indexOnTape_171 h x1 (if zwt_sg T n a = 0 then lN (min (zwt_iv T n a) 1099511627776) else -lN (min (zwt_iv T n a) 1099511627776))) ∨ (¬ zwt_io T n a ∧ f_Pk_indexOnTape h x1 (nI a) (nI n) = some (-1)) := by
  have hz := zF_big
  unfold f_Pk_indexOnTape
  by_cases c1 : n ≤ a
  · rw [if_pos ((nI_leI (by omega) (by omega)).mpr c1)]
    exact .inr ⟨fun q => by have := q.1.1; omega, rfl⟩
  rw [if_neg (mt (nI_leI (by omega) (by omega)).mp c1), if_pos (zi_in (by omega) (show a < 16384 by omega)), nI_clamp (by omega), eT, show nI n - 1 = nI (n - 1) from zi_sub (b := 1) (by omega), if_pos (zi_in (by omega) (show n - 1 < 16384 by omega)), nI_clamp (by omega), nI_1]
  by_cases c2 : T a = 91
  · rw [if_pos c2]
    by_cases c3 : T (n - 1) = 93
    · rw [if_pos c3]
      have main : ∀ sg, sg = zwt_sg T n a → sg ≤ 1 → (zwt_io T n a ∧ f_Pk_indexOnTape_72 h x1 (nI n) (nI sg) (nI (a + 1 + sg)) = f_Pk_indexOnTape_171 h x1 (if zwt_sg T n a = 0 then lN (min (zwt_iv T n a) 1099511627776) else -lN (min (zwt_iv T n a) 1099511627776))) ∨ (¬ zwt_io T n a ∧ f_Pk_indexOnTape_72 h x1 (nI n) (nI sg) (nI (a + 1 + sg)) = some (-1)) := fun sg es h1 => by
        unfold f_Pk_indexOnTape_72
        rw [show nI n - 1 = nI (n - 1) from zi_sub (b := 1) (by omega)]
        by_cases c4 : a + 1 + sg < n - 1
        · rw [if_pos ((nI_ltI (by omega) (by omega)).mpr c4), show (0 : Int64) = lN (min 0 1099511627776) from by decide]
          obtain ⟨i1, i2⟩ := zwt_C91 (x1 := x1) (x4 := nI sg) eT hn (by omega) (n - 1 - (a + 1 + sg)) (a + 1 + sg) zF 0 (by omega) (by omega)
          by_cases c5 : ∀ j, a + 1 + sg ≤ j → j < n - 1 → zwt_dg T j
          · refine .inl ⟨⟨⟨by omega, c2⟩, by rw [← es]; omega, c3, by rw [← es]; exact c5⟩, ?_⟩
            rw [i1 c5]
            unfold zwt_iv
            rw [← es]
            by_cases c6 : sg = 0
            · rw [if_pos c6, if_pos (by rw [c6]; rfl)]
            · rw [if_neg c6, if_neg (fun q => c6 ((zc_eq (k := 0) (by decide) (by omega)).mp q))]
          · exact .inr ⟨fun q => c5 (by rw [es]; exact q.2.2.2), i2 c5⟩
        · rw [if_neg (mt (nI_ltI (by omega) (by omega)).mp c4)]
          exact .inr ⟨fun q => by have := q.2.1; rw [← es] at this; omega, rfl⟩
      have m0 : zwt_sg T n a = 0 → _ := fun q => main 0 q.symm (by decide)
      have m1 : zwt_sg T n a = 1 → _ := fun q => main 1 q.symm (by decide)
      have f0 : f_Pk_indexOnTape_55 h x1 (nI a) (nI n) = f_Pk_indexOnTape_72 h x1 (nI n) (nI 0) (nI (a + 1 + 0)) := by
        unfold f_Pk_indexOnTape_55 f_Pk_indexOnTape_56
        rw [if_pos (show (0 : Int32) = 0 from rfl), nI_1]
        rfl
      have f1 : f_Pk_indexOnTape_56 h x1 (nI a) (nI n) 1 = f_Pk_indexOnTape_72 h x1 (nI n) (nI 1) (nI (a + 1 + 1)) := by
        unfold f_Pk_indexOnTape_56
        rw [if_neg (show ¬ (1 : Int32) = 0 by decide), show nI a + 2 = nI (a + 2) from nI_add a 2]
        rfl
      by_cases c4 : n ≤ a + 1
      · rw [if_pos ((nI_leI (by omega) (by omega)).mpr c4), f0]
        exact m0 (by unfold zwt_sg; rw [if_neg (fun q => by omega)])
      · rw [if_neg (mt (nI_leI (by omega) (by omega)).mp c4), if_pos (zi_in (by omega) (show a + 1 < 16384 by omega)), nI_clamp (by omega)]
        by_cases c5 : T (a + 1) = 45
        · rw [if_pos c5, f1]
          exact m1 (by unfold zwt_sg; rw [if_pos ⟨by omega, c5⟩])
        · rw [if_neg c5, f0]
          exact m0 (by unfold zwt_sg; rw [if_neg (fun q => c5 q.2)])
    · rw [if_neg c3]
      exact .inr ⟨fun q => c3 q.2.2.1, rfl⟩
  · rw [if_neg c2]
    exact .inr ⟨fun q => c2 q.1.2, rfl⟩
theorem zwt_171 {u s : Nat} {lw : Int32} {y : Int64} {z : Int} (hu : u < 6000) (l1 : (h.2.1 33) u = lw) (s1 : (h.2.1 34) u = nI s) (hs : s ≤ 30000) (hy : y.toInt = z) (hz : -2199023255552 ≤ z ∧ z ≤ 2199023255552) : f_Pk_indexOnTape_171 h (nI u) y = some (if 0 ≤ z - lw.toInt ∧ z - lw.toInt < s then nI (z - lw.toInt).toNat else -1) := by
  have b1 := Int32.toInt_lt lw
  have b2 := Int32.le_toInt lw
  have ed : (y - lw.toInt64).toInt = z - lw.toInt := by
    rw [Int64.toInt_sub, hy, Int32.toInt_toInt64]
    exact Int.bmod_eq_of_le (by omega) (by omega)
  unfold f_Pk_indexOnTape_171
  rw [if_pos (zi_in (by omega) hu), nI_clamp (by omega), l1, s1, zj_32 (by omega)]
  by_cases c1 : z - lw.toInt < 0
  · rw [if_pos (Int64.lt_iff_toInt_lt.mpr (by rw [ed, show (0 : Int64).toInt = 0 from by decide]; exact c1)), if_neg (fun q => by omega)]
  rw [if_neg (fun q => c1 (by have := Int64.lt_iff_toInt_lt.mp q; rw [ed, show (0 : Int64).toInt = 0 from by decide] at this; exact this))]
  by_cases c2 : (s : Int) ≤ z - lw.toInt
  · rw [if_pos (Int64.le_iff_toInt_le.mpr (by rw [ed, zwt_tl (by omega)]; exact c2)), if_neg (fun q => by omega)]
  · rw [if_neg (fun q => c2 (by have := Int64.le_iff_toInt_le.mp q; rw [ed, zwt_tl (by omega)] at this; exact this)), if_pos ⟨by omega, by omega⟩, zwt_toN (k := (z - lw.toInt).toNat) (by rw [ed]; omega) (by omega)]
theorem zwt_148 {sg V : Nat} (P : zwt_P T n n g) (hsg : sg ≤ 1) (hV : V ≤ 3000000000) : ∃ z : Int, z = (if sg = 0 then (V : Int) else -(V : Int)) ∧ ((-2147483648 ≤ z ∧ z ≤ 2147483647 ∧ ∃ i : Int32, i.toInt = z ∧ f_Mo_readIndex_148 g (nI sg) (lN V) 1 = some (i, g)) ∨ (¬ (-2147483648 ≤ z ∧ z ≤ 2147483647) ∧ f_Mo_readIndex_148 g (nI sg) (lN V) 1 = some (0, zs_uF g 68 93 (-1)))) := by
  have key : ∀ (y : Int64) (z : Int), y.toInt = z → ((-2147483648 ≤ z ∧ z ≤ 2147483647 ∧ ∃ i : Int32, i.toInt = z ∧ f_Mo_readIndex_159 g 1 y = some (i, g)) ∨ (¬ (-2147483648 ≤ z ∧ z ≤ 2147483647) ∧ f_Mo_readIndex_159 g 1 y = some (0, zs_uF g 68 93 (-1)))) := fun y z hy => by
    unfold f_Mo_readIndex_159 f_Mo_readIndex_180
    rw [if_neg (show ¬ (1 : Int32) = 0 by decide)]
    by_cases c1 : 2147483647 < z
    · rw [if_pos (Int64.lt_iff_toInt_lt.mpr (by rw [hy, show (2147483647 : Int64).toInt = 2147483647 from by decide]; exact c1))]
      exact .inr ⟨fun q => by omega, rfl⟩
    rw [if_neg (fun q => c1 (by have := Int64.lt_iff_toInt_lt.mp q; rw [hy, show (2147483647 : Int64).toInt = 2147483647 from by decide] at this; exact this))]
    by_cases c2 : -2147483648 ≤ z
    · rw [if_pos (Int64.le_iff_toInt_le.mpr (by rw [hy, show (-2147483648 : Int64).toInt = -2147483648 from by decide]; exact c2))]
      refine .inl ⟨c2, by omega, y.toInt32, ?_, rfl⟩
      rw [Int64.toInt_toInt32, hy]
      exact Int.bmod_eq_of_le (by omega) (by omega)
    · rw [if_neg (fun q => c2 (by have := Int64.le_iff_toInt_le.mp q; rw [hy, show (-2147483648 : Int64).toInt = -2147483648 from by decide] at this; exact this))]
      exact .inr ⟨fun q => c2 q.1, rfl⟩
  refine ⟨_, rfl, ?_⟩
  unfold f_Mo_readIndex_148
  by_cases c : sg = 0
  · rw [if_pos c, if_pos (show nI sg = 0 by rw [c]; rfl)]
    exact key _ _ (zwt_tl (by omega))
  · rw [if_neg (fun q => c ((zc_eq (k := 0) (by decide) (by omega)).mp q)), if_neg c]
    refine key _ _ ?_
    rw [Int64.toInt_neg, zwt_tl (by omega)]
    exact Int.bmod_eq_of_le (by omega) (by omega)
/-- the index, on both sides -/
theorem zwt_idx {u v s : Nat} {lw base : Int32} (eT : (h.2.1 1) = T) (P : zwt_P T n a g) (hu : u < 6000) (hv : v < 8400) (l1 : (h.2.1 33) u = lw) (l2 : (g.2.1 97) v = lw) (s1 : (h.2.1 34) u = nI s) (s2 : (g.2.1 98) v = nI s) (hs : s ≤ 30000) (hl : lw.toInt + s ≤ 2147483648) : ∃ r g', f_Pk_indexOnTape h (nI u) (nI a) (nI n) = some r ∧ zfr [(68, 93)] [] [] g g' ∧ ((r = -1 ∧ zwt_I g (nI v) base = some (-1, g')) ∨ ∃ k, k < s ∧ r = nI k ∧ zwt_I g (nI v) base = f_Mo_see g' ((g.2.1 93) v) (base + (g.2.1 94) v + nI k)) := by
  have hn := P.1
  have b1 := Int32.toInt_lt lw
  have b2 := Int32.le_toInt lw
  obtain ⟨g1, f1, alt⟩ := zwt_riM P
  have C := zwt_riC (x1 := nI u) eT hn.1 hn.2
  have sgl : zwt_sg T n a ≤ 1 := by unfold zwt_sg; split <;> decide
  have fail : ∀ g2, f_Mo_readIndex g = some (0, g2) → (g2.1 68 93) = -1 → zwt_I g (nI v) base = some (-1, g2) := fun g2 q1 q2 => by
    unfold zwt_I
    rw [q1, yL_B, q2, if_pos (show (-1 : Int32) < 0 by decide)]
  rcases alt with ⟨ok, r1, P1⟩ | ⟨ok, r1, r2⟩
  · rcases C with ⟨_, c1⟩ | ⟨no, _⟩
    · generalize zwt_iv T n a = V at r1 c1
      generalize zwt_sg T n a = sg at r1 c1 sgl
      obtain ⟨z, ez, alt⟩ := zwt_148 (sg := sg) (V := min V 3000000000) P1 sgl (by omega)
      obtain ⟨y, ey⟩ : ∃ y : Int64, y = (if sg = 0 then lN (min V 1099511627776) else -lN (min V 1099511627776)) := ⟨_, rfl⟩
      have ty : y.toInt = (if sg = 0 then ((min V 1099511627776 : Nat) : Int) else -((min V 1099511627776 : Nat) : Int)) := by
        rw [ey]
        split
        · exact zwt_tl (by omega)
        · rw [Int64.toInt_neg, zwt_tl (by omega)]
          exact Int.bmod_eq_of_le (by omega) (by omega)
      rw [← ey, zwt_171 hu l1 s1 hs ty (by split <;> omega)] at c1
      rcases alt with ⟨w1, w2, i, w3, w4⟩ | ⟨w1, w2⟩
      · have ez2 : (if sg = 0 then ((min V 1099511627776 : Nat) : Int) else -((min V 1099511627776 : Nat) : Int)) = z := by
          rw [ez]
          by_cases c : sg = 0
          · rw [if_pos c] at ez ⊢
            rw [if_pos c]; omega
          · rw [if_neg c] at ez ⊢
            rw [if_neg c]; omega
        rw [ez2] at c1
        obtain ⟨x1, x2⟩ := zwt_wrap (z := z) (l := lw.toInt) hs w1 (by omega) (by omega) (by omega) hl
        have ti : (i - lw).toInt = (z - lw.toInt).bmod (2 ^ 32) := by rw [Int32.toInt_sub, w3]
        have hpa : ¬ (g1.1 68 93) < 0 := by rw [P1.2.2.2.2]; exact mt (zc_tl (k := 0) (by decide) (by omega)).mp (by omega)
        have eI : zwt_I g (nI v) base = (if (i - lw) < 0 then (some ((-1), g1)) else (if nI s ≤ (i - lw) then (some ((-1), g1)) else f_Mo_see g1 ((g.2.1 93) v) ((base + (g.2.1 94) v) + (i - lw)))) := by
          unfold zwt_I
          rw [r1, w4, yL_B, if_neg hpa, nI_clamp (by omega), f1.2.1 97 List.not_mem_nil, f1.2.1 98 List.not_mem_nil, f1.2.1 93 List.not_mem_nil, f1.2.1 94 List.not_mem_nil, l2, s2]
        by_cases q : 0 ≤ z - lw.toInt ∧ z - lw.toInt < s
        · rw [if_pos q] at c1
          have ei : i - lw = nI (z - lw.toInt).toNat := by
            apply Int32.toInt_inj.mp
            rw [ti, x2 q.1 q.2, zln_ti (by omega)]
            omega
          refine ⟨_, g1, c1, f1, .inr ⟨(z - lw.toInt).toNat, by omega, rfl, ?_⟩⟩
          rw [eI, ei, if_neg (mt (zc_tl (k := 0) (by decide) (by omega)).mp (by omega)), if_neg (mt (nI_leI (by omega) (by omega)).mp (by omega))]
        · rw [if_neg q] at c1
          refine ⟨_, g1, c1, f1, .inl ⟨rfl, ?_⟩⟩
          rw [eI]
          by_cases y1 : (i - lw) < 0
          · rw [if_pos y1]
          · rw [if_neg y1, if_pos]
            rw [Int32.le_iff_toInt_le, zln_ti (by omega), ti]
            rw [Int32.lt_iff_toInt_lt, ti, show (0 : Int32).toInt = 0 from by decide] at y1
            have := mt x1.mp q
            omega
      · have nq : ¬ (0 ≤ (if sg = 0 then ((min V 1099511627776 : Nat) : Int) else -((min V 1099511627776 : Nat) : Int)) - lw.toInt ∧ (if sg = 0 then ((min V 1099511627776 : Nat) : Int) else -((min V 1099511627776 : Nat) : Int)) - lw.toInt < s) := by
          rw [ez] at w1
          by_cases c : sg = 0
          · rw [if_pos c] at w1
            rw [if_pos c]; omega
          · rw [if_neg c] at w1
            rw [if_neg c]; omega
        rw [if_neg nq] at c1
        exact ⟨_, zs_uF g1 68 93 (-1), c1, zfr_F (by decide) f1, .inl ⟨rfl, fail _ (r1.trans w2) rfl⟩⟩
    · exact absurd ok no
  · rcases C with ⟨yes, _⟩ | ⟨_, c1⟩
    · exact absurd yes ok
    · exact ⟨-1, g1, c1, f1, .inl ⟨rfl, fail g1 r1 r2⟩⟩
end ZWO
