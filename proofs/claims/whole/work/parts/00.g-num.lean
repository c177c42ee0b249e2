/-! Numbers, times, places and signs of a text; the model's next token. -/
theorem zu_c {h : zs_H} {k j : Nat} {a b : Int32} : zs_uF (zs_uF h k j a) k j b = zs_uF h k j b := by
  unfold zs_uF
  refine Prod.ext ?_ rfl
  funext x y
  show (if x = k ∧ y = j then b else if x = k ∧ y = j then a else h.1 x y) = (if x = k ∧ y = j then b else h.1 x y)
  split <;> rfl
theorem zu_s {h : zs_H} {k j : Nat} {a : Int32} (e : h.1 k j = a) : zs_uF h k j a = h := by
  unfold zs_uF
  refine Prod.ext ?_ rfl
  funext x y
  show (if x = k ∧ y = j then a else h.1 x y) = h.1 x y
  split
  · rename_i q; rw [q.1, q.2, e]
  · rfl
theorem zj_le {a b : Nat} (ha : a < 9223372036854775808) (hb : b < 9223372036854775808) : lN a ≤ lN b ↔ a ≤ b := Int64.ofNat_le_iff_le ha hb
theorem zj_lt {a b : Nat} (ha : a < 9223372036854775808) (hb : b < 9223372036854775808) : lN a < lN b ↔ a < b := Int64.ofNat_lt_iff_lt ha hb
theorem zj_eq {a b : Nat} (ha : a < 9223372036854775808) (hb : b < 9223372036854775808) : lN a = lN b ↔ a = b := by
  constructor
  · intro h
    have h1 := (zj_le ha hb).mp (by rw [h]; exact Int64.le_refl _)
    have h2 := (zj_le hb ha).mp (by rw [h]; exact Int64.le_refl _)
    omega
  · intro h; rw [h]
theorem zj_el {k t : Nat} (hk : k < 9223372036854775808) (ht : t < 9223372036854775808) : lN t ≤ (OfNat.ofNat k : Int64) ↔ t ≤ k := zj_le ht hk
theorem zj_gt {k t : Nat} (hk : k < 9223372036854775808) (ht : t < 9223372036854775808) : (OfNat.ofNat k : Int64) < lN t ↔ k < t := zj_lt hk ht
theorem zj_nn {a : Nat} (ha : a < 9223372036854775808) : ¬ lN a < 0 := mt (zj_lt (b := 0) ha (by decide)).mp (by omega)
def zl_d (T : Nat → Int32) (n i : Nat) : Nat := (f_Mo_digit (zl_g T n i)).toNatClampNeg
def zl_dp (T : Nat → Int32) (n base i : Nat) : Bool := decide (f_Mo_digit (zl_g T n i) < nI base)
def zl_dr (T : Nat → Int32) (n base i : Nat) : Nat := zl_run (zl_dp T n base) (n - i) i
def zl_vl (T : Nat → Int32) (n base i : Nat) : Nat → Nat
  | 0 => 0
  | k + 1 => zl_vl T n base i k * base + zl_d T n (i + k)
theorem zl_dg (c : Int32) : 0 ≤ f_Mo_digit c ∧ f_Mo_digit c ≤ 99 := by grind [f_Mo_digit, f_Mo_isDigit]
theorem zl_dn (T : Nat → Int32) (n i : Nat) : f_Mo_digit (zl_g T n i) = nI (zl_d T n i) ∧ zl_d T n i ≤ 99 := by
  have h := zl_dg (zl_g T n i)
  have e : nI (zl_d T n i) = f_Mo_digit (zl_g T n i) := zi_nn (Int32.not_lt.mpr h.1)
  refine ⟨e.symm, ?_⟩
  have h2 := h.2
  rw [← e] at h2
  have h3 : zl_d T n i < 2147483648 := Int32.toNatClampNeg_lt _
  exact (zc_el (k := 99) (by decide) h3).mp h2
theorem zl_dp_hi {T : Nat → Int32} {n i base : Nat} (hb : base ≤ 16) (h : n ≤ i) : zl_dp T n base i = false := by
  unfold zl_dp zl_g
  rw [zl_b_hi h, show f_Mo_digit (f_Nm_great (-1)) = nI 99 from rfl]
  exact decide_eq_false (mt (nI_ltI (by decide) (by omega)).mp (by omega))
def zl_M : Nat := 100000000000000000
def zl_vv (v k : Nat) : Int64 := if k = 0 then -1 else lN (min v zl_M)
theorem zl_min {v base d : Nat} (hb : 1 ≤ base) : min (min v zl_M * base + d) zl_M = min (v * base + d) zl_M := by
  by_cases c : v ≤ zl_M
  · rw [Nat.min_eq_left c]
  · have h1 : min v zl_M = zl_M := Nat.min_eq_right (by omega)
    rw [h1]
    have h2 : zl_M ≤ zl_M * base := Nat.le_mul_of_pos_right _ hb
    have h3 : zl_M * base ≤ v * base := Nat.mul_le_mul_right _ (by omega)
    rw [Nat.min_eq_right (by omega), Nat.min_eq_right (by omega)]
theorem zl_9 {g : zs_H} {T : Nat → Int32} {n s base : Nat} (H : zl_X g T n) (hb : 1 ≤ base) (hb' : base ≤ 16) (hs : s ≤ n + 3) : ∀ m k fuel, n ≤ s + k + m → m < fuel → s + k ≤ n + 3 →
    f_Mo_digits_L9 fuel (zs_uF g 68 8 (nI (s + k))) (nI base) (zl_vv (zl_vl T n base s k) k) = some (zl_vv (zl_vl T n base s (zl_run (zl_dp T n base) m (s + k) - s)) (zl_run (zl_dp T n base) m (s + k) - s), zs_uF g 68 8 (nI (zl_run (zl_dp T n base) m (s + k)))) := by
  have hn := H.2.1
  have hx : ∀ k fuel, s + k ≤ n + 3 → zl_dp T n base (s + k) = false → f_Mo_digits_L9 (fuel + 1) (zs_uF g 68 8 (nI (s + k))) (nI base) (zl_vv (zl_vl T n base s k) k) = some (zl_vv (zl_vl T n base s k) k, zs_uF g 68 8 (nI (s + k))) := by
    intro k fuel h1 h2
    show f_Mo_digits_9 (f_Mo_digits_L9 fuel) _ _ _ = _
    unfold f_Mo_digits_9
    rw [zu_S, zl_great (g := zs_uF g 68 8 (nI (s + k))) (n := n) H (by omega)]
    show (if nI base ≤ f_Mo_digit (zl_g T n (s + k)) then _ else _) = _
    rw [if_pos]
    exact Int32.not_lt.mp (of_decide_eq_false h2)
  intro m
  induction m with
  | zero =>
    intro k fuel h1 h2 h3
    obtain ⟨f, rfl⟩ : ∃ f, fuel = f + 1 := ⟨fuel - 1, by omega⟩
    rw [hx k f h3 (zl_dp_hi hb' (by omega)), show zl_run (zl_dp T n base) 0 (s + k) = s + k from rfl, show s + k - s = k by omega]
  | succ m ih =>
    intro k fuel h1 h2 h3
    obtain ⟨f, rfl⟩ : ∃ f, fuel = f + 1 := ⟨fuel - 1, by omega⟩
    by_cases c : zl_dp T n base (s + k) = true
    · have hlt : s + k < n := Nat.lt_of_not_le fun q => by rw [zl_dp_hi hb' q] at c; exact absurd c (by decide)
      have hd := zl_dn T n (s + k)
      have e2 : zl_run (zl_dp T n base) (m + 1) (s + k) = zl_run (zl_dp T n base) m (s + (k + 1)) := by
        show (if _ then _ else _) = _
        rw [if_pos c]; rfl
      rw [e2, ← ih (k + 1) f (by omega) (by omega) (by omega)]
      show f_Mo_digits_9 (f_Mo_digits_L9 f) _ _ _ = _
      have hg : ∀ y, f_Mo_digits_35 (f_Mo_digits_L9 f) (zs_uF g 68 8 (nI (s + k))) (nI base) (lN y) = f_Mo_digits_L9 f (zs_uF g 68 8 (nI (s + (k + 1)))) (nI base) (lN (min (y * base + zl_d T n (s + k)) zl_M)) ∨ ¬ y ≤ zl_M := by
        intro y
        by_cases hy : y ≤ zl_M
        · refine Or.inl ?_
          unfold f_Mo_digits_35
          rw [zu_S, zl_great (g := zs_uF g 68 8 (nI (s + k))) (n := n) H (by omega)]
          simp only [Option.bind_some]
          have hM : zl_M = 100000000000000000 := rfl
          have hyb : y * base ≤ 1600000000000000000 := by
            have h5 := Nat.mul_le_mul hy hb'
            rw [hM] at h5; omega
          rw [hd.1, nI_l (by omega), nI_l (by omega), lN_mul, lN_add]
          unfold f_Mo_digits_67
          rw [zu_S, nI_1, zu_c]
          by_cases c5 : y * base + zl_d T n (s + k) ≤ zl_M
          · rw [if_pos ((zj_el (k := 100000000000000000) (t := y * base + zl_d T n (s + k)) (by decide) (by omega)).mpr (by rw [hM] at c5; exact c5)), Nat.min_eq_left c5]; rfl
          · rw [if_neg (mt (zj_el (k := 100000000000000000) (t := y * base + zl_d T n (s + k)) (by decide) (by omega)).mp (by rw [hM] at c5; exact c5)), Nat.min_eq_right (by omega)]; rfl
        · exact Or.inr hy
      unfold f_Mo_digits_9
      rw [zu_S, zl_great (g := zs_uF g 68 8 (nI (s + k))) (n := n) H (by omega)]
      simp only [Option.bind_some]
      rw [if_neg (Int32.not_le.mpr (of_decide_eq_true c))]
      by_cases k0 : k = 0
      · subst k0
        have h6 := (hg 0).resolve_right (fun q => q (Nat.zero_le _))
        rw [show zl_vv (zl_vl T n base s 0) 0 = -1 from rfl, if_neg (by decide)]
        rw [show (0 : Int64) = lN 0 from rfl, h6]
        have e7 : zl_vv (zl_vl T n base s (0 + 1)) (0 + 1) = lN (min (0 * base + zl_d T n (s + 0)) zl_M) := rfl
        rw [e7]
      · have e7 : zl_vv (zl_vl T n base s k) k = lN (min (zl_vl T n base s k) zl_M) := if_neg k0
        have e8 : zl_vv (zl_vl T n base s (k + 1)) (k + 1) = lN (min (zl_vl T n base s k * base + zl_d T n (s + k)) zl_M) := if_neg (by omega)
        have h6 := (hg (min (zl_vl T n base s k) zl_M)).resolve_right (fun q => q (Nat.min_le_right _ _))
        have hM : zl_M = 100000000000000000 := rfl
        have h9 := Nat.min_le_right (zl_vl T n base s k) zl_M
        rw [e7, if_pos (Int64.not_lt.mp (zj_nn (by omega))), h6, e8, zl_min hb]
    · have c' : zl_dp T n base (s + k) = false := by simpa using c
      have e2 : zl_run (zl_dp T n base) (m + 1) (s + k) = s + k := zl_run_0 _ _ _ c'
      rw [e2, hx k f h3 c', show s + k - s = k by omega]
theorem zl_digits {g : zs_H} {T : Nat → Int32} {n s base : Nat} (H : zl_X g T n) (hb : 1 ≤ base) (hb' : base ≤ 16) (hs : s ≤ n + 3) : f_Mo_digits g (nI s) (nI base) = some (zl_vv (zl_vl T n base s (zl_dr T n base s - s)) (zl_dr T n base s - s), zs_uF g 68 8 (nI (zl_dr T n base s))) := by
  have h := zl_9 H hb hb' hs (n - s) 0 zF (by omega) (by have := zF_big; have := H.2.1; omega) (by omega)
  exact h
theorem zl_fail {g : zs_H} {a : Nat} {w : Int32} (Ha : (g.1 68 7) = nI a) : f_Mo_fail g w (g.1 68 7) = some (zl_ft g w a) := by
  unfold f_Mo_fail zl_ft
  rw [Ha]
  split <;> rfl
theorem zl_set1 {g : zs_H} {a : Nat} (Ha : (g.1 68 7) = nI a) : f_Mo_settle g (-1) = some (zl_ft g 4 a) := by
  unfold f_Mo_settle f_Mo_settle_25
  rw [if_pos (by decide), zl_fail Ha]; rfl
theorem zl_set2 {g : zs_H} {T : Nat → Int32} {n a e x : Nat} (H : zl_X g T n) (Ha : (g.1 68 7) = nI a) (Hb : (g.1 68 8) = nI e) (he : e < 2147483648) (hx : x < 9223372036854775808) :
    f_Mo_settle g (lN x) = some (if x ≤ 2147483647 ∧ zl_pt T n e = false then zs_uF (zs_uF g 68 6 3) 68 9 (nI x) else zl_ft g 4 a) := by
  unfold f_Mo_settle f_Mo_settle_25
  rw [if_neg (zj_nn hx), zl_fail Ha]
  by_cases c1 : x ≤ 2147483647
  · rw [if_neg (show ¬ (2147483647 : Int64) < lN x from mt (zj_lt (a := 2147483647) (by decide) hx).mp (by omega)), Hb, zl_goesOn H he]
    show (if f_Nm_isPart _ = 0 then _ else _) = _
    by_cases c2 : f_Nm_isPart (zl_b T n e) = 0
    · rw [if_pos c2, if_pos ⟨c1, by unfold zl_pt; rw [decide_eq_false]; exact fun q => q c2⟩, lN_i]
    · rw [if_neg c2, if_neg]; rfl
      intro q
      have q2 := q.2
      unfold zl_pt at q2
      rw [decide_eq_true c2] at q2
      exact absurd q2 (by decide)
  · rw [if_pos (show (2147483647 : Int64) < lN x from (zj_lt (a := 2147483647) (by decide) hx).mpr (by omega)), if_neg (fun q => c1 q.1)]; rfl
/-- a token: its kind, its place, what is behind it, its value; 9 is one that is badly written -/
abbrev zl_T : Type := Nat × Nat × Nat × Nat
def zl_fin (T : Nat → Int32) (n a : Nat) (v : Option Nat) (e : Nat) : zl_T := match v with
  | none => (9, a, e, 4)
  | some x => if x ≤ 2147483647 ∧ zl_pt T n e = false then (3, a, e, x) else (9, a, e, 4)
def zl_nb (T : Nat → Int32) (n a : Nat) : zl_T :=
  if zl_b T n (zl_dr T n 10 a) = 35 then
    (if zl_vl T n 10 a (zl_dr T n 10 a - a) = 16 ∨ zl_vl T n 10 a (zl_dr T n 10 a - a) = 2 then
      zl_fin T n a (if zl_dr T n (zl_vl T n 10 a (zl_dr T n 10 a - a)) (zl_dr T n 10 a + 1) - (zl_dr T n 10 a + 1) = 0 then none else some (zl_vl T n (zl_vl T n 10 a (zl_dr T n 10 a - a)) (zl_dr T n 10 a + 1) (zl_dr T n (zl_vl T n 10 a (zl_dr T n 10 a - a)) (zl_dr T n 10 a + 1) - (zl_dr T n 10 a + 1)))) (zl_dr T n (zl_vl T n 10 a (zl_dr T n 10 a - a)) (zl_dr T n 10 a + 1))
    else (9, a, zl_dr T n 10 a, 4))
  else zl_fin T n a (some (zl_vl T n 10 a (zl_dr T n 10 a - a))) (zl_dr T n 10 a)
def zl_un (T : Nat → Int32) (n e : Nat) : Nat := if zl_g T n e = 77 ∧ zl_g T n (e + 1) = 83 then 1 else if zl_g T n e = 83 then 1000 else if zl_g T n e = 77 then 60000 else if zl_g T n e = 72 then 3600000 else 0
def zl_tm (T : Nat → Int32) (n a : Nat) : zl_T :=
  zl_fin T n a (if zl_un T n (zl_dr T n 10 (a + 2)) = 0 ∨ zl_dr T n 10 (a + 2) - (a + 2) = 0 then none else some (zl_vl T n 10 (a + 2) (zl_dr T n 10 (a + 2) - (a + 2)) * zl_un T n (zl_dr T n 10 (a + 2)))) (zl_dr T n 10 (a + 2) + (if zl_un T n (zl_dr T n 10 (a + 2)) = 1 then 2 else if zl_un T n (zl_dr T n 10 (a + 2)) = 0 then 0 else 1))
/-- what the model leaves when it has read a token -/
def zl_N (n b : Nat) (L : List (List Int32)) (c : List Int32) (g : zs_H) (t : zl_T) (g' : zs_H) : Prop :=
  zfr [(68, 3), (68, 6), (68, 7), (68, 8), (68, 9), (68, 10), (68, 11)] [70, 71] [] g g' ∧
  (t.1 = 9 → ((g.1 68 10) = 0 → (g'.1 68 10) = nI t.2.2.2 ∧ (g'.1 68 11) = nI t.2.1) ∧ (¬ (g.1 68 10) = 0 → (g'.1 68 10) = (g.1 68 10) ∧ (g'.1 68 11) = (g.1 68 11)) ∧ zn_M g' L ∧ ∃ b', (g'.1 68 8) = nI b' ∧ b' ≤ n ∧ b ≤ b') ∧
  (¬ t.1 = 9 → (g'.1 68 10) = (g.1 68 10) ∧ (g'.1 68 11) = (g.1 68 11) ∧ (g'.1 68 7) = nI t.2.1 ∧ (g'.1 68 8) = nI t.2.2.1 ∧ (g'.1 68 6) = nI t.1 ∧ (t.1 = 1 → (g'.1 68 9) = nI (L.idxOf c) ∧ zn_M g' (if c ∈ L then L else L ++ [c])) ∧ (¬ t.1 = 1 → zn_M g' L ∧ (¬ t.1 = 0 → (g'.1 68 9) = nI t.2.2.2)))
theorem zn_fr {fs : List (Nat × Nat)} {ms ls : List Nat} {g g' : zs_H} {L : List (List Int32)} (f : zfr fs ms ls g g') (h1 : (68, 3) ∉ fs) (h2 : 70 ∉ ms) (h3 : 71 ∉ ms) (H : zn_M g L) : zn_M g' L := by
  unfold zn_M
  rw [f.1 _ _ h1, f.2.1 _ h2, f.2.1 _ h3]
  exact H
theorem zl_sub : ∀ x ∈ [(68, 6), (68, 7), (68, 8), (68, 9)], x ∈ [(68, 3), (68, 6), (68, 7), (68, 8), (68, 9), (68, 10), (68, 11)] := by decide
theorem zl_ftf {g : zs_H} {w : Int32} {a : Nat} : zfr [(68, 10), (68, 11)] [] [] g (zl_ft g w a) := by
  unfold zl_ft
  split
  · exact zfr_F (by decide) (zfr_F (by decide) zfr_rfl)
  · exact zfr_rfl
theorem zl_ftN {n b : Nat} {L : List (List Int32)} {c : List Int32} {g g1 : zs_H} {w a e b' : Nat} {fs : List (Nat × Nat)} (f : zfr fs [] [] g g1) (hf : ∀ x ∈ fs, x ∈ [(68, 6), (68, 7), (68, 8), (68, 9)]) (HL : zn_M g L) (Hb : (g1.1 68 8) = nI b') (h1 : b' ≤ n) (h2 : b ≤ b') : zl_N n b L c g (9, a, e, w) (zl_ft g1 (nI w) a) := by
  have hx : ∀ k j, (k, j) ∉ [(68, 6), (68, 7), (68, 8), (68, 9)] → g1.1 k j = g.1 k j := fun k j q => f.1 k j (fun z => q (hf _ z))
  have f2 := zfr_trans (zfr_w f (fs' := [(68, 3), (68, 6), (68, 7), (68, 8), (68, 9), (68, 10), (68, 11)]) (ms' := [70, 71]) (ls' := []) (fun x q => zl_sub x (hf x q)) (fun x q => absurd q (List.not_mem_nil)) (fun x q => q)) (zfr_w (zl_ftf (g := g1) (w := nI w) (a := a)) (by decide) (by decide) (by decide))
  refine ⟨f2, fun _ => ⟨fun z => ?_, fun z => ?_, ?_, b', ?_, h1, h2⟩, fun q => absurd rfl q⟩
  · have z1 : (g1.1 68 10) = 0 := by rw [hx _ _ (by decide)]; exact z
    rw [show zl_ft g1 (nI w) a = zs_uF (zs_uF g1 68 10 (nI w)) 68 11 (nI a) from if_pos z1]
    exact ⟨rfl, rfl⟩
  · have z1 : ¬ (g1.1 68 10) = 0 := by rw [hx _ _ (by decide)]; exact z
    rw [show zl_ft g1 (nI w) a = g1 from if_neg z1]
    exact ⟨hx _ _ (by decide), hx _ _ (by decide)⟩
  · refine zn_fr zl_ftf (by decide) (by decide) (by decide) ?_
    unfold zn_M
    rw [hx _ _ (by decide), f.2.1 _ (List.not_mem_nil), f.2.1 _ (List.not_mem_nil)]
    exact HL
  · rw [zl_ftf.1 _ _ (by decide)]; exact Hb
theorem zl_b_lt {T : Nat → Int32} {n i : Nat} (h : ¬ zl_b T n i = -1) : i < n := Nat.lt_of_not_le fun q => h (zl_b_hi q)
theorem zl_g_lt {T : Nat → Int32} {n i : Nat} (h : ¬ zl_g T n i = -1) : i < n := Nat.lt_of_not_le fun q => h (by unfold zl_g; rw [zl_b_hi q]; rfl)
theorem zl_dr_le {T : Nat → Int32} {n base s : Nat} (hs : s ≤ n + 3) : zl_dr T n base s ≤ n + 3 ∧ s ≤ zl_dr T n base s := by
  have h1 := zl_run_le (zl_dp T n base) (n - s) s
  have h2 := zl_run_ge (zl_dp T n base) (n - s) s
  unfold zl_dr
  omega
/-- settling a number -/
theorem zl_setN {g : zs_H} {T : Nat → Int32} {n b a e : Nat} {v : Option Nat} {z : Int64} {L : List (List Int32)} {c : List Int32} (H : zl_X g T n) (Ha : (g.1 68 7) = nI a) (Hb : (g.1 68 8) = nI e) (he : e ≤ n) (hbe : b ≤ e) (HL : zn_M g L) (hz : (v = none ∧ z = -1) ∨ ∃ x y, v = some x ∧ z = lN y ∧ y < 9223372036854775808 ∧ (x ≤ 2147483647 → y = x) ∧ (y ≤ 2147483647 → y = x)) : zw (f_Mo_settle g z) (zl_N n b L c g (zl_fin T n a v e)) := by
  have hn := H.2.1
  have hft : ∀ e2, zl_N n b L c g (9, a, e2, 4) (zl_ft g 4 a) := fun e2 => zl_ftN (w := 4) (fs := []) zfr_rfl (fun x q => absurd q (List.not_mem_nil)) HL Hb he hbe
  rcases hz with ⟨rfl, rfl⟩ | ⟨x, y, rfl, rfl, hy, h1, h2⟩
  · rw [zl_set1 Ha, zw_some]
    exact hft e
  · rw [zl_set2 H Ha Hb (by omega) hy, zw_some]
    unfold zl_fin
    by_cases c1 : y ≤ 2147483647 ∧ zl_pt T n e = false
    · have e1 := h2 c1.1
      subst e1
      rw [if_pos c1]
      show zl_N n b L c g (if _ then _ else _) _
      rw [if_pos c1]
      exact ⟨zfr_F (by decide) (zfr_F (by decide) zfr_rfl), fun q => absurd q (by simp), fun _ => ⟨rfl, rfl, Ha, Hb, rfl, fun q => absurd q (by simp), fun _ => ⟨HL, fun _ => rfl⟩⟩⟩
    · rw [if_neg c1]
      show zl_N n b L c g (if _ then _ else _) _
      rw [if_neg (fun q => c1 ⟨by rw [h1 q.1]; exact q.1, q.2⟩)]
      exact hft e
theorem zl_N_pre {n b : Nat} {L : List (List Int32)} {c : List Int32} {g g1 g' : zs_H} {t : zl_T} {fs : List (Nat × Nat)} (f : zfr fs [] [] g g1) (hf : ∀ x ∈ fs, x ∈ [(68, 6), (68, 7), (68, 8), (68, 9)]) (h : zl_N n b L c g1 t g') : zl_N n b L c g t g' := by
  have e1 : (g1.1 68 10) = (g.1 68 10) := f.1 _ _ (fun z => absurd (hf _ z) (by decide))
  have e2 : (g1.1 68 11) = (g.1 68 11) := f.1 _ _ (fun z => absurd (hf _ z) (by decide))
  obtain ⟨h1, h2, h3⟩ := h
  rw [e1, e2] at h2 h3
  exact ⟨zfr_trans (zfr_w f (fun x q => zl_sub x (hf x q)) (fun x q => absurd q (List.not_mem_nil)) (fun x q => q)) h1, h2, h3⟩
theorem zl_dr_le2 {T : Nat → Int32} {n base s : Nat} (hs : s ≤ n) : zl_dr T n base s ≤ n := by
  have h1 := zl_run_le (zl_dp T n base) (n - s) s
  unfold zl_dr
  omega
theorem zl_vlM {v : Nat} : ((v ≤ 2147483647 → min v zl_M = v) ∧ (min v zl_M ≤ 2147483647 → min v zl_M = v)) ∧ min v zl_M < 9223372036854775808 := by
  have hM : zl_M = 100000000000000000 := rfl
  refine ⟨⟨fun h => Nat.min_eq_left (by omega), fun h => ?_⟩, ?_⟩
  · by_cases c : v ≤ zl_M
    · exact Nat.min_eq_left c
    · rw [Nat.min_eq_right (by omega)] at h; omega
  · have := Nat.min_le_right v zl_M; omega
theorem zl_readNumber {g : zs_H} {T : Nat → Int32} {n b a : Nat} {L : List (List Int32)} {c : List Int32} (H : zl_X g T n) (Ha : (g.1 68 7) = nI a) (ha : a < n) (hb : b ≤ a) (hd : zl_dp T n 10 a = true) (HL : zn_M g L) : zw (f_Mo_readNumber g) (zl_N n b L c g (zl_nb T n a)) := by
  have hn := H.2.1
  have hr := zl_dr_le (T := T) (n := n) (base := 10) (s := a) (by omega)
  have hr0 := zl_dr_le2 (T := T) (n := n) (base := 10) (s := a) (by omega)
  have hr1 : a + 1 ≤ zl_dr T n 10 a := by
    unfold zl_dr
    rw [zl_run_1 _ _ _ hd ha]
    exact zl_run_ge _ _ _
  unfold f_Mo_readNumber
  rw [Ha, show (10 : Int32) = nI 10 from rfl, zl_digits H (by decide) (by decide) (by omega), zw_B, zw_some]
  dsimp only
  rw [show zl_vv (zl_vl T n 10 a (zl_dr T n 10 a - a)) (zl_dr T n 10 a - a) = lN (min (zl_vl T n 10 a (zl_dr T n 10 a - a)) zl_M) from if_neg (by omega)]
  have hv := zl_vlM (v := zl_vl T n 10 a (zl_dr T n 10 a - a))
  rw [zu_S, zl_byteOf (g := zs_uF g 68 8 (nI (zl_dr T n 10 a))) (n := n) H (by omega), zw_bind, zw_some]
  show zw (if zl_b T n (zl_dr T n 10 a) = 35 then _ else _) _
  unfold zl_nb
  generalize hK : zl_vl T n 10 a (zl_dr T n 10 a - a) = v at hv ⊢
  generalize hE : zl_dr T n 10 a = e1 at hr hr0 hr1 ⊢
  have hF : zfr [(68, 8)] [] [] g (zs_uF g 68 8 (nI e1)) := zfr_F (by decide) zfr_rfl
  by_cases c1 : zl_b T n e1 = 35
  · rw [if_pos c1, if_pos c1]
    have h16 : (lN (min v zl_M) = 16 ↔ v = 16) ∧ (lN (min v zl_M) = 2 ↔ v = 2) := by
      have hM : zl_M = 100000000000000000 := rfl
      have q1 := zj_eq (a := min v zl_M) (b := 16) hv.2 (by decide)
      have q2 := zj_eq (a := min v zl_M) (b := 2) hv.2 (by decide)
      exact ⟨q1.trans ⟨fun z => by have := hv.1.2 (by omega); omega, fun z => by rw [z]; decide⟩, q2.trans ⟨fun z => by have := hv.1.2 (by omega); omega, fun z => by rw [z]; decide⟩⟩
    by_cases c2 : v = 16 ∨ v = 2
    · have h40 : zw (f_Mo_readNumber_40 (zs_uF g 68 8 (nI e1)) (lN (min v zl_M))) (zl_N n b L c g (zl_fin T n a (if zl_dr T n v (e1 + 1) - (e1 + 1) = 0 then none else some (zl_vl T n v (e1 + 1) (zl_dr T n v (e1 + 1) - (e1 + 1)))) (zl_dr T n v (e1 + 1)))) := by
        have e0 : min v zl_M = v := Nat.min_eq_left (by have hM : zl_M = 100000000000000000 := rfl; omega)
        have he1 : e1 < n := Nat.lt_of_not_le fun q => by rw [zl_b_hi q] at c1; exact absurd c1 (by decide)
        have hr2 := zl_dr_le (T := T) (n := n) (base := v) (s := e1 + 1) (by omega)
        have hr3 := zl_dr_le2 (T := T) (n := n) (base := v) (s := e1 + 1) (by omega)
        unfold f_Mo_readNumber_40
        rw [e0, lN_i, zu_S, nI_1, zl_digits (g := zs_uF g 68 8 (nI e1)) (n := n) H (by omega) (by omega) (by omega), zw_B, zw_some]
        dsimp only
        unfold f_Mo_readNumber_58 f_Mo_readNumber_59
        rw [zw_bind, zu_c]
        refine zw_mono (zl_setN (n := n) (a := a) (e := zl_dr T n v (e1 + 1)) (v := if zl_dr T n v (e1 + 1) - (e1 + 1) = 0 then none else some (zl_vl T n v (e1 + 1) (zl_dr T n v (e1 + 1) - (e1 + 1)))) (L := L) (c := c) H Ha rfl (by omega) (by omega) HL ?_) fun g' q => zw_some.mpr (zl_N_pre (fs := [(68, 8)]) (zfr_F (by decide) zfr_rfl) (by decide) q)
        by_cases c3 : zl_dr T n v (e1 + 1) - (e1 + 1) = 0
        · exact Or.inl ⟨if_pos c3, if_pos c3⟩
        · have hv2 := zl_vlM (v := zl_vl T n v (e1 + 1) (zl_dr T n v (e1 + 1) - (e1 + 1)))
          exact Or.inr ⟨_, _, if_neg c3, if_neg c3, hv2.2, hv2.1.1, hv2.1.2⟩
      rw [if_pos c2]
      by_cases c3 : v = 16
      · rw [if_pos (h16.1.mpr c3)]; exact h40
      · rw [if_neg (mt h16.1.mp c3), if_pos (h16.2.mpr (c2.resolve_left c3))]; exact h40
    · rw [if_neg c2, if_neg (mt h16.1.mp (fun q => c2 (Or.inl q))), if_neg (mt h16.2.mp (fun q => c2 (Or.inr q)))]
      unfold f_Mo_readNumber_58 f_Mo_readNumber_59
      rw [zw_bind]
      exact zw_mono (zl_setN (n := n) (a := a) (e := e1) (v := none) (L := L) (c := c) H Ha rfl (by omega) (by omega) HL (Or.inl ⟨rfl, rfl⟩)) fun g' q => zw_some.mpr (zl_N_pre hF (by decide) q)
  · rw [if_neg c1, if_neg c1]
    unfold f_Mo_readNumber_59
    rw [zw_bind]
    exact zw_mono (zl_setN (n := n) (a := a) (e := e1) (v := some v) (L := L) (c := c) H Ha rfl (by omega) (by omega) HL (Or.inr ⟨_, _, rfl, rfl, hv.2, hv.1.1, hv.1.2⟩)) fun g' q => zw_some.mpr (zl_N_pre hF (by decide) q)
theorem zl_readTime {g : zs_H} {T : Nat → Int32} {n b a : Nat} {L : List (List Int32)} {c : List Int32} (H : zl_X g T n) (Ha : (g.1 68 7) = nI a) (ha : a + 1 < n) (hb : b ≤ a) (HL : zn_M g L) : zw (f_Mo_readTime g) (zl_N n b L c g (zl_tm T n a)) := by
  have hn := H.2.1
  have hr := zl_dr_le (T := T) (n := n) (base := 10) (s := a + 2) (by omega)
  have hr0 := zl_dr_le2 (T := T) (n := n) (base := 10) (s := a + 2) (by omega)
  unfold f_Mo_readTime zl_tm
  rw [Ha, show nI a + 2 = nI (a + 2) from nI_add a 2, show (10 : Int32) = nI 10 from rfl, zl_digits H (by decide) (by decide) (by omega), zw_B, zw_some]
  dsimp only
  generalize hK : zl_vl T n 10 (a + 2) (zl_dr T n 10 (a + 2) - (a + 2)) = v
  generalize hE : zl_dr T n 10 (a + 2) = e1 at hr hr0 ⊢
  rw [zu_S, zl_great (g := zs_uF g 68 8 (nI e1)) (n := n) H (by omega), zw_bind, zw_some]
  have hv := zl_vlM (v := v)
  have hM : zl_M = 100000000000000000 := rfl
  have h150 : ∀ (e : Nat) (w : Option Nat) (z : Int64), e ≤ n → b ≤ e → ((w = none ∧ z = -1) ∨ ∃ x y, w = some x ∧ z = lN y ∧ y < 9223372036854775808 ∧ (x ≤ 2147483647 → y = x) ∧ (y ≤ 2147483647 → y = x)) → zw (f_Mo_readTime_150 (zs_uF (zs_uF g 68 8 (nI e1)) 68 8 (nI e)) z) (zl_N n b L c g (zl_fin T n a w e)) := by
    intro e w z he hbe hz
    unfold f_Mo_readTime_150
    rw [zw_bind, zu_c]
    exact zw_mono (zl_setN (n := n) (a := a) (e := e) (v := w) (L := L) (c := c) (g := zs_uF g 68 8 (nI e)) H Ha rfl he hbe HL hz) fun g' q => zw_some.mpr (zl_N_pre (fs := [(68, 8)]) (zfr_F (by decide) zfr_rfl) (by decide) q)
  have h84 : ∀ u : Nat, u ≤ 3600000 → e1 + (if u = 1 then 2 else if u = 0 then 0 else 1) ≤ n → zw (f_Mo_readTime_84 (zs_uF g 68 8 (nI e1)) (zl_vv v (e1 - (a + 2))) (nI u)) (zl_N n b L c g (zl_fin T n a (if u = 0 ∨ e1 - (a + 2) = 0 then none else some (v * u)) (e1 + (if u = 1 then 2 else if u = 0 then 0 else 1)))) := by
    intro u hu hy
    have h111 : ∀ y0 : Nat, y0 ≤ 2 → e1 + y0 ≤ n → zw (f_Mo_readTime_111 (zs_uF g 68 8 (nI e1)) (zl_vv v (e1 - (a + 2))) (nI u) (nI y0) (nI e1)) (zl_N n b L c g (zl_fin T n a (if u = 0 ∨ e1 - (a + 2) = 0 then none else some (v * u)) (e1 + y0))) := by
      intro y0 hy0 hyn
      unfold f_Mo_readTime_111 f_Mo_readTime_127
      rw [nI_add]
      by_cases c1 : u = 0
      · rw [if_pos (by rw [c1]; rfl), if_pos (Or.inl c1)]
        exact h150 _ _ _ (by omega) (by omega) (Or.inl ⟨rfl, rfl⟩)
      · rw [if_neg (fun q => c1 ((zc_eq (k := 0) (by decide) (by omega)).mp q))]
        by_cases c2 : e1 - (a + 2) = 0
        · rw [show zl_vv v (e1 - (a + 2)) = -1 from if_pos c2, if_neg (by decide), if_pos (Or.inr c2)]
          exact h150 _ _ _ (by omega) (by omega) (Or.inl ⟨rfl, rfl⟩)
        · rw [show zl_vv v (e1 - (a + 2)) = lN (min v zl_M) from if_neg c2, if_pos (Int64.not_lt.mp (zj_nn hv.2)), if_neg (show ¬ (u = 0 ∨ e1 - (a + 2) = 0) from fun q => q.elim c1 c2)]
          by_cases c3 : min v zl_M ≤ 2147483647
          · have e0 := hv.1.2 c3
            rw [e0] at c3 ⊢
            rw [if_pos ((zj_el (k := 2147483647) (t := v) (by decide) (by omega)).mpr c3), nI_l (by omega), lN_mul]
            have h5 : v * u ≤ 2147483647 * 3600000 := Nat.mul_le_mul c3 hu
            exact h150 _ _ _ (by omega) (by omega) (Or.inr ⟨_, _, rfl, rfl, by omega, fun _ => rfl, fun _ => rfl⟩)
          · rw [if_neg (mt (zj_el (k := 2147483647) (t := min v zl_M) (by decide) hv.2).mp c3)]
            have h6 : v ≤ v * u := Nat.le_mul_of_pos_right _ (by omega)
            refine h150 _ _ _ (by omega) (by omega) (Or.inr ⟨_, _, rfl, rfl, hv.2, fun q => ?_, fun q => absurd q c3⟩)
            exact absurd (by rw [hv.1.1 (by omega)]; omega) c3
    unfold f_Mo_readTime_84
    rw [zu_S]
    by_cases c1 : u = 1
    · subst c1
      rw [if_pos rfl] at hy
      rw [if_pos (show nI 1 = 1 from rfl), if_pos rfl]; exact h111 2 (by decide) hy
    · rw [if_neg (fun q => c1 ((zc_eq (k := 1) (by decide) (by omega)).mp q)), if_neg c1]
      by_cases c2 : u = 0
      · subst c2
        rw [if_pos (by decide), if_pos rfl]; exact h111 0 (by decide) (by omega)
      · rw [if_neg c1, if_neg c2] at hy
        rw [if_neg (mt (zc_el (k := 0) (by decide) (by omega)).mp (by omega)), if_neg c2]; exact h111 1 (by decide) hy
  show zw (if zl_g T n e1 = 77 then _ else _) _
  have h47 : ¬ (zl_g T n e1 = 77 ∧ zl_g T n (e1 + 1) = 83) → zw (f_Mo_readTime_47 (zs_uF g 68 8 (nI e1)) (zl_vv v (e1 - (a + 2))) (zl_g T n e1)) (zl_N n b L c g (zl_fin T n a (if zl_un T n e1 = 0 ∨ e1 - (a + 2) = 0 then none else some (v * zl_un T n e1)) (e1 + (if zl_un T n e1 = 1 then 2 else if zl_un T n e1 = 0 then 0 else 1)))) := by
    intro q
    unfold f_Mo_readTime_47 zl_un
    rw [if_neg q]
    by_cases c1 : zl_g T n e1 = 83
    · rw [if_pos c1, if_pos c1]; exact h84 1000 (by decide) (by have := zl_g_lt (T := T) (n := n) (i := e1) (by rw [c1]; decide); show e1 + 1 ≤ n; omega)
    · rw [if_neg c1, if_neg c1]
      by_cases c2 : zl_g T n e1 = 77
      · rw [if_pos c2, if_pos c2]; exact h84 60000 (by decide) (by have := zl_g_lt (T := T) (n := n) (i := e1) (by rw [c2]; decide); show e1 + 1 ≤ n; omega)
      · rw [if_neg c2, if_neg c2]
        by_cases c3 : zl_g T n e1 = 72
        · rw [if_pos c3, if_pos c3]; exact h84 3600000 (by decide) (by have := zl_g_lt (T := T) (n := n) (i := e1) (by rw [c3]; decide); show e1 + 1 ≤ n; omega)
        · rw [if_neg c3, if_neg c3]; exact h84 0 (by decide) (by show e1 + 0 ≤ n; omega)
  by_cases c1 : zl_g T n e1 = 77
  · rw [if_pos c1, nI_1, zl_great (g := zs_uF g 68 8 (nI e1)) (n := n) H (by omega), zw_bind, zw_some]
    show zw (if zl_g T n (e1 + 1) = 83 then _ else _) _
    by_cases c2 : zl_g T n (e1 + 1) = 83
    · rw [if_pos c2, show zl_un T n e1 = 1 from if_pos ⟨c1, c2⟩]
      exact h84 1 (by decide) (by have := zl_g_lt (T := T) (n := n) (i := e1 + 1) (by rw [c2]; decide); show e1 + 2 ≤ n; omega)
    · rw [if_neg c2]; exact h47 (fun q => c2 q.2)
  · rw [if_neg c1]; exact h47 (fun q => c1 q.1)
/-- places -/
def zl_P : List Int32 := [73, 88, 81, 88, 77, 88, 73, 87, 81, 87, 77, 87]
def zl_wh (T : Nat → Int32) (n a : Nat) : Nat → Option Nat
  | 0 => none
  | k + 1 => if zl_g T n (a + 1) = zl_P.getD (2 * k) 0 ∧ zl_g T n (a + 2) = zl_P.getD (2 * k + 1) 0 then some k else zl_wh T n a k
def zl_pl (T : Nat → Int32) (n a : Nat) : zl_T := match zl_wh T n a 6 with
  | none => (9, a, a, 5)
  | some k => if zl_dr T n 10 (a + 3) - (a + 3) = 0 ∨ (if k < 3 then 255 else 63) < zl_vl T n 10 (a + 3) (zl_dr T n 10 (a + 3) - (a + 3)) ∨ zl_pt T n (zl_dr T n 10 (a + 3)) = true then (9, a, a, 5) else (4, a, zl_dr T n 10 (a + 3), 256 * k + zl_vl T n 10 (a + 3) (zl_dr T n 10 (a + 3) - (a + 3)))
def zl_wi (o : Option Nat) : Int32 := match o with
  | none => -1
  | some k => nI k
theorem zl_wh_lt {T : Nat → Int32} {n a : Nat} : ∀ m k, zl_wh T n a m = some k → k < m := by
  intro m
  induction m with
  | zero => intro k h; cases h
  | succ m ih =>
    intro k h
    unfold zl_wh at h
    split at h
    · cases h; omega
    · have := ih k h; omega
theorem zl_wh_a {T : Nat → Int32} {n a : Nat} : ∀ m k, zl_wh T n a m = some k → a + 2 < n := by
  intro m
  induction m with
  | zero => intro k h; cases h
  | succ m ih =>
    intro k h
    unfold zl_wh at h
    by_cases c : zl_g T n (a + 1) = zl_P.getD (2 * m) 0 ∧ zl_g T n (a + 2) = zl_P.getD (2 * m + 1) 0
    · refine zl_g_lt (T := T) fun q => ?_
      have key : ∀ m, ¬ (-1 : Int32) = zl_P.getD m 0 := by
        intro m
        by_cases hm : m < 12
        · have : ∀ m, m < 12 → ¬ (-1 : Int32) = zl_P.getD m 0 := by decide +kernel
          exact this m hm
        · rw [List.getD_eq_getElem?_getD, List.getElem?_eq_none (by show 12 ≤ m; omega)]; decide
      exact key _ (by rw [← q]; exact c.2)
    · rw [if_neg c] at h; exact ih k h
theorem zl_Pf : ∀ k, k < 6 → (ze_f 8 (2 * k) &&& 255) = zl_P.getD (2 * k) 0 ∧ (ze_f 8 (2 * k + 1) &&& 255) = zl_P.getD (2 * k + 1) 0 := by decide +kernel
theorem zl_pl4 {g : zs_H} {T : Nat → Int32} {n a : Nat} (H : zl_X g T n) (Ha : (g.1 68 7) = nI a) (ha : a < n) : ∀ m k fuel, 6 = k + m → m < fuel → f_Mo_readPlace_L4 fuel g (zl_wi (zl_wh T n a k)) (nI k) = f_Mo_readPlace_4 (fun _ _ _ => none) g (zl_wi (zl_wh T n a 6)) (nI 6) := by
  have hn := H.2.1
  intro m
  induction m with
  | zero =>
    intro k fuel h1 h2
    obtain ⟨f, rfl⟩ : ∃ f, fuel = f + 1 := ⟨fuel - 1, by omega⟩
    have ek : k = 6 := by omega
    subst ek
    show f_Mo_readPlace_4 (f_Mo_readPlace_L4 f) g _ (nI 6) = _
    unfold f_Mo_readPlace_4
    rw [if_pos (show (6 : Int32) ≤ nI 6 by decide), if_pos (show (6 : Int32) ≤ nI 6 by decide)]
  | succ m ih =>
    intro k fuel h1 h2
    obtain ⟨f, rfl⟩ : ∃ f, fuel = f + 1 := ⟨fuel - 1, by omega⟩
    have hk := zl_Pf k (by omega)
    rw [← ih (k + 1) f (by omega) (by omega)]
    show f_Mo_readPlace_4 (f_Mo_readPlace_L4 f) g _ (nI k) = _
    unfold f_Mo_readPlace_4
    rw [if_neg (mt (zc_le (k := 6) (by decide) (by omega)).mp (by omega)), Ha, nI_1, show nI a + 2 = nI (a + 2) from nI_add a 2, zl_great H (by omega), zl_great H (by omega), zc_ml, show nI (2 * k) + 1 = nI (2 * k + 1) from nI_1 _]
    simp only [Option.bind_some]
    rw [if_pos (zi_in (a := 2 * k) (by omega) (by omega)), if_pos (zi_in (a := 2 * k + 1) (by omega) (by omega)), nI_clamp (by omega), nI_clamp (by omega), hk.1, hk.2]
    unfold f_Mo_readPlace_61 f_Mo_readPlace_60
    unfold f_Mo_readPlace_61
    rw [nI_1]
    show (if _ then (if _ then _ else _) else _) = _
    rw [show zl_wh T n a (k + 1) = if zl_g T n (a + 1) = zl_P.getD (2 * k) 0 ∧ zl_g T n (a + 2) = zl_P.getD (2 * k + 1) 0 then some k else zl_wh T n a k from rfl]
    by_cases c1 : zl_g T n (a + 1) = zl_P.getD (2 * k) 0
    · rw [if_pos c1]
      by_cases c2 : zl_g T n (a + 2) = zl_P.getD (2 * k + 1) 0
      · rw [if_pos c2, if_pos ⟨c1, c2⟩]; rfl
      · rw [if_neg c2, if_neg (fun q => c2 q.2)]
    · rw [if_neg c1, if_neg (fun q => c1 q.1)]
theorem zl_readPlace {g : zs_H} {T : Nat → Int32} {n b a : Nat} {L : List (List Int32)} {c : List Int32} (H : zl_X g T n) (Ha : (g.1 68 7) = nI a) (Hb : (g.1 68 8) = nI b) (ha : a < n) (hb : b ≤ a) (HL : zn_M g L) : zw (f_Mo_readPlace g) (zl_N n b L c g (zl_pl T n a)) := by
  have hn := H.2.1
  have hr := zl_dr_le (T := T) (n := n) (base := 10) (s := a + 3) (by omega)
  have h4 := zl_pl4 H Ha ha 6 0 zF rfl (by have := zF_big; omega)
  have h4' : f_Mo_readPlace g = f_Mo_readPlace_4 (fun _ _ _ => none) g (zl_wi (zl_wh T n a 6)) (nI 6) := h4
  rw [h4']
  have hft : ∀ (g1 : zs_H) (b' : Nat), zfr [(68, 8)] [] [] g g1 → (g1.1 68 8) = nI b' → b' ≤ n → b ≤ b' → zw (f_Mo_readPlace_127 g1) (zl_N n b L c g (9, a, a, 5)) := by
    intro g1 b' fr q1 q2 q3
    unfold f_Mo_readPlace_127
    rw [zl_fail (g := g1) ((fr.1 _ _ (by decide)).trans Ha), zw_bind, zw_some, zw_some]
    exact zl_ftN (w := 5) fr (by decide) HL q1 q2 q3
  unfold f_Mo_readPlace_4 zl_pl
  rw [if_pos (by decide)]
  cases hw : zl_wh T n a 6 with
  | none =>
    show zw (if (0 : Int32) ≤ -1 then _ else _) _
    rw [if_neg (by decide)]
    unfold f_Mo_readPlace_90
    rw [if_pos (by decide)]
    exact hft g b zfr_rfl Hb (by omega) (by omega)
  | some k =>
    have hk := zl_wh_lt 6 k hw
    have ha2 : a + 2 < n := zl_wh_a 6 k hw
    have hr0 := zl_dr_le2 (T := T) (n := n) (base := 10) (s := a + 3) (by omega)
    show zw (if (0 : Int32) ≤ nI k then _ else _) _
    rw [if_pos (nI_pos' (by omega)), Ha, show nI a + 3 = nI (a + 3) from nI_add a 3, show (10 : Int32) = nI 10 from rfl, zl_digits H (by decide) (by decide) (by omega), zw_B, zw_some]
    dsimp only
    generalize hK : zl_vl T n 10 (a + 3) (zl_dr T n 10 (a + 3) - (a + 3)) = v
    generalize hE : zl_dr T n 10 (a + 3) = e1 at hr hr0 ⊢
    have hF : zfr [(68, 8)] [] [] g (zs_uF g 68 8 (nI e1)) := zfr_F (by decide) zfr_rfl
    have hM : zl_M = 100000000000000000 := rfl
    unfold f_Mo_readPlace_90
    by_cases c1 : e1 - (a + 3) = 0
    · rw [show zl_vv v (e1 - (a + 3)) = -1 from if_pos c1, if_pos (by decide), if_pos (Or.inl c1)]
      exact hft _ e1 hF rfl (by omega) (by omega)
    · have hv := zl_vlM (v := v)
      rw [show zl_vv v (e1 - (a + 3)) = lN (min v zl_M) from if_neg c1, if_neg (zj_nn hv.2)]
      have h112 : ∀ y : Nat, y ≤ 255 → zw (f_Mo_readPlace_112 (zs_uF g 68 8 (nI e1)) (nI k) (lN (min v zl_M)) (lN y) (lN (min v zl_M))) (zl_N n b L c g (if e1 - (a + 3) = 0 ∨ y < v ∨ zl_pt T n e1 = true then (9, a, a, 5) else (4, a, e1, 256 * k + v))) := by
        intro y hy
        unfold f_Mo_readPlace_112
        by_cases c2 : y < v
        · rw [if_pos ((zj_lt (by omega) hv.2).mpr (by have := Nat.lt_min (a := y) (b := v) (c := zl_M); omega)), if_pos (Or.inr (Or.inl c2))]
          exact hft _ e1 hF rfl (by omega) (by omega)
        · have e0 : min v zl_M = v := hv.1.1 (by omega)
          rw [e0, if_neg (mt (zj_lt (by omega) (by omega)).mp c2), zu_S, zl_goesOn (g := zs_uF g 68 8 (nI e1)) (n := n) H (by omega), zw_bind, zw_some]
          show zw (if f_Nm_isPart (zl_b T n e1) = 0 then _ else _) _
          by_cases c3 : f_Nm_isPart (zl_b T n e1) = 0
          · have c3' : ¬ zl_pt T n e1 = true := by unfold zl_pt; simpa using c3
            rw [if_pos c3, if_neg (fun q => q.elim c1 fun q => q.elim c2 c3'), zw_some, lN_i, zc_ml, nI_add]
            exact zl_N_pre hF (by decide) ⟨zfr_F (by decide) (zfr_F (by decide) zfr_rfl), fun q => absurd q (by simp), fun _ => ⟨rfl, rfl, Ha, rfl, rfl, fun q => absurd q (by simp), fun _ => ⟨HL, fun _ => rfl⟩⟩⟩
          · have c3' : zl_pt T n e1 = true := by unfold zl_pt; simpa using c3
            rw [if_neg c3, if_pos (Or.inr (Or.inr c3'))]
            exact hft _ e1 hF rfl (by omega) (by omega)
      rw [show zl_wi (some k) = nI k from rfl]
      by_cases c4 : k < 3
      · rw [if_neg (mt (zc_le (k := 3) (t := k) (by decide) (by omega)).mp (by omega))]
        have := h112 255 (by decide)
        rw [show (if k < 3 then 255 else 63) = 255 from if_pos c4]
        exact this
      · rw [if_pos ((zc_le (k := 3) (t := k) (by decide) (by omega)).mpr (by omega))]
        have := h112 63 (by decide)
        rw [show (if k < 3 then 255 else 63) = 63 from if_neg c4]
        exact this
