/-! Tokens: what a text's bytes mean, and that the model reads them so. -/
def zl_b (T : Nat → Int32) (n i : Nat) : Int32 := if i < n then T i &&& 255 else -1
def zl_g (T : Nat → Int32) (n i : Nat) : Int32 := f_Nm_great (zl_b T n i)
def zl_pt (T : Nat → Int32) (n i : Nat) : Bool := decide (¬ f_Nm_isPart (zl_b T n i) = 0)
def zl_run (p : Nat → Bool) : Nat → Nat → Nat
  | 0, i => i
  | f + 1, i => if p i = true then zl_run p f (i + 1) else i
theorem zl_run_ge (p : Nat → Bool) : ∀ f i, i ≤ zl_run p f i := by
  intro f
  induction f with
  | zero => intro i; exact Nat.le_refl i
  | succ f ih => intro i; unfold zl_run; split; exact Nat.le_trans (Nat.le_succ i) (ih (i + 1)); exact Nat.le_refl i
theorem zl_run_le (p : Nat → Bool) : ∀ f i, zl_run p f i ≤ i + f := by
  intro f
  induction f with
  | zero => intro i; exact Nat.le_refl i
  | succ f ih => intro i; unfold zl_run; split; have := ih (i + 1); omega; omega
theorem zl_run_all (p : Nat → Bool) : ∀ f i j, i ≤ j → j < zl_run p f i → p j = true := by
  intro f
  induction f with
  | zero => intro i j h1 h2; unfold zl_run at h2; omega
  | succ f ih =>
    intro i j h1 h2
    unfold zl_run at h2
    by_cases hp : p i = true
    · rw [if_pos hp] at h2
      by_cases e : j = i
      · rw [e]; exact hp
      · exact ih (i + 1) j (by omega) h2
    · rw [if_neg hp] at h2; omega
theorem zl_run_not (p : Nat → Bool) : ∀ f i, p (i + f) = false → p (zl_run p f i) = false := by
  intro f
  induction f with
  | zero => intro i h; exact h
  | succ f ih =>
    intro i h
    unfold zl_run
    by_cases hp : p i = true
    · rw [if_pos hp]; exact ih (i + 1) (by rw [show i + 1 + f = i + (f + 1) by omega]; exact h)
    · rw [if_neg hp]; simpa using hp
theorem zl_run_0 (p : Nat → Bool) (f i : Nat) (h : p i = false) : zl_run p f i = i := by
  cases f with
  | zero => rfl
  | succ f => unfold zl_run; rw [if_neg (by rw [h]; decide)]
theorem zl_run_1 (p : Nat → Bool) (n i : Nat) (h : p i = true) (hi : i < n) : zl_run p (n - i) i = zl_run p (n - (i + 1)) (i + 1) := by
  rw [show n - i = (n - (i + 1)) + 1 by omega]
  show (if p i = true then _ else _) = _
  rw [if_pos h]
theorem zl_b_hi {T : Nat → Int32} {n i : Nat} (h : n ≤ i) : zl_b T n i = -1 := if_neg (by omega)
theorem zl_pt_hi {T : Nat → Int32} {n i : Nat} (h : n ≤ i) : zl_pt T n i = false := by
  unfold zl_pt; rw [zl_b_hi h]; decide
/-- the model's text -/
def zl_X (g : zs_H) (T : Nat → Int32) (n : Nat) : Prop := (g.1 68 1) = nI n ∧ n ≤ 16384 ∧ ∀ i, i < n → (g.2.1 69) i = T i
theorem zl_byteOf {g : zs_H} {T : Nat → Int32} {n i : Nat} (H : zl_X g T n) (hi : i < 2147483648) : f_Mo_byteOf g (nI i) = some (zl_b T n i) := by
  have hn := H.2.1
  unfold f_Mo_byteOf zl_b
  rw [if_neg (nI_pos hi), H.1]
  by_cases c : i < n
  · rw [if_neg (mt (nI_leI (by omega) hi).mp (by omega)), if_pos (zi_in hi (by omega)), nI_clamp hi, if_pos c, H.2.2 i c]
  · rw [if_pos ((nI_leI (by omega) hi).mpr (by omega)), if_neg c]
theorem zl_great {g : zs_H} {T : Nat → Int32} {n i : Nat} (H : zl_X g T n) (hi : i < 2147483648) : f_Mo_great g (nI i) = some (zl_g T n i) := by
  unfold f_Mo_great zl_g f_Nm_great
  rw [zl_byteOf H hi]
  show (if _ then _ else _) = _
  repeat' split
  all_goals first | rfl | contradiction
theorem zl_isPart (c : Int32) : (if f_Mo_isLetter (f_Nm_great c) = 0 then (if f_Mo_isDigit c = 0 then (0 : Int32) else 1) else 1) = f_Nm_isPart c := by
  grind [f_Mo_isLetter, f_Mo_isLetter_12, f_Nm_great, f_Mo_isDigit, f_Nm_isPart, f_Nm_isLetter, f_Nm_isLetter_12, f_Nm_isLetter_24]
theorem zl_goesOn {g : zs_H} {T : Nat → Int32} {n i : Nat} (H : zl_X g T n) (hi : i < 2147483648) : f_Mo_goesOn g (nI i) = some (f_Nm_isPart (zl_b T n i)) := by
  unfold f_Mo_goesOn
  rw [zl_great H hi, ← zl_isPart]
  show (if _ then _ else _) = _
  unfold zl_g
  split
  · rw [zl_byteOf H hi]
    show (if f_Mo_isDigit (zl_b T n i) = 0 then some 0 else some 1) = some (if f_Mo_isDigit (zl_b T n i) = 0 then 0 else 1)
    split <;> rfl
  · rfl
/-- blanks and remarks -/
def zl_bl (c : Int32) : Bool := decide (c = 9 ∨ c = 10 ∨ c = 13 ∨ c = 32)
def zl_cp (T : Nat → Int32) (n k : Nat) : Bool := decide (k < n) && !(decide (zl_b T n k = 42) && decide (zl_b T n (k + 1) = 41))
def zl_cm (T : Nat → Int32) (n i : Nat) : Nat := zl_run (zl_cp T n) (n - i) i
def zl_sk (T : Nat → Int32) (n : Nat) : Nat → Nat → Nat × Bool
  | 0, i => (i, true)
  | f + 1, i => if n ≤ i then (i, true) else if zl_bl (zl_b T n i) = true then zl_sk T n f (i + 1) else if zl_b T n i = 40 ∧ zl_b T n (i + 1) = 42 then (if n ≤ zl_cm T n (i + 2) then (i, false) else zl_sk T n f (zl_cm T n (i + 2) + 2)) else (i, true)
theorem zl_cp_hi {T : Nat → Int32} {n i : Nat} (h : n ≤ i) : zl_cp T n i = false := by
  unfold zl_cp; rw [decide_eq_false (by omega)]; rfl
theorem zl_cm_lt {T : Nat → Int32} {n i : Nat} (h : ¬ n ≤ zl_cm T n i) : zl_b T n (zl_cm T n i) = 42 ∧ zl_b T n (zl_cm T n i + 1) = 41 ∧ zl_cm T n i + 1 < n := by
  have hi : i ≤ n := by
    refine Nat.le_of_not_lt fun q => h ?_
    unfold zl_cm
    rw [zl_run_0 _ _ _ (zl_cp_hi (by omega))]; omega
  have h1 : zl_cp T n (zl_cm T n i) = false := zl_run_not _ _ _ (by rw [show i + (n - i) = n by omega]; exact zl_cp_hi (Nat.le_refl n))
  unfold zl_cp at h1
  rw [decide_eq_true (by omega)] at h1
  have h2 : zl_b T n (zl_cm T n i) = 42 ∧ zl_b T n (zl_cm T n i + 1) = 41 := by simpa using h1
  refine ⟨h2.1, h2.2, ?_⟩
  refine Nat.lt_of_not_le fun q => ?_
  rw [zl_b_hi q] at h2
  exact absurd h2.2 (by decide)
theorem zl_sk_le {T : Nat → Int32} {n : Nat} : ∀ f i, i ≤ n → (zl_sk T n f i).1 ≤ n ∧ i ≤ (zl_sk T n f i).1 := by
  intro f
  induction f with
  | zero => intro i h; exact ⟨h, Nat.le_refl i⟩
  | succ f ih =>
    intro i h
    unfold zl_sk
    by_cases c1 : n ≤ i
    · rw [if_pos c1]; exact ⟨h, Nat.le_refl i⟩
    rw [if_neg c1]
    by_cases c2 : zl_bl (zl_b T n i) = true
    · rw [if_pos c2]; have := ih (i + 1) (by omega); omega
    rw [if_neg c2]
    by_cases c3 : zl_b T n i = 40 ∧ zl_b T n (i + 1) = 42
    · rw [if_pos c3]
      by_cases c4 : n ≤ zl_cm T n (i + 2)
      · rw [if_pos c4]; exact ⟨h, Nat.le_refl i⟩
      · rw [if_neg c4]
        have h4 := zl_cm_lt c4
        have h5 : i + 2 ≤ zl_cm T n (i + 2) := zl_run_ge _ _ _
        have := ih (zl_cm T n (i + 2) + 2) (by omega)
        omega
    · rw [if_neg c3]; exact ⟨h, Nat.le_refl i⟩
def zl_ft (g : zs_H) (w : Int32) (a : Nat) : zs_H := if (g.1 68 10) = 0 then zs_uF (zs_uF g 68 10 w) 68 11 (nI a) else g
theorem zl_skc {g : zs_H} {T : Nat → Int32} {n : Nat} (H : zl_X g T n) (k2 : zs_H → Int32 → Option (Int32 × zs_H)) (x : Int32) : ∀ m k fuel, n ≤ k + m → m < fuel → k < 20000 → f_Mo_skip_L69 k2 fuel g x (nI k) = f_Mo_skip_108 k2 g x (nI (zl_cm T n k)) := by
  have hn := H.2.1
  intro m
  induction m with
  | zero =>
    intro k fuel h1 h2 h3
    obtain ⟨f, rfl⟩ : ∃ f, fuel = f + 1 := ⟨fuel - 1, by omega⟩
    show f_Mo_skip_69 k2 (f_Mo_skip_L69 k2 f) g x (nI k) = _
    unfold f_Mo_skip_69
    rw [H.1, if_pos ((nI_leI (by omega) (by omega)).mpr (by omega))]
    unfold zl_cm
    rw [zl_run_0 _ _ _ (zl_cp_hi (by omega))]
  | succ m ih =>
    intro k fuel h1 h2 h3
    obtain ⟨f, rfl⟩ : ∃ f, fuel = f + 1 := ⟨fuel - 1, by omega⟩
    show f_Mo_skip_69 k2 (f_Mo_skip_L69 k2 f) g x (nI k) = _
    unfold f_Mo_skip_69
    rw [H.1]
    by_cases c : n ≤ k
    · rw [if_pos ((nI_leI (by omega) (by omega)).mpr c)]
      unfold zl_cm
      rw [zl_run_0 _ _ _ (zl_cp_hi c)]
    · rw [if_neg (mt (nI_leI (by omega) (by omega)).mp c), zl_byteOf H (by omega), nI_1, zl_byteOf H (by omega)]
      have hg : zl_cp T n k = true → f_Mo_skip_102 k2 (f_Mo_skip_L69 k2 f) g x (nI k) = f_Mo_skip_108 k2 g x (nI (zl_cm T n k)) := by
        intro hc
        unfold f_Mo_skip_102
        rw [nI_1, ih (k + 1) f (by omega) (by omega) (by omega)]
        unfold zl_cm
        rw [zl_run_1 _ _ _ hc (by omega)]
      have hs : zl_cp T n k = false → zl_cm T n k = k := fun hc => zl_run_0 _ _ _ hc
      show (if zl_b T n k = 42 then (if zl_b T n (k + 1) = 41 then _ else _) else _) = _
      by_cases c1 : zl_b T n k = 42
      · rw [if_pos c1]
        by_cases c2 : zl_b T n (k + 1) = 41
        · rw [if_pos c2, hs (by unfold zl_cp; rw [c1, c2]; simp)]
        · rw [if_neg c2, hg (by unfold zl_cp; simp [c2]; omega)]
      · rw [if_neg c1, hg (by unfold zl_cp; simp [c1]; omega)]
theorem zl_sk_a {T : Nat → Int32} {n f i : Nat} (c : n ≤ i) : zl_sk T n f i = (i, true) := by
  cases f with
  | zero => rfl
  | succ f => unfold zl_sk; rw [if_pos c]
theorem zl_sk_b {T : Nat → Int32} {n f i : Nat} (c : ¬ n ≤ i) (c2 : zl_bl (zl_b T n i) = true) : zl_sk T n (f + 1) i = zl_sk T n f (i + 1) := by
  show (if _ then _ else _) = _
  rw [if_neg c, if_pos c2]
theorem zl_sk_c {T : Nat → Int32} {n f i : Nat} (c : ¬ n ≤ i) (c2 : ¬ zl_bl (zl_b T n i) = true) (c4 : zl_b T n i = 40 ∧ zl_b T n (i + 1) = 42) (c6 : n ≤ zl_cm T n (i + 2)) : zl_sk T n (f + 1) i = (i, false) := by
  show (if _ then _ else _) = _
  rw [if_neg c, if_neg c2, if_pos c4, if_pos c6]
theorem zl_sk_d {T : Nat → Int32} {n f i : Nat} (c : ¬ n ≤ i) (c2 : ¬ zl_bl (zl_b T n i) = true) (c4 : zl_b T n i = 40 ∧ zl_b T n (i + 1) = 42) (c6 : ¬ n ≤ zl_cm T n (i + 2)) : zl_sk T n (f + 1) i = zl_sk T n f (zl_cm T n (i + 2) + 2) := by
  show (if _ then _ else _) = _
  rw [if_neg c, if_neg c2, if_pos c4, if_neg c6]
theorem zl_sk_e {T : Nat → Int32} {n f i : Nat} (c : ¬ n ≤ i) (c2 : ¬ zl_bl (zl_b T n i) = true) (c4 : ¬ (zl_b T n i = 40 ∧ zl_b T n (i + 1) = 42)) : zl_sk T n (f + 1) i = (i, true) := by
  show (if _ then _ else _) = _
  rw [if_neg c, if_neg c2, if_neg c4]
theorem zl_sks {g : zs_H} {T : Nat → Int32} {n : Nat} (H : zl_X g T n) : ∀ f i fuel, n ≤ i + f → f < fuel → i ≤ n → f_Mo_skip_L2 fuel g (nI i) = some (if (zl_sk T n f i).2 = true then (nI (zl_sk T n f i).1, g) else (-1, zl_ft g 2 (zl_sk T n f i).1)) := by
  have hn := H.2.1
  intro f
  induction f with
  | zero =>
    intro i fuel h1 h2 h3
    obtain ⟨z, rfl⟩ : ∃ z, fuel = z + 1 := ⟨fuel - 1, by omega⟩
    show f_Mo_skip_2 (f_Mo_skip_L2 z) g (nI i) = _
    unfold f_Mo_skip_2 zl_sk
    rw [H.1, if_pos ((nI_leI (by omega) (by omega)).mpr (by omega))]
    rfl
  | succ f ih =>
    intro i fuel h1 h2 h3
    obtain ⟨z, rfl⟩ : ∃ z, fuel = z + 1 := ⟨fuel - 1, by omega⟩
    show f_Mo_skip_2 (f_Mo_skip_L2 z) g (nI i) = _
    unfold f_Mo_skip_2
    rw [H.1]
    by_cases c : n ≤ i
    · rw [if_pos ((nI_leI (by omega) (by omega)).mpr c), zl_sk_a c]; rfl
    rw [if_neg (mt (nI_leI (by omega) (by omega)).mp c), zl_byteOf H (by omega)]
    have h40 : f_Mo_skip_40 (f_Mo_skip_L2 z) g (nI i) = f_Mo_skip_L2 z g (nI (i + 1)) := by
      unfold f_Mo_skip_40 f_Mo_skip_135; rw [nI_1]
    show (if zl_b T n i = 9 then _ else _) = _
    by_cases c2 : zl_bl (zl_b T n i) = true
    · rw [zl_sk_b c c2, h40, ← ih (i + 1) z (by omega) (by omega) (by omega)]
      have c3 : zl_b T n i = 9 ∨ zl_b T n i = 10 ∨ zl_b T n i = 13 ∨ zl_b T n i = 32 := by simpa [zl_bl] using c2
      repeat' split
      all_goals first | rfl | (exfalso; simp_all)
    · have c3 : ¬ zl_b T n i = 9 ∧ ¬ zl_b T n i = 10 ∧ ¬ zl_b T n i = 13 ∧ ¬ zl_b T n i = 32 := by simpa [zl_bl] using c2
      rw [if_neg c3.1, if_neg c3.2.1, if_neg c3.2.2.1, if_neg c3.2.2.2]
      by_cases c4 : zl_b T n i = 40
      · rw [if_pos c4, nI_1, zl_byteOf H (by omega)]
        show (if zl_b T n (i + 1) = 42 then _ else _) = _
        by_cases c5 : zl_b T n (i + 1) = 42
        · rw [if_pos c5, show nI i + 2 = nI (i + 2) from nI_add i 2, zl_skc H _ _ 16390 (i + 2) zF (by omega) (by have := zF_big; omega) (by omega)]
          unfold f_Mo_skip_108
          rw [H.1]
          have h6 : zl_cm T n (i + 2) ≤ n + 2 := by
            have := zl_run_le (zl_cp T n) (n - (i + 2)) (i + 2)
            unfold zl_cm; omega
          by_cases c6 : n ≤ zl_cm T n (i + 2)
          · rw [if_neg (mt (nI_ltI (by omega) (by omega)).mp (by omega)), zl_sk_c c c2 ⟨c4, c5⟩ c6]
            unfold f_Mo_fail zl_ft
            split <;> rfl
          · rw [if_pos ((nI_ltI (by omega) (by omega)).mpr (by omega)), zl_sk_d c c2 ⟨c4, c5⟩ c6]
            have h7 := zl_cm_lt c6
            unfold f_Mo_skip_135
            rw [show nI (zl_cm T n (i + 2)) + 2 = nI (zl_cm T n (i + 2) + 2) from nI_add _ 2]
            have h8 : i + 2 ≤ zl_cm T n (i + 2) := zl_run_ge _ _ _
            exact ih _ z (by omega) (by omega) (by omega)
        · rw [if_neg c5, zl_sk_e c c2 (fun q => c5 q.2)]; rfl
      · rw [if_neg c4, zl_sk_e c c2 (fun q => c4 q.1)]; rfl
theorem zl_skip {g : zs_H} {T : Nat → Int32} {n i : Nat} (H : zl_X g T n) (hi : i ≤ n) : f_Mo_skip g (nI i) = some (if (zl_sk T n (n - i) i).2 = true then (nI (zl_sk T n (n - i) i).1, g) else (-1, zl_ft g 2 (zl_sk T n (n - i) i).1)) :=
  zl_sks H (n - i) i zF (by omega) (by have := zF_big; have := H.2.1; omega) hi
