/-! Both readers in step: one token. -/
def zl_sv (v : Nat) : Prop := v ∈ [40, 41, 91, 93, 44, 59, 58, 46, 43, 45, 42, 47, 61, 60, 62, 38, 124]
/-- which values the kinds of tokens have -/
def zl_F (t : zl_T) : Prop := (t.1 = 0 ∨ t.1 = 1 ∨ t.1 = 2 ∨ t.1 = 3 ∨ t.1 = 4 ∨ t.1 = 5 ∨ t.1 = 9) ∧ (t.1 = 2 → t.2.2.2 < 41) ∧ (t.1 = 5 → (256 ≤ t.2.2.2 ∧ t.2.2.2 ≤ 260) ∨ zl_sv t.2.2.2) ∧ (t.1 = 9 → 1 ≤ t.2.2.2 ∧ t.2.2.2 ≤ 5)
theorem zl_svI : ∀ c, c < 256 → nI c ∈ zl_sg → c ∈ [40, 41, 91, 93, 44, 59, 58, 46, 43, 45, 42, 47, 61, 60, 62, 38, 124] := by decide +kernel
theorem zl_F9 {a e w : Nat} (h1 : 1 ≤ w) (h2 : w ≤ 5) : zl_F (9, a, e, w) := ⟨by simp, by simp, by simp, fun _ => ⟨h1, h2⟩⟩
theorem zl_F3 {k a e v : Nat} (h : k = 0 ∨ k = 1 ∨ k = 3 ∨ k = 4) : zl_F (k, a, e, v) := by
  refine ⟨?_, fun q => ?_, fun q => ?_, fun q => ?_⟩ <;> dsimp only at * <;> omega
theorem zl_Ffin {T : Nat → Int32} {n a e : Nat} {v : Option Nat} : zl_F (zl_fin T n a v e) := by
  unfold zl_fin
  cases v with
  | none => exact zl_F9 (by decide) (by decide)
  | some x =>
    dsimp only
    split
    · exact zl_F3 (by simp)
    · exact zl_F9 (by decide) (by decide)
theorem zl_Ftok {T : Nat → Int32} {n b : Nat} (hT : ∀ i, zb_ok (T i)) : zl_F (zl_tok T n b) := by
  unfold zl_tok
  by_cases c : (zl_sk T n (n - b) b).2 = true
  · rw [if_pos c]
    generalize (zl_sk T n (n - b) b).1 = a
    unfold zl_tk
    by_cases c0 : n ≤ a
    · rw [if_pos c0]; exact zl_F3 (by simp)
    rw [if_neg c0]
    by_cases c1 : zl_g T n a = 84 ∧ zl_b T n (a + 1) = 35
    · rw [if_pos c1]; exact zl_Ffin
    rw [if_neg c1]
    by_cases c2 : ¬ f_Mo_isLetter (zl_g T n a) = 0
    · rw [if_pos c2]
      unfold zl_tn
      by_cases d1 : 32 < zl_ne T n a - a
      · rw [if_pos d1]; exact zl_F9 (by decide) (by decide)
      rw [if_neg d1]
      by_cases d2 : zl_nm T n a (zl_ne T n a) ∈ zl_W
      · rw [if_pos d2]
        have hw : zl_W.idxOf (zl_nm T n a (zl_ne T n a)) < 41 := List.idxOf_lt_length_of_mem d2
        exact ⟨by simp, fun _ => hw, by simp, by simp⟩
      · rw [if_neg d2]; exact zl_F3 (by simp)
    rw [if_neg c2]
    by_cases c3 : ¬ f_Mo_isDigit (zl_g T n a) = 0
    · rw [if_pos c3]
      unfold zl_nb
      repeat' split
      all_goals first | exact zl_Ffin | exact zl_F9 (by decide) (by decide)
    rw [if_neg c3]
    by_cases c4 : zl_g T n a = 37
    · rw [if_pos c4]
      unfold zl_pl
      repeat' split
      all_goals first | exact zl_F9 (by decide) (by decide) | exact zl_F3 (by simp)
    · rw [if_neg c4]
      obtain ⟨k, hk, ek, -, -⟩ := zl_byte (hT a)
      have eb : zl_b T n a = nI k := by unfold zl_b; rw [if_pos (by omega), ek]
      unfold zl_sn
      rw [eb, nI_clamp (by omega)]
      by_cases d1 : zl_2 (nI k) (zl_b T n (a + 1)) = 0
      · rw [if_pos d1]
        by_cases d2 : nI k ∈ zl_sg
        · rw [if_pos d2]; exact ⟨by simp, by simp, fun _ => Or.inr (zl_svI k hk d2), by simp⟩
        · rw [if_neg d2]; exact zl_F9 (by decide) (by decide)
      · rw [if_neg d1]
        refine ⟨by simp, by simp, fun _ => Or.inl ?_, by simp⟩
        show 256 ≤ zl_2 (nI k) (zl_b T n (a + 1)) ∧ zl_2 (nI k) (zl_b T n (a + 1)) ≤ 260
        unfold zl_2 at d1 ⊢
        repeat' split
        all_goals first | decide | (exfalso; apply d1; simp_all)
  · rw [if_neg c]; exact zl_F9 (by decide) (by decide)
theorem zl_ckD {t : zl_T} (H : zl_F t) : (t.1 = 0 ∧ zl_ck t = 6) ∨ (t.1 = 1 ∧ zl_ck t = 8) ∨ (t.1 = 2 ∧ zl_ck t = 128 + t.2.2.2 ∧ t.2.2.2 < 41) ∨ (t.1 = 3 ∧ zl_ck t = 9) ∨ (t.1 = 4 ∧ zl_ck t = 10) ∨ (t.1 = 9 ∧ zl_ck t = 7) ∨ (t.1 = 5 ∧ 256 ≤ t.2.2.2 ∧ t.2.2.2 ≤ 260 ∧ zl_ck t = t.2.2.2 - 255) ∨ (t.1 = 5 ∧ zl_sv t.2.2.2 ∧ zl_ck t = t.2.2.2) := by
  obtain ⟨k, a, e, v⟩ := t
  obtain ⟨h1, h2, h3, h4⟩ := H
  dsimp only at *
  rcases h1 with rfl | rfl | rfl | rfl | rfl | rfl | rfl
  · exact Or.inl ⟨rfl, rfl⟩
  · exact Or.inr (Or.inl ⟨rfl, rfl⟩)
  · exact Or.inr (Or.inr (Or.inl ⟨rfl, rfl, h2 rfl⟩))
  · exact Or.inr (Or.inr (Or.inr (Or.inl ⟨rfl, rfl⟩)))
  · exact Or.inr (Or.inr (Or.inr (Or.inr (Or.inl ⟨rfl, rfl⟩))))
  · refine Or.inr (Or.inr (Or.inr (Or.inr (Or.inr (Or.inr ?_)))))
    rcases h3 rfl with ⟨a1, a2⟩ | a1
    · refine Or.inl ⟨rfl, a1, a2, ?_⟩
      have : v = 256 ∨ v = 257 ∨ v = 258 ∨ v = 259 ∨ v = 260 := by omega
      rcases this with rfl | rfl | rfl | rfl | rfl <;> rfl
    · refine Or.inr ⟨rfl, a1, ?_⟩
      have h5 : v < 200 := by
        simp only [zl_sv, List.mem_cons, List.not_mem_nil, or_false] at a1
        omega
      show (if v = 256 then 1 else if v = 257 then 2 else if v = 258 then 3 else if v = 259 then 4 else if v = 260 then 5 else v) = v
      rw [if_neg (by omega), if_neg (by omega), if_neg (by omega), if_neg (by omega), if_neg (by omega)]
  · exact Or.inr (Or.inr (Or.inr (Or.inr (Or.inr (Or.inl ⟨rfl, rfl⟩)))))
theorem zl_svb {v : Nat} (h : zl_sv v) : 38 ≤ v ∧ v < 128 := by
  simp only [zl_sv, List.mem_cons, List.not_mem_nil, or_false] at h
  omega
theorem zl_ckA {t : zl_T} (H : zl_F t) : (∀ c, zl_sv c → (zl_ck t = c ↔ t.1 = 5 ∧ t.2.2.2 = c)) ∧ (∀ c, 1 ≤ c → c ≤ 5 → (zl_ck t = c ↔ t.1 = 5 ∧ t.2.2.2 = 255 + c)) ∧ (∀ c, c < 41 → (zl_ck t = 128 + c ↔ t.1 = 2 ∧ t.2.2.2 = c)) ∧ (zl_ck t = 6 ↔ t.1 = 0) ∧ (zl_ck t = 7 ↔ t.1 = 9) ∧ (zl_ck t = 8 ↔ t.1 = 1) ∧ (zl_ck t = 9 ↔ t.1 = 3) ∧ (zl_ck t = 10 ↔ t.1 = 4) ∧ zl_ck t < 200 ∧ ¬ zl_ck t = 0 := by
  have hD := zl_ckD H
  generalize zl_ck t = k at hD ⊢
  have hs : ∀ v, zl_sv v → 38 ≤ v ∧ v < 128 := fun v => zl_svb
  generalize t.1 = a at hD ⊢
  generalize t.2.2.2 = v at hD ⊢
  have hv : zl_sv v → 38 ≤ v ∧ v < 128 := zl_svb
  have hD2 : (a = 0 ∧ k = 6) ∨ (a = 1 ∧ k = 8) ∨ (a = 2 ∧ k = 128 + v ∧ v < 41) ∨ (a = 3 ∧ k = 9) ∨ (a = 4 ∧ k = 10) ∨ (a = 9 ∧ k = 7) ∨ (a = 5 ∧ 256 ≤ v ∧ v ≤ 260 ∧ k = v - 255) ∨ (a = 5 ∧ 38 ≤ v ∧ v < 128 ∧ k = v) := by
    rcases hD with h | h | h | h | h | h | h | ⟨h1, h2, h3⟩
    · omega
    · omega
    · omega
    · omega
    · omega
    · omega
    · omega
    · have := hv h2; omega
  refine ⟨fun c hc => ?_, fun c h1 h2 => ?_, fun c hc => ?_, ?_, ?_, ?_, ?_, ?_, ?_, ?_⟩
  · have := hs c hc; omega
  all_goals omega
