/-! watch: the model's methods that make Strings, by hand (zp_row is what they say); names on a path. -/
def zwt_w (h : zs_H) : List Int32 → Nat → Option Int32
  | [], _ => some 1
  | c :: l, k => (f_Mo_tapeGreat h ((h.1 68 95) + nI k)).bind fun v => if c = v then zwt_w h l (k + 1) else some 0
def f_Mo_isPathWord (h : zs_H) (s : List Int32) : Option Int32 := if nI s.length = (h.1 68 93) - (h.1 68 95) then zwt_w h s 0 else some 0
def zwt_f (h : zs_H) : List (List Int32) → Int32 → Option Int32
  | [], _ => some (-1)
  | s :: l, k => (f_Mo_isPathWord h s).bind fun v => if v = 0 then zwt_f h l (k + 1) else some k
def f_Mo_watchPin_2 (h : zs_H) (x1 x2 y0 k : Int32) : Option (Int32 × zs_H) := (f_Mo_pinType h x1 y0 k).bind fun ty => (f_Mo_pinCell h x1 y0 k).bind fun c => f_Mo_see h ty (x2 + c)
def f_Mo_watchPin (h : zs_H) (x1 x2 : Int32) : Option (Int32 × zs_H) := (zd_B (f_Mo_passes h 46) fun v2 h3 => (if v2 = 0 then (some ((-1), h3)) else (zd_B (f_Mo_readPathName h3) fun v5 h6 => (if v5 = 0 then (some ((-1), h6)) else (if (h6.1 68 93) < (h6.1 68 94) then (some ((-1), h6)) else ((zwt_f h6 (zp_row x1 1) 0).bind fun k => (if 0 ≤ k then f_Mo_watchPin_2 h6 x1 x2 1 k else ((zwt_f h6 (zp_row x1 0) 0).bind fun k2 => (if 0 ≤ k2 then f_Mo_watchPin_2 h6 x1 x2 0 k2 else (some ((-1), h6)))))))))))
def f_Mo_watch_B (h : zs_H) (b : Int32) : Option (Int32 × zs_H) := (zd_B (f_Mo_readPathName h) fun v h1 => (if v = 0 then (some ((-1), h1)) else ((f_Mo_variableOnPath h1 b).bind fun v2 => some (v2, h1))))
def f_Mo_watch_E (h : zs_H) (v base : Int32) : Option (Int32 × zs_H) := (if v < 0 then (some ((-1), h)) else (if zd_in v 8400 then (if (h.2.1 92 v.toNatClampNeg) = 2 then (if (h.2.1 93 v.toNatClampNeg) < 100000 then (some ((-1), h)) else f_Mo_watchPin h (h.2.1 93 v.toNatClampNeg) (base + (h.2.1 94 v.toNatClampNeg))) else (if (h.2.1 92 v.toNatClampNeg) = 1 then (zd_B (f_Mo_readIndex h) fun i h2 => (if (h2.1 68 93) < 0 then (some ((-1), h2)) else (if (i - (h2.2.1 97 v.toNatClampNeg)) < 0 then (some ((-1), h2)) else (if (h2.2.1 98 v.toNatClampNeg) ≤ (i - (h2.2.1 97 v.toNatClampNeg)) then (some ((-1), h2)) else f_Mo_see h2 (h2.2.1 93 v.toNatClampNeg) ((base + (h2.2.1 94 v.toNatClampNeg)) + (i - (h2.2.1 97 v.toNatClampNeg))))))) else (if (h.1 68 93) < (h.1 68 94) then (some ((-1), h)) else f_Mo_see h (h.2.1 93 v.toNatClampNeg) (base + (h.2.1 94 v.toNatClampNeg))))) else none))
def f_Mo_watch_16 (k : zs_H → Int32 → Int32 → Option (Int32 × zs_H)) (h : zs_H) (b base : Int32) : Option (Int32 × zs_H) := (zd_B (f_Mo_watch_B h b) fun v h1 => (if v < 0 then f_Mo_watch_E h1 v base else (if zd_in v 8400 then (if (h1.2.1 92 v.toNatClampNeg) = 2 then (if (h1.2.1 93 v.toNatClampNeg) < 100000 then (zd_B (f_Mo_passes h1 46) fun p h2 => (if p = 0 then f_Mo_watch_E h2 v base else k h2 (h2.2.1 93 v.toNatClampNeg) (base + (h2.2.1 94 v.toNatClampNeg)))) else f_Mo_watch_E h1 v base) else f_Mo_watch_E h1 v base) else none)))
def f_Mo_watch_L16 : Nat → zs_H → Int32 → Int32 → Option (Int32 × zs_H) := zd_it (fun k => f_Mo_watch_16 k) (fun _ _ _ => none)
def f_Mo_watch (h : zs_H) : Option (Int32 × zs_H) := (zd_B (f_Mo_useTape h) fun n h1 => (if ((zs_uF h1 68 94 n).1 68 82) = 0 then (some ((-5), (zs_uF h1 68 94 n))) else f_Mo_watch_L16 zF (zs_uF (zs_uF h1 68 94 n) 68 93 0) ((h1.1 68 33) - 1) 0))
section ZWT
variable {h g : zs_H} {T : Nat → Int32} {n a : Nat}
/-- the model has a path of n bytes T and stands at a -/
def zwt_P (T : Nat → Int32) (n a : Nat) (g : zs_H) : Prop := (n ≤ 10240 ∧ a ≤ n) ∧ (∀ i, zb_ok (T i)) ∧ (∀ i, i < n → (g.2.1 116) i = T i) ∧ (g.1 68 94) = nI n ∧ (g.1 68 93) = nI a
theorem zwt_g (H : zwt_P T n a g) {i : Nat} (hi : i < 16384) : f_Mo_tapeGreat g (nI i) = some (if i < n then f_Nm_great (T i &&& 255) else 0) := by
  obtain ⟨⟨h1, h2⟩, h3, h4, h5, h6⟩ := H
  unfold f_Mo_tapeGreat f_Mo_tapeGreat_22
  rw [h5]
  by_cases c : i < n
  · rw [if_neg (mt (nI_leI (by omega) (by omega)).mp (by omega)), if_pos (zi_in (by omega) hi), nI_clamp (by omega), h4 i c, if_pos c]
    unfold f_Nm_great
    split
    · rfl
    · split <;> rfl
  · rw [if_pos ((nI_leI (by omega) (by omega)).mpr (by omega)), if_neg c, if_pos (by decide)]
theorem zwt_pt (hT : ∀ i, zb_ok (T i)) {i : Nat} (hi : i < n) : (zl_pt T n i = true ↔ ¬ (f_Mo_isLetter (f_Nm_great (T i &&& 255)) = 0 ∧ f_Mo_isDigit (f_Nm_great (T i &&& 255)) = 0)) ∧ (zl_pt T n i = true ↔ ¬ f_Nm_isPart (T i) = 0) := by
  have key : ∀ k, k < 256 → ((f_Mo_isLetter (f_Nm_great (nI k)) = 0 ∧ f_Mo_isDigit (f_Nm_great (nI k)) = 0) ↔ f_Nm_isPart (nI k) = 0) := by decide +kernel
  obtain ⟨k, k1, k2, _⟩ := zl_byte (hT i)
  have e : zl_pt T n i = true ↔ ¬ f_Nm_isPart (T i &&& 255) = 0 := by
    unfold zl_pt
    rw [zl_bT hi, decide_eq_true_iff]
  refine ⟨?_, ?_⟩
  · rw [e, k2]
    exact not_congr (key k k1).symm
  · rw [e, zl_rawP (hT i)]
theorem zwt_C2 (hT : ∀ i, zb_ok ((h.2.1 1) i)) (hn : n ≤ 10240) : ∀ (m i N : Nat), i + m = n → m < N → f_Pk_nameEnd_L2 h N (nI n) (nI i) = some (nI (zl_run (zl_pt ((h.2.1 1)) n) m i)) := by
  intro m
  induction m with
  | zero =>
    intro i N hi hN
    obtain ⟨N, rfl⟩ : ∃ z, N = z + 1 := ⟨N - 1, by omega⟩
    show f_Pk_nameEnd_2 h (f_Pk_nameEnd_L2 h N) (nI n) (nI i) = _
    unfold f_Pk_nameEnd_2
    rw [if_pos ((nI_leI (by omega) (by omega)).mpr (by omega))]
    rfl
  | succ m ih =>
    intro i N hi hN
    obtain ⟨N, rfl⟩ : ∃ z, N = z + 1 := ⟨N - 1, by omega⟩
    show f_Pk_nameEnd_2 h (f_Pk_nameEnd_L2 h N) (nI n) (nI i) = _
    unfold f_Pk_nameEnd_2
    rw [if_neg (mt (nI_leI (by omega) (by omega)).mp (by omega)), if_pos (zi_in (by omega) (show i < 16384 by omega)), nI_clamp (by omega)]
    have p := (zwt_pt (n := n) hT (show i < n by omega)).2
    show _ = some (nI (if zl_pt ((h.2.1 1)) n i = true then zl_run (zl_pt ((h.2.1 1)) n) m (i + 1) else i))
    by_cases c : f_Nm_isPart ((h.2.1 1) i) = 0
    · rw [if_pos c, if_neg (fun q => p.mp q c)]
    · rw [if_neg c, if_pos (p.mpr c), nI_1]
      exact ih (i + 1) N (by omega) (by omega)
theorem zwt_ne (hT : ∀ i, zb_ok ((h.2.1 1) i)) (hn : n ≤ 10240) (ha : a ≤ n) : f_Pk_nameEnd h (nI a) (nI n) = some (nI (zl_ne ((h.2.1 1)) n a)) := by
  have hz := zF_big
  exact zwt_C2 hT hn (n - a) a zF (by omega) (by omega)
/-- a name on a path -/
def zwt_ok (T : Nat → Int32) (n a : Nat) : Prop := a < zl_ne T n a ∧ zl_ne T n a - a ≤ 32 ∧ f_Mo_isDigit (f_Nm_great (T a &&& 255)) = 0
theorem zwt_M8 (hn : n ≤ 10240) (ha : a ≤ n) (hT : ∀ i, zb_ok (T i)) : ∀ (m i N : Nat) (g : zs_H), i + m = n → m < N → a ≤ i → (∀ j, j < n → (g.2.1 116) j = T j) → (g.1 68 94) = nI n → (g.1 68 93) = nI i → (g.1 68 95) = nI a → zl_ne T n a = zl_run (zl_pt T n) m i → ∃ g', ((zwt_ok T n a ∧ f_Mo_readPathName_L8 N g = some (1, g')) ∨ (¬ zwt_ok T n a ∧ f_Mo_readPathName_L8 N g = some (0, g'))) ∧ zfr [(68, 93)] [] [] g g' ∧ (g'.1 68 93) = nI (zl_ne T n a) := by
  have stop : ∀ (i N : Nat) (g : zs_H), i ≤ n → a ≤ i → (∀ j, j < n → (g.2.1 116) j = T j) → (g.1 68 94) = nI n → (g.1 68 93) = nI i → (g.1 68 95) = nI a → zl_ne T n a = i → (i = n ∨ ¬ zl_pt T n i = true) → ∃ g', ((zwt_ok T n a ∧ f_Mo_readPathName_L8 (N + 1) g = some (1, g')) ∨ (¬ zwt_ok T n a ∧ f_Mo_readPathName_L8 (N + 1) g = some (0, g'))) ∧ zfr [(68, 93)] [] [] g g' ∧ (g'.1 68 93) = nI (zl_ne T n a) := by
    intro i N g hi hai ht hE hA hF he hp
    have P : zwt_P T n i g := ⟨⟨hn, hi⟩, hT, ht, hE, hA⟩
    have e0 : f_Mo_tapeGreat g (nI i) = some (if i < n then f_Nm_great (T i &&& 255) else 0) := zwt_g P (by omega)
    have ea : f_Mo_tapeGreat g (nI a) = some (if a < n then f_Nm_great (T a &&& 255) else 0) := zwt_g P (by omega)
    have l0 : f_Mo_isLetter (if i < n then f_Nm_great (T i &&& 255) else 0) = 0 ∧ f_Mo_isDigit (if i < n then f_Nm_great (T i &&& 255) else 0) = 0 := by
      by_cases c : i < n
      · rw [if_pos c]
        rcases hp with q | q
        · omega
        · exact Decidable.not_not.mp (mt (zwt_pt hT c).1.mpr q)
      · rw [if_neg c]; decide
    refine ⟨g, ?_, zfr_rfl, by rw [he]; exact hA⟩
    show (_ ∧ f_Mo_readPathName_8 (f_Mo_readPathName_L8 N) g = _) ∨ (_ ∧ f_Mo_readPathName_8 (f_Mo_readPathName_L8 N) g = _)
    unfold f_Mo_readPathName_8
    rw [hA, hF, e0, Option.bind_some, if_pos l0.1, Option.bind_some, if_pos l0.2]
    by_cases c1 : i ≤ a
    · rw [if_pos ((nI_leI (by omega) (by omega)).mpr c1)]
      exact .inr ⟨fun q => by have := q.1; omega, rfl⟩
    rw [if_neg (mt (nI_leI (by omega) (by omega)).mp c1), zi_sub hai]
    by_cases c2 : 32 < i - a
    · rw [if_pos ((zc_lt (k := 32) (by decide) (by omega)).mpr c2)]
      exact .inr ⟨fun q => by have := q.2.1; omega, rfl⟩
    rw [if_neg (mt (zc_lt (k := 32) (by decide) (by omega)).mp c2), ea, Option.bind_some, if_pos (show a < n by omega)]
    by_cases c3 : f_Mo_isDigit (f_Nm_great (T a &&& 255)) = 0
    · rw [if_pos c3]; exact .inl ⟨⟨by omega, by omega, c3⟩, rfl⟩
    · rw [if_neg c3]; exact .inr ⟨fun q => c3 q.2.2, rfl⟩
  intro m
  induction m with
  | zero =>
    intro i N g hi hN hai ht hE hA hF he
    obtain ⟨N, rfl⟩ : ∃ z, N = z + 1 := ⟨N - 1, by omega⟩
    exact stop i N g (by omega) hai ht hE hA hF he (.inl hi)
  | succ m ih =>
    intro i N g hi hN hai ht hE hA hF he
    obtain ⟨N, rfl⟩ : ∃ z, N = z + 1 := ⟨N - 1, by omega⟩
    by_cases c : zl_pt T n i = true
    · have he2 : zl_ne T n a = zl_run (zl_pt T n) m (i + 1) := he.trans (if_pos c)
      obtain ⟨g1, hg1⟩ : ∃ g1, g1 = zs_uF g 68 93 (nI (i + 1)) := ⟨_, rfl⟩
      obtain ⟨g', a1, a2, a3⟩ := ih (i + 1) N g1 (by omega) (by omega) (by omega) (by rw [hg1]; exact ht) (by rw [hg1]; exact hE) (by rw [hg1]; rfl) (by rw [hg1]; exact hF) he2
      have P : zwt_P T n i g := ⟨⟨hn, by omega⟩, hT, ht, hE, hA⟩
      have e0 : f_Mo_tapeGreat g (nI i) = some (f_Nm_great (T i &&& 255)) := (zwt_g P (by omega)).trans (by rw [if_pos (by omega)])
      have eq : f_Mo_readPathName_L8 (N + 1) g = f_Mo_readPathName_L8 N g1 := by
        show f_Mo_readPathName_8 (f_Mo_readPathName_L8 N) g = _
        unfold f_Mo_readPathName_8 f_Mo_readPathName_36
        rw [hA, e0, Option.bind_some, nI_1, ← hg1]
        have q := (zwt_pt (n := n) hT (show i < n by omega)).1.mp c
        by_cases c1 : f_Mo_isLetter (f_Nm_great (T i &&& 255)) = 0
        · rw [if_pos c1, Option.bind_some, if_neg (fun w => q ⟨c1, w⟩)]
        · rw [if_neg c1]
      rw [eq]
      exact ⟨g', a1, zfr_trans (by rw [hg1]; exact zfr_F (by decide) zfr_rfl) a2, a3⟩
    · have he2 : zl_ne T n a = i := he.trans (if_neg c)
      exact stop i N g (by omega) hai ht hE hA hF he2 (.inr c)
theorem zwt_rd (H : zwt_P T n a g) : ∃ g', ((zwt_ok T n a ∧ f_Mo_readPathName g = some (1, g')) ∨ (¬ zwt_ok T n a ∧ f_Mo_readPathName g = some (0, g'))) ∧ zfr [(68, 93), (68, 95)] [] [] g g' ∧ zwt_P T n (zl_ne T n a) g' ∧ (g'.1 68 95) = nI a := by
  have hz := zF_big
  obtain ⟨⟨h1, h2⟩, h3, h4, h5, h6⟩ := H
  obtain ⟨g1, hg1⟩ : ∃ g1, g1 = zs_uF g 68 95 (nI a) := ⟨_, rfl⟩
  obtain ⟨g', a1, a2, a3⟩ := zwt_M8 h1 h2 h3 (n - a) a zF g1 (by omega) (by omega) (Nat.le_refl _) (by rw [hg1]; exact h4) (by rw [hg1]; exact h5) (by rw [hg1]; exact h6) (by rw [hg1]; rfl) rfl
  have hl := zl_ne_le (T := T) (n := n) (a := a) h2
  refine ⟨g', ?_, zfr_trans (by rw [hg1]; exact zfr_F (by decide) zfr_rfl) (zfr_w a2 (by decide) (by decide) (by decide)), ⟨⟨h1, hl.2.1⟩, h3, fun i hi => by rw [a2.2.1 _ List.not_mem_nil, hg1]; exact h4 i hi, (a2.1 _ _ (by decide)).trans (by rw [hg1]; exact h5), a3⟩, (a2.1 _ _ (by decide)).trans (by rw [hg1]; rfl)⟩
  unfold f_Mo_readPathName
  rw [h6, ← hg1]
  exact a1
end ZWT
