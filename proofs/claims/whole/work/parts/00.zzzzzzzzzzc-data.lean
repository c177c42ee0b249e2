/-! The line: a request's bytes, what is refused, on both sides. -/
/-- both sides hold a request of t bytes b -/
def zln_B (b : Nat → Nat) (t : Nat) (h g : zs_H) : Prop := (4 ≤ t ∧ t ≤ 256) ∧ (∀ i, b i < 256) ∧ (∀ i, i < t → (h.2.1 1) i &&& 255 = nI (b i)) ∧ (∀ i, i < t → (g.2.1 116) i &&& 255 = nI (b i)) ∧ (h.1 66 4) = 1 ∧ (h.1 66 5) = nI (t - 4)
section ZLD
variable {h g h' g' : zs_H} {b : Nat → Nat} {t : Nat}
theorem zln_Bf (B : zln_B b t h g) (f1 : zfr [(66, 1)] [59, 62, 67] [] h h') (f2 : zfr [(68, 88)] [114, 117, 118] [] g g') : zln_B b t h' g' := by
  obtain ⟨b1, b2, b3, b4, b5, b6⟩ := B
  exact ⟨b1, b2, fun i hi => by rw [f1.2.1 _ (by decide)]; exact b3 i hi, fun i hi => by rw [f2.2.1 _ (by decide)]; exact b4 i hi, (f1.1 _ _ (by decide)).trans b5, (f1.1 _ _ (by decide)).trans b6⟩
theorem zln_dat (B : zln_B b t h g) {i : Nat} (hi : i < t - 4) : f_Ln_data h (nI i) = some (nI (b (2 + i))) := by
  obtain ⟨b1, b2, b3, b4, b5, b6⟩ := B
  unfold f_Ln_data
  rw [if_neg (mt (zc_tl (k := 0) (by decide) (by omega)).mp (by omega)), b6, if_neg (mt (nI_leI (by omega) (by omega)).mp (by omega)), b5, if_neg (show ¬ (1 : Int32) = 0 by decide), show 2 + nI i = nI (2 + i) from nI_add 2 i, if_pos (zi_in (by omega) (show 2 + i < 16384 by omega)), nI_clamp (by omega), b3 _ (by omega)]
theorem zln_hrd (B : zln_B b t h g) {i : Nat} (hi : i < t) : f_Mo_heard g (nI i) = some (nI (b i)) := by
  obtain ⟨b1, b2, b3, b4, b5, b6⟩ := B
  unfold f_Mo_heard
  rw [if_pos (zi_in (by omega) (show i < 16384 by omega)), nI_clamp (by omega), b4 _ hi]
/-- the number at the i-th data byte -/
def zln_v (b : Nat → Nat) (i : Nat) : Nat := 256 * b (2 + i) + b (3 + i)
theorem zln_vl (B : zln_B b t h g) (i : Nat) : zln_v b i < 65536 := by
  have h1 := B.2.1 (2 + i)
  have h2 := B.2.1 (3 + i)
  unfold zln_v
  omega
theorem zln_nb (B : zln_B b t h g) {i : Nat} (hi : i + 1 < t - 4) : f_Ln_number h (nI i) = some (nI (zln_v b i)) := by
  unfold f_Ln_number zln_v
  rw [zln_dat B (by omega), Option.bind_some, nI_1, zln_dat B hi, Option.bind_some, show 256 * nI (b (2 + i)) = nI (256 * b (2 + i)) from zi_mul 256 _, nI_add, show 2 + (i + 1) = 3 + i by omega]
theorem zln_two (B : zln_B b t h g) {i : Nat} (hi : i + 1 < t - 4) : f_Mo_dataTwo g (nI i) = some (nI (zln_v b i)) := by
  have := B.1
  unfold f_Mo_dataTwo zln_v
  rw [show 2 + nI i = nI (2 + i) from nI_add 2 i, show 3 + nI i = nI (3 + i) from nI_add 3 i, zln_hrd B (by omega), Option.bind_some, zln_hrd B (by omega), Option.bind_some, show 256 * nI (b (2 + i)) = nI (256 * b (2 + i)) from zi_mul 256 _, nI_add]
/-- what a request must be that is not refused -/
def zln_G (b : Nat → Nat) (t : Nat) : Prop := zln_is (b 1) ∧ (b 1 ≤ 6 → t = 8) ∧ (15 ≤ b 1 → 10 ≤ t ∧ t = 9 + b 6) ∧ zln_ok (b 1) (zln_v b 2) (b 6) = true ∧ zln_v b 0 + (if b 1 = 5 ∨ b 1 = 6 then 1 else zln_v b 2) ≤ zln_ts (b 1)
theorem zln_ref (B : zln_B b t h g) : ∃ r, r < 4 ∧ f_Ln_refusal h (nI (b 1)) = some (nI r) ∧ f_Mo_refusal g (nI (b 1)) (nI (t - 4)) = some (nI r) ∧ (r = 0 → zln_G b t) := by
  have hb := B.2.1
  have h1 := hb 1
  have ht := B.1
  obtain ⟨f, hf⟩ : ∃ f, f = b 1 := ⟨_, rfl⟩
  have key : zln_is f → (f ≤ 6 → t = 8) → (15 ≤ f → 10 ≤ t ∧ t = 9 + b 6) → ∃ r, r < 4 ∧ f_Ln_refusal_77 h (nI f) = some (nI r) ∧ f_Mo_refusal_59 g (nI f) = some (nI r) ∧ (r = 0 → zln_G b t) := fun q1 q2 q3 => by
    have t8 : 8 ≤ t := by unfold zln_is at q1; omega
    obtain ⟨r1, r2⟩ := zln_77 (s := 0) q1 (zln_vl B 0) (zln_vl B 2) (hb 6) (zln_nb B (i := 0) (by omega)) (zln_nb B (i := 2) (by omega)) (fun q => zln_dat B (i := 4) (by have := q3 q; omega)) (zln_two B (i := 0) (by omega)) (zln_two B (i := 2) (by omega)) (fun q => zln_hrd B (i := 6) (by omega))
    refine ⟨zln_R f 0 (zln_v b 0) (zln_v b 2) (b 6), ?_, r1, r2, fun z => ?_⟩
    · unfold zln_R
      (repeat' split) <;> omega
    · unfold zln_R at z
      by_cases y : zln_ok f (zln_v b 2) (b 6) = true
      · rw [if_pos y] at z
        by_cases x : zln_v b 0 + (if f = 5 ∨ f = 6 then 1 else zln_v b 2) ≤ zln_ts f
        · rw [hf] at q1 q2 q3 y x
          exact ⟨q1, q2, q3, y, x⟩
        · rw [if_neg x] at z; omega
      · rw [if_neg y] at z; omega
  have ds : (h.1 66 5) = nI (t - 4) := B.2.2.2.2.2
  rw [← hf]
  rw [← hf] at h1
  unfold f_Ln_refusal f_Mo_refusal f_Ln_refusal_25 f_Mo_refusal_11
  by_cases c0 : f < 1
  · rw [if_pos ((zc_tl (k := 1) (by decide) (by omega)).mpr c0), if_pos ((zc_tl (k := 1) (by decide) (by omega)).mpr c0), if_neg (fun q => by have := (zc_eq (k := 15) (by decide) (by omega)).mp q; omega), if_neg (fun q => by have := (zc_eq (k := 16) (by decide) (by omega)).mp q; omega)]
    exact ⟨1, by decide, rfl, rfl, fun z => absurd z (by decide)⟩
  rw [if_neg (mt (zc_tl (k := 1) (by decide) (by omega)).mp c0), if_neg (mt (zc_tl (k := 1) (by decide) (by omega)).mp c0)]
  by_cases c6 : f ≤ 6
  · rw [if_pos ((zc_el (k := 6) (by decide) (by omega)).mpr c6), if_pos ((zc_el (k := 6) (by decide) (by omega)).mpr c6), if_pos ((zc_tl (k := 15) (by decide) (by omega)).mpr (by omega))]
    unfold f_Ln_refusal_36 f_Mo_refusal_25
    rw [if_pos (show (0 : Int32) = 0 from rfl), if_neg (mt (zc_le (k := 7) (by decide) (by omega)).mp (by omega)), ds]
    by_cases c4 : t = 8
    · rw [if_pos (by rw [c4]; rfl), if_pos (by rw [c4]; rfl)]
      exact key (by unfold zln_is; omega) (fun _ => c4) (fun q => by omega)
    · rw [if_neg (fun q => c4 (by have := (zc_eq (k := 4) (by decide) (by omega)).mp q; omega)), if_neg (fun q => c4 (by have := (zc_eq (k := 4) (by decide) (by omega)).mp q; omega))]
      exact ⟨3, by decide, rfl, rfl, fun z => absurd z (by decide)⟩
  rw [if_neg (mt (zc_el (k := 6) (by decide) (by omega)).mp c6), if_neg (mt (zc_el (k := 6) (by decide) (by omega)).mp c6)]
  have rest : zln_is f → ∃ r, r < 4 ∧ (if nI f < 15 then f_Ln_refusal_36 h (nI f) 0 else f_Ln_refusal_36 h (nI f) 1) = some (nI r) ∧ f_Mo_refusal_25 g (nI f) (nI (t - 4)) = some (nI r) ∧ (r = 0 → zln_G b t) := fun q1 => by
    have q15 : 15 ≤ f := by unfold zln_is at q1; omega
    rw [if_neg (mt (zc_tl (k := 15) (by decide) (by omega)).mp (by omega))]
    unfold f_Ln_refusal_36 f_Mo_refusal_25
    rw [if_neg (show ¬ (1 : Int32) = 0 by decide), if_pos ((zc_le (k := 7) (by decide) (by omega)).mpr (by omega)), ds]
    by_cases c4 : t - 4 < 6
    · rw [if_pos ((zc_tl (k := 6) (by decide) (by omega)).mpr c4), if_pos ((zc_tl (k := 6) (by decide) (by omega)).mpr c4)]
      exact ⟨3, by decide, rfl, rfl, fun z => absurd z (by decide)⟩
    · rw [if_neg (mt (zc_tl (k := 6) (by decide) (by omega)).mp c4), if_neg (mt (zc_tl (k := 6) (by decide) (by omega)).mp c4), show (4 : Int32) = nI 4 from rfl, zln_dat B (i := 4) (by omega), show (6 : Int32) = nI 6 from rfl, zln_hrd B (i := 6) (by omega), Option.bind_some, Option.bind_some, show (2 + 4 : Nat) = 6 from rfl, show 5 + nI (b 6) = nI (5 + b 6) from nI_add 5 _]
      have h6 := hb 6
      by_cases c5 : t - 4 = 5 + b 6
      · rw [if_pos (congrArg nI c5), if_pos (congrArg nI c5)]
        exact key q1 (fun q => by omega) (fun _ => by omega)
      · rw [if_neg (fun q => c5 ((nI_eq (by omega) (by omega)).mp q)), if_neg (fun q => c5 ((nI_eq (by omega) (by omega)).mp q))]
        exact ⟨3, by decide, rfl, rfl, fun z => absurd z (by decide)⟩
  by_cases c15 : f = 15
  · rw [if_pos (show nI f = 15 by rw [c15]; rfl), if_pos (show nI f = 15 by rw [c15]; rfl)]
    exact rest (by unfold zln_is; omega)
  rw [if_neg (fun q => c15 ((zc_eq (k := 15) (by decide) (by omega)).mp q)), if_neg (fun q => c15 ((zc_eq (k := 15) (by decide) (by omega)).mp q))]
  by_cases c16 : f = 16
  · rw [if_pos (show nI f = 16 by rw [c16]; rfl), if_pos (show nI f = 16 by rw [c16]; rfl)]
    exact rest (by unfold zln_is; omega)
  rw [if_neg (fun q => c16 ((zc_eq (k := 16) (by decide) (by omega)).mp q)), if_neg (fun q => c16 ((zc_eq (k := 16) (by decide) (by omega)).mp q))]
  exact ⟨1, by decide, rfl, rfl, fun z => absurd z (by decide)⟩
end ZLD
