/-! The class's plan: what is known without a text. -/
def zj_sv (b : Nat) : Nat := [0, 4, 8, 12, 17, 22, 24, 26, 29, 32].getD b 0
def zj_t (r k : Nat) : Int32 := zt_1.getD (5 * r + k) 0
theorem zj_t0 : ∀ b, b < 9 → ∀ r, r < 32 → zj_sv b ≤ r → r < zj_sv (b + 1) → zj_t r 0 = nI b := by decide +kernel
theorem zj_t1 : ∀ b, b < 8 → ¬ zj_t (zj_sv (b + 1)) 0 = nI b := by decide +kernel
theorem zj_sv1 : ∀ b, b < 9 → zj_sv b < zj_sv (b + 1) ∧ zj_sv (b + 1) ≤ 32 := by decide +kernel
theorem zj_tn : ∀ r, r < 32 → ∃ x, x < 15 ∧ zj_t r 1 = nI x := by decide +kernel
theorem zj_fill36 {h : zs_H} {v : Int32} : ∃ h', f_Ar_fill_c36 h v = some h' ∧ (∀ i, i < 6000 → h'.2.1 36 i = v) ∧ zfr [] [36] [] h h' := by
  have key : ∀ r N i (g : zs_H), i + r = 6000 → r < N → (∀ a, a < i → g.2.1 36 a = v) → zfr [] [36] [] h g → ∃ h', f_Ar_fill_c36_L5 N g v (nI i) 6000 = some h' ∧ (∀ i, i < 6000 → h'.2.1 36 i = v) ∧ zfr [] [36] [] h h' := by
    intro r
    induction r with
    | zero =>
      intro N i g hi hN hg f
      obtain ⟨N, rfl⟩ : ∃ z, N = z + 1 := ⟨N - 1, by omega⟩
      refine ⟨g, ?_, fun a ha => hg a (by omega), f⟩
      show f_Ar_fill_c36_5 (f_Ar_fill_c36_L5 N) g v (nI i) 6000 = _
      unfold f_Ar_fill_c36_5
      rw [if_pos ((zc_le (k := 6000) (by decide) (by omega)).mpr (by omega))]
    | succ r ih =>
      intro N i g hi hN hg f
      obtain ⟨N, rfl⟩ : ∃ z, N = z + 1 := ⟨N - 1, by omega⟩
      have e : f_Ar_fill_c36_L5 (N + 1) g v (nI i) 6000 = f_Ar_fill_c36_L5 N (zs_uM g 36 i v) v (nI (i + 1)) 6000 := by
        show f_Ar_fill_c36_5 (f_Ar_fill_c36_L5 N) g v (nI i) 6000 = _
        unfold f_Ar_fill_c36_5
        rw [if_neg (mt (zc_le (k := 6000) (by decide) (by omega)).mp (by omega)), if_pos (zi_in (by omega) (by omega)), nI_clamp (by omega), nI_1]
      rw [e]
      refine ih N (i + 1) _ (by omega) (by omega) (fun a ha => ?_) (zfr_M (by decide) f)
      show (if 36 = 36 ∧ a = i then v else g.2.1 36 a) = v
      by_cases c : a = i
      · rw [if_pos ⟨rfl, c⟩]
      · rw [if_neg (fun z => c z.2)]; exact hg a (by omega)
  exact key 6000 zF 0 h (by omega) (by decide) (fun a ha => absurd ha (Nat.not_lt_zero a)) zfr_rfl
theorem zj_fill37 {h : zs_H} {v : Int32} : ∃ h', f_Ar_fill_c37 h v = some h' ∧ (∀ i, i < 6000 → h'.2.1 37 i = v) ∧ zfr [] [37] [] h h' := by
  have key : ∀ r N i (g : zs_H), i + r = 6000 → r < N → (∀ a, a < i → g.2.1 37 a = v) → zfr [] [37] [] h g → ∃ h', f_Ar_fill_c37_L5 N g v (nI i) 6000 = some h' ∧ (∀ i, i < 6000 → h'.2.1 37 i = v) ∧ zfr [] [37] [] h h' := by
    intro r
    induction r with
    | zero =>
      intro N i g hi hN hg f
      obtain ⟨N, rfl⟩ : ∃ z, N = z + 1 := ⟨N - 1, by omega⟩
      refine ⟨g, ?_, fun a ha => hg a (by omega), f⟩
      show f_Ar_fill_c37_5 (f_Ar_fill_c37_L5 N) g v (nI i) 6000 = _
      unfold f_Ar_fill_c37_5
      rw [if_pos ((zc_le (k := 6000) (by decide) (by omega)).mpr (by omega))]
    | succ r ih =>
      intro N i g hi hN hg f
      obtain ⟨N, rfl⟩ : ∃ z, N = z + 1 := ⟨N - 1, by omega⟩
      have e : f_Ar_fill_c37_L5 (N + 1) g v (nI i) 6000 = f_Ar_fill_c37_L5 N (zs_uM g 37 i v) v (nI (i + 1)) 6000 := by
        show f_Ar_fill_c37_5 (f_Ar_fill_c37_L5 N) g v (nI i) 6000 = _
        unfold f_Ar_fill_c37_5
        rw [if_neg (mt (zc_le (k := 6000) (by decide) (by omega)).mp (by omega)), if_pos (zi_in (by omega) (by omega)), nI_clamp (by omega), nI_1]
      rw [e]
      refine ih N (i + 1) _ (by omega) (by omega) (fun a ha => ?_) (zfr_M (by decide) f)
      show (if 37 = 37 ∧ a = i then v else g.2.1 37 a) = v
      by_cases c : a = i
      · rw [if_pos ⟨rfl, c⟩]
      · rw [if_neg (fun z => c z.2)]; exact hg a (by omega)
  exact key 6000 zF 0 h (by omega) (by decide) (fun a ha => absurd ha (Nat.not_lt_zero a)) zfr_rfl
/-- what the plan may change -/
abbrev zj_fs : List (Nat × Nat) := [(20, 17), (20, 18), (20, 19), (20, 20)]
abbrev zj_ms : List Nat := [21, 22, 23, 24, 25, 26, 27, 28, 29, 30, 31, 32, 33, 34, 35, 36, 37]
/-- open: a block begins -/
def zj_O (b v kd : Nat) (c nd : Int32) (ci : Nat) (h h' : zs_H) : Prop := (h'.1 20 17) = nI (b + 1) ∧ (h'.1 20 19) = (if kd = 3 then nI b else (h.1 20 19)) ∧ (∀ i, (h'.2.1 21) i = if i = b then nI kd else (h.2.1 21) i) ∧ (∀ i, (h'.2.1 22) i = if i = b then nd else (h.2.1 22) i) ∧ (∀ i, (h'.2.1 23) i = if i = b then nI v else (h.2.1 23) i) ∧ (∀ i, (h'.2.1 24) i = if i = b then nI v else (h.2.1 24) i) ∧ (∀ i, (h'.2.1 25) i = if i = b then c else (h.2.1 25) i) ∧ (∀ i, (h'.2.1 26) i = if i = b then c else (h.2.1 26) i) ∧ (∀ i, (h'.2.1 27) i = if i = b then 0 else (h.2.1 27) i) ∧ (∀ i, (h'.2.1 36) i = if i = ci then nI b else (h.2.1 36) i) ∧ zfr [(20, 17), (20, 19)] [21, 22, 23, 24, 25, 26, 27, 36] [] h h'
theorem zj_min {a b : Nat} (h : a ≤ b) (hb : b < 2147483648) : zd_min (nI a) (nI b) = nI a := by
  unfold zd_min
  by_cases c : b < a
  · omega
  · rw [if_neg (mt (nI_ltI hb (by omega)).mp c)]
theorem zj_open {h : zs_H} {b v kd ci : Nat} {nd : Int32} (Hb : (h.1 20 17) = nI b) (hb : b ≤ 628) (Hv : (h.1 20 18) = nI v) (hk : kd < 4) (hc : ci < 6000) : ∃ h', f_Pl_open h (nI kd) (nI ci) nd = some (nI b, h') ∧ zj_O b v kd (if kd = 3 then 960 else 0) nd ci h h' := by
  unfold f_Pl_open f_Pl_open_68
  have e628 : zd_min ((h.1 20 17)) 628 = nI b := by rw [Hb]; exact zj_min (b := 628) hb (by decide)
  have hin : zd_in (nI b) 629 := zi_in (by omega) (by omega)
  rw [e628, if_pos hin, if_pos hin, if_pos hin, if_pos (zi_in (by omega) hc), if_pos hin, if_pos hin, if_pos (zi_in (by omega) hc), nI_clamp (by omega), nI_clamp (by omega), Hv, nI_1]
  by_cases c3 : kd = 3
  · subst c3
    rw [if_pos (show nI 3 = 3 from rfl), if_pos (show nI 3 = 3 from rfl)]
    refine ⟨_, rfl, rfl, ?_, fun i => ?_, fun i => ?_, fun i => ?_, fun i => ?_, fun i => ?_, fun i => ?_, fun i => ?_, fun i => ?_, zfr_F (by decide) (zfr_F (by decide) (zfr_M (by decide) (zfr_M (by decide) (zfr_M (by decide) (zfr_M (by decide) (zfr_M (by decide) (zfr_M (by decide) (zfr_M (by decide) (zfr_M (by decide) zfr_rfl)))))))))⟩
    all_goals simp [zu_FM, zu_MM, zu_FF, zu_MF]
  · have n3 : ¬ nI kd = 3 := fun z => c3 ((zc_eq (k := 3) (by decide) (by omega)).mp z)
    rw [if_neg n3, if_neg n3]
    refine ⟨_, rfl, rfl, ?_, fun i => ?_, fun i => ?_, fun i => ?_, fun i => ?_, fun i => ?_, fun i => ?_, fun i => ?_, fun i => ?_, zfr_F (by decide) (zfr_M (by decide) (zfr_M (by decide) (zfr_M (by decide) (zfr_M (by decide) (zfr_M (by decide) (zfr_M (by decide) (zfr_M (by decide) (zfr_M (by decide) zfr_rfl))))))))⟩
    all_goals simp [zu_FM, zu_MM, zu_FF, zu_MF, c3]
/-- add: a variable comes -/
def zj_D (b v ci : Nat) (sc : Int32) (h h' : zs_H) : Prop := (h'.1 20 18) = nI (v + 1) ∧ (∀ i, (h'.2.1 28) i = if i = v then nI ci else (h.2.1 28) i) ∧ (∀ i, (h'.2.1 29) i = if i = v then sc else (h.2.1 29) i) ∧ (∀ i, (h'.2.1 30) i = if i = v then -1 else (h.2.1 30) i) ∧ (∀ i, (h'.2.1 31) i = if i = v then 0 else (h.2.1 31) i) ∧ (∀ i, (h'.2.1 32) i = if i = v then 0 else (h.2.1 32) i) ∧ (∀ i, (h'.2.1 33) i = if i = v then 0 else (h.2.1 33) i) ∧ (∀ i, (h'.2.1 34) i = if i = v then 1 else (h.2.1 34) i) ∧ (∀ i, (h'.2.1 35) i = if i = v then 0 else (h.2.1 35) i) ∧ (∀ i, (h'.2.1 37) i = if i = ci then nI v else (h.2.1 37) i) ∧ (∀ i, (h'.2.1 24) i = if i = b then nI (v + 1) else (h.2.1 24) i) ∧ zfr [(20, 18)] [28, 29, 30, 31, 32, 33, 34, 35, 37, 24] [] h h'
theorem zj_add {h : zs_H} {b v ci : Nat} {sc : Int32} (Hb : (h.1 20 17) = nI (b + 1)) (hb : b ≤ 628) (Hv : (h.1 20 18) = nI v) (hv : v < 6000) (hc : ci < 6000) : ∃ h', f_Pl_add h (nI ci) sc = some (nI v, h') ∧ zj_D b v ci sc h h' := by
  unfold f_Pl_add
  have e5 : zd_min ((h.1 20 18)) 5999 = nI v := by rw [Hv]; exact zj_min (b := 5999) (by omega) (by decide)
  rw [e5, if_pos (zi_in (by omega) hv), if_pos (zi_in (by omega) hc), if_neg (by rw [Hb]; exact mt (zc_el (k := 0) (by decide) (by omega)).mp (by omega)), show (h.1 20 17) - 1 = nI b by rw [Hb, show (1 : Int32) = nI 1 from rfl, zi_sub (by omega)]; rfl, if_pos (zi_in (by omega) (by omega)), nI_clamp (by omega), nI_clamp (by omega), nI_clamp (by omega), nI_1]
  refine ⟨_, rfl, rfl, fun i => ?_, fun i => ?_, fun i => ?_, fun i => ?_, fun i => ?_, fun i => ?_, fun i => ?_, fun i => ?_, fun i => ?_, fun i => ?_, zfr_M (by decide) (zfr_F (by decide) (zfr_M (by decide) (zfr_M (by decide) (zfr_M (by decide) (zfr_M (by decide) (zfr_M (by decide) (zfr_M (by decide) (zfr_M (by decide) (zfr_M (by decide) (zfr_M (by decide) zfr_rfl))))))))))⟩
  all_goals simp [zu_FM, zu_MM, zu_FF, zu_MF]
