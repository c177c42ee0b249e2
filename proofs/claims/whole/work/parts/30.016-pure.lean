section
/-! The class's plan: what is known without a text. -/
def zj_sv (b : Nat) : Nat := [0, 4, 8, 12, 17, 22, 24, 26, 29, 32].getD b 0
def zj_t (r k : Nat) : Int32 := zt_1.getD (5 * r + k) 0
theorem zj_t0 : ∀ b, b < 9 → ∀ r, r < 32 → zj_sv b ≤ r → r < zj_sv (b + 1) → zj_t r 0 = nI b := by decide +kernel
theorem zj_t1 : ∀ b, b < 8 → ¬ zj_t (zj_sv (b + 1)) 0 = nI b := by decide +kernel
theorem zj_sv1 : ∀ b, b < 9 → zj_sv b < zj_sv (b + 1) ∧ zj_sv (b + 1) ≤ 32 := by decide +kernel
theorem zj_tn : ∀ r, r < 32 → ∃ x, x < 15 ∧ zj_t r 1 = nI x := by decide +kernel
theorem zj_fill36 {h : zs_H} {v : Int32} : ∃ h', f_Ar_fill_c36 h v = some h' ∧ (∀ i, i < 6000 → h'.2.1 36 i = v) ∧ zfr [] [36] [] h h' := by
  have key : ∀ r N i (g : zs_H), i + r = 6000 → r < N → (∀ a, a < i → g.2.1 36 a = v) → zfr [] [36] [] h g → ∃ h', f_Ar_fill_c36_L5 N g v (nI i) 6000 = some h' ∧ (∀ i, i < 6000 → h'.2.1 36 i = v) ∧ zfr [] [36] [] h h' := by
    intro r
    induction r with
    | zero =>
      intro N i g hi hN hg f
      obtain ⟨N, rfl⟩ : ∃ z, N = z + 1 := ⟨N - 1, by omega⟩
      refine ⟨g, ?_, fun a ha => hg a (by omega), f⟩
      show f_Ar_fill_c36_5 (f_Ar_fill_c36_L5 N) g v (nI i) 6000 = _
      unfold f_Ar_fill_c36_5
      rw [if_pos ((zc_le (k := 6000) (by decide) (by omega)).mpr (by omega))]
    | succ r ih =>
      intro N i g hi hN hg f
      obtain ⟨N, rfl⟩ : ∃ z, N = z + 1 := ⟨N - 1, by omega⟩
      have e : f_Ar_fill_c36_L5 (N + 1) g v (nI i) 6000 = f_Ar_fill_c36_L5 N (zs_uM g 36 i v) v (nI (i + 1)) 6000 := by
        show f_Ar_fill_c36_5 (f_Ar_fill_c36_L5 N) g v (nI i) 6000 = _
        unfold f_Ar_fill_c36_5
        rw [if_neg (mt (zc_le (k := 6000) (by decide) (by omega)).mp (by omega)), if_pos (zi_in (by omega) (by omega)), nI_clamp (by omega), nI_1]
      rw [e]
      refine ih N (i + 1) _ (by omega) (by omega) (fun a ha => ?_) (zfr_M (by decide) f)
      show (if 36 = 36 ∧ a = i then v else g.2.1 36 a) = v
      by_cases c : a = i
      · rw [if_pos ⟨rfl, c⟩]
      · rw [if_neg (fun z => c z.2)]; exact hg a (by omega)
  exact key 6000 zF 0 h (by omega) (by decide) (fun a ha => absurd ha (Nat.not_lt_zero a)) zfr_rfl
theorem zj_fill37 {h : zs_H} {v : Int32} : ∃ h', f_Ar_fill_c37 h v = some h' ∧ (∀ i, i < 6000 → h'.2.1 37 i = v) ∧ zfr [] [37] [] h h' := by
  have key : ∀ r N i (g : zs_H), i + r = 6000 → r < N → (∀ a, a < i → g.2.1 37 a = v) → zfr [] [37] [] h g → ∃ h', f_Ar_fill_c37_L5 N g v (nI i) 6000 = some h' ∧ (∀ i, i < 6000 → h'.2.1 37 i = v) ∧ zfr [] [37] [] h h' := by
    intro r
    induction r with
    | zero =>
      intro N i g hi hN hg f
      obtain ⟨N, rfl⟩ : ∃ z, N = z + 1 := ⟨N - 1, by omega⟩
      refine ⟨g, ?_, fun a ha => hg a (by omega), f⟩
      show f_Ar_fill_c37_5 (f_Ar_fill_c37_L5 N) g v (nI i) 6000 = _
      unfold f_Ar_fill_c37_5
      rw [if_pos ((zc_le (k := 6000) (by decide) (by omega)).mpr (by omega))]
    | succ r ih =>
      intro N i g hi hN hg f
      obtain ⟨N, rfl⟩ : ∃ z, N = z + 1 := ⟨N - 1, by omega⟩
      have e : f_Ar_fill_c37_L5 (N + 1) g v (nI i) 6000 = f_Ar_fill_c37_L5 N (zs_uM g 37 i v) v (nI (i + 1)) 6000 := by
        show f_Ar_fill_c37_5 (f_Ar_fill_c37_L5 N) g v (nI i) 6000 = _
        unfold f_Ar_fill_c37_5
        rw [if_neg (mt (zc_le (k := 6000) (by decide) (by omega)).mp (by omega)), if_pos (zi_in (by omega) (by omega)), nI_clamp (by omega), nI_1]
      rw [e]
      refine ih N (i + 1) _ (by omega) (by omega) (fun a ha => ?_) (zfr_M (by decide) f)
      show (if 37 = 37 ∧ a = i then v else g.2.1 37 a) = v
      by_cases c : a = i
      · rw [if_pos ⟨rfl, c⟩]
      · rw [if_neg (fun z => c z.2)]; exact hg a (by omega)
  exact key 6000 zF 0 h (by omega) (by decide) (fun a ha => absurd ha (Nat.not_lt_zero a)) zfr_rfl
/-- what the plan may change -/
abbrev zj_fs : List (Nat × Nat) := [(20, 17), (20, 18), (20, 19), (20, 20)]
abbrev zj_ms : List Nat := [21, 22, 23, 24, 25, 26, 27, 28, 29, 30, 31, 32, 33, 34, 35, 36, 37]
/-- open: a block begins -/
def zj_O (b v kd : Nat) (c nd : Int32) (ci : Nat) (h h' : zs_H) : Prop := (h'.1 20 17) = nI (b + 1) ∧ (h'.1 20 19) = (if kd = 3 then nI b else (h.1 20 19)) ∧ (∀ i, (h'.2.1 21) i = if i = b then nI kd else (h.2.1 21) i) ∧ (∀ i, (h'.2.1 22) i = if i = b then nd else (h.2.1 22) i) ∧ (∀ i, (h'.2.1 23) i = if i = b then nI v else (h.2.1 23) i) ∧ (∀ i, (h'.2.1 24) i = if i = b then nI v else (h.2.1 24) i) ∧ (∀ i, (h'.2.1 25) i = if i = b then c else (h.2.1 25) i) ∧ (∀ i, (h'.2.1 26) i = if i = b then c else (h.2.1 26) i) ∧ (∀ i, (h'.2.1 27) i = if i = b then 0 else (h.2.1 27) i) ∧ (∀ i, (h'.2.1 36) i = if i = ci then nI b else (h.2.1 36) i) ∧ zfr [(20, 17), (20, 19)] [21, 22, 23, 24, 25, 26, 27, 36] [] h h'
theorem zj_min {a b : Nat} (h : a ≤ b) (hb : b < 2147483648) : zd_min (nI a) (nI b) = nI a := by
  unfold zd_min
  by_cases c : b < a
  · omega
  · rw [if_neg (mt (nI_ltI hb (by omega)).mp c)]
theorem zj_open {h : zs_H} {b v kd ci : Nat} {nd : Int32} (Hb : (h.1 20 17) = nI b) (hb : b ≤ 628) (Hv : (h.1 20 18) = nI v) (hk : kd < 4) (hc : ci < 6000) : ∃ h', f_Pl_open h (nI kd) (nI ci) nd = some (nI b, h') ∧ zj_O b v kd (if kd = 3 then 960 else 0) nd ci h h' := by
  unfold f_Pl_open f_Pl_open_68
  have e628 : zd_min ((h.1 20 17)) 628 = nI b := by rw [Hb]; exact zj_min (b := 628) hb (by decide)
  have hin : zd_in (nI b) 629 := zi_in (by omega) (by omega)
  rw [e628, if_pos hin, if_pos hin, if_pos hin, if_pos (zi_in (by omega) hc), if_pos hin, if_pos hin, if_pos (zi_in (by omega) hc), nI_clamp (by omega), nI_clamp (by omega), Hv, nI_1]
  by_cases c3 : kd = 3
  · subst c3
    rw [if_pos (show nI 3 = 3 from rfl), if_pos (show nI 3 = 3 from rfl)]
    refine ⟨_, rfl, rfl, ?_, fun i => ?_, fun i => ?_, fun i => ?_, fun i => ?_, fun i => ?_, fun i => ?_, fun i => ?_, fun i => ?_, zfr_F (by decide) (zfr_F (by decide) (zfr_M (by decide) (zfr_M (by decide) (zfr_M (by decide) (zfr_M (by decide) (zfr_M (by decide) (zfr_M (by decide) (zfr_M (by decide) (zfr_M (by decide) zfr_rfl)))))))))⟩
    all_goals simp [zu_FM, zu_MM, zu_FF, zu_MF]
  · have n3 : ¬ nI kd = 3 := fun z => c3 ((zc_eq (k := 3) (by decide) (by omega)).mp z)
    rw [if_neg n3, if_neg n3]
    refine ⟨_, rfl, rfl, ?_, fun i => ?_, fun i => ?_, fun i => ?_, fun i => ?_, fun i => ?_, fun i => ?_, fun i => ?_, fun i => ?_, zfr_F (by decide) (zfr_M (by decide) (zfr_M (by decide) (zfr_M (by decide) (zfr_M (by decide) (zfr_M (by decide) (zfr_M (by decide) (zfr_M (by decide) (zfr_M (by decide) zfr_rfl))))))))⟩
    all_goals simp [zu_FM, zu_MM, zu_FF, zu_MF, c3]
/-- add: a variable comes -/
def zj_D (b v ci : Nat) (sc : Int32) (h h' : zs_H) : Prop := (h'.1 20 18) = nI (v + 1) ∧ (∀ i, (h'.2.1 28) i = if i = v then nI ci else (h.2.1 28) i) ∧ (∀ i, (h'.2.1 29) i = if i = v then sc else (h.2.1 29) i) ∧ (∀ i, (h'.2.1 30) i = if i = v then -1 else (h.2.1 30) i) ∧ (∀ i, (h'.2.1 31) i = if i = v then 0 else (h.2.1 31) i) ∧ (∀ i, (h'.2.1 32) i = if i = v then 0 else (h.2.1 32) i) ∧ (∀ i, (h'.2.1 33) i = if i = v then 0 else (h.2.1 33) i) ∧ (∀ i, (h'.2.1 34) i = if i = v then 1 else (h.2.1 34) i) ∧ (∀ i, (h'.2.1 35) i = if i = v then 0 else (h.2.1 35) i) ∧ (∀ i, (h'.2.1 37) i = if i = ci then nI v else (h.2.1 37) i) ∧ (∀ i, (h'.2.1 24) i = if i = b then nI (v + 1) else (h.2.1 24) i) ∧ zfr [(20, 18)] [28, 29, 30, 31, 32, 33, 34, 35, 37, 24] [] h h'
theorem zj_add {h : zs_H} {b v ci : Nat} {sc : Int32} (Hb : (h.1 20 17) = nI (b + 1)) (hb : b ≤ 628) (Hv : (h.1 20 18) = nI v) (hv : v < 6000) (hc : ci < 6000) : ∃ h', f_Pl_add h (nI ci) sc = some (nI v, h') ∧ zj_D b v ci sc h h' := by
  unfold f_Pl_add
  have e5 : zd_min ((h.1 20 18)) 5999 = nI v := by rw [Hv]; exact zj_min (b := 5999) (by omega) (by decide)
  rw [e5, if_pos (zi_in (by omega) hv), if_pos (zi_in (by omega) hc), if_neg (by rw [Hb]; exact mt (zc_el (k := 0) (by decide) (by omega)).mp (by omega)), show (h.1 20 17) - 1 = nI b by rw [Hb, show (1 : Int32) = nI 1 from rfl, zi_sub (by omega)]; rfl, if_pos (zi_in (by omega) (by omega)), nI_clamp (by omega), nI_clamp (by omega), nI_clamp (by omega), nI_1]
  refine ⟨_, rfl, rfl, fun i => ?_, fun i => ?_, fun i => ?_, fun i => ?_, fun i => ?_, fun i => ?_, fun i => ?_, fun i => ?_, fun i => ?_, fun i => ?_, zfr_M (by decide) (zfr_F (by decide) (zfr_M (by decide) (zfr_M (by decide) (zfr_M (by decide) (zfr_M (by decide) (zfr_M (by decide) (zfr_M (by decide) (zfr_M (by decide) (zfr_M (by decide) (zfr_M (by decide) zfr_rfl))))))))))⟩
  all_goals simp [zu_FM, zu_MM, zu_FF, zu_MF]
end
section
/-! The class's plan: forget. -/
/-- b blocks and r variables of the standard ones are there -/
def zj_SB (b r : Nat) (h : zs_H) : Prop := (h.1 20 17) = nI b ∧ (h.1 20 18) = nI r ∧ (h.1 20 19) = -1 ∧ (h.1 20 20) = 0 ∧ (∀ i, i < b → (h.2.1 21) i = 0 ∧ (h.2.1 23) i = nI (zj_sv i)) ∧ (∀ i, i + 1 < b → (h.2.1 24) i = nI (zj_sv (i + 1)) ∧ (h.2.1 26) i = zt_2.getD i 0) ∧ (∀ i, i + 1 = b → (h.2.1 24) i = nI r) ∧ (∀ v, v < r → (h.2.1 28) v = 60 + zj_t v 1 ∧ (h.2.1 29) v = zj_t v 2 ∧ (h.2.1 30) v = -1 ∧ (h.2.1 31) v = zj_t v 3 ∧ (h.2.1 32) v = zj_t v 4) ∧ (∀ c, c < 6000 → (h.2.1 36) c = if 41 ≤ c ∧ c < 41 + b then nI (c - 41) else -1) ∧ (∀ c, c < 6000 → (h.2.1 37) c = -1 ∨ ∃ v, v < r ∧ (h.2.1 37) c = nI v) ∧ r ≤ 32 ∧ b ≤ 9
theorem zj_addS {h : zs_H} {b r : Nat} (H : zj_SB (b + 1) r h) (hr : r < 32) : ∃ h', f_Pl_addStandard h (nI (5 * r)) = some h' ∧ zj_SB (b + 1) (r + 1) h' ∧ zfr zj_fs zj_ms [] h h' := by
  obtain ⟨a1, a2, a3, a4, a5, a6, a7, a8, a9, a10, a11, a12⟩ := H
  obtain ⟨x, hx, ex⟩ := zj_tn r hr
  unfold f_Pl_addStandard
  have e1 : nI (5 * r) + 1 = nI (5 * r + 1) := nI_1 _
  have e2 : nI (5 * r) + 2 = nI (5 * r + 2) := zc_ad 2 _
  have e3 : nI (5 * r) + 3 = nI (5 * r + 3) := zc_ad 3 _
  have e4 : nI (5 * r) + 4 = nI (5 * r + 4) := zc_ad 4 _
  rw [e1, e2, e3, e4, if_pos (zi_in (by omega) (by omega)), if_pos (zi_in (by omega) (by omega)), show zt_1.getD (nI (5 * r + 1)).toNatClampNeg 0 = nI x by rw [nI_clamp (by omega)]; exact ex, show (60 : Int32) + nI x = nI (60 + x) from zc_da 60 x]
  obtain ⟨h1, f1, d1, d2, d3, d4, d5, d6, d7, d8, d9, d10, d11, d12⟩ := zj_add (sc := zt_1.getD (nI (5 * r + 2)).toNatClampNeg 0) (ci := 60 + x) a1 (by omega) a2 (by omega) (by omega)
  rw [f1, zo_B, if_pos (zi_in (by omega) (by omega)), if_pos (zi_in (by omega) (by omega)), if_pos (zi_in (by omega) (by omega)), nI_clamp (show r < 2147483648 by omega)]
  have fM : zfr [] [31, 32] [] h1 (zs_uM (zs_uM h1 31 r (zt_1.getD (nI (5 * r + 3)).toNatClampNeg 0)) 32 r (zt_1.getD (nI (5 * r + 4)).toNatClampNeg 0)) := zfr_M (by decide) (zfr_M (by decide) zfr_rfl)
  obtain ⟨h2, hh2⟩ : ∃ h2, h2 = zs_uM (zs_uM h1 31 r (zt_1.getD (nI (5 * r + 3)).toNatClampNeg 0)) 32 r (zt_1.getD (nI (5 * r + 4)).toNatClampNeg 0) := ⟨_, rfl⟩
  have ety : ∀ i, (h2.2.1 31) i = if i = r then zj_t r 3 else (h1.2.1 31) i := fun i => by rw [hh2, nI_clamp (show 5 * r + 3 < 2147483648 by omega)]; simp [zu_MM]; rfl
  have ece : ∀ i, (h2.2.1 32) i = if i = r then zj_t r 4 else (h1.2.1 32) i := fun i => by rw [hh2, nI_clamp (show 5 * r + 4 < 2147483648 by omega)]; simp [zu_MM]; rfl
  rw [← hh2] at fM ⊢
  have eo : ∀ k, ¬ k = 31 → ¬ k = 32 → h2.2.1 k = h1.2.1 k := fun k q1 q2 => fM.2.1 k (by simp [q1, q2])
  refine ⟨h2, rfl, ⟨?_, ?_, ?_, ?_, fun i hi => ?_, fun i hi => ?_, fun i hi => ?_, fun v hv => ?_, fun c hc => ?_, fun c hc => ?_, by omega, a12⟩, zfr_trans (zfr_w d12 (by decide) (by decide) (by decide)) (zfr_w fM (by decide) (by decide) (by decide))⟩
  · rw [fM.1 _ _ (by decide), d12.1 _ _ (by decide)]; exact a1
  · rw [fM.1 _ _ (by decide)]; exact d1
  · rw [fM.1 _ _ (by decide), d12.1 _ _ (by decide)]; exact a3
  · rw [fM.1 _ _ (by decide), d12.1 _ _ (by decide)]; exact a4
  · rw [eo _ (by decide) (by decide), eo _ (by decide) (by decide), d12.2.1 _ (by decide), d12.2.1 _ (by decide)]; exact a5 i hi
  · rw [eo _ (by decide) (by decide), eo _ (by decide) (by decide), d11, if_neg (by omega), d12.2.1 26 (by decide)]; exact a6 i hi
  · rw [eo _ (by decide) (by decide), d11, if_pos (by omega)]
  · rw [eo 28 (by decide) (by decide), eo 29 (by decide) (by decide), eo 30 (by decide) (by decide), ety, ece, d2, d3, d4, d5, d6]
    by_cases ev : v = r
    · subst ev
      rw [if_pos rfl, if_pos rfl, if_pos rfl, if_pos rfl, if_pos rfl, nI_clamp (by omega), ex]
      exact ⟨(zc_da 60 x).symm, rfl, rfl, rfl, rfl⟩
    · rw [if_neg ev, if_neg ev, if_neg ev, if_neg ev, if_neg ev, if_neg ev, if_neg ev]
      exact a8 v (by omega)
  · rw [eo _ (by decide) (by decide), d12.2.1 _ (by decide)]; exact a9 c hc
  · rw [eo _ (by decide) (by decide), d10]
    by_cases ec : c = 60 + x
    · rw [if_pos ec]; exact Or.inr ⟨r, by omega, rfl⟩
    · rw [if_neg ec]
      rcases a10 c hc with z | ⟨v, z1, z2⟩
      · exact Or.inl z
      · exact Or.inr ⟨v, by omega, z2⟩
/-- a standard block's variables -/
theorem zj_forI {k40 : zs_H → Int32 → Int32 → Option zs_H} {b : Nat} (hb : b < 9) : ∀ (w r N : Nat) (h : zs_H), zj_SB (b + 1) r h → zj_sv b ≤ r → r + w = zj_sv (b + 1) → w < N → ∃ h', f_Pl_forget_L57 k40 N h (nI (5 * r)) (nI b) = k40 (zs_uM (zs_uM h' 25 b (zt_2.getD b 0)) 26 b (zt_2.getD b 0)) (nI (5 * zj_sv (b + 1))) (nI (b + 1)) ∧ zj_SB (b + 1) (zj_sv (b + 1)) h' ∧ zfr zj_fs zj_ms [] h h' := by
  have hsv := zj_sv1 b hb
  intro w
  induction w with
  | zero =>
    intro r N h H h1 h2 hN
    obtain ⟨N, rfl⟩ : ∃ z, N = z + 1 := ⟨N - 1, by omega⟩
    have er : r = zj_sv (b + 1) := by omega
    subst er
    refine ⟨h, ?_, H, zfr_rfl⟩
    show f_Pl_forget_57 k40 (f_Pl_forget_L57 k40 N) h (nI (5 * zj_sv (b + 1))) (nI b) = _
    have e87 : f_Pl_forget_87 k40 h (nI (5 * zj_sv (b + 1))) (nI b) = k40 (zs_uM (zs_uM h 25 b (zt_2.getD b 0)) 26 b (zt_2.getD b 0)) (nI (5 * zj_sv (b + 1))) (nI (b + 1)) := by
      unfold f_Pl_forget_87
      rw [if_pos (zi_in (by omega) hb), if_pos (zi_in (by omega) (by omega)), nI_clamp (by omega), nI_1]
    unfold f_Pl_forget_57
    rw [show nI (5 * zj_sv (b + 1)) + 4 = nI (5 * zj_sv (b + 1) + 4) from zc_ad 4 _]
    by_cases c : 160 ≤ 5 * zj_sv (b + 1) + 4
    · rw [if_pos ((zc_le (k := 160) (by decide) (by omega)).mpr c)]; exact e87
    · rw [if_neg (mt (zc_le (k := 160) (by decide) (by omega)).mp c), if_pos (zi_in (by omega) (by omega)), nI_clamp (by omega)]
      have hb8 : b < 8 := by
        by_cases c8 : b = 8
        · exfalso; subst c8; exact c (by decide)
        · omega
      rw [if_neg (show ¬ zt_1.getD (5 * zj_sv (b + 1)) 0 = nI b from zj_t1 b hb8)]; exact e87
  | succ w ih =>
    intro r N h H h1 h2 hN
    obtain ⟨N, rfl⟩ : ∃ z, N = z + 1 := ⟨N - 1, by omega⟩
    obtain ⟨g, e1, Hg, fg⟩ := zj_addS H (by omega)
    obtain ⟨h', e2, H', f'⟩ := ih (r + 1) N g Hg (by omega) (by omega) (by omega)
    refine ⟨h', ?_, H', zfr_trans fg f'⟩
    show f_Pl_forget_57 k40 (f_Pl_forget_L57 k40 N) h (nI (5 * r)) (nI b) = _
    unfold f_Pl_forget_57
    rw [show nI (5 * r) + 4 = nI (5 * r + 4) from zc_ad 4 _, if_neg (mt (zc_le (k := 160) (by decide) (by omega)).mp (by omega)), if_pos (zi_in (by omega) (by omega)), if_pos (show zt_1.getD (nI (5 * r)).toNatClampNeg 0 = nI b by rw [nI_clamp (by omega)]; exact zj_t0 b hb r (by omega) h1 (by omega)), e1, Option.bind_some, show nI (5 * r) + 5 = nI (5 * (r + 1)) by rw [show nI (5 * r) + 5 = nI (5 * r + 5) from zc_ad 5 _]; rfl, e2]
/-- what is known without a text -/
def zj_ST (h : zs_H) : Prop := (∀ i, i < 9 → (h.2.1 21) i = 0 ∧ (h.2.1 23) i = nI (zj_sv i) ∧ (h.2.1 24) i = nI (zj_sv (i + 1)) ∧ (h.2.1 26) i = zt_2.getD i 0) ∧ (∀ v, v < 32 → (h.2.1 28) v = 60 + zj_t v 1 ∧ (h.2.1 29) v = zj_t v 2 ∧ (h.2.1 30) v = -1 ∧ (h.2.1 31) v = zj_t v 3 ∧ (h.2.1 32) v = zj_t v 4)
theorem zj_forO : ∀ (w b N : Nat) (h : zs_H), b + w = 9 → w < N → zj_SB b (zj_sv b) h → (∀ i, i + 1 = b → (h.2.1 26) i = zt_2.getD i 0) → ∃ h', f_Pl_forget_L40 N h (nI (5 * zj_sv b)) (nI b) = some h' ∧ zj_SB 9 32 h' ∧ zj_ST h' ∧ zfr zj_fs zj_ms [] h h' := by
  intro w
  induction w with
  | zero =>
    intro b N h hb hN H hc
    obtain ⟨N, rfl⟩ : ∃ z, N = z + 1 := ⟨N - 1, by omega⟩
    have eb : b = 9 := by omega
    subst eb
    refine ⟨h, ?_, H, ?_, zfr_rfl⟩
    · show f_Pl_forget_40 (f_Pl_forget_L40 N) h (nI (5 * zj_sv 9)) (nI 9) = _
      unfold f_Pl_forget_40
      rw [if_pos (by decide)]
    · obtain ⟨a1, a2, a3, a4, a5, a6, a7, a8, _⟩ := H
      refine ⟨fun i hi => ?_, fun v hv => a8 v hv⟩
      by_cases c : i = 8
      · subst c
        exact ⟨(a5 8 hi).1, (a5 8 hi).2, a7 8 rfl, hc 8 rfl⟩
      · exact ⟨(a5 i hi).1, (a5 i hi).2, (a6 i (by omega)).1, (a6 i (by omega)).2⟩
  | succ w ih =>
    intro b N h hb hN H hc
    obtain ⟨N, rfl⟩ : ∃ z, N = z + 1 := ⟨N - 1, by omega⟩
    have hsv := zj_sv1 b (by omega)
    obtain ⟨a1, a2, a3, a4, a5, a6, a7, a8, a9, a10, a11, a12⟩ := H
    obtain ⟨g, e1, o1, o2, o3, o4, o5, o6, o7, o8, o9, o10, o11⟩ := zj_open (kd := 0) (ci := 41 + b) (nd := -1) a1 (by omega) a2 (by decide) (by omega)
    have Hg : zj_SB (b + 1) (zj_sv b) g := by
      refine ⟨o1, (o11.1 _ _ (by decide)).trans a2, ?_, (o11.1 _ _ (by decide)).trans a4, fun i hi => ?_, fun i hi => ?_, fun i hi => ?_, fun v hv => ?_, fun c hcc => ?_, fun c hcc => ?_, a11, by omega⟩
      · rw [o2, if_neg (by decide)]; exact a3
      · rw [o3, o5]
        by_cases c : i = b
        · rw [if_pos c, if_pos c, c]; exact ⟨rfl, rfl⟩
        · rw [if_neg c, if_neg c]; exact a5 i (by omega)
      · rw [o6, o8, if_neg (by omega), if_neg (by omega)]
        by_cases c : i + 1 = b
        · exact ⟨by rw [a7 i c, c], hc i c⟩
        · exact a6 i (by omega)
      · rw [o6, if_pos (by omega)]
      · rw [o11.2.1 28 (by decide), o11.2.1 29 (by decide), o11.2.1 30 (by decide), o11.2.1 31 (by decide), o11.2.1 32 (by decide)]; exact a8 v hv
      · rw [o10]
        by_cases c1 : c = 41 + b
        · rw [if_pos c1, if_pos (by omega), c1, Nat.add_sub_cancel_left]
        · rw [if_neg c1, a9 c hcc]
          by_cases c2 : 41 ≤ c ∧ c < 41 + b
          · rw [if_pos c2, if_pos (by omega)]
          · rw [if_neg c2, if_neg (by omega)]
      · rw [o11.2.1 37 (by decide)]; exact a10 c hcc
    obtain ⟨h2, e2, H2, f2⟩ := zj_forI (k40 := f_Pl_forget_L40 N) (b := b) (by omega) (zj_sv (b + 1) - zj_sv b) (zj_sv b) zF g Hg (Nat.le_refl _) (by omega) (by have := zF_big; omega)
    obtain ⟨h3, hh3⟩ : ∃ h3, h3 = zs_uM (zs_uM h2 25 b (zt_2.getD b 0)) 26 b (zt_2.getD b 0) := ⟨_, rfl⟩
    have f3 : zfr [] [25, 26] [] h2 h3 := by rw [hh3]; exact zfr_M (by decide) (zfr_M (by decide) zfr_rfl)
    have ecl : ∀ i, (h3.2.1 26) i = if i = b then zt_2.getD b 0 else (h2.2.1 26) i := fun i => by rw [hh3]; simp [zu_MM]
    rw [← hh3] at e2
    have H3 : zj_SB (b + 1) (zj_sv (b + 1)) h3 := by
      obtain ⟨b1, b2, b3, b4, b5, b6, b7, b8, b9, b10, b11, b12⟩ := H2
      have eo : ∀ k, ¬ k = 25 → ¬ k = 26 → h3.2.1 k = h2.2.1 k := fun k q1 q2 => f3.2.1 k (by simp [q1, q2])
      refine ⟨(f3.1 _ _ (by decide)).trans b1, (f3.1 _ _ (by decide)).trans b2, (f3.1 _ _ (by decide)).trans b3, (f3.1 _ _ (by decide)).trans b4, ?_, fun i hi => ?_, ?_, ?_, ?_, ?_, b11, b12⟩
      · rw [eo _ (by decide) (by decide), eo _ (by decide) (by decide)]; exact b5
      · rw [eo _ (by decide) (by decide), ecl, if_neg (by omega)]; exact b6 i hi
      · rw [eo _ (by decide) (by decide)]; exact b7
      · rw [eo _ (by decide) (by decide), eo _ (by decide) (by decide), eo _ (by decide) (by decide), eo _ (by decide) (by decide), eo _ (by decide) (by decide)]; exact b8
      · rw [eo _ (by decide) (by decide)]; exact b9
      · rw [eo _ (by decide) (by decide)]; exact b10
    obtain ⟨h4, e4, H4, S4, f4⟩ := ih (b + 1) N h3 (by omega) (by omega) H3 (fun i hi => by rw [ecl, if_pos (by omega), show i = b by omega])
    refine ⟨h4, ?_, H4, S4, zfr_trans (zfr_trans (zfr_w o11 (by decide) (by decide) (by decide)) f2) (zfr_trans (zfr_w f3 (by decide) (by decide) (by decide)) f4)⟩
    show f_Pl_forget_40 (f_Pl_forget_L40 N) h (nI (5 * zj_sv b)) (nI b) = _
    unfold f_Pl_forget_40
    rw [if_neg (mt (zc_le (k := 9) (by decide) (by omega)).mp (by omega)), show (41 : Int32) + nI b = nI (41 + b) from zc_da 41 b, show f_Pl_open h 0 (nI (41 + b)) (-1) = some (nI b, g) from e1, zo_B, e2, e4]
theorem zj_forget {h : zs_H} : ∃ h', f_Pl_forget h = some h' ∧ zj_SB 9 32 h' ∧ zj_ST h' ∧ zfr zj_fs zj_ms [] h h' := by
  unfold f_Pl_forget
  obtain ⟨h1, e1, a1, f1⟩ := zj_fill36 (h := h) (v := -1)
  obtain ⟨h2, e2, a2, f2⟩ := zj_fill37 (h := h1) (v := -1)
  rw [e1, Option.bind_some, e2, Option.bind_some]
  obtain ⟨h3, hh3⟩ : ∃ h3, h3 = zs_uF (zs_uF (zs_uF (zs_uF h2 20 17 0) 20 18 0) 20 19 (-1)) 20 20 0 := ⟨_, rfl⟩
  have f3 : zfr zj_fs [] [] h2 h3 := by rw [hh3]; exact zfr_F (by decide) (zfr_F (by decide) (zfr_F (by decide) (zfr_F (by decide) zfr_rfl)))
  rw [← hh3]
  have H3 : zj_SB 0 (zj_sv 0) h3 := by
    refine ⟨by rw [hh3]; rfl, by rw [hh3]; rfl, by rw [hh3]; rfl, by rw [hh3]; rfl, fun i hi => absurd hi (Nat.not_lt_zero i), fun i hi => by omega, fun i hi => by omega, fun v hv => absurd hv (Nat.not_lt_zero v), fun c hc => ?_, fun c hc => ?_, by decide, by decide⟩
    · rw [f3.2.1 _ List.not_mem_nil, f2.2.1 _ (by decide), a1 c hc, if_neg (by omega)]
    · rw [f3.2.1 _ List.not_mem_nil]; exact Or.inl (a2 c hc)
  obtain ⟨h4, e4, H4, S4, f4⟩ := zj_forO 9 0 zF h3 (by omega) (by decide) H3 (fun i hi => by omega)
  exact ⟨h4, e4, H4, S4, zfr_trans (zfr_trans (zfr_w f1 (by decide) (by decide) (by decide)) (zfr_w f2 (by decide) (by decide) (by decide))) (zfr_trans (zfr_w f3 (by decide) (by decide) (by decide)) f4)⟩
end
section
/-! The model knows the standard names. -/
theorem zj_lext {a b : List Int32} (h : a.length = b.length) (e : ∀ i, i < a.length → a.getD i 0 = b.getD i 0) : a = b := by
  refine List.ext_getElem h fun i h1 h2 => ?_
  have := e i h1
  rw [List.getD_eq_getElem?_getD, List.getD_eq_getElem?_getD, List.getElem?_eq_getElem h1, List.getElem?_eq_getElem h2] at this
  exact this
def zj_WB : List (List Int32) := [[84, 79, 78], [84, 79, 70], [84, 80], [67, 84, 85], [67, 84, 68], [82, 95, 84, 82, 73, 71], [70, 95, 84, 82, 73, 71], [83, 82], [82, 83]]
def zj_PB : List Nat := [1, 5, 9, 12, 16, 20, 27, 34, 37]
theorem zj_PfB : ∀ w, w < 9 → zj_PB.getD w 40 + (zj_WB.getD w []).length < 40 ∧ (ze_f 10 (zj_PB.getD w 40 + (zj_WB.getD w []).length) &&& 255) = 32 ∧ zj_PB.getD (w + 1) 40 = zj_PB.getD w 40 + (zj_WB.getD w []).length + 1 ∧ ∀ k, k < (zj_WB.getD w []).length → (ze_f 10 (zj_PB.getD w 40 + k) &&& 255) = (zj_WB.getD w []).getD k 0 ∧ ¬ (zj_WB.getD w []).getD k 0 = 32 := by decide +kernel
theorem zj_20B {g : zs_H} {LM : List (List Int32)} {k st w : Nat} {wd : List Int32} {k5 : Int32 → Int32 → Int32 → Option Int32} (HM : zn_M g LM) (hk : k < LM.length) (hst : st + wd.length < 40) (h32 : (ze_f 10 (st + wd.length) &&& 255) = 32) (hw : ∀ k, k < wd.length → (ze_f 10 (st + k) &&& 255) = wd.getD k 0 ∧ ¬ wd.getD k 0 = 32) : ∀ m j fuel, wd.length = j + m → m < fuel →
    f_Mo_wordOf_s10_L20 g k5 fuel (nI k) (nI w) (nI st) (nI j) 0 = f_Mo_wordOf_s10_105 g k5 (nI k) (nI w) (nI st) (nI wd.length) ∧
    ((∀ i, j ≤ i → i < wd.length → i < (LM.getD k []).length ∧ (LM.getD k []).getD i 0 = wd.getD i 0) → f_Mo_wordOf_s10_L20 g k5 fuel (nI k) (nI w) (nI st) (nI j) 1 = if wd.length = (LM.getD k []).length then some (nI w) else f_Mo_wordOf_s10_105 g k5 (nI k) (nI w) (nI st) (nI wd.length)) ∧
    ((¬ ∀ i, j ≤ i → i < wd.length → i < (LM.getD k []).length ∧ (LM.getD k []).getD i 0 = wd.getD i 0) → f_Mo_wordOf_s10_L20 g k5 fuel (nI k) (nI w) (nI st) (nI j) 1 = f_Mo_wordOf_s10_105 g k5 (nI k) (nI w) (nI st) (nI wd.length)) := by
  obtain ⟨n1, n2, n3⟩ := HM
  obtain ⟨d1, d2, d3⟩ := n3 k hk
  have hin : zd_in (nI k) 8192 := zi_in (by omega) (by omega)
  intro m
  induction m with
  | zero =>
    intro j fuel h1 h2
    obtain ⟨f, rfl⟩ : ∃ f, fuel = f + 1 := ⟨fuel - 1, by omega⟩
    have ej : j = wd.length := by omega
    subst ej
    have e0 : ∀ s, f_Mo_wordOf_s10_L20 g k5 (f + 1) (nI k) (nI w) (nI st) (nI wd.length) s = if s = 0 then f_Mo_wordOf_s10_105 g k5 (nI k) (nI w) (nI st) (nI wd.length) else if wd.length = (LM.getD k []).length then some (nI w) else f_Mo_wordOf_s10_105 g k5 (nI k) (nI w) (nI st) (nI wd.length) := by
      intro s
      show f_Mo_wordOf_s10_20 g k5 (f_Mo_wordOf_s10_L20 g k5 f) (nI k) (nI w) (nI st) (nI wd.length) s = _
      unfold f_Mo_wordOf_s10_20
      rw [nI_add, if_pos (zi_in (by omega) (by omega)), if_pos (show (ze_f 10 (nI (st + wd.length)).toNatClampNeg &&& 255) = 32 by rw [nI_clamp (by omega)]; exact h32), if_pos hin, nI_clamp (by omega), d1]
      by_cases c : wd.length = (LM.getD k []).length
      · rw [if_pos c, if_pos (show nI wd.length = nI (LM.getD k []).length by rw [c])]
      · rw [if_neg c, if_neg (fun q => c ((nI_eq (by omega) (by omega)).mp q))]
    refine ⟨by rw [e0, if_pos rfl], fun _ => by rw [e0, if_neg (by decide)], fun q => absurd (fun i h3 h4 => by omega) q⟩
  | succ m ih =>
    intro j fuel h1 h2
    obtain ⟨f, rfl⟩ : ∃ f, fuel = f + 1 := ⟨fuel - 1, by omega⟩
    have hj := hw j (by omega)
    have hi := ih (j + 1) f (by omega) (by omega)
    have hnb : ¬ (ze_f 10 (nI (st + j)).toNatClampNeg &&& 255) = 32 := by rw [nI_clamp (by omega), hj.1]; exact hj.2
    have e0 : f_Mo_wordOf_s10_L20 g k5 (f + 1) (nI k) (nI w) (nI st) (nI j) 0 = f_Mo_wordOf_s10_L20 g k5 f (nI k) (nI w) (nI st) (nI (j + 1)) 0 := by
      show f_Mo_wordOf_s10_20 g k5 (f_Mo_wordOf_s10_L20 g k5 f) (nI k) (nI w) (nI st) (nI j) 0 = _
      unfold f_Mo_wordOf_s10_20
      rw [nI_add, if_pos (zi_in (by omega) (by omega)), if_neg hnb, if_pos rfl]
      unfold f_Mo_wordOf_s10_78 f_Mo_wordOf_s10_79
      rw [nI_1]
    have e1 : f_Mo_wordOf_s10_L20 g k5 (f + 1) (nI k) (nI w) (nI st) (nI j) 1 = if j < (LM.getD k []).length ∧ (LM.getD k []).getD j 0 = wd.getD j 0 then f_Mo_wordOf_s10_L20 g k5 f (nI k) (nI w) (nI st) (nI (j + 1)) 1 else f_Mo_wordOf_s10_L20 g k5 f (nI k) (nI w) (nI st) (nI (j + 1)) 0 := by
      show f_Mo_wordOf_s10_20 g k5 (f_Mo_wordOf_s10_L20 g k5 f) (nI k) (nI w) (nI st) (nI j) 1 = _
      unfold f_Mo_wordOf_s10_20
      rw [nI_add, if_pos (zi_in (by omega) (by omega)), if_neg hnb, if_neg (by decide), if_pos hin]
      unfold f_Mo_wordOf_s10_78 f_Mo_wordOf_s10_79
      rw [nI_1, show (32 : Int32) * nI k + nI j = nI (32 * k + j) by rw [zc_ml, nI_add]]
      by_cases c1 : j < (LM.getD k []).length
      · rw [if_neg (show ¬ g.2.1 71 (nI k).toNatClampNeg ≤ nI j by rw [nI_clamp (by omega), d1]; exact mt (nI_leI (by omega) (by omega)).mp (by omega)), if_pos (zi_in (by omega) (by omega))]
        have e2 : g.2.1 70 (nI (32 * k + j)).toNatClampNeg = (LM.getD k []).getD j 0 := by rw [nI_clamp (by omega)]; exact d3 j c1
        have e3 : (ze_f 10 (nI (st + j)).toNatClampNeg &&& 255) = wd.getD j 0 := by rw [nI_clamp (by omega)]; exact hj.1
        rw [e2, e3]
        by_cases c2 : (LM.getD k []).getD j 0 = wd.getD j 0
        · rw [if_pos c2, if_pos ⟨c1, c2⟩]
        · rw [if_neg c2, if_neg (fun q => c2 q.2)]
      · rw [if_pos (show g.2.1 71 (nI k).toNatClampNeg ≤ nI j by rw [nI_clamp (by omega), d1]; exact (nI_leI (by omega) (by omega)).mpr (by omega)), if_neg (fun q => c1 q.1)]
    refine ⟨e0.trans hi.1, ?_, ?_⟩
    · intro q
      rw [e1, if_pos (q j (by omega) (by omega))]
      exact hi.2.1 fun i h3 h4 => q i (by omega) h4
    · intro q
      rw [e1]
      by_cases c : j < (LM.getD k []).length ∧ (LM.getD k []).getD j 0 = wd.getD j 0
      · rw [if_pos c]
        refine hi.2.2 fun z => q fun i h3 h4 => ?_
        by_cases ei : i = j
        · rw [ei]; exact c
        · exact z i (by omega) h4
      · rw [if_neg c]; exact hi.1
theorem zj_5B {g : zs_H} {LM : List (List Int32)} {k : Nat} (HM : zn_M g LM) (hk : k < LM.length) : ∀ m w fuel, 9 = w + m → m < fuel → (∀ j, j < w → ¬ zj_WB.getD j [] = LM.getD k []) → f_Mo_wordOf_s10_L5 g fuel (nI k) (nI w) (nI (zj_PB.getD w 40)) = some (if LM.getD k [] ∈ zj_WB then nI (zj_WB.idxOf (LM.getD k [])) else -1) := by
  intro m
  induction m with
  | zero =>
    intro w fuel h1 h2 h3
    obtain ⟨f, rfl⟩ : ∃ f, fuel = f + 1 := ⟨fuel - 1, by omega⟩
    have ew : w = 9 := by omega
    subst ew
    show f_Mo_wordOf_s10_5 g (f_Mo_wordOf_s10_L5 g f) (nI k) (nI 9) (nI 40) = _
    unfold f_Mo_wordOf_s10_5
    rw [if_pos (by decide), if_neg]
    intro q
    obtain ⟨j, hj, e1⟩ := List.getElem_of_mem q
    exact h3 j hj (by rw [List.getD_eq_getElem?_getD, List.getElem?_eq_getElem hj]; exact e1)
  | succ m ih =>
    intro w fuel h1 h2 h3
    obtain ⟨f, rfl⟩ : ∃ f, fuel = f + 1 := ⟨fuel - 1, by omega⟩
    obtain ⟨w1, w2, w3, w4⟩ := zj_PfB w (by omega)
    show f_Mo_wordOf_s10_5 g (f_Mo_wordOf_s10_L5 g f) (nI k) (nI w) (nI (zj_PB.getD w 40)) = _
    unfold f_Mo_wordOf_s10_5
    rw [if_neg (mt (zc_le (k := 40) (by decide) (by omega)).mp (by omega))]
    have h18 := zj_20B (w := w) (k5 := f_Mo_wordOf_s10_L5 g f) HM hk w1 w2 w4 (zj_WB.getD w []).length 0 zF (by omega) (by have := zF_big; omega)
    have e103 : f_Mo_wordOf_s10_105 g (f_Mo_wordOf_s10_L5 g f) (nI k) (nI w) (nI (zj_PB.getD w 40)) (nI (zj_WB.getD w []).length) = f_Mo_wordOf_s10_L5 g f (nI k) (nI (w + 1)) (nI (zj_PB.getD (w + 1) 40)) := by
      unfold f_Mo_wordOf_s10_105
      rw [nI_1, nI_add, nI_1, w3]
    have ew : zj_WB.length = 9 := rfl
    by_cases c : zj_WB.getD w [] = LM.getD k []
    · rw [show (0 : Int32) = nI 0 from nI_0.symm, h18.2.1 (fun i _ h5 => ⟨by rw [← c]; exact h5, by rw [c]⟩), if_pos (by rw [c]), zx_idx (by omega) c h3, if_pos]
      rw [← c, List.getD_eq_getElem?_getD, List.getElem?_eq_getElem (by omega)]
      exact List.getElem_mem _
    · have e4 : f_Mo_wordOf_s10_L20 g (f_Mo_wordOf_s10_L5 g f) zF (nI k) (nI w) (nI (zj_PB.getD w 40)) (nI 0) 1 = f_Mo_wordOf_s10_L5 g f (nI k) (nI (w + 1)) (nI (zj_PB.getD (w + 1) 40)) := by
        by_cases c2 : ∀ i, 0 ≤ i → i < (zj_WB.getD w []).length → i < (LM.getD k []).length ∧ (LM.getD k []).getD i 0 = (zj_WB.getD w []).getD i 0
        · rw [h18.2.1 c2, if_neg, e103]
          intro q
          exact c (zj_lext q fun i hi => (c2 i (Nat.zero_le i) hi).2.symm)
        · rw [h18.2.2 c2, e103]
      rw [show (0 : Int32) = nI 0 from nI_0.symm, e4]
      exact ih (w + 1) f (by omega) (by omega) fun j hj => by
        by_cases ej : j = w
        · rw [ej]; exact c
        · exact h3 j (by omega)
theorem zj_wordOfB {g : zs_H} {LM : List (List Int32)} {k : Nat} (HM : zn_M g LM) (hk : k < LM.length) : f_Mo_wordOf_s10 g (nI k) = some (if LM.getD k [] ∈ zj_WB then nI (zj_WB.idxOf (LM.getD k [])) else -1) := zj_5B HM hk 9 0 zF rfl (by have := zF_big; omega) (fun j hj => by omega)
def zj_WF : List (List Int32) := [[65, 66, 83], [77, 73, 78], [77, 65, 88], [76, 73, 77, 73, 84], [83, 69, 76], [83, 72, 76], [83, 72, 82], [84, 79, 95, 73, 78, 84], [84, 79, 95, 68, 73, 78, 84], [84, 79, 95, 66, 79, 79, 76]]
def zj_PF : List Nat := [1, 5, 9, 13, 19, 23, 27, 31, 38, 46]
theorem zj_PfF : ∀ w, w < 10 → zj_PF.getD w 54 + (zj_WF.getD w []).length < 54 ∧ (ze_f 11 (zj_PF.getD w 54 + (zj_WF.getD w []).length) &&& 255) = 32 ∧ zj_PF.getD (w + 1) 54 = zj_PF.getD w 54 + (zj_WF.getD w []).length + 1 ∧ ∀ k, k < (zj_WF.getD w []).length → (ze_f 11 (zj_PF.getD w 54 + k) &&& 255) = (zj_WF.getD w []).getD k 0 ∧ ¬ (zj_WF.getD w []).getD k 0 = 32 := by decide +kernel
theorem zj_20F {g : zs_H} {LM : List (List Int32)} {k st w : Nat} {wd : List Int32} {k5 : Int32 → Int32 → Int32 → Option Int32} (HM : zn_M g LM) (hk : k < LM.length) (hst : st + wd.length < 54) (h32 : (ze_f 11 (st + wd.length) &&& 255) = 32) (hw : ∀ k, k < wd.length → (ze_f 11 (st + k) &&& 255) = wd.getD k 0 ∧ ¬ wd.getD k 0 = 32) : ∀ m j fuel, wd.length = j + m → m < fuel →
    f_Mo_wordOf_s11_L20 g k5 fuel (nI k) (nI w) (nI st) (nI j) 0 = f_Mo_wordOf_s11_105 g k5 (nI k) (nI w) (nI st) (nI wd.length) ∧
    ((∀ i, j ≤ i → i < wd.length → i < (LM.getD k []).length ∧ (LM.getD k []).getD i 0 = wd.getD i 0) → f_Mo_wordOf_s11_L20 g k5 fuel (nI k) (nI w) (nI st) (nI j) 1 = if wd.length = (LM.getD k []).length then some (nI w) else f_Mo_wordOf_s11_105 g k5 (nI k) (nI w) (nI st) (nI wd.length)) ∧
    ((¬ ∀ i, j ≤ i → i < wd.length → i < (LM.getD k []).length ∧ (LM.getD k []).getD i 0 = wd.getD i 0) → f_Mo_wordOf_s11_L20 g k5 fuel (nI k) (nI w) (nI st) (nI j) 1 = f_Mo_wordOf_s11_105 g k5 (nI k) (nI w) (nI st) (nI wd.length)) := by
  obtain ⟨n1, n2, n3⟩ := HM
  obtain ⟨d1, d2, d3⟩ := n3 k hk
  have hin : zd_in (nI k) 8192 := zi_in (by omega) (by omega)
  intro m
  induction m with
  | zero =>
    intro j fuel h1 h2
    obtain ⟨f, rfl⟩ : ∃ f, fuel = f + 1 := ⟨fuel - 1, by omega⟩
    have ej : j = wd.length := by omega
    subst ej
    have e0 : ∀ s, f_Mo_wordOf_s11_L20 g k5 (f + 1) (nI k) (nI w) (nI st) (nI wd.length) s = if s = 0 then f_Mo_wordOf_s11_105 g k5 (nI k) (nI w) (nI st) (nI wd.length) else if wd.length = (LM.getD k []).length then some (nI w) else f_Mo_wordOf_s11_105 g k5 (nI k) (nI w) (nI st) (nI wd.length) := by
      intro s
      show f_Mo_wordOf_s11_20 g k5 (f_Mo_wordOf_s11_L20 g k5 f) (nI k) (nI w) (nI st) (nI wd.length) s = _
      unfold f_Mo_wordOf_s11_20
      rw [nI_add, if_pos (zi_in (by omega) (by omega)), if_pos (show (ze_f 11 (nI (st + wd.length)).toNatClampNeg &&& 255) = 32 by rw [nI_clamp (by omega)]; exact h32), if_pos hin, nI_clamp (by omega), d1]
      by_cases c : wd.length = (LM.getD k []).length
      · rw [if_pos c, if_pos (show nI wd.length = nI (LM.getD k []).length by rw [c])]
      · rw [if_neg c, if_neg (fun q => c ((nI_eq (by omega) (by omega)).mp q))]
    refine ⟨by rw [e0, if_pos rfl], fun _ => by rw [e0, if_neg (by decide)], fun q => absurd (fun i h3 h4 => by omega) q⟩
  | succ m ih =>
    intro j fuel h1 h2
    obtain ⟨f, rfl⟩ : ∃ f, fuel = f + 1 := ⟨fuel - 1, by omega⟩
    have hj := hw j (by omega)
    have hi := ih (j + 1) f (by omega) (by omega)
    have hnb : ¬ (ze_f 11 (nI (st + j)).toNatClampNeg &&& 255) = 32 := by rw [nI_clamp (by omega), hj.1]; exact hj.2
    have e0 : f_Mo_wordOf_s11_L20 g k5 (f + 1) (nI k) (nI w) (nI st) (nI j) 0 = f_Mo_wordOf_s11_L20 g k5 f (nI k) (nI w) (nI st) (nI (j + 1)) 0 := by
      show f_Mo_wordOf_s11_20 g k5 (f_Mo_wordOf_s11_L20 g k5 f) (nI k) (nI w) (nI st) (nI j) 0 = _
      unfold f_Mo_wordOf_s11_20
      rw [nI_add, if_pos (zi_in (by omega) (by omega)), if_neg hnb, if_pos rfl]
      unfold f_Mo_wordOf_s11_78 f_Mo_wordOf_s11_79
      rw [nI_1]
    have e1 : f_Mo_wordOf_s11_L20 g k5 (f + 1) (nI k) (nI w) (nI st) (nI j) 1 = if j < (LM.getD k []).length ∧ (LM.getD k []).getD j 0 = wd.getD j 0 then f_Mo_wordOf_s11_L20 g k5 f (nI k) (nI w) (nI st) (nI (j + 1)) 1 else f_Mo_wordOf_s11_L20 g k5 f (nI k) (nI w) (nI st) (nI (j + 1)) 0 := by
      show f_Mo_wordOf_s11_20 g k5 (f_Mo_wordOf_s11_L20 g k5 f) (nI k) (nI w) (nI st) (nI j) 1 = _
      unfold f_Mo_wordOf_s11_20
      rw [nI_add, if_pos (zi_in (by omega) (by omega)), if_neg hnb, if_neg (by decide), if_pos hin]
      unfold f_Mo_wordOf_s11_78 f_Mo_wordOf_s11_79
      rw [nI_1, show (32 : Int32) * nI k + nI j = nI (32 * k + j) by rw [zc_ml, nI_add]]
      by_cases c1 : j < (LM.getD k []).length
      · rw [if_neg (show ¬ g.2.1 71 (nI k).toNatClampNeg ≤ nI j by rw [nI_clamp (by omega), d1]; exact mt (nI_leI (by omega) (by omega)).mp (by omega)), if_pos (zi_in (by omega) (by omega))]
        have e2 : g.2.1 70 (nI (32 * k + j)).toNatClampNeg = (LM.getD k []).getD j 0 := by rw [nI_clamp (by omega)]; exact d3 j c1
        have e3 : (ze_f 11 (nI (st + j)).toNatClampNeg &&& 255) = wd.getD j 0 := by rw [nI_clamp (by omega)]; exact hj.1
        rw [e2, e3]
        by_cases c2 : (LM.getD k []).getD j 0 = wd.getD j 0
        · rw [if_pos c2, if_pos ⟨c1, c2⟩]
        · rw [if_neg c2, if_neg (fun q => c2 q.2)]
      · rw [if_pos (show g.2.1 71 (nI k).toNatClampNeg ≤ nI j by rw [nI_clamp (by omega), d1]; exact (nI_leI (by omega) (by omega)).mpr (by omega)), if_neg (fun q => c1 q.1)]
    refine ⟨e0.trans hi.1, ?_, ?_⟩
    · intro q
      rw [e1, if_pos (q j (by omega) (by omega))]
      exact hi.2.1 fun i h3 h4 => q i (by omega) h4
    · intro q
      rw [e1]
      by_cases c : j < (LM.getD k []).length ∧ (LM.getD k []).getD j 0 = wd.getD j 0
      · rw [if_pos c]
        refine hi.2.2 fun z => q fun i h3 h4 => ?_
        by_cases ei : i = j
        · rw [ei]; exact c
        · exact z i (by omega) h4
      · rw [if_neg c]; exact hi.1
theorem zj_5F {g : zs_H} {LM : List (List Int32)} {k : Nat} (HM : zn_M g LM) (hk : k < LM.length) : ∀ m w fuel, 10 = w + m → m < fuel → (∀ j, j < w → ¬ zj_WF.getD j [] = LM.getD k []) → f_Mo_wordOf_s11_L5 g fuel (nI k) (nI w) (nI (zj_PF.getD w 54)) = some (if LM.getD k [] ∈ zj_WF then nI (zj_WF.idxOf (LM.getD k [])) else -1) := by
  intro m
  induction m with
  | zero =>
    intro w fuel h1 h2 h3
    obtain ⟨f, rfl⟩ : ∃ f, fuel = f + 1 := ⟨fuel - 1, by omega⟩
    have ew : w = 10 := by omega
    subst ew
    show f_Mo_wordOf_s11_5 g (f_Mo_wordOf_s11_L5 g f) (nI k) (nI 10) (nI 54) = _
    unfold f_Mo_wordOf_s11_5
    rw [if_pos (by decide), if_neg]
    intro q
    obtain ⟨j, hj, e1⟩ := List.getElem_of_mem q
    exact h3 j hj (by rw [List.getD_eq_getElem?_getD, List.getElem?_eq_getElem hj]; exact e1)
  | succ m ih =>
    intro w fuel h1 h2 h3
    obtain ⟨f, rfl⟩ : ∃ f, fuel = f + 1 := ⟨fuel - 1, by omega⟩
    obtain ⟨w1, w2, w3, w4⟩ := zj_PfF w (by omega)
    show f_Mo_wordOf_s11_5 g (f_Mo_wordOf_s11_L5 g f) (nI k) (nI w) (nI (zj_PF.getD w 54)) = _
    unfold f_Mo_wordOf_s11_5
    rw [if_neg (mt (zc_le (k := 54) (by decide) (by omega)).mp (by omega))]
    have h18 := zj_20F (w := w) (k5 := f_Mo_wordOf_s11_L5 g f) HM hk w1 w2 w4 (zj_WF.getD w []).length 0 zF (by omega) (by have := zF_big; omega)
    have e103 : f_Mo_wordOf_s11_105 g (f_Mo_wordOf_s11_L5 g f) (nI k) (nI w) (nI (zj_PF.getD w 54)) (nI (zj_WF.getD w []).length) = f_Mo_wordOf_s11_L5 g f (nI k) (nI (w + 1)) (nI (zj_PF.getD (w + 1) 54)) := by
      unfold f_Mo_wordOf_s11_105
      rw [nI_1, nI_add, nI_1, w3]
    have ew : zj_WF.length = 10 := rfl
    by_cases c : zj_WF.getD w [] = LM.getD k []
    · rw [show (0 : Int32) = nI 0 from nI_0.symm, h18.2.1 (fun i _ h5 => ⟨by rw [← c]; exact h5, by rw [c]⟩), if_pos (by rw [c]), zx_idx (by omega) c h3, if_pos]
      rw [← c, List.getD_eq_getElem?_getD, List.getElem?_eq_getElem (by omega)]
      exact List.getElem_mem _
    · have e4 : f_Mo_wordOf_s11_L20 g (f_Mo_wordOf_s11_L5 g f) zF (nI k) (nI w) (nI (zj_PF.getD w 54)) (nI 0) 1 = f_Mo_wordOf_s11_L5 g f (nI k) (nI (w + 1)) (nI (zj_PF.getD (w + 1) 54)) := by
        by_cases c2 : ∀ i, 0 ≤ i → i < (zj_WF.getD w []).length → i < (LM.getD k []).length ∧ (LM.getD k []).getD i 0 = (zj_WF.getD w []).getD i 0
        · rw [h18.2.1 c2, if_neg, e103]
          intro q
          exact c (zj_lext q fun i hi => (c2 i (Nat.zero_le i) hi).2.symm)
        · rw [h18.2.2 c2, e103]
      rw [show (0 : Int32) = nI 0 from nI_0.symm, e4]
      exact ih (w + 1) f (by omega) (by omega) fun j hj => by
        by_cases ej : j = w
        · rw [ej]; exact c
        · exact h3 j (by omega)
theorem zj_wordOfF {g : zs_H} {LM : List (List Int32)} {k : Nat} (HM : zn_M g LM) (hk : k < LM.length) : f_Mo_wordOf_s11 g (nI k) = some (if LM.getD k [] ∈ zj_WF then nI (zj_WF.idxOf (LM.getD k [])) else -1) := zj_5F HM hk 10 0 zF rfl (by have := zF_big; omega) (fun j hj => by omega)
theorem zj_WBK : (zk_K.drop 41).take 9 = zj_WB := by decide +kernel
theorem zj_WFK : (zk_K.drop 50).take 10 = zj_WF := by decide +kernel
/-- numbers of names in the class and in the model are in step -/
theorem zt_nr_inj {LC LM : List (List Int32)} (hC : LC.Nodup) (hM : LM.Nodup) {v w v' w' : Int32} (a : zt_nr LC LM v w) (b : zt_nr LC LM v' w') (hl : LC.length < 6000) (hm : LM.length < 8000) : v = v' ↔ w = w' := by
  obtain ⟨c, k, e1, e2, e3, e4, e5, e6⟩ := a
  obtain ⟨c', k', f1, f2, f3, f4, f5, f6⟩ := b
  have gi : ∀ (L : List (List Int32)) (i j : Nat), L.Nodup → i < L.length → j < L.length → L.getD i [] = L.getD j [] → i = j := by
    intro L i j hN hi hj e
    rw [List.getD_eq_getElem?_getD, List.getD_eq_getElem?_getD, List.getElem?_eq_getElem hi, List.getElem?_eq_getElem hj] at e
    exact (List.getElem_inj hN).mp e
  constructor
  · intro z
    rw [e1, f1] at z
    have := (nI_eq (by omega) (by omega)).mp z
    subst this
    have := gi LM k k' hM e5 f5 (e6.symm.trans f6)
    rw [e2, f2, this]
  · intro z
    rw [e2, f2] at z
    have := (nI_eq (by omega) (by omega)).mp z
    subst this
    have := gi LC c c' hC e4 f4 (e6.trans f6.symm)
    rw [e1, f1, this]
/-- which names are standard -/
theorem zj_std {LC : List (List Int32)} (hC : LC.Nodup) (hK : LC.take 75 = zk_K) {c : Nat} (hc : c < LC.length) {W : List (List Int32)} {a n : Nat} (hW : (zk_K.drop a).take n = W) (han : a + n ≤ 75) (hn : W.length = n) : (LC.getD c [] ∈ W ↔ a ≤ c ∧ c < a + n) ∧ (LC.getD c [] ∈ W → W.idxOf (LC.getD c []) = c - a) := by
  have hl : 75 ≤ LC.length := by
    have := congrArg List.length hK
    rw [List.length_take, show zk_K.length = 75 by decide +kernel] at this
    omega
  have hg : ∀ i, i < n → W.getD i [] = LC.getD (a + i) [] := by
    intro i hi
    rw [← hW, ← hK, List.getD_eq_getElem?_getD, List.getD_eq_getElem?_getD, List.getElem?_take, if_pos hi, List.getElem?_drop, List.getElem?_take, if_pos (by omega)]
  have gi : ∀ (i j : Nat), i < LC.length → j < LC.length → LC.getD i [] = LC.getD j [] → i = j := by
    intro i j hi hj e
    rw [List.getD_eq_getElem?_getD, List.getD_eq_getElem?_getD, List.getElem?_eq_getElem hi, List.getElem?_eq_getElem hj] at e
    exact (List.getElem_inj hC).mp e
  have h1 : ∀ i, i < n → W.getD i [] = LC.getD c [] → c = a + i := fun i hi e => gi c (a + i) hc (by omega) (by rw [← e, hg i hi])
  have key : LC.getD c [] ∈ W → c = a + W.idxOf (LC.getD c []) ∧ W.idxOf (LC.getD c []) < n := by
    intro z
    have hlt := List.idxOf_lt_length_of_mem z
    refine ⟨h1 _ (by omega) ?_, by omega⟩
    rw [List.getD_eq_getElem?_getD, List.getElem?_eq_getElem hlt]
    exact List.getElem_idxOf hlt
  refine ⟨⟨fun z => by have := key z; omega, fun z => ?_⟩, fun z => by have := key z; omega⟩
  have := hg (c - a) (by omega)
  rw [show a + (c - a) = c by omega] at this
  rw [← this, List.getD_eq_getElem?_getD, List.getElem?_eq_getElem (by omega)]
  exact List.getElem_mem _
end
section
/-! The judge's tables: blocks and names of both sides, and how they are looked up. -/
def zv_S (LC LM : List (List Int32)) (g : zs_H) : Prop := LC.Nodup ∧ LM.Nodup ∧ LC.length < 6000 ∧ LM.length < 8000 ∧ LC.take 75 = zk_K ∧ zn_M g LM
def zv_B (LC LM : List (List Int32)) (nb : Nat) (F : Nat → Nat) (h g : zs_H) : Prop :=
  ((h.1 20 17) = nI (9 + nb) ∧ (g.1 68 33) = nI nb ∧ nb ≤ 568) ∧ ((h.1 20 18) = nI (32 + F nb) ∧ (g.1 68 41) = nI (F nb) ∧ F nb ≤ 5900) ∧ zj_ST h ∧
  (∀ b, b < nb → F b ≤ F (b + 1) ∧ F (b + 1) ≤ F nb) ∧
  (∀ b, b < nb → ∃ kd, (kd = 1 ∨ kd = 2 ∨ kd = 3) ∧ (h.2.1 21) (9 + b) = nI kd ∧ (g.2.1 86) b = nI kd ∧ (kd = 3 → b + 1 = nb)) ∧
  (∀ b, b < nb → (h.2.1 23) (9 + b) = nI (32 + F b) ∧ (g.2.1 90) b = nI (F b) ∧ (h.2.1 24) (9 + b) = nI (32 + F (b + 1))) ∧
  (∀ b, b < nb → ∃ c, zt_nr LC LM (nI c) ((g.2.1 85) b) ∧ c < 6000 ∧ (h.2.1 36) c = nI (9 + b)) ∧
  (∀ c, c < 6000 → (h.2.1 36) c = -1 ∨ (41 ≤ c ∧ c < 50 ∧ (h.2.1 36) c = nI (c - 41)) ∨ ∃ b, b < nb ∧ (h.2.1 36) c = nI (9 + b) ∧ zt_nr LC LM (nI c) ((g.2.1 85) b)) ∧
  (∀ c, 41 ≤ c → c < 50 → (h.2.1 36) c = nI (c - 41)) ∧
  (h.1 20 19) = (if 0 < nb ∧ (g.2.1 86) (nb - 1) = 3 then nI (8 + nb) else -1)
def zv_N (LC LM : List (List Int32)) (nb : Nat) (F : Nat → Nat) (h g : zs_H) : Prop :=
  (∀ v, v < F nb → zt_nr LC LM ((h.2.1 28) (32 + v)) ((g.2.1 91) v)) ∧
  (∀ c, c < 6000 → (h.2.1 37) c = -1 ∨ ∃ w, w < 32 + F nb ∧ (h.2.1 37) c = nI w ∧ (32 ≤ w → (h.2.1 28) w = nI c)) ∧
  (∀ v, F (nb - 1) ≤ v → v < F nb → ∃ c, c < 6000 ∧ (h.2.1 28) (32 + v) = nI c ∧ (h.2.1 37) c = nI (32 + v))
theorem zv_least (p : Nat → Prop) (a : Nat) : ∀ e, (∀ j, a ≤ j → j < e → ¬ p j) ∨ ∃ j, a ≤ j ∧ j < e ∧ p j ∧ ∀ i, a ≤ i → i < j → ¬ p i := by
  intro e
  induction e with
  | zero => exact .inl fun j _ h => absurd h (by omega)
  | succ e ih =>
    rcases ih with q | ⟨j, h1, h2, h3, h4⟩
    · by_cases c : a ≤ e ∧ p e
      · exact .inr ⟨e, c.1, by omega, c.2, fun i h1 h2 => q i h1 h2⟩
      · refine .inl fun j h1 h2 h3 => ?_
        by_cases ej : j = e
        · subst ej; exact c ⟨h1, h3⟩
        · exact q j h1 (by omega) h3
    · exact .inr ⟨j, h1, by omega, h3, h4⟩
theorem zv_scanM {g : zs_H} {b e : Nat} {w : Int32} (hb : b < 2100) (he : e ≤ 8400) (hbd : (if nI b = (g.1 68 33) - 1 then (g.1 68 41) else (g.2.1 90) (b + 1)) = nI e) : ∀ m v fuel, v + m = e → m < fuel →
    ((∀ j, v ≤ j → j < e → ¬ (g.2.1 91) j = w) → f_Mo_variable_L7 g fuel (nI b) w (nI v) = some (-1)) ∧ (∀ j, v ≤ j → j < e → (g.2.1 91) j = w → (∀ i, v ≤ i → i < j → ¬ (g.2.1 91) i = w) → f_Mo_variable_L7 g fuel (nI b) w (nI v) = some (nI j)) := by
  intro m
  induction m with
  | zero =>
    intro v fuel h1 h2
    obtain ⟨f, rfl⟩ : ∃ f, fuel = f + 1 := ⟨fuel - 1, by omega⟩
    refine ⟨fun _ => ?_, fun j h3 h4 => by omega⟩
    show f_Mo_variable_7 g (f_Mo_variable_L7 g f) (nI b) w (nI v) = _
    unfold f_Mo_variable_7 f_Mo_variable_33
    have hl : nI e ≤ nI v := (nI_leI (by omega) (by omega)).mpr (by omega)
    by_cases c : nI b = (g.1 68 33) - 1
    · rw [if_pos c] at hbd
      rw [if_pos c, hbd, if_pos hl]
    · rw [if_neg c] at hbd
      rw [if_neg c, nI_1, if_pos (zi_in (by omega) (by omega)), nI_clamp (by omega), hbd, if_pos hl]
  | succ m ih =>
    intro v fuel h1 h2
    obtain ⟨f, rfl⟩ : ∃ f, fuel = f + 1 := ⟨fuel - 1, by omega⟩
    have hi := ih (v + 1) f (by omega) (by omega)
    have hl : ¬ nI e ≤ nI v := mt (nI_leI (by omega) (by omega)).mp (by omega)
    have e0 : f_Mo_variable_L7 g (f + 1) (nI b) w (nI v) = if (g.2.1 91) v = w then some (nI v) else f_Mo_variable_L7 g f (nI b) w (nI (v + 1)) := by
      show f_Mo_variable_7 g (f_Mo_variable_L7 g f) (nI b) w (nI v) = _
      unfold f_Mo_variable_7 f_Mo_variable_33
      by_cases c : nI b = (g.1 68 33) - 1
      · rw [if_pos c] at hbd
        rw [if_pos c, hbd, if_neg hl, if_pos (zi_in (by omega) (by omega)), nI_clamp (by omega), nI_1]
      · rw [if_neg c] at hbd
        rw [if_neg c, nI_1, if_pos (zi_in (by omega) (by omega)), nI_clamp (by omega), hbd, if_neg hl, if_pos (zi_in (by omega) (by omega)), nI_clamp (by omega), nI_1]
    rw [e0]
    refine ⟨fun q => ?_, fun j h3 h4 h5 h6 => ?_⟩
    · rw [if_neg (q v (by omega) (by omega))]
      exact hi.1 fun j h3 h4 => q j (by omega) h4
    · by_cases ej : j = v
      · subst ej; rw [if_pos h5]
      · rw [if_neg (h6 v (by omega) (by omega))]
        exact hi.2 j (by omega) h4 h5 fun i h7 h8 => h6 i (by omega) h8
theorem zv_scanC {h : zs_H} {b e : Nat} {w : Int32} (hb : b < 629) (he : e ≤ 6000) (hbd : (h.2.1 24) b = nI e) : ∀ m v fuel, v + m = e → m < fuel →
    ((∀ j, v ≤ j → j < e → ¬ (h.2.1 28) j = w) → f_Pl_variableOf_L7 h fuel (nI b) w (nI v) = some (-1)) ∧ (∀ j, v ≤ j → j < e → (h.2.1 28) j = w → (∀ i, v ≤ i → i < j → ¬ (h.2.1 28) i = w) → f_Pl_variableOf_L7 h fuel (nI b) w (nI v) = some (nI j)) := by
  intro m
  induction m with
  | zero =>
    intro v fuel h1 h2
    obtain ⟨f, rfl⟩ : ∃ f, fuel = f + 1 := ⟨fuel - 1, by omega⟩
    refine ⟨fun _ => ?_, fun j h3 h4 => by omega⟩
    show f_Pl_variableOf_7 h (f_Pl_variableOf_L7 h f) (nI b) w (nI v) = _
    unfold f_Pl_variableOf_7
    rw [if_pos (zi_in (by omega) hb), nI_clamp (by omega), hbd, if_pos ((nI_leI (by omega) (by omega)).mpr (by omega))]
  | succ m ih =>
    intro v fuel h1 h2
    obtain ⟨f, rfl⟩ : ∃ f, fuel = f + 1 := ⟨fuel - 1, by omega⟩
    have hi := ih (v + 1) f (by omega) (by omega)
    have hl : ¬ nI e ≤ nI v := mt (nI_leI (by omega) (by omega)).mp (by omega)
    have e0 : f_Pl_variableOf_L7 h (f + 1) (nI b) w (nI v) = if (h.2.1 28) v = w then some (nI v) else f_Pl_variableOf_L7 h f (nI b) w (nI (v + 1)) := by
      show f_Pl_variableOf_7 h (f_Pl_variableOf_L7 h f) (nI b) w (nI v) = _
      unfold f_Pl_variableOf_7
      rw [if_pos (zi_in (by omega) hb), nI_clamp (n := b) (by omega), hbd, if_neg hl, if_pos (zi_in (by omega) (by omega)), nI_clamp (by omega), nI_1]
    rw [e0]
    refine ⟨fun q => ?_, fun j h3 h4 h5 h6 => ?_⟩
    · rw [if_neg (q v (by omega) (by omega))]
      exact hi.1 fun j h3 h4 => q j (by omega) h4
    · by_cases ej : j = v
      · subst ej; rw [if_pos h5]
      · rw [if_neg (h6 v (by omega) (by omega))]
        exact hi.2 j (by omega) h4 h5 fun i h7 h8 => h6 i (by omega) h8
theorem zv_bdM {LC LM : List (List Int32)} {nb b : Nat} {F : Nat → Nat} {h g : zs_H} (HB : zv_B LC LM nb F h g) (hb : b < nb) : (if nI b = (g.1 68 33) - 1 then (g.1 68 41) else (g.2.1 90) (b + 1)) = nI (F (b + 1)) := by
  obtain ⟨⟨B1, B2, B3⟩, ⟨V1, V2, V3⟩, _, _, _, B6, _⟩ := HB
  rw [B2, show nI nb - 1 = nI (nb - 1) from zi_sub (b := 1) (by omega)]
  by_cases c : b = nb - 1
  · rw [if_pos (by rw [c]), V2, show b + 1 = nb by omega]
  · rw [if_neg (fun q => c ((nI_eq (by omega) (by omega)).mp q)), (B6 (b + 1) (by omega)).2.1]
/-- a name in a finished block, on both sides -/
theorem zv_of {LC LM : List (List Int32)} {nb b c : Nat} {F : Nat → Nat} {h g : zs_H} {w : Int32} (HS : zv_S LC LM g) (HB : zv_B LC LM nb F h g) (HN : zv_N LC LM nb F h g) (hb : b < nb) (hw : zt_nr LC LM (nI c) w) :
    (∃ v, F b ≤ v ∧ v < F (b + 1) ∧ (h.2.1 28) (32 + v) = nI c ∧ f_Pl_variableOf h (nI (9 + b)) (nI c) = some (nI (32 + v)) ∧ f_Mo_variable g (nI b) w = some (nI v)) ∨
    (f_Pl_variableOf h (nI (9 + b)) (nI c) = some (-1) ∧ f_Mo_variable g (nI b) w = some (-1) ∧ ∀ v, F b ≤ v → v < F (b + 1) → ¬ (h.2.1 28) (32 + v) = nI c) := by
  obtain ⟨S1, S2, S3, S4, S5, S6⟩ := HS
  have hbd := zv_bdM HB hb
  obtain ⟨⟨B1, B2, B3⟩, ⟨V1, V2, V3⟩, B4, BF, B5, B6, B7, B8, B9, B10⟩ := HB
  obtain ⟨N1, N2, N3⟩ := HN
  have hF := BF b hb
  have h6 := B6 b hb
  have iff : ∀ v, v < F (b + 1) → ((h.2.1 28) (32 + v) = nI c ↔ (g.2.1 91) v = w) := fun v hv => zt_nr_inj S1 S2 (N1 v (by omega)) hw S3 S4
  have eC : f_Pl_variableOf h (nI (9 + b)) (nI c) = f_Pl_variableOf_L7 h zF (nI (9 + b)) (nI c) (nI (32 + F b)) := by
    unfold f_Pl_variableOf
    rw [if_pos (zi_in (by omega) (by omega)), nI_clamp (by omega), h6.1]
  have eM : f_Mo_variable g (nI b) w = f_Mo_variable_L7 g zF (nI b) w (nI (F b)) := by
    unfold f_Mo_variable
    rw [if_pos (zi_in (by omega) (by omega)), nI_clamp (by omega), h6.2.1]
  have sM := zv_scanM (w := w) (by omega) (by omega) hbd (F (b + 1) - F b) (F b) zF (by omega) (by have := zF_big; omega)
  have sC := zv_scanC (w := nI c) (by omega) (by omega) h6.2.2 (F (b + 1) - F b) (32 + F b) zF (by omega) (by have := zF_big; omega)
  rw [eC, eM]
  rcases zv_least (fun v => (h.2.1 28) (32 + v) = nI c) (F b) (F (b + 1)) with q | ⟨v, h1, h2, h3, h4⟩
  · refine .inr ⟨sC.1 fun j h1 h2 h3 => q (j - 32) (by omega) (by omega) (by rw [show 32 + (j - 32) = j by omega]; exact h3), sM.1 fun j h1 h2 h3 => q j h1 h2 ((iff j h2).mpr h3), q⟩
  · refine .inl ⟨v, h1, h2, h3, sC.2 (32 + v) (by omega) (by omega) h3 fun i h5 h7 h8 => h4 (i - 32) (by omega) (by omega) (by show _ = _; rw [show 32 + (i - 32) = i by omega]; exact h8), sM.2 v h1 h2 ((iff v h2).mp h3) fun i h5 h7 h8 => h4 i h5 h7 ((iff i (by omega)).mpr h8)⟩
/-- a name in the block that is open, on both sides -/
theorem zv_here {LC LM : List (List Int32)} {nb c : Nat} {F : Nat → Nat} {h g : zs_H} {w : Int32} (HS : zv_S LC LM g) (HB : zv_B LC LM nb F h g) (HN : zv_N LC LM nb F h g) (hb : 0 < nb) (hc : c < 6000) (hw : zt_nr LC LM (nI c) w) :
    (∃ v, F (nb - 1) ≤ v ∧ v < F nb ∧ (h.2.1 28) (32 + v) = nI c ∧ f_Pl_variableHere h (nI c) = some (nI (32 + v)) ∧ f_Mo_variable g (nI (nb - 1)) w = some (nI v)) ∨
    (f_Pl_variableHere h (nI c) = some (-1) ∧ f_Mo_variable g (nI (nb - 1)) w = some (-1) ∧ ∀ v, F (nb - 1) ≤ v → v < F nb → ¬ (h.2.1 28) (32 + v) = nI c) := by
  have ho := zv_of HS HB HN (show nb - 1 < nb by omega) hw
  obtain ⟨⟨B1, B2, B3⟩, ⟨V1, V2, V3⟩, B4, BF, B5, B6, B7, B8, B9, B10⟩ := HB
  obtain ⟨N1, N2, N3⟩ := HN
  have h6 := B6 (nb - 1) (by omega)
  have hF := BF (nb - 1) (by omega)
  rw [show nb - 1 + 1 = nb by omega] at ho hF
  have e8 : (h.1 20 17) - 1 = nI (9 + (nb - 1)) := by rw [B1, show (1 : Int32) = nI 1 from rfl, zi_sub (by omega), show 9 + nb - 1 = 9 + (nb - 1) by omega]
  have eC : f_Pl_variableHere h (nI c) = if (h.2.1 37) c < nI (32 + F (nb - 1)) then some (-1) else some ((h.2.1 37) c) := by
    unfold f_Pl_variableHere
    rw [if_pos (zi_in (by omega) hc), if_neg (by rw [B1]; exact mt (zc_el (k := 0) (by decide) (by omega)).mp (by omega)), e8, if_pos (zi_in (by omega) (by omega)), nI_clamp (by omega), nI_clamp (by omega), h6.1]
  rcases ho with ⟨v, h1, h2, h3, h4, h5⟩ | ⟨h1, h2, h3⟩
  · obtain ⟨c', hc', e1, e2⟩ := N3 v h1 h2
    have ec : c' = c := (nI_eq (by omega) (by omega)).mp (e1.symm.trans h3)
    subst ec
    refine .inl ⟨v, h1, h2, h3, ?_, h5⟩
    rw [eC, e2, if_neg (mt (nI_ltI (by omega) (by omega)).mp (by omega))]
  · refine .inr ⟨?_, h2, h3⟩
    rw [eC]
    rcases N2 c hc with q | ⟨x, hx, q1, q2⟩
    · rw [q]
      split <;> rfl
    · rw [q1, if_pos]
      refine (nI_ltI (by omega) (by omega)).mpr ?_
      by_cases c1 : 32 + F (nb - 1) ≤ x
      · exact absurd (by rw [show 32 + (x - 32) = x by omega]; exact q2 (by omega)) (h3 (x - 32) (by omega) (by omega))
      · omega
theorem zv_scanB {g : zs_H} {e : Nat} {w : Int32} (he : e ≤ 2100) : ∀ m v fuel, v + m = e → m < fuel →
    ((∀ j, v ≤ j → j < e → ¬ (g.2.1 85) j = w) → f_Mo_blockNamed_L2 g fuel w (nI e) (nI v) = some (-1)) ∧ (∀ j, v ≤ j → j < e → (g.2.1 85) j = w → (∀ i, v ≤ i → i < j → ¬ (g.2.1 85) i = w) → f_Mo_blockNamed_L2 g fuel w (nI e) (nI v) = some (nI j)) := by
  intro m
  induction m with
  | zero =>
    intro v fuel h1 h2
    obtain ⟨f, rfl⟩ : ∃ f, fuel = f + 1 := ⟨fuel - 1, by omega⟩
    refine ⟨fun _ => ?_, fun j h3 h4 => by omega⟩
    show f_Mo_blockNamed_2 g (f_Mo_blockNamed_L2 g f) w (nI e) (nI v) = _
    unfold f_Mo_blockNamed_2
    rw [if_pos ((nI_leI (by omega) (by omega)).mpr (by omega))]
  | succ m ih =>
    intro v fuel h1 h2
    obtain ⟨f, rfl⟩ : ∃ f, fuel = f + 1 := ⟨fuel - 1, by omega⟩
    have hi := ih (v + 1) f (by omega) (by omega)
    have e0 : f_Mo_blockNamed_L2 g (f + 1) w (nI e) (nI v) = if (g.2.1 85) v = w then some (nI v) else f_Mo_blockNamed_L2 g f w (nI e) (nI (v + 1)) := by
      show f_Mo_blockNamed_2 g (f_Mo_blockNamed_L2 g f) w (nI e) (nI v) = _
      unfold f_Mo_blockNamed_2
      rw [if_neg (mt (nI_leI (by omega) (by omega)).mp (by omega)), if_pos (zi_in (by omega) (by omega)), nI_clamp (by omega), nI_1]
    rw [e0]
    refine ⟨fun q => ?_, fun j h3 h4 h5 h6 => ?_⟩
    · rw [if_neg (q v (by omega) (by omega))]
      exact hi.1 fun j h3 h4 => q j (by omega) h4
    · by_cases ej : j = v
      · subst ej; rw [if_pos h5]
      · rw [if_neg (h6 v (by omega) (by omega))]
        exact hi.2 j (by omega) h4 h5 fun i h7 h8 => h6 i (by omega) h8
/-- a block's name, on both sides -/
theorem zv_bn {LC LM : List (List Int32)} {nb bd c : Nat} {F : Nat → Nat} {h g : zs_H} {w : Int32} (HS : zv_S LC LM g) (HB : zv_B LC LM nb F h g) (hbd : bd ≤ nb) (hc : c < 6000) (hw : zt_nr LC LM (nI c) w) :
    (∃ b, b < bd ∧ (h.2.1 36) c = nI (9 + b) ∧ f_Mo_blockNamed g w (nI bd) = some (nI b)) ∨ (f_Mo_blockNamed g w (nI bd) = some (-1) ∧ ∀ b, b < bd → ¬ (h.2.1 36) c = nI (9 + b)) := by
  obtain ⟨S1, S2, S3, S4, S5, S6⟩ := HS
  obtain ⟨⟨B1, B2, B3⟩, ⟨V1, V2, V3⟩, B4, BF, B5, B6, B7, B8, B9, B10⟩ := HB
  have iff : ∀ b, b < nb → ((g.2.1 85) b = w ↔ (h.2.1 36) c = nI (9 + b)) := by
    intro b hb
    constructor
    · intro q
      obtain ⟨c', e1, e2, e3⟩ := B7 b hb
      have := (zt_nr_inj S1 S2 e1 hw S3 S4).mpr q
      rw [(nI_eq (by omega) (by omega)).mp this] at e3
      exact e3
    · intro q
      rcases B8 c hc with z | ⟨_, z1, z⟩ | ⟨b', z1, z2, z3⟩
      · rw [q] at z; exact absurd z (zc_m1 (by omega))
      · rw [q] at z; have := (nI_eq (by omega) (by omega)).mp z; omega
      · rw [q] at z2
        have := (nI_eq (by omega) (by omega)).mp z2
        rw [show b = b' by omega]
        exact (zt_nr_inj S1 S2 z3 hw S3 S4).mp rfl
  have sB := zv_scanB (g := g) (w := w) (show bd ≤ 2100 by omega) bd 0 zF (by omega) (by have := zF_big; omega)
  have eM : f_Mo_blockNamed g w (nI bd) = f_Mo_blockNamed_L2 g zF w (nI bd) (nI 0) := rfl
  rw [eM]
  rcases zv_least (fun b => (g.2.1 85) b = w) 0 bd with q | ⟨b, h1, h2, h3, h4⟩
  · exact .inr ⟨sB.1 q, fun b hb z => q b (by omega) hb ((iff b (by omega)).mpr z)⟩
  · exact .inl ⟨b, h2, (iff b (by omega)).mp h3, sB.2 b h1 h2 h3 h4⟩
/-- standard names of blocks and functions -/
theorem zv_wB {LC LM : List (List Int32)} {c : Nat} {g : zs_H} {w : Int32} (HS : zv_S LC LM g) (hw : zt_nr LC LM (nI c) w) (hc : c < 6000) : f_Mo_wordOf_s10 g w = some (if 41 ≤ c ∧ c < 50 then nI (c - 41) else -1) := by
  obtain ⟨S1, S2, S3, S4, S5, S6⟩ := HS
  obtain ⟨c', k, e1, e2, e3, e4, e5, e6⟩ := hw
  have : c = c' := (nI_eq (by omega) (by omega)).mp e1
  subst this
  have hs := zj_std S1 S5 e4 zj_WBK (by decide) (by decide)
  rw [e2, zj_wordOfB S6 e5, ← e6]
  by_cases q : 41 ≤ c ∧ c < 50
  · rw [if_pos q, if_pos (hs.1.mpr q), hs.2 (hs.1.mpr q)]
  · rw [if_neg q, if_neg (fun z => q (hs.1.mp z))]
theorem zv_wF {LC LM : List (List Int32)} {c : Nat} {g : zs_H} {w : Int32} (HS : zv_S LC LM g) (hw : zt_nr LC LM (nI c) w) (hc : c < 6000) : f_Mo_wordOf_s11 g w = some (if 50 ≤ c ∧ c < 60 then nI (c - 50) else -1) := by
  obtain ⟨S1, S2, S3, S4, S5, S6⟩ := HS
  obtain ⟨c', k, e1, e2, e3, e4, e5, e6⟩ := hw
  have : c = c' := (nI_eq (by omega) (by omega)).mp e1
  subst this
  have hs := zj_std S1 S5 e4 zj_WFK (by decide) (by decide)
  rw [e2, zj_wordOfF S6 e5, ← e6]
  by_cases q : 50 ≤ c ∧ c < 60
  · rw [if_pos q, if_pos (hs.1.mpr q), hs.2 (hs.1.mpr q)]
  · rw [if_neg q, if_neg (fun z => q (hs.1.mp z))]
theorem zv_isF {c : Nat} (hc : c < 6000) : f_Nm_isStandardFunction (nI c) = if 50 ≤ c ∧ c < 60 then 1 else 0 := by
  unfold f_Nm_isStandardFunction
  by_cases c1 : c < 50
  · rw [if_pos ((zc_tl (k := 50) (by decide) (by omega)).mpr c1), if_neg (by omega)]
  · rw [if_neg (mt (zc_tl (k := 50) (by decide) (by omega)).mp c1)]
    by_cases c2 : 60 ≤ c
    · rw [if_pos ((zc_le (k := 60) (by decide) (by omega)).mpr c2), if_neg (by omega)]
    · rw [if_neg (mt (zc_le (k := 60) (by decide) (by omega)).mp c2), if_pos (by omega)]
theorem zv_isS {LC LM : List (List Int32)} {c : Nat} {g : zs_H} {w : Int32} (HS : zv_S LC LM g) (hw : zt_nr LC LM (nI c) w) (hc : c < 6000) : f_Mo_isStandard g w = some (if 41 ≤ c ∧ c < 60 then 1 else 0) := by
  unfold f_Mo_isStandard
  rw [zv_wB HS hw hc, zv_wF HS hw hc]
  by_cases c1 : 41 ≤ c ∧ c < 50
  · rw [if_pos c1, if_pos (show 41 ≤ c ∧ c < 60 by omega)]
    show (if (0 : Int32) ≤ nI (c - 41) then _ else _) = _
    rw [if_pos ((zc_le (k := 0) (by decide) (by omega)).mpr (by omega))]
  · rw [if_neg c1]
    rw [Option.bind_some, if_neg (by decide), Option.bind_some]
    by_cases c2 : 50 ≤ c ∧ c < 60
    · rw [if_pos c2, if_pos (show 41 ≤ c ∧ c < 60 by omega)]
      rw [if_neg (mt (zc_tl (k := 0) (by decide) (by omega)).mp (by omega))]
    · rw [if_neg c2, if_neg (show ¬ (41 ≤ c ∧ c < 60) by omega)]
      rfl
end
section
/-! The judge: a block begins. -/
def zv_BM (nb nv k kd : Nat) (w ty : Int32) (g g' : zs_H) : Prop :=
  ((g'.1 68 33) = nI (nb + 1) ∧ (g'.1 68 54) = nI nb ∧ (g'.1 68 41) = nI (if kd = 1 then nv + 1 else nv)) ∧
  (∀ i, (g'.2.1 84) i = if i = nb then nI k else (g.2.1 84) i) ∧ (∀ i, (g'.2.1 85) i = if i = nb then w else (g.2.1 85) i) ∧ (∀ i, (g'.2.1 86) i = if i = nb then nI kd else (g.2.1 86) i) ∧ (∀ i, (g'.2.1 87) i = if i = nb then (if kd = 1 then ty else -1) else (g.2.1 87) i) ∧ (∀ i, (g'.2.1 88) i = if i = nb then (if kd = 1 then 1 else if kd = 3 then 960 else 0) else (g.2.1 88) i) ∧ (∀ i, (g'.2.1 90) i = if i = nb then nI nv else (g.2.1 90) i) ∧
  (∀ i, (g'.2.1 91) i = if kd = 1 ∧ i = nv then w else (g.2.1 91) i) ∧ (∀ i, (g'.2.1 92) i = if kd = 1 ∧ i = nv then 0 else (g.2.1 92) i) ∧ (∀ i, (g'.2.1 93) i = if kd = 1 ∧ i = nv then ty else (g.2.1 93) i) ∧ (∀ i, (g'.2.1 94) i = if kd = 1 ∧ i = nv then 0 else (g.2.1 94) i) ∧ (∀ i, (g'.2.1 95) i = if kd = 1 ∧ i = nv then 0 else (g.2.1 95) i) ∧ (∀ i, (g'.2.1 96) i = if kd = 1 ∧ i = nv then -1 else (g.2.1 96) i) ∧ (∀ i, (g'.2.1 97) i = if kd = 1 ∧ i = nv then 0 else (g.2.1 97) i) ∧ (∀ i, (g'.2.1 98) i = if kd = 1 ∧ i = nv then 1 else (g.2.1 98) i) ∧ (∀ i, (g'.2.1 99) i = if kd = 1 ∧ i = nv then 0 else (g.2.1 99) i) ∧
  zfr [(68, 33), (68, 54), (68, 41)] [84, 85, 86, 87, 88, 89, 90, 91, 92, 93, 94, 95, 96, 97, 98, 99] [] g g'
theorem zv_bbR {g : zs_H} {nb nv k kd : Nat} {w ty y0 : Int32} (h1 : (g.1 68 33) = nI nb) (h2 : nb ≤ 2000) (h3 : (g.1 68 41) = nI nv) (h4 : nv < 8400) (hk : k < 33500) (hkd : kd < 4) (h5 : (g.2.1 72) k = nI kd) (h6 : (g.2.1 74) k = w) (h7 : kd = 1 → ∃ k', k' < 33500 ∧ (g.2.1 76) k = nI k' ∧ (g.2.1 74) k' = ty) (e0 : f_Mo_rule g y0 11 (nI k) = some g) :
    ∃ g', f_Mo_beginBlock_70 g (nI k) y0 = some g' ∧ zv_BM nb nv k kd w ty g g' := by
  unfold f_Mo_beginBlock_70 f_Mo_beginBlock_157 f_Mo_beginBlock_183
  have hin : zd_in (nI nb) 2100 := zi_in (by omega) (by omega)
  have hin1 : zd_in (nI nb) 2101 := zi_in (by omega) (by omega)
  have hik : zd_in (nI k) 33500 := zi_in (by omega) hk
  have ck : (nI k).toNatClampNeg = k := nI_clamp (by omega)
  have cb : (nI nb).toNatClampNeg = nb := nI_clamp (by omega)
  have cv : (nI nv).toNatClampNeg = nv := nI_clamp (by omega)
  have hiv : zd_in (nI nv) 8400 := zi_in (by omega) h4
  rw [e0, Option.bind_some, h1]
  simp only [if_pos hin, if_pos hik, ck, cb]
  by_cases c1 : kd = 1
  · subst c1
    obtain ⟨k', q1, q2, q3⟩ := h7 rfl
    have e1 : ((g.2.1 72) k = 1) := h5
    rw [if_pos e1, q2, if_pos (zi_in (by omega) q1), nI_clamp (by omega), q3]
    simp only [zu_FM, zu_MM, zu_FF, zu_MF, h1, h3, h6, e1, f_Mo_addVariable, f_Mo_layOut, zd_B, Nat.reduceEqDiff, and_true, true_and, and_false, false_and, if_true, if_false, if_pos hin, if_pos hin1, if_pos hiv, if_pos hik, cb, cv, ck, Option.bind_some, nI_1, show nI (nv + 1) - 1 = nI nv from zi_sub (b := 1) (by omega), show ¬ (1 : Int32) = 3 by decide]
    refine ⟨_, rfl, ⟨?_, ?_, ?_⟩, fun i => ?_, fun i => ?_, fun i => ?_, fun i => ?_, fun i => ?_, fun i => ?_, fun i => ?_, fun i => ?_, fun i => ?_, fun i => ?_, fun i => ?_, fun i => ?_, fun i => ?_, fun i => ?_, fun i => ?_, ?_⟩
    all_goals first | (refine zfr_M (by decide) ?_; repeat (first | exact zfr_rfl | refine zfr_M (by decide) ?_ | refine zfr_F (by decide) ?_)) | (refine zfr_F (by decide) ?_; repeat (first | exact zfr_rfl | refine zfr_M (by decide) ?_ | refine zfr_F (by decide) ?_)) | simp only [zu_FM, zu_MM, zu_FF, zu_MF, h1, h3, h6, Nat.reduceEqDiff, and_true, true_and, and_false, false_and, if_true, if_false]
    all_goals (first | rfl | (split <;> first | rfl | simp_all))
  · have n1 : ¬ nI kd = 1 := fun z => c1 ((zc_eq (k := 1) (by decide) (by omega)).mp z)
    rw [if_neg (show ¬ (g.2.1 72) k = 1 by rw [h5]; exact n1)]
    by_cases c3 : kd = 3
    · subst c3
      have e1 : (g.2.1 72) k = 3 := h5
      have n13 : ¬ (3 : Int32) = 1 := by decide
      have n3 : ¬ (3 : Nat) = 1 := by decide
      simp only [zu_FM, zu_MM, zu_FF, zu_MF, h1, h3, h6, e1, n13, f_Mo_addVariable, f_Mo_layOut, zd_B, Nat.reduceEqDiff, and_true, true_and, and_false, false_and, if_true, if_false, if_pos hin, if_pos hin1, if_pos hiv, if_pos hik, cb, cv, ck, Option.bind_some, nI_1, show nI (nv + 1) - 1 = nI nv from zi_sub (b := 1) (by omega), show ¬ (1 : Int32) = 3 by decide]
      refine ⟨_, rfl, ⟨?_, ?_, ?_⟩, fun i => ?_, fun i => ?_, fun i => ?_, fun i => ?_, fun i => ?_, fun i => ?_, fun i => ?_, fun i => ?_, fun i => ?_, fun i => ?_, fun i => ?_, fun i => ?_, fun i => ?_, fun i => ?_, fun i => ?_, ?_⟩
      all_goals first | (refine zfr_M (by decide) ?_; repeat (first | exact zfr_rfl | refine zfr_M (by decide) ?_ | refine zfr_F (by decide) ?_)) | (refine zfr_F (by decide) ?_; repeat (first | exact zfr_rfl | refine zfr_M (by decide) ?_ | refine zfr_F (by decide) ?_)) | simp only [zu_FM, zu_MM, zu_FF, zu_MF, h1, h3, h6, Nat.reduceEqDiff, and_true, true_and, and_false, false_and, if_true, if_false, n3]
      all_goals (first | rfl | (split <;> first | rfl | simp_all))
    · have n3 : ¬ nI kd = 3 := fun z => c3 ((zc_eq (k := 3) (by decide) (by omega)).mp z)
      simp only [zu_FM, zu_MM, zu_FF, zu_MF, h1, h3, h6, h5, n1, n3, f_Mo_addVariable, f_Mo_layOut, zd_B, Nat.reduceEqDiff, and_true, true_and, and_false, false_and, if_true, if_false, if_pos hin, if_pos hin1, if_pos hiv, if_pos hik, cb, cv, ck, Option.bind_some, nI_1, show nI (nv + 1) - 1 = nI nv from zi_sub (b := 1) (by omega), show ¬ (1 : Int32) = 3 by decide]
      refine ⟨_, rfl, ⟨?_, ?_, ?_⟩, fun i => ?_, fun i => ?_, fun i => ?_, fun i => ?_, fun i => ?_, fun i => ?_, fun i => ?_, fun i => ?_, fun i => ?_, fun i => ?_, fun i => ?_, fun i => ?_, fun i => ?_, fun i => ?_, fun i => ?_, ?_⟩
      all_goals first | (refine zfr_M (by decide) ?_; repeat (first | exact zfr_rfl | refine zfr_M (by decide) ?_ | refine zfr_F (by decide) ?_)) | (refine zfr_F (by decide) ?_; repeat (first | exact zfr_rfl | refine zfr_M (by decide) ?_ | refine zfr_F (by decide) ?_)) | simp only [zu_FM, zu_MM, zu_FF, zu_MF, h1, h3, h6, Nat.reduceEqDiff, and_true, true_and, and_false, false_and, if_true, if_false, c1, c3]
      all_goals (first | rfl | (split <;> first | rfl | simp_all))
def zv_BC (b v i kd c : Nat) (ty : Int32) (h h' : zs_H) : Prop :=
  ((h'.1 20 17) = nI (b + 1) ∧ (h'.1 20 19) = (if kd = 3 then nI b else (h.1 20 19)) ∧ (h'.1 20 18) = nI (if kd = 1 then v + 1 else v) ∧ (h'.1 38 4) = nI b ∧ (h'.1 38 10) = 0 ∧ (h'.2.1 27) b = 0) ∧
  (∀ j, (h'.2.1 21) j = if j = b then nI kd else (h.2.1 21) j) ∧ (∀ j, (h'.2.1 22) j = if j = b then nI i else (h.2.1 22) j) ∧ (∀ j, (h'.2.1 23) j = if j = b then nI v else (h.2.1 23) j) ∧ (∀ j, (h'.2.1 24) j = if j = b then nI (if kd = 1 then v + 1 else v) else (h.2.1 24) j) ∧ (∀ j, (h'.2.1 25) j = if j = b then (if kd = 1 then 1 else if kd = 3 then 960 else 0) else (h.2.1 25) j) ∧ (∀ j, (h'.2.1 26) j = if j = b then (if kd = 3 then 960 else 0) else (h.2.1 26) j) ∧ (∀ j, (h'.2.1 36) j = if j = c then nI b else (h.2.1 36) j) ∧
  (∀ j, (h'.2.1 28) j = if kd = 1 ∧ j = v then nI c else (h.2.1 28) j) ∧ (∀ j, (h'.2.1 29) j = if kd = 1 ∧ j = v then 3 else (h.2.1 29) j) ∧ (∀ j, (h'.2.1 30) j = if kd = 1 ∧ j = v then -1 else (h.2.1 30) j) ∧ (∀ j, (h'.2.1 31) j = if kd = 1 ∧ j = v then ty else (h.2.1 31) j) ∧ (∀ j, (h'.2.1 32) j = if kd = 1 ∧ j = v then 0 else (h.2.1 32) j) ∧ (∀ j, (h'.2.1 33) j = if kd = 1 ∧ j = v then 0 else (h.2.1 33) j) ∧ (∀ j, (h'.2.1 34) j = if kd = 1 ∧ j = v then 1 else (h.2.1 34) j) ∧ (∀ j, (h'.2.1 35) j = if kd = 1 ∧ j = v then 0 else (h.2.1 35) j) ∧ (∀ j, (h'.2.1 37) j = if kd = 1 ∧ j = c then nI v else (h.2.1 37) j) ∧
  zfr [(20, 17), (20, 18), (20, 19), (38, 4), (38, 10)] zj_ms [] h h'
theorem zv_ebR {h : zs_H} {b v i kd c : Nat} {ty y0 : Int32} (h1 : (h.1 20 17) = nI b) (h2 : b ≤ 628) (h3 : (h.1 20 18) = nI v) (h4 : v < 6000) (hi : i < 32784) (hkd : kd < 4) (h5 : (h.2.1 13) i = nI kd) (hc : c < 6000) (h7 : kd = 1 → ∃ i', i' < 32784 ∧ (h.2.1 17) i = nI i' ∧ (h.2.1 16) i' = ty) (e0 : f_Jd_refuseIf h y0 11 (nI i) = some h) (h8 : (h.1 38 3) = 0) :
    ∃ h', f_Jd_enterBlock_59 h (nI i) (nI c) y0 = some h' ∧ zv_BC b v i kd c ty h h' := by
  unfold f_Jd_enterBlock_59
  have hin : zd_in (nI i) 32784 := zi_in (by omega) hi
  have ck : (nI i).toNatClampNeg = i := nI_clamp (by omega)
  obtain ⟨h1', e1, O1, O2, O3, O4, O5, O6, O7, O8, O9, O10, O11⟩ := zj_open (nd := nI i) h1 h2 h3 hkd hc
  rw [e0, Option.bind_some, if_pos h8]
  simp only [if_pos hin, ck, h5, e1, zd_B]
  have ek : (h1'.2.1 13) i = nI kd := by rw [O11.2.1 _ (by decide)]; exact h5
  have ev : (h1'.1 20 18) = nI v := by rw [O11.1 _ _ (by decide)]; exact h3
  rw [ek]
  by_cases c1 : kd = 1
  · subst c1
    obtain ⟨i', q1, q2, q3⟩ := h7 rfl
    obtain ⟨h2', e2, A1, A2, A3, A4, A5, A6, A7, A8, A9, A10, A11, A12⟩ := zj_add (h := zs_uF (zs_uF h1' 38 4 (nI b)) 38 10 0) (ci := c) (sc := 3) (b := b) (v := v) (by simp only [zu_FF, Nat.reduceEqDiff, and_true, true_and, and_false, false_and, if_true, if_false]; exact O1) h2 (by simp only [zu_FF, Nat.reduceEqDiff, and_true, true_and, and_false, false_and, if_true, if_false]; exact ev) h4 hc
    have e4 : (h2'.2.1 17) i = nI i' := by rw [A12.2.1 _ (by decide)]; show (h1'.2.1 17) i = _; rw [O11.2.1 _ (by decide)]; exact q2
    have e5 : (h2'.2.1 16) i' = ty := by rw [A12.2.1 _ (by decide)]; show (h1'.2.1 16) i' = _; rw [O11.2.1 _ (by decide)]; exact q3
    have e6 : (h2'.1 38 4) = nI b := by rw [A12.1 _ _ (by decide)]; rfl
    rw [if_pos (show nI 1 = 1 from rfl), e2]
    simp only [e4, e6]
    rw [if_pos (zi_in (by omega) q1), if_pos (zi_in (by omega) h4), if_pos (zi_in (by omega) (by omega)), nI_clamp (n := i') (by omega), nI_clamp (n := v) (by omega), nI_clamp (n := b) (by omega), e5]
    refine ⟨_, rfl, ⟨?_, ?_, ?_, ?_, ?_, ?_⟩, fun j => ?_, fun j => ?_, fun j => ?_, fun j => ?_, fun j => ?_, fun j => ?_, fun j => ?_, fun j => ?_, fun j => ?_, fun j => ?_, fun j => ?_, fun j => ?_, fun j => ?_, fun j => ?_, fun j => ?_, fun j => ?_, ?_⟩
    all_goals try simp only [zu_FM, zu_MM, zu_FF, zu_MF, Nat.reduceEqDiff, and_true, true_and, and_false, false_and, if_true, if_false]
    · rw [A12.1 _ _ (by decide)]; exact O1
    · rw [A12.1 _ _ (by decide)]; exact O2
    · exact A1
    · exact e6
    · rw [A12.1 _ _ (by decide)]; rfl
    · rw [A12.2.1 _ (by decide)]; exact (O9 b).trans (if_pos rfl)
    · rw [A12.2.1 _ (by decide)]; exact O3 j
    · rw [A12.2.1 _ (by decide)]; exact O4 j
    · rw [A12.2.1 _ (by decide)]; exact O5 j
    · rw [A11 j]; simp only [zu_FM, O6 j]; split <;> rfl
    · rw [A12.2.1 _ (by decide)]; simp only [zu_FM, O7 j]; split <;> first | rfl | simp_all
    · rw [A12.2.1 _ (by decide)]; exact O8 j
    · rw [A12.2.1 _ (by decide)]; exact O10 j
    · rw [A2 j]; simp only [zu_FM]; rw [O11.2.1 _ (by decide)]
    · rw [A3 j]; simp only [zu_FM]; rw [O11.2.1 _ (by decide)]
    · rw [A4 j]; simp only [zu_FM]; rw [O11.2.1 _ (by decide)]
    · rw [A5 j]; simp only [zu_FM]; rw [O11.2.1 _ (by decide)]; split <;> rfl
    · rw [A6 j]; simp only [zu_FM]; rw [O11.2.1 _ (by decide)]
    · rw [A7 j]; simp only [zu_FM]; rw [O11.2.1 _ (by decide)]
    · rw [A8 j]; simp only [zu_FM]; rw [O11.2.1 _ (by decide)]
    · rw [A9 j]; simp only [zu_FM]; rw [O11.2.1 _ (by decide)]
    · rw [A10 j]; simp only [zu_FM]; rw [O11.2.1 _ (by decide)]
    · refine zfr_M (by decide) (zfr_M (by decide) (zfr_trans ?_ (zfr_w A12 (by decide) (by decide) (by decide))))
      exact zfr_F (by decide) (zfr_F (by decide) (zfr_w O11 (by decide) (by decide) (by decide)))
  · rw [if_neg (fun z => c1 ((zc_eq (k := 1) (by decide) (by omega)).mp z))]
    refine ⟨_, rfl, ⟨?_, ?_, ?_, ?_, ?_, ?_⟩, fun j => ?_, fun j => ?_, fun j => ?_, fun j => ?_, fun j => ?_, fun j => ?_, fun j => ?_, fun j => ?_, fun j => ?_, fun j => ?_, fun j => ?_, fun j => ?_, fun j => ?_, fun j => ?_, fun j => ?_, fun j => ?_, zfr_F (by decide) (zfr_F (by decide) (zfr_w O11 (by decide) (by decide) (by decide)))⟩
    all_goals try simp only [zu_FM, zu_MM, zu_FF, zu_MF, Nat.reduceEqDiff, and_true, true_and, and_false, false_and, if_true, if_false, c1]
    · exact O1
    · exact O2
    · exact ev
    · exact (O9 b).trans (if_pos rfl)
    · exact O3 j
    · exact O4 j
    · exact O5 j
    · exact O6 j
    · exact O7 j
    · exact O8 j
    · exact O10 j
    all_goals rw [O11.2.1 _ (by decide)]
end
section
/-! The judge's state on both sides. -/
/-- the cell of a place -/
def zv_pc (p : Nat) : Nat := if p < 768 then p else 576 + p / 256 * 64 + p % 256
/-- a variable's first value, low end and place fit its type -/
def zv_dt (ty s : Nat) (low co pl : Int32) : Prop := (ty = 0 → co = 0 ∨ co = 1) ∧ low.toInt + s ≤ 2147483648 ∧ ∀ p : Nat, pl = nI p → p < 1536 → (p < 768 ↔ ty = 0)
/-- a settled variable v of block b -/
def zv_Q (b v : Nat) (h g : zs_H) : Prop := ∃ ty x s y : Nat,
  (ty < 3 ∧ (h.2.1 31) (32 + v) = nI ty) ∧ ((h.2.1 32) (32 + v) = nI x ∧ (g.2.1 94) v = nI x) ∧ ((h.2.1 34) (32 + v) = nI s ∧ (g.2.1 98) v = nI s) ∧ (h.2.1 25) (9 + b) = nI y ∧ (x < 300000000 ∧ s ≤ 30000 ∧ y ≤ 200000000 ∧ zv_dt ty s ((h.2.1 33) (32 + v)) ((h.2.1 35) (32 + v)) ((g.2.1 96) v)) ∧ (g.2.1 97) v = (h.2.1 33) (32 + v) ∧ (g.2.1 99) v = (h.2.1 35) (32 + v) ∧
  (((h.2.1 30) (32 + v) = -1 ∧ (g.2.1 92) v = 0 ∧ (g.2.1 93) v = nI ty ∧ s = 1) ∨ ((h.2.1 30) (32 + v) = -2 ∧ (g.2.1 92) v = 1 ∧ (g.2.1 93) v = nI ty ∧ 1 ≤ s ∧ s ≤ 256) ∨ (∃ B, B < 9 + b ∧ (h.2.1 30) (32 + v) = nI B ∧ (g.2.1 92) v = 2 ∧ (g.2.1 93) v = nI (if B < 9 then 100000 + B else B - 9) ∧ (9 ≤ B → (h.2.1 21) B = 2) ∧ (h.2.1 26) B = nI s)) ∧
  (((g.2.1 96) v = -1 ∧ x + s ≤ y ∧ ((h.2.1 21) (9 + b) = 3 → 960 ≤ x)) ∨ ∃ p, p < 1536 ∧ (g.2.1 96) v = nI p ∧ (h.2.1 21) (9 + b) = 3 ∧ x = zv_pc p ∧ (768 ≤ p → p % 256 < 64) ∧ s = 1)
def zv_V (nb ns : Nat) (F : Nat → Nat) (h g : zs_H) : Prop :=
  (∀ v, v < F nb → ∃ s, s < 4 ∧ (h.2.1 29) (32 + v) = nI s ∧ (g.2.1 95) v = nI (if s = 3 then 0 else s)) ∧
  (∀ b v, b < nb → F b ≤ v → v < F (b + 1) → v < ns → zv_Q b v h g) ∧ (∀ v, ns ≤ v → v < F nb → (g.2.1 96) v = -1) ∧ ns ≤ F nb ∧ (0 < nb → F (nb - 1) ≤ ns ∧ ((h.2.1 21) (8 + nb) = 1 → F (nb - 1) < ns))
def zv_C (nb nf : Nat) (F : Nat → Nat) (h g : zs_H) : Prop :=
  (nf = nb ∨ nf + 1 = nb) ∧ (∀ b, b < nf → ∃ x, x ≤ 30000 ∧ (h.2.1 26) (9 + b) = nI x ∧ (g.2.1 88) b = nI x) ∧
  (∀ b, nf ≤ b → b < nb → ∃ x, x ≤ 200000000 ∧ (h.2.1 25) (9 + b) = nI x ∧ (g.2.1 88) b = nI x ∧ ((h.2.1 21) (9 + b) = 3 → 960 ≤ x)) ∧
  (∀ b, b < nb → (h.2.1 21) (9 + b) = 1 → F b < F (b + 1) ∧ (g.2.1 87) b = (h.2.1 31) (32 + F b) ∧ (h.2.1 32) (32 + F b) = 0)
def zv_T (nb : Nat) (F : Nat → Nat) (q : Int32) (h g : zs_H) : Prop :=
  (∀ c, c < 960 → (h.2.1 40) c = 0 ∨ (h.2.1 40) c = 1) ∧ ∀ p, p < 1536 → (768 ≤ p → p % 256 < 64) → ((h.2.1 40) (zv_pc p) = 1 ↔ nI p = q ∨ ∃ v, F (nb - 1) ≤ v ∧ v < F nb ∧ (g.2.1 96) v = nI p)
def zv_I (LC LM : List (List Int32)) (nb nf ns : Nat) (F : Nat → Nat) (q : Int32) (h g : zs_H) : Prop :=
  zv_S LC LM g ∧ zv_B LC LM nb F h g ∧ zv_N LC LM nb F h g ∧ zv_V nb ns F h g ∧ zv_C nb nf F h g ∧ zv_T nb F q h g ∧ (0 < nb → (h.1 38 4) = nI (8 + nb) ∧ (g.1 68 54) = nI (nb - 1)) ∧ (h.1 38 3) = 0 ∧ (g.1 68 29) = 0
/-- both sides have found the same fault at the same place -/
def zv_X (φ : Nat) (p : Int32) (h g : zs_H) : Prop := 0 < φ ∧ φ < 1000 ∧ (h.1 38 3) = nI φ ∧ (h.1 38 0) = p ∧ (g.1 68 29) = nI φ ∧ (g.1 68 30) = p
abbrev zv_cf : List (Nat × Nat) := [(20, 17), (20, 18), (20, 19), (20, 20), (38, 0), (38, 3), (38, 4), (38, 5), (38, 6), (38, 7), (38, 8), (38, 9), (38, 10), (38, 12)]
abbrev zv_cm : List Nat := [21, 22, 23, 24, 25, 26, 27, 28, 29, 30, 31, 32, 33, 34, 35, 36, 37, 39, 40]
abbrev zv_mf : List (Nat × Nat) := [(68, 29), (68, 30), (68, 33), (68, 41), (68, 54), (68, 55)]
abbrev zv_mm : List Nat := [84, 85, 86, 87, 88, 89, 90, 91, 92, 93, 94, 95, 96, 97, 98, 99, 100, 101, 102]
theorem zv_rule0 {g : zs_H} {φ : Int32} {n : Int32} : f_Mo_rule g 0 φ n = some g := by unfold f_Mo_rule; rw [if_pos rfl]
theorem zv_ruleF {g : zs_H} {φ : Int32} {n : Int32} {x : Int32} (h : ¬ (g.1 68 29) = 0) : f_Mo_rule g x φ n = some g := by
  unfold f_Mo_rule f_Mo_breaks
  rw [if_neg h]
  split <;> rfl
theorem zv_rule1 {g : zs_H} {φ k : Nat} {x : Int32} (hx : ¬ x = 0) (h : (g.1 68 29) = 0) (hk : k < 33500) : f_Mo_rule g x (nI φ) (nI k) = some (zs_uF (zs_uF g 68 29 (nI φ)) 68 30 ((g.2.1 73) k)) := by
  unfold f_Mo_rule f_Mo_breaks
  rw [if_neg hx, if_pos h, if_pos (zi_in (by omega) hk), nI_clamp (by omega)]
  rfl
theorem zv_ref0 {h : zs_H} {φ : Int32} {n : Int32} : f_Jd_refuseIf h 0 φ n = some h := by unfold f_Jd_refuseIf; rw [if_pos rfl]
theorem zv_refF {h : zs_H} {φ : Int32} {n : Int32} {x : Int32} (hf : ¬ (h.1 38 3) = 0) : f_Jd_refuseIf h x φ n = some h := by
  unfold f_Jd_refuseIf f_Jd_refuse
  rw [if_neg hf]
  split <;> rfl
theorem zv_refu {h : zs_H} {φ k : Nat} (hf : (h.1 38 3) = 0) (hk : k < 32784) : f_Jd_refuse h (nI φ) (nI k) = some (zs_uF (zs_uF h 38 3 (nI φ)) 38 0 ((h.2.1 15) k)) := by
  unfold f_Jd_refuse
  rw [if_pos hf, if_pos (zi_in (by omega) hk), nI_clamp (by omega)]
theorem zv_ref1 {h : zs_H} {φ k : Nat} {x : Int32} (hx : ¬ x = 0) (hf : (h.1 38 3) = 0) (hk : k < 32784) : f_Jd_refuseIf h x (nI φ) (nI k) = some (zs_uF (zs_uF h 38 3 (nI φ)) 38 0 ((h.2.1 15) k)) := by
  unfold f_Jd_refuseIf
  rw [if_neg hx, zv_refu hf hk]
  rfl
end
