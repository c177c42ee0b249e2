/-! The class's plan: forget. -/
/-- b blocks and r variables of the standard ones are there -/
def zj_SB (b r : Nat) (h : zs_H) : Prop := (h.1 20 17) = nI b ∧ (h.1 20 18) = nI r ∧ (h.1 20 19) = -1 ∧ (h.1 20 20) = 0 ∧ (∀ i, i < b → (h.2.1 21) i = 0 ∧ (h.2.1 23) i = nI (zj_sv i)) ∧ (∀ i, i + 1 < b → (h.2.1 24) i = nI (zj_sv (i + 1)) ∧ (h.2.1 26) i = zt_2.getD i 0) ∧ (∀ i, i + 1 = b → (h.2.1 24) i = nI r) ∧ (∀ v, v < r → (h.2.1 28) v = 60 + zj_t v 1 ∧ (h.2.1 29) v = zj_t v 2 ∧ (h.2.1 30) v = -1 ∧ (h.2.1 31) v = zj_t v 3 ∧ (h.2.1 32) v = zj_t v 4) ∧ (∀ c, c < 6000 → (h.2.1 36) c = if 41 ≤ c ∧ c < 41 + b then nI (c - 41) else -1) ∧ (∀ c, c < 6000 → (h.2.1 37) c = -1 ∨ ∃ v, v < r ∧ (h.2.1 37) c = nI v) ∧ r ≤ 32 ∧ b ≤ 9
theorem zj_addS {h : zs_H} {b r : Nat} (H : zj_SB (b + 1) r h) (hr : r < 32) : ∃ h', f_Pl_addStandard h (nI (5 * r)) = some h' ∧ zj_SB (b + 1) (r + 1) h' ∧ zfr zj_fs zj_ms [] h h' := by
  obtain ⟨a1, a2, a3, a4, a5, a6, a7, a8, a9, a10, a11, a12⟩ := H
  obtain ⟨x, hx, ex⟩ := zj_tn r hr
  unfold f_Pl_addStandard
  have e1 : nI (5 * r) + 1 = nI (5 * r + 1) := nI_1 _
  have e2 : nI (5 * r) + 2 = nI (5 * r + 2) := zc_ad 2 _
  have e3 : nI (5 * r) + 3 = nI (5 * r + 3) := zc_ad 3 _
  have e4 : nI (5 * r) + 4 = nI (5 * r + 4) := zc_ad 4 _
  rw [e1, e2, e3, e4, if_pos (zi_in (by omega) (by omega)), if_pos (zi_in (by omega) (by omega)), show zt_1.getD (nI (5 * r + 1)).toNatClampNeg 0 = nI x by rw [nI_clamp (by omega)]; exact ex, show (60 : Int32) + nI x = nI (60 + x) from zc_da 60 x]
  obtain ⟨h1, f1, d1, d2, d3, d4, d5, d6, d7, d8, d9, d10, d11, d12⟩ := zj_add (sc := zt_1.getD (nI (5 * r + 2)).toNatClampNeg 0) (ci := 60 + x) a1 (by omega) a2 (by omega) (by omega)
  rw [f1, zo_B, if_pos (zi_in (by omega) (by omega)), if_pos (zi_in (by omega) (by omega)), if_pos (zi_in (by omega) (by omega)), nI_clamp (show r < 2147483648 by omega)]
  have fM : zfr [] [31, 32] [] h1 (zs_uM (zs_uM h1 31 r (zt_1.getD (nI (5 * r + 3)).toNatClampNeg 0)) 32 r (zt_1.getD (nI (5 * r + 4)).toNatClampNeg 0)) := zfr_M (by decide) (zfr_M (by decide) zfr_rfl)
  obtain ⟨h2, hh2⟩ : ∃ h2, h2 = zs_uM (zs_uM h1 31 r (zt_1.getD (nI (5 * r + 3)).toNatClampNeg 0)) 32 r (zt_1.getD (nI (5 * r + 4)).toNatClampNeg 0) := ⟨_, rfl⟩
  have ety : ∀ i, (h2.2.1 31) i = if i = r then zj_t r 3 else (h1.2.1 31) i := fun i => by rw [hh2, nI_clamp (show 5 * r + 3 < 2147483648 by omega)]; simp [zu_MM]; rfl
  have ece : ∀ i, (h2.2.1 32) i = if i = r then zj_t r 4 else (h1.2.1 32) i := fun i => by rw [hh2, nI_clamp (show 5 * r + 4 < 2147483648 by omega)]; simp [zu_MM]; rfl
  rw [← hh2] at fM ⊢
  have eo : ∀ k, ¬ k = 31 → ¬ k = 32 → h2.2.1 k = h1.2.1 k := fun k q1 q2 => fM.2.1 k (by simp [q1, q2])
  refine ⟨h2, rfl, ⟨?_, ?_, ?_, ?_, fun i hi => ?_, fun i hi => ?_, fun i hi => ?_, fun v hv => ?_, fun c hc => ?_, fun c hc => ?_, by omega, a12⟩, zfr_trans (zfr_w d12 (by decide) (by decide) (by decide)) (zfr_w fM (by decide) (by decide) (by decide))⟩
  · rw [fM.1 _ _ (by decide), d12.1 _ _ (by decide)]; exact a1
  · rw [fM.1 _ _ (by decide)]; exact d1
  · rw [fM.1 _ _ (by decide), d12.1 _ _ (by decide)]; exact a3
  · rw [fM.1 _ _ (by decide), d12.1 _ _ (by decide)]; exact a4
  · rw [eo _ (by decide) (by decide), eo _ (by decide) (by decide), d12.2.1 _ (by decide), d12.2.1 _ (by decide)]; exact a5 i hi
  · rw [eo _ (by decide) (by decide), eo _ (by decide) (by decide), d11, if_neg (by omega), d12.2.1 26 (by decide)]; exact a6 i hi
  · rw [eo _ (by decide) (by decide), d11, if_pos (by omega)]
  · rw [eo 28 (by decide) (by decide), eo 29 (by decide) (by decide), eo 30 (by decide) (by decide), ety, ece, d2, d3, d4, d5, d6]
    by_cases ev : v = r
    · subst ev
      rw [if_pos rfl, if_pos rfl, if_pos rfl, if_pos rfl, if_pos rfl, nI_clamp (by omega), ex]
      exact ⟨(zc_da 60 x).symm, rfl, rfl, rfl, rfl⟩
    · rw [if_neg ev, if_neg ev, if_neg ev, if_neg ev, if_neg ev, if_neg ev, if_neg ev]
      exact a8 v (by omega)
  · rw [eo _ (by decide) (by decide), d12.2.1 _ (by decide)]; exact a9 c hc
  · rw [eo _ (by decide) (by decide), d10]
    by_cases ec : c = 60 + x
    · rw [if_pos ec]; exact Or.inr ⟨r, by omega, rfl⟩
    · rw [if_neg ec]
      rcases a10 c hc with z | ⟨v, z1, z2⟩
      · exact Or.inl z
      · exact Or.inr ⟨v, by omega, z2⟩
/-- a standard block's variables -/
theorem zj_forI {k40 : zs_H → Int32 → Int32 → Option zs_H} {b : Nat} (hb : b < 9) : ∀ (w r N : Nat) (h : zs_H), zj_SB (b + 1) r h → zj_sv b ≤ r → r + w = zj_sv (b + 1) → w < N → ∃ h', f_Pl_forget_L57 k40 N h (nI (5 * r)) (nI b) = k40 (zs_uM (zs_uM h' 25 b (zt_2.getD b 0)) 26 b (zt_2.getD b 0)) (nI (5 * zj_sv (b + 1))) (nI (b + 1)) ∧ zj_SB (b + 1) (zj_sv (b + 1)) h' ∧ zfr zj_fs zj_ms [] h h' := by
  have hsv := zj_sv1 b hb
  intro w
  induction w with
  | zero =>
    intro r N h H h1 h2 hN
    obtain ⟨N, rfl⟩ : ∃ z, N = z + 1 := ⟨N - 1, by omega⟩
    have er : r = zj_sv (b + 1) := by omega
    subst er
    refine ⟨h, ?_, H, zfr_rfl⟩
    show f_Pl_forget_57 k40 (f_Pl_forget_L57 k40 N) h (nI (5 * zj_sv (b + 1))) (nI b) = _
    have e87 : f_Pl_forget_87 k40 h (nI (5 * zj_sv (b + 1))) (nI b) = k40 (zs_uM (zs_uM h 25 b (zt_2.getD b 0)) 26 b (zt_2.getD b 0)) (nI (5 * zj_sv (b + 1))) (nI (b + 1)) := by
      unfold f_Pl_forget_87
      rw [if_pos (zi_in (by omega) hb), if_pos (zi_in (by omega) (by omega)), nI_clamp (by omega), nI_1]
    unfold f_Pl_forget_57
    rw [show nI (5 * zj_sv (b + 1)) + 4 = nI (5 * zj_sv (b + 1) + 4) from zc_ad 4 _]
    by_cases c : 160 ≤ 5 * zj_sv (b + 1) + 4
    · rw [if_pos ((zc_le (k := 160) (by decide) (by omega)).mpr c)]; exact e87
    · rw [if_neg (mt (zc_le (k := 160) (by decide) (by omega)).mp c), if_pos (zi_in (by omega) (by omega)), nI_clamp (by omega)]
      have hb8 : b < 8 := by
        by_cases c8 : b = 8
        · exfalso; subst c8; exact c (by decide)
        · omega
      rw [if_neg (show ¬ zt_1.getD (5 * zj_sv (b + 1)) 0 = nI b from zj_t1 b hb8)]; exact e87
  | succ w ih =>
    intro r N h H h1 h2 hN
    obtain ⟨N, rfl⟩ : ∃ z, N = z + 1 := ⟨N - 1, by omega⟩
    obtain ⟨g, e1, Hg, fg⟩ := zj_addS H (by omega)
    obtain ⟨h', e2, H', f'⟩ := ih (r + 1) N g Hg (by omega) (by omega) (by omega)
    refine ⟨h', ?_, H', zfr_trans fg f'⟩
    show f_Pl_forget_57 k40 (f_Pl_forget_L57 k40 N) h (nI (5 * r)) (nI b) = _
    unfold f_Pl_forget_57
    rw [show nI (5 * r) + 4 = nI (5 * r + 4) from zc_ad 4 _, if_neg (mt (zc_le (k := 160) (by decide) (by omega)).mp (by omega)), if_pos (zi_in (by omega) (by omega)), if_pos (show zt_1.getD (nI (5 * r)).toNatClampNeg 0 = nI b by rw [nI_clamp (by omega)]; exact zj_t0 b hb r (by omega) h1 (by omega)), e1, Option.bind_some, show nI (5 * r) + 5 = nI (5 * (r + 1)) by rw [show nI (5 * r) + 5 = nI (5 * r + 5) from zc_ad 5 _]; rfl, e2]
/-- what is known without a text -/
def zj_ST (h : zs_H) : Prop := (∀ i, i < 9 → (h.2.1 21) i = 0 ∧ (h.2.1 23) i = nI (zj_sv i) ∧ (h.2.1 24) i = nI (zj_sv (i + 1)) ∧ (h.2.1 26) i = zt_2.getD i 0) ∧ (∀ v, v < 32 → (h.2.1 28) v = 60 + zj_t v 1 ∧ (h.2.1 29) v = zj_t v 2 ∧ (h.2.1 30) v = -1 ∧ (h.2.1 31) v = zj_t v 3 ∧ (h.2.1 32) v = zj_t v 4)
theorem zj_forO : ∀ (w b N : Nat) (h : zs_H), b + w = 9 → w < N → zj_SB b (zj_sv b) h → (∀ i, i + 1 = b → (h.2.1 26) i = zt_2.getD i 0) → ∃ h', f_Pl_forget_L40 N h (nI (5 * zj_sv b)) (nI b) = some h' ∧ zj_SB 9 32 h' ∧ zj_ST h' ∧ zfr zj_fs zj_ms [] h h' := by
  intro w
  induction w with
  | zero =>
    intro b N h hb hN H hc
    obtain ⟨N, rfl⟩ : ∃ z, N = z + 1 := ⟨N - 1, by omega⟩
    have eb : b = 9 := by omega
    subst eb
    refine ⟨h, ?_, H, ?_, zfr_rfl⟩
    · show f_Pl_forget_40 (f_Pl_forget_L40 N) h (nI (5 * zj_sv 9)) (nI 9) = _
      unfold f_Pl_forget_40
      rw [if_pos (by decide)]
    · obtain ⟨a1, a2, a3, a4, a5, a6, a7, a8, _⟩ := H
      refine ⟨fun i hi => ?_, fun v hv => a8 v hv⟩
      by_cases c : i = 8
      · subst c
        exact ⟨(a5 8 hi).1, (a5 8 hi).2, a7 8 rfl, hc 8 rfl⟩
      · exact ⟨(a5 i hi).1, (a5 i hi).2, (a6 i (by omega)).1, (a6 i (by omega)).2⟩
  | succ w ih =>
    intro b N h hb hN H hc
    obtain ⟨N, rfl⟩ : ∃ z, N = z + 1 := ⟨N - 1, by omega⟩
    have hsv := zj_sv1 b (by omega)
    obtain ⟨a1, a2, a3, a4, a5, a6, a7, a8, a9, a10, a11, a12⟩ := H
    obtain ⟨g, e1, o1, o2, o3, o4, o5, o6, o7, o8, o9, o10, o11⟩ := zj_open (kd := 0) (ci := 41 + b) (nd := -1) a1 (by omega) a2 (by decide) (by omega)
    have Hg : zj_SB (b + 1) (zj_sv b) g := by
      refine ⟨o1, (o11.1 _ _ (by decide)).trans a2, ?_, (o11.1 _ _ (by decide)).trans a4, fun i hi => ?_, fun i hi => ?_, fun i hi => ?_, fun v hv => ?_, fun c hcc => ?_, fun c hcc => ?_, a11, by omega⟩
      · rw [o2, if_neg (by decide)]; exact a3
      · rw [o3, o5]
        by_cases c : i = b
        · rw [if_pos c, if_pos c, c]; exact ⟨rfl, rfl⟩
        · rw [if_neg c, if_neg c]; exact a5 i (by omega)
      · rw [o6, o8, if_neg (by omega), if_neg (by omega)]
        by_cases c : i + 1 = b
        · exact ⟨by rw [a7 i c, c], hc i c⟩
        · exact a6 i (by omega)
      · rw [o6, if_pos (by omega)]
      · rw [o11.2.1 28 (by decide), o11.2.1 29 (by decide), o11.2.1 30 (by decide), o11.2.1 31 (by decide), o11.2.1 32 (by decide)]; exact a8 v hv
      · rw [o10]
        by_cases c1 : c = 41 + b
        · rw [if_pos c1, if_pos (by omega), c1, Nat.add_sub_cancel_left]
        · rw [if_neg c1, a9 c hcc]
          by_cases c2 : 41 ≤ c ∧ c < 41 + b
          · rw [if_pos c2, if_pos (by omega)]
          · rw [if_neg c2, if_neg (by omega)]
      · rw [o11.2.1 37 (by decide)]; exact a10 c hcc
    obtain ⟨h2, e2, H2, f2⟩ := zj_forI (k40 := f_Pl_forget_L40 N) (b := b) (by omega) (zj_sv (b + 1) - zj_sv b) (zj_sv b) zF g Hg (Nat.le_refl _) (by omega) (by have := zF_big; omega)
    obtain ⟨h3, hh3⟩ : ∃ h3, h3 = zs_uM (zs_uM h2 25 b (zt_2.getD b 0)) 26 b (zt_2.getD b 0) := ⟨_, rfl⟩
    have f3 : zfr [] [25, 26] [] h2 h3 := by rw [hh3]; exact zfr_M (by decide) (zfr_M (by decide) zfr_rfl)
    have ecl : ∀ i, (h3.2.1 26) i = if i = b then zt_2.getD b 0 else (h2.2.1 26) i := fun i => by rw [hh3]; simp [zu_MM]
    rw [← hh3] at e2
    have H3 : zj_SB (b + 1) (zj_sv (b + 1)) h3 := by
      obtain ⟨b1, b2, b3, b4, b5, b6, b7, b8, b9, b10, b11, b12⟩ := H2
      have eo : ∀ k, ¬ k = 25 → ¬ k = 26 → h3.2.1 k = h2.2.1 k := fun k q1 q2 => f3.2.1 k (by simp [q1, q2])
      refine ⟨(f3.1 _ _ (by decide)).trans b1, (f3.1 _ _ (by decide)).trans b2, (f3.1 _ _ (by decide)).trans b3, (f3.1 _ _ (by decide)).trans b4, ?_, fun i hi => ?_, ?_, ?_, ?_, ?_, b11, b12⟩
      · rw [eo _ (by decide) (by decide), eo _ (by decide) (by decide)]; exact b5
      · rw [eo _ (by decide) (by decide), ecl, if_neg (by omega)]; exact b6 i hi
      · rw [eo _ (by decide) (by decide)]; exact b7
      · rw [eo _ (by decide) (by decide), eo _ (by decide) (by decide), eo _ (by decide) (by decide), eo _ (by decide) (by decide), eo _ (by decide) (by decide)]; exact b8
      · rw [eo _ (by decide) (by decide)]; exact b9
      · rw [eo _ (by decide) (by decide)]; exact b10
    obtain ⟨h4, e4, H4, S4, f4⟩ := ih (b + 1) N h3 (by omega) (by omega) H3 (fun i hi => by rw [ecl, if_pos (by omega), show i = b by omega])
    refine ⟨h4, ?_, H4, S4, zfr_trans (zfr_trans (zfr_w o11 (by decide) (by decide) (by decide)) f2) (zfr_trans (zfr_w f3 (by decide) (by decide) (by decide)) f4)⟩
    show f_Pl_forget_40 (f_Pl_forget_L40 N) h (nI (5 * zj_sv b)) (nI b) = _
    unfold f_Pl_forget_40
    rw [if_neg (mt (zc_le (k := 9) (by decide) (by omega)).mp (by omega)), show (41 : Int32) + nI b = nI (41 + b) from zc_da 41 b, show f_Pl_open h 0 (nI (41 + b)) (-1) = some (nI b, g) from e1, zo_B, e2, e4]
theorem zj_forget {h : zs_H} : ∃ h', f_Pl_forget h = some h' ∧ zj_SB 9 32 h' ∧ zj_ST h' ∧ zfr zj_fs zj_ms [] h h' := by
  unfold f_Pl_forget
  obtain ⟨h1, e1, a1, f1⟩ := zj_fill36 (h := h) (v := -1)
  obtain ⟨h2, e2, a2, f2⟩ := zj_fill37 (h := h1) (v := -1)
  rw [e1, Option.bind_some, e2, Option.bind_some]
  obtain ⟨h3, hh3⟩ : ∃ h3, h3 = zs_uF (zs_uF (zs_uF (zs_uF h2 20 17 0) 20 18 0) 20 19 (-1)) 20 20 0 := ⟨_, rfl⟩
  have f3 : zfr zj_fs [] [] h2 h3 := by rw [hh3]; exact zfr_F (by decide) (zfr_F (by decide) (zfr_F (by decide) (zfr_F (by decide) zfr_rfl)))
  rw [← hh3]
  have H3 : zj_SB 0 (zj_sv 0) h3 := by
    refine ⟨by rw [hh3]; rfl, by rw [hh3]; rfl, by rw [hh3]; rfl, by rw [hh3]; rfl, fun i hi => absurd hi (Nat.not_lt_zero i), fun i hi => by omega, fun i hi => by omega, fun v hv => absurd hv (Nat.not_lt_zero v), fun c hc => ?_, fun c hc => ?_, by decide, by decide⟩
    · rw [f3.2.1 _ List.not_mem_nil, f2.2.1 _ (by decide), a1 c hc, if_neg (by omega)]
    · rw [f3.2.1 _ List.not_mem_nil]; exact Or.inl (a2 c hc)
  obtain ⟨h4, e4, H4, S4, f4⟩ := zj_forO 9 0 zF h3 (by omega) (by decide) H3 (fun i hi => by omega)
  exact ⟨h4, e4, H4, S4, zfr_trans (zfr_trans (zfr_w f1 (by decide) (by decide) (by decide)) (zfr_w f2 (by decide) (by decide) (by decide))) (zfr_trans (zfr_w f3 (by decide) (by decide) (by decide)) f4)⟩
