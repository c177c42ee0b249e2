/-! A text begins anew, on both sides. -/
section YBQ
variable {LC LM : List (List Int32)} {nb b : Nat} {F X Y K : Nat → Nat} {h0 g0 : zs_H}
/-- nothing is filled into the Qs of TPs -/
theorem yB_rq {fl : Nat → Nat → (Nat → Int32) → Nat → Int32} {base v0 x0 s0 B t0 : Nat} (C : yk_cx LC LM nb F X Y h0 g0) (hb : b < nb) (O : yB_o X b fl) (hv0 : F b ≤ v0 ∧ v0 < F (b + 1)) (e1 : (h0.2.1 32) (32 + v0) = nI x0) (e2 : (h0.2.1 34) (32 + v0) = nI s0) (hx : x0 + s0 ≤ Y b ∧ Y b ≤ 4096) (hB : (h0.2.1 30) (32 + v0) = nI B ∧ B < 9 + b) (ht : t0 < s0) (q : ∀ c : Nat → Int32, yB_v fl h0 base v0 c (base + (x0 + t0)) = c (base + (x0 + t0))) : ∀ (m v : Nat) (c : Nat → Int32), v + m = F (b + 1) → F b ≤ v → yB_r fl h0 base m v c (base + (x0 + t0)) = c (base + (x0 + t0)) := by
  have B3 : nb ≤ 568 := C.1.2.1.1.2.2
  intro m
  induction m with
  | zero => intro v c _ _; rfl
  | succ m ih =>
    intro v c e hv
    show yB_r fl h0 base m (v + 1) (yB_v fl h0 base v c) (base + (x0 + t0)) = _
    rw [ih (v + 1) _ (by omega) (by omega)]
    by_cases z : v = v0
    · subst z; exact q c
    · obtain ⟨x, s, y1, y2, ⟨y3, _⟩, y4, _⟩ := yq_var C hb hv (show v < F (b + 1) by omega)
      refine yB_vo C hb hv (by omega) O y1 y2 (by omega) (fun w => ?_)
      exact yq_ap (u := v) (v := v0) (x := x) (s := s) (x' := x0) (s' := s0) (j := x0 + t0 - x) (t := t0) C hb ⟨hv, by omega⟩ hv0 z y1 y2 e1 e2 (by omega) y4 (fun w => zc_m1 (by omega) (hB.1.symm.trans w)) (by omega) ht (by omega)
theorem yB_Fq (C : yk_cx LC LM nb F X Y h0 g0) : ∀ (d b n j base : Nat) (c : Nat → Int32), b < nb → b < d → yq_Q h0 n b j → yB_F F h0 d b base c (base + j) = c (base + j) := by
  intro d
  induction d with
  | zero => intro b n j base c _ h; omega
  | succ d ih =>
    intro b n j base c hb hd H
    cases n with
    | zero => exact H.elim
    | succ n =>
      obtain ⟨v0, x0, s0, B, t0, hv0, e1, e2, hx, hB, ej, ht, hq⟩ := yq_el C hb H
      subst ej
      have hF := C.1.2.1.2.2.2.1 b hb
      have B3 : nb ≤ 568 := C.1.2.1.1.2.2
      refine yB_rq C hb (yB_FO C d b (by omega) (by omega)).1 hv0 e1 e2 hx hB ht (fun c => ?_) (F (b + 1) - F b) (F b) c (by omega) (Nat.le_refl _)
      obtain ⟨x, s, ⟨q1, _⟩, _, _, ⟨q4, q5, _⟩, q7⟩ := yB_var C hb hv0.1 hv0.2
      have ex : x = x0 := (nI_eq (by omega) (by omega)).mp (q1.symm.trans e1)
      subst ex
      rcases q7 with ⟨i1, _, _⟩ | ⟨B', _, _, _, _, ev⟩ | ⟨u, hu, i1, _, _, _, _, ev⟩
      · rcases i1 with z | z
        · exact absurd (hB.1.symm.trans z) (zc_m1 (by omega))
        · exact absurd (hB.1.symm.trans z) (yq_m2 (by omega))
      · rw [ev]
      · rw [ev]
        have eB : 9 + u = B := (nI_eq (by omega) (by omega)).mp (i1.symm.trans hB.1)
        rcases hq with ⟨z, _⟩ | ⟨_, z⟩
        · omega
        · rw [show B - 9 = u by omega] at z
          have := ih u n t0 (base + x) c (by omega) (by omega) z
          rwa [Nat.add_assoc] at this
/-- where unit k lies -/
def yB_l (X K : Nat → Nat) (nb k : Nat) : Nat := if K k = 1 then yh_pl X K (X (nb - 1)) k else 0
/-- units k, k+1 .. -/
def yB_A (F X K : Nat → Nat) (h0 : zs_H) (nb : Nat) : Nat → Nat → (Nat → Int32) → Nat → Int32
  | 0, _, c => c
  | m + 1, k, c => yB_A F X K h0 nb m (k + 1) (if K k = 2 then c else yB_F F h0 (k + 1) k (yB_l X K nb k) c)
theorem yB_ld {u k : Nat} (n0 : 0 < nb) (hK : K (nb - 1) = 3 ∧ ∀ j, j < nb → (K j = 1 ∨ K j = 2 ∨ K j = 3) ∧ (K j = 3 → j = nb - 1)) (hk : k < nb) (hu : u < k) (h1 : ¬ K k = 2) (h2 : ¬ K u = 2) : yB_l X K nb u + X u ≤ yB_l X K nb k ∨ yB_l X K nb k + X k ≤ yB_l X K nb u := by
  have ku : K u = 1 := by
    have := hK.2 u (by omega)
    rcases this.1 with z | z | z
    · exact z
    · exact absurd z h2
    · have := this.2 z; omega
  unfold yB_l
  rw [if_pos ku]
  rcases (hK.2 k hk).1 with z | z | z
  · rw [if_pos z]
    exact .inl (yX_p1 hu ku)
  · exact absurd z h1
  · have e := (hK.2 k hk).2 z
    rw [if_neg (by omega)]
    right
    have := yX_pm (X := X) (K := K) (s0 := X (nb - 1)) u 0
    rw [Nat.zero_add] at this
    have e2 : yh_pl X K (X (nb - 1)) 0 = X (nb - 1) := rfl
    rw [e]
    omega
theorem yB_lb {k : Nat} (h8 : yh_pl X K (X (nb - 1)) nb ≤ 8192) (hK : ∀ j, j < nb → (K j = 1 ∨ K j = 2 ∨ K j = 3) ∧ (K j = 3 → j = nb - 1)) (hk : k < nb) (h1 : ¬ K k = 2) : yB_l X K nb k + X k ≤ 8192 := by
  unfold yB_l
  rcases (hK k hk).1 with z | z | z
  · rw [if_pos z]
    exact Nat.le_trans (yX_p1 hk z) h8
  · exact absurd z h1
  · rw [if_neg (by omega), (hK k hk).2 z]
    have := yX_pm (X := X) (K := K) (s0 := X (nb - 1)) nb 0
    rw [Nat.zero_add] at this
    have e2 : yh_pl X K (X (nb - 1)) 0 = X (nb - 1) := rfl
    omega
theorem yB_Ag (C : yk_cx LC LM nb F X Y h0 g0) (n0 : 0 < nb) (hK : K (nb - 1) = 3 ∧ ∀ j, j < nb → (K j = 1 ∨ K j = 2 ∨ K j = 3) ∧ (K j = 3 → j = nb - 1)) {n j : Nat} (H : yq_Q h0 n (nb - 1) j) : ∀ (m k : Nat) (c : Nat → Int32), k + m = nb → yB_A F X K h0 nb m k c (0 + j) = c (0 + j) := by
  intro m
  induction m with
  | zero => intro k c _; rfl
  | succ m ih =>
    intro k c e
    show yB_A F X K h0 nb m (k + 1) (if K k = 2 then c else yB_F F h0 (k + 1) k (yB_l X K nb k) c) (0 + j) = _
    rw [ih (k + 1) _ (by omega)]
    by_cases z : K k = 2
    · rw [if_pos z]
    · rw [if_neg z]
      by_cases y : k = nb - 1
      · subst y
        have e0 : yB_l X K nb (nb - 1) = 0 := by
          unfold yB_l
          rw [if_neg (by rw [hK.1]; decide)]
        rw [e0]
        exact yB_Fq C (nb - 1 + 1) (nb - 1) n j 0 c (by omega) (by omega) H
      · have hj := yq_Y C (show nb - 1 < nb by omega) H
        have kB := (C.2.2 (nb - 1) (by omega)).1
        have d := yB_ld (X := X) n0 hK (show nb - 1 < nb by omega) (show k < nb - 1 by omega) (by rw [hK.1]; decide) z
        have e0 : yB_l X K nb (nb - 1) = 0 := by
          unfold yB_l
          rw [if_neg (by rw [hK.1]; decide)]
        refine (yB_FO C (k + 1) (k + 1) (by omega) (Nat.le_refl _)).1 k _ c _ (by omega) ?_
        omega
/-- the model -/
theorem yB_MA (C : yk_cx LC LM nb F X Y h0 g0) (h8 : yh_pl X K (X (nb - 1)) nb ≤ 8192) (hK : ∀ j, j < nb → (K j = 1 ∨ K j = 2 ∨ K j = 3) ∧ (K j = 3 → j = nb - 1)) (eK : ∀ j, j < nb → (g0.2.1 86) j = nI (K j)) : ∀ (m k N : Nat) (c : Nat → Int32) (g : zs_H), k + m = nb → m < N → nb ≤ 16 → yB_e g0 g → (∀ j, j < nb → ¬ K j = 2 → (g0.2.1 89) j = nI (yB_l X K nb j)) → (∀ j, j < 8192 → (g.2.1 114) j = c j) → ∃ g', f_Mo_fillAll_L24 N g (nI k) = some g' ∧ zfr [] [114] [] g g' ∧ ∀ j, j < 8192 → (g'.2.1 114) j = yB_A F X K h0 nb m k c j := by
  intro m
  induction m with
  | zero =>
    intro k N c g e hN n16 f hP hc
    obtain ⟨N, rfl⟩ : ∃ z, N = z + 1 := ⟨N - 1, by omega⟩
    refine ⟨g, ?_, zfr_rfl, hc⟩
    show f_Mo_fillAll_24 (f_Mo_fillAll_L24 N) g (nI k) = _
    unfold f_Mo_fillAll_24
    rw [f.1.1, C.1.2.1.1.2.1, if_pos ((nI_leI (by omega) (by omega)).mpr (by omega))]
  | succ m ih =>
    intro k N c g e hN n16 f hP hc
    obtain ⟨N, rfl⟩ : ∃ z, N = z + 1 := ⟨N - 1, by omega⟩
    have hk : k < nb := by omega
    have k4 := (hK k hk).1
    have q2 : (nI (K k) = 2) ↔ K k = 2 := zc_eq (k := 2) (by decide) (by omega)
    have e0 : f_Mo_fillAll_L24 (N + 1) g (nI k) = (if K k = 2 then f_Mo_fillAll_L24 N g (nI (k + 1)) else ((f_Mo_fill 400 g (nI k) ((g0.2.1 89) k)).bind fun h5 => f_Mo_fillAll_L24 N h5 (nI (k + 1)))) := by
      show f_Mo_fillAll_24 (f_Mo_fillAll_L24 N) g (nI k) = _
      unfold f_Mo_fillAll_24 f_Mo_fillAll_53
      rw [f.1.1, C.1.2.1.1.2.1, if_neg (mt (nI_leI (by omega) (by omega)).mp (by omega)), if_pos (zi_in (by omega) (by omega)), nI_clamp (by omega), f.2 86 (by decide), f.2 89 (by decide), eK k hk, show nI k + 1 = nI (k + 1) from zc_ad 1 k]
      by_cases z : K k = 2
      · rw [if_pos z, if_pos (q2.mpr z)]
      · rw [if_neg z, if_neg (mt q2.mp z)]
    rw [e0]
    show ∃ g' : zs_H, _ = some g' ∧ _ ∧ ∀ j, j < 8192 → (g'.2.1 114) j = yB_A F X K h0 nb m (k + 1) (if K k = 2 then c else yB_F F h0 (k + 1) k (yB_l X K nb k) c) j
    by_cases z : K k = 2
    · rw [if_pos z, if_pos z]
      exact ih (k + 1) N c g (by omega) (by omega) n16 f hP hc
    · rw [if_neg z, if_neg z, hP k hk z]
      obtain ⟨g1, a1, a2, a3⟩ := yB_Mf C 400 k hk (by omega) k (yB_l X K nb k) c g (by omega) (yB_lb h8 hK hk z) f hc
      rw [a1, Option.bind_some]
      rw [yB_fu C 400 (k + 1) k hk (by omega) (by omega)] at a3
      obtain ⟨g2, b1, b2, b3⟩ := ih (k + 1) N _ g1 (by omega) (by omega) n16 (yB_ef f a2) hP a3
      exact ⟨g2, b1, zfr_trans a2 b2, b3⟩
/-- the class -/
theorem yB_CA (C : yk_cx LC LM nb F X Y h0 g0) (n0 : 0 < nb) (n16 : nb ≤ 16) (h8 : yh_pl X K (X (nb - 1)) nb ≤ 8192) (hK : K (nb - 1) = 3 ∧ ∀ j, j < nb → (K j = 1 ∨ K j = 2 ∨ K j = 3) ∧ (K j = 3 → j = nb - 1)) (eK : ∀ j, j < nb → (h0.2.1 21) (9 + j) = nI (K j)) (hP : ∀ j, j < nb → ¬ K j = 2 → (h0.2.1 27) (9 + j) = nI (yB_l X K nb j)) : ∀ (m k N : Nat) (c : Nat → Int32) (h : zs_H), k + m = nb → m < N → yB_E h0 h → (h.1 20 17) = nI (9 + nb) → (∀ j, j < 8192 → (h.2.1 62) j = c j) → (∀ u, k ≤ u → u < nb → ¬ K u = 2 → ∀ t, t < X u → c (yB_l X K nb u + t) = 0) → yB_I X F nb h0 h c (fun w a => ∃ u, u < k ∧ ¬ K u = 2 ∧ yB_l X K nb u ≤ a ∧ a + X w ≤ yB_l X K nb u + X u) → ∃ h', f_Mc_beginAnew_L24 N h (nI (9 + k)) = (f_Mc_publish_c61 h').bind (fun h3 => some h3) ∧ zfr [] [62, 65] [] h h' ∧ ∀ j, j < 8192 → (h'.2.1 62) j = yB_A F X K h0 nb m k c j := by
  intro m
  induction m with
  | zero =>
    intro k N c h e hN f eB hc hZ hI
    obtain ⟨N, rfl⟩ : ∃ z, N = z + 1 := ⟨N - 1, by omega⟩
    refine ⟨h, ?_, zfr_rfl, hc⟩
    show f_Mc_beginAnew_24 (f_Mc_beginAnew_L24 N) h (nI (9 + k)) = _
    unfold f_Mc_beginAnew_24
    rw [eB, if_pos ((nI_leI (by omega) (by omega)).mpr (by omega))]
  | succ m ih =>
    intro k N c h e hN f eB hc hZ hI
    obtain ⟨N, rfl⟩ : ∃ z, N = z + 1 := ⟨N - 1, by omega⟩
    have hk : k < nb := by omega
    have k4 := (hK.2 k hk).1
    have q2 : (nI (K k) = 2) ↔ K k = 2 := zc_eq (k := 2) (by decide) (by omega)
    have e0 : f_Mc_beginAnew_L24 (N + 1) h (nI (9 + k)) = (if K k = 2 then f_Mc_beginAnew_L24 N h (nI (9 + (k + 1))) else ((f_Mc_setConstants 400 h (nI (9 + k)) ((h0.2.1 27) (9 + k)) 0).bind fun h7 => f_Mc_beginAnew_L24 N h7 (nI (9 + (k + 1))))) := by
      show f_Mc_beginAnew_24 (f_Mc_beginAnew_L24 N) h (nI (9 + k)) = _
      unfold f_Mc_beginAnew_24 f_Mc_beginAnew_63
      rw [eB, if_neg (mt (nI_leI (by omega) (by omega)).mp (by omega)), if_pos (zi_in (by omega) (by omega)), nI_clamp (by omega), f 21 (by decide) (by decide), f 27 (by decide) (by decide), eK k hk, show nI (9 + k) + 1 = nI (9 + (k + 1)) from zc_ad 1 (9 + k)]
      by_cases z : K k = 2
      · rw [if_pos z, if_pos (q2.mpr z)]
      · rw [if_neg z, if_neg (mt q2.mp z)]
    rw [e0]
    show ∃ h' : zs_H, _ = (f_Mc_publish_c61 h').bind (fun h3 => some h3) ∧ _ ∧ ∀ j, j < 8192 → (h'.2.1 62) j = yB_A F X K h0 nb m (k + 1) (if K k = 2 then c else yB_F F h0 (k + 1) k (yB_l X K nb k) c) j
    by_cases z : K k = 2
    · rw [if_pos z, if_pos z]
      refine ih (k + 1) N c h (by omega) (by omega) f eB hc (fun u u1 => hZ u (by omega)) (fun w hw => (hI w hw).imp id ?_)
      rintro ⟨a, p1, p2, p3, u, p4, p5⟩
      exact ⟨a, p1, p2, p3, u, by omega, p5⟩
    · rw [if_neg z, if_neg z, hP k hk z, show (0 : Int32) = nI 0 from rfl]
      have O := (yB_FO C (k + 1) (k + 1) (by omega) (Nat.le_refl _)).1
      obtain ⟨h1, a1, a2, a3, a4⟩ := yB_CS C n16 nb 400 (Nat.le_refl _) (by omega) k (yB_l X K nb k) 0 c h hk (yB_lb h8 hK.2 hk z) (by omega) f hc (hZ k (Nat.le_refl _) hk z) (fun w hw => (hI w hw).imp id (by
        rintro ⟨a, p1, p2, p3, u, p4, p5, p6, p7⟩
        refine ⟨a, p1, p2, p3, fun t ht y => ?_⟩
        have := yB_ld (X := X) n0 hK hk p4 z p5
        omega))
      rw [a1, Option.bind_some]
      obtain ⟨h2, b1, b2, b3⟩ := ih (k + 1) N _ h1 (by omega) (by omega) (yB_Ef f a2) ((a2.1 _ _ List.not_mem_nil).trans eB) a3 (fun u u1 u2 u3 t ht => by
        have := yB_ld (X := X) n0 hK u2 (show k < u by omega) u3 z
        rw [O k _ c _ (by omega) (by omega)]
        exact hZ u (by omega) u2 u3 t ht) (fun w hw => (a4 w hw).imp id (by
        rintro ⟨a, p1, p2, p3, p4⟩
        refine ⟨a, p1, p2, p3, ?_⟩
        rcases p4 with q | q
        · rcases hI w hw with y | ⟨a', y1, y2, y3, u, y4, y5⟩
          · exact absurd (q.symm.trans y) (zc_m1 (by omega))
          · have ea : a' = a := (nI_eq (by omega) (by omega)).mp (y1.symm.trans q)
            subst ea
            exact ⟨u, by omega, y5⟩
        · exact ⟨k, by omega, z, q⟩))
      exact ⟨h2, b1, zfr_trans a2 b2, b3⟩
end YBQ
