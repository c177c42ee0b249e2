section
/-! A text begins anew, on both sides. -/
section YBQ
variable {LC LM : List (List Int32)} {nb b : Nat} {F X Y K : Nat → Nat} {h0 g0 : zs_H}
/-- nothing is filled into the Qs of TPs -/
theorem yB_rq {fl : Nat → Nat → (Nat → Int32) → Nat → Int32} {base v0 x0 s0 B t0 : Nat} (C : yk_cx LC LM nb F X Y h0 g0) (hb : b < nb) (O : yB_o X b fl) (hv0 : F b ≤ v0 ∧ v0 < F (b + 1)) (e1 : (h0.2.1 32) (32 + v0) = nI x0) (e2 : (h0.2.1 34) (32 + v0) = nI s0) (hx : x0 + s0 ≤ Y b ∧ Y b ≤ 4096) (hB : (h0.2.1 30) (32 + v0) = nI B ∧ B < 9 + b) (ht : t0 < s0) (q : ∀ c : Nat → Int32, yB_v fl h0 base v0 c (base + (x0 + t0)) = c (base + (x0 + t0))) : ∀ (m v : Nat) (c : Nat → Int32), v + m = F (b + 1) → F b ≤ v → yB_r fl h0 base m v c (base + (x0 + t0)) = c (base + (x0 + t0)) := by
  have B3 : nb ≤ 568 := C.1.2.1.1.2.2
  intro m
  induction m with
  | zero => intro v c _ _; rfl
  | succ m ih =>
    intro v c e hv
    show yB_r fl h0 base m (v + 1) (yB_v fl h0 base v c) (base + (x0 + t0)) = _
    rw [ih (v + 1) _ (by omega) (by omega)]
    by_cases z : v = v0
    · subst z; exact q c
    · obtain ⟨x, s, y1, y2, ⟨y3, _⟩, y4, _⟩ := yq_var C hb hv (show v < F (b + 1) by omega)
      refine yB_vo C hb hv (by omega) O y1 y2 (by omega) (fun w => ?_)
      exact yq_ap (u := v) (v := v0) (x := x) (s := s) (x' := x0) (s' := s0) (j := x0 + t0 - x) (t := t0) C hb ⟨hv, by omega⟩ hv0 z y1 y2 e1 e2 (by omega) y4 (fun w => zc_m1 (by omega) (hB.1.symm.trans w)) (by omega) ht (by omega)
theorem yB_Fq (C : yk_cx LC LM nb F X Y h0 g0) : ∀ (d b n j base : Nat) (c : Nat → Int32), b < nb → b < d → yq_Q h0 n b j → yB_F F h0 d b base c (base + j) = c (base + j) := by
  intro d
  induction d with
  | zero => intro b n j base c _ h; omega
  | succ d ih =>
    intro b n j base c hb hd H
    cases n with
    | zero => exact H.elim
    | succ n =>
      obtain ⟨v0, x0, s0, B, t0, hv0, e1, e2, hx, hB, ej, ht, hq⟩ := yq_el C hb H
      subst ej
      have hF := C.1.2.1.2.2.2.1 b hb
      have B3 : nb ≤ 568 := C.1.2.1.1.2.2
      refine yB_rq C hb (yB_FO C d b (by omega) (by omega)).1 hv0 e1 e2 hx hB ht (fun c => ?_) (F (b + 1) - F b) (F b) c (by omega) (Nat.le_refl _)
      obtain ⟨x, s, ⟨q1, _⟩, _, _, ⟨q4, q5, _⟩, q7⟩ := yB_var C hb hv0.1 hv0.2
      have ex : x = x0 := (nI_eq (by omega) (by omega)).mp (q1.symm.trans e1)
      subst ex
      rcases q7 with ⟨i1, _, _⟩ | ⟨B', _, _, _, _, ev⟩ | ⟨u, hu, i1, _, _, _, _, ev⟩
      · rcases i1 with z | z
        · exact absurd (hB.1.symm.trans z) (zc_m1 (by omega))
        · exact absurd (hB.1.symm.trans z) (yq_m2 (by omega))
      · rw [ev]
      · rw [ev]
        have eB : 9 + u = B := (nI_eq (by omega) (by omega)).mp (i1.symm.trans hB.1)
        rcases hq with ⟨z, _⟩ | ⟨_, z⟩
        · omega
        · rw [show B - 9 = u by omega] at z
          have := ih u n t0 (base + x) c (by omega) (by omega) z
          rwa [Nat.add_assoc] at this
/-- where unit k lies -/
def yB_l (X K : Nat → Nat) (nb k : Nat) : Nat := if K k = 1 then yh_pl X K (X (nb - 1)) k else 0
/-- units k, k+1 .. -/
def yB_A (F X K : Nat → Nat) (h0 : zs_H) (nb : Nat) : Nat → Nat → (Nat → Int32) → Nat → Int32
  | 0, _, c => c
  | m + 1, k, c => yB_A F X K h0 nb m (k + 1) (if K k = 2 then c else yB_F F h0 (k + 1) k (yB_l X K nb k) c)
theorem yB_ld {u k : Nat} (n0 : 0 < nb) (hK : K (nb - 1) = 3 ∧ ∀ j, j < nb → (K j = 1 ∨ K j = 2 ∨ K j = 3) ∧ (K j = 3 → j = nb - 1)) (hk : k < nb) (hu : u < k) (h1 : ¬ K k = 2) (h2 : ¬ K u = 2) : yB_l X K nb u + X u ≤ yB_l X K nb k ∨ yB_l X K nb k + X k ≤ yB_l X K nb u := by
  have ku : K u = 1 := by
    have := hK.2 u (by omega)
    rcases this.1 with z | z | z
    · exact z
    · exact absurd z h2
    · have := this.2 z; omega
  unfold yB_l
  rw [if_pos ku]
  rcases (hK.2 k hk).1 with z | z | z
  · rw [if_pos z]
    exact .inl (yX_p1 hu ku)
  · exact absurd z h1
  · have e := (hK.2 k hk).2 z
    rw [if_neg (by omega)]
    right
    have := yX_pm (X := X) (K := K) (s0 := X (nb - 1)) u 0
    rw [Nat.zero_add] at this
    have e2 : yh_pl X K (X (nb - 1)) 0 = X (nb - 1) := rfl
    rw [e]
    omega
theorem yB_lb {k : Nat} (h8 : yh_pl X K (X (nb - 1)) nb ≤ 8192) (hK : ∀ j, j < nb → (K j = 1 ∨ K j = 2 ∨ K j = 3) ∧ (K j = 3 → j = nb - 1)) (hk : k < nb) (h1 : ¬ K k = 2) : yB_l X K nb k + X k ≤ 8192 := by
  unfold yB_l
  rcases (hK k hk).1 with z | z | z
  · rw [if_pos z]
    exact Nat.le_trans (yX_p1 hk z) h8
  · exact absurd z h1
  · rw [if_neg (by omega), (hK k hk).2 z]
    have := yX_pm (X := X) (K := K) (s0 := X (nb - 1)) nb 0
    rw [Nat.zero_add] at this
    have e2 : yh_pl X K (X (nb - 1)) 0 = X (nb - 1) := rfl
    omega
theorem yB_Ag (C : yk_cx LC LM nb F X Y h0 g0) (n0 : 0 < nb) (hK : K (nb - 1) = 3 ∧ ∀ j, j < nb → (K j = 1 ∨ K j = 2 ∨ K j = 3) ∧ (K j = 3 → j = nb - 1)) {n j : Nat} (H : yq_Q h0 n (nb - 1) j) : ∀ (m k : Nat) (c : Nat → Int32), k + m = nb → yB_A F X K h0 nb m k c (0 + j) = c (0 + j) := by
  intro m
  induction m with
  | zero => intro k c _; rfl
  | succ m ih =>
    intro k c e
    show yB_A F X K h0 nb m (k + 1) (if K k = 2 then c else yB_F F h0 (k + 1) k (yB_l X K nb k) c) (0 + j) = _
    rw [ih (k + 1) _ (by omega)]
    by_cases z : K k = 2
    · rw [if_pos z]
    · rw [if_neg z]
      by_cases y : k = nb - 1
      · subst y
        have e0 : yB_l X K nb (nb - 1) = 0 := by
          unfold yB_l
          rw [if_neg (by rw [hK.1]; decide)]
        rw [e0]
        exact yB_Fq C (nb - 1 + 1) (nb - 1) n j 0 c (by omega) (by omega) H
      · have hj := yq_Y C (show nb - 1 < nb by omega) H
        have kB := (C.2.2 (nb - 1) (by omega)).1
        have d := yB_ld (X := X) n0 hK (show nb - 1 < nb by omega) (show k < nb - 1 by omega) (by rw [hK.1]; decide) z
        have e0 : yB_l X K nb (nb - 1) = 0 := by
          unfold yB_l
          rw [if_neg (by rw [hK.1]; decide)]
        refine (yB_FO C (k + 1) (k + 1) (by omega) (Nat.le_refl _)).1 k _ c _ (by omega) ?_
        omega
/-- the model -/
theorem yB_MA (C : yk_cx LC LM nb F X Y h0 g0) (h8 : yh_pl X K (X (nb - 1)) nb ≤ 8192) (hK : ∀ j, j < nb → (K j = 1 ∨ K j = 2 ∨ K j = 3) ∧ (K j = 3 → j = nb - 1)) (eK : ∀ j, j < nb → (g0.2.1 86) j = nI (K j)) : ∀ (m k N : Nat) (c : Nat → Int32) (g : zs_H), k + m = nb → m < N → nb ≤ 16 → yB_e g0 g → (∀ j, j < nb → ¬ K j = 2 → (g0.2.1 89) j = nI (yB_l X K nb j)) → (∀ j, j < 8192 → (g.2.1 114) j = c j) → ∃ g', f_Mo_fillAll_L24 N g (nI k) = some g' ∧ zfr [] [114] [] g g' ∧ ∀ j, j < 8192 → (g'.2.1 114) j = yB_A F X K h0 nb m k c j := by
  intro m
  induction m with
  | zero =>
    intro k N c g e hN n16 f hP hc
    obtain ⟨N, rfl⟩ : ∃ z, N = z + 1 := ⟨N - 1, by omega⟩
    refine ⟨g, ?_, zfr_rfl, hc⟩
    show f_Mo_fillAll_24 (f_Mo_fillAll_L24 N) g (nI k) = _
    unfold f_Mo_fillAll_24
    rw [f.1.1, C.1.2.1.1.2.1, if_pos ((nI_leI (by omega) (by omega)).mpr (by omega))]
  | succ m ih =>
    intro k N c g e hN n16 f hP hc
    obtain ⟨N, rfl⟩ : ∃ z, N = z + 1 := ⟨N - 1, by omega⟩
    have hk : k < nb := by omega
    have k4 := (hK k hk).1
    have q2 : (nI (K k) = 2) ↔ K k = 2 := zc_eq (k := 2) (by decide) (by omega)
    have e0 : f_Mo_fillAll_L24 (N + 1) g (nI k) = (if K k = 2 then f_Mo_fillAll_L24 N g (nI (k + 1)) else ((f_Mo_fill 400 g (nI k) ((g0.2.1 89) k)).bind fun h5 => f_Mo_fillAll_L24 N h5 (nI (k + 1)))) := by
      show f_Mo_fillAll_24 (f_Mo_fillAll_L24 N) g (nI k) = _
      unfold f_Mo_fillAll_24 f_Mo_fillAll_53
      rw [f.1.1, C.1.2.1.1.2.1, if_neg (mt (nI_leI (by omega) (by omega)).mp (by omega)), if_pos (zi_in (by omega) (by omega)), nI_clamp (by omega), f.2 86 (by decide), f.2 89 (by decide), eK k hk, show nI k + 1 = nI (k + 1) from zc_ad 1 k]
      by_cases z : K k = 2
      · rw [if_pos z, if_pos (q2.mpr z)]
      · rw [if_neg z, if_neg (mt q2.mp z)]
    rw [e0]
    show ∃ g' : zs_H, _ = some g' ∧ _ ∧ ∀ j, j < 8192 → (g'.2.1 114) j = yB_A F X K h0 nb m (k + 1) (if K k = 2 then c else yB_F F h0 (k + 1) k (yB_l X K nb k) c) j
    by_cases z : K k = 2
    · rw [if_pos z, if_pos z]
      exact ih (k + 1) N c g (by omega) (by omega) n16 f hP hc
    · rw [if_neg z, if_neg z, hP k hk z]
      obtain ⟨g1, a1, a2, a3⟩ := yB_Mf C 400 k hk (by omega) k (yB_l X K nb k) c g (by omega) (yB_lb h8 hK hk z) f hc
      rw [a1, Option.bind_some]
      rw [yB_fu C 400 (k + 1) k hk (by omega) (by omega)] at a3
      obtain ⟨g2, b1, b2, b3⟩ := ih (k + 1) N _ g1 (by omega) (by omega) n16 (yB_ef f a2) hP a3
      exact ⟨g2, b1, zfr_trans a2 b2, b3⟩
/-- the class -/
theorem yB_CA (C : yk_cx LC LM nb F X Y h0 g0) (n0 : 0 < nb) (n16 : nb ≤ 16) (h8 : yh_pl X K (X (nb - 1)) nb ≤ 8192) (hK : K (nb - 1) = 3 ∧ ∀ j, j < nb → (K j = 1 ∨ K j = 2 ∨ K j = 3) ∧ (K j = 3 → j = nb - 1)) (eK : ∀ j, j < nb → (h0.2.1 21) (9 + j) = nI (K j)) (hP : ∀ j, j < nb → ¬ K j = 2 → (h0.2.1 27) (9 + j) = nI (yB_l X K nb j)) : ∀ (m k N : Nat) (c : Nat → Int32) (h : zs_H), k + m = nb → m < N → yB_E h0 h → (h.1 20 17) = nI (9 + nb) → (∀ j, j < 8192 → (h.2.1 62) j = c j) → (∀ u, k ≤ u → u < nb → ¬ K u = 2 → ∀ t, t < X u → c (yB_l X K nb u + t) = 0) → yB_I X F nb h0 h c (fun w a => ∃ u, u < k ∧ ¬ K u = 2 ∧ yB_l X K nb u ≤ a ∧ a + X w ≤ yB_l X K nb u + X u) → ∃ h', f_Mc_beginAnew_L24 N h (nI (9 + k)) = (f_Mc_publish_c61 h').bind (fun h3 => some h3) ∧ zfr [] [62, 65] [] h h' ∧ ∀ j, j < 8192 → (h'.2.1 62) j = yB_A F X K h0 nb m k c j := by
  intro m
  induction m with
  | zero =>
    intro k N c h e hN f eB hc hZ hI
    obtain ⟨N, rfl⟩ : ∃ z, N = z + 1 := ⟨N - 1, by omega⟩
    refine ⟨h, ?_, zfr_rfl, hc⟩
    show f_Mc_beginAnew_24 (f_Mc_beginAnew_L24 N) h (nI (9 + k)) = _
    unfold f_Mc_beginAnew_24
    rw [eB, if_pos ((nI_leI (by omega) (by omega)).mpr (by omega))]
  | succ m ih =>
    intro k N c h e hN f eB hc hZ hI
    obtain ⟨N, rfl⟩ : ∃ z, N = z + 1 := ⟨N - 1, by omega⟩
    have hk : k < nb := by omega
    have k4 := (hK.2 k hk).1
    have q2 : (nI (K k) = 2) ↔ K k = 2 := zc_eq (k := 2) (by decide) (by omega)
    have e0 : f_Mc_beginAnew_L24 (N + 1) h (nI (9 + k)) = (if K k = 2 then f_Mc_beginAnew_L24 N h (nI (9 + (k + 1))) else ((f_Mc_setConstants 400 h (nI (9 + k)) ((h0.2.1 27) (9 + k)) 0).bind fun h7 => f_Mc_beginAnew_L24 N h7 (nI (9 + (k + 1))))) := by
      show f_Mc_beginAnew_24 (f_Mc_beginAnew_L24 N) h (nI (9 + k)) = _
      unfold f_Mc_beginAnew_24 f_Mc_beginAnew_63
      rw [eB, if_neg (mt (nI_leI (by omega) (by omega)).mp (by omega)), if_pos (zi_in (by omega) (by omega)), nI_clamp (by omega), f 21 (by decide) (by decide), f 27 (by decide) (by decide), eK k hk, show nI (9 + k) + 1 = nI (9 + (k + 1)) from zc_ad 1 (9 + k)]
      by_cases z : K k = 2
      · rw [if_pos z, if_pos (q2.mpr z)]
      · rw [if_neg z, if_neg (mt q2.mp z)]
    rw [e0]
    show ∃ h' : zs_H, _ = (f_Mc_publish_c61 h').bind (fun h3 => some h3) ∧ _ ∧ ∀ j, j < 8192 → (h'.2.1 62) j = yB_A F X K h0 nb m (k + 1) (if K k = 2 then c else yB_F F h0 (k + 1) k (yB_l X K nb k) c) j
    by_cases z : K k = 2
    · rw [if_pos z, if_pos z]
      refine ih (k + 1) N c h (by omega) (by omega) f eB hc (fun u u1 => hZ u (by omega)) (fun w hw => (hI w hw).imp id ?_)
      rintro ⟨a, p1, p2, p3, u, p4, p5⟩
      exact ⟨a, p1, p2, p3, u, by omega, p5⟩
    · rw [if_neg z, if_neg z, hP k hk z, show (0 : Int32) = nI 0 from rfl]
      have O := (yB_FO C (k + 1) (k + 1) (by omega) (Nat.le_refl _)).1
      obtain ⟨h1, a1, a2, a3, a4⟩ := yB_CS C n16 nb 400 (Nat.le_refl _) (by omega) k (yB_l X K nb k) 0 c h hk (yB_lb h8 hK.2 hk z) (by omega) f hc (hZ k (Nat.le_refl _) hk z) (fun w hw => (hI w hw).imp id (by
        rintro ⟨a, p1, p2, p3, u, p4, p5, p6, p7⟩
        refine ⟨a, p1, p2, p3, fun t ht y => ?_⟩
        have := yB_ld (X := X) n0 hK hk p4 z p5
        omega))
      rw [a1, Option.bind_some]
      obtain ⟨h2, b1, b2, b3⟩ := ih (k + 1) N _ h1 (by omega) (by omega) (yB_Ef f a2) ((a2.1 _ _ List.not_mem_nil).trans eB) a3 (fun u u1 u2 u3 t ht => by
        have := yB_ld (X := X) n0 hK u2 (show k < u by omega) u3 z
        rw [O k _ c _ (by omega) (by omega)]
        exact hZ u (by omega) u2 u3 t ht) (fun w hw => (a4 w hw).imp id (by
        rintro ⟨a, p1, p2, p3, p4⟩
        refine ⟨a, p1, p2, p3, ?_⟩
        rcases p4 with q | q
        · rcases hI w hw with y | ⟨a', y1, y2, y3, u, y4, y5⟩
          · exact absurd (q.symm.trans y) (zc_m1 (by omega))
          · have ea : a' = a := (nI_eq (by omega) (by omega)).mp (y1.symm.trans q)
            subst ea
            exact ⟨u, by omega, y5⟩
        · exact ⟨k, by omega, z, q⟩))
      exact ⟨h2, b1, zfr_trans a2 b2, b3⟩
end YBQ
end
section
/-! A text begins anew: BOOLs are 0 or 1. -/
def yB_j (Bc : Nat → Nat → Prop) (b : Nat) (fl : Nat → Nat → (Nat → Int32) → Nat → Int32) : Prop := ∀ (u base : Nat) (c : Nat → Int32), u < b → yJ_g Bc u base c → yJ_g Bc u base (fl u base c)
section YBJ
variable {LC LM : List (List Int32)} {nb b : Nat} {F X Y K : Nat → Nat} {h0 g0 : zs_H} {LD : Nat → Prop}
theorem yB_co {v : Nat} (C : yk_cx LC LM nb F X Y h0 g0) (hb : b < nb) (h1 : F b ≤ v ∧ v < F (b + 1)) (ht : (h0.2.1 31) (32 + v) = 0) : yJ_01 ((h0.2.1 35) (32 + v)) := by
  have hF := C.1.2.1.2.2.2.1 b hb
  obtain ⟨ty, x', s', y', ⟨t1, t2⟩, _, _, _, ⟨_, _, _, r5, _⟩, _⟩ := C.1.2.2.2.1.2.1 b v hb h1.1 h1.2 (by omega)
  exact r5 ((zc_eq (k := 0) (by decide) (by omega)).mp (t2.symm.trans ht))
theorem yB_vj {fl : Nat → Nat → (Nat → Int32) → Nat → Int32} {v base : Nat} {c : Nat → Int32} (C : yk_cx LC LM nb F X Y h0 g0) (hb : b < nb) (h1 : F b ≤ v ∧ v < F (b + 1)) (O : yB_o X b fl) (S : yB_j (yq_b LD h0) b fl) (G : yJ_g (yq_b LD h0) b base c) : yJ_g (yq_b LD h0) b base (yB_v fl h0 base v c) := by
  intro j hj
  obtain ⟨x, s, ⟨q1, _⟩, ⟨q2, _⟩, _, ⟨q4, q5, _⟩, q6⟩ := yB_var C hb h1.1 h1.2
  have B3 : nb ≤ 568 := C.1.2.1.1.2.2
  rcases q6 with ⟨i1, _, i3⟩ | ⟨B, _, _, _, _, i5⟩ | ⟨u, u1, i2, _, _, es, _, i5⟩
  · rw [i3]
    show yJ_01 (if _ then _ else _)
    by_cases z : base + x ≤ base + j ∧ base + j < base + x + s
    · rw [if_pos z]
      exact yB_co C hb h1 (yq_bc (LD := LD) (j := j - x) C hb h1 i1 q1 (by omega) q2 (by omega) (by omega) (by rw [show x + (j - x) = j by omega]; exact hj))
    · rw [if_neg z]; exact G j hj
  · rw [i5]; exact G j hj
  · rw [i5]
    by_cases z : x ≤ j ∧ j < x + s
    · obtain ⟨t, rfl⟩ : ∃ t, j = x + t := ⟨j - x, by omega⟩
      have key : ∀ t, t < s → (yq_b LD h0 b (x + t) ↔ yq_b LD h0 u t) := fun t ht => by
        rw [yq_bi (LD := LD) (j := t) C hb h1 i2 (by omega) q1 (by omega) q2 (by omega) ht, show 9 + u - 9 = u by omega]
        exact ⟨fun q => q.elim (fun q => absurd q.1 (by omega)) (fun q => q.2), fun q => .inr ⟨by omega, q⟩⟩
      have g1 : yJ_g (yq_b LD h0) u (base + x) c := fun t' ht' => by
        have := yq_bX C (show u < nb by omega) ht'
        have := G (x + t') ((key t' (by omega)).mpr ht')
        rwa [← Nat.add_assoc] at this
      have := S u (base + x) c u1 g1 t ((key t (by omega)).mp hj)
      rwa [Nat.add_assoc] at this
    · rw [O u (base + x) c (base + j) u1 (by omega)]; exact G j hj
theorem yB_rj {fl : Nat → Nat → (Nat → Int32) → Nat → Int32} {base : Nat} (C : yk_cx LC LM nb F X Y h0 g0) (hb : b < nb) (O : yB_o X b fl) (S : yB_j (yq_b LD h0) b fl) : ∀ (m v : Nat) (c : Nat → Int32), v + m = F (b + 1) → F b ≤ v → yJ_g (yq_b LD h0) b base c → yJ_g (yq_b LD h0) b base (yB_r fl h0 base m v c) := by
  intro m
  induction m with
  | zero => intro v c _ _ G; exact G
  | succ m ih =>
    intro v c e hv G
    exact ih (v + 1) _ (by omega) (by omega) (yB_vj C hb ⟨hv, by omega⟩ O S G)
theorem yB_Fj (C : yk_cx LC LM nb F X Y h0 g0) : ∀ (d b : Nat), b ≤ nb → b ≤ d → yB_j (yq_b LD h0) b (yB_F F h0 d) := by
  intro d
  induction d with
  | zero => intro b _ h u base c hu; omega
  | succ d ih =>
    intro b hb hd u base c hu G
    have hF := (C.1.2.1.2.2.2.1 u (by omega)).1
    exact yB_rj C (show u < nb by omega) (yB_FO C d u (by omega) (by omega)).1 (ih u (by omega) (by omega)) (F (u + 1) - F u) (F u) c (by omega) (Nat.le_refl _) G
theorem yB_Aj (C : yk_cx LC LM nb F X Y h0 g0) (n0 : 0 < nb) (hK : K (nb - 1) = 3 ∧ ∀ j, j < nb → (K j = 1 ∨ K j = 2 ∨ K j = 3) ∧ (K j = 3 → j = nb - 1)) : ∀ (m k : Nat) (c : Nat → Int32), k + m = nb → (∀ u, u < nb → ¬ K u = 2 → yJ_g (yq_b LD h0) u (yB_l X K nb u) c) → ∀ u, u < nb → ¬ K u = 2 → yJ_g (yq_b LD h0) u (yB_l X K nb u) (yB_A F X K h0 nb m k c) := by
  intro m
  induction m with
  | zero => intro k c _ G; exact G
  | succ m ih =>
    intro k c e G
    refine ih (k + 1) _ (by omega) (fun u hu hk => ?_)
    by_cases z : K k = 2
    · rw [if_pos z]; exact G u hu hk
    · rw [if_neg z]
      by_cases y : u = k
      · subst y
        exact yB_Fj C (u + 1) (u + 1) (by omega) (Nat.le_refl _) u _ c (by omega) (G u hu hk)
      · intro j hj
        have hx := yq_bX C hu hj
        rw [(yB_FO C (k + 1) (k + 1) (by omega) (Nat.le_refl _)).1 k _ c _ (by omega) (by
          rcases Nat.lt_or_gt_of_ne y with q | q
          · have := yB_ld (X := X) n0 hK (show k < nb by omega) q z hk
            omega
          · have := yB_ld (X := X) n0 hK hu q hk z
            omega)]
        exact G u hu hk j hj
end YBJ
end
section
/-! A text begins anew: all cells, outputs. -/
section YBR
variable {LC LM : List (List Int32)} {nb : Nat} {F X Y K : Nat → Nat} {h0 g0 : zs_H}
theorem yB_f62 {v : Int32} : ∀ (m x N : Nat) (h : zs_H), x + m = 8192 → m < N → ∃ h', f_Ar_fill_c62_L5 N h v (nI x) 8192 = some h' ∧ zfr [] [62] [] h h' ∧ ∀ j, j < 8192 → (h'.2.1 62) j = if x ≤ j then v else (h.2.1 62) j := by
  intro m
  induction m with
  | zero =>
    intro x N h e hN
    obtain ⟨N, rfl⟩ : ∃ z, N = z + 1 := ⟨N - 1, by omega⟩
    refine ⟨h, ?_, zfr_rfl, fun j hj => by rw [if_neg (by omega)]⟩
    show f_Ar_fill_c62_5 (f_Ar_fill_c62_L5 N) h v (nI x) 8192 = _
    unfold f_Ar_fill_c62_5
    rw [if_pos ((zc_le (k := 8192) (by decide) (by omega)).mpr (by omega))]
  | succ m ih =>
    intro x N h e hN
    obtain ⟨N, rfl⟩ : ∃ z, N = z + 1 := ⟨N - 1, by omega⟩
    obtain ⟨h', a1, a2, a3⟩ := ih (x + 1) N (zs_uM h 62 x v) (by omega) (by omega)
    refine ⟨h', ?_, zfr_trans (zfr_M (by decide) zfr_rfl) a2, fun j hj => ?_⟩
    · show f_Ar_fill_c62_5 (f_Ar_fill_c62_L5 N) h v (nI x) 8192 = _
      unfold f_Ar_fill_c62_5
      rw [if_neg (mt (zc_le (k := 8192) (by decide) (by omega)).mp (by omega)), if_pos (zi_in (by omega) (by omega)), nI_clamp (by omega), show nI x + 1 = nI (x + 1) from zc_ad 1 x]
      exact a1
    · have g2 : ((zs_uM h 62 x v).2.1 62) j = if j = x then v else (h.2.1 62) j := zu_MM.trans (by
        by_cases z : j = x
        · rw [if_pos ⟨rfl, z⟩, if_pos z]
        · rw [if_neg (fun w => z w.2), if_neg z])
      rw [a3 j hj, g2]
      by_cases z : j = x
      · subst z
        rw [if_neg (by omega), if_pos rfl, if_pos (Nat.le_refl _)]
      · by_cases y : x + 1 ≤ j
        · rw [if_pos y, if_pos (by omega)]
        · rw [if_neg y, if_neg z, if_neg (by omega)]
theorem yB_f65 {v : Int32} : ∀ (m x N : Nat) (h : zs_H), x + m = 16 → m < N → ∃ h', f_Ar_fill_c65_L5 N h v (nI x) 16 = some h' ∧ zfr [] [65] [] h h' ∧ ∀ j, j < 16 → (h'.2.1 65) j = if x ≤ j then v else (h.2.1 65) j := by
  intro m
  induction m with
  | zero =>
    intro x N h e hN
    obtain ⟨N, rfl⟩ : ∃ z, N = z + 1 := ⟨N - 1, by omega⟩
    refine ⟨h, ?_, zfr_rfl, fun j hj => by rw [if_neg (by omega)]⟩
    show f_Ar_fill_c65_5 (f_Ar_fill_c65_L5 N) h v (nI x) 16 = _
    unfold f_Ar_fill_c65_5
    rw [if_pos ((zc_le (k := 16) (by decide) (by omega)).mpr (by omega))]
  | succ m ih =>
    intro x N h e hN
    obtain ⟨N, rfl⟩ : ∃ z, N = z + 1 := ⟨N - 1, by omega⟩
    obtain ⟨h', a1, a2, a3⟩ := ih (x + 1) N (zs_uM h 65 x v) (by omega) (by omega)
    refine ⟨h', ?_, zfr_trans (zfr_M (by decide) zfr_rfl) a2, fun j hj => ?_⟩
    · show f_Ar_fill_c65_5 (f_Ar_fill_c65_L5 N) h v (nI x) 16 = _
      unfold f_Ar_fill_c65_5
      rw [if_neg (mt (zc_le (k := 16) (by decide) (by omega)).mp (by omega)), if_pos (zi_in (by omega) (by omega)), nI_clamp (by omega), show nI x + 1 = nI (x + 1) from zc_ad 1 x]
      exact a1
    · have g2 : ((zs_uM h 65 x v).2.1 65) j = if j = x then v else (h.2.1 65) j := zu_MM.trans (by
        by_cases z : j = x
        · rw [if_pos ⟨rfl, z⟩, if_pos z]
        · rw [if_neg (fun w => z w.2), if_neg z])
      rw [a3 j hj, g2]
      by_cases z : j = x
      · subst z
        rw [if_neg (by omega), if_pos rfl, if_pos (Nat.le_refl _)]
      · by_cases y : x + 1 ≤ j
        · rw [if_pos y, if_pos (by omega)]
        · rw [if_neg y, if_neg z, if_neg (by omega)]
theorem yB_m2 : ∀ (m x N : Nat) (g : zs_H), x + m = 8192 → m < N → ∃ g', f_Mo_fillAll_L2 N g (nI x) = f_Mo_fillAll_L24 zF g' 0 ∧ zfr [] [114] [] g g' ∧ ∀ j, j < 8192 → (g'.2.1 114) j = if x ≤ j then 0 else (g.2.1 114) j := by
  intro m
  induction m with
  | zero =>
    intro x N g e hN
    obtain ⟨N, rfl⟩ : ∃ z, N = z + 1 := ⟨N - 1, by omega⟩
    refine ⟨g, ?_, zfr_rfl, fun j hj => by rw [if_neg (by omega)]⟩
    show f_Mo_fillAll_2 (f_Mo_fillAll_L2 N) g (nI x) = _
    unfold f_Mo_fillAll_2
    rw [if_pos ((zc_le (k := 8192) (by decide) (by omega)).mpr (by omega))]
  | succ m ih =>
    intro x N g e hN
    obtain ⟨N, rfl⟩ : ∃ z, N = z + 1 := ⟨N - 1, by omega⟩
    obtain ⟨g', a1, a2, a3⟩ := ih (x + 1) N (zs_uM g 114 x 0) (by omega) (by omega)
    refine ⟨g', ?_, zfr_trans (zfr_M (by decide) zfr_rfl) a2, fun j hj => ?_⟩
    · show f_Mo_fillAll_2 (f_Mo_fillAll_L2 N) g (nI x) = _
      unfold f_Mo_fillAll_2
      rw [if_neg (mt (zc_le (k := 8192) (by decide) (by omega)).mp (by omega)), if_pos (zi_in (by omega) (by omega)), nI_clamp (by omega), show nI x + 1 = nI (x + 1) from zc_ad 1 x]
      exact a1
    · have g2 : ((zs_uM g 114 x 0).2.1 114) j = if j = x then 0 else (g.2.1 114) j := zu_MM.trans (by
        by_cases z : j = x
        · rw [if_pos ⟨rfl, z⟩, if_pos z]
        · rw [if_neg (fun w => z w.2), if_neg z])
      rw [a3 j hj, g2]
      by_cases z : j = x
      · subst z
        rw [if_neg (by omega), if_pos rfl, if_pos (Nat.le_refl _)]
      · by_cases y : x + 1 ≤ j
        · rw [if_pos y, if_pos (by omega)]
        · rw [if_neg y, if_neg z, if_neg (by omega)]
/-- what is known of the plan of a text that begins -/
def yB_P (LC LM : List (List Int32)) (nb : Nat) (F X Y K : Nat → Nat) (h0 g0 : zs_H) : Prop := (0 < nb ∧ nb ≤ 16) ∧ yk_cx LC LM nb F X Y h0 g0 ∧ yh_pl X K (X (nb - 1)) nb ≤ 8192 ∧ (K (nb - 1) = 3 ∧ ∀ j, j < nb → (K j = 1 ∨ K j = 2 ∨ K j = 3) ∧ (K j = 3 → j = nb - 1)) ∧ (∀ j, j < nb → (h0.2.1 21) (9 + j) = nI (K j) ∧ (g0.2.1 86) j = nI (K j)) ∧ ∀ j, j < nb → ¬ K j = 2 → (h0.2.1 27) (9 + j) = nI (yB_l X K nb j) ∧ (g0.2.1 89) j = nI (yB_l X K nb j)
theorem yB_mkP (n0 : 0 < nb) (n16 : nb ≤ 16) (C : yk_cx LC LM nb F X Y h0 g0) (KK : ∀ j, j < nb → (K j = 1 ∨ K j = 2 ∨ K j = 3) ∧ (h0.2.1 21) (9 + j) = nI (K j) ∧ (g0.2.1 86) j = nI (K j)) (TT : yh_T nb X K h0 g0) : yB_P LC LM nb F X Y K h0 g0 := by
  have k3 : ∀ j, j < nb → K j = 3 → j = nb - 1 := fun j hj z => by
    obtain ⟨kd, _, e1, _, e2⟩ := C.1.2.1.2.2.2.2.1 j hj
    have : kd = 3 := (zc_eq (k := 3) (by decide) (by omega)).mp (e1.symm.trans (by rw [(KK j hj).2.1, z]; rfl))
    have := e2 this
    omega
  refine ⟨⟨n0, n16⟩, C, TT.2.1.2.2, ⟨TT.1.2, fun j hj => ⟨(KK j hj).1, k3 j hj⟩⟩, fun j hj => (KK j hj).2, fun j hj h2 => ?_⟩
  unfold yB_l
  rcases (KK j hj).1 with z | z | z
  · rw [if_pos z]; exact TT.2.2.1 j hj z
  · exact absurd z h2
  · rw [if_neg (by omega), k3 j hj z]
    exact ⟨TT.2.2.2.2, TT.2.2.2.1⟩
theorem yB_anew {h g : zs_H} (P : yB_P LC LM nb F X Y K h0 g0) (E : yB_E h0 h) (e : yB_e g0 g) (eB : (h.1 20 17) = nI (9 + nb)) (io : yY_io h g) : ∃ h' g', f_Mc_beginAnew h = some h' ∧ f_Mo_anew g = some g' ∧ zfr [(58, 4)] [60, 62, 65] [] h h' ∧ zfr [(68, 86)] [114, 119] [] g g' ∧ (∀ j, j < 8192 → (h'.2.1 62) j = (g'.2.1 114) j) ∧ (yS_g (yq_k h0) (nb - 1) 0 ((g'.2.1 114)) ∧ ∀ LD : Nat → Prop, yJ_G (yq_b LD h0) (yq_k h0) (yh_pl X K (X (nb - 1))) (nb - 1) 0 ((g'.2.1 114))) ∧ yY_io h' g' ∧ (h'.1 58 4) = 0 ∧ (g'.1 68 86) = 0 := by
  have hz := zF_big
  obtain ⟨⟨n0, n16⟩, C, h8, hK, eK, hP⟩ := P
  obtain ⟨ha, ea⟩ : ∃ ha, ha = zs_uF h 58 4 0 := ⟨_, rfl⟩
  have fa : zfr [(58, 4)] [] [] h ha := by rw [ea]; exact zfr_F (by decide) zfr_rfl
  obtain ⟨h1, a1, a2, a3⟩ := yB_f62 (v := 0) 8192 0 zF ha (by omega) (by omega)
  obtain ⟨h2, b1, b2, b3⟩ := yB_f65 (v := -1) 16 0 zF h1 (by omega) (by omega)
  obtain ⟨g1, m1, m2, m3⟩ := yB_m2 8192 0 zF g (by omega) (by omega)
  have f2 : zfr [] [62, 65] [] ha h2 := zfr_trans (zfr_w a2 (by decide) (by decide) (by decide)) (zfr_w b2 (by decide) (by decide) (by decide))
  have c2 : ∀ j, j < 8192 → (h2.2.1 62) j = (fun _ => (0 : Int32)) j := fun j hj => by rw [b2.2.1 _ (by decide), a3 j hj, if_pos (Nat.zero_le _)]
  have d2 : ∀ j, j < 8192 → (g1.2.1 114) j = (fun _ => (0 : Int32)) j := fun j hj => by rw [m3 j hj, if_pos (Nat.zero_le _)]
  have Ea : yB_E h0 ha := fun a h1 h2 => by rw [ea]; exact E a h1 h2
  obtain ⟨h3, p1, p2, p3⟩ := yB_CA C n0 n16 h8 hK (fun j hj => (eK j hj).1) (fun j hj z => (hP j hj z).1) nb 0 zF (fun _ => 0) h2 (by omega) (by omega) (yB_Ef Ea f2) ((f2.1 _ _ List.not_mem_nil).trans ((fa.1 _ _ (by decide)).trans eB)) c2 (fun _ _ _ _ _ _ => rfl) (fun u hu => .inl ((b3 u (by omega)).trans (if_pos (Nat.zero_le _))))
  obtain ⟨g2, q1, q2, q3⟩ := yB_MA C h8 hK.2 (fun j hj => (eK j hj).2) nb 0 zF (fun _ => 0) g1 (by omega) (by omega) n16 (yB_ef e m2) (fun j hj z => (hP j hj z).2) d2
  have cc : ∀ j, j < 8192 → (h3.2.1 62) j = (g2.2.1 114) j := fun j hj => (p3 j hj).trans (q3 j hj).symm
  have F3 : zfr [(58, 4)] [62, 65] [] h h3 := zfr_trans (zfr_w fa (by decide) (by decide) (by decide)) (zfr_w (zfr_trans f2 p2) (by decide) (by decide) (by decide))
  have G2 : zfr [] [114] [] g g2 := zfr_trans m2 q2
  have io3 : yY_io h3 g2 := fun i hi => by
    rw [F3.2.1 59 (by decide), F3.2.1 60 (by decide), F3.2.1 61 (by decide), G2.2.1 118 (by decide), G2.2.1 119 (by decide), G2.2.1 120 (by decide)]
    exact io i hi
  obtain ⟨h4, g4, r1, r2, r3, r4, r5⟩ := yY_pubS io3
  have s3 : (h3.1 58 4) = 0 := (p2.1 _ _ List.not_mem_nil).trans ((f2.1 _ _ List.not_mem_nil).trans (by rw [ea]; rfl))
  refine ⟨h4, zs_uF g4 68 86 0, ?_, ?_, zfr_trans (zfr_w F3 (by decide) (by decide) (by decide)) (zfr_w r3 (by decide) (by decide) (by decide)), zfr_F (by decide) (zfr_trans (zfr_w G2 (by decide) (by decide) (by decide)) (zfr_w r4 (by decide) (by decide) (by decide))), fun j hj => ?_, ?_, ?_, (r3.1 _ _ List.not_mem_nil).trans s3, rfl⟩
  · unfold f_Mc_beginAnew f_Ar_fill_c62 f_Ar_fill_c65
    rw [← ea, show f_Ar_fill_c62_L5 zF ha 0 0 8192 = some h1 from a1, Option.bind_some, show f_Ar_fill_c65_L5 zF h1 (-1) 0 16 = some h2 from b1, Option.bind_some, show f_Mc_beginAnew_L24 zF h2 9 = _ from p1, r1]
    rfl
  · unfold f_Mo_anew f_Mo_fillAll
    rw [show f_Mo_fillAll_L2 zF g 0 = _ from m1, show f_Mo_fillAll_L24 zF g1 0 = some g2 from q1, Option.bind_some, r2, Option.bind_some]
  · rw [r3.2.1 _ (by decide)]
    exact (cc j hj).trans (by show _ = (g4.2.1 114) j; rw [r4.2.1 _ (by decide)])
  · have A := fun LD => yB_Aj (LD := LD) C n0 hK nb 0 (fun _ => 0) (by omega) (fun u _ _ j _ => .inl rfl)
    have e0 : yB_l X K nb (nb - 1) = 0 := by
      unfold yB_l
      rw [if_neg (by rw [hK.1]; decide)]
    refine ⟨fun j hj => ?_, fun LD => ⟨fun j hj => ?_, fun w hw hk j hj => ?_⟩⟩
    · left
      have hj' := yq_Y C (show nb - 1 < nb by omega) hj
      have kB := (C.2.2 (nb - 1) (by omega)).1
      show (g4.2.1 114) (0 + j) = 0
      rw [r4.2.1 _ (by decide), q3 (0 + j) (by omega)]
      exact yB_Ag C n0 hK hj nb 0 (fun _ => 0) (by omega)
    · have hx := yq_bX C (show nb - 1 < nb by omega) hj
      have lb := yB_lb (X := X) h8 hK.2 (show nb - 1 < nb by omega) (by rw [hK.1]; decide)
      show yJ_01 ((g4.2.1 114) (0 + j))
      rw [r4.2.1 _ (by decide), q3 (0 + j) (by omega)]
      have := A LD (nb - 1) (by omega) (by rw [hK.1]; decide) j hj
      rwa [e0] at this
    · have hw' : w < nb := by omega
      have hx := yq_bX C hw' hj
      have k1 : K w = 1 := by
        have e : nI (K w) = 1 := (eK w hw').1.symm.trans hk
        have := (hK.2 w hw').1
        exact (zc_eq (k := 1) (by decide) (by omega)).mp e
      have lb := yB_lb (X := X) h8 hK.2 hw' (by omega)
      have el : yB_l X K nb w = yh_pl X K (X (nb - 1)) w := if_pos k1
      show yJ_01 ((g4.2.1 114) (yh_pl X K (X (nb - 1)) w + j))
      rw [r4.2.1 _ (by decide), ← el, q3 _ (by omega)]
      exact A LD w hw' (by omega) j hj
  · exact r5
end YBR
end
section
/-! Small calls, on both sides. -/
section YZC
variable {h g h' g' : zs_H} {J : (Nat → Int32) → Prop}
theorem yZ_t3 : ∀ a, a < 6 → zt_3.getD a 0 = nI ([0, 256, 512, 768, 832, 896, 960].getD a 0) ∧ zt_3.getD (a + 1) 0 - zt_3.getD a 0 = (if a < 3 then 256 else 64) := by decide
theorem yZ_nb (x : Int32) : x.toNatClampNeg < 2147483648 := by
  show x.toInt.toNat < _
  have := Int32.toInt_lt x
  omega
theorem yZ_nn {x : Int32} {k : Nat} (h1 : ¬ x < 0) (h2 : ¬ nI k < x) (hk : k < 2147483648) : ∃ a, a ≤ k ∧ x = nI a := by
  have e := zi_nn h1
  refine ⟨x.toNatClampNeg, Nat.not_lt.mp (fun z => h2 ?_), e.symm⟩
  rw [← e]
  exact (nI_ltI hk (yZ_nb x)).mpr z
/-- places -/
theorem yZ_pl (x1 x2 : Int32) : (f_Pk_isPlace x1 x2 = some 0 ∧ f_Mo_noPlace x1 x2 = 1) ∨ ∃ a i, a < 6 ∧ i < (if a < 3 then 256 else 64) ∧ x1 = nI a ∧ x2 = nI i ∧ f_Pk_isPlace x1 x2 = some 1 ∧ f_Mo_noPlace x1 x2 = 0 := by
  unfold f_Pk_isPlace f_Mo_noPlace f_Mo_noPlace_27
  by_cases z1 : x1 < 0
  · rw [if_pos z1, if_pos z1]; exact .inl ⟨rfl, rfl⟩
  rw [if_neg z1, if_neg z1]
  by_cases z2 : 5 < x1
  · rw [if_pos z2, if_pos z2]; exact .inl ⟨rfl, rfl⟩
  rw [if_neg z2, if_neg z2]
  by_cases z3 : x2 < 0
  · rw [if_pos z3, if_pos z3]; exact .inl ⟨rfl, rfl⟩
  rw [if_neg z3, if_neg z3]
  obtain ⟨a, ha, rfl⟩ := yZ_nn (k := 5) z1 z2 (by decide)
  obtain ⟨i, hi, rfl⟩ : ∃ i, i < 2147483648 ∧ x2 = nI i := ⟨x2.toNatClampNeg, yZ_nb x2, (zi_nn z3).symm⟩
  obtain ⟨t1, t2⟩ := yZ_t3 a (by omega)
  have e3 : ((3 : Int32) ≤ nI a) ↔ 3 ≤ a := zc_le (k := 3) (by decide) (by omega)
  have e64 : (nI i < (64 : Int32)) ↔ i < 64 := zc_tl (k := 64) (by decide) (by omega)
  have e256 : (nI i < (256 : Int32)) ↔ i < 256 := zc_tl (k := 256) (by decide) (by omega)
  have l64 : ((64 : Int32) ≤ nI i) ↔ 64 ≤ i := zc_le (k := 64) (by decide) (by omega)
  have l256 : ((256 : Int32) ≤ nI i) ↔ 256 ≤ i := zc_le (k := 256) (by decide) (by omega)
  simp only [show nI a + 1 = nI (a + 1) from zc_ad 1 a, if_pos (zi_in (show a + 1 < 2147483648 by omega) (show a + 1 < 7 by omega)), if_pos (zi_in (show a < 2147483648 by omega) (show a < 7 by omega)), nI_clamp (show a + 1 < 2147483648 by omega), nI_clamp (show a < 2147483648 by omega), t2, e3]
  by_cases y : a < 3
  · rw [if_pos y, if_neg (show ¬ 3 ≤ a by omega)]
    by_cases w : i < 256
    · refine .inr ⟨a, i, by omega, by rw [if_pos y]; exact w, rfl, rfl, ?_, ?_⟩
      · rw [if_neg (mt l256.mp (by omega))]
      · rw [if_pos (e256.mpr w)]
    · left
      rw [if_pos (l256.mpr (by omega)), if_neg (mt e256.mp w)]
      exact ⟨rfl, rfl⟩
  · rw [if_neg y, if_pos (show 3 ≤ a by omega)]
    by_cases w : i < 64
    · refine .inr ⟨a, i, by omega, by rw [if_neg y]; exact w, rfl, rfl, ?_, ?_⟩
      · rw [if_neg (mt l64.mp (by omega))]
      · rw [if_pos (e64.mpr w)]
    · left
      rw [if_pos (l64.mpr (by omega)), if_neg (mt e64.mp w)]
      exact ⟨rfl, rfl⟩
theorem yZ_va (x1 x3 : Int32) : (f_Pk_isValue x1 x3 = 0 ∧ f_Mo_noValue x1 x3 = 1) ∨ (f_Pk_isValue x1 x3 = 1 ∧ f_Mo_noValue x1 x3 = 0 ∧ (¬ 3 ≤ x1 → yJ_01 x3)) := by
  unfold f_Pk_isValue f_Mo_noValue
  by_cases z : 3 ≤ x1
  · rw [if_pos z, if_pos z]
    by_cases y : x3 < -32768
    · rw [if_pos y, if_pos y]; exact .inl ⟨rfl, rfl⟩
    rw [if_neg y, if_neg y]
    by_cases w : x3 ≤ 32767
    · rw [if_pos w, if_neg (Int32.not_lt.mpr w)]; exact .inr ⟨rfl, rfl, fun q => absurd z q⟩
    · rw [if_neg w, if_pos (Int32.not_le.mp w)]; exact .inl ⟨rfl, rfl⟩
  · rw [if_neg z, if_neg z]
    by_cases y : x3 = 0
    · rw [if_pos y, y]; exact .inr ⟨rfl, by decide, fun _ => .inl rfl⟩
    rw [if_neg y]
    by_cases w : x3 = 1
    · rw [if_pos w, w]; exact .inr ⟨rfl, by decide, fun _ => .inr rfl⟩
    rw [if_neg w]
    left
    refine ⟨rfl, ?_⟩
    by_cases v : x3 < 0
    · rw [if_pos v]
    rw [if_neg v]
    by_cases u : x3 ≤ 1
    · exfalso
      obtain ⟨a, ha, e⟩ := yZ_nn (x := x3) (k := 1) v (Int32.not_lt.mpr u) (by decide)
      have : a = 0 ∨ a = 1 := by omega
      rcases this with q | q
      · exact y (by rw [e, q]; rfl)
      · exact w (by rw [e, q]; rfl)
    · rw [if_neg u]
/-- a place of inputs or outputs, on both sides -/
theorem yZ_sp {a i : Nat} (ha : a < 6) (hi : i < (if a < 3 then 256 else 64)) : f_Mo_spot (nI a) (nI i) = nI (if a < 3 then i else 256 + i) ∧ zt_3.getD a 0 + nI i = nI ([0, 256, 512, 768, 832, 896, 960].getD a 0 + i) := by
  refine ⟨?_, by rw [(yZ_t3 a ha).1, nI_add]⟩
  unfold f_Mo_spot
  have e3 : ((3 : Int32) ≤ nI a) ↔ 3 ≤ a := zc_le (k := 3) (by decide) (by omega)
  by_cases y : a < 3
  · rw [if_neg (mt e3.mp (by omega)), if_pos y]
  · rw [if_pos (e3.mpr (by omega)), if_neg y]; exact zc_da 256 i
theorem yZ_inj {i j : Nat} : yY_in i = yY_in j → i < 320 → j < 320 → i = j := by
  unfold yY_in
  split <;> split <;> omega
theorem yZ_onj {i j : Nat} : yY_ou i = yY_ou j → i < 320 → j < 320 → i = j := by
  unfold yY_ou
  split <;> split <;> omega
theorem yZ_given {s : Nat} {v : Int32} (hs : s < 320) (hv : s < 256 → yJ_01 v) (io : yY_io h g) : yY_io (zs_uM h 59 (yY_in s) v) (zs_uM g 118 s v) := fun i hi => by
  refine ⟨⟨zu_MM.trans (Eq.trans ?_ zu_MM.symm), (zu_MM.trans (if_neg fun z => absurd z.1 (by decide))).trans ((io i hi).1.2.1.trans (zu_MM.trans (if_neg fun z => absurd z.1 (by decide))).symm), (zu_MM.trans (if_neg fun z => absurd z.1 (by decide))).trans ((io i hi).1.2.2.trans (zu_MM.trans (if_neg fun z => absurd z.1 (by decide))).symm)⟩, fun h2 => ⟨?_, ?_, ?_⟩⟩
  · by_cases z : i = s
    · rw [if_pos ⟨rfl, by rw [z]⟩, if_pos ⟨rfl, z⟩]
    · rw [if_neg (fun w => z (yZ_inj w.2 hi hs)), if_neg (fun w => z w.2)]; exact (io i hi).1.1
  · rw [show ((zs_uM g 118 s v).2.1 118) i = (if i = s then v else (g.2.1 118) i) from zu_MM.trans (by
      by_cases z : i = s
      · rw [if_pos ⟨rfl, z⟩, if_pos z]
      · rw [if_neg (fun w => z w.2), if_neg z])]
    split
    · rename_i z; exact hv (by omega)
    · exact ((io i hi).2 h2).1
  · rw [show ((zs_uM g 118 s v).2.1 119) i = (g.2.1 119) i from zu_MM.trans (if_neg fun z => absurd z.1 (by decide))]; exact ((io i hi).2 h2).2.1
  · rw [show ((zs_uM g 118 s v).2.1 120) i = (g.2.1 120) i from zu_MM.trans (if_neg fun z => absurd z.1 (by decide))]; exact ((io i hi).2 h2).2.2
theorem yZ_safeU {s : Nat} {v : Int32} (hs : s < 320) (hv : s < 256 → yJ_01 v) (io : yY_io h g) : yY_io (zs_uM h 61 (yY_ou s) v) (zs_uM g 120 s v) := fun i hi => by
  refine ⟨⟨(zu_MM.trans (if_neg fun z => absurd z.1 (by decide))).trans ((io i hi).1.1.trans (zu_MM.trans (if_neg fun z => absurd z.1 (by decide))).symm), (zu_MM.trans (if_neg fun z => absurd z.1 (by decide))).trans ((io i hi).1.2.1.trans (zu_MM.trans (if_neg fun z => absurd z.1 (by decide))).symm), zu_MM.trans (Eq.trans ?_ zu_MM.symm)⟩, fun h2 => ⟨?_, ?_, ?_⟩⟩
  · by_cases z : i = s
    · rw [if_pos ⟨rfl, by rw [z]⟩, if_pos ⟨rfl, z⟩]
    · rw [if_neg (fun w => z (yZ_onj w.2 hi hs)), if_neg (fun w => z w.2)]; exact (io i hi).1.2.2
  · rw [show ((zs_uM g 120 s v).2.1 118) i = (g.2.1 118) i from zu_MM.trans (if_neg fun z => absurd z.1 (by decide))]; exact ((io i hi).2 h2).1
  · rw [show ((zs_uM g 120 s v).2.1 119) i = (g.2.1 119) i from zu_MM.trans (if_neg fun z => absurd z.1 (by decide))]; exact ((io i hi).2 h2).2.1
  · rw [show ((zs_uM g 120 s v).2.1 120) i = (if i = s then v else (g.2.1 120) i) from zu_MM.trans (by
      by_cases z : i = s
      · rw [if_pos ⟨rfl, z⟩, if_pos z]
      · rw [if_neg (fun w => z w.2), if_neg z])]
    split
    · rename_i z; exact hv (by omega)
    · exact ((io i hi).2 h2).2.2
/-- what a cell of the memory's becomes does no harm -/
def yZ_k (J : (Nat → Int32) → Prop) (h g : zs_H) : Prop := (h.1 58 3) = 1 → (∀ j, j < 8192 → (h.2.1 62) j = (g.2.1 114) j) ∧ J ((g.2.1 114)) ∧ ∀ c c', J c → yJ_9 c c' → J c'
theorem yZ_mem {p : Nat} {v : Int32} (hp : p < 960) (hv : p < 768 → yJ_01 v) (kk : yZ_k J h g) : yZ_k J (zs_uM h 62 p v) (zs_uM g 114 p v) := fun l => by
  obtain ⟨k1, k2, k3⟩ := kk l
  have e : ∀ j, ((zs_uM g 114 p v).2.1 114) j = if j = p then v else (g.2.1 114) j := fun j => zu_MM.trans (by
    by_cases z : j = p
    · rw [if_pos ⟨rfl, z⟩, if_pos z]
    · rw [if_neg (fun w => z w.2), if_neg z])
  refine ⟨fun j hj => ?_, k3 _ _ k2 ⟨fun j hj => ?_, fun j hj => ?_⟩, k3⟩
  · rw [e j]
    refine zu_MM.trans ?_
    by_cases z : j = p
    · rw [if_pos ⟨rfl, z⟩, if_pos z]
    · rw [if_neg (fun w => z w.2), if_neg z]; exact k1 j hj
  · rw [e, if_neg (by omega)]
  · rw [e]
    by_cases z : j = p
    · rw [if_pos z]; exact .inr (hv (by omega))
    · rw [if_neg z]; exact .inl rfl
/-- put, and what a request writes -/
theorem yZ_chg {a i : Nat} (v : Int32) (ha : a = 0 ∨ a = 2 ∨ a = 3 ∨ a = 5) (hi : i < (if a < 3 then 256 else 64)) (hv : a < 3 → yJ_01 v) (io : yY_io h g) (el : (h.1 58 3) = (g.1 68 82)) (kk : yZ_k J h g) : ∃ v' h' g', f_Mc_change h (nI a) (nI i) v = some (v', h') ∧ (if a = 0 ∨ a = 3 then f_Mo_put_37 g (nI a) (nI i) v else if (g.1 68 82) = 0 then some (-5, g) else if a = 2 then f_Mo_put_82 g v (512 + nI i) else f_Mo_put_82 g v (896 + nI i)) = some (v', g') ∧ zfr [] [59, 62] [] h h' ∧ zfr [] [114, 118] [] g g' ∧ yY_io h' g' ∧ yZ_k J h' g' := by
  obtain ⟨s1, s2⟩ := yZ_sp (show a < 6 by omega) hi
  have mem : ∀ p, p < 960 → yY_io (zs_uM h 62 p v) (zs_uM g 114 p v) := fun p _ k hk => ⟨⟨(zu_MM.trans (if_neg fun z => absurd z.1 (by decide))).trans ((io k hk).1.1.trans (zu_MM.trans (if_neg fun z => absurd z.1 (by decide))).symm), (zu_MM.trans (if_neg fun z => absurd z.1 (by decide))).trans ((io k hk).1.2.1.trans (zu_MM.trans (if_neg fun z => absurd z.1 (by decide))).symm), (zu_MM.trans (if_neg fun z => absurd z.1 (by decide))).trans ((io k hk).1.2.2.trans (zu_MM.trans (if_neg fun z => absurd z.1 (by decide))).symm)⟩, fun h2 => by
    rw [show ((zs_uM g 114 p v).2.1 118) k = (g.2.1 118) k from zu_MM.trans (if_neg fun z => absurd z.1 (by decide)), show ((zs_uM g 114 p v).2.1 119) k = (g.2.1 119) k from zu_MM.trans (if_neg fun z => absurd z.1 (by decide)), show ((zs_uM g 114 p v).2.1 120) k = (g.2.1 120) k from zu_MM.trans (if_neg fun z => absurd z.1 (by decide))]
    exact (io k hk).2 h2⟩
  have giv : ∀ s, s < 320 → yZ_k J (zs_uM h 59 (yY_in s) v) (zs_uM g 118 s v) := fun s _ l => by
    obtain ⟨k1, k2, k3⟩ := kk l
    have e : ((zs_uM g 118 s v).2.1 114) = (g.2.1 114) := by
      funext j
      exact zu_MM.trans (if_neg fun z => absurd z.1 (by decide))
    rw [e]
    exact ⟨fun j hj => (zu_MM.trans (if_neg fun z => absurd z.1 (by decide))).trans (k1 j hj), k2, k3⟩
  unfold f_Mc_change f_Mc_change_18 f_Mo_put_37 f_Mo_put_82
  rcases ha with e | e | e | e <;> subst e
  · have hi' : i < 256 := hi
    have s2' : zt_3.getD 0 0 + nI i = nI (0 + i) := s2
    have s1' : f_Mo_spot (nI 0) (nI i) = nI i := s1
    refine ⟨0, _, _, ?_, ?_, zfr_M (by decide) zfr_rfl, zfr_M (by decide) zfr_rfl, yZ_given (s := i) (v := v) (by omega) (fun _ => hv (by decide)) io, giv i (by omega)⟩
    · rw [if_pos (zi_in (by decide) (by decide)), if_pos (show (nI 0 : Int32) = 0 from rfl), nI_clamp (n := 0) (by decide), s2', if_pos (zi_in (by omega) (by omega)), nI_clamp (n := 0 + i) (by omega), Nat.zero_add, show yY_in i = i from if_pos hi']
    · rw [if_pos (.inl rfl), s1', if_pos (zi_in (by omega) (by omega)), nI_clamp (n := i) (by omega)]
  · have hi' : i < 256 := hi
    have s2' : zt_3.getD 2 0 + nI i = nI (512 + i) := s2
    rw [if_pos (zi_in (by decide) (by decide)), if_neg (show ¬ (nI 2 : Int32) = 0 by decide), if_neg (show ¬ (nI 2 : Int32) = 3 by decide), nI_clamp (n := 2) (by decide), s2', el, if_neg (show ¬ ((2 : Nat) = 0 ∨ (2 : Nat) = 3) by decide), if_pos (show (2 : Nat) = 2 from rfl), show (512 : Int32) + nI i = nI (512 + i) from zc_da 512 i, if_pos (zi_in (a := 512 + i) (by omega) (by omega)), if_pos (zi_in (a := 512 + i) (by omega) (by omega)), nI_clamp (n := 512 + i) (by omega)]
    by_cases z : (g.1 68 82) = 0
    · rw [if_pos z, if_pos z]
      exact ⟨-5, h, g, rfl, rfl, zfr_rfl, zfr_rfl, io, kk⟩
    · rw [if_neg z, if_neg z]
      exact ⟨0, _, _, rfl, rfl, zfr_M (by decide) zfr_rfl, zfr_M (by decide) zfr_rfl, mem _ (by omega), yZ_mem (by omega) (fun _ => hv (by decide)) kk⟩
  · have hi' : i < 64 := hi
    have s2' : zt_3.getD 3 0 + nI i = nI (768 + i) := s2
    have s1' : f_Mo_spot (nI 3) (nI i) = nI (256 + i) := s1
    refine ⟨0, _, _, ?_, ?_, zfr_M (by decide) zfr_rfl, zfr_M (by decide) zfr_rfl, yZ_given (s := 256 + i) (v := v) (by omega) (fun q => absurd q (by omega)) io, giv (256 + i) (by omega)⟩
    · rw [if_pos (zi_in (by decide) (by decide)), if_neg (show ¬ (nI 3 : Int32) = 0 by decide), if_pos (show (nI 3 : Int32) = 3 from rfl), nI_clamp (n := 3) (by decide), s2', if_pos (zi_in (by omega) (by omega)), nI_clamp (n := 768 + i) (by omega), show yY_in (256 + i) = 512 + (256 + i) from if_neg (by omega), show 512 + (256 + i) = 768 + i by omega]
    · rw [if_pos (.inr rfl), s1', if_pos (zi_in (by omega) (by omega)), nI_clamp (n := 256 + i) (by omega)]
  · have hi' : i < 64 := hi
    have s2' : zt_3.getD 5 0 + nI i = nI (896 + i) := s2
    rw [if_pos (zi_in (by decide) (by decide)), if_neg (show ¬ (nI 5 : Int32) = 0 by decide), if_neg (show ¬ (nI 5 : Int32) = 3 by decide), nI_clamp (n := 5) (by decide), s2', el, if_neg (show ¬ ((5 : Nat) = 0 ∨ (5 : Nat) = 3) by decide), if_neg (show ¬ (5 : Nat) = 2 by decide), show (896 : Int32) + nI i = nI (896 + i) from zc_da 896 i, if_pos (zi_in (a := 896 + i) (by omega) (by omega)), if_pos (zi_in (a := 896 + i) (by omega) (by omega)), nI_clamp (n := 896 + i) (by omega)]
    by_cases z : (g.1 68 82) = 0
    · rw [if_pos z, if_pos z]
      exact ⟨-5, h, g, rfl, rfl, zfr_rfl, zfr_rfl, io, kk⟩
    · rw [if_neg z, if_neg z]
      exact ⟨0, _, _, rfl, rfl, zfr_M (by decide) zfr_rfl, zfr_M (by decide) zfr_rfl, mem _ (by omega), yZ_mem (by omega) (fun q => absurd q (by omega)) kk⟩
theorem yZ_put (x1 x2 x3 : Int32) (io : yY_io h g) (el : (h.1 58 3) = (g.1 68 82)) (kk : yZ_k J h g) : ∃ v' h' g', f_Pk_put h x1 x2 x3 = some (v', h') ∧ f_Mo_put g x1 x2 x3 = some (v', g') ∧ zfr [] [59, 62] [] h h' ∧ zfr [] [114, 118] [] g g' ∧ yY_io h' g' ∧ yZ_k J h' g' := by
  have no : ∃ v' h' g', some ((-1 : Int32), h) = some (v', h') ∧ some ((-1 : Int32), g) = some (v', g') ∧ zfr [] [59, 62] [] h h' ∧ zfr [] [114, 118] [] g g' ∧ yY_io h' g' ∧ yZ_k J h' g' := ⟨-1, h, g, rfl, rfl, zfr_rfl, zfr_rfl, io, kk⟩
  unfold f_Pk_put f_Mo_put
  rcases yZ_pl x1 x2 with ⟨e1, e2⟩ | ⟨a, i, ha, hi, rfl, rfl, e1, e2⟩
  · rw [e1, e2, Option.bind_some, if_pos rfl, if_neg (show ¬ (1 : Int32) = 0 by decide)]
    exact no
  rw [e1, e2, Option.bind_some, if_neg (show ¬ (1 : Int32) = 0 by decide), if_pos rfl]
  have q : ∀ k : Fin 6, (nI a = nI k.1) ↔ a = k.1 := fun k => nI_eq (by omega) (by omega)
  have q1 : (nI a = 1) ↔ a = 1 := q 1
  have q4 : (nI a = 4) ↔ a = 4 := q 4
  have q0 : (nI a = 0) ↔ a = 0 := q 0
  have q3 : (nI a = 3) ↔ a = 3 := q 3
  have q2 : (nI a = 2) ↔ a = 2 := q 2
  simp only [q0, q1, q2, q3, q4]
  rcases yZ_va (nI a) x3 with ⟨e3, e4⟩ | ⟨e3, e4, e5⟩
  · rw [e3, e4, if_neg (show ¬ (1 : Int32) = 0 by decide)]
    simp only [if_true, ite_self]
    exact no
  · rw [e3, e4, if_pos rfl]
    by_cases z1 : a = 1
    · rw [if_pos z1, if_pos z1]; exact no
    rw [if_neg z1, if_neg z1]
    by_cases z4 : a = 4
    · rw [if_pos z4, if_pos z4]; exact no
    rw [if_neg z4, if_neg z4, if_neg (show ¬ (1 : Int32) = 0 by decide)]
    obtain ⟨v', h', g', b1, b2, b3⟩ := yZ_chg (J := J) x3 (show a = 0 ∨ a = 2 ∨ a = 3 ∨ a = 5 by omega) hi (fun q => e5 (mt (zc_le (k := 3) (by decide) (by omega)).mp (by omega))) io el kk
    refine ⟨v', h', g', by rw [b1]; rfl, ?_, b3⟩
    rw [← b2]
    by_cases z0 : a = 0
    · rw [if_pos z0, if_pos (.inl z0)]
    · rw [if_neg z0]
      by_cases z3 : a = 3
      · rw [if_pos z3, if_pos (.inr z3)]
      · rw [if_neg z3, if_neg (show ¬ (a = 0 ∨ a = 3) from fun w => w.elim z0 z3)]
/-- what is seen at a place -/
theorem yZ_see {a i : Nat} (ha : a < 6) (hi : i < (if a < 3 then 256 else 64)) (io : yY_io h g) (kc : a = 2 ∨ a = 5 → ∀ j, j < 8192 → (h.2.1 62) j = (g.2.1 114) j) : f_Mc_seen h (nI a) (nI i) = (if a = 0 ∨ a = 3 then f_Mo_get_19 g (nI a) (nI i) else if a = 1 ∨ a = 4 then f_Mo_get_50 g (nI a) (nI i) else if a = 2 then f_Mo_get_85 g (512 + nI i) else f_Mo_get_85 g (896 + nI i)) ∧ ∃ v, f_Mc_seen h (nI a) (nI i) = some v := by
  obtain ⟨s1, s2⟩ := yZ_sp ha hi
  have a6 : a = 0 ∨ a = 1 ∨ a = 2 ∨ a = 3 ∨ a = 4 ∨ a = 5 := by omega
  unfold f_Mc_seen f_Mc_seen_18 f_Mc_seen_35 f_Mo_get_19 f_Mo_get_50 f_Mo_get_85
  rcases a6 with e | e | e | e | e | e <;> subst e
  · have hi' : i < 256 := hi
    have s2' : zt_3.getD 0 0 + nI i = nI (0 + i) := s2
    have s1' : f_Mo_spot (nI 0) (nI i) = nI i := s1
    have := (io i (by omega)).1.1
    rw [show yY_in i = i from if_pos hi'] at this
    rw [if_pos (zi_in (by decide) (by decide)), if_neg (show ¬ (nI 0 : Int32) = 2 by decide), if_neg (show ¬ (nI 0 : Int32) = 5 by decide), if_neg (show ¬ (nI 0 : Int32) = 1 by decide), if_neg (show ¬ (nI 0 : Int32) = 4 by decide), nI_clamp (n := 0) (by decide), s2', Nat.zero_add, if_pos (zi_in (by omega) (by omega)), nI_clamp (n := i) (by omega), if_pos (.inl rfl), s1', if_pos (zi_in (by omega) (by omega)), nI_clamp (n := i) (by omega), this]
    exact ⟨rfl, _, rfl⟩
  · have hi' : i < 256 := hi
    have s2' : zt_3.getD 1 0 + nI i = nI (256 + i) := s2
    have s1' : f_Mo_spot (nI 1) (nI i) = nI i := s1
    have := (io i (by omega)).1.2.1
    rw [show yY_ou i = 256 + i from if_pos hi'] at this
    rw [if_pos (zi_in (by decide) (by decide)), if_neg (show ¬ (nI 1 : Int32) = 2 by decide), if_neg (show ¬ (nI 1 : Int32) = 5 by decide), if_pos (show (nI 1 : Int32) = 1 from rfl), nI_clamp (n := 1) (by decide), s2', if_pos (zi_in (by omega) (by omega)), nI_clamp (n := 256 + i) (by omega), if_neg (show ¬ ((1 : Nat) = 0 ∨ (1 : Nat) = 3) by decide), if_pos (.inl rfl), s1', if_pos (zi_in (by omega) (by omega)), nI_clamp (n := i) (by omega), this]
    exact ⟨rfl, _, rfl⟩
  · have hi' : i < 256 := hi
    have s2' : zt_3.getD 2 0 + nI i = nI (512 + i) := s2
    rw [if_pos (zi_in (by decide) (by decide)), if_pos (show (nI 2 : Int32) = 2 from rfl), nI_clamp (n := 2) (by decide), s2', if_pos (zi_in (by omega) (by omega)), nI_clamp (n := 512 + i) (by omega), if_neg (show ¬ ((2 : Nat) = 0 ∨ (2 : Nat) = 3) by decide), if_neg (show ¬ ((2 : Nat) = 1 ∨ (2 : Nat) = 4) by decide), if_pos (show (2 : Nat) = 2 from rfl), show (512 : Int32) + nI i = nI (512 + i) from zc_da 512 i, if_pos (zi_in (by omega) (by omega)), nI_clamp (n := 512 + i) (by omega), kc (.inl rfl) _ (by omega)]
    exact ⟨rfl, _, rfl⟩
  · have hi' : i < 64 := hi
    have s2' : zt_3.getD 3 0 + nI i = nI (768 + i) := s2
    have s1' : f_Mo_spot (nI 3) (nI i) = nI (256 + i) := s1
    have := (io (256 + i) (by omega)).1.1
    rw [show yY_in (256 + i) = 512 + (256 + i) from if_neg (by omega), show 512 + (256 + i) = 768 + i by omega] at this
    rw [if_pos (zi_in (by decide) (by decide)), if_neg (show ¬ (nI 3 : Int32) = 2 by decide), if_neg (show ¬ (nI 3 : Int32) = 5 by decide), if_neg (show ¬ (nI 3 : Int32) = 1 by decide), if_neg (show ¬ (nI 3 : Int32) = 4 by decide), nI_clamp (n := 3) (by decide), s2', if_pos (zi_in (by omega) (by omega)), nI_clamp (n := 768 + i) (by omega), if_pos (.inr rfl), s1', if_pos (zi_in (by omega) (by omega)), nI_clamp (n := 256 + i) (by omega), this]
    exact ⟨rfl, _, rfl⟩
  · have hi' : i < 64 := hi
    have s2' : zt_3.getD 4 0 + nI i = nI (832 + i) := s2
    have s1' : f_Mo_spot (nI 4) (nI i) = nI (256 + i) := s1
    have := (io (256 + i) (by omega)).1.2.1
    rw [show yY_ou (256 + i) = 576 + (256 + i) from if_neg (by omega), show 576 + (256 + i) = 832 + i by omega] at this
    rw [if_pos (zi_in (by decide) (by decide)), if_neg (show ¬ (nI 4 : Int32) = 2 by decide), if_neg (show ¬ (nI 4 : Int32) = 5 by decide), if_neg (show ¬ (nI 4 : Int32) = 1 by decide), if_pos (show (nI 4 : Int32) = 4 from rfl), nI_clamp (n := 4) (by decide), s2', if_pos (zi_in (by omega) (by omega)), nI_clamp (n := 832 + i) (by omega), if_neg (show ¬ ((4 : Nat) = 0 ∨ (4 : Nat) = 3) by decide), if_pos (.inr rfl), s1', if_pos (zi_in (by omega) (by omega)), nI_clamp (n := 256 + i) (by omega), this]
    exact ⟨rfl, _, rfl⟩
  · have hi' : i < 64 := hi
    have s2' : zt_3.getD 5 0 + nI i = nI (896 + i) := s2
    rw [if_pos (zi_in (by decide) (by decide)), if_neg (show ¬ (nI 5 : Int32) = 2 by decide), if_pos (show (nI 5 : Int32) = 5 from rfl), nI_clamp (n := 5) (by decide), s2', if_pos (zi_in (by omega) (by omega)), nI_clamp (n := 896 + i) (by omega), if_neg (show ¬ ((5 : Nat) = 0 ∨ (5 : Nat) = 3) by decide), if_neg (show ¬ ((5 : Nat) = 1 ∨ (5 : Nat) = 4) by decide), if_neg (show ¬ (5 : Nat) = 2 by decide), show (896 : Int32) + nI i = nI (896 + i) from zc_da 896 i, if_pos (zi_in (by omega) (by omega)), nI_clamp (n := 896 + i) (by omega), kc (.inr rfl) _ (by omega)]
    exact ⟨rfl, _, rfl⟩
theorem yZ_get (x1 x2 : Int32) (io : yY_io h g) (el : (h.1 58 3) = (g.1 68 82)) (kc : ¬ (h.1 58 3) = 0 → ∀ j, j < 8192 → (h.2.1 62) j = (g.2.1 114) j) : ∃ v, f_Pk_get h x1 x2 = some v ∧ f_Mo_get g x1 x2 = some v := by
  unfold f_Pk_get f_Mo_get f_Pk_get_32
  rcases yZ_pl x1 x2 with ⟨e1, e2⟩ | ⟨a, i, ha, hi, rfl, rfl, e1, e2⟩
  · rw [e1, e2, Option.bind_some, if_pos rfl, if_neg (show ¬ (1 : Int32) = 0 by decide)]
    exact ⟨-1, rfl, rfl⟩
  rw [e1, e2, Option.bind_some, if_neg (show ¬ (1 : Int32) = 0 by decide), if_pos rfl, el]
  have q : ∀ k : Fin 6, (nI a = nI k.1) ↔ a = k.1 := fun k => nI_eq (by omega) (by omega)
  have q1 : (nI a = 1) ↔ a = 1 := q 1
  have q4 : (nI a = 4) ↔ a = 4 := q 4
  have q0 : (nI a = 0) ↔ a = 0 := q 0
  have q3 : (nI a = 3) ↔ a = 3 := q 3
  have q2 : (nI a = 2) ↔ a = 2 := q 2
  simp only [q0, q1, q2, q3, q4, Option.bind_fun_some]
  have fin : (a = 2 ∨ a = 5 → ∀ j, j < 8192 → (h.2.1 62) j = (g.2.1 114) j) → ∃ v, f_Mc_seen h (nI a) (nI i) = some v ∧ (if a = 0 ∨ a = 3 then f_Mo_get_19 g (nI a) (nI i) else if a = 1 ∨ a = 4 then f_Mo_get_50 g (nI a) (nI i) else if a = 2 then f_Mo_get_85 g (512 + nI i) else f_Mo_get_85 g (896 + nI i)) = some v := fun kc => by
    obtain ⟨b1, v, b2⟩ := yZ_see ha hi io kc
    exact ⟨v, b2, by rw [← b1]; exact b2⟩
  by_cases z0 : a = 0
  · obtain ⟨v, b1, b2⟩ := fin (fun z => by omega)
    rw [if_pos (.inl z0)] at b2
    refine ⟨v, ?_, by rw [if_pos z0]; exact b2⟩
    rw [if_pos z0]
    split <;> exact b1
  rw [if_neg z0, if_neg z0]
  by_cases z3 : a = 3
  · obtain ⟨v, b1, b2⟩ := fin (fun z => by omega)
    rw [if_pos (.inr z3)] at b2
    refine ⟨v, ?_, by rw [if_pos z3]; exact b2⟩
    rw [if_pos z3]
    split <;> exact b1
  rw [if_neg z3, if_neg z3]
  by_cases zl : (g.1 68 82) = 0
  · rw [if_pos zl, if_pos zl]
    exact ⟨-5, rfl, rfl⟩
  rw [if_neg zl, if_neg zl]
  obtain ⟨v, b1, b2⟩ := fin (fun _ => kc (by rw [el]; exact zl))
  rw [if_neg (show ¬ (a = 0 ∨ a = 3) from fun w => w.elim z0 z3)] at b2
  refine ⟨v, b1, ?_⟩
  rw [← b2]
  by_cases z1 : a = 1
  · rw [if_pos z1, if_pos (show a = 1 ∨ a = 4 from .inl z1)]
  rw [if_neg z1]
  by_cases z4 : a = 4
  · rw [if_pos z4, if_pos (show a = 1 ∨ a = 4 from .inr z4)]
  · rw [if_neg z4, if_neg (show ¬ (a = 1 ∨ a = 4) from fun w => w.elim z1 z4)]
theorem yZ_safe (x1 x2 x3 : Int32) (io : yY_io h g) : ∃ v' h' g', f_Pk_safe h x1 x2 x3 = some (v', h') ∧ f_Mo_safe g x1 x2 x3 = some (v', g') ∧ zfr [] [61] [] h h' ∧ zfr [] [120] [] g g' ∧ yY_io h' g' := by
  have no : ∃ v' h' g', some ((-1 : Int32), h) = some (v', h') ∧ some ((-1 : Int32), g) = some (v', g') ∧ zfr [] [61] [] h h' ∧ zfr [] [120] [] g g' ∧ yY_io h' g' := ⟨-1, h, g, rfl, rfl, zfr_rfl, zfr_rfl, io⟩
  have main : ∀ a, (a = 1 ∨ a = 4) → x1 = nI a → ∃ v' h' g', f_Pk_safe_10 h x1 x2 x3 = some (v', h') ∧ f_Mo_safe_10 g x1 x2 x3 = some (v', g') ∧ zfr [] [61] [] h h' ∧ zfr [] [120] [] g g' ∧ yY_io h' g' := by
    intro a ha e
    unfold f_Pk_safe_10 f_Mo_safe_10
    rcases yZ_pl x1 x2 with ⟨e1, e2⟩ | ⟨a', i, ha', hi, ea, rfl, e1, e2⟩
    · rw [e1, e2, Option.bind_some, if_pos rfl, if_neg (show ¬ (1 : Int32) = 0 by decide)]
      exact no
    have eq : a' = a := (nI_eq (by omega) (by omega)).mp (ea.symm.trans e)
    subst eq
    rw [e1, e2, Option.bind_some, if_neg (show ¬ (1 : Int32) = 0 by decide), if_pos rfl]
    rcases yZ_va x1 x3 with ⟨e3, e4⟩ | ⟨e3, e4, e5⟩
    · rw [e3, e4, if_pos rfl, if_neg (show ¬ (1 : Int32) = 0 by decide)]; exact no
    rw [e3, e4, if_pos rfl, if_neg (show ¬ (1 : Int32) = 0 by decide)]
    have e6 : a' = 1 → yJ_01 x3 := fun q => e5 (by rw [e, q]; decide)
    obtain ⟨s1, s2⟩ := yZ_sp ha' hi
    rw [e, s1, if_pos (zi_in (by omega) (by omega)), nI_clamp (n := a') (by omega), s2]
    rcases ha with z | z <;> subst z
    · have hi' : i < 256 := hi
      refine ⟨0, _, _, ?_, ?_, zfr_M (by decide) zfr_rfl, zfr_M (by decide) zfr_rfl, yZ_safeU (s := i) (v := x3) (by omega) (fun _ => e6 rfl) io⟩
      · show (if zd_in (nI (256 + i)) 960 then _ else _) = _
        rw [if_pos (zi_in (by omega) (by omega)), show yY_ou i = 256 + i from if_pos hi', show (nI ([0, 256, 512, 768, 832, 896, 960].getD 1 0 + i)).toNatClampNeg = 256 + i from nI_clamp (n := 256 + i) (by omega)]
      · show (if zd_in (nI i) 320 then _ else _) = _
        rw [if_pos (zi_in (by omega) (by omega)), show (nI (if 1 < 3 then i else 256 + i)).toNatClampNeg = i from nI_clamp (n := i) (by omega)]
    · have hi' : i < 64 := hi
      refine ⟨0, _, _, ?_, ?_, zfr_M (by decide) zfr_rfl, zfr_M (by decide) zfr_rfl, yZ_safeU (s := 256 + i) (v := x3) (by omega) (fun q => absurd q (by omega)) io⟩
      · show (if zd_in (nI (832 + i)) 960 then _ else _) = _
        rw [if_pos (zi_in (by omega) (by omega)), show yY_ou (256 + i) = 832 + i from (if_neg (by omega)).trans (by omega), show (nI ([0, 256, 512, 768, 832, 896, 960].getD 4 0 + i)).toNatClampNeg = 832 + i from nI_clamp (n := 832 + i) (by omega)]
      · show (if zd_in (nI (256 + i)) 320 then _ else _) = _
        rw [if_pos (zi_in (by omega) (by omega)), show (nI (if 4 < 3 then i else 256 + i)).toNatClampNeg = 256 + i from nI_clamp (n := 256 + i) (by omega)]
  unfold f_Pk_safe f_Mo_safe
  by_cases z1 : x1 = 1
  · rw [if_pos z1, if_pos z1]; exact main 1 (.inl rfl) z1
  rw [if_neg z1, if_neg z1]
  by_cases z4 : x1 = 4
  · rw [if_pos z4, if_pos z4]; exact main 4 (.inr rfl) z4
  rw [if_neg z4, if_neg z4]
  exact no
end YZC
end
section
/-! What was judged stays so when other fields of the model change. -/
section YZF
variable {LC LM : List (List Int32)} {s : Nat} {h g g' : zs_H}
abbrev yZ_q : List (Nat × Nat) := [(68, 31), (68, 80), (68, 81)]
theorem yZ_If {nb : Nat} {F : Nat → Nat} (I : zv_I LC LM nb nb (F nb) F (-1) h g) (f : zfr yZ_q [] [] g g') : zv_I LC LM nb nb (F nb) F (-1) h g' := by
  obtain ⟨HS, HB, HN, HV, HC, HT, HJ, J1, J2⟩ := I
  have G : g'.2.1 = g.2.1 := funext fun z => f.2.1 z List.not_mem_nil
  have k3 : g'.1 68 3 = g.1 68 3 := f.1 _ _ (by decide)
  have k29 : g'.1 68 29 = g.1 68 29 := f.1 _ _ (by decide)
  have k33 : g'.1 68 33 = g.1 68 33 := f.1 _ _ (by decide)
  have k41 : g'.1 68 41 = g.1 68 41 := f.1 _ _ (by decide)
  have k54 : g'.1 68 54 = g.1 68 54 := f.1 _ _ (by decide)
  refine ⟨?_, ?_, ?_, ?_, ?_, ?_, ?_, J1, k29.trans J2⟩
  · unfold zv_S zn_M at HS ⊢; simp only [G, k3]; exact HS
  · unfold zv_B at HB ⊢; simp only [G, k33, k41]; exact HB
  · unfold zv_N at HN ⊢; simp only [G]; exact HN
  · unfold zv_V zv_Q at HV ⊢; simp only [G]; exact HV
  · unfold zv_C at HC ⊢; rw [G]; exact HC
  · unfold zv_T at HT ⊢; simp only [G]; exact HT
  · simp only [k54]; exact HJ
theorem yZ_Kf {F : Nat → Nat} {sz b : Nat} {P Q : Nat → Prop} (hP : ∀ j, P j → j < 32784) (hF : ∀ j, j < b → F (j + 1) ≤ F (b + 1)) (K : yg_K LC LM F sz b P Q h g) (f : zfr yZ_q [] [] g g') : yg_K LC LM F sz b P Q h g' := by
  have G : ∀ z, g'.2.1 z = g.2.1 z := fun z => f.2.1 z List.not_mem_nil
  obtain ⟨Fb, i, k, c, kv, lb, a, bn, y, m, k1, ⟨i1, i2, i3, i4⟩, ⟨l1, l2, l3, Qm, q01, q02⟩, k4, a3, k6, y3, k8, k9, k10, k11⟩ := K
  refine ⟨Fb, i, k, c, kv, lb, a, bn, y, m, k1, ⟨i1, i2, i3, by rw [G]; exact i4⟩, ⟨by rw [G]; exact l1, l2, by rw [G]; exact l3, Qm, q01, zt_fr _ Qm Qm _ _ _ (fun i _ => ⟨fun kd k up z hz => by unfold zt_NM at hz ⊢; rw [G 72, G 73, G 74, G 75, G 77]; exact hz, by rw [G 76], by rw [G 78]⟩) (fun i hi => hi) q02⟩, k4, a3, ?_, y3, ?_, ?_, k10, by rw [G 73]; exact k11⟩
  · refine yb_Ff (h := h) (g := g) ⟨fun j hj => ⟨hP j hj, rfl, rfl, rfl, rfl, rfl⟩, fun j hj => ⟨by rw [G], fun _ _ => by rw [G], fun _ => by rw [G], by rw [G], by rw [G], by rw [G]⟩, fun j hj => ⟨rfl, rfl, rfl, rfl, rfl⟩, fun bq hbq => rfl, fun bq hbq => ?_⟩ _ _ _ _ _ k6
    rw [k1 _ (by omega), k1 _ (Nat.le_refl _)]
    exact hF bq hbq
  · exact yg_Gf (fun _ z => z) (G _) (G _) (G _) (fun j hj => ⟨fun _ _ => by rw [G], fun _ _ => by rw [G], fun _ _ => by rw [G]⟩) _ _ _ k8
  · exact yg_Gf (fun _ z => z) (G _) (G _) (G _) (fun j hj => ⟨fun _ _ => by rw [G], fun _ _ => by rw [G], fun _ _ => by rw [G]⟩) _ _ _ k9
theorem yZ_Zf (Z : yh_Z s LC LM h g) (f : zfr yZ_q [] [] g g') : yh_Z s LC LM h g' := by
  have G : ∀ z, g'.2.1 z = g.2.1 z := fun z => f.2.1 z List.not_mem_nil
  obtain ⟨nb, F, X, K, I, si, BK, TT, KK⟩ := Z
  refine ⟨nb, F, X, K, yZ_If I f, si, fun j hj => ?_, ?_, fun b hb => ?_⟩
  · obtain ⟨b1, b2, b3, b4⟩ := BK j hj
    exact ⟨b1, b2, by rw [G]; exact b3, by rw [G]; exact b4⟩
  · obtain ⟨t1, ⟨t2, t3, t4⟩, t5, t6, t7⟩ := TT
    exact ⟨t1, ⟨t2, (f.1 _ _ (by decide)).trans t3, t4⟩, fun j hj k => ⟨(t5 j hj k).1, by rw [G]; exact (t5 j hj k).2⟩, by rw [G]; exact t6, t7⟩
  · obtain ⟨Pb, Qb, p1, p2⟩ := KK b hb
    have hm := yh_mono (F := F) (nb := nb) (fun bq hbq => (I.2.1.2.2.2.1 bq hbq).1)
    refine ⟨Pb, Qb, p1, yZ_Kf p1 (fun j hj => ?_) p2 f⟩
    have := hm (b - j) (j + 1) (by omega)
    rwa [show j + 1 + (b - j) = b + 1 by omega] at this
end YZF
end
section
/-! A text is taken from the tape, on both sides. -/
theorem yL_lt {T : Nat → Int32} {n b : Nat} (h : (zl_tok T n b).1 = 1 ∨ (zl_tok T n b).1 = 2) : ¬ f_Mo_isLetter (zl_g T n (zl_tok T n b).2.1) = 0 := by
  have hfin : ∀ a v e, ¬ ((zl_fin T n a v e).1 = 1 ∨ (zl_fin T n a v e).1 = 2) := by
    intro a v e
    unfold zl_fin
    repeat' split
    all_goals simp
  revert h
  unfold zl_tok
  by_cases c : (zl_sk T n (n - b) b).2 = true
  · rw [if_pos c]
    generalize (zl_sk T n (n - b) b).1 = a
    unfold zl_tk
    by_cases c0 : n ≤ a
    · rw [if_pos c0]; intro h; simp at h
    rw [if_neg c0]
    by_cases c1 : zl_g T n a = 84 ∧ zl_b T n (a + 1) = 35
    · rw [if_pos c1]; intro h; exact absurd h (by unfold zl_tm; exact hfin _ _ _)
    rw [if_neg c1]
    by_cases c2 : ¬ f_Mo_isLetter (zl_g T n a) = 0
    · rw [if_pos c2]
      intro h
      unfold zl_tn at h ⊢
      by_cases d1 : 32 < zl_ne T n a - a
      · rw [if_pos d1] at h; simp at h
      rw [if_neg d1] at h ⊢
      by_cases d2 : zl_nm T n a (zl_ne T n a) ∈ zl_W
      · rw [if_pos d2]; exact c2
      · rw [if_neg d2]; exact c2
    rw [if_neg c2]
    by_cases c3 : ¬ f_Mo_isDigit (zl_g T n a) = 0
    · rw [if_pos c3]
      intro h
      unfold zl_nb at h
      exfalso
      revert h
      repeat' split
      all_goals first | exact hfin _ _ _ | simp
    rw [if_neg c3]
    by_cases c4 : zl_g T n a = 37
    · rw [if_pos c4]
      intro h
      unfold zl_pl at h
      exfalso
      revert h
      repeat' split
      all_goals simp
    · rw [if_neg c4]
      intro h
      unfold zl_sn at h
      exfalso
      revert h
      repeat' split
      all_goals simp
  · rw [if_neg c]; intro h; simp at h
/-- all names begin with a letter -/
def zwt_ld (L : List (List Int32)) : Prop := ∀ c, c ∈ L → ¬ f_Mo_isLetter (c.getD 0 0) = 0
theorem zwt_K : zwt_ld zk_K := by
  have q : (zk_K.all fun c => decide (¬ f_Mo_isLetter (c.getD 0 0) = 0)) = true := by decide +kernel
  intro c hc
  exact of_decide_eq_true (List.all_eq_true.mp q c hc)
theorem zwt_cn {T : Nat → Int32} {n j : Nat} (h : (zl_at T n j).1 = 1 ∨ (zl_at T n j).1 = 2) : ¬ f_Mo_isLetter ((zl_cn T n j).getD 0 0) = 0 := by
  obtain ⟨t1, t2, t3, _⟩ := zl_tok_nm (T := T) (n := n) (b := zl_bs T n j) h
  have hat : (zl_at T n j) = zl_tok T n (zl_bs T n j) := rfl
  rw [← hat] at t1 t2 t3
  have hl := zl_ne_le (T := T) (n := n) (a := (zl_at T n j).2.1) (by omega)
  rw [← t1] at hl
  have hne : ¬ (zl_at T n j).2.2.1 = (zl_at T n j).2.1 := fun e => by
    have := hl.2.2.1
    rw [e, t3] at this
    exact absurd this (by decide)
  unfold zl_cn
  rw [zl_nm_at (by omega), Nat.add_zero]
  exact yL_lt (T := T) (n := n) (b := zl_bs T n j) h
theorem yL_rd {n : Nat} {T : Nat → Int32} (hn : n ≤ 10240) : ∀ m j fuel (h : zs_H) (L : List (List Int32)), n ≤ zl_bs T n j + m → m + 1 < fuel → zl_Y h T n → zl_I h T n j L → (h.1 8 7) = nI (zl_bs T n j) → zl_bs T n j ≤ n → zl_J T n (zl_bs T n j) (L.length - 75) → zn_o L L.length ≤ 330 + zl_bs T n j → j ≤ zl_bs T n j → zwt_ld L →
    zw (f_Tk_read_c1_L25 fuel h 1 (nI j)) (fun h' => ∃ k L', j ≤ k ∧ k ≤ n ∧ (zl_I h' T n (k + 1) L' ∧ L'.length < 6000 ∧ zwt_ld L') ∧ (∀ i, j ≤ i → i < k → ¬ ((zl_at T n i).1 = 0 ∨ (zl_at T n i).1 = 9)) ∧ ((zl_at T n k).1 = 0 ∨ (zl_at T n k).1 = 9) ∧ zfr [(2, 5), (8, 3), (8, 7)] [4, 5, 6, 7, 9, 10, 11] [] h h') := by
  intro m
  induction m using Nat.strongRecOn with
  | ind m ih =>
    intro j fuel h L h1 h2 H HI Ha hb HJ ho hj hld
    have hld2 : zwt_ld (if ((zl_at T n j).1 = 1 ∨ (zl_at T n j).1 = 2) ∧ ¬ zl_cn T n j ∈ L then L ++ [zl_cn T n j] else L) := by
      split
      · rename_i y
        intro c hc
        rcases List.mem_append.mp hc with w | w
        · exact hld c w
        · rw [List.mem_singleton.mp w]; exact zwt_cn y.1
      · exact hld
    obtain ⟨f, rfl⟩ : ∃ f, fuel = f + 2 := ⟨fuel - 2, by omega⟩
    obtain ⟨i1, i2, i3, i4, i5⟩ := HI
    have hJ := HJ.1
    have hTok := zl_tok_kd (n := n) (b := zl_bs T n j) H.2.2.2.1 hb
    have hlast : ∀ (t : Int32) (g : zs_H), f_Tk_read_c1_L25 (f + 1) g 0 t = some g := by
      intro t g
      show f_Tk_read_c1_25 (f_Tk_read_c1_L25 f) g 0 t = _
      unfold f_Tk_read_c1_25
      rw [if_pos rfl]
      split <;> rfl
    have fin : ∀ p : Int32 × zs_H, zl_KT L (zl_cn T n j) j h (zl_at T n j) p → ((zl_at T n j).1 = 0 ∨ (zl_at T n j).1 = 9) → zw (f_Tk_read_c1_55 (f_Tk_read_c1_L25 (f + 1)) p.2 (nI j)) (fun h' => ∃ k L', j ≤ k ∧ k ≤ n ∧ (zl_I h' T n (k + 1) L' ∧ L'.length < 6000 ∧ zwt_ld L') ∧ (∀ i, j ≤ i → i < k → ¬ ((zl_at T n i).1 = 0 ∨ (zl_at T n i).1 = 9)) ∧ ((zl_at T n k).1 = 0 ∨ (zl_at T n k).1 = 9) ∧ zfr [(2, 5), (8, 3), (8, 7)] [4, 5, 6, 7, 9, 10, 11] [] h h') := by
      intro p q z
      unfold f_Tk_read_c1_55 f_Tk_read_c1_56
      rw [hlast, zw_some]
      exact ⟨j, _, Nat.le_refl j, by omega, ⟨zl_I_s ⟨i1, i2, i3, i4, i5⟩ q, by split <;> (try rw [List.length_append]) <;> (try simp only [List.length_singleton]) <;> omega, hld2⟩, fun i h3 h4 => by omega, z, q.2.2.2.2.2.2.2⟩
    show zw (f_Tk_read_c1_25 (f_Tk_read_c1_L25 (f + 1)) h 1 (nI j)) _
    unfold f_Tk_read_c1_25
    rw [if_neg (mt (zc_lt (k := 16384) (by decide) (by omega)).mp (by omega)), if_neg (by decide), zl_skipBlanks H Ha hb]
    have hs := zl_sk_le (T := T) (n := n) (n - zl_bs T n j) (zl_bs T n j) hb
    have hF : zfr [(8, 7)] [] [] h (zs_uF h 8 7 (nI (zl_sk T n (n - zl_bs T n j) (zl_bs T n j)).1)) := zfr_F (by decide) zfr_rfl
    have hC : zn_C (zs_uF h 8 7 (nI (zl_sk T n (n - zl_bs T n j) (zl_bs T n j)).1)) L := zn_C_fr hF (by decide) (by decide) (by decide) (by decide) (by decide) i2
    by_cases c0 : (zl_sk T n (n - zl_bs T n j) (zl_bs T n j)).2 = true
    · have et : zl_at T n j = zl_tk T n (zl_sk T n (n - zl_bs T n j) (zl_bs T n j)).1 := by
        unfold zl_at zl_tok; rw [if_pos c0]
      rw [if_pos c0, zw_B, zw_some]
      dsimp only
      rw [if_neg (by decide), zw_B]
      refine zw_mono (zl_cTok (h := zs_uF h 8 7 (nI (zl_sk T n (n - zl_bs T n j) (zl_bs T n j)).1)) (n := n) (s := j) (L := L) H i1.2 (by omega) rfl hs.1 hC i3 i4 (by omega) (by omega)) fun p q => ?_
      have q' : zl_KT L (zl_cn T n j) j h (zl_at T n j) p := by
        unfold zl_cn
        rw [et]
        exact zl_KT_pre hF q
      have qq := q'
      obtain ⟨q1, q2, q3, q4, q5, q6, q7, q8⟩ := q'
      by_cases z : (zl_at T n j).1 = 0 ∨ (zl_at T n j).1 = 9
      · rw [q1, if_pos z, if_pos rfl]; exact fin p qq z
      · rw [q1, if_neg z, if_neg (by decide)]
        unfold f_Tk_read_c1_56
        rw [nI_1]
        have hk := hTok.2.2.2.1 z
        have hk1 := hTok.1
        have hbs : zl_bs T n (j + 1) = (zl_at T n j).2.2.1 := rfl
        have hat : (zl_at T n j) = zl_tok T n (zl_bs T n j) := rfl
        rw [← hat] at hk hk1
        have hY : zl_Y p.2 T n := by
          obtain ⟨y1, y2, y3, y4, y5⟩ := H
          refine ⟨(q8.1 _ _ (by decide)).trans y1, y2, ?_, y4, ?_⟩
          · rw [q8.1 _ _ (by decide)]; exact y3
          · rw [q8.2.1 _ (by decide)]; exact y5
        have hI' := zl_I_s ⟨i1, i2, i3, i4, i5⟩ qq
        have hsub : ∀ L2 : List (List Int32), L2 = (if ((zl_at T n j).1 = 1 ∨ (zl_at T n j).1 = 2) ∧ ¬ zl_cn T n j ∈ L then L ++ [zl_cn T n j] else L) → zl_J T n (zl_bs T n (j + 1)) (L2.length - 75) ∧ zn_o L2 L2.length ≤ 330 + zl_bs T n (j + 1) := by
          intro L2 e2
          rw [hbs]
          by_cases y : ((zl_at T n j).1 = 1 ∨ (zl_at T n j).1 = 2) ∧ ¬ zl_cn T n j ∈ L
          · rw [if_pos y] at e2
            subst e2
            obtain ⟨t1, t2, t3, t4, t5, t6⟩ := zl_tok_nm (T := T) (n := n) (b := zl_bs T n j) y.1
            rw [← hat] at t1 t2 t3 t4
            have e3 : (L ++ [zl_cn T n j]).length = L.length + 1 := by rw [List.length_append]; rfl
            have e4 : ((L ++ [zl_cn T n j]).getD L.length []).length = (zl_at T n j).2.2.1 - (zl_at T n j).2.1 := by
              rw [List.getD_eq_getElem?_getD, List.getElem?_append_right (Nat.le_refl _), Nat.sub_self]
              show (zl_cn T n j).length = _
              unfold zl_cn; rw [zl_nm_len]
            have hne := zl_ne_le (T := T) (n := n) (a := (zl_at T n j).2.1) (by omega)
            rw [← t1] at hne
            rw [e3, zn_o_s (by rw [e3]; omega), zn_o_app (Nat.le_refl _), e4]
            refine ⟨⟨?_, Or.inr hne.2.2.1⟩, by omega⟩
            rcases HJ.2 with w | w
            · omega
            · have : ¬ (zl_at T n j).2.1 = zl_bs T n j := fun e5 => by rw [e5, w] at t3; exact absurd t3 (by decide)
              omega
          · rw [if_neg y] at e2
            subst e2
            exact ⟨⟨by omega, Or.inl (by omega)⟩, by omega⟩
        have hs2 := hsub _ rfl
        refine zw_mono (ih (m - 1) (by omega) (j + 1) (f + 1) p.2 _ (by rw [hbs]; omega) (by omega) hY hI' (q6 z) (by rw [hbs]; omega) hs2.1 hs2.2 (by rw [hbs]; omega) hld2) fun h' w => ?_
        obtain ⟨k, L', w1, w2, w3, w4, w5, w6⟩ := w
        refine ⟨k, L', by omega, w2, w3, fun i h3 h4 => ?_, w5, zfr_trans q8 w6⟩
        by_cases ei : i = j
        · rw [ei]; exact z
        · exact w4 i (by omega) h4
    · have et : zl_at T n j = (9, (zl_sk T n (n - zl_bs T n j) (zl_bs T n j)).1, (zl_sk T n (n - zl_bs T n j) (zl_bs T n j)).1, 2) := by
        unfold zl_at zl_tok; rw [if_neg c0]
      rw [if_neg c0, zw_B]
      refine zw_mono (zl_w2 (zl_refuse (h := zs_uF h 8 7 (nI (zl_sk T n (n - zl_bs T n j) (zl_bs T n j)).1)) (w := 2) (e := (zl_sk T n (n - zl_bs T n j) (zl_bs T n j)).1) (c := zl_cn T n j) (s := j) i1.2 (by omega) rfl (by omega) hC)) fun p q => ?_
      rw [← et] at q
      have q' := zl_KT_pre hF q
      have z : (zl_at T n j).1 = 0 ∨ (zl_at T n j).1 = 9 := Or.inr (by rw [et])
      rw [q'.1, if_pos z, if_pos rfl]
      exact fin p q' z
theorem yL_read {h : zs_H} {n : Nat} (hn : n ≤ 10240) (hT : ∀ i, zb_ok ((h.2.1 1) i)) (HC : zn_C h zk_K) : zw (f_Tk_read_c1 h (nI n)) (fun h' => ∃ k L, k ≤ n ∧ (zl_I h' (h.2.1 1) n (k + 1) L ∧ L.length < 6000 ∧ zwt_ld L) ∧ (∀ i, i < k → ¬ ((zl_at (h.2.1 1) n i).1 = 0 ∨ (zl_at (h.2.1 1) n i).1 = 9)) ∧ ((zl_at (h.2.1 1) n k).1 = 0 ∨ (zl_at (h.2.1 1) n k).1 = 9) ∧ zfr [(2, 5), (8, 3), (8, 7), (8, 5), (8, 6)] [4, 5, 6, 7, 9, 10, 11] [] h h') := by
  unfold f_Tk_read_c1
  have f0 : zfr [(2, 5), (8, 3), (8, 7), (8, 5), (8, 6)] [4, 5, 6, 7, 9, 10, 11] [] h (zs_uF (zs_uF (zs_uF (zs_uF h 8 5 1) 8 6 (nI n)) 8 7 0) 8 3 0) := zfr_F (by decide) (zfr_F (by decide) (zfr_F (by decide) (zfr_F (by decide) zfr_rfl)))
  have hI : zl_I (zs_uF (zs_uF (zs_uF (zs_uF h 8 5 1) 8 6 (nI n)) 8 7 0) 8 3 0) (h.2.1 1) n 0 zk_K := by
    refine ⟨⟨fun j hj => absurd hj (Nat.not_lt_zero j), rfl⟩, ?_, zk_Kn, ?_, ?_⟩
    · exact zn_C_fr (zfr_F (fs := [(8, 3), (8, 7), (8, 5), (8, 6)]) (ms := []) (ls := []) (by decide) (zfr_F (by decide) (zfr_F (by decide) (zfr_F (by decide) zfr_rfl)))) (by decide) (by decide) (by decide) (by decide) (by decide) HC
    · exact List.take_of_length_le (by rw [zk_Kl]; exact Nat.le_refl _)
    · rw [zk_Kl]; exact Nat.le_refl _
  refine zw_mono (yL_rd (T := (h.2.1 1)) hn n 0 zF (zs_uF (zs_uF (zs_uF (zs_uF h 8 5 1) 8 6 (nI n)) 8 7 0) 8 3 0) zk_K (by omega) (by have := zF_big; omega) ⟨rfl, by omega, (show ¬ (1 : Int32) = 0 by decide), hT, rfl⟩ hI rfl (Nat.zero_le n) ?_ ?_ (Nat.le_refl 0) zwt_K) fun h' q => ?_
  · rw [zk_Kl]; exact ⟨by omega, Or.inl (by omega)⟩
  · have := zk_Ko2; omega
  · obtain ⟨k, L, q1, q2, q3, q4, q5, q6⟩ := q
    exact ⟨k, L, q2, q3, fun i hi => q4 i (Nat.zero_le i) hi, q5, zfr_trans f0 (zfr_w q6 (by decide) (by decide) (by decide))⟩
theorem yL_by {x : Int32} (h : zb_ok x) : vp_nar .byte x = x := by
  rw [vp_nar_byte]
  apply Int32.toInt_inj.mp
  rw [Int8.toInt_toInt32, Int32.toInt_toInt8]
  unfold zb_ok at h
  exact Int.bmod_eq_of_le (by omega) (by omega)
/-- the model behind its copying -/
def yL_j (h : zs_H) (x1 : Int32) : Option (Int32 × zs_H) := (zd_B (f_Mo_judge h) fun v3 h4 => (if v3 = 0 then (zd_B (f_Mo_generate (zs_uF (zs_uF h4 68 80 v3) 68 81 (h4.1 68 30))) fun v7 h8 => (if v7 = 0 then ((f_Mo_refuse h8 50 0).bind fun h12 => f_Mo_load_88 h12 x1) else f_Mo_load_88 h8 x1)) else f_Mo_load_88 (zs_uF (zs_uF h4 68 80 v3) 68 81 (h4.1 68 30)) x1))
theorem yL_25 {x : Int32} {T : Nat → Int32} {t : Nat} (ht : t ≤ 10240) (hT : ∀ i, zb_ok (T i)) : ∀ (m i N : Nat) (g : zs_H), i + m = t → m < N → (g.1 68 1) = nI t → (∀ j, j < t → (g.2.1 116) j = T j) → (∀ j, j < i → (g.2.1 69) j = T j) → ∃ g', f_Mo_load_L25 N g x (nI i) = yL_j g' x ∧ zfr [] [69] [] g g' ∧ zl_X g' T t := by
  intro m
  induction m with
  | zero =>
    intro i N g hi hN hs hm hx
    obtain ⟨N, rfl⟩ : ∃ z, N = z + 1 := ⟨N - 1, by omega⟩
    have e : i = t := hi
    subst e
    refine ⟨g, ?_, zfr_rfl, hs, by omega, hx⟩
    show f_Mo_load_25 (f_Mo_load_L25 N) g x (nI i) = _
    unfold f_Mo_load_25
    rw [hs, if_pos ((nI_leI (by omega) (by omega)).mpr (Nat.le_refl _))]
    rfl
  | succ m ih =>
    intro i N g hi hN hs hm hx
    obtain ⟨N, rfl⟩ : ∃ z, N = z + 1 := ⟨N - 1, by omega⟩
    obtain ⟨g1, hg1⟩ : ∃ g1, g1 = zs_uM g 69 i (T i) := ⟨_, rfl⟩
    have f1 : zfr [] [69] [] g g1 := by rw [hg1]; exact zfr_M (by decide) zfr_rfl
    obtain ⟨g', a1, a2, a3⟩ := ih (i + 1) N g1 (by omega) (by omega) (by rw [hg1]; exact hs) (by rw [hg1]; exact hm) (fun j hj => by
      rw [hg1, zu_MM]
      by_cases z : j = i
      · rw [if_pos ⟨rfl, z⟩, z]
      · rw [if_neg (fun w => z w.2)]; exact hx j (by omega))
    refine ⟨g', ?_, zfr_trans f1 a2, a3⟩
    show f_Mo_load_25 (f_Mo_load_L25 N) g x (nI i) = _
    unfold f_Mo_load_25
    rw [hs, if_neg (mt (nI_leI (by omega) (by omega)).mp (by omega)), if_pos (zi_in (by omega) (show i < 16384 by omega)), nI_clamp (by omega), hm i (by omega), yL_by (hT i), ← hg1, nI_1]
    exact a1
/-- what both sides have on their tapes -/
def yL_T (t : Nat) (h g : zs_H) : Prop := ((h.1 0 1) = nI t ∧ (g.1 68 78) = nI t ∧ t ≤ 10240) ∧ (∀ i, zb_ok ((h.2.1 1) i)) ∧ ∀ i, i < t → (g.2.1 116) i = (h.2.1 1) i
theorem yL_m {h g : zs_H} {t bu : Nat} (H : yL_T t h g) (h1 : 100 ≤ bu) (h2 : bu ≤ 100000) : ∃ g', f_Mo_load g (nI bu) = yL_j g' (nI bu) ∧ zfr [(68, 1), (68, 78)] [69] [] g g' ∧ zl_X g' ((h.2.1 1)) t ∧ (g'.1 68 78) = 0 := by
  have hz := zF_big
  obtain ⟨⟨a1, a2, a3⟩, a4, a5⟩ := H
  obtain ⟨g1, hg1⟩ : ∃ g1, g1 = zs_uF (zs_uF g 68 78 0) 68 1 (nI t) := ⟨_, rfl⟩
  have f1 : zfr [(68, 1), (68, 78)] [69] [] g g1 := by rw [hg1]; exact zfr_F (by decide) (zfr_F (by decide) zfr_rfl)
  obtain ⟨g', b1, b2, b3⟩ := yL_25 (x := nI bu) (T := (h.2.1 1)) a3 a4 t 0 zF g1 (by omega) (by omega) (by rw [hg1]; rfl) (by rw [hg1]; exact a5) (fun j hj => absurd hj (Nat.not_lt_zero j))
  refine ⟨g', ?_, zfr_trans f1 (zfr_w b2 (by decide) (by decide) (by decide)), b3, (b2.1 _ _ List.not_mem_nil).trans (by rw [hg1]; rfl)⟩
  unfold f_Mo_load f_Mo_useTape
  rw [if_neg (mt (zc_tl (k := 100) (by decide) (by omega)).mp (by omega)), if_pos ((zc_el (k := 100000) (by decide) (by omega)).mpr h2), a2]
  rw [← b1, hg1]
  rfl
/-- the class behind its reading -/
def yL_p (h : zs_H) (x1 : Int32) : Option (Int32 × zs_H) := (zd_B (f_Ps_parse h) fun v10 h11 => ((f_Pk_note h11 v10 (h11.1 19 0)).bind fun h13 => (if (h13.1 0 2) = 0 then (zd_B (f_Jd_judge h13) fun v16 h17 => ((f_Pk_note h17 v16 (h17.1 38 0)).bind fun h19 => f_Pk_load_102 h19 x1)) else f_Pk_load_102 h13 x1)))
abbrev yL_cF : List (Nat × Nat) := [(58, 3), (58, 4), (58, 5), (58, 6), (58, 7), (58, 8), (58, 9), (0, 1), (0, 2), (0, 3), (2, 5), (8, 3), (8, 7), (8, 5), (8, 6)]
abbrev yL_cM : List Nat := [4, 5, 6, 7, 9, 10, 11]
theorem yL_c {h g : zs_H} {t bu : Nat} (H : yL_T t h g) (K0 : zk_k0 h) (h1 : 100 ≤ bu) (h2 : bu ≤ 100000) : ∃ h' k L, f_Pk_load h (nI bu) = yL_p h' (nI bu) ∧ zfr yL_cF yL_cM [] h h' ∧ zq_S h' ((h.2.1 1)) t k L ∧ (zn_C h' L ∧ zwt_ld L) ∧ ((h'.1 0 1) = 0 ∧ (h'.1 0 2) = 0 ∧ (h'.1 0 3) = -5) ∧ ((h'.1 58 3) = 0 ∧ (h'.1 58 4) = 0 ∧ (h'.1 58 5) = 0 ∧ (h'.1 58 6) = 0 ∧ (h'.1 58 7) = 0 ∧ (h'.1 58 8) = 0 ∧ (h'.1 58 9) = 0) := by
  obtain ⟨⟨a1, a2, a3⟩, a4, a5⟩ := H
  obtain ⟨h4, e4⟩ : ∃ h4, h4 = zs_uF (zs_uF (zs_uF (zs_uF (zs_uF (zs_uF (zs_uF (zs_uF (zs_uF h 58 3 0) 58 4 0) 58 5 0) 58 6 0) 58 7 0) 58 8 0) 58 9 0) 0 2 0) 0 3 (-5) := ⟨_, rfl⟩
  have f4 : zfr yL_cF yL_cM [] h h4 := by
    rw [e4]
    exact zfr_F (by decide) (zfr_F (by decide) (zfr_F (by decide) (zfr_F (by decide) (zfr_F (by decide) (zfr_F (by decide) (zfr_F (by decide) (zfr_F (by decide) (zfr_F (by decide) zfr_rfl))))))))
  have k4 : zk_k0 h4 := by rw [e4]; exact K0
  obtain ⟨h6, b1, b2, b3⟩ := zk_forget k4
  have t6 : (h6.2.1 1) = (h.2.1 1) := by rw [b3.2.1 _ (by decide), e4]; rfl
  have s6 : (h6.1 0 1) = nI t := (b3.1 _ _ (by decide)).trans (by rw [e4]; exact a1)
  obtain ⟨h8, c1, k, L, c2, ⟨c3, c4⟩, c5, c6, c7⟩ := yL_read (h := h6) a3 (by rw [t6]; exact a4) b2
  rw [t6] at c3 c5 c6
  have f8 : zfr yL_cF yL_cM [] h4 h8 := zfr_trans (zfr_w b3 (by decide) (by decide) (by decide)) (zfr_w c7 (by decide) (by decide) (by decide))
  have o8 : ∀ a b, ¬ (a, b) ∈ [(2, 5), (8, 3), (8, 7), (8, 5), (8, 6)] → h8.1 a b = h4.1 a b := fun a b q => (c7.1 a b q).trans (b3.1 a b (fun w => q (by rw [List.mem_singleton.mp w]; decide)))
  refine ⟨zs_uF h8 0 1 0, k, L, ?_, zfr_F (by decide) (zfr_trans f4 f8), ⟨c3.1, c2, a3, c5, c6, c3.2.2.1, c3.2.2.2.1, c4.1, a4, c3.2.2.2.2⟩, ⟨c3.2.1, c4.2⟩, ⟨rfl, ?_, ?_⟩, ?_, ?_, ?_, ?_, ?_, ?_, ?_⟩
  · unfold f_Pk_load f_Mc_forget
    rw [if_neg (mt (zc_tl (k := 100) (by decide) (by omega)).mp (by omega)), if_pos ((zc_el (k := 100000) (by decide) (by omega)).mpr h2), Option.bind_some, ← e4, b1, Option.bind_some, s6, c1, Option.bind_some]
    rfl
  all_goals exact (o8 _ _ (by decide)).trans (by rw [e4]; rfl)
end
section
/-! A text that was proved begins, on both sides. -/
/-- what stays of a judged state: the names, the plan -/
def yL_E (h0 g0 h g : zs_H) : Prop := (∀ a, 3 ≤ a → a ≤ 37 → h.2.1 a = h0.2.1 a) ∧ (∀ a, 70 ≤ a → a ≤ 102 → g.2.1 a = g0.2.1 a) ∧ ((h.1 2 5) = (h0.1 2 5) ∧ (h.1 20 17) = (h0.1 20 17) ∧ (h.1 20 18) = (h0.1 20 18) ∧ (h.1 20 19) = (h0.1 20 19) ∧ (h.1 20 20) = (h0.1 20 20)) ∧ ((g.1 68 3) = (g0.1 68 3) ∧ (g.1 68 33) = (g0.1 68 33) ∧ (g.1 68 41) = (g0.1 68 41) ∧ (g.1 68 55) = (g0.1 68 55))
abbrev yL_kF : List (Nat × Nat) := [(0, 1), (0, 2), (0, 3), (0, 4), (41, 5), (41, 6), (47, 3), (47, 4), (47, 5), (47, 6), (47, 10), (47, 11), (51, 7), (58, 3), (58, 4), (58, 5), (58, 6), (58, 7), (58, 8), (58, 9), (58, 14), (58, 17), (58, 18), (58, 19), (58, 20), (66, 1), (66, 2), (66, 4), (66, 5)]
abbrev yL_kM : List Nat := [42, 43, 44, 45, 46, 48, 49, 50, 52, 53, 57, 59, 60, 61, 62, 63, 64, 65, 67]
abbrev yL_mF : List (Nat × Nat) := [(68, 56), (68, 58), (68, 54), (68, 64), (68, 66), (68, 68), (68, 73), (68, 74), (68, 75), (68, 76), (68, 78), (68, 80), (68, 81), (68, 82), (68, 83), (68, 84), (68, 85), (68, 86), (68, 87), (68, 88), (68, 93), (68, 94), (68, 95)]
abbrev yL_mM : List Nat := [103, 104, 105, 106, 107, 108, 110, 111, 112, 114, 115, 116, 117, 118, 119, 120]
abbrev yL_kL : List Nat := [54, 55, 56]
abbrev yL_mL : List Nat := [109, 113]
section YLD
variable {h0 g0 h g h' g' : zs_H}
theorem yL_Ef (E : yL_E h0 g0 h g) (f1 : zfr yL_kF (1 :: yL_kM) yL_kL h h') (f2 : zfr yL_mF (69 :: yL_mM) yL_mL g g') : yL_E h0 g0 h' g' := by
  obtain ⟨e1, e2, ⟨e3, e4, e5, e6, e7⟩, ⟨e8, e9, e10, e11⟩⟩ := E
  refine ⟨fun a ha hb => (f1.2.1 a (fun z => ?_)).trans (e1 a ha hb), fun a ha hb => (f2.2.1 a (fun z => ?_)).trans (e2 a ha hb), ⟨(f1.1 _ _ (by decide)).trans e3, (f1.1 _ _ (by decide)).trans e4, (f1.1 _ _ (by decide)).trans e5, (f1.1 _ _ (by decide)).trans e6, (f1.1 _ _ (by decide)).trans e7⟩, ⟨(f2.1 _ _ (by decide)).trans e8, (f2.1 _ _ (by decide)).trans e9, (f2.1 _ _ (by decide)).trans e10, (f2.1 _ _ (by decide)).trans e11⟩⟩
  · have : ∀ x, x ∈ (1 :: yL_kM) → x < 3 ∨ 37 < x := by decide
    have := this a z; omega
  · have : ∀ x, x ∈ (69 :: yL_mM) → x < 70 ∨ 102 < x := by decide
    have := this a z; omega
theorem yL_E0 : yL_E h0 g0 h0 g0 := ⟨fun _ _ _ => rfl, fun _ _ _ => rfl, ⟨rfl, rfl, rfl, rfl, rfl⟩, rfl, rfl, rfl, rfl⟩
theorem yL_EB (E : yL_E h0 g0 h g) : yB_E h0 h := fun a h1 h2 => E.1 a (by omega) h2
theorem yL_Eb (E : yL_E h0 g0 h g) : yB_e g0 g := by
  have q : ∀ x, x ∈ [86, 89, 90, 92, 93, 94, 98, 99] → 70 ≤ x ∧ x ≤ 102 := by decide
  exact ⟨⟨E.2.2.2.2.1, E.2.2.2.2.2.1⟩, fun a ha => E.2.1 a (q a ha).1 (q a ha).2⟩
theorem yL_EC {L : List (List Int32)} (E : yL_E h0 g0 h g) (H : zn_C h0 L) : zn_C h L := by
  unfold zn_C
  rw [E.2.2.1.1, E.1 5 (by decide) (by decide), E.1 4 (by decide) (by decide), E.1 7 (by decide) (by decide), E.1 6 (by decide) (by decide)]
  exact H
/-- a text is loaded -/
def yL_Z (h g : zs_H) : Prop := ∃ (LC LM : List (List Int32)) (nb : Nat) (F X Y K : Nat → Nat) (T : Nat → ys) (w : Nat) (h0 g0 : zs_H), yB_P LC LM nb F X Y K h0 g0 ∧ yL_E h0 g0 h g ∧ yY_L h0 nb T X Y K w h g ∧ yY_M (yJ_J h0 nb T X K) h g ∧ ((h.1 20 17) = nI (9 + nb) ∧ (h.1 41 5) = (g.1 68 56) ∧ (h.1 20 20) = (g.1 68 55)) ∧ zn_C h LC ∧ zwt_ld LC
theorem yL_w {X Y : Nat → Nat} {T : Nat → ys} {b bu : Nat} (U : yx_T X Y h0 b (T b)) (l : yV_le bu (yV_b T b) = true) : ∃ w, yV_b T b = some w ∧ w ≤ bu := by
  have n := yF_way (B := yV_B T b) (T b) (none, none, none) (some 0, none, none) (yF_nM (x := 0) (.inl rfl))
  have eW : yV_b T b = yF_M (yP_T (yV_B T b) (T b) (none, none, none) (some 0, none, none)) := by
    unfold yV_b yV_W yF_M
    rw [yF_out (T b) (none, none, none) (some 0, none, none) 0 (U.2.1 0) rfl rfl]
    rfl
  rw [← eW] at n
  cases e : yV_b T b with
  | none => exact absurd e n
  | some w =>
    rw [e] at l
    exact ⟨w, rfl, of_decide_eq_true l⟩
theorem yL_AC {T : Nat → ys} {nb : Nat} (H : yx_AC T nb h) (e : ∀ a, 42 ≤ a → a ≤ 45 → h'.2.1 a = h.2.1 a) : yx_AC T nb h' := fun u hu k i z => by
  have q := H u hu k i z
  unfold yC_m at q ⊢
  rw [e 42 (by decide) (by decide), e 43 (by decide) (by decide), e 44 (by decide) (by decide), e 45 (by decide) (by decide)]
  exact q
theorem yL_AM {T : Nat → ys} {nb : Nat} (H : yx_AM T nb g) (e : ∀ a, 104 ≤ a → a ≤ 108 → g'.2.1 a = g.2.1 a) : yx_AM T nb g' := fun u hu k i z => by
  have q := H u hu k i z
  unfold yM_m at q ⊢
  rw [e 104 (by decide) (by decide), e 105 (by decide) (by decide), e 106 (by decide) (by decide), e 107 (by decide) (by decide), e 108 (by decide) (by decide)]
  exact q
theorem yL_done {sz bu : Nat} {LC LM : List (List Int32)} (Z : yV_Z sz bu LC LM h0 g0 h g) (hbu : bu ≤ 100000) (E : yL_E h0 g0 h g) (N : zn_C h0 LC) (LD : zwt_ld LC) (io : yY_io h g) (e0 : (h.1 0 2) = 0) (e1 : (g.1 68 80) = 0) (z : (h.1 58 6) = 0 ∧ (h.1 58 7) = 0 ∧ (h.1 58 8) = 0 ∧ (h.1 58 9) = 0) : ∃ h' g', f_Pk_load_133 h = some (0, h') ∧ f_Mo_load_226 g = some (0, g') ∧ zfr [(58, 3), (58, 4), (58, 5)] [60, 62, 65] [] h h' ∧ zfr [(68, 82), (68, 73), (68, 74), (68, 84), (68, 85), (68, 86)] [114, 119] [] g g' ∧ (((h'.1 58 3) = 1 ∧ (h'.1 58 4) = 0) ∧ (g'.1 68 82) = 1) ∧ yL_Z h' g' ∧ yY_io h' g' := by
  obtain ⟨nb, F, X, Y, K, T, ⟨n0, n16, C⟩, ⟨KK, TT⟩, U, bb, S4, ⟨a1, a2, a3, a4⟩, ⟨b1, b2, b3⟩, cc⟩ := Z
  have HB := C.1.2.1
  have pr : (h0.1 20 19) = nI (8 + nb) := by
    rw [HB.2.2.2.2.2.2.2.2.2, if_pos ⟨n0, by rw [(KK (nb - 1) (by omega)).2.2, TT.1.2]; rfl⟩]
  have ph : (h.1 20 19) = nI (8 + nb) := E.2.2.1.2.2.2.1.trans pr
  have bh : (h.1 20 17) = nI (9 + nb) := E.2.2.1.2.1.trans HB.1.1
  obtain ⟨w, w1, w2⟩ := yL_w (U (nb - 1) (by omega)).1 bb
  have P := yB_mkP n0 n16 C KK TT
  obtain ⟨h1, hh1⟩ : ∃ h1, h1 = zs_uF (zs_uF h 58 3 1) 58 5 (nI w) := ⟨_, rfl⟩
  obtain ⟨g1, hg1⟩ : ∃ g1, g1 = zs_uF (zs_uF (zs_uF (zs_uF (zs_uF g 68 82 1) 68 73 0) 68 74 0) 68 84 0) 68 85 0 := ⟨_, rfl⟩
  have f1 : zfr [(58, 3), (58, 4), (58, 5)] [60, 62, 65] [] h h1 := by rw [hh1]; exact zfr_F (by decide) (zfr_F (by decide) zfr_rfl)
  have f2 : zfr [(68, 82), (68, 73), (68, 74), (68, 84), (68, 85), (68, 86)] [114, 119] [] g g1 := by
    rw [hg1]; exact zfr_F (by decide) (zfr_F (by decide) (zfr_F (by decide) (zfr_F (by decide) (zfr_F (by decide) zfr_rfl))))
  have E1 : yL_E h0 g0 h1 g1 := yL_Ef E (zfr_w f1 (by decide) (by decide) (by decide)) (zfr_w f2 (by decide) (by decide) (by decide))
  have io1 : yY_io h1 g1 := by rw [hh1, hg1]; exact io
  obtain ⟨h2, g2, d1, d2, d3, d4, d5, d6, d7, d8, d9⟩ := yB_anew P (yL_EB E1) (yL_Eb E1) (by rw [hh1]; exact bh) io1
  have F1 : zfr [(58, 3), (58, 4), (58, 5)] [60, 62, 65] [] h h2 := zfr_trans f1 (zfr_w d3 (by decide) (by decide) (by decide))
  have F2 : zfr [(68, 82), (68, 73), (68, 74), (68, 84), (68, 85), (68, 86)] [114, 119] [] g g2 := zfr_trans f2 (zfr_w d4 (by decide) (by decide) (by decide))
  have E2 : yL_E h0 g0 h2 g2 := yL_Ef E (zfr_w F1 (by decide) (by decide) (by decide)) (zfr_w F2 (by decide) (by decide) (by decide))
  have k1 : ∀ u, u < nb → (yq_k h0 u).1 = 1 → K u = 1 := fun j hj q => by
    have e : nI (K j) = 1 := (KK j hj).2.1.symm.trans q
    have := (KK j hj).1
    exact (zc_eq (k := 1) (by decide) (by omega)).mp e
  obtain ⟨z1, z2, z3, z4⟩ := z
  refine ⟨h2, g2, ?_, ?_, F1, F2, ⟨⟨(d3.1 _ _ (by decide)).trans (by rw [hh1]; rfl), d8⟩, (d4.1 _ _ (by decide)).trans (by rw [hg1]; rfl)⟩, ⟨LC, LM, nb, F, X, Y, K, T, w, h0, g0, P, E2, ?_, ?_, ?_, yL_EC E2 N, LD⟩, d7⟩
  · unfold f_Pk_load_133 f_Mc_begin f_Pk_load_165
    rw [e0, if_pos (show (0 : Int32) = 0 from rfl), ph, show nI (8 + nb) - 9 = nI (8 + nb - 9) from zi_sub (b := 9) (by omega), if_pos (zi_in (by omega) (show 8 + nb - 9 < 16 by omega)), nI_clamp (by omega), show 8 + nb - 9 = nb - 1 by omega, (cc (nb - 1) (by omega)).1, w1, show yV_c (some w) = nI w from rfl, ← hh1, d1, Option.bind_some, Option.bind_some, (F1.1 0 2 (by decide)), e0]
  · unfold f_Mo_load_226 f_Mo_load_239 f_Mo_load_273
    rw [e1, if_pos (show (0 : Int32) = 0 from rfl), if_pos (show (1 : Int32) = 0 ∨ (1 : Int32) = 1 from .inr rfl), if_neg (show ¬ (1 : Int32) = 0 by decide), ← hg1, d2, Option.bind_some, (F2.1 68 80 (by decide)), e1]
  · refine ⟨yX_A n0 n16 C KK TT U S4, ⟨w1, by omega⟩, ⟨fun u hu q => ?_, ⟨fun u hu => ?_, ?_⟩, ?_, ?_, ?_⟩, ⟨fun u hu q => ?_, fun u hu => ?_, ?_, ?_, ?_⟩⟩
    · rw [E2.1 27 (by decide) (by decide)]; exact (TT.2.2.1 u hu (k1 u hu q)).1
    · rw [F1.2.1 _ (by decide)]; exact a1 u hu
    · exact (F1.1 _ _ (by decide)).trans a2
    · exact yL_AC a4 (fun a l1 l2 => F1.2.1 a (fun q => by
        have : ∀ x, x ∈ [60, 62, 65] → 45 < x := by decide
        have := this a q; omega))
    · exact (F1.1 _ _ (by decide)).trans ph
    · exact (d3.1 _ _ (by decide)).trans (by rw [hh1]; rfl)
    · rw [E2.2.1 89 (by decide) (by decide)]; exact (TT.2.2.1 u hu (k1 u hu q)).2
    · rw [F2.2.1 _ (by decide)]; exact b1 u hu
    · exact yL_AM b3 (fun a l1 l2 => F2.2.1 a (fun q => by
        have : ∀ x, x ∈ [114, 119] → 108 < x := by decide
        have := this a q; omega))
    · exact E2.2.2.2.2.1.trans HB.1.2.1
    · rw [F2.2.2 _ List.not_mem_nil, (cc (nb - 1) (by omega)).2, w1]; rfl
  · refine ⟨d5, ⟨d6.1, d6.2 _⟩, ⟨?_, ?_, ?_, ?_⟩, d8.trans d9.symm⟩
    · exact (F1.1 _ _ (by decide)).trans (z4.trans ((d4.1 _ _ (by decide)).trans (by rw [hg1]; rfl)).symm)
    · exact (F1.1 _ _ (by decide)).trans (z2.trans ((d4.1 _ _ (by decide)).trans (by rw [hg1]; rfl)).symm)
    · exact (F1.1 _ _ (by decide)).trans (z3.trans ((d4.1 _ _ (by decide)).trans (by rw [hg1]; rfl)).symm)
    · exact (F1.1 _ _ (by decide)).trans (z1.trans ((d4.1 _ _ (by decide)).trans (by rw [hg1]; rfl)).symm)
  · refine ⟨(F1.1 _ _ (by decide)).trans bh, ?_, ?_⟩
    · exact (F1.1 _ _ (by decide)).trans (a3.trans ((F2.1 _ _ (by decide)).trans b2).symm)
    · exact E2.2.2.1.2.2.2.2.trans (TT.2.1.1.trans (E2.2.2.2.2.2.2.trans TT.2.1.2.1).symm)
end YLD
end
