/-! The cells of a text that begins: the class, that copies. -/
/-- where the first of each block lies -/
def yB_I (X F : Nat → Nat) (nb : Nat) (h0 h : zs_H) (c : Nat → Int32) (Q : Nat → Nat → Prop) : Prop := ∀ u, u < nb → (h.2.1 65) u = -1 ∨ ∃ a, (h.2.1 65) u = nI a ∧ a + X u ≤ 8192 ∧ (∀ t, t < X u → c (a + t) = yB_p F h0 u t) ∧ Q u a
/-- the class's plan is as it was -/
def yB_E (h0 h : zs_H) : Prop := ∀ a, 20 ≤ a → a ≤ 37 → h.2.1 a = h0.2.1 a
section YBC
variable {LC LM : List (List Int32)} {nb b : Nat} {F X Y : Nat → Nat} {h0 g0 : zs_H} {r : zs_H → Int32 → Int32 → Int32 → Option zs_H} {k18 : zs_H → Int32 → Int32 → Int32 → Int32 → Option zs_H}
theorem yB_Ef {h h' : zs_H} {ms : List Nat} (E : yB_E h0 h) (f : zfr [] ms [] h h') (d : ∀ a, a ∈ ms → 38 ≤ a := by decide) : yB_E h0 h' := fun a h1 h2 => (f.2.1 a (fun z => by have := d a z; omega)).trans (E a h1 h2)
theorem yB_C87 {v p s base x3 : Nat} {k : Int32} (hv : 32 + v < 6000) (hs : (h0.2.1 34) (32 + v) = nI s) (hk : (h0.2.1 35) (32 + v) = k) (hp : p + s ≤ 8192) : ∀ (m t N : Nat) (h : zs_H) (c : Nat → Int32), t + m = s → m < N → yB_E h0 h → (∀ j, j < 8192 → (h.2.1 62) j = c j) → (∀ j, p ≤ j → j < p + t → c j = k) → ∃ h', f_Mc_setConstants_L87 r k18 N h (nI (9 + b)) (nI base) (nI x3) (nI (32 + v)) (nI p) (nI t) = k18 h' (nI (9 + b)) (nI base) (nI x3) (nI (32 + (v + 1))) ∧ zfr [] [62] [] h h' ∧ ∀ j, j < 8192 → (h'.2.1 62) j = if p ≤ j ∧ j < p + s then k else c j := by
  intro m
  induction m with
  | zero =>
    intro t N h c e hN f hc hd
    obtain ⟨N, rfl⟩ : ∃ z, N = z + 1 := ⟨N - 1, by omega⟩
    refine ⟨h, ?_, zfr_rfl, fun j hj => ?_⟩
    · show f_Mc_setConstants_87 r k18 (f_Mc_setConstants_L87 r k18 N) h (nI (9 + b)) (nI base) (nI x3) (nI (32 + v)) (nI p) (nI t) = _
      unfold f_Mc_setConstants_87 f_Mc_setConstants_127
      rw [if_pos (zi_in (by omega) hv), nI_clamp (n := 32 + v) (by omega), f 34 (by decide) (by decide), hs, if_pos ((nI_leI (by omega) (by omega)).mpr (by omega)), show nI (32 + v) + 1 = nI (32 + (v + 1)) from zc_ad 1 (32 + v)]
    · rw [hc j hj]
      by_cases z : p ≤ j ∧ j < p + s
      · rw [if_pos z]; exact hd j z.1 (by omega)
      · rw [if_neg z]
  | succ m ih =>
    intro t N h c e hN f hc hd
    obtain ⟨N, rfl⟩ : ∃ z, N = z + 1 := ⟨N - 1, by omega⟩
    have H : yT_S 62 h h c := ⟨zfr_rfl, hc⟩
    obtain ⟨h1, a1, a2, a3⟩ := yT_cbe (v := k) H (show p + t < 8192 by omega)
    obtain ⟨h', b1, b2, b3⟩ := ih (t + 1) N h1 (yE_u c (p + t) k) (by omega) (by omega) (yB_Ef f a2) a3 (fun j h1 h2 => by
      show (if j = p + t then k else c j) = k
      by_cases z : j = p + t
      · rw [if_pos z]
      · rw [if_neg z]; exact hd j h1 (by omega))
    refine ⟨h', ?_, zfr_trans a2 b2, fun j hj => (b3 j hj).trans ?_⟩
    · refine Eq.trans ?_ b1
      show f_Mc_setConstants_87 r k18 (f_Mc_setConstants_L87 r k18 N) h (nI (9 + b)) (nI base) (nI x3) (nI (32 + v)) (nI p) (nI t) = _
      unfold f_Mc_setConstants_87
      rw [if_pos (zi_in (by omega) hv), nI_clamp (n := 32 + v) (by omega), f 34 (by decide) (by decide), f 35 (by decide) (by decide), hs, hk, if_neg (mt (nI_leI (by omega) (by omega)).mp (by omega)), nI_add, a1, Option.bind_some, show nI t + 1 = nI (t + 1) from zc_ad 1 t]
    · show (if p ≤ j ∧ j < p + s then k else if j = p + t then k else c j) = _
      by_cases z : p ≤ j ∧ j < p + s
      · rw [if_pos z, if_pos z]
      · rw [if_neg z, if_neg z, if_neg (by omega)]
/-- a part is begun: blocks below b -/
def yB_H (nb b : Nat) (F X : Nat → Nat) (h0 : zs_H) (r : zs_H → Int32 → Int32 → Int32 → Option zs_H) : Prop := ∀ (u base x3 : Nat) (c : Nat → Int32) (h : zs_H), u < b → base + X u ≤ 8192 → x3 + u ≤ 16 → yB_E h0 h → (∀ j, j < 8192 → (h.2.1 62) j = c j) → (∀ t, t < X u → c (base + t) = 0) → yB_I X F nb h0 h c (fun w a => ∀ t, t < X w → ¬ (base ≤ a + t ∧ a + t < base + X u)) → ∃ h', r h (nI (9 + u)) (nI base) (nI x3) = some h' ∧ zfr [] [62, 65] [] h h' ∧ (∀ j, j < 8192 → (h'.2.1 62) j = yB_F F h0 (u + 1) u base c j) ∧ yB_I X F nb h0 h' (yB_F F h0 (u + 1) u base c) (fun w a => (h.2.1 65) w = nI a ∨ (base ≤ a ∧ a + X w ≤ base + X u))
theorem yB_C18 {base x3 : Nat} (C : yk_cx LC LM nb F X Y h0 g0) (n16 : nb ≤ 16) (hb : b < nb) (hX : base + X b ≤ 8192) (h3 : x3 + b ≤ 16) (R : yB_H nb b F X h0 r) : ∀ (m v N : Nat) (c : Nat → Int32) (h : zs_H), v + m = F (b + 1) → F b ≤ v → m < N → yB_E h0 h → (∀ j, j < 8192 → (h.2.1 62) j = c j) → (∀ w x s, v ≤ w → w < F (b + 1) → ¬ (h0.2.1 30) (32 + w) = -1 → ¬ (h0.2.1 30) (32 + w) = -2 → (h0.2.1 32) (32 + w) = nI x → (h0.2.1 34) (32 + w) = nI s → x + s ≤ 5000 → ∀ t, t < s → c (base + x + t) = 0) → yB_I X F nb h0 h c (fun u a => (∀ t, t < X u → ¬ (base ≤ a + t ∧ a + t < base + X b)) ∨ ∃ w x s, (F b ≤ w ∧ w < v) ∧ ¬ (h0.2.1 30) (32 + w) = -1 ∧ (h0.2.1 32) (32 + w) = nI x ∧ (h0.2.1 34) (32 + w) = nI s ∧ x + s ≤ 5000 ∧ base + x ≤ a ∧ a + X u ≤ base + x + s) → ∃ h', f_Mc_setConstants_L18 r N h (nI (9 + b)) (nI base) (nI x3) (nI (32 + v)) = some h' ∧ zfr [] [62, 65] [] h h' ∧ (∀ j, j < 8192 → (h'.2.1 62) j = yB_r (fun u => yB_F F h0 (u + 1) u) h0 base m v c j) ∧ yB_I X F nb h0 h' (yB_r (fun u => yB_F F h0 (u + 1) u) h0 base m v c) (fun u a => (h.2.1 65) u = nI a ∨ (base ≤ a ∧ a + X u ≤ base + X b)) := by
  have hz := zF_big
  have kB := (C.2.2 b hb).1
  have V3 : F nb ≤ 5900 := C.1.2.1.2.1.2.2
  have hF := C.1.2.1.2.2.2.1 b hb
  have O : yB_o X b (fun u => yB_F F h0 (u + 1) u) := fun u base c j hu hj => (yB_FO C (u + 1) (u + 1) (by omega) (Nat.le_refl _)).1 u base c j (by omega) hj
  intro m
  induction m with
  | zero =>
    intro v N c h e hv hN f hc _ hI
    obtain ⟨N, rfl⟩ : ∃ z, N = z + 1 := ⟨N - 1, by omega⟩
    refine ⟨h, ?_, zfr_rfl, hc, fun u hu => (hI u hu).imp id (fun ⟨a, a1, a2, a3, _⟩ => ⟨a, a1, a2, a3, .inl a1⟩)⟩
    show f_Mc_setConstants_18 r (f_Mc_setConstants_L18 r N) h (nI (9 + b)) (nI base) (nI x3) (nI (32 + v)) = _
    unfold f_Mc_setConstants_18
    rw [if_pos (zi_in (by omega) (by omega)), nI_clamp (by omega), f 24 (by decide) (by decide), (C.1.2.1.2.2.2.2.2.1 b hb).2.2, if_pos ((nI_leI (by omega) (by omega)).mpr (by omega))]
  | succ m ih =>
    intro v N c h e hv hN f hc hZ hI
    obtain ⟨N, rfl⟩ : ∃ z, N = z + 1 := ⟨N - 1, by omega⟩
    have hv2 : v < F (b + 1) := by omega
    obtain ⟨x, s, ⟨q1, _⟩, ⟨q2, _⟩, _, ⟨q4, q5, q6⟩, q7⟩ := yB_var C hb hv hv2
    obtain ⟨x0, s0, y1, y2, _, y4, _⟩ := yq_var C hb hv hv2
    have exx : x0 = x := (nI_eq (by omega) (by omega)).mp (y1.symm.trans q1)
    have ess : s0 = s := (nI_eq (by omega) (by omega)).mp (y2.symm.trans q2)
    subst exx; subst ess
    have hZ' : ∀ c2 : Nat → Int32, (∀ j, ¬ (base + x0 ≤ j ∧ j < base + x0 + s0) → c2 j = c j) → ∀ w x s, v + 1 ≤ w → w < F (b + 1) → ¬ (h0.2.1 30) (32 + w) = -1 → ¬ (h0.2.1 30) (32 + w) = -2 → (h0.2.1 32) (32 + w) = nI x → (h0.2.1 34) (32 + w) = nI s → x + s ≤ 5000 → ∀ t, t < s → c2 (base + x + t) = 0 := by
      intro c2 hc2 w x s w1 w2 w3 w4 w5 w6 w7 t ht
      rw [hc2 (base + x + t) (fun z => ?_)]
      · exact hZ w x s (by omega) w2 w3 w4 w5 w6 w7 t ht
      · exact yq_ap (u := v) (v := w) (x := x0) (s := s0) (x' := x) (s' := s) (j := x + t - x0) (t := t) C hb ⟨hv, hv2⟩ ⟨by omega, w2⟩ (by omega) q1 q2 w5 w6 (by omega) y4 w3 (by omega) ht (by omega)
    have e0 : f_Mc_setConstants_L18 r (N + 1) h (nI (9 + b)) (nI base) (nI x3) (nI (32 + v)) = (if (h0.2.1 30) (32 + v) < 9 then (if 0 ≤ (h0.2.1 30) (32 + v) then f_Mc_setConstants_L18 r N h (nI (9 + b)) (nI base) (nI x3) (nI (32 + (v + 1))) else f_Mc_setConstants_L87 r (f_Mc_setConstants_L18 r N) zF h (nI (9 + b)) (nI base) (nI x3) (nI (32 + v)) (nI (base + x0)) 0) else ((r h ((h0.2.1 30) (32 + v)) (nI (base + x0)) (nI (x3 + 1))).bind fun h7 => f_Mc_setConstants_L18 r N h7 (nI (9 + b)) (nI base) (nI x3) (nI (32 + (v + 1))))) := by
      show f_Mc_setConstants_18 r (f_Mc_setConstants_L18 r N) h (nI (9 + b)) (nI base) (nI x3) (nI (32 + v)) = _
      unfold f_Mc_setConstants_18 f_Mc_setConstants_127
      rw [if_pos (zi_in (by omega) (by omega)), nI_clamp (n := 9 + b) (by omega), f 24 (by decide) (by decide), (C.1.2.1.2.2.2.2.2.1 b hb).2.2, if_neg (mt (nI_leI (by omega) (by omega)).mp (by omega)), if_pos (zi_in (by omega) (by omega)), nI_clamp (n := 32 + v) (by omega), f 30 (by decide) (by decide), f 32 (by decide) (by decide), q1, nI_add, show nI (32 + v) + 1 = nI (32 + (v + 1)) from zc_ad 1 (32 + v), show nI x3 + 1 = nI (x3 + 1) from zc_ad 1 x3]
    rw [e0]
    show ∃ h' : zs_H, _ = some h' ∧ _ ∧ (∀ j, j < 8192 → (h'.2.1 62) j = yB_r (fun u => yB_F F h0 (u + 1) u) h0 base m (v + 1) (yB_v (fun u => yB_F F h0 (u + 1) u) h0 base v c) j) ∧ yB_I X F nb h0 h' (yB_r (fun u => yB_F F h0 (u + 1) u) h0 base m (v + 1) (yB_v (fun u => yB_F F h0 (u + 1) u) h0 base v c)) _
    have vo : ∀ j, ¬ (base + x0 ≤ j ∧ j < base + x0 + s0) → yB_v (fun u => yB_F F h0 (u + 1) u) h0 base v c j = c j := fun j hj => yB_vo C hb hv hv2 O q1 q2 (by omega) hj
    have apart : ∀ a l, ((∀ t, t < l → ¬ (base ≤ a + t ∧ a + t < base + X b)) ∨ ∃ w x s, (F b ≤ w ∧ w < v) ∧ ¬ (h0.2.1 30) (32 + w) = -1 ∧ (h0.2.1 32) (32 + w) = nI x ∧ (h0.2.1 34) (32 + w) = nI s ∧ x + s ≤ 5000 ∧ base + x ≤ a ∧ a + l ≤ base + x + s) → ∀ t, t < l → ¬ (base + x0 ≤ a + t ∧ a + t < base + x0 + s0) := by
      rintro a l (z | ⟨w, x, s, ⟨w1, w2⟩, w3, w4, w5, w6, w7, w8⟩) t ht y
      · exact z t ht (by omega)
      · exact yq_ap (u := v) (v := w) (x := x0) (s := s0) (x' := x) (s' := s) (j := a + t - base - x0) (t := a + t - base - x) C hb ⟨hv, hv2⟩ ⟨w1, by omega⟩ (by omega) q1 q2 w4 w5 (by omega) y4 w3 (by omega) (by omega) (by omega)
    have keep : ∀ h2 : zs_H, (∀ u, u < nb → (h2.2.1 65) u = (h.2.1 65) u) → yB_I X F nb h0 h2 (yB_v (fun u => yB_F F h0 (u + 1) u) h0 base v c) (fun u a => (∀ t, t < X u → ¬ (base ≤ a + t ∧ a + t < base + X b)) ∨ ∃ w x s, (F b ≤ w ∧ w < v + 1) ∧ ¬ (h0.2.1 30) (32 + w) = -1 ∧ (h0.2.1 32) (32 + w) = nI x ∧ (h0.2.1 34) (32 + w) = nI s ∧ x + s ≤ 5000 ∧ base + x ≤ a ∧ a + X u ≤ base + x + s) := by
      intro h2 e2 u hu
      rw [e2 u hu]
      refine (hI u hu).imp id ?_
      rintro ⟨a, a1, a2, a3, a4⟩
      refine ⟨a, a1, a2, fun t ht => (vo _ (apart a _ a4 t ht)).trans (a3 t ht), a4.imp id ?_⟩
      rintro ⟨w, x, s, ⟨w1, w2⟩, w3⟩
      exact ⟨w, x, s, ⟨w1, by omega⟩, w3⟩
    rcases q7 with ⟨i1, _, ev⟩ | ⟨B, hB, i1, _, _, ev⟩ | ⟨u, hu, i1, _, _, es, k2, ev⟩
    · have i0 : (h0.2.1 30) (32 + v) < 9 ∧ ¬ 0 ≤ (h0.2.1 30) (32 + v) := by
        rcases i1 with z | z <;> rw [z] <;> decide
      rw [if_pos i0.1, if_neg i0.2, show (0 : Int32) = nI 0 from rfl]
      obtain ⟨h1, a1, a2, a3⟩ := yB_C87 (r := r) (k18 := f_Mc_setConstants_L18 r N) (b := b) (base := base) (x3 := x3) (h0 := h0) (v := v) (p := base + x0) (s := s0) (k := (h0.2.1 35) (32 + v)) (by omega) q2 rfl (by omega) s0 0 zF h c (by omega) (by omega) f hc (fun j h1 h2 => by omega)
      rw [a1]
      have a3' : ∀ j, j < 8192 → (h1.2.1 62) j = yB_v (fun u => yB_F F h0 (u + 1) u) h0 base v c j := by rw [ev]; exact a3
      have fi : ∀ u, (h1.2.1 65) u = (h.2.1 65) u := fun u => by rw [a2.2.1 _ (by decide)]
      obtain ⟨h', b1, b2, b3, b4⟩ := ih (v + 1) N _ h1 (by omega) (by omega) (by omega) (yB_Ef f a2) a3' (hZ' _ vo) (keep h1 (fun u _ => fi u))
      refine ⟨h', b1, zfr_trans (zfr_w a2 (by decide) (by decide) (by decide)) b2, b3, fun u hu => (b4 u hu).imp id ?_⟩
      rintro ⟨a, p1, p2, p3, p4⟩
      exact ⟨a, p1, p2, p3, p4.imp (fun z => (fi u).symm.trans z) id⟩
    · rw [if_pos (by rw [i1]; exact (zc_tl (k := 9) (by decide) (by omega)).mpr hB), if_pos (by rw [i1]; exact (zc_le (k := 0) (by decide) (by omega)).mpr (by omega))]
      have ek := keep h (fun _ _ => rfl)
      rw [ev] at ek ⊢
      exact ih (v + 1) N c h (by omega) (by omega) (by omega) f hc (hZ' c (fun _ _ => rfl)) ek
    · have ni : ¬ (h0.2.1 30) (32 + v) = -1 := fun z => zc_m1 (by omega) (i1.symm.trans z)
      have ni2 : ¬ (h0.2.1 30) (32 + v) = -2 := fun z => yq_m2 (by omega) (i1.symm.trans z)
      rw [if_neg (by rw [i1]; exact mt (zc_tl (k := 9) (by decide) (by omega)).mp (by omega)), i1]
      obtain ⟨h1, a1, a2, a3, a4⟩ := R u (base + x0) (x3 + 1) c h hu (by omega) (by omega) f hc (fun t ht => hZ v x0 s0 (Nat.le_refl _) hv2 ni ni2 q1 q2 (by omega) t (by omega)) (fun w hw => (hI w hw).imp id (fun ⟨a, p1, p2, p3, p4⟩ => ⟨a, p1, p2, p3, fun t ht y => apart a _ p4 t ht (by omega)⟩))
      rw [a1, Option.bind_some]
      have ev' : yB_v (fun u => yB_F F h0 (u + 1) u) h0 base v c = yB_F F h0 (u + 1) u (base + x0) c := ev base _ c
      rw [ev'] at vo ⊢
      have I2 : yB_I X F nb h0 h1 (yB_F F h0 (u + 1) u (base + x0) c) (fun u a => (∀ t, t < X u → ¬ (base ≤ a + t ∧ a + t < base + X b)) ∨ ∃ w x s, (F b ≤ w ∧ w < v + 1) ∧ ¬ (h0.2.1 30) (32 + w) = -1 ∧ (h0.2.1 32) (32 + w) = nI x ∧ (h0.2.1 34) (32 + w) = nI s ∧ x + s ≤ 5000 ∧ base + x ≤ a ∧ a + X u ≤ base + x + s) := by
        intro w hw
        refine (a4 w hw).imp id ?_
        rintro ⟨a, p1, p2, p3, p4⟩
        refine ⟨a, p1, p2, p3, ?_⟩
        rcases p4 with z | z
        · rcases hI w hw with y | ⟨a', y1, y2, y3, y4⟩
          · exact absurd (z.symm.trans y) (zc_m1 (by omega))
          · have ea : a' = a := (nI_eq (by omega) (by omega)).mp (y1.symm.trans z)
            subst ea
            refine y4.imp id ?_
            rintro ⟨w', x, s, ⟨w1, w2⟩, w3⟩
            exact ⟨w', x, s, ⟨w1, by omega⟩, w3⟩
        · exact .inr ⟨v, x0, s0, ⟨hv, by omega⟩, ni, q1, q2, by omega, by omega, by omega⟩
      obtain ⟨h', b1, b2, b3, b4⟩ := ih (v + 1) N _ h1 (by omega) (by omega) (by omega) (yB_Ef f a2) a3 (hZ' _ vo) I2
      refine ⟨h', b1, zfr_trans a2 b2, b3, fun w hw => (b4 w hw).imp id ?_⟩
      rintro ⟨a, p1, p2, p3, p4⟩
      refine ⟨a, p1, p2, p3, ?_⟩
      rcases p4 with z | z
      · rcases a4 w hw with y | ⟨a', y1, y2, y3, y4⟩
        · exact absurd (z.symm.trans y) (zc_m1 (by omega))
        · have ea : a' = a := (nI_eq (by omega) (by omega)).mp (y1.symm.trans z)
          subst ea
          exact y4.imp id (fun y => ⟨by omega, by omega⟩)
      · exact .inr z
theorem yB_CB {r : zs_H → Int32 → Int32 → Int32 → Option zs_H} (C : yk_cx LC LM nb F X Y h0 g0) (n16 : nb ≤ 16) (hb : b ≤ nb) (S : yB_H nb b F X h0 r) : yB_H nb b F X h0 (g_Mc_beginInstance r) := by
  intro u base x3 c h hu hX h3 f hc hZ hI
  have hun : u < nb := by omega
  have kU := (C.2.2 u hun).1
  have eX : (h.2.1 26) (9 + u) = nI (X u) := by rw [f 26 (by decide) (by decide)]; exact (C.2.2 u hun).2.1
  have e0 : g_Mc_beginInstance r h (nI (9 + u)) (nI base) (nI x3) = (if (h.2.1 65) u = -1 then ((r h (nI (9 + u)) (nI base) (nI x3)).bind fun h10 => some (zs_uM h10 65 u (nI base))) else (if zs_cpok ((h.2.1 65) u) (nI base) (nI (X u)) 8192 then some (zs_cp h 62 ((h.2.1 65) u).toNatClampNeg base (X u)) else none)) := by
    unfold g_Mc_beginInstance
    rw [if_pos (zi_in (by omega) (by omega)), show nI (9 + u) - 9 = nI u by
      have := zi_sub (a := 9 + u) (b := 9) (by omega)
      rw [show 9 + u - 9 = u by omega] at this
      exact this, if_neg (mt (zc_tl (k := 0) (by decide) (by omega)).mp (by omega)), if_neg (mt (zc_le (k := 16) (by decide) (by omega)).mp (by omega)), if_neg (mt (zc_tl (k := 0) (by decide) (by omega)).mp (by omega)), nI_clamp (n := 9 + u) (by omega), eX, nI_add, if_pos ((zc_el (k := 8192) (by decide) (by omega)).mpr hX)]
    simp only [if_pos (zi_in (show u < 2147483648 by omega) (show u < 16 by omega)), nI_clamp (show u < 2147483648 by omega), nI_clamp (show base < 2147483648 by omega), nI_clamp (show X u < 2147483648 by omega)]
  rw [e0]
  by_cases z : (h.2.1 65) u = -1
  · rw [if_pos z]
    obtain ⟨h1, a1, a2, a3, a4⟩ := S u base x3 c h hu hX h3 f hc hZ hI
    rw [a1, Option.bind_some]
    have fi : ∀ w, ((zs_uM h1 65 u (nI base)).2.1 65) w = if w = u then nI base else (h1.2.1 65) w := fun w => zu_MM.trans (by
      by_cases y : w = u
      · rw [if_pos ⟨rfl, y⟩, if_pos y]
      · rw [if_neg (fun q => y q.2), if_neg y])
    refine ⟨_, rfl, zfr_M (by decide) a2, fun j hj => (zu_MM.trans (if_neg fun q => absurd q.1 (by decide))).trans (a3 j hj), fun w hw => ?_⟩
    rw [fi w]
    by_cases y : w = u
    · subst y
      rw [if_pos rfl]
      exact .inr ⟨base, rfl, hX, fun t ht => yB_pt C hun (by omega) hZ ht, .inr ⟨Nat.le_refl _, Nat.le_refl _⟩⟩
    · rw [if_neg y]
      exact a4 w hw
  · rw [if_neg z]
    obtain ⟨a, p1, p2, p3, p4⟩ := (hI u hun).resolve_left z
    rw [p1, if_pos ⟨nI_pos (by omega), nI_pos (by omega), nI_pos (by omega), by rw [nI_clamp (by omega), nI_clamp (by omega)]; exact p2, by rw [nI_clamp (by omega), nI_clamp (by omega)]; exact hX⟩, nI_clamp (n := a) (by omega)]
    have cp : ∀ j, ((zs_cp h 62 a base (X u)).2.1 62) j = if base ≤ j ∧ j < base + X u then (h.2.1 62) (a + (j - base)) else (h.2.1 62) j := fun j => rfl
    have O := (yB_FO C (u + 1) (u + 1) (by omega) (Nat.le_refl _)).1
    refine ⟨_, rfl, ⟨fun _ _ _ => rfl, fun k hk => ?_, fun _ _ => rfl⟩, fun j hj => ?_, fun w hw => (hI w hw).imp id ?_⟩
    · have nk : ¬ k = 62 := fun e => hk (by rw [e]; decide)
      funext j
      exact if_neg nk
    · rw [cp j]
      by_cases y : base ≤ j ∧ j < base + X u
      · obtain ⟨t, rfl⟩ : ∃ t, j = base + t := ⟨j - base, by omega⟩
        rw [if_pos y, Nat.add_sub_cancel_left, hc (a + t) (by omega), p3 t (by omega), yB_pt C hun (by omega) hZ (by omega)]
      · rw [if_neg y, hc j hj, O u base c j (by omega) y]
    · rintro ⟨a', y1, y2, y3, y4⟩
      exact ⟨a', y1, y2, fun t ht => (O u base c _ (by omega) (y4 t ht)).trans (y3 t ht), .inl y1⟩
theorem yB_CS (C : yk_cx LC LM nb F X Y h0 g0) (n16 : nb ≤ 16) : ∀ (b d : Nat), b ≤ nb → 2 * b ≤ d → yB_H nb b F X h0 (f_Mc_setConstants d) := by
  have hz := zF_big
  intro b
  induction b with
  | zero => intro d _ _ u base x3 c h hu; omega
  | succ b ih =>
    intro d hb hd u base x3 c h hu hX h3 f hc hZ hI
    by_cases y : u = b
    · subst y
      have hun : u < nb := by omega
      obtain ⟨d, rfl⟩ : ∃ z, d = z + 2 := ⟨d - 2, by omega⟩
      have kU := (C.2.2 u hun).1
      have V3 : F nb ≤ 5900 := C.1.2.1.2.1.2.2
      have hF := C.1.2.1.2.2.2.1 u hun
      obtain ⟨h', a1, a2, a3, a4⟩ := yB_C18 (r := g_Mc_beginInstance (f_Mc_setConstants d)) (base := base) (x3 := x3) C n16 hun hX h3 (yB_CB C n16 (by omega) (ih d (by omega) (by omega))) (F (u + 1) - F u) (F u) zF c h (by omega) (Nat.le_refl _) (by omega) f hc (fun w x s w1 w2 _ _ w3 w4 w5 t ht => by
        obtain ⟨x', s', ⟨q1, _⟩, ⟨q2, _⟩, _, ⟨q4, _, _⟩, _⟩ := yB_var C hun w1 w2
        have ex : x' = x := (nI_eq (by omega) (by omega)).mp (q1.symm.trans w3)
        have es : s' = s := (nI_eq (by omega) (by omega)).mp (q2.symm.trans w4)
        rw [Nat.add_assoc]
        exact hZ (x + t) (by omega)) (fun w hw => (hI w hw).imp id (fun ⟨a, p1, p2, p3, p4⟩ => ⟨a, p1, p2, p3, .inl p4⟩))
      have eF : yB_F F h0 (u + 1) u base c = yB_r (fun u => yB_F F h0 (u + 1) u) h0 base (F (u + 1) - F u) (F u) c := yB_rc C hun (fun w hw => yB_fu C u (w + 1) w (by omega) hw (by omega)) (F (u + 1) - F u) (F u) c (by omega) (Nat.le_refl _)
      refine ⟨h', ?_, a2, by rw [eF]; exact a3, by rw [eF]; exact a4⟩
      show g_Mc_setConstants (g_Mc_beginInstance (f_Mc_setConstants d)) h (nI (9 + u)) (nI base) (nI x3) = _
      unfold g_Mc_setConstants
      rw [if_pos ((zc_el (k := 16) (by decide) (by omega)).mpr (by omega)), if_pos (zi_in (by omega) (by omega)), nI_clamp (by omega), f 23 (by decide) (by decide), (C.1.2.1.2.2.2.2.2.1 u hun).1]
      exact a1
    · exact ih d (by omega) (by omega) u base x3 c h (by omega) hX h3 f hc hZ hI
end YBC
