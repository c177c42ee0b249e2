/-! The cells of a text that begins: what they are; the model. -/
/-- one variable -/
def yB_v (fl : Nat → Nat → (Nat → Int32) → Nat → Int32) (h : zs_H) (base v : Nat) (c : Nat → Int32) : Nat → Int32 :=
  if (h.2.1 30) (32 + v) = -1 ∨ (h.2.1 30) (32 + v) = -2 then fun j => if base + ((h.2.1 32) (32 + v)).toNatClampNeg ≤ j ∧ j < base + ((h.2.1 32) (32 + v)).toNatClampNeg + ((h.2.1 34) (32 + v)).toNatClampNeg then (h.2.1 35) (32 + v) else c j
  else if ((h.2.1 30) (32 + v)).toNatClampNeg < 9 then c
  else fl (((h.2.1 30) (32 + v)).toNatClampNeg - 9) (base + ((h.2.1 32) (32 + v)).toNatClampNeg) c
def yB_r (fl : Nat → Nat → (Nat → Int32) → Nat → Int32) (h : zs_H) (base : Nat) : Nat → Nat → (Nat → Int32) → Nat → Int32
  | 0, _, c => c
  | m + 1, v, c => yB_r fl h base m (v + 1) (yB_v fl h base v c)
def yB_F (F : Nat → Nat) (h : zs_H) : Nat → Nat → Nat → (Nat → Int32) → Nat → Int32
  | 0, _, _, c => c
  | n + 1, b, base, c => yB_r (yB_F F h n) h base (F (b + 1) - F b) (F b) c
/-- the model's variables are as they were -/
def yB_e (g0 g : zs_H) : Prop := ((g.1 68 33) = (g0.1 68 33) ∧ (g.1 68 41) = (g0.1 68 41)) ∧ ∀ a, a ∈ [86, 89, 90, 92, 93, 94, 98, 99] → g.2.1 a = g0.2.1 a
theorem yB_ef {g0 g g' : zs_H} {ms : List Nat} (e : yB_e g0 g) (f : zfr [] ms [] g g') (d : ∀ a, a ∈ [86, 89, 90, 92, 93, 94, 98, 99] → ¬ a ∈ ms := by decide) : yB_e g0 g' := ⟨⟨(f.1 _ _ List.not_mem_nil).trans e.1.1, (f.1 _ _ List.not_mem_nil).trans e.1.2⟩, fun a ha => (f.2.1 a (d a ha)).trans (e.2 a ha)⟩
section YBM
variable {LC LM : List (List Int32)} {nb b : Nat} {F X Y : Nat → Nat} {h0 g0 g : zs_H} {fl : Nat → Nat → (Nat → Int32) → Nat → Int32} {r : zs_H → Int32 → Int32 → Option zs_H} {k7 : zs_H → Int32 → Int32 → Int32 → Option zs_H} {c : Nat → Int32}
/-- what one variable is, on both sides -/
theorem yB_var {v : Nat} (C : yk_cx LC LM nb F X Y h0 g0) (hb : b < nb) (h1 : F b ≤ v) (h2 : v < F (b + 1)) : ∃ x s, ((h0.2.1 32) (32 + v) = nI x ∧ (g0.2.1 94) v = nI x) ∧ ((h0.2.1 34) (32 + v) = nI s ∧ (g0.2.1 98) v = nI s) ∧ (g0.2.1 99) v = (h0.2.1 35) (32 + v) ∧ (x + s ≤ Y b ∧ Y b ≤ 4096 ∧ v < 5900) ∧ ((((h0.2.1 30) (32 + v) = -1 ∨ (h0.2.1 30) (32 + v) = -2) ∧ ¬ (g0.2.1 92) v = 2 ∧ ∀ base fl' c', yB_v fl' h0 base v c' = fun j => if base + x ≤ j ∧ j < base + x + s then (h0.2.1 35) (32 + v) else c' j) ∨ (∃ B, B < 9 ∧ (h0.2.1 30) (32 + v) = nI B ∧ (g0.2.1 92) v = 2 ∧ (g0.2.1 93) v = nI (100000 + B) ∧ ∀ base fl' c', yB_v fl' h0 base v c' = c') ∨ (∃ u, u < b ∧ (h0.2.1 30) (32 + v) = nI (9 + u) ∧ (g0.2.1 92) v = 2 ∧ (g0.2.1 93) v = nI u ∧ s = X u ∧ (h0.2.1 21) (9 + u) = 2 ∧ ∀ base fl' c', yB_v fl' h0 base v c' = fl' u (base + x) c')) := by
  obtain ⟨ty, x, s, _, q1, q2, _, q4, ⟨q5, q6⟩, q7⟩ := yk_Q C hb h1 h2
  have kB := (C.2.2 b hb).1
  have B3 : nb ≤ 568 := C.1.2.1.1.2.2
  have ex : ((h0.2.1 32) (32 + v)).toNatClampNeg = x := by rw [q1.1]; exact nI_clamp (by omega)
  have es : ((h0.2.1 34) (32 + v)).toNatClampNeg = s := by rw [q2.1]; exact nI_clamp (by omega)
  refine ⟨x, s, q1, q2, q4, ⟨q5, kB.2.2, q6⟩, ?_⟩
  have simple : ((h0.2.1 30) (32 + v) = -1 ∨ (h0.2.1 30) (32 + v) = -2) → ∀ base fl' c', yB_v fl' h0 base v c' = fun j => if base + x ≤ j ∧ j < base + x + s then (h0.2.1 35) (32 + v) else c' j := fun z base fl' c' => by
    unfold yB_v
    rw [if_pos z, ex, es]
  rcases q7 with ⟨z, z2, _⟩ | ⟨z, z2, _⟩ | ⟨B, z1, z2, z3, z4, z5, z6⟩
  · exact .inl ⟨.inl z, by rw [z2]; decide, simple (.inl z)⟩
  · exact .inl ⟨.inr z, by rw [z2]; decide, simple (.inr z)⟩
  · have n1 : ¬ ((h0.2.1 30) (32 + v) = -1 ∨ (h0.2.1 30) (32 + v) = -2) := fun w => by
      rcases w with w | w
      · exact zc_m1 (by omega) (z2.symm.trans w)
      · exact yq_m2 (by omega) (z2.symm.trans w)
    have eB : ((h0.2.1 30) (32 + v)).toNatClampNeg = B := by rw [z2]; exact nI_clamp (by omega)
    by_cases h9 : B < 9
    · refine .inr (.inl ⟨B, h9, z2, z3, by rw [z4, if_pos h9], fun base fl' c' => ?_⟩)
      unfold yB_v
      rw [if_neg n1, eB, if_pos h9]
    · obtain ⟨u, rfl⟩ : ∃ u, B = 9 + u := ⟨B - 9, by omega⟩
      have es2 : s = X u := (nI_eq (by have := (C.2.2 u (by omega)).1; omega) (by have := (C.2.2 u (by omega)).1; omega)).mp (z6.symm.trans (C.2.2 u (by omega)).2.1)
      refine .inr (.inr ⟨u, by omega, z2, z3, by rw [z4, if_neg h9, show 9 + u - 9 = u by omega], es2, z5 (by omega), fun base fl' c' => ?_⟩)
      unfold yB_v
      rw [if_neg n1, eB, if_neg h9, ex, show 9 + u - 9 = u by omega]
theorem yB_end {g : zs_H} (B : zv_B LC LM nb F h0 g0) (hb : b < nb) (f : yB_e g0 g) : f_Mo_endOf g (nI b) = some (nI (F (b + 1))) := by
  have hn := B.1.2.2
  have e1 : (g.1 68 33) = nI nb := f.1.1.trans B.1.2.1
  have e2 : (g.1 68 41) = nI (F nb) := f.1.2.trans B.2.1.2.1
  unfold f_Mo_endOf
  rw [e1, e2, show nI nb - 1 = nI (nb - 1) from zi_sub (b := 1) (by omega)]
  by_cases z : b = nb - 1
  · rw [if_pos (by rw [z]), show b + 1 = nb by omega]
  · rw [if_neg (mt (nI_eq (by omega) (by omega)).mp z), show nI b + 1 = nI (b + 1) from zc_ad 1 b, if_pos (zi_in (by omega) (by omega)), nI_clamp (by omega), f.2 90 (by decide), (B.2.2.2.2.2.1 (b + 1) (by omega)).2.1]
theorem yB_M76 {v p s base : Nat} {k : Int32} (hv : v < 8400) (hs : (g0.2.1 98) v = nI s) (hk : (g0.2.1 99) v = k) (hp : p + s ≤ 8192) : ∀ (m t N : Nat) (g : zs_H) (c : Nat → Int32), t + m = s → m < N → yB_e g0 g → (∀ j, j < 8192 → (g.2.1 114) j = c j) → (∀ j, p ≤ j → j < p + t → c j = k) → ∃ g', f_Mo_fill_L76 r k7 N g (nI b) (nI base) (nI v) (nI p) (nI t) = k7 g' (nI b) (nI base) (nI (v + 1)) ∧ zfr [] [114] [] g g' ∧ ∀ j, j < 8192 → (g'.2.1 114) j = if p ≤ j ∧ j < p + s then k else c j := by
  intro m
  induction m with
  | zero =>
    intro t N g c e hN f hc hd
    obtain ⟨N, rfl⟩ : ∃ z, N = z + 1 := ⟨N - 1, by omega⟩
    refine ⟨g, ?_, zfr_rfl, fun j hj => ?_⟩
    · show f_Mo_fill_76 r k7 (f_Mo_fill_L76 r k7 N) g (nI b) (nI base) (nI v) (nI p) (nI t) = _
      unfold f_Mo_fill_76 f_Mo_fill_109
      rw [if_pos (zi_in (by omega) hv), nI_clamp (by omega), f.2 98 (by decide), hs, if_pos ((nI_leI (by omega) (by omega)).mpr (by omega)), show nI v + 1 = nI (v + 1) from zc_ad 1 v]
    · rw [hc j hj]
      by_cases z : p ≤ j ∧ j < p + s
      · rw [if_pos z]; exact hd j z.1 (by omega)
      · rw [if_neg z]
  | succ m ih =>
    intro t N g c e hN f hc hd
    obtain ⟨N, rfl⟩ : ∃ z, N = z + 1 := ⟨N - 1, by omega⟩
    obtain ⟨g', a1, a2, a3⟩ := ih (t + 1) N (zs_uM g 114 (p + t) k) (yE_u c (p + t) k) (by omega) (by omega) (yB_ef (ms := [114]) f (zfr_M (by decide) zfr_rfl)) (fun j hj => zu_MM.trans (by
      show (if 114 = 114 ∧ j = p + t then k else (g.2.1 114) j) = if j = p + t then k else c j
      by_cases z : j = p + t
      · rw [if_pos ⟨rfl, z⟩, if_pos z]
      · rw [if_neg (fun w => z w.2), if_neg z]; exact hc j hj)) (fun j h1 h2 => by
      show (if j = p + t then k else c j) = k
      by_cases z : j = p + t
      · rw [if_pos z]
      · rw [if_neg z]; exact hd j h1 (by omega))
    refine ⟨g', ?_, zfr_trans (zfr_M (by decide) zfr_rfl) a2, fun j hj => (a3 j hj).trans ?_⟩
    · refine Eq.trans ?_ a1
      show f_Mo_fill_76 r k7 (f_Mo_fill_L76 r k7 N) g (nI b) (nI base) (nI v) (nI p) (nI t) = _
      unfold f_Mo_fill_76
      rw [if_pos (zi_in (by omega) hv), nI_clamp (n := v) (by omega), f.2 98 (by decide), f.2 99 (by decide), hs, hk, if_neg (mt (nI_leI (by omega) (by omega)).mp (by omega)), nI_add, if_pos (zi_in (by omega) (by omega)), nI_clamp (n := p + t) (by omega), show nI t + 1 = nI (t + 1) from zc_ad 1 t]
    · show (if p ≤ j ∧ j < p + s then k else if j = p + t then k else c j) = _
      by_cases z : p ≤ j ∧ j < p + s
      · rw [if_pos z, if_pos z]
      · rw [if_neg z, if_neg z, if_neg (by omega)]
/-- what a filler of blocks below b does -/
def yB_h (X : Nat → Nat) (b : Nat) (fl : Nat → Nat → (Nat → Int32) → Nat → Int32) (g0 : zs_H) (r : zs_H → Int32 → Int32 → Option zs_H) : Prop := ∀ (u base : Nat) (c : Nat → Int32) (g : zs_H), u < b → base + X u ≤ 8192 → yB_e g0 g → (∀ j, j < 8192 → (g.2.1 114) j = c j) → ∃ g', r g (nI u) (nI base) = some g' ∧ zfr [] [114] [] g g' ∧ ∀ j, j < 8192 → (g'.2.1 114) j = fl u base c j
theorem yB_M7 {base : Nat} (C : yk_cx LC LM nb F X Y h0 g0) (hb : b < nb) (hX : base + X b ≤ 8192) (R : yB_h X b fl g0 r) : ∀ (m v N : Nat) (c : Nat → Int32) (g : zs_H), v + m = F (b + 1) → F b ≤ v → m < N → yB_e g0 g → (∀ j, j < 8192 → (g.2.1 114) j = c j) → ∃ g', f_Mo_fill_L7 r N g (nI b) (nI base) (nI v) = some g' ∧ zfr [] [114] [] g g' ∧ ∀ j, j < 8192 → (g'.2.1 114) j = yB_r fl h0 base m v c j := by
  have hz := zF_big
  have kB := (C.2.2 b hb).1
  have V3 : F nb ≤ 5900 := C.1.2.1.2.1.2.2
  have hF := C.1.2.1.2.2.2.1 b hb
  have B3 : nb ≤ 568 := C.1.2.1.1.2.2
  have eE : ∀ g, yB_e g0 g → f_Mo_endOf g (nI b) = some (nI (F (b + 1))) := fun g f => yB_end C.1.2.1 hb f
  intro m
  induction m with
  | zero =>
    intro v N c g e hv hN f hc
    obtain ⟨N, rfl⟩ : ∃ z, N = z + 1 := ⟨N - 1, by omega⟩
    refine ⟨g, ?_, zfr_rfl, hc⟩
    show f_Mo_fill_7 r (f_Mo_fill_L7 r N) g (nI b) (nI base) (nI v) = _
    unfold f_Mo_fill_7
    rw [eE g f, Option.bind_some, if_pos ((nI_leI (by omega) (by omega)).mpr (by omega))]
  | succ m ih =>
    intro v N c g e hv hN f hc
    obtain ⟨N, rfl⟩ : ∃ z, N = z + 1 := ⟨N - 1, by omega⟩
    obtain ⟨x, s, ⟨_, q1⟩, ⟨_, q2⟩, q3, ⟨q4, q5, q6⟩, q7⟩ := yB_var C hb hv (show v < F (b + 1) by omega)
    have hin : zd_in (nI v) 8400 := zi_in (by omega) (by omega)
    have e0 : f_Mo_fill_L7 r (N + 1) g (nI b) (nI base) (nI v) = (if (g0.2.1 92) v = 2 then (if 100000 ≤ (g0.2.1 93) v then f_Mo_fill_109 r (f_Mo_fill_L7 r N) g (nI b) (nI base) (nI v) else ((r g ((g0.2.1 93) v) (nI (base + x))).bind fun h8 => f_Mo_fill_109 r (f_Mo_fill_L7 r N) h8 (nI b) (nI base) (nI v))) else f_Mo_fill_L76 r (f_Mo_fill_L7 r N) zF g (nI b) (nI base) (nI v) (nI (base + x)) 0) := by
      show f_Mo_fill_7 r (f_Mo_fill_L7 r N) g (nI b) (nI base) (nI v) = _
      unfold f_Mo_fill_7 f_Mo_fill_63
      rw [eE g f, Option.bind_some, if_neg (mt (nI_leI (by omega) (by omega)).mp (by omega)), if_pos hin, if_pos hin, nI_clamp (n := v) (by omega), f.2 92 (by decide), f.2 93 (by decide), f.2 94 (by decide), q1, nI_add]
      by_cases z : (g0.2.1 92) v = 2
      · rw [if_pos z, if_pos z, if_pos z]
      · rw [if_neg z, if_neg z, if_neg z]
    have e1 : ∀ h, f_Mo_fill_109 r (f_Mo_fill_L7 r N) h (nI b) (nI base) (nI v) = f_Mo_fill_L7 r N h (nI b) (nI base) (nI (v + 1)) := fun h => by
      unfold f_Mo_fill_109
      rw [show nI v + 1 = nI (v + 1) from zc_ad 1 v]
    rw [e0]
    show ∃ g' : zs_H, _ = some g' ∧ _ ∧ ∀ j, j < 8192 → (g'.2.1 114) j = yB_r fl h0 base m (v + 1) (yB_v fl h0 base v c) j
    rcases q7 with ⟨_, n2, ev⟩ | ⟨B, hB, _, n2, n3, ev⟩ | ⟨u, hu, _, n2, n3, es, _, ev⟩
    · rw [if_neg n2, ev]
      obtain ⟨g1, a1, a2, a3⟩ := yB_M76 (r := r) (k7 := f_Mo_fill_L7 r N) (b := b) (base := base) (g0 := g0) (v := v) (p := base + x) (s := s) (k := (h0.2.1 35) (32 + v)) (by omega) q2 q3 (by omega) s 0 zF g c (by omega) (by omega) f hc (fun j h1 h2 => by omega)
      rw [show (0 : Int32) = nI 0 from rfl, a1]
      obtain ⟨g2, b1, b2, b3⟩ := ih (v + 1) N _ g1 (by omega) (by omega) (by omega) (yB_ef f a2) a3
      exact ⟨g2, b1, zfr_trans a2 b2, b3⟩
    · rw [if_pos n2, n3, if_pos ((zc_le (k := 100000) (by decide) (by omega)).mpr (by omega)), e1, ev]
      exact ih (v + 1) N c g (by omega) (by omega) (by omega) f hc
    · have kU := (C.2.2 u (by omega)).1
      rw [if_pos n2, n3, if_neg (mt (zc_le (k := 100000) (by decide) (by omega)).mp (by omega)), ev]
      obtain ⟨g1, a1, a2, a3⟩ := R u (base + x) c g hu (by omega) f hc
      rw [a1, Option.bind_some, e1]
      obtain ⟨g2, b1, b2, b3⟩ := ih (v + 1) N _ g1 (by omega) (by omega) (by omega) (yB_ef f a2) a3
      exact ⟨g2, b1, zfr_trans a2 b2, b3⟩
theorem yB_Mf (C : yk_cx LC LM nb F X Y h0 g0) : ∀ (d b : Nat), b < nb → b < d → yB_h X (b + 1) (yB_F F h0 d) g0 (f_Mo_fill d) := by
  have hz := zF_big
  intro d
  induction d with
  | zero => intro b _ h; omega
  | succ d ih =>
    intro b hb hd u base c g hu hX f hc
    have hun : u < nb := by omega
    have V3 : F nb ≤ 5900 := C.1.2.1.2.1.2.2
    have B3 : nb ≤ 568 := C.1.2.1.1.2.2
    have hF := C.1.2.1.2.2.2.1 u hun
    have R : yB_h X u (yB_F F h0 d) g0 (f_Mo_fill d) := by
      intro w base c g hw
      exact ih w (by omega) (by omega) w base c g (by omega)
    obtain ⟨g', a1, a2, a3⟩ := yB_M7 C hun hX R (F (u + 1) - F u) (F u) zF c g (by omega) (Nat.le_refl _) (by omega) f hc
    refine ⟨g', ?_, a2, a3⟩
    show g_Mo_fill (f_Mo_fill d) g (nI u) (nI base) = _
    unfold g_Mo_fill
    rw [if_pos (zi_in (by omega) (by omega)), nI_clamp (by omega), f.2 90 (by decide), (C.1.2.1.2.2.2.2.2.1 u hun).2.1]
    exact a1
end YBM
