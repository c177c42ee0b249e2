/-! The layout of a block: cells that only a TP writes. -/
abbrev yK : Type := Int32 × (Nat → Prop)
/-- the Qs of the TPs of block b, and of those in its parts -/
def yq_Q (h : zs_H) : Nat → Nat → Nat → Prop
  | 0, _, _ => False
  | n + 1, b, j => ∃ f e v x B t, ((h.2.1 23) (9 + b) = nI f ∧ (h.2.1 24) (9 + b) = nI e ∧ f ≤ 32 + v ∧ 32 + v < e ∧ e < 10000) ∧ ((h.2.1 32) (32 + v) = nI x ∧ x < 100000) ∧ ((h.2.1 30) (32 + v) = nI B ∧ B < 700) ∧ j = x + t ∧ ((B = 2 ∧ t = 2) ∨ (9 ≤ B ∧ B < 9 + b ∧ ∃ s, (h.2.1 26) B = nI s ∧ t < s ∧ s < 100000 ∧ yq_Q h n (B - 9) t))
def yq_k (h : zs_H) (u : Nat) : yK := ((h.2.1 21) (9 + u), yq_Q h (u + 1) u)
theorem yq_m2 {t : Nat} (ht : t < 2147483646) : ¬ nI t = -2 := fun z => by
  have h : nI t + 1 = -1 := by rw [z]; rfl
  rw [show nI t + 1 = nI (t + 1) from zc_ad 1 t] at h
  exact zc_m1 (by omega) h
section YQL
variable {LC LM : List (List Int32)} {nb b : Nat} {F X Y : Nat → Nat} {h0 g0 : zs_H}
theorem yq_f1 : ∀ (n m b j : Nat), b < n → b < m → yq_Q h0 n b j → yq_Q h0 m b j := by
  intro n
  induction n with
  | zero => intro m b j h1; omega
  | succ n ih =>
    intro m b j h1 h2 H
    obtain ⟨m, rfl⟩ : ∃ z, m = z + 1 := ⟨m - 1, by omega⟩
    obtain ⟨f, e, v, x, B, t, a1, a2, a3, a4, a5⟩ := H
    refine ⟨f, e, v, x, B, t, a1, a2, a3, a4, ?_⟩
    rcases a5 with z | ⟨z1, z2, s, z3, z4, z5, z6⟩
    · exact .inl z
    · exact .inr ⟨z1, z2, s, z3, z4, z5, ih m (B - 9) t (by omega) (by omega) z6⟩
theorem yq_v {v f e : Nat} (C : yk_cx LC LM nb F X Y h0 g0) (hb : b < nb) (H : (h0.2.1 23) (9 + b) = nI f ∧ (h0.2.1 24) (9 + b) = nI e ∧ f ≤ 32 + v ∧ 32 + v < e ∧ e < 10000) : F b ≤ v ∧ v < F (b + 1) := by
  obtain ⟨a1, a2, a3, a4, a5⟩ := H
  obtain ⟨c1, _, c3⟩ := C.1.2.1.2.2.2.2.2.1 b hb
  have hF := C.1.2.1.2.2.2.1 b hb
  have V3 : F nb ≤ 5900 := C.1.2.1.2.1.2.2
  have e1 : f = 32 + F b := (nI_eq (by omega) (by omega)).mp (a1.symm.trans c1)
  have e2 : e = 32 + F (b + 1) := (nI_eq (by omega) (by omega)).mp (a2.symm.trans c3)
  omega
/-- a variable -/
theorem yq_var {v : Nat} (C : yk_cx LC LM nb F X Y h0 g0) (hb : b < nb) (h1 : F b ≤ v) (h2 : v < F (b + 1)) : ∃ x s, (h0.2.1 32) (32 + v) = nI x ∧ (h0.2.1 34) (32 + v) = nI s ∧ (x + s ≤ Y b ∧ Y b ≤ 4096) ∧ ((h0.2.1 21) (9 + b) = 3 → x < 960 → s = 1) ∧ ((h0.2.1 30) (32 + v) = -1 ∨ (h0.2.1 30) (32 + v) = -2 ∨ ∃ B, B < 9 + b ∧ (h0.2.1 30) (32 + v) = nI B ∧ (h0.2.1 26) B = nI s ∧ (9 ≤ B → (h0.2.1 21) B = 2)) := by
  obtain ⟨ty, x, s, _, ⟨q1, _⟩, ⟨q2, _⟩, _, _, ⟨q3, _⟩, q4⟩ := yk_Q C hb h1 h2
  have kB := (C.2.2 b hb).1
  have hF := C.1.2.1.2.2.2.1 b hb
  refine ⟨x, s, q1, q2, ⟨q3, kB.2.2⟩, fun k3 hx => ?_, ?_⟩
  · obtain ⟨ty', x', s', y', _, ⟨r1, _⟩, ⟨r2, _⟩, _, ⟨r3, r3', _⟩, _, _, _, r4⟩ := C.1.2.2.2.1.2.1 b v hb h1 h2 (by omega)
    have e1 : x = x' := (nI_eq (by omega) (by omega)).mp (q1.symm.trans r1)
    have e2 : s = s' := (nI_eq (by omega) (by omega)).mp (q2.symm.trans r2)
    rcases r4 with ⟨_, _, z⟩ | ⟨p, _, _, _, _, _, z⟩
    · have := z k3; omega
    · omega
  · rcases q4 with ⟨z, _⟩ | ⟨z, _⟩ | ⟨B, z1, z2, _, _, z3, z4⟩
    · exact .inl z
    · exact .inr (.inl z)
    · exact .inr (.inr ⟨B, z1, z2, z4, z3⟩)
/-- two variables, one with parts, lie apart -/
theorem yq_ap {u v x s x' s' j t : Nat} (C : yk_cx LC LM nb F X Y h0 g0) (hb : b < nb) (h1 : F b ≤ u ∧ u < F (b + 1)) (h2 : F b ≤ v ∧ v < F (b + 1)) (hne : ¬ u = v) (c1 : (h0.2.1 32) (32 + u) = nI x) (c2 : (h0.2.1 34) (32 + u) = nI s) (c3 : (h0.2.1 32) (32 + v) = nI x') (c4 : (h0.2.1 34) (32 + v) = nI s') (hx : x + s ≤ 5000 ∧ x' + s' ≤ 5000) (k3 : (h0.2.1 21) (9 + b) = 3 → x < 960 → s = 1) (hi : ¬ (h0.2.1 30) (32 + v) = -1) (hj : j < s) (ht : t < s') : ¬ x + j = x' + t := by
  have L := fun v h1 h2 => ((C.2.2 b hb).2.2.2.2.2 v h1 h2).1
  have lv := (L v h2.1 h2.2).2
  rcases Nat.lt_or_gt_of_ne hne with z | z
  · rcases (L v h2.1 h2.2).1 u h1.1 z x s x' c1 c2 c3 (by omega) (by omega) (by omega) with ⟨k, w⟩ | w
    · have := lv k hi x' c3 (by omega)
      rcases w with w | w
      · have := k3 k w; omega
      · omega
    · omega
  · rcases (L u h1.1 h1.2).1 v h2.1 z x' s' x c3 c4 c1 (by omega) (by omega) (by omega) with ⟨k, w⟩ | w
    · have := lv k hi x' c3 (by omega)
      rcases w with w | w
      · omega
      · have := k3 k w; omega
    · omega
theorem yq_t2 : (zt_2.getD 2 0) = nI 6 := by decide
/-- what a member is part of -/
theorem yq_el {n j : Nat} (C : yk_cx LC LM nb F X Y h0 g0) (hb : b < nb) (H : yq_Q h0 (n + 1) b j) : ∃ v x s B t, (F b ≤ v ∧ v < F (b + 1)) ∧ (h0.2.1 32) (32 + v) = nI x ∧ (h0.2.1 34) (32 + v) = nI s ∧ (x + s ≤ Y b ∧ Y b ≤ 4096) ∧ ((h0.2.1 30) (32 + v) = nI B ∧ B < 9 + b) ∧ j = x + t ∧ t < s ∧ ((B = 2 ∧ t = 2) ∨ (9 ≤ B ∧ yq_Q h0 n (B - 9) t)) := by
  obtain ⟨f, e, v, x, B, t, a1, ⟨a2, a2'⟩, ⟨a3, a3'⟩, a4, a5⟩ := H
  have hv := yq_v C hb a1
  obtain ⟨x1, s, c1, c2, ⟨c3, c3'⟩, c4, c5⟩ := yq_var C hb hv.1 hv.2
  have ex : x1 = x := (nI_eq (by omega) (by omega)).mp (c1.symm.trans a2)
  subst ex
  have B3 : nb ≤ 568 := C.1.2.1.1.2.2
  rcases c5 with z | z | ⟨B', z1, z2, z3, z4⟩
  · exact absurd (a3.symm.trans z) (zc_m1 (by omega))
  · exact absurd (a3.symm.trans z) (yq_m2 (by omega))
  · have eB : B' = B := (nI_eq (by omega) (by omega)).mp (z2.symm.trans a3)
    subst eB
    refine ⟨v, x1, s, B', t, hv, c1, c2, ⟨c3, c3'⟩, ⟨a3, z1⟩, a4, ?_, ?_⟩
    · rcases a5 with ⟨w1, w2⟩ | ⟨w1, w2, s2, w3, w4, w5, w6⟩
      · subst w1
        have e6 := (C.1.2.1.2.2.1.1 2 (by decide)).2.2.2
        rw [z3, yq_t2] at e6
        have : s = 6 := (nI_eq (by omega) (by omega)).mp e6
        omega
      · have : s2 = s := (nI_eq (by omega) (by omega)).mp (w3.symm.trans z3)
        omega
    · rcases a5 with w | ⟨w1, w2, s2, w3, w4, w5, w6⟩
      · exact .inl w
      · exact .inr ⟨w1, w6⟩
theorem yq_Y {n j : Nat} (C : yk_cx LC LM nb F X Y h0 g0) (hb : b < nb) (H : yq_Q h0 n b j) : j < Y b := by
  cases n with
  | zero => exact H.elim
  | succ n =>
    obtain ⟨v, x, s, B, t, _, _, _, ⟨h1, _⟩, _, h2, h3, _⟩ := yq_el C hb H
    omega
theorem yq_9 {n j : Nat} (C : yk_cx LC LM nb F X Y h0 g0) (hb : b < nb) (k3 : (h0.2.1 21) (9 + b) = 3) (H : yq_Q h0 n b j) : 960 ≤ j := by
  cases n with
  | zero => exact H.elim
  | succ n =>
    obtain ⟨v, x, s, B, t, hv, c1, _, ⟨h1, h1'⟩, ⟨hB, hB'⟩, h2, _, _⟩ := yq_el C hb H
    have B3 : nb ≤ 568 := C.1.2.1.1.2.2
    have := ((C.2.2 b hb).2.2.2.2.2 v hv.1 hv.2).1.2 k3 (fun z => zc_m1 (by omega) (hB.symm.trans z)) x c1 (by omega)
    omega
/-- a variable without parts -/
theorem yq_ni {n u x s j : Nat} (C : yk_cx LC LM nb F X Y h0 g0) (hb : b < nb) (h1 : F b ≤ u ∧ u < F (b + 1)) (hi : (h0.2.1 30) (32 + u) = -1 ∨ (h0.2.1 30) (32 + u) = -2) (c1 : (h0.2.1 32) (32 + u) = nI x) (hx : x < 100000) (c2 : (h0.2.1 34) (32 + u) = nI s) (hs : s < 100000) (hj : j < s) : ¬ yq_Q h0 n b (x + j) := by
  cases n with
  | zero => exact fun H => H.elim
  | succ n =>
    intro H
    obtain ⟨v, x', s', B, t, hv, d1, d2, ⟨d3, d3'⟩, ⟨d4, d4'⟩, d5, d6, _⟩ := yq_el C hb H
    have B3 : nb ≤ 568 := C.1.2.1.1.2.2
    obtain ⟨x1, s1, e1, e2, ⟨e3, _⟩, e4, _⟩ := yq_var C hb h1.1 h1.2
    have ex : x1 = x := (nI_eq (by omega) (by omega)).mp (e1.symm.trans c1)
    have es : s1 = s := (nI_eq (by omega) (by omega)).mp (e2.symm.trans c2)
    subst ex; subst es
    refine yq_ap C hb h1 hv (fun z => ?_) c1 c2 d1 d2 (by omega) e4 (fun z => zc_m1 (by omega) (d4.symm.trans z)) hj d6 d5
    subst z
    rcases hi with z | z
    · exact zc_m1 (by omega) (d4.symm.trans z)
    · exact yq_m2 (by omega) (d4.symm.trans z)
/-- a variable with parts -/
theorem yq_in {n v x s B j : Nat} (C : yk_cx LC LM nb F X Y h0 g0) (hb : b < nb) (h1 : F b ≤ v ∧ v < F (b + 1)) (hB : (h0.2.1 30) (32 + v) = nI B) (hB2 : B < 9 + b) (c1 : (h0.2.1 32) (32 + v) = nI x) (hx : x < 100000) (c2 : (h0.2.1 34) (32 + v) = nI s) (hs : s < 100000) (hj : j < s) : yq_Q h0 (n + 1) b (x + j) ↔ (B = 2 ∧ j = 2) ∨ (9 ≤ B ∧ yq_Q h0 n (B - 9) j) := by
  have B3 : nb ≤ 568 := C.1.2.1.1.2.2
  obtain ⟨x1, s1, e1, e2, ⟨e3, e3'⟩, e4, e5⟩ := yq_var C hb h1.1 h1.2
  have ex : x1 = x := (nI_eq (by omega) (by omega)).mp (e1.symm.trans c1)
  have es : s1 = s := (nI_eq (by omega) (by omega)).mp (e2.symm.trans c2)
  subst ex; subst es
  constructor
  · intro H
    obtain ⟨v', x', s', B', t, hv, d1, d2, ⟨d3, d3'⟩, ⟨d4, d4'⟩, d5, d6, d7⟩ := yq_el C hb H
    by_cases z : v = v'
    · subst z
      have f1 : x' = x1 := (nI_eq (by omega) (by omega)).mp (d1.symm.trans c1)
      have f2 : B' = B := (nI_eq (by omega) (by omega)).mp (d4.symm.trans hB)
      have f3 : t = j := by omega
      rw [f2, f3] at d7
      exact d7
    · exact absurd d5 (yq_ap C hb h1 hv z c1 c2 d1 d2 (by omega) e4 (fun z => zc_m1 (by omega) (d4.symm.trans z)) hj d6)
  · intro H
    obtain ⟨f1, _, f3⟩ := C.1.2.1.2.2.2.2.2.1 b hb
    have hF := C.1.2.1.2.2.2.1 b hb
    have V3 : F nb ≤ 5900 := C.1.2.1.2.1.2.2
    refine ⟨32 + F b, 32 + F (b + 1), v, x1, B, j, ⟨f1, f3, by omega, by omega, by omega⟩, ⟨c1, hx⟩, ⟨hB, by omega⟩, rfl, ?_⟩
    rcases H with w | ⟨w1, w2⟩
    · exact .inl w
    · right
      refine ⟨w1, hB2, s1, ?_, hj, hs, w2⟩
      rcases e5 with z | z | ⟨B', z1, z2, z3, _⟩
      · exact absurd (hB.symm.trans z) (zc_m1 (by omega))
      · exact absurd (hB.symm.trans z) (yq_m2 (by omega))
      · have : B' = B := (nI_eq (by omega) (by omega)).mp (z2.symm.trans hB)
        rw [← this]; exact z3
theorem yq_fn {n j : Nat} (C : yk_cx LC LM nb F X Y h0 g0) (hb : b < nb) (S3 : ∀ v, F b ≤ v → v < F (b + 1) → (h0.2.1 30) (32 + v) = -1 ∨ (h0.2.1 30) (32 + v) = -2) : ¬ yq_Q h0 n b j := by
  cases n with
  | zero => exact fun H => H.elim
  | succ n =>
    intro H
    obtain ⟨v, x, s, B, t, hv, _, _, _, ⟨hB, hB'⟩, _⟩ := yq_el C hb H
    have B3 : nb ≤ 568 := C.1.2.1.1.2.2
    rcases S3 v hv.1 hv.2 with z | z
    · exact zc_m1 (by omega) (hB.symm.trans z)
    · exact yq_m2 (by omega) (hB.symm.trans z)
theorem yq_f0 {n j : Nat} (C : yk_cx LC LM nb F X Y h0 g0) (hb : b < nb) (k1 : (h0.2.1 21) (9 + b) = 1) : ¬ yq_Q h0 n b j := yq_fn C hb (fun v v1 v2 => ((C.2.2 b hb).2.2.2.2.2 v v1 v2).2 k1)
theorem yq_Y0 (C : yk_cx LC LM nb F X Y h0 g0) (hb : b < nb) (k1 : (h0.2.1 21) (9 + b) = 1) : 0 < Y b := by
  have hlt := (C.1.2.2.2.2.1.2.2.2 b hb k1).1
  have B3 : nb ≤ 568 := C.1.2.1.1.2.2
  obtain ⟨ty, x, s, _, _, _, _, _, ⟨q3, _⟩, q4⟩ := yk_Q C hb (Nat.le_refl (F b)) hlt
  rcases q4 with ⟨_, _, _, e⟩ | ⟨_, _, _, e, _⟩ | ⟨B, hB, e, _⟩
  · omega
  · omega
  · rcases ((C.2.2 b hb).2.2.2.2.2 (F b) (Nat.le_refl _) hlt).2 k1 with z | z
    · exact absurd (e.symm.trans z) (zc_m1 (by omega))
    · exact absurd (e.symm.trans z) (yq_m2 (by omega))
/-- an input of a part -/
theorem yq_t3 : ∀ v, v < 32 → zj_sv 2 ≤ v → v < zj_sv (2 + 1) → zj_t v 2 = 1 → ¬ zp_tN v 4 = 2 := by decide +kernel
theorem yq_pin {Fb : Nat → Nat} {n v x s B cv off : Nat} (C : yk_cx LC LM nb F X Y h0 g0) (hb : b < nb) (hF : ∀ j, j ≤ b + 1 → Fb j = F j) (h1 : F b ≤ v ∧ v < F (b + 1)) (hB : (h0.2.1 30) (32 + v) = nI B) (hB2 : B < 9 + b) (c1 : (h0.2.1 32) (32 + v) = nI x) (hx : x < 100000) (c2 : (h0.2.1 34) (32 + v) = nI s) (hs : s < 100000) (zB : zi_B Fb B cv) (s1 : (h0.2.1 29) cv = 1) (co : (h0.2.1 32) cv = nI off) (ho : off < s) : ¬ yq_Q h0 (n + 1) b (x + off) := by
  rw [yq_in C hb h1 hB hB2 c1 hx c2 hs ho]
  unfold zi_B at zB
  rintro (⟨z1, z2⟩ | ⟨z1, z2⟩)
  · subst z1; subst z2
    rw [if_pos (by decide)] at zB
    have hv : cv < 32 := Nat.lt_of_lt_of_le zB.2 (by decide)
    obtain ⟨_, t2, _, _, t5⟩ := C.1.2.1.2.2.1.2 cv hv
    obtain ⟨_, _, _, o4, o5, _⟩ := zp_T3 cv hv
    rw [t5, o5] at co
    exact yq_t3 cv hv zB.1 zB.2 (t2.symm.trans s1) ((nI_eq (by omega) (by omega)).mp co)
  · rw [if_neg (by omega), hF _ (by omega), hF _ (by omega)] at zB
    obtain ⟨w, rfl⟩ : ∃ w, cv = 32 + w := ⟨cv - 32, by omega⟩
    have hb' : B - 9 < nb := by omega
    have hFF := C.1.2.1.2.2.2.1 (B - 9) hb'
    obtain ⟨x1, s1', d1, d2, ⟨d3, d3'⟩, _, d5⟩ := yq_var C hb' (show F (B - 9) ≤ w by omega) (show w < F (B - 9 + 1) by omega)
    have i1 := C.2.1 w (by omega) (.inl s1)
    obtain ⟨ty, x2, s2, _, _, ⟨r2, _⟩, _, _, ⟨r3, _⟩, r4⟩ := yk_Q C hb' (show F (B - 9) ≤ w by omega) (show w < F (B - 9 + 1) by omega)
    have B3 : nb ≤ 568 := C.1.2.1.1.2.2
    have kB := (C.2.2 (B - 9) hb').1
    have e1 : s2 = 1 := by
      rcases r4 with ⟨_, _, _, e⟩ | ⟨e, _⟩ | ⟨B', hB', e, _⟩
      · exact e
      · rw [i1] at e; exact absurd e (by decide)
      · rw [i1] at e; exact absurd e.symm (zc_m1 (by omega))
    rw [e1] at r2
    exact yq_ni (s := 1) (j := 0) C hb' ⟨by omega, by omega⟩ (.inl i1) co (by omega) r2 (by omega) (by omega) z2
end YQL
