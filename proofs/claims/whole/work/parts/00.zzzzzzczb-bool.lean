/-! BOOLs: the cells of variables. -/
section YQB
variable {LC LM : List (List Int32)} {nb b : Nat} {F X Y : Nat → Nat} {h0 g0 : zs_H} {LD : Nat → Prop}
theorem yq_Bf : ∀ (n m b j : Nat), b < n → b < m → yq_B LD h0 n b j → yq_B LD h0 m b j := by
  intro n
  induction n with
  | zero => intro m b j h1; omega
  | succ n ih =>
    intro m b j h1 h2 H
    obtain ⟨m, rfl⟩ : ∃ z, m = z + 1 := ⟨m - 1, by omega⟩
    rcases H with H | H | ⟨f, e, v, x, s, a1, a2, a3, a4, a5⟩
    · exact .inl H
    · exact .inr (.inl H)
    · refine .inr (.inr ⟨f, e, v, x, s, a1, a2, a3, a4, ?_⟩)
      rcases a5 with z | ⟨B, z1, z2 | ⟨z2, z3, z4⟩⟩
      · exact .inl z
      · exact .inr ⟨B, z1, .inl z2⟩
      · exact .inr ⟨B, z1, .inr ⟨z2, z3, ih m (B - 9) _ (by omega) (by omega) z4⟩⟩
/-- a BOOL's cells are among them -/
theorem yq_bv {v x s j : Nat} (C : yk_cx LC LM nb F X Y h0 g0) (hb : b < nb) (h1 : F b ≤ v ∧ v < F (b + 1)) (hi : (h0.2.1 30) (32 + v) = -1 ∨ (h0.2.1 30) (32 + v) = -2) (ht : (h0.2.1 31) (32 + v) = 0) (c1 : (h0.2.1 32) (32 + v) = nI x) (hx : x < 100000) (c2 : (h0.2.1 34) (32 + v) = nI s) (hs : s < 100000) (hj : j < s) : yq_b LD h0 b (x + j) := by
  obtain ⟨f1, _, f3⟩ := C.1.2.1.2.2.2.2.2.1 b hb
  have hF := C.1.2.1.2.2.2.1 b hb
  have V3 : F nb ≤ 5900 := C.1.2.1.2.1.2.2
  have B3 : nb ≤ 568 := C.1.2.1.1.2.2
  exact (yq_bd (by omega)).mpr (.inr (.inr ⟨32 + F b, 32 + F (b + 1), v, x, s, ⟨f1, f3, by omega, by omega, by omega⟩, ⟨c1, hx⟩, ⟨c2, hs⟩, ⟨by omega, by omega⟩, .inl ⟨hi, ht⟩⟩))
/-- what a variable's place says of its type -/
theorem yq_pl {v x s : Nat} (C : yk_cx LC LM nb F X Y h0 g0) (hb : b < nb) (h1 : F b ≤ v ∧ v < F (b + 1)) (c1 : (h0.2.1 32) (32 + v) = nI x) (hx : x < 960) (k3 : (h0.2.1 21) (9 + b) = 3) : (h0.2.1 31) (32 + v) = 0 ↔ x < 768 := by
  have hF := C.1.2.1.2.2.2.1 b hb
  obtain ⟨ty, x', s', y', ⟨t1, t2⟩, ⟨r1, _⟩, _, _, ⟨r3, _, _, _, _, r5⟩, _, _, _, r4⟩ := C.1.2.2.2.1.2.1 b v hb h1.1 h1.2 (by omega)
  have e1 : x = x' := (nI_eq (by omega) (by omega)).mp (c1.symm.trans r1)
  rcases r4 with ⟨_, _, z⟩ | ⟨p, p1, p2, _, p4, p5, _⟩
  · have := z k3; omega
  · have q := r5 p p2 p1
    rw [t2, show (nI ty = 0) ↔ ty = 0 from zc_eq (k := 0) (by decide) (by omega), ← q, e1, p4]
    unfold zv_pc
    by_cases z : p < 768
    · rw [if_pos z]
    · rw [if_neg z]; omega
/-- a variable without parts whose cell is among them is a BOOL -/
theorem yq_bc {v x s j : Nat} (C : yk_cx LC LM nb F X Y h0 g0) (hb : b < nb) (h1 : F b ≤ v ∧ v < F (b + 1)) (hi : (h0.2.1 30) (32 + v) = -1 ∨ (h0.2.1 30) (32 + v) = -2) (c1 : (h0.2.1 32) (32 + v) = nI x) (hx : x < 100000) (c2 : (h0.2.1 34) (32 + v) = nI s) (hs : s < 100000) (hj : j < s) (H : yq_b LD h0 b (x + j)) : (h0.2.1 31) (32 + v) = 0 := by
  have B3 : nb ≤ 568 := C.1.2.1.1.2.2
  obtain ⟨x1, s1, e1, e2, ⟨e3, e3'⟩, e4, _⟩ := yq_var C hb h1.1 h1.2
  have ex : x1 = x := (nI_eq (by omega) (by omega)).mp (e1.symm.trans c1)
  have es : s1 = s := (nI_eq (by omega) (by omega)).mp (e2.symm.trans c2)
  subst ex; subst es
  rcases (yq_bd (by omega)).mp H with ⟨k3, h7⟩ | ⟨_, y, z, w1, w2, w3, _⟩ | ⟨f, e, u, x', s', a1, ⟨a2, a2'⟩, ⟨a3, a3'⟩, ⟨a4, a4'⟩, a5⟩
  · by_cases i1 : (h0.2.1 30) (32 + v) = -1
    · exact (yq_pl (s := s1) C hb h1 c1 (by omega) k3).mpr (by omega)
    · have := ((C.2.2 b hb).2.2.2.2.2 v h1.1 h1.2).1.2 k3 i1 x1 c1 (by omega)
      omega
  · have := (C.2.2 b hb).2.2.2.1
    have kY := (C.2.2 b hb).1
    have : y = Y b := by
      rw [w1] at this
      by_cases hy : y < 2147483648
      · exact (nI_eq hy (by omega)).mp this
      · omega
    omega
  · have hu := yq_v C hb a1
    by_cases z : v = u
    · subst z
      rcases a5 with ⟨_, t⟩ | ⟨B, ⟨b1, b2⟩, _⟩
      · exact t
      · rcases hi with w | w
        · exact absurd (b1.symm.trans w) (zc_m1 (by omega))
        · exact absurd (b1.symm.trans w) (yq_m2 (by omega))
    · obtain ⟨x2, s2, d1, d2, ⟨d3, d3'⟩, d4, _⟩ := yq_var C hb hu.1 hu.2
      have ex : x2 = x' := (nI_eq (by omega) (by omega)).mp (d1.symm.trans a2)
      have es : s2 = s' := (nI_eq (by omega) (by omega)).mp (d2.symm.trans a3)
      subst ex; subst es
      by_cases i2 : (h0.2.1 30) (32 + u) = -1
      · by_cases i1 : (h0.2.1 30) (32 + v) = -1
        · -- both are simple
          have L := fun v h1 h2 => ((C.2.2 b hb).2.2.2.2.2 v h1 h2).1
          have key : (h0.2.1 21) (9 + b) = 3 ∧ (x1 < 960 ∨ x2 < 960) := by
            rcases Nat.lt_or_gt_of_ne z with q | q
            · rcases (L u hu.1 hu.2).1 v h1.1 q x1 s1 x2 c1 c2 a2 (by omega) (by omega) (by omega) with w | w
              · exact w
              · omega
            · rcases (L v h1.1 h1.2).1 u hu.1 q x2 s2 x1 a2 a3 c1 (by omega) (by omega) (by omega) with w | w
              · exact ⟨w.1, w.2.symm⟩
              · omega
          obtain ⟨k3, hk⟩ := key
          have t2 : (h0.2.1 31) (32 + u) = 0 := by
            rcases a5 with ⟨_, t⟩ | ⟨B, ⟨b1, b2⟩, _⟩
            · exact t
            · exact absurd (b1.symm.trans i2) (zc_m1 (by omega))
          have q1 : s1 = 1 := by
            obtain ⟨_, x9, s9, _, ⟨r1, _⟩, ⟨r2, _⟩, _, _, ⟨r3, _⟩, r4⟩ := yk_Q C hb h1.1 h1.2
            have : s9 = s1 := (nI_eq (by omega) (by omega)).mp (r2.symm.trans c2)
            rcases r4 with ⟨_, _, _, e⟩ | ⟨e, _⟩ | ⟨B, hB, e, _⟩
            · omega
            · rw [i1] at e; exact absurd e (by decide)
            · rw [i1] at e; exact absurd e.symm (zc_m1 (by omega))
          have q2 : s2 = 1 := by
            obtain ⟨_, x9, s9, _, ⟨r1, _⟩, ⟨r2, _⟩, _, _, ⟨r3, _⟩, r4⟩ := yk_Q C hb hu.1 hu.2
            have : s9 = s2 := (nI_eq (by omega) (by omega)).mp (r2.symm.trans a3)
            rcases r4 with ⟨_, _, _, e⟩ | ⟨e, _⟩ | ⟨B, hB, e, _⟩
            · omega
            · rw [i2] at e; exact absurd e (by decide)
            · rw [i2] at e; exact absurd e.symm (zc_m1 (by omega))
          have p1 := yq_pl (s := s1) C hb h1 c1 (by omega) k3
          have p2 := yq_pl (s := s2) C hb hu a2 (by omega) k3
          rw [p1]
          have := p2.mp t2
          omega
        · exact absurd (show x2 + (x1 + j - x2) = x1 + j by omega) (yq_ap C hb hu h1 (fun q => z q.symm) a2 a3 c1 c2 (by omega) d4 i1 (by omega) hj)
      · exact absurd (show x1 + j = x2 + (x1 + j - x2) by omega) (yq_ap C hb h1 hu z c1 c2 a2 a3 (by omega) e4 i2 hj (by omega))
/-- the cells of a part -/
theorem yq_bi {v x s B j : Nat} (C : yk_cx LC LM nb F X Y h0 g0) (hb : b < nb) (h1 : F b ≤ v ∧ v < F (b + 1)) (hB : (h0.2.1 30) (32 + v) = nI B) (hB2 : B < 9 + b) (c1 : (h0.2.1 32) (32 + v) = nI x) (hx : x < 100000) (c2 : (h0.2.1 34) (32 + v) = nI s) (hs : s < 100000) (hj : j < s) : yq_b LD h0 b (x + j) ↔ (B < 9 ∧ yq_sB B j) ∨ (9 ≤ B ∧ yq_b LD h0 (B - 9) j) := by
  have B3 : nb ≤ 568 := C.1.2.1.1.2.2
  obtain ⟨x1, s1, e1, e2, ⟨e3, e3'⟩, e4, _⟩ := yq_var C hb h1.1 h1.2
  have ex : x1 = x := (nI_eq (by omega) (by omega)).mp (e1.symm.trans c1)
  have es : s1 = s := (nI_eq (by omega) (by omega)).mp (e2.symm.trans c2)
  subst ex; subst es
  have ni : ¬ (h0.2.1 30) (32 + v) = -1 := fun z => zc_m1 (by omega) (hB.symm.trans z)
  have ni2 : ¬ (h0.2.1 30) (32 + v) = -2 := fun z => yq_m2 (by omega) (hB.symm.trans z)
  constructor
  · intro H
    rcases (yq_bd (by omega)).mp H with ⟨k3, h7⟩ | ⟨_, y, z, w1, w2, w3, _⟩ | ⟨f, e, u, x', s', a1, ⟨a2, a2'⟩, ⟨a3, a3'⟩, ⟨a4, a4'⟩, a5⟩
    · have := ((C.2.2 b hb).2.2.2.2.2 v h1.1 h1.2).1.2 k3 ni x1 c1 (by omega)
      omega
    · have := (C.2.2 b hb).2.2.2.1
      have kY := (C.2.2 b hb).1
      have : y = Y b := by
        rw [w1] at this
        by_cases hy : y < 2147483648
        · exact (nI_eq hy (by omega)).mp this
        · omega
      omega
    · have hu := yq_v C hb a1
      by_cases z : v = u
      · subst z
        have exx : x' = x1 := (nI_eq (by omega) (by omega)).mp (a2.symm.trans c1)
        subst exx
        rw [show x' + j - x' = j by omega] at a5
        rcases a5 with ⟨w, _⟩ | ⟨B', ⟨b1, b2⟩, q | ⟨q1, q2, q3⟩⟩
        · rcases w with w | w
          · exact absurd w ni
          · exact absurd w ni2
        · have : B' = B := (nI_eq (by omega) (by omega)).mp (b1.symm.trans hB)
          subst this
          exact .inl q
        · have : B' = B := (nI_eq (by omega) (by omega)).mp (b1.symm.trans hB)
          subst this
          exact .inr ⟨q1, (yq_bd (by omega)).mpr (yq_Bf _ _ _ _ (by omega) (by omega) q3)⟩
      · obtain ⟨x2, s2, d1, d2, ⟨d3, d3'⟩, d4, _⟩ := yq_var C hb hu.1 hu.2
        have ex : x2 = x' := (nI_eq (by omega) (by omega)).mp (d1.symm.trans a2)
        have es : s2 = s' := (nI_eq (by omega) (by omega)).mp (d2.symm.trans a3)
        subst ex; subst es
        exact absurd (show x2 + (x1 + j - x2) = x1 + j by omega) (yq_ap C hb hu h1 (fun q => z q.symm) a2 a3 c1 c2 (by omega) d4 ni (by omega) hj)
  · intro H
    obtain ⟨f1, _, f3⟩ := C.1.2.1.2.2.2.2.2.1 b hb
    have hF := C.1.2.1.2.2.2.1 b hb
    have V3 : F nb ≤ 5900 := C.1.2.1.2.1.2.2
    refine (yq_bd (by omega)).mpr (.inr (.inr ⟨32 + F b, 32 + F (b + 1), v, x1, s1, ⟨f1, f3, by omega, by omega, by omega⟩, ⟨c1, hx⟩, ⟨c2, hs⟩, ⟨by omega, by omega⟩, .inr ⟨B, ⟨hB, by omega⟩, ?_⟩⟩))
    rw [show x1 + j - x1 = j by omega]
    rcases H with w | ⟨w1, w2⟩
    · exact .inl w
    · exact .inr ⟨w1, hB2, yq_Bf _ _ _ _ (by omega) (by omega) ((yq_bd (by omega)).mp w2)⟩
/-- own cells -/
theorem yq_bo {j : Nat} (C : yk_cx LC LM nb F X Y h0 g0) (hb : b < nb) (h1 : Y b ≤ j) (h2 : j < X b) : yq_b LD h0 b j ↔ LD b := by
  have kY := (C.2.2 b hb).1
  have B3 : nb ≤ 568 := C.1.2.1.1.2.2
  constructor
  · intro H
    rcases (yq_bd (by omega)).mp H with ⟨k3, h7⟩ | ⟨w, _⟩ | ⟨f, e, u, x', s', a1, ⟨a2, a2'⟩, ⟨a3, a3'⟩, ⟨a4, a4'⟩, a5⟩
    · have := (C.2.2 b hb).2.2.2.2.1 k3
      omega
    · exact w
    · have hu := yq_v C hb a1
      obtain ⟨x2, s2, d1, d2, ⟨d3, d3'⟩, d4, _⟩ := yq_var C hb hu.1 hu.2
      have ex : x2 = x' := (nI_eq (by omega) (by omega)).mp (d1.symm.trans a2)
      have es : s2 = s' := (nI_eq (by omega) (by omega)).mp (d2.symm.trans a3)
      omega
  · intro H
    exact (yq_bd (by omega)).mpr (.inr (.inl ⟨H, Y b, X b, (C.2.2 b hb).2.2.2.1, (C.2.2 b hb).2.1, h1, h2, by omega⟩))
/-- the PROGRAM's cells at places -/
theorem yq_b7 {j : Nat} (hb : b < 1000) (k3 : (h0.2.1 21) (9 + b) = 3) (h7 : j < 768) : yq_b LD h0 b j := (yq_bd hb).mpr (.inl ⟨k3, h7⟩)
theorem yq_b9 {j : Nat} (C : yk_cx LC LM nb F X Y h0 g0) (hb : b < nb) (k3 : (h0.2.1 21) (9 + b) = 3) (h7 : 768 ≤ j) (h9 : j < 960) : ¬ yq_b LD h0 b j := by
  intro H
  have B3 : nb ≤ 568 := C.1.2.1.1.2.2
  have kY := (C.2.2 b hb).1
  have Y9 := (C.2.2 b hb).2.2.2.2.1 k3
  rcases (yq_bd (by omega)).mp H with ⟨_, z⟩ | ⟨_, y, z, w1, w2, w3, _⟩ | ⟨f, e, u, x', s', a1, ⟨a2, a2'⟩, ⟨a3, a3'⟩, ⟨a4, a4'⟩, a5⟩
  · omega
  · have := (C.2.2 b hb).2.2.2.1
    have : y = Y b := by
      rw [w1] at this
      by_cases hy : y < 2147483648
      · exact (nI_eq hy (by omega)).mp this
      · omega
    omega
  · have hu := yq_v C hb a1
    obtain ⟨x2, s2, d1, d2, ⟨d3, d3'⟩, d4, _⟩ := yq_var C hb hu.1 hu.2
    have ex : x2 = x' := (nI_eq (by omega) (by omega)).mp (d1.symm.trans a2)
    have es : s2 = s' := (nI_eq (by omega) (by omega)).mp (d2.symm.trans a3)
    subst ex; subst es
    by_cases i1 : (h0.2.1 30) (32 + u) = -1
    · rcases a5 with ⟨_, t⟩ | ⟨B, ⟨b1, b2⟩, _⟩
      · have := (yq_pl (s := s2) C hb hu a2 (by omega) k3).mp t
        have := d4 k3 (by omega)
        omega
      · exact absurd (b1.symm.trans i1) (zc_m1 (by omega))
    · have := ((C.2.2 b hb).2.2.2.2.2 u hu.1 hu.2).1.2 k3 i1 x2 a2 (by omega)
      omega
theorem yq_bX {j : Nat} (C : yk_cx LC LM nb F X Y h0 g0) (hb : b < nb) (H : yq_b LD h0 b j) : j < X b := by
  have B3 : nb ≤ 568 := C.1.2.1.1.2.2
  obtain ⟨⟨k1, k2, k3'⟩, k4, _, _, k5, _⟩ := C.2.2 b hb
  rcases (yq_bd (by omega)).mp H with ⟨k3, z⟩ | ⟨_, y, z, w1, w2, w3, w4, w5⟩ | ⟨f, e, u, x', s', a1, ⟨a2, a2'⟩, ⟨a3, a3'⟩, ⟨a4, a4'⟩, a5⟩
  · have := k5 k3; omega
  · have : z = X b := (nI_eq (by omega) (by omega)).mp (w2.symm.trans k4)
    omega
  · have hu := yq_v C hb a1
    obtain ⟨x2, s2, d1, d2, ⟨d3, d3'⟩, d4, _⟩ := yq_var C hb hu.1 hu.2
    have ex : x2 = x' := (nI_eq (by omega) (by omega)).mp (d1.symm.trans a2)
    have es : s2 = s' := (nI_eq (by omega) (by omega)).mp (d2.symm.trans a3)
    omega
/-- the Qs of TPs are BOOLs -/
theorem yq_Qb (C : yk_cx LC LM nb F X Y h0 g0) : ∀ (n b j : Nat), b < nb → yq_Q h0 n b j → yq_b LD h0 b j := by
  have B3 : nb ≤ 568 := C.1.2.1.1.2.2
  intro n
  induction n with
  | zero => intro b j _ H; exact H.elim
  | succ n ih =>
    intro b j hb H
    obtain ⟨v, x, s, B, t, hv, e1, e2, ⟨e3, e3'⟩, ⟨e4, e4'⟩, e5, e6, e7⟩ := yq_el C hb H
    subst e5
    rw [yq_bi C hb hv e4 e4' e1 (by omega) e2 (by omega) e6]
    rcases e7 with ⟨z1, z2⟩ | ⟨z1, z2⟩
    · subst z1; subst z2
      exact .inl ⟨by decide, 10, by decide, by decide, by decide, by decide, by decide⟩
    · exact .inr ⟨z1, ih (B - 9) t (by omega) z2⟩
/-- all cells of a block -/
theorem yq_bz {u j : Nat} (C : yk_cx LC LM nb F X Y h0 g0) (hu : u < nb) : yq_b LD h0 (1000 + u) j ↔ j < X u := by
  obtain ⟨⟨k1, _⟩, k2, _⟩ := C.2.2 u hu
  unfold yq_b
  rw [if_neg (by omega), show 1000 + u - 1000 = u by omega]
  constructor
  · rintro ⟨s, s1, s2, s3⟩
    have : s = X u := (nI_eq (by omega) (by omega)).mp (s1.symm.trans k2)
    omega
  · intro z
    exact ⟨X u, k2, by omega, z⟩
/-- a pin -/
theorem yq_bp {Fb : Nat → Nat} {v x s B cv off : Nat} (C : yk_cx LC LM nb F X Y h0 g0) (hb : b < nb) (hF : ∀ j, j ≤ b + 1 → Fb j = F j) (h1 : F b ≤ v ∧ v < F (b + 1)) (hB : (h0.2.1 30) (32 + v) = nI B) (hB2 : B < 9 + b) (c1 : (h0.2.1 32) (32 + v) = nI x) (hx : x < 100000) (c2 : (h0.2.1 34) (32 + v) = nI s) (hs : s < 100000) (zB : zi_B Fb B cv) (s1 : (h0.2.1 29) cv = 1 ∨ (h0.2.1 29) cv = 2) (co : (h0.2.1 32) cv = nI off) (ho : off < s) : yq_b LD h0 b (x + off) ↔ (h0.2.1 31) cv = 0 := by
  rw [yq_bi C hb h1 hB hB2 c1 hx c2 hs ho]
  unfold zi_B at zB
  by_cases h9 : B < 9
  · rw [if_pos h9] at zB
    have hv : cv < 32 := by
      have := zp_T5 B h9
      omega
    obtain ⟨_, t2, _, t4, t5⟩ := C.1.2.1.2.2.1.2 cv hv
    constructor
    · rintro (⟨_, u, u1, u2, u3, u4, u5⟩ | ⟨z, _⟩)
      · have key : ∀ B, B < 9 → ∀ u, u < 32 → ∀ w, w < 32 → (zj_sv B ≤ u ∧ u < zj_sv (B + 1) ∧ zj_sv B ≤ w ∧ w < zj_sv (B + 1) ∧ zj_t u 4 = zj_t w 4) → u = w := by decide +kernel
        have : u = cv := key B h9 u u1 cv hv ⟨u2, u3, zB.1, zB.2, by rw [u4, ← t5, co]⟩
        rw [t4, ← this]; exact u5
      · omega
    · intro z
      exact .inl ⟨h9, cv, hv, zB.1, zB.2, by rw [← t5, co], by rw [← t4]; exact z⟩
  · rw [if_neg h9, hF _ (by omega), hF _ (by omega)] at zB
    obtain ⟨w, rfl⟩ : ∃ w, cv = 32 + w := ⟨cv - 32, by omega⟩
    have hb' : B - 9 < nb := by omega
    have hFF := C.1.2.1.2.2.2.1 (B - 9) hb'
    have i1 := C.2.1 w (by omega) s1
    have hw : F (B - 9) ≤ w ∧ w < F (B - 9 + 1) := ⟨by omega, by omega⟩
    obtain ⟨ty, x2, s2, _, ⟨r1, _⟩, ⟨r2, _⟩, _, _, ⟨r3, _⟩, r4⟩ := yk_Q C hb' hw.1 hw.2
    have B3 : nb ≤ 568 := C.1.2.1.1.2.2
    have kB := (C.2.2 (B - 9) hb').1
    have e1 : s2 = 1 := by
      rcases r4 with ⟨_, _, _, e⟩ | ⟨e, _⟩ | ⟨B', hB', e, _⟩
      · exact e
      · rw [i1] at e; exact absurd e (by decide)
      · rw [i1] at e; exact absurd e.symm (zc_m1 (by omega))
    have e2 : x2 = off := (nI_eq (by omega) (by omega)).mp (r1.symm.trans co)
    rw [e1] at r2
    constructor
    · rintro (⟨z, _⟩ | ⟨_, z⟩)
      · omega
      · exact yq_bc (j := 0) C hb' hw (.inl i1) co (by omega) r2 (by omega) (by omega) z
    · intro z
      exact .inr ⟨by omega, yq_bv (j := 0) C hb' hw (.inl i1) z co (by omega) r2 (by omega) (by omega)⟩
end YQB
