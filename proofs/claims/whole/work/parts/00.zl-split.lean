/-! The model's operands and signs, and how it splits them. -/
def zo_lv (sg : Nat) : Nat := if sg < 3 then sg else if sg < 5 then 3 else if sg < 9 then 4 else if sg < 11 then 5 else 6
theorem zo_cl : ∀ sg, sg < 14 → f_Mo_closeness (nI sg) = nI (zo_lv sg + 1) := by decide +kernel
theorem zo_l6 (sg : Nat) : zo_lv sg ≤ 6 := by
  unfold zo_lv
  repeat' split
  all_goals omega
def zo_fr (o : Nat) (g g' : zs_H) : Prop := ∀ i, i < o → (g'.2.1 81) i = (g.2.1 81) i ∧ (g'.2.1 82) i = (g.2.1 82) i ∧ (g'.2.1 83) i = (g.2.1 83) i
theorem zo_fr_f {o : Nat} {g g' : zs_H} {fs : List (Nat × Nat)} {ms ls : List Nat} (f : zfr fs ms ls g g') (h1 : 81 ∉ ms) (h2 : 82 ∉ ms) (h3 : 83 ∉ ms) : zo_fr o g g' := fun i _ => ⟨congrFun (f.2.1 _ h1) i, congrFun (f.2.1 _ h2) i, congrFun (f.2.1 _ h3) i⟩
theorem zo_fr_t {o o' : Nat} {g g1 g2 : zs_H} (a : zo_fr o g g1) (c : zo_fr o' g1 g2) (h : o ≤ o') : zo_fr o g g2 := fun i hi => by
  obtain ⟨a1, a2, a3⟩ := a i hi
  obtain ⟨c1, c2, c3⟩ := c i (by omega)
  exact ⟨c1.trans a1, c2.trans a2, c3.trans a3⟩
/-- one operand -/
def zo_b1 (LC LM : List (List Int32)) (g : zs_H) (o : Nat) (t : zt_T) (P : Nat → Prop) : Prop := ∃ a kd p v l, t = zt_n kd p v l ∧ P a ∧ a < 33500 ∧ (g.2.1 81) o = nI a ∧ zt_M LC LM g t P (-1) (nI a) (nI a)
/-- operands o to o + k, with signs that bind at least as close as lv; split they are t -/
def zo_S (LC LM : List (List Int32)) (g : zs_H) : Nat → Nat → Nat → zt_T → (Nat → Prop) → Nat → Prop
  | 0, o, k, t, P, _ => k = 0 ∧ zo_b1 LC LM g o t P
  | f + 1, o, k, t, P, lv => (k = 0 ∧ zo_b1 LC LM g o t P) ∨ ∃ (k0 k1 : Nat) (t0 t1 : zt_T) (P0 P1 : Nat → Prop) (sg : Nat) (pl : Int32), k = k0 + 1 + k1 ∧ t = zt_n 35 pl (nI sg) (zt_ap t0 t1) ∧ (g.2.1 82) (o + k0) = nI sg ∧ (g.2.1 83) (o + k0) = pl ∧ sg < 14 ∧ lv ≤ zo_lv sg ∧ (∀ i, P0 i → P i ∧ ¬ P1 i) ∧ (∀ i, P1 i → P i) ∧ zo_S LC LM g f o k0 t0 P0 (zo_lv sg) ∧ zo_S LC LM g f (o + k0 + 1) k1 t1 P1 (zo_lv sg + 1)
theorem zo_root {LC LM : List (List Int32)} {g : zs_H} {kd a : Nat} {p v up y : Int32} {l : zt_T} {P : Nat → Prop} (ha : a < 40000) (H : zt_M LC LM g (zt_n kd p v l) P up (nI a) y) : zt_Nf LC LM g a kd p v ∧ (g.2.1 75) a = up ∧ (g.2.1 78) a = -1 ∧ P a ∧ y = nI a ∧ ∃ P1 : Nat → Prop, (∀ i, P1 i → P i ∧ ¬ i = a) ∧ zt_M LC LM g l P1 (nI a) ((g.2.1 76) a) ((g.2.1 77) a) := by
  obtain ⟨i, P1, P2, z1, z2, q1, q2, q3, q4, q5, q6, q7, q8, q9⟩ := H
  have e : a = i := (nI_eq (by omega) (by omega)).mp q3
  subst e
  obtain ⟨n1, n2, n3, n4, n5⟩ := q4
  rw [q8.2, if_pos rfl] at q9
  exact ⟨⟨n1, n2, n3⟩, n4, q8.1, q1, q9, P1, fun i hi => ⟨(q5 i hi).1, (q5 i hi).2.1⟩, by rw [n5]; exact q7⟩
theorem zo_mk {LC LM : List (List Int32)} {g : zs_H} {kd a : Nat} {p v up : Int32} {l : zt_T} {P P1 : Nat → Prop} (ha : a < 40000) (h1 : zt_Nf LC LM g a kd p v) (h2 : (g.2.1 75) a = up) (h3 : (g.2.1 78) a = -1) (h4 : P a) (h5 : ∀ i, P1 i → P i ∧ ¬ i = a) (h6 : zt_M LC LM g l P1 (nI a) ((g.2.1 76) a) ((g.2.1 77) a)) : zt_M LC LM g (zt_n kd p v l) P up (nI a) (nI a) :=
  ⟨a, P1, fun _ => False, (g.2.1 77) a, -1, h4, ha, rfl, ⟨h1.1, h1.2.1, h1.2.2, h2, rfl⟩, fun i hi => ⟨(h5 i hi).1, (h5 i hi).2, fun z => z⟩, fun i z => z.elim, h6, ⟨h3, rfl⟩, by rw [if_pos rfl]⟩
/-- the nodes of P are as they were -/
def zo_ks (P : Nat → Prop) (g g' : zs_H) : Prop := ∀ i, P i → (g'.2.1 72) i = (g.2.1 72) i ∧ (g'.2.1 73) i = (g.2.1 73) i ∧ (g'.2.1 74) i = (g.2.1 74) i ∧ (g'.2.1 75) i = (g.2.1 75) i ∧ (g'.2.1 76) i = (g.2.1 76) i ∧ (g'.2.1 77) i = (g.2.1 77) i ∧ (g'.2.1 78) i = (g.2.1 78) i
theorem zo_ks_t {P Q : Nat → Prop} {g g1 g2 : zs_H} (a : zo_ks P g g1) (c : zo_ks Q g1 g2) (h : ∀ i, P i → Q i) : zo_ks P g g2 := fun i hi => by
  obtain ⟨x1, x2, x3, x4, x5, x6, x7⟩ := a i hi
  obtain ⟨y1, y2, y3, y4, y5, y6, y7⟩ := c i (h i hi)
  exact ⟨y1.trans x1, y2.trans x2, y3.trans x3, y4.trans x4, y5.trans x5, y6.trans x6, y7.trans x7⟩
theorem zo_Mk {LC LM LM' : List (List Int32)} {g g' : zs_H} {t : zt_T} {P : Nat → Prop} {up x y : Int32} (hp : LM <+: LM') (k : zo_ks P g g') (H : zt_M LC LM g t P up x y) : zt_M LC LM' g' t P up x y := by
  refine zt_fr t P P _ _ _ (fun i hi => ?_) (fun _ z => z) H
  obtain ⟨a1, a2, a3, a4, a5, a6, a7⟩ := k i hi
  refine ⟨fun kd kk up z q => ?_, a5, a7⟩
  unfold zt_NM at q ⊢
  rw [a1, a2, a3, a4, a6]
  refine ⟨q.1, q.2.1, ?_, q.2.2.2⟩
  have q3 := q.2.2.1
  by_cases c : zt_nk kd = true
  · rw [if_pos c] at q3 ⊢; exact zt_nrm hp q3
  · rw [if_neg c] at q3 ⊢; exact q3
theorem zo_Sk {LC LM LM' : List (List Int32)} {g g' : zs_H} (hp : LM <+: LM') : ∀ (f : Nat) {o k : Nat} {t : zt_T} {P : Nat → Prop} {lv : Nat}, zo_S LC LM g f o k t P lv → zo_ks P g g' → (∀ i, o ≤ i → i ≤ o + k → (g'.2.1 81) i = (g.2.1 81) i) → (∀ i, o ≤ i → i < o + k → (g'.2.1 82) i = (g.2.1 82) i ∧ (g'.2.1 83) i = (g.2.1 83) i) → zo_S LC LM' g' f o k t P lv := by
  have base : ∀ {o : Nat} {t : zt_T} {P : Nat → Prop}, zo_b1 LC LM g o t P → zo_ks P g g' → (g'.2.1 81) o = (g.2.1 81) o → zo_b1 LC LM' g' o t P := by
    intro o t P ⟨a, kd, p, v, l, e1, e2, e3, e4, e5⟩ hk hpt
    exact ⟨a, kd, p, v, l, e1, e2, e3, hpt.trans e4, zo_Mk hp hk e5⟩
  intro f
  induction f with
  | zero =>
    intro o k t P lv H hk h1 h2
    exact ⟨H.1, base H.2 hk (h1 o (Nat.le_refl _) (by omega))⟩
  | succ f ih =>
    intro o k t P lv H hk h1 h2
    rcases H with ⟨H1, H2⟩ | ⟨k0, k1, t0, t1, P0, P1, sg, pl, r1, r2, r3, r4, r5, r6, r7, r8, r9, r10⟩
    · exact Or.inl ⟨H1, base H2 hk (h1 o (Nat.le_refl _) (by omega))⟩
    · refine Or.inr ⟨k0, k1, t0, t1, P0, P1, sg, pl, r1, r2, ((h2 (o + k0) (by omega) (by omega)).1).trans r3, ((h2 (o + k0) (by omega) (by omega)).2).trans r4, r5, r6, r7, r8, ?_, ?_⟩
      · exact ih r9 (fun i hi => hk i (r7 i hi).1) (fun i a b => h1 i a (by omega)) (fun i a b => h2 i a (by omega))
      · exact ih r10 (fun i hi => hk i (r8 i hi)) (fun i a b => h1 i (by omega) (by omega)) (fun i a b => h2 i (by omega) (by omega))
theorem zo_Sm {LC LM : List (List Int32)} {g : zs_H} : ∀ (f : Nat) {o k : Nat} {t : zt_T} {P Q : Nat → Prop} {lv lv' : Nat}, zo_S LC LM g f o k t P lv → (∀ i, P i → Q i) → lv' ≤ lv → zo_S LC LM g (f + 1) o k t Q lv' := by
  have base : ∀ {o : Nat} {t : zt_T} {P Q : Nat → Prop}, zo_b1 LC LM g o t P → (∀ i, P i → Q i) → zo_b1 LC LM g o t Q := by
    intro o t P Q ⟨a, kd, p, v, l, e1, e2, e3, e4, e5⟩ hPQ
    exact ⟨a, kd, p, v, l, e1, hPQ a e2, e3, e4, zt_Mm hPQ e5⟩
  intro f
  induction f with
  | zero =>
    intro o k t P Q lv lv' H hPQ hl
    exact Or.inl ⟨H.1, base H.2 hPQ⟩
  | succ f ih =>
    intro o k t P Q lv lv' H hPQ hl
    rcases H with ⟨H1, H2⟩ | ⟨k0, k1, t0, t1, P0, P1, sg, pl, r1, r2, r3, r4, r5, r6, r7, r8, r9, r10⟩
    · exact Or.inl ⟨H1, base H2 hPQ⟩
    · exact Or.inr ⟨k0, k1, t0, t1, P0, P1, sg, pl, r1, r2, r3, r4, r5, by omega, fun i hi => ⟨hPQ i (r7 i hi).1, (r7 i hi).2⟩, fun i hi => hPQ i (r8 i hi), ih r9 (fun _ z => z) (Nat.le_refl _), ih r10 (fun _ z => z) (Nat.le_refl _)⟩
theorem zo_St {LC LM : List (List Int32)} {g : zs_H} : ∀ (f : Nat) {o k : Nat} {t : zt_T} {P : Nat → Prop} {lv : Nat}, zo_S LC LM g f o k t P lv → ∃ kd p v l, t = zt_n kd p v l := by
  intro f o k t P lv H
  cases f with
  | zero =>
    obtain ⟨_, a, kd, p, v, l, e, _⟩ := H
    exact ⟨kd, p, v, l, e⟩
  | succ f =>
    rcases H with ⟨_, a, kd, p, v, l, e, _⟩ | ⟨k0, k1, t0, t1, P0, P1, sg, pl, r1, r2, _⟩
    · exact ⟨kd, p, v, l, e⟩
    · exact ⟨35, pl, nI sg, _, r2⟩
theorem zo_Sex {LC LM : List (List Int32)} {g : zs_H} : ∀ (f : Nat) {o k : Nat} {t : zt_T} {P : Nat → Prop} {lv : Nat}, zo_S LC LM g f o k t P lv → ∃ a, P a := by
  intro f
  induction f with
  | zero =>
    intro o k t P lv H
    obtain ⟨_, a, kd, p, v, l, e, e2, _⟩ := H
    exact ⟨a, e2⟩
  | succ f ih =>
    intro o k t P lv H
    rcases H with ⟨_, a, kd, p, v, l, e, e2, _⟩ | ⟨k0, k1, t0, t1, P0, P1, sg, pl, r1, r2, r3, r4, r5, r6, r7, r8, r9, r10⟩
    · exact ⟨a, e2⟩
    · obtain ⟨a, ha⟩ := ih r10
      exact ⟨a, r8 a ha⟩
theorem zo_Sne {LC LM : List (List Int32)} {g : zs_H} {m m' : Nat} : ∀ (f : Nat) {o k : Nat} {t : zt_T} {lv : Nat}, zo_S LC LM g f o k t (fun i => m ≤ i ∧ i < m') lv → m < m' + k := by
  intro f o k t lv H
  cases f with
  | zero =>
    obtain ⟨_, a, kd, p, v, l, e, e2, _⟩ := H
    omega
  | succ f =>
    rcases H with ⟨_, a, kd, p, v, l, e, e2, _⟩ | ⟨k0, k1, t0, t1, P0, P1, sg, pl, r1, r2, r3, r4, r5, r6, r7, r8, r9, r10⟩
    · omega
    · obtain ⟨a, ha⟩ := zo_Sex f r10
      have := r8 a ha
      omega
/-- all the signs are as close as lv, at least -/
theorem zo_Sl {LC LM : List (List Int32)} {g : zs_H} : ∀ (f : Nat) {o k : Nat} {t : zt_T} {P : Nat → Prop} {lv : Nat}, zo_S LC LM g f o k t P lv → ∀ i, i < k → ∃ sg, sg < 14 ∧ (g.2.1 82) (o + i) = nI sg ∧ lv ≤ zo_lv sg := by
  intro f
  induction f with
  | zero => intro o k t P lv H i hi; have := H.1; omega
  | succ f ih =>
    intro o k t P lv H i hi
    rcases H with ⟨H1, H2⟩ | ⟨k0, k1, t0, t1, P0, P1, sg, pl, r1, r2, r3, r4, r5, r6, r7, r8, r9, r10⟩
    · omega
    · by_cases c : i < k0
      · obtain ⟨x, x1, x2, x3⟩ := ih r9 i c
        exact ⟨x, x1, x2, by omega⟩
      · by_cases c2 : i = k0
        · exact ⟨sg, r5, by rw [c2]; exact r3, r6⟩
        · obtain ⟨x, x1, x2, x3⟩ := ih r10 (i - k0 - 1) (by omega)
          exact ⟨x, x1, by rw [← show o + k0 + 1 + (i - k0 - 1) = o + i by omega]; exact x2, by omega⟩
/-- where it is cut -/
theorem zo_cut {r : zs_H → Int32 → Int32 → Option (Int32 × zs_H)} {g : zs_H} {o k c cl : Nat} (hk : o + k < 200) (hc : c < k) (hg : ∀ i, i < k → ∃ sg, sg < 14 ∧ (g.2.1 82) (o + i) = nI sg ∧ (i < c → cl ≤ zo_lv sg) ∧ (i = c → zo_lv sg = cl) ∧ (c < i → cl < zo_lv sg)) : ∀ (w i N : Nat) {x : Int32}, i + w = k → w < N → (i = 0 → x = -1) → (0 < i → ∃ b, b < i ∧ x = nI (o + b) ∧ (i ≤ c → b < c) ∧ (c < i → b = c)) → f_Mo_split_L5 r N g (nI o) (nI (o + k)) x (nI (o + i)) = f_Mo_split_5 r (fun _ _ _ _ _ => none) g (nI o) (nI (o + k)) (nI (o + c)) (nI (o + k)) := by
  intro w
  induction w with
  | zero =>
    intro i N x hi hN h1 h2
    obtain ⟨N, rfl⟩ : ∃ z, N = z + 1 := ⟨N - 1, by omega⟩
    obtain ⟨b, b1, b2, b3, b4⟩ := h2 (by omega)
    have e : b = c := b4 (by omega)
    rw [b2, e, show i = k by omega]
    show f_Mo_split_5 r _ g (nI o) (nI (o + k)) (nI (o + c)) (nI (o + k)) = _
    unfold f_Mo_split_5
    rw [if_pos (Int32.le_refl _), if_pos (Int32.le_refl _)]
  | succ w ih =>
    intro i N x hi hN h1 h2
    obtain ⟨N, rfl⟩ : ∃ z, N = z + 1 := ⟨N - 1, by omega⟩
    show f_Mo_split_5 r (f_Mo_split_L5 r N) g (nI o) (nI (o + k)) x (nI (o + i)) = _
    have hgo : ∀ x', (∃ b, b < i + 1 ∧ x' = nI (o + b) ∧ (i + 1 ≤ c → b < c) ∧ (c < i + 1 → b = c)) → f_Mo_split_43 r (f_Mo_split_L5 r N) g (nI o) (nI (o + k)) (nI (o + i)) x' = f_Mo_split_5 r (fun _ _ _ _ _ => none) g (nI o) (nI (o + k)) (nI (o + c)) (nI (o + k)) := by
      intro x' hx'
      unfold f_Mo_split_43
      rw [nI_1]
      exact ih (i + 1) N (by omega) (by omega) (fun z => by omega) (fun _ => hx')
    obtain ⟨sg, s1, s2, s3, s4, s5⟩ := hg i (by omega)
    rw [show f_Mo_split_5 r (f_Mo_split_L5 r N) g (nI o) (nI (o + k)) x (nI (o + i)) = (if x < 0 then f_Mo_split_37 r (f_Mo_split_L5 r N) g (nI o) (nI (o + k)) (nI (o + i)) else (if zd_in (nI (o + i)) 200 then (if zd_in x 200 then (if (f_Mo_closeness (g.2.1 82 x.toNatClampNeg)) < (f_Mo_closeness (g.2.1 82 (nI (o + i)).toNatClampNeg)) then f_Mo_split_43 r (f_Mo_split_L5 r N) g (nI o) (nI (o + k)) (nI (o + i)) x else f_Mo_split_37 r (f_Mo_split_L5 r N) g (nI o) (nI (o + k)) (nI (o + i))) else none) else none)) from if_neg (mt (nI_leI (by omega) (by omega)).mp (by omega))]
    unfold f_Mo_split_37
    by_cases i0 : i = 0
    · rw [h1 i0, if_pos (by decide)]
      exact hgo _ ⟨i, by omega, rfl, fun z => by omega, fun z => by omega⟩
    · obtain ⟨b, b1, b2, b3, b4⟩ := h2 (by omega)
      obtain ⟨sb, t1, t2, t3, t4, t5⟩ := hg b (by omega)
      rw [b2, if_neg (mt (zc_tl (k := 0) (by decide) (by omega)).mp (by omega)), if_pos (zi_in (by omega) (by omega)), if_pos (zi_in (by omega) (by omega)), nI_clamp (by omega), nI_clamp (by omega), s2, t2, zo_cl _ s1, zo_cl _ t1]
      have l1 := zo_l6 sg
      have l2 := zo_l6 sb
      by_cases cc : zo_lv sb + 1 < zo_lv sg + 1
      · rw [if_pos ((nI_ltI (by omega) (by omega)).mpr cc)]
        refine hgo _ ⟨b, by omega, rfl, fun z => ?_, fun z => ?_⟩
        · exact b3 (by omega)
        · by_cases e1 : i = c
          · have := s4 e1; have := t3 (b3 (by omega)); omega
          · exact b4 (by omega)
      · rw [if_neg (mt (nI_ltI (by omega) (by omega)).mp cc)]
        refine hgo _ ⟨i, by omega, rfl, fun z => by omega, fun z => ?_⟩
        by_cases e1 : i = c
        · exact e1
        · have h3 := s5 (by omega)
          have h4 := t4 (b4 (by omega))
          omega
theorem zo_split_s (d : Nat) : f_Mo_split (d + 1) = g_Mo_split (f_Mo_split d) := by
  unfold f_Mo_split zy_Mo_split
  rw [zd_it]
/-- a node is hung: what stays -/
theorem zo_ks_H {a b : Nat} {g g' : zs_H} {P : Nat → Prop} (H : zx_H a b g g') (h1 : ∀ i, P i → ¬ i = a ∧ ¬ i = b) (h2 : ∀ i, P i → (g.2.1 77) b = nI i → (g.2.1 76) b = -1) : zo_ks P g g' := by
  obtain ⟨H1, H2, H3, H4⟩ := H
  intro i hi
  obtain ⟨i1, i2⟩ := h1 i hi
  refine ⟨congrFun (H4.2.1 _ (by decide)) i, congrFun (H4.2.1 _ (by decide)) i, congrFun (H4.2.1 _ (by decide)) i, by rw [H1, if_neg i1], ?_, by rw [H2, if_neg i2], ?_⟩
  · rcases H3 with ⟨e1, e2, e3⟩ | ⟨e1, e2, c, c1, c2, e3⟩
    · rw [e2, if_neg i2]
    · exact e2 i
  · rcases H3 with ⟨e1, e2, e3⟩ | ⟨e1, e2, c, c1, c2, e3⟩
    · exact e3 i
    · rw [e3]
      by_cases z : i = c
      · exact absurd (h2 i hi (by rw [z]; exact c2)) e1
      · rw [if_neg z]
/-- the 7 arrays of nodes -/
abbrev zo_nd : List Nat := [72, 73, 74, 75, 76, 77, 78]
/-- what a split leaves -/
def zo_R (LC LM : List (List Int32)) (m k : Nat) (t : zt_T) (P : Nat → Prop) (g : zs_H) (a : Nat) (g' : zs_H) : Prop := (P a ∨ (m ≤ a ∧ a < m + k)) ∧ (g'.1 68 14) = nI (m + k) ∧ zx_W g' (m + k) ∧ zt_M LC LM g' t (fun i => P i ∨ (m ≤ i ∧ i < m + k)) (-1) (nI a) (nI a) ∧ zo_ks (fun i => i < m ∧ ¬ P i) g g' ∧ zfr [(68, 14)] zo_nd [] g g'
theorem zo_split {LC LM : List (List Int32)} : ∀ (f : Nat) {g : zs_H} {o k : Nat} {t : zt_T} {P : Nat → Prop} {lv m F : Nat}, zo_S LC LM g f o k t P lv → (∀ i, P i → i < m) → (g.1 68 14) = nI m → zx_W g m → m + k ≤ 33500 → o + k < 200 → f + 1 ≤ F → ∃ a g', f_Mo_split F g (nI o) (nI (o + k)) = some (nI a, g') ∧ zo_R LC LM m k t P g a g' := by
  have base : ∀ {g : zs_H} {o : Nat} {t : zt_T} {P : Nat → Prop} {m F : Nat}, zo_b1 LC LM g o t P → (∀ i, P i → i < m) → (g.1 68 14) = nI m → zx_W g m → o < 200 → 1 ≤ F → ∃ a g', f_Mo_split F g (nI o) (nI (o + 0)) = some (nI a, g') ∧ zo_R LC LM m 0 t P g a g' := by
    intro g o t P m F ⟨a, kd, p, v, l, e1, e2, e3, e4, e5⟩ hP hm hW ho hF
    obtain ⟨F, rfl⟩ : ∃ z, F = z + 1 := ⟨F - 1, by omega⟩
    refine ⟨a, g, ?_, Or.inl e2, hm, hW, zt_Mm (fun i hi => Or.inl hi) e5, fun i _ => ⟨rfl, rfl, rfl, rfl, rfl, rfl, rfl⟩, zfr_rfl⟩
    rw [zo_split_s, g_Mo_split, zF_9]
    show f_Mo_split_5 _ (f_Mo_split_L5 _ (18446744073709551607 + 8)) g (nI o) (nI o) (-1) (nI o) = _
    unfold f_Mo_split_5
    rw [if_pos (Int32.le_refl _), if_neg (by decide), if_pos (zi_in (by omega) (by omega)), nI_clamp (by omega), e4]
  intro f
  induction f with
  | zero =>
    intro g o k t P lv m F H hP hm hW hk ho hF
    obtain ⟨rfl, H⟩ := H
    exact base H hP hm hW ho hF
  | succ f ih =>
    intro g o k t P lv m F H hP hm hW hk ho hF
    have HSl := zo_Sl (f + 1) H
    rcases H with ⟨rfl, H⟩ | ⟨k0, k1, t0, t1, P0, P1, sg, pl, r1, r2, r3, r4, r5, r6, r7, r8, r9, r10⟩
    · exact base H hP hm hW ho (by omega)
    · obtain ⟨F, rfl⟩ : ∃ z, F = z + 1 := ⟨F - 1, by omega⟩
      have S0 := zo_Sl f r9
      have S1 := zo_Sl f r10
      have hcut := zo_cut (r := f_Mo_split F) (g := g) (o := o) (k := k) (c := k0) (cl := zo_lv sg) ho (by omega) (fun i hi => by
        by_cases c1 : i < k0
        · obtain ⟨x, x1, x2, x3⟩ := S0 i c1
          exact ⟨x, x1, x2, fun _ => x3, fun z => by omega, fun z => by omega⟩
        · by_cases c2 : i = k0
          · exact ⟨sg, r5, by rw [c2]; exact r3, fun z => by omega, fun _ => rfl, fun z => by omega⟩
          · obtain ⟨x, x1, x2, x3⟩ := S1 (i - k0 - 1) (by omega)
            exact ⟨x, x1, by rw [← show o + k0 + 1 + (i - k0 - 1) = o + i by omega]; exact x2, fun z => by omega, fun z => by omega, fun _ => by omega⟩) k 0 zF (x := -1) (by omega) (by have := zF_big; omega) (fun _ => rfl) (fun z => by omega)
      -- the node, and what is split to its left
      obtain ⟨g1, e1, q1⟩ := zx_node (g := g) (m := m) (kd := 35) (kn := 35) (p := pl) (v := nI sg) hm (by omega) rfl
      have W1 := zx_W_N hW q1
      have ka1 := zx_ka_N q1
      obtain ⟨q1a, q1b, q1c, q1d, q1e, q1f, q1g, q1h, q1i⟩ := q1
      have ks1 : ∀ Q : Nat → Prop, (∀ i, Q i → i < m) → zo_ks Q g g1 := fun Q hQ i hi => ka1 i (hQ i hi)
      have pf1 : ∀ i, (g1.2.1 81) i = (g.2.1 81) i ∧ (g1.2.1 82) i = (g.2.1 82) i ∧ (g1.2.1 83) i = (g.2.1 83) i := fun i => zo_fr_f (o := i + 1) q1i (by decide) (by decide) (by decide) i (by omega)
      have A0 := zo_Sk (g' := g1) (List.prefix_refl LM) f r9 (ks1 P0 (fun i hi => hP i (r7 i hi).1)) (fun i _ _ => (pf1 i).1) (fun i _ _ => (pf1 i).2)
      obtain ⟨a0, g2, e2, b0, b1, b2, b3, b4, b5⟩ := ih (m := m + 1) (F := F) A0 (fun i hi => by have := hP i (r7 i hi).1; omega) q1a W1 (by omega) (by omega) (by omega)
      have pf2 : ∀ i, (g2.2.1 81) i = (g1.2.1 81) i ∧ (g2.2.1 82) i = (g1.2.1 82) i ∧ (g2.2.1 83) i = (g1.2.1 83) i := fun i => zo_fr_f (o := i + 1) b5 (by decide) (by decide) (by decide) i (by omega)
      have ha0 : a0 < m + 1 + k0 := by
        rcases b0 with z | z
        · have := hP a0 (r7 a0 z).1; omega
        · omega
      have ha0m : ¬ a0 = m := by
        rcases b0 with z | z
        · have := hP a0 (r7 a0 z).1; omega
        · omega
      obtain ⟨g3, e3, c1, c2⟩ := zx_hang (g := g2) (m := m + 1 + k0) (a := a0) (b := m) (by omega) ha0 (by omega) b2
      obtain ⟨n1, n2, n3, n4, n5, n6, n7⟩ := b4 m ⟨by omega, fun z => by have := hP m (r7 m z).1; omega⟩
      have hfm : (g2.2.1 76) m = -1 := by rw [n5, q1f, if_pos rfl]
      have pf3 : ∀ i, (g3.2.1 81) i = (g2.2.1 81) i ∧ (g3.2.1 82) i = (g2.2.1 82) i ∧ (g3.2.1 83) i = (g2.2.1 83) i := fun i => zo_fr_f (o := i + 1) c1.2.2.2 (by decide) (by decide) (by decide) i (by omega)
      obtain ⟨t0k, t0p, t0v, t0l, et0⟩ : ∃ kd p v l, t0 = zt_n kd p v l := zo_St f r9
      subst et0
      obtain ⟨x1, x2, x3, x4, x5, Q0, x6, x7⟩ := zo_root (by omega) b3
      have H3 := zx_hangM (P := fun _ => False) (t := .leaf) (b := m) (by omega) c1 ⟨hfm, by rw [n6, q1g, if_pos rfl]⟩ x1 x3 x7 (fun i z => z.elim) (fun z => z) (fun z => by
        rcases (x6 m z).1 with y | y
        · have := hP m (r7 m y).1; omega
        · omega) ha0m (fun z => (x6 a0 z).2 rfl)
      -- what is split to its right
      have ks3 : ∀ Q : Nat → Prop, (∀ i, Q i → i < m ∧ ¬ P0 i) → zo_ks Q g2 g3 := by
        intro Q hQ
        refine zo_ks_H c1 (fun i hi => ⟨fun z => ?_, by have := (hQ i hi).1; omega⟩) (fun i _ _ => hfm)
        rcases b0 with y | y
        · exact (hQ i hi).2 (z ▸ y)
        · have := (hQ i hi).1; omega
      have ks13 : ∀ Q : Nat → Prop, (∀ i, Q i → i < m ∧ ¬ P0 i) → zo_ks Q g g3 := fun Q hQ => zo_ks_t (ks1 Q (fun i hi => (hQ i hi).1)) (zo_ks_t (P := Q) (fun i hi => b4 i ⟨by have := (hQ i hi).1; omega, (hQ i hi).2⟩) (ks3 Q hQ) (fun _ z => z)) (fun _ z => z)
      have hP1 : ∀ i, P1 i → i < m ∧ ¬ P0 i := fun i hi => ⟨hP i (r8 i hi), fun z => (r7 i z).2 hi⟩
      have A1 := zo_Sk (g' := g3) (List.prefix_refl LM) f r10 (ks13 P1 hP1) (fun i _ _ => by rw [(pf3 i).1, (pf2 i).1, (pf1 i).1]) (fun i _ _ => ⟨by rw [(pf3 i).2.1, (pf2 i).2.1, (pf1 i).2.1], by rw [(pf3 i).2.2, (pf2 i).2.2, (pf1 i).2.2]⟩)
      have hm3 : (g3.1 68 14) = nI (m + 1 + k0) := (c1.2.2.2.1 _ _ (by decide)).trans b1
      obtain ⟨a1, g4, e4, d0, d1, d2, d3, d4, d5⟩ := ih (m := m + 1 + k0) (F := F) A1 (fun i hi => by have := (hP1 i hi).1; omega) hm3 c2 (by omega) (by omega) (by omega)
      have ha1 : a1 < m + 1 + k0 + k1 := by
        rcases d0 with z | z
        · have := (hP1 a1 z).1; omega
        · omega
      have hP1n : ∀ i, (m ≤ i ∧ i < m + 1 + k0) → ¬ P1 i := fun i hi z => by have := (hP1 i z).1; omega
      have ha1m : ¬ a1 = m := by
        rcases d0 with z | z
        · have := (hP1 a1 z).1; omega
        · omega
      obtain ⟨g5, e5, f1, f2⟩ := zx_hang (g := g4) (m := m + 1 + k0 + k1) (a := a1) (b := m) (by omega) ha1 (by omega) d2
      obtain ⟨t1k, t1p, t1v, t1l, et1⟩ : ∃ kd p v l, t1 = zt_n kd p v l := zo_St f r10
      subst et1
      obtain ⟨y1, y2, y3, y4, y5, Q1, y6, y7⟩ := zo_root (by omega) d3
      -- the left one, below the node, in g4
      have hL : ∀ i, (False ∨ i = a0 ∨ Q0 i) → (P0 i ∨ (m + 1 ≤ i ∧ i < m + 1 + k0)) := by
        intro i hi
        rcases hi with z | z | z
        · exact z.elim
        · rw [z]; exact b0
        · exact (x6 i z).1
      have hLn : ∀ i, (False ∨ i = a0 ∨ Q0 i) → i < m + 1 + k0 ∧ ¬ P1 i := by
        intro i hi
        rcases hL i hi with z | z
        · have := hP i (r7 i z).1; exact ⟨by omega, (r7 i z).2⟩
        · exact ⟨by omega, hP1n i ⟨by omega, by omega⟩⟩
      obtain ⟨u1, u2, u3, u4, u5, u6, u7⟩ := d4 m ⟨by omega, hP1n m ⟨by omega, by omega⟩⟩
      have H4 := zo_Mk (List.prefix_refl LM) (g' := g4) (fun i hi => d4 i (hLn i hi)) H3
      rw [← u5, ← u6] at H4
      have H5 := zx_hangM (b := m) (by omega) f1 H4 y1 y3 y7 (fun i hi => by
        have hn := hLn i hi
        refine ⟨fun z => ?_, fun z => ?_⟩
        · rcases (y6 i z).1 with w | w
          · exact hn.2 w
          · omega
        · rcases d0 with w | w
          · exact hn.2 (z ▸ w)
          · omega) (fun z => by
        rcases hL m z with w | w
        · have := hP m (r7 m w).1; omega
        · omega) (fun z => by
        rcases (y6 m z).1 with w | w
        · exact hP1n m ⟨by omega, by omega⟩ w
        · omega) ha1m (fun z => (y6 a1 z).2 rfl)
      refine ⟨m, g5, ?_, Or.inr ⟨by omega, by omega⟩, ?_, ?_, ?_, ?_, ?_⟩
      · rw [zo_split_s, g_Mo_split]
        rw [show f_Mo_split_L5 (f_Mo_split F) zF g (nI o) (nI (o + k)) (-1) (nI o) = _ from hcut]
        unfold f_Mo_split_5
        rw [if_pos (Int32.le_refl _), if_pos (show (0 : Int32) ≤ nI (o + k0) from (zc_le (k := 0) (by decide) (by omega)).mpr (by omega)), if_pos (zi_in (by omega) (by omega)), nI_clamp (by omega), r3, r4, e1, zo_B, e2, zo_B, e3, Option.bind_some, nI_1, show nI (o + k) = nI (o + k0 + 1 + k1) by rw [r1]; congr 1; omega, e4, zo_B, e5]
        rfl
      · rw [f1.2.2.2.1 _ _ (by decide), d1]; congr 1; omega
      · rw [show m + k = m + 1 + k0 + k1 by omega]; exact f2
      · rw [r2]
        obtain ⟨H41, H42, H43, H44⟩ := f1
        obtain ⟨C1, C2, C3, C4⟩ := c1
        refine zo_mk (P1 := fun i => (False ∨ i = a0 ∨ Q0 i) ∨ i = a1 ∨ Q1 i) (by omega) ⟨?_, fun _ => ?_, ?_⟩ ?_ ?_ (Or.inr ⟨by omega, by omega⟩) (fun i hi => ?_) H5
        · rw [H44.2.1 _ (by decide), u1, C4.2.1 _ (by decide), n1, q1b, if_pos rfl]; rfl
        · rw [H44.2.1 _ (by decide), u2, C4.2.1 _ (by decide), n2, q1c, if_pos rfl]
        · rw [if_neg (by decide), H44.2.1 _ (by decide), u3, C4.2.1 _ (by decide), n3, q1d, if_pos rfl]
        · rw [H41, if_neg (fun z => ha1m z.symm), u4, C1, if_neg (fun z => ha0m z.symm), n4, q1e, if_pos rfl]
        · have hb3 : (g3.2.1 78) m = -1 := by
            rcases C3 with ⟨w1, w2, w3⟩ | ⟨w1, _⟩
            · rw [w3, n7, q1h, if_pos rfl]
            · exact absurd hfm w1
          have hb4 : (g4.2.1 78) m = -1 := u7.trans hb3
          rcases H43 with ⟨w1, w2, w3⟩ | ⟨w1, w2, c, w3, w4, w5⟩
          · rw [w3, hb4]
          · rw [w5]
            have hl4 : (g4.2.1 77) m = nI a0 := by rw [u6, C2, if_pos rfl]
            have : c = a0 := (nI_eq (by omega) (by omega)).mp (w4.symm.trans hl4)
            rw [if_neg (fun z => ha0m (by rw [← this, ← z])), hb4]
        · rcases hi with z | z | z
          · rcases hL i z with w | w
            · exact ⟨Or.inl (r7 i w).1, fun q => by have := hP i (r7 i w).1; omega⟩
            · exact ⟨Or.inr ⟨by omega, by omega⟩, by omega⟩
          · rw [z]
            rcases d0 with w | w
            · exact ⟨Or.inl (r8 a1 w), ha1m⟩
            · exact ⟨Or.inr ⟨by omega, by omega⟩, ha1m⟩
          · rcases (y6 i z).1 with w | w
            · exact ⟨Or.inl (r8 i w), fun q => by have := (hP1 i w).1; omega⟩
            · exact ⟨Or.inr ⟨by omega, by omega⟩, by omega⟩
      · have hn : ∀ i, (i < m ∧ ¬ P i) → (i < m ∧ ¬ P0 i) := fun i hi => ⟨hi.1, fun z => hi.2 (r7 i z).1⟩
        refine zo_ks_t (ks13 _ hn) (zo_ks_t (P := fun i => i < m ∧ ¬ P i) (fun i hi => d4 i ⟨by have := hi.1; omega, fun z => hi.2 (r8 i z)⟩) (zo_ks_H (P := fun i => i < m ∧ ¬ P i) f1 (fun i hi => ⟨fun z => ?_, by have := hi.1; omega⟩) (fun i hi z => ?_)) (fun _ z => z)) (fun _ z => z)
        · rcases d0 with w | w
          · exact hi.2 (z ▸ r8 a1 w)
          · have := hi.1; omega
        · exfalso
          have hl4 : (g4.2.1 77) m = nI a0 := by rw [u6, c1.2.1, if_pos rfl]
          have : i = a0 := (nI_eq (by have := hi.1; omega) (by omega)).mp (z.symm.trans hl4)
          rcases b0 with w | w
          · exact hi.2 (this ▸ (r7 a0 w).1)
          · have := hi.1; omega
      · exact zfr_trans (zfr_trans (zfr_trans q1i b5) (zfr_w c1.2.2.2 (by decide) (by decide) (by decide))) (zfr_trans d5 (zfr_w f1.2.2.2 (by decide) (by decide) (by decide)))
