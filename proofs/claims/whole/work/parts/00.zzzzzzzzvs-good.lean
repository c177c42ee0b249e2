/-! The machine: the Qs of TPs are 0 or 1. -/
def yS_g (kb : Nat → yK) (b base : Nat) (c : Nat → Int32) : Prop := ∀ j, (kb b).2 j → c (base + j) = 0 ∨ c (base + j) = 1
def yS_m (tm : Nat → Nat → (Nat → Int32) → Nat → Int32) : Prop := ∀ (p : Nat) (c : Nat → Int32), tm 2 p c (p + 2) = 0 ∨ tm 2 p c (p + 2) = 1
def yS_U (X : Nat → Nat) (kb : Nat → yK) (pl : Nat → Nat) (b : Nat) (U : Nat → Nat → yE → yE × Nat) : Prop := ∀ (u base : Nat) (s : yE), u < b → yE_dj X kb pl u base → yS_g kb u base s.1 → yS_g kb u base (U u base s).1.1
/-- where these Qs are -/
def yS_q (X Y : Nat → Nat) (kb : Nat → yK) (b : Nat) : Prop := ∀ u, u ≤ b → (Y u ≤ X u ∧ X u ≤ 100000 ∧ u < 16) ∧ ∀ j, (kb u).2 j → j < Y u ∧ ¬ (kb u).1 = 1
def yS_h (X Y : Nat → Nat) (kb : Nat → yK) (pl : Nat → Nat) (tm : Nat → Nat → (Nat → Int32) → Nat → Int32) (b base : Nat) (U : Nat → Nat → yE → yE × Nat) : Prop := yS_q X Y kb b ∧ yE_hU X kb pl b U ∧ yE_ht tm ∧ yS_m tm ∧ yS_U X kb pl b U ∧ yE_dj X kb pl b base
section YSG
variable {X Y : Nat → Nat} {kb : Nat → yK} {pl : Nat → Nat} {tm : Nat → Nat → (Nat → Int32) → Nat → Int32} {U : Nat → Nat → yE → yE × Nat} {b base lo : Nat}
theorem yS_w {c : Nat → Int32} {p : Nat} {v : Int32} (G : yS_g kb b base c) (h : ∀ j, (kb b).2 j → ¬ base + j = p) : yS_g kb b base (yE_u c p v) := fun j hj => by
  have e : yE_u c p v (base + j) = c (base + j) := if_neg (h j hj)
  rw [e]; exact G j hj
theorem yS_f {c c' : Nat → Int32} (G : yS_g kb b base c) (h : ∀ j, (kb b).2 j → c' (base + j) = c (base + j)) : yS_g kb b base c' := fun j hj => by
  rw [h j hj]; exact G j hj
theorem yS_15 {u x : Nat} {s : yE} (H : yS_h X Y kb pl tm b base U) (hu : u < b) (hx : x + X u ≤ Y b) (hq : ∀ j, j < X u → ((kb b).2 (x + j) ↔ (kb u).2 j)) (G : yS_g kb b base s.1) : yS_g kb u (base + x) s.1 ∧ yE_dj X kb pl u (base + x) ∧ yS_g kb b base (U u (base + x) s).1.1 := by
  obtain ⟨H1, H2, H3, H4, H5, H6⟩ := H
  have hYX := (H1 b (Nat.le_refl _)).1
  have g1 : yS_g kb u (base + x) s.1 := fun j hj => by
    obtain ⟨q1, _⟩ := (H1 u (by omega)).2 j hj
    have q2 := (H1 u (by omega)).1
    have := G (x + j) ((hq j (by omega)).mpr hj)
    rwa [← Nat.add_assoc] at this
  have d1 : yE_dj X kb pl u (base + x) := fun w hw hk => by
    rcases H6 w (by omega) hk with z | z
    · exact .inl (by omega)
    · exact .inr (by omega)
  refine ⟨g1, d1, fun j hj => ?_⟩
  obtain ⟨q1, _⟩ := (H1 b (Nat.le_refl _)).2 j hj
  by_cases z : x ≤ j ∧ j < x + X u
  · obtain ⟨t, rfl⟩ : ∃ t, j = x + t := ⟨j - x, by omega⟩
    have := H5 u (base + x) s hu d1 g1 t ((hq t (by omega)).mp hj)
    rwa [Nat.add_assoc] at this
  · rw [H2 u (base + x) s (base + j) hu (by omega) (fun w hw hk => by
      rcases H6 w (by omega) hk with z | z <;> omega)]
    exact G j hj
theorem yS_16 {u : Nat} {s : yE} (H : yS_h X Y kb pl tm b base U) (hu : u < b) (hk : (kb u).1 = 1) (G : yS_g kb b base s.1) : yS_g kb u (pl u) s.1 ∧ yS_g kb b base (U u (pl u) s).1.1 := by
  obtain ⟨H1, H2, H3, H4, H5, H6⟩ := H
  have hYX := (H1 b (Nat.le_refl _)).1
  refine ⟨fun j hj => absurd hk ((H1 u (by omega)).2 j hj).2, yS_f G fun j hj => ?_⟩
  obtain ⟨q1, _⟩ := (H1 b (Nat.le_refl _)).2 j hj
  refine H2 u (pl u) s (base + j) hu ?_ (fun w hw hk => ?_)
  · rcases H6 u hu hk with z | z <;> omega
  · rcases H6 w (by omega) hk with z | z <;> omega
theorem yS_17 {B x : Nat} {c : Nat → Int32} (H : yS_h X Y kb pl tm b base U) (hB : B < 9) (hx : x + (zt_2.getD B 0).toNatClampNeg ≤ Y b) (hq : ∀ j, j < (zt_2.getD B 0).toNatClampNeg → ((kb b).2 (x + j) ↔ B = 2 ∧ j = 2)) (G : yS_g kb b base c) : (B = 2 → c (base + x + 2) = 0 ∨ c (base + x + 2) = 1) ∧ yS_g kb b base (tm B (base + x) c) := by
  obtain ⟨H1, H2, H3, H4, H5, H6⟩ := H
  refine ⟨fun e => ?_, fun j hj => ?_⟩
  · have := G (x + 2) ((hq 2 (by rw [e]; decide)).mpr ⟨e, rfl⟩)
    rwa [← Nat.add_assoc] at this
  · by_cases z : x ≤ j ∧ j < x + (zt_2.getD B 0).toNatClampNeg
    · obtain ⟨t, rfl⟩ : ∃ t, j = x + t := ⟨j - x, by omega⟩
      obtain ⟨e1, e2⟩ := (hq t (by omega)).mp hj
      subst e1; subst e2
      have := H4 (base + x) c
      rwa [Nat.add_assoc] at this
    · rw [H3 B (base + x) c (base + j) hB (by omega)]
      exact G j hj
theorem yS_1 (H : yS_h X Y kb pl tm b base U) (hY : Y b ≤ lo) {i : yI} (W : yw_i X Y kb b lo i) (s : yE) (G : yS_g kb b base s.1) : yS_g kb b base (yE_1 pl tm U base i s).1.1 := by
  obtain ⟨c, S, n⟩ := s
  have G' : yS_g kb b base c := G
  obtain ⟨H1, H2, H3, H4, H5, H6⟩ := id H
  have hYX := (H1 b (Nat.le_refl _)).1
  rcases W with W | ⟨e, x, e1, W⟩ | ⟨e, x, s, e1, e2, W, Wq⟩ | ⟨e, u, x, e1, e2, W1, W2, W3, Wq⟩ | ⟨e, B', x, e1, e2, W1, W2, Wq⟩
  · rcases W with e | e | ⟨e, _⟩ | ⟨e, _⟩ | ⟨e, _⟩ | ⟨e, u, x, e1, e2, W1, W2, W3⟩ | ⟨e, _⟩ | ⟨e, _⟩ | ⟨e, u, e1, W1, W2⟩
    · unfold yE_1; rw [if_pos e]; exact G'
    · unfold yE_1
      simp (config := { decide := true }) only [e, if_false, if_true]
      split <;> exact G'
    · unfold yE_1
      simp (config := { decide := true }) only [e, if_false, if_true]
      exact G'
    · unfold yE_1
      simp (config := { decide := true }) only [e, if_false, if_true]
      split
      · split <;> exact G'
      · exact G'
    · unfold yE_1
      simp (config := { decide := true }) only [e, if_false, if_true]
      exact G'
    · unfold yE_1
      simp (config := { decide := true }) only [e, if_false, if_true, e1, e2, nI_clamp (show u < 2147483648 by omega), nI_clamp (show x < 2147483648 by have := (H1 u (by omega)).1; omega)]
      split
      · refine yS_w G' fun j hj => ?_
        obtain ⟨q1, _⟩ := (H1 b (Nat.le_refl _)).2 j hj
        rcases H6 u W1 W2 with z | z <;> omega
      · exact G'
    · unfold yE_1
      simp (config := { decide := true }) only [e, if_false, if_true]
      split
      · split
        · split <;> exact G'
        · exact G'
      · exact G'
    · unfold yE_1
      simp (config := { decide := true }) only [e, if_false, if_true]
      split <;> exact G'
    · unfold yE_1
      simp (config := { decide := true }) only [e, if_false, if_true, e1, nI_clamp (show u < 2147483648 by omega)]
      exact (yS_16 H W1 W2 (s := (c, S, n + 1)) G').2
  · unfold yE_1
    simp (config := { decide := true }) only [e, if_false, if_true, e1, nI_clamp (show x < 2147483648 by omega)]
    split
    · refine yS_w G' fun j hj w => ?_
      obtain ⟨q1, _⟩ := (H1 b (Nat.le_refl _)).2 j hj
      have ej : j = x := by omega
      rcases W with ⟨_, z⟩ | z
      · exact z (ej ▸ hj)
      · omega
    · exact G'
  · unfold yE_1
    simp (config := { decide := true }) only [e, if_false, if_true, e1, nI_clamp (show x < 2147483648 by omega)]
    split
    · split
      · exact G'
      · rename_i nb
        have il := yE_ixl e2 (by omega) nb
        refine yS_w G' fun j hj w => ?_
        rw [Nat.add_assoc] at w
        have ej := Nat.add_left_cancel w
        rw [ej] at hj
        exact Wq _ il hj
    · exact G'
  · unfold yE_1
    simp (config := { decide := true }) only [e, if_false, if_true, e1, e2, nI_clamp (show u < 2147483648 by have := (H1 u (by omega)).1; omega), nI_clamp (show x < 2147483648 by omega)]
    exact (yS_15 H W1 W3 Wq (s := (c, S, n + 1)) G').2.2
  · unfold yE_1
    simp (config := { decide := true }) only [e, if_false, if_true, e1, e2, nI_clamp (show B' < 2147483648 by omega), nI_clamp (show x < 2147483648 by omega)]
    exact (yS_17 H W1 W2 Wq G').2
theorem yS_L (H : yS_h X Y kb pl tm b base U) (hY : Y b ≤ lo) : ∀ (L : List yI) (s : yE), (∀ i, i ∈ L → yw_i X Y kb b lo i) → yS_g kb b base s.1 → yS_g kb b base (yE_L pl tm U base L s).1.1 := by
  intro L
  induction L with
  | nil => intro s _ G; exact G
  | cons i L ih =>
    intro s W G
    have g1 := yS_1 H hY (W i (List.mem_cons_self ..)) s G
    rw [yE_L]
    split
    · exact ih _ (fun i hi => W i (List.mem_cons_of_mem _ hi)) g1
    · exact g1
theorem yS_l {body : yE → yE × Nat} {cc : Nat} (H : yS_h X Y kb pl tm b base U) (hc : Y b ≤ cc) (Hb : ∀ s, yS_g kb b base s.1 → yS_g kb b base (body s).1.1) : ∀ (f : Nat) (s : yE), yS_g kb b base s.1 → yS_g kb b base (yE_l body (base + cc) f s).1.1 := by
  have w : ∀ (c : Nat → Int32) (v : Int32), yS_g kb b base c → yS_g kb b base (yE_u c (base + cc) v) := fun c v G => yS_w G fun j hj w => by
    have := ((H.1 b (Nat.le_refl _)).2 j hj).1
    omega
  intro f
  induction f with
  | zero => intro s G; exact G
  | succ f ih =>
    intro s G
    rw [yE_l]
    have gb := Hb (yE_u s.1 (base + cc) (s.1 (base + cc) - 1), s.2.1, s.2.2 + 1) (w _ _ G)
    split
    · exact G
    · split
      · exact ih _ gb
      · split <;> exact gb
theorem yS_T (H : yS_h X Y kb pl tm b base U) : ∀ (T : ys) (lo : Nat) (s : yE), yz_W X Y kb b T lo → Y b ≤ lo → yS_g kb b base s.1 → yS_g kb b base (yE_T pl tm U base T s).1.1 := by
  intro T
  induction T with
  | leaf => intro lo s _ _ G; exact G
  | inner k p o l r ihl ihr =>
    intro lo s ⟨W1, W2⟩ hY G
    rw [yE_T]
    by_cases k0 : k = 0
    · rw [if_pos k0] at W1 ⊢
      have g1 := yS_L H hY p.1 s W1.2 G
      split
      · exact ihr lo _ W2 hY g1
      · exact g1
    rw [if_neg k0] at W1 ⊢
    by_cases k2 : k = 2
    · rw [if_pos k2] at W1
      rw [if_neg (show ¬ k = 1 by omega), if_pos k2]
      obtain ⟨cc, N, w1, w2, w3, w4, w5, w6, w7⟩ := W1
      have xb := (H.1 b (Nat.le_refl _)).1.2
      rw [w1, nI_clamp (show cc < 2147483648 by omega)]
      have g1 := yS_l (body := yE_T pl tm U base l) (cc := cc) H (by omega) (fun s g => ihl (cc + 1) s w7 (by omega) g) (p.2.2.toNatClampNeg + 1) (yE_u s.1 (base + cc) p.2.2, s.2.1, s.2.2 + 1) (yS_w G fun j hj w => by
        have := ((H.1 b (Nat.le_refl _)).2 j hj).1
        omega)
      split
      · exact ihr lo _ W2 hY g1
      · exact g1
    rw [if_neg k2] at W1
    by_cases k5 : k = 5
    · rw [if_pos k5] at W1
      rw [if_neg (show ¬ k = 1 by omega), if_neg k2, if_neg (show ¬ k = 3 by omega), if_neg (show ¬ k = 4 by omega), if_pos k5]
      have g1 := yS_L H hY p.1 s (fun i hi => .inl (W1.2.1 i hi)) G
      generalize yE_L pl tm U base p.1 s = q at g1
      split
      · split
        · rename_i y S _
          have gl := ihl lo (q.1.1, S, q.1.2.2 + 1) W1.2.2.2 hY g1
          split
          · exact ihr lo _ W2 hY g1
          · split
            · split
              · exact gl
              · exact gl
            · exact gl
        · exact G
      · exact g1
    rw [if_neg k5] at W1
    by_cases k1 : k = 1
    · rw [if_pos k1] at W1 ⊢
      have g1 := ihl lo s W1.2 hY G
      split
      · exact ihr lo _ W2 hY g1
      · exact g1
    rw [if_neg k1] at W1 ⊢
    rw [if_neg k2]
    by_cases k3 : k = 3
    · rw [if_pos k3]; exact G
    rw [if_neg k3]
    by_cases k4 : k = 4
    · rw [if_pos k4]; exact G
    rw [if_neg k4, if_neg k5]
    have g1 := ihl lo s W1.2 hY G
    split
    · exact ihr lo _ W2 hY g1
    · exact g1
theorem yS_Us {T : Nat → ys} {nb : Nat} (hn : nb ≤ 16) (hq : yS_q X Y kb (nb - 1)) (ht : yE_ht tm) (hm : yS_m tm) (W : ∀ u, u < nb → yz_W X Y kb u (T u) (Y u)) : ∀ b, b ≤ nb → yS_U X kb pl b (yE_U T pl tm b) := by
  have hX : ∀ u, u < nb → Y u ≤ X u ∧ X u ≤ 100000 := fun u hu => ⟨(hq u (by omega)).1.1, (hq u (by omega)).1.2.1⟩
  have hw : ∀ b, b ≤ nb → yE_hU X kb pl b (yE_U T pl tm b) := yE_Uw hn hX ht W
  intro b
  induction b with
  | zero => intro _ u base s hu; omega
  | succ b ih =>
    intro hb u base s hu dj G
    rw [yE_U]
    by_cases z : u = b
    · rw [if_pos z]
      subst z
      exact yS_T ⟨fun w hw => hq w (by omega), hw u (by omega), ht, hm, ih (by omega), dj⟩ (T u) (Y u) s (W u (by omega)) (Nat.le_refl _) G
    · rw [if_neg z]
      exact ih (by omega) u base s (by omega) dj G
end YSG
