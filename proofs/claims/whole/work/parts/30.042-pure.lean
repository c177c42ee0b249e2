section
/-! The machine: the Qs of TPs are 0 or 1. -/
def yS_g (kb : Nat → yK) (b base : Nat) (c : Nat → Int32) : Prop := ∀ j, (kb b).2 j → c (base + j) = 0 ∨ c (base + j) = 1
def yS_m (tm : Nat → Nat → (Nat → Int32) → Nat → Int32) : Prop := ∀ (p : Nat) (c : Nat → Int32), tm 2 p c (p + 2) = 0 ∨ tm 2 p c (p + 2) = 1
def yS_U (X : Nat → Nat) (kb : Nat → yK) (pl : Nat → Nat) (b : Nat) (U : Nat → Nat → yE → yE × Nat) : Prop := ∀ (u base : Nat) (s : yE), u < b → yE_dj X kb pl u base → yS_g kb u base s.1 → yS_g kb u base (U u base s).1.1
/-- where these Qs are -/
def yS_q (X Y : Nat → Nat) (kb : Nat → yK) (b : Nat) : Prop := ∀ u, u ≤ b → (Y u ≤ X u ∧ X u ≤ 100000 ∧ u < 16) ∧ ∀ j, (kb u).2 j → j < Y u ∧ ¬ (kb u).1 = 1
def yS_h (X Y : Nat → Nat) (kb : Nat → yK) (pl : Nat → Nat) (tm : Nat → Nat → (Nat → Int32) → Nat → Int32) (b base : Nat) (U : Nat → Nat → yE → yE × Nat) : Prop := yS_q X Y kb b ∧ yE_hU X kb pl b U ∧ yE_ht tm ∧ yS_m tm ∧ yS_U X kb pl b U ∧ yE_dj X kb pl b base
section YSG
variable {X Y : Nat → Nat} {kb : Nat → yK} {pl : Nat → Nat} {tm : Nat → Nat → (Nat → Int32) → Nat → Int32} {U : Nat → Nat → yE → yE × Nat} {b base lo : Nat}
theorem yS_w {c : Nat → Int32} {p : Nat} {v : Int32} (G : yS_g kb b base c) (h : ∀ j, (kb b).2 j → ¬ base + j = p) : yS_g kb b base (yE_u c p v) := fun j hj => by
  have e : yE_u c p v (base + j) = c (base + j) := if_neg (h j hj)
  rw [e]; exact G j hj
theorem yS_f {c c' : Nat → Int32} (G : yS_g kb b base c) (h : ∀ j, (kb b).2 j → c' (base + j) = c (base + j)) : yS_g kb b base c' := fun j hj => by
  rw [h j hj]; exact G j hj
theorem yS_15 {u x : Nat} {s : yE} (H : yS_h X Y kb pl tm b base U) (hu : u < b) (hx : x + X u ≤ Y b) (hq : ∀ j, j < X u → ((kb b).2 (x + j) ↔ (kb u).2 j)) (G : yS_g kb b base s.1) : yS_g kb u (base + x) s.1 ∧ yE_dj X kb pl u (base + x) ∧ yS_g kb b base (U u (base + x) s).1.1 := by
  obtain ⟨H1, H2, H3, H4, H5, H6⟩ := H
  have hYX := (H1 b (Nat.le_refl _)).1
  have g1 : yS_g kb u (base + x) s.1 := fun j hj => by
    obtain ⟨q1, _⟩ := (H1 u (by omega)).2 j hj
    have q2 := (H1 u (by omega)).1
    have := G (x + j) ((hq j (by omega)).mpr hj)
    rwa [← Nat.add_assoc] at this
  have d1 : yE_dj X kb pl u (base + x) := fun w hw hk => by
    rcases H6 w (by omega) hk with z | z
    · exact .inl (by omega)
    · exact .inr (by omega)
  refine ⟨g1, d1, fun j hj => ?_⟩
  obtain ⟨q1, _⟩ := (H1 b (Nat.le_refl _)).2 j hj
  by_cases z : x ≤ j ∧ j < x + X u
  · obtain ⟨t, rfl⟩ : ∃ t, j = x + t := ⟨j - x, by omega⟩
    have := H5 u (base + x) s hu d1 g1 t ((hq t (by omega)).mp hj)
    rwa [Nat.add_assoc] at this
  · rw [H2 u (base + x) s (base + j) hu (by omega) (fun w hw hk => by
      rcases H6 w (by omega) hk with z | z <;> omega)]
    exact G j hj
theorem yS_16 {u : Nat} {s : yE} (H : yS_h X Y kb pl tm b base U) (hu : u < b) (hk : (kb u).1 = 1) (G : yS_g kb b base s.1) : yS_g kb u (pl u) s.1 ∧ yS_g kb b base (U u (pl u) s).1.1 := by
  obtain ⟨H1, H2, H3, H4, H5, H6⟩ := H
  have hYX := (H1 b (Nat.le_refl _)).1
  refine ⟨fun j hj => absurd hk ((H1 u (by omega)).2 j hj).2, yS_f G fun j hj => ?_⟩
  obtain ⟨q1, _⟩ := (H1 b (Nat.le_refl _)).2 j hj
  refine H2 u (pl u) s (base + j) hu ?_ (fun w hw hk => ?_)
  · rcases H6 u hu hk with z | z <;> omega
  · rcases H6 w (by omega) hk with z | z <;> omega
theorem yS_17 {B x : Nat} {c : Nat → Int32} (H : yS_h X Y kb pl tm b base U) (hB : B < 9) (hx : x + (zt_2.getD B 0).toNatClampNeg ≤ Y b) (hq : ∀ j, j < (zt_2.getD B 0).toNatClampNeg → ((kb b).2 (x + j) ↔ B = 2 ∧ j = 2)) (G : yS_g kb b base c) : (B = 2 → c (base + x + 2) = 0 ∨ c (base + x + 2) = 1) ∧ yS_g kb b base (tm B (base + x) c) := by
  obtain ⟨H1, H2, H3, H4, H5, H6⟩ := H
  refine ⟨fun e => ?_, fun j hj => ?_⟩
  · have := G (x + 2) ((hq 2 (by rw [e]; decide)).mpr ⟨e, rfl⟩)
    rwa [← Nat.add_assoc] at this
  · by_cases z : x ≤ j ∧ j < x + (zt_2.getD B 0).toNatClampNeg
    · obtain ⟨t, rfl⟩ : ∃ t, j = x + t := ⟨j - x, by omega⟩
      obtain ⟨e1, e2⟩ := (hq t (by omega)).mp hj
      subst e1; subst e2
      have := H4 (base + x) c
      rwa [Nat.add_assoc] at this
    · rw [H3 B (base + x) c (base + j) hB (by omega)]
      exact G j hj
theorem yS_1 (H : yS_h X Y kb pl tm b base U) (hY : Y b ≤ lo) {i : yI} (W : yw_i X Y kb b lo i) (s : yE) (G : yS_g kb b base s.1) : yS_g kb b base (yE_1 pl tm U base i s).1.1 := by
  obtain ⟨c, S, n⟩ := s
  have G' : yS_g kb b base c := G
  obtain ⟨H1, H2, H3, H4, H5, H6⟩ := id H
  have hYX := (H1 b (Nat.le_refl _)).1
  rcases W with W | ⟨e, x, e1, W⟩ | ⟨e, x, s, e1, e2, W, Wq⟩ | ⟨e, u, x, e1, e2, W1, W2, W3, Wq⟩ | ⟨e, B', x, e1, e2, W1, W2, Wq⟩
  · rcases W with e | e | ⟨e, _⟩ | ⟨e, _⟩ | ⟨e, _⟩ | ⟨e, u, x, e1, e2, W1, W2, W3⟩ | ⟨e, _⟩ | ⟨e, _⟩ | ⟨e, u, e1, W1, W2⟩
    · unfold yE_1; rw [if_pos e]; exact G'
    · unfold yE_1
      simp (config := { decide := true }) only [e, if_false, if_true]
      split <;> exact G'
    · unfold yE_1
      simp (config := { decide := true }) only [e, if_false, if_true]
      exact G'
    · unfold yE_1
      simp (config := { decide := true }) only [e, if_false, if_true]
      split
      · split <;> exact G'
      · exact G'
    · unfold yE_1
      simp (config := { decide := true }) only [e, if_false, if_true]
      exact G'
    · unfold yE_1
      simp (config := { decide := true }) only [e, if_false, if_true, e1, e2, nI_clamp (show u < 2147483648 by omega), nI_clamp (show x < 2147483648 by have := (H1 u (by omega)).1; omega)]
      split
      · refine yS_w G' fun j hj => ?_
        obtain ⟨q1, _⟩ := (H1 b (Nat.le_refl _)).2 j hj
        rcases H6 u W1 W2 with z | z <;> omega
      · exact G'
    · unfold yE_1
      simp (config := { decide := true }) only [e, if_false, if_true]
      split
      · split
        · split <;> exact G'
        · exact G'
      · exact G'
    · unfold yE_1
      simp (config := { decide := true }) only [e, if_false, if_true]
      split <;> exact G'
    · unfold yE_1
      simp (config := { decide := true }) only [e, if_false, if_true, e1, nI_clamp (show u < 2147483648 by omega)]
      exact (yS_16 H W1 W2 (s := (c, S, n + 1)) G').2
  · unfold yE_1
    simp (config := { decide := true }) only [e, if_false, if_true, e1, nI_clamp (show x < 2147483648 by omega)]
    split
    · refine yS_w G' fun j hj w => ?_
      obtain ⟨q1, _⟩ := (H1 b (Nat.le_refl _)).2 j hj
      have ej : j = x := by omega
      rcases W with ⟨_, z⟩ | z
      · exact z (ej ▸ hj)
      · omega
    · exact G'
  · unfold yE_1
    simp (config := { decide := true }) only [e, if_false, if_true, e1, nI_clamp (show x < 2147483648 by omega)]
    split
    · split
      · exact G'
      · rename_i nb
        have il := yE_ixl e2 (by omega) nb
        refine yS_w G' fun j hj w => ?_
        rw [Nat.add_assoc] at w
        have ej := Nat.add_left_cancel w
        rw [ej] at hj
        exact Wq _ il hj
    · exact G'
  · unfold yE_1
    simp (config := { decide := true }) only [e, if_false, if_true, e1, e2, nI_clamp (show u < 2147483648 by have := (H1 u (by omega)).1; omega), nI_clamp (show x < 2147483648 by omega)]
    exact (yS_15 H W1 W3 Wq (s := (c, S, n + 1)) G').2.2
  · unfold yE_1
    simp (config := { decide := true }) only [e, if_false, if_true, e1, e2, nI_clamp (show B' < 2147483648 by omega), nI_clamp (show x < 2147483648 by omega)]
    exact (yS_17 H W1 W2 Wq G').2
theorem yS_L (H : yS_h X Y kb pl tm b base U) (hY : Y b ≤ lo) : ∀ (L : List yI) (s : yE), (∀ i, i ∈ L → yw_i X Y kb b lo i) → yS_g kb b base s.1 → yS_g kb b base (yE_L pl tm U base L s).1.1 := by
  intro L
  induction L with
  | nil => intro s _ G; exact G
  | cons i L ih =>
    intro s W G
    have g1 := yS_1 H hY (W i (List.mem_cons_self ..)) s G
    rw [yE_L]
    split
    · exact ih _ (fun i hi => W i (List.mem_cons_of_mem _ hi)) g1
    · exact g1
theorem yS_l {body : yE → yE × Nat} {cc : Nat} (H : yS_h X Y kb pl tm b base U) (hc : Y b ≤ cc) (Hb : ∀ s, yS_g kb b base s.1 → yS_g kb b base (body s).1.1) : ∀ (f : Nat) (s : yE), yS_g kb b base s.1 → yS_g kb b base (yE_l body (base + cc) f s).1.1 := by
  have w : ∀ (c : Nat → Int32) (v : Int32), yS_g kb b base c → yS_g kb b base (yE_u c (base + cc) v) := fun c v G => yS_w G fun j hj w => by
    have := ((H.1 b (Nat.le_refl _)).2 j hj).1
    omega
  intro f
  induction f with
  | zero => intro s G; exact G
  | succ f ih =>
    intro s G
    rw [yE_l]
    have gb := Hb (yE_u s.1 (base + cc) (s.1 (base + cc) - 1), s.2.1, s.2.2 + 1) (w _ _ G)
    split
    · exact G
    · split
      · exact ih _ gb
      · split <;> exact gb
theorem yS_T (H : yS_h X Y kb pl tm b base U) : ∀ (T : ys) (lo : Nat) (s : yE), yz_W X Y kb b T lo → Y b ≤ lo → yS_g kb b base s.1 → yS_g kb b base (yE_T pl tm U base T s).1.1 := by
  intro T
  induction T with
  | leaf => intro lo s _ _ G; exact G
  | inner k p o l r ihl ihr =>
    intro lo s ⟨W1, W2⟩ hY G
    rw [yE_T]
    by_cases k0 : k = 0
    · rw [if_pos k0] at W1 ⊢
      have g1 := yS_L H hY p.1 s W1.2 G
      split
      · exact ihr lo _ W2 hY g1
      · exact g1
    rw [if_neg k0] at W1 ⊢
    by_cases k2 : k = 2
    · rw [if_pos k2] at W1
      rw [if_neg (show ¬ k = 1 by omega), if_pos k2]
      obtain ⟨cc, N, w1, w2, w3, w4, w5, w6, w7⟩ := W1
      have xb := (H.1 b (Nat.le_refl _)).1.2
      rw [w1, nI_clamp (show cc < 2147483648 by omega)]
      have g1 := yS_l (body := yE_T pl tm U base l) (cc := cc) H (by omega) (fun s g => ihl (cc + 1) s w7 (by omega) g) (p.2.2.toNatClampNeg + 1) (yE_u s.1 (base + cc) p.2.2, s.2.1, s.2.2 + 1) (yS_w G fun j hj w => by
        have := ((H.1 b (Nat.le_refl _)).2 j hj).1
        omega)
      split
      · exact ihr lo _ W2 hY g1
      · exact g1
    rw [if_neg k2] at W1
    by_cases k5 : k = 5
    · rw [if_pos k5] at W1
      rw [if_neg (show ¬ k = 1 by omega), if_neg k2, if_neg (show ¬ k = 3 by omega), if_neg (show ¬ k = 4 by omega), if_pos k5]
      have g1 := yS_L H hY p.1 s (fun i hi => .inl (W1.2.1 i hi)) G
      generalize yE_L pl tm U base p.1 s = q at g1
      split
      · split
        · rename_i y S _
          have gl := ihl lo (q.1.1, S, q.1.2.2 + 1) W1.2.2.2 hY g1
          split
          · exact ihr lo _ W2 hY g1
          · split
            · split
              · exact gl
              · exact gl
            · exact gl
        · exact G
      · exact g1
    rw [if_neg k5] at W1
    by_cases k1 : k = 1
    · rw [if_pos k1] at W1 ⊢
      have g1 := ihl lo s W1.2 hY G
      split
      · exact ihr lo _ W2 hY g1
      · exact g1
    rw [if_neg k1] at W1 ⊢
    rw [if_neg k2]
    by_cases k3 : k = 3
    · rw [if_pos k3]; exact G
    rw [if_neg k3]
    by_cases k4 : k = 4
    · rw [if_pos k4]; exact G
    rw [if_neg k4, if_neg k5]
    have g1 := ihl lo s W1.2 hY G
    split
    · exact ihr lo _ W2 hY g1
    · exact g1
theorem yS_Us {T : Nat → ys} {nb : Nat} (hn : nb ≤ 16) (hq : yS_q X Y kb (nb - 1)) (ht : yE_ht tm) (hm : yS_m tm) (W : ∀ u, u < nb → yz_W X Y kb u (T u) (Y u)) : ∀ b, b ≤ nb → yS_U X kb pl b (yE_U T pl tm b) := by
  have hX : ∀ u, u < nb → Y u ≤ X u ∧ X u ≤ 100000 := fun u hu => ⟨(hq u (by omega)).1.1, (hq u (by omega)).1.2.1⟩
  have hw : ∀ b, b ≤ nb → yE_hU X kb pl b (yE_U T pl tm b) := yE_Uw hn hX ht W
  intro b
  induction b with
  | zero => intro _ u base s hu; omega
  | succ b ih =>
    intro hb u base s hu dj G
    rw [yE_U]
    by_cases z : u = b
    · rw [if_pos z]
      subst z
      exact yS_T ⟨fun w hw => hq w (by omega), hw u (by omega), ht, hm, ih (by omega), dj⟩ (T u) (Y u) s (W u (by omega)) (Nat.le_refl _) G
    · rw [if_neg z]
      exact ih (by omega) u base s (by omega) dj G
end YSG
end
section
/-! The machine: BOOLs are 0 or 1. -/
abbrev yJ_01 (v : Int32) : Prop := v = 0 ∨ v = 1
def yJ_g (Bc : Nat → Nat → Prop) (u base : Nat) (c : Nat → Int32) : Prop := ∀ j, Bc u j → yJ_01 (c (base + j))
/-- the BOOLs of block b, and of the FUNCTIONs below it -/
def yJ_G (Bc : Nat → Nat → Prop) (kb : Nat → yK) (pl : Nat → Nat) (b base : Nat) (c : Nat → Int32) : Prop := yJ_g Bc b base c ∧ ∀ w, w < b → (kb w).1 = 1 → yJ_g Bc w (pl w) c
/-- a stack -/
def yJ_s : List Prop → List Int32 → Prop
  | [], _ => True
  | p :: st, x :: S => (p → yJ_01 x) ∧ yJ_s st S
  | _ :: _, [] => False
def yJ_U (X : Nat → Nat) (kb : Nat → yK) (pl : Nat → Nat) (Bc : Nat → Nat → Prop) (b : Nat) (U : Nat → Nat → yE → yE × Nat) : Prop := ∀ (u base : Nat) (s : yE), u < b → yE_dj X kb pl u base → ((U u base s).2 = 0 → (U u base s).1.2.1 = s.2.1) ∧ (yJ_G Bc kb pl u base s.1 → yJ_G Bc kb pl u base (U u base s).1.1)
def yJ_t (tm : Nat → Nat → (Nat → Int32) → Nat → Int32) : Prop := ∀ (B p : Nat) (c : Nat → Int32) (t : Nat), B < 9 → t < (zt_2.getD B 0).toNatClampNeg → yq_sB B t → yJ_01 (c (p + t)) → yJ_01 (tm B p c (p + t))
/-- where BOOLs are -/
def yJ_q (X Y : Nat → Nat) (Bc : Nat → Nat → Prop) (b : Nat) : Prop := ∀ u, u ≤ b → (Y u ≤ X u ∧ X u ≤ 100000 ∧ u < 16) ∧ (∀ j, Bc u j → j < X u) ∧ ∀ j, Bc (1000 + u) j ↔ j < X u
def yJ_h (X Y : Nat → Nat) (kb : Nat → yK) (pl : Nat → Nat) (tm : Nat → Nat → (Nat → Int32) → Nat → Int32) (Bc : Nat → Nat → Prop) (b base : Nat) (U : Nat → Nat → yE → yE × Nat) : Prop := yJ_q X Y Bc b ∧ yE_hU X kb pl b U ∧ yE_ht tm ∧ yJ_t tm ∧ yJ_U X kb pl Bc b U ∧ yE_dj X kb pl b base ∧ (∀ u, u < b → (kb u).1 = 1 → yE_dj X kb pl u (pl u))
section YJG
variable {X Y : Nat → Nat} {kb : Nat → yK} {pl : Nat → Nat} {tm : Nat → Nat → (Nat → Int32) → Nat → Int32} {Bc : Nat → Nat → Prop} {U : Nat → Nat → yE → yE × Nat} {b base lo : Nat}
/-- a cell of the block's own is written -/
theorem yJ_w {c : Nat → Int32} {x : Nat} {v : Int32} (H : yJ_h X Y kb pl tm Bc b base U) (hx : x < X b) (G : yJ_G Bc kb pl b base c) (h : Bc b x → yJ_01 v) : yJ_G Bc kb pl b base (yE_u c (base + x) v) := by
  obtain ⟨H1, H2, H3, H4, H5, H6, H7⟩ := H
  refine ⟨fun j hj => ?_, fun w hw hk j hj => ?_⟩
  · by_cases z : j = x
    · subst z
      rw [show yE_u c (base + j) v (base + j) = v from if_pos rfl]; exact h hj
    · rw [show yE_u c (base + x) v (base + j) = c (base + j) from if_neg (by omega)]; exact G.1 j hj
  · have hj2 := (H1 w (by omega)).2.1 j hj
    rw [show yE_u c (base + x) v (pl w + j) = c (pl w + j) from if_neg (by rcases H6 w hw hk with z | z <;> omega)]
    exact G.2 w hw hk j hj
/-- a FUNCTION's cell is written -/
theorem yJ_wf {c : Nat → Int32} {u x : Nat} {v : Int32} (H : yJ_h X Y kb pl tm Bc b base U) (hu : u < b) (hk : (kb u).1 = 1) (hx : x < X u) (G : yJ_G Bc kb pl b base c) (h : Bc u x → yJ_01 v) : yJ_G Bc kb pl b base (yE_u c (pl u + x) v) := by
  obtain ⟨H1, H2, H3, H4, H5, H6, H7⟩ := H
  refine ⟨fun j hj => ?_, fun w hw hkw j hj => ?_⟩
  · have hj2 := (H1 b (Nat.le_refl _)).2.1 j hj
    rw [show yE_u c (pl u + x) v (base + j) = c (base + j) from if_neg (by rcases H6 u hu hk with z | z <;> omega)]
    exact G.1 j hj
  · have hj2 := (H1 w (by omega)).2.1 j hj
    by_cases e : w = u
    · subst e
      by_cases z : j = x
      · subst z
        rw [show yE_u c (pl w + j) v (pl w + j) = v from if_pos rfl]; exact h hj
      · rw [show yE_u c (pl w + x) v (pl w + j) = c (pl w + j) from if_neg (by omega)]; exact G.2 w hw hkw j hj
    · rw [show yE_u c (pl u + x) v (pl w + j) = c (pl w + j) from if_neg (by
        rcases Nat.lt_or_gt_of_ne e with z | z
        · rcases H7 u hu hk w z hkw with q | q <;> omega
        · rcases H7 w hw hkw u z hk with q | q <;> omega)]
      exact G.2 w hw hkw j hj
/-- a FUNCTION runs -/
theorem yJ_16 {u : Nat} {s : yE} (H : yJ_h X Y kb pl tm Bc b base U) (hu : u < b) (hk : (kb u).1 = 1) (G : yJ_G Bc kb pl b base s.1) : yJ_G Bc kb pl b base (U u (pl u) s).1.1 := by
  obtain ⟨H1, H2, H3, H4, H5, H6, H7⟩ := H
  have g1 : yJ_G Bc kb pl u (pl u) s.1 := ⟨G.2 u hu hk, fun w hw hkw => G.2 w (by omega) hkw⟩
  have g2 := (H5 u (pl u) s hu (H7 u hu hk)).2 g1
  refine ⟨fun j hj => ?_, fun w hw hkw j hj => ?_⟩
  · have hj2 := (H1 b (Nat.le_refl _)).2.1 j hj
    rw [H2 u (pl u) s (base + j) hu (by rcases H6 u hu hk with z | z <;> omega) (fun w hw hkw => by rcases H6 w (by omega) hkw with z | z <;> omega)]
    exact G.1 j hj
  · have hj2 := (H1 w (by omega)).2.1 j hj
    rcases Nat.lt_trichotomy w u with z | z | z
    · exact g2.2 w z hkw j hj
    · subst z; exact g2.1 j hj
    · rw [H2 u (pl u) s (pl w + j) hu (by rcases H7 w hw hkw u z hk with q | q <;> omega) (fun w' hw' hkw' => by rcases H7 w hw hkw w' (by omega) hkw' with q | q <;> omega)]
      exact G.2 w hw hkw j hj
/-- a part runs -/
theorem yJ_15 {u x : Nat} {s : yE} (H : yJ_h X Y kb pl tm Bc b base U) (hu : u < b) (hx : x + X u ≤ X b) (hq : ∀ j : Nat, Bc (1000 + u) j → (Bc b (x + j) ↔ Bc u j)) (G : yJ_G Bc kb pl b base s.1) : yE_dj X kb pl u (base + x) ∧ yJ_G Bc kb pl b base (U u (base + x) s).1.1 := by
  obtain ⟨H1, H2, H3, H4, H5, H6, H7⟩ := H
  have hz := (H1 u (by omega)).2.2
  have d1 : yE_dj X kb pl u (base + x) := fun w hw hk => by
    rcases H6 w (by omega) hk with z | z
    · exact .inl (by omega)
    · exact .inr (by omega)
  have g1 : yJ_G Bc kb pl u (base + x) s.1 := by
    refine ⟨fun j hj => ?_, fun w hw hkw => G.2 w (by omega) hkw⟩
    have hj2 := (H1 u (by omega)).2.1 j hj
    have := G.1 (x + j) ((hq j ((hz j).mpr hj2)).mpr hj)
    rwa [← Nat.add_assoc] at this
  have g2 := (H5 u (base + x) s hu d1).2 g1
  refine ⟨d1, fun j hj => ?_, fun w hw hkw j hj => ?_⟩
  · have hj2 := (H1 b (Nat.le_refl _)).2.1 j hj
    by_cases z : x ≤ j ∧ j < x + X u
    · obtain ⟨t, rfl⟩ : ∃ t, j = x + t := ⟨j - x, by omega⟩
      have := g2.1 t ((hq t ((hz t).mpr (by omega))).mp hj)
      rwa [Nat.add_assoc] at this
    · rw [H2 u (base + x) s (base + j) hu (by omega) (fun w hw hkw => by rcases H6 w (by omega) hkw with q | q <;> omega)]
      exact G.1 j hj
  · have hj2 := (H1 w (by omega)).2.1 j hj
    by_cases z : w < u
    · exact g2.2 w z hkw j hj
    · rw [H2 u (base + x) s (pl w + j) hu (by rcases H6 w hw hkw with q | q <;> omega) (fun w' hw' hkw' => by rcases H7 w hw hkw w' (by omega) hkw' with q | q <;> omega)]
      exact G.2 w hw hkw j hj
/-- a standard block runs -/
theorem yJ_17 {B x : Nat} {c : Nat → Int32} (H : yJ_h X Y kb pl tm Bc b base U) (hB : B < 9) (hx : x + (zt_2.getD B 0).toNatClampNeg ≤ X b) (hq : ∀ j : Nat, j < (zt_2.getD B 0).toNatClampNeg → (Bc b (x + j) ↔ yq_sB B j)) (G : yJ_G Bc kb pl b base c) : yJ_G Bc kb pl b base (tm B (base + x) c) := by
  obtain ⟨H1, H2, H3, H4, H5, H6, H7⟩ := H
  refine ⟨fun j hj => ?_, fun w hw hkw j hj => ?_⟩
  · by_cases z : x ≤ j ∧ j < x + (zt_2.getD B 0).toNatClampNeg
    · obtain ⟨t, rfl⟩ : ∃ t, j = x + t := ⟨j - x, by omega⟩
      have := H4 B (base + x) c t hB (by omega) ((hq t (by omega)).mp hj) (by rw [Nat.add_assoc]; exact G.1 _ hj)
      rwa [Nat.add_assoc] at this
    · rw [H3 B (base + x) c (base + j) hB (by omega)]
      exact G.1 j hj
  · have hj2 := (H1 w (by omega)).2.1 j hj
    rw [H3 B (base + x) c (pl w + j) hB (by rcases H6 w hw hkw with q | q <;> omega)]
    exact G.2 w hw hkw j hj
/-- one instruction -/
theorem yJ_1 (H : yJ_h X Y kb pl tm Bc b base U) {i : yI} (W : yw_i X Y kb b lo i) {K : List Prop → Prop} {st : List Prop} (A : yo_w Bc b i K st) (s : yE) (G : yJ_G Bc kb pl b base s.1) (M : yJ_s st s.2.1) : yJ_G Bc kb pl b base (yE_1 pl tm U base i s).1.1 ∧ ((yE_1 pl tm U base i s).2 = 0 → ∃ st', K st' ∧ yJ_s st' (yE_1 pl tm U base i s).1.2.1) := by
  obtain ⟨c, S, n⟩ := s
  have G' : yJ_G Bc kb pl b base c := G
  have M' : yJ_s st S := M
  obtain ⟨H1, H2, H3, H4, H5, H6, H7⟩ := id H
  have hYX := (H1 b (Nat.le_refl _)).1
  rcases W with W | ⟨e, x, e1, W⟩ | ⟨e, x, s, e1, e2, W, Wq⟩ | ⟨e, u, x, e1, e2, W1, W2, W3, Wq⟩ | ⟨e, B', x, e1, e2, W1, W2, Wq⟩
  · rcases W with e | e | ⟨e, x, e1, W⟩ | ⟨e, x, s, e1, e2, W⟩ | ⟨e, e0, u, e1, W1, W2⟩ | ⟨e, u, x, e1, e2, W1, W2, W3⟩ | ⟨e, k, e1, W⟩ | ⟨e, k, e1, W⟩ | ⟨e, u, e1, W1, W2⟩
    · -- PUSH
      unfold yo_w at A; rw [if_pos e] at A
      unfold yE_1; rw [if_pos e]
      exact ⟨G', fun _ => ⟨_, A, fun z => z, M'⟩⟩
    · -- CHOOSE
      unfold yo_w at A
      unfold yE_1
      simp (config := { decide := true }) only [e, if_false, if_true] at A ⊢
      match st, S, A, M' with
      | q :: p :: r :: st', y :: x :: z :: S', A, M' =>
        refine ⟨G', fun _ => ⟨_, A, fun w => ?_, M'.2.2.2⟩⟩
        by_cases zz : z = 0
        · rw [if_pos zz]; exact M'.2.1 w.1
        · rw [if_neg zz]; exact M'.1 w.2
      | [], _, A, _ => exact A.elim
      | [_], _, A, _ => exact A.elim
      | [_, _], _, A, _ => exact A.elim
      | _ :: _ :: _ :: _, [], _, M' => exact M'.elim
      | _ :: _ :: _ :: _, [_], _, M' => exact M'.2.elim
      | _ :: _ :: _ :: _, [_, _], _, M' => exact M'.2.2.elim
    · -- LOAD
      unfold yo_w at A
      unfold yE_1
      simp (config := { decide := true }) only [e, if_false, if_true, e1, nI_clamp (show x < 2147483648 by omega)] at A ⊢
      exact ⟨G', fun _ => ⟨_, A, fun z => G'.1 x z, M'⟩⟩
    · -- TAKE
      unfold yo_w at A
      unfold yE_1
      simp (config := { decide := true }) only [e, if_false, if_true, e1, e2, nI_clamp (show x < 2147483648 by omega), nI_clamp (show s < 2147483648 by omega)] at A ⊢
      match st, S, A, M' with
      | q :: st', v :: S', A, M' =>
        show yJ_G Bc kb pl b base (if yE_bad i v then _ else _ : yE × Nat).1.1 ∧ ((if yE_bad i v then _ else _ : yE × Nat).2 = 0 → ∃ st', K st' ∧ yJ_s st' (if yE_bad i v then _ else _ : yE × Nat).1.2.1)
        by_cases z : yE_bad i v
        · rw [if_pos z]
          exact ⟨G', fun w => absurd w (show ¬ (4 : Nat) = 0 by decide)⟩
        · rw [if_neg z]
          have il := yE_ixl e2 (by omega) z
          refine ⟨G', fun _ => ⟨_, A, fun w => ?_, M'.2⟩⟩
          have := G'.1 (x + yE_ix i v) (w _ il)
          rwa [← Nat.add_assoc] at this
      | [], _, A, _ => exact A.elim
      | _ :: _, [], _, M' => exact M'.elim
    · -- READ
      unfold yo_w at A
      unfold yE_1
      simp (config := { decide := true }) only [e, if_false, if_true, e1, e0, nI_clamp (show u < 2147483648 by omega)] at A ⊢
      exact ⟨G', fun _ => ⟨_, A, fun z => G'.2 u W1 W2 _ z, M'⟩⟩
    · -- WRITE
      have xu := (H1 u (by omega)).1
      unfold yo_w at A
      unfold yE_1
      simp (config := { decide := true }) only [e, if_false, if_true, e1, e2, nI_clamp (show u < 2147483648 by omega), nI_clamp (show x < 2147483648 by omega)] at A ⊢
      match st, S, A, M' with
      | q :: st', v :: S', A, M' => exact ⟨yJ_wf H W1 W2 W3 G' (fun z => M'.1 (A.1 z)), fun _ => ⟨_, A.2, M'.2⟩⟩
      | [], _, A, _ => exact A.elim
      | _ :: _, [], _, M' => exact M'.elim
    · -- TWO
      unfold yo_w at A
      unfold yE_1
      simp (config := { decide := true }) only [e, if_false, if_true] at A ⊢
      match st, S, A, M' with
      | q :: p :: st', y :: x :: S', A, M' =>
        show yJ_G Bc kb pl b base (if f_Cd_isByZero i.2.1 y = 0 then _ else _ : yE × Nat).1.1 ∧ ((if f_Cd_isByZero i.2.1 y = 0 then _ else _ : yE × Nat).2 = 0 → ∃ st', K st' ∧ yJ_s st' (if f_Cd_isByZero i.2.1 y = 0 then _ else _ : yE × Nat).1.2.1)
        by_cases z : f_Cd_isByZero i.2.1 y = 0
        · rw [if_pos z]
          obtain ⟨v, ev⟩ := zv_two i.2.1 x y
          rw [ev]
          refine ⟨G', fun _ => ⟨_, A, fun w => ?_, M'.2.2⟩⟩
          rcases w with w | ⟨w1, w2, w3⟩
          · exact yk_c01 w ev
          · exact yk_b01 w1 (M'.2.1 w2) (M'.1 w3) ev
        · rw [if_neg z]
          exact ⟨G', fun w => absurd w (show ¬ (3 : Nat) = 0 by decide)⟩
      | [], _, A, _ => exact A.elim
      | [_], _, A, _ => exact A.elim
      | _ :: _ :: _, [], _, M' => exact M'.elim
      | _ :: _ :: _, [_], _, M' => exact M'.2.elim
    · -- ONE
      unfold yo_w at A
      unfold yE_1
      simp (config := { decide := true }) only [e, if_false, if_true] at A ⊢
      match st, S, A, M' with
      | q :: st', x :: S', A, M' => exact ⟨G', fun _ => ⟨_, A, fun w => yk_o01 w, M'.2⟩⟩
      | [], _, A, _ => exact A.elim
      | _ :: _, [], _, M' => exact M'.elim
    · -- CALL
      unfold yo_w at A
      unfold yE_1
      simp (config := { decide := true }) only [e, if_false, if_true, e1, nI_clamp (show u < 2147483648 by omega)] at A ⊢
      refine ⟨yJ_16 (s := (c, S, n + 1)) H W1 W2 G', fun z => ⟨st, A, ?_⟩⟩
      rw [(H5 u (pl u) (c, S, n + 1) W1 (H7 u W1 W2)).1 z]
      exact M'
  · -- STORE
    unfold yo_w at A
    unfold yE_1
    have xb : x < X b := by
      rcases W with z | z
      · omega
      · omega
    simp (config := { decide := true }) only [e, if_false, if_true, e1, nI_clamp (show x < 2147483648 by omega)] at A ⊢
    match st, S, A, M' with
    | q :: st', v :: S', A, M' => exact ⟨yJ_w H xb G' (fun z => M'.1 (A.1 z)), fun _ => ⟨_, A.2, M'.2⟩⟩
    | [], _, A, _ => exact A.elim
    | _ :: _, [], _, M' => exact M'.elim
  · -- PUT
    unfold yo_w at A
    unfold yE_1
    simp (config := { decide := true }) only [e, if_false, if_true, e1, e2, nI_clamp (show x < 2147483648 by omega), nI_clamp (show s < 2147483648 by omega)] at A ⊢
    match st, S, A, M' with
    | q :: p :: st', v :: w :: S', A, M' =>
      show yJ_G Bc kb pl b base (if yE_bad i w then _ else _ : yE × Nat).1.1 ∧ ((if yE_bad i w then _ else _ : yE × Nat).2 = 0 → ∃ st', K st' ∧ yJ_s st' (if yE_bad i w then _ else _ : yE × Nat).1.2.1)
      by_cases z : yE_bad i w
      · rw [if_pos z]
        exact ⟨G', fun w => absurd w (show ¬ (4 : Nat) = 0 by decide)⟩
      · rw [if_neg z]
        have il := yE_ixl e2 (by omega) z
        rw [Nat.add_assoc]
        exact ⟨yJ_w H (by omega) G' (fun h => M'.1 (A.1 _ il h)), fun _ => ⟨_, A.2, M'.2.2⟩⟩
    | [], _, A, _ => exact A.elim
    | [_], _, A, _ => exact A.elim
    | _ :: _ :: _, [], _, M' => exact M'.elim
    | _ :: _ :: _, [_], _, M' => exact M'.2.elim
  · -- ENTER
    have xu := (H1 u (by omega)).1
    unfold yo_w at A
    unfold yE_1
    simp (config := { decide := true }) only [e, if_false, if_true, e1, e2, nI_clamp (show u < 2147483648 by omega), nI_clamp (show x < 2147483648 by omega)] at A ⊢
    obtain ⟨d1, g1⟩ := yJ_15 (s := (c, S, n + 1)) H W1 (by omega) A.1 G'
    refine ⟨g1, fun z => ⟨st, A.2, ?_⟩⟩
    rw [(H5 u (base + x) (c, S, n + 1) W1 d1).1 z]
    exact M'
  · -- BLOCK
    unfold yo_w at A
    unfold yE_1
    simp (config := { decide := true }) only [e, if_false, if_true, e1, e2, nI_clamp (show B' < 2147483648 by omega), nI_clamp (show x < 2147483648 by omega)] at A ⊢
    exact ⟨yJ_17 H W1 (by omega) A.1 G', fun _ => ⟨st, A.2, M'⟩⟩
theorem yJ_L (H : yJ_h X Y kb pl tm Bc b base U) : ∀ (L : List yI) (s : yE) (K : List Prop → Prop) (st : List Prop), (∀ i, i ∈ L → yw_i X Y kb b lo i) → yo_W Bc b L K st → yJ_G Bc kb pl b base s.1 → yJ_s st s.2.1 → yJ_G Bc kb pl b base (yE_L pl tm U base L s).1.1 := by
  intro L
  induction L with
  | nil => intro s K st _ _ G _; exact G
  | cons i L ih =>
    intro s K st W A G M
    obtain ⟨g1, m1⟩ := yJ_1 H (W i (List.mem_cons_self ..)) (K := yo_W Bc b L K) A s G M
    rw [yE_L]
    split
    · rename_i z
      obtain ⟨st', a1, a2⟩ := m1 z
      exact ih _ K st' (fun i hi => W i (List.mem_cons_of_mem _ hi)) a1 g1 a2
    · exact g1
theorem yJ_l {body : yE → yE × Nat} {cc : Nat} (H : yJ_h X Y kb pl tm Bc b base U) (hc : cc < X b) (nc : ¬ Bc b cc) (Hb : ∀ s, yJ_G Bc kb pl b base s.1 → yJ_G Bc kb pl b base (body s).1.1) : ∀ (f : Nat) (s : yE), yJ_G Bc kb pl b base s.1 → yJ_G Bc kb pl b base (yE_l body (base + cc) f s).1.1 := by
  intro f
  induction f with
  | zero => intro s G; exact G
  | succ f ih =>
    intro s G
    rw [yE_l]
    have gb := Hb (yE_u s.1 (base + cc) (s.1 (base + cc) - 1), s.2.1, s.2.2 + 1) (yJ_w H hc G (fun z => absurd z nc))
    split
    · exact G
    · split
      · exact ih _ gb
      · split <;> exact gb
theorem yJ_T (H : yJ_h X Y kb pl tm Bc b base U) : ∀ (T : ys) (lo : Nat) (s : yE), yz_W X Y kb b T lo → yz_B Bc b T → yJ_G Bc kb pl b base s.1 → yJ_G Bc kb pl b base (yE_T pl tm U base T s).1.1 := by
  intro T
  induction T with
  | leaf => intro lo s _ _ G; exact G
  | inner k p o l r ihl ihr =>
    intro lo s ⟨W1, W2⟩ ⟨B1, B2⟩ G
    rw [yE_T]
    by_cases k0 : k = 0
    · rw [if_pos k0] at W1 B1 ⊢
      have g1 := yJ_L H p.1 s (fun _ => True) [] W1.2 (B1 _ _ trivial) G trivial
      split
      · exact ihr lo _ W2 B2 g1
      · exact g1
    rw [if_neg k0] at W1 B1 ⊢
    by_cases k2 : k = 2
    · rw [if_pos k2] at W1 B1
      rw [if_neg (show ¬ k = 1 by omega), if_pos k2]
      obtain ⟨cc, N, w1, w2, w3, w4, w5, w6, w7⟩ := W1
      have xb := (H.1 b (Nat.le_refl _)).1.2
      have ecl : p.2.1.toNatClampNeg = cc := by rw [w1, nI_clamp (show cc < 2147483648 by omega)]
      rw [ecl] at B1 ⊢
      have g1 := yJ_l (body := yE_T pl tm U base l) (cc := cc) H w4 B1.1 (fun s g => ihl (cc + 1) s w7 B1.2 g) (p.2.2.toNatClampNeg + 1) (yE_u s.1 (base + cc) p.2.2, s.2.1, s.2.2 + 1) (yJ_w H w4 G (fun z => absurd z B1.1))
      split
      · exact ihr lo _ W2 B2 g1
      · exact g1
    rw [if_neg k2] at W1 B1
    by_cases k5 : k = 5
    · rw [if_pos k5] at W1 B1
      rw [if_neg (show ¬ k = 1 by omega), if_neg k2, if_neg (show ¬ k = 3 by omega), if_neg (show ¬ k = 4 by omega), if_pos k5]
      have g1 := yJ_L (lo := lo) H p.1 s (fun _ => True) [] (fun i hi => .inl (W1.2.1 i hi)) (B1.1 _ _ (fun _ _ => trivial)) G trivial
      generalize yE_L pl tm U base p.1 s = q at g1
      split
      · split
        · rename_i y S _
          have gl := ihl lo (q.1.1, S, q.1.2.2 + 1) W1.2.2.2 B1.2 g1
          split
          · exact ihr lo _ W2 B2 g1
          · split
            · split
              · exact gl
              · exact gl
            · exact gl
        · exact G
      · exact g1
    rw [if_neg k5] at W1 B1
    by_cases k1 : k = 1
    · rw [if_pos k1] at W1 ⊢
      have g1 := ihl lo s W1.2 B1 G
      split
      · exact ihr lo _ W2 B2 g1
      · exact g1
    rw [if_neg k1] at W1 ⊢
    rw [if_neg k2]
    by_cases k3 : k = 3
    · rw [if_pos k3]; exact G
    rw [if_neg k3]
    by_cases k4 : k = 4
    · rw [if_pos k4]; exact G
    rw [if_neg k4, if_neg k5]
    have g1 := ihl lo s W1.2 B1 G
    split
    · exact ihr lo _ W2 B2 g1
    · exact g1
theorem yJ_Us {T : Nat → ys} {nb : Nat} (hn : nb ≤ 16) (hq : yJ_q X Y Bc (nb - 1)) (ht : yE_ht tm) (hm : yJ_t tm) (W : ∀ u, u < nb → yz_st (T u) ∧ (∀ n, yz_x (T u) n = []) ∧ yz_W X Y kb u (T u) (Y u)) (hB : ∀ u, u < nb → yz_B Bc u (T u)) (hP : ∀ u, u < nb → (kb u).1 = 1 → yE_dj X kb pl u (pl u)) : ∀ b, b ≤ nb → yJ_U X kb pl Bc b (yE_U T pl tm b) := by
  have hX : ∀ u, u < nb → Y u ≤ X u ∧ X u ≤ 100000 := fun u hu => ⟨(hq u (by omega)).1.1, (hq u (by omega)).1.2.1⟩
  have hw : ∀ b, b ≤ nb → yE_hU X kb pl b (yE_U T pl tm b) := yE_Uw hn hX ht (fun u hu => (W u hu).2.2)
  have hs := yG_Us hn hX ht W hP
  intro b
  induction b with
  | zero => intro _ u base s hu; omega
  | succ b ih =>
    intro hb u base s hu dj
    refine ⟨fun z => ?_, fun G => ?_⟩
    · obtain ⟨_, r2, _, _⟩ := hs (b + 1) hb u base s hu dj
      exact r2 z
    · rw [yE_U]
      by_cases z : u = b
      · rw [if_pos z]
        subst z
        exact yJ_T ⟨fun w hw => hq w (by omega), hw u (by omega), ht, hm, ih (by omega), dj, fun w hw hk => hP w (by omega) hk⟩ (T u) (Y u) s (W u (by omega)).2.2 (hB u (by omega)) G
      · rw [if_neg z]
        exact (ih (by omega) u base s (by omega) dj).2 G
end YJG
end
section
/-! The machine: one instruction of the model. -/
def yN_s (g : zs_H) (s : yE) : Prop := (∀ j, j < 8192 → (g.2.1 114) j = s.1 j) ∧ (g.1 68 76) = nI s.2.1.length ∧ yE_k ((g.2.1 115)) s.2.1 ∧ (g.1 68 74) = nI s.2.2 ∧ (g.1 68 75) = 0
abbrev yN_F : List (Nat × Nat) := [(68, 74), (68, 76), (68, 75)]
abbrev yN_M : List Nat := [114, 115]
/-- how a run ends -/
def yN_o (g' : zs_H) (r : yE × Nat) : Prop := (r.2 = 0 → yN_s g' r.1) ∧ (r.2 = 3 ∨ r.2 = 4 → (g'.1 68 75) = (if r.2 = 3 then -3 else -4) ∧ (∀ j, j < 8192 → (g'.2.1 114) j = r.1.1 j) ∧ (g'.1 68 74) = nI r.1.2.2)
section YNS
variable {X Y : Nat → Nat} {kb : Nat → yK} {pl : Nat → Nat} {tm : Nat → Nat → (Nat → Int32) → Nat → Int32} {U : Nat → Nat → yE → yE × Nat} {R : zs_H → Int32 → Int32 → Option zs_H} {b base lo j s0 lv n : Nat} {g : zs_H} {i : yI} {c : Nat → Int32} {S : List Int32}
/-- behind the count of steps and what is taken -/
def yN_g (g : zs_H) (n k : Nat) : zs_H := zs_uF (zs_uF g 68 74 (nI n)) 68 76 (nI k)
theorem yN_push {S1 : List Int32} {v : Int32} (hc : ∀ j, j < 8192 → (g.2.1 114) j = c j) (hk : yE_k ((g.2.1 115)) S1) (h0 : (g.1 68 75) = 0) (hl : S1.length < 1200) : ∃ g', f_Mo_lay (yN_g g (n + 1) S1.length) v = some g' ∧ zfr yN_F yN_M [] g g' ∧ yN_s g' (c, v :: S1, n + 1) := by
  unfold f_Mo_lay
  rw [show ((yN_g g (n + 1) S1.length).1 68 76) = nI S1.length from rfl, if_pos (zi_in (by omega) hl), nI_clamp (by omega), show nI S1.length + 1 = nI (S1.length + 1) from zc_ad 1 _]
  refine ⟨_, rfl, zfr_F (by decide) (zfr_M (by decide) (zfr_F (by decide) (zfr_F (by decide) zfr_rfl))), ?_, rfl, ?_, rfl, h0⟩
  · intro j hj
    exact (zu_MM.trans (if_neg fun z => absurd z.1 (by decide))).trans (hc j hj)
  · refine yE_kp hk (zu_MM.trans (if_pos ⟨rfl, rfl⟩)) (fun j hj => zu_MM.trans (if_neg fun z => hj z.2))
theorem yN_cell {S1 : List Int32} {v : Int32} {p : Nat} (hc : ∀ j, j < 8192 → (g.2.1 114) j = c j) (hk : yE_k ((g.2.1 115)) S1) (h0 : (g.1 68 75) = 0) : zfr yN_F yN_M [] g (zs_uM (yN_g g (n + 1) S1.length) 114 p v) ∧ yN_s (zs_uM (yN_g g (n + 1) S1.length) 114 p v) (yE_u c p v, S1, n + 1) := by
  refine ⟨zfr_M (by decide) (zfr_F (by decide) (zfr_F (by decide) zfr_rfl)), fun j hj => ?_, rfl, yE_kf (fun j _ => zu_MM.trans (if_neg fun z => absurd z.1 (by decide))) hk, rfl, h0⟩
  show (zs_uM (yN_g g (n + 1) S1.length) 114 p v).2.1 114 j = if j = p then v else c j
  refine zu_MM.trans ?_
  by_cases z : j = p
  · rw [if_pos ⟨rfl, z⟩, if_pos z]
  · rw [if_neg (fun w => z w.2), if_neg z]; exact hc j hj
theorem yN_stop {S1 : List Int32} {v : Int32} {o : Nat} (ho : o = 3 ∨ o = 4) (hv : v = if o = 3 then -3 else -4) (hc : ∀ j, j < 8192 → (g.2.1 114) j = c j) : zfr yN_F yN_M [] g (zs_uF (yN_g g (n + 1) S1.length) 68 75 v) ∧ yN_o (zs_uF (yN_g g (n + 1) S1.length) 68 75 v) ((c, S1, n + 1), o) :=
  ⟨zfr_F (by decide) (zfr_F (by decide) (zfr_F (by decide) zfr_rfl)), fun z => (by have z' : o = 0 := z; omega), fun _ => ⟨hv, hc, rfl⟩⟩
theorem yN_so {s : yE} (h : yN_s g s) : yN_o g (s, 0) := ⟨fun _ => h, fun z => absurd z (show ¬ ((0 : Nat) = 3 ∨ (0 : Nat) = 4) by decide)⟩
/-- the beginning of a step -/
theorem yN_in {op a bb cc : Int32} {k : Nat} (hb : b < 17) (hbg : (g.2.1 103) b = nI s0) (hs : s0 + j < 4000) (hk : k + 2 < 1200) (e1 : (g.2.1 104) (s0 + j) = op) (e2 : (g.2.1 105) (s0 + j) = a) (e3 : (g.2.1 106) (s0 + j) = bb) (e4 : (g.2.1 107) (s0 + j) = cc) : zd_in (nI b) 17 ∧ (nI b).toNatClampNeg = b ∧ ((yN_g g n k).2.1 103) b + nI j = nI (s0 + j) ∧ zd_in (nI (s0 + j)) 4000 ∧ (nI (s0 + j)).toNatClampNeg = s0 + j ∧ ((yN_g g n k).1 68 76) = nI k ∧ zd_in (nI k) 1200 ∧ (nI k).toNatClampNeg = k ∧ nI k + 1 = nI (k + 1) ∧ zd_in (nI (k + 1)) 1200 ∧ (nI (k + 1)).toNatClampNeg = k + 1 ∧ nI k + 2 = nI (k + 2) ∧ zd_in (nI (k + 2)) 1200 ∧ (nI (k + 2)).toNatClampNeg = k + 2 ∧ ((yN_g g n k).2.1 104) (s0 + j) = op ∧ ((yN_g g n k).2.1 105) (s0 + j) = a ∧ ((yN_g g n k).2.1 106) (s0 + j) = bb ∧ ((yN_g g n k).2.1 107) (s0 + j) = cc :=
  ⟨zi_in (by omega) hb, nI_clamp (by omega), by show (g.2.1 103) b + nI j = _; rw [hbg, nI_add], zi_in (by omega) hs, nI_clamp (by omega), rfl, zi_in (by omega) (by omega), nI_clamp (by omega), zc_ad 1 k, zi_in (by omega) (by omega), nI_clamp (by omega), zc_ad 2 k, zi_in (by omega) (by omega), nI_clamp (by omega), e1, e2, e3, e4⟩
theorem yN_551 (g' : zs_H) : f_Mo_step_551 g' (nI j) = some (nI (j + 1), g') := by
  unfold f_Mo_step_551; rw [show nI j + 1 = nI (j + 1) from zc_ad 1 j]
/-- what is known when a step begins -/
def yN_b (g : zs_H) (b s0 j lv : Nat) (i : yI) (c : Nat → Int32) (S : List Int32) : Prop := (b < 17 ∧ (g.2.1 103) b = nI s0 ∧ s0 + j < 4000 ∧ yM_m s0 g (s0 + j) (i, lv)) ∧ (∀ j, j < 8192 → (g.2.1 114) j = c j) ∧ yE_k ((g.2.1 115)) S ∧ (g.1 68 75) = 0 ∧ S.length < 1100
theorem yN_as (m : yM_m s0 g (s0 + j) (i, lv)) (h : ¬ i.1 = 10 ∧ ¬ i.1 = 11 ∧ ¬ i.1 = 13 ∧ ¬ i.1 = 14) : (g.2.1 104) (s0 + j) = nI i.1 ∧ (g.2.1 105) (s0 + j) = i.2.1 ∧ (g.2.1 106) (s0 + j) = i.2.2.1 ∧ (g.2.1 107) (s0 + j) = i.2.2.2 := by
  refine ⟨m.1, ?_, ?_, m.2.2.2.1⟩
  · rw [show (g.2.1 105) (s0 + j) = yM_A s0 i from m.2.1]; unfold yM_A; rw [if_neg (by omega), if_neg h.2.2.1]
  · rw [show (g.2.1 106) (s0 + j) = yM_B s0 i from m.2.2.1]; unfold yM_B; rw [if_neg h.2.2.1]
def yN_D (R : zs_H → Int32 → Int32 → Option zs_H) (pl : Nat → Nat) (tm : Nat → Nat → (Nat → Int32) → Nat → Int32) (U : Nat → Nat → yE → yE × Nat) (g : zs_H) (b base j n k : Nat) (i : yI) (c : Nat → Int32) (S : List Int32) : Prop := ∃ g', g_Mo_step R (yN_g g (n + 1) k) (nI b) (nI j) (nI base) = some (nI (j + 1), g') ∧ zfr yN_F yN_M [] g g' ∧ yN_o g' (yE_1 pl tm U base i (c, S, n))
theorem yN_0 (H : yN_b g b s0 j lv i c S) (e : i.1 = 0) : yN_D R pl tm U g b base j n S.length i c S := by
  obtain ⟨⟨h1, h2, h3, h4⟩, h5, h6, h7, h8⟩ := H
  obtain ⟨m1, m2, m3, m4⟩ := yN_as h4 (by omega)
  obtain ⟨p1, p2, p3, p4, p5, p6, p7, p8, p9, p10, p11, p12, p13, p14, p15, p16, p17, p18⟩ := yN_in (n := n + 1) (k := S.length) h1 h2 h3 (by omega) m1 m2 m3 m4
  rw [e] at p15
  obtain ⟨g', a1, a2, a3⟩ := yN_push (n := n) (v := i.2.1) h5 h6 h7 (by omega)
  refine ⟨g', ?_, a2, ?_⟩
  · unfold g_Mo_step
    rw [if_pos p1, p2, p3, if_pos p4, p5, p6, if_pos p7, p9, if_pos p10, p12, if_pos p13, p15, if_pos (by decide), p16, a1, Option.bind_some, yN_551]
  · unfold yE_1
    rw [if_pos e]
    exact yN_so a3
theorem yN_1 (H : yN_b g b s0 j lv i c S) (e : i.1 = 1) {x : Nat} (e1 : i.2.1 = nI x) (hx : base + x < 8192) : yN_D R pl tm U g b base j n S.length i c S := by
  obtain ⟨⟨h1, h2, h3, h4⟩, h5, h6, h7, h8⟩ := H
  obtain ⟨m1, m2, m3, m4⟩ := yN_as h4 (by omega)
  obtain ⟨p1, p2, p3, p4, p5, p6, p7, p8, p9, p10, p11, p12, p13, p14, p15, p16, p17, p18⟩ := yN_in (n := n + 1) (k := S.length) h1 h2 h3 (by omega) m1 m2 m3 m4
  rw [e] at p15
  rw [e1] at p16
  obtain ⟨g', a1, a2, a3⟩ := yN_push (n := n) (v := c (base + x)) h5 h6 h7 (by omega)
  refine ⟨g', ?_, a2, ?_⟩
  · unfold g_Mo_step
    rw [if_pos p1, p2, p3, if_pos p4, p5, p6, if_pos p7, p9, if_pos p10, p12, if_pos p13, p15, if_neg (by decide), if_pos (by decide), p16, nI_add, if_pos (zi_in (by omega) hx), nI_clamp (n := base + x) (by omega), show ((yN_g g (n + 1) S.length).2.1 114) (base + x) = c (base + x) from h5 _ hx, a1, Option.bind_some, yN_551]
  · unfold yE_1
    simp (config := { decide := true }) only [e, if_false, if_true, e1, nI_clamp (show x < 2147483648 by omega)]
    exact yN_so a3
theorem yN_2 {v : Int32} {S1 : List Int32} (H : yN_b g b s0 j lv i c (v :: S1)) (e : i.1 = 2) {x : Nat} (e1 : i.2.1 = nI x) (hx : base + x < 8192) : yN_D R pl tm U g b base j n S1.length i c (v :: S1) := by
  obtain ⟨⟨h1, h2, h3, h4⟩, h5, ⟨h6, h6'⟩, h7, h8⟩ := H
  have h8' : S1.length + 1 < 1100 := h8
  obtain ⟨m1, m2, m3, m4⟩ := yN_as h4 (by omega)
  obtain ⟨p1, p2, p3, p4, p5, p6, p7, p8, p9, p10, p11, p12, p13, p14, p15, p16, p17, p18⟩ := yN_in (n := n + 1) (k := S1.length) h1 h2 h3 (by omega) m1 m2 m3 m4
  rw [e] at p15
  rw [e1] at p16
  obtain ⟨a1, a2⟩ := yN_cell (n := n) (v := v) (p := base + x) h5 h6' h7
  refine ⟨_, ?_, a1, ?_⟩
  · unfold g_Mo_step
    rw [if_pos p1, p2, p3, if_pos p4, p5, p6, if_pos p7, p9, if_pos p10, p12, if_pos p13, p15, if_neg (by decide), if_neg (by decide), if_pos (by decide), p16, nI_add, if_pos (zi_in (by omega) hx), nI_clamp (n := base + x) (by omega), p8, show ((yN_g g (n + 1) S1.length).2.1 115) S1.length = v from h6, yN_551]
  · unfold yE_1
    simp (config := { decide := true }) only [e, if_false, if_true, e1, nI_clamp (show x < 2147483648 by omega)]
    exact yN_so a2
end YNS
end
section
/-! The machine: one instruction of the model, the rest of straight code. -/
theorem yE_ixn {i : yI} {x : Int32} {s : Nat} (hs : i.2.2.2 = nI s) (h2 : s ≤ 100000) (h : ¬ yE_bad i x) : (x.toInt64 - i.2.2.1.toInt64).toInt32 = nI (yE_ix i x) := by
  unfold yE_bad at h
  rw [not_or, Classical.not_not, hs, zj_32 (by omega)] at h
  obtain ⟨h3, h4⟩ := h
  unfold yE_ix
  generalize x.toInt64 - i.2.2.1.toInt64 = v at h3 h4
  have h0 : 0 ≤ v.toInt := Int64.le_iff_toInt_le.mp (Int64.not_lt.mp h3)
  have h5 : v ≤ 1000000 := Int64.le_of_lt (Int64.lt_of_lt_of_le h4 ((zj_el (k := 1000000) (by decide) (by omega)).mpr (by omega)))
  obtain ⟨n, n1, n2⟩ := yc_ofN h0 h5
  have n2' : v = lN n := n2
  rw [n2', lN_i, nI_clamp (by omega)]
section YNR
variable {X Y : Nat → Nat} {kb : Nat → yK} {pl : Nat → Nat} {tm : Nat → Nat → (Nat → Int32) → Nat → Int32} {U : Nat → Nat → yE → yE × Nat} {R : zs_H → Int32 → Int32 → Option zs_H} {b base lo j s0 lv n : Nat} {g : zs_H} {i : yI} {c : Nat → Int32} {S : List Int32}
theorem yN_3 {v : Int32} {S1 : List Int32} (H : yN_b g b s0 j lv i c (v :: S1)) (e : i.1 = 3) {x s : Nat} (e1 : i.2.1 = nI x) (e2 : i.2.2.2 = nI s) (hx : base + x + s ≤ 8192) : yN_D R pl tm U g b base j n S1.length i c (v :: S1) := by
  obtain ⟨⟨h1, h2, h3, h4⟩, h5, ⟨h6, h6'⟩, h7, h8⟩ := H
  have h8' : S1.length + 1 < 1100 := h8
  obtain ⟨m1, m2, m3, m4⟩ := yN_as h4 (by omega)
  obtain ⟨p1, p2, p3, p4, p5, p6, p7, p8, p9, p10, p11, p12, p13, p14, p15, p16, p17, p18⟩ := yN_in (n := n + 1) (k := S1.length) h1 h2 h3 (by omega) m1 m2 m3 m4
  rw [e] at p15
  rw [e1] at p16
  have q6 : ((yN_g g (n + 1) S1.length).2.1 115) S1.length = v := h6
  unfold yN_D g_Mo_step yE_1
  simp (config := { decide := true }) only [e, if_false, if_true]
  rw [if_pos p1, p2, p3, if_pos p4, p5, p6, if_pos p7, p9, if_pos p10, p12, if_pos p13, p15, if_neg (by decide), if_neg (by decide), if_neg (by decide), if_pos (by decide), p8, q6, p17, p18, p16]
  by_cases z1 : v.toInt64 - i.2.2.1.toInt64 < 0
  · rw [if_pos z1, if_pos (show yE_bad i v from .inl z1)]
    obtain ⟨a1, a2⟩ := yN_stop (S1 := S1) (n := n) (o := 4) (v := -4) (.inr rfl) rfl h5
    exact ⟨_, by unfold f_Mo_step_222; rw [yN_551], a1, a2⟩
  rw [if_neg z1]
  by_cases z2 : v.toInt64 - i.2.2.1.toInt64 < i.2.2.2.toInt64
  · have nb : ¬ yE_bad i v := fun q => q.elim z1 (fun q => q z2)
    have il := yE_ixl e2 (by omega) nb
    rw [if_pos z2, if_neg nb, yE_ixn e2 (by omega) nb, nI_add, nI_add, if_pos (show (nI 3 : Int32) = 3 from rfl), if_pos (zi_in (by omega) (by omega)), nI_clamp (n := base + x + yE_ix i v) (by omega), show ((yN_g g (n + 1) S1.length).2.1 114) (base + x + yE_ix i v) = c (base + x + yE_ix i v) from h5 _ (by omega)]
    obtain ⟨g', a1, a2, a3⟩ := yN_push (n := n) (v := c (base + x + yE_ix i v)) h5 h6' h7 (by omega)
    exact ⟨g', by rw [a1, Option.bind_some, yN_551], a2, by rw [e1, nI_clamp (n := x) (by omega)]; exact yN_so a3⟩
  · rw [if_neg z2, if_pos (show yE_bad i v from .inr z2)]
    obtain ⟨a1, a2⟩ := yN_stop (S1 := S1) (n := n) (o := 4) (v := -4) (.inr rfl) rfl h5
    exact ⟨_, by unfold f_Mo_step_222; rw [yN_551], a1, a2⟩
theorem yN_4 {v y : Int32} {S1 : List Int32} (H : yN_b g b s0 j lv i c (y :: v :: S1)) (e : i.1 = 4) {x s : Nat} (e1 : i.2.1 = nI x) (e2 : i.2.2.2 = nI s) (hx : base + x + s ≤ 8192) : yN_D R pl tm U g b base j n S1.length i c (y :: v :: S1) := by
  obtain ⟨⟨h1, h2, h3, h4⟩, h5, ⟨h6y, h6, h6'⟩, h7, h8⟩ := H
  have h8' : S1.length + 1 + 1 < 1100 := h8
  obtain ⟨m1, m2, m3, m4⟩ := yN_as h4 (by omega)
  obtain ⟨p1, p2, p3, p4, p5, p6, p7, p8, p9, p10, p11, p12, p13, p14, p15, p16, p17, p18⟩ := yN_in (n := n + 1) (k := S1.length) h1 h2 h3 (by omega) m1 m2 m3 m4
  rw [e] at p15
  rw [e1] at p16
  have q6 : ((yN_g g (n + 1) S1.length).2.1 115) S1.length = v := h6
  have q7 : ((yN_g g (n + 1) S1.length).2.1 115) (S1.length + 1) = y := h6y
  unfold yN_D g_Mo_step yE_1
  simp (config := { decide := true }) only [e, if_false, if_true]
  rw [if_pos p1, p2, p3, if_pos p4, p5, p6, if_pos p7, p9, if_pos p10, p12, if_pos p13, p15, if_neg (by decide), if_neg (by decide), if_neg (by decide), if_neg (by decide), if_pos (by decide), p8, p11, q6, q7, p17, p18, p16]
  by_cases z1 : v.toInt64 - i.2.2.1.toInt64 < 0
  · rw [if_pos z1, if_pos (show yE_bad i v from .inl z1)]
    obtain ⟨a1, a2⟩ := yN_stop (S1 := S1) (n := n) (o := 4) (v := -4) (.inr rfl) rfl h5
    exact ⟨_, by unfold f_Mo_step_222; rw [yN_551], a1, a2⟩
  rw [if_neg z1]
  by_cases z2 : v.toInt64 - i.2.2.1.toInt64 < i.2.2.2.toInt64
  · have nb : ¬ yE_bad i v := fun q => q.elim z1 (fun q => q z2)
    have il := yE_ixl e2 (by omega) nb
    rw [if_pos z2, if_neg nb, yE_ixn e2 (by omega) nb, nI_add, nI_add, if_neg (show ¬ (nI 4 : Int32) = 3 by decide), if_pos (zi_in (by omega) (by omega)), nI_clamp (n := base + x + yE_ix i v) (by omega)]
    obtain ⟨a1, a2⟩ := yN_cell (n := n) (v := y) (p := base + x + yE_ix i v) h5 h6' h7
    exact ⟨_, by rw [yN_551], a1, by rw [e1, nI_clamp (n := x) (by omega)]; exact yN_so a2⟩
  · rw [if_neg z2, if_pos (show yE_bad i v from .inr z2)]
    obtain ⟨a1, a2⟩ := yN_stop (S1 := S1) (n := n) (o := 4) (v := -4) (.inr rfl) rfl h5
    exact ⟨_, by unfold f_Mo_step_222; rw [yN_551], a1, a2⟩
theorem yN_5 (H : yN_b g b s0 j lv i c S) (e : i.1 = 5) {u x : Nat} (e1 : i.2.1 = nI u) (e2 : i.2.2.1 = nI x) (hu : u < 2100) (ep : (g.2.1 89) u = nI (pl u)) (hx : pl u + x < 8192) : yN_D R pl tm U g b base j n S.length i c S := by
  obtain ⟨⟨h1, h2, h3, h4⟩, h5, h6, h7, h8⟩ := H
  obtain ⟨m1, m2, m3, m4⟩ := yN_as h4 (by omega)
  obtain ⟨p1, p2, p3, p4, p5, p6, p7, p8, p9, p10, p11, p12, p13, p14, p15, p16, p17, p18⟩ := yN_in (n := n + 1) (k := S.length) h1 h2 h3 (by omega) m1 m2 m3 m4
  rw [e] at p15
  rw [e1] at p16
  rw [e2] at p17
  obtain ⟨g', a1, a2, a3⟩ := yN_push (n := n) (v := c (pl u + x)) h5 h6 h7 (by omega)
  refine ⟨g', ?_, a2, ?_⟩
  · unfold g_Mo_step
    rw [if_pos p1, p2, p3, if_pos p4, p5, p6, if_pos p7, p9, if_pos p10, p12, if_pos p13, p15, if_neg (by decide), if_neg (by decide), if_neg (by decide), if_neg (by decide), if_neg (by decide), if_pos (by decide), p16, if_pos (zi_in (by omega) hu), nI_clamp (n := u) (by omega), p17, show ((yN_g g (n + 1) S.length).2.1 89) u = nI (pl u) from ep, nI_add, if_pos (zi_in (by omega) hx), nI_clamp (n := pl u + x) (by omega), show ((yN_g g (n + 1) S.length).2.1 114) (pl u + x) = c (pl u + x) from h5 _ hx, a1, Option.bind_some, yN_551]
  · unfold yE_1
    simp (config := { decide := true }) only [e, if_false, if_true, e1, e2, nI_clamp (show u < 2147483648 by omega), nI_clamp (show x < 2147483648 by omega)]
    exact yN_so a3
theorem yN_6 {v : Int32} {S1 : List Int32} (H : yN_b g b s0 j lv i c (v :: S1)) (e : i.1 = 6) {u x : Nat} (e1 : i.2.1 = nI u) (e2 : i.2.2.1 = nI x) (hu : u < 2100) (ep : (g.2.1 89) u = nI (pl u)) (hx : pl u + x < 8192) : yN_D R pl tm U g b base j n S1.length i c (v :: S1) := by
  obtain ⟨⟨h1, h2, h3, h4⟩, h5, ⟨h6, h6'⟩, h7, h8⟩ := H
  have h8' : S1.length + 1 < 1100 := h8
  obtain ⟨m1, m2, m3, m4⟩ := yN_as h4 (by omega)
  obtain ⟨p1, p2, p3, p4, p5, p6, p7, p8, p9, p10, p11, p12, p13, p14, p15, p16, p17, p18⟩ := yN_in (n := n + 1) (k := S1.length) h1 h2 h3 (by omega) m1 m2 m3 m4
  rw [e] at p15
  rw [e1] at p16
  rw [e2] at p17
  obtain ⟨a1, a2⟩ := yN_cell (n := n) (v := v) (p := pl u + x) h5 h6' h7
  refine ⟨_, ?_, a1, ?_⟩
  · unfold g_Mo_step
    rw [if_pos p1, p2, p3, if_pos p4, p5, p6, if_pos p7, p9, if_pos p10, p12, if_pos p13, p15, if_neg (by decide), if_neg (by decide), if_neg (by decide), if_neg (by decide), if_neg (by decide), if_neg (by decide), if_pos (by decide), p16, if_pos (zi_in (by omega) hu), nI_clamp (n := u) (by omega), p17, show ((yN_g g (n + 1) S1.length).2.1 89) u = nI (pl u) from ep, nI_add, if_pos (zi_in (by omega) hx), nI_clamp (n := pl u + x) (by omega), p8, show ((yN_g g (n + 1) S1.length).2.1 115) S1.length = v from h6, yN_551]
  · unfold yE_1
    simp (config := { decide := true }) only [e, if_false, if_true, e1, e2, nI_clamp (show u < 2147483648 by omega), nI_clamp (show x < 2147483648 by omega)]
    exact yN_so a2
theorem yN_7 {x y : Int32} {S1 : List Int32} (H : yN_b g b s0 j lv i c (y :: x :: S1)) (e : i.1 = 7) : yN_D R pl tm U g b base j n S1.length i c (y :: x :: S1) := by
  obtain ⟨⟨h1, h2, h3, h4⟩, h5, ⟨h6y, h6, h6'⟩, h7, h8⟩ := H
  have h8' : S1.length + 1 + 1 < 1100 := h8
  obtain ⟨m1, m2, m3, m4⟩ := yN_as h4 (by omega)
  obtain ⟨p1, p2, p3, p4, p5, p6, p7, p8, p9, p10, p11, p12, p13, p14, p15, p16, p17, p18⟩ := yN_in (n := n + 1) (k := S1.length) h1 h2 h3 (by omega) m1 m2 m3 m4
  rw [e] at p15
  have q6 : ((yN_g g (n + 1) S1.length).2.1 115) S1.length = x := h6
  have q7 : ((yN_g g (n + 1) S1.length).2.1 115) (S1.length + 1) = y := h6y
  unfold yN_D g_Mo_step yE_1
  simp (config := { decide := true }) only [e, if_false, if_true]
  rw [if_pos p1, p2, p3, if_pos p4, p5, p6, if_pos p7, p9, if_pos p10, p12, if_pos p13, p15, if_neg (by decide), if_neg (by decide), if_neg (by decide), if_neg (by decide), if_neg (by decide), if_neg (by decide), if_neg (by decide), if_pos (by decide), p8, p11, q6, q7, p16]
  have stop : f_Cd_isByZero i.2.1 y = 1 → ∃ g', f_Mo_step_363 (yN_g g (n + 1) S1.length) (nI j) = some (nI (j + 1), g') ∧ zfr yN_F yN_M [] g g' ∧ yN_o g' ((c, S1, n + 1), 3) := fun _ => by
    obtain ⟨a1, a2⟩ := yN_stop (S1 := S1) (n := n) (o := 3) (v := -3) (.inl rfl) rfl h5
    exact ⟨_, by unfold f_Mo_step_363; rw [yN_551], a1, a2⟩
  have go : f_Cd_isByZero i.2.1 y = 0 → ∃ g', f_Mo_step_372 (yN_g g (n + 1) S1.length) (nI j) i.2.1 x y = some (nI (j + 1), g') ∧ zfr yN_F yN_M [] g g' ∧ yN_o g' (match f_Cd_two i.2.1 x y with
      | some v => ((c, v :: S1, n + 1), 0)
      | none => ((c, y :: x :: S1, n), 5)) := fun hz => by
    obtain ⟨v, ev⟩ := yG_two (x := x) hz
    obtain ⟨g', a1, a2, a3⟩ := yN_push (n := n) (v := v) h5 h6' h7 (by omega)
    refine ⟨g', ?_, a2, by rw [ev]; exact yN_so a3⟩
    unfold f_Mo_step_372
    rw [yi_twoA (fun ⟨q1, q2⟩ => by
      unfold f_Cd_isByZero at hz
      rw [if_pos q1] at hz
      rcases q2 with q | q | q | q <;> rw [q] at hz <;> exact absurd hz (by decide)), ev, Option.bind_some, a1, Option.bind_some, yN_551]
  unfold f_Cd_isByZero at stop go ⊢
  by_cases hy : y = 0
  · rw [if_pos hy] at stop go ⊢
    rw [if_pos hy]
    by_cases k3 : i.2.1 = 3
    · rw [if_pos k3] at stop go ⊢; rw [if_pos k3, if_neg (by decide)]; exact stop rfl
    rw [if_neg k3] at stop go ⊢
    rw [if_neg k3]
    by_cases k4 : i.2.1 = 4
    · rw [if_pos k4] at stop go ⊢; rw [if_pos k4, if_neg (by decide)]; exact stop rfl
    rw [if_neg k4] at stop go ⊢
    rw [if_neg k4]
    by_cases k8 : i.2.1 = 8
    · rw [if_pos k8] at stop go ⊢; rw [if_pos k8, if_neg (by decide)]; exact stop rfl
    rw [if_neg k8] at stop go ⊢
    rw [if_neg k8]
    by_cases k9 : i.2.1 = 9
    · rw [if_pos k9] at stop go ⊢; rw [if_pos k9, if_neg (by decide)]; exact stop rfl
    · rw [if_neg k9] at stop go ⊢; rw [if_neg k9, if_pos rfl]; exact go rfl
  · rw [if_neg hy] at stop go ⊢
    rw [if_neg hy, if_pos rfl]
    exact go rfl
theorem yN_8 {v : Int32} {S1 : List Int32} (H : yN_b g b s0 j lv i c (v :: S1)) (e : i.1 = 8) : yN_D R pl tm U g b base j n S1.length i c (v :: S1) := by
  obtain ⟨⟨h1, h2, h3, h4⟩, h5, ⟨h6, h6'⟩, h7, h8⟩ := H
  have h8' : S1.length + 1 < 1100 := h8
  obtain ⟨m1, m2, m3, m4⟩ := yN_as h4 (by omega)
  obtain ⟨p1, p2, p3, p4, p5, p6, p7, p8, p9, p10, p11, p12, p13, p14, p15, p16, p17, p18⟩ := yN_in (n := n + 1) (k := S1.length) h1 h2 h3 (by omega) m1 m2 m3 m4
  rw [e] at p15
  obtain ⟨g', a1, a2, a3⟩ := yN_push (n := n) (v := f_Cd_one i.2.1 v) h5 h6' h7 (by omega)
  refine ⟨g', ?_, a2, ?_⟩
  · unfold g_Mo_step
    rw [if_pos p1, p2, p3, if_pos p4, p5, p6, if_pos p7, p9, if_pos p10, p12, if_pos p13, p15, if_neg (by decide), if_neg (by decide), if_neg (by decide), if_neg (by decide), if_neg (by decide), if_neg (by decide), if_neg (by decide), if_neg (by decide), if_pos (by decide), p16, p8, show ((yN_g g (n + 1) S1.length).2.1 115) S1.length = v from h6, yi_one, a1, Option.bind_some, yN_551]
  · unfold yE_1
    simp (config := { decide := true }) only [e, if_false, if_true]
    exact yN_so a3
theorem yN_9 {x y z : Int32} {S1 : List Int32} (H : yN_b g b s0 j lv i c (y :: x :: z :: S1)) (e : i.1 = 9) : yN_D R pl tm U g b base j n S1.length i c (y :: x :: z :: S1) := by
  obtain ⟨⟨h1, h2, h3, h4⟩, h5, ⟨h6y, h6x, h6z, h6'⟩, h7, h8⟩ := H
  have h8' : S1.length + 1 + 1 + 1 < 1100 := h8
  obtain ⟨m1, m2, m3, m4⟩ := yN_as h4 (by omega)
  obtain ⟨p1, p2, p3, p4, p5, p6, p7, p8, p9, p10, p11, p12, p13, p14, p15, p16, p17, p18⟩ := yN_in (n := n + 1) (k := S1.length) h1 h2 h3 (by omega) m1 m2 m3 m4
  rw [e] at p15
  obtain ⟨g', a1, a2, a3⟩ := yN_push (n := n) (v := if z = 0 then x else y) h5 h6' h7 (by omega)
  refine ⟨g', ?_, a2, ?_⟩
  · unfold g_Mo_step f_Mo_step_415
    rw [if_pos p1, p2, p3, if_pos p4, p5, p6, if_pos p7, p9, if_pos p10, p12, if_pos p13, p15, if_neg (by decide), if_neg (by decide), if_neg (by decide), if_neg (by decide), if_neg (by decide), if_neg (by decide), if_neg (by decide), if_neg (by decide), if_neg (by decide), if_pos (by decide), p8, p11, p14, show ((yN_g g (n + 1) S1.length).2.1 115) S1.length = z from h6z, show ((yN_g g (n + 1) S1.length).2.1 115) (S1.length + 1) = x from h6x, show ((yN_g g (n + 1) S1.length).2.1 115) (S1.length + 2) = y from h6y]
    by_cases q : z = 0
    · rw [if_pos q] at a1 ⊢; rw [a1, Option.bind_some, yN_551]
    · rw [if_neg q] at a1 ⊢; rw [a1, Option.bind_some, yN_551]
  · unfold yE_1
    simp (config := { decide := true }) only [e, if_false, if_true]
    exact yN_so a3
theorem yN_12 (H : yN_b g b s0 j lv i c S) (e : i.1 = 12) {x : Nat} (e1 : i.2.1 = nI x) (hx : base + x < 8192) : yN_D R pl tm U g b base j n S.length i c S := by
  obtain ⟨⟨h1, h2, h3, h4⟩, h5, h6, h7, h8⟩ := H
  obtain ⟨m1, m2, m3, m4⟩ := yN_as h4 (by omega)
  obtain ⟨p1, p2, p3, p4, p5, p6, p7, p8, p9, p10, p11, p12, p13, p14, p15, p16, p17, p18⟩ := yN_in (n := n + 1) (k := S.length) h1 h2 h3 (by omega) m1 m2 m3 m4
  rw [e] at p15
  rw [e1] at p16
  obtain ⟨a1, a2⟩ := yN_cell (n := n) (v := i.2.2.1) (p := base + x) h5 h6 h7
  refine ⟨_, ?_, a1, ?_⟩
  · unfold g_Mo_step
    rw [if_pos p1, p2, p3, if_pos p4, p5, p6, if_pos p7, p9, if_pos p10, p12, if_pos p13, p15, if_neg (by decide), if_neg (by decide), if_neg (by decide), if_neg (by decide), if_neg (by decide), if_neg (by decide), if_neg (by decide), if_neg (by decide), if_neg (by decide), if_neg (by decide), if_neg (by decide), if_neg (by decide), if_pos (by decide), p16, nI_add, if_pos (zi_in (by omega) hx), nI_clamp (n := base + x) (by omega), p17, yN_551]
  · unfold yE_1
    simp (config := { decide := true }) only [e, if_false, if_true, e1, nI_clamp (show x < 2147483648 by omega)]
    exact yN_so a2
end YNR
end
section
/-! The machine: the model's calls; straight code of a unit. -/
/-- the model runs units below b -/
def yN_U (X : Nat → Nat) (kb : Nat → yK) (pl : Nat → Nat) (b : Nat) (U : Nat → Nat → yE → yE × Nat) (R : zs_H → Int32 → Int32 → Option zs_H) (g0 : zs_H) : Prop := ∀ (u base : Nat) (s : yE) (g : zs_H), u < b → zfr yN_F yN_M [] g0 g → yN_s g s → s.2.1.length + 64 * (u + 1) ≤ 1088 → base + X u ≤ 8192 → yE_dj X kb pl u base → yS_g kb u base s.1 → ∃ g', R g (nI u) (nI base) = some g' ∧ zfr yN_F yN_M [] g g' ∧ yN_o g' (U u base s)
/-- and standard blocks -/
def yN_t (tm : Nat → Nat → (Nat → Int32) → Nat → Int32) (g0 : zs_H) : Prop := ∀ (k at_ : Nat) (c : Nat → Int32) (g : zs_H), zfr yN_F yN_M [] g0 g → k < 9 → at_ + (zt_2.getD k 0).toNatClampNeg ≤ 8192 → (k = 2 → c (at_ + 2) = 0 ∨ c (at_ + 2) = 1) → (∀ j, j < 8192 → (g.2.1 114) j = c j) → ∃ g', f_Mo_timers g (nI k) (nI at_) = some g' ∧ (∀ j, j < 8192 → (g'.2.1 114) j = tm k at_ c j) ∧ zfr [] [114] [] g g'
section YNG
variable {X Y : Nat → Nat} {kb : Nat → yK} {pl : Nat → Nat} {tm : Nat → Nat → (Nat → Int32) → Nat → Int32} {U : Nat → Nat → yE → yE × Nat} {R : zs_H → Int32 → Int32 → Option zs_H} {b base lo j s0 lv n : Nat} {g g0 : zs_H} {i : yI} {c : Nat → Int32} {S : List Int32}
theorem yN_gs (hc : ∀ j, j < 8192 → (g.2.1 114) j = c j) (hk : yE_k ((g.2.1 115)) S) (h0 : (g.1 68 75) = 0) : yN_s (yN_g g (n + 1) S.length) (c, S, n + 1) ∧ zfr yN_F yN_M [] g (yN_g g (n + 1) S.length) := ⟨⟨hc, rfl, hk, rfl, h0⟩, zfr_F (by decide) (zfr_F (by decide) zfr_rfl)⟩
theorem yN_15 (H : yN_b g b s0 j lv i c S) (e : i.1 = 15) {u x : Nat} (e1 : i.2.1 = nI u) (e2 : i.2.2.1 = nI x) (hu : u < 100) (hx : x < 100000) (r : ∃ g', R (yN_g g (n + 1) S.length) (nI u) (nI (base + x)) = some g' ∧ zfr yN_F yN_M [] (yN_g g (n + 1) S.length) g' ∧ yN_o g' (U u (base + x) (c, S, n + 1))) : yN_D R pl tm U g b base j n S.length i c S := by
  obtain ⟨⟨h1, h2, h3, h4⟩, h5, h6, h7, h8⟩ := H
  obtain ⟨m1, m2, m3, m4⟩ := yN_as h4 (by omega)
  obtain ⟨p1, p2, p3, p4, p5, p6, p7, p8, p9, p10, p11, p12, p13, p14, p15, p16, p17, p18⟩ := yN_in (n := n + 1) (k := S.length) h1 h2 h3 (by omega) m1 m2 m3 m4
  rw [e] at p15
  rw [e1] at p16
  rw [e2] at p17
  obtain ⟨g', a1, a2, a3⟩ := r
  refine ⟨g', ?_, zfr_trans (yN_gs (n := n) h5 h6 h7).2 a2, ?_⟩
  · unfold g_Mo_step
    rw [if_pos p1, p2, p3, if_pos p4, p5, p6, if_pos p7, p9, if_pos p10, p12, if_pos p13, p15, if_neg (by decide), if_neg (by decide), if_neg (by decide), if_neg (by decide), if_neg (by decide), if_neg (by decide), if_neg (by decide), if_neg (by decide), if_neg (by decide), if_neg (by decide), if_neg (by decide), if_neg (by decide), if_neg (by decide), if_neg (by decide), if_neg (by decide), if_pos (by decide), p16, p17, nI_add, a1, Option.bind_some, yN_551]
  · unfold yE_1
    simp (config := { decide := true }) only [e, if_false, if_true, e1, e2, nI_clamp (show x < 2147483648 by omega), nI_clamp (show u < 2147483648 by omega)]
    exact a3
theorem yN_16 (H : yN_b g b s0 j lv i c S) (e : i.1 = 16) {u : Nat} (e1 : i.2.1 = nI u) (hu : u < 100) (ep : (g.2.1 89) u = nI (pl u)) (r : ∃ g', R (yN_g g (n + 1) S.length) (nI u) (nI (pl u)) = some g' ∧ zfr yN_F yN_M [] (yN_g g (n + 1) S.length) g' ∧ yN_o g' (U u (pl u) (c, S, n + 1))) : yN_D R pl tm U g b base j n S.length i c S := by
  obtain ⟨⟨h1, h2, h3, h4⟩, h5, h6, h7, h8⟩ := H
  obtain ⟨m1, m2, m3, m4⟩ := yN_as h4 (by omega)
  obtain ⟨p1, p2, p3, p4, p5, p6, p7, p8, p9, p10, p11, p12, p13, p14, p15, p16, p17, p18⟩ := yN_in (n := n + 1) (k := S.length) h1 h2 h3 (by omega) m1 m2 m3 m4
  rw [e] at p15
  rw [e1] at p16
  obtain ⟨g', a1, a2, a3⟩ := r
  refine ⟨g', ?_, zfr_trans (yN_gs (n := n) h5 h6 h7).2 a2, ?_⟩
  · unfold g_Mo_step
    rw [if_pos p1, p2, p3, if_pos p4, p5, p6, if_pos p7, p9, if_pos p10, p12, if_pos p13, p15, if_neg (by decide), if_neg (by decide), if_neg (by decide), if_neg (by decide), if_neg (by decide), if_neg (by decide), if_neg (by decide), if_neg (by decide), if_neg (by decide), if_neg (by decide), if_neg (by decide), if_neg (by decide), if_neg (by decide), if_neg (by decide), if_neg (by decide), if_neg (by decide), if_pos (by decide), p16, if_pos (zi_in (by omega) (by omega)), nI_clamp (n := u) (by omega), show ((yN_g g (n + 1) S.length).2.1 89) u = nI (pl u) from ep, a1, Option.bind_some, yN_551]
  · unfold yE_1
    simp (config := { decide := true }) only [e, if_false, if_true, e1, nI_clamp (show u < 2147483648 by omega)]
    exact a3
theorem yN_17 (H : yN_b g b s0 j lv i c S) (e : i.1 = 17) (ht : yN_t tm g0) (f : zfr yN_F yN_M [] g0 g) {k x : Nat} (e1 : i.2.1 = nI k) (e2 : i.2.2.1 = nI x) (hk : k < 9) (hx : base + x + (zt_2.getD k 0).toNatClampNeg ≤ 8192) (h2' : k = 2 → c (base + x + 2) = 0 ∨ c (base + x + 2) = 1) : yN_D R pl tm U g b base j n S.length i c S := by
  obtain ⟨⟨h1, h2, h3, h4⟩, h5, h6, h7, h8⟩ := H
  obtain ⟨m1, m2, m3, m4⟩ := yN_as h4 (by omega)
  obtain ⟨p1, p2, p3, p4, p5, p6, p7, p8, p9, p10, p11, p12, p13, p14, p15, p16, p17, p18⟩ := yN_in (n := n + 1) (k := S.length) h1 h2 h3 (by omega) m1 m2 m3 m4
  rw [e] at p15
  rw [e1] at p16
  rw [e2] at p17
  obtain ⟨q1, q2⟩ := yN_gs (n := n) h5 h6 h7
  obtain ⟨g', a1, a2, a3⟩ := ht k (base + x) c (yN_g g (n + 1) S.length) (zfr_trans f q2) hk hx h2' h5
  refine ⟨g', ?_, zfr_trans q2 (zfr_w a3 (by decide) (by decide) (by decide)), ?_⟩
  · unfold g_Mo_step
    rw [if_pos p1, p2, p3, if_pos p4, p5, p6, if_pos p7, p9, if_pos p10, p12, if_pos p13, p15, if_neg (by decide), if_neg (by decide), if_neg (by decide), if_neg (by decide), if_neg (by decide), if_neg (by decide), if_neg (by decide), if_neg (by decide), if_neg (by decide), if_neg (by decide), if_neg (by decide), if_neg (by decide), if_neg (by decide), if_neg (by decide), if_neg (by decide), if_neg (by decide), if_neg (by decide), if_pos (by decide), p16, p17, nI_add, a1, Option.bind_some, yN_551]
  · unfold yE_1
    simp (config := { decide := true }) only [e, if_false, if_true, e1, e2, nI_clamp (show x < 2147483648 by omega), nI_clamp (show k < 2147483648 by omega)]
    refine yN_so ⟨a2, (a3.1 _ _ (by decide)).trans rfl, ?_, (a3.1 _ _ (by decide)).trans rfl, (a3.1 _ _ (by decide)).trans h7⟩
    rw [a3.2.1 _ (by decide)]
    exact h6
/-- the hypotheses of a block -/
def yN_h (X Y : Nat → Nat) (kb : Nat → yK) (pl : Nat → Nat) (tm : Nat → Nat → (Nat → Int32) → Nat → Int32) (b base : Nat) (U : Nat → Nat → yE → yE × Nat) (R : zs_H → Int32 → Int32 → Option zs_H) (g0 : zs_H) : Prop := b < 16 ∧ (Y b ≤ X b ∧ base + X b ≤ 8192) ∧ yN_U X kb pl b U R g0 ∧ yN_t tm g0 ∧ (∀ u, u < b → (kb u).1 = 1 → yE_dj X kb pl u (pl u) ∧ (0 < X u ∧ pl u + X u ≤ 8192) ∧ (g0.2.1 89) u = nI (pl u)) ∧ yE_dj X kb pl b base ∧ yS_h X Y kb pl tm b base U
theorem yN_any (H : yN_h X Y kb pl tm b base U R g0) (f : zfr yN_F yN_M [] g0 g) (hb : yN_b g b s0 j lv i c S) (W : yw_i X Y kb b lo i) (ht : yo_t i.1 ≤ S.length) (hl : S.length + 64 * b ≤ 1088) (G : yS_g kb b base c) : yN_D R pl tm U g b base j n (S.length - yo_t i.1) i c S := by
  obtain ⟨H1, ⟨H2, H3⟩, H4, H5, H6, H7, H8⟩ := H
  have bp : ∀ u, u < b → (kb u).1 = 1 → (g.2.1 89) u = nI (pl u) := fun u h1 h2 => by rw [f.2.1 _ (by decide)]; exact (H6 u h1 h2).2.2
  have gs := yN_gs (n := n) hb.2.1 hb.2.2.1 hb.2.2.2.1
  have cut : ∀ k, i.1 = k → k ≤ 19 → yo_t k = 0 → S.length - yo_t i.1 = S.length := fun k h1 _ h2 => by rw [h1, h2]; rfl
  rcases W with W | ⟨e, x, e1, W⟩ | ⟨e, x, s, e1, e2, W⟩ | ⟨e, u, x, e1, e2, W1, W2, W3⟩ | ⟨e, B', x, e1, e2, W1, W2⟩
  · rcases W with e | e | ⟨e, x, e1, W⟩ | ⟨e, x, s, e1, e2, W⟩ | ⟨e, e2, u, e1, W1, W2⟩ | ⟨e, u, x, e1, e2, W1, W2, W3⟩ | ⟨e, _⟩ | ⟨e, _⟩ | ⟨e, u, e1, W1, W2⟩
    · rw [cut 0 e (by decide) rfl]; exact yN_0 hb e
    · rw [e] at ht ⊢
      obtain ⟨x1, A1, rfl, l1⟩ := yG_c1 (A := S) (Nat.le_trans (by decide) ht)
      have ht1 : 3 ≤ A1.length + 1 := ht
      obtain ⟨x2, A2, rfl, l2⟩ := yG_c1 (A := A1) (by omega)
      have ht2 : 3 ≤ A2.length + 1 + 1 := ht
      obtain ⟨x3, A3, rfl, l3⟩ := yG_c1 (A := A2) (by omega)
      exact yN_9 hb e
    · rw [cut 1 e (by decide) rfl]; exact yN_1 hb e e1 (by omega)
    · rw [e] at ht ⊢
      obtain ⟨x1, A1, rfl, l1⟩ := yG_c1 (A := S) ht
      exact yN_3 hb e e1 e2 (by omega)
    · rw [cut 5 e (by decide) rfl]
      exact yN_5 (x := 0) hb e e1 (by rw [e2]; rfl) (by omega) (bp u W1 W2) (by have := (H6 u W1 W2).2.1; omega)
    · rw [e] at ht ⊢
      obtain ⟨x1, A1, rfl, l1⟩ := yG_c1 (A := S) ht
      exact yN_6 hb e e1 e2 (by omega) (bp u W1 W2) (by have := (H6 u W1 W2).2.1; omega)
    · rw [e] at ht ⊢
      obtain ⟨x1, A1, rfl, l1⟩ := yG_c1 (A := S) (Nat.le_trans (by decide) ht)
      have ht1 : 2 ≤ A1.length + 1 := ht
      obtain ⟨x2, A2, rfl, l2⟩ := yG_c1 (A := A1) (by omega)
      exact yN_7 hb e
    · rw [e] at ht ⊢
      obtain ⟨x1, A1, rfl, l1⟩ := yG_c1 (A := S) ht
      exact yN_8 hb e
    · rw [cut 16 e (by decide) rfl]
      obtain ⟨d1, d2, d3⟩ := H6 u W1 W2
      exact yN_16 hb e e1 (by omega) (bp u W1 W2) (H4 u (pl u) (c, S, n + 1) (yN_g g (n + 1) S.length) W1 (zfr_trans f gs.2) gs.1 (by show S.length + _ ≤ _; omega) d2.2 d1 (yS_16 H8 W1 W2 (s := (c, S, n + 1)) G).1)
  · rw [e] at ht ⊢
    obtain ⟨x1, A1, rfl, l1⟩ := yG_c1 (A := S) ht
    exact yN_2 hb e e1 (by omega)
  · rw [e] at ht ⊢
    obtain ⟨x1, A1, rfl, l1⟩ := yG_c1 (A := S) (Nat.le_trans (by decide) ht)
    have ht1 : 2 ≤ A1.length + 1 := ht
    obtain ⟨x2, A2, rfl, l2⟩ := yG_c1 (A := A1) (by omega)
    exact yN_4 hb e e1 e2 (by omega)
  · rw [cut 15 e (by decide) rfl]
    exact yN_15 hb e e1 e2 (by omega) (by omega) (H4 u (base + x) (c, S, n + 1) (yN_g g (n + 1) S.length) W1 (zfr_trans f gs.2) gs.1 (by show S.length + _ ≤ _; omega) (by omega) (fun w hw hk => by
      rcases H7 w (by omega) hk with z | z
      · exact .inl (by omega)
      · exact .inr (by omega)) (yS_15 H8 W1 W3.1 W3.2 (s := (c, S, n + 1)) G).1)
  · rw [cut 17 e (by decide) rfl]
    exact yN_17 hb e H5 f e1 e2 W1 (by omega) (yS_17 H8 W1 W2.1 W2.2 G).1
end YNG
end
section
/-! The machine: the model's loop over instructions. -/
section YNL
variable {X Y : Nat → Nat} {kb : Nat → yK} {pl : Nat → Nat} {tm : Nat → Nat → (Nat → Int32) → Nat → Int32} {U : Nat → Nat → yE → yE × Nat} {R : zs_H → Int32 → Int32 → Option zs_H} {B : Nat → Nat} {b base lo j s0 sz lv n d2 : Nat} {g g0 : zs_H} {i : yI} {c : Nat → Int32} {S S0 : List Int32} {st : zs_H → Int32 → Int32 → Int32 → Option (Int32 × zs_H)}
theorem yN_cf (f : zfr yN_F yN_M [] g0 g) (C : yD_c b s0 sz g0) : yD_c b s0 sz g := ⟨C.1, C.2.1, by rw [f.2.1 _ (by decide)]; exact C.2.2.1, by rw [f.2.1 _ (by decide)]; exact C.2.2.2⟩
theorem yN_mf {k : yJ} {q : Nat} (f : zfr yN_F yN_M [] g0 g) (m : yM_m s0 g0 q k) : yM_m s0 g q k := by
  unfold yM_m at m ⊢
  rw [f.2.1 _ (by decide), f.2.1 _ (by decide), f.2.1 _ (by decide), f.2.1 _ (by decide), f.2.1 _ (by decide)]
  exact m
theorem yN_go {N : Nat} (C : yD_c b s0 sz g) (hj : j < sz) (m : yM_m s0 g (s0 + j) (i, lv)) (ho : i.1 < 19) (hs : yN_s g (c, S, n)) (ht : yo_t i.1 ≤ S.length) : f_Mo_go_L2 st (N + 1) g (nI b) (nI base) (nI j) = zd_B (st (yN_g g (n + 1) (S.length - yo_t i.1)) (nI b) (nI j) (nI base)) (fun v h => f_Mo_go_L2 st N h (nI b) (nI base) v) := by
  have key : ∀ o : Fin 19, zt_6.getD o.1 0 = nI (yo_t o.1) := by decide
  obtain ⟨c1, c2, c3, c4⟩ := id C
  obtain ⟨_, q2, _, q4, q5⟩ := hs
  have q2' : (g.1 68 76) = nI S.length := q2
  have q4' : (g.1 68 74) = nI n := q4
  have m1 : (g.2.1 104) (s0 + j) = nI i.1 := m.1
  have k1 : zt_6.getD i.1 0 = nI (yo_t i.1) := key ⟨i.1, ho⟩
  show f_Mo_go_2 st (f_Mo_go_L2 st N) g (nI b) (nI base) (nI j) = _
  unfold f_Mo_go_2
  rw [yV_sz C, Option.bind_some, if_neg (mt (nI_leI (by omega) (by omega)).mp (by omega)), if_pos q5, if_pos (zi_in (by omega) (by omega)), nI_clamp (n := b) (by omega), c3, nI_add, if_pos (zi_in (by omega) (by omega)), nI_clamp (n := s0 + j) (by omega), m1, if_pos (zi_in (by omega) ho), nI_clamp (n := i.1) (by omega), k1, q2', q4', show nI n + 1 = nI (n + 1) from zc_ad 1 n, zi_sub ht]
  rfl
theorem yN_end {N q : Nat} (C : yD_c b s0 sz g) (h : ¬ (g.1 68 75) = 0) : f_Mo_go_L2 st (N + 1) g (nI b) (nI base) (nI q) = some g := by
  show f_Mo_go_2 st (f_Mo_go_L2 st N) g (nI b) (nI base) (nI q) = _
  unfold f_Mo_go_2
  rw [yV_sz C, Option.bind_some, if_neg h, ite_self]
/-- straight code: k turns of the loop -/
theorem yN_L (G : yG_h X Y kb pl tm B b base U) (H : yN_h X Y kb pl tm b base U R g0) (C : yD_c b s0 sz g0) (h0 : S0.length + 64 * (b + 1) ≤ 1088) (hY : Y b ≤ lo) : ∀ (L : List yI) (A : List Int32) (j n : Nat) (c : Nat → Int32) (g : zs_H), zfr yN_F yN_M [] g0 g → yN_s g (c, A ++ S0, n) → yS_g kb b base c → (∀ k i, L[k]? = some i → ∃ lv, yM_m s0 g0 (s0 + j + k) (i, lv)) → j + L.length ≤ sz → (∀ i, i ∈ L → yw_i X Y kb b lo i) → yo_h A.length L = some d2 → A.length ≤ 64 → yH_d A.length L = false → ∃ g' k, zfr yN_F yN_M [] g g' ∧ yN_o g' (yE_L pl tm U base L (c, A ++ S0, n)) ∧ n + k ≤ (yE_L pl tm U base L (c, A ++ S0, n)).1.2.2 ∧ ((yE_L pl tm U base L (c, A ++ S0, n)).2 = 0 → ∀ N, f_Mo_go_L2 (g_Mo_step R) (N + k) g (nI b) (nI base) (nI j) = f_Mo_go_L2 (g_Mo_step R) N g' (nI b) (nI base) (nI (j + L.length))) ∧ (¬ (yE_L pl tm U base L (c, A ++ S0, n)).2 = 0 → ∀ N, f_Mo_go_L2 (g_Mo_step R) (N + 1 + k) g (nI b) (nI base) (nI j) = some g') := by
  intro L
  induction L with
  | nil =>
    intro A j n c g f hs _ _ _ _ _ _ _
    exact ⟨g, 0, zfr_rfl, yN_so hs, Nat.le_refl _, fun _ _ => rfl, fun z => absurd rfl z⟩
  | cons i L ih =>
    intro A j n c g f hs gd K hj W e ha hd
    have hj' : j + (L.length + 1) ≤ sz := hj
    have Wi := W i (List.mem_cons_self ..)
    have ht : yo_t i.1 ≤ A.length := by
      rcases Nat.lt_or_ge A.length (yo_t i.1) with z | z
      · rw [yo_h, if_neg (by omega)] at e; cases e
      · exact z
    rw [yo_h, if_pos ht] at e
    rw [yH_d, Bool.or_eq_false_iff, decide_eq_false_iff_not] at hd
    have oi := yP_wo (b := b) (by have := H.1; omega) Wi
    have o19 : i.1 < 19 := by have := oi.1; omega
    have lA : (A ++ S0).length = A.length + S0.length := List.length_append
    have C1 := yN_cf f C
    obtain ⟨lv, m0⟩ := K 0 i rfl
    have mm : yM_m s0 g (s0 + j) (i, lv) := yN_mf f m0
    have hb : yN_b g b s0 j lv i c (A ++ S0) := ⟨⟨by have := H.1; omega, C1.2.2.1, by have := C.2.1; omega, mm⟩, hs.1, hs.2.2.1, hs.2.2.2.2, by omega⟩
    obtain ⟨g1, a1, a2, a3⟩ := yN_any (n := n) H f hb Wi (by omega) (by omega) gd
    have C2 := yN_cf a2 C1
    obtain ⟨o1, o2, o3, _⟩ := yG_1 (tm := tm) G.1 ⟨G.2.1.1, G.2.1.2 b (Nat.le_refl _)⟩ G.2.2.1 G.2.2.2.2.2.1 G.2.2.2.2.2.2 Wi A S0 c n ht
    have o3' : n + 1 ≤ (yE_1 pl tm U base i (c, A ++ S0, n)).1.2.2 := o3
    have stp : ∀ N, f_Mo_go_L2 (g_Mo_step R) (N + 1) g (nI b) (nI base) (nI j) = f_Mo_go_L2 (g_Mo_step R) N g1 (nI b) (nI base) (nI (j + 1)) := fun N => by
      rw [yN_go C1 (by omega) mm o19 hs (by omega), a1]
      rfl
    rw [yE_L]
    by_cases z : (yE_1 pl tm U base i (c, A ++ S0, n)).2 = 0
    · rw [if_pos z]
      obtain ⟨A', b1, b2⟩ := o2 z
      have es : (yE_1 pl tm U base i (c, A ++ S0, n)).1 = ((yE_1 pl tm U base i (c, A ++ S0, n)).1.1, A' ++ S0, (yE_1 pl tm U base i (c, A ++ S0, n)).1.2.2) := by rw [← b1]
      have hs1 := a3.1 z
      have gd1 := yS_1 H.2.2.2.2.2.2 hY Wi (c, A ++ S0, n) gd
      rw [es] at hs1 ⊢
      rw [← b2] at e hd
      obtain ⟨g2, k, d1, d2', d3, d4, d5⟩ := ih A' (j + 1) _ _ g1 (zfr_trans f a2) hs1 gd1 (fun k i' e' => by have := K (k + 1) i' e'; rwa [show s0 + j + (k + 1) = s0 + (j + 1) + k by omega] at this) (by omega) (fun i hi => W i (List.mem_cons_of_mem _ hi)) e (by omega) hd.2
      refine ⟨g2, k + 1, zfr_trans a2 d1, d2', Nat.le_trans (show n + (k + 1) ≤ (n + 1) + k by omega) (Nat.le_trans (Nat.add_le_add_right o3' k) d3), fun q N => ?_, fun q N => ?_⟩
      · rw [show N + (k + 1) = (N + k) + 1 by omega, stp, d4 q N, show j + 1 + L.length = j + (i :: L).length by rw [List.length_cons]; omega]
      · rw [show N + 1 + (k + 1) = (N + 1 + k) + 1 by omega, stp, d5 q N]
    · rw [if_neg z]
      have sp : ¬ (g1.1 68 75) = 0 := by
        rw [(a3.2 (o1.resolve_left z)).1]
        split
        · exact (show ¬ (-3 : Int32) = 0 by decide)
        · exact (show ¬ (-4 : Int32) = 0 by decide)
      refine ⟨g1, 1, a2, a3, o3', fun q => absurd q z, fun _ N => ?_⟩
      rw [stp (N + 1)]
      exact yN_end C2 sp
end YNL
end
section
/-! The machine: the model's jumps. -/
section YNJ
variable {R : zs_H → Int32 → Int32 → Option zs_H} {b base j s0 sz lv n N : Nat} {g : zs_H} {i : yI} {c : Nat → Int32} {S S1 : List Int32} {y : Int32}
theorem yN_jgo {t : Nat} (C : yD_c b s0 sz g) (hj : j < sz) (m : yM_m s0 g (s0 + j) (i, lv)) (e : i.1 = 10 ∨ i.1 = 14) (ea : i.2.1 = nI t) (ht : s0 ≤ t) (hs : yN_s g (c, S, n)) (hl : S.length < 1100) : f_Mo_go_L2 (g_Mo_step R) (N + 1) g (nI b) (nI base) (nI j) = f_Mo_go_L2 (g_Mo_step R) N (yN_g g (n + 1) S.length) (nI b) (nI base) (nI (t - s0)) := by
  have c1 := C.1
  have c2 := C.2.1
  have m1 : (g.2.1 104) (s0 + j) = nI i.1 := m.1
  have m2 : (g.2.1 105) (s0 + j) = nI (t - s0) := by
    rw [show (g.2.1 105) (s0 + j) = yM_A s0 i from m.2.1]
    unfold yM_A
    rw [if_pos (by omega), ea, zi_sub ht]
  obtain ⟨p1, p2, p3, p4, p5, p6, p7, p8, p9, p10, p11, p12, p13, p14, p15, p16, p17, p18⟩ := yN_in (n := n + 1) (k := S.length) (show b < 17 by omega) C.2.2.1 (show s0 + j < 4000 by omega) (by omega) m1 m2 rfl rfl
  have t0 : yo_t i.1 = 0 := by rcases e with e | e <;> rw [e] <;> rfl
  rw [yN_go C hj m (by omega) hs (by rw [t0]; exact Nat.zero_le _), t0, Nat.sub_zero]
  have st : g_Mo_step R (yN_g g (n + 1) S.length) (nI b) (nI j) (nI base) = some (nI (t - s0), yN_g g (n + 1) S.length) := by
    unfold g_Mo_step
    rcases e with e | e
    · rw [e] at p15
      rw [if_pos p1, p2, p3, if_pos p4, p5, p6, if_pos p7, p9, if_pos p10, p12, if_pos p13, p15, if_neg (by decide), if_neg (by decide), if_neg (by decide), if_neg (by decide), if_neg (by decide), if_neg (by decide), if_neg (by decide), if_neg (by decide), if_neg (by decide), if_neg (by decide), if_pos (by decide), p16]
    · rw [e] at p15
      rw [if_pos p1, p2, p3, if_pos p4, p5, p6, if_pos p7, p9, if_pos p10, p12, if_pos p13, p15, if_neg (by decide), if_neg (by decide), if_neg (by decide), if_neg (by decide), if_neg (by decide), if_neg (by decide), if_neg (by decide), if_neg (by decide), if_neg (by decide), if_neg (by decide), if_neg (by decide), if_neg (by decide), if_neg (by decide), if_neg (by decide), if_pos (by decide), p16]
  rw [st]
  rfl
theorem yN_jlv (C : yD_c b s0 sz g) (hj : j < sz) (m : yM_m s0 g (s0 + j) (i, lv)) (e : i.1 = 18) (hs : yN_s g (c, S, n)) (hl : S.length < 1100) : f_Mo_go_L2 (g_Mo_step R) (N + 1) g (nI b) (nI base) (nI j) = f_Mo_go_L2 (g_Mo_step R) N (yN_g g (n + 1) S.length) (nI b) (nI base) (nI sz) := by
  have c1 := C.1
  have c2 := C.2.1
  have m1 : (g.2.1 104) (s0 + j) = nI i.1 := m.1
  obtain ⟨p1, p2, p3, p4, p5, p6, p7, p8, p9, p10, p11, p12, p13, p14, p15, p16, p17, p18⟩ := yN_in (n := n + 1) (k := S.length) (show b < 17 by omega) C.2.2.1 (show s0 + j < 4000 by omega) (by omega) m1 rfl rfl rfl
  have t0 : yo_t i.1 = 0 := by rw [e]; rfl
  rw [yN_go C hj m (by omega) hs (by rw [t0]; exact Nat.zero_le _), t0, Nat.sub_zero]
  have C2 : yD_c b s0 sz (yN_g g (n + 1) S.length) := C
  have st : g_Mo_step R (yN_g g (n + 1) S.length) (nI b) (nI j) (nI base) = some (nI sz, yN_g g (n + 1) S.length) := by
    unfold g_Mo_step
    rw [e] at p15
    rw [if_pos p1, p2, p3, if_pos p4, p5, p6, if_pos p7, p9, if_pos p10, p12, if_pos p13, p15, if_neg (by decide), if_neg (by decide), if_neg (by decide), if_neg (by decide), if_neg (by decide), if_neg (by decide), if_neg (by decide), if_neg (by decide), if_neg (by decide), if_neg (by decide), if_neg (by decide), if_neg (by decide), if_neg (by decide), if_neg (by decide), if_neg (by decide), if_neg (by decide), if_neg (by decide), if_neg (by decide), yV_sz C2, Option.bind_some]
  rw [st]
  rfl
theorem yN_jun {t : Nat} (C : yD_c b s0 sz g) (hj : j < sz) (m : yM_m s0 g (s0 + j) (i, lv)) (e : i.1 = 11) (ea : i.2.1 = nI t) (ht : s0 ≤ t) (hs : yN_s g (c, y :: S1, n)) (hl : S1.length < 1100) : f_Mo_go_L2 (g_Mo_step R) (N + 1) g (nI b) (nI base) (nI j) = f_Mo_go_L2 (g_Mo_step R) N (yN_g g (n + 1) S1.length) (nI b) (nI base) (if y = 0 then nI (t - s0) else nI (j + 1)) := by
  have c1 := C.1
  have c2 := C.2.1
  have m1 : (g.2.1 104) (s0 + j) = nI i.1 := m.1
  have m2 : (g.2.1 105) (s0 + j) = nI (t - s0) := by
    rw [show (g.2.1 105) (s0 + j) = yM_A s0 i from m.2.1]
    unfold yM_A
    rw [if_pos (by omega), ea, zi_sub ht]
  obtain ⟨p1, p2, p3, p4, p5, p6, p7, p8, p9, p10, p11, p12, p13, p14, p15, p16, p17, p18⟩ := yN_in (n := n + 1) (k := S1.length) (show b < 17 by omega) C.2.2.1 (show s0 + j < 4000 by omega) (by omega) m1 m2 rfl rfl
  have t1 : yo_t i.1 = 1 := by rw [e]; rfl
  rw [yN_go C hj m (by omega) hs (by rw [t1, List.length_cons]; omega), t1, show (y :: S1).length - 1 = S1.length from rfl]
  have q6 : ((yN_g g (n + 1) S1.length).2.1 115) S1.length = y := hs.2.2.1.1
  have st : g_Mo_step R (yN_g g (n + 1) S1.length) (nI b) (nI j) (nI base) = some (if y = 0 then nI (t - s0) else nI (j + 1), yN_g g (n + 1) S1.length) := by
    unfold g_Mo_step
    rw [e] at p15
    rw [if_pos p1, p2, p3, if_pos p4, p5, p6, if_pos p7, p9, if_pos p10, p12, if_pos p13, p15, if_neg (by decide), if_neg (by decide), if_neg (by decide), if_neg (by decide), if_neg (by decide), if_neg (by decide), if_neg (by decide), if_neg (by decide), if_neg (by decide), if_neg (by decide), if_neg (by decide), if_pos (by decide), p8, q6, p16, show nI j + 1 = nI (j + 1) from zc_ad 1 j]
    by_cases z : y = 0
    · rw [if_pos z, if_pos z]
    · rw [if_neg z, if_neg z]
  rw [st]
  rfl
theorem yN_jnx {t x : Nat} (C : yD_c b s0 sz g) (hj : j < sz) (m : yM_m s0 g (s0 + j) (i, lv)) (e : i.1 = 13) (ea : i.2.1 = nI t) (eb : i.2.2.1 = nI x) (ht : s0 ≤ t) (hx : base + x < 8192) (hs : yN_s g (c, S, n)) (hl : S.length < 1100) : f_Mo_go_L2 (g_Mo_step R) (N + 1) g (nI b) (nI base) (nI j) = (if c (base + x) = 0 then f_Mo_go_L2 (g_Mo_step R) N (yN_g g (n + 1) S.length) (nI b) (nI base) (nI (t - s0)) else f_Mo_go_L2 (g_Mo_step R) N (zs_uM (yN_g g (n + 1) S.length) 114 (base + x) (c (base + x) - 1)) (nI b) (nI base) (nI (j + 1))) := by
  have c1 := C.1
  have c2 := C.2.1
  have m1 : (g.2.1 104) (s0 + j) = nI i.1 := m.1
  have m2 : (g.2.1 105) (s0 + j) = nI x := by
    rw [show (g.2.1 105) (s0 + j) = yM_A s0 i from m.2.1]
    unfold yM_A
    rw [if_neg (by omega), if_pos e, eb]
  have m3 : (g.2.1 106) (s0 + j) = nI (t - s0) := by
    rw [show (g.2.1 106) (s0 + j) = yM_B s0 i from m.2.2.1]
    unfold yM_B
    rw [if_pos e, ea, zi_sub ht]
  obtain ⟨p1, p2, p3, p4, p5, p6, p7, p8, p9, p10, p11, p12, p13, p14, p15, p16, p17, p18⟩ := yN_in (n := n + 1) (k := S.length) (show b < 17 by omega) C.2.2.1 (show s0 + j < 4000 by omega) (by omega) m1 m2 m3 rfl
  have t0 : yo_t i.1 = 0 := by rw [e]; rfl
  rw [yN_go C hj m (by omega) hs (by rw [t0]; exact Nat.zero_le _), t0, Nat.sub_zero]
  have q : ((yN_g g (n + 1) S.length).2.1 114) (base + x) = c (base + x) := hs.1 _ hx
  have st : g_Mo_step R (yN_g g (n + 1) S.length) (nI b) (nI j) (nI base) = (if c (base + x) = 0 then some (nI (t - s0), yN_g g (n + 1) S.length) else some (nI (j + 1), zs_uM (yN_g g (n + 1) S.length) 114 (base + x) (c (base + x) - 1))) := by
    unfold g_Mo_step
    rw [e] at p15
    rw [if_pos p1, p2, p3, if_pos p4, p5, p6, if_pos p7, p9, if_pos p10, p12, if_pos p13, p15, if_neg (by decide), if_neg (by decide), if_neg (by decide), if_neg (by decide), if_neg (by decide), if_neg (by decide), if_neg (by decide), if_neg (by decide), if_neg (by decide), if_neg (by decide), if_neg (by decide), if_neg (by decide), if_neg (by decide), if_pos (by decide), p16, nI_add, if_pos (zi_in (by omega) hx), nI_clamp (n := base + x) (by omega), q, p17, yN_551]
  rw [st]
  by_cases z : c (base + x) = 0
  · rw [if_pos z, if_pos z]; rfl
  · rw [if_neg z, if_neg z]; rfl
end YNJ
end
