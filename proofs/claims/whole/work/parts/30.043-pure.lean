section
/-! The machine: a run over T on any machine that does single instructions. -/
abbrev yW_J : Type := zs_H → yE × Nat → Prop
abbrev yW_I : Type := zs_H → yE → Nat → Prop
abbrev yW_G : Type := zs_H → Nat → zs_H → Nat → Nat → Prop
abbrev yW_F : Type := zs_H → Nat → Nat → zs_H → Nat → Prop
/-- what a machine does; Kd: the code; I: a state at a place; J: behind a fault; G: it comes from one place to another in so many turns; F: it ends with a fault -/
def yW_M (X Y : Nat → Nat) (kb : Nat → yK) (pl : Nat → Nat) (tm : Nat → Nat → (Nat → Int32) → Nat → Int32) (b base : Nat) (U : Nat → Nat → yE → yE × Nat) (Kd : Nat → yI → Prop) (I : yW_I) (J : yW_J) (G : yW_G) (F : yW_F) (S0 : List Int32) (s0 sE : Nat) : Prop :=
  (∀ h p, G h p h p 0) ∧
  (∀ h p h1 p1 k1 h2 p2 k2, G h p h1 p1 k1 → G h1 p1 h2 p2 k2 → G h p h2 p2 (k1 + k2)) ∧
  (∀ h p h1 p1 k1 o h2 k2, G h p h1 p1 k1 → F h1 p1 o h2 k2 → F h p o h2 (k1 + k2)) ∧
  (∀ h p i t s, I h s p → Kd p i → s0 ≤ p → p < sE → (i.1 = 10 ∨ i.1 = 14) → i.2.1 = nI t → s0 ≤ t → t ≤ sE → s.2.1 = S0 → ∃ h', G h p h' t 1 ∧ I h' (s.1, s.2.1, s.2.2 + 1) t) ∧
  (∀ h p i s, I h s p → Kd p i → s0 ≤ p → p < sE → i.1 = 18 → s.2.1 = S0 → ∃ h', G h p h' sE 1 ∧ I h' (s.1, s.2.1, s.2.2 + 1) sE) ∧
  (∀ h p i t c y n, I h (c, y :: S0, n) p → Kd p i → s0 ≤ p → p < sE → i.1 = 11 → i.2.1 = nI t → s0 ≤ t → t ≤ sE → ∃ h', G h p h' (if y = 0 then t else p + 1) 1 ∧ I h' (c, S0, n + 1) (if y = 0 then t else p + 1)) ∧
  (∀ h p i x N s, I h s p → Kd p i → s0 ≤ p → p < sE → i.1 = 12 → i.2.1 = nI x → i.2.2.1 = nI N → Y b ≤ x ∧ x < X b → s.2.1 = S0 → ∃ h', G h p h' (p + 1) 1 ∧ I h' (yE_u s.1 (base + x) (nI N), s.2.1, s.2.2 + 1) (p + 1)) ∧
  (∀ h p i t x s, I h s p → Kd p i → s0 ≤ p → p < sE → i.1 = 13 → i.2.1 = nI t → i.2.2.1 = nI x → s0 ≤ t → t ≤ sE → Y b ≤ x ∧ x < X b → s.2.1 = S0 → ∃ h', if s.1 (base + x) = 0 then G h p h' t 1 ∧ I h' (s.1, s.2.1, s.2.2 + 1) t else G h p h' (p + 1) 1 ∧ I h' (yE_u s.1 (base + x) (s.1 (base + x) - 1), s.2.1, s.2.2 + 1) (p + 1)) ∧
  (∀ L lo d2 h p s, I h s p → (∀ k i, L[k]? = some i → Kd (p + k) i) → s0 ≤ p → p + L.length ≤ sE → Y b ≤ lo → (∀ i, i ∈ L → yw_i X Y kb b lo i) → yo_h 0 L = some d2 → yH_d 0 L = false → s.2.1 = S0 → ∃ h' k, 2 * s.2.2 + k ≤ 2 * (yE_L pl tm U base L s).1.2.2 ∧ ((yE_L pl tm U base L s).2 = 0 → G h p h' (p + L.length) k ∧ I h' (yE_L pl tm U base L s).1 (p + L.length)) ∧ ((yE_L pl tm U base L s).2 = 3 ∨ (yE_L pl tm U base L s).2 = 4 → F h p (yE_L pl tm U base L s).2 h' k ∧ J h' (yE_L pl tm U base L s)))
def yW_O (I : yW_I) (J : yW_J) (G : yW_G) (F : yW_F) (sE : Nat) (h : zs_H) (n e1 q : Nat) (s : yE) (r : yE × Nat) : Prop := ∃ h' k, 2 * s.2.2 + k ≤ 2 * r.1.2.2 ∧ (r.2 = 0 → G h n h' e1 k ∧ I h' r.1 e1) ∧ (r.2 = 1 → G h n h' q k ∧ I h' r.1 q) ∧ (r.2 = 2 → G h n h' sE k ∧ I h' r.1 sE) ∧ (r.2 = 3 ∨ r.2 = 4 → F h n r.2 h' k ∧ J h' r)
def yW_K (Kd : Nat → yI → Prop) (n : Nat) (L : List yJ) : Prop := ∀ k i, L[k]? = some i → Kd (n + k) i.1
def yW_V (X Y : Nat → Nat) (kb : Nat → yK) (pl : Nat → Nat) (tm : Nat → Nat → (Nat → Int32) → Nat → Int32) (b base : Nat) (U : Nat → Nat → yE → yE × Nat) (Kd : Nat → yI → Prop) (I : yW_I) (J : yW_J) (G : yW_G) (F : yW_F) (S0 : List Int32) (s0 sE : Nat) (T : ys) : Prop := ∀ (m n v q e lo : Nat) (h : zs_H) (s : yE), ((m = 0 ∧ yz_st T) ∨ (m = 1 ∧ yz_br T)) → yz_W X Y kb b T lo → Y b ≤ lo → yW_K Kd n (yz_c T n v q e) → s0 ≤ n → n + yz_l T ≤ sE → (m = 1 → e = n + yz_l T) → (v = 0 → yz_x T n = []) → (0 < v → s0 ≤ q ∧ q ≤ sE) → yH_D T true = false → I h s n → s.2.1 = S0 → yW_O I J G F sE h n (n + yz_l T) q s (yE_T pl tm U base T s) ∧ ((yE_T pl tm U base T s).2 = 0 → yH_r T true = true)
section YWV
variable {X Y : Nat → Nat} {kb : Nat → yK} {pl : Nat → Nat} {tm : Nat → Nat → (Nat → Int32) → Nat → Int32} {U : Nat → Nat → yE → yE × Nat} {B : Nat → Nat} {b base : Nat} {Kd : Nat → yI → Prop} {I : yW_I} {J : yW_J} {G : yW_G} {F : yW_F} {S0 : List Int32} {s0 sE : Nat}
theorem yW_Kl {n : Nat} {L1 L2 : List yJ} (K : yW_K Kd n (L1 ++ L2)) : yW_K Kd n L1 := by
  intro k i e
  refine K k i ?_
  rw [List.getElem?_append_left (by
    rcases Nat.lt_or_ge k L1.length with z | z
    · exact z
    · rw [List.getElem?_eq_none z] at e; cases e)]
  exact e
theorem yW_Kr {n : Nat} {L1 L2 : List yJ} (K : yW_K Kd n (L1 ++ L2)) : yW_K Kd (n + L1.length) L2 := by
  intro k i e
  have := K (L1.length + k) i (by rw [List.getElem?_append_right (Nat.le_add_right _ _), Nat.add_sub_cancel_left]; exact e)
  rwa [← Nat.add_assoc] at this
theorem yW_Kv {n v : Nat} {L : List yI} (K : yW_K Kd n (yv v L)) : ∀ k i, L[k]? = some i → Kd (n + k) i := fun k i e => K k (i, v) (by unfold yv; rw [List.getElem?_map, e]; rfl)
theorem yW_sq {h : zs_H} {n p e1 q : Nat} {s : yE} {r r2 : yE × Nat} (M : yW_M X Y kb pl tm b base U Kd I J G F S0 s0 sE) (O1 : yW_O I J G F sE h n p q s r) (h2 : r.2 = 0 → ∀ h', I h' r.1 p → yW_O I J G F sE h' p e1 q r.1 r2) : yW_O I J G F sE h n e1 q s (if r.2 = 0 then r2 else r) := by
  obtain ⟨h', k, a1, a2, a3, a4, a5⟩ := O1
  by_cases z : r.2 = 0
  · rw [if_pos z]
    obtain ⟨g1, i1⟩ := a2 z
    obtain ⟨h2', k2, b1, b2, b3, b4, b5⟩ := h2 z h' i1
    exact ⟨h2', k + k2, by omega, fun w => ⟨M.2.1 _ _ _ _ _ _ _ _ g1 (b2 w).1, (b2 w).2⟩, fun w => ⟨M.2.1 _ _ _ _ _ _ _ _ g1 (b3 w).1, (b3 w).2⟩, fun w => ⟨M.2.1 _ _ _ _ _ _ _ _ g1 (b4 w).1, (b4 w).2⟩, fun w => ⟨M.2.2.1 _ _ _ _ _ _ _ _ g1 (b5 w).1, (b5 w).2⟩⟩
  · rw [if_neg z]
    exact ⟨h', k, a1, fun w => absurd w z, a3, a4, a5⟩
theorem yW_pr {h h1 : zs_H} {n p e1 q k1 : Nat} {s s1 : yE} {r : yE × Nat} (M : yW_M X Y kb pl tm b base U Kd I J G F S0 s0 sE) (g1 : G h n h1 p k1) (hk : 2 * s.2.2 + k1 ≤ 2 * s1.2.2) (O1 : yW_O I J G F sE h1 p e1 q s1 r) : yW_O I J G F sE h n e1 q s r := by
  obtain ⟨h2', k2, b1, b2, b3, b4, b5⟩ := O1
  exact ⟨h2', k1 + k2, by omega, fun w => ⟨M.2.1 _ _ _ _ _ _ _ _ g1 (b2 w).1, (b2 w).2⟩, fun w => ⟨M.2.1 _ _ _ _ _ _ _ _ g1 (b3 w).1, (b3 w).2⟩, fun w => ⟨M.2.1 _ _ _ _ _ _ _ _ g1 (b4 w).1, (b4 w).2⟩, fun w => ⟨M.2.2.1 _ _ _ _ _ _ _ _ g1 (b5 w).1, (b5 w).2⟩⟩
theorem yW_0 {h : zs_H} {n q : Nat} {s : yE} (M : yW_M X Y kb pl tm b base U Kd I J G F S0 s0 sE) (i : I h s n) : yW_O I J G F sE h n n q s (s, 0) := ⟨h, 0, Nat.le_refl _, fun _ => ⟨M.1 _ _, i⟩, fun z => absurd z (show ¬ (0 : Nat) = 1 by decide), fun z => absurd z (show ¬ (0 : Nat) = 2 by decide), fun z => absurd z (show ¬ ((0 : Nat) = 3 ∨ (0 : Nat) = 4) by decide)⟩
theorem yW_L {h : zs_H} {n q lo d2 : Nat} {s : yE} {L : List yI} (H : yG_h X Y kb pl tm B b base U) (M : yW_M X Y kb pl tm b base U Kd I J G F S0 s0 sE) (i : I h s n) (K : ∀ k i, L[k]? = some i → Kd (n + k) i) (h1 : s0 ≤ n) (h2 : n + L.length ≤ sE) (hY : Y b ≤ lo) (W : ∀ i, i ∈ L → yw_i X Y kb b lo i) (e : yo_h 0 L = some d2) (hd : yH_d 0 L = false) (es : s.2.1 = S0) : yW_O I J G F sE h n (n + L.length) q s (yE_L pl tm U base L s) := by
  obtain ⟨h', k, a1, a2, a3⟩ := M.2.2.2.2.2.2.2.2 L lo d2 h n s i K h1 h2 hY W e hd es
  obtain ⟨o1, _, _, _⟩ := yG_Ls (c := (some 1, none, none)) H W e (yF_nM (x := 1) (.inl rfl)) s
  exact ⟨h', k, a1, a2, fun z => by omega, fun z => by omega, a3⟩
/-- what is left on the stack -/
theorem yW_S (H : yG_h X Y kb pl tm B b base U) {T : ys} {m lo : Nat} {s : yE} (hm : (m = 0 ∧ yz_st T) ∨ (m = 1 ∧ yz_br T)) (W : yz_W X Y kb b T lo) (hY : Y b ≤ lo) : (yE_T pl tm U base T s).2 ≤ 2 → (yE_T pl tm U base T s).1.2.1 = s.2.1 := (yG_T H T m lo (some 1, none, none) (some 1, none, none) s hm W hY (fun _ => rfl) (yF_nM (x := 1) (.inl rfl))).1.2.1
theorem yW_4 (H : yG_h X Y kb pl tm B b base U) {T : ys} {m lo : Nat} {s : yE} (hm : (m = 0 ∧ yz_st T) ∨ (m = 1 ∧ yz_br T)) (W : yz_W X Y kb b T lo) (hY : Y b ≤ lo) : (yE_T pl tm U base T s).2 ≤ 4 := (yG_T H T m lo (some 1, none, none) (some 1, none, none) s hm W hY (fun _ => rfl) (yF_nM (x := 1) (.inl rfl))).1.1
variable {p : List yI × Int32 × Int32} {o : Unit} {l r : ys}
/-- rounds of a loop -/
theorem yW_lp {body : yE → yE × Nat} {cc n len qo : Nat} (M : yW_M X Y kb pl tm b base U Kd I J G F S0 s0 sE) (h1 : s0 ≤ n) (h2 : n + (3 + len) ≤ sE) (hx : Y b ≤ cc ∧ cc < X b) {i13 i14 : yI} (e13 : i13 = (13, nI (n + (3 + len)), nI cc, 0)) (e14 : i14 = (14, nI (n + 1), 0, 0)) (K13 : Kd (n + 1) i13) (K14 : Kd (n + 2 + len) i14) (Hb : ∀ h s, I h s (n + 2) → s.2.1 = S0 → yW_O I J G F sE h (n + 2) (n + 2 + len) (n + (3 + len)) s (body s)) (Hc : ∀ s, (body s).1.1 (base + cc) = s.1 (base + cc)) (Hs : ∀ s, (body s).2 ≤ 2 → (body s).1.2.1 = s.2.1) (H4 : ∀ s, (body s).2 ≤ 4) : ∀ (m f : Nat) (s : yE) (h : zs_H), s.1 (base + cc) = nI m → m < f → m ≤ 1000000 → I h s (n + 1) → s.2.1 = S0 → yW_O I J G F sE h (n + 1) (n + (3 + len)) qo s (yE_l body (base + cc) f s) ∧ ((yE_l body (base + cc) f s).2 = 0 → (yE_l body (base + cc) f s).1.2.1 = S0) := by
  intro m
  induction m with
  | zero =>
    intro f s h e hf _ hi es
    obtain ⟨f, rfl⟩ : ∃ z, f = z + 1 := ⟨f - 1, by omega⟩
    have ez : s.1 (base + cc) = 0 := by rw [e]; rfl
    obtain ⟨h', a⟩ := M.2.2.2.2.2.2.2.1 h (n + 1) i13 (n + (3 + len)) cc s hi K13 (by omega) (by omega) (by rw [e13]) (by rw [e13]) (by rw [e13]) (by omega) h2 hx es
    rw [if_pos ez] at a
    rw [yE_l, if_pos ez]
    exact ⟨yW_pr M a.1 (s1 := (s.1, s.2.1, s.2.2 + 1)) (by show _ ≤ 2 * (s.2.2 + 1); omega) (yW_0 M a.2), fun _ => es⟩
  | succ m ih =>
    intro f s h e hf hm hi es
    obtain ⟨f, rfl⟩ : ∃ z, f = z + 1 := ⟨f - 1, by omega⟩
    have nz : ¬ s.1 (base + cc) = 0 := by rw [e]; exact mt (zc_eq (k := 0) (by decide) (by omega)).mp (by omega)
    have e1 : s.1 (base + cc) - 1 = nI m := by rw [e]; exact zi_sub (a := m + 1) (b := 1) (by omega)
    obtain ⟨h', a⟩ := M.2.2.2.2.2.2.2.1 h (n + 1) i13 (n + (3 + len)) cc s hi K13 (by omega) (by omega) (by rw [e13]) (by rw [e13]) (by rw [e13]) (by omega) h2 hx es
    rw [if_neg nz, e1] at a
    rw [yE_l, if_neg nz, e1]
    have Ob := Hb h' (yE_u s.1 (base + cc) (nI m), s.2.1, s.2.2 + 1) a.2 es
    have cl : (body (yE_u s.1 (base + cc) (nI m), s.2.1, s.2.2 + 1)).1.1 (base + cc) = nI m := (Hc _).trans (if_pos rfl)
    have sl : (body (yE_u s.1 (base + cc) (nI m), s.2.1, s.2.2 + 1)).2 ≤ 2 → (body (yE_u s.1 (base + cc) (nI m), s.2.1, s.2.2 + 1)).1.2.1 = S0 := fun z => (Hs _ z).trans es
    have l4 := H4 (yE_u s.1 (base + cc) (nI m), s.2.1, s.2.2 + 1)
    generalize body (yE_u s.1 (base + cc) (nI m), s.2.1, s.2.2 + 1) = w at Ob cl sl l4
    obtain ⟨h2', k, b1, b2, b3, b4, b5⟩ := Ob
    have b1' : 2 * (s.2.2 + 1) + k ≤ 2 * w.1.2.2 := b1
    by_cases z0 : w.2 = 0
    · rw [if_pos z0]
      obtain ⟨g2, i2⟩ := b2 z0
      obtain ⟨h3, g3, i3⟩ := M.2.2.2.1 h2' (n + 2 + len) i14 (n + 1) w.1 i2 K14 (by omega) (by omega) (.inr (by rw [e14])) (by rw [e14]) (by omega) (by omega) (sl (by omega))
      obtain ⟨O4, s4⟩ := ih f (w.1.1, w.1.2.1, w.1.2.2 + 1) h3 cl (by omega) (by omega) i3 (sl (by omega))
      refine ⟨?_, s4⟩
      refine yW_pr M a.1 (s1 := (yE_u s.1 (base + cc) (nI m), s.2.1, s.2.2 + 1)) (by show _ ≤ 2 * (s.2.2 + 1); omega) ?_
      refine yW_pr M g2 (s1 := w.1) b1 ?_
      exact yW_pr M g3 (s1 := (w.1.1, w.1.2.1, w.1.2.2 + 1)) (by show _ ≤ 2 * (w.1.2.2 + 1); omega) O4
    · rw [if_neg z0]
      by_cases z1 : w.2 = 1
      · rw [if_pos z1]
        obtain ⟨g2, i2⟩ := b3 z1
        refine ⟨?_, fun _ => sl (by omega)⟩
        refine yW_pr M a.1 (s1 := (yE_u s.1 (base + cc) (nI m), s.2.1, s.2.2 + 1)) (by show _ ≤ 2 * (s.2.2 + 1); omega) ?_
        exact yW_pr M g2 (s1 := w.1) b1 (yW_0 M i2)
      · rw [if_neg z1]
        refine ⟨?_, fun z => absurd z z0⟩
        refine yW_pr M a.1 (s1 := (yE_u s.1 (base + cc) (nI m), s.2.1, s.2.2 + 1)) (by show _ ≤ 2 * (s.2.2 + 1); omega) ?_
        exact ⟨h2', k, b1, fun z => absurd z z0, fun z => absurd z z1, b4, b5⟩
end YWV
end
section
/-! The machine: a run over T on any machine, by kinds. -/
section YWT
variable {X Y : Nat → Nat} {kb : Nat → yK} {pl : Nat → Nat} {tm : Nat → Nat → (Nat → Int32) → Nat → Int32} {U : Nat → Nat → yE → yE × Nat} {B : Nat → Nat} {b base : Nat} {Kd : Nat → yI → Prop} {I : yW_I} {J : yW_J} {G : yW_G} {F : yW_F} {S0 : List Int32} {s0 sE : Nat} {p : List yI × Int32 × Int32} {o : Unit} {l r : ys}
theorem yW_V0 {k : Nat} (k0 : k = 0) (H : yG_h X Y kb pl tm B b base U) (M : yW_M X Y kb pl tm b base U Kd I J G F S0 s0 sE) (ihr : yW_V X Y kb pl tm b base U Kd I J G F S0 s0 sE r) : yW_V X Y kb pl tm b base U Kd I J G F S0 s0 sE (.inner k p o l r) := by
  subst k0
  intro m n v q e lo h s hm ⟨W1, W2⟩ hY K h1 h2 he hx hq hd hi es
  have hr : ((m = 0 ∧ yz_st r) ∨ (m = 1 ∧ yz_br r)) := hm.elim (fun z => .inl ⟨z.1, z.2.2⟩) (fun z => .inr ⟨z.1, z.2.2⟩)
  rw [if_pos rfl] at W1
  have hl : yz_l (.inner 0 p o l r) = p.1.length + yz_l r := rfl
  rw [hl] at h2 he ⊢
  have K' : yW_K Kd n (yv v p.1 ++ yz_c r (n + p.1.length) v q e) := K
  have hd' : ((true && yH_d 0 p.1) || yH_D r true) = false := hd
  rw [Bool.true_and, Bool.or_eq_false_iff] at hd'
  have Kr := yW_Kr K'
  rw [yv_len] at Kr
  have O1 := yW_L (q := q) H M hi (yW_Kv (yW_Kl K')) h1 (by omega) hY W1.2 W1.1 hd'.1 es
  obtain ⟨_, st, _, _⟩ := yG_Ls (c := (some 1, none, none)) H W1.2 W1.1 (yF_nM (x := 1) (.inl rfl)) s
  have st' : (yE_L pl tm U base p.1 s).2 = 0 → (yE_L pl tm U base p.1 s).1.2.1 = S0 := fun z => by
    obtain ⟨A', q1, q2⟩ := st z
    rw [q1, List.eq_nil_of_length_eq_zero q2]; exact es
  have go := fun h' i' z => ihr m (n + p.1.length) v q e lo h' (yE_L pl tm U base p.1 s).1 hr W2 hY Kr (by omega) (by omega) (fun z => by have := he z; omega) hx hq hd'.2 i' (st' z)
  rw [← Nat.add_assoc]
  have e0 : yE_T pl tm U base (.inner 0 p o l r) s = if (yE_L pl tm U base p.1 s).2 = 0 then yE_T pl tm U base r (yE_L pl tm U base p.1 s).1 else yE_L pl tm U base p.1 s := rfl
  rw [e0]
  refine ⟨yW_sq M O1 (fun z h' i' => (go h' i' z).1), fun z => ?_⟩
  by_cases z0 : (yE_L pl tm U base p.1 s).2 = 0
  · rw [if_pos z0] at z
    obtain ⟨h', _, _, a2, _⟩ := O1
    exact (go h' (a2 z0).2 z0).2 z
  · rw [if_neg z0] at z; exact absurd z z0
theorem yW_V16 {k : Nat} (k16 : k = 1 ∨ k = 6) (H : yG_h X Y kb pl tm B b base U) (M : yW_M X Y kb pl tm b base U Kd I J G F S0 s0 sE) (ihl : yW_V X Y kb pl tm b base U Kd I J G F S0 s0 sE l) (ihr : yW_V X Y kb pl tm b base U Kd I J G F S0 s0 sE r) : yW_V X Y kb pl tm b base U Kd I J G F S0 s0 sE (.inner k p o l r) := by
  intro m n v q e lo h s hm ⟨W1, W2⟩ hY K h1 h2 he hx hq hd hi es
  have hr : ((m = 0 ∧ yz_st r) ∨ (m = 1 ∧ yz_br r)) := hm.elim (fun z => .inl ⟨z.1, z.2.2⟩) (fun z => .inr ⟨z.1, z.2.2⟩)
  rw [if_neg (show ¬ k = 0 by omega), if_neg (show ¬ k = 2 by omega), if_neg (show ¬ k = 5 by omega)] at W1
  have hl : yz_l (.inner k p o l r) = yz_l l + yz_l r := by
    rcases k16 with rfl | rfl <;> rfl
  rw [hl] at h2 he ⊢
  have hd' : (yH_D l true || yH_D r (yH_r l true)) = false := by
    rcases k16 with rfl | rfl <;> exact hd
  rw [Bool.or_eq_false_iff] at hd'
  obtain ⟨m', e', hm', W', K', he'⟩ : ∃ m' e', ((m' = 0 ∧ yz_st l) ∨ (m' = 1 ∧ yz_br l)) ∧ yz_W X Y kb b l lo ∧ yW_K Kd n (yz_c l n v q e' ++ yz_c r (n + yz_l l) v q e) ∧ (m' = 1 → e' = n + yz_l l) := by
    rcases k16 with rfl | rfl
    · exact ⟨1, n + yz_l l, .inr ⟨rfl, W1.1⟩, W1.2, K, fun _ => rfl⟩
    · exact ⟨0, 0, .inl ⟨rfl, W1.1⟩, W1.2, K, fun z => absurd z (by decide)⟩
  have hx' : v = 0 → yz_x r (n + yz_l l) = [] ∧ yz_x l n = [] := fun z => by
    have := hx z
    rw [show yz_x (.inner k p o l r) n = yz_x r (n + yz_l l) ++ yz_x l n by rcases k16 with rfl | rfl <;> rfl] at this
    exact List.append_eq_nil_iff.mp this
  have Kr := yW_Kr K'
  rw [yz_len] at Kr
  obtain ⟨O1, r1⟩ := ihl m' n v q e' lo h s hm' W' hY (yW_Kl K') h1 (by omega) he' (fun z => (hx' z).2) hq hd'.1 hi es
  have st' : (yE_T pl tm U base l s).2 = 0 → (yE_T pl tm U base l s).1.2.1 = S0 := fun z => (yW_S H hm' W' hY (by omega)).trans es
  have go := fun h' i' z => ihr m (n + yz_l l) v q e lo h' (yE_T pl tm U base l s).1 hr W2 hY Kr (by omega) (by omega) (fun z => by have := he z; omega) (fun z => (hx' z).1) hq (by have := hd'.2; rw [r1 z] at this; exact this) i' (st' z)
  rw [← Nat.add_assoc]
  have e0 : yE_T pl tm U base (.inner k p o l r) s = if (yE_T pl tm U base l s).2 = 0 then yE_T pl tm U base r (yE_T pl tm U base l s).1 else yE_T pl tm U base l s := by
    rcases k16 with rfl | rfl <;> rfl
  rw [e0, show yH_r (.inner k p o l r) true = yH_r r (yH_r l true) by rcases k16 with rfl | rfl <;> rfl]
  refine ⟨yW_sq M O1 (fun z h' i' => (go h' i' z).1), fun z => ?_⟩
  by_cases z0 : (yE_T pl tm U base l s).2 = 0
  · rw [if_pos z0] at z
    obtain ⟨h', _, _, a2, _⟩ := O1
    rw [r1 z0]
    exact (go h' (a2 z0).2 z0).2 z
  · rw [if_neg z0] at z; exact absurd z z0
theorem yW_V3 {k : Nat} (k3 : k = 3) (M : yW_M X Y kb pl tm b base U Kd I J G F S0 s0 sE) : yW_V X Y kb pl tm b base U Kd I J G F S0 s0 sE (.inner k p o l r) := by
  subst k3
  intro m n v q e lo h s hm ⟨W1, W2⟩ hY K h1 h2 he hx hq hd hi es
  have hl : yz_l (.inner 3 p o l r) = 1 + yz_l r := rfl
  rw [hl] at h2
  have K' : yW_K Kd n ([((10, nI q, 0, 0), v)] ++ yz_c r (n + 1) v q e) := K
  have v0 : 0 < v := by
    rcases Nat.eq_zero_or_pos v with z | z
    · have := hx z
      rw [show yz_x (.inner 3 p o l r) n = yz_x r (n + 1) ++ [n] from rfl] at this
      exact absurd (List.append_eq_nil_iff.mp this).2 (by intro q; cases q)
    · exact z
  obtain ⟨h', g1, i1⟩ := M.2.2.2.1 h n (10, nI q, 0, 0) q s hi (yW_Kl K' 0 _ rfl) h1 (by omega) (.inl rfl) rfl (hq v0).1 (hq v0).2 es
  refine ⟨⟨h', 1, by show 2 * s.2.2 + 1 ≤ 2 * (s.2.2 + 1); omega, fun z => absurd z (show ¬ (1 : Nat) = 0 by decide), fun _ => ⟨g1, i1⟩, fun z => absurd z (show ¬ (1 : Nat) = 2 by decide), fun z => absurd z (show ¬ ((1 : Nat) = 3 ∨ (1 : Nat) = 4) by decide)⟩, fun z => absurd z (show ¬ (1 : Nat) = 0 by decide)⟩
theorem yW_V4 {k : Nat} (k4 : k = 4) (M : yW_M X Y kb pl tm b base U Kd I J G F S0 s0 sE) : yW_V X Y kb pl tm b base U Kd I J G F S0 s0 sE (.inner k p o l r) := by
  subst k4
  intro m n v q e lo h s hm ⟨W1, W2⟩ hY K h1 h2 he hx hq hd hi es
  have hl : yz_l (.inner 4 p o l r) = 1 + yz_l r := rfl
  rw [hl] at h2
  have K' : yW_K Kd n ([((18, 0, 0, 0), v)] ++ yz_c r (n + 1) v q e) := K
  obtain ⟨h', g1, i1⟩ := M.2.2.2.2.1 h n (18, 0, 0, 0) s hi (yW_Kl K' 0 _ rfl) h1 (by omega) rfl es
  refine ⟨⟨h', 1, by show 2 * s.2.2 + 1 ≤ 2 * (s.2.2 + 1); omega, fun z => absurd z (show ¬ (2 : Nat) = 0 by decide), fun z => absurd z (show ¬ (2 : Nat) = 1 by decide), fun _ => ⟨g1, i1⟩, fun z => absurd z (show ¬ ((2 : Nat) = 3 ∨ (2 : Nat) = 4) by decide)⟩, fun z => absurd z (show ¬ (2 : Nat) = 0 by decide)⟩
theorem yW_V2 {k : Nat} (k2 : k = 2) (H : yG_h X Y kb pl tm B b base U) (M : yW_M X Y kb pl tm b base U Kd I J G F S0 s0 sE) (ihl : yW_V X Y kb pl tm b base U Kd I J G F S0 s0 sE l) (ihr : yW_V X Y kb pl tm b base U Kd I J G F S0 s0 sE r) : yW_V X Y kb pl tm b base U Kd I J G F S0 s0 sE (.inner k p o l r) := by
  subst k2
  intro m n v q e lo h s hm ⟨W1, W2⟩ hY K h1 h2 he hx hq hd hi es
  have hr : ((m = 0 ∧ yz_st r) ∨ (m = 1 ∧ yz_br r)) := hm.elim (fun z => .inl ⟨z.1, z.2.2⟩) (fun z => .inr ⟨z.1, z.2.2⟩)
  rw [if_neg (by decide), if_pos rfl] at W1
  obtain ⟨cc, N, w1, w2, w3, w4, w5, w6, w7⟩ := W1
  have hl : yz_l (.inner 2 p o l r) = 3 + yz_l l + yz_l r := rfl
  rw [hl] at h2 he ⊢
  have hd' : (yH_D l true || yH_D r true) = false := hd
  rw [Bool.or_eq_false_iff] at hd'
  have K' : yW_K Kd n ([((12, p.2.1, p.2.2, 0), v)] ++ ([((13, nI (n + (3 + yz_l l)), p.2.1, 0), v)] ++ (yz_c l (n + 2) (v + 1) (n + (3 + yz_l l)) 0 ++ ([((14, nI (n + 1), 0, 0), v + 1)] ++ yz_c r (n + (3 + yz_l l)) v q e)))) := K
  have K1 : yW_K Kd (n + 1) ([((13, nI (n + (3 + yz_l l)), p.2.1, 0), v)] ++ (yz_c l (n + 2) (v + 1) (n + (3 + yz_l l)) 0 ++ ([((14, nI (n + 1), 0, 0), v + 1)] ++ yz_c r (n + (3 + yz_l l)) v q e))) := yW_Kr K'
  have K2 : yW_K Kd (n + 2) (yz_c l (n + 2) (v + 1) (n + (3 + yz_l l)) 0 ++ ([((14, nI (n + 1), 0, 0), v + 1)] ++ yz_c r (n + (3 + yz_l l)) v q e)) := yW_Kr K1
  have K3 := yW_Kr K2
  rw [yz_len] at K3
  have K4 : yW_K Kd (n + (3 + yz_l l)) (yz_c r (n + (3 + yz_l l)) v q e) := by
    have this : yW_K Kd (n + 2 + yz_l l + 1) (yz_c r (n + (3 + yz_l l)) v q e) := yW_Kr K3
    rw [show n + 2 + yz_l l + 1 = n + (3 + yz_l l) by omega] at this
    exact this
  have xb := H.2.1.2 b (Nat.le_refl _)
  obtain ⟨h', g1, i1⟩ := M.2.2.2.2.2.2.1 h n (12, p.2.1, p.2.2, 0) cc N s hi (yW_Kl K' 0 _ rfl) h1 (by omega) rfl w1 w2 ⟨by omega, w4⟩ es
  have nal : ¬ yE_al X Y kb pl b base (cc + 1) (base + cc) := fun z => by
    rcases z with z | z | ⟨u, u1, u2, u3⟩
    · omega
    · omega
    · rcases H.2.2.2.2.2.2 u u1 u2 with z | z
      · omega
      · omega
  obtain ⟨O2, s2⟩ := yW_lp (body := yE_T pl tm U base l) (cc := cc) (n := n) (len := yz_l l) (qo := q) M h1 (by omega) ⟨by omega, w4⟩ (i13 := (13, nI (n + (3 + yz_l l)), p.2.1, 0)) (i14 := (14, nI (n + 1), 0, 0)) (by rw [w1]) rfl (yW_Kl K1 0 _ rfl) (yW_Kl K3 0 _ rfl) (fun h s i' es' => (ihl 0 (n + 2) (v + 1) (n + (3 + yz_l l)) 0 (cc + 1) h s (.inl ⟨rfl, w6⟩) w7 (by omega) (yW_Kl K2) (by omega) (by omega) (fun z => absurd z (by decide)) (fun z => by omega) (fun _ => ⟨by omega, by omega⟩) hd'.1 i' es').1) (fun s => yE_Tw H.1 H.2.1 H.2.2.2.1 H.2.2.2.2.1 l (cc + 1) s (base + cc) w7 nal) (fun s => yW_S H (.inl ⟨rfl, w6⟩) w7 (by omega)) (fun s => yW_4 H (.inl ⟨rfl, w6⟩) w7 (by omega)) N (N + 1) (yE_u s.1 (base + cc) (nI N), s.2.1, s.2.2 + 1) h' (if_pos rfl) (by omega) w5 i1 es
  have O1 := yW_pr M g1 (s := s) (s1 := (yE_u s.1 (base + cc) (nI N), s.2.1, s.2.2 + 1)) (by show _ ≤ 2 * (s.2.2 + 1); omega) O2
  have e0 : yE_T pl tm U base (.inner 2 p o l r) s = if (yE_l (yE_T pl tm U base l) (base + cc) (N + 1) (yE_u s.1 (base + cc) (nI N), s.2.1, s.2.2 + 1)).2 = 0 then yE_T pl tm U base r (yE_l (yE_T pl tm U base l) (base + cc) (N + 1) (yE_u s.1 (base + cc) (nI N), s.2.1, s.2.2 + 1)).1 else yE_l (yE_T pl tm U base l) (base + cc) (N + 1) (yE_u s.1 (base + cc) (nI N), s.2.1, s.2.2 + 1) := by
    show (if (yE_l (yE_T pl tm U base l) (base + p.2.1.toNatClampNeg) (p.2.2.toNatClampNeg + 1) (yE_u s.1 (base + p.2.1.toNatClampNeg) p.2.2, s.2.1, s.2.2 + 1)).2 = 0 then yE_T pl tm U base r (yE_l (yE_T pl tm U base l) (base + p.2.1.toNatClampNeg) (p.2.2.toNatClampNeg + 1) (yE_u s.1 (base + p.2.1.toNatClampNeg) p.2.2, s.2.1, s.2.2 + 1)).1 else yE_l (yE_T pl tm U base l) (base + p.2.1.toNatClampNeg) (p.2.2.toNatClampNeg + 1) (yE_u s.1 (base + p.2.1.toNatClampNeg) p.2.2, s.2.1, s.2.2 + 1)) = _
    rw [w1, w2, nI_clamp (show cc < 2147483648 by omega), nI_clamp (show N < 2147483648 by omega)]
  rw [e0]
  generalize yE_l (yE_T pl tm U base l) (base + cc) (N + 1) (yE_u s.1 (base + cc) (nI N), s.2.1, s.2.2 + 1) = w at O1 s2
  have go := fun h' i' z => ihr m (n + (3 + yz_l l)) v q e lo h' w.1 hr W2 hY K4 (by omega) (by omega) (fun z => by have := he z; omega) hx hq hd'.2 i' (s2 z)
  rw [show n + (3 + yz_l l + yz_l r) = n + (3 + yz_l l) + yz_l r by omega]
  refine ⟨yW_sq M O1 (fun z h' i' => (go h' i' z).1), fun z => ?_⟩
  by_cases z0 : w.2 = 0
  · rw [if_pos z0] at z
    obtain ⟨h', _, _, a2, _⟩ := O1
    exact (go h' (a2 z0).2 z0).2 z
  · rw [if_neg z0] at z; exact absurd z z0
theorem yW_V5 {k : Nat} (k5 : k = 5) (H : yG_h X Y kb pl tm B b base U) (M : yW_M X Y kb pl tm b base U Kd I J G F S0 s0 sE) (ihl : yW_V X Y kb pl tm b base U Kd I J G F S0 s0 sE l) (ihr : yW_V X Y kb pl tm b base U Kd I J G F S0 s0 sE r) : yW_V X Y kb pl tm b base U Kd I J G F S0 s0 sE (.inner k p o l r) := by
  subst k5
  intro m n v q e lo h s hm ⟨W1, W2⟩ hY K h1 h2 he hx hq hd hi es
  have m1 : m = 1 := by
    rcases hm with ⟨_, z, _⟩ | ⟨z1, _⟩
    · omega
    · exact z1
  have hr : ((m = 0 ∧ yz_st r) ∨ (m = 1 ∧ yz_br r)) := hm.elim (fun z => .inl ⟨z.1, z.2.2⟩) (fun z => .inr ⟨z.1, z.2.2⟩)
  rw [if_neg (by decide), if_neg (by decide), if_pos rfl] at W1
  obtain ⟨w, hw⟩ : ∃ w, w = if yz_f r = true then 0 else 1 := ⟨_, rfl⟩
  have hl : yz_l (.inner 5 p o l r) = p.1.length + 1 + yz_l l + w + yz_l r := by rw [hw]; rfl
  rw [hl] at h2 he ⊢
  have hd' : ((true && yH_d 0 p.1) || (yH_D l true || yH_D r true)) = false := hd
  rw [Bool.true_and, Bool.or_eq_false_iff, Bool.or_eq_false_iff] at hd'
  have K' : yW_K Kd n (yv v p.1 ++ ([((11, nI (n + (p.1.length + 1 + yz_l l + w)), 0, 0), v)] ++ (yz_c l (n + p.1.length + 1) v q 0 ++ ((if yz_f r = true then [] else [((10, nI e, 0, 0), v)]) ++ yz_c r (n + (p.1.length + 1 + yz_l l + w)) v q e)))) := by rw [hw]; exact K
  have K1 := yW_Kr K'
  rw [yv_len] at K1
  have K2 : yW_K Kd (n + p.1.length + 1) (yz_c l (n + p.1.length + 1) v q 0 ++ ((if yz_f r = true then [] else [((10, nI e, 0, 0), v)]) ++ yz_c r (n + (p.1.length + 1 + yz_l l + w)) v q e)) := yW_Kr K1
  have K3 := yW_Kr K2
  rw [yz_len] at K3
  have K4 := yW_Kr K3
  rw [show (if yz_f r = true then ([] : List yJ) else [((10, nI e, 0, 0), v)]).length = w by rw [hw]; split <;> rfl, show n + p.1.length + 1 + yz_l l + w = n + (p.1.length + 1 + yz_l l + w) by omega] at K4
  have hx' : v = 0 → yz_x r (n + (p.1.length + 1 + yz_l l + w)) = [] ∧ yz_x l (n + p.1.length + 1) = [] := fun z => by
    have := hx z
    rw [show yz_x (.inner 5 p o l r) n = yz_x r (n + (p.1.length + 1 + yz_l l + (if yz_f r = true then 0 else 1))) ++ yz_x l (n + p.1.length + 1) from rfl, ← hw] at this
    exact List.append_eq_nil_iff.mp this
  have O1 := yW_L (q := q) (lo := lo) H M hi (yW_Kv (yW_Kl K')) h1 (by omega) hY (fun i hi => .inl (W1.2.1 i hi)) W1.1 hd'.1 es
  obtain ⟨_, st, _, _⟩ := yG_Ls (c := (some 1, none, none)) (lo := lo) H (fun i hi => .inl (W1.2.1 i hi)) W1.1 (yF_nM (x := 1) (.inl rfl)) s
  have e0 : yE_T pl tm U base (.inner 5 p o l r) s = if (yE_L pl tm U base p.1 s).2 = 0 then (match (yE_L pl tm U base p.1 s).1.2.1 with
      | y :: S => if y = 0 then yE_T pl tm U base r ((yE_L pl tm U base p.1 s).1.1, S, (yE_L pl tm U base p.1 s).1.2.2 + 1) else (if (yE_T pl tm U base l ((yE_L pl tm U base p.1 s).1.1, S, (yE_L pl tm U base p.1 s).1.2.2 + 1)).2 = 0 then (if yz_f r = true then yE_T pl tm U base l ((yE_L pl tm U base p.1 s).1.1, S, (yE_L pl tm U base p.1 s).1.2.2 + 1) else (((yE_T pl tm U base l ((yE_L pl tm U base p.1 s).1.1, S, (yE_L pl tm U base p.1 s).1.2.2 + 1)).1.1, (yE_T pl tm U base l ((yE_L pl tm U base p.1 s).1.1, S, (yE_L pl tm U base p.1 s).1.2.2 + 1)).1.2.1, (yE_T pl tm U base l ((yE_L pl tm U base p.1 s).1.1, S, (yE_L pl tm U base p.1 s).1.2.2 + 1)).1.2.2 + 1), 0)) else yE_T pl tm U base l ((yE_L pl tm U base p.1 s).1.1, S, (yE_L pl tm U base p.1 s).1.2.2 + 1))
      | [] => (s, 5)) else yE_L pl tm U base p.1 s := rfl
  rw [e0, show yH_r (.inner 5 p o l r) true = (yH_r l true || yH_r r true) from rfl]
  generalize yE_L pl tm U base p.1 s = w0 at O1 st
  obtain ⟨h', k, a1, a2, a3, a4, a5⟩ := O1
  by_cases z : w0.2 = 0
  · rw [if_pos z]
    obtain ⟨A', q1, q2⟩ := st z
    obtain ⟨y, rfl⟩ : ∃ y, A' = [y] := by
      cases A' with
      | nil => cases q2
      | cons y A' =>
        have : A'.length + 1 = 1 := q2
        exact ⟨y, by rw [List.eq_nil_of_length_eq_zero (show A'.length = 0 by omega)]⟩
    have q1' : w0.1.2.1 = y :: S0 := by rw [q1, es]; rfl
    rw [q1']
    obtain ⟨g1, i1⟩ := a2 z
    have ew : w0.1 = (w0.1.1, y :: S0, w0.1.2.2) := by rw [← q1']
    rw [ew] at i1
    obtain ⟨h2', g2, i2⟩ := M.2.2.2.2.2.1 h' (n + p.1.length) (11, nI (n + (p.1.length + 1 + yz_l l + w)), 0, 0) (n + (p.1.length + 1 + yz_l l + w)) w0.1.1 y w0.1.2.2 i1 (yW_Kl K1 0 _ rfl) (by omega) (by omega) rfl rfl (by omega) (by omega)
    have gg := M.2.1 _ _ _ _ _ _ _ _ g1 g2
    show yW_O I J G F sE h n _ q s (if y = 0 then _ else _) ∧ ((if y = 0 then _ else _ : yE × Nat).2 = 0 → _)
    by_cases zy : y = 0
    · rw [if_pos zy]
      rw [if_pos zy] at gg i2
      obtain ⟨O2, r2⟩ := ihr m (n + (p.1.length + 1 + yz_l l + w)) v q e lo h2' (w0.1.1, S0, w0.1.2.2 + 1) hr W2 hY K4 (by omega) (by omega) (fun z => by have := he z; omega) (fun z => (hx' z).1) hq hd'.2.2 i2 rfl
      rw [show n + (p.1.length + 1 + yz_l l + w + yz_l r) = n + (p.1.length + 1 + yz_l l + w) + yz_l r by omega]
      exact ⟨yW_pr M gg (s1 := (w0.1.1, S0, w0.1.2.2 + 1)) (by show _ ≤ 2 * (w0.1.2.2 + 1); omega) O2, fun z => by rw [r2 z, Bool.or_true]⟩
    · rw [if_neg zy]
      rw [if_neg zy] at gg i2
      obtain ⟨O2, r2⟩ := ihl 0 (n + p.1.length + 1) v q 0 lo h2' (w0.1.1, S0, w0.1.2.2 + 1) (.inl ⟨rfl, W1.2.2.1⟩) W1.2.2.2 hY (yW_Kl K2) (by omega) (by omega) (fun z => absurd z (by decide)) (fun z => (hx' z).2) hq hd'.2.1 i2 rfl
      have st2 : (yE_T pl tm U base l (w0.1.1, S0, w0.1.2.2 + 1)).2 ≤ 2 → (yE_T pl tm U base l (w0.1.1, S0, w0.1.2.2 + 1)).1.2.1 = S0 := yW_S H (s := (w0.1.1, S0, w0.1.2.2 + 1)) (.inl ⟨rfl, W1.2.2.1⟩) W1.2.2.2 hY
      generalize yE_T pl tm U base l (w0.1.1, S0, w0.1.2.2 + 1) = w3 at O2 r2 st2
      have O3 := yW_pr M gg (s := s) (s1 := (w0.1.1, S0, w0.1.2.2 + 1)) (by show _ ≤ 2 * (w0.1.2.2 + 1); omega) O2
      by_cases z3 : w3.2 = 0
      · rw [if_pos z3]
        by_cases zf : yz_f r = true
        · rw [if_pos zf]
          rw [if_pos zf] at hw
          have r0 : yz_l r = 0 := by
            cases r with
            | leaf => rfl
            | inner => cases zf
          rw [hw, r0, show n + (p.1.length + 1 + yz_l l + 0 + 0) = n + p.1.length + 1 + yz_l l by omega]
          exact ⟨O3, fun z => by rw [r2 z, Bool.true_or]⟩
        · rw [if_neg zf]
          rw [if_neg zf] at hw
          rw [if_neg zf] at K3
          obtain ⟨h4, k4, c1, c2, _, _, _⟩ := O3
          obtain ⟨g4, i4⟩ := c2 z3
          obtain ⟨h5, g5, i5⟩ := M.2.2.2.1 h4 (n + p.1.length + 1 + yz_l l) (10, nI e, 0, 0) e w3.1 i4 (yW_Kl K3 0 _ rfl) (by omega) (by omega) (.inl rfl) rfl (by have := he m1; omega) (by have := he m1; omega) (st2 (by omega))
          rw [← he m1]
          refine ⟨yW_pr M g4 (s := s) (s1 := w3.1) c1 (yW_pr M g5 (s1 := (w3.1.1, w3.1.2.1, w3.1.2.2 + 1)) (by show _ ≤ 2 * (w3.1.2.2 + 1); omega) (yW_0 M i5)), fun _ => by rw [r2 z3, Bool.true_or]⟩
      · rw [if_neg z3]
        obtain ⟨h4, k4, c1, c2, c3, c4, c5⟩ := O3
        exact ⟨⟨h4, k4, c1, fun z => absurd z z3, c3, c4, c5⟩, fun z => absurd z z3⟩
  · rw [if_neg z]
    exact ⟨⟨h', k, a1, fun w => absurd w z, a3, a4, a5⟩, fun w => absurd w z⟩
theorem yW_T (H : yG_h X Y kb pl tm B b base U) (M : yW_M X Y kb pl tm b base U Kd I J G F S0 s0 sE) : ∀ T : ys, yW_V X Y kb pl tm b base U Kd I J G F S0 s0 sE T := by
  intro T
  induction T with
  | leaf =>
    intro m n v q e lo h s _ _ _ _ _ _ _ _ _ _ hi _
    exact ⟨yW_0 M hi, fun _ => rfl⟩
  | inner k p o l r ihl ihr =>
    by_cases k0 : k = 0
    · exact yW_V0 k0 H M ihr
    by_cases k1 : k = 1 ∨ k = 6
    · exact yW_V16 k1 H M ihl ihr
    by_cases k2 : k = 2
    · exact yW_V2 k2 H M ihl ihr
    by_cases k3 : k = 3
    · exact yW_V3 k3 M
    by_cases k4 : k = 4
    · exact yW_V4 k4 M
    by_cases k5 : k = 5
    · exact yW_V5 k5 H M ihl ihr
    intro m n v q e lo h s hm
    rcases hm with ⟨_, z, _⟩ | ⟨_, z | z, _⟩
    · omega
    · omega
    · omega
end YWT
end
section
/-! The machine: the model runs units. -/
def yN_Kd (s0 : Nat) (g0 : zs_H) (p : Nat) (i : yI) : Prop := ∃ lv, yM_m s0 g0 p (i, lv)
def yN_I (kb : Nat → yK) (b base : Nat) (g0 : zs_H) : yW_I := fun g s _ => zfr yN_F yN_M [] g0 g ∧ yN_s g s ∧ yS_g kb b base s.1
def yN_J (g0 : zs_H) : yW_J := fun g r => zfr yN_F yN_M [] g0 g ∧ yN_o g r
def yN_G (R : zs_H → Int32 → Int32 → Option zs_H) (b base s0 : Nat) : yW_G := fun g p g' p' k => ∀ N, f_Mo_go_L2 (g_Mo_step R) (N + k) g (nI b) (nI base) (nI (p - s0)) = f_Mo_go_L2 (g_Mo_step R) N g' (nI b) (nI base) (nI (p' - s0))
def yN_Fl (R : zs_H → Int32 → Int32 → Option zs_H) (b base s0 : Nat) : yW_F := fun g p _ g' k => ∀ N, f_Mo_go_L2 (g_Mo_step R) (N + 1 + k) g (nI b) (nI base) (nI (p - s0)) = some g'
section YNU
variable {X Y : Nat → Nat} {kb : Nat → yK} {pl : Nat → Nat} {tm : Nat → Nat → (Nat → Int32) → Nat → Int32} {U : Nat → Nat → yE → yE × Nat} {R : zs_H → Int32 → Int32 → Option zs_H} {B : Nat → Nat} {b base s0 sz : Nat} {g0 : zs_H} {S0 : List Int32}
theorem yN_W (Gh : yG_h X Y kb pl tm B b base U) (H : yN_h X Y kb pl tm b base U R g0) (C : yD_c b s0 sz g0) (h0 : S0.length + 64 * (b + 1) ≤ 1088) : yW_M X Y kb pl tm b base U (yN_Kd s0 g0) (yN_I kb b base g0) (yN_J g0) (yN_G R b base s0) (yN_Fl R b base s0) S0 s0 (s0 + sz) := by
  have hx := H.2.1.2
  have SH := H.2.2.2.2.2.2
  have nc : ∀ {x : Nat} {c : Nat → Int32} {v : Int32}, Y b ≤ x → yS_g kb b base c → yS_g kb b base (yE_u c (base + x) v) := fun h G => yS_w G fun j hj w => by
    have := ((SH.1 b (Nat.le_refl _)).2 j hj).1
    omega
  refine ⟨fun _ _ _ => rfl, fun h p h1 p1 k1 h2 p2 k2 a c N => ?_, fun h p h1 p1 k1 o h2 k2 a c N => ?_, ?_, ?_, ?_, ?_, ?_, ?_⟩
  · rw [show N + (k1 + k2) = (N + k2) + k1 by omega, a, c]
  · rw [show N + 1 + (k1 + k2) = (N + 1 + k2) + k1 by omega, a, c]
  · intro g p i t s ⟨f, hs, gd⟩ ⟨lv, m⟩ hp hp2 e ea ht ht2 es
    obtain ⟨j, rfl⟩ : ∃ j, p = s0 + j := ⟨p - s0, by omega⟩
    obtain ⟨c, S, n⟩ := s
    have es' : S = S0 := es
    subst es'
    have C1 := yN_cf f C
    obtain ⟨q1, q2⟩ := yN_gs (n := n) hs.1 hs.2.2.1 hs.2.2.2.2
    refine ⟨yN_g g (n + 1) S.length, fun N => ?_, zfr_trans f q2, q1, gd⟩
    rw [Nat.add_sub_cancel_left]
    exact yN_jgo C1 (by omega) (yN_mf f m) e ea ht hs (by omega)
  · intro g p i s ⟨f, hs, gd⟩ ⟨lv, m⟩ hp hp2 e es
    obtain ⟨j, rfl⟩ : ∃ j, p = s0 + j := ⟨p - s0, by omega⟩
    obtain ⟨c, S, n⟩ := s
    have es' : S = S0 := es
    subst es'
    have C1 := yN_cf f C
    obtain ⟨q1, q2⟩ := yN_gs (n := n) hs.1 hs.2.2.1 hs.2.2.2.2
    refine ⟨yN_g g (n + 1) S.length, fun N => ?_, zfr_trans f q2, q1, gd⟩
    rw [Nat.add_sub_cancel_left, Nat.add_sub_cancel_left]
    exact yN_jlv C1 (by omega) (yN_mf f m) e hs (by omega)
  · intro g p i t c y n ⟨f, hs, gd⟩ ⟨lv, m⟩ hp hp2 e ea ht ht2
    obtain ⟨j, rfl⟩ : ∃ j, p = s0 + j := ⟨p - s0, by omega⟩
    have C1 := yN_cf f C
    obtain ⟨q1, q2⟩ := yN_gs (n := n) (S := S0) hs.1 hs.2.2.1.2 hs.2.2.2.2
    refine ⟨yN_g g (n + 1) S0.length, fun N => ?_, zfr_trans f q2, q1, gd⟩
    rw [Nat.add_sub_cancel_left]
    refine (yN_jun C1 (by omega) (yN_mf f m) e ea ht hs (by omega)).trans ?_
    by_cases z : y = 0
    · rw [if_pos z, if_pos z]
    · rw [if_neg z, if_neg z, show s0 + j + 1 - s0 = j + 1 by omega]
  · intro g p i x N0 s ⟨f, hs, gd⟩ ⟨lv, m⟩ hp hp2 e ea eb hx2 es
    obtain ⟨j, rfl⟩ : ∃ j, p = s0 + j := ⟨p - s0, by omega⟩
    obtain ⟨c, S, n⟩ := s
    have es' : S = S0 := es
    subst es'
    have C1 := yN_cf f C
    have mm := yN_mf f m
    have hb : yN_b g b s0 j lv i c S := ⟨⟨by have := H.1; omega, C1.2.2.1, by have := C.2.1; omega, mm⟩, hs.1, hs.2.2.1, hs.2.2.2.2, by omega⟩
    obtain ⟨g', a1, a2, a3⟩ := yN_12 (n := n) (base := base) (R := R) (pl := pl) (tm := tm) (U := U) hb e ea (by omega)
    have t0 : yo_t i.1 = 0 := by rw [e]; rfl
    have e1 : yE_1 pl tm U base i (c, S, n) = ((yE_u c (base + x) (nI N0), S, n + 1), 0) := by
      unfold yE_1
      simp (config := { decide := true }) only [e, if_false, if_true, ea, eb, nI_clamp (show x < 2147483648 by omega)]
    rw [e1] at a3
    refine ⟨g', fun N => ?_, zfr_trans f a2, a3.1 rfl, nc hx2.1 gd⟩
    rw [Nat.add_sub_cancel_left, show s0 + j + 1 - s0 = j + 1 by omega, yN_go C1 (by omega) mm (by omega) hs (by rw [t0]; exact Nat.zero_le _), t0, Nat.sub_zero, a1]
    rfl
  · intro g p i t x s ⟨f, hs, gd⟩ ⟨lv, m⟩ hp hp2 e ea eb ht ht2 hx2 es
    obtain ⟨j, rfl⟩ : ∃ j, p = s0 + j := ⟨p - s0, by omega⟩
    obtain ⟨c, S, n⟩ := s
    have es' : S = S0 := es
    subst es'
    have C1 := yN_cf f C
    have J := fun N => yN_jnx (R := R) (base := base) (N := N) C1 (show j < sz by omega) (yN_mf f m) e ea eb ht (by omega) hs (by omega)
    by_cases z : c (base + x) = 0
    · obtain ⟨q1, q2⟩ := yN_gs (n := n) hs.1 hs.2.2.1 hs.2.2.2.2
      refine ⟨yN_g g (n + 1) S.length, ?_⟩
      rw [if_pos z]
      refine ⟨fun N => ?_, zfr_trans f q2, q1, gd⟩
      rw [Nat.add_sub_cancel_left, J N, if_pos z]
    · obtain ⟨q1, q2⟩ := yN_cell (n := n) (v := c (base + x) - 1) (p := base + x) hs.1 hs.2.2.1 hs.2.2.2.2
      refine ⟨zs_uM (yN_g g (n + 1) S.length) 114 (base + x) (c (base + x) - 1), ?_⟩
      rw [if_neg z]
      refine ⟨fun N => ?_, zfr_trans f q1, q2, nc hx2.1 gd⟩
      rw [Nat.add_sub_cancel_left, show s0 + j + 1 - s0 = j + 1 by omega, J N, if_neg z]
  · intro L lo d2 g p s ⟨f, hs, gd⟩ K hp hp2 hY W e hd es
    obtain ⟨j, rfl⟩ : ∃ j, p = s0 + j := ⟨p - s0, by omega⟩
    obtain ⟨c, S, n⟩ := s
    have es' : S = S0 := es
    subst es'
    obtain ⟨g', k, a1, a2, a3, a4, a5⟩ := yN_L Gh H C h0 hY L [] j n c g f hs gd K (by omega) W e (by show 0 ≤ 64; omega) hd
    have a3' : n + k ≤ (yE_L pl tm U base L (c, S, n)).1.2.2 := a3
    refine ⟨g', k, by show 2 * n + k ≤ _; omega, fun z => ⟨fun N => ?_, zfr_trans f a1, a2.1 z, yS_L SH hY L (c, S, n) W gd⟩, fun z => ⟨fun N => ?_, zfr_trans f a1, a2⟩⟩
    · rw [Nat.add_sub_cancel_left, show s0 + j + L.length - s0 = j + L.length by omega]
      exact a4 z N
    · rw [Nat.add_sub_cancel_left]
      exact a5 (by
        have z' : (yE_L pl tm U base L (c, [] ++ S, n)).2 = 3 ∨ (yE_L pl tm U base L (c, [] ++ S, n)).2 = 4 := z
        omega) N
theorem yN_fin {st : zs_H → Int32 → Int32 → Int32 → Option (Int32 × zs_H)} {N : Nat} {g : zs_H} (C : yD_c b s0 sz g) : f_Mo_go_L2 st (N + 1) g (nI b) (nI base) (nI sz) = some g := by
  show f_Mo_go_2 st (f_Mo_go_L2 st N) g (nI b) (nI base) (nI sz) = _
  unfold f_Mo_go_2
  rw [yV_sz C, Option.bind_some, if_pos ((nI_leI (by have := C.2.1; omega) (by have := C.2.1; omega)).mpr (Nat.le_refl _))]
/-- all that is known of a proved text -/
def yN_A (nb : Nat) (T : Nat → ys) (X Y : Nat → Nat) (kb : Nat → yK) (pl : Nat → Nat) (tm : Nat → Nat → (Nat → Int32) → Nat → Int32) : Prop := nb ≤ 16 ∧ (∀ u, u < nb → Y u ≤ X u ∧ X u ≤ 100000) ∧ yE_ht tm ∧ (∀ u, u < nb → (yz_st (T u) ∧ (∀ n, yz_x (T u) n = []) ∧ yz_W X Y kb u (T u) (Y u)) ∧ yH_D (T u) true = false ∧ yV_le 1000000000 (yV_b T u) = true) ∧ (∀ u, u < nb → (kb u).1 = 1 → yE_dj X kb pl u (pl u) ∧ 0 < X u ∧ pl u + X u ≤ 8192) ∧ yx_S T nb ≤ 4000 ∧ yS_q X Y kb (nb - 1) ∧ yS_m tm
def yN_B (nb : Nat) (T : Nat → ys) (kb : Nat → yK) (pl : Nat → Nat) (tm : Nat → Nat → (Nat → Int32) → Nat → Int32) (g : zs_H) : Prop := yN_t tm g ∧ (∀ u, u < nb → (kb u).1 = 1 → (g.2.1 89) u = nI (pl u)) ∧ (∀ u, u ≤ nb → (g.2.1 103) u = nI (yx_S T u)) ∧ yx_AM T nb g
theorem yN_Bf {nb : Nat} {T : Nat → ys} {g g' : zs_H} (f : zfr yN_F yN_M [] g g') (h : yN_B nb T kb pl tm g) : yN_B nb T kb pl tm g' := by
  refine ⟨fun k a c g2 f2 => h.1 k a c g2 (zfr_trans f f2), fun u h1 h2 => by rw [f.2.1 _ (by decide)]; exact h.2.1 u h1 h2, fun u h1 => by rw [f.2.1 _ (by decide)]; exact h.2.2.1 u h1, fun u hu k i e => yN_mf f (h.2.2.2 u hu k i e)⟩
theorem yN_Wle {w : Option Nat} {m : Nat} (h : yV_le m w = true) : yV_u w ≤ m + 1 := by
  cases w with
  | none => exact Nat.zero_le _
  | some w => exact Nat.succ_le_succ (of_decide_eq_true h)
theorem yN_Us {nb : Nat} {T : Nat → ys} (A : yN_A nb T X Y kb pl tm) : ∀ (b : Nat) (g0 : zs_H) (d : Nat), b ≤ nb → 2 * b ≤ d → yN_B nb T kb pl tm g0 → yN_U X kb pl b (yE_U T pl tm b) (f_Mo_go d) g0 := by
  obtain ⟨A1, A2, A3, A4, A5, A6, A7, A8⟩ := id A
  intro b
  induction b with
  | zero => intro g0 d _ _ _ u base s g hu; omega
  | succ b ih =>
    intro g0 d hb hd hB u base s g hu f hs hl hX dj gd
    by_cases z : u = b
    · subst z
      obtain ⟨d, rfl⟩ : ∃ z, d = z + 2 := ⟨d - 2, by omega⟩
      have Bg := yN_Bf f hB
      obtain ⟨⟨w1, w2, w3⟩, w4, w5⟩ := A4 u (by omega)
      have hU := yG_Us A1 A2 A3 (fun u hu => (A4 u hu).1) (fun u hu hk => (A5 u hu hk).1)
      have Hg : yG_h X Y kb pl tm (yV_B T u) u base (yE_U T pl tm u) := ⟨by omega, ⟨(A2 u (by omega)).1, fun w hw => (A2 w (by omega)).2⟩, hU u (by omega), yE_Uw A1 A2 A3 (fun u hu => (A4 u hu).1.2.2) u (by omega), A3, fun w hw2 hk => (A5 w (by omega) hk).1, dj⟩
      have Hn : yN_h X Y kb pl tm u base (yE_U T pl tm u) (f_Mo_go d) g := ⟨by omega, ⟨(A2 u (by omega)).1, hX⟩, ih g d (by omega) (by omega) Bg, Bg.1, fun w hw hk => ⟨(A5 w (by omega) hk).1, (A5 w (by omega) hk).2, Bg.2.1 w (by omega) hk⟩, dj, fun w hw => A7 w (by omega), Hg.2.2.2.1, A3, A8, yS_Us A1 A7 A3 A8 (fun u hu => (A4 u hu).1.2.2) u (by omega), dj⟩
      have hle : yx_S T (u + 1) ≤ yx_S T nb := by
        have := yx_Sm T (nb - (u + 1)) (u + 1)
        rwa [show u + 1 + (nb - (u + 1)) = nb by omega] at this
      have hS : yx_S T (u + 1) = yx_S T u + yz_l (T u) := rfl
      have C : yD_c u (yx_S T u) (yz_l (T u)) g := ⟨by omega, by omega, Bg.2.2.1 u (by omega), by rw [← hS]; exact Bg.2.2.1 (u + 1) (by omega)⟩
      have M := yN_W (S0 := s.2.1) Hg Hn C hl
      obtain ⟨O, _⟩ := yW_T Hg M (T u) 0 (yx_S T u) 0 0 0 (Y u) g s (.inl ⟨rfl, w1⟩) w3 (Nat.le_refl _) (fun k i e => ⟨i.2, Bg.2.2.2 u (by omega) k i e⟩) (Nat.le_refl _) (Nat.le_refl _) (fun z => absurd z (by decide)) (fun _ => w2 _) (fun z => absurd z (by decide)) w4 ⟨zfr_rfl, hs, gd⟩ rfl
      have R4 := hU (u + 1) (by omega) u base s (by omega) dj
      have n1 := (yG_T Hg (T u) 0 (Y u) (none, none, none) (some 0, none, none) s (.inl ⟨rfl, w1⟩) w3 (Nat.le_refl _) (fun z => absurd z (by decide)) (yF_nM (x := 0) (.inl rfl))).2 0 (w2 0)
      have bnd : yV_B T (u + 1) u ≤ 1000000001 := by
        rw [yV_B, if_pos rfl]; exact yN_Wle w5
      unfold yG_r at R4
      have eU : yE_U T pl tm (u + 1) u base s = ((yE_T pl tm (yE_U T pl tm u) base (T u) s).1, if (yE_T pl tm (yE_U T pl tm u) base (T u) s).2 = 2 then 0 else (yE_T pl tm (yE_U T pl tm u) base (T u) s).2) := by
        rw [yE_U, if_pos rfl]
      rw [eU] at R4 ⊢
      generalize yE_T pl tm (yE_U T pl tm u) base (T u) s = r at O R4 n1
      obtain ⟨g', k, o1, o2, o3, o4, o5⟩ := O
      have r4 : r.1.2.2 + 1 ≤ s.2.2 + yV_B T (u + 1) u := R4.2.2.2
      have r1 : (if r.2 = 2 then 0 else r.2) = 0 ∨ (if r.2 = 2 then 0 else r.2) = 3 ∨ (if r.2 = 2 then 0 else r.2) = 4 := R4.1
      have hz := zF_big
      have e0 : f_Mo_go (d + 2) g (nI u) (nI base) = f_Mo_go_L2 (g_Mo_step (f_Mo_go d)) ((zF - 1 - k) + 1 + k) g (nI u) (nI base) (nI (yx_S T u - yx_S T u)) := by
        rw [Nat.sub_self, show zF - 1 - k + 1 + k = zF by omega]; rfl
      refine ⟨g', ?_, ?_⟩
      · rw [e0]
        by_cases z0 : r.2 = 0
        · obtain ⟨q1, q2⟩ := o2 z0
          rw [q1 (zF - 1 - k + 1), Nat.add_sub_cancel_left]
          exact yN_fin (yN_cf q2.1 C)
        · by_cases z2 : r.2 = 2
          · obtain ⟨q1, q2⟩ := o4 z2
            rw [q1 (zF - 1 - k + 1), Nat.add_sub_cancel_left]
            exact yN_fin (yN_cf q2.1 C)
          · rw [if_neg z2] at r1
            exact (o5 (by omega)).1 _
      · by_cases z0 : r.2 = 0
        · obtain ⟨q1, q2⟩ := o2 z0
          rw [if_neg (show ¬ r.2 = 2 by omega), z0]
          exact ⟨q2.1, yN_so q2.2.1⟩
        · by_cases z2 : r.2 = 2
          · obtain ⟨q1, q2⟩ := o4 z2
            rw [if_pos z2]
            exact ⟨q2.1, yN_so q2.2.1⟩
          · rw [if_neg z2] at r1 ⊢
            exact (o5 (by omega)).2
    · obtain ⟨g', q1, q2, q3⟩ := ih g0 d (by omega) (by omega) hB u base s g (by omega) f hs hl hX dj gd
      refine ⟨g', q1, q2, ?_⟩
      rw [yE_U, if_neg z]
      exact q3
end YNU
end
section
/-! The machine: one instruction of the class. -/
abbrev yR_F : List (Nat × Nat) := [(58, 6), (58, 14), (58, 17), (58, 18), (58, 19), (58, 20)]
abbrev yR_M : List Nat := [62, 63, 64]
/-- a state of the class at p, in a unit that ends before e, at depth D -/
def yR_s (h : zs_H) (s : yE) (p e base D : Nat) : Prop := ((∀ j, j < 8192 → (h.2.1 62) j = s.1 j) ∧ (h.1 58 14) = nI s.2.1.length ∧ yE_k ((h.2.1 63)) s.2.1 ∧ (h.1 58 6) = nI s.2.2) ∧ (h.1 58 18) = nI p ∧ (h.1 58 19) = nI e ∧ (h.1 58 20) = nI base ∧ (h.1 58 17) = nI D
def yR_f (D : Nat) (h h' : zs_H) : Prop := zfr yR_F yR_M [] h h' ∧ ∀ j, j < 3 * D → (h'.2.1 64) j = (h.2.1 64) j
section YRS
variable {X Y : Nat → Nat} {kb : Nat → yK} {pl : Nat → Nat} {tm : Nat → Nat → (Nat → Int32) → Nat → Int32} {U : Nat → Nat → yE → yE × Nat} {p e base D n : Nat} {h h' h2 : zs_H} {i : yI} {c : Nat → Int32} {S : List Int32} {y v : Int32}
theorem yR_f0 : yR_f D h h := ⟨zfr_rfl, fun _ _ => rfl⟩
theorem yR_ft (a : yR_f D h h') (b : yR_f D h' h2) : yR_f D h h2 := ⟨zfr_trans a.1 b.1, fun j hj => (b.2 j hj).trans (a.2 j hj)⟩
theorem yR_m (f : zfr yR_F yR_M [] h h') (m : yC_m h p i) : yC_m h' p i := by
  unfold yC_m at m ⊢
  rw [f.2.1 _ (by decide), f.2.1 _ (by decide), f.2.1 _ (by decide), f.2.1 _ (by decide)]
  exact m
theorem yR_zB {α γ : Type} {a : α} {b : zs_H} {f : α → zs_H → Option γ} : zd_B (some (a, b)) f = f a b := rfl
theorem yR_take (H : yR_s h (c, y :: S, n) p e base D) (hl : S.length < 1088) : ∃ h', f_Mc_takeOff h = some (y, h') ∧ yR_s h' (c, S, n) p e base D ∧ yR_f D h h' := by
  obtain ⟨⟨a1, a2, ⟨a3, a3'⟩, a4⟩, a5⟩ := H
  have a2' : (h.1 58 14) = nI (S.length + 1) := a2
  unfold f_Mc_takeOff
  rw [a2', if_neg (mt (zc_eq (k := 0) (by decide) (by omega)).mp (by omega)), show nI (S.length + 1) - 1 = nI S.length from zi_sub (a := S.length + 1) (b := 1) (by omega), if_pos (zi_in (by omega) hl), nI_clamp (by omega), show (h.2.1 63) S.length = y from a3]
  exact ⟨_, rfl, ⟨⟨a1, rfl, a3', a4⟩, a5⟩, zfr_F (by decide) zfr_rfl, fun _ _ => rfl⟩
theorem yR_lay (H : yR_s h (c, S, n) p e base D) (hl : S.length < 1088) : ∃ h', f_Mc_lay h v = some h' ∧ yR_s h' (c, v :: S, n) p e base D ∧ yR_f D h h' := by
  obtain ⟨⟨a1, a2, a3, a4⟩, a5⟩ := H
  have a2' : (h.1 58 14) = nI S.length := a2
  unfold f_Mc_lay
  rw [a2', if_neg (mt (zc_le (k := 1088) (by decide) (by omega)).mp (by omega)), if_pos (zi_in (by omega) hl), nI_clamp (by omega), show nI S.length + 1 = nI (S.length + 1) from zc_ad 1 _]
  refine ⟨_, rfl, ⟨⟨fun j hj => (zu_MM.trans (if_neg fun z => absurd z.1 (by decide))).trans (a1 j hj), rfl, yE_kp a3 (zu_MM.trans (if_pos ⟨rfl, rfl⟩)) (fun j hj => zu_MM.trans (if_neg fun z => hj z.2)), a4⟩, a5⟩, zfr_F (by decide) (zfr_M (by decide) zfr_rfl), fun j _ => zu_MM.trans (if_neg fun z => absurd z.1 (by decide))⟩
theorem yR_cell (H : yR_s h (c, S, n) p e base D) {x : Nat} (hx : x < 8192) : f_Mc_cellAt h (nI x) = some (c x) := by
  unfold f_Mc_cellAt
  rw [if_neg (mt (zc_tl (k := 0) (by decide) (by omega)).mp (by omega)), if_neg (mt (zc_le (k := 8192) (by decide) (by omega)).mp (by omega)), if_pos (zi_in (by omega) hx), nI_clamp (by omega), show (h.2.1 62) x = c x from H.1.1 x hx]
theorem yR_bec (H : yR_s h (c, S, n) p e base D) {x : Nat} (hx : x < 8192) : ∃ h', f_Mc_become h (nI x) v = some h' ∧ yR_s h' (yE_u c x v, S, n) p e base D ∧ yR_f D h h' := by
  obtain ⟨⟨a1, a2, a3, a4⟩, a5⟩ := H
  unfold f_Mc_become
  rw [if_neg (mt (zc_tl (k := 0) (by decide) (by omega)).mp (by omega)), if_neg (mt (zc_le (k := 8192) (by decide) (by omega)).mp (by omega)), if_pos (zi_in (by omega) hx), nI_clamp (by omega)]
  refine ⟨_, rfl, ⟨⟨fun j hj => ?_, a2, yE_kf (fun j _ => zu_MM.trans (if_neg fun z => absurd z.1 (by decide))) a3, a4⟩, a5⟩, zfr_M (by decide) zfr_rfl, fun j _ => zu_MM.trans (if_neg fun z => absurd z.1 (by decide))⟩
  show (zs_uM h 62 x v).2.1 62 j = if j = x then v else c j
  refine zu_MM.trans ?_
  by_cases z : j = x
  · rw [if_pos ⟨rfl, z⟩, if_pos z]
  · rw [if_neg (fun w => z w.2), if_neg z]; exact a1 j hj
/-- how an instruction ends -/
def yR_o (h' : zs_H) (v : Int32) (p e base D : Nat) (r : yE × Nat) : Prop := (r.2 = 0 → v = 0 ∧ yR_s h' r.1 p e base D) ∧ (r.2 = 3 ∨ r.2 = 4 → v = (if r.2 = 3 then -3 else -4) ∧ (∀ j, j < 8192 → (h'.2.1 62) j = r.1.1 j) ∧ (h'.1 58 6) = nI r.1.2.2)
def yR_D (pl : Nat → Nat) (tm : Nat → Nat → (Nat → Int32) → Nat → Int32) (U : Nat → Nat → yE → yE × Nat) (h : zs_H) (p e base D n : Nat) (i : yI) (c : Nat → Int32) (S : List Int32) : Prop := ∃ v h', (if 10 ≤ i.1 then f_Mc_move h (nI p) else f_Mc_compute h (nI p)) = some (v, h') ∧ yR_f D h h' ∧ yR_o h' v (p + 1) e base D (yE_1 pl tm U base i (c, S, n))
def yR_b (h : zs_H) (p e base D n : Nat) (i : yI) (c : Nat → Int32) (S : List Int32) : Prop := p < 4000 ∧ yC_m h p i ∧ yR_s h (c, S, n + 1) (p + 1) e base D ∧ S.length ≤ 1088
theorem yR_ok {s : yE} (H : yR_s h' s p e base D) : yR_o h' 0 p e base D (s, 0) := ⟨fun _ => ⟨rfl, H⟩, fun z => absurd z (show ¬ ((0 : Nat) = 3 ∨ (0 : Nat) = 4) by decide)⟩
theorem yR_bad {o : Nat} (ho : o = 3 ∨ o = 4) (hv : v = if o = 3 then -3 else -4) (H : yR_s h' (c, S, n) p e base D) : yR_o h' v p e base D ((c, S, n), o) := ⟨fun z => (by have z' : o = 0 := z; omega), fun _ => ⟨hv, H.1.1, H.1.2.2.2⟩⟩
theorem yR_0 (H : yR_b h p e base D n i c S) (e0 : i.1 = 0) (hl : S.length < 1088) : yR_D pl tm U h p e base D n i c S := by
  obtain ⟨h1, ⟨m1, m2, m3, m4⟩, h3, h4⟩ := H
  rw [e0] at m1
  obtain ⟨h', a1, a2, a3⟩ := yR_lay (v := i.2.1) h3 hl
  refine ⟨0, h', ?_, a3, ?_⟩
  · rw [if_neg (by omega)]
    unfold f_Mc_compute
    rw [if_pos (zi_in (by omega) h1), nI_clamp (n := p) (by omega), m1, m2, if_pos (by decide), a1, Option.bind_some]
  · unfold yE_1
    rw [if_pos e0]
    exact yR_ok a2
theorem yR_1 (H : yR_b h p e base D n i c S) (e0 : i.1 = 1) (hl : S.length < 1088) {x : Nat} (e1 : i.2.1 = nI x) (hx : base + x < 8192) : yR_D pl tm U h p e base D n i c S := by
  obtain ⟨h1, ⟨m1, m2, m3, m4⟩, h3, h4⟩ := H
  rw [e0] at m1
  rw [e1] at m2
  obtain ⟨h', a1, a2, a3⟩ := yR_lay (v := c (base + x)) h3 hl
  refine ⟨0, h', ?_, a3, ?_⟩
  · rw [if_neg (by omega)]
    unfold f_Mc_compute
    rw [if_pos (zi_in (by omega) h1), nI_clamp (n := p) (by omega), m1, m2, h3.2.2.2.1, nI_add, if_neg (by decide), if_pos (by decide), yR_cell h3 hx, Option.bind_some, a1, Option.bind_some]
  · unfold yE_1
    simp (config := { decide := true }) only [e0, if_false, if_true, e1, nI_clamp (show x < 2147483648 by omega)]
    exact yR_ok a2
theorem yR_2 (H : yR_b h p e base D n i c (y :: S)) (e0 : i.1 = 2) {x : Nat} (e1 : i.2.1 = nI x) (hx : base + x < 8192) : yR_D pl tm U h p e base D n i c (y :: S) := by
  obtain ⟨h1, ⟨m1, m2, m3, m4⟩, h3, h4⟩ := H
  rw [e0] at m1
  rw [e1] at m2
  have h4' : S.length + 1 ≤ 1088 := h4
  obtain ⟨h5, t1, t2, t3⟩ := yR_take h3 (by omega)
  obtain ⟨h', a1, a2, a3⟩ := yR_bec (v := y) t2 hx
  refine ⟨0, h', ?_, yR_ft t3 a3, ?_⟩
  · rw [if_neg (by omega)]
    unfold f_Mc_compute
    rw [if_pos (zi_in (by omega) h1), nI_clamp (n := p) (by omega), m1, m2, h3.2.2.2.1, nI_add, if_neg (by decide), if_neg (by decide), if_pos (by decide), t1, yR_zB, a1, Option.bind_some]
  · unfold yE_1
    simp (config := { decide := true }) only [e0, if_false, if_true, e1, nI_clamp (show x < 2147483648 by omega)]
    exact yR_ok a2
theorem yR_3 (H : yR_b h p e base D n i c (y :: S)) (e0 : i.1 = 3) {x s : Nat} (e1 : i.2.1 = nI x) (e2 : i.2.2.2 = nI s) (hx : base + x + s ≤ 8192) : yR_D pl tm U h p e base D n i c (y :: S) := by
  obtain ⟨h1, m, h3, h4⟩ := H
  obtain ⟨m1, _⟩ := id m
  rw [e0] at m1
  have h4' : S.length + 1 ≤ 1088 := h4
  obtain ⟨h5, t1, t2, t3⟩ := yR_take h3 (by omega)
  obtain ⟨_, n2, n3, n4⟩ := yR_m t3.1 m
  rw [e1] at n2
  have ec : f_Mc_compute h (nI p) = zd_B (f_Mc_element h (nI p) 0) fun v h => some (v, h) := by
    unfold f_Mc_compute
    rw [if_pos (zi_in (by omega) h1), nI_clamp (n := p) (by omega), m1, if_neg (by decide), if_neg (by decide), if_neg (by decide), if_pos (by decide)]
  unfold yR_D yE_1
  simp (config := { decide := true }) only [e0, if_false, if_true]
  rw [ec]
  unfold f_Mc_element f_Mc_element_12
  rw [if_pos rfl, t1, yR_zB, if_pos (zi_in (by omega) h1), nI_clamp (n := p) (by omega), n2, n3, n4]
  by_cases z1 : y.toInt64 - i.2.2.1.toInt64 < 0
  · rw [if_pos z1, if_pos (show yE_bad i y from .inl z1), yR_zB]
    exact ⟨_, _, rfl, t3, yR_bad (.inr rfl) rfl t2⟩
  rw [if_neg z1]
  by_cases z2 : y.toInt64 - i.2.2.1.toInt64 < i.2.2.2.toInt64
  · have nb : ¬ yE_bad i y := fun q => q.elim z1 (fun q => q z2)
    have il := yE_ixl e2 (by omega) nb
    obtain ⟨h', a1, a2, a3⟩ := yR_lay (v := c (base + x + yE_ix i y)) t2 (by omega)
    rw [if_pos z2, if_neg nb, yE_ixn e2 (by omega) nb, t2.2.2.2.1, nI_add, nI_add, if_pos rfl, yR_cell t2 (by omega), Option.bind_some, a1, Option.bind_some, yR_zB]
    exact ⟨_, _, rfl, yR_ft t3 a3, by rw [e1, nI_clamp (n := x) (by omega)]; exact yR_ok a2⟩
  · rw [if_neg z2, if_pos (show yE_bad i y from .inr z2), yR_zB]
    exact ⟨_, _, rfl, t3, yR_bad (.inr rfl) rfl t2⟩
theorem yR_4 {w : Int32} (H : yR_b h p e base D n i c (w :: y :: S)) (e0 : i.1 = 4) {x s : Nat} (e1 : i.2.1 = nI x) (e2 : i.2.2.2 = nI s) (hx : base + x + s ≤ 8192) : yR_D pl tm U h p e base D n i c (w :: y :: S) := by
  obtain ⟨h1, m, h3, h4⟩ := H
  obtain ⟨m1, _⟩ := id m
  rw [e0] at m1
  have h4' : S.length + 1 + 1 ≤ 1088 := h4
  obtain ⟨h6, s1, s2, s3⟩ := yR_take h3 (by show S.length + 1 < 1088; omega)
  obtain ⟨h5, t1, t2, t3⟩ := yR_take s2 (by omega)
  obtain ⟨_, n2, n3, n4⟩ := yR_m (yR_ft s3 t3).1 m
  rw [e1] at n2
  have ec : f_Mc_compute h (nI p) = zd_B (f_Mc_element h (nI p) 1) fun v h => some (v, h) := by
    unfold f_Mc_compute
    rw [if_pos (zi_in (by omega) h1), nI_clamp (n := p) (by omega), m1, if_neg (by decide), if_neg (by decide), if_neg (by decide), if_neg (by decide), if_pos (by decide)]
  unfold yR_D yE_1
  simp (config := { decide := true }) only [e0, if_false, if_true]
  rw [ec]
  unfold f_Mc_element f_Mc_element_12
  rw [if_neg (show ¬ (1 : Int32) = 0 by decide), s1, yR_zB, t1, yR_zB, if_pos (zi_in (by omega) h1), nI_clamp (n := p) (by omega), n2, n3, n4]
  by_cases z1 : y.toInt64 - i.2.2.1.toInt64 < 0
  · rw [if_pos z1, if_pos (show yE_bad i y from .inl z1), yR_zB]
    exact ⟨_, _, rfl, yR_ft s3 t3, yR_bad (.inr rfl) rfl t2⟩
  rw [if_neg z1]
  by_cases z2 : y.toInt64 - i.2.2.1.toInt64 < i.2.2.2.toInt64
  · have nb : ¬ yE_bad i y := fun q => q.elim z1 (fun q => q z2)
    have il := yE_ixl e2 (by omega) nb
    obtain ⟨h', a1, a2, a3⟩ := yR_bec (v := w) (x := base + x + yE_ix i y) t2 (by omega)
    rw [if_pos z2, if_neg nb, yE_ixn e2 (by omega) nb, t2.2.2.2.1, nI_add, nI_add, if_neg (show ¬ (1 : Int32) = 0 by decide), a1, Option.bind_some, yR_zB]
    exact ⟨_, _, rfl, yR_ft (yR_ft s3 t3) a3, by rw [e1, nI_clamp (n := x) (by omega)]; exact yR_ok a2⟩
  · rw [if_neg z2, if_pos (show yE_bad i y from .inr z2), yR_zB]
    exact ⟨_, _, rfl, yR_ft s3 t3, yR_bad (.inr rfl) rfl t2⟩
theorem yR_5 (H : yR_b h p e base D n i c S) (e0 : i.1 = 5) (hl : S.length < 1088) {u x : Nat} (e1 : i.2.1 = nI u) (e2 : i.2.2.1 = nI x) (hu : u < 100) (ep : (h.2.1 27) (9 + u) = nI (pl u)) (hx : pl u + x < 8192) : yR_D pl tm U h p e base D n i c S := by
  obtain ⟨h1, ⟨m1, m2, m3, m4⟩, h3, h4⟩ := H
  rw [e0] at m1
  rw [e1] at m2
  rw [e2] at m3
  obtain ⟨h', a1, a2, a3⟩ := yR_lay (v := c (pl u + x)) h3 hl
  refine ⟨0, h', ?_, a3, ?_⟩
  · rw [if_neg (by omega)]
    unfold f_Mc_compute
    rw [if_pos (zi_in (by omega) h1), nI_clamp (n := p) (by omega), m1, m2, m3, if_neg (by decide), if_neg (by decide), if_neg (by decide), if_neg (by decide), if_neg (by decide), if_pos (by decide), show (9 : Int32) + nI u = nI (9 + u) from zc_da 9 u, if_pos (zi_in (by omega) (by omega)), nI_clamp (n := 9 + u) (by omega), ep, nI_add, yR_cell h3 hx, Option.bind_some, a1, Option.bind_some]
  · unfold yE_1
    simp (config := { decide := true }) only [e0, if_false, if_true, e1, e2, nI_clamp (show x < 2147483648 by omega), nI_clamp (show u < 2147483648 by omega)]
    exact yR_ok a2
theorem yR_6 (H : yR_b h p e base D n i c (y :: S)) (e0 : i.1 = 6) {u x : Nat} (e1 : i.2.1 = nI u) (e2 : i.2.2.1 = nI x) (hu : u < 100) (ep : (h.2.1 27) (9 + u) = nI (pl u)) (hx : pl u + x < 8192) : yR_D pl tm U h p e base D n i c (y :: S) := by
  obtain ⟨h1, ⟨m1, m2, m3, m4⟩, h3, h4⟩ := H
  rw [e0] at m1
  rw [e1] at m2
  rw [e2] at m3
  have h4' : S.length + 1 ≤ 1088 := h4
  obtain ⟨h5, t1, t2, t3⟩ := yR_take h3 (by omega)
  obtain ⟨h', a1, a2, a3⟩ := yR_bec (v := y) t2 hx
  refine ⟨0, h', ?_, yR_ft t3 a3, ?_⟩
  · rw [if_neg (by omega)]
    unfold f_Mc_compute
    rw [if_pos (zi_in (by omega) h1), nI_clamp (n := p) (by omega), m1, m2, m3, if_neg (by decide), if_neg (by decide), if_neg (by decide), if_neg (by decide), if_neg (by decide), if_neg (by decide), if_pos (by decide), show (9 : Int32) + nI u = nI (9 + u) from zc_da 9 u, if_pos (zi_in (by omega) (by omega)), nI_clamp (n := 9 + u) (by omega), ep, nI_add, t1, yR_zB, a1, Option.bind_some]
  · unfold yE_1
    simp (config := { decide := true }) only [e0, if_false, if_true, e1, e2, nI_clamp (show x < 2147483648 by omega), nI_clamp (show u < 2147483648 by omega)]
    exact yR_ok a2
theorem yR_7 {w : Int32} (H : yR_b h p e base D n i c (w :: y :: S)) (e0 : i.1 = 7) : yR_D pl tm U h p e base D n i c (w :: y :: S) := by
  obtain ⟨h1, ⟨m1, m2, m3, m4⟩, h3, h4⟩ := H
  rw [e0] at m1
  have h4' : S.length + 1 + 1 ≤ 1088 := h4
  obtain ⟨h6, s1, s2, s3⟩ := yR_take h3 (by show S.length + 1 < 1088; omega)
  obtain ⟨h5, t1, t2, t3⟩ := yR_take s2 (by omega)
  have ec : f_Mc_compute h (nI p) = zd_B (f_Mc_computeTwo h i.2.1) fun v h => some (v, h) := by
    unfold f_Mc_compute
    rw [if_pos (zi_in (by omega) h1), nI_clamp (n := p) (by omega), m1, m2, if_neg (by decide), if_neg (by decide), if_neg (by decide), if_neg (by decide), if_neg (by decide), if_neg (by decide), if_neg (by decide), if_pos (by decide)]
  unfold yR_D yE_1
  simp (config := { decide := true }) only [e0, if_false, if_true]
  rw [ec]
  unfold f_Mc_computeTwo
  rw [s1, yR_zB, t1, yR_zB]
  by_cases z : f_Cd_isByZero i.2.1 w = 0
  · obtain ⟨v, ev⟩ := yG_two (x := y) z
    obtain ⟨h', a1, a2, a3⟩ := yR_lay (v := v) t2 (by omega)
    rw [if_pos z, if_pos z, ev, Option.bind_some, a1, Option.bind_some, yR_zB]
    exact ⟨_, _, rfl, yR_ft (yR_ft s3 t3) a3, yR_ok a2⟩
  · rw [if_neg z, if_neg z, yR_zB]
    exact ⟨_, _, rfl, yR_ft s3 t3, yR_bad (.inl rfl) rfl t2⟩
theorem yR_8 (H : yR_b h p e base D n i c (y :: S)) (e0 : i.1 = 8) : yR_D pl tm U h p e base D n i c (y :: S) := by
  obtain ⟨h1, ⟨m1, m2, m3, m4⟩, h3, h4⟩ := H
  rw [e0] at m1
  have h4' : S.length + 1 ≤ 1088 := h4
  obtain ⟨h5, t1, t2, t3⟩ := yR_take h3 (by omega)
  obtain ⟨h', a1, a2, a3⟩ := yR_lay (v := f_Cd_one i.2.1 y) t2 (by omega)
  refine ⟨0, h', ?_, yR_ft t3 a3, ?_⟩
  · rw [if_neg (by omega)]
    unfold f_Mc_compute
    rw [if_pos (zi_in (by omega) h1), nI_clamp (n := p) (by omega), m1, m2, if_neg (by decide), if_neg (by decide), if_neg (by decide), if_neg (by decide), if_neg (by decide), if_neg (by decide), if_neg (by decide), if_neg (by decide), if_pos (by decide), t1, yR_zB, a1, Option.bind_some]
  · unfold yE_1
    simp (config := { decide := true }) only [e0, if_false, if_true]
    exact yR_ok a2
theorem yR_9 {w x : Int32} (H : yR_b h p e base D n i c (w :: x :: y :: S)) (e0 : i.1 = 9) : yR_D pl tm U h p e base D n i c (w :: x :: y :: S) := by
  obtain ⟨h1, ⟨m1, m2, m3, m4⟩, h3, h4⟩ := H
  rw [e0] at m1
  have h4' : S.length + 1 + 1 + 1 ≤ 1088 := h4
  obtain ⟨h7, r1, r2, r3⟩ := yR_take h3 (by show S.length + 1 + 1 < 1088; omega)
  obtain ⟨h6, s1, s2, s3⟩ := yR_take r2 (by show S.length + 1 < 1088; omega)
  obtain ⟨h5, t1, t2, t3⟩ := yR_take s2 (by omega)
  obtain ⟨h', a1, a2, a3⟩ := yR_lay (v := if y = 0 then x else w) t2 (by omega)
  refine ⟨0, h', ?_, yR_ft (yR_ft (yR_ft r3 s3) t3) a3, ?_⟩
  · rw [if_neg (by omega)]
    unfold f_Mc_compute f_Mc_compute_236
    rw [if_pos (zi_in (by omega) h1), nI_clamp (n := p) (by omega), m1, m2, if_neg (by decide), if_neg (by decide), if_neg (by decide), if_neg (by decide), if_neg (by decide), if_neg (by decide), if_neg (by decide), if_neg (by decide), if_neg (by decide), r1, yR_zB, s1, yR_zB, t1, yR_zB]
    by_cases z : y = 0
    · rw [if_pos z] at a1 ⊢; rw [a1, Option.bind_some]
    · rw [if_neg z] at a1 ⊢; rw [a1, Option.bind_some]
  · unfold yE_1
    simp (config := { decide := true }) only [e0, if_false, if_true]
    exact yR_ok a2
theorem yR_12 (H : yR_b h p e base D n i c S) (e0 : i.1 = 12) {x : Nat} (e1 : i.2.1 = nI x) (hx : base + x < 8192) : yR_D pl tm U h p e base D n i c S := by
  obtain ⟨h1, ⟨m1, m2, m3, m4⟩, h3, h4⟩ := H
  rw [e0] at m1
  rw [e1] at m2
  obtain ⟨h', a1, a2, a3⟩ := yR_bec (v := i.2.2.1) h3 hx
  refine ⟨0, h', ?_, a3, ?_⟩
  · rw [if_pos (by omega)]
    unfold f_Mc_move
    rw [if_pos (zi_in (by omega) h1), nI_clamp (n := p) (by omega), m1, m2, m3, h3.2.2.2.1, nI_add, if_neg (by decide), if_neg (by decide), if_pos (by decide), a1, Option.bind_some]
  · unfold yE_1
    simp (config := { decide := true }) only [e0, if_false, if_true, e1, nI_clamp (show x < 2147483648 by omega)]
    exact yR_ok a2
/-- standard blocks -/
def yR_t (tm : Nat → Nat → (Nat → Int32) → Nat → Int32) (h0 : zs_H) : Prop := ∀ (k at_ : Nat) (c : Nat → Int32) (h : zs_H), zfr yR_F yR_M [] h0 h → k < 9 → at_ + (zt_2.getD k 0).toNatClampNeg ≤ 8192 → (∀ j, j < 8192 → (h.2.1 62) j = c j) → ∃ h', f_Mc_runStandard h (nI k) (nI at_) = some h' ∧ (∀ j, j < 8192 → (h'.2.1 62) j = tm k at_ c j) ∧ zfr [] [62] [] h h'
theorem yR_17 {h0 : zs_H} (H : yR_b h p e base D n i c S) (e0 : i.1 = 17) (ht : yR_t tm h0) (f : zfr yR_F yR_M [] h0 h) {k x : Nat} (e1 : i.2.1 = nI k) (e2 : i.2.2.1 = nI x) (hk : k < 9) (hx : base + x + (zt_2.getD k 0).toNatClampNeg ≤ 8192) : yR_D pl tm U h p e base D n i c S := by
  obtain ⟨h1, ⟨m1, m2, m3, m4⟩, h3, h4⟩ := H
  rw [e0] at m1
  rw [e1] at m2
  rw [e2] at m3
  obtain ⟨h', a1, a2, a3⟩ := ht k (base + x) c h f hk hx h3.1.1
  refine ⟨0, h', ?_, ⟨zfr_w a3 (by decide) (by decide) (by decide), fun j _ => by rw [a3.2.1 _ (by decide)]⟩, ?_⟩
  · rw [if_pos (by omega)]
    unfold f_Mc_move
    rw [if_pos (zi_in (by omega) h1), nI_clamp (n := p) (by omega), m1, m2, m3, h3.2.2.2.1, nI_add base x, if_neg (by decide), if_neg (by decide), if_neg (by decide), if_neg (by decide), if_neg (by decide), if_neg (by decide), if_neg (by decide), if_pos (by decide), a1, Option.bind_some]
  · unfold yE_1
    simp (config := { decide := true }) only [e0, if_false, if_true, e1, e2, nI_clamp (show x < 2147483648 by omega), nI_clamp (show k < 2147483648 by omega)]
    refine yR_ok ⟨⟨a2, (a3.1 _ _ (by decide)).trans h3.1.2.1, ?_, (a3.1 _ _ (by decide)).trans h3.1.2.2.2⟩, (a3.1 _ _ (by decide)).trans h3.2.1, (a3.1 _ _ (by decide)).trans h3.2.2.1, (a3.1 _ _ (by decide)).trans h3.2.2.2.1, (a3.1 _ _ (by decide)).trans h3.2.2.2.2⟩
    rw [a3.2.1 _ (by decide)]
    exact h3.1.2.2.1
end YRS
end
section
/-! The machine: the class's loop over instructions. -/
def yR_G : yW_G := fun h _ h' _ k => ∀ N t, t + k ≤ 1000000 → f_Mc_run_L25 (N + k) h 0 (nI t) = f_Mc_run_L25 N h' 0 (nI (t + k))
def yR_Fl : yW_F := fun h _ o h' k => ∀ N t, t + k ≤ 1000000 → f_Mc_run_L25 (N + 1 + k) h 0 (nI t) = some (if o = 3 then -3 else -4, h')
def yR_g (h : zs_H) (p n : Nat) : zs_H := zs_uF (zs_uF h 58 18 (nI p)) 58 6 (nI n)
def yR_J (h0 : zs_H) : yW_J := fun h r => zfr yR_F yR_M [] h0 h ∧ (∀ j, j < 8192 → (h.2.1 62) j = r.1.1 j) ∧ (h.1 58 6) = nI r.1.2.2
/-- the class runs units below b -/
def yR_U (X : Nat → Nat) (kb : Nat → yK) (pl : Nat → Nat) (b : Nat) (U : Nat → Nat → yE → yE × Nat) (h0 : zs_H) : Prop := ∀ (u base : Nat) (s : yE) (h : zs_H) (p e bs D : Nat), u < b → zfr yR_F yR_M [] h0 h → yR_s h s p e bs D → D + u + 1 ≤ 16 → s.2.1.length + 64 * (u + 1) ≤ 1088 → base + X u ≤ 8192 → yE_dj X kb pl u base → ∃ h1 h' k, f_Mc_beginUnit h (nI u) (nI base) = some h1 ∧ 2 * s.2.2 + k ≤ 2 * (U u base s).1.2.2 + 1 ∧ ((U u base s).2 = 0 → yR_G h1 0 h' 0 k ∧ yR_f D h h' ∧ yR_s h' (U u base s).1 p e bs D) ∧ ((U u base s).2 = 3 ∨ (U u base s).2 = 4 → yR_Fl h1 0 (U u base s).2 h' k ∧ yR_J h h' (U u base s))
def yR_h (X Y : Nat → Nat) (kb : Nat → yK) (pl : Nat → Nat) (tm : Nat → Nat → (Nat → Int32) → Nat → Int32) (b base : Nat) (U : Nat → Nat → yE → yE × Nat) (h0 : zs_H) : Prop := b < 16 ∧ (Y b ≤ X b ∧ base + X b ≤ 8192) ∧ yR_U X kb pl b U h0 ∧ yR_t tm h0 ∧ (∀ u, u < b → (kb u).1 = 1 → yE_dj X kb pl u (pl u) ∧ (0 < X u ∧ pl u + X u ≤ 8192) ∧ (h0.2.1 27) (9 + u) = nI (pl u)) ∧ yE_dj X kb pl b base
section YRL
variable {X Y : Nat → Nat} {kb : Nat → yK} {pl : Nat → Nat} {tm : Nat → Nat → (Nat → Int32) → Nat → Int32} {U : Nat → Nat → yE → yE × Nat} {B : Nat → Nat} {b p e base D n lo : Nat} {h h0 : zs_H} {i : yI} {c : Nat → Int32} {S S0 : List Int32} {y v : Int32}
theorem yR_gs (H : yR_s h (c, S, n) p e base D) : yR_s (yR_g h (p + 1) (n + 1)) (c, S, n + 1) (p + 1) e base D ∧ yR_f D h (yR_g h (p + 1) (n + 1)) := ⟨⟨⟨H.1.1, H.1.2.1, H.1.2.2.1, rfl⟩, rfl, H.2.2⟩, zfr_F (by decide) (zfr_F (by decide) zfr_rfl), fun _ _ => rfl⟩
theorem yR_go {N t : Nat} (H : yR_s h (c, S, n) p e base D) (hp : p < e) (he : e ≤ 4000) (hD : 0 < D ∧ D ≤ 17) (m : yC_m h p i) (ho : i.1 < 19) (ht : t < 1000000) : f_Mc_run_L25 (N + 1) h 0 (nI t) = zd_B (if 10 ≤ i.1 then f_Mc_move (yR_g h (p + 1) (n + 1)) (nI p) else f_Mc_compute (yR_g h (p + 1) (n + 1)) (nI p)) (fun v h' => f_Mc_run_L25 N h' v (nI (t + 1))) := by
  obtain ⟨⟨_, _, _, a4⟩, a5, a6, a7, a8⟩ := H
  have a4' : (h.1 58 6) = nI n := a4
  have m1 : (h.2.1 42) p = nI i.1 := m.1
  show f_Mc_run_25 (f_Mc_run_L25 N) h 0 (nI t) = _
  unfold f_Mc_run_25 f_Mc_run_116 f_Mc_run_117
  rw [if_neg (mt (zc_le (k := 1000000) (by decide) (by omega)).mp (by omega)), a8, if_neg (mt (zc_el (k := 0) (by decide) (by omega)).mp (by omega)), if_pos rfl, a5, a6, if_pos ((nI_ltI (by omega) (by omega)).mpr hp), if_pos (zi_in (by omega) (by omega)), nI_clamp (n := p) (by omega), m1, a4', show nI n + 1 = nI (n + 1) from zc_ad 1 n, show nI p + 1 = nI (p + 1) from zc_ad 1 p, show nI t + 1 = nI (t + 1) from zc_ad 1 t]
  by_cases z : 10 ≤ i.1
  · rw [if_pos ((zc_le (k := 10) (by decide) (by omega)).mpr z), if_pos z]; rfl
  · rw [if_neg (mt (zc_le (k := 10) (by decide) (by omega)).mp z), if_neg z]; rfl
theorem yR_end {N : Nat} {x : Int32} (hv : ¬ v = 0) : f_Mc_run_L25 (N + 1) h v x = some (v, h) := by
  show f_Mc_run_25 (f_Mc_run_L25 N) h v x = _
  unfold f_Mc_run_25
  rw [if_neg hv, ite_self, ite_self]
/-- a unit ends -/
theorem yR_eT {s : yE} {b1 p0 e0 b0 : Nat} (H : yR_s h s p e b1 (D + 1)) (hp : e ≤ p) (hp2 : p ≤ 4000) (hD : D ≤ 16) (f1 : (h.2.1 64) (3 * D) = nI p0) (f2 : (h.2.1 64) (3 * D + 1) = nI e0) (f3 : (h.2.1 64) (3 * D + 2) = nI b0) : ∃ h', yR_s h' s p0 e0 b0 D ∧ yR_f D h h' ∧ ∀ q q', yR_G h q h' q' 1 := by
  obtain ⟨⟨a1, a2, a3, a4⟩, a5, a6, a7, a8⟩ := H
  have ee : ∃ h', f_Mc_endUnit h = some h' ∧ yR_s h' s p0 e0 b0 D ∧ yR_f D h h' := by
    unfold f_Mc_endUnit
    rw [a8, show nI (D + 1) - 1 = nI D from zi_sub (a := D + 1) (b := 1) (by omega), show (3 : Int32) * nI D = nI (3 * D) from zc_ml 3 D, show nI (3 * D) + 1 = nI (3 * D + 1) from zc_ad 1 _, show nI (3 * D) + 2 = nI (3 * D + 2) from zc_ad 2 _, if_pos (zi_in (by omega) (by omega)), if_pos (zi_in (by omega) (by omega)), if_pos (zi_in (by omega) (by omega)), nI_clamp (n := 3 * D) (by omega), nI_clamp (n := 3 * D + 1) (by omega), nI_clamp (n := 3 * D + 2) (by omega), f1, f2, f3]
    exact ⟨_, rfl, ⟨⟨a1, a2, a3, a4⟩, rfl, rfl, rfl, rfl⟩, zfr_F (by decide) (zfr_F (by decide) (zfr_F (by decide) (zfr_F (by decide) zfr_rfl))), fun _ _ => rfl⟩
  obtain ⟨h', e1, e2, e3⟩ := ee
  refine ⟨h', e2, e3, fun q q' N t ht => ?_⟩
  show f_Mc_run_25 (f_Mc_run_L25 N) h 0 (nI t) = _
  unfold f_Mc_run_25 f_Mc_run_117
  rw [if_neg (mt (zc_le (k := 1000000) (by decide) (by omega)).mp (by omega)), a8, if_neg (mt (zc_el (k := 0) (by decide) (by omega)).mp (by omega)), if_pos rfl, a5, a6, if_neg (mt (nI_ltI (by omega) (by omega)).mp (by omega)), e1, Option.bind_some, show nI t + 1 = nI (t + 1) from zc_ad 1 t]
/-- a unit begins -/
theorem yR_bU {s : yE} {u nb s0 s1 b1 : Nat} (H : yR_s h s p e base D) (hD : D ≤ 16) (hu : u < nb) (hn : nb ≤ 16) (hun : (h.1 41 6) = nI nb) (q1 : (h.2.1 46) u = nI s0) (q2 : (h.2.1 46) (u + 1) = nI s1) : ∃ h1, f_Mc_beginUnit h (nI u) (nI b1) = some h1 ∧ yR_s h1 s s0 s1 b1 (D + 1) ∧ yR_f D h h1 ∧ (h1.2.1 64) (3 * D) = nI p ∧ (h1.2.1 64) (3 * D + 1) = nI e ∧ (h1.2.1 64) (3 * D + 2) = nI base := by
  obtain ⟨⟨a1, a2, a3, a4⟩, a5, a6, a7, a8⟩ := H
  unfold f_Mc_beginUnit
  rw [a8, show (3 : Int32) * nI D = nI (3 * D) from zc_ml 3 D, show nI (3 * D) + 1 = nI (3 * D + 1) from zc_ad 1 _, show nI (3 * D) + 2 = nI (3 * D + 2) from zc_ad 2 _, if_neg (mt (zc_le (k := 51) (by decide) (by omega)).mp (by omega)), if_neg (mt (zc_tl (k := 0) (by decide) (by omega)).mp (by omega)), hun, if_neg (mt (nI_leI (by omega) (by omega)).mp (by omega)), if_pos (zi_in (by omega) (by omega)), if_pos (zi_in (by omega) (by omega)), if_pos (zi_in (by omega) (by omega)), if_pos (zi_in (by omega) (by omega)), show nI u + 1 = nI (u + 1) from zc_ad 1 u, if_pos (zi_in (by omega) (by omega)), nI_clamp (n := 3 * D) (by omega), nI_clamp (n := 3 * D + 1) (by omega), nI_clamp (n := 3 * D + 2) (by omega), nI_clamp (n := u) (by omega), nI_clamp (n := u + 1) (by omega), show nI D + 1 = nI (D + 1) from zc_ad 1 D, a5, a6, a7, q1, q2]
  have n62 : ∀ j, (zs_uM (zs_uM (zs_uM h 64 (3 * D) (nI p)) 64 (3 * D + 1) (nI e)) 64 (3 * D + 2) (nI base)).2.1 62 j = h.2.1 62 j := fun j => (zu_MM.trans (if_neg fun z => absurd z.1 (by decide))).trans ((zu_MM.trans (if_neg fun z => absurd z.1 (by decide))).trans (zu_MM.trans (if_neg fun z => absurd z.1 (by decide))))
  have n63 : ∀ j, (zs_uM (zs_uM (zs_uM h 64 (3 * D) (nI p)) 64 (3 * D + 1) (nI e)) 64 (3 * D + 2) (nI base)).2.1 63 j = h.2.1 63 j := fun j => (zu_MM.trans (if_neg fun z => absurd z.1 (by decide))).trans ((zu_MM.trans (if_neg fun z => absurd z.1 (by decide))).trans (zu_MM.trans (if_neg fun z => absurd z.1 (by decide))))
  have n64 : ∀ j, (zs_uM (zs_uM (zs_uM h 64 (3 * D) (nI p)) 64 (3 * D + 1) (nI e)) 64 (3 * D + 2) (nI base)).2.1 64 j = if j = 3 * D + 2 then nI base else if j = 3 * D + 1 then nI e else if j = 3 * D then nI p else h.2.1 64 j := fun j => by
    rw [zu_MM, zu_MM, zu_MM]
    simp only [true_and]
  refine ⟨_, rfl, ⟨⟨fun j hj => (n62 j).trans (a1 j hj), a2, yE_kf (fun j _ => n63 j) a3, a4⟩, rfl, rfl, rfl, rfl⟩, ⟨zfr_F (by decide) (zfr_F (by decide) (zfr_F (by decide) (zfr_F (by decide) (zfr_M (by decide) (zfr_M (by decide) (zfr_M (by decide) zfr_rfl)))))), fun j hj => (n64 j).trans ?_⟩, (n64 _).trans ?_, (n64 _).trans ?_, (n64 _).trans (if_pos rfl)⟩
  · rw [if_neg (by omega), if_neg (by omega), if_neg (by omega)]
  · rw [if_neg (by omega), if_neg (by omega), if_pos rfl]
  · rw [if_neg (by omega), if_pos rfl]
/-- an instruction that calls nothing -/
theorem yR_nc {d : Nat} (H : yR_s h (c, S, n) p e base D) (hp : p < e) (he : e ≤ 4000) (hD : 0 < D ∧ D ≤ 17) (m : yC_m h p i) (ho : i.1 < 19) (h1 : n + 1 ≤ (yE_1 pl tm U base i (c, S, n)).1.2.2) (hd : yR_D pl tm U (yR_g h (p + 1) (n + 1)) p e base D n i c S) : ∃ h' k, 2 * n + k ≤ 2 * (yE_1 pl tm U base i (c, S, n)).1.2.2 ∧ ((yE_1 pl tm U base i (c, S, n)).2 = 0 → yR_G h p h' (p + 1) k ∧ yR_f D h h' ∧ yR_s h' (yE_1 pl tm U base i (c, S, n)).1 (p + 1) e base D) ∧ ((yE_1 pl tm U base i (c, S, n)).2 = 3 ∨ (yE_1 pl tm U base i (c, S, n)).2 = 4 → yR_Fl h p (yE_1 pl tm U base i (c, S, n)).2 h' k ∧ yR_J h h' (yE_1 pl tm U base i (c, S, n))) := by
  obtain ⟨v, h', a1, a2, a3⟩ := hd
  have gs := (yR_gs H).2
  generalize yE_1 pl tm U base i (c, S, n) = r at h1 a3
  refine ⟨h', 1, by omega, fun z => ⟨fun N t ht => ?_, yR_ft gs a2, (a3.1 z).2⟩, fun z => ⟨fun N t ht => ?_, zfr_trans gs.1 a2.1, (a3.2 z).2⟩⟩
  · rw [yR_go H hp he hD m ho (by omega), a1, yR_zB, (a3.1 z).1]
  · have hv := (a3.2 z).1
    rw [yR_go H hp he hD m ho (by omega), a1, yR_zB, ← hv]
    refine yR_end ?_
    rw [hv]
    split
    · exact (show ¬ (-3 : Int32) = 0 by decide)
    · exact (show ¬ (-4 : Int32) = 0 by decide)
/-- an instruction that calls -/
theorem yR_ca {u b1 k : Nat} {h1 h' : zs_H} (H : yR_s h (c, S, n) p e base D) (hp : p < e) (he : e ≤ 4000) (hD : 0 < D ∧ D ≤ 17) (m : yC_m h p i) (ho : i.1 < 19) (hm : 10 ≤ i.1) (eU : yE_1 pl tm U base i (c, S, n) = U u b1 (c, S, n + 1)) (mv : f_Mc_move (yR_g h (p + 1) (n + 1)) (nI p) = some (0, h1)) (a2 : 2 * (n + 1) + k ≤ 2 * (U u b1 (c, S, n + 1)).1.2.2 + 1) (a3 : (U u b1 (c, S, n + 1)).2 = 0 → yR_G h1 0 h' 0 k ∧ yR_f D (yR_g h (p + 1) (n + 1)) h' ∧ yR_s h' (U u b1 (c, S, n + 1)).1 (p + 1) e base D) (a4 : (U u b1 (c, S, n + 1)).2 = 3 ∨ (U u b1 (c, S, n + 1)).2 = 4 → yR_Fl h1 0 (U u b1 (c, S, n + 1)).2 h' k ∧ yR_J (yR_g h (p + 1) (n + 1)) h' (U u b1 (c, S, n + 1))) : ∃ h' k, 2 * n + k ≤ 2 * (yE_1 pl tm U base i (c, S, n)).1.2.2 ∧ ((yE_1 pl tm U base i (c, S, n)).2 = 0 → yR_G h p h' (p + 1) k ∧ yR_f D h h' ∧ yR_s h' (yE_1 pl tm U base i (c, S, n)).1 (p + 1) e base D) ∧ ((yE_1 pl tm U base i (c, S, n)).2 = 3 ∨ (yE_1 pl tm U base i (c, S, n)).2 = 4 → yR_Fl h p (yE_1 pl tm U base i (c, S, n)).2 h' k ∧ yR_J h h' (yE_1 pl tm U base i (c, S, n))) := by
  have gs := (yR_gs H).2
  rw [eU]
  generalize U u b1 (c, S, n + 1) = r at a2 a3 a4
  refine ⟨h', k + 1, by omega, fun z => ⟨fun N t ht => ?_, yR_ft gs (a3 z).2.1, (a3 z).2.2⟩, fun z => ⟨fun N t ht => ?_, zfr_trans gs.1 (a4 z).2.1, (a4 z).2.2⟩⟩
  · rw [show N + (k + 1) = N + k + 1 by omega, yR_go H hp he hD m ho (by omega), if_pos hm, mv, yR_zB, (a3 z).1 N (t + 1) (by omega), show t + 1 + k = t + (k + 1) by omega]
  · rw [show N + 1 + (k + 1) = N + 1 + k + 1 by omega, yR_go H hp he hD m ho (by omega), if_pos hm, mv, yR_zB, (a4 z).1 N (t + 1) (by omega)]
theorem yR_any (G : yG_h X Y kb pl tm B b base U) (H : yR_h X Y kb pl tm b base U h0) (f : zfr yR_F yR_M [] h0 h) (hs : yR_s h (c, S, n) p e base D) (hp : p < e) (he : e ≤ 4000) (hD : 0 < D ∧ D + b ≤ 16) (m : yC_m h p i) (W : yw_i X Y kb b lo i) (A : List Int32) (eS : S = A ++ S0) (ht : yo_t i.1 ≤ A.length) (hl : S.length + 64 * b ≤ 1088) (hh : A.length - yo_t i.1 + yo_l i.1 + S0.length ≤ 1088) : ∃ h' k, 2 * n + k ≤ 2 * (yE_1 pl tm U base i (c, S, n)).1.2.2 ∧ ((yE_1 pl tm U base i (c, S, n)).2 = 0 → yR_G h p h' (p + 1) k ∧ yR_f D h h' ∧ yR_s h' (yE_1 pl tm U base i (c, S, n)).1 (p + 1) e base D) ∧ ((yE_1 pl tm U base i (c, S, n)).2 = 3 ∨ (yE_1 pl tm U base i (c, S, n)).2 = 4 → yR_Fl h p (yE_1 pl tm U base i (c, S, n)).2 h' k ∧ yR_J h h' (yE_1 pl tm U base i (c, S, n))) := by
  obtain ⟨H1, ⟨H2, H3⟩, H4, H5, H6, H7⟩ := H
  have gs := yR_gs hs
  have f2 := zfr_trans f gs.2.1
  have oi := yP_wo (b := b) (by omega) W
  have o19 : i.1 < 19 := by have := oi.1; omega
  have D17 : 0 < D ∧ D ≤ 17 := by omega
  have bp : ∀ u, u < b → (kb u).1 = 1 → ((yR_g h (p + 1) (n + 1)).2.1 27) (9 + u) = nI (pl u) := fun u h1 h2 => by rw [f2.2.1 _ (by decide)]; exact (H6 u h1 h2).2.2
  have m' := yR_m gs.2.1 m
  obtain ⟨_, _, o3, _⟩ := yG_1 (tm := tm) G.1 ⟨G.2.1.1, G.2.1.2 b (Nat.le_refl _)⟩ G.2.2.1 G.2.2.2.2.2.1 G.2.2.2.2.2.2 W A S0 c n ht
  have lS : S.length = A.length + S0.length := by rw [eS]; exact List.length_append
  rw [← eS] at o3
  have o3' : n + 1 ≤ (yE_1 pl tm U base i (c, S, n)).1.2.2 := o3
  have ht' : yo_t i.1 ≤ S.length := by omega
  have hb : yR_b (yR_g h (p + 1) (n + 1)) p e base D n i c S := ⟨by omega, m', gs.1, by omega⟩
  have nc := yR_nc (d := 0) hs hp he D17 m o19 o3'
  rcases W with W | ⟨e0, x, e1, W⟩ | ⟨e0, x, s, e1, e2, W⟩ | ⟨e0, u, x, e1, e2, W1, W2, W3⟩ | ⟨e0, B', x, e1, e2, W1, W2⟩
  · rcases W with e0 | e0 | ⟨e0, x, e1, W⟩ | ⟨e0, x, s, e1, e2, W⟩ | ⟨e0, e2, u, e1, W1, W2⟩ | ⟨e0, u, x, e1, e2, W1, W2, W3⟩ | ⟨e0, _⟩ | ⟨e0, _⟩ | ⟨e0, u, e1, W1, W2⟩
    · rw [e0] at hh
      have hh' : A.length - 0 + 1 + S0.length ≤ 1088 := hh
      exact nc (yR_0 hb e0 (by omega))
    · refine nc ?_
      rw [e0] at ht'
      obtain ⟨x1, A1, rfl, l1⟩ := yG_c1 (A := S) (Nat.le_trans (by decide) ht')
      have ht1 : 3 ≤ A1.length + 1 := ht'
      obtain ⟨x2, A2, rfl, l2⟩ := yG_c1 (A := A1) (by omega)
      have ht2 : 3 ≤ A2.length + 1 + 1 := ht'
      obtain ⟨x3, A3, rfl, l3⟩ := yG_c1 (A := A2) (by omega)
      exact yR_9 hb e0
    · rw [e0] at hh
      have hh' : A.length - 0 + 1 + S0.length ≤ 1088 := hh
      exact nc (yR_1 hb e0 (by omega) e1 (by omega))
    · refine nc ?_
      rw [e0] at ht'
      obtain ⟨x1, A1, rfl, l1⟩ := yG_c1 (A := S) ht'
      exact yR_3 hb e0 e1 e2 (by omega)
    · rw [e0] at hh
      have hh' : A.length - 0 + 1 + S0.length ≤ 1088 := hh
      exact nc (yR_5 (x := 0) hb e0 (by omega) e1 (by rw [e2]; rfl) (by omega) (bp u W1 W2) (by have := (H6 u W1 W2).2.1; omega))
    · refine nc ?_
      rw [e0] at ht'
      obtain ⟨x1, A1, rfl, l1⟩ := yG_c1 (A := S) ht'
      exact yR_6 hb e0 e1 e2 (by omega) (bp u W1 W2) (by have := (H6 u W1 W2).2.1; omega)
    · refine nc ?_
      rw [e0] at ht'
      obtain ⟨x1, A1, rfl, l1⟩ := yG_c1 (A := S) (Nat.le_trans (by decide) ht')
      have ht1 : 2 ≤ A1.length + 1 := ht'
      obtain ⟨x2, A2, rfl, l2⟩ := yG_c1 (A := A1) (by omega)
      exact yR_7 hb e0
    · refine nc ?_
      rw [e0] at ht'
      obtain ⟨x1, A1, rfl, l1⟩ := yG_c1 (A := S) ht'
      exact yR_8 hb e0
    · obtain ⟨d1, d2, d3⟩ := H6 u W1 W2
      obtain ⟨h1, h', k, a1, a2, a3, a4⟩ := H4 u (pl u) (c, S, n + 1) (yR_g h (p + 1) (n + 1)) (p + 1) e base D W1 f2 gs.1 (by omega) (by show S.length + _ ≤ _; omega) d2.2 d1
      refine yR_ca hs hp he D17 m o19 (by omega) ?_ ?_ a2 a3 a4
      · unfold yE_1
        simp (config := { decide := true }) only [e0, if_false, if_true, e1, nI_clamp (show u < 2147483648 by omega)]
      · obtain ⟨m1, m2, _, _⟩ := m'
        rw [e0] at m1
        rw [e1] at m2
        unfold f_Mc_move
        rw [if_pos (zi_in (by omega) (by omega)), nI_clamp (n := p) (by omega), m1, m2, if_neg (by decide), if_neg (by decide), if_neg (by decide), if_neg (by decide), if_neg (by decide), if_neg (by decide), if_pos (by decide), show (9 : Int32) + nI u = nI (9 + u) from zc_da 9 u, if_pos (zi_in (by omega) (by omega)), nI_clamp (n := 9 + u) (by omega), bp u W1 W2, a1, Option.bind_some]
  · refine nc ?_
    rw [e0] at ht'
    obtain ⟨x1, A1, rfl, l1⟩ := yG_c1 (A := S) ht'
    exact yR_2 hb e0 e1 (by omega)
  · refine nc ?_
    rw [e0] at ht'
    obtain ⟨x1, A1, rfl, l1⟩ := yG_c1 (A := S) (Nat.le_trans (by decide) ht')
    have ht1 : 2 ≤ A1.length + 1 := ht'
    obtain ⟨x2, A2, rfl, l2⟩ := yG_c1 (A := A1) (by omega)
    exact yR_4 hb e0 e1 e2 (by omega)
  · obtain ⟨h1, h', k, a1, a2, a3, a4⟩ := H4 u (base + x) (c, S, n + 1) (yR_g h (p + 1) (n + 1)) (p + 1) e base D W1 f2 gs.1 (by omega) (by show S.length + _ ≤ _; omega) (by omega) (fun w hw hk => by
      rcases H7 w (by omega) hk with z | z
      · exact .inl (by omega)
      · exact .inr (by omega))
    refine yR_ca hs hp he D17 m o19 (by omega) ?_ ?_ a2 a3 a4
    · unfold yE_1
      simp (config := { decide := true }) only [e0, if_false, if_true, e1, e2, nI_clamp (show u < 2147483648 by omega), nI_clamp (show x < 2147483648 by omega)]
    · obtain ⟨m1, m2, m3, _⟩ := m'
      rw [e0] at m1
      rw [e1] at m2
      rw [e2] at m3
      unfold f_Mc_move
      rw [if_pos (zi_in (by omega) (by omega)), nI_clamp (n := p) (by omega), m1, m2, m3, gs.1.2.2.2.1, nI_add base x, if_neg (by decide), if_neg (by decide), if_neg (by decide), if_neg (by decide), if_neg (by decide), if_pos (by decide), a1, Option.bind_some]
  · exact nc (yR_17 hb e0 H5 f2 e1 e2 W1 (by omega))
end YRL
end
