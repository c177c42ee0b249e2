/-! The machine: a run over T on any machine that does single instructions. -/
abbrev yW_J : Type := zs_H → yE × Nat → Prop
abbrev yW_I : Type := zs_H → yE → Nat → Prop
abbrev yW_G : Type := zs_H → Nat → zs_H → Nat → Nat → Prop
abbrev yW_F : Type := zs_H → Nat → Nat → zs_H → Nat → Prop
/-- what a machine does; Kd: the code; I: a state at a place; J: behind a fault; G: it comes from one place to another in so many turns; F: it ends with a fault -/
def yW_M (X Y : Nat → Nat) (kb : Nat → yK) (pl : Nat → Nat) (tm : Nat → Nat → (Nat → Int32) → Nat → Int32) (b base : Nat) (U : Nat → Nat → yE → yE × Nat) (Kd : Nat → yI → Prop) (I : yW_I) (J : yW_J) (G : yW_G) (F : yW_F) (S0 : List Int32) (s0 sE : Nat) : Prop :=
  (∀ h p, G h p h p 0) ∧
  (∀ h p h1 p1 k1 h2 p2 k2, G h p h1 p1 k1 → G h1 p1 h2 p2 k2 → G h p h2 p2 (k1 + k2)) ∧
  (∀ h p h1 p1 k1 o h2 k2, G h p h1 p1 k1 → F h1 p1 o h2 k2 → F h p o h2 (k1 + k2)) ∧
  (∀ h p i t s, I h s p → Kd p i → s0 ≤ p → p < sE → (i.1 = 10 ∨ i.1 = 14) → i.2.1 = nI t → s0 ≤ t → t ≤ sE → s.2.1 = S0 → ∃ h', G h p h' t 1 ∧ I h' (s.1, s.2.1, s.2.2 + 1) t) ∧
  (∀ h p i s, I h s p → Kd p i → s0 ≤ p → p < sE → i.1 = 18 → s.2.1 = S0 → ∃ h', G h p h' sE 1 ∧ I h' (s.1, s.2.1, s.2.2 + 1) sE) ∧
  (∀ h p i t c y n, I h (c, y :: S0, n) p → Kd p i → s0 ≤ p → p < sE → i.1 = 11 → i.2.1 = nI t → s0 ≤ t → t ≤ sE → ∃ h', G h p h' (if y = 0 then t else p + 1) 1 ∧ I h' (c, S0, n + 1) (if y = 0 then t else p + 1)) ∧
  (∀ h p i x N s, I h s p → Kd p i → s0 ≤ p → p < sE → i.1 = 12 → i.2.1 = nI x → i.2.2.1 = nI N → Y b ≤ x ∧ x < X b → s.2.1 = S0 → ∃ h', G h p h' (p + 1) 1 ∧ I h' (yE_u s.1 (base + x) (nI N), s.2.1, s.2.2 + 1) (p + 1)) ∧
  (∀ h p i t x s, I h s p → Kd p i → s0 ≤ p → p < sE → i.1 = 13 → i.2.1 = nI t → i.2.2.1 = nI x → s0 ≤ t → t ≤ sE → Y b ≤ x ∧ x < X b → s.2.1 = S0 → ∃ h', if s.1 (base + x) = 0 then G h p h' t 1 ∧ I h' (s.1, s.2.1, s.2.2 + 1) t else G h p h' (p + 1) 1 ∧ I h' (yE_u s.1 (base + x) (s.1 (base + x) - 1), s.2.1, s.2.2 + 1) (p + 1)) ∧
  (∀ L lo d2 h p s, I h s p → (∀ k i, L[k]? = some i → Kd (p + k) i) → s0 ≤ p → p + L.length ≤ sE → Y b ≤ lo → (∀ i, i ∈ L → yw_i X Y kb b lo i) → yo_h 0 L = some d2 → yH_d 0 L = false → s.2.1 = S0 → ∃ h' k, 2 * s.2.2 + k ≤ 2 * (yE_L pl tm U base L s).1.2.2 ∧ ((yE_L pl tm U base L s).2 = 0 → G h p h' (p + L.length) k ∧ I h' (yE_L pl tm U base L s).1 (p + L.length)) ∧ ((yE_L pl tm U base L s).2 = 3 ∨ (yE_L pl tm U base L s).2 = 4 → F h p (yE_L pl tm U base L s).2 h' k ∧ J h' (yE_L pl tm U base L s)))
def yW_O (I : yW_I) (J : yW_J) (G : yW_G) (F : yW_F) (sE : Nat) (h : zs_H) (n e1 q : Nat) (s : yE) (r : yE × Nat) : Prop := ∃ h' k, 2 * s.2.2 + k ≤ 2 * r.1.2.2 ∧ (r.2 = 0 → G h n h' e1 k ∧ I h' r.1 e1) ∧ (r.2 = 1 → G h n h' q k ∧ I h' r.1 q) ∧ (r.2 = 2 → G h n h' sE k ∧ I h' r.1 sE) ∧ (r.2 = 3 ∨ r.2 = 4 → F h n r.2 h' k ∧ J h' r)
def yW_K (Kd : Nat → yI → Prop) (n : Nat) (L : List yJ) : Prop := ∀ k i, L[k]? = some i → Kd (n + k) i.1
def yW_V (X Y : Nat → Nat) (kb : Nat → yK) (pl : Nat → Nat) (tm : Nat → Nat → (Nat → Int32) → Nat → Int32) (b base : Nat) (U : Nat → Nat → yE → yE × Nat) (Kd : Nat → yI → Prop) (I : yW_I) (J : yW_J) (G : yW_G) (F : yW_F) (S0 : List Int32) (s0 sE : Nat) (T : ys) : Prop := ∀ (m n v q e lo : Nat) (h : zs_H) (s : yE), ((m = 0 ∧ yz_st T) ∨ (m = 1 ∧ yz_br T)) → yz_W X Y kb b T lo → Y b ≤ lo → yW_K Kd n (yz_c T n v q e) → s0 ≤ n → n + yz_l T ≤ sE → (m = 1 → e = n + yz_l T) → (v = 0 → yz_x T n = []) → (0 < v → s0 ≤ q ∧ q ≤ sE) → yH_D T true = false → I h s n → s.2.1 = S0 → yW_O I J G F sE h n (n + yz_l T) q s (yE_T pl tm U base T s) ∧ ((yE_T pl tm U base T s).2 = 0 → yH_r T true = true)
section YWV
variable {X Y : Nat → Nat} {kb : Nat → yK} {pl : Nat → Nat} {tm : Nat → Nat → (Nat → Int32) → Nat → Int32} {U : Nat → Nat → yE → yE × Nat} {B : Nat → Nat} {b base : Nat} {Kd : Nat → yI → Prop} {I : yW_I} {J : yW_J} {G : yW_G} {F : yW_F} {S0 : List Int32} {s0 sE : Nat}
theorem yW_Kl {n : Nat} {L1 L2 : List yJ} (K : yW_K Kd n (L1 ++ L2)) : yW_K Kd n L1 := by
  intro k i e
  refine K k i ?_
  rw [List.getElem?_append_left (by
    rcases Nat.lt_or_ge k L1.length with z | z
    · exact z
    · rw [List.getElem?_eq_none z] at e; cases e)]
  exact e
theorem yW_Kr {n : Nat} {L1 L2 : List yJ} (K : yW_K Kd n (L1 ++ L2)) : yW_K Kd (n + L1.length) L2 := by
  intro k i e
  have := K (L1.length + k) i (by rw [List.getElem?_append_right (Nat.le_add_right _ _), Nat.add_sub_cancel_left]; exact e)
  rwa [← Nat.add_assoc] at this
theorem yW_Kv {n v : Nat} {L : List yI} (K : yW_K Kd n (yv v L)) : ∀ k i, L[k]? = some i → Kd (n + k) i := fun k i e => K k (i, v) (by unfold yv; rw [List.getElem?_map, e]; rfl)
theorem yW_sq {h : zs_H} {n p e1 q : Nat} {s : yE} {r r2 : yE × Nat} (M : yW_M X Y kb pl tm b base U Kd I J G F S0 s0 sE) (O1 : yW_O I J G F sE h n p q s r) (h2 : r.2 = 0 → ∀ h', I h' r.1 p → yW_O I J G F sE h' p e1 q r.1 r2) : yW_O I J G F sE h n e1 q s (if r.2 = 0 then r2 else r) := by
  obtain ⟨h', k, a1, a2, a3, a4, a5⟩ := O1
  by_cases z : r.2 = 0
  · rw [if_pos z]
    obtain ⟨g1, i1⟩ := a2 z
    obtain ⟨h2', k2, b1, b2, b3, b4, b5⟩ := h2 z h' i1
    exact ⟨h2', k + k2, by omega, fun w => ⟨M.2.1 _ _ _ _ _ _ _ _ g1 (b2 w).1, (b2 w).2⟩, fun w => ⟨M.2.1 _ _ _ _ _ _ _ _ g1 (b3 w).1, (b3 w).2⟩, fun w => ⟨M.2.1 _ _ _ _ _ _ _ _ g1 (b4 w).1, (b4 w).2⟩, fun w => ⟨M.2.2.1 _ _ _ _ _ _ _ _ g1 (b5 w).1, (b5 w).2⟩⟩
  · rw [if_neg z]
    exact ⟨h', k, a1, fun w => absurd w z, a3, a4, a5⟩
theorem yW_pr {h h1 : zs_H} {n p e1 q k1 : Nat} {s s1 : yE} {r : yE × Nat} (M : yW_M X Y kb pl tm b base U Kd I J G F S0 s0 sE) (g1 : G h n h1 p k1) (hk : 2 * s.2.2 + k1 ≤ 2 * s1.2.2) (O1 : yW_O I J G F sE h1 p e1 q s1 r) : yW_O I J G F sE h n e1 q s r := by
  obtain ⟨h2', k2, b1, b2, b3, b4, b5⟩ := O1
  exact ⟨h2', k1 + k2, by omega, fun w => ⟨M.2.1 _ _ _ _ _ _ _ _ g1 (b2 w).1, (b2 w).2⟩, fun w => ⟨M.2.1 _ _ _ _ _ _ _ _ g1 (b3 w).1, (b3 w).2⟩, fun w => ⟨M.2.1 _ _ _ _ _ _ _ _ g1 (b4 w).1, (b4 w).2⟩, fun w => ⟨M.2.2.1 _ _ _ _ _ _ _ _ g1 (b5 w).1, (b5 w).2⟩⟩
theorem yW_0 {h : zs_H} {n q : Nat} {s : yE} (M : yW_M X Y kb pl tm b base U Kd I J G F S0 s0 sE) (i : I h s n) : yW_O I J G F sE h n n q s (s, 0) := ⟨h, 0, Nat.le_refl _, fun _ => ⟨M.1 _ _, i⟩, fun z => absurd z (show ¬ (0 : Nat) = 1 by decide), fun z => absurd z (show ¬ (0 : Nat) = 2 by decide), fun z => absurd z (show ¬ ((0 : Nat) = 3 ∨ (0 : Nat) = 4) by decide)⟩
theorem yW_L {h : zs_H} {n q lo d2 : Nat} {s : yE} {L : List yI} (H : yG_h X Y kb pl tm B b base U) (M : yW_M X Y kb pl tm b base U Kd I J G F S0 s0 sE) (i : I h s n) (K : ∀ k i, L[k]? = some i → Kd (n + k) i) (h1 : s0 ≤ n) (h2 : n + L.length ≤ sE) (hY : Y b ≤ lo) (W : ∀ i, i ∈ L → yw_i X Y kb b lo i) (e : yo_h 0 L = some d2) (hd : yH_d 0 L = false) (es : s.2.1 = S0) : yW_O I J G F sE h n (n + L.length) q s (yE_L pl tm U base L s) := by
  obtain ⟨h', k, a1, a2, a3⟩ := M.2.2.2.2.2.2.2.2 L lo d2 h n s i K h1 h2 hY W e hd es
  obtain ⟨o1, _, _, _⟩ := yG_Ls (c := (some 1, none, none)) H W e (yF_nM (x := 1) (.inl rfl)) s
  exact ⟨h', k, a1, a2, fun z => by omega, fun z => by omega, a3⟩
/-- what is left on the stack -/
theorem yW_S (H : yG_h X Y kb pl tm B b base U) {T : ys} {m lo : Nat} {s : yE} (hm : (m = 0 ∧ yz_st T) ∨ (m = 1 ∧ yz_br T)) (W : yz_W X Y kb b T lo) (hY : Y b ≤ lo) : (yE_T pl tm U base T s).2 ≤ 2 → (yE_T pl tm U base T s).1.2.1 = s.2.1 := (yG_T H T m lo (some 1, none, none) (some 1, none, none) s hm W hY (fun _ => rfl) (yF_nM (x := 1) (.inl rfl))).1.2.1
theorem yW_4 (H : yG_h X Y kb pl tm B b base U) {T : ys} {m lo : Nat} {s : yE} (hm : (m = 0 ∧ yz_st T) ∨ (m = 1 ∧ yz_br T)) (W : yz_W X Y kb b T lo) (hY : Y b ≤ lo) : (yE_T pl tm U base T s).2 ≤ 4 := (yG_T H T m lo (some 1, none, none) (some 1, none, none) s hm W hY (fun _ => rfl) (yF_nM (x := 1) (.inl rfl))).1.1
variable {p : List yI × Int32 × Int32} {o : Unit} {l r : ys}
/-- rounds of a loop -/
theorem yW_lp {body : yE → yE × Nat} {cc n len qo : Nat} (M : yW_M X Y kb pl tm b base U Kd I J G F S0 s0 sE) (h1 : s0 ≤ n) (h2 : n + (3 + len) ≤ sE) (hx : Y b ≤ cc ∧ cc < X b) {i13 i14 : yI} (e13 : i13 = (13, nI (n + (3 + len)), nI cc, 0)) (e14 : i14 = (14, nI (n + 1), 0, 0)) (K13 : Kd (n + 1) i13) (K14 : Kd (n + 2 + len) i14) (Hb : ∀ h s, I h s (n + 2) → s.2.1 = S0 → yW_O I J G F sE h (n + 2) (n + 2 + len) (n + (3 + len)) s (body s)) (Hc : ∀ s, (body s).1.1 (base + cc) = s.1 (base + cc)) (Hs : ∀ s, (body s).2 ≤ 2 → (body s).1.2.1 = s.2.1) (H4 : ∀ s, (body s).2 ≤ 4) : ∀ (m f : Nat) (s : yE) (h : zs_H), s.1 (base + cc) = nI m → m < f → m ≤ 1000000 → I h s (n + 1) → s.2.1 = S0 → yW_O I J G F sE h (n + 1) (n + (3 + len)) qo s (yE_l body (base + cc) f s) ∧ ((yE_l body (base + cc) f s).2 = 0 → (yE_l body (base + cc) f s).1.2.1 = S0) := by
  intro m
  induction m with
  | zero =>
    intro f s h e hf _ hi es
    obtain ⟨f, rfl⟩ : ∃ z, f = z + 1 := ⟨f - 1, by omega⟩
    have ez : s.1 (base + cc) = 0 := by rw [e]; rfl
    obtain ⟨h', a⟩ := M.2.2.2.2.2.2.2.1 h (n + 1) i13 (n + (3 + len)) cc s hi K13 (by omega) (by omega) (by rw [e13]) (by rw [e13]) (by rw [e13]) (by omega) h2 hx es
    rw [if_pos ez] at a
    rw [yE_l, if_pos ez]
    exact ⟨yW_pr M a.1 (s1 := (s.1, s.2.1, s.2.2 + 1)) (by show _ ≤ 2 * (s.2.2 + 1); omega) (yW_0 M a.2), fun _ => es⟩
  | succ m ih =>
    intro f s h e hf hm hi es
    obtain ⟨f, rfl⟩ : ∃ z, f = z + 1 := ⟨f - 1, by omega⟩
    have nz : ¬ s.1 (base + cc) = 0 := by rw [e]; exact mt (zc_eq (k := 0) (by decide) (by omega)).mp (by omega)
    have e1 : s.1 (base + cc) - 1 = nI m := by rw [e]; exact zi_sub (a := m + 1) (b := 1) (by omega)
    obtain ⟨h', a⟩ := M.2.2.2.2.2.2.2.1 h (n + 1) i13 (n + (3 + len)) cc s hi K13 (by omega) (by omega) (by rw [e13]) (by rw [e13]) (by rw [e13]) (by omega) h2 hx es
    rw [if_neg nz, e1] at a
    rw [yE_l, if_neg nz, e1]
    have Ob := Hb h' (yE_u s.1 (base + cc) (nI m), s.2.1, s.2.2 + 1) a.2 es
    have cl : (body (yE_u s.1 (base + cc) (nI m), s.2.1, s.2.2 + 1)).1.1 (base + cc) = nI m := (Hc _).trans (if_pos rfl)
    have sl : (body (yE_u s.1 (base + cc) (nI m), s.2.1, s.2.2 + 1)).2 ≤ 2 → (body (yE_u s.1 (base + cc) (nI m), s.2.1, s.2.2 + 1)).1.2.1 = S0 := fun z => (Hs _ z).trans es
    have l4 := H4 (yE_u s.1 (base + cc) (nI m), s.2.1, s.2.2 + 1)
    generalize body (yE_u s.1 (base + cc) (nI m), s.2.1, s.2.2 + 1) = w at Ob cl sl l4
    obtain ⟨h2', k, b1, b2, b3, b4, b5⟩ := Ob
    have b1' : 2 * (s.2.2 + 1) + k ≤ 2 * w.1.2.2 := b1
    by_cases z0 : w.2 = 0
    · rw [if_pos z0]
      obtain ⟨g2, i2⟩ := b2 z0
      obtain ⟨h3, g3, i3⟩ := M.2.2.2.1 h2' (n + 2 + len) i14 (n + 1) w.1 i2 K14 (by omega) (by omega) (.inr (by rw [e14])) (by rw [e14]) (by omega) (by omega) (sl (by omega))
      obtain ⟨O4, s4⟩ := ih f (w.1.1, w.1.2.1, w.1.2.2 + 1) h3 cl (by omega) (by omega) i3 (sl (by omega))
      refine ⟨?_, s4⟩
      refine yW_pr M a.1 (s1 := (yE_u s.1 (base + cc) (nI m), s.2.1, s.2.2 + 1)) (by show _ ≤ 2 * (s.2.2 + 1); omega) ?_
      refine yW_pr M g2 (s1 := w.1) b1 ?_
      exact yW_pr M g3 (s1 := (w.1.1, w.1.2.1, w.1.2.2 + 1)) (by show _ ≤ 2 * (w.1.2.2 + 1); omega) O4
    · rw [if_neg z0]
      by_cases z1 : w.2 = 1
      · rw [if_pos z1]
        obtain ⟨g2, i2⟩ := b3 z1
        refine ⟨?_, fun _ => sl (by omega)⟩
        refine yW_pr M a.1 (s1 := (yE_u s.1 (base + cc) (nI m), s.2.1, s.2.2 + 1)) (by show _ ≤ 2 * (s.2.2 + 1); omega) ?_
        exact yW_pr M g2 (s1 := w.1) b1 (yW_0 M i2)
      · rw [if_neg z1]
        refine ⟨?_, fun z => absurd z z0⟩
        refine yW_pr M a.1 (s1 := (yE_u s.1 (base + cc) (nI m), s.2.1, s.2.2 + 1)) (by show _ ≤ 2 * (s.2.2 + 1); omega) ?_
        exact ⟨h2', k, b1, fun z => absurd z z0, fun z => absurd z z1, b4, b5⟩
end YWV
