/-! The coder: statements one after the other. -/
def yz_ap : ys → ys → ys
  | .leaf, u => u
  | .inner k p o l r, u => .inner k p o l (yz_ap r u)
def yz_br : ys → Prop
  | .leaf => True
  | .inner k _ _ _ r => (k = 5 ∨ (k = 6 ∧ yz_f r = true)) ∧ yz_br r
def yz_st : ys → Prop
  | .leaf => True
  | .inner k _ _ _ r => k ≤ 4 ∧ yz_st r
theorem yz_stap : ∀ t u : ys, yz_st t → yz_st u → yz_st (yz_ap t u) := by
  intro t
  induction t with
  | leaf => intro u _ h; exact h
  | inner k p o l r _ ih => intro u h1 h2; exact ⟨h1.1, ih u h1.2 h2⟩
theorem yz_apl : ∀ t u : ys, yz_st t → yz_l (yz_ap t u) = yz_l t + yz_l u := by
  intro t
  induction t with
  | leaf => intro u _; show yz_l u = 0 + yz_l u; omega
  | inner k p o l r _ ih =>
    intro u ⟨h1, h2⟩
    have e := ih u h2
    show (if k = 0 then p.1.length else if k = 1 then yz_l l else if k = 2 then 3 + yz_l l else if k = 3 then 1 else if k = 4 then 1 else if k = 5 then p.1.length + 1 + yz_l l + (if yz_f (yz_ap r u) = true then 0 else 1) else yz_l l) + yz_l (yz_ap r u) = (if k = 0 then p.1.length else if k = 1 then yz_l l else if k = 2 then 3 + yz_l l else if k = 3 then 1 else if k = 4 then 1 else if k = 5 then p.1.length + 1 + yz_l l + (if yz_f r = true then 0 else 1) else yz_l l) + yz_l r + yz_l u
    rw [if_neg (show ¬ k = 5 by omega), if_neg (show ¬ k = 5 by omega), e]
    omega
theorem yz_apc : ∀ (t u : ys) (n v q e : Nat), yz_st t → yz_c (yz_ap t u) n v q e = yz_c t n v q e ++ yz_c u (n + yz_l t) v q e := by
  intro t
  induction t with
  | leaf => intro u n v q e _; rfl
  | inner k p o l r _ ih =>
    intro u n v q e ⟨h1, h2⟩
    have E : ∀ T : ys, yz_c (.inner k p o l T) n v q e = if k = 0 then yv v p.1 ++ yz_c T (n + p.1.length) v q e else if k = 1 then yz_c l n v q (n + yz_l l) ++ yz_c T (n + yz_l l) v q e else if k = 2 then [((12, p.2.1, p.2.2, 0), v)] ++ ([((13, nI (n + (3 + yz_l l)), p.2.1, 0), v)] ++ (yz_c l (n + 2) (v + 1) (n + (3 + yz_l l)) 0 ++ ([((14, nI (n + 1), 0, 0), v + 1)] ++ yz_c T (n + (3 + yz_l l)) v q e))) else if k = 3 then [((10, nI q, 0, 0), v)] ++ yz_c T (n + 1) v q e else [((18, 0, 0, 0), v)] ++ yz_c T (n + 1) v q e := by
      intro T
      show (if k = 0 then _ else if k = 1 then _ else if k = 2 then _ else if k = 3 then _ else if k = 4 then _ else _) = _
      by_cases k4 : k = 4
      · rw [if_pos k4]
      · rw [if_neg k4]
        have : k = 0 ∨ k = 1 ∨ k = 2 ∨ k = 3 := by omega
        rcases this with e | e | e | e <;> subst e <;> rfl
    have El : yz_l (.inner k p o l r) = (if k = 0 then p.1.length else if k = 1 then yz_l l else if k = 2 then 3 + yz_l l else 1) + yz_l r := by
      show (if k = 0 then _ else if k = 1 then _ else if k = 2 then _ else if k = 3 then _ else if k = 4 then _ else _) + _ = _
      have : k = 0 ∨ k = 1 ∨ k = 2 ∨ k = 3 ∨ k = 4 := by omega
      rcases this with e | e | e | e | e <;> subst e <;> rfl
    show yz_c (.inner k p o l (yz_ap r u)) n v q e = _
    rw [E, E, El]
    by_cases k0 : k = 0
    · rw [if_pos k0, if_pos k0, if_pos k0, ih u _ _ _ _ h2, List.append_assoc, Nat.add_assoc]
    rw [if_neg k0, if_neg k0, if_neg k0]
    by_cases k1 : k = 1
    · rw [if_pos k1, if_pos k1, if_pos k1, ih u _ _ _ _ h2, List.append_assoc, Nat.add_assoc]
    rw [if_neg k1, if_neg k1, if_neg k1]
    by_cases k2 : k = 2
    · rw [if_pos k2, if_pos k2, if_pos k2, ih u _ _ _ _ h2, List.append_assoc, List.append_assoc, List.append_assoc, List.append_assoc, Nat.add_assoc n]
    rw [if_neg k2, if_neg k2, if_neg k2]
    by_cases k3 : k = 3
    · rw [if_pos k3, if_pos k3, ih u _ _ _ _ h2, List.append_assoc, Nat.add_assoc]
    rw [if_neg k3, if_neg k3, ih u _ _ _ _ h2, List.append_assoc, Nat.add_assoc]
theorem yz_apx : ∀ (t u : ys) (n : Nat), yz_st t → yz_x (yz_ap t u) n = yz_x u (n + yz_l t) ++ yz_x t n := by
  intro t
  induction t with
  | leaf => intro u n _; show yz_x u n = yz_x u (n + 0) ++ []; rw [List.append_nil]; rfl
  | inner k p o l r _ ih =>
    intro u n ⟨h1, h2⟩
    have E : ∀ T : ys, yz_x (.inner k p o l T) n = if k = 0 then yz_x T (n + p.1.length) else if k = 1 then yz_x T (n + yz_l l) ++ yz_x l n else if k = 2 then yz_x T (n + (3 + yz_l l)) else if k = 3 then yz_x T (n + 1) ++ [n] else yz_x T (n + 1) := by
      intro T
      show (if k = 0 then _ else if k = 1 then _ else if k = 2 then _ else if k = 3 then _ else if k = 4 then _ else _) = _
      have : k = 0 ∨ k = 1 ∨ k = 2 ∨ k = 3 ∨ k = 4 := by omega
      rcases this with e | e | e | e | e <;> subst e <;> rfl
    have El : yz_l (.inner k p o l r) = (if k = 0 then p.1.length else if k = 1 then yz_l l else if k = 2 then 3 + yz_l l else 1) + yz_l r := by
      show (if k = 0 then _ else if k = 1 then _ else if k = 2 then _ else if k = 3 then _ else if k = 4 then _ else _) + _ = _
      have : k = 0 ∨ k = 1 ∨ k = 2 ∨ k = 3 ∨ k = 4 := by omega
      rcases this with e | e | e | e | e <;> subst e <;> rfl
    show yz_x (.inner k p o l (yz_ap r u)) n = _
    rw [E, E, El]
    by_cases k0 : k = 0
    · rw [if_pos k0, if_pos k0, if_pos k0, ih u _ h2, Nat.add_assoc]
    rw [if_neg k0, if_neg k0, if_neg k0]
    by_cases k1 : k = 1
    · rw [if_pos k1, if_pos k1, if_pos k1, ih u _ h2, List.append_assoc, Nat.add_assoc]
    rw [if_neg k1, if_neg k1, if_neg k1]
    by_cases k2 : k = 2
    · rw [if_pos k2, if_pos k2, if_pos k2, ih u _ h2, Nat.add_assoc n]
    rw [if_neg k2, if_neg k2, if_neg k2]
    by_cases k3 : k = 3
    · rw [if_pos k3, if_pos k3, ih u _ h2, List.append_assoc, Nat.add_assoc]
    rw [if_neg k3, if_neg k3, ih u _ h2, Nat.add_assoc]
theorem yz_xn : ∀ (t : ys) (n : Nat), (yz_x t n).Nodup := by
  intro t
  induction t with
  | leaf => intro n; exact List.nodup_nil
  | inner k p o l r ihl ihr =>
    intro n
    have ap : ∀ a c, (∀ j i, j ∈ yz_x r a → i ∈ yz_x l c → ¬ j = i) → (yz_x r a ++ yz_x l c).Nodup := fun a c h => List.nodup_append.mpr ⟨ihr a, ihl c, fun j hj i hi => h j i hj hi⟩
    show (if k = 0 then _ else if k = 1 then _ else if k = 2 then _ else if k = 3 then _ else if k = 4 then _ else if k = 5 then _ else _ : List Nat).Nodup
    by_cases k0 : k = 0
    · rw [if_pos k0]; exact ihr _
    rw [if_neg k0]
    by_cases k1 : k = 1
    · rw [if_pos k1]; exact ap _ _ (fun j i hj hi e => by have := yz_xr _ _ _ hj; have := yz_xr _ _ _ hi; omega)
    rw [if_neg k1]
    by_cases k2 : k = 2
    · rw [if_pos k2]; exact ihr _
    rw [if_neg k2]
    by_cases k3 : k = 3
    · rw [if_pos k3]
      exact List.nodup_append.mpr ⟨ihr _, List.nodup_cons.mpr ⟨List.not_mem_nil, List.nodup_nil⟩, fun j hj i hi e => by have := yz_xr _ _ _ hj; have := List.mem_singleton.mp hi; omega⟩
    rw [if_neg k3]
    by_cases k4 : k = 4
    · rw [if_pos k4]; exact ihr _
    rw [if_neg k4]
    by_cases k5 : k = 5
    · rw [if_pos k5]; exact ap _ _ (fun j i hj hi e => by have := yz_xr _ _ _ hj; have := yz_xr _ _ _ hi; omega)
    rw [if_neg k5]
    exact ap _ _ (fun j i hj hi e => by have := yz_xr _ _ _ hj; have := yz_xr _ _ _ hi; omega)
theorem yz_gn : ∀ (t : ys) (n : Nat), (yz_g t n).Nodup := by
  intro t
  induction t with
  | leaf => intro n; exact List.nodup_nil
  | inner k p o l r ihl ihr =>
    intro n
    show (if k = 5 then _ else [] : List Nat).Nodup
    by_cases k5 : k = 5
    · rw [if_pos k5]
      refine List.nodup_append.mpr ⟨ihr _, ?_, fun j hj i hi e => ?_⟩
      · split
        · exact List.nodup_nil
        · exact List.nodup_cons.mpr ⟨List.not_mem_nil, List.nodup_nil⟩
      · by_cases w : yz_f r = true
        · rw [if_pos w] at hi; cases hi
        · rw [if_neg w] at hi hj
          have := yz_gr _ _ _ hj
          have := List.mem_singleton.mp hi
          omega
    · rw [if_neg k5]; exact List.nodup_nil
/-- what a row of statements leaves in the class, and in the model -/
def yC_R (n v q : Nat) (T : ys) (ow : Nat) (h h' : zs_H) : Prop := yC_H n ((yz_c T n v q 0).map Prod.fst) (yz_x T n) h h' ∧ (h'.1 47 4) = nI ow ∧ (n + yz_l T ≤ 4000 → yC_ch h' ((h.1 47 6)) (n + yz_l T) (yz_x T n) ((h'.1 47 6)))
def yM_R (s n v q : Nat) (T : ys) (w ww : Nat) (g g' : zs_H) : Prop := yM_H s n (yz_c T n v q 0) (yz_x T n) g g' ∧ (g'.1 68 64) = (g.1 68 64) ∧ (g'.1 68 66) = (g.1 68 66) ∧ (g'.1 68 68) = nI (w + (yz_x T n).length) ∧ yM_st ((g'.2.1 111)) s w (yz_x T n) ∧ (∀ k, k < w → (g'.2.1 111) k = (g.2.1 111) k) ∧ (∀ k, k < ww → (g'.2.1 110) k = (g.2.1 110) k)
section YR
variable {n v q s w ww ow ow2 u : Nat} {T U : ys} {h h1 h2 h' g g1 g2 g' h0 g0 : zs_H} {L : List yI}
theorem yz_ml : ((yz_c T n v q 0).map Prod.fst).length = yz_l T := by rw [List.length_map, yz_len]
theorem yC_Rap (hT : yz_st T) (A : yC_R n v q T ow h h1) (B : yC_R (n + yz_l T) v q U ow2 h1 h2) : yC_R n v q (yz_ap T U) ow2 h h2 := by
  obtain ⟨a1, a2, a3⟩ := A
  obtain ⟨b1, b2, b3⟩ := B
  have hl := yz_apl T U hT
  refine ⟨?_, b2, fun hn => ?_⟩
  · rw [yz_apc _ _ _ _ _ _ hT, List.map_append, yz_apx _ _ _ hT]
    refine yC_Hm (yC_Hap a1 (by rw [yz_ml]; exact b1)) (fun j hj => ?_)
    rcases List.mem_append.mp hj with z | z
    · exact List.mem_append.mpr (.inr z)
    · exact List.mem_append.mpr (.inl z)
  · rw [hl] at hn ⊢
    rw [yz_apx _ _ _ hT, show n + (yz_l T + yz_l U) = n + yz_l T + yz_l U by omega]
    have c1 := a3 (by omega)
    have c2 := b3 (by omega)
    have e : ∀ j, j < n + yz_l T → (h2.2.1 43) j = (h1.2.1 43) j := fun j hj => (b1.2.2 (by rw [yz_ml]; omega)).1 j hj _ (by decide)
    exact yC_cha _ _ _ _ _ _ (fun j hj => (yz_xr _ _ _ hj).1) c2 (yC_chf _ _ _ e c1) (by omega)
theorem yM_Rap (hT : yz_st T) (hw : (g.1 68 66) = nI ww) (A : yM_R s n v q T w ww g g1) (B : yM_R s (n + yz_l T) v q U (w + (yz_x T n).length) ww g1 g2) : yM_R s n v q (yz_ap T U) w ww g g2 := by
  obtain ⟨a1, a2, a3, a4, a5, a6, a7⟩ := A
  obtain ⟨b1, b2, b3, b4, b5, b6, b7⟩ := B
  refine ⟨?_, b2.trans a2, b3.trans a3, ?_, ?_, fun k hk => (b6 k (by omega)).trans (a6 k hk), fun k hk => (b7 k hk).trans (a7 k hk)⟩
  · rw [yz_apc _ _ _ _ _ _ hT, yz_apx _ _ _ hT]
    refine yM_Hm (yM_Hap a1 (by rw [yz_len]; exact b1)) (fun j hj => ?_)
    rcases List.mem_append.mp hj with z | z
    · exact List.mem_append.mpr (.inr z)
    · exact List.mem_append.mpr (.inl z)
  · rw [yz_apx _ _ _ hT, b4, List.length_append]
    congr 1
    omega
  · rw [yz_apx _ _ _ hT]
    refine yM_sta _ _ b5 (yM_stf _ (fun k hk => b6 k hk) a5)
/-- instructions alone -/
def yz_i (L : List yI) : ys := .inner 0 (L, 0, 0) () .leaf .leaf
theorem yC_R0 (ho : (h.1 47 4) = nI ow) (E : yC_E n L h h') : yC_R n v q (yz_i L) ow h h' := by
  have e : (yz_c (yz_i L) n v q 0).map Prod.fst = L := by
    show (yv v L ++ []).map Prod.fst = L
    rw [List.append_nil]
    unfold yv
    rw [List.map_map]
    exact List.map_id L
  refine ⟨by rw [e]; exact yC_EH E, (E.2.1.1 _ _ (by decide)).trans ho, fun _ => ?_⟩
  exact E.2.1.1 _ _ (by decide)
theorem yM_R0 (hl : (g.1 68 68) = nI w) (E : yM_E s n (yv v L) g g') : yM_R s n v q (yz_i L) w ww g g' := by
  have e : yz_c (yz_i L) n v q 0 = yv v L := List.append_nil _
  refine ⟨by rw [e]; exact yM_EH E, E.2.1.1 _ _ (by decide), E.2.1.1 _ _ (by decide), (E.2.1.1 _ _ (by decide)).trans hl, trivial, fun k _ => by rw [E.2.1.2.1 _ (by decide)], fun k _ => by rw [E.2.1.2.1 _ (by decide)]⟩
theorem yC_Rn (ho : (h.1 47 4) = nI ow) (e : (h.1 41 5) = nI n) : yC_R n v q .leaf ow h h := ⟨⟨e, zfr_rfl, fun _ => ⟨fun _ _ _ _ => rfl, fun k i z => by cases z⟩⟩, ho, fun _ => rfl⟩
theorem yM_Rn (hl : (g.1 68 68) = nI w) (e : (g.1 68 56) = nI n) : yM_R s n v q .leaf w ww g g := ⟨⟨e, zfr_rfl, fun _ => ⟨fun _ _ _ _ => rfl, fun k i z => by cases z⟩⟩, rfl, rfl, hl, trivial, fun _ _ => rfl, fun _ _ => rfl⟩
theorem yC_Rf (f : yC_f h0 h) (R : yC_R n v q T ow h h') : yC_f h0 h' ∧ (h'.1 41 5) = nI (n + yz_l T) ∧ (h'.1 47 4) = nI ow := ⟨zfr_trans f (zfr_w R.1.2.1 (by decide) (by decide) (by decide)), by have := R.1.1; rw [yz_ml] at this; exact this, R.2.1⟩
theorem yM_Rf (f : yM_f g0 g) (c : yM_c g n s u v) (R : yM_R s n v q T w ww g g') : yM_f g0 g' ∧ yM_c g' (n + yz_l T) s u v ∧ (g'.1 68 68) = nI (w + (yz_x T n).length) ∧ (g'.1 68 66) = (g.1 68 66) := by
  obtain ⟨⟨c1, c2⟩, ⟨c3, c4, c5⟩, c6, c7⟩ := c
  obtain ⟨r1, r2, r3, r4, _⟩ := R
  have e := r1.1
  rw [yz_len] at e
  exact ⟨zfr_trans f (zfr_w r1.2.1 (by decide) (by decide) (by decide)), ⟨⟨e, by omega⟩, ⟨(r1.2.1.1 _ _ (by decide)).trans c3, c4, by rw [r1.2.1.2.1 _ (by decide)]; exact c5⟩, r2.trans c6, (r1.2.1.1 _ _ (by decide)).trans c7⟩, r4, r3⟩
end YR
