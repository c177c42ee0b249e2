/-! The prover: how high the stack is: the class, loops and branches. -/
section YHE
variable {X Y : Nat → Nat} {kb : Nat → yK} {b bh : Nat} {p : List yI × Int32 × Int32} {o : Unit} {l r : ys}
theorem yH_vi {x y : Bool} (h : x = true → y = true) (z : Bool) : yH_v (z || y || x) = yH_v (z || y) := by
  cases x <;> cases y <;> cases z <;> first | rfl | exact absurd (h rfl) (by decide)
theorem yH_V2 (hbh : bh ≤ 4000) (ihl : yH_V X Y kb b bh l) (ihr : yH_V X Y kb b bh r) : yH_V X Y kb b bh (.inner 2 p o l r) := by
  intro m n v q qf e lo mo x h hm ⟨W1, W2⟩ hn K hx hq he hmo rn z0
  have hr : ((m = 0 ∧ yz_st r) ∨ (m = 1 ∧ yz_br r)) := hm.elim (fun z => .inl ⟨z.1, z.2.2⟩) (fun z => .inr ⟨z.1, z.2.2⟩)
  obtain ⟨cc, M, w1, w2, w3, w4, w5, w6, w7⟩ := (show ∃ c N, p.2.1 = nI c ∧ p.2.2 = nI N ∧ lo ≤ c ∧ c < X b ∧ N ≤ 1000000 ∧ yz_st l ∧ yz_W X Y kb b l (c + 1) from W1)
  have K' : yP_K h n ([(12, p.2.1, p.2.2, 0)] ++ ([(13, nI (n + (3 + yz_l l)), p.2.1, 0)] ++ ((yz_c l (n + 2) (v + 1) (n + (3 + yz_l l)) 0).map Prod.fst ++ ([(14, nI (n + 1), 0, 0)] ++ (yz_c r (n + (3 + yz_l l)) v q e).map Prod.fst)))) := by
    have : (yz_c (.inner 2 p o l r) n v q e).map Prod.fst = [(12, p.2.1, p.2.2, 0)] ++ ([(13, nI (n + (3 + yz_l l)), p.2.1, 0)] ++ ((yz_c l (n + 2) (v + 1) (n + (3 + yz_l l)) 0).map Prod.fst ++ ([(14, nI (n + 1), 0, 0)] ++ (yz_c r (n + (3 + yz_l l)) v q e).map Prod.fst))) := by
      show ([((12, p.2.1, p.2.2, 0), v)] ++ ([((13, nI (n + (3 + yz_l l)), p.2.1, 0), v)] ++ (yz_c l (n + 2) (v + 1) (n + (3 + yz_l l)) 0 ++ ([((14, nI (n + 1), 0, 0), v + 1)] ++ yz_c r (n + (3 + yz_l l)) v q e)))).map Prod.fst = _
      rw [List.map_append, List.map_append, List.map_append, List.map_append]; rfl
    rw [← this]; exact K
  have pieces : ∀ h : zs_H, yP_K h n ([(12, p.2.1, p.2.2, 0)] ++ ([(13, nI (n + (3 + yz_l l)), p.2.1, 0)] ++ ((yz_c l (n + 2) (v + 1) (n + (3 + yz_l l)) 0).map Prod.fst ++ ([(14, nI (n + 1), 0, 0)] ++ (yz_c r (n + (3 + yz_l l)) v q e).map Prod.fst)))) → yC_m h n (12, p.2.1, p.2.2, 0) ∧ yC_m h (n + 1) (13, nI (n + (3 + yz_l l)), p.2.1, 0) ∧ yP_K h (n + 2) ((yz_c l (n + 2) (v + 1) (n + (3 + yz_l l)) 0).map Prod.fst) ∧ yC_m h (n + 2 + yz_l l) (14, nI (n + 1), 0, 0) ∧ yP_K h (n + 2 + yz_l l + 1) ((yz_c r (n + (3 + yz_l l)) v q e).map Prod.fst) := by
    intro h K
    have Ka := yP_Kr (L1 := [_]) (yP_Kr (L1 := [_]) K)
    have Kb := yP_Kr Ka
    rw [List.length_map, yz_len] at Kb
    exact ⟨K 0 _ rfl, K 1 _ rfl, yP_Kl Ka, Kb 0 _ rfl, yP_Kr (L1 := [_]) Kb⟩
  have e3 : n + 2 + yz_l l + 1 = n + (3 + yz_l l) := by omega
  have hn' : n + ((3 + yz_l l) + yz_l r) ≤ bh := hn
  have hq' : (0 < v ∧ qf = q ∧ n + ((3 + yz_l l) + yz_l r) < q ∧ q ≤ 4000) ∨ (v = 0 ∧ qf ≤ n) := hq
  have z0' : ∀ j, n < j → j < n + ((3 + yz_l l) + yz_l r) → h.2.1 53 j = 0 := z0
  -- COUNT
  obtain ⟨h1, mo1, a1, a2, a3, a4⟩ := yH_one (d := 0) (x := x) (show n < bh by omega) hbh hmo (by omega) (pieces h K').1 (show (12 : Nat) < 19 by decide) (show yo_t 12 ≤ 0 by decide) (show 0 - yo_t 12 + yo_l 12 ≤ 64 by decide) rn (fun z => absurd z (show ¬ ((12 : Nat) = 10 ∨ (12 : Nat) = 11 ∨ (12 : Nat) = 13) by decide))
  replace a4 : h1 = if x = true then zs_uM h 53 (n + 1) 1 else h := a4
  have f1 : yH_fr n (n + (3 + yz_l l)) (n + 1) h h1 := by
    rw [a4]; split
    · exact yH_set (.inl (by omega))
    · exact yH_fr0
  have v1 : ∀ j, ¬ j = n + 1 → h1.2.1 53 j = h.2.1 53 j := fun j hj => by
    rw [a4]; split
    · exact zu_MM.trans (if_neg fun z => hj z.2)
    · rfl
  have r1 : h1.2.1 53 (n + 1) = yH_v x := by
    rw [a4]
    cases x with
    | true => exact zu_MM.trans (if_pos ⟨rfl, rfl⟩)
    | false => exact z0' (n + 1) (by omega) (by omega)
  have K1 := yH_Kf f1 K'
  -- NEXT
  obtain ⟨h2, mo2, b1, b2, b3, b4⟩ := yH_one (d := 0) (x := x) (show n + 1 < bh by omega) hbh a2 (by omega) (pieces h1 K1).2.1 (show (13 : Nat) < 19 by decide) (show yo_t 13 ≤ 0 by decide) (show 0 - yo_t 13 + yo_l 13 ≤ 64 by decide) r1 (fun _ => ⟨n + (3 + yz_l l), rfl, by omega⟩)
  replace b4 : h2 = if x = true then zs_uM (zs_uM h1 53 (n + (3 + yz_l l)) 1) 53 (n + 2) 1 else h1 := by
    rw [b4]
    show (if x = true then zs_uM (zs_uM h1 53 (nI (n + (3 + yz_l l))).toNatClampNeg 1) 53 (n + 1 + 1) 1 else h1) = _
    rw [nI_clamp (by omega)]
  have f2 : yH_fr n (n + (3 + yz_l l)) (n + 1) h1 h2 := by
    rw [b4]; split
    · exact yH_frt (yH_set (h := h1) (t := n + (3 + yz_l l)) (lo := n) (hi := n + (3 + yz_l l)) (q := n + 1) (.inl (by omega))) (yH_set (t := n + 2) (lo := n) (hi := n + (3 + yz_l l)) (q := n + 1) (.inl (by omega))) (by omega) (by omega) (by omega) (by omega)
    · exact yH_fr0
  have v2 : ∀ j, ¬ j = n + 1 → ¬ j = n + 2 → ¬ j = n + (3 + yz_l l) → h2.2.1 53 j = h.2.1 53 j := fun j j1 j2 j3 => by
    refine Eq.trans ?_ (v1 j j1)
    rw [b4]; split
    · exact zu_MM.trans ((if_neg fun z => j2 z.2).trans (zu_MM.trans (if_neg fun z => j3 z.2)))
    · rfl
  have r2 : h2.2.1 53 (n + 2) = yH_v x := by
    rw [b4]
    cases x with
    | true => exact zu_MM.trans (if_pos ⟨rfl, rfl⟩)
    | false => exact (v1 (n + 2) (by omega)).trans (z0' (n + 2) (by omega) (by omega))
  have rt : ∀ y, h.2.1 53 (n + (3 + yz_l l)) = yH_v y → h2.2.1 53 (n + (3 + yz_l l)) = yH_v (y || x) := fun y hy => by
    rw [b4]
    cases x with
    | true =>
      rw [Bool.or_true]
      exact zu_MM.trans ((if_neg fun z => by omega).trans (zu_MM.trans (if_pos ⟨rfl, rfl⟩)))
    | false =>
      rw [Bool.or_false]
      exact (v1 _ (by omega)).trans hy
  have K2 := yH_Kf f2 K1
  -- the body
  obtain ⟨h3, mo3, c1, c2, c3, c4, c5, c6⟩ := ihl 0 (n + 2) (v + 1) (n + (3 + yz_l l)) (n + (3 + yz_l l)) 0 (cc + 1) mo2 x h2 (.inl ⟨rfl, w6⟩) w7 (by omega) (pieces h2 K2).2.2.1 (fun z => absurd z (Nat.succ_ne_zero v)) (.inl ⟨by omega, rfl, by omega, by omega⟩) (fun z => absurd z (by decide)) b2 r2 (fun j j1 j2 => (v2 j (by omega) (by omega) (by omega)).trans (z0' j (by omega) (by omega)))
  have r3 : h3.2.1 53 (n + 2 + yz_l l) = yH_v (yH_r l x) := by
    by_cases z : yz_l l = 0
    · have := c4 x (by rw [z, Nat.add_zero]; exact r2)
      rw [(yH_z l x z).1, Bool.or_self] at this
      rw [(yH_z l x z).1]; exact this
    · have := c4 false ((v2 (n + 2 + yz_l l) (by omega) (by omega) (by omega)).trans (z0' _ (by omega) (by omega)))
      rwa [Bool.false_or] at this
  have K3 := yH_Kf c6 K2
  -- BACK
  obtain ⟨h4, mo4, d1, d2, d3, d4⟩ := yH_one (d := 0) (x := yH_r l x) (show n + 2 + yz_l l < bh by omega) hbh c2 (by omega) (pieces h3 K3).2.2.2.1 (show (14 : Nat) < 19 by decide) (show yo_t 14 ≤ 0 by decide) (show 0 - yo_t 14 + yo_l 14 ≤ 64 by decide) r3 (fun z => absurd z (show ¬ ((14 : Nat) = 10 ∨ (14 : Nat) = 11 ∨ (14 : Nat) = 13) by decide))
  have e4 : h4 = h3 := by
    rw [d4]
    show (if yH_r l x = true then h3 else h3) = h3
    exact ite_self _
  subst e4
  have FA : yH_fr n (n + (3 + yz_l l)) qf h h4 := yH_frt (yH_frt f1 f2 (lo := n) (hi := n + (3 + yz_l l)) (q := n + 1) (by omega) (by omega) (by omega) (by omega)) c6 (by omega) (by omega) (by omega) (by omega)
  have A : yH_O bh h n (3 + yz_l l) v q qf mo x (yH_D l x) x := by
    refine ⟨h4, mo4, fun N => ?_, d2, ?_, fun y hy => ?_, fun hv y hy => ⟨false, fun z => (by cases z), ?_⟩, FA⟩
    · rw [show N + (3 + yz_l l) = (N + 1 + yz_l l + 1) + 1 by omega, a1]
      show f_Pv_highest_L37 (N + 1 + yz_l l + 1) h1 (nI bh) (nI mo1) (nI 0) (nI (n + 1)) = _
      rw [b1]
      show f_Pv_highest_L37 (N + 1 + yz_l l) h2 (nI bh) (nI mo2) (nI 0) (nI (n + 2)) = _
      rw [c1, d1, e3]
      rfl
    · rw [d3, c3, b3, a3]
    · obtain ⟨z, g1, g2⟩ := c5 (by omega) _ (rt y hy)
      rw [g2, yH_vi g1]
    · rw [Bool.or_false, c6.2.2 53 q (.inr ⟨by omega, by omega⟩), v2 q (by omega) (by omega) (by omega)]; exact hy
  exact yH_seq ihr A hr W2 hn' (by have := (pieces h K').2.2.2.2; rw [e3] at this; exact this) hx hq' he rn z0' id (fun _ => rfl)
theorem yH_V5 (hb : b ≤ 16) (hbh : bh ≤ 4000) (ihl : yH_V X Y kb b bh l) (ihr : yH_V X Y kb b bh r) : yH_V X Y kb b bh (.inner 5 p o l r) := by
  intro m n v q qf e lo mo x h hm ⟨W1, W2⟩ hn K hx hq he hmo rn z0
  have hr : ((m = 0 ∧ yz_st r) ∨ (m = 1 ∧ yz_br r)) := hm.elim (fun z => .inl ⟨z.1, z.2.2⟩) (fun z => .inr ⟨z.1, z.2.2⟩)
  have m1 : m = 1 := by
    rcases hm with ⟨_, z, _⟩ | ⟨z1, _⟩
    · exact absurd z (by decide)
    · exact z1
  subst m1
  obtain ⟨w, hw⟩ : ∃ w : Nat, w = if yz_f r = true then 0 else 1 := ⟨_, rfl⟩
  have W1' : yo_h 0 p.1 = some 1 ∧ (∀ i, i ∈ p.1 → yo_i X (fun u => (kb u).1 = 1) b i) ∧ yz_st l ∧ yz_W X Y kb b l lo := W1
  have p0 : 0 < p.1.length := by
    rcases Nat.eq_zero_or_pos p.1.length with z | z
    · have := W1'.1
      rw [List.eq_nil_of_length_eq_zero z] at this
      exact absurd this (by decide)
    · exact z
  have K' : yP_K h n (p.1 ++ ([(11, nI (n + (p.1.length + 1 + yz_l l + w)), 0, 0)] ++ ((yz_c l (n + p.1.length + 1) v q 0).map Prod.fst ++ ((if yz_f r = true then [] else [(10, nI e, 0, 0)]) ++ (yz_c r (n + (p.1.length + 1 + yz_l l + w)) v q e).map Prod.fst)))) := by
    have : (yz_c (.inner 5 p o l r) n v q e).map Prod.fst = p.1 ++ ([(11, nI (n + (p.1.length + 1 + yz_l l + w)), 0, 0)] ++ ((yz_c l (n + p.1.length + 1) v q 0).map Prod.fst ++ ((if yz_f r = true then [] else [(10, nI e, 0, 0)]) ++ (yz_c r (n + (p.1.length + 1 + yz_l l + w)) v q e).map Prod.fst))) := by
      rw [hw]
      show (yv v p.1 ++ ([((11, nI (n + (p.1.length + 1 + yz_l l + (if yz_f r = true then 0 else 1))), 0, 0), v)] ++ (yz_c l (n + p.1.length + 1) v q 0 ++ ((if yz_f r = true then [] else [((10, nI e, 0, 0), v)]) ++ yz_c r (n + (p.1.length + 1 + yz_l l + (if yz_f r = true then 0 else 1))) v q e)))).map Prod.fst = _
      rw [List.map_append, List.map_append, List.map_append, List.map_append, yv_m]
      by_cases z : yz_f r = true
      · simp only [if_pos z]; rfl
      · simp only [if_neg z]; rfl
    rw [← this]; exact K
  have lg : (if yz_f r = true then [] else [((10, nI e, 0, 0) : yI)]).length = w := by
    rw [hw]; split <;> rfl
  have pieces : ∀ h : zs_H, yP_K h n (p.1 ++ ([(11, nI (n + (p.1.length + 1 + yz_l l + w)), 0, 0)] ++ ((yz_c l (n + p.1.length + 1) v q 0).map Prod.fst ++ ((if yz_f r = true then [] else [(10, nI e, 0, 0)]) ++ (yz_c r (n + (p.1.length + 1 + yz_l l + w)) v q e).map Prod.fst)))) → yP_K h n p.1 ∧ yC_m h (n + p.1.length) (11, nI (n + (p.1.length + 1 + yz_l l + w)), 0, 0) ∧ yP_K h (n + p.1.length + 1) ((yz_c l (n + p.1.length + 1) v q 0).map Prod.fst) ∧ (¬ yz_f r = true → yC_m h (n + p.1.length + 1 + yz_l l) (10, nI e, 0, 0)) ∧ yP_K h (n + p.1.length + 1 + yz_l l + w) ((yz_c r (n + (p.1.length + 1 + yz_l l + w)) v q e).map Prod.fst) := by
    intro h K
    have Ka := yP_Kr K
    have Kb := yP_Kr (L1 := [_]) Ka
    have Kc := yP_Kr Kb
    rw [List.length_map, yz_len] at Kc
    have Kd := yP_Kr Kc
    rw [lg] at Kd
    refine ⟨yP_Kl K, Ka 0 _ rfl, yP_Kl Kb, fun z => ?_, Kd⟩
    rw [if_neg z] at Kc
    exact Kc 0 _ rfl
  have e3 : n + p.1.length + 1 + yz_l l + w = n + (p.1.length + 1 + yz_l l + w) := by omega
  have hx' : v = 0 → yz_x r (n + (p.1.length + 1 + yz_l l + w)) = [] ∧ yz_x l (n + p.1.length + 1) = [] := fun z => by
    have := hx z
    rw [hw]
    exact List.append_eq_nil_iff.mp this
  have eL : yz_l (.inner 5 p o l r) = (p.1.length + 1 + yz_l l + w) + yz_l r := by rw [hw]; rfl
  have he' := he rfl
  have w01 : w ≤ 1 := by rw [hw]; split <;> omega
  have wr : w = 0 → yz_l r = 0 := fun z => by
    cases r with
    | leaf => rfl
    | inner => rw [hw] at z; exact absurd z (show ¬ (1 : Nat) = 0 by decide)
  have eD : yH_D (.inner 5 p o l r) x = ((x && yH_d 0 p.1) || (yH_D l x || yH_D r x)) := rfl
  have eR : yH_r (.inner 5 p o l r) x = (yH_r l x || yH_r r x) := rfl
  rw [eL] at hn hq he' z0 ⊢
  rw [eD, eR]
  obtain ⟨P, hP⟩ : ∃ P, P = p.1.length := ⟨_, rfl⟩
  obtain ⟨Ll, hLl⟩ : ∃ Ll, Ll = yz_l l := ⟨_, rfl⟩
  obtain ⟨Lr, hLr⟩ : ∃ Lr, Lr = yz_l r := ⟨_, rfl⟩
  -- the question
  obtain ⟨h1, mo1, a1, a2, a3, a4, a5⟩ := yH_str hbh p.1 n 0 1 mo x h (by omega) (by omega) hmo W1'.1 (fun i hi => yP_io hb (W1'.2.1 i hi)) (yP_Kl K') rn (fun j j1 j2 => z0 j j1 (by omega))
  have r1 : h1.2.1 53 (n + p.1.length) = yH_v x := by
    have := a4 false (z0 _ (by omega) (by omega))
    rwa [Bool.false_or] at this
  have K1 := yH_Kf a5 K'
  have v1 : ∀ j, n + p.1.length < j → h1.2.1 53 j = h.2.1 53 j := fun j hj => a5.2.2 53 j (.inr ⟨by omega, by omega⟩)
  -- UNLESS
  obtain ⟨h2, mo2, b1, b2, b3, b4⟩ := yH_one (d := 1) (x := x) (show n + p.1.length < bh by omega) hbh a2 (by omega) (pieces h1 K1).2.1 (show (11 : Nat) < 19 by decide) (show yo_t 11 ≤ 1 by decide) (show 1 - yo_t 11 + yo_l 11 ≤ 64 by decide) r1 (fun _ => ⟨n + (p.1.length + 1 + yz_l l + w), rfl, by omega⟩)
  replace b4 : h2 = if x = true then zs_uM (zs_uM h1 53 (n + (p.1.length + 1 + yz_l l + w)) 1) 53 (n + p.1.length + 1) 1 else h1 := by
    rw [b4]
    show (if x = true then zs_uM (zs_uM h1 53 (nI (n + (p.1.length + 1 + yz_l l + w))).toNatClampNeg 1) 53 (n + p.1.length + 1) 1 else h1) = _
    rw [nI_clamp (by omega)]
  have f2 : yH_fr n (n + (p.1.length + 1 + yz_l l + w)) n h1 h2 := by
    rw [b4]; split
    · exact yH_frt (yH_set (h := h1) (t := n + (p.1.length + 1 + yz_l l + w)) (lo := n) (hi := n + (p.1.length + 1 + yz_l l + w)) (q := n) (.inl (by omega))) (yH_set (t := n + p.1.length + 1) (lo := n) (hi := n + (p.1.length + 1 + yz_l l + w)) (q := n) (.inl (by omega))) (by omega) (by omega) (by omega) (by omega)
    · exact yH_fr0
  have v2 : ∀ j, n + p.1.length + 1 < j → ¬ j = n + (p.1.length + 1 + yz_l l + w) → h2.2.1 53 j = h.2.1 53 j := fun j j1 j2 => by
    refine Eq.trans ?_ (v1 j (by omega))
    rw [b4]; split
    · exact zu_MM.trans ((if_neg fun z => by omega).trans (zu_MM.trans (if_neg fun z => j2 z.2)))
    · rfl
  have rt : ∀ y, h.2.1 53 (n + (p.1.length + 1 + yz_l l + w)) = yH_v y → h2.2.1 53 (n + (p.1.length + 1 + yz_l l + w)) = yH_v (y || x) := fun y hy => by
    rw [b4]
    cases x with
    | true =>
      rw [Bool.or_true]
      refine zu_MM.trans ?_
      split
      · rfl
      · exact zu_MM.trans (if_pos ⟨rfl, rfl⟩)
    | false =>
      rw [Bool.or_false]
      exact (v1 _ (by omega)).trans hy
  have K2 := yH_Kf f2 K1
  -- the body
  have body : ∃ h3 mo3, (∀ N, f_Pv_highest_L37 (N + yz_l l) h2 (nI bh) (nI mo2) (nI 0) (nI (n + p.1.length + 1)) = f_Pv_highest_L37 N h3 (nI bh) (nI mo3) (nI 0) (nI (n + p.1.length + 1 + yz_l l))) ∧ mo3 ≤ 6000 ∧ (64 < mo3 ↔ 64 < mo2 ∨ yH_D l x = true) ∧ (w = 1 → h3.2.1 53 (n + p.1.length + 1 + yz_l l) = yH_v (yH_r l x)) ∧ (∀ y, h.2.1 53 (n + (p.1.length + 1 + yz_l l + w)) = yH_v y → h3.2.1 53 (n + (p.1.length + 1 + yz_l l + w)) = yH_v (y || x)) ∧ (0 < v → ∀ y, h.2.1 53 q = yH_v y → ∃ z, (z = true → x = true) ∧ h3.2.1 53 q = yH_v (y || z)) ∧ (∀ j, n + p.1.length + 1 + yz_l l < j → ¬ j = n + (p.1.length + 1 + yz_l l + w) → ¬ j = qf → h3.2.1 53 j = h.2.1 53 j) ∧ yH_fr n (n + (p.1.length + 1 + yz_l l + w)) qf h2 h3 := by
    by_cases lz : yz_l l = 0
    · obtain ⟨i1, i2⟩ := yH_z l x lz
      refine ⟨h2, mo2, fun N => by rw [lz]; rfl, b2, by rw [i2]; exact ⟨fun z => .inl z, fun z => z.elim id (fun z => by cases z)⟩, fun z => ?_, rt, fun hv y hy => ⟨false, fun z => (by cases z), by rw [Bool.or_false, v2 q (by omega) (by omega)]; exact hy⟩, fun j j1 j2 _ => v2 j (by omega) j2, yH_fr0⟩
      rw [i1, lz, Nat.add_zero, b4]
      cases x with
      | true => exact zu_MM.trans (if_pos ⟨rfl, rfl⟩)
      | false => exact (v1 _ (by omega)).trans (z0 _ (by omega) (by omega))
    · have r2 : h2.2.1 53 (n + p.1.length + 1) = yH_v x := by
        rw [b4]
        cases x with
        | true => exact zu_MM.trans (if_pos ⟨rfl, rfl⟩)
        | false => exact (v1 _ (by omega)).trans (z0 _ (by omega) (by omega))
      obtain ⟨h3, mo3, c1, c2, c3, c4, c5, c6⟩ := ihl 0 (n + p.1.length + 1) v q qf 0 lo mo2 x h2 (.inl ⟨rfl, W1'.2.2.1⟩) W1'.2.2.2 (by omega) (pieces h2 K2).2.2.1 (fun z => (hx' z).2) (by omega) (fun z => absurd z (by decide)) b2 r2 (fun j j1 j2 => (v2 j (by omega) (by omega)).trans (z0 j (by omega) (by omega)))
      refine ⟨h3, mo3, c1, c2, c3, fun z => ?_, fun y hy => ?_, fun hv y hy => ?_, fun j j1 j2 j3 => (c6.2.2 53 j (.inr ⟨by omega, j3⟩)).trans (v2 j (by omega) j2), yH_frt c6 (yH_fr0 (lo := n) (hi := n) (q := n)) (by omega) (by omega) (.inl rfl) (by omega)⟩
      · have := c4 false ((v2 _ (by omega) (by omega)).trans (z0 _ (by omega) (by omega)))
        rwa [Bool.false_or] at this
      · by_cases z : w = 0
        · have q1 := rt y hy
          rw [show n + (p.1.length + 1 + yz_l l + w) = n + p.1.length + 1 + yz_l l by omega] at q1 ⊢
          have := c4 _ q1
          rw [yH_vi yH_rx] at this
          exact this
        · rw [c6.2.2 53 _ (.inr ⟨by omega, by omega⟩)]
          exact rt y hy
      · exact c5 hv y (by rw [v2 q (by omega) (by omega)]; exact hy)
  obtain ⟨h3, mo3, c1, c2, c3, c4, c5, c6, c7, c8⟩ := body
  have K3 := yH_Kf c8 K2
  -- the jump behind the choice
  have jump : ∃ h4 mo4, (∀ N, f_Pv_highest_L37 (N + w) h3 (nI bh) (nI mo3) (nI 0) (nI (n + p.1.length + 1 + yz_l l)) = f_Pv_highest_L37 N h4 (nI bh) (nI mo4) (nI 0) (nI (n + (p.1.length + 1 + yz_l l + w)))) ∧ mo4 ≤ 6000 ∧ (64 < mo4 ↔ 64 < mo3) ∧ (h4 = h3 ∧ w = 0 ∨ w = 1 ∧ h4 = if yH_r l x = true then zs_uM h3 53 e 1 else h3) := by
    by_cases z : yz_f r = true
    · have g0 : w = 0 := by rw [hw, if_pos z]
      exact ⟨h3, mo3, fun N => by rw [g0, Nat.add_zero, show n + (p.1.length + 1 + yz_l l + 0) = n + p.1.length + 1 + yz_l l by omega], c2, Iff.rfl, .inl ⟨rfl, g0⟩⟩
    · have g0 : w = 1 := by rw [hw, if_neg z]
      obtain ⟨h4, mo4, d1, d2, d3, d4⟩ := yH_one (d := 0) (x := yH_r l x) (show n + p.1.length + 1 + yz_l l < bh by omega) hbh c2 (by omega) ((pieces h3 K3).2.2.2.1 z) (show (10 : Nat) < 19 by decide) (show yo_t 10 ≤ 0 by decide) (show 0 - yo_t 10 + yo_l 10 ≤ 64 by decide) (c4 g0) (fun _ => ⟨e, rfl, by omega⟩)
      refine ⟨h4, mo4, fun N => ?_, d2, d3, .inr ⟨g0, ?_⟩⟩
      · rw [g0, d1, show n + (p.1.length + 1 + yz_l l + 1) = n + p.1.length + 1 + yz_l l + 1 by omega]; rfl
      · rw [d4]
        show (if yH_r l x = true then zs_uM h3 53 (nI e).toNatClampNeg 1 else h3) = _
        rw [nI_clamp (by omega)]
  obtain ⟨h4, mo4, d1, d2, d3, d4⟩ := jump
  have v4 : ∀ j, ¬ j = e → h4.2.1 53 j = h3.2.1 53 j := fun j hj => by
    rcases d4 with ⟨d4, _⟩ | ⟨_, d4⟩
    · rw [d4]
    · rw [d4]; split
      · exact zu_MM.trans (if_neg fun z => hj z.2)
      · rfl
  have f4 : yH_fr n (n + (p.1.length + 1 + yz_l l + w + yz_l r)) qf h3 h4 := by
    rcases d4 with ⟨d4, _⟩ | ⟨_, d4⟩
    · rw [d4]; exact yH_fr0
    · rw [d4]; split
      · exact yH_set (.inl (by omega))
      · exact yH_fr0
  have re : ∀ y, h3.2.1 53 e = yH_v y → w = 1 → h4.2.1 53 e = yH_v (y || yH_r l x) := fun y hy z => by
    rcases d4 with ⟨_, d4⟩ | ⟨_, d4⟩
    · omega
    · rw [d4]
      cases yH_r l x with
      | true => rw [if_pos rfl, Bool.or_true]; exact zu_MM.trans (if_pos ⟨rfl, rfl⟩)
      | false => rw [if_neg (by decide), Bool.or_false]; exact hy
  have FA : yH_fr n (n + (p.1.length + 1 + yz_l l + w + yz_l r)) qf h h4 := yH_frt (yH_frt (yH_frt a5 f2 (lo := n) (hi := n + (p.1.length + 1 + yz_l l + w + yz_l r)) (q := qf) (by omega) (by omega) (by omega) (by omega)) c8 (lo := n) (hi := n + (p.1.length + 1 + yz_l l + w + yz_l r)) (q := qf) (by omega) (by omega) (by omega) (by omega)) f4 (by omega) (by omega) (by omega) (by omega)
  have qc : 0 < v → ∀ y, h.2.1 53 q = yH_v y → ∃ z, (z = true → x = true) ∧ h4.2.1 53 q = yH_v (y || z) := fun hv y hy => by
    obtain ⟨z, g1, g2⟩ := c6 hv y hy
    exact ⟨z, g1, by rw [v4 q (by omega)]; exact g2⟩
  have run : ∀ N, f_Pv_highest_L37 (N + (p.1.length + 1 + yz_l l + w)) h (nI bh) (nI mo) (nI 0) (nI n) = f_Pv_highest_L37 N h4 (nI bh) (nI mo4) (nI 0) (nI (n + (p.1.length + 1 + yz_l l + w))) := fun N => by
    rw [show N + (p.1.length + 1 + yz_l l + w) = (N + w + yz_l l + 1) + p.1.length by omega, a1, b1]
    show f_Pv_highest_L37 (N + w + yz_l l) h2 (nI bh) (nI mo2) (nI 0) (nI (n + p.1.length + 1)) = _
    rw [c1, d1]
  have deep : 64 < mo4 ↔ 64 < mo ∨ ((x && yH_d 0 p.1) = true ∨ yH_D l x = true) := by
    rw [d3, c3, b3, a3, or_assoc]
  by_cases lz : yz_l r = 0
  · obtain ⟨i1, i2⟩ := yH_z r x lz
    rw [i1, i2, Bool.or_false, lz, Nat.add_zero]
    rw [lz, Nat.add_zero] at he' FA
    refine ⟨h4, mo4, run, d2, by rw [deep, Bool.or_eq_true], fun y hy => ?_, qc, FA⟩
    have q1 := c5 y hy
    have q2 : h4.2.1 53 (n + (p.1.length + 1 + yz_l l + w)) = yH_v (y || x) := by
      rcases Nat.eq_zero_or_pos w with z | z
      · rcases d4 with ⟨d4, _⟩ | ⟨d4, _⟩
        · rw [d4]; exact q1
        · omega
      · have := re _ (by rw [he']; exact q1) (by omega)
        rw [yH_vi yH_rx] at this
        rw [← he']; exact this
    rw [q2, Bool.or_comm (yH_r l x), ← Bool.or_assoc, yH_vi yH_rx]
  · have w1 : w = 1 := by
      rcases Nat.eq_zero_or_pos w with z | z
      · exact absurd (wr z) lz
      · omega
    have r4 : h4.2.1 53 (n + (p.1.length + 1 + yz_l l + w)) = yH_v x := by
      rw [v4 _ (by omega)]
      have := c5 false (z0 _ (by omega) (by omega))
      rwa [Bool.false_or] at this
    obtain ⟨h5, mo5, g1, g2, g3, g4, g5, g6⟩ := ihr 1 (n + (p.1.length + 1 + yz_l l + w)) v q qf e lo mo4 x h4 hr W2 (by omega) (by have := (pieces h4 (yH_Kf f4 K3)).2.2.2.2; rw [e3] at this; exact this) (fun z => (hx' z).1) (by omega) (fun _ => by omega) d2 r4 (fun j j1 j2 => by
      rw [v4 j (by omega), c7 j (by omega) (by omega) (by omega)]
      exact z0 j (by omega) (by omega))
    refine ⟨h5, mo5, fun N => ?_, g2, by rw [g3, deep, Bool.or_eq_true, Bool.or_eq_true, or_assoc, or_assoc], fun y hy => ?_, fun hv y hy => ?_, yH_frt FA g6 (by omega) (by omega) (.inl rfl) (.inl rfl)⟩
    · rw [show N + (p.1.length + 1 + yz_l l + w + yz_l r) = (N + yz_l r) + (p.1.length + 1 + yz_l l + w) by omega, run, g1, show n + (p.1.length + 1 + yz_l l + w) + yz_l r = n + (p.1.length + 1 + yz_l l + w + yz_l r) by omega]
    · rw [← Bool.or_assoc]
      rw [show n + (p.1.length + 1 + yz_l l + w + yz_l r) = n + (p.1.length + 1 + yz_l l + w) + yz_l r by omega] at hy ⊢
      refine g4 _ ?_
      rw [show n + (p.1.length + 1 + yz_l l + w) + yz_l r = e by omega] at hy ⊢
      refine re y ?_ w1
      rw [c7 e (by omega) (by omega) (by omega)]
      exact hy
    · obtain ⟨y1, k1, k2⟩ := qc hv y hy
      obtain ⟨y2, k3, k4⟩ := g5 hv _ k2
      exact ⟨y1 || y2, fun z => by rw [Bool.or_eq_true] at z; exact z.elim k1 k3, by rw [← Bool.or_assoc]; exact k4⟩
theorem yH_TC (hb : b ≤ 16) (hbh : bh ≤ 4000) : ∀ T : ys, yH_V X Y kb b bh T := by
  intro T
  induction T with
  | leaf =>
    intro m n v q qf e lo mo x h _ _ _ _ _ hq _ hmo rn _
    refine ⟨h, mo, fun _ => rfl, hmo, ⟨fun z => .inl z, fun z => z.elim id (fun z => by cases z)⟩, fun y hy => ?_, fun _ y hy => ⟨false, fun z => (by cases z), by rw [Bool.or_false]; exact hy⟩, yH_fr0⟩
    have hy' : h.2.1 53 n = yH_v y := hy
    show h.2.1 53 n = yH_v (y || x)
    have : yH_v x = yH_v y := rn.symm.trans hy'
    rw [rn]
    cases x <;> cases y <;> first | rfl | exact absurd this (by decide)
  | inner k p o l r ihl ihr =>
    by_cases h : k < 7
    · have : k = 0 ∨ k = 1 ∨ k = 2 ∨ k = 3 ∨ k = 4 ∨ k = 5 ∨ k = 6 := by omega
      rcases this with e | e | e | e | e | e | e <;> subst e
      · exact yH_V0 hb hbh ihr
      · exact yH_V1 ihl ihr
      · exact yH_V2 hbh ihl ihr
      · exact yH_V3 hbh ihr
      · exact yH_V4 hbh ihr
      · exact yH_V5 hb hbh ihl ihr
      · exact yH_V6 ihl ihr
    · intro m n v q qf e lo mo x h hm
      exfalso
      rcases hm with ⟨_, z, _⟩ | ⟨_, z, _⟩
      · omega
      · omega
end YHE
