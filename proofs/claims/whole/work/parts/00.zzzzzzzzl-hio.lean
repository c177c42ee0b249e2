/-! The prover: how high the stack is: the model, loops and branches. -/
section YDO
variable {X Y : Nat → Nat} {kb : Nat → yK} {b u s sz : Nat} {p : List yI × Int32 × Int32} {o : Unit} {l r : ys}
theorem yD_V2 (ihl : yD_V X Y kb b u s sz l) (ihr : yD_V X Y kb b u s sz r) : yD_V X Y kb b u s sz (.inner 2 p o l r) := by
  intro m n v q qf e lo x g hm ⟨W1, W2⟩ hs hn C K hx hq he rn z0
  have hr : ((m = 0 ∧ yz_st r) ∨ (m = 1 ∧ yz_br r)) := hm.elim (fun z => .inl ⟨z.1, z.2.2⟩) (fun z => .inr ⟨z.1, z.2.2⟩)
  obtain ⟨cc, M, w1, w2, w3, w4, w5, w6, w7⟩ := (show ∃ c N, p.2.1 = nI c ∧ p.2.2 = nI N ∧ lo ≤ c ∧ c < X b ∧ N ≤ 1000000 ∧ yz_st l ∧ yz_W X Y kb b l (c + 1) from W1)
  have cz := C.2.1
  have K' : yQ_K g s n ([((12, p.2.1, p.2.2, 0), v)] ++ ([((13, nI (n + (3 + yz_l l)), p.2.1, 0), v)] ++ (yz_c l (n + 2) (v + 1) (n + (3 + yz_l l)) 0 ++ ([((14, nI (n + 1), 0, 0), v + 1)] ++ yz_c r (n + (3 + yz_l l)) v q e)))) := K
  have pieces : ∀ g : zs_H, yQ_K g s n ([((12, p.2.1, p.2.2, 0), v)] ++ ([((13, nI (n + (3 + yz_l l)), p.2.1, 0), v)] ++ (yz_c l (n + 2) (v + 1) (n + (3 + yz_l l)) 0 ++ ([((14, nI (n + 1), 0, 0), v + 1)] ++ yz_c r (n + (3 + yz_l l)) v q e)))) → yM_m s g n ((12, p.2.1, p.2.2, 0), v) ∧ yM_m s g (n + 1) ((13, nI (n + (3 + yz_l l)), p.2.1, 0), v) ∧ yQ_K g s (n + 2) (yz_c l (n + 2) (v + 1) (n + (3 + yz_l l)) 0) ∧ yM_m s g (n + 2 + yz_l l) ((14, nI (n + 1), 0, 0), v + 1) ∧ yQ_K g s (n + 2 + yz_l l + 1) (yz_c r (n + (3 + yz_l l)) v q e) := by
    intro g K
    have Ka := yQ_Kr (L1 := [_]) (yQ_Kr (L1 := [_]) K)
    have Kb := yQ_Kr Ka
    rw [yz_len] at Kb
    exact ⟨K 0 _ rfl, K 1 _ rfl, yQ_Kl Ka, Kb 0 _ rfl, yQ_Kr (L1 := [_]) Kb⟩
  have e3 : n + 2 + yz_l l + 1 = n + (3 + yz_l l) := by omega
  have hn' : n + ((3 + yz_l l) + yz_l r) ≤ s + sz := hn
  have hq' : (0 < v ∧ qf = q ∧ n + ((3 + yz_l l) + yz_l r) < q ∧ q ≤ s + sz) ∨ (v = 0 ∧ qf ≤ n) := hq
  have z0' : ∀ j, n < j → j < n + ((3 + yz_l l) + yz_l r) → g.2.1 112 (j - s) = -1 := z0
  -- COUNT
  obtain ⟨g1, a1, a4⟩ := yD_one (d := 0) (x := x) hs (show n < s + sz by omega) (by omega) C (pieces g K').1 (show (12 : Nat) < 19 by decide) (show yo_t 12 ≤ 0 by decide) (show 0 - yo_t 12 + yo_l 12 ≤ 64 by decide) (rn (by omega)) (fun z => absurd z (show ¬ ((12 : Nat) = 10 ∨ (12 : Nat) = 11 ∨ (12 : Nat) = 13) by decide)) (fun z => absurd z (show ¬ (12 : Nat) = 14 by decide))
  replace a4 : g1 = if x = true then zs_uM g 112 (n + 1 - s) (nI 0) else g := a4
  have f1 : yD_fr s sz n (n + (3 + yz_l l)) (n + 1) g g1 := by
    rw [a4]; split
    · exact yD_set (by omega) (.inl (by omega))
    · exact yD_fr0
  have v1 : ∀ j, s ≤ j → ¬ j = n + 1 → g1.2.1 112 (j - s) = g.2.1 112 (j - s) := fun j js hj => by
    rw [a4]; split
    · exact zu_MM.trans (if_neg fun z => by have := z.2; omega)
    · rfl
  have r1 : g1.2.1 112 (n + 1 - s) = yD_v x := by
    rw [a4]
    cases x with
    | true => exact zu_MM.trans (if_pos ⟨rfl, rfl⟩)
    | false => exact z0' (n + 1) (by omega) (by omega)
  have K1 := yD_Kf f1 K'
  -- NEXT
  obtain ⟨g2, b1, b4⟩ := yD_one (d := 0) (x := x) (show s ≤ n + 1 by omega) (show n + 1 < s + sz by omega) (by omega) (yD_cf f1 C) (pieces g1 K1).2.1 (show (13 : Nat) < 19 by decide) (show yo_t 13 ≤ 0 by decide) (show 0 - yo_t 13 + yo_l 13 ≤ 64 by decide) r1 (fun _ => ⟨n + (3 + yz_l l), rfl, by omega, by omega⟩) (fun z => absurd z (show ¬ (13 : Nat) = 14 by decide))
  replace b4 : g2 = if x = true then zs_uM (zs_uM g1 112 (n + 2 - s) (nI 0)) 112 (n + (3 + yz_l l) - s) (nI 0) else g1 := by
    rw [b4]
    show (if x = true then zs_uM (zs_uM g1 112 (n + 1 + 1 - s) (nI 0)) 112 ((nI (n + (3 + yz_l l))).toNatClampNeg - s) (nI 0) else g1) = _
    rw [nI_clamp (by omega)]
  have f2 : yD_fr s sz n (n + (3 + yz_l l)) (n + 1) g1 g2 := by
    rw [b4]; split
    · exact yD_frt (yD_set (g := g1) (t := n + 2) (lo := n) (hi := n + (3 + yz_l l)) (q := n + 1) (by omega) (.inl (by omega))) (yD_set (t := n + (3 + yz_l l)) (lo := n) (hi := n + (3 + yz_l l)) (q := n + 1) (by omega) (.inl (by omega))) (by omega) (by omega) (by omega) (by omega)
    · exact yD_fr0
  have v2 : ∀ j, s ≤ j → ¬ j = n + 1 → ¬ j = n + 2 → ¬ j = n + (3 + yz_l l) → g2.2.1 112 (j - s) = g.2.1 112 (j - s) := fun j js j1 j2 j3 => by
    refine Eq.trans ?_ (v1 j js j1)
    rw [b4]; split
    · exact zu_MM.trans ((if_neg fun z => by have := z.2; omega).trans (zu_MM.trans (if_neg fun z => by have := z.2; omega)))
    · rfl
  have r2 : g2.2.1 112 (n + 2 - s) = yD_v x := by
    rw [b4]
    cases x with
    | true => exact zu_MM.trans ((if_neg fun z => by omega).trans (zu_MM.trans (if_pos ⟨rfl, rfl⟩)))
    | false => exact (v1 (n + 2) (by omega) (by omega)).trans (z0' (n + 2) (by omega) (by omega))
  have rt : ∀ y, g.2.1 112 (n + (3 + yz_l l) - s) = yD_v y → g2.2.1 112 (n + (3 + yz_l l) - s) = yD_v (y || x) := fun y hy => by
    rw [b4]
    cases x with
    | true =>
      rw [Bool.or_true]
      exact zu_MM.trans (if_pos ⟨rfl, rfl⟩)
    | false =>
      rw [Bool.or_false]
      exact (v1 _ (by omega) (by omega)).trans hy
  have K2 := yD_Kf f2 K1
  have C2 := yD_cf f2 (yD_cf f1 C)
  have F2 : yD_fr s sz n (n + (3 + yz_l l)) (n + 1) g g2 := yD_frt f1 f2 (by omega) (by omega) (by omega) (by omega)
  have A : yD_O u s sz g n (3 + yz_l l) v q qf x (yH_D l x) x := by
    have run2 : ∀ N, f_Mo_isDeep_L35 (N + (3 + yz_l l)) g (nI u) (nI sz) (nI (n - s)) = f_Mo_isDeep_L35 (N + 1 + yz_l l) g2 (nI u) (nI sz) (nI (n + 2 - s)) := fun N => by
      rw [show N + (3 + yz_l l) = (N + 1 + yz_l l + 1) + 1 by omega, a1, b1]
    -- the body
    rcases ihl 0 (n + 2) (v + 1) (n + (3 + yz_l l)) (n + (3 + yz_l l)) 0 (cc + 1) x g2 (.inl ⟨rfl, w6⟩) w7 (by omega) (by omega) C2 (pieces g2 K2).2.2.1 (fun z => absurd z (Nat.succ_ne_zero v)) (.inl ⟨by omega, rfl, by omega, by omega⟩) (fun z => absurd z (by decide)) (fun _ => r2) (fun j j1 j2 => (v2 j (by omega) (by omega) (by omega) (by omega)).trans (z0' j (by omega) (by omega))) with ⟨d, g3, c1, c2⟩ | ⟨d, g3, c1, c4, c5, c6⟩
    · exact .inl ⟨d, g3, fun N => (run2 N).trans (c1 (N + 1)), zfr_trans (yD_z F2) c2⟩
    · have r3 : g3.2.1 112 (n + 2 + yz_l l - s) = yD_v (yH_r l x) := by
        by_cases z : yz_l l = 0
        · have := c4 (by omega) x (by rw [z, Nat.add_zero]; exact r2)
          rw [(yH_z l x z).1, Bool.or_self] at this
          rw [(yH_z l x z).1]; exact this
        · have := c4 (by omega) false ((v2 (n + 2 + yz_l l) (by omega) (by omega) (by omega) (by omega)).trans (z0' _ (by omega) (by omega)))
          rwa [Bool.false_or] at this
      have K3 := yD_Kf c6 K2
      obtain ⟨g4, d1, d4⟩ := yD_one (d := 0) (x := yH_r l x) (show s ≤ n + 2 + yz_l l by omega) (show n + 2 + yz_l l < s + sz by omega) (by omega) (yD_cf c6 C2) (pieces g3 K3).2.2.2.1 (show (14 : Nat) < 19 by decide) (show yo_t 14 ≤ 0 by decide) (show 0 - yo_t 14 + yo_l 14 ≤ 64 by decide) r3 (fun z => absurd z (show ¬ ((14 : Nat) = 10 ∨ (14 : Nat) = 11 ∨ (14 : Nat) = 13) by decide)) (fun _ => ⟨n + 1, rfl, by omega, by omega⟩)
      have e4 : g4 = g3 := by
        rw [d4]
        show (if yH_r l x = true then g3 else g3) = g3
        exact ite_self _
      subst e4
      have FA : yD_fr s sz n (n + (3 + yz_l l)) qf g g4 := yD_frt F2 c6 (by omega) (by omega) (by omega) (by omega)
      refine .inr ⟨d, g4, fun N => ?_, fun hl y hy => ?_, fun hv hq2 y hy => ⟨false, fun z => (by cases z), ?_⟩, FA⟩
      · rw [run2, c1, d1, e3]
      · obtain ⟨z, k1, k2⟩ := c5 (by omega) hl _ (rt y hy)
        rw [k2, yD_vi k1]
      · rw [Bool.or_false, c6.2.2.2 q (by omega) hq2 (by omega) (by omega), v2 q (by omega) (by omega) (by omega) (by omega)]; exact hy
  exact yD_seq ihr A hr W2 hs hn' C (by have := (pieces g K').2.2.2.2; rw [e3] at this; exact this) hx hq' he rn z0' id (fun _ => rfl)
theorem yD_V5 (hb : b ≤ 16) (ihl : yD_V X Y kb b u s sz l) (ihr : yD_V X Y kb b u s sz r) : yD_V X Y kb b u s sz (.inner 5 p o l r) := by
  intro m n v q qf e lo x g hm ⟨W1, W2⟩ hs hn C K hx hq he rn z0
  have hr : ((m = 0 ∧ yz_st r) ∨ (m = 1 ∧ yz_br r)) := hm.elim (fun z => .inl ⟨z.1, z.2.2⟩) (fun z => .inr ⟨z.1, z.2.2⟩)
  have m1 : m = 1 := by
    rcases hm with ⟨_, z, _⟩ | ⟨z1, _⟩
    · exact absurd z (by decide)
    · exact z1
  subst m1
  have cz := C.2.1
  obtain ⟨w, hw⟩ : ∃ w : Nat, w = if yz_f r = true then 0 else 1 := ⟨_, rfl⟩
  have W1' : yo_h 0 p.1 = some 1 ∧ (∀ i, i ∈ p.1 → yo_i X (fun u => (kb u).1 = 1) b i) ∧ yz_st l ∧ yz_W X Y kb b l lo := W1
  have p0 : 0 < p.1.length := by
    rcases Nat.eq_zero_or_pos p.1.length with z | z
    · have := W1'.1
      rw [List.eq_nil_of_length_eq_zero z] at this
      exact absurd this (by decide)
    · exact z
  have K' : yQ_K g s n (yv v p.1 ++ ([((11, nI (n + (p.1.length + 1 + yz_l l + w)), 0, 0), v)] ++ (yz_c l (n + p.1.length + 1) v q 0 ++ ((if yz_f r = true then [] else [((10, nI e, 0, 0), v)]) ++ yz_c r (n + (p.1.length + 1 + yz_l l + w)) v q e)))) := by
    rw [hw]; exact K
  have lg : (if yz_f r = true then [] else [(((10, nI e, 0, 0), v) : yJ)]).length = w := by
    rw [hw]; split <;> rfl
  have pieces : ∀ g : zs_H, yQ_K g s n (yv v p.1 ++ ([((11, nI (n + (p.1.length + 1 + yz_l l + w)), 0, 0), v)] ++ (yz_c l (n + p.1.length + 1) v q 0 ++ ((if yz_f r = true then [] else [((10, nI e, 0, 0), v)]) ++ yz_c r (n + (p.1.length + 1 + yz_l l + w)) v q e)))) → yQ_K g s n (yv v p.1) ∧ yM_m s g (n + p.1.length) ((11, nI (n + (p.1.length + 1 + yz_l l + w)), 0, 0), v) ∧ yQ_K g s (n + p.1.length + 1) (yz_c l (n + p.1.length + 1) v q 0) ∧ (¬ yz_f r = true → yM_m s g (n + p.1.length + 1 + yz_l l) ((10, nI e, 0, 0), v)) ∧ yQ_K g s (n + p.1.length + 1 + yz_l l + w) (yz_c r (n + (p.1.length + 1 + yz_l l + w)) v q e) := by
    intro g K
    have Ka := yQ_Kr K
    rw [yv_len] at Ka
    have Kb := yQ_Kr (L1 := [_]) Ka
    have Kc := yQ_Kr Kb
    rw [yz_len] at Kc
    have Kd := yQ_Kr Kc
    rw [lg] at Kd
    refine ⟨yQ_Kl K, Ka 0 _ rfl, yQ_Kl Kb, fun z => ?_, Kd⟩
    rw [if_neg z] at Kc
    exact Kc 0 _ rfl
  have e3 : n + p.1.length + 1 + yz_l l + w = n + (p.1.length + 1 + yz_l l + w) := by omega
  have hx' : v = 0 → yz_x r (n + (p.1.length + 1 + yz_l l + w)) = [] ∧ yz_x l (n + p.1.length + 1) = [] := fun z => by
    have := hx z
    rw [hw]
    exact List.append_eq_nil_iff.mp this
  have eL : yz_l (.inner 5 p o l r) = (p.1.length + 1 + yz_l l + w) + yz_l r := by rw [hw]; rfl
  have he' := he rfl
  have w01 : w ≤ 1 := by rw [hw]; split <;> omega
  have wr : w = 0 → yz_l r = 0 := fun z => by
    cases r with
    | leaf => rfl
    | inner => rw [hw] at z; exact absurd z (show ¬ (1 : Nat) = 0 by decide)
  have eD : yH_D (.inner 5 p o l r) x = ((x && yH_d 0 p.1) || (yH_D l x || yH_D r x)) := rfl
  have eR : yH_r (.inner 5 p o l r) x = (yH_r l x || yH_r r x) := rfl
  rw [eL] at hn hq he' z0 ⊢
  rw [eD, eR]
  -- the question
  rcases yD_str (x := x) (d2 := 1) hs (by omega) (by omega) C W1'.1 (fun i hi => yP_io hb (W1'.2.1 i hi)) (yQ_Kl K') rn (fun j j1 j2 => z0 j j1 (by omega)) with ⟨dd, g1, a1, a2⟩ | ⟨dd, g1, a1, a2, a3, a5⟩
  · refine .inl ⟨by rw [dd]; rfl, g1, fun N => ?_, a2⟩
    rw [show N + (p.1.length + 1 + yz_l l + w + yz_l r) = (N + 1 + yz_l l + w + yz_l r) + p.1.length by omega]
    exact a1 _
  rw [dd, Bool.false_or]
  have r1 : g1.2.1 112 (n + p.1.length - s) = if x = true then nI 1 else -1 := by
    cases x with
    | true => exact a2 rfl (by omega)
    | false => rw [a3 rfl]; exact z0 _ (by omega) (by omega)
  have K1 := yD_Kf a5 K'
  have C1 := yD_cf a5 C
  have v1 : ∀ j, n + p.1.length < j → j < s + sz → g1.2.1 112 (j - s) = g.2.1 112 (j - s) := fun j hj hj2 => a5.2.2.2 j (by omega) hj2 (by omega) (by omega)
  -- UNLESS
  obtain ⟨g2, b1, b4⟩ := yD_one (d := 1) (x := x) (show s ≤ n + p.1.length by omega) (show n + p.1.length < s + sz by omega) (by omega) C1 (pieces g1 K1).2.1 (show (11 : Nat) < 19 by decide) (show yo_t 11 ≤ 1 by decide) (show 1 - yo_t 11 + yo_l 11 ≤ 64 by decide) r1 (fun _ => ⟨n + (p.1.length + 1 + yz_l l + w), rfl, by omega, by omega⟩) (fun z => absurd z (show ¬ (11 : Nat) = 14 by decide))
  replace b4 : g2 = if x = true then zs_uM (zs_uM g1 112 (n + p.1.length + 1 - s) (nI 0)) 112 (n + (p.1.length + 1 + yz_l l + w) - s) (nI 0) else g1 := by
    rw [b4]
    show (if x = true then zs_uM (zs_uM g1 112 (n + p.1.length + 1 - s) (nI 0)) 112 ((nI (n + (p.1.length + 1 + yz_l l + w))).toNatClampNeg - s) (nI 0) else g1) = _
    rw [nI_clamp (by omega)]
  have f2 : yD_fr s sz n (n + (p.1.length + 1 + yz_l l + w)) n g1 g2 := by
    rw [b4]; split
    · exact yD_frt (yD_set (g := g1) (t := n + p.1.length + 1) (lo := n) (hi := n + (p.1.length + 1 + yz_l l + w)) (q := n) (by omega) (.inl (by omega))) (yD_set (t := n + (p.1.length + 1 + yz_l l + w)) (lo := n) (hi := n + (p.1.length + 1 + yz_l l + w)) (q := n) (by omega) (.inl (by omega))) (by omega) (by omega) (by omega) (by omega)
    · exact yD_fr0
  have v2 : ∀ j, n + p.1.length + 1 < j → j < s + sz → ¬ j = n + (p.1.length + 1 + yz_l l + w) → g2.2.1 112 (j - s) = g.2.1 112 (j - s) := fun j j1 js j2 => by
    refine Eq.trans ?_ (v1 j (by omega) js)
    rw [b4]; split
    · exact zu_MM.trans ((if_neg fun z => by have := z.2; omega).trans (zu_MM.trans (if_neg fun z => by have := z.2; omega)))
    · rfl
  have rt : n + (p.1.length + 1 + yz_l l + w) < s + sz → ∀ y, g.2.1 112 (n + (p.1.length + 1 + yz_l l + w) - s) = yD_v y → g2.2.1 112 (n + (p.1.length + 1 + yz_l l + w) - s) = yD_v (y || x) := fun hl y hy => by
    rw [b4]
    cases x with
    | true =>
      rw [Bool.or_true]
      exact zu_MM.trans (if_pos ⟨rfl, rfl⟩)
    | false =>
      rw [Bool.or_false]
      exact (v1 _ (by omega) hl).trans hy
  have K2 := yD_Kf f2 K1
  have C2 := yD_cf f2 C1
  have rb : 0 < yz_l l ∨ w = 1 → g2.2.1 112 (n + p.1.length + 1 - s) = yD_v x := fun hz => by
    rw [b4]
    cases x with
    | true =>
      refine zu_MM.trans ?_
      split
      · rfl
      · exact zu_MM.trans (if_pos ⟨rfl, rfl⟩)
    | false => exact (v1 _ (by omega) (by omega)).trans (z0 _ (by omega) (by omega))
  have F2 : yD_fr s sz n (n + (p.1.length + 1 + yz_l l + w + yz_l r)) qf g g2 := yD_frt a5 f2 (by omega) (by omega) (by omega) (by omega)
  have run2 : ∀ N, f_Mo_isDeep_L35 (N + (p.1.length + 1 + yz_l l + w)) g (nI u) (nI sz) (nI (n - s)) = f_Mo_isDeep_L35 (N + w + yz_l l) g2 (nI u) (nI sz) (nI (n + p.1.length + 1 - s)) := fun N => by
    rw [show N + (p.1.length + 1 + yz_l l + w) = (N + w + yz_l l + 1) + p.1.length by omega, a1, b1]
  -- the body
  have body : (yH_D l x = true ∧ ∃ g3, (∀ N, f_Mo_isDeep_L35 (N + yz_l l) g2 (nI u) (nI sz) (nI (n + p.1.length + 1 - s)) = some (1, g3)) ∧ zfr [] [112] [] g2 g3) ∨ (yH_D l x = false ∧ ∃ g3, (∀ N, f_Mo_isDeep_L35 (N + yz_l l) g2 (nI u) (nI sz) (nI (n + p.1.length + 1 - s)) = f_Mo_isDeep_L35 N g3 (nI u) (nI sz) (nI (n + p.1.length + 1 + yz_l l - s))) ∧ (w = 1 → g3.2.1 112 (n + p.1.length + 1 + yz_l l - s) = yD_v (yH_r l x)) ∧ (n + (p.1.length + 1 + yz_l l + w) < s + sz → ∀ y, g.2.1 112 (n + (p.1.length + 1 + yz_l l + w) - s) = yD_v y → g3.2.1 112 (n + (p.1.length + 1 + yz_l l + w) - s) = yD_v (y || x)) ∧ (0 < v → q < s + sz → ∀ y, g.2.1 112 (q - s) = yD_v y → ∃ z, (z = true → x = true) ∧ g3.2.1 112 (q - s) = yD_v (y || z)) ∧ (∀ j, n + p.1.length + 1 + yz_l l < j → j < s + sz → ¬ j = n + (p.1.length + 1 + yz_l l + w) → ¬ j = qf → g3.2.1 112 (j - s) = g.2.1 112 (j - s)) ∧ yD_fr s sz n (n + (p.1.length + 1 + yz_l l + w)) qf g2 g3) := by
    by_cases lz : yz_l l = 0
    · obtain ⟨i1, i2⟩ := yH_z l x lz
      refine .inr ⟨i2, g2, fun N => by rw [lz]; rfl, fun z => ?_, rt, fun hv hq2 y hy => ⟨false, fun z => (by cases z), by rw [Bool.or_false, v2 q (by omega) hq2 (by omega)]; exact hy⟩, fun j j1 js j2 _ => v2 j (by omega) js j2, yD_fr0⟩
      rw [i1, lz, Nat.add_zero]
      exact rb (.inr z)
    · rcases ihl 0 (n + p.1.length + 1) v q qf 0 lo x g2 (.inl ⟨rfl, W1'.2.2.1⟩) W1'.2.2.2 (by omega) (by omega) C2 (pieces g2 K2).2.2.1 (fun z => (hx' z).2) (by omega) (fun z => absurd z (by decide)) (fun _ => rb (.inl (by omega))) (fun j j1 j2 => (v2 j (by omega) (by omega) (by omega)).trans (z0 j (by omega) (by omega))) with ⟨d, g3, c1, c2⟩ | ⟨d, g3, c1, c4, c5, c6⟩
      · exact .inl ⟨d, g3, c1, c2⟩
      · refine .inr ⟨d, g3, c1, fun z => ?_, fun hl y hy => ?_, fun hv hq2 y hy => ?_, fun j j1 js j2 j3 => (c6.2.2.2 j (by omega) js (by omega) j3).trans (v2 j (by omega) js j2), yD_frt c6 (yD_fr0 (lo := n) (hi := n) (q := n)) (by omega) (by omega) (.inl rfl) (by omega)⟩
        · have := c4 (by omega) false ((v2 _ (by omega) (by omega) (by omega)).trans (z0 _ (by omega) (by omega)))
          rwa [Bool.false_or] at this
        · by_cases z : w = 0
          · have q1 := rt hl y hy
            rw [show n + (p.1.length + 1 + yz_l l + w) = n + p.1.length + 1 + yz_l l by omega] at q1 hl ⊢
            have := c4 hl _ q1
            rw [yD_vi yH_rx] at this
            exact this
          · rw [c6.2.2.2 _ (by omega) hl (by omega) (by omega)]
            exact rt hl y hy
        · exact c5 hv hq2 y (by rw [v2 q (by omega) hq2 (by omega)]; exact hy)
  rcases body with ⟨dl, g3, c1, c2⟩ | ⟨dl, g3, c1, c4, c5, c6, c7, c8⟩
  · refine .inl ⟨by rw [dl]; rfl, g3, fun N => ?_, zfr_trans (yD_z F2) c2⟩
    rw [show N + (p.1.length + 1 + yz_l l + w + yz_l r) = (N + yz_l r) + (p.1.length + 1 + yz_l l + w) by omega, run2]
    exact c1 _
  rw [dl, Bool.false_or]
  have K3 := yD_Kf c8 K2
  have C3 := yD_cf c8 C2
  -- the jump behind the choice
  have jump : ∃ g4, (∀ N, f_Mo_isDeep_L35 (N + w) g3 (nI u) (nI sz) (nI (n + p.1.length + 1 + yz_l l - s)) = f_Mo_isDeep_L35 N g4 (nI u) (nI sz) (nI (n + (p.1.length + 1 + yz_l l + w) - s))) ∧ (g4 = g3 ∧ w = 0 ∨ w = 1 ∧ g4 = if yH_r l x = true then zs_uM g3 112 (e - s) (nI 0) else g3) := by
    by_cases z : yz_f r = true
    · have g0 : w = 0 := by rw [hw, if_pos z]
      exact ⟨g3, fun N => by rw [g0, Nat.add_zero, show n + (p.1.length + 1 + yz_l l + 0) = n + p.1.length + 1 + yz_l l by omega], .inl ⟨rfl, g0⟩⟩
    · have g0 : w = 1 := by rw [hw, if_neg z]
      obtain ⟨g4, d1, d4⟩ := yD_one (d := 0) (x := yH_r l x) (show s ≤ n + p.1.length + 1 + yz_l l by omega) (show n + p.1.length + 1 + yz_l l < s + sz by omega) (by omega) C3 ((pieces g3 K3).2.2.2.1 z) (show (10 : Nat) < 19 by decide) (show yo_t 10 ≤ 0 by decide) (show 0 - yo_t 10 + yo_l 10 ≤ 64 by decide) (c4 g0) (fun _ => ⟨e, rfl, by omega, by omega⟩) (fun z => absurd z (show ¬ (10 : Nat) = 14 by decide))
      refine ⟨g4, fun N => ?_, .inr ⟨g0, ?_⟩⟩
      · rw [g0, d1, show n + (p.1.length + 1 + yz_l l + 1) = n + p.1.length + 1 + yz_l l + 1 by omega]
      · rw [d4]
        show (if yH_r l x = true then zs_uM g3 112 ((nI e).toNatClampNeg - s) (nI 0) else g3) = _
        rw [nI_clamp (by omega)]
  obtain ⟨g4, d1, d4⟩ := jump
  have v4 : ∀ j, s ≤ j → ¬ j = e → g4.2.1 112 (j - s) = g3.2.1 112 (j - s) := fun j js hj => by
    rcases d4 with ⟨d4, _⟩ | ⟨_, d4⟩
    · rw [d4]
    · rw [d4]; split
      · exact zu_MM.trans (if_neg fun z => by have := z.2; omega)
      · rfl
  have f4 : yD_fr s sz n (n + (p.1.length + 1 + yz_l l + w + yz_l r)) qf g3 g4 := by
    rcases d4 with ⟨d4, _⟩ | ⟨_, d4⟩
    · rw [d4]; exact yD_fr0
    · rw [d4]; split
      · exact yD_set (by omega) (.inl (by omega))
      · exact yD_fr0
  have re : ∀ y, g3.2.1 112 (e - s) = yD_v y → w = 1 → g4.2.1 112 (e - s) = yD_v (y || yH_r l x) := fun y hy z => by
    rcases d4 with ⟨_, d4⟩ | ⟨_, d4⟩
    · omega
    · rw [d4]
      cases yH_r l x with
      | true => rw [if_pos rfl, Bool.or_true]; exact zu_MM.trans (if_pos ⟨rfl, rfl⟩)
      | false => rw [if_neg (by decide), Bool.or_false]; exact hy
  have FA : yD_fr s sz n (n + (p.1.length + 1 + yz_l l + w + yz_l r)) qf g g4 := yD_frt (yD_frt F2 c8 (lo := n) (hi := n + (p.1.length + 1 + yz_l l + w + yz_l r)) (q := qf) (by omega) (by omega) (by omega) (by omega)) f4 (by omega) (by omega) (by omega) (by omega)
  have qc : 0 < v → q < s + sz → ∀ y, g.2.1 112 (q - s) = yD_v y → ∃ z, (z = true → x = true) ∧ g4.2.1 112 (q - s) = yD_v (y || z) := fun hv hq2 y hy => by
    obtain ⟨z, k1, k2⟩ := c6 hv hq2 y hy
    exact ⟨z, k1, by rw [v4 q (by omega) (by omega)]; exact k2⟩
  have run : ∀ N, f_Mo_isDeep_L35 (N + (p.1.length + 1 + yz_l l + w)) g (nI u) (nI sz) (nI (n - s)) = f_Mo_isDeep_L35 N g4 (nI u) (nI sz) (nI (n + (p.1.length + 1 + yz_l l + w) - s)) := fun N => by
    rw [run2, c1, d1]
  by_cases lz : yz_l r = 0
  · obtain ⟨i1, i2⟩ := yH_z r x lz
    rw [i1, i2, lz, Nat.add_zero]
    rw [lz, Nat.add_zero] at he' FA
    refine .inr ⟨rfl, g4, run, fun hl y hy => ?_, qc, FA⟩
    have q1 := c5 hl y hy
    have q2 : g4.2.1 112 (n + (p.1.length + 1 + yz_l l + w) - s) = yD_v (y || x) := by
      rcases Nat.eq_zero_or_pos w with z | z
      · rcases d4 with ⟨d4, _⟩ | ⟨d4, _⟩
        · rw [d4]; exact q1
        · omega
      · have := re _ (by rw [he']; exact q1) (by omega)
        rw [yD_vi yH_rx] at this
        rw [← he']; exact this
    rw [q2, Bool.or_comm (yH_r l x), ← Bool.or_assoc, yD_vi yH_rx]
  · have w1 : w = 1 := by
      rcases Nat.eq_zero_or_pos w with z | z
      · exact absurd (wr z) lz
      · omega
    have r4 : g4.2.1 112 (n + (p.1.length + 1 + yz_l l + w) - s) = yD_v x := by
      rw [v4 _ (by omega) (by omega)]
      have := c5 (by omega) false (z0 _ (by omega) (by omega))
      rwa [Bool.false_or] at this
    rcases ihr 1 (n + (p.1.length + 1 + yz_l l + w)) v q qf e lo x g4 hr W2 (by omega) (by omega) (yD_cf f4 C3) (by have := (pieces g4 (yD_Kf f4 K3)).2.2.2.2; rw [e3] at this; exact this) (fun z => (hx' z).1) (by omega) (fun _ => by omega) (fun _ => r4) (fun j j1 j2 => by
      rw [v4 j (by omega) (by omega), c7 j (by omega) (by omega) (by omega) (by omega)]
      exact z0 j (by omega) (by omega)) with ⟨dr, g5, k1, k2⟩ | ⟨dr, g5, k1, k4, k5, k6⟩
    · refine .inl ⟨dr, g5, fun N => ?_, zfr_trans (yD_z FA) k2⟩
      rw [show N + (p.1.length + 1 + yz_l l + w + yz_l r) = (N + yz_l r) + (p.1.length + 1 + yz_l l + w) by omega, run]
      exact k1 N
    · refine .inr ⟨dr, g5, fun N => ?_, fun hl y hy => ?_, fun hv hq2 y hy => ?_, yD_frt FA k6 (by omega) (by omega) (.inl rfl) (.inl rfl)⟩
      · rw [show N + (p.1.length + 1 + yz_l l + w + yz_l r) = (N + yz_l r) + (p.1.length + 1 + yz_l l + w) by omega, run, k1, show n + (p.1.length + 1 + yz_l l + w) + yz_l r = n + (p.1.length + 1 + yz_l l + w + yz_l r) by omega]
      · rw [← Bool.or_assoc]
        rw [show n + (p.1.length + 1 + yz_l l + w + yz_l r) = n + (p.1.length + 1 + yz_l l + w) + yz_l r by omega] at hy hl ⊢
        refine k4 hl _ ?_
        rw [show n + (p.1.length + 1 + yz_l l + w) + yz_l r = e by omega] at hy ⊢
        refine re y ?_ w1
        rw [c7 e (by omega) (by omega) (by omega) (by omega)]
        exact hy
      · obtain ⟨y1, t1, t2⟩ := qc hv hq2 y hy
        obtain ⟨y2, t3, t4⟩ := k5 hv hq2 _ t2
        exact ⟨y1 || y2, fun z => by rw [Bool.or_eq_true] at z; exact z.elim t1 t3, by rw [← Bool.or_assoc]; exact t4⟩
theorem yD_TM (hb : b ≤ 16) : ∀ T : ys, yD_V X Y kb b u s sz T := by
  intro T
  induction T with
  | leaf =>
    intro m n v q qf e lo x g _ _ _ _ _ _ _ hq _ rn _
    refine .inr ⟨rfl, g, fun _ => rfl, fun hl y hy => ?_, fun _ _ y hy => ⟨false, fun z => (by cases z), by rw [Bool.or_false]; exact hy⟩, yD_fr0⟩
    have hl' : n < s + sz := hl
    have hy' : g.2.1 112 (n - s) = yD_v y := hy
    show g.2.1 112 (n - s) = yD_v (y || x)
    have : yD_v x = yD_v y := (rn hl').symm.trans hy'
    rw [rn hl']
    cases x <;> cases y <;> first | rfl | exact absurd this (by decide)
  | inner k p o l r ihl ihr =>
    by_cases h : k < 7
    · have : k = 0 ∨ k = 1 ∨ k = 2 ∨ k = 3 ∨ k = 4 ∨ k = 5 ∨ k = 6 := by omega
      rcases this with e | e | e | e | e | e | e <;> subst e
      · exact yD_V0 hb ihr
      · exact yD_V1 ihl ihr
      · exact yD_V2 ihl ihr
      · exact yD_V3 ihr
      · exact yD_V4 ihr
      · exact yD_V5 hb ihl ihr
      · exact yD_V6 ihl ihr
    · intro m n v q qf e lo x g hm
      exfalso
      rcases hm with ⟨_, z, _⟩ | ⟨_, z, _⟩
      · omega
      · omega
end YDO
