/-! The machine: a run over T on any machine, by kinds. -/
section YWT
variable {X Y : Nat → Nat} {kb : Nat → yK} {pl : Nat → Nat} {tm : Nat → Nat → (Nat → Int32) → Nat → Int32} {U : Nat → Nat → yE → yE × Nat} {B : Nat → Nat} {b base : Nat} {Kd : Nat → yI → Prop} {I : yW_I} {J : yW_J} {G : yW_G} {F : yW_F} {S0 : List Int32} {s0 sE : Nat} {p : List yI × Int32 × Int32} {o : Unit} {l r : ys}
theorem yW_V0 {k : Nat} (k0 : k = 0) (H : yG_h X Y kb pl tm B b base U) (M : yW_M X Y kb pl tm b base U Kd I J G F S0 s0 sE) (ihr : yW_V X Y kb pl tm b base U Kd I J G F S0 s0 sE r) : yW_V X Y kb pl tm b base U Kd I J G F S0 s0 sE (.inner k p o l r) := by
  subst k0
  intro m n v q e lo h s hm ⟨W1, W2⟩ hY K h1 h2 he hx hq hd hi es
  have hr : ((m = 0 ∧ yz_st r) ∨ (m = 1 ∧ yz_br r)) := hm.elim (fun z => .inl ⟨z.1, z.2.2⟩) (fun z => .inr ⟨z.1, z.2.2⟩)
  rw [if_pos rfl] at W1
  have hl : yz_l (.inner 0 p o l r) = p.1.length + yz_l r := rfl
  rw [hl] at h2 he ⊢
  have K' : yW_K Kd n (yv v p.1 ++ yz_c r (n + p.1.length) v q e) := K
  have hd' : ((true && yH_d 0 p.1) || yH_D r true) = false := hd
  rw [Bool.true_and, Bool.or_eq_false_iff] at hd'
  have Kr := yW_Kr K'
  rw [yv_len] at Kr
  have O1 := yW_L (q := q) H M hi (yW_Kv (yW_Kl K')) h1 (by omega) hY W1.2 W1.1 hd'.1 es
  obtain ⟨_, st, _, _⟩ := yG_Ls (c := (some 1, none, none)) H W1.2 W1.1 (yF_nM (x := 1) (.inl rfl)) s
  have st' : (yE_L pl tm U base p.1 s).2 = 0 → (yE_L pl tm U base p.1 s).1.2.1 = S0 := fun z => by
    obtain ⟨A', q1, q2⟩ := st z
    rw [q1, List.eq_nil_of_length_eq_zero q2]; exact es
  have go := fun h' i' z => ihr m (n + p.1.length) v q e lo h' (yE_L pl tm U base p.1 s).1 hr W2 hY Kr (by omega) (by omega) (fun z => by have := he z; omega) hx hq hd'.2 i' (st' z)
  rw [← Nat.add_assoc]
  have e0 : yE_T pl tm U base (.inner 0 p o l r) s = if (yE_L pl tm U base p.1 s).2 = 0 then yE_T pl tm U base r (yE_L pl tm U base p.1 s).1 else yE_L pl tm U base p.1 s := rfl
  rw [e0]
  refine ⟨yW_sq M O1 (fun z h' i' => (go h' i' z).1), fun z => ?_⟩
  by_cases z0 : (yE_L pl tm U base p.1 s).2 = 0
  · rw [if_pos z0] at z
    obtain ⟨h', _, _, a2, _⟩ := O1
    exact (go h' (a2 z0).2 z0).2 z
  · rw [if_neg z0] at z; exact absurd z z0
theorem yW_V16 {k : Nat} (k16 : k = 1 ∨ k = 6) (H : yG_h X Y kb pl tm B b base U) (M : yW_M X Y kb pl tm b base U Kd I J G F S0 s0 sE) (ihl : yW_V X Y kb pl tm b base U Kd I J G F S0 s0 sE l) (ihr : yW_V X Y kb pl tm b base U Kd I J G F S0 s0 sE r) : yW_V X Y kb pl tm b base U Kd I J G F S0 s0 sE (.inner k p o l r) := by
  intro m n v q e lo h s hm ⟨W1, W2⟩ hY K h1 h2 he hx hq hd hi es
  have hr : ((m = 0 ∧ yz_st r) ∨ (m = 1 ∧ yz_br r)) := hm.elim (fun z => .inl ⟨z.1, z.2.2⟩) (fun z => .inr ⟨z.1, z.2.2⟩)
  rw [if_neg (show ¬ k = 0 by omega), if_neg (show ¬ k = 2 by omega), if_neg (show ¬ k = 5 by omega)] at W1
  have hl : yz_l (.inner k p o l r) = yz_l l + yz_l r := by
    rcases k16 with rfl | rfl <;> rfl
  rw [hl] at h2 he ⊢
  have hd' : (yH_D l true || yH_D r (yH_r l true)) = false := by
    rcases k16 with rfl | rfl <;> exact hd
  rw [Bool.or_eq_false_iff] at hd'
  obtain ⟨m', e', hm', W', K', he'⟩ : ∃ m' e', ((m' = 0 ∧ yz_st l) ∨ (m' = 1 ∧ yz_br l)) ∧ yz_W X Y kb b l lo ∧ yW_K Kd n (yz_c l n v q e' ++ yz_c r (n + yz_l l) v q e) ∧ (m' = 1 → e' = n + yz_l l) := by
    rcases k16 with rfl | rfl
    · exact ⟨1, n + yz_l l, .inr ⟨rfl, W1.1⟩, W1.2, K, fun _ => rfl⟩
    · exact ⟨0, 0, .inl ⟨rfl, W1.1⟩, W1.2, K, fun z => absurd z (by decide)⟩
  have hx' : v = 0 → yz_x r (n + yz_l l) = [] ∧ yz_x l n = [] := fun z => by
    have := hx z
    rw [show yz_x (.inner k p o l r) n = yz_x r (n + yz_l l) ++ yz_x l n by rcases k16 with rfl | rfl <;> rfl] at this
    exact List.append_eq_nil_iff.mp this
  have Kr := yW_Kr K'
  rw [yz_len] at Kr
  obtain ⟨O1, r1⟩ := ihl m' n v q e' lo h s hm' W' hY (yW_Kl K') h1 (by omega) he' (fun z => (hx' z).2) hq hd'.1 hi es
  have st' : (yE_T pl tm U base l s).2 = 0 → (yE_T pl tm U base l s).1.2.1 = S0 := fun z => (yW_S H hm' W' hY (by omega)).trans es
  have go := fun h' i' z => ihr m (n + yz_l l) v q e lo h' (yE_T pl tm U base l s).1 hr W2 hY Kr (by omega) (by omega) (fun z => by have := he z; omega) (fun z => (hx' z).1) hq (by have := hd'.2; rw [r1 z] at this; exact this) i' (st' z)
  rw [← Nat.add_assoc]
  have e0 : yE_T pl tm U base (.inner k p o l r) s = if (yE_T pl tm U base l s).2 = 0 then yE_T pl tm U base r (yE_T pl tm U base l s).1 else yE_T pl tm U base l s := by
    rcases k16 with rfl | rfl <;> rfl
  rw [e0, show yH_r (.inner k p o l r) true = yH_r r (yH_r l true) by rcases k16 with rfl | rfl <;> rfl]
  refine ⟨yW_sq M O1 (fun z h' i' => (go h' i' z).1), fun z => ?_⟩
  by_cases z0 : (yE_T pl tm U base l s).2 = 0
  · rw [if_pos z0] at z
    obtain ⟨h', _, _, a2, _⟩ := O1
    rw [r1 z0]
    exact (go h' (a2 z0).2 z0).2 z
  · rw [if_neg z0] at z; exact absurd z z0
theorem yW_V3 {k : Nat} (k3 : k = 3) (M : yW_M X Y kb pl tm b base U Kd I J G F S0 s0 sE) : yW_V X Y kb pl tm b base U Kd I J G F S0 s0 sE (.inner k p o l r) := by
  subst k3
  intro m n v q e lo h s hm ⟨W1, W2⟩ hY K h1 h2 he hx hq hd hi es
  have hl : yz_l (.inner 3 p o l r) = 1 + yz_l r := rfl
  rw [hl] at h2
  have K' : yW_K Kd n ([((10, nI q, 0, 0), v)] ++ yz_c r (n + 1) v q e) := K
  have v0 : 0 < v := by
    rcases Nat.eq_zero_or_pos v with z | z
    · have := hx z
      rw [show yz_x (.inner 3 p o l r) n = yz_x r (n + 1) ++ [n] from rfl] at this
      exact absurd (List.append_eq_nil_iff.mp this).2 (by intro q; cases q)
    · exact z
  obtain ⟨h', g1, i1⟩ := M.2.2.2.1 h n (10, nI q, 0, 0) q s hi (yW_Kl K' 0 _ rfl) h1 (by omega) (.inl rfl) rfl (hq v0).1 (hq v0).2 es
  refine ⟨⟨h', 1, by show 2 * s.2.2 + 1 ≤ 2 * (s.2.2 + 1); omega, fun z => absurd z (show ¬ (1 : Nat) = 0 by decide), fun _ => ⟨g1, i1⟩, fun z => absurd z (show ¬ (1 : Nat) = 2 by decide), fun z => absurd z (show ¬ ((1 : Nat) = 3 ∨ (1 : Nat) = 4) by decide)⟩, fun z => absurd z (show ¬ (1 : Nat) = 0 by decide)⟩
theorem yW_V4 {k : Nat} (k4 : k = 4) (M : yW_M X Y kb pl tm b base U Kd I J G F S0 s0 sE) : yW_V X Y kb pl tm b base U Kd I J G F S0 s0 sE (.inner k p o l r) := by
  subst k4
  intro m n v q e lo h s hm ⟨W1, W2⟩ hY K h1 h2 he hx hq hd hi es
  have hl : yz_l (.inner 4 p o l r) = 1 + yz_l r := rfl
  rw [hl] at h2
  have K' : yW_K Kd n ([((18, 0, 0, 0), v)] ++ yz_c r (n + 1) v q e) := K
  obtain ⟨h', g1, i1⟩ := M.2.2.2.2.1 h n (18, 0, 0, 0) s hi (yW_Kl K' 0 _ rfl) h1 (by omega) rfl es
  refine ⟨⟨h', 1, by show 2 * s.2.2 + 1 ≤ 2 * (s.2.2 + 1); omega, fun z => absurd z (show ¬ (2 : Nat) = 0 by decide), fun z => absurd z (show ¬ (2 : Nat) = 1 by decide), fun _ => ⟨g1, i1⟩, fun z => absurd z (show ¬ ((2 : Nat) = 3 ∨ (2 : Nat) = 4) by decide)⟩, fun z => absurd z (show ¬ (2 : Nat) = 0 by decide)⟩
theorem yW_V2 {k : Nat} (k2 : k = 2) (H : yG_h X Y kb pl tm B b base U) (M : yW_M X Y kb pl tm b base U Kd I J G F S0 s0 sE) (ihl : yW_V X Y kb pl tm b base U Kd I J G F S0 s0 sE l) (ihr : yW_V X Y kb pl tm b base U Kd I J G F S0 s0 sE r) : yW_V X Y kb pl tm b base U Kd I J G F S0 s0 sE (.inner k p o l r) := by
  subst k2
  intro m n v q e lo h s hm ⟨W1, W2⟩ hY K h1 h2 he hx hq hd hi es
  have hr : ((m = 0 ∧ yz_st r) ∨ (m = 1 ∧ yz_br r)) := hm.elim (fun z => .inl ⟨z.1, z.2.2⟩) (fun z => .inr ⟨z.1, z.2.2⟩)
  rw [if_neg (by decide), if_pos rfl] at W1
  obtain ⟨cc, N, w1, w2, w3, w4, w5, w6, w7⟩ := W1
  have hl : yz_l (.inner 2 p o l r) = 3 + yz_l l + yz_l r := rfl
  rw [hl] at h2 he ⊢
  have hd' : (yH_D l true || yH_D r true) = false := hd
  rw [Bool.or_eq_false_iff] at hd'
  have K' : yW_K Kd n ([((12, p.2.1, p.2.2, 0), v)] ++ ([((13, nI (n + (3 + yz_l l)), p.2.1, 0), v)] ++ (yz_c l (n + 2) (v + 1) (n + (3 + yz_l l)) 0 ++ ([((14, nI (n + 1), 0, 0), v + 1)] ++ yz_c r (n + (3 + yz_l l)) v q e)))) := K
  have K1 : yW_K Kd (n + 1) ([((13, nI (n + (3 + yz_l l)), p.2.1, 0), v)] ++ (yz_c l (n + 2) (v + 1) (n + (3 + yz_l l)) 0 ++ ([((14, nI (n + 1), 0, 0), v + 1)] ++ yz_c r (n + (3 + yz_l l)) v q e))) := yW_Kr K'
  have K2 : yW_K Kd (n + 2) (yz_c l (n + 2) (v + 1) (n + (3 + yz_l l)) 0 ++ ([((14, nI (n + 1), 0, 0), v + 1)] ++ yz_c r (n + (3 + yz_l l)) v q e)) := yW_Kr K1
  have K3 := yW_Kr K2
  rw [yz_len] at K3
  have K4 : yW_K Kd (n + (3 + yz_l l)) (yz_c r (n + (3 + yz_l l)) v q e) := by
    have this : yW_K Kd (n + 2 + yz_l l + 1) (yz_c r (n + (3 + yz_l l)) v q e) := yW_Kr K3
    rw [show n + 2 + yz_l l + 1 = n + (3 + yz_l l) by omega] at this
    exact this
  have xb := H.2.1.2 b (Nat.le_refl _)
  obtain ⟨h', g1, i1⟩ := M.2.2.2.2.2.2.1 h n (12, p.2.1, p.2.2, 0) cc N s hi (yW_Kl K' 0 _ rfl) h1 (by omega) rfl w1 w2 ⟨by omega, w4⟩ es
  have nal : ¬ yE_al X Y kb pl b base (cc + 1) (base + cc) := fun z => by
    rcases z with z | z | ⟨u, u1, u2, u3⟩
    · omega
    · omega
    · rcases H.2.2.2.2.2.2 u u1 u2 with z | z
      · omega
      · omega
  obtain ⟨O2, s2⟩ := yW_lp (body := yE_T pl tm U base l) (cc := cc) (n := n) (len := yz_l l) (qo := q) M h1 (by omega) ⟨by omega, w4⟩ (i13 := (13, nI (n + (3 + yz_l l)), p.2.1, 0)) (i14 := (14, nI (n + 1), 0, 0)) (by rw [w1]) rfl (yW_Kl K1 0 _ rfl) (yW_Kl K3 0 _ rfl) (fun h s i' es' => (ihl 0 (n + 2) (v + 1) (n + (3 + yz_l l)) 0 (cc + 1) h s (.inl ⟨rfl, w6⟩) w7 (by omega) (yW_Kl K2) (by omega) (by omega) (fun z => absurd z (by decide)) (fun z => by omega) (fun _ => ⟨by omega, by omega⟩) hd'.1 i' es').1) (fun s => yE_Tw H.1 H.2.1 H.2.2.2.1 H.2.2.2.2.1 l (cc + 1) s (base + cc) w7 nal) (fun s => yW_S H (.inl ⟨rfl, w6⟩) w7 (by omega)) (fun s => yW_4 H (.inl ⟨rfl, w6⟩) w7 (by omega)) N (N + 1) (yE_u s.1 (base + cc) (nI N), s.2.1, s.2.2 + 1) h' (if_pos rfl) (by omega) w5 i1 es
  have O1 := yW_pr M g1 (s := s) (s1 := (yE_u s.1 (base + cc) (nI N), s.2.1, s.2.2 + 1)) (by show _ ≤ 2 * (s.2.2 + 1); omega) O2
  have e0 : yE_T pl tm U base (.inner 2 p o l r) s = if (yE_l (yE_T pl tm U base l) (base + cc) (N + 1) (yE_u s.1 (base + cc) (nI N), s.2.1, s.2.2 + 1)).2 = 0 then yE_T pl tm U base r (yE_l (yE_T pl tm U base l) (base + cc) (N + 1) (yE_u s.1 (base + cc) (nI N), s.2.1, s.2.2 + 1)).1 else yE_l (yE_T pl tm U base l) (base + cc) (N + 1) (yE_u s.1 (base + cc) (nI N), s.2.1, s.2.2 + 1) := by
    show (if (yE_l (yE_T pl tm U base l) (base + p.2.1.toNatClampNeg) (p.2.2.toNatClampNeg + 1) (yE_u s.1 (base + p.2.1.toNatClampNeg) p.2.2, s.2.1, s.2.2 + 1)).2 = 0 then yE_T pl tm U base r (yE_l (yE_T pl tm U base l) (base + p.2.1.toNatClampNeg) (p.2.2.toNatClampNeg + 1) (yE_u s.1 (base + p.2.1.toNatClampNeg) p.2.2, s.2.1, s.2.2 + 1)).1 else yE_l (yE_T pl tm U base l) (base + p.2.1.toNatClampNeg) (p.2.2.toNatClampNeg + 1) (yE_u s.1 (base + p.2.1.toNatClampNeg) p.2.2, s.2.1, s.2.2 + 1)) = _
    rw [w1, w2, nI_clamp (show cc < 2147483648 by omega), nI_clamp (show N < 2147483648 by omega)]
  rw [e0]
  generalize yE_l (yE_T pl tm U base l) (base + cc) (N + 1) (yE_u s.1 (base + cc) (nI N), s.2.1, s.2.2 + 1) = w at O1 s2
  have go := fun h' i' z => ihr m (n + (3 + yz_l l)) v q e lo h' w.1 hr W2 hY K4 (by omega) (by omega) (fun z => by have := he z; omega) hx hq hd'.2 i' (s2 z)
  rw [show n + (3 + yz_l l + yz_l r) = n + (3 + yz_l l) + yz_l r by omega]
  refine ⟨yW_sq M O1 (fun z h' i' => (go h' i' z).1), fun z => ?_⟩
  by_cases z0 : w.2 = 0
  · rw [if_pos z0] at z
    obtain ⟨h', _, _, a2, _⟩ := O1
    exact (go h' (a2 z0).2 z0).2 z
  · rw [if_neg z0] at z; exact absurd z z0
theorem yW_V5 {k : Nat} (k5 : k = 5) (H : yG_h X Y kb pl tm B b base U) (M : yW_M X Y kb pl tm b base U Kd I J G F S0 s0 sE) (ihl : yW_V X Y kb pl tm b base U Kd I J G F S0 s0 sE l) (ihr : yW_V X Y kb pl tm b base U Kd I J G F S0 s0 sE r) : yW_V X Y kb pl tm b base U Kd I J G F S0 s0 sE (.inner k p o l r) := by
  subst k5
  intro m n v q e lo h s hm ⟨W1, W2⟩ hY K h1 h2 he hx hq hd hi es
  have m1 : m = 1 := by
    rcases hm with ⟨_, z, _⟩ | ⟨z1, _⟩
    · omega
    · exact z1
  have hr : ((m = 0 ∧ yz_st r) ∨ (m = 1 ∧ yz_br r)) := hm.elim (fun z => .inl ⟨z.1, z.2.2⟩) (fun z => .inr ⟨z.1, z.2.2⟩)
  rw [if_neg (by decide), if_neg (by decide), if_pos rfl] at W1
  obtain ⟨w, hw⟩ : ∃ w, w = if yz_f r = true then 0 else 1 := ⟨_, rfl⟩
  have hl : yz_l (.inner 5 p o l r) = p.1.length + 1 + yz_l l + w + yz_l r := by rw [hw]; rfl
  rw [hl] at h2 he ⊢
  have hd' : ((true && yH_d 0 p.1) || (yH_D l true || yH_D r true)) = false := hd
  rw [Bool.true_and, Bool.or_eq_false_iff, Bool.or_eq_false_iff] at hd'
  have K' : yW_K Kd n (yv v p.1 ++ ([((11, nI (n + (p.1.length + 1 + yz_l l + w)), 0, 0), v)] ++ (yz_c l (n + p.1.length + 1) v q 0 ++ ((if yz_f r = true then [] else [((10, nI e, 0, 0), v)]) ++ yz_c r (n + (p.1.length + 1 + yz_l l + w)) v q e)))) := by rw [hw]; exact K
  have K1 := yW_Kr K'
  rw [yv_len] at K1
  have K2 : yW_K Kd (n + p.1.length + 1) (yz_c l (n + p.1.length + 1) v q 0 ++ ((if yz_f r = true then [] else [((10, nI e, 0, 0), v)]) ++ yz_c r (n + (p.1.length + 1 + yz_l l + w)) v q e)) := yW_Kr K1
  have K3 := yW_Kr K2
  rw [yz_len] at K3
  have K4 := yW_Kr K3
  rw [show (if yz_f r = true then ([] : List yJ) else [((10, nI e, 0, 0), v)]).length = w by rw [hw]; split <;> rfl, show n + p.1.length + 1 + yz_l l + w = n + (p.1.length + 1 + yz_l l + w) by omega] at K4
  have hx' : v = 0 → yz_x r (n + (p.1.length + 1 + yz_l l + w)) = [] ∧ yz_x l (n + p.1.length + 1) = [] := fun z => by
    have := hx z
    rw [show yz_x (.inner 5 p o l r) n = yz_x r (n + (p.1.length + 1 + yz_l l + (if yz_f r = true then 0 else 1))) ++ yz_x l (n + p.1.length + 1) from rfl, ← hw] at this
    exact List.append_eq_nil_iff.mp this
  have O1 := yW_L (q := q) (lo := lo) H M hi (yW_Kv (yW_Kl K')) h1 (by omega) hY (fun i hi => .inl (W1.2.1 i hi)) W1.1 hd'.1 es
  obtain ⟨_, st, _, _⟩ := yG_Ls (c := (some 1, none, none)) (lo := lo) H (fun i hi => .inl (W1.2.1 i hi)) W1.1 (yF_nM (x := 1) (.inl rfl)) s
  have e0 : yE_T pl tm U base (.inner 5 p o l r) s = if (yE_L pl tm U base p.1 s).2 = 0 then (match (yE_L pl tm U base p.1 s).1.2.1 with
      | y :: S => if y = 0 then yE_T pl tm U base r ((yE_L pl tm U base p.1 s).1.1, S, (yE_L pl tm U base p.1 s).1.2.2 + 1) else (if (yE_T pl tm U base l ((yE_L pl tm U base p.1 s).1.1, S, (yE_L pl tm U base p.1 s).1.2.2 + 1)).2 = 0 then (if yz_f r = true then yE_T pl tm U base l ((yE_L pl tm U base p.1 s).1.1, S, (yE_L pl tm U base p.1 s).1.2.2 + 1) else (((yE_T pl tm U base l ((yE_L pl tm U base p.1 s).1.1, S, (yE_L pl tm U base p.1 s).1.2.2 + 1)).1.1, (yE_T pl tm U base l ((yE_L pl tm U base p.1 s).1.1, S, (yE_L pl tm U base p.1 s).1.2.2 + 1)).1.2.1, (yE_T pl tm U base l ((yE_L pl tm U base p.1 s).1.1, S, (yE_L pl tm U base p.1 s).1.2.2 + 1)).1.2.2 + 1), 0)) else yE_T pl tm U base l ((yE_L pl tm U base p.1 s).1.1, S, (yE_L pl tm U base p.1 s).1.2.2 + 1))
      | [] => (s, 5)) else yE_L pl tm U base p.1 s := rfl
  rw [e0, show yH_r (.inner 5 p o l r) true = (yH_r l true || yH_r r true) from rfl]
  generalize yE_L pl tm U base p.1 s = w0 at O1 st
  obtain ⟨h', k, a1, a2, a3, a4, a5⟩ := O1
  by_cases z : w0.2 = 0
  · rw [if_pos z]
    obtain ⟨A', q1, q2⟩ := st z
    obtain ⟨y, rfl⟩ : ∃ y, A' = [y] := by
      cases A' with
      | nil => cases q2
      | cons y A' =>
        have : A'.length + 1 = 1 := q2
        exact ⟨y, by rw [List.eq_nil_of_length_eq_zero (show A'.length = 0 by omega)]⟩
    have q1' : w0.1.2.1 = y :: S0 := by rw [q1, es]; rfl
    rw [q1']
    obtain ⟨g1, i1⟩ := a2 z
    have ew : w0.1 = (w0.1.1, y :: S0, w0.1.2.2) := by rw [← q1']
    rw [ew] at i1
    obtain ⟨h2', g2, i2⟩ := M.2.2.2.2.2.1 h' (n + p.1.length) (11, nI (n + (p.1.length + 1 + yz_l l + w)), 0, 0) (n + (p.1.length + 1 + yz_l l + w)) w0.1.1 y w0.1.2.2 i1 (yW_Kl K1 0 _ rfl) (by omega) (by omega) rfl rfl (by omega) (by omega)
    have gg := M.2.1 _ _ _ _ _ _ _ _ g1 g2
    show yW_O I J G F sE h n _ q s (if y = 0 then _ else _) ∧ ((if y = 0 then _ else _ : yE × Nat).2 = 0 → _)
    by_cases zy : y = 0
    · rw [if_pos zy]
      rw [if_pos zy] at gg i2
      obtain ⟨O2, r2⟩ := ihr m (n + (p.1.length + 1 + yz_l l + w)) v q e lo h2' (w0.1.1, S0, w0.1.2.2 + 1) hr W2 hY K4 (by omega) (by omega) (fun z => by have := he z; omega) (fun z => (hx' z).1) hq hd'.2.2 i2 rfl
      rw [show n + (p.1.length + 1 + yz_l l + w + yz_l r) = n + (p.1.length + 1 + yz_l l + w) + yz_l r by omega]
      exact ⟨yW_pr M gg (s1 := (w0.1.1, S0, w0.1.2.2 + 1)) (by show _ ≤ 2 * (w0.1.2.2 + 1); omega) O2, fun z => by rw [r2 z, Bool.or_true]⟩
    · rw [if_neg zy]
      rw [if_neg zy] at gg i2
      obtain ⟨O2, r2⟩ := ihl 0 (n + p.1.length + 1) v q 0 lo h2' (w0.1.1, S0, w0.1.2.2 + 1) (.inl ⟨rfl, W1.2.2.1⟩) W1.2.2.2 hY (yW_Kl K2) (by omega) (by omega) (fun z => absurd z (by decide)) (fun z => (hx' z).2) hq hd'.2.1 i2 rfl
      have st2 : (yE_T pl tm U base l (w0.1.1, S0, w0.1.2.2 + 1)).2 ≤ 2 → (yE_T pl tm U base l (w0.1.1, S0, w0.1.2.2 + 1)).1.2.1 = S0 := yW_S H (s := (w0.1.1, S0, w0.1.2.2 + 1)) (.inl ⟨rfl, W1.2.2.1⟩) W1.2.2.2 hY
      generalize yE_T pl tm U base l (w0.1.1, S0, w0.1.2.2 + 1) = w3 at O2 r2 st2
      have O3 := yW_pr M gg (s := s) (s1 := (w0.1.1, S0, w0.1.2.2 + 1)) (by show _ ≤ 2 * (w0.1.2.2 + 1); omega) O2
      by_cases z3 : w3.2 = 0
      · rw [if_pos z3]
        by_cases zf : yz_f r = true
        · rw [if_pos zf]
          rw [if_pos zf] at hw
          have r0 : yz_l r = 0 := by
            cases r with
            | leaf => rfl
            | inner => cases zf
          rw [hw, r0, show n + (p.1.length + 1 + yz_l l + 0 + 0) = n + p.1.length + 1 + yz_l l by omega]
          exact ⟨O3, fun z => by rw [r2 z, Bool.true_or]⟩
        · rw [if_neg zf]
          rw [if_neg zf] at hw
          rw [if_neg zf] at K3
          obtain ⟨h4, k4, c1, c2, _, _, _⟩ := O3
          obtain ⟨g4, i4⟩ := c2 z3
          obtain ⟨h5, g5, i5⟩ := M.2.2.2.1 h4 (n + p.1.length + 1 + yz_l l) (10, nI e, 0, 0) e w3.1 i4 (yW_Kl K3 0 _ rfl) (by omega) (by omega) (.inl rfl) rfl (by have := he m1; omega) (by have := he m1; omega) (st2 (by omega))
          rw [← he m1]
          refine ⟨yW_pr M g4 (s := s) (s1 := w3.1) c1 (yW_pr M g5 (s1 := (w3.1.1, w3.1.2.1, w3.1.2.2 + 1)) (by show _ ≤ 2 * (w3.1.2.2 + 1); omega) (yW_0 M i5)), fun _ => by rw [r2 z3, Bool.true_or]⟩
      · rw [if_neg z3]
        obtain ⟨h4, k4, c1, c2, c3, c4, c5⟩ := O3
        exact ⟨⟨h4, k4, c1, fun z => absurd z z3, c3, c4, c5⟩, fun z => absurd z z3⟩
  · rw [if_neg z]
    exact ⟨⟨h', k, a1, fun w => absurd w z, a3, a4, a5⟩, fun w => absurd w z⟩
theorem yW_T (H : yG_h X Y kb pl tm B b base U) (M : yW_M X Y kb pl tm b base U Kd I J G F S0 s0 sE) : ∀ T : ys, yW_V X Y kb pl tm b base U Kd I J G F S0 s0 sE T := by
  intro T
  induction T with
  | leaf =>
    intro m n v q e lo h s _ _ _ _ _ _ _ _ _ _ hi _
    exact ⟨yW_0 M hi, fun _ => rfl⟩
  | inner k p o l r ihl ihr =>
    by_cases k0 : k = 0
    · exact yW_V0 k0 H M ihr
    by_cases k1 : k = 1 ∨ k = 6
    · exact yW_V16 k1 H M ihl ihr
    by_cases k2 : k = 2
    · exact yW_V2 k2 H M ihl ihr
    by_cases k3 : k = 3
    · exact yW_V3 k3 M
    by_cases k4 : k = 4
    · exact yW_V4 k4 M
    by_cases k5 : k = 5
    · exact yW_V5 k5 H M ihl ihr
    intro m n v q e lo h s hm
    rcases hm with ⟨_, z, _⟩ | ⟨_, z | z, _⟩
    · omega
    · omega
    · omega
end YWT
