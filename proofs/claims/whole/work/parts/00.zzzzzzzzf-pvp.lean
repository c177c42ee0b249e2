/-! The prover: the model's sums of all statements, by T. -/
section YQP
variable {B X Y : Nat → Nat} {kb : Nat → yK} {b u s sz : Nat}
def yQ_e : Nat → Option Nat := fun k => if k = 0 then some 0 else none
/-- what is behind the loop around -/
def yQ_q (g : zs_H) (s sz v q n : Nat) (Q : Nat → Option Nat) : Prop := 0 < v → (n ≤ q ∧ q ≤ s + sz) ∧ yQ_at g (q - s) Q ∧ ∀ k, v ≤ k → Q k = none
theorem yQ_qf {g g' : zs_H} {v q n n' lo hi : Nat} {Q : Nat → Option Nat} (f : yQ_fr lo hi g g') (a : yQ_q g s sz v q n Q) (h1 : hi ≤ n - s) (h2 : n' ≤ n) : yQ_q g' s sz v q n' Q := by
  intro hv
  obtain ⟨⟨a1, a2⟩, a3, a4⟩ := a hv
  exact ⟨⟨by omega, a2⟩, yQ_atf f (.inr (by omega)) a3, a4⟩
/-- the sums of T -/
def yQ_V (B X Y : Nat → Nat) (kb : Nat → yK) (b u s sz : Nat) (T : ys) : Prop := ∀ (m n v q e lo : Nat) (Q : Nat → Option Nat) (E c : yP3) (g : zs_H), ((m = 0 ∧ yz_st T) ∨ (m = 1 ∧ yz_br T)) → yz_W X Y kb b T lo → s ≤ n → n + yz_l T ≤ s + sz → v + yz_v T ≤ 61 → yQ_c B b u s sz g → yQ_K g s n (yz_c T n v q e) → (v = 0 → yz_x T n = []) → yQ_q g s sz v q (n + yz_l T) Q → (m = 1 → n + yz_l T ≤ e ∧ e ≤ s + sz ∧ yQ_at g (e - s) (yP_R v Q E)) → yQ_at g sz yQ_e → yQ_at g (n + yz_l T - s) (yP_R v Q c) → ∃ g', yQ_sc g g' u sz s n (yz_l T) ∧ yQ_at g' (n - s) (yP_R v Q (yP_T B T E c)) ∧ yQ_fr (n - s) (n + yz_l T - s) g g'
theorem yQ_rest {T r : ys} {m n v q e lo : Nat} {Q : Nat → Option Nat} {E c : yP3} {g : zs_H} (ihr : yQ_V B X Y kb b u s sz r) (hr : (m = 0 ∧ yz_st r) ∨ (m = 1 ∧ yz_br r)) (W2 : yz_W X Y kb b r lo) (hs : s ≤ n) (hn : n + yz_l T ≤ s + sz) (hvr : v + yz_v r ≤ 61) (C : yQ_c B b u s sz g) (hq : yQ_q g s sz v q (n + yz_l T) Q) (hE : m = 1 → n + yz_l T ≤ e ∧ e ≤ s + sz ∧ yQ_at g (e - s) (yP_R v Q E)) (a0 : yQ_at g sz yQ_e) (a : yQ_at g (n + yz_l T - s) (yP_R v Q c)) (hd : Nat) (e1 : yz_l T = hd + yz_l r) (K1 : yQ_K g s (n + hd) (yz_c r (n + hd) v q e)) (x1 : v = 0 → yz_x r (n + hd) = []) : ∃ g1, yQ_sc g g1 u sz s (n + hd) (yz_l r) ∧ yQ_at g1 (n + hd - s) (yP_R v Q (yP_T B r E c)) ∧ yQ_fr (n + hd - s) (n + hd + yz_l r - s) g g1 ∧ yQ_q g1 s sz v q (n + hd) Q ∧ (m = 1 → yQ_at g1 (e - s) (yP_R v Q E)) ∧ yQ_at g1 sz yQ_e := by
  have e2 : n + yz_l T = n + hd + yz_l r := by rw [e1]; omega
  rw [e2] at hn hq hE a
  obtain ⟨g1, r1, r2, r3⟩ := ihr m (n + hd) v q e lo Q E c g hr W2 (by omega) hn hvr C K1 x1 hq hE a0 a
  exact ⟨g1, r1, r2, r3, yQ_qf r3 hq (by omega) (by omega), fun z => yQ_atf r3 (.inr (by have := (hE z).1; omega)) (hE z).2.2, yQ_atf r3 (.inr (by omega)) a0⟩
variable {p : List yI × Int32 × Int32} {o : Unit} {l r : ys}
theorem yQ_V0 (hb : b ≤ 16) (hu : u < 16) (hsz : s + sz ≤ 4000) (ihl : yQ_V B X Y kb b u s sz l) (ihr : yQ_V B X Y kb b u s sz r) : yQ_V B X Y kb b u s sz (.inner 0 p o l r) := by
  intro m n v q e lo Q E c g hm ⟨W1, W2⟩ hs hn hv C K hx hq hE a0 a
  have hr : ((m = 0 ∧ yz_st r) ∨ (m = 1 ∧ yz_br r)) := hm.elim (fun z => .inl ⟨z.1, z.2.2⟩) (fun z => .inr ⟨z.1, z.2.2⟩)
  have hv2 : v + max (if 0 = 2 then yz_v l + 1 else yz_v l) (yz_v r) ≤ 61 := hv
  have hvr : v + yz_v r ≤ 61 := by omega
  have rest := yQ_rest ihr hr W2 hs hn hvr C hq hE a0 a
  have eL : yz_l (.inner 0 p o l r) = p.1.length + yz_l r := rfl
  have K' : yQ_K g s n (yv v p.1 ++ yz_c r (n + p.1.length) v q e) := K
  have Kr := yQ_Kr K'
  rw [yv_len] at Kr
  obtain ⟨g1, r1, r2, r3, _, _, _⟩ := rest p.1.length eL Kr hx
  rw [eL] at hn ⊢
  obtain ⟨g2, d1, d2, d3⟩ := yQ_str hb (B := B) (Q := Q) (c := yP_T B r E c) hsz hu (show v < 62 by omega) p.1 n g1 hs (by omega) (fun i hi => yP_wo hb (W1.2 i hi)) (yQ_cf r3 C) (yQ_Kf r3 (yQ_Kl K')) r2
  exact ⟨g2, yQ_sct r1 d1 rfl, d2, yQ_frt r3 d3 (by omega) (by omega) (by omega) (by omega)⟩
theorem yQ_V1 (hb : b ≤ 16) (hu : u < 16) (hsz : s + sz ≤ 4000) (ihl : yQ_V B X Y kb b u s sz l) (ihr : yQ_V B X Y kb b u s sz r) : yQ_V B X Y kb b u s sz (.inner 1 p o l r) := by
  intro m n v q e lo Q E c g hm ⟨W1, W2⟩ hs hn hv C K hx hq hE a0 a
  have hr : ((m = 0 ∧ yz_st r) ∨ (m = 1 ∧ yz_br r)) := hm.elim (fun z => .inl ⟨z.1, z.2.2⟩) (fun z => .inr ⟨z.1, z.2.2⟩)
  have hv2 : v + max (if 1 = 2 then yz_v l + 1 else yz_v l) (yz_v r) ≤ 61 := hv
  have hvr : v + yz_v r ≤ 61 := by omega
  have rest := yQ_rest ihr hr W2 hs hn hvr C hq hE a0 a
  have eL : yz_l (.inner 1 p o l r) = yz_l l + yz_l r := rfl
  have eT : yP_T B (.inner 1 p o l r) E c = yP_T B l (yP_T B r E c) (yP_T B r E c) := rfl
  have K' : yQ_K g s n (yz_c l n v q (n + yz_l l) ++ yz_c r (n + yz_l l) v q e) := K
  have Kr := yQ_Kr K'
  rw [yz_len] at Kr
  have hx' : v = 0 → yz_x r (n + yz_l l) = [] ∧ yz_x l n = [] := fun z => List.append_eq_nil_iff.mp (hx z)
  obtain ⟨g1, r1, r2, r3, r4, _, r6⟩ := rest (yz_l l) eL Kr (fun z => (hx' z).1)
  rw [eL] at hn ⊢
  have W1' : yz_br l ∧ yz_W X Y kb b l lo := W1
  have hvl : v + yz_v l ≤ 61 := by
    rw [if_neg (by decide)] at hv2; omega
  obtain ⟨g2, d1, d2, d3⟩ := ihl 1 n v q (n + yz_l l) lo Q (yP_T B r E c) (yP_T B r E c) g1 (.inr ⟨rfl, W1'.1⟩) W1'.2 hs (by omega) hvl (yQ_cf r3 C) (yQ_Kf r3 (yQ_Kl K')) (fun z => (hx' z).2) r4 (fun _ => ⟨Nat.le_refl _, by omega, r2⟩) r6 r2
  rw [eT]
  exact ⟨g2, yQ_sct r1 d1 rfl, d2, yQ_frt r3 d3 (by omega) (by omega) (by omega) (by omega)⟩
theorem yQ_V2 (hb : b ≤ 16) (hu : u < 16) (hsz : s + sz ≤ 4000) (ihl : yQ_V B X Y kb b u s sz l) (ihr : yQ_V B X Y kb b u s sz r) : yQ_V B X Y kb b u s sz (.inner 2 p o l r) := by
  intro m n v q e lo Q E c g hm ⟨W1, W2⟩ hs hn hv C K hx hq hE a0 a
  have hr : ((m = 0 ∧ yz_st r) ∨ (m = 1 ∧ yz_br r)) := hm.elim (fun z => .inl ⟨z.1, z.2.2⟩) (fun z => .inr ⟨z.1, z.2.2⟩)
  have hv2 : v + max (if 2 = 2 then yz_v l + 1 else yz_v l) (yz_v r) ≤ 61 := hv
  have hvr : v + yz_v r ≤ 61 := by omega
  have rest := yQ_rest ihr hr W2 hs hn hvr C hq hE a0 a
  have eL : yz_l (.inner 2 p o l r) = (3 + yz_l l) + yz_l r := rfl
  have eT : yP_T B (.inner 2 p o l r) E c = yP_a 1 (yP_N p.2.2.toNatClampNeg (yP_T B l (none, none, none) (some 1, none, none)) (yP_T B r E c)) := rfl
  obtain ⟨cc, M, w1, w2, w3, w4, w5, w6, w7⟩ := (show ∃ c N, p.2.1 = nI c ∧ p.2.2 = nI N ∧ lo ≤ c ∧ c < X b ∧ N ≤ 1000000 ∧ yz_st l ∧ yz_W X Y kb b l (c + 1) from W1)
  have K' : yQ_K g s n ([((12, p.2.1, p.2.2, 0), v)] ++ ([((13, nI (n + (3 + yz_l l)), p.2.1, 0), v)] ++ (yz_c l (n + 2) (v + 1) (n + (3 + yz_l l)) 0 ++ ([((14, nI (n + 1), 0, 0), v + 1)] ++ yz_c r (n + (3 + yz_l l)) v q e)))) := K
  have pieces : ∀ g : zs_H, yQ_K g s n ([((12, p.2.1, p.2.2, 0), v)] ++ ([((13, nI (n + (3 + yz_l l)), p.2.1, 0), v)] ++ (yz_c l (n + 2) (v + 1) (n + (3 + yz_l l)) 0 ++ ([((14, nI (n + 1), 0, 0), v + 1)] ++ yz_c r (n + (3 + yz_l l)) v q e)))) → yM_m s g n ((12, p.2.1, p.2.2, 0), v) ∧ yM_m s g (n + 1) ((13, nI (n + (3 + yz_l l)), p.2.1, 0), v) ∧ yQ_K g s (n + 2) (yz_c l (n + 2) (v + 1) (n + (3 + yz_l l)) 0) ∧ yM_m s g (n + 2 + yz_l l) ((14, nI (n + 1), 0, 0), v + 1) ∧ yQ_K g s (n + 2 + yz_l l + 1) (yz_c r (n + (3 + yz_l l)) v q e) := by
    intro g K
    have Ka := yQ_Kr (L1 := [_]) (yQ_Kr (L1 := [_]) K)
    have Kb := yQ_Kr Ka
    rw [yz_len] at Kb
    exact ⟨K 0 _ rfl, K 1 _ rfl, yQ_Kl Ka, Kb 0 _ rfl, yQ_Kr (L1 := [_]) Kb⟩
  have e3 : n + 2 + yz_l l + 1 = n + (3 + yz_l l) := by omega
  obtain ⟨g1, r1, r2, r3, r4, _, r6⟩ := rest (3 + yz_l l) eL (by have := (pieces g K').2.2.2.2; rw [e3] at this; exact this) hx
  rw [eL] at hn ⊢
  have hv3 : v + (yz_v l + 1) ≤ 61 := by
    rw [if_pos rfl] at hv2; omega
  have K1 := yQ_Kf r3 K'
  obtain ⟨g2, b1, b2, b3⟩ := yQ_dBack (Q := yP_R v Q (yP_T B r E c)) (show s ≤ n + 2 + yz_l l by omega) (by omega) hsz hu (by omega) (yQ_cf r3 C) (pieces g1 K1).2.2.2.1 rfl
  have K2 := yQ_Kf b3 K1
  have q2 : yQ_at g2 (n + (3 + yz_l l) - s) (yP_R v Q (yP_T B r E c)) := yQ_atf b3 (.inr (by omega)) r2
  obtain ⟨g3, d1, d2, d3⟩ := ihl 0 (n + 2) (v + 1) (n + (3 + yz_l l)) 0 (cc + 1) (yP_R v Q (yP_T B r E c)) (none, none, none) (some 1, none, none) g2 (.inl ⟨rfl, w6⟩) w7 (by omega) (by omega) (by omega) (yQ_cf b3 (yQ_cf r3 C)) (pieces g2 K2).2.2.1 (fun z => absurd z (Nat.succ_ne_zero v)) (fun _ => ⟨⟨by omega, by omega⟩, q2, fun k hk => yP_Rn (by omega)⟩) (fun z => absurd z (by decide)) (yQ_atf b3 (.inr (by omega)) r6) b2
  have K3 := yQ_Kf d3 K2
  obtain ⟨g4, f1, f2, f3⟩ := yQ_dNext (Q := Q) (M := M) (t := n + (3 + yz_l l)) (d := yP_T B r E c) hs (show n + 1 < s + sz by omega) hsz hu (show v < 61 by omega) (yQ_cf d3 (yQ_cf b3 (yQ_cf r3 C))) (pieces g3 K3).1 (pieces g3 K3).2.1 rfl w2 w5 rfl rfl (by omega) d2 (yQ_atf d3 (.inr (by omega)) q2)
  have K4 := yQ_Kf f3 K3
  obtain ⟨g5, h1, h2, h3⟩ := yQ_dOne hb (Q := Q) hs (by omega) hsz hu (show v < 62 by omega) (yQ_cf f3 (yQ_cf d3 (yQ_cf b3 (yQ_cf r3 C)))) (pieces g4 K4).1 ⟨.inr (.inl rfl), fun z => absurd z (show ¬ ((12 : Nat) = 15 ∨ (12 : Nat) = 16) by decide)⟩ f2
  have s1 : yQ_sc g g2 u sz s (n + 2 + yz_l l) (1 + yz_l r) := yQ_sct (by rw [e3]; exact r1) b1 rfl
  have s2 : yQ_sc g g3 u sz s (n + 2) (yz_l l + (1 + yz_l r)) := yQ_sct s1 d1 rfl
  have s3 : yQ_sc g g4 u sz s (n + 1) (1 + (yz_l l + (1 + yz_l r))) := yQ_sct (m1 := 1) (m2 := yz_l l + (1 + yz_l r)) s2 f1 rfl
  have F1 : yQ_fr (n - s) (n + (3 + yz_l l + yz_l r) - s) g g2 := yQ_frt r3 b3 (by omega) (by omega) (by omega) (by omega)
  have F2 : yQ_fr (n - s) (n + (3 + yz_l l + yz_l r) - s) g g3 := yQ_frt F1 d3 (by omega) (by omega) (by omega) (by omega)
  have F3 : yQ_fr (n - s) (n + (3 + yz_l l + yz_l r) - s) g g4 := yQ_frt F2 f3 (by omega) (by omega) (by omega) (by omega)
  rw [eT, w2, nI_clamp (by omega)]
  exact ⟨g5, yQ_sct s3 h1 (by omega), h2, yQ_frt F3 h3 (by omega) (by omega) (by omega) (by omega)⟩
theorem yQ_V3 (hb : b ≤ 16) (hu : u < 16) (hsz : s + sz ≤ 4000) (ihl : yQ_V B X Y kb b u s sz l) (ihr : yQ_V B X Y kb b u s sz r) : yQ_V B X Y kb b u s sz (.inner 3 p o l r) := by
  intro m n v q e lo Q E c g hm ⟨W1, W2⟩ hs hn hv C K hx hq hE a0 a
  have hr : ((m = 0 ∧ yz_st r) ∨ (m = 1 ∧ yz_br r)) := hm.elim (fun z => .inl ⟨z.1, z.2.2⟩) (fun z => .inr ⟨z.1, z.2.2⟩)
  have hv2 : v + max (if 3 = 2 then yz_v l + 1 else yz_v l) (yz_v r) ≤ 61 := hv
  have hvr : v + yz_v r ≤ 61 := by omega
  have rest := yQ_rest ihr hr W2 hs hn hvr C hq hE a0 a
  have eL : yz_l (.inner 3 p o l r) = 1 + yz_l r := rfl
  have K' : yQ_K g s n ([((10, nI q, 0, 0), v)] ++ yz_c r (n + 1) v q e) := K
  have hx' : v = 0 → yz_x r (n + 1) ++ [n] = [] := hx
  have hv0 : 0 < v := by
    rcases Nat.eq_zero_or_pos v with z | z
    · exact absurd (List.append_eq_nil_iff.mp (hx' z)).2 (by intro y; cases y)
    · exact z
  obtain ⟨g1, r1, r2, r3, r4, _, _⟩ := rest 1 eL (yQ_Kr (L1 := [_]) K') (fun z => by omega)
  rw [eL] at hn ⊢
  obtain ⟨⟨q1, q2⟩, q3, q4⟩ := r4 hv0
  obtain ⟨g2, d1, d2, d3⟩ := yQ_dGo (R := Q) (t := q) hs (by omega) hsz hu (show v < 62 by omega) (yQ_cf r3 C) (yQ_Kf r3 K' 0 _ rfl) rfl rfl (by omega) (fun k hk => by rw [q4 k (by omega)]; rfl) q3
  refine ⟨g2, yQ_sct r1 d1 rfl, fun k hk => ?_, yQ_frt r3 d3 (by omega) (by omega) (by omega) (by omega)⟩
  rw [d2 k hk]
  have ee : yP_p (some 1) (Q k) = yP_R v Q (none, some 1, none) k := by
    unfold yP_R
    by_cases z1 : v < k
    · rw [if_pos z1, q4 k (by omega)]; rfl
    rw [if_neg z1]
    by_cases z2 : k = v
    · rw [if_pos z2, if_neg (by omega), q4 k (by omega)]; rfl
    rw [if_neg z2]
    by_cases z3 : k = 0
    · rw [if_pos z3, yP_mn, z3]
    · rw [if_neg z3]
  exact congrArg (yP_s 1000000000000) ee
theorem yQ_V4 (hb : b ≤ 16) (hu : u < 16) (hsz : s + sz ≤ 4000) (ihl : yQ_V B X Y kb b u s sz l) (ihr : yQ_V B X Y kb b u s sz r) : yQ_V B X Y kb b u s sz (.inner 4 p o l r) := by
  intro m n v q e lo Q E c g hm ⟨W1, W2⟩ hs hn hv C K hx hq hE a0 a
  have hr : ((m = 0 ∧ yz_st r) ∨ (m = 1 ∧ yz_br r)) := hm.elim (fun z => .inl ⟨z.1, z.2.2⟩) (fun z => .inr ⟨z.1, z.2.2⟩)
  have hv2 : v + max (if 4 = 2 then yz_v l + 1 else yz_v l) (yz_v r) ≤ 61 := hv
  have hvr : v + yz_v r ≤ 61 := by omega
  have rest := yQ_rest ihr hr W2 hs hn hvr C hq hE a0 a
  have eL : yz_l (.inner 4 p o l r) = 1 + yz_l r := rfl
  have K' : yQ_K g s n ([((18, 0, 0, 0), v)] ++ yz_c r (n + 1) v q e) := K
  obtain ⟨g1, r1, r2, r3, r4, _, r6⟩ := rest 1 eL (yQ_Kr (L1 := [_]) K') hx
  rw [eL] at hn ⊢
  obtain ⟨g2, d1, d2, d3⟩ := yQ_dLeave (Q := Q) hs (by omega) hsz hu (show v < 62 by omega) (yQ_cf r3 C) (yQ_Kf r3 K' 0 _ rfl) rfl r6
  exact ⟨g2, yQ_sct r1 d1 rfl, d2, yQ_frt r3 d3 (by omega) (by omega) (by omega) (by omega)⟩
theorem yQ_V5 (hb : b ≤ 16) (hu : u < 16) (hsz : s + sz ≤ 4000) (ihl : yQ_V B X Y kb b u s sz l) (ihr : yQ_V B X Y kb b u s sz r) : yQ_V B X Y kb b u s sz (.inner 5 p o l r) := by
  intro m n v q e lo Q E c g hm ⟨W1, W2⟩ hs hn hv C K hx hq hE a0 a
  have hr : ((m = 0 ∧ yz_st r) ∨ (m = 1 ∧ yz_br r)) := hm.elim (fun z => .inl ⟨z.1, z.2.2⟩) (fun z => .inr ⟨z.1, z.2.2⟩)
  have hv2 : v + max (if 5 = 2 then yz_v l + 1 else yz_v l) (yz_v r) ≤ 61 := hv
  have hvr : v + yz_v r ≤ 61 := by omega
  have rest := yQ_rest ihr hr W2 hs hn hvr C hq hE a0 a
  have m1 : m = 1 := by
    rcases hm with ⟨_, z, _⟩ | ⟨z1, _⟩
    · exact absurd z (by decide)
    · exact z1
  subst m1
  have hvl : v + yz_v l ≤ 61 := by
    rw [if_neg (by decide)] at hv2; omega
  obtain ⟨w, hw⟩ : ∃ w : Nat, w = if yz_f r = true then 0 else 1 := ⟨_, rfl⟩
  have eL : yz_l (.inner 5 p o l r) = (p.1.length + 1 + yz_l l + w) + yz_l r := by rw [hw]; rfl
  have eT : yP_T B (.inner 5 p o l r) E c = yP_L B p.1 (yP_a 1 (yP_x (yP_T B l (none, none, none) (if yz_f r = true then yP_T B r E c else yP_a 1 E)) (yP_T B r E c))) := rfl
  have W1' : yo_h 0 p.1 = some 1 ∧ (∀ i, i ∈ p.1 → yo_i X (fun u => (kb u).1 = 1) b i) ∧ yz_st l ∧ yz_W X Y kb b l lo := W1
  have K' : yQ_K g s n (yv v p.1 ++ ([((11, nI (n + (p.1.length + 1 + yz_l l + w)), 0, 0), v)] ++ (yz_c l (n + p.1.length + 1) v q 0 ++ ((if yz_f r = true then [] else [((10, nI e, 0, 0), v)]) ++ yz_c r (n + (p.1.length + 1 + yz_l l + w)) v q e)))) := by
    rw [hw]; exact K
  have lg : (if yz_f r = true then [] else [(((10, nI e, 0, 0), v) : yJ)]).length = w := by
    rw [hw]; split <;> rfl
  have pieces : ∀ g : zs_H, yQ_K g s n (yv v p.1 ++ ([((11, nI (n + (p.1.length + 1 + yz_l l + w)), 0, 0), v)] ++ (yz_c l (n + p.1.length + 1) v q 0 ++ ((if yz_f r = true then [] else [((10, nI e, 0, 0), v)]) ++ yz_c r (n + (p.1.length + 1 + yz_l l + w)) v q e)))) → yQ_K g s n (yv v p.1) ∧ yM_m s g (n + p.1.length) ((11, nI (n + (p.1.length + 1 + yz_l l + w)), 0, 0), v) ∧ yQ_K g s (n + p.1.length + 1) (yz_c l (n + p.1.length + 1) v q 0) ∧ (¬ yz_f r = true → yM_m s g (n + p.1.length + 1 + yz_l l) ((10, nI e, 0, 0), v)) ∧ yQ_K g s (n + p.1.length + 1 + yz_l l + w) (yz_c r (n + (p.1.length + 1 + yz_l l + w)) v q e) := by
    intro g K
    have Ka := yQ_Kr K
    rw [yv_len] at Ka
    have Kb := yQ_Kr (L1 := [_]) Ka
    have Kc := yQ_Kr Kb
    rw [yz_len] at Kc
    have Kd := yQ_Kr Kc
    rw [lg] at Kd
    refine ⟨yQ_Kl K, Ka 0 _ rfl, yQ_Kl Kb, fun z => ?_, Kd⟩
    rw [if_neg z] at Kc
    exact Kc 0 _ rfl
  have e3 : n + p.1.length + 1 + yz_l l + w = n + (p.1.length + 1 + yz_l l + w) := by omega
  have hx' : v = 0 → yz_x r (n + (p.1.length + 1 + yz_l l + w)) = [] ∧ yz_x l (n + p.1.length + 1) = [] := fun z => by
    have := hx z
    rw [hw]
    exact List.append_eq_nil_iff.mp this
  obtain ⟨g1, r1, r2, r3, r4, r5, r6⟩ := rest (p.1.length + 1 + yz_l l + w) eL (by have := (pieces g K').2.2.2.2; rw [e3] at this; exact this) (fun z => (hx' z).1)
  have hE' := hE rfl
  rw [eL] at hn hE' ⊢
  have K1 := yQ_Kf r3 K'
  have go : ∃ g2, yQ_sc g g2 u sz s (n + p.1.length + 1 + yz_l l) (w + yz_l r) ∧ yQ_at g2 (n + p.1.length + 1 + yz_l l - s) (yP_R v Q (if yz_f r = true then yP_T B r E c else yP_a 1 E)) ∧ yQ_fr (n + p.1.length + 1 + yz_l l - s) (n + p.1.length + 1 + yz_l l + w - s) g1 g2 := by
    by_cases z : yz_f r = true
    · rw [if_pos z]
      have g0 : w = 0 := by rw [hw, if_pos z]
      subst g0
      refine ⟨g1, ?_, ?_, yQ_fr0⟩
      · rw [Nat.zero_add]
        rw [show n + (p.1.length + 1 + yz_l l + 0) = n + p.1.length + 1 + yz_l l by omega] at r1
        exact r1
      · rw [show n + p.1.length + 1 + yz_l l = n + (p.1.length + 1 + yz_l l + 0) by omega]; exact r2
    · rw [if_neg z]
      have g0 : w = 1 := by rw [hw, if_neg z]
      subst g0
      obtain ⟨g2, d1, d2, d3⟩ := yQ_dGo (R := yP_R v Q E) (t := e) (show s ≤ n + p.1.length + 1 + yz_l l by omega) (by omega) hsz hu (show v < 62 by omega) (yQ_cf r3 C) ((pieces g1 K1).2.2.2.1 z) rfl rfl (by omega) (fun k hk => by rw [yP_Rn hk]; rfl) (r5 rfl)
      refine ⟨g2, yQ_sct (by rw [e3]; exact r1) d1 rfl, fun k hk => ?_, d3⟩
      rw [d2 k hk]; exact congrArg (yP_s 1000000000000) yP_Ra
  obtain ⟨g2, s1, a2, f2⟩ := go
  have K2 := yQ_Kf f2 K1
  obtain ⟨g3, d1, d2, d3⟩ := ihl 0 (n + p.1.length + 1) v q 0 lo Q (none, none, none) _ g2 (.inl ⟨rfl, W1'.2.2.1⟩) W1'.2.2.2 (by omega) (by omega) hvl (yQ_cf f2 (yQ_cf r3 C)) (pieces g2 K2).2.2.1 (fun z => (hx' z).2) (yQ_qf f2 r4 (by omega) (by omega)) (fun z => absurd z (by decide)) (yQ_atf f2 (.inr (by omega)) r6) a2
  have K3 := yQ_Kf d3 K2
  have a3 : yQ_at g3 (n + (p.1.length + 1 + yz_l l + w) - s) (yP_R v Q (yP_T B r E c)) := yQ_atf d3 (.inr (by omega)) (yQ_atf f2 (.inr (by omega)) r2)
  obtain ⟨g4, f1, f3, f4⟩ := yQ_dUnl (Q := Q) (t := n + (p.1.length + 1 + yz_l l + w)) (show s ≤ n + p.1.length by omega) (by omega) hsz hu (show v < 62 by omega) (yQ_cf d3 (yQ_cf f2 (yQ_cf r3 C))) (pieces g3 K3).2.1 rfl rfl (by omega) d2 a3
  have K4 := yQ_Kf f4 K3
  obtain ⟨g5, h1, h2, h3⟩ := yQ_str hb (B := B) (Q := Q) hsz hu (show v < 62 by omega) p.1 n g4 hs (by omega) (fun i hi => yP_io hb (W1'.2.1 i hi)) (yQ_cf f4 (yQ_cf d3 (yQ_cf f2 (yQ_cf r3 C)))) (pieces g4 K4).1 f3
  have s2 : yQ_sc g g3 u sz s (n + p.1.length + 1) (yz_l l + (w + yz_l r)) := yQ_sct s1 d1 rfl
  have s3 : yQ_sc g g4 u sz s (n + p.1.length) (1 + (yz_l l + (w + yz_l r))) := yQ_sct (m1 := 1) (m2 := yz_l l + (w + yz_l r)) s2 f1 rfl
  have F1 : yQ_fr (n - s) (n + (p.1.length + 1 + yz_l l + w + yz_l r) - s) g g2 := yQ_frt r3 f2 (by omega) (by omega) (by omega) (by omega)
  have F2 : yQ_fr (n - s) (n + (p.1.length + 1 + yz_l l + w + yz_l r) - s) g g3 := yQ_frt F1 d3 (by omega) (by omega) (by omega) (by omega)
  have F3 : yQ_fr (n - s) (n + (p.1.length + 1 + yz_l l + w + yz_l r) - s) g g4 := yQ_frt F2 f4 (by omega) (by omega) (by omega) (by omega)
  rw [eT]
  exact ⟨g5, yQ_sct s3 h1 (by omega), h2, yQ_frt F3 h3 (by omega) (by omega) (by omega) (by omega)⟩
theorem yQ_V6 (hb : b ≤ 16) (hu : u < 16) (hsz : s + sz ≤ 4000) (ihl : yQ_V B X Y kb b u s sz l) (ihr : yQ_V B X Y kb b u s sz r) : yQ_V B X Y kb b u s sz (.inner 6 p o l r) := by
  intro m n v q e lo Q E c g hm ⟨W1, W2⟩ hs hn hv C K hx hq hE a0 a
  have hr : ((m = 0 ∧ yz_st r) ∨ (m = 1 ∧ yz_br r)) := hm.elim (fun z => .inl ⟨z.1, z.2.2⟩) (fun z => .inr ⟨z.1, z.2.2⟩)
  have hv2 : v + max (if 6 = 2 then yz_v l + 1 else yz_v l) (yz_v r) ≤ 61 := hv
  have hvr : v + yz_v r ≤ 61 := by omega
  have rest := yQ_rest ihr hr W2 hs hn hvr C hq hE a0 a
  have m1 : m = 1 := by
    rcases hm with ⟨_, z, _⟩ | ⟨z1, _⟩
    · exact absurd z (by decide)
    · exact z1
  subst m1
  have hvl : v + yz_v l ≤ 61 := by
    rw [if_neg (by decide)] at hv2; omega
  have eL : yz_l (.inner 6 p o l r) = yz_l l + yz_l r := rfl
  have eT : yP_T B (.inner 6 p o l r) E c = yP_T B l (none, none, none) (yP_T B r E c) := rfl
  have W1' : yz_st l ∧ yz_W X Y kb b l lo := W1
  have K' : yQ_K g s n (yz_c l n v q 0 ++ yz_c r (n + yz_l l) v q e) := K
  have Kr := yQ_Kr K'
  rw [yz_len] at Kr
  have hx' : v = 0 → yz_x r (n + yz_l l) = [] ∧ yz_x l n = [] := fun z => List.append_eq_nil_iff.mp (hx z)
  obtain ⟨g1, r1, r2, r3, r4, _, r6⟩ := rest (yz_l l) eL Kr (fun z => (hx' z).1)
  rw [eL] at hn ⊢
  obtain ⟨g2, d1, d2, d3⟩ := ihl 0 n v q 0 lo Q (none, none, none) (yP_T B r E c) g1 (.inl ⟨rfl, W1'.1⟩) W1'.2 hs (by omega) hvl (yQ_cf r3 C) (yQ_Kf r3 (yQ_Kl K')) (fun z => (hx' z).2) r4 (fun z => absurd z (by decide)) r6 r2
  rw [eT]
  exact ⟨g2, yQ_sct r1 d1 rfl, d2, yQ_frt r3 d3 (by omega) (by omega) (by omega) (by omega)⟩
theorem yQ_V7 {k : Nat} (h : ¬ k < 7) : yQ_V B X Y kb b u s sz (.inner k p o l r) := by
  intro m n v q e lo Q E c g hm
  exfalso
  rcases hm with ⟨_, z, _⟩ | ⟨_, z, _⟩
  · omega
  · omega
theorem yQ_TM (hb : b ≤ 16) (hu : u < 16) (hsz : s + sz ≤ 4000) : ∀ T : ys, yQ_V B X Y kb b u s sz T := by
  intro T
  induction T with
  | leaf => intro m n v q e lo Q E c g _ _ _ _ _ _ _ _ _ _ _ a; exact ⟨g, fun _ => rfl, a, yQ_fr0⟩
  | inner k p o l r ihl ihr =>
    by_cases h : k < 7
    · have : k = 0 ∨ k = 1 ∨ k = 2 ∨ k = 3 ∨ k = 4 ∨ k = 5 ∨ k = 6 := by omega
      rcases this with e | e | e | e | e | e | e <;> subst e
      · exact yQ_V0 hb hu hsz ihl ihr
      · exact yQ_V1 hb hu hsz ihl ihr
      · exact yQ_V2 hb hu hsz ihl ihr
      · exact yQ_V3 hb hu hsz ihl ihr
      · exact yQ_V4 hb hu hsz ihl ihr
      · exact yQ_V5 hb hu hsz ihl ihr
      · exact yQ_V6 hb hu hsz ihl ihr
    · exact yQ_V7 h
end YQP
