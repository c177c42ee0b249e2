/-! The prover: the class's sums of all statements. -/
section YPE
variable {B X Y : Nat → Nat} {kb : Nat → yK} {b : Nat}
def yP_sc (h h' : zs_H) (s n m : Nat) : Prop := ∀ N, f_Pv_longest_L21 (N + m) h (nI s) (nI (n + m) - 1) = f_Pv_longest_L21 N h' (nI s) (nI n - 1)
theorem yP_sct {h h1 h2 : zs_H} {s n m1 m2 m : Nat} (a : yP_sc h h1 s (n + m1) m2) (b : yP_sc h1 h2 s n m1) (e : m = m1 + m2) : yP_sc h h2 s n m := by
  intro N
  rw [e, show N + (m1 + m2) = (N + m1) + m2 by omega, show n + (m1 + m2) = n + m1 + m2 by omega, a (N + m1), b N]
theorem yP_sc1 {h h' : zs_H} {s n : Nat} (hs : s ≤ n) (hn : n < 4000) (e : yP_d h n = some h') : yP_sc h h' s n 1 := fun _ => yP_step hs hn e
/-- where the loop around ends -/
def yP_bk (h : zs_H) (m v q e n : Nat) : Prop := 0 < v → ∃ bk, h.2.1 57 (v - 1) = nI bk ∧ n ≤ bk ∧ bk < q ∧ (m = 1 → e ≤ bk) ∧ q ≤ 4000
theorem yP_bkf {h h' : zs_H} {m v q e n n' lo hi : Nat} (f : yP_fr lo hi v h h') (a : yP_bk h m v q e n) (hn : n' ≤ n) : yP_bk h' m v q e n' := by
  intro hv
  obtain ⟨bk, b1, b2, b3, b4, b5⟩ := a hv
  exact ⟨bk, by rw [f.2.1 _ _ (fun _ => by omega)]; exact b1, by omega, b3, b4, b5⟩
theorem yP_TC (hb : b ≤ 16) : ∀ (T : ys) (m n v q e lo s : Nat) (E c : yP3) (h : zs_H), ((m = 0 ∧ yz_st T) ∨ (m = 1 ∧ yz_br T)) → yz_W X Y kb b T lo → s ≤ n → n + yz_l T ≤ 4000 → v + yz_v T ≤ 100 → yP_B B b h → yP_K h n ((yz_c T n v q e).map Prod.fst) → (h.1 51 7) = nI v → (v = 0 → yz_x T n = []) → yP_bk h m v q e (n + yz_l T) → (m = 1 → n + yz_l T ≤ e ∧ e ≤ 4000 ∧ yP_at h e E) → yP_at h (n + yz_l T) c → ∃ h', yP_sc h h' s n (yz_l T) ∧ yP_at h' n (yP_T B T E c) ∧ yP_fr n (n + yz_l T) v h h' := by
  intro T
  induction T with
  | leaf => intro m n v q e lo s E c h _ _ _ _ _ _ _ _ _ _ _ a; exact ⟨h, fun _ => rfl, a, yP_fr0⟩
  | inner k p o l r ihl ihr =>
    intro m n v q e lo s E c h hm ⟨W1, W2⟩ hs hn hv hB K hl hx hbk hE a
    have hr : ((m = 0 ∧ yz_st r) ∨ (m = 1 ∧ yz_br r)) := hm.elim (fun z => .inl ⟨z.1, z.2.2⟩) (fun z => .inr ⟨z.1, z.2.2⟩)
    have hv2 : v + max (if k = 2 then yz_v l + 1 else yz_v l) (yz_v r) ≤ 100 := hv
    have hvr : v + yz_v r ≤ 100 := by omega
    -- what is behind, first
    have rest : ∀ (hd : Nat), yz_l (.inner k p o l r) = hd + yz_l r → yP_K h (n + hd) ((yz_c r (n + hd) v q e).map Prod.fst) → (v = 0 → yz_x r (n + hd) = []) → ∃ h1, yP_sc h h1 s (n + hd) (yz_l r) ∧ yP_at h1 (n + hd) (yP_T B r E c) ∧ yP_fr (n + hd) (n + hd + yz_l r) v h h1 ∧ (h1.1 51 7) = nI v ∧ yP_bk h1 m v q e (n + hd) ∧ (m = 1 → yP_at h1 e E) := by
      intro hd e1 K1 x1
      have e2 : n + yz_l (.inner k p o l r) = n + hd + yz_l r := by rw [e1]; omega
      rw [e2] at hn hbk hE a
      obtain ⟨h1, r1, r2, r3⟩ := ihr m (n + hd) v q e lo s E c h hr W2 (by omega) hn hvr hB K1 hl x1 hbk hE a
      exact ⟨h1, r1, r2, r3, (r3.1 _ _).trans hl, yP_bkf r3 hbk (by omega), fun z => yP_atf r3 (.inr (hE z).1) (hE z).2.2⟩
    by_cases k0 : k = 0
    · subst k0
      have eL : yz_l (.inner 0 p o l r) = p.1.length + yz_l r := rfl
      have K' : yP_K h n (p.1 ++ (yz_c r (n + p.1.length) v q e).map Prod.fst) := by
        have : (yz_c (.inner 0 p o l r) n v q e).map Prod.fst = p.1 ++ (yz_c r (n + p.1.length) v q e).map Prod.fst := by
          show (yv v p.1 ++ yz_c r (n + p.1.length) v q e).map Prod.fst = _
          rw [List.map_append, yv_m]
        rw [← this]; exact K
      obtain ⟨h1, r1, r2, r3, _, _, _⟩ := rest p.1.length eL (yP_Kr K') hx
      rw [eL] at hn ⊢
      obtain ⟨h2, d1, d2, d3⟩ := yP_str hb (B := B) (v := v) (c := yP_T B r E c) (s := s) p.1 n h1 hs (by omega) (fun i hi => yP_wo hb (W1.2 i hi)) (yP_Bf hB r3) (yP_Kf r3 (yP_Kl K')) r2
      exact ⟨h2, yP_sct r1 d1 rfl, d2, yP_frt r3 d3 (by omega) (by omega) (Nat.le_refl _) (by omega) (by omega) (Nat.le_refl _)⟩
    by_cases k1 : k = 1
    · subst k1
      have eL : yz_l (.inner 1 p o l r) = yz_l l + yz_l r := rfl
      have eT : yP_T B (.inner 1 p o l r) E c = yP_T B l (yP_T B r E c) (yP_T B r E c) := rfl
      have K' : yP_K h n ((yz_c l n v q (n + yz_l l)).map Prod.fst ++ (yz_c r (n + yz_l l) v q e).map Prod.fst) := by
        rw [← List.map_append]; exact K
      have Kr := yP_Kr K'
      rw [List.length_map, yz_len] at Kr
      have hx' : v = 0 → yz_x r (n + yz_l l) = [] ∧ yz_x l n = [] := fun z => List.append_eq_nil_iff.mp (hx z)
      obtain ⟨h1, r1, r2, r3, r4, r5, _⟩ := rest (yz_l l) eL Kr (fun z => (hx' z).1)
      rw [eL] at hn ⊢
      have W1' : yz_br l ∧ yz_W X Y kb b l lo := W1
      have hvl : v + yz_v l ≤ 100 := by
        rw [if_neg (by decide)] at hv2; omega
      obtain ⟨h2, d1, d2, d3⟩ := ihl 1 n v q (n + yz_l l) lo s (yP_T B r E c) (yP_T B r E c) h1 (.inr ⟨rfl, W1'.1⟩) W1'.2 hs (by omega) hvl (yP_Bf hB r3) (yP_Kf r3 (yP_Kl K')) r4 (fun z => (hx' z).2) (fun z => by
        obtain ⟨bk, b1, b2, b3, _, b5⟩ := r5 z
        exact ⟨bk, b1, b2, b3, fun _ => b2, b5⟩) (fun _ => ⟨Nat.le_refl _, by omega, r2⟩) r2
      rw [eT]
      exact ⟨h2, yP_sct r1 d1 rfl, d2, yP_frt r3 d3 (by omega) (by omega) (Nat.le_refl _) (by omega) (by omega) (Nat.le_refl _)⟩
    by_cases k2 : k = 2
    · subst k2
      have eL : yz_l (.inner 2 p o l r) = (3 + yz_l l) + yz_l r := rfl
      have eT : yP_T B (.inner 2 p o l r) E c = yP_a 1 (yP_N p.2.2.toNatClampNeg (yP_T B l (none, none, none) (some 1, none, none)) (yP_T B r E c)) := rfl
      obtain ⟨cc, M, w1, w2, w3, w4, w5, w6, w7⟩ := (show ∃ c N, p.2.1 = nI c ∧ p.2.2 = nI N ∧ lo ≤ c ∧ c < X b ∧ N ≤ 1000000 ∧ yz_st l ∧ yz_W X Y kb b l (c + 1) from W1)
      have K' : yP_K h n ([(12, p.2.1, p.2.2, 0)] ++ ([(13, nI (n + (3 + yz_l l)), p.2.1, 0)] ++ ((yz_c l (n + 2) (v + 1) (n + (3 + yz_l l)) 0).map Prod.fst ++ ([(14, nI (n + 1), 0, 0)] ++ (yz_c r (n + (3 + yz_l l)) v q e).map Prod.fst)))) := by
        have : (yz_c (.inner 2 p o l r) n v q e).map Prod.fst = [(12, p.2.1, p.2.2, 0)] ++ ([(13, nI (n + (3 + yz_l l)), p.2.1, 0)] ++ ((yz_c l (n + 2) (v + 1) (n + (3 + yz_l l)) 0).map Prod.fst ++ ([(14, nI (n + 1), 0, 0)] ++ (yz_c r (n + (3 + yz_l l)) v q e).map Prod.fst))) := by
          show ([((12, p.2.1, p.2.2, 0), v)] ++ ([((13, nI (n + (3 + yz_l l)), p.2.1, 0), v)] ++ (yz_c l (n + 2) (v + 1) (n + (3 + yz_l l)) 0 ++ ([((14, nI (n + 1), 0, 0), v + 1)] ++ yz_c r (n + (3 + yz_l l)) v q e)))).map Prod.fst = _
          rw [List.map_append, List.map_append, List.map_append, List.map_append]; rfl
        rw [← this]; exact K
      have pieces : ∀ h : zs_H, yP_K h n ([(12, p.2.1, p.2.2, 0)] ++ ([(13, nI (n + (3 + yz_l l)), p.2.1, 0)] ++ ((yz_c l (n + 2) (v + 1) (n + (3 + yz_l l)) 0).map Prod.fst ++ ([(14, nI (n + 1), 0, 0)] ++ (yz_c r (n + (3 + yz_l l)) v q e).map Prod.fst)))) → yC_m h n (12, p.2.1, p.2.2, 0) ∧ yC_m h (n + 1) (13, nI (n + (3 + yz_l l)), p.2.1, 0) ∧ yP_K h (n + 2) ((yz_c l (n + 2) (v + 1) (n + (3 + yz_l l)) 0).map Prod.fst) ∧ yC_m h (n + 2 + yz_l l) (14, nI (n + 1), 0, 0) ∧ yP_K h (n + 2 + yz_l l + 1) ((yz_c r (n + (3 + yz_l l)) v q e).map Prod.fst) := by
        intro h K
        have Ka := yP_Kr (L1 := [_]) (yP_Kr (L1 := [_]) K)
        have Kb := yP_Kr Ka
        rw [List.length_map, yz_len] at Kb
        exact ⟨K 0 _ rfl, K 1 _ rfl, yP_Kl Ka, Kb 0 _ rfl, yP_Kr (L1 := [_]) Kb⟩
      have e3 : n + 2 + yz_l l + 1 = n + (3 + yz_l l) := by omega
      obtain ⟨h1, r1, r2, r3, r4, r5, _⟩ := rest (3 + yz_l l) eL (by have := (pieces h K').2.2.2.2; rw [e3] at this; exact this) hx
      rw [eL] at hn ⊢
      have K1 := pieces h1 (yP_Kf r3 K')
      have hv3 : v + (yz_v l + 1) ≤ 100 := by
        rw [if_pos rfl] at hv2; omega
      obtain ⟨h1', h2, b1, b2, b3, b4⟩ := yP_back (h := h1) (v := v) (show n + 2 + yz_l l < 4000 by omega) K1.2.2.2.1 rfl r4 (by omega)
      have A1 : ∀ a j, ¬ a = 57 → h1'.2.1 a j = h1.2.1 a j := fun a j ha => by
        rw [b2]; exact zu_MM.trans (if_neg fun z => ha z.1)
      have A2 : ∀ j, h1'.2.1 57 j = if j = v then nI (n + 2 + yz_l l) else h1.2.1 57 j := fun j => by
        rw [b2]
        refine zu_MM.trans ?_
        by_cases z : j = v
        · rw [if_pos z, if_pos ⟨rfl, z⟩]
        · rw [if_neg z, if_neg fun q => z q.2]
      have A3 : h1'.2.2 = h1.2.2 := by rw [b2]; rfl
      have K1' : yP_K h1' n ([(12, p.2.1, p.2.2, 0)] ++ ([(13, nI (n + (3 + yz_l l)), p.2.1, 0)] ++ ((yz_c l (n + 2) (v + 1) (n + (3 + yz_l l)) 0).map Prod.fst ++ ([(14, nI (n + 1), 0, 0)] ++ (yz_c r (n + (3 + yz_l l)) v q e).map Prod.fst)))) := by
        intro k i e
        have q := yP_Kf r3 K' k i e
        unfold yC_m at q ⊢
        rw [A1 _ _ (by decide), A1 _ _ (by decide), A1 _ _ (by decide), A1 _ _ (by decide)]
        exact q
      have K2 := yP_Kf b4 K1'
      have B2 : yP_B B b h2 := by
        refine yP_Bf (fun u hu => ?_) b4
        rw [A1 _ _ (by decide)]
        exact yP_Bf hB r3 u hu
      have l2 : (h2.1 51 7) = nI (v + 1) := (b4.1 _ _).trans (by rw [b2]; rfl)
      obtain ⟨h3, d1, d2, d3⟩ := ihl 0 (n + 2) (v + 1) (n + (3 + yz_l l)) 0 (cc + 1) s (none, none, none) (some 1, none, none) h2 (.inl ⟨rfl, w6⟩) w7 (by omega) (by omega) (by omega) B2 (pieces h2 K2).2.2.1 l2 (fun z => absurd z (Nat.succ_ne_zero v)) (fun _ => ⟨n + 2 + yz_l l, by rw [b4.2.1 _ _ (fun _ => by omega), Nat.add_sub_cancel, A2, if_pos rfl], Nat.le_refl _, by omega, fun z => absurd z (by decide), by omega⟩) (fun z => absurd z (by decide)) b3
      have K3 := pieces h3 (yP_Kf d3 K2)
      have a3 : yP_at h3 (n + (3 + yz_l l)) (yP_T B r E c) := by
        refine yP_atf d3 (.inr (by omega)) (yP_atf b4 (.inr (by omega)) ?_)
        unfold yP_at
        rw [A3]
        exact r2
      obtain ⟨h4', h4, f1, f2, f3, f4⟩ := yP_next (h := h3) (v := v) (M := M) (show n + 1 < 4000 by omega) K3.1 K3.2.1 rfl rfl w2 w5 (by omega) ((d3.1 _ _).trans l2) (by omega) d2 a3
      have F14 : yP_fr n (n + (3 + yz_l l)) v h1 h4 := by
        refine ⟨fun a b => ?_, fun a j q => ?_, fun a j q => ?_⟩
        · rw [f4.1, f2]
          by_cases z : a = 51 ∧ b = 7
          · rw [z.1, z.2]
            exact r4.symm
          · refine (zu_FF.trans (if_neg z)).trans ?_
            rw [d3.1, b4.1, b2]
            exact zu_FF.trans (if_neg z)
        · rw [f4.2.1 a j q, f2]
          show h3.2.1 a j = _
          rw [d3.2.1 a j (fun z => by have := q z; omega), b4.2.1 a j (fun z => by have := q z; omega)]
          by_cases z : a = 57
          · have := q z
            rw [z, A2, if_neg (by omega)]
          · exact A1 a j z
        · have q1 : ¬ a ∈ [54, 55, 56] ∨ j < n + 1 ∨ n + 2 ≤ j := by rcases q with q | q | q; exact .inl q; exact .inr (.inl (by omega)); exact .inr (.inr (by omega))
          have q2 : ¬ a ∈ [54, 55, 56] ∨ j < n + 2 ∨ n + 2 + yz_l l ≤ j := by rcases q with q | q | q; exact .inl q; exact .inr (.inl (by omega)); exact .inr (.inr (by omega))
          have q3 : ¬ a ∈ [54, 55, 56] ∨ j < n + 2 + yz_l l ∨ n + 2 + yz_l l + 1 ≤ j := by rcases q with q | q | q; exact .inl q; exact .inr (.inl (by omega)); exact .inr (.inr (by omega))
          rw [f4.2.2 a j q1, f2]
          show h3.2.2 a j = _
          rw [d3.2.2 a j q2, b4.2.2 a j q3, A3]
      have K4 := pieces h4 (yP_Kf F14 (yP_Kf r3 K'))
      obtain ⟨h5, g1, g2, g3⟩ := yP_one hb (B := B) (v := v) (show n < 4000 by omega) (yP_Bf (yP_Bf hB r3) F14) K4.1 ⟨.inr (.inl rfl), fun z => absurd z (show ¬ ((12 : Nat) = 15 ∨ (12 : Nat) = 16) by decide)⟩ f3
      have s1 : yP_sc h h2 s (n + 2 + yz_l l) (1 + yz_l r) := yP_sct (by rw [e3]; exact r1) (yP_sc1 (by omega) (by omega) b1) rfl
      have s2 : yP_sc h h3 s (n + 2) (yz_l l + (1 + yz_l r)) := yP_sct s1 d1 rfl
      have s3 : yP_sc h h4 s (n + 1) (1 + (yz_l l + (1 + yz_l r))) := yP_sct s2 (yP_sc1 (by omega) (by omega) f1) rfl
      rw [eT, w2, nI_clamp (by omega)]
      exact ⟨h5, yP_sct s3 (yP_sc1 hs (by omega) g1) (by omega), g2, yP_frt (yP_frt r3 F14 (lo := n) (hi := n + (3 + yz_l l + yz_l r)) (v := v) (by omega) (by omega) (Nat.le_refl _) (by omega) (by omega) (Nat.le_refl _)) g3 (by omega) (by omega) (Nat.le_refl _) (by omega) (by omega) (Nat.le_refl _)⟩
    by_cases k3 : k = 3
    · subst k3
      have eL : yz_l (.inner 3 p o l r) = 1 + yz_l r := rfl
      have K' : yP_K h n ([(10, nI q, 0, 0)] ++ (yz_c r (n + 1) v q e).map Prod.fst) := by
        have : (yz_c (.inner 3 p o l r) n v q e).map Prod.fst = [(10, nI q, 0, 0)] ++ (yz_c r (n + 1) v q e).map Prod.fst := by
          show ([((10, nI q, 0, 0), v)] ++ yz_c r (n + 1) v q e).map Prod.fst = _
          rw [List.map_append]; rfl
        rw [← this]; exact K
      have hx' : v = 0 → yz_x r (n + 1) ++ [n] = [] := hx
      have hv0 : 0 < v := by
        rcases Nat.eq_zero_or_pos v with z | z
        · exact absurd (List.append_eq_nil_iff.mp (hx' z)).2 (by intro y; cases y)
        · exact z
      obtain ⟨h1, r1, r2, r3, r4, r5, _⟩ := rest 1 eL (yP_Kr (L1 := [_]) K') (fun z => by omega)
      rw [eL] at hn ⊢
      obtain ⟨bk, b1, b2, b3, _, b5⟩ := r5 hv0
      obtain ⟨h2, d1, d2, d3⟩ := yP_exit (h := h1) (v := v) (bk := bk) (q := q) (show n < 4000 by omega) (yP_Kf r3 K' 0 _ rfl) rfl rfl r4 (by omega) hv0 b1 b3 (by omega)
      exact ⟨h2, yP_sct r1 (yP_sc1 hs (by omega) d1) rfl, d2, yP_frt r3 d3 (by omega) (by omega) (Nat.le_refl _) (by omega) (by omega) (Nat.le_refl _)⟩
    by_cases k4 : k = 4
    · subst k4
      have eL : yz_l (.inner 4 p o l r) = 1 + yz_l r := rfl
      have K' : yP_K h n ([(18, 0, 0, 0)] ++ (yz_c r (n + 1) v q e).map Prod.fst) := by
        have : (yz_c (.inner 4 p o l r) n v q e).map Prod.fst = [(18, 0, 0, 0)] ++ (yz_c r (n + 1) v q e).map Prod.fst := by
          show ([((18, 0, 0, 0), v)] ++ yz_c r (n + 1) v q e).map Prod.fst = _
          rw [List.map_append]; rfl
        rw [← this]; exact K
      obtain ⟨h1, r1, r2, r3, r4, r5, _⟩ := rest 1 eL (yP_Kr (L1 := [_]) K') hx
      rw [eL] at hn ⊢
      obtain ⟨h2, d1, d2, d3⟩ := yP_leave (h := h1) (v := v) (show n < 4000 by omega) (yP_Kf r3 K' 0 _ rfl) rfl
      exact ⟨h2, yP_sct r1 (yP_sc1 hs (by omega) d1) rfl, d2, yP_frt r3 d3 (by omega) (by omega) (Nat.le_refl _) (by omega) (by omega) (Nat.le_refl _)⟩
    have hm1 : m = 1 ∧ (k = 5 ∨ (k = 6 ∧ yz_f r = true)) := by
      rcases hm with ⟨_, z, _⟩ | ⟨z1, z2, _⟩
      · omega
      · exact ⟨z1, z2⟩
    obtain ⟨m1, k56⟩ := hm1
    subst m1
    have hvl : v + yz_v l ≤ 100 := by
      rw [if_neg k2] at hv2; omega
    rcases k56 with k5 | ⟨k6, fr⟩
    · subst k5
      obtain ⟨g, hg⟩ : ∃ g : Nat, g = if yz_f r = true then 0 else 1 := ⟨_, rfl⟩
      have eL : yz_l (.inner 5 p o l r) = (p.1.length + 1 + yz_l l + g) + yz_l r := by rw [hg]; rfl
      have eT : yP_T B (.inner 5 p o l r) E c = yP_L B p.1 (yP_a 1 (yP_x (yP_T B l (none, none, none) (if yz_f r = true then yP_T B r E c else yP_a 1 E)) (yP_T B r E c))) := rfl
      have W1' : yo_h 0 p.1 = some 1 ∧ (∀ i, i ∈ p.1 → yo_i X (fun u => (kb u).1 = 1) b i) ∧ yz_st l ∧ yz_W X Y kb b l lo := W1
      have K' : yP_K h n (p.1 ++ ([(11, nI (n + (p.1.length + 1 + yz_l l + g)), 0, 0)] ++ ((yz_c l (n + p.1.length + 1) v q 0).map Prod.fst ++ ((if yz_f r = true then [] else [(10, nI e, 0, 0)]) ++ (yz_c r (n + (p.1.length + 1 + yz_l l + g)) v q e).map Prod.fst)))) := by
        have : (yz_c (.inner 5 p o l r) n v q e).map Prod.fst = p.1 ++ ([(11, nI (n + (p.1.length + 1 + yz_l l + g)), 0, 0)] ++ ((yz_c l (n + p.1.length + 1) v q 0).map Prod.fst ++ ((if yz_f r = true then [] else [(10, nI e, 0, 0)]) ++ (yz_c r (n + (p.1.length + 1 + yz_l l + g)) v q e).map Prod.fst))) := by
          rw [hg]
          show (yv v p.1 ++ ([((11, nI (n + (p.1.length + 1 + yz_l l + (if yz_f r = true then 0 else 1))), 0, 0), v)] ++ (yz_c l (n + p.1.length + 1) v q 0 ++ ((if yz_f r = true then [] else [((10, nI e, 0, 0), v)]) ++ yz_c r (n + (p.1.length + 1 + yz_l l + (if yz_f r = true then 0 else 1))) v q e)))).map Prod.fst = _
          rw [List.map_append, List.map_append, List.map_append, List.map_append, yv_m]
          by_cases z : yz_f r = true
          · simp only [if_pos z]; rfl
          · simp only [if_neg z]; rfl
        rw [← this]; exact K
      have lg : (if yz_f r = true then [] else [((10, nI e, 0, 0) : yI)]).length = g := by
        rw [hg]; split <;> rfl
      have pieces : ∀ h : zs_H, yP_K h n (p.1 ++ ([(11, nI (n + (p.1.length + 1 + yz_l l + g)), 0, 0)] ++ ((yz_c l (n + p.1.length + 1) v q 0).map Prod.fst ++ ((if yz_f r = true then [] else [(10, nI e, 0, 0)]) ++ (yz_c r (n + (p.1.length + 1 + yz_l l + g)) v q e).map Prod.fst)))) → yP_K h n p.1 ∧ yC_m h (n + p.1.length) (11, nI (n + (p.1.length + 1 + yz_l l + g)), 0, 0) ∧ yP_K h (n + p.1.length + 1) ((yz_c l (n + p.1.length + 1) v q 0).map Prod.fst) ∧ (¬ yz_f r = true → yC_m h (n + p.1.length + 1 + yz_l l) (10, nI e, 0, 0)) ∧ yP_K h (n + p.1.length + 1 + yz_l l + g) ((yz_c r (n + (p.1.length + 1 + yz_l l + g)) v q e).map Prod.fst) := by
        intro h K
        have Ka := yP_Kr K
        have Kb := yP_Kr (L1 := [_]) Ka
        have Kc := yP_Kr Kb
        rw [List.length_map, yz_len] at Kc
        have Kd := yP_Kr Kc
        rw [lg] at Kd
        refine ⟨yP_Kl K, Ka 0 _ rfl, yP_Kl Kb, fun z => ?_, Kd⟩
        rw [if_neg z] at Kc
        exact Kc 0 _ rfl
      have e3 : n + p.1.length + 1 + yz_l l + g = n + (p.1.length + 1 + yz_l l + g) := by omega
      have hx' : v = 0 → yz_x r (n + (p.1.length + 1 + yz_l l + g)) = [] ∧ yz_x l (n + p.1.length + 1) = [] := fun z => by
        have := hx z
        rw [hg]
        exact List.append_eq_nil_iff.mp this
      obtain ⟨h1, r1, r2, r3, r4, r5, r6⟩ := rest (p.1.length + 1 + yz_l l + g) eL (by have := (pieces h K').2.2.2.2; rw [e3] at this; exact this) (fun z => (hx' z).1)
      have hE' := hE rfl
      rw [eL] at hn hE' ⊢
      have K1 := yP_Kf r3 K'
      -- the jump behind the choice
      have go : ∃ h2, yP_sc h h2 s (n + p.1.length + 1 + yz_l l) (g + yz_l r) ∧ yP_at h2 (n + p.1.length + 1 + yz_l l) (if yz_f r = true then yP_T B r E c else yP_a 1 E) ∧ yP_fr (n + p.1.length + 1 + yz_l l) (n + p.1.length + 1 + yz_l l + g) v h1 h2 := by
        by_cases z : yz_f r = true
        · rw [if_pos z]
          have g0 : g = 0 := by rw [hg, if_pos z]
          subst g0
          refine ⟨h1, ?_, ?_, yP_fr0⟩
          · rw [Nat.zero_add]
            rw [show n + (p.1.length + 1 + yz_l l + 0) = n + p.1.length + 1 + yz_l l by omega] at r1
            exact r1
          · rw [show n + p.1.length + 1 + yz_l l = n + (p.1.length + 1 + yz_l l + 0) by omega]; exact r2
        · rw [if_neg z]
          have g1 : g = 1 := by rw [hg, if_neg z]
          subst g1
          obtain ⟨h2, d1, d2, d3⟩ := yP_go (h := h1) (v := v) (c := E) (e := e) (show n + p.1.length + 1 + yz_l l < 4000 by omega) ((pieces h1 K1).2.2.2.1 z) rfl rfl hE'.2.1 r4 (by omega) (fun hv0 => by
            obtain ⟨bk, b1, b2, b3, b4, b5⟩ := r5 hv0
            exact ⟨bk, b1, b4 rfl, by omega⟩) (r6 rfl)
          exact ⟨h2, yP_sct (by rw [e3]; exact r1) (yP_sc1 (by omega) (by omega) d1) rfl, d2, d3⟩
      obtain ⟨h2, s1, a2, f2⟩ := go
      have K2 := yP_Kf f2 K1
      obtain ⟨h3, d1, d2, d3⟩ := ihl 0 (n + p.1.length + 1) v q 0 lo s (none, none, none) _ h2 (.inl ⟨rfl, W1'.2.2.1⟩) W1'.2.2.2 (by omega) (by omega) hvl (yP_Bf (yP_Bf hB r3) f2) (pieces h2 K2).2.2.1 ((f2.1 _ _).trans r4) (fun z => (hx' z).2) (fun hv0 => by
        obtain ⟨bk, b1, b2, b3, b4, b5⟩ := r5 hv0
        exact ⟨bk, by rw [f2.2.1 _ _ (fun _ => by omega)]; exact b1, by omega, b3, fun z => absurd z (by decide), b5⟩) (fun z => absurd z (by decide)) a2
      have K3 := yP_Kf d3 K2
      have a3 : yP_at h3 (n + (p.1.length + 1 + yz_l l + g)) (yP_T B r E c) := yP_atf d3 (.inr (by omega)) (yP_atf f2 (.inr (by omega)) r2)
      obtain ⟨h4, f1, f3, f4⟩ := yP_unl (h := h3) (v := v) (show n + p.1.length < 4000 by omega) (pieces h3 K3).2.1 rfl rfl (by omega) d2 a3
      have K4 := yP_Kf f4 K3
      obtain ⟨h5, g1, g2, g3⟩ := yP_str hb (B := B) (v := v) (s := s) p.1 n h4 hs (by omega) (fun i hi => yP_io hb (W1'.2.1 i hi)) (yP_Bf (yP_Bf (yP_Bf (yP_Bf hB r3) f2) d3) f4) (pieces h4 K4).1 f3
      have s2 : yP_sc h h3 s (n + p.1.length + 1) (yz_l l + (g + yz_l r)) := yP_sct s1 d1 rfl
      have s3 : yP_sc h h4 s (n + p.1.length) (1 + (yz_l l + (g + yz_l r))) := yP_sct s2 (yP_sc1 (by omega) (by omega) f1) rfl
      have F1 : yP_fr n (n + (p.1.length + 1 + yz_l l + g + yz_l r)) v h h2 := yP_frt r3 f2 (by omega) (by omega) (Nat.le_refl _) (by omega) (by omega) (Nat.le_refl _)
      have F2 : yP_fr n (n + (p.1.length + 1 + yz_l l + g + yz_l r)) v h h3 := yP_frt F1 d3 (by omega) (by omega) (Nat.le_refl _) (by omega) (by omega) (Nat.le_refl _)
      have F3 : yP_fr n (n + (p.1.length + 1 + yz_l l + g + yz_l r)) v h h4 := yP_frt F2 f4 (by omega) (by omega) (Nat.le_refl _) (by omega) (by omega) (Nat.le_refl _)
      rw [eT]
      exact ⟨h5, yP_sct s3 g1 (by omega), g2, yP_frt F3 g3 (by omega) (by omega) (Nat.le_refl _) (by omega) (by omega) (Nat.le_refl _)⟩
    · subst k6
      have eL : yz_l (.inner 6 p o l r) = yz_l l + yz_l r := rfl
      have eT : yP_T B (.inner 6 p o l r) E c = yP_T B l (none, none, none) (yP_T B r E c) := rfl
      have W1' : yz_st l ∧ yz_W X Y kb b l lo := W1
      have K' : yP_K h n ((yz_c l n v q 0).map Prod.fst ++ (yz_c r (n + yz_l l) v q e).map Prod.fst) := by
        rw [← List.map_append]; exact K
      have Kr := yP_Kr K'
      rw [List.length_map, yz_len] at Kr
      have hx' : v = 0 → yz_x r (n + yz_l l) = [] ∧ yz_x l n = [] := fun z => List.append_eq_nil_iff.mp (hx z)
      obtain ⟨h1, r1, r2, r3, r4, r5, _⟩ := rest (yz_l l) eL Kr (fun z => (hx' z).1)
      rw [eL] at hn ⊢
      obtain ⟨h2, d1, d2, d3⟩ := ihl 0 n v q 0 lo s (none, none, none) (yP_T B r E c) h1 (.inl ⟨rfl, W1'.1⟩) W1'.2 hs (by omega) hvl (yP_Bf hB r3) (yP_Kf r3 (yP_Kl K')) r4 (fun z => (hx' z).2) (fun z => by
        obtain ⟨bk, b1, b2, b3, _, b5⟩ := r5 z
        exact ⟨bk, b1, b2, b3, fun z => absurd z (by decide), b5⟩) (fun z => absurd z (by decide)) r2
      rw [eT]
      exact ⟨h2, yP_sct r1 d1 rfl, d2, yP_frt r3 d3 (by omega) (by omega) (Nat.le_refl _) (by omega) (by omega) (Nat.le_refl _)⟩
end YPE
