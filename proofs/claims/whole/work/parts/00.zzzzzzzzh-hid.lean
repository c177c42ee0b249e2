/-! The prover: how high the stack is: the class, by T. -/
theorem yH_z : ∀ (T : ys) (x : Bool), yz_l T = 0 → yH_r T x = x ∧ yH_D T x = false := by
  intro T
  induction T with
  | leaf => intro x _; exact ⟨rfl, rfl⟩
  | inner k p o l r ihl ihr =>
    intro x e
    have e' : (if k = 0 then p.1.length else if k = 1 then yz_l l else if k = 2 then 3 + yz_l l else if k = 3 then 1 else if k = 4 then 1 else if k = 5 then p.1.length + 1 + yz_l l + (if yz_f r = true then 0 else 1) else yz_l l) + yz_l r = 0 := e
    have er : yz_l r = 0 := by omega
    have e1 : (if k = 0 then p.1.length else if k = 1 then yz_l l else if k = 2 then 3 + yz_l l else if k = 3 then 1 else if k = 4 then 1 else if k = 5 then p.1.length + 1 + yz_l l + (if yz_f r = true then 0 else 1) else yz_l l) = 0 := by omega
    clear e e'
    show (if k = 1 ∨ k = 6 then yH_r r (yH_r l x) else if k = 3 ∨ k = 4 then yH_r r false else if k = 5 then (yH_r l x || yH_r r x) else yH_r r x) = x ∧ (if k = 0 then (x && yH_d 0 p.1) || yH_D r x else if k = 1 ∨ k = 6 then yH_D l x || yH_D r (yH_r l x) else if k = 3 ∨ k = 4 then yH_D r false else if k = 5 then (x && yH_d 0 p.1) || (yH_D l x || yH_D r x) else yH_D l x || yH_D r x) = false
    by_cases k0 : k = 0
    · rw [if_pos k0] at e1
      rw [if_neg (by omega), if_neg (by omega), if_neg (by omega), if_pos k0, (ihr x er).1, (ihr x er).2, List.eq_nil_of_length_eq_zero e1]
      exact ⟨rfl, by rw [yH_d, Bool.and_false]; rfl⟩
    rw [if_neg k0] at e1 ⊢
    by_cases k1 : k = 1
    · rw [if_pos k1] at e1
      rw [if_pos (.inl k1), if_pos (.inl k1), (ihl x e1).1, (ihl x e1).2, (ihr x er).1, (ihr x er).2]
      exact ⟨rfl, rfl⟩
    rw [if_neg k1] at e1
    by_cases k2 : k = 2
    · rw [if_pos k2] at e1; omega
    rw [if_neg k2] at e1
    by_cases k3 : k = 3
    · rw [if_pos k3] at e1; omega
    rw [if_neg k3] at e1
    by_cases k4 : k = 4
    · rw [if_pos k4] at e1; omega
    rw [if_neg k4] at e1
    by_cases k5 : k = 5
    · rw [if_pos k5] at e1; omega
    rw [if_neg k5] at e1
    by_cases k6 : k = 6
    · rw [if_pos (.inr k6), if_pos (.inr k6), (ihl x e1).1, (ihl x e1).2, (ihr x er).1, (ihr x er).2]
      exact ⟨rfl, rfl⟩
    · rw [if_neg (by omega), if_neg (by omega), if_neg k5, if_neg (by omega), if_neg (by omega), if_neg k5, (ihr x er).1, (ihr x er).2, (ihl x e1).2]
      exact ⟨rfl, rfl⟩
theorem yH_rx {T : ys} {x : Bool} (h : yH_r T x = true) : x = true := by
  cases x with
  | true => rfl
  | false => rw [(yH_f T).1] at h; exact h
/-- a part of a unit: D: above 64; R: its end is come to -/
def yH_O (bh : Nat) (h : zs_H) (n len v q qf mo : Nat) (x D R : Bool) : Prop := ∃ h' mo', (∀ N, f_Pv_highest_L37 (N + len) h (nI bh) (nI mo) (nI 0) (nI n) = f_Pv_highest_L37 N h' (nI bh) (nI mo') (nI 0) (nI (n + len))) ∧ mo' ≤ 6000 ∧ (64 < mo' ↔ 64 < mo ∨ D = true) ∧ (∀ y, h.2.1 53 (n + len) = yH_v y → h'.2.1 53 (n + len) = yH_v (y || R)) ∧ (0 < v → ∀ y, h.2.1 53 q = yH_v y → ∃ z, (z = true → x = true) ∧ h'.2.1 53 q = yH_v (y || z)) ∧ yH_fr n (n + len) qf h h'
def yH_V (X Y : Nat → Nat) (kb : Nat → yK) (b bh : Nat) (T : ys) : Prop := ∀ (m n v q qf e lo mo : Nat) (x : Bool) (h : zs_H), ((m = 0 ∧ yz_st T) ∨ (m = 1 ∧ yz_br T)) → yz_W X Y kb b T lo → n + yz_l T ≤ bh → yP_K h n ((yz_c T n v q e).map Prod.fst) → (v = 0 → yz_x T n = []) → ((0 < v ∧ qf = q ∧ n + yz_l T < q ∧ q ≤ 4000) ∨ (v = 0 ∧ qf ≤ n)) → (m = 1 → e = n + yz_l T) → mo ≤ 6000 → h.2.1 53 n = yH_v x → (∀ j, n < j → j < n + yz_l T → h.2.1 53 j = 0) → yH_O bh h n (yz_l T) v q qf mo x (yH_D T x) (yH_r T x)
section YHD
variable {X Y : Nat → Nat} {kb : Nat → yK} {b bh : Nat} {h : zs_H} {m n hd v q qf e lo mo : Nat} {x D R : Bool} {p : List yI × Int32 × Int32} {o : Unit} {l r : ys}
theorem yH_seq (ihr : yH_V X Y kb b bh r) (A : yH_O bh h n hd v q qf mo x D R) (hr : (m = 0 ∧ yz_st r) ∨ (m = 1 ∧ yz_br r)) (W : yz_W X Y kb b r lo) (hn : n + (hd + yz_l r) ≤ bh) (K : yP_K h (n + hd) ((yz_c r (n + hd) v q e).map Prod.fst)) (hx : v = 0 → yz_x r (n + hd) = []) (hq : (0 < v ∧ qf = q ∧ n + (hd + yz_l r) < q ∧ q ≤ 4000) ∨ (v = 0 ∧ qf ≤ n)) (he : m = 1 → e = n + (hd + yz_l r)) (rn : h.2.1 53 n = yH_v x) (z0 : ∀ j, n < j → j < n + (hd + yz_l r) → h.2.1 53 j = 0) (hR : R = true → x = true) (h0 : hd = 0 → R = x) : yH_O bh h n (hd + yz_l r) v q qf mo x (D || yH_D r R) (yH_r r R) := by
  obtain ⟨h1, mo1, a1, a2, a3, a4, a5, a6⟩ := A
  by_cases lz : yz_l r = 0
  · obtain ⟨i1, i2⟩ := yH_z r R lz
    rw [lz, Nat.add_zero, i1, i2, Bool.or_false]
    exact ⟨h1, mo1, a1, a2, a3, a4, a5, a6⟩
  · have r1 : h1.2.1 53 (n + hd) = yH_v R := by
      by_cases z : hd = 0
      · subst z
        have := a4 x rn
        rw [h0 rfl, Bool.or_self] at this
        rw [h0 rfl]; exact this
      · have := a4 false (z0 (n + hd) (by omega) (by omega))
        rwa [Bool.false_or] at this
    have z1 : ∀ j, n + hd < j → j < n + hd + yz_l r → h1.2.1 53 j = 0 := fun j j1 j2 => (a6.2.2 53 j (.inr ⟨by omega, by omega⟩)).trans (z0 j (by omega) (by omega))
    obtain ⟨h2, mo2, b1, b2, b3, b4, b5, b6⟩ := ihr m (n + hd) v q qf e lo mo1 R h1 hr W (by omega) (yH_Kf a6 K) hx (by omega) (fun z => by have := he z; omega) a2 r1 z1
    refine ⟨h2, mo2, fun N => ?_, b2, ?_, fun y hy => ?_, fun hv y hy => ?_, yH_frt a6 b6 (by omega) (by omega) (.inl rfl) (.inl rfl)⟩
    · rw [show N + (hd + yz_l r) = (N + yz_l r) + hd by omega, a1, b1, show n + hd + yz_l r = n + (hd + yz_l r) by omega]
    · rw [b3, a3, Bool.or_eq_true, or_assoc]
    · rw [show n + (hd + yz_l r) = n + hd + yz_l r by omega] at hy ⊢
      refine b4 y ?_
      rw [a6.2.2 53 _ (.inr ⟨by omega, by omega⟩)]; exact hy
    · obtain ⟨w1, c1, c2⟩ := a5 hv y hy
      obtain ⟨w2, c3, c4⟩ := b5 hv _ c2
      exact ⟨w1 || w2, fun z => by rw [Bool.or_eq_true] at z; exact z.elim c1 (fun z => hR (c3 z)), by rw [← Bool.or_assoc]; exact c4⟩
/-- one instruction -/
theorem yH_one {i : yI} {d : Nat} (hj : n < bh) (hb : bh ≤ 4000) (hmo : mo ≤ 6000) (hd : d ≤ 5000) (mm : yC_m h n i) (ho : i.1 < 19) (ht : yo_t i.1 ≤ d) (hl : d - yo_t i.1 + yo_l i.1 ≤ 64) (r : h.2.1 53 n = yH_v x) (ha : i.1 = 10 ∨ i.1 = 11 ∨ i.1 = 13 → ∃ t, i.2.1 = nI t ∧ t ≤ 4000) : ∃ h' mo', (∀ N, f_Pv_highest_L37 (N + 1) h (nI bh) (nI mo) (nI d) (nI n) = f_Pv_highest_L37 N h' (nI bh) (nI mo') (nI (d - yo_t i.1 + yo_l i.1)) (nI (n + 1))) ∧ mo' ≤ 6000 ∧ (64 < mo' ↔ 64 < mo) ∧ h' = (if x = true then (if i.1 = 10 ∨ i.1 = 14 ∨ i.1 = 18 then (if i.1 = 10 then zs_uM h 53 (i.2.1).toNatClampNeg 1 else h) else zs_uM (if i.1 = 11 ∨ i.1 = 13 then zs_uM h 53 (i.2.1).toNatClampNeg 1 else h) 53 (n + 1) 1) else h) := by
  cases x with
  | false => exact ⟨h, mo, fun N => yH_s0 hj hb mm ho ht r, hmo, Iff.rfl, rfl⟩
  | true =>
    refine ⟨_, max mo (d - yo_t i.1 + yo_l i.1), fun N => yH_s1 hj hb (by omega) mm ho ht r rfl (fun z => ?_), by omega, by omega, rfl⟩
    obtain ⟨t, t1, t2⟩ := ha z
    rw [t1]
    exact zi_in (by omega) (by omega)
theorem yH_V0 (hb : b ≤ 16) (hbh : bh ≤ 4000) (ihr : yH_V X Y kb b bh r) : yH_V X Y kb b bh (.inner 0 p o l r) := by
  intro m n v q qf e lo mo x h hm ⟨W1, W2⟩ hn K hx hq he hmo rn z0
  have hr : ((m = 0 ∧ yz_st r) ∨ (m = 1 ∧ yz_br r)) := hm.elim (fun z => .inl ⟨z.1, z.2.2⟩) (fun z => .inr ⟨z.1, z.2.2⟩)
  have K' : yP_K h n (p.1 ++ (yz_c r (n + p.1.length) v q e).map Prod.fst) := by
    have : (yz_c (.inner 0 p o l r) n v q e).map Prod.fst = p.1 ++ (yz_c r (n + p.1.length) v q e).map Prod.fst := by
      show (yv v p.1 ++ yz_c r (n + p.1.length) v q e).map Prod.fst = _
      rw [List.map_append, yv_m]
    rw [← this]; exact K
  have hn' : n + (p.1.length + yz_l r) ≤ bh := hn
  have hq' : (0 < v ∧ qf = q ∧ n + (p.1.length + yz_l r) < q ∧ q ≤ 4000) ∨ (v = 0 ∧ qf ≤ n) := hq
  have z0' : ∀ j, n < j → j < n + (p.1.length + yz_l r) → h.2.1 53 j = 0 := z0
  obtain ⟨h1, mo1, a1, a2, a3, a4, a5⟩ := yH_str hbh p.1 n 0 0 mo x h (by omega) (by omega) hmo W1.1 (fun i hi => yP_wo hb (W1.2 i hi)) (yP_Kl K') rn (fun j j1 j2 => z0' j j1 (by omega))
  have A : yH_O bh h n p.1.length v q qf mo x (x && yH_d 0 p.1) x := ⟨h1, mo1, a1, a2, a3, a4, fun hv y hy => ⟨false, fun z => (by cases z), by rw [Bool.or_false, a5.2.2 53 q (.inr ⟨by omega, by omega⟩)]; exact hy⟩, yH_frt a5 (yH_fr0 (lo := n) (hi := n) (q := n)) (by omega) (by omega) (by omega) (by omega)⟩
  exact yH_seq ihr A hr W2 hn' (yP_Kr K') hx hq' he rn z0' id (fun _ => rfl)
theorem yH_V1 (ihl : yH_V X Y kb b bh l) (ihr : yH_V X Y kb b bh r) : yH_V X Y kb b bh (.inner 1 p o l r) := by
  intro m n v q qf e lo mo x h hm ⟨W1, W2⟩ hn K hx hq he hmo rn z0
  have hr : ((m = 0 ∧ yz_st r) ∨ (m = 1 ∧ yz_br r)) := hm.elim (fun z => .inl ⟨z.1, z.2.2⟩) (fun z => .inr ⟨z.1, z.2.2⟩)
  have W1' : yz_br l ∧ yz_W X Y kb b l lo := W1
  have K' : yP_K h n ((yz_c l n v q (n + yz_l l)).map Prod.fst ++ (yz_c r (n + yz_l l) v q e).map Prod.fst) := by
    rw [← List.map_append]; exact K
  have Kr := yP_Kr K'
  rw [List.length_map, yz_len] at Kr
  have hx' : v = 0 → yz_x r (n + yz_l l) = [] ∧ yz_x l n = [] := fun z => List.append_eq_nil_iff.mp (hx z)
  have hn' : n + (yz_l l + yz_l r) ≤ bh := hn
  have hq' : (0 < v ∧ qf = q ∧ n + (yz_l l + yz_l r) < q ∧ q ≤ 4000) ∨ (v = 0 ∧ qf ≤ n) := hq
  have z0' : ∀ j, n < j → j < n + (yz_l l + yz_l r) → h.2.1 53 j = 0 := z0
  have A := ihl 1 n v q qf (n + yz_l l) lo mo x h (.inr ⟨rfl, W1'.1⟩) W1'.2 (by omega) (yP_Kl K') (fun z => (hx' z).2) (by omega) (fun _ => rfl) hmo rn (fun j j1 j2 => z0' j j1 (by omega))
  exact yH_seq ihr A hr W2 hn' Kr (fun z => (hx' z).1) hq' he rn z0' yH_rx (fun z => (yH_z l x z).1)
theorem yH_V6 (ihl : yH_V X Y kb b bh l) (ihr : yH_V X Y kb b bh r) : yH_V X Y kb b bh (.inner 6 p o l r) := by
  intro m n v q qf e lo mo x h hm ⟨W1, W2⟩ hn K hx hq he hmo rn z0
  have hr : ((m = 0 ∧ yz_st r) ∨ (m = 1 ∧ yz_br r)) := hm.elim (fun z => .inl ⟨z.1, z.2.2⟩) (fun z => .inr ⟨z.1, z.2.2⟩)
  have W1' : yz_st l ∧ yz_W X Y kb b l lo := W1
  have K' : yP_K h n ((yz_c l n v q 0).map Prod.fst ++ (yz_c r (n + yz_l l) v q e).map Prod.fst) := by
    rw [← List.map_append]; exact K
  have Kr := yP_Kr K'
  rw [List.length_map, yz_len] at Kr
  have hx' : v = 0 → yz_x r (n + yz_l l) = [] ∧ yz_x l n = [] := fun z => List.append_eq_nil_iff.mp (hx z)
  have hn' : n + (yz_l l + yz_l r) ≤ bh := hn
  have hq' : (0 < v ∧ qf = q ∧ n + (yz_l l + yz_l r) < q ∧ q ≤ 4000) ∨ (v = 0 ∧ qf ≤ n) := hq
  have z0' : ∀ j, n < j → j < n + (yz_l l + yz_l r) → h.2.1 53 j = 0 := z0
  have A := ihl 0 n v q qf 0 lo mo x h (.inl ⟨rfl, W1'.1⟩) W1'.2 (by omega) (yP_Kl K') (fun z => (hx' z).2) (by omega) (fun z => absurd z (by decide)) hmo rn (fun j j1 j2 => z0' j j1 (by omega))
  exact yH_seq ihr A hr W2 hn' Kr (fun z => (hx' z).1) hq' he rn z0' yH_rx (fun z => (yH_z l x z).1)
theorem yH_V3 (hbh : bh ≤ 4000) (ihr : yH_V X Y kb b bh r) : yH_V X Y kb b bh (.inner 3 p o l r) := by
  intro m n v q qf e lo mo x h hm ⟨W1, W2⟩ hn K hx hq he hmo rn z0
  have hr : ((m = 0 ∧ yz_st r) ∨ (m = 1 ∧ yz_br r)) := hm.elim (fun z => .inl ⟨z.1, z.2.2⟩) (fun z => .inr ⟨z.1, z.2.2⟩)
  have K' : yP_K h n ([(10, nI q, 0, 0)] ++ (yz_c r (n + 1) v q e).map Prod.fst) := by
    have : (yz_c (.inner 3 p o l r) n v q e).map Prod.fst = [(10, nI q, 0, 0)] ++ (yz_c r (n + 1) v q e).map Prod.fst := by
      show ([((10, nI q, 0, 0), v)] ++ yz_c r (n + 1) v q e).map Prod.fst = _
      rw [List.map_append]; rfl
    rw [← this]; exact K
  have hx' : v = 0 → yz_x r (n + 1) ++ [n] = [] := hx
  have hv0 : 0 < v := by
    rcases Nat.eq_zero_or_pos v with z | z
    · exact absurd (List.append_eq_nil_iff.mp (hx' z)).2 (by intro y; cases y)
    · exact z
  have hn' : n + (1 + yz_l r) ≤ bh := hn
  have hq' : (0 < v ∧ qf = q ∧ n + (1 + yz_l r) < q ∧ q ≤ 4000) ∨ (v = 0 ∧ qf ≤ n) := hq
  have z0' : ∀ j, n < j → j < n + (1 + yz_l r) → h.2.1 53 j = 0 := z0
  obtain ⟨h1, mo1, a1, a2, a3, a4⟩ := yH_one (d := 0) (x := x) (show n < bh by omega) hbh hmo (by omega) (K' 0 _ rfl) (show (10 : Nat) < 19 by decide) (show yo_t 10 ≤ 0 by decide) (show 0 - yo_t 10 + yo_l 10 ≤ 64 by decide) rn (fun _ => ⟨q, rfl, by omega⟩)
  have e1 : h1 = if x = true then zs_uM h 53 q 1 else h := by
    rw [a4]
    show (if x = true then zs_uM h 53 (nI q).toNatClampNeg 1 else h) = _
    rw [nI_clamp (by omega)]
  have A : yH_O bh h n 1 v q qf mo x false false := by
    refine ⟨h1, mo1, a1, a2, ⟨fun z => .inl (a3.mp z), fun z => z.elim a3.mpr (fun z => by cases z)⟩, fun y hy => ?_, fun _ y hy => ⟨x, id, ?_⟩, ?_⟩
    · rw [Bool.or_false, e1]
      split
      · exact (zu_MM.trans (if_neg fun z => by omega)).trans hy
      · exact hy
    · rw [e1]
      cases x with
      | true => rw [if_pos rfl, Bool.or_true]; exact zu_MM.trans (if_pos ⟨rfl, rfl⟩)
      | false => rw [if_neg (by decide), Bool.or_false]; exact hy
    · rw [e1]
      split
      · exact yH_set (.inr (by omega))
      · exact yH_fr0
  exact yH_seq ihr A hr W2 hn' (yP_Kr (L1 := [_]) K') (fun z => by omega) hq' he rn z0' (fun z => by cases z) (fun z => by cases z)
theorem yH_V4 (hbh : bh ≤ 4000) (ihr : yH_V X Y kb b bh r) : yH_V X Y kb b bh (.inner 4 p o l r) := by
  intro m n v q qf e lo mo x h hm ⟨W1, W2⟩ hn K hx hq he hmo rn z0
  have hr : ((m = 0 ∧ yz_st r) ∨ (m = 1 ∧ yz_br r)) := hm.elim (fun z => .inl ⟨z.1, z.2.2⟩) (fun z => .inr ⟨z.1, z.2.2⟩)
  have K' : yP_K h n ([(18, 0, 0, 0)] ++ (yz_c r (n + 1) v q e).map Prod.fst) := by
    have : (yz_c (.inner 4 p o l r) n v q e).map Prod.fst = [(18, 0, 0, 0)] ++ (yz_c r (n + 1) v q e).map Prod.fst := by
      show ([((18, 0, 0, 0), v)] ++ yz_c r (n + 1) v q e).map Prod.fst = _
      rw [List.map_append]; rfl
    rw [← this]; exact K
  have hn' : n + (1 + yz_l r) ≤ bh := hn
  have hq' : (0 < v ∧ qf = q ∧ n + (1 + yz_l r) < q ∧ q ≤ 4000) ∨ (v = 0 ∧ qf ≤ n) := hq
  have z0' : ∀ j, n < j → j < n + (1 + yz_l r) → h.2.1 53 j = 0 := z0
  obtain ⟨h1, mo1, a1, a2, a3, a4⟩ := yH_one (d := 0) (x := x) (show n < bh by omega) hbh hmo (by omega) (K' 0 _ rfl) (show (18 : Nat) < 19 by decide) (show yo_t 18 ≤ 0 by decide) (show 0 - yo_t 18 + yo_l 18 ≤ 64 by decide) rn (fun z => absurd z (show ¬ ((18 : Nat) = 10 ∨ (18 : Nat) = 11 ∨ (18 : Nat) = 13) by decide))
  have e1 : h1 = h := by
    rw [a4]
    show (if x = true then h else h) = h
    exact ite_self _
  have A : yH_O bh h n 1 v q qf mo x false false := ⟨h1, mo1, a1, a2, ⟨fun z => .inl (a3.mp z), fun z => z.elim a3.mpr (fun z => by cases z)⟩, fun y hy => by rw [Bool.or_false, e1]; exact hy, fun _ y hy => ⟨false, fun z => (by cases z), by rw [Bool.or_false, e1]; exact hy⟩, by rw [e1]; exact yH_fr0⟩
  exact yH_seq ihr A hr W2 hn' (yP_Kr (L1 := [_]) K') hx hq' he rn z0' (fun z => by cases z) (fun z => by cases z)
end YHD
