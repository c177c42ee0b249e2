/-! The prover: how high the stack is: the model, by T. -/
def yD_O (u s sz : Nat) (g : zs_H) (n len v q qf : Nat) (x D R : Bool) : Prop := (D = true ∧ ∃ g', (∀ N, f_Mo_isDeep_L35 (N + len) g (nI u) (nI sz) (nI (n - s)) = some (1, g')) ∧ zfr [] [112] [] g g') ∨ (D = false ∧ ∃ g', (∀ N, f_Mo_isDeep_L35 (N + len) g (nI u) (nI sz) (nI (n - s)) = f_Mo_isDeep_L35 N g' (nI u) (nI sz) (nI (n + len - s))) ∧ (n + len < s + sz → ∀ y, g.2.1 112 (n + len - s) = yD_v y → g'.2.1 112 (n + len - s) = yD_v (y || R)) ∧ (0 < v → q < s + sz → ∀ y, g.2.1 112 (q - s) = yD_v y → ∃ z, (z = true → x = true) ∧ g'.2.1 112 (q - s) = yD_v (y || z)) ∧ yD_fr s sz n (n + len) qf g g')
def yD_V (X Y : Nat → Nat) (kb : Nat → yK) (b u s sz : Nat) (T : ys) : Prop := ∀ (m n v q qf e lo : Nat) (x : Bool) (g : zs_H), ((m = 0 ∧ yz_st T) ∨ (m = 1 ∧ yz_br T)) → yz_W X Y kb b T lo → s ≤ n → n + yz_l T ≤ s + sz → yD_c u s sz g → yQ_K g s n (yz_c T n v q e) → (v = 0 → yz_x T n = []) → ((0 < v ∧ qf = q ∧ n + yz_l T < q ∧ q ≤ s + sz) ∨ (v = 0 ∧ qf ≤ n)) → (m = 1 → e = n + yz_l T) → (n < s + sz → g.2.1 112 (n - s) = yD_v x) → (∀ j, n < j → j < n + yz_l T → g.2.1 112 (j - s) = -1) → yD_O u s sz g n (yz_l T) v q qf x (yH_D T x) (yH_r T x)
section YDN
variable {X Y : Nat → Nat} {kb : Nat → yK} {b u s sz : Nat} {g : zs_H} {m n hd v q qf e lo : Nat} {x D R : Bool} {p : List yI × Int32 × Int32} {o : Unit} {l r : ys}
theorem yD_z {g g' : zs_H} {lo hi q : Nat} (f : yD_fr s sz lo hi q g g') : zfr [] [112] [] g g' := ⟨fun _ _ _ => by rw [f.1], fun a ha => f.2.2.1 a (by simpa using ha), fun _ _ => by rw [f.2.1]⟩
theorem yD_vi {x y : Bool} (h : x = true → y = true) (z : Bool) : yD_v (z || y || x) = yD_v (z || y) := by
  cases x <;> cases y <;> cases z <;> first | rfl | exact absurd (h rfl) (by decide)
theorem yD_seq (ihr : yD_V X Y kb b u s sz r) (A : yD_O u s sz g n hd v q qf x D R) (hr : (m = 0 ∧ yz_st r) ∨ (m = 1 ∧ yz_br r)) (W : yz_W X Y kb b r lo) (hs : s ≤ n) (hn : n + (hd + yz_l r) ≤ s + sz) (C : yD_c u s sz g) (K : yQ_K g s (n + hd) (yz_c r (n + hd) v q e)) (hx : v = 0 → yz_x r (n + hd) = []) (hq : (0 < v ∧ qf = q ∧ n + (hd + yz_l r) < q ∧ q ≤ s + sz) ∨ (v = 0 ∧ qf ≤ n)) (he : m = 1 → e = n + (hd + yz_l r)) (rn : n < s + sz → g.2.1 112 (n - s) = yD_v x) (z0 : ∀ j, n < j → j < n + (hd + yz_l r) → g.2.1 112 (j - s) = -1) (hR : R = true → x = true) (h0 : hd = 0 → R = x) : yD_O u s sz g n (hd + yz_l r) v q qf x (D || yH_D r R) (yH_r r R) := by
  rcases A with ⟨d1, g1, a1, a2⟩ | ⟨d1, g1, a1, a4, a5, a6⟩
  · refine .inl ⟨by rw [d1]; rfl, g1, fun N => ?_, a2⟩
    rw [show N + (hd + yz_l r) = (N + yz_l r) + hd by omega]
    exact a1 _
  · rw [d1, Bool.false_or]
    by_cases lz : yz_l r = 0
    · obtain ⟨i1, i2⟩ := yH_z r R lz
      rw [lz, Nat.add_zero, i1, i2]
      exact .inr ⟨rfl, g1, a1, a4, a5, a6⟩
    · have r1 : g1.2.1 112 (n + hd - s) = yD_v R := by
        by_cases z : hd = 0
        · subst z
          have := a4 (by omega) x (rn (by omega))
          rw [h0 rfl, Bool.or_self] at this
          rw [h0 rfl]; exact this
        · have := a4 (by omega) false (z0 (n + hd) (by omega) (by omega))
          rwa [Bool.false_or] at this
      have z1 : ∀ j, n + hd < j → j < n + hd + yz_l r → g1.2.1 112 (j - s) = -1 := fun j j1 j2 => (a6.2.2.2 j (by omega) (by omega) (by omega) (by omega)).trans (z0 j (by omega) (by omega))
      rcases ihr m (n + hd) v q qf e lo R g1 hr W (by omega) (by omega) (yD_cf a6 C) (yD_Kf a6 K) hx (by omega) (fun z => by have := he z; omega) (fun _ => r1) z1 with ⟨d2, g2, b1, b2⟩ | ⟨d2, g2, b1, b4, b5, b6⟩
      · refine .inl ⟨d2, g2, fun N => ?_, zfr_trans (yD_z a6) b2⟩
        rw [show N + (hd + yz_l r) = (N + yz_l r) + hd by omega, a1]
        exact b1 N
      · refine .inr ⟨d2, g2, fun N => ?_, fun hl y hy => ?_, fun hv hq2 y hy => ?_, yD_frt a6 b6 (by omega) (by omega) (.inl rfl) (.inl rfl)⟩
        · rw [show N + (hd + yz_l r) = (N + yz_l r) + hd by omega, a1, b1, show n + hd + yz_l r = n + (hd + yz_l r) by omega]
        · rw [show n + (hd + yz_l r) = n + hd + yz_l r by omega] at hy ⊢
          refine b4 (by omega) y ?_
          rw [a6.2.2.2 _ (by omega) (by omega) (by omega) (by omega)]; exact hy
        · obtain ⟨w1, c1, c2⟩ := a5 hv hq2 y hy
          obtain ⟨w2, c3, c4⟩ := b5 hv hq2 _ c2
          exact ⟨w1 || w2, fun z => by rw [Bool.or_eq_true] at z; exact z.elim c1 (fun z => hR (c3 z)), by rw [← Bool.or_assoc]; exact c4⟩
/-- one instruction -/
theorem yD_one {i : yI} {lv d : Nat} (hs : s ≤ n) (hn : n < s + sz) (hd : d ≤ 5000) (C : yD_c u s sz g) (mm : yM_m s g n (i, lv)) (ho : i.1 < 19) (ht : yo_t i.1 ≤ d) (hl : d - yo_t i.1 + yo_l i.1 ≤ 64) (r : g.2.1 112 (n - s) = if x = true then nI d else -1) (ha : i.1 = 10 ∨ i.1 = 11 ∨ i.1 = 13 → ∃ t, i.2.1 = nI t ∧ n < t ∧ t ≤ s + sz) (hb : i.1 = 14 → ∃ t, i.2.1 = nI t ∧ s ≤ t ∧ t ≤ n) : ∃ g', (∀ N, f_Mo_isDeep_L35 (N + 1) g (nI u) (nI sz) (nI (n - s)) = f_Mo_isDeep_L35 N g' (nI u) (nI sz) (nI (n + 1 - s))) ∧ g' = (if x = true then yD_n i s sz n (d - yo_t i.1 + yo_l i.1) g else g) := by
  cases x with
  | false => exact ⟨g, fun N => yD_s0 hs hn C r, rfl⟩
  | true =>
    refine ⟨_, fun N => ?_, rfl⟩
    rw [yD_s1 hs hn (by omega) C mm ho ht r ha hb, if_neg (by omega)]
    rfl
theorem yD_skip : ∀ (k n : Nat) (g : zs_H), s ≤ n → n + k ≤ s + sz → yD_c u s sz g → (∀ j, n ≤ j → j < n + k → g.2.1 112 (j - s) = -1) → ∀ N, f_Mo_isDeep_L35 (N + k) g (nI u) (nI sz) (nI (n - s)) = f_Mo_isDeep_L35 N g (nI u) (nI sz) (nI (n + k - s)) := by
  intro k
  induction k with
  | zero => intro n g _ _ _ _ N; rfl
  | succ k ih =>
    intro n g hs hn C r N
    rw [show N + (k + 1) = (N + k) + 1 by omega, yD_s0 hs (by omega) C (r n (Nat.le_refl _) (by omega)), ih (n + 1) g (by omega) (by omega) C (fun j j1 j2 => r j (by omega) (by omega)) N, show n + 1 + k = n + (k + 1) by omega]
theorem yD_strT {lv bb : Nat} : ∀ (L : List yI) (n d d2 : Nat) (g : zs_H), s ≤ n → n + L.length ≤ s + sz → d + L.length ≤ 5000 → yD_c u s sz g → yo_h d L = some d2 → (∀ i, i ∈ L → yP_o bb i) → yQ_K g s n (yv lv L) → (n < s + sz → g.2.1 112 (n - s) = nI d) → (yH_d d L = true ∧ ∃ g', (∀ N, f_Mo_isDeep_L35 (N + L.length) g (nI u) (nI sz) (nI (n - s)) = some (1, g')) ∧ zfr [] [112] [] g g') ∨ (yH_d d L = false ∧ ∃ g', (∀ N, f_Mo_isDeep_L35 (N + L.length) g (nI u) (nI sz) (nI (n - s)) = f_Mo_isDeep_L35 N g' (nI u) (nI sz) (nI (n + L.length - s))) ∧ (n + L.length < s + sz → g'.2.1 112 (n + L.length - s) = nI d2) ∧ yD_fr s sz n (n + L.length) n g g') := by
  intro L
  induction L with
  | nil =>
    intro n d d2 g _ _ _ _ e _ _ r
    have e' : d = d2 := Option.some.inj e
    subst e'
    exact .inr ⟨rfl, g, fun _ => rfl, r, yD_fr0⟩
  | cons i L ih =>
    intro n d d2 g hs hn hd C e ho K r
    have el : n + (i :: L).length = n + 1 + L.length := by rw [List.length_cons]; omega
    have ll : (i :: L).length = L.length + 1 := rfl
    rw [el] at hn ⊢
    have oi := ho i (List.mem_cons_self ..)
    have o19 : i.1 < 19 := by have := oi.1; omega
    have ht : yo_t i.1 ≤ d := by
      rcases Nat.lt_or_ge d (yo_t i.1) with z | z
      · rw [yo_h, if_neg (by omega)] at e; cases e
      · exact z
    have e' : yo_h (d - yo_t i.1 + yo_l i.1) L = some d2 := by rw [yo_h, if_pos ht] at e; exact e
    have hl : yo_l i.1 ≤ 1 := by
      have key : ∀ o : Fin 19, yo_l o.1 ≤ 1 := by decide
      exact key ⟨i.1, o19⟩
    have mm : yM_m s g n (i, lv) := K 0 (i, lv) rfl
    have Kr : yQ_K g s (n + 1) (yv lv L) := yQ_Kr (L1 := [(i, lv)]) K
    have rr' : g.2.1 112 (n - s) = nI d := r (by omega)
    have st := fun N => yD_s1 (N := N) hs (show n < s + sz by omega) (show d < 100000 by omega) C mm o19 ht rr' (fun z => by have := oi.1; omega) (fun z => by have := oi.1; omega)
    have en : yD_n i s sz n (d - yo_t i.1 + yo_l i.1) g = zs_uM g 112 (n + 1 - s) (nI (d - yo_t i.1 + yo_l i.1)) := by
      unfold yD_n
      have : yD_t i s sz = none := by unfold yD_t; rw [if_neg (by have := oi.1; omega), if_neg (by have := oi.1; omega)]
      rw [this]
      exact if_neg (by have := oi.1; omega)
    by_cases z : 64 < d - yo_t i.1 + yo_l i.1
    · refine .inl ⟨by rw [yH_d, decide_eq_true z]; rfl, g, fun N => ?_, zfr_rfl⟩
      rw [ll, show N + (L.length + 1) = (N + L.length) + 1 by omega, st, if_pos z]
    · obtain ⟨g1, e1⟩ : ∃ g1, g1 = zs_uM g 112 (n + 1 - s) (nI (d - yo_t i.1 + yo_l i.1)) := ⟨_, rfl⟩
      have f1 : yD_fr s sz n (n + 1 + L.length) n g g1 := by rw [e1]; exact yD_set (by omega) (.inl (by omega))
      rw [yH_d, decide_eq_false z, Bool.false_or]
      rcases ih (n + 1) (d - yo_t i.1 + yo_l i.1) d2 g1 (by omega) hn (by omega) (yD_cf f1 C) e' (fun j hj => ho j (List.mem_cons_of_mem _ hj)) (yD_Kf f1 Kr) (fun _ => by rw [e1]; exact zu_MM.trans (if_pos ⟨rfl, rfl⟩)) with ⟨w, g', a1, a2⟩ | ⟨w, g', a1, a2, a4⟩
      · refine .inl ⟨w, g', fun N => ?_, zfr_trans (yD_z f1) a2⟩
        rw [ll, show N + (L.length + 1) = (N + L.length) + 1 by omega, st, if_neg z, en, ← e1]
        exact a1 N
      · refine .inr ⟨w, g', fun N => ?_, a2, yD_frt f1 a4 (by omega) (by omega) (by omega) (by omega)⟩
        rw [ll, show N + (L.length + 1) = (N + L.length) + 1 by omega, st, if_neg z, en, ← e1]
        exact a1 N
theorem yD_str {lv bb : Nat} {L : List yI} {d2 : Nat} (hs : s ≤ n) (hn : n + L.length ≤ s + sz) (hd : L.length ≤ 5000) (C : yD_c u s sz g) (e : yo_h 0 L = some d2) (ho : ∀ i, i ∈ L → yP_o bb i) (K : yQ_K g s n (yv lv L)) (r : n < s + sz → g.2.1 112 (n - s) = yD_v x) (r0 : ∀ j, n < j → j < n + L.length → g.2.1 112 (j - s) = -1) : ((x && yH_d 0 L) = true ∧ ∃ g', (∀ N, f_Mo_isDeep_L35 (N + L.length) g (nI u) (nI sz) (nI (n - s)) = some (1, g')) ∧ zfr [] [112] [] g g') ∨ ((x && yH_d 0 L) = false ∧ ∃ g', (∀ N, f_Mo_isDeep_L35 (N + L.length) g (nI u) (nI sz) (nI (n - s)) = f_Mo_isDeep_L35 N g' (nI u) (nI sz) (nI (n + L.length - s))) ∧ (x = true → n + L.length < s + sz → g'.2.1 112 (n + L.length - s) = nI d2) ∧ (x = false → g' = g) ∧ yD_fr s sz n (n + L.length) n g g') := by
  cases x with
  | true =>
    rw [Bool.true_and]
    rcases yD_strT L n 0 d2 g hs hn (by omega) C e ho K r with ⟨w, g', a1, a2⟩ | ⟨w, g', a1, a2, a3⟩
    · exact .inl ⟨w, g', a1, a2⟩
    · exact .inr ⟨w, g', a1, fun _ => a2, fun z => (by cases z), a3⟩
  | false =>
    rw [Bool.false_and]
    refine .inr ⟨rfl, g, yD_skip L.length n g hs hn C (fun j j1 j2 => ?_), fun z => (by cases z), fun _ => rfl, yD_fr0⟩
    by_cases z : j = n
    · rw [z]; exact r (by omega)
    · exact r0 j (by omega) j2
theorem yD_V0 (hb : b ≤ 16) (ihr : yD_V X Y kb b u s sz r) : yD_V X Y kb b u s sz (.inner 0 p o l r) := by
  intro m n v q qf e lo x g hm ⟨W1, W2⟩ hs hn C K hx hq he rn z0
  have hr : ((m = 0 ∧ yz_st r) ∨ (m = 1 ∧ yz_br r)) := hm.elim (fun z => .inl ⟨z.1, z.2.2⟩) (fun z => .inr ⟨z.1, z.2.2⟩)
  have c2 := C.2.1
  have K' : yQ_K g s n (yv v p.1 ++ yz_c r (n + p.1.length) v q e) := K
  have Kr := yQ_Kr K'
  rw [yv_len] at Kr
  have hn' : n + (p.1.length + yz_l r) ≤ s + sz := hn
  have hq' : (0 < v ∧ qf = q ∧ n + (p.1.length + yz_l r) < q ∧ q ≤ s + sz) ∨ (v = 0 ∧ qf ≤ n) := hq
  have z0' : ∀ j, n < j → j < n + (p.1.length + yz_l r) → g.2.1 112 (j - s) = -1 := z0
  have A : yD_O u s sz g n p.1.length v q qf x (x && yH_d 0 p.1) x := by
    rcases yD_str (x := x) (d2 := 0) hs (by omega) (by omega) C W1.1 (fun i hi => yP_wo hb (W1.2 i hi)) (yQ_Kl K') rn (fun j j1 j2 => z0' j j1 (by omega)) with ⟨w, g', a1, a2⟩ | ⟨w, g', a1, a2, a3, a4⟩
    · exact .inl ⟨w, g', a1, a2⟩
    · refine .inr ⟨w, g', a1, fun hl y hy => ?_, fun hv hq2 y hy => ⟨false, fun z => (by cases z), by rw [Bool.or_false, a4.2.2.2 q (by omega) hq2 (by omega) (by omega)]; exact hy⟩, yD_frt a4 (yD_fr0 (lo := n) (hi := n) (q := n)) (by omega) (by omega) (by omega) (by omega)⟩
      cases x with
      | true => rw [Bool.or_true]; exact a2 rfl hl
      | false => rw [Bool.or_false, a3 rfl]; exact hy
  exact yD_seq ihr A hr W2 hs hn' C Kr hx hq' he rn z0' id (fun _ => rfl)
theorem yD_V1 (ihl : yD_V X Y kb b u s sz l) (ihr : yD_V X Y kb b u s sz r) : yD_V X Y kb b u s sz (.inner 1 p o l r) := by
  intro m n v q qf e lo x g hm ⟨W1, W2⟩ hs hn C K hx hq he rn z0
  have hr : ((m = 0 ∧ yz_st r) ∨ (m = 1 ∧ yz_br r)) := hm.elim (fun z => .inl ⟨z.1, z.2.2⟩) (fun z => .inr ⟨z.1, z.2.2⟩)
  have W1' : yz_br l ∧ yz_W X Y kb b l lo := W1
  have K' : yQ_K g s n (yz_c l n v q (n + yz_l l) ++ yz_c r (n + yz_l l) v q e) := K
  have Kr := yQ_Kr K'
  rw [yz_len] at Kr
  have hx' : v = 0 → yz_x r (n + yz_l l) = [] ∧ yz_x l n = [] := fun z => List.append_eq_nil_iff.mp (hx z)
  have hn' : n + (yz_l l + yz_l r) ≤ s + sz := hn
  have hq' : (0 < v ∧ qf = q ∧ n + (yz_l l + yz_l r) < q ∧ q ≤ s + sz) ∨ (v = 0 ∧ qf ≤ n) := hq
  have z0' : ∀ j, n < j → j < n + (yz_l l + yz_l r) → g.2.1 112 (j - s) = -1 := z0
  have A := ihl 1 n v q qf (n + yz_l l) lo x g (.inr ⟨rfl, W1'.1⟩) W1'.2 hs (by omega) C (yQ_Kl K') (fun z => (hx' z).2) (by omega) (fun _ => rfl) rn (fun j j1 j2 => z0' j j1 (by omega))
  exact yD_seq ihr A hr W2 hs hn' C Kr (fun z => (hx' z).1) hq' he rn z0' yH_rx (fun z => (yH_z l x z).1)
theorem yD_V6 (ihl : yD_V X Y kb b u s sz l) (ihr : yD_V X Y kb b u s sz r) : yD_V X Y kb b u s sz (.inner 6 p o l r) := by
  intro m n v q qf e lo x g hm ⟨W1, W2⟩ hs hn C K hx hq he rn z0
  have hr : ((m = 0 ∧ yz_st r) ∨ (m = 1 ∧ yz_br r)) := hm.elim (fun z => .inl ⟨z.1, z.2.2⟩) (fun z => .inr ⟨z.1, z.2.2⟩)
  have W1' : yz_st l ∧ yz_W X Y kb b l lo := W1
  have K' : yQ_K g s n (yz_c l n v q 0 ++ yz_c r (n + yz_l l) v q e) := K
  have Kr := yQ_Kr K'
  rw [yz_len] at Kr
  have hx' : v = 0 → yz_x r (n + yz_l l) = [] ∧ yz_x l n = [] := fun z => List.append_eq_nil_iff.mp (hx z)
  have hn' : n + (yz_l l + yz_l r) ≤ s + sz := hn
  have hq' : (0 < v ∧ qf = q ∧ n + (yz_l l + yz_l r) < q ∧ q ≤ s + sz) ∨ (v = 0 ∧ qf ≤ n) := hq
  have z0' : ∀ j, n < j → j < n + (yz_l l + yz_l r) → g.2.1 112 (j - s) = -1 := z0
  have A := ihl 0 n v q qf 0 lo x g (.inl ⟨rfl, W1'.1⟩) W1'.2 hs (by omega) C (yQ_Kl K') (fun z => (hx' z).2) (by omega) (fun z => absurd z (by decide)) rn (fun j j1 j2 => z0' j j1 (by omega))
  exact yD_seq ihr A hr W2 hs hn' C Kr (fun z => (hx' z).1) hq' he rn z0' yH_rx (fun z => (yH_z l x z).1)
theorem yD_if {x : Bool} : yD_v x = if x = true then nI 0 else -1 := rfl
theorem yD_V3 (ihr : yD_V X Y kb b u s sz r) : yD_V X Y kb b u s sz (.inner 3 p o l r) := by
  intro m n v q qf e lo x g hm ⟨W1, W2⟩ hs hn C K hx hq he rn z0
  have hr : ((m = 0 ∧ yz_st r) ∨ (m = 1 ∧ yz_br r)) := hm.elim (fun z => .inl ⟨z.1, z.2.2⟩) (fun z => .inr ⟨z.1, z.2.2⟩)
  have c2 := C.2.1
  have K' : yQ_K g s n ([((10, nI q, 0, 0), v)] ++ yz_c r (n + 1) v q e) := K
  have hx' : v = 0 → yz_x r (n + 1) ++ [n] = [] := hx
  have hv0 : 0 < v := by
    rcases Nat.eq_zero_or_pos v with z | z
    · exact absurd (List.append_eq_nil_iff.mp (hx' z)).2 (by intro y; cases y)
    · exact z
  have hn' : n + (1 + yz_l r) ≤ s + sz := hn
  have hq' : (0 < v ∧ qf = q ∧ n + (1 + yz_l r) < q ∧ q ≤ s + sz) ∨ (v = 0 ∧ qf ≤ n) := hq
  have z0' : ∀ j, n < j → j < n + (1 + yz_l r) → g.2.1 112 (j - s) = -1 := z0
  obtain ⟨g1, a1, a4⟩ := yD_one (d := 0) (x := x) hs (show n < s + sz by omega) (by omega) C (K' 0 _ rfl) (show (10 : Nat) < 19 by decide) (show yo_t 10 ≤ 0 by decide) (show 0 - yo_t 10 + yo_l 10 ≤ 64 by decide) (rn (by omega)) (fun _ => ⟨q, rfl, by omega, by omega⟩) (fun z => absurd z (show ¬ (10 : Nat) = 14 by decide))
  have e1 : g1 = if x = true then zs_uM g 112 (q - s) (nI 0) else g := by
    rw [a4]
    show (if x = true then zs_uM g 112 ((nI q).toNatClampNeg - s) (nI 0) else g) = _
    rw [nI_clamp (by omega)]
  have A : yD_O u s sz g n 1 v q qf x false false := by
    refine .inr ⟨rfl, g1, a1, fun hl y hy => ?_, fun _ _ y hy => ⟨x, id, ?_⟩, ?_⟩
    · rw [Bool.or_false, e1]
      split
      · exact (zu_MM.trans (if_neg fun z => by omega)).trans hy
      · exact hy
    · rw [e1]
      cases x with
      | true => rw [if_pos rfl, Bool.or_true]; exact zu_MM.trans (if_pos ⟨rfl, rfl⟩)
      | false => rw [if_neg (by decide), Bool.or_false]; exact hy
    · rw [e1]
      split
      · exact yD_set (by omega) (.inr (.inl (by omega)))
      · exact yD_fr0
  exact yD_seq ihr A hr W2 hs hn' C (yQ_Kr (L1 := [_]) K') (fun z => by omega) hq' he rn z0' (fun z => by cases z) (fun z => by cases z)
theorem yD_V4 (ihr : yD_V X Y kb b u s sz r) : yD_V X Y kb b u s sz (.inner 4 p o l r) := by
  intro m n v q qf e lo x g hm ⟨W1, W2⟩ hs hn C K hx hq he rn z0
  have hr : ((m = 0 ∧ yz_st r) ∨ (m = 1 ∧ yz_br r)) := hm.elim (fun z => .inl ⟨z.1, z.2.2⟩) (fun z => .inr ⟨z.1, z.2.2⟩)
  have K' : yQ_K g s n ([((18, 0, 0, 0), v)] ++ yz_c r (n + 1) v q e) := K
  have hn' : n + (1 + yz_l r) ≤ s + sz := hn
  have hq' : (0 < v ∧ qf = q ∧ n + (1 + yz_l r) < q ∧ q ≤ s + sz) ∨ (v = 0 ∧ qf ≤ n) := hq
  have z0' : ∀ j, n < j → j < n + (1 + yz_l r) → g.2.1 112 (j - s) = -1 := z0
  obtain ⟨g1, a1, a4⟩ := yD_one (d := 0) (x := x) hs (show n < s + sz by omega) (by omega) C (K' 0 _ rfl) (show (18 : Nat) < 19 by decide) (show yo_t 18 ≤ 0 by decide) (show 0 - yo_t 18 + yo_l 18 ≤ 64 by decide) (rn (by omega)) (fun z => absurd z (show ¬ ((18 : Nat) = 10 ∨ (18 : Nat) = 11 ∨ (18 : Nat) = 13) by decide)) (fun z => absurd z (show ¬ (18 : Nat) = 14 by decide))
  have e1 : g1 = if x = true then zs_uM g 112 (s + sz - s) (nI 0) else g := a4
  have v1 : ∀ j, s ≤ j → j < s + sz → g1.2.1 112 (j - s) = g.2.1 112 (j - s) := fun j j1 j2 => by
    rw [e1]; split
    · exact zu_MM.trans (if_neg fun z => by have := z.2; omega)
    · rfl
  have A : yD_O u s sz g n 1 v q qf x false false := by
    refine .inr ⟨rfl, g1, a1, fun hl y hy => by rw [Bool.or_false, v1 _ (by omega) hl]; exact hy, fun hv hq2 y hy => ⟨false, fun z => (by cases z), by rw [Bool.or_false, v1 q (by omega) hq2]; exact hy⟩, ?_⟩
    rw [e1]; split
    · exact yD_set (by omega) (.inr (.inr (Nat.le_refl _)))
    · exact yD_fr0
  exact yD_seq ihr A hr W2 hs hn' C (yQ_Kr (L1 := [_]) K') hx hq' he rn z0' (fun z => by cases z) (fun z => by cases z)
end YDN
