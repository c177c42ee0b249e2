/-! BOOLs: a ladder's code. -/
/-- .. in a ladder -/
def yz_Ld (h0 : zs_H) (b : Nat) (T : ys) : Prop := ∀ LD : Nat → Prop, LD b → yz_B (yq_b LD h0) b T
def yz_NL (h0 : zs_H) (b : Nat) (T : ys) : Prop := yz_N h0 b T ∨ yz_Ld h0 b T
section YUB
variable {X Y : Nat → Nat} {Tb Qb : Nat → Prop} {Bc : Nat → Nat → Prop} {b lo pw n m : Nat} {q : Nat → Nat → yT}
/-- d BOOLs are taken, e BOOLs are left -/
def yu_t (Bc : Nat → Nat → Prop) (b : Nat) (L : List yI) (d e : Nat) : Prop := ∀ (K : List Prop → Prop) (st : List Prop), K (List.replicate e True ++ st) → yo_W Bc b L K (List.replicate d True ++ st)
theorem yu_tap {L1 L2 : List yI} {d e f : Nat} (A : yu_t Bc b L1 d e) (B : yu_t Bc b L2 e f) : yu_t Bc b (L1 ++ L2) d f := fun K st H => by
  rw [yo_Wap]
  exact A _ _ (B _ _ H)
theorem yu_tn {d : Nat} : yu_t Bc b [] d d := fun _ _ H => H
theorem yu_t0 {d : Nat} {v : Int32} (h : v = 0 ∨ v = 1) : yu_t Bc b [(0, v, 0, 0)] d (d + 1) := fun K st H => by
  show K ((v = 0 ∨ v = 1) :: (List.replicate d True ++ st))
  rw [eq_true h]; exact H
theorem yu_tl {d x : Nat} (hx : x < 2147483648) (h : Bc b x) : yu_t Bc b [(1, nI x, 0, 0)] d (d + 1) := fun K st H => by
  show K (Bc b (nI x).toNatClampNeg :: (List.replicate d True ++ st))
  rw [nI_clamp hx, eq_true h]; exact H
theorem yu_ts {d x : Nat} : yu_t Bc b [(2, nI x, 0, 0)] (d + 1) d := fun K st H => by
  show (Bc b (nI x).toNatClampNeg → True) ∧ K (List.replicate d True ++ st)
  exact ⟨fun _ => trivial, H⟩
theorem yu_t7 {d : Nat} {k : Int32} (h : k = 10 ∨ k = 11 ∨ k = 12) : yu_t Bc b [(7, k, 0, 0)] (d + 2) (d + 1) := fun K st H => by
  show K (yo_2 k True True :: (List.replicate d True ++ st))
  rw [eq_true (show yo_2 k True True from .inr ⟨h, trivial, trivial⟩)]; exact H
theorem yu_t8 {d : Nat} : yu_t Bc b [(8, 2, 0, 0)] (d + 1) (d + 1) := fun K st H => by
  show K (((2 : Int32) = 2 ∨ (2 : Int32) = 7) :: (List.replicate d True ++ st))
  rw [eq_true (show (2 : Int32) = 2 ∨ (2 : Int32) = 7 from .inl rfl)]; exact H
theorem yu_tct {t : yT} {d : Nat} (hx : t.2.2.1 < 2147483648) (ho : t.2.2.2.1 < 2147483648) (B : t.1 = 25 → Bc b t.2.2.1 ∧ (2 ≤ t.2.1 → Bc b t.2.2.2.1)) (v4 : t.2.1 < 4) : yu_t Bc b (yu_ct t) (d + 1) (d + 1) := by
  unfold yu_ct
  split
  · rename_i h25
    obtain ⟨b1, b2⟩ := B h25
    have l1 : ∀ d, yu_t Bc b [(1, nI t.2.2.1, 0, 0)] d (d + 1) := fun d => yu_tl hx b1
    have a10 : ∀ d, yu_t Bc b [(7, 10, 0, 0)] (d + 2) (d + 1) := fun d => yu_t7 (.inl rfl)
    split
    · exact yu_tap (l1 _) (a10 _)
    · split
      · exact yu_tap (l1 _) (yu_tap yu_t8 (a10 _))
      · have l2 : ∀ d, yu_t Bc b [(1, nI t.2.2.2.1, 0, 0)] d (d + 1) := fun d => yu_tl ho (b2 (by omega))
        have st : ∀ d, yu_t Bc b [(2, nI t.2.2.2.1, 0, 0)] (d + 1) d := fun d => yu_ts
        split
        · exact yu_tap (l1 _) (yu_tap (l2 _) (yu_tap yu_t8 (yu_tap (a10 _) (yu_tap (a10 _) (yu_tap (l1 _) (st _))))))
        · exact yu_tap (l2 _) (yu_tap (l1 _) (yu_tap yu_t8 (yu_tap (a10 _) (yu_tap (a10 _) (yu_tap (l1 _) (st _))))))
  · exact yu_tn
/-- the grid's cells hold BOOLs -/
def yu_G (Bc : Nat → Nat → Prop) (b pw n m : Nat) (q : Nat → Nat → yT) : Prop := 1 ≤ m ∧ (∀ r c, r < n → c < m → yu_pw pw q r c < 2147483648 ∧ Bc b (yu_pw pw q r c)) ∧ ∀ r c, r < n → c < m → ((q r c).2.2.1 < 2147483648 ∨ ¬ ((q r c).1 = 25 ∨ (q r c).1 = 28)) ∧ ((q r c).1 = 25 → Bc b (q r c).2.2.1 ∧ (2 ≤ (q r c).2.1 → (q r c).2.2.2.1 < 2147483648 ∧ Bc b (q r c).2.2.2.1)) ∧ (q r c).2.1 < 4
theorem yu_tcq {r c d : Nat} (G : yu_G Bc b pw n m q) (hr : r < n) (hc : c < m) : yu_t Bc b (yu_ct (q r c)) (d + 1) (d + 1) := by
  obtain ⟨_, _, g3⟩ := G
  obtain ⟨a1, a2, a3⟩ := g3 r c hr hc
  by_cases h25 : (q r c).1 = 25
  · have hx : (q r c).2.2.1 < 2147483648 := by
      rcases a1 with z | z
      · exact z
      · exact absurd (.inl h25) z
    obtain ⟨b1, b2⟩ := a2 h25
    by_cases h2 : 2 ≤ (q r c).2.1
    · exact yu_tct hx (b2 h2).1 (fun _ => ⟨b1, fun _ => (b2 h2).2⟩) a3
    · unfold yu_ct
      rw [if_pos h25]
      have l1 : ∀ d, yu_t Bc b [(1, nI (q r c).2.2.1, 0, 0)] d (d + 1) := fun d => yu_tl hx b1
      have a10 : ∀ d, yu_t Bc b [(7, 10, 0, 0)] (d + 2) (d + 1) := fun d => yu_t7 (.inl rfl)
      by_cases h0 : (q r c).2.1 = 0
      · rw [if_pos h0]; exact yu_tap (l1 _) (a10 _)
      · rw [if_neg h0, if_pos (show (q r c).2.1 = 1 by omega)]
        exact yu_tap (l1 _) (yu_tap yu_t8 (a10 _))
  · unfold yu_ct
    rw [if_neg h25]; exact yu_tn
theorem yu_twy (G : yu_G Bc b pw n m q) {r c d : Nat} (hr : r < n) (hc : c < m) : yu_t Bc b (yu_wy pw q r c) d (d + 1) := by
  unfold yu_wy
  refine yu_tap (e := d + 1) ?_ (yu_tcq G hr hc)
  split
  · exact yu_t0 (.inr rfl)
  · obtain ⟨g1, g2⟩ := G.2.1 r (c - 1) hr (by omega)
    exact yu_tl g1 g2
theorem yu_tgr (G : yu_G Bc b pw n m q) {c : Nat} (hc : c < m) : ∀ (k r w d : Nat), r + k ≤ n → yu_t Bc b (yu_gr pw q c k r w) (d + (if w = 0 then 0 else 1)) (d + 1) := by
  intro k
  induction k with
  | zero =>
    intro r w d _
    show yu_t Bc b (if w = 0 then [(0, 0, 0, 0)] else []) _ _
    by_cases z : w = 0
    · rw [if_pos z, if_pos z]; exact yu_t0 (.inl rfl)
    · rw [if_neg z, if_neg z]; exact yu_tn
  | succ k ih =>
    intro r w d hr
    show yu_t Bc b (if (q r c).1 = 27 then yu_gr pw q c k (r + 1) w else yu_wy pw q r c ++ ((if w = 0 then [] else [(7, 11, 0, 0)]) ++ yu_gr pw q c k (r + 1) (w + 1))) _ _
    split
    · exact ih (r + 1) w d (by omega)
    · have a := ih (r + 1) (w + 1) d (by omega)
      rw [if_neg (by omega)] at a
      by_cases z : w = 0
      · rw [if_pos z, if_pos z]
        exact yu_tap (yu_twy G (by omega) hc) a
      · rw [if_neg z, if_neg z]
        exact yu_tap (yu_twy G (by omega) hc) (yu_tap (yu_t7 (.inr (.inl rfl))) a)
theorem yu_tgp (G : yu_G Bc b pw n m q) {c r d : Nat} (hc : c < m) (hr : r < n) : yu_t Bc b (yu_gp pw q n c r) d d := by
  obtain ⟨_, l2, _, _⟩ := yu_lef (q := q) (c := c) (n - 1 - r) r
  have a := yu_tgr G hc (yu_le q c (n - 1 - r) r) r 0 d (by omega)
  rw [if_pos rfl] at a
  unfold yu_gp
  exact yu_tap a yu_ts
theorem yu_tco (G : yu_G Bc b pw n m q) {c d : Nat} (hc : c < m) : ∀ k, k ≤ n → yu_t Bc b (yu_co pw q n c k) d d := by
  intro k
  induction k with
  | zero => intro _; exact yu_tn
  | succ k ih =>
    intro hk
    show yu_t Bc b ((if yu_ls q (n - (k + 1)) c = n - (k + 1) ∧ ¬ (q (n - (k + 1)) c).1 = 28 then yu_gp pw q n c (n - (k + 1)) else []) ++ yu_co pw q n c k) d d
    refine yu_tap (e := d) ?_ (ih (by omega))
    split
    · exact yu_tgp G hc (by omega)
    · exact yu_tn
theorem yu_tcs (G : yu_G Bc b pw n m q) {d : Nat} : ∀ k, k ≤ m → yu_t Bc b (yu_cs pw q n m k) d d := by
  intro k
  induction k with
  | zero => intro _; exact yu_tn
  | succ k ih =>
    intro hk
    exact yu_tap (yu_tco G (show m - (k + 1) < m by omega) n (Nat.le_refl _)) (ih (by omega))
theorem yu_tcc (G : yu_G Bc b pw n m q) {r : Nat} (hr : r < n) (h28 : (q r (m - 1)).1 = 28) : yo_N Bc b (yu_cc pw q m r (q r (m - 1))) := by
  have hm := G.1
  have hx : (q r (m - 1)).2.2.1 < 2147483648 := by
    rcases (G.2.2 r (m - 1) hr (by omega)).1 with z | z
    · exact z
    · exact absurd (.inr h28) z
  have ecl : (nI (q r (m - 1)).2.2.1).toNatClampNeg = (q r (m - 1)).2.2.1 := nI_clamp hx
  have pwr : yu_t Bc b (if m = 1 then [(0, 1, 0, 0)] else [(1, nI (yu_pw pw q r (m - 2)), 0, 0)]) 0 1 := by
    split
    · exact yu_t0 (.inr rfl)
    · obtain ⟨g1, g2⟩ := G.2.1 r (m - 2) hr (by omega)
      exact yu_tl g1 g2
  have w8 : yu_t Bc b (if (q r (m - 1)).2.1 = 1 ∨ (q r (m - 1)).2.1 = 3 then [(8, 2, 0, 0)] else []) 1 1 := by
    split
    · exact yu_t8
    · exact yu_tn
  intro K st H
  unfold yu_cc
  by_cases z : (q r (m - 1)).2.1 < 2
  · rw [if_pos z, if_pos z, List.nil_append, yo_Wap]
    refine pwr _ st ?_
    rw [yo_Wap]
    refine w8 _ st ?_
    rw [List.nil_append]
    exact yu_ts (d := 0) K st H
  · rw [if_neg z, if_neg z, yo_Wap]
    show yo_W Bc b _ K (Bc b (nI (q r (m - 1)).2.2.1).toNatClampNeg :: st)
    rw [ecl, yo_Wap]
    refine pwr _ (Bc b (q r (m - 1)).2.2.1 :: st) ?_
    rw [yo_Wap]
    refine w8 _ (Bc b (q r (m - 1)).2.2.1 :: st) ?_
    split
    · show (Bc b (nI (q r (m - 1)).2.2.1).toNatClampNeg → yo_2 11 (Bc b (q r (m - 1)).2.2.1) True) ∧ K st
      rw [ecl]
      exact ⟨fun w => .inr ⟨.inr (.inl rfl), w, trivial⟩, H⟩
    · show (Bc b (nI (q r (m - 1)).2.2.1).toNatClampNeg → yo_2 10 (Bc b (q r (m - 1)).2.2.1) True) ∧ K st
      rw [ecl]
      exact ⟨fun w => .inr ⟨.inl rfl, w, trivial⟩, H⟩
theorem yo_Nap {L1 L2 : List yI} (A : yo_N Bc b L1) (B : yo_N Bc b L2) : yo_N Bc b (L1 ++ L2) := fun K st H => by
  rw [yo_Wap]
  exact A _ _ (B _ _ H)
theorem yu_tcl (G : yu_G Bc b pw n m q) : ∀ k, k ≤ n → yo_N Bc b (yu_cl pw q n m k) := by
  intro k
  induction k with
  | zero => intro _ K st H; exact H
  | succ k ih =>
    intro hk
    show yo_N Bc b ((if (q (n - (k + 1)) (m - 1)).1 = 28 then yu_cc pw q m (n - (k + 1)) (q (n - (k + 1)) (m - 1)) else []) ++ yu_cl pw q n m k)
    refine yo_Nap ?_ (ih (by omega))
    split
    · rename_i h; exact yu_tcc G (by omega) h
    · exact fun K st H => H
theorem yu_trg (G : yu_G Bc b pw n m q) : yo_N Bc b (yu_rg pw q n m) := yo_Nap (fun K st H => yu_tcs G m (Nat.le_refl _) (d := 0) K st H) (yu_tcl G n (Nat.le_refl _))
theorem yu_mkG (hT : ∀ S, Tb S → Bc b S) (hO : ∀ j, Y b ≤ j → j < X b → Bc b j) (hX : X b ≤ 100000) (hY : Y b ≤ lo) (H : yu_H Tb Qb X Y b lo pw n m q) : yu_G Bc b pw n m q := by
  obtain ⟨⟨h1, h2, h3, h4⟩, ⟨h5, h6, h7⟩, h8⟩ := H
  refine ⟨h3, fun r c hr hc => ?_, fun r c hr hc => ?_⟩
  · have e := yu_lsl q c r
    have : yu_pw pw q r c = pw + 12 * c + yu_ls q r c := rfl
    exact ⟨by omega, hO _ (by omega) (by omega)⟩
  · obtain ⟨⟨b1, b2, b3, b4⟩, b5⟩ := h8 r c hr hc
    refine ⟨?_, fun h25 => ⟨hT _ (b4 h25), fun hv => ?_⟩, b5⟩
    · by_cases z : (q r c).1 = 25 ∨ (q r c).1 = 28
      · have := b1 z
        exact .inl (by omega)
      · exact .inr z
    · have := b2 h25 hv
      exact ⟨by omega, hO _ (by omega) (by omega)⟩
theorem yu_tll (hT : ∀ S, Tb S → Bc b S) (hO : ∀ j, Y b ≤ j → j < X b → Bc b j) {gs : List (List (List yT) × Nat)} (hg : ∀ a, a ∈ gs → yu_H Tb Qb X Y b lo pw a.1.length a.2 (yu_q a.1)) (hX : X b ≤ 100000) (hY : Y b ≤ lo) : yo_N Bc b (yu_ll pw gs) := by
  induction gs with
  | nil => exact fun K st H => H
  | cons a gs ih => exact yo_Nap (yu_trg (yu_mkG hT hO hX hY (hg a List.mem_cons_self))) (ih (fun c hc => hg c (List.mem_cons_of_mem _ hc)))
end YUB
