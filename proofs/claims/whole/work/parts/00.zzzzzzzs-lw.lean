/-! The coder: what is known of a ladder's code, to its end. -/
section YUU
variable {X Y : Nat → Nat} {kb : Nat → yK} {Tb : Nat → Prop} {b lo pw n m : Nat} {q : Nat → Nat → yT}
/-- a grid whose cells are in their bounds -/
def yu_H (Tb Qb : Nat → Prop) (X Y : Nat → Nat) (b lo pw n m : Nat) (q : Nat → Nat → yT) : Prop := (1 ≤ n ∧ n ≤ 12 ∧ 1 ≤ m ∧ m ≤ 12) ∧ (lo ≤ pw ∧ pw + 156 ≤ X b ∧ Y b ≤ X b) ∧ ∀ r c, r < n → c < m → yu_B Tb Qb (Y b) lo (X b) (q r c) ∧ (q r c).2.1 < 4
theorem yu_hp (H : yu_H Tb (kb b).2 X Y b lo pw n m q) {r c : Nat} (hr : r < n) (hc : c < m) : lo ≤ yu_pw pw q r c ∧ yu_pw pw q r c < X b := by
  obtain ⟨h1, h2, _⟩ := H
  have := yu_lsl q c r
  unfold yu_pw
  omega
theorem yu_wwy (H : yu_H Tb (kb b).2 X Y b lo pw n m q) {r c d : Nat} (hr : r < n) (hc : c < m) : yu_w X Y kb b lo (yu_wy pw q r c) d (d + 1) := by
  obtain ⟨h1, h2⟩ := H.2.2 r c hr hc
  unfold yu_wy
  refine yu_wap (e := d + 1) ?_ (yu_wct h1 H.2.1.2.2 h2)
  split
  · exact yu_w0
  · exact yu_wl (yu_hp H hr (by omega)).2
theorem yu_wgr (H : yu_H Tb (kb b).2 X Y b lo pw n m q) {c : Nat} (hc : c < m) : ∀ (k r w d : Nat), r + k ≤ n → yu_w X Y kb b lo (yu_gr pw q c k r w) (d + (if w = 0 then 0 else 1)) (d + 1) := by
  intro k
  induction k with
  | zero =>
    intro r w d _
    show yu_w X Y kb b lo (if w = 0 then [(0, 0, 0, 0)] else []) _ _
    by_cases z : w = 0
    · rw [if_pos z, if_pos z]; exact yu_w0
    · rw [if_neg z, if_neg z]; exact yu_wn
  | succ k ih =>
    intro r w d hr
    show yu_w X Y kb b lo (if (q r c).1 = 27 then yu_gr pw q c k (r + 1) w else yu_wy pw q r c ++ ((if w = 0 then [] else [(7, 11, 0, 0)]) ++ yu_gr pw q c k (r + 1) (w + 1))) _ _
    split
    · exact ih (r + 1) w d (by omega)
    · have a := ih (r + 1) (w + 1) d (by omega)
      rw [if_neg (by omega)] at a
      by_cases z : w = 0
      · rw [if_pos z, if_pos z]
        exact yu_wap (yu_wwy H (by omega) hc) a
      · rw [if_neg z, if_neg z]
        exact yu_wap (yu_wwy H (by omega) hc) (yu_wap (yu_w7 (k := 11) (by decide)) a)
theorem yu_wgp (H : yu_H Tb (kb b).2 X Y b lo pw n m q) {c r d : Nat} (hc : c < m) (hr : r < n) : yu_w X Y kb b lo (yu_gp pw q n c r) d d := by
  obtain ⟨_, l2, _, _⟩ := yu_lef (q := q) (c := c) (n - 1 - r) r
  have a := yu_wgr (kb := kb) H hc (yu_le q c (n - 1 - r) r) r 0 d (by omega)
  rw [if_pos rfl] at a
  unfold yu_gp
  exact yu_wap a (yu_ws (.inr (yu_hp H hr hc)))
theorem yu_wco (H : yu_H Tb (kb b).2 X Y b lo pw n m q) {c d : Nat} (hc : c < m) : ∀ k, k ≤ n → yu_w X Y kb b lo (yu_co pw q n c k) d d := by
  intro k
  induction k with
  | zero => intro _; exact yu_wn
  | succ k ih =>
    intro hk
    show yu_w X Y kb b lo ((if yu_ls q (n - (k + 1)) c = n - (k + 1) ∧ ¬ (q (n - (k + 1)) c).1 = 28 then yu_gp pw q n c (n - (k + 1)) else []) ++ yu_co pw q n c k) d d
    refine yu_wap (e := d) ?_ (ih (by omega))
    split
    · exact yu_wgp H hc (by omega)
    · exact yu_wn
theorem yu_wcs (H : yu_H Tb (kb b).2 X Y b lo pw n m q) {d : Nat} : ∀ k, k ≤ m → yu_w X Y kb b lo (yu_cs pw q n m k) d d := by
  intro k
  induction k with
  | zero => intro _; exact yu_wn
  | succ k ih =>
    intro hk
    exact yu_wap (yu_wco H (show m - (k + 1) < m by omega) n (Nat.le_refl _)) (ih (by omega))
theorem yu_wcc (H : yu_H Tb (kb b).2 X Y b lo pw n m q) {r d : Nat} (hr : r < n) (h28 : (q r (m - 1)).1 = 28) : yu_w X Y kb b lo (yu_cc pw q m r (q r (m - 1))) d d := by
  have hm := H.1
  obtain ⟨h1, h2⟩ := H.2.2 r (m - 1) hr (by omega)
  have hS := h1.1 (.inr h28)
  have hYX := H.2.1.2.2
  have st : ∀ d, yu_w X Y kb b lo [(2, nI (q r (m - 1)).2.2.1, 0, 0)] (d + 1) d := fun d => yu_ws (.inl ⟨hS.1, hS.2 h28⟩)
  have pwr : ∀ d, yu_w X Y kb b lo (if m = 1 then [(0, 1, 0, 0)] else [(1, nI (yu_pw pw q r (m - 2)), 0, 0)]) d (d + 1) := by
    intro d
    split
    · exact yu_w0
    · exact yu_wl (yu_hp H hr (by omega)).2
  have w8 : ∀ d, yu_w X Y kb b lo (if (q r (m - 1)).2.1 = 1 ∨ (q r (m - 1)).2.1 = 3 then [(8, 2, 0, 0)] else []) (d + 1) (d + 1) := by
    intro d
    split
    · exact yu_w8
    · exact yu_wn
  unfold yu_cc
  by_cases z : (q r (m - 1)).2.1 < 2
  · rw [if_pos z, if_pos z]
    exact yu_wap yu_wn (yu_wap (pwr _) (yu_wap (w8 _) (yu_wap yu_wn (st _))))
  · rw [if_neg z, if_neg z]
    refine yu_wap (yu_wl (by omega)) (yu_wap (pwr _) (yu_wap (w8 _) (yu_wap (e := d + 1) ?_ (st _))))
    split
    · exact yu_w7 (k := 11) (by decide)
    · exact yu_w7 (k := 10) (by decide)
theorem yu_wcl (H : yu_H Tb (kb b).2 X Y b lo pw n m q) {d : Nat} : ∀ k, k ≤ n → yu_w X Y kb b lo (yu_cl pw q n m k) d d := by
  intro k
  induction k with
  | zero => intro _; exact yu_wn
  | succ k ih =>
    intro hk
    show yu_w X Y kb b lo ((if (q (n - (k + 1)) (m - 1)).1 = 28 then yu_cc pw q m (n - (k + 1)) (q (n - (k + 1)) (m - 1)) else []) ++ yu_cl pw q n m k) d d
    refine yu_wap (e := d) ?_ (ih (by omega))
    split
    · rename_i h; exact yu_wcc H (by omega) h
    · exact yu_wn
theorem yu_wrg (H : yu_H Tb (kb b).2 X Y b lo pw n m q) {d : Nat} : yu_w X Y kb b lo (yu_rg pw q n m) d d := yu_wap (yu_wcs H m (Nat.le_refl _)) (yu_wcl H n (Nat.le_refl _))
/-- a ladder is straight code -/
theorem yu_wll {gs : List (List (List yT) × Nat)} (hg : ∀ a, a ∈ gs → yu_H Tb (kb b).2 X Y b lo pw a.1.length a.2 (yu_q a.1)) : yu_w X Y kb b lo (yu_ll pw gs) 0 0 := by
  induction gs with
  | nil => exact yu_wn
  | cons a gs ih => exact yu_wap (yu_wrg (hg a List.mem_cons_self)) (ih (fun c hc => hg c (List.mem_cons_of_mem _ hc)))
theorem yu_Wll {gs : List (List (List yT) × Nat)} (hg : ∀ a, a ∈ gs → yu_H Tb (kb b).2 X Y b lo pw a.1.length a.2 (yu_q a.1)) : yz_W X Y kb b (yz_i (yu_ll pw gs)) lo := by
  have a := yu_wll (kb := kb) hg
  exact yz_Wi (a.1 0) a.2
end YUU
