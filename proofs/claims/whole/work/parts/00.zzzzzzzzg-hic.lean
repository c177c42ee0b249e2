/-! The prover: how high the stack is: the class. -/
/-- straight code from height d on: is it ever above 64 -/
def yH_d : Nat → List yI → Bool
  | _, [] => false
  | d, i :: L => decide (64 < d - yo_t i.1 + yo_l i.1) || yH_d (d - yo_t i.1 + yo_l i.1) L
/-- is the end of T come to -/
def yH_r : ys → Bool → Bool
  | .leaf, x => x
  | .inner k _ _ l r, x => if k = 1 ∨ k = 6 then yH_r r (yH_r l x) else if k = 3 ∨ k = 4 then yH_r r false else if k = 5 then (yH_r l x || yH_r r x) else yH_r r x
/-- is it ever above 64 -/
def yH_D : ys → Bool → Bool
  | .leaf, _ => false
  | .inner k p _ l r, x => if k = 0 then (x && yH_d 0 p.1) || yH_D r x else if k = 1 ∨ k = 6 then yH_D l x || yH_D r (yH_r l x) else if k = 3 ∨ k = 4 then yH_D r false else if k = 5 then (x && yH_d 0 p.1) || (yH_D l x || yH_D r x) else yH_D l x || yH_D r x
def yH_v (b : Bool) : Int32 := if b = true then 1 else 0
theorem yH_f : ∀ T : ys, yH_r T false = false ∧ yH_D T false = false := by
  intro T
  induction T with
  | leaf => exact ⟨rfl, rfl⟩
  | inner k p o l r ihl ihr =>
    refine ⟨?_, ?_⟩
    · show (if k = 1 ∨ k = 6 then yH_r r (yH_r l false) else if k = 3 ∨ k = 4 then yH_r r false else if k = 5 then (yH_r l false || yH_r r false) else yH_r r false) = false
      rw [ihl.1, ihr.1]
      split
      · rfl
      split
      · rfl
      split <;> rfl
    · show (if k = 0 then (false && yH_d 0 p.1) || yH_D r false else if k = 1 ∨ k = 6 then yH_D l false || yH_D r (yH_r l false) else if k = 3 ∨ k = 4 then yH_D r false else if k = 5 then (false && yH_d 0 p.1) || (yH_D l false || yH_D r false) else yH_D l false || yH_D r false) = false
      rw [ihl.1, ihl.2, ihr.2, Bool.false_and]
      split
      · rfl
      split
      · rfl
      split
      · rfl
      split <;> rfl
theorem yH_ri {o d : Nat} (ho : o < 19) (h : yo_t o ≤ d) : nI d + zt_5.getD o 0 = nI (d - yo_t o + yo_l o) := by
  have key : ∀ o : Fin 19, zt_5.getD o.1 0 = nI (yo_l o.1) - nI (yo_t o.1) := by decide
  rw [key ⟨o, ho⟩, ← nI_add, ← zi_sub h, Int32.sub_eq_add_neg, Int32.sub_eq_add_neg, Int32.add_assoc, Int32.add_comm (-nI (yo_t o))]
theorem yH_mx (a b : Nat) (ha : a < 2147483648) (hb : b < 2147483648) : zd_max (nI a) (nI b) = nI (max a b) := by
  unfold zd_max
  by_cases z : a < b
  · rw [if_pos ((nI_ltI ha hb).mpr z), Nat.max_eq_right (by omega)]
  · rw [if_neg (mt (nI_ltI ha hb).mp z), Nat.max_eq_left (by omega)]
/-- only what has been come to changes -/
def yH_fr (lo hi q : Nat) (h h' : zs_H) : Prop := h'.1 = h.1 ∧ h'.2.2 = h.2.2 ∧ ∀ a j, ¬ a = 53 ∨ ((j < lo ∨ hi < j) ∧ ¬ j = q) → h'.2.1 a j = h.2.1 a j
theorem yH_fr0 {lo hi q : Nat} {h : zs_H} : yH_fr lo hi q h h := ⟨rfl, rfl, fun _ _ _ => rfl⟩
theorem yH_frt {lo hi q lo1 hi1 q1 lo2 hi2 q2 : Nat} {h h1 h2 : zs_H} (a : yH_fr lo1 hi1 q1 h h1) (b : yH_fr lo2 hi2 q2 h1 h2) (l1 : lo ≤ lo1 ∧ hi1 ≤ hi) (l2 : lo ≤ lo2 ∧ hi2 ≤ hi) (l3 : q1 = q ∨ (lo ≤ q1 ∧ q1 ≤ hi)) (l4 : q2 = q ∨ (lo ≤ q2 ∧ q2 ≤ hi)) : yH_fr lo hi q h h2 := by
  refine ⟨b.1.trans a.1, b.2.1.trans a.2.1, fun x j z => ?_⟩
  have z1 : ¬ x = 53 ∨ ((j < lo1 ∨ hi1 < j) ∧ ¬ j = q1) := z.imp id (fun z => ⟨by omega, by omega⟩)
  have z2 : ¬ x = 53 ∨ ((j < lo2 ∨ hi2 < j) ∧ ¬ j = q2) := z.imp id (fun z => ⟨by omega, by omega⟩)
  exact (b.2.2 x j z2).trans (a.2.2 x j z1)
theorem yH_lm {a b c : Nat} : a < max b c ↔ a < b ∨ a < c := by omega
section YHC
variable {h h' : zs_H} {j n d mo bh lo hi q N : Nat} {i : yI}
theorem yH_Kf {L : List yI} (f : yH_fr lo hi q h h') (K : yP_K h n L) : yP_K h' n L := by
  intro k i e
  have z := K k i e
  unfold yC_m at z ⊢
  rw [f.2.2 _ _ (.inl (by decide)), f.2.2 _ _ (.inl (by decide)), f.2.2 _ _ (.inl (by decide)), f.2.2 _ _ (.inl (by decide))]
  exact z
theorem yH_set {t : Nat} (h1 : lo ≤ t ∧ t ≤ hi ∨ t = q) : yH_fr lo hi q h (zs_uM h 53 t 1) := ⟨rfl, rfl, fun a j z => zu_MM.trans (if_neg fun y => by rcases z with z | z; exact z y.1; omega)⟩
/-- an instruction that has not been come to -/
theorem yH_s0 (hj : j < bh) (hb : bh ≤ 4000) (m : yC_m h j i) (ho : i.1 < 19) (ht : yo_t i.1 ≤ d) (r : h.2.1 53 j = 0) : f_Pv_highest_L37 (N + 1) h (nI bh) (nI mo) (nI d) (nI j) = f_Pv_highest_L37 N h (nI bh) (nI mo) (nI (d - yo_t i.1 + yo_l i.1)) (nI (j + 1)) := by
  show f_Pv_highest_37 (f_Pv_highest_L37 N) h (nI bh) (nI mo) (nI d) (nI j) = _
  unfold f_Pv_highest_37 f_Pv_highest_151
  have m1 : (h.2.1 42) j = nI i.1 := m.1
  simp only [if_neg (mt (nI_leI (show bh < 2147483648 by omega) (show j < 2147483648 by omega)).mp (by omega)), if_pos (zi_in (show j < 2147483648 by omega) (show j < 4000 by omega)), if_pos (zi_in (show j < 2147483648 by omega) (show j < 4001 by omega)), nI_clamp (show j < 2147483648 by omega), m1, if_pos (zi_in (show i.1 < 2147483648 by omega) ho), nI_clamp (show i.1 < 2147483648 by omega), r, if_true, yH_ri ho ht, show nI j + 1 = nI (j + 1) from zc_ad 1 j]
/-- one that has -/
theorem yH_s1 {h1 : zs_H} (hj : j < bh) (hb : bh ≤ 4000) (hd : d < 100000 ∧ mo < 100000) (m : yC_m h j i) (ho : i.1 < 19) (ht : yo_t i.1 ≤ d) (r : h.2.1 53 j = 1) (e : h1 = (if i.1 = 10 ∨ i.1 = 14 ∨ i.1 = 18 then (if i.1 = 10 then zs_uM h 53 (i.2.1).toNatClampNeg 1 else h) else zs_uM (if i.1 = 11 ∨ i.1 = 13 then zs_uM h 53 (i.2.1).toNatClampNeg 1 else h) 53 (j + 1) 1)) (ha : i.1 = 10 ∨ i.1 = 11 ∨ i.1 = 13 → zd_in i.2.1 4001) : f_Pv_highest_L37 (N + 1) h (nI bh) (nI mo) (nI d) (nI j) = f_Pv_highest_L37 N h1 (nI bh) (nI (max mo (d - yo_t i.1 + yo_l i.1))) (nI (d - yo_t i.1 + yo_l i.1)) (nI (j + 1)) := by
  have vb1 : vp_nar .boolean 1 = (1 : Int32) := by decide
  have hl : yo_l i.1 ≤ 1 := by
    have key : ∀ o : Fin 19, yo_l o.1 ≤ 1 := by decide
    exact key ⟨i.1, ho⟩
  show f_Pv_highest_37 (f_Pv_highest_L37 N) h (nI bh) (nI mo) (nI d) (nI j) = _
  have m1 : (h.2.1 42) j = nI i.1 := m.1
  have m2 : (h.2.1 43) j = i.2.1 := m.2.1
  have hi : i.1 < 2147483648 := by omega
  unfold f_Pv_highest_37
  simp only [if_neg (mt (nI_leI (show bh < 2147483648 by omega) (show j < 2147483648 by omega)).mp (by omega)), if_pos (zi_in (show j < 2147483648 by omega) (show j < 4000 by omega)), if_pos (zi_in (show j < 2147483648 by omega) (show j < 4001 by omega)), nI_clamp (show j < 2147483648 by omega), m1, if_pos (zi_in (show i.1 < 2147483648 by omega) ho), nI_clamp (show i.1 < 2147483648 by omega), r, show ¬ (1 : Int32) = 0 by decide, if_false, yH_ri ho ht, yH_mx mo (d - yo_t i.1 + yo_l i.1) (by omega) (by omega)]
  have e120 : ∀ (g : zs_H) (x3 x4 : Int32), f_Pv_highest_120 (f_Pv_highest_L37 N) g (nI bh) x3 x4 (nI j) (nI i.1) = f_Pv_highest_L37 N (if i.1 = 10 ∨ i.1 = 14 ∨ i.1 = 18 then g else zs_uM g 53 (j + 1) 1) (nI bh) x3 x4 (nI (j + 1)) := by
    intro g x3 x4
    unfold f_Pv_highest_120 f_Pv_highest_151
    rw [show nI j + 1 = nI (j + 1) from zc_ad 1 j, vb1, if_pos (zi_in (show j + 1 < 2147483648 by omega) (by omega)), nI_clamp (show j + 1 < 2147483648 by omega)]
    by_cases z10 : i.1 = 10
    · rw [if_pos (by rw [z10]; rfl), if_pos (.inl z10)]
    rw [if_neg (mt (zc_eq (k := 10) (by decide) hi).mp z10)]
    by_cases z18 : i.1 = 18
    · rw [if_pos (by rw [z18]; rfl), if_pos (.inr (.inr z18))]
    rw [if_neg (mt (zc_eq (k := 18) (by decide) hi).mp z18)]
    by_cases z14 : i.1 = 14
    · rw [if_pos (by rw [z14]; rfl), if_pos (.inr (.inl z14))]
    rw [if_neg (mt (zc_eq (k := 14) (by decide) hi).mp z14), if_neg (by omega)]
  have e104 : i.1 = 10 ∨ i.1 = 11 ∨ i.1 = 13 → ∀ (x3 x4 : Int32), f_Pv_highest_104 (f_Pv_highest_L37 N) h (nI bh) x3 x4 (nI j) (nI i.1) = f_Pv_highest_120 (f_Pv_highest_L37 N) (zs_uM h 53 (i.2.1).toNatClampNeg 1) (nI bh) x3 x4 (nI j) (nI i.1) := by
    intro z x3 x4
    unfold f_Pv_highest_104
    rw [if_pos (zi_in (by omega) (by omega)), nI_clamp (n := j) (by omega), m2, if_pos (ha z), vb1]
  by_cases z10 : i.1 = 10
  · rw [if_pos (by rw [z10]; rfl), e104 (.inl z10), e120, if_pos (.inl z10), e, if_pos (.inl z10), if_pos z10]
  rw [if_neg (mt (zc_eq (k := 10) (by decide) hi).mp z10)]
  by_cases z11 : i.1 = 11
  · rw [if_pos (by rw [z11]; rfl), e104 (.inr (.inl z11)), e120, if_neg (by omega), e, if_neg (by omega), if_pos (.inl z11)]
  rw [if_neg (mt (zc_eq (k := 11) (by decide) hi).mp z11)]
  by_cases z13 : i.1 = 13
  · rw [if_pos (by rw [z13]; rfl), e104 (.inr (.inr z13)), e120, if_neg (by omega), e, if_neg (by omega), if_pos (.inr z13)]
  rw [if_neg (mt (zc_eq (k := 13) (by decide) hi).mp z13), e120, e, if_neg z10, if_neg (show ¬ (i.1 = 11 ∨ i.1 = 13) by omega)]
/-- straight code -/
theorem yH_str {bb : Nat} (hb : bh ≤ 4000) : ∀ (L : List yI) (n d d2 mo : Nat) (x : Bool) (h : zs_H), n + L.length ≤ bh → d + L.length ≤ 5000 → mo ≤ 6000 → yo_h d L = some d2 → (∀ i, i ∈ L → yP_o bb i) → yP_K h n L → h.2.1 53 n = yH_v x → (∀ j, n < j → j < n + L.length → h.2.1 53 j = 0) → ∃ h' mo', (∀ N, f_Pv_highest_L37 (N + L.length) h (nI bh) (nI mo) (nI d) (nI n) = f_Pv_highest_L37 N h' (nI bh) (nI mo') (nI d2) (nI (n + L.length))) ∧ mo' ≤ 6000 ∧ (64 < mo' ↔ 64 < mo ∨ (x && yH_d d L) = true) ∧ (∀ y, h.2.1 53 (n + L.length) = yH_v y → h'.2.1 53 (n + L.length) = yH_v (y || x)) ∧ yH_fr n (n + L.length) (n + L.length) h h' := by
  intro L
  induction L with
  | nil =>
    intro n d d2 mo x h _ _ hm e _ _ r _
    have e' : d = d2 := Option.some.inj e
    subst e'
    refine ⟨h, mo, fun _ => rfl, hm, ⟨fun z => .inl z, fun z => z.elim id (fun z => by rw [yH_d, Bool.and_false] at z; cases z)⟩, fun y hy => ?_, yH_fr0⟩
    show h.2.1 53 n = _
    rw [r]
    have : yH_v x = yH_v y := r.symm.trans hy
    cases x <;> cases y <;> first | rfl | exact absurd this (by decide)
  | cons i L ih =>
    intro n d d2 mo x h hn hd hm e ho K r r0
    have el : n + (i :: L).length = n + 1 + L.length := by rw [List.length_cons]; omega
    have ll : (i :: L).length = L.length + 1 := rfl
    rw [el] at hn r0 ⊢
    have oi := ho i (List.mem_cons_self ..)
    have o19 : i.1 < 19 := by have := oi.1; omega
    have ht : yo_t i.1 ≤ d := by
      rcases Nat.lt_or_ge d (yo_t i.1) with z | z
      · rw [yo_h, if_neg (by omega)] at e; cases e
      · exact z
    have e' : yo_h (d - yo_t i.1 + yo_l i.1) L = some d2 := by rw [yo_h, if_pos ht] at e; exact e
    have hl : yo_l i.1 ≤ 1 := by
      have key : ∀ o : Fin 19, yo_l o.1 ≤ 1 := by decide
      exact key ⟨i.1, o19⟩
    have m : yC_m h n i := K 0 i rfl
    have Kr : yP_K h (n + 1) L := yP_Kr (L1 := [i]) K
    cases x with
    | false =>
      have r' : h.2.1 53 (n + 1) = yH_v false ∨ L = [] := by
        cases L with
        | nil => exact .inr rfl
        | cons a L => exact .inl (r0 (n + 1) (by omega) (by rw [List.length_cons]; omega))
      rcases r' with r' | r'
      · obtain ⟨h', mo', a1, a2, a3, a4, a5⟩ := ih (n + 1) _ d2 mo false h hn (by omega) hm e' (fun j hj => ho j (List.mem_cons_of_mem _ hj)) Kr r' (fun j h1 h2 => r0 j (by omega) h2)
        refine ⟨h', mo', fun N => ?_, a2, by rw [Bool.false_and] at a3 ⊢; exact a3, a4, yH_frt a5 yH_fr0 (lo2 := n) (hi2 := n) (q2 := n + 1 + L.length) (by omega) (by omega) (by omega) (by omega)⟩
        rw [ll, show N + (L.length + 1) = (N + L.length) + 1 by omega, yH_s0 (by omega) hb m o19 ht r]
        exact a1 N
      · subst r'
        have e2 : d - yo_t i.1 + yo_l i.1 = d2 := Option.some.inj e'
        refine ⟨h, mo, fun N => ?_, hm, by rw [Bool.false_and]; exact ⟨fun z => .inl z, fun z => z.elim id (fun z => by cases z)⟩, fun y hy => by rw [Bool.or_false]; exact hy, yH_fr0⟩
        rw [← e2]
        exact yH_s0 (by omega) hb m o19 ht r
    | true =>
      obtain ⟨h1, e1⟩ : ∃ h1, h1 = zs_uM h 53 (n + 1) 1 := ⟨_, rfl⟩
      have f1 : yH_fr n (n + 1 + L.length) (n + 1 + L.length) h h1 := by rw [e1]; exact yH_set (.inl (by omega))
      have st : ∀ N, f_Pv_highest_L37 (N + 1) h (nI bh) (nI mo) (nI d) (nI n) = f_Pv_highest_L37 N h1 (nI bh) (nI (max mo (d - yo_t i.1 + yo_l i.1))) (nI (d - yo_t i.1 + yo_l i.1)) (nI (n + 1)) := fun N => yH_s1 (by omega) hb (by omega) m o19 ht r (by
        rw [e1, if_neg (by have := oi.1; omega), if_neg (by have := oi.1; omega)]) (fun z => by have := oi.1; omega)
      have r1 : h1.2.1 53 (n + 1) = yH_v true := by rw [e1]; exact zu_MM.trans (if_pos ⟨rfl, rfl⟩)
      obtain ⟨h', mo', a1, a2, a3, a4, a5⟩ := ih (n + 1) _ d2 (max mo (d - yo_t i.1 + yo_l i.1)) true h1 hn (by omega) (by omega) e' (fun j hj => ho j (List.mem_cons_of_mem _ hj)) (yH_Kf f1 Kr) r1 (fun j h1' h2 => by
        rw [e1]
        exact (zu_MM.trans (if_neg fun z => by omega)).trans (r0 j (by omega) h2))
      refine ⟨h', mo', fun N => ?_, a2, ?_, fun y hy => ?_, yH_frt f1 a5 (by omega) (by omega) (by omega) (by omega)⟩
      · rw [ll, show N + (L.length + 1) = (N + L.length) + 1 by omega, st]
        exact a1 N
      · rw [a3, yH_d, Bool.true_and, Bool.true_and, Bool.or_eq_true, decide_eq_true_eq, yH_lm, or_assoc]
      · by_cases z : L.length = 0
        · rw [z, Nat.add_zero] at hy a4 ⊢
          have := a4 true r1
          rw [Bool.or_true]
          exact this
        · refine a4 y ?_
          rw [e1]
          exact (zu_MM.trans (if_neg fun w => by omega)).trans hy
end YHC
