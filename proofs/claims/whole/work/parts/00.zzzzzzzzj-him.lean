/-! The prover: how high the stack is: the model. -/
def yD_v (b : Bool) : Int32 := if b = true then nI 0 else -1
/-- only depths change: at lo .. hi, at q, at the end -/
def yD_fr (s sz lo hi q : Nat) (g g' : zs_H) : Prop := g'.1 = g.1 ∧ g'.2.2 = g.2.2 ∧ (∀ a, ¬ a = 112 → g'.2.1 a = g.2.1 a) ∧ ∀ j, s ≤ j → j < s + sz → (j < lo ∨ hi < j) → ¬ j = q → g'.2.1 112 (j - s) = g.2.1 112 (j - s)
section YDM
variable {g g' g1 g2 : zs_H} {s sz u n lo hi q N d : Nat} {i : yI} {lv : Nat}
theorem yD_fr0 : yD_fr s sz lo hi q g g := ⟨rfl, rfl, fun _ _ => rfl, fun _ _ _ _ _ => rfl⟩
theorem yD_frt {lo1 hi1 q1 lo2 hi2 q2 : Nat} (a : yD_fr s sz lo1 hi1 q1 g g1) (b : yD_fr s sz lo2 hi2 q2 g1 g2) (l1 : lo ≤ lo1 ∧ hi1 ≤ hi) (l2 : lo ≤ lo2 ∧ hi2 ≤ hi) (l3 : q1 = q ∨ (lo ≤ q1 ∧ q1 ≤ hi)) (l4 : q2 = q ∨ (lo ≤ q2 ∧ q2 ≤ hi)) : yD_fr s sz lo hi q g g2 := by
  refine ⟨b.1.trans a.1, b.2.1.trans a.2.1, fun x hx => (b.2.2.1 x hx).trans (a.2.2.1 x hx), fun j j1 j2 j3 j4 => ?_⟩
  exact (b.2.2.2 j j1 j2 (by omega) (by omega)).trans (a.2.2.2 j j1 j2 (by omega) (by omega))
theorem yD_Kf {L : List yJ} (f : yD_fr s sz lo hi q g g') (K : yQ_K g s n L) : yQ_K g' s n L := by
  intro k i e
  have z := K k i e
  unfold yM_m at z ⊢
  rw [f.2.2.1 _ (by decide), f.2.2.1 _ (by decide), f.2.2.1 _ (by decide), f.2.2.1 _ (by decide), f.2.2.1 _ (by decide)]
  exact z
theorem yD_set {t : Nat} {x : Int32} (hs : s ≤ t) (h1 : lo ≤ t ∧ t ≤ hi ∨ t = q ∨ s + sz ≤ t) : yD_fr s sz lo hi q g (zs_uM g 112 (t - s) x) := ⟨rfl, rfl, fun a ha => by funext j; exact zu_MM.trans (if_neg fun z => ha z.1), fun j j1 j2 j3 j4 => zu_MM.trans (if_neg fun z => by have := z.2; omega)⟩
/-- where a unit lies -/
def yD_c (u s sz : Nat) (g : zs_H) : Prop := u < 16 ∧ s + sz ≤ 4000 ∧ (g.2.1 103) u = nI s ∧ (g.2.1 103) (u + 1) = nI (s + sz)
theorem yD_cf (f : yD_fr s sz lo hi q g g') (c : yD_c u s sz g) : yD_c u s sz g' := ⟨c.1, c.2.1, by rw [f.2.2.1 _ (by decide)]; exact c.2.2.1, by rw [f.2.2.1 _ (by decide)]; exact c.2.2.2⟩
theorem yD_s0 (hs : s ≤ n) (hn : n < s + sz) (C : yD_c u s sz g) (r : g.2.1 112 (n - s) = -1) : f_Mo_isDeep_L35 (N + 1) g (nI u) (nI sz) (nI (n - s)) = f_Mo_isDeep_L35 N g (nI u) (nI sz) (nI (n + 1 - s)) := by
  obtain ⟨c1, c2, c3, c4⟩ := C
  show f_Mo_isDeep_35 (f_Mo_isDeep_L35 N) g (nI u) (nI sz) (nI (n - s)) = _
  unfold f_Mo_isDeep_35 f_Mo_isDeep_149
  simp only [if_neg (mt (nI_leI (show sz < 2147483648 by omega) (show n - s < 2147483648 by omega)).mp (by omega)), if_pos (zi_in (show u < 2147483648 by omega) (show u < 17 by omega)), nI_clamp (show u < 2147483648 by omega), c3, nI_add, show s + (n - s) = n by omega, if_pos (zi_in (show n < 2147483648 by omega) (show n < 4000 by omega)), if_pos (zi_in (show n - s < 2147483648 by omega) (show n - s < 4001 by omega)), nI_clamp (show n - s < 2147483648 by omega), r, if_pos (show (-1 : Int32) < 0 by decide), show nI (n - s) + 1 = nI (n - s + 1) from zc_ad 1 (n - s), show n - s + 1 = n + 1 - s by omega]
/-- the target of a jump forward -/
def yD_t (i : yI) (s sz : Nat) : Option Nat := if i.1 = 10 ∨ i.1 = 11 ∨ i.1 = 13 then some (i.2.1.toNatClampNeg) else if i.1 = 18 then some (s + sz) else none
theorem yD_tg (hs : s ≤ n) (hn : n < s + sz) (C : yD_c u s sz g) (m : yM_m s g n (i, lv)) (ho : i.1 < 19) (ha : i.1 = 10 ∨ i.1 = 11 ∨ i.1 = 13 → ∃ t, i.2.1 = nI t ∧ n < t ∧ t ≤ s + sz) (hb : i.1 = 14 → ∃ t, i.2.1 = nI t ∧ s ≤ t ∧ t ≤ n) : ∃ v2, f_Mo_target g (nI u) (nI (n - s)) = some v2 ∧ (match yD_t i s sz with | some t => n < t ∧ t ≤ s + sz ∧ v2 = nI (t - s) | none => v2 ≤ nI (n - s)) := by
  obtain ⟨c1, c2, c3, c4⟩ := C
  have m1 : (g.2.1 104) n = nI i.1 := m.1
  have m2 : (g.2.1 105) n = yM_A s i := m.2.1
  have m3 : (g.2.1 106) n = yM_B s i := m.2.2.1
  have hi : i.1 < 2147483648 := by omega
  have ne : ∀ k : Nat, k < 19 → ¬ i.1 = k → ¬ nI i.1 = (OfNat.ofNat k : Int32) := fun k hk z q => z ((zc_eq (k := k) (by omega) hi).mp q)
  unfold f_Mo_target f_Mo_sizeOf
  simp only [if_pos (zi_in (show u < 2147483648 by omega) (show u < 17 by omega)), nI_clamp (show u < 2147483648 by omega), c3, nI_add, show s + (n - s) = n by omega, if_pos (zi_in (show n < 2147483648 by omega) (show n < 4000 by omega)), nI_clamp (show n < 2147483648 by omega), m1, show nI u + 1 = nI (u + 1) from zc_ad 1 u, if_pos (zi_in (show u + 1 < 2147483648 by omega) (show u + 1 < 17 by omega)), nI_clamp (show u + 1 < 2147483648 by omega), c4, show nI (s + sz) - nI s = nI sz by rw [zi_sub (by omega), Nat.add_sub_cancel_left], Option.bind_some]
  by_cases z10 : i.1 = 10
  · obtain ⟨t, t1, t2, t3⟩ := ha (.inl z10)
    rw [if_pos (by rw [z10]; rfl), m2]
    have ea : yM_A s i = nI (t - s) := by unfold yM_A; rw [if_pos (.inl z10), t1, zi_sub (by omega)]
    have et : yD_t i s sz = some t := by unfold yD_t; rw [if_pos (.inl z10), t1, nI_clamp (by omega)]
    rw [et, ea]
    exact ⟨_, rfl, t2, t3, rfl⟩
  rw [if_neg (ne 10 (by decide) z10)]
  by_cases z11 : i.1 = 11
  · obtain ⟨t, t1, t2, t3⟩ := ha (.inr (.inl z11))
    rw [if_pos (by rw [z11]; rfl), m2]
    have ea : yM_A s i = nI (t - s) := by unfold yM_A; rw [if_pos (.inr (.inl z11)), t1, zi_sub (by omega)]
    have et : yD_t i s sz = some t := by unfold yD_t; rw [if_pos (.inr (.inl z11)), t1, nI_clamp (by omega)]
    rw [et, ea]
    exact ⟨_, rfl, t2, t3, rfl⟩
  rw [if_neg (ne 11 (by decide) z11)]
  by_cases z13 : i.1 = 13
  · obtain ⟨t, t1, t2, t3⟩ := ha (.inr (.inr z13))
    rw [if_pos (by rw [z13]; rfl), m3]
    have ea : yM_B s i = nI (t - s) := by unfold yM_B; rw [if_pos z13, t1, zi_sub (by omega)]
    have et : yD_t i s sz = some t := by unfold yD_t; rw [if_pos (.inr (.inr z13)), t1, nI_clamp (by omega)]
    rw [et, ea]
    exact ⟨_, rfl, t2, t3, rfl⟩
  rw [if_neg (ne 13 (by decide) z13)]
  by_cases z14 : i.1 = 14
  · obtain ⟨t, t1, t2, t3⟩ := hb z14
    rw [if_pos (by rw [z14]; rfl), m2]
    have ea : yM_A s i = nI (t - s) := by unfold yM_A; rw [if_pos (.inr (.inr z14)), t1, zi_sub (by omega)]
    have et : yD_t i s sz = none := by unfold yD_t; rw [if_neg (by omega), if_neg (by omega)]
    rw [et, ea]
    exact ⟨_, rfl, (nI_leI (by omega) (by omega)).mpr (by omega)⟩
  rw [if_neg (ne 14 (by decide) z14)]
  by_cases z18 : i.1 = 18
  · rw [if_pos (by rw [z18]; rfl)]
    have et : yD_t i s sz = some (s + sz) := by unfold yD_t; rw [if_neg (by omega), if_pos z18]
    rw [et]
    exact ⟨_, rfl, hn, Nat.le_refl _, by rw [Nat.add_sub_cancel_left]⟩
  · rw [if_neg (ne 18 (by decide) z18)]
    have et : yD_t i s sz = none := by unfold yD_t; rw [if_neg (by omega), if_neg z18]
    rw [et]
    exact ⟨_, rfl, Int32.le_of_lt (Int32.lt_of_lt_of_le (show (-1 : Int32) < 0 by decide) ((zc_le (k := 0) (by decide) (by omega)).mpr (Nat.zero_le _)))⟩
theorem yD_ri {o d : Nat} (ho : o < 19) (h : yo_t o ≤ d) : nI d - zt_6.getD o 0 + zt_7.getD o 0 = nI (d - yo_t o + yo_l o) := by
  have key : ∀ o : Fin 19, zt_6.getD o.1 0 = nI (yo_t o.1) ∧ zt_7.getD o.1 0 = nI (yo_l o.1) := by decide
  rw [(key ⟨o, ho⟩).1, (key ⟨o, ho⟩).2, zi_sub h, nI_add]
/-- what one instruction that has been come to changes -/
def yD_n (i : yI) (s sz n d : Nat) (g : zs_H) : zs_H := (match yD_t i s sz with | some t => zs_uM (if i.1 = 10 ∨ i.1 = 14 ∨ i.1 = 18 then g else zs_uM g 112 (n + 1 - s) (nI d)) 112 (t - s) (nI d) | none => if i.1 = 10 ∨ i.1 = 14 ∨ i.1 = 18 then g else zs_uM g 112 (n + 1 - s) (nI d))
theorem yD_s1 (hs : s ≤ n) (hn : n < s + sz) (hd : d < 100000) (C : yD_c u s sz g) (m : yM_m s g n (i, lv)) (ho : i.1 < 19) (ht : yo_t i.1 ≤ d) (r : g.2.1 112 (n - s) = nI d) (ha : i.1 = 10 ∨ i.1 = 11 ∨ i.1 = 13 → ∃ t, i.2.1 = nI t ∧ n < t ∧ t ≤ s + sz) (hb : i.1 = 14 → ∃ t, i.2.1 = nI t ∧ s ≤ t ∧ t ≤ n) : f_Mo_isDeep_L35 (N + 1) g (nI u) (nI sz) (nI (n - s)) = (if 64 < d - yo_t i.1 + yo_l i.1 then some (1, g) else f_Mo_isDeep_L35 N (yD_n i s sz n (d - yo_t i.1 + yo_l i.1) g) (nI u) (nI sz) (nI (n + 1 - s))) := by
  obtain ⟨c1, c2, c3, c4⟩ := id C
  have hl : yo_l i.1 ≤ 1 := by
    have key : ∀ o : Fin 19, yo_l o.1 ≤ 1 := by decide
    exact key ⟨i.1, ho⟩
  have m1 : (g.2.1 104) n = nI i.1 := m.1
  have hi : i.1 < 2147483648 := by omega
  have ne : ∀ k : Nat, k < 19 → ¬ i.1 = k → ¬ nI i.1 = (OfNat.ofNat k : Int32) := fun k hk z q => z ((zc_eq (k := k) (by omega) hi).mp q)
  have e126 : ∀ (g2 : zs_H), (∀ a, ¬ a = 112 → g2.2.1 a = g.2.1 a) → f_Mo_isDeep_126 (f_Mo_isDeep_L35 N) g2 (nI u) (nI sz) (nI (n - s)) (nI (d - yo_t i.1 + yo_l i.1)) = f_Mo_isDeep_L35 N (match yD_t i s sz with | some t => zs_uM g2 112 (t - s) (nI (d - yo_t i.1 + yo_l i.1)) | none => g2) (nI u) (nI sz) (nI (n + 1 - s)) := by
    intro g2 f2
    have C2 : yD_c u s sz g2 := ⟨c1, c2, by rw [f2 _ (by decide)]; exact c3, by rw [f2 _ (by decide)]; exact c4⟩
    have m2 : yM_m s g2 n (i, lv) := by
      unfold yM_m at m ⊢
      rw [f2 _ (by decide), f2 _ (by decide), f2 _ (by decide), f2 _ (by decide), f2 _ (by decide)]
      exact m
    obtain ⟨v2, e1, e2⟩ := yD_tg (lv := lv) hs hn C2 m2 ho ha hb
    unfold f_Mo_isDeep_126 f_Mo_isDeep_149
    rw [e1, Option.bind_some, show nI (n - s) + 1 = nI (n + 1 - s) by rw [show nI (n - s) + 1 = nI (n - s + 1) from zc_ad 1 (n - s), show n - s + 1 = n + 1 - s by omega]]
    cases hT : yD_t i s sz with
    | none =>
      rw [hT] at e2
      rw [if_pos e2]
    | some t =>
      rw [hT] at e2
      obtain ⟨t1, t2, t3⟩ := e2
      rw [t3, if_neg (mt (nI_leI (by omega) (by omega)).mp (by omega)), if_pos (zi_in (by omega) (by omega)), nI_clamp (by omega)]
  show f_Mo_isDeep_35 (f_Mo_isDeep_L35 N) g (nI u) (nI sz) (nI (n - s)) = _
  unfold f_Mo_isDeep_35
  simp only [if_neg (mt (nI_leI (show sz < 2147483648 by omega) (show n - s < 2147483648 by omega)).mp (by omega)), if_pos (zi_in (show u < 2147483648 by omega) (show u < 17 by omega)), nI_clamp (show u < 2147483648 by omega), c3, nI_add, show s + (n - s) = n by omega, if_pos (zi_in (show n < 2147483648 by omega) (show n < 4000 by omega)), nI_clamp (show n < 2147483648 by omega), if_pos (zi_in (show n - s < 2147483648 by omega) (show n - s < 4001 by omega)), nI_clamp (show n - s < 2147483648 by omega), r, if_neg (mt (zc_tl (k := 0) (by decide) (show d < 2147483648 by omega)).mp (Nat.not_lt_zero d)), m1, if_pos (zi_in hi ho), nI_clamp hi, yD_ri ho ht, show nI (n - s) + 1 = nI (n - s + 1) from zc_ad 1 (n - s), if_pos (zi_in (show n - s + 1 < 2147483648 by omega) (show n - s + 1 < 4001 by omega)), nI_clamp (show n - s + 1 < 2147483648 by omega)]
  by_cases z : 64 < d - yo_t i.1 + yo_l i.1
  · rw [if_neg (mt (zc_el (k := 64) (by decide) (by omega)).mp (by omega)), if_pos z]
  rw [if_pos ((zc_el (k := 64) (by decide) (by omega)).mpr (by omega)), if_neg z]
  unfold yD_n
  by_cases z10 : i.1 = 10
  · rw [if_pos (by rw [z10]; rfl), e126 g (fun _ _ => rfl), if_pos (.inl z10)]
  rw [if_neg (ne 10 (by decide) z10)]
  by_cases z14 : i.1 = 14
  · rw [if_pos (by rw [z14]; rfl), e126 g (fun _ _ => rfl), if_pos (.inr (.inl z14))]
  rw [if_neg (ne 14 (by decide) z14)]
  by_cases z18 : i.1 = 18
  · rw [if_pos (by rw [z18]; rfl), e126 g (fun _ _ => rfl), if_pos (.inr (.inr z18))]
  rw [if_neg (ne 18 (by decide) z18), if_neg (show ¬ (i.1 = 10 ∨ i.1 = 14 ∨ i.1 = 18) by omega), show n - s + 1 = n + 1 - s by omega]
  exact e126 _ (fun a ha => by funext j; exact zu_MM.trans (if_neg fun z => ha z.1))
end YDM
