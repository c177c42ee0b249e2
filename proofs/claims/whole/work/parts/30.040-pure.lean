section
/-! The prover: how high the stack is: the model. -/
def yD_v (b : Bool) : Int32 := if b = true then nI 0 else -1
/-- only depths change: at lo .. hi, at q, at the end -/
def yD_fr (s sz lo hi q : Nat) (g g' : zs_H) : Prop := g'.1 = g.1 ∧ g'.2.2 = g.2.2 ∧ (∀ a, ¬ a = 112 → g'.2.1 a = g.2.1 a) ∧ ∀ j, s ≤ j → j < s + sz → (j < lo ∨ hi < j) → ¬ j = q → g'.2.1 112 (j - s) = g.2.1 112 (j - s)
section YDM
variable {g g' g1 g2 : zs_H} {s sz u n lo hi q N d : Nat} {i : yI} {lv : Nat}
theorem yD_fr0 : yD_fr s sz lo hi q g g := ⟨rfl, rfl, fun _ _ => rfl, fun _ _ _ _ _ => rfl⟩
theorem yD_frt {lo1 hi1 q1 lo2 hi2 q2 : Nat} (a : yD_fr s sz lo1 hi1 q1 g g1) (b : yD_fr s sz lo2 hi2 q2 g1 g2) (l1 : lo ≤ lo1 ∧ hi1 ≤ hi) (l2 : lo ≤ lo2 ∧ hi2 ≤ hi) (l3 : q1 = q ∨ (lo ≤ q1 ∧ q1 ≤ hi)) (l4 : q2 = q ∨ (lo ≤ q2 ∧ q2 ≤ hi)) : yD_fr s sz lo hi q g g2 := by
  refine ⟨b.1.trans a.1, b.2.1.trans a.2.1, fun x hx => (b.2.2.1 x hx).trans (a.2.2.1 x hx), fun j j1 j2 j3 j4 => ?_⟩
  exact (b.2.2.2 j j1 j2 (by omega) (by omega)).trans (a.2.2.2 j j1 j2 (by omega) (by omega))
theorem yD_Kf {L : List yJ} (f : yD_fr s sz lo hi q g g') (K : yQ_K g s n L) : yQ_K g' s n L := by
  intro k i e
  have z := K k i e
  unfold yM_m at z ⊢
  rw [f.2.2.1 _ (by decide), f.2.2.1 _ (by decide), f.2.2.1 _ (by decide), f.2.2.1 _ (by decide), f.2.2.1 _ (by decide)]
  exact z
theorem yD_set {t : Nat} {x : Int32} (hs : s ≤ t) (h1 : lo ≤ t ∧ t ≤ hi ∨ t = q ∨ s + sz ≤ t) : yD_fr s sz lo hi q g (zs_uM g 112 (t - s) x) := ⟨rfl, rfl, fun a ha => by funext j; exact zu_MM.trans (if_neg fun z => ha z.1), fun j j1 j2 j3 j4 => zu_MM.trans (if_neg fun z => by have := z.2; omega)⟩
/-- where a unit lies -/
def yD_c (u s sz : Nat) (g : zs_H) : Prop := u < 16 ∧ s + sz ≤ 4000 ∧ (g.2.1 103) u = nI s ∧ (g.2.1 103) (u + 1) = nI (s + sz)
theorem yD_cf (f : yD_fr s sz lo hi q g g') (c : yD_c u s sz g) : yD_c u s sz g' := ⟨c.1, c.2.1, by rw [f.2.2.1 _ (by decide)]; exact c.2.2.1, by rw [f.2.2.1 _ (by decide)]; exact c.2.2.2⟩
theorem yD_s0 (hs : s ≤ n) (hn : n < s + sz) (C : yD_c u s sz g) (r : g.2.1 112 (n - s) = -1) : f_Mo_isDeep_L35 (N + 1) g (nI u) (nI sz) (nI (n - s)) = f_Mo_isDeep_L35 N g (nI u) (nI sz) (nI (n + 1 - s)) := by
  obtain ⟨c1, c2, c3, c4⟩ := C
  show f_Mo_isDeep_35 (f_Mo_isDeep_L35 N) g (nI u) (nI sz) (nI (n - s)) = _
  unfold f_Mo_isDeep_35 f_Mo_isDeep_149
  simp only [if_neg (mt (nI_leI (show sz < 2147483648 by omega) (show n - s < 2147483648 by omega)).mp (by omega)), if_pos (zi_in (show u < 2147483648 by omega) (show u < 17 by omega)), nI_clamp (show u < 2147483648 by omega), c3, nI_add, show s + (n - s) = n by omega, if_pos (zi_in (show n < 2147483648 by omega) (show n < 4000 by omega)), if_pos (zi_in (show n - s < 2147483648 by omega) (show n - s < 4001 by omega)), nI_clamp (show n - s < 2147483648 by omega), r, if_pos (show (-1 : Int32) < 0 by decide), show nI (n - s) + 1 = nI (n - s + 1) from zc_ad 1 (n - s), show n - s + 1 = n + 1 - s by omega]
/-- the target of a jump forward -/
def yD_t (i : yI) (s sz : Nat) : Option Nat := if i.1 = 10 ∨ i.1 = 11 ∨ i.1 = 13 then some (i.2.1.toNatClampNeg) else if i.1 = 18 then some (s + sz) else none
theorem yD_tg (hs : s ≤ n) (hn : n < s + sz) (C : yD_c u s sz g) (m : yM_m s g n (i, lv)) (ho : i.1 < 19) (ha : i.1 = 10 ∨ i.1 = 11 ∨ i.1 = 13 → ∃ t, i.2.1 = nI t ∧ n < t ∧ t ≤ s + sz) (hb : i.1 = 14 → ∃ t, i.2.1 = nI t ∧ s ≤ t ∧ t ≤ n) : ∃ v2, f_Mo_target g (nI u) (nI (n - s)) = some v2 ∧ (match yD_t i s sz with | some t => n < t ∧ t ≤ s + sz ∧ v2 = nI (t - s) | none => v2 ≤ nI (n - s)) := by
  obtain ⟨c1, c2, c3, c4⟩ := C
  have m1 : (g.2.1 104) n = nI i.1 := m.1
  have m2 : (g.2.1 105) n = yM_A s i := m.2.1
  have m3 : (g.2.1 106) n = yM_B s i := m.2.2.1
  have hi : i.1 < 2147483648 := by omega
  have ne : ∀ k : Nat, k < 19 → ¬ i.1 = k → ¬ nI i.1 = (OfNat.ofNat k : Int32) := fun k hk z q => z ((zc_eq (k := k) (by omega) hi).mp q)
  unfold f_Mo_target f_Mo_sizeOf
  simp only [if_pos (zi_in (show u < 2147483648 by omega) (show u < 17 by omega)), nI_clamp (show u < 2147483648 by omega), c3, nI_add, show s + (n - s) = n by omega, if_pos (zi_in (show n < 2147483648 by omega) (show n < 4000 by omega)), nI_clamp (show n < 2147483648 by omega), m1, show nI u + 1 = nI (u + 1) from zc_ad 1 u, if_pos (zi_in (show u + 1 < 2147483648 by omega) (show u + 1 < 17 by omega)), nI_clamp (show u + 1 < 2147483648 by omega), c4, show nI (s + sz) - nI s = nI sz by rw [zi_sub (by omega), Nat.add_sub_cancel_left], Option.bind_some]
  by_cases z10 : i.1 = 10
  · obtain ⟨t, t1, t2, t3⟩ := ha (.inl z10)
    rw [if_pos (by rw [z10]; rfl), m2]
    have ea : yM_A s i = nI (t - s) := by unfold yM_A; rw [if_pos (.inl z10), t1, zi_sub (by omega)]
    have et : yD_t i s sz = some t := by unfold yD_t; rw [if_pos (.inl z10), t1, nI_clamp (by omega)]
    rw [et, ea]
    exact ⟨_, rfl, t2, t3, rfl⟩
  rw [if_neg (ne 10 (by decide) z10)]
  by_cases z11 : i.1 = 11
  · obtain ⟨t, t1, t2, t3⟩ := ha (.inr (.inl z11))
    rw [if_pos (by rw [z11]; rfl), m2]
    have ea : yM_A s i = nI (t - s) := by unfold yM_A; rw [if_pos (.inr (.inl z11)), t1, zi_sub (by omega)]
    have et : yD_t i s sz = some t := by unfold yD_t; rw [if_pos (.inr (.inl z11)), t1, nI_clamp (by omega)]
    rw [et, ea]
    exact ⟨_, rfl, t2, t3, rfl⟩
  rw [if_neg (ne 11 (by decide) z11)]
  by_cases z13 : i.1 = 13
  · obtain ⟨t, t1, t2, t3⟩ := ha (.inr (.inr z13))
    rw [if_pos (by rw [z13]; rfl), m3]
    have ea : yM_B s i = nI (t - s) := by unfold yM_B; rw [if_pos z13, t1, zi_sub (by omega)]
    have et : yD_t i s sz = some t := by unfold yD_t; rw [if_pos (.inr (.inr z13)), t1, nI_clamp (by omega)]
    rw [et, ea]
    exact ⟨_, rfl, t2, t3, rfl⟩
  rw [if_neg (ne 13 (by decide) z13)]
  by_cases z14 : i.1 = 14
  · obtain ⟨t, t1, t2, t3⟩ := hb z14
    rw [if_pos (by rw [z14]; rfl), m2]
    have ea : yM_A s i = nI (t - s) := by unfold yM_A; rw [if_pos (.inr (.inr z14)), t1, zi_sub (by omega)]
    have et : yD_t i s sz = none := by unfold yD_t; rw [if_neg (by omega), if_neg (by omega)]
    rw [et, ea]
    exact ⟨_, rfl, (nI_leI (by omega) (by omega)).mpr (by omega)⟩
  rw [if_neg (ne 14 (by decide) z14)]
  by_cases z18 : i.1 = 18
  · rw [if_pos (by rw [z18]; rfl)]
    have et : yD_t i s sz = some (s + sz) := by unfold yD_t; rw [if_neg (by omega), if_pos z18]
    rw [et]
    exact ⟨_, rfl, hn, Nat.le_refl _, by rw [Nat.add_sub_cancel_left]⟩
  · rw [if_neg (ne 18 (by decide) z18)]
    have et : yD_t i s sz = none := by unfold yD_t; rw [if_neg (by omega), if_neg z18]
    rw [et]
    exact ⟨_, rfl, Int32.le_of_lt (Int32.lt_of_lt_of_le (show (-1 : Int32) < 0 by decide) ((zc_le (k := 0) (by decide) (by omega)).mpr (Nat.zero_le _)))⟩
theorem yD_ri {o d : Nat} (ho : o < 19) (h : yo_t o ≤ d) : nI d - zt_6.getD o 0 + zt_7.getD o 0 = nI (d - yo_t o + yo_l o) := by
  have key : ∀ o : Fin 19, zt_6.getD o.1 0 = nI (yo_t o.1) ∧ zt_7.getD o.1 0 = nI (yo_l o.1) := by decide
  rw [(key ⟨o, ho⟩).1, (key ⟨o, ho⟩).2, zi_sub h, nI_add]
/-- what one instruction that has been come to changes -/
def yD_n (i : yI) (s sz n d : Nat) (g : zs_H) : zs_H := (match yD_t i s sz with | some t => zs_uM (if i.1 = 10 ∨ i.1 = 14 ∨ i.1 = 18 then g else zs_uM g 112 (n + 1 - s) (nI d)) 112 (t - s) (nI d) | none => if i.1 = 10 ∨ i.1 = 14 ∨ i.1 = 18 then g else zs_uM g 112 (n + 1 - s) (nI d))
theorem yD_s1 (hs : s ≤ n) (hn : n < s + sz) (hd : d < 100000) (C : yD_c u s sz g) (m : yM_m s g n (i, lv)) (ho : i.1 < 19) (ht : yo_t i.1 ≤ d) (r : g.2.1 112 (n - s) = nI d) (ha : i.1 = 10 ∨ i.1 = 11 ∨ i.1 = 13 → ∃ t, i.2.1 = nI t ∧ n < t ∧ t ≤ s + sz) (hb : i.1 = 14 → ∃ t, i.2.1 = nI t ∧ s ≤ t ∧ t ≤ n) : f_Mo_isDeep_L35 (N + 1) g (nI u) (nI sz) (nI (n - s)) = (if 64 < d - yo_t i.1 + yo_l i.1 then some (1, g) else f_Mo_isDeep_L35 N (yD_n i s sz n (d - yo_t i.1 + yo_l i.1) g) (nI u) (nI sz) (nI (n + 1 - s))) := by
  obtain ⟨c1, c2, c3, c4⟩ := id C
  have hl : yo_l i.1 ≤ 1 := by
    have key : ∀ o : Fin 19, yo_l o.1 ≤ 1 := by decide
    exact key ⟨i.1, ho⟩
  have m1 : (g.2.1 104) n = nI i.1 := m.1
  have hi : i.1 < 2147483648 := by omega
  have ne : ∀ k : Nat, k < 19 → ¬ i.1 = k → ¬ nI i.1 = (OfNat.ofNat k : Int32) := fun k hk z q => z ((zc_eq (k := k) (by omega) hi).mp q)
  have e126 : ∀ (g2 : zs_H), (∀ a, ¬ a = 112 → g2.2.1 a = g.2.1 a) → f_Mo_isDeep_126 (f_Mo_isDeep_L35 N) g2 (nI u) (nI sz) (nI (n - s)) (nI (d - yo_t i.1 + yo_l i.1)) = f_Mo_isDeep_L35 N (match yD_t i s sz with | some t => zs_uM g2 112 (t - s) (nI (d - yo_t i.1 + yo_l i.1)) | none => g2) (nI u) (nI sz) (nI (n + 1 - s)) := by
    intro g2 f2
    have C2 : yD_c u s sz g2 := ⟨c1, c2, by rw [f2 _ (by decide)]; exact c3, by rw [f2 _ (by decide)]; exact c4⟩
    have m2 : yM_m s g2 n (i, lv) := by
      unfold yM_m at m ⊢
      rw [f2 _ (by decide), f2 _ (by decide), f2 _ (by decide), f2 _ (by decide), f2 _ (by decide)]
      exact m
    obtain ⟨v2, e1, e2⟩ := yD_tg (lv := lv) hs hn C2 m2 ho ha hb
    unfold f_Mo_isDeep_126 f_Mo_isDeep_149
    rw [e1, Option.bind_some, show nI (n - s) + 1 = nI (n + 1 - s) by rw [show nI (n - s) + 1 = nI (n - s + 1) from zc_ad 1 (n - s), show n - s + 1 = n + 1 - s by omega]]
    cases hT : yD_t i s sz with
    | none =>
      rw [hT] at e2
      rw [if_pos e2]
    | some t =>
      rw [hT] at e2
      obtain ⟨t1, t2, t3⟩ := e2
      rw [t3, if_neg (mt (nI_leI (by omega) (by omega)).mp (by omega)), if_pos (zi_in (by omega) (by omega)), nI_clamp (by omega)]
  show f_Mo_isDeep_35 (f_Mo_isDeep_L35 N) g (nI u) (nI sz) (nI (n - s)) = _
  unfold f_Mo_isDeep_35
  simp only [if_neg (mt (nI_leI (show sz < 2147483648 by omega) (show n - s < 2147483648 by omega)).mp (by omega)), if_pos (zi_in (show u < 2147483648 by omega) (show u < 17 by omega)), nI_clamp (show u < 2147483648 by omega), c3, nI_add, show s + (n - s) = n by omega, if_pos (zi_in (show n < 2147483648 by omega) (show n < 4000 by omega)), nI_clamp (show n < 2147483648 by omega), if_pos (zi_in (show n - s < 2147483648 by omega) (show n - s < 4001 by omega)), nI_clamp (show n - s < 2147483648 by omega), r, if_neg (mt (zc_tl (k := 0) (by decide) (show d < 2147483648 by omega)).mp (Nat.not_lt_zero d)), m1, if_pos (zi_in hi ho), nI_clamp hi, yD_ri ho ht, show nI (n - s) + 1 = nI (n - s + 1) from zc_ad 1 (n - s), if_pos (zi_in (show n - s + 1 < 2147483648 by omega) (show n - s + 1 < 4001 by omega)), nI_clamp (show n - s + 1 < 2147483648 by omega)]
  by_cases z : 64 < d - yo_t i.1 + yo_l i.1
  · rw [if_neg (mt (zc_el (k := 64) (by decide) (by omega)).mp (by omega)), if_pos z]
  rw [if_pos ((zc_el (k := 64) (by decide) (by omega)).mpr (by omega)), if_neg z]
  unfold yD_n
  by_cases z10 : i.1 = 10
  · rw [if_pos (by rw [z10]; rfl), e126 g (fun _ _ => rfl), if_pos (.inl z10)]
  rw [if_neg (ne 10 (by decide) z10)]
  by_cases z14 : i.1 = 14
  · rw [if_pos (by rw [z14]; rfl), e126 g (fun _ _ => rfl), if_pos (.inr (.inl z14))]
  rw [if_neg (ne 14 (by decide) z14)]
  by_cases z18 : i.1 = 18
  · rw [if_pos (by rw [z18]; rfl), e126 g (fun _ _ => rfl), if_pos (.inr (.inr z18))]
  rw [if_neg (ne 18 (by decide) z18), if_neg (show ¬ (i.1 = 10 ∨ i.1 = 14 ∨ i.1 = 18) by omega), show n - s + 1 = n + 1 - s by omega]
  exact e126 _ (fun a ha => by funext j; exact zu_MM.trans (if_neg fun z => ha z.1))
end YDM
end
section
/-! The prover: how high the stack is: the model, by T. -/
def yD_O (u s sz : Nat) (g : zs_H) (n len v q qf : Nat) (x D R : Bool) : Prop := (D = true ∧ ∃ g', (∀ N, f_Mo_isDeep_L35 (N + len) g (nI u) (nI sz) (nI (n - s)) = some (1, g')) ∧ zfr [] [112] [] g g') ∨ (D = false ∧ ∃ g', (∀ N, f_Mo_isDeep_L35 (N + len) g (nI u) (nI sz) (nI (n - s)) = f_Mo_isDeep_L35 N g' (nI u) (nI sz) (nI (n + len - s))) ∧ (n + len < s + sz → ∀ y, g.2.1 112 (n + len - s) = yD_v y → g'.2.1 112 (n + len - s) = yD_v (y || R)) ∧ (0 < v → q < s + sz → ∀ y, g.2.1 112 (q - s) = yD_v y → ∃ z, (z = true → x = true) ∧ g'.2.1 112 (q - s) = yD_v (y || z)) ∧ yD_fr s sz n (n + len) qf g g')
def yD_V (X Y : Nat → Nat) (kb : Nat → yK) (b u s sz : Nat) (T : ys) : Prop := ∀ (m n v q qf e lo : Nat) (x : Bool) (g : zs_H), ((m = 0 ∧ yz_st T) ∨ (m = 1 ∧ yz_br T)) → yz_W X Y kb b T lo → s ≤ n → n + yz_l T ≤ s + sz → yD_c u s sz g → yQ_K g s n (yz_c T n v q e) → (v = 0 → yz_x T n = []) → ((0 < v ∧ qf = q ∧ n + yz_l T < q ∧ q ≤ s + sz) ∨ (v = 0 ∧ qf ≤ n)) → (m = 1 → e = n + yz_l T) → (n < s + sz → g.2.1 112 (n - s) = yD_v x) → (∀ j, n < j → j < n + yz_l T → g.2.1 112 (j - s) = -1) → yD_O u s sz g n (yz_l T) v q qf x (yH_D T x) (yH_r T x)
section YDN
variable {X Y : Nat → Nat} {kb : Nat → yK} {b u s sz : Nat} {g : zs_H} {m n hd v q qf e lo : Nat} {x D R : Bool} {p : List yI × Int32 × Int32} {o : Unit} {l r : ys}
theorem yD_z {g g' : zs_H} {lo hi q : Nat} (f : yD_fr s sz lo hi q g g') : zfr [] [112] [] g g' := ⟨fun _ _ _ => by rw [f.1], fun a ha => f.2.2.1 a (by simpa using ha), fun _ _ => by rw [f.2.1]⟩
theorem yD_vi {x y : Bool} (h : x = true → y = true) (z : Bool) : yD_v (z || y || x) = yD_v (z || y) := by
  cases x <;> cases y <;> cases z <;> first | rfl | exact absurd (h rfl) (by decide)
theorem yD_seq (ihr : yD_V X Y kb b u s sz r) (A : yD_O u s sz g n hd v q qf x D R) (hr : (m = 0 ∧ yz_st r) ∨ (m = 1 ∧ yz_br r)) (W : yz_W X Y kb b r lo) (hs : s ≤ n) (hn : n + (hd + yz_l r) ≤ s + sz) (C : yD_c u s sz g) (K : yQ_K g s (n + hd) (yz_c r (n + hd) v q e)) (hx : v = 0 → yz_x r (n + hd) = []) (hq : (0 < v ∧ qf = q ∧ n + (hd + yz_l r) < q ∧ q ≤ s + sz) ∨ (v = 0 ∧ qf ≤ n)) (he : m = 1 → e = n + (hd + yz_l r)) (rn : n < s + sz → g.2.1 112 (n - s) = yD_v x) (z0 : ∀ j, n < j → j < n + (hd + yz_l r) → g.2.1 112 (j - s) = -1) (hR : R = true → x = true) (h0 : hd = 0 → R = x) : yD_O u s sz g n (hd + yz_l r) v q qf x (D || yH_D r R) (yH_r r R) := by
  rcases A with ⟨d1, g1, a1, a2⟩ | ⟨d1, g1, a1, a4, a5, a6⟩
  · refine .inl ⟨by rw [d1]; rfl, g1, fun N => ?_, a2⟩
    rw [show N + (hd + yz_l r) = (N + yz_l r) + hd by omega]
    exact a1 _
  · rw [d1, Bool.false_or]
    by_cases lz : yz_l r = 0
    · obtain ⟨i1, i2⟩ := yH_z r R lz
      rw [lz, Nat.add_zero, i1, i2]
      exact .inr ⟨rfl, g1, a1, a4, a5, a6⟩
    · have r1 : g1.2.1 112 (n + hd - s) = yD_v R := by
        by_cases z : hd = 0
        · subst z
          have := a4 (by omega) x (rn (by omega))
          rw [h0 rfl, Bool.or_self] at this
          rw [h0 rfl]; exact this
        · have := a4 (by omega) false (z0 (n + hd) (by omega) (by omega))
          rwa [Bool.false_or] at this
      have z1 : ∀ j, n + hd < j → j < n + hd + yz_l r → g1.2.1 112 (j - s) = -1 := fun j j1 j2 => (a6.2.2.2 j (by omega) (by omega) (by omega) (by omega)).trans (z0 j (by omega) (by omega))
      rcases ihr m (n + hd) v q qf e lo R g1 hr W (by omega) (by omega) (yD_cf a6 C) (yD_Kf a6 K) hx (by omega) (fun z => by have := he z; omega) (fun _ => r1) z1 with ⟨d2, g2, b1, b2⟩ | ⟨d2, g2, b1, b4, b5, b6⟩
      · refine .inl ⟨d2, g2, fun N => ?_, zfr_trans (yD_z a6) b2⟩
        rw [show N + (hd + yz_l r) = (N + yz_l r) + hd by omega, a1]
        exact b1 N
      · refine .inr ⟨d2, g2, fun N => ?_, fun hl y hy => ?_, fun hv hq2 y hy => ?_, yD_frt a6 b6 (by omega) (by omega) (.inl rfl) (.inl rfl)⟩
        · rw [show N + (hd + yz_l r) = (N + yz_l r) + hd by omega, a1, b1, show n + hd + yz_l r = n + (hd + yz_l r) by omega]
        · rw [show n + (hd + yz_l r) = n + hd + yz_l r by omega] at hy ⊢
          refine b4 (by omega) y ?_
          rw [a6.2.2.2 _ (by omega) (by omega) (by omega) (by omega)]; exact hy
        · obtain ⟨w1, c1, c2⟩ := a5 hv hq2 y hy
          obtain ⟨w2, c3, c4⟩ := b5 hv hq2 _ c2
          exact ⟨w1 || w2, fun z => by rw [Bool.or_eq_true] at z; exact z.elim c1 (fun z => hR (c3 z)), by rw [← Bool.or_assoc]; exact c4⟩
/-- one instruction -/
theorem yD_one {i : yI} {lv d : Nat} (hs : s ≤ n) (hn : n < s + sz) (hd : d ≤ 5000) (C : yD_c u s sz g) (mm : yM_m s g n (i, lv)) (ho : i.1 < 19) (ht : yo_t i.1 ≤ d) (hl : d - yo_t i.1 + yo_l i.1 ≤ 64) (r : g.2.1 112 (n - s) = if x = true then nI d else -1) (ha : i.1 = 10 ∨ i.1 = 11 ∨ i.1 = 13 → ∃ t, i.2.1 = nI t ∧ n < t ∧ t ≤ s + sz) (hb : i.1 = 14 → ∃ t, i.2.1 = nI t ∧ s ≤ t ∧ t ≤ n) : ∃ g', (∀ N, f_Mo_isDeep_L35 (N + 1) g (nI u) (nI sz) (nI (n - s)) = f_Mo_isDeep_L35 N g' (nI u) (nI sz) (nI (n + 1 - s))) ∧ g' = (if x = true then yD_n i s sz n (d - yo_t i.1 + yo_l i.1) g else g) := by
  cases x with
  | false => exact ⟨g, fun N => yD_s0 hs hn C r, rfl⟩
  | true =>
    refine ⟨_, fun N => ?_, rfl⟩
    rw [yD_s1 hs hn (by omega) C mm ho ht r ha hb, if_neg (by omega)]
    rfl
theorem yD_skip : ∀ (k n : Nat) (g : zs_H), s ≤ n → n + k ≤ s + sz → yD_c u s sz g → (∀ j, n ≤ j → j < n + k → g.2.1 112 (j - s) = -1) → ∀ N, f_Mo_isDeep_L35 (N + k) g (nI u) (nI sz) (nI (n - s)) = f_Mo_isDeep_L35 N g (nI u) (nI sz) (nI (n + k - s)) := by
  intro k
  induction k with
  | zero => intro n g _ _ _ _ N; rfl
  | succ k ih =>
    intro n g hs hn C r N
    rw [show N + (k + 1) = (N + k) + 1 by omega, yD_s0 hs (by omega) C (r n (Nat.le_refl _) (by omega)), ih (n + 1) g (by omega) (by omega) C (fun j j1 j2 => r j (by omega) (by omega)) N, show n + 1 + k = n + (k + 1) by omega]
theorem yD_strT {lv bb : Nat} : ∀ (L : List yI) (n d d2 : Nat) (g : zs_H), s ≤ n → n + L.length ≤ s + sz → d + L.length ≤ 5000 → yD_c u s sz g → yo_h d L = some d2 → (∀ i, i ∈ L → yP_o bb i) → yQ_K g s n (yv lv L) → (n < s + sz → g.2.1 112 (n - s) = nI d) → (yH_d d L = true ∧ ∃ g', (∀ N, f_Mo_isDeep_L35 (N + L.length) g (nI u) (nI sz) (nI (n - s)) = some (1, g')) ∧ zfr [] [112] [] g g') ∨ (yH_d d L = false ∧ ∃ g', (∀ N, f_Mo_isDeep_L35 (N + L.length) g (nI u) (nI sz) (nI (n - s)) = f_Mo_isDeep_L35 N g' (nI u) (nI sz) (nI (n + L.length - s))) ∧ (n + L.length < s + sz → g'.2.1 112 (n + L.length - s) = nI d2) ∧ yD_fr s sz n (n + L.length) n g g') := by
  intro L
  induction L with
  | nil =>
    intro n d d2 g _ _ _ _ e _ _ r
    have e' : d = d2 := Option.some.inj e
    subst e'
    exact .inr ⟨rfl, g, fun _ => rfl, r, yD_fr0⟩
  | cons i L ih =>
    intro n d d2 g hs hn hd C e ho K r
    have el : n + (i :: L).length = n + 1 + L.length := by rw [List.length_cons]; omega
    have ll : (i :: L).length = L.length + 1 := rfl
    rw [el] at hn ⊢
    have oi := ho i (List.mem_cons_self ..)
    have o19 : i.1 < 19 := by have := oi.1; omega
    have ht : yo_t i.1 ≤ d := by
      rcases Nat.lt_or_ge d (yo_t i.1) with z | z
      · rw [yo_h, if_neg (by omega)] at e; cases e
      · exact z
    have e' : yo_h (d - yo_t i.1 + yo_l i.1) L = some d2 := by rw [yo_h, if_pos ht] at e; exact e
    have hl : yo_l i.1 ≤ 1 := by
      have key : ∀ o : Fin 19, yo_l o.1 ≤ 1 := by decide
      exact key ⟨i.1, o19⟩
    have mm : yM_m s g n (i, lv) := K 0 (i, lv) rfl
    have Kr : yQ_K g s (n + 1) (yv lv L) := yQ_Kr (L1 := [(i, lv)]) K
    have rr' : g.2.1 112 (n - s) = nI d := r (by omega)
    have st := fun N => yD_s1 (N := N) hs (show n < s + sz by omega) (show d < 100000 by omega) C mm o19 ht rr' (fun z => by have := oi.1; omega) (fun z => by have := oi.1; omega)
    have en : yD_n i s sz n (d - yo_t i.1 + yo_l i.1) g = zs_uM g 112 (n + 1 - s) (nI (d - yo_t i.1 + yo_l i.1)) := by
      unfold yD_n
      have : yD_t i s sz = none := by unfold yD_t; rw [if_neg (by have := oi.1; omega), if_neg (by have := oi.1; omega)]
      rw [this]
      exact if_neg (by have := oi.1; omega)
    by_cases z : 64 < d - yo_t i.1 + yo_l i.1
    · refine .inl ⟨by rw [yH_d, decide_eq_true z]; rfl, g, fun N => ?_, zfr_rfl⟩
      rw [ll, show N + (L.length + 1) = (N + L.length) + 1 by omega, st, if_pos z]
    · obtain ⟨g1, e1⟩ : ∃ g1, g1 = zs_uM g 112 (n + 1 - s) (nI (d - yo_t i.1 + yo_l i.1)) := ⟨_, rfl⟩
      have f1 : yD_fr s sz n (n + 1 + L.length) n g g1 := by rw [e1]; exact yD_set (by omega) (.inl (by omega))
      rw [yH_d, decide_eq_false z, Bool.false_or]
      rcases ih (n + 1) (d - yo_t i.1 + yo_l i.1) d2 g1 (by omega) hn (by omega) (yD_cf f1 C) e' (fun j hj => ho j (List.mem_cons_of_mem _ hj)) (yD_Kf f1 Kr) (fun _ => by rw [e1]; exact zu_MM.trans (if_pos ⟨rfl, rfl⟩)) with ⟨w, g', a1, a2⟩ | ⟨w, g', a1, a2, a4⟩
      · refine .inl ⟨w, g', fun N => ?_, zfr_trans (yD_z f1) a2⟩
        rw [ll, show N + (L.length + 1) = (N + L.length) + 1 by omega, st, if_neg z, en, ← e1]
        exact a1 N
      · refine .inr ⟨w, g', fun N => ?_, a2, yD_frt f1 a4 (by omega) (by omega) (by omega) (by omega)⟩
        rw [ll, show N + (L.length + 1) = (N + L.length) + 1 by omega, st, if_neg z, en, ← e1]
        exact a1 N
theorem yD_str {lv bb : Nat} {L : List yI} {d2 : Nat} (hs : s ≤ n) (hn : n + L.length ≤ s + sz) (hd : L.length ≤ 5000) (C : yD_c u s sz g) (e : yo_h 0 L = some d2) (ho : ∀ i, i ∈ L → yP_o bb i) (K : yQ_K g s n (yv lv L)) (r : n < s + sz → g.2.1 112 (n - s) = yD_v x) (r0 : ∀ j, n < j → j < n + L.length → g.2.1 112 (j - s) = -1) : ((x && yH_d 0 L) = true ∧ ∃ g', (∀ N, f_Mo_isDeep_L35 (N + L.length) g (nI u) (nI sz) (nI (n - s)) = some (1, g')) ∧ zfr [] [112] [] g g') ∨ ((x && yH_d 0 L) = false ∧ ∃ g', (∀ N, f_Mo_isDeep_L35 (N + L.length) g (nI u) (nI sz) (nI (n - s)) = f_Mo_isDeep_L35 N g' (nI u) (nI sz) (nI (n + L.length - s))) ∧ (x = true → n + L.length < s + sz → g'.2.1 112 (n + L.length - s) = nI d2) ∧ (x = false → g' = g) ∧ yD_fr s sz n (n + L.length) n g g') := by
  cases x with
  | true =>
    rw [Bool.true_and]
    rcases yD_strT L n 0 d2 g hs hn (by omega) C e ho K r with ⟨w, g', a1, a2⟩ | ⟨w, g', a1, a2, a3⟩
    · exact .inl ⟨w, g', a1, a2⟩
    · exact .inr ⟨w, g', a1, fun _ => a2, fun z => (by cases z), a3⟩
  | false =>
    rw [Bool.false_and]
    refine .inr ⟨rfl, g, yD_skip L.length n g hs hn C (fun j j1 j2 => ?_), fun z => (by cases z), fun _ => rfl, yD_fr0⟩
    by_cases z : j = n
    · rw [z]; exact r (by omega)
    · exact r0 j (by omega) j2
theorem yD_V0 (hb : b ≤ 16) (ihr : yD_V X Y kb b u s sz r) : yD_V X Y kb b u s sz (.inner 0 p o l r) := by
  intro m n v q qf e lo x g hm ⟨W1, W2⟩ hs hn C K hx hq he rn z0
  have hr : ((m = 0 ∧ yz_st r) ∨ (m = 1 ∧ yz_br r)) := hm.elim (fun z => .inl ⟨z.1, z.2.2⟩) (fun z => .inr ⟨z.1, z.2.2⟩)
  have c2 := C.2.1
  have K' : yQ_K g s n (yv v p.1 ++ yz_c r (n + p.1.length) v q e) := K
  have Kr := yQ_Kr K'
  rw [yv_len] at Kr
  have hn' : n + (p.1.length + yz_l r) ≤ s + sz := hn
  have hq' : (0 < v ∧ qf = q ∧ n + (p.1.length + yz_l r) < q ∧ q ≤ s + sz) ∨ (v = 0 ∧ qf ≤ n) := hq
  have z0' : ∀ j, n < j → j < n + (p.1.length + yz_l r) → g.2.1 112 (j - s) = -1 := z0
  have A : yD_O u s sz g n p.1.length v q qf x (x && yH_d 0 p.1) x := by
    rcases yD_str (x := x) (d2 := 0) hs (by omega) (by omega) C W1.1 (fun i hi => yP_wo hb (W1.2 i hi)) (yQ_Kl K') rn (fun j j1 j2 => z0' j j1 (by omega)) with ⟨w, g', a1, a2⟩ | ⟨w, g', a1, a2, a3, a4⟩
    · exact .inl ⟨w, g', a1, a2⟩
    · refine .inr ⟨w, g', a1, fun hl y hy => ?_, fun hv hq2 y hy => ⟨false, fun z => (by cases z), by rw [Bool.or_false, a4.2.2.2 q (by omega) hq2 (by omega) (by omega)]; exact hy⟩, yD_frt a4 (yD_fr0 (lo := n) (hi := n) (q := n)) (by omega) (by omega) (by omega) (by omega)⟩
      cases x with
      | true => rw [Bool.or_true]; exact a2 rfl hl
      | false => rw [Bool.or_false, a3 rfl]; exact hy
  exact yD_seq ihr A hr W2 hs hn' C Kr hx hq' he rn z0' id (fun _ => rfl)
theorem yD_V1 (ihl : yD_V X Y kb b u s sz l) (ihr : yD_V X Y kb b u s sz r) : yD_V X Y kb b u s sz (.inner 1 p o l r) := by
  intro m n v q qf e lo x g hm ⟨W1, W2⟩ hs hn C K hx hq he rn z0
  have hr : ((m = 0 ∧ yz_st r) ∨ (m = 1 ∧ yz_br r)) := hm.elim (fun z => .inl ⟨z.1, z.2.2⟩) (fun z => .inr ⟨z.1, z.2.2⟩)
  have W1' : yz_br l ∧ yz_W X Y kb b l lo := W1
  have K' : yQ_K g s n (yz_c l n v q (n + yz_l l) ++ yz_c r (n + yz_l l) v q e) := K
  have Kr := yQ_Kr K'
  rw [yz_len] at Kr
  have hx' : v = 0 → yz_x r (n + yz_l l) = [] ∧ yz_x l n = [] := fun z => List.append_eq_nil_iff.mp (hx z)
  have hn' : n + (yz_l l + yz_l r) ≤ s + sz := hn
  have hq' : (0 < v ∧ qf = q ∧ n + (yz_l l + yz_l r) < q ∧ q ≤ s + sz) ∨ (v = 0 ∧ qf ≤ n) := hq
  have z0' : ∀ j, n < j → j < n + (yz_l l + yz_l r) → g.2.1 112 (j - s) = -1 := z0
  have A := ihl 1 n v q qf (n + yz_l l) lo x g (.inr ⟨rfl, W1'.1⟩) W1'.2 hs (by omega) C (yQ_Kl K') (fun z => (hx' z).2) (by omega) (fun _ => rfl) rn (fun j j1 j2 => z0' j j1 (by omega))
  exact yD_seq ihr A hr W2 hs hn' C Kr (fun z => (hx' z).1) hq' he rn z0' yH_rx (fun z => (yH_z l x z).1)
theorem yD_V6 (ihl : yD_V X Y kb b u s sz l) (ihr : yD_V X Y kb b u s sz r) : yD_V X Y kb b u s sz (.inner 6 p o l r) := by
  intro m n v q qf e lo x g hm ⟨W1, W2⟩ hs hn C K hx hq he rn z0
  have hr : ((m = 0 ∧ yz_st r) ∨ (m = 1 ∧ yz_br r)) := hm.elim (fun z => .inl ⟨z.1, z.2.2⟩) (fun z => .inr ⟨z.1, z.2.2⟩)
  have W1' : yz_st l ∧ yz_W X Y kb b l lo := W1
  have K' : yQ_K g s n (yz_c l n v q 0 ++ yz_c r (n + yz_l l) v q e) := K
  have Kr := yQ_Kr K'
  rw [yz_len] at Kr
  have hx' : v = 0 → yz_x r (n + yz_l l) = [] ∧ yz_x l n = [] := fun z => List.append_eq_nil_iff.mp (hx z)
  have hn' : n + (yz_l l + yz_l r) ≤ s + sz := hn
  have hq' : (0 < v ∧ qf = q ∧ n + (yz_l l + yz_l r) < q ∧ q ≤ s + sz) ∨ (v = 0 ∧ qf ≤ n) := hq
  have z0' : ∀ j, n < j → j < n + (yz_l l + yz_l r) → g.2.1 112 (j - s) = -1 := z0
  have A := ihl 0 n v q qf 0 lo x g (.inl ⟨rfl, W1'.1⟩) W1'.2 hs (by omega) C (yQ_Kl K') (fun z => (hx' z).2) (by omega) (fun z => absurd z (by decide)) rn (fun j j1 j2 => z0' j j1 (by omega))
  exact yD_seq ihr A hr W2 hs hn' C Kr (fun z => (hx' z).1) hq' he rn z0' yH_rx (fun z => (yH_z l x z).1)
theorem yD_if {x : Bool} : yD_v x = if x = true then nI 0 else -1 := rfl
theorem yD_V3 (ihr : yD_V X Y kb b u s sz r) : yD_V X Y kb b u s sz (.inner 3 p o l r) := by
  intro m n v q qf e lo x g hm ⟨W1, W2⟩ hs hn C K hx hq he rn z0
  have hr : ((m = 0 ∧ yz_st r) ∨ (m = 1 ∧ yz_br r)) := hm.elim (fun z => .inl ⟨z.1, z.2.2⟩) (fun z => .inr ⟨z.1, z.2.2⟩)
  have c2 := C.2.1
  have K' : yQ_K g s n ([((10, nI q, 0, 0), v)] ++ yz_c r (n + 1) v q e) := K
  have hx' : v = 0 → yz_x r (n + 1) ++ [n] = [] := hx
  have hv0 : 0 < v := by
    rcases Nat.eq_zero_or_pos v with z | z
    · exact absurd (List.append_eq_nil_iff.mp (hx' z)).2 (by intro y; cases y)
    · exact z
  have hn' : n + (1 + yz_l r) ≤ s + sz := hn
  have hq' : (0 < v ∧ qf = q ∧ n + (1 + yz_l r) < q ∧ q ≤ s + sz) ∨ (v = 0 ∧ qf ≤ n) := hq
  have z0' : ∀ j, n < j → j < n + (1 + yz_l r) → g.2.1 112 (j - s) = -1 := z0
  obtain ⟨g1, a1, a4⟩ := yD_one (d := 0) (x := x) hs (show n < s + sz by omega) (by omega) C (K' 0 _ rfl) (show (10 : Nat) < 19 by decide) (show yo_t 10 ≤ 0 by decide) (show 0 - yo_t 10 + yo_l 10 ≤ 64 by decide) (rn (by omega)) (fun _ => ⟨q, rfl, by omega, by omega⟩) (fun z => absurd z (show ¬ (10 : Nat) = 14 by decide))
  have e1 : g1 = if x = true then zs_uM g 112 (q - s) (nI 0) else g := by
    rw [a4]
    show (if x = true then zs_uM g 112 ((nI q).toNatClampNeg - s) (nI 0) else g) = _
    rw [nI_clamp (by omega)]
  have A : yD_O u s sz g n 1 v q qf x false false := by
    refine .inr ⟨rfl, g1, a1, fun hl y hy => ?_, fun _ _ y hy => ⟨x, id, ?_⟩, ?_⟩
    · rw [Bool.or_false, e1]
      split
      · exact (zu_MM.trans (if_neg fun z => by omega)).trans hy
      · exact hy
    · rw [e1]
      cases x with
      | true => rw [if_pos rfl, Bool.or_true]; exact zu_MM.trans (if_pos ⟨rfl, rfl⟩)
      | false => rw [if_neg (by decide), Bool.or_false]; exact hy
    · rw [e1]
      split
      · exact yD_set (by omega) (.inr (.inl (by omega)))
      · exact yD_fr0
  exact yD_seq ihr A hr W2 hs hn' C (yQ_Kr (L1 := [_]) K') (fun z => by omega) hq' he rn z0' (fun z => by cases z) (fun z => by cases z)
theorem yD_V4 (ihr : yD_V X Y kb b u s sz r) : yD_V X Y kb b u s sz (.inner 4 p o l r) := by
  intro m n v q qf e lo x g hm ⟨W1, W2⟩ hs hn C K hx hq he rn z0
  have hr : ((m = 0 ∧ yz_st r) ∨ (m = 1 ∧ yz_br r)) := hm.elim (fun z => .inl ⟨z.1, z.2.2⟩) (fun z => .inr ⟨z.1, z.2.2⟩)
  have K' : yQ_K g s n ([((18, 0, 0, 0), v)] ++ yz_c r (n + 1) v q e) := K
  have hn' : n + (1 + yz_l r) ≤ s + sz := hn
  have hq' : (0 < v ∧ qf = q ∧ n + (1 + yz_l r) < q ∧ q ≤ s + sz) ∨ (v = 0 ∧ qf ≤ n) := hq
  have z0' : ∀ j, n < j → j < n + (1 + yz_l r) → g.2.1 112 (j - s) = -1 := z0
  obtain ⟨g1, a1, a4⟩ := yD_one (d := 0) (x := x) hs (show n < s + sz by omega) (by omega) C (K' 0 _ rfl) (show (18 : Nat) < 19 by decide) (show yo_t 18 ≤ 0 by decide) (show 0 - yo_t 18 + yo_l 18 ≤ 64 by decide) (rn (by omega)) (fun z => absurd z (show ¬ ((18 : Nat) = 10 ∨ (18 : Nat) = 11 ∨ (18 : Nat) = 13) by decide)) (fun z => absurd z (show ¬ (18 : Nat) = 14 by decide))
  have e1 : g1 = if x = true then zs_uM g 112 (s + sz - s) (nI 0) else g := a4
  have v1 : ∀ j, s ≤ j → j < s + sz → g1.2.1 112 (j - s) = g.2.1 112 (j - s) := fun j j1 j2 => by
    rw [e1]; split
    · exact zu_MM.trans (if_neg fun z => by have := z.2; omega)
    · rfl
  have A : yD_O u s sz g n 1 v q qf x false false := by
    refine .inr ⟨rfl, g1, a1, fun hl y hy => by rw [Bool.or_false, v1 _ (by omega) hl]; exact hy, fun hv hq2 y hy => ⟨false, fun z => (by cases z), by rw [Bool.or_false, v1 q (by omega) hq2]; exact hy⟩, ?_⟩
    rw [e1]; split
    · exact yD_set (by omega) (.inr (.inr (Nat.le_refl _)))
    · exact yD_fr0
  exact yD_seq ihr A hr W2 hs hn' C (yQ_Kr (L1 := [_]) K') hx hq' he rn z0' (fun z => by cases z) (fun z => by cases z)
end YDN
end
section
/-! The prover: how high the stack is: the model, loops and branches. -/
section YDO
variable {X Y : Nat → Nat} {kb : Nat → yK} {b u s sz : Nat} {p : List yI × Int32 × Int32} {o : Unit} {l r : ys}
theorem yD_V2 (ihl : yD_V X Y kb b u s sz l) (ihr : yD_V X Y kb b u s sz r) : yD_V X Y kb b u s sz (.inner 2 p o l r) := by
  intro m n v q qf e lo x g hm ⟨W1, W2⟩ hs hn C K hx hq he rn z0
  have hr : ((m = 0 ∧ yz_st r) ∨ (m = 1 ∧ yz_br r)) := hm.elim (fun z => .inl ⟨z.1, z.2.2⟩) (fun z => .inr ⟨z.1, z.2.2⟩)
  obtain ⟨cc, M, w1, w2, w3, w4, w5, w6, w7⟩ := (show ∃ c N, p.2.1 = nI c ∧ p.2.2 = nI N ∧ lo ≤ c ∧ c < X b ∧ N ≤ 1000000 ∧ yz_st l ∧ yz_W X Y kb b l (c + 1) from W1)
  have cz := C.2.1
  have K' : yQ_K g s n ([((12, p.2.1, p.2.2, 0), v)] ++ ([((13, nI (n + (3 + yz_l l)), p.2.1, 0), v)] ++ (yz_c l (n + 2) (v + 1) (n + (3 + yz_l l)) 0 ++ ([((14, nI (n + 1), 0, 0), v + 1)] ++ yz_c r (n + (3 + yz_l l)) v q e)))) := K
  have pieces : ∀ g : zs_H, yQ_K g s n ([((12, p.2.1, p.2.2, 0), v)] ++ ([((13, nI (n + (3 + yz_l l)), p.2.1, 0), v)] ++ (yz_c l (n + 2) (v + 1) (n + (3 + yz_l l)) 0 ++ ([((14, nI (n + 1), 0, 0), v + 1)] ++ yz_c r (n + (3 + yz_l l)) v q e)))) → yM_m s g n ((12, p.2.1, p.2.2, 0), v) ∧ yM_m s g (n + 1) ((13, nI (n + (3 + yz_l l)), p.2.1, 0), v) ∧ yQ_K g s (n + 2) (yz_c l (n + 2) (v + 1) (n + (3 + yz_l l)) 0) ∧ yM_m s g (n + 2 + yz_l l) ((14, nI (n + 1), 0, 0), v + 1) ∧ yQ_K g s (n + 2 + yz_l l + 1) (yz_c r (n + (3 + yz_l l)) v q e) := by
    intro g K
    have Ka := yQ_Kr (L1 := [_]) (yQ_Kr (L1 := [_]) K)
    have Kb := yQ_Kr Ka
    rw [yz_len] at Kb
    exact ⟨K 0 _ rfl, K 1 _ rfl, yQ_Kl Ka, Kb 0 _ rfl, yQ_Kr (L1 := [_]) Kb⟩
  have e3 : n + 2 + yz_l l + 1 = n + (3 + yz_l l) := by omega
  have hn' : n + ((3 + yz_l l) + yz_l r) ≤ s + sz := hn
  have hq' : (0 < v ∧ qf = q ∧ n + ((3 + yz_l l) + yz_l r) < q ∧ q ≤ s + sz) ∨ (v = 0 ∧ qf ≤ n) := hq
  have z0' : ∀ j, n < j → j < n + ((3 + yz_l l) + yz_l r) → g.2.1 112 (j - s) = -1 := z0
  -- COUNT
  obtain ⟨g1, a1, a4⟩ := yD_one (d := 0) (x := x) hs (show n < s + sz by omega) (by omega) C (pieces g K').1 (show (12 : Nat) < 19 by decide) (show yo_t 12 ≤ 0 by decide) (show 0 - yo_t 12 + yo_l 12 ≤ 64 by decide) (rn (by omega)) (fun z => absurd z (show ¬ ((12 : Nat) = 10 ∨ (12 : Nat) = 11 ∨ (12 : Nat) = 13) by decide)) (fun z => absurd z (show ¬ (12 : Nat) = 14 by decide))
  replace a4 : g1 = if x = true then zs_uM g 112 (n + 1 - s) (nI 0) else g := a4
  have f1 : yD_fr s sz n (n + (3 + yz_l l)) (n + 1) g g1 := by
    rw [a4]; split
    · exact yD_set (by omega) (.inl (by omega))
    · exact yD_fr0
  have v1 : ∀ j, s ≤ j → ¬ j = n + 1 → g1.2.1 112 (j - s) = g.2.1 112 (j - s) := fun j js hj => by
    rw [a4]; split
    · exact zu_MM.trans (if_neg fun z => by have := z.2; omega)
    · rfl
  have r1 : g1.2.1 112 (n + 1 - s) = yD_v x := by
    rw [a4]
    cases x with
    | true => exact zu_MM.trans (if_pos ⟨rfl, rfl⟩)
    | false => exact z0' (n + 1) (by omega) (by omega)
  have K1 := yD_Kf f1 K'
  -- NEXT
  obtain ⟨g2, b1, b4⟩ := yD_one (d := 0) (x := x) (show s ≤ n + 1 by omega) (show n + 1 < s + sz by omega) (by omega) (yD_cf f1 C) (pieces g1 K1).2.1 (show (13 : Nat) < 19 by decide) (show yo_t 13 ≤ 0 by decide) (show 0 - yo_t 13 + yo_l 13 ≤ 64 by decide) r1 (fun _ => ⟨n + (3 + yz_l l), rfl, by omega, by omega⟩) (fun z => absurd z (show ¬ (13 : Nat) = 14 by decide))
  replace b4 : g2 = if x = true then zs_uM (zs_uM g1 112 (n + 2 - s) (nI 0)) 112 (n + (3 + yz_l l) - s) (nI 0) else g1 := by
    rw [b4]
    show (if x = true then zs_uM (zs_uM g1 112 (n + 1 + 1 - s) (nI 0)) 112 ((nI (n + (3 + yz_l l))).toNatClampNeg - s) (nI 0) else g1) = _
    rw [nI_clamp (by omega)]
  have f2 : yD_fr s sz n (n + (3 + yz_l l)) (n + 1) g1 g2 := by
    rw [b4]; split
    · exact yD_frt (yD_set (g := g1) (t := n + 2) (lo := n) (hi := n + (3 + yz_l l)) (q := n + 1) (by omega) (.inl (by omega))) (yD_set (t := n + (3 + yz_l l)) (lo := n) (hi := n + (3 + yz_l l)) (q := n + 1) (by omega) (.inl (by omega))) (by omega) (by omega) (by omega) (by omega)
    · exact yD_fr0
  have v2 : ∀ j, s ≤ j → ¬ j = n + 1 → ¬ j = n + 2 → ¬ j = n + (3 + yz_l l) → g2.2.1 112 (j - s) = g.2.1 112 (j - s) := fun j js j1 j2 j3 => by
    refine Eq.trans ?_ (v1 j js j1)
    rw [b4]; split
    · exact zu_MM.trans ((if_neg fun z => by have := z.2; omega).trans (zu_MM.trans (if_neg fun z => by have := z.2; omega)))
    · rfl
  have r2 : g2.2.1 112 (n + 2 - s) = yD_v x := by
    rw [b4]
    cases x with
    | true => exact zu_MM.trans ((if_neg fun z => by omega).trans (zu_MM.trans (if_pos ⟨rfl, rfl⟩)))
    | false => exact (v1 (n + 2) (by omega) (by omega)).trans (z0' (n + 2) (by omega) (by omega))
  have rt : ∀ y, g.2.1 112 (n + (3 + yz_l l) - s) = yD_v y → g2.2.1 112 (n + (3 + yz_l l) - s) = yD_v (y || x) := fun y hy => by
    rw [b4]
    cases x with
    | true =>
      rw [Bool.or_true]
      exact zu_MM.trans (if_pos ⟨rfl, rfl⟩)
    | false =>
      rw [Bool.or_false]
      exact (v1 _ (by omega) (by omega)).trans hy
  have K2 := yD_Kf f2 K1
  have C2 := yD_cf f2 (yD_cf f1 C)
  have F2 : yD_fr s sz n (n + (3 + yz_l l)) (n + 1) g g2 := yD_frt f1 f2 (by omega) (by omega) (by omega) (by omega)
  have A : yD_O u s sz g n (3 + yz_l l) v q qf x (yH_D l x) x := by
    have run2 : ∀ N, f_Mo_isDeep_L35 (N + (3 + yz_l l)) g (nI u) (nI sz) (nI (n - s)) = f_Mo_isDeep_L35 (N + 1 + yz_l l) g2 (nI u) (nI sz) (nI (n + 2 - s)) := fun N => by
      rw [show N + (3 + yz_l l) = (N + 1 + yz_l l + 1) + 1 by omega, a1, b1]
    -- the body
    rcases ihl 0 (n + 2) (v + 1) (n + (3 + yz_l l)) (n + (3 + yz_l l)) 0 (cc + 1) x g2 (.inl ⟨rfl, w6⟩) w7 (by omega) (by omega) C2 (pieces g2 K2).2.2.1 (fun z => absurd z (Nat.succ_ne_zero v)) (.inl ⟨by omega, rfl, by omega, by omega⟩) (fun z => absurd z (by decide)) (fun _ => r2) (fun j j1 j2 => (v2 j (by omega) (by omega) (by omega) (by omega)).trans (z0' j (by omega) (by omega))) with ⟨d, g3, c1, c2⟩ | ⟨d, g3, c1, c4, c5, c6⟩
    · exact .inl ⟨d, g3, fun N => (run2 N).trans (c1 (N + 1)), zfr_trans (yD_z F2) c2⟩
    · have r3 : g3.2.1 112 (n + 2 + yz_l l - s) = yD_v (yH_r l x) := by
        by_cases z : yz_l l = 0
        · have := c4 (by omega) x (by rw [z, Nat.add_zero]; exact r2)
          rw [(yH_z l x z).1, Bool.or_self] at this
          rw [(yH_z l x z).1]; exact this
        · have := c4 (by omega) false ((v2 (n + 2 + yz_l l) (by omega) (by omega) (by omega) (by omega)).trans (z0' _ (by omega) (by omega)))
          rwa [Bool.false_or] at this
      have K3 := yD_Kf c6 K2
      obtain ⟨g4, d1, d4⟩ := yD_one (d := 0) (x := yH_r l x) (show s ≤ n + 2 + yz_l l by omega) (show n + 2 + yz_l l < s + sz by omega) (by omega) (yD_cf c6 C2) (pieces g3 K3).2.2.2.1 (show (14 : Nat) < 19 by decide) (show yo_t 14 ≤ 0 by decide) (show 0 - yo_t 14 + yo_l 14 ≤ 64 by decide) r3 (fun z => absurd z (show ¬ ((14 : Nat) = 10 ∨ (14 : Nat) = 11 ∨ (14 : Nat) = 13) by decide)) (fun _ => ⟨n + 1, rfl, by omega, by omega⟩)
      have e4 : g4 = g3 := by
        rw [d4]
        show (if yH_r l x = true then g3 else g3) = g3
        exact ite_self _
      subst e4
      have FA : yD_fr s sz n (n + (3 + yz_l l)) qf g g4 := yD_frt F2 c6 (by omega) (by omega) (by omega) (by omega)
      refine .inr ⟨d, g4, fun N => ?_, fun hl y hy => ?_, fun hv hq2 y hy => ⟨false, fun z => (by cases z), ?_⟩, FA⟩
      · rw [run2, c1, d1, e3]
      · obtain ⟨z, k1, k2⟩ := c5 (by omega) hl _ (rt y hy)
        rw [k2, yD_vi k1]
      · rw [Bool.or_false, c6.2.2.2 q (by omega) hq2 (by omega) (by omega), v2 q (by omega) (by omega) (by omega) (by omega)]; exact hy
  exact yD_seq ihr A hr W2 hs hn' C (by have := (pieces g K').2.2.2.2; rw [e3] at this; exact this) hx hq' he rn z0' id (fun _ => rfl)
theorem yD_V5 (hb : b ≤ 16) (ihl : yD_V X Y kb b u s sz l) (ihr : yD_V X Y kb b u s sz r) : yD_V X Y kb b u s sz (.inner 5 p o l r) := by
  intro m n v q qf e lo x g hm ⟨W1, W2⟩ hs hn C K hx hq he rn z0
  have hr : ((m = 0 ∧ yz_st r) ∨ (m = 1 ∧ yz_br r)) := hm.elim (fun z => .inl ⟨z.1, z.2.2⟩) (fun z => .inr ⟨z.1, z.2.2⟩)
  have m1 : m = 1 := by
    rcases hm with ⟨_, z, _⟩ | ⟨z1, _⟩
    · exact absurd z (by decide)
    · exact z1
  subst m1
  have cz := C.2.1
  obtain ⟨w, hw⟩ : ∃ w : Nat, w = if yz_f r = true then 0 else 1 := ⟨_, rfl⟩
  have W1' : yo_h 0 p.1 = some 1 ∧ (∀ i, i ∈ p.1 → yo_i X (fun u => (kb u).1 = 1) b i) ∧ yz_st l ∧ yz_W X Y kb b l lo := W1
  have p0 : 0 < p.1.length := by
    rcases Nat.eq_zero_or_pos p.1.length with z | z
    · have := W1'.1
      rw [List.eq_nil_of_length_eq_zero z] at this
      exact absurd this (by decide)
    · exact z
  have K' : yQ_K g s n (yv v p.1 ++ ([((11, nI (n + (p.1.length + 1 + yz_l l + w)), 0, 0), v)] ++ (yz_c l (n + p.1.length + 1) v q 0 ++ ((if yz_f r = true then [] else [((10, nI e, 0, 0), v)]) ++ yz_c r (n + (p.1.length + 1 + yz_l l + w)) v q e)))) := by
    rw [hw]; exact K
  have lg : (if yz_f r = true then [] else [(((10, nI e, 0, 0), v) : yJ)]).length = w := by
    rw [hw]; split <;> rfl
  have pieces : ∀ g : zs_H, yQ_K g s n (yv v p.1 ++ ([((11, nI (n + (p.1.length + 1 + yz_l l + w)), 0, 0), v)] ++ (yz_c l (n + p.1.length + 1) v q 0 ++ ((if yz_f r = true then [] else [((10, nI e, 0, 0), v)]) ++ yz_c r (n + (p.1.length + 1 + yz_l l + w)) v q e)))) → yQ_K g s n (yv v p.1) ∧ yM_m s g (n + p.1.length) ((11, nI (n + (p.1.length + 1 + yz_l l + w)), 0, 0), v) ∧ yQ_K g s (n + p.1.length + 1) (yz_c l (n + p.1.length + 1) v q 0) ∧ (¬ yz_f r = true → yM_m s g (n + p.1.length + 1 + yz_l l) ((10, nI e, 0, 0), v)) ∧ yQ_K g s (n + p.1.length + 1 + yz_l l + w) (yz_c r (n + (p.1.length + 1 + yz_l l + w)) v q e) := by
    intro g K
    have Ka := yQ_Kr K
    rw [yv_len] at Ka
    have Kb := yQ_Kr (L1 := [_]) Ka
    have Kc := yQ_Kr Kb
    rw [yz_len] at Kc
    have Kd := yQ_Kr Kc
    rw [lg] at Kd
    refine ⟨yQ_Kl K, Ka 0 _ rfl, yQ_Kl Kb, fun z => ?_, Kd⟩
    rw [if_neg z] at Kc
    exact Kc 0 _ rfl
  have e3 : n + p.1.length + 1 + yz_l l + w = n + (p.1.length + 1 + yz_l l + w) := by omega
  have hx' : v = 0 → yz_x r (n + (p.1.length + 1 + yz_l l + w)) = [] ∧ yz_x l (n + p.1.length + 1) = [] := fun z => by
    have := hx z
    rw [hw]
    exact List.append_eq_nil_iff.mp this
  have eL : yz_l (.inner 5 p o l r) = (p.1.length + 1 + yz_l l + w) + yz_l r := by rw [hw]; rfl
  have he' := he rfl
  have w01 : w ≤ 1 := by rw [hw]; split <;> omega
  have wr : w = 0 → yz_l r = 0 := fun z => by
    cases r with
    | leaf => rfl
    | inner => rw [hw] at z; exact absurd z (show ¬ (1 : Nat) = 0 by decide)
  have eD : yH_D (.inner 5 p o l r) x = ((x && yH_d 0 p.1) || (yH_D l x || yH_D r x)) := rfl
  have eR : yH_r (.inner 5 p o l r) x = (yH_r l x || yH_r r x) := rfl
  rw [eL] at hn hq he' z0 ⊢
  rw [eD, eR]
  -- the question
  rcases yD_str (x := x) (d2 := 1) hs (by omega) (by omega) C W1'.1 (fun i hi => yP_io hb (W1'.2.1 i hi)) (yQ_Kl K') rn (fun j j1 j2 => z0 j j1 (by omega)) with ⟨dd, g1, a1, a2⟩ | ⟨dd, g1, a1, a2, a3, a5⟩
  · refine .inl ⟨by rw [dd]; rfl, g1, fun N => ?_, a2⟩
    rw [show N + (p.1.length + 1 + yz_l l + w + yz_l r) = (N + 1 + yz_l l + w + yz_l r) + p.1.length by omega]
    exact a1 _
  rw [dd, Bool.false_or]
  have r1 : g1.2.1 112 (n + p.1.length - s) = if x = true then nI 1 else -1 := by
    cases x with
    | true => exact a2 rfl (by omega)
    | false => rw [a3 rfl]; exact z0 _ (by omega) (by omega)
  have K1 := yD_Kf a5 K'
  have C1 := yD_cf a5 C
  have v1 : ∀ j, n + p.1.length < j → j < s + sz → g1.2.1 112 (j - s) = g.2.1 112 (j - s) := fun j hj hj2 => a5.2.2.2 j (by omega) hj2 (by omega) (by omega)
  -- UNLESS
  obtain ⟨g2, b1, b4⟩ := yD_one (d := 1) (x := x) (show s ≤ n + p.1.length by omega) (show n + p.1.length < s + sz by omega) (by omega) C1 (pieces g1 K1).2.1 (show (11 : Nat) < 19 by decide) (show yo_t 11 ≤ 1 by decide) (show 1 - yo_t 11 + yo_l 11 ≤ 64 by decide) r1 (fun _ => ⟨n + (p.1.length + 1 + yz_l l + w), rfl, by omega, by omega⟩) (fun z => absurd z (show ¬ (11 : Nat) = 14 by decide))
  replace b4 : g2 = if x = true then zs_uM (zs_uM g1 112 (n + p.1.length + 1 - s) (nI 0)) 112 (n + (p.1.length + 1 + yz_l l + w) - s) (nI 0) else g1 := by
    rw [b4]
    show (if x = true then zs_uM (zs_uM g1 112 (n + p.1.length + 1 - s) (nI 0)) 112 ((nI (n + (p.1.length + 1 + yz_l l + w))).toNatClampNeg - s) (nI 0) else g1) = _
    rw [nI_clamp (by omega)]
  have f2 : yD_fr s sz n (n + (p.1.length + 1 + yz_l l + w)) n g1 g2 := by
    rw [b4]; split
    · exact yD_frt (yD_set (g := g1) (t := n + p.1.length + 1) (lo := n) (hi := n + (p.1.length + 1 + yz_l l + w)) (q := n) (by omega) (.inl (by omega))) (yD_set (t := n + (p.1.length + 1 + yz_l l + w)) (lo := n) (hi := n + (p.1.length + 1 + yz_l l + w)) (q := n) (by omega) (.inl (by omega))) (by omega) (by omega) (by omega) (by omega)
    · exact yD_fr0
  have v2 : ∀ j, n + p.1.length + 1 < j → j < s + sz → ¬ j = n + (p.1.length + 1 + yz_l l + w) → g2.2.1 112 (j - s) = g.2.1 112 (j - s) := fun j j1 js j2 => by
    refine Eq.trans ?_ (v1 j (by omega) js)
    rw [b4]; split
    · exact zu_MM.trans ((if_neg fun z => by have := z.2; omega).trans (zu_MM.trans (if_neg fun z => by have := z.2; omega)))
    · rfl
  have rt : n + (p.1.length + 1 + yz_l l + w) < s + sz → ∀ y, g.2.1 112 (n + (p.1.length + 1 + yz_l l + w) - s) = yD_v y → g2.2.1 112 (n + (p.1.length + 1 + yz_l l + w) - s) = yD_v (y || x) := fun hl y hy => by
    rw [b4]
    cases x with
    | true =>
      rw [Bool.or_true]
      exact zu_MM.trans (if_pos ⟨rfl, rfl⟩)
    | false =>
      rw [Bool.or_false]
      exact (v1 _ (by omega) hl).trans hy
  have K2 := yD_Kf f2 K1
  have C2 := yD_cf f2 C1
  have rb : 0 < yz_l l ∨ w = 1 → g2.2.1 112 (n + p.1.length + 1 - s) = yD_v x := fun hz => by
    rw [b4]
    cases x with
    | true =>
      refine zu_MM.trans ?_
      split
      · rfl
      · exact zu_MM.trans (if_pos ⟨rfl, rfl⟩)
    | false => exact (v1 _ (by omega) (by omega)).trans (z0 _ (by omega) (by omega))
  have F2 : yD_fr s sz n (n + (p.1.length + 1 + yz_l l + w + yz_l r)) qf g g2 := yD_frt a5 f2 (by omega) (by omega) (by omega) (by omega)
  have run2 : ∀ N, f_Mo_isDeep_L35 (N + (p.1.length + 1 + yz_l l + w)) g (nI u) (nI sz) (nI (n - s)) = f_Mo_isDeep_L35 (N + w + yz_l l) g2 (nI u) (nI sz) (nI (n + p.1.length + 1 - s)) := fun N => by
    rw [show N + (p.1.length + 1 + yz_l l + w) = (N + w + yz_l l + 1) + p.1.length by omega, a1, b1]
  -- the body
  have body : (yH_D l x = true ∧ ∃ g3, (∀ N, f_Mo_isDeep_L35 (N + yz_l l) g2 (nI u) (nI sz) (nI (n + p.1.length + 1 - s)) = some (1, g3)) ∧ zfr [] [112] [] g2 g3) ∨ (yH_D l x = false ∧ ∃ g3, (∀ N, f_Mo_isDeep_L35 (N + yz_l l) g2 (nI u) (nI sz) (nI (n + p.1.length + 1 - s)) = f_Mo_isDeep_L35 N g3 (nI u) (nI sz) (nI (n + p.1.length + 1 + yz_l l - s))) ∧ (w = 1 → g3.2.1 112 (n + p.1.length + 1 + yz_l l - s) = yD_v (yH_r l x)) ∧ (n + (p.1.length + 1 + yz_l l + w) < s + sz → ∀ y, g.2.1 112 (n + (p.1.length + 1 + yz_l l + w) - s) = yD_v y → g3.2.1 112 (n + (p.1.length + 1 + yz_l l + w) - s) = yD_v (y || x)) ∧ (0 < v → q < s + sz → ∀ y, g.2.1 112 (q - s) = yD_v y → ∃ z, (z = true → x = true) ∧ g3.2.1 112 (q - s) = yD_v (y || z)) ∧ (∀ j, n + p.1.length + 1 + yz_l l < j → j < s + sz → ¬ j = n + (p.1.length + 1 + yz_l l + w) → ¬ j = qf → g3.2.1 112 (j - s) = g.2.1 112 (j - s)) ∧ yD_fr s sz n (n + (p.1.length + 1 + yz_l l + w)) qf g2 g3) := by
    by_cases lz : yz_l l = 0
    · obtain ⟨i1, i2⟩ := yH_z l x lz
      refine .inr ⟨i2, g2, fun N => by rw [lz]; rfl, fun z => ?_, rt, fun hv hq2 y hy => ⟨false, fun z => (by cases z), by rw [Bool.or_false, v2 q (by omega) hq2 (by omega)]; exact hy⟩, fun j j1 js j2 _ => v2 j (by omega) js j2, yD_fr0⟩
      rw [i1, lz, Nat.add_zero]
      exact rb (.inr z)
    · rcases ihl 0 (n + p.1.length + 1) v q qf 0 lo x g2 (.inl ⟨rfl, W1'.2.2.1⟩) W1'.2.2.2 (by omega) (by omega) C2 (pieces g2 K2).2.2.1 (fun z => (hx' z).2) (by omega) (fun z => absurd z (by decide)) (fun _ => rb (.inl (by omega))) (fun j j1 j2 => (v2 j (by omega) (by omega) (by omega)).trans (z0 j (by omega) (by omega))) with ⟨d, g3, c1, c2⟩ | ⟨d, g3, c1, c4, c5, c6⟩
      · exact .inl ⟨d, g3, c1, c2⟩
      · refine .inr ⟨d, g3, c1, fun z => ?_, fun hl y hy => ?_, fun hv hq2 y hy => ?_, fun j j1 js j2 j3 => (c6.2.2.2 j (by omega) js (by omega) j3).trans (v2 j (by omega) js j2), yD_frt c6 (yD_fr0 (lo := n) (hi := n) (q := n)) (by omega) (by omega) (.inl rfl) (by omega)⟩
        · have := c4 (by omega) false ((v2 _ (by omega) (by omega) (by omega)).trans (z0 _ (by omega) (by omega)))
          rwa [Bool.false_or] at this
        · by_cases z : w = 0
          · have q1 := rt hl y hy
            rw [show n + (p.1.length + 1 + yz_l l + w) = n + p.1.length + 1 + yz_l l by omega] at q1 hl ⊢
            have := c4 hl _ q1
            rw [yD_vi yH_rx] at this
            exact this
          · rw [c6.2.2.2 _ (by omega) hl (by omega) (by omega)]
            exact rt hl y hy
        · exact c5 hv hq2 y (by rw [v2 q (by omega) hq2 (by omega)]; exact hy)
  rcases body with ⟨dl, g3, c1, c2⟩ | ⟨dl, g3, c1, c4, c5, c6, c7, c8⟩
  · refine .inl ⟨by rw [dl]; rfl, g3, fun N => ?_, zfr_trans (yD_z F2) c2⟩
    rw [show N + (p.1.length + 1 + yz_l l + w + yz_l r) = (N + yz_l r) + (p.1.length + 1 + yz_l l + w) by omega, run2]
    exact c1 _
  rw [dl, Bool.false_or]
  have K3 := yD_Kf c8 K2
  have C3 := yD_cf c8 C2
  -- the jump behind the choice
  have jump : ∃ g4, (∀ N, f_Mo_isDeep_L35 (N + w) g3 (nI u) (nI sz) (nI (n + p.1.length + 1 + yz_l l - s)) = f_Mo_isDeep_L35 N g4 (nI u) (nI sz) (nI (n + (p.1.length + 1 + yz_l l + w) - s))) ∧ (g4 = g3 ∧ w = 0 ∨ w = 1 ∧ g4 = if yH_r l x = true then zs_uM g3 112 (e - s) (nI 0) else g3) := by
    by_cases z : yz_f r = true
    · have g0 : w = 0 := by rw [hw, if_pos z]
      exact ⟨g3, fun N => by rw [g0, Nat.add_zero, show n + (p.1.length + 1 + yz_l l + 0) = n + p.1.length + 1 + yz_l l by omega], .inl ⟨rfl, g0⟩⟩
    · have g0 : w = 1 := by rw [hw, if_neg z]
      obtain ⟨g4, d1, d4⟩ := yD_one (d := 0) (x := yH_r l x) (show s ≤ n + p.1.length + 1 + yz_l l by omega) (show n + p.1.length + 1 + yz_l l < s + sz by omega) (by omega) C3 ((pieces g3 K3).2.2.2.1 z) (show (10 : Nat) < 19 by decide) (show yo_t 10 ≤ 0 by decide) (show 0 - yo_t 10 + yo_l 10 ≤ 64 by decide) (c4 g0) (fun _ => ⟨e, rfl, by omega, by omega⟩) (fun z => absurd z (show ¬ (10 : Nat) = 14 by decide))
      refine ⟨g4, fun N => ?_, .inr ⟨g0, ?_⟩⟩
      · rw [g0, d1, show n + (p.1.length + 1 + yz_l l + 1) = n + p.1.length + 1 + yz_l l + 1 by omega]
      · rw [d4]
        show (if yH_r l x = true then zs_uM g3 112 ((nI e).toNatClampNeg - s) (nI 0) else g3) = _
        rw [nI_clamp (by omega)]
  obtain ⟨g4, d1, d4⟩ := jump
  have v4 : ∀ j, s ≤ j → ¬ j = e → g4.2.1 112 (j - s) = g3.2.1 112 (j - s) := fun j js hj => by
    rcases d4 with ⟨d4, _⟩ | ⟨_, d4⟩
    · rw [d4]
    · rw [d4]; split
      · exact zu_MM.trans (if_neg fun z => by have := z.2; omega)
      · rfl
  have f4 : yD_fr s sz n (n + (p.1.length + 1 + yz_l l + w + yz_l r)) qf g3 g4 := by
    rcases d4 with ⟨d4, _⟩ | ⟨_, d4⟩
    · rw [d4]; exact yD_fr0
    · rw [d4]; split
      · exact yD_set (by omega) (.inl (by omega))
      · exact yD_fr0
  have re : ∀ y, g3.2.1 112 (e - s) = yD_v y → w = 1 → g4.2.1 112 (e - s) = yD_v (y || yH_r l x) := fun y hy z => by
    rcases d4 with ⟨_, d4⟩ | ⟨_, d4⟩
    · omega
    · rw [d4]
      cases yH_r l x with
      | true => rw [if_pos rfl, Bool.or_true]; exact zu_MM.trans (if_pos ⟨rfl, rfl⟩)
      | false => rw [if_neg (by decide), Bool.or_false]; exact hy
  have FA : yD_fr s sz n (n + (p.1.length + 1 + yz_l l + w + yz_l r)) qf g g4 := yD_frt (yD_frt F2 c8 (lo := n) (hi := n + (p.1.length + 1 + yz_l l + w + yz_l r)) (q := qf) (by omega) (by omega) (by omega) (by omega)) f4 (by omega) (by omega) (by omega) (by omega)
  have qc : 0 < v → q < s + sz → ∀ y, g.2.1 112 (q - s) = yD_v y → ∃ z, (z = true → x = true) ∧ g4.2.1 112 (q - s) = yD_v (y || z) := fun hv hq2 y hy => by
    obtain ⟨z, k1, k2⟩ := c6 hv hq2 y hy
    exact ⟨z, k1, by rw [v4 q (by omega) (by omega)]; exact k2⟩
  have run : ∀ N, f_Mo_isDeep_L35 (N + (p.1.length + 1 + yz_l l + w)) g (nI u) (nI sz) (nI (n - s)) = f_Mo_isDeep_L35 N g4 (nI u) (nI sz) (nI (n + (p.1.length + 1 + yz_l l + w) - s)) := fun N => by
    rw [run2, c1, d1]
  by_cases lz : yz_l r = 0
  · obtain ⟨i1, i2⟩ := yH_z r x lz
    rw [i1, i2, lz, Nat.add_zero]
    rw [lz, Nat.add_zero] at he' FA
    refine .inr ⟨rfl, g4, run, fun hl y hy => ?_, qc, FA⟩
    have q1 := c5 hl y hy
    have q2 : g4.2.1 112 (n + (p.1.length + 1 + yz_l l + w) - s) = yD_v (y || x) := by
      rcases Nat.eq_zero_or_pos w with z | z
      · rcases d4 with ⟨d4, _⟩ | ⟨d4, _⟩
        · rw [d4]; exact q1
        · omega
      · have := re _ (by rw [he']; exact q1) (by omega)
        rw [yD_vi yH_rx] at this
        rw [← he']; exact this
    rw [q2, Bool.or_comm (yH_r l x), ← Bool.or_assoc, yD_vi yH_rx]
  · have w1 : w = 1 := by
      rcases Nat.eq_zero_or_pos w with z | z
      · exact absurd (wr z) lz
      · omega
    have r4 : g4.2.1 112 (n + (p.1.length + 1 + yz_l l + w) - s) = yD_v x := by
      rw [v4 _ (by omega) (by omega)]
      have := c5 (by omega) false (z0 _ (by omega) (by omega))
      rwa [Bool.false_or] at this
    rcases ihr 1 (n + (p.1.length + 1 + yz_l l + w)) v q qf e lo x g4 hr W2 (by omega) (by omega) (yD_cf f4 C3) (by have := (pieces g4 (yD_Kf f4 K3)).2.2.2.2; rw [e3] at this; exact this) (fun z => (hx' z).1) (by omega) (fun _ => by omega) (fun _ => r4) (fun j j1 j2 => by
      rw [v4 j (by omega) (by omega), c7 j (by omega) (by omega) (by omega) (by omega)]
      exact z0 j (by omega) (by omega)) with ⟨dr, g5, k1, k2⟩ | ⟨dr, g5, k1, k4, k5, k6⟩
    · refine .inl ⟨dr, g5, fun N => ?_, zfr_trans (yD_z FA) k2⟩
      rw [show N + (p.1.length + 1 + yz_l l + w + yz_l r) = (N + yz_l r) + (p.1.length + 1 + yz_l l + w) by omega, run]
      exact k1 N
    · refine .inr ⟨dr, g5, fun N => ?_, fun hl y hy => ?_, fun hv hq2 y hy => ?_, yD_frt FA k6 (by omega) (by omega) (.inl rfl) (.inl rfl)⟩
      · rw [show N + (p.1.length + 1 + yz_l l + w + yz_l r) = (N + yz_l r) + (p.1.length + 1 + yz_l l + w) by omega, run, k1, show n + (p.1.length + 1 + yz_l l + w) + yz_l r = n + (p.1.length + 1 + yz_l l + w + yz_l r) by omega]
      · rw [← Bool.or_assoc]
        rw [show n + (p.1.length + 1 + yz_l l + w + yz_l r) = n + (p.1.length + 1 + yz_l l + w) + yz_l r by omega] at hy hl ⊢
        refine k4 hl _ ?_
        rw [show n + (p.1.length + 1 + yz_l l + w) + yz_l r = e by omega] at hy ⊢
        refine re y ?_ w1
        rw [c7 e (by omega) (by omega) (by omega) (by omega)]
        exact hy
      · obtain ⟨y1, t1, t2⟩ := qc hv hq2 y hy
        obtain ⟨y2, t3, t4⟩ := k5 hv hq2 _ t2
        exact ⟨y1 || y2, fun z => by rw [Bool.or_eq_true] at z; exact z.elim t1 t3, by rw [← Bool.or_assoc]; exact t4⟩
theorem yD_TM (hb : b ≤ 16) : ∀ T : ys, yD_V X Y kb b u s sz T := by
  intro T
  induction T with
  | leaf =>
    intro m n v q qf e lo x g _ _ _ _ _ _ _ hq _ rn _
    refine .inr ⟨rfl, g, fun _ => rfl, fun hl y hy => ?_, fun _ _ y hy => ⟨false, fun z => (by cases z), by rw [Bool.or_false]; exact hy⟩, yD_fr0⟩
    have hl' : n < s + sz := hl
    have hy' : g.2.1 112 (n - s) = yD_v y := hy
    show g.2.1 112 (n - s) = yD_v (y || x)
    have : yD_v x = yD_v y := (rn hl').symm.trans hy'
    rw [rn hl']
    cases x <;> cases y <;> first | rfl | exact absurd this (by decide)
  | inner k p o l r ihl ihr =>
    by_cases h : k < 7
    · have : k = 0 ∨ k = 1 ∨ k = 2 ∨ k = 3 ∨ k = 4 ∨ k = 5 ∨ k = 6 := by omega
      rcases this with e | e | e | e | e | e | e <;> subst e
      · exact yD_V0 hb ihr
      · exact yD_V1 ihl ihr
      · exact yD_V2 ihl ihr
      · exact yD_V3 ihr
      · exact yD_V4 ihr
      · exact yD_V5 hb ihl ihr
      · exact yD_V6 ihl ihr
    · intro m n v q qf e lo x g hm
      exfalso
      rcases hm with ⟨_, z, _⟩ | ⟨_, z, _⟩
      · omega
      · omega
end YDO
end
section
/-! The prover: a unit, on both sides. -/
/-- the bound of a unit -/
def yV_W (B : Nat → Nat) (T : ys) : Option Nat := yP_m (yP_T B T (none, none, none) (some 0, none, none)).1 (yP_T B T (none, none, none) (some 0, none, none)).2.2
section YVU
variable {B X Y : Nat → Nat} {kb : Nat → yK} {b s e u sz lo : Nat} {T : ys} {h g : zs_H}
theorem yV_i (hs : s ≤ e) (he : e ≤ 4000) : ∀ (m k N : Nat) (h : zs_H), k + m = e + 1 → s ≤ k → m < N → ∃ h', f_Pv_highest_L2 N h (nI s) (nI e) (nI k) = f_Pv_highest_L37 zF h' (nI e) (nI 0) (nI 0) (nI s) ∧ (∀ j, k ≤ j → j ≤ e → h'.2.1 53 j = if j = s then 1 else 0) ∧ (∀ j, j < k → h'.2.1 53 j = h.2.1 53 j) ∧ zfr [] [53] [] h h' := by
  have vb1 : vp_nar .boolean 1 = (1 : Int32) := by decide
  have vb0 : vp_nar .boolean 0 = (0 : Int32) := by decide
  intro m
  induction m with
  | zero =>
    intro k N h hk hsk hN
    obtain ⟨N, rfl⟩ : ∃ z, N = z + 1 := ⟨N - 1, by omega⟩
    refine ⟨h, ?_, fun j j1 j2 => by omega, fun _ _ => rfl, zfr_rfl⟩
    show f_Pv_highest_2 (f_Pv_highest_L2 N) h (nI s) (nI e) (nI k) = _
    unfold f_Pv_highest_2
    rw [if_pos ((nI_ltI (by omega) (by omega)).mpr (by omega))]
    rfl
  | succ m ih =>
    intro k N h hk hsk hN
    obtain ⟨N, rfl⟩ : ∃ z, N = z + 1 := ⟨N - 1, by omega⟩
    obtain ⟨h1, e1⟩ : ∃ h1, h1 = zs_uM h 53 k (if k = s then 1 else 0) := ⟨_, rfl⟩
    obtain ⟨h', a1, a2, a3, a4⟩ := ih (k + 1) N h1 (by omega) (by omega) (by omega)
    refine ⟨h', ?_, fun j j1 j2 => ?_, fun j j1 => ?_, zfr_trans (by rw [e1]; exact zfr_M (by decide) zfr_rfl) a4⟩
    · show f_Pv_highest_2 (f_Pv_highest_L2 N) h (nI s) (nI e) (nI k) = _
      unfold f_Pv_highest_2 f_Pv_highest_22
      simp only [if_neg (mt (nI_ltI (show e < 2147483648 by omega) (show k < 2147483648 by omega)).mp (by omega)), if_pos (zi_in (show k < 2147483648 by omega) (show k < 4001 by omega)), nI_clamp (show k < 2147483648 by omega), show nI k + 1 = nI (k + 1) from zc_ad 1 k, vb0, vb1]
      by_cases z : k = s
      · rw [if_pos (by rw [z])]
        rw [if_pos z] at e1
        rw [← e1]; exact a1
      · rw [if_neg (mt (nI_eq (by omega) (by omega)).mp z)]
        rw [if_neg z] at e1
        rw [← e1]; exact a1
    · by_cases z : j = k
      · rw [a3 j (by omega), e1, z]
        exact zu_MM.trans (if_pos ⟨rfl, rfl⟩)
      · exact a2 j (by omega) j2
    · rw [a3 j (by omega), e1]
      exact zu_MM.trans (if_neg fun z => by omega)
theorem yV_hi (hb : b ≤ 16) (he : s + yz_l T ≤ 4000) (st : yz_st T) (W : yz_W X Y kb b T lo) (xx : ∀ n, yz_x T n = []) (K : yP_K h s ((yz_c T s 0 0 0).map Prod.fst)) : ∃ h' mo, f_Pv_highest h (nI s) (nI (s + yz_l T)) = some (nI mo, h') ∧ mo ≤ 6000 ∧ (64 < mo ↔ yH_D T true = true) ∧ zfr [] [53] [] h h' := by
  have hz := zF_big
  obtain ⟨h1, a1, a2, _, a4⟩ := yV_i (show s ≤ s + yz_l T by omega) he (yz_l T + 1) s zF h (by omega) (Nat.le_refl _) (by omega)
  have K1 : yP_K h1 s ((yz_c T s 0 0 0).map Prod.fst) := by
    intro k i ei
    have q := K k i ei
    unfold yC_m at q ⊢
    rw [a4.2.1 _ (by decide), a4.2.1 _ (by decide), a4.2.1 _ (by decide), a4.2.1 _ (by decide)]
    exact q
  obtain ⟨h2, mo, b1, b2, b3, _, _, b6⟩ := yH_TC (X := X) (Y := Y) (kb := kb) hb he T 0 s 0 0 s 0 lo 0 true h1 (.inl ⟨rfl, st⟩) W (Nat.le_refl _) K1 (fun _ => xx s) (.inr ⟨rfl, Nat.le_refl _⟩) (fun z => absurd z (by decide)) (by omega) (by rw [a2 s (Nat.le_refl _) (by omega), if_pos rfl]; rfl) (fun j j1 j2 => by rw [a2 j (by omega) (by omega), if_neg (by omega)])
  obtain ⟨M, hM⟩ : ∃ M, zF = (M + 1) + yz_l T := ⟨zF - yz_l T - 1, by omega⟩
  refine ⟨h2, mo, ?_, b2, by rw [b3]; exact ⟨fun z => z.elim (fun z => by omega) id, .inr⟩, zfr_trans a4 ⟨fun _ _ _ => by rw [b6.1], fun a ha => by funext j; exact b6.2.2 a j (.inl (by simpa using ha)), fun _ _ => by rw [b6.2.1]⟩⟩
  unfold f_Pv_highest
  rw [a1, hM, b1]
  show f_Pv_highest_37 (f_Pv_highest_L37 M) h2 (nI (s + yz_l T)) (nI mo) (nI 0) (nI (s + yz_l T)) = _
  unfold f_Pv_highest_37
  rw [if_pos ((nI_leI (by omega) (by omega)).mpr (Nat.le_refl _))]
theorem yV_lo (hb : b ≤ 16) (he : s + yz_l T ≤ 4000) (st : yz_st T) (W : yz_W X Y kb b T lo) (xx : ∀ n, yz_x T n = []) (hv : yz_v T ≤ 61) (K : yP_K h s ((yz_c T s 0 0 0).map Prod.fst)) (hB : yP_B B b h) : ∃ h', f_Pv_longest h (nI s) (nI (s + yz_l T)) = some (yP_s 1099511627776 (yV_W B T), h') ∧ zfr [(51, 7)] [57] [54, 55, 56] h h' := by
  have hz := zF_big
  obtain ⟨h1, e1⟩ : ∃ h1, h1 = zs_uF h 51 7 (nI 0) := ⟨_, rfl⟩
  have f1 : zfr [(51, 7)] [57] [54, 55, 56] h h1 := by rw [e1]; exact zfr_F (by decide) zfr_rfl
  obtain ⟨h2, a1, a2, a3⟩ := yP_tell (h := h1) (v := 0) (j := s + yz_l T) (c := (some 0, none, none)) (by omega)
  have cv : ∀ {h h' : zs_H} {lo hi : Nat}, yP_fr lo hi 0 h h' → zfr [(51, 7)] [57] [54, 55, 56] h h' := fun f => ⟨fun a b _ => f.1 a b, fun a ha => by funext j; exact f.2.1 a j (fun z => absurd z (by simpa using ha)), fun a ha => by funext j; exact f.2.2 a j (.inl ha)⟩
  have K2 : yP_K h2 s ((yz_c T s 0 0 0).map Prod.fst) := yP_Kf a3 (by rw [e1]; exact K)
  have B2 : yP_B B b h2 := yP_Bf (by rw [e1]; exact hB) a3
  obtain ⟨h3, b1, b2, b3⟩ := yP_TC (X := X) (Y := Y) (kb := kb) (B := B) hb T 0 s 0 0 0 lo s (none, none, none) (some 0, none, none) h2 (.inl ⟨rfl, st⟩) W (Nat.le_refl _) he (by omega) B2 K2 ((a3.1 _ _).trans (by rw [e1]; rfl)) (fun _ => xx s) (fun z => absurd z (Nat.lt_irrefl 0)) (fun z => absurd z (by decide)) a2
  obtain ⟨M, hM⟩ : ∃ M, zF = (M + 1) + yz_l T := ⟨zF - yz_l T - 1, by omega⟩
  refine ⟨h3, ?_, zfr_trans f1 (zfr_trans (cv a3) (cv b3))⟩
  unfold f_Pv_longest
  rw [show (0 : Int32) = nI 0 from rfl, ← e1]
  rw [show f_Pv_tell h1 (nI (s + yz_l T)) 0 (-1) (-1) = some h2 from a1, Option.bind_some, hM, b1 (M + 1)]
  show f_Pv_longest_21 (f_Pv_longest_L21 M) h3 (nI s) (nI s - 1) = _
  unfold f_Pv_longest_21
  have lt : nI s - 1 < nI s := by
    by_cases z : s = 0
    · rw [z]; decide
    · rw [show nI s - 1 = nI (s - 1) from zi_sub (b := 1) (by omega)]
      exact (nI_ltI (by omega) (by omega)).mpr (by omega)
  rw [if_pos lt, if_pos (zi_in (by omega) (by omega)), nI_clamp (by omega), b2.1, b2.2.2, yP_mx (by decide)]
  rfl
theorem yV_d (he : sz ≤ 4000) : ∀ (m k N : Nat) (g : zs_H), k + m = sz + 1 → m < N → ∃ g', f_Mo_isDeep_L8 N g (nI u) (nI sz) (nI k) = f_Mo_isDeep_L35 zF (zs_uM g' 112 0 0) (nI u) (nI sz) (nI 0) ∧ (∀ j, k ≤ j → j ≤ sz → g'.2.1 112 j = -1) ∧ (∀ j, j < k → g'.2.1 112 j = g.2.1 112 j) ∧ zfr [] [112] [] g g' := by
  intro m
  induction m with
  | zero =>
    intro k N g hk hN
    obtain ⟨N, rfl⟩ : ∃ z, N = z + 1 := ⟨N - 1, by omega⟩
    refine ⟨g, ?_, fun j j1 j2 => by omega, fun _ _ => rfl, zfr_rfl⟩
    show f_Mo_isDeep_8 (f_Mo_isDeep_L8 N) g (nI u) (nI sz) (nI k) = _
    unfold f_Mo_isDeep_8
    rw [if_pos ((nI_ltI (by omega) (by omega)).mpr (by omega))]
    rfl
  | succ m ih =>
    intro k N g hk hN
    obtain ⟨N, rfl⟩ : ∃ z, N = z + 1 := ⟨N - 1, by omega⟩
    obtain ⟨g1, e1⟩ : ∃ g1, g1 = zs_uM g 112 k (-1) := ⟨_, rfl⟩
    obtain ⟨g', a1, a2, a3, a4⟩ := ih (k + 1) N g1 (by omega) (by omega)
    refine ⟨g', ?_, fun j j1 j2 => ?_, fun j j1 => ?_, zfr_trans (by rw [e1]; exact zfr_M (by decide) zfr_rfl) a4⟩
    · show f_Mo_isDeep_8 (f_Mo_isDeep_L8 N) g (nI u) (nI sz) (nI k) = _
      unfold f_Mo_isDeep_8
      rw [if_neg (mt (nI_ltI (by omega) (by omega)).mp (by omega)), if_pos (zi_in (by omega) (by omega)), nI_clamp (by omega), show nI k + 1 = nI (k + 1) from zc_ad 1 k, ← e1]
      exact a1
    · by_cases z : j = k
      · rw [a3 j (by omega), e1, z]
        exact zu_MM.trans (if_pos ⟨rfl, rfl⟩)
      · exact a2 j (by omega) j2
    · rw [a3 j (by omega), e1]
      exact zu_MM.trans (if_neg fun z => by omega)
theorem yV_sz (C : yD_c u s sz g) : f_Mo_sizeOf g (nI u) = some (nI sz) := by
  obtain ⟨c1, c2, c3, c4⟩ := C
  unfold f_Mo_sizeOf
  rw [show nI u + 1 = nI (u + 1) from zc_ad 1 u, if_pos (zi_in (by omega) (by omega)), if_pos (zi_in (by omega) (by omega)), nI_clamp (by omega), nI_clamp (by omega), c3, c4, zi_sub (by omega), Nat.add_sub_cancel_left]
theorem yV_deep (hb : b ≤ 16) (C : yD_c u s (yz_l T) g) (st : yz_st T) (W : yz_W X Y kb b T lo) (xx : ∀ n, yz_x T n = []) (K : yQ_K g s s (yz_c T s 0 0 0)) : ∃ g', f_Mo_isDeep g (nI u) = some (if yH_D T true = true then 1 else 0, g') ∧ zfr [] [112] [] g g' := by
  have hz := zF_big
  have c2 := C.2.1
  obtain ⟨g1, a1, a2, _, a4⟩ := yV_d (u := u) (sz := yz_l T) (by omega) (yz_l T + 1) 0 zF g (by omega) (by omega)
  obtain ⟨g2, e2⟩ : ∃ g2, g2 = zs_uM g1 112 0 0 := ⟨_, rfl⟩
  have f2 : zfr [] [112] [] g g2 := zfr_trans a4 (by rw [e2]; exact zfr_M (by decide) zfr_rfl)
  have K2 : yQ_K g2 s s (yz_c T s 0 0 0) := by
    intro k i ei
    have q := K k i ei
    unfold yM_m at q ⊢
    rw [f2.2.1 _ (by decide), f2.2.1 _ (by decide), f2.2.1 _ (by decide), f2.2.1 _ (by decide), f2.2.1 _ (by decide)]
    exact q
  have C2 : yD_c u s (yz_l T) g2 := ⟨C.1, C.2.1, by rw [f2.2.1 _ (by decide)]; exact C.2.2.1, by rw [f2.2.1 _ (by decide)]; exact C.2.2.2⟩
  have e0 : f_Mo_isDeep g (nI u) = f_Mo_isDeep_L35 zF g2 (nI u) (nI (yz_l T)) (nI (s - s)) := by
    unfold f_Mo_isDeep
    rw [yV_sz C, Option.bind_some, Nat.sub_self, e2]
    exact a1
  obtain ⟨M, hM⟩ : ∃ M, zF = (M + 1) + yz_l T := ⟨zF - yz_l T - 1, by omega⟩
  rcases yD_TM (X := X) (Y := Y) (kb := kb) hb T 0 s 0 0 s 0 lo true g2 (.inl ⟨rfl, st⟩) W (Nat.le_refl _) (Nat.le_refl _) C2 K2 (fun _ => xx s) (.inr ⟨rfl, Nat.le_refl _⟩) (fun z => absurd z (by decide)) (fun _ => by rw [Nat.sub_self, e2]; exact zu_MM.trans (if_pos ⟨rfl, rfl⟩)) (fun j j1 j2 => by
    rw [e2]
    exact (zu_MM.trans (if_neg fun z => by have := z.2; omega)).trans (a2 (j - s) (by omega) (by omega))) with ⟨d, g3, b1, b2⟩ | ⟨d, g3, b1, _, _, b4⟩
  · refine ⟨g3, ?_, zfr_trans f2 b2⟩
    rw [e0, if_pos d, hM]
    exact b1 _
  · refine ⟨g3, ?_, zfr_trans f2 (yD_z b4)⟩
    rw [e0, d, if_neg (by decide), hM, b1]
    show f_Mo_isDeep_35 (f_Mo_isDeep_L35 M) g3 (nI u) (nI (yz_l T)) (nI (s + yz_l T - s)) = _
    unfold f_Mo_isDeep_35
    rw [if_pos ((nI_leI (by omega) (by omega)).mpr (by omega))]
theorem yV_sum (hb : b ≤ 16) (C : yD_c u s (yz_l T) g) (st : yz_st T) (W : yz_W X Y kb b T lo) (xx : ∀ n, yz_x T n = []) (hv : yz_v T ≤ 61) (K : yQ_K g s s (yz_c T s 0 0 0)) (hB : yQ_B B b g) : ∃ g', f_Mo_sumOf g (nI u) = some (yP_s 1000000000000 (yV_W B T), g') ∧ zfr [] [] [113] g g' := by
  have hz := zF_big
  have c1 := C.1
  have c2 := C.2.1
  have cv : ∀ {g g' : zs_H} {lo hi : Nat}, yQ_fr lo hi g g' → zfr [] [] [113] g g' := fun f => ⟨fun _ _ _ => by rw [f.1], fun _ _ => by rw [f.2.1], fun a ha => by funext j; exact f.2.2 a j (.inl (by simpa using ha))⟩
  obtain ⟨g1, a1, a2, a3⟩ := yQ_step (g := g) (s := s) (u := u) (j := yz_l T) (n := yz_l T) (v := 0) (R := yQ_e) (Nat.le_refl _) (by omega) (by decide) (by omega) (fun k hk => if_neg (by omega)) (.inl ⟨rfl, rfl⟩) (fun k g' hk _ => by
    rw [if_pos rfl, show k = 0 by omega]; rfl)
  have C1 : yQ_c B b u s (yz_l T) g1 := yQ_cf a3 ⟨⟨C.2.2.1, C.2.2.2⟩, hB⟩
  have r0 : yQ_at g1 (yz_l T) (yP_R 0 (fun _ => none) (some 0, none, none)) := fun k hk => by
    rw [a2 k hk]
    refine congrArg (yP_s 1000000000000) ?_
    unfold yQ_e yP_R
    by_cases z : k = 0
    · rw [if_pos z, if_neg (by omega), if_pos z, if_pos rfl]; rfl
    · rw [if_neg z, if_pos (by omega)]
  obtain ⟨g2, b1, b2, b3⟩ := yQ_TM (X := X) (Y := Y) (kb := kb) (B := B) hb c1 c2 T 0 s 0 0 0 lo (fun _ => none) (none, none, none) (some 0, none, none) g1 (.inl ⟨rfl, st⟩) W (Nat.le_refl _) (Nat.le_refl _) (by omega) C1 (yQ_Kf a3 K) (fun _ => xx s) (fun z => absurd z (Nat.lt_irrefl 0)) (fun z => absurd z (by decide)) a2 (by rw [Nat.add_sub_cancel_left]; exact r0)
  obtain ⟨M, hM⟩ : ∃ M, zF = (M + 1 + yz_l T) + 1 := ⟨zF - yz_l T - 2, by omega⟩
  refine ⟨g2, ?_, zfr_trans (cv a3) (cv b3)⟩
  unfold f_Mo_sumOf
  rw [yV_sz C, Option.bind_some, hM]
  have e1 : nI (yz_l T) = nI (yz_l T + 1) - 1 := (zi_sub (a := yz_l T + 1) (b := 1) (by omega)).symm
  have s1 := a1 (M + 1 + yz_l T)
  rw [← e1] at s1
  rw [s1]
  have s2 := b1 (M + 1)
  rw [Nat.add_sub_cancel_left, Nat.sub_self] at s2
  rw [s2]
  show f_Mo_sumOf_8 (f_Mo_sumOf_L8 M) g2 (nI u) (nI (yz_l T)) (nI 0 - 1) = _
  unfold f_Mo_sumOf_8
  rw [if_pos (by decide)]
  have r := b2 0 (by decide)
  rw [Nat.sub_self] at r
  rw [show g2.2.2 113 0 = yP_s 1000000000000 (yP_R 0 (fun _ => none) (yP_T B T (none, none, none) (some 0, none, none)) 0) from r]
  rfl
end YVU
end
section
/-! The prover: all units, on both sides. -/
def yV_u : Option Nat → Nat
  | none => 0
  | some w => w + 1
def yV_B (T : Nat → ys) : Nat → Nat → Nat
  | 0, _ => 0
  | b + 1, u => if u = b then yV_u (yV_W (yV_B T b) (T b)) else yV_B T b u
/-- the bound of unit b -/
def yV_b (T : Nat → ys) (b : Nat) : Option Nat := yV_W (yV_B T b) (T b)
def yV_le (m : Nat) : Option Nat → Bool
  | none => true
  | some w => decide (w ≤ m)
def yV_c : Option Nat → Int32
  | none => -1
  | some w => nI w
def yV_m : Option Nat → Int64
  | none => -1
  | some w => lN w
/-- what is found: from unit b on, m units; a number, the unit -/
def yV_f (T : Nat → ys) (bu : Nat) : Nat → Nat → Nat × Nat
  | 0, b => if yV_le bu (yV_b T (b - 1)) = true then (0, 0) else (53, b - 1)
  | m + 1, b => if yH_D (T b) true = true then (51, b) else if yV_le 1000000000 (yV_b T b) = true then yV_f T bu m (b + 1) else (52, b)
theorem yV_Bu (T : Nat → ys) : ∀ (b u : Nat), u < b → yV_B T b u = yV_u (yV_b T u) := by
  intro b
  induction b with
  | zero => intro u hu; omega
  | succ b ih =>
    intro u hu
    rw [yV_B]
    by_cases z : u = b
    · rw [if_pos z, z]; rfl
    · rw [if_neg z]; exact ih u (by omega)
theorem yV_sl {M : Nat} (h1 : 1000000000 < M) (h2 : M < 9223372036854775808) (W : Option Nat) : yP_s M W ≤ (1000000000 : Int64) ↔ yV_le 1000000000 W = true := by
  cases W with
  | none => exact ⟨fun _ => rfl, fun _ => (show (-1 : Int64) ≤ 1000000000 by decide)⟩
  | some w =>
    show lN (min w M) ≤ (1000000000 : Int64) ↔ decide (w ≤ 1000000000) = true
    rw [zj_el (k := 1000000000) (by decide) (by omega), decide_eq_true_eq]
    omega
theorem yV_min {W : Option Nat} (h : yV_le 1000000000 W = true) : (zd_minl (yP_s 1099511627776 W) (1000000001 : Int64)).toInt32 = yV_c W ∧ yP_s 1000000000000 W = yV_m W := by
  cases W with
  | none => exact ⟨by decide, rfl⟩
  | some w =>
    have hw : w ≤ 1000000000 := of_decide_eq_true h
    refine ⟨?_, ?_⟩
    · show (zd_minl (lN (min w 1099511627776)) (1000000001 : Int64)).toInt32 = nI w
      unfold zd_minl
      rw [Nat.min_eq_left (by omega), if_neg (mt (zj_gt (k := 1000000001) (by decide) (by omega)).mp (by omega)), lN_i]
    · show lN (min w 1000000000000) = lN w
      rw [Nat.min_eq_left (by omega)]
theorem yV_c1 {W : Option Nat} (h : yV_le 1000000000 W = true) : yV_u W ≤ 1000000001 ∧ (1 : Int64) + (yV_c W).toInt64 = lN (yV_u W) ∧ (1 : Int64) + yV_m W = lN (yV_u W) := by
  cases W with
  | none => exact ⟨by decide, by decide, by decide⟩
  | some w =>
    have hw : w ≤ 1000000000 := of_decide_eq_true h
    have e : (1 : Int64) + lN w = lN (w + 1) := by
      rw [show (1 : Int64) = lN 1 from rfl, lN_add, Nat.add_comm]
    refine ⟨?_, ?_, e⟩
    · show w + 1 ≤ _; omega
    · show (1 : Int64) + (nI w).toInt64 = lN (w + 1)
      rw [zj_32 (by omega)]; exact e
theorem yV_bu {W : Option Nat} {bu : Nat} (h : yV_le 1000000000 W = true) (hb : bu ≤ 100000) : (yV_c W ≤ nI bu ↔ yV_le bu W = true) ∧ (yV_m W ≤ (nI bu).toInt64 ↔ yV_le bu W = true) := by
  rw [zj_32 (by omega)]
  cases W with
  | none => exact ⟨⟨fun _ => rfl, fun _ => Int32.le_of_lt (Int32.lt_of_lt_of_le (show (-1 : Int32) < 0 by decide) ((zc_le (k := 0) (by decide) (by omega)).mpr (Nat.zero_le _)))⟩, ⟨fun _ => rfl, fun _ => Int64.le_of_lt (zj_ml (by omega))⟩⟩
  | some w =>
    have hw : w ≤ 1000000000 := of_decide_eq_true h
    refine ⟨?_, ?_⟩
    · show nI w ≤ nI bu ↔ decide (w ≤ bu) = true
      rw [nI_leI (by omega) (by omega), decide_eq_true_eq]
    · show lN w ≤ lN bu ↔ decide (w ≤ bu) = true
      rw [zj_le (by omega) (by omega), decide_eq_true_eq]
abbrev yV_CF : List (Nat × Nat) := [(51, 7), (0, 2), (0, 3)]
abbrev yV_CM : List Nat := [52, 53, 57]
abbrev yV_CL : List Nat := [54, 55, 56]
abbrev yV_MF : List (Nat × Nat) := [(68, 80), (68, 81)]
abbrev yV_MM : List Nat := [112]
abbrev yV_ML : List Nat := [109, 113]
section YVP
variable {X Y : Nat → Nat} {h0 g0 h1 g1 h g : zs_H} {T : Nat → ys} {nb b bu : Nat}
/-- a unit is proved: the class -/
theorem yV_pC (hn : nb ≤ 16) (hb : b < nb) (S4 : yx_S T nb ≤ 4000) (P : yx_PC h0 T nb h1) (f : zfr yV_CF yV_CM yV_CL h1 h) (U : yx_T X Y h0 b (T b)) (hB : ∀ u, u < b → h.2.1 52 u = yV_c (yV_b T u) ∧ yV_le 1000000000 (yV_b T u) = true) : ∃ h', f_Pv_prove h (nI b) = some (if yH_D (T b) true = true then 51 else if yV_le 1000000000 (yV_b T b) = true then 0 else 52, h') ∧ zfr [(51, 7)] yV_CM yV_CL h h' ∧ (yH_D (T b) true = false → yV_le 1000000000 (yV_b T b) = true → ∀ u, u < b + 1 → h'.2.1 52 u = yV_c (yV_b T u)) := by
  obtain ⟨st, xx, _, W, hv, _⟩ := U
  obtain ⟨_, _, _, p3, p4⟩ := P
  have Sb : yx_S T (b + 1) ≤ yx_S T nb := yx_Sle (by omega)
  have eS : yx_S T (b + 1) = yx_S T b + yz_l (T b) := rfl
  have s1 : (h.2.1 46) b = nI (yx_S T b) := by rw [f.2.1 _ (by decide)]; exact p3 b (by omega)
  have s2 : (h.2.1 46) (b + 1) = nI (yx_S T b + yz_l (T b)) := by rw [f.2.1 _ (by decide)]; exact p3 (b + 1) (by omega)
  have K : yP_K h (yx_S T b) ((yz_c (T b) (yx_S T b) 0 0 0).map Prod.fst) := by
    intro k i e
    rw [List.getElem?_map] at e
    cases ek : (yz_c (T b) (yx_S T b) 0 0 0)[k]? with
    | none => rw [ek] at e; cases e
    | some j =>
      rw [ek] at e
      have ej : j.1 = i := Option.some.inj e
      have q := p4 S4 b hb k j ek
      rw [ej] at q
      unfold yC_m at q ⊢
      rw [f.2.1 _ (by decide), f.2.1 _ (by decide), f.2.1 _ (by decide), f.2.1 _ (by decide)]
      exact q
  obtain ⟨h2, mo, a1, a2, a3, a4⟩ := yV_hi (X := X) (Y := Y) (kb := yq_k h0) (b := b) (lo := Y b) (show b ≤ 16 by omega) (show yx_S T b + yz_l (T b) ≤ 4000 by omega) st W xx K
  have K2 : yP_K h2 (yx_S T b) ((yz_c (T b) (yx_S T b) 0 0 0).map Prod.fst) := by
    intro k i e
    have q := K k i e
    unfold yC_m at q ⊢
    rw [a4.2.1 _ (by decide), a4.2.1 _ (by decide), a4.2.1 _ (by decide), a4.2.1 _ (by decide)]
    exact q
  have B2 : yP_B (yV_B T b) b h2 := by
    intro u hu
    rw [a4.2.1 _ (by decide), (hB u hu).1, yV_Bu T b u hu]
    exact ⟨(yV_c1 (hB u hu).2).1, (yV_c1 (hB u hu).2).2.1⟩
  obtain ⟨h3, c1, c2⟩ := yV_lo (X := X) (Y := Y) (kb := yq_k h0) (b := b) (lo := Y b) (show b ≤ 16 by omega) (show yx_S T b + yz_l (T b) ≤ 4000 by omega) st W xx hv K2 B2
  have e0 : f_Pv_prove h (nI b) = (if nI mo ≤ 64 then (if yP_s 1099511627776 (yV_b T b) ≤ (1000000000 : Int64) then some (0, zs_uM h3 52 b ((zd_minl (yP_s 1099511627776 (yV_b T b)) (1000000001 : Int64)).toInt32)) else some (52, zs_uM h3 52 b ((zd_minl (yP_s 1099511627776 (yV_b T b)) (1000000001 : Int64)).toInt32))) else some (51, h2)) := by
    unfold f_Pv_prove
    simp only [if_pos (zi_in (show b < 2147483648 by omega) (show b < 17 by omega)), show nI b + 1 = nI (b + 1) from zc_ad 1 b, if_pos (zi_in (show b + 1 < 2147483648 by omega) (show b + 1 < 17 by omega)), if_pos (zi_in (show b < 2147483648 by omega) (show b < 16 by omega)), nI_clamp (show b < 2147483648 by omega), nI_clamp (show b + 1 < 2147483648 by omega), s1, s2, a1, c1, zd_B]
    rfl
  rw [e0]
  by_cases z : yH_D (T b) true = true
  · rw [if_pos z, if_neg (mt (zc_el (k := 64) (by decide) (by omega)).mp (by have := a3.mpr z; omega))]
    exact ⟨h2, rfl, zfr_w a4 (by decide) (by decide) (by decide), fun q => by rw [z] at q; cases q⟩
  · rw [if_neg z, if_pos ((zc_el (k := 64) (by decide) (by omega)).mpr (by
      rcases Nat.lt_or_ge 64 mo with q | q
      · exact absurd (a3.mp q) z
      · exact q))]
    have F3 : zfr [(51, 7)] yV_CM yV_CL h h3 := zfr_trans (zfr_w a4 (by decide) (by decide) (by decide)) (zfr_w c2 (by decide) (by decide) (by decide))
    by_cases y : yV_le 1000000000 (yV_b T b) = true
    · rw [if_pos y, if_pos ((yV_sl (by decide) (by decide) _).mpr y)]
      refine ⟨_, rfl, zfr_M (by decide) F3, fun _ _ u hu => ?_⟩
      rw [(yV_min y).1]
      refine zu_MM.trans ?_
      by_cases q : u = b
      · rw [if_pos ⟨rfl, q⟩, q]
      · rw [if_neg (fun w => q w.2), c2.2.1 _ (by decide), a4.2.1 _ (by decide)]
        exact (hB u (by omega)).1
    · rw [if_neg y, if_neg (mt (yV_sl (by decide) (by decide) _).mp y)]
      exact ⟨_, rfl, zfr_M (by decide) F3, fun _ q => absurd q y⟩
/-- a unit is proved: the model -/
theorem yV_pM (hn : nb ≤ 16) (hb : b < nb) (S4 : yx_S T nb ≤ 4000) (P : yx_PM g0 T nb g1) (pe : (g1.2.1 103) nb = nI (yx_S T nb)) (f : zfr yV_MF yV_MM yV_ML g1 g) (U : yx_T X Y h0 b (T b)) (hB : ∀ u, u < b → g.2.2 109 u = yV_m (yV_b T u) ∧ yV_le 1000000000 (yV_b T u) = true) : ∃ g2 g3, f_Mo_isDeep g (nI b) = some (if yH_D (T b) true = true then 1 else 0, g2) ∧ f_Mo_sumOf g2 (nI b) = some (yP_s 1000000000000 (yV_b T b), g3) ∧ zfr [] yV_MM [] g g2 ∧ zfr [] [] [113] g2 g3 := by
  obtain ⟨st, xx, _, W, hv, _⟩ := U
  obtain ⟨_, _, p3, _, p4⟩ := P
  have Sb : yx_S T (b + 1) ≤ yx_S T nb := yx_Sle (by omega)
  have eS : yx_S T (b + 1) = yx_S T b + yz_l (T b) := rfl
  have bg : ∀ u, u ≤ nb → (g1.2.1 103) u = nI (yx_S T u) := fun u hu => by
    by_cases z : u = nb
    · rw [z]; exact pe
    · exact p3 u (by omega)
  have C : yD_c b (yx_S T b) (yz_l (T b)) g := ⟨by omega, by omega, by rw [f.2.1 _ (by decide)]; exact bg b (by omega), by rw [f.2.1 _ (by decide)]; exact bg (b + 1) (by omega)⟩
  have K : yQ_K g (yx_S T b) (yx_S T b) (yz_c (T b) (yx_S T b) 0 0 0) := by
    intro k i e
    have q := p4 S4 b hb k i e
    unfold yM_m at q ⊢
    rw [f.2.1 _ (by decide), f.2.1 _ (by decide), f.2.1 _ (by decide), f.2.1 _ (by decide), f.2.1 _ (by decide)]
    exact q
  obtain ⟨g2, a1, a2⟩ := yV_deep (X := X) (Y := Y) (kb := yq_k h0) (b := b) (lo := Y b) (show b ≤ 16 by omega) C st W xx K
  have C2 : yD_c b (yx_S T b) (yz_l (T b)) g2 := ⟨C.1, C.2.1, by rw [a2.2.1 _ (by decide)]; exact C.2.2.1, by rw [a2.2.1 _ (by decide)]; exact C.2.2.2⟩
  have K2 : yQ_K g2 (yx_S T b) (yx_S T b) (yz_c (T b) (yx_S T b) 0 0 0) := by
    intro k i e
    have q := K k i e
    unfold yM_m at q ⊢
    rw [a2.2.1 _ (by decide), a2.2.1 _ (by decide), a2.2.1 _ (by decide), a2.2.1 _ (by decide), a2.2.1 _ (by decide)]
    exact q
  have B2 : yQ_B (yV_B T b) b g2 := by
    intro u hu
    rw [a2.2.2 _ (by decide), (hB u hu).1, yV_Bu T b u hu]
    exact ⟨(yV_c1 (hB u hu).2).1, (yV_c1 (hB u hu).2).2.2⟩
  obtain ⟨g3, c1, c2⟩ := yV_sum (X := X) (Y := Y) (kb := yq_k h0) (b := b) (lo := Y b) (show b ≤ 16 by omega) C2 st W xx hv K2 B2
  exact ⟨g2, g3, a1, c1, a2, c2⟩
end YVP
end
