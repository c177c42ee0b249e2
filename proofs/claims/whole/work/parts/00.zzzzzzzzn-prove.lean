/-! The prover: all units, on both sides. -/
def yV_u : Option Nat → Nat
  | none => 0
  | some w => w + 1
def yV_B (T : Nat → ys) : Nat → Nat → Nat
  | 0, _ => 0
  | b + 1, u => if u = b then yV_u (yV_W (yV_B T b) (T b)) else yV_B T b u
/-- the bound of unit b -/
def yV_b (T : Nat → ys) (b : Nat) : Option Nat := yV_W (yV_B T b) (T b)
def yV_le (m : Nat) : Option Nat → Bool
  | none => true
  | some w => decide (w ≤ m)
def yV_c : Option Nat → Int32
  | none => -1
  | some w => nI w
def yV_m : Option Nat → Int64
  | none => -1
  | some w => lN w
/-- what is found: from unit b on, m units; a number, the unit -/
def yV_f (T : Nat → ys) (bu : Nat) : Nat → Nat → Nat × Nat
  | 0, b => if yV_le bu (yV_b T (b - 1)) = true then (0, 0) else (53, b - 1)
  | m + 1, b => if yH_D (T b) true = true then (51, b) else if yV_le 1000000000 (yV_b T b) = true then yV_f T bu m (b + 1) else (52, b)
theorem yV_Bu (T : Nat → ys) : ∀ (b u : Nat), u < b → yV_B T b u = yV_u (yV_b T u) := by
  intro b
  induction b with
  | zero => intro u hu; omega
  | succ b ih =>
    intro u hu
    rw [yV_B]
    by_cases z : u = b
    · rw [if_pos z, z]; rfl
    · rw [if_neg z]; exact ih u (by omega)
theorem yV_sl {M : Nat} (h1 : 1000000000 < M) (h2 : M < 9223372036854775808) (W : Option Nat) : yP_s M W ≤ (1000000000 : Int64) ↔ yV_le 1000000000 W = true := by
  cases W with
  | none => exact ⟨fun _ => rfl, fun _ => (show (-1 : Int64) ≤ 1000000000 by decide)⟩
  | some w =>
    show lN (min w M) ≤ (1000000000 : Int64) ↔ decide (w ≤ 1000000000) = true
    rw [zj_el (k := 1000000000) (by decide) (by omega), decide_eq_true_eq]
    omega
theorem yV_min {W : Option Nat} (h : yV_le 1000000000 W = true) : (zd_minl (yP_s 1099511627776 W) (1000000001 : Int64)).toInt32 = yV_c W ∧ yP_s 1000000000000 W = yV_m W := by
  cases W with
  | none => exact ⟨by decide, rfl⟩
  | some w =>
    have hw : w ≤ 1000000000 := of_decide_eq_true h
    refine ⟨?_, ?_⟩
    · show (zd_minl (lN (min w 1099511627776)) (1000000001 : Int64)).toInt32 = nI w
      unfold zd_minl
      rw [Nat.min_eq_left (by omega), if_neg (mt (zj_gt (k := 1000000001) (by decide) (by omega)).mp (by omega)), lN_i]
    · show lN (min w 1000000000000) = lN w
      rw [Nat.min_eq_left (by omega)]
theorem yV_c1 {W : Option Nat} (h : yV_le 1000000000 W = true) : yV_u W ≤ 1000000001 ∧ (1 : Int64) + (yV_c W).toInt64 = lN (yV_u W) ∧ (1 : Int64) + yV_m W = lN (yV_u W) := by
  cases W with
  | none => exact ⟨by decide, by decide, by decide⟩
  | some w =>
    have hw : w ≤ 1000000000 := of_decide_eq_true h
    have e : (1 : Int64) + lN w = lN (w + 1) := by
      rw [show (1 : Int64) = lN 1 from rfl, lN_add, Nat.add_comm]
    refine ⟨?_, ?_, e⟩
    · show w + 1 ≤ _; omega
    · show (1 : Int64) + (nI w).toInt64 = lN (w + 1)
      rw [zj_32 (by omega)]; exact e
theorem yV_bu {W : Option Nat} {bu : Nat} (h : yV_le 1000000000 W = true) (hb : bu ≤ 100000) : (yV_c W ≤ nI bu ↔ yV_le bu W = true) ∧ (yV_m W ≤ (nI bu).toInt64 ↔ yV_le bu W = true) := by
  rw [zj_32 (by omega)]
  cases W with
  | none => exact ⟨⟨fun _ => rfl, fun _ => Int32.le_of_lt (Int32.lt_of_lt_of_le (show (-1 : Int32) < 0 by decide) ((zc_le (k := 0) (by decide) (by omega)).mpr (Nat.zero_le _)))⟩, ⟨fun _ => rfl, fun _ => Int64.le_of_lt (zj_ml (by omega))⟩⟩
  | some w =>
    have hw : w ≤ 1000000000 := of_decide_eq_true h
    refine ⟨?_, ?_⟩
    · show nI w ≤ nI bu ↔ decide (w ≤ bu) = true
      rw [nI_leI (by omega) (by omega), decide_eq_true_eq]
    · show lN w ≤ lN bu ↔ decide (w ≤ bu) = true
      rw [zj_le (by omega) (by omega), decide_eq_true_eq]
abbrev yV_CF : List (Nat × Nat) := [(51, 7), (0, 2), (0, 3)]
abbrev yV_CM : List Nat := [52, 53, 57]
abbrev yV_CL : List Nat := [54, 55, 56]
abbrev yV_MF : List (Nat × Nat) := [(68, 80), (68, 81)]
abbrev yV_MM : List Nat := [112]
abbrev yV_ML : List Nat := [109, 113]
section YVP
variable {X Y : Nat → Nat} {h0 g0 h1 g1 h g : zs_H} {T : Nat → ys} {nb b bu : Nat}
/-- a unit is proved: the class -/
theorem yV_pC (hn : nb ≤ 16) (hb : b < nb) (S4 : yx_S T nb ≤ 4000) (P : yx_PC h0 T nb h1) (f : zfr yV_CF yV_CM yV_CL h1 h) (U : yx_T X Y h0 b (T b)) (hB : ∀ u, u < b → h.2.1 52 u = yV_c (yV_b T u) ∧ yV_le 1000000000 (yV_b T u) = true) : ∃ h', f_Pv_prove h (nI b) = some (if yH_D (T b) true = true then 51 else if yV_le 1000000000 (yV_b T b) = true then 0 else 52, h') ∧ zfr [(51, 7)] yV_CM yV_CL h h' ∧ (yH_D (T b) true = false → yV_le 1000000000 (yV_b T b) = true → ∀ u, u < b + 1 → h'.2.1 52 u = yV_c (yV_b T u)) := by
  obtain ⟨st, xx, _, W, hv, _⟩ := U
  obtain ⟨_, _, _, p3, p4⟩ := P
  have Sb : yx_S T (b + 1) ≤ yx_S T nb := yx_Sle (by omega)
  have eS : yx_S T (b + 1) = yx_S T b + yz_l (T b) := rfl
  have s1 : (h.2.1 46) b = nI (yx_S T b) := by rw [f.2.1 _ (by decide)]; exact p3 b (by omega)
  have s2 : (h.2.1 46) (b + 1) = nI (yx_S T b + yz_l (T b)) := by rw [f.2.1 _ (by decide)]; exact p3 (b + 1) (by omega)
  have K : yP_K h (yx_S T b) ((yz_c (T b) (yx_S T b) 0 0 0).map Prod.fst) := by
    intro k i e
    rw [List.getElem?_map] at e
    cases ek : (yz_c (T b) (yx_S T b) 0 0 0)[k]? with
    | none => rw [ek] at e; cases e
    | some j =>
      rw [ek] at e
      have ej : j.1 = i := Option.some.inj e
      have q := p4 S4 b hb k j ek
      rw [ej] at q
      unfold yC_m at q ⊢
      rw [f.2.1 _ (by decide), f.2.1 _ (by decide), f.2.1 _ (by decide), f.2.1 _ (by decide)]
      exact q
  obtain ⟨h2, mo, a1, a2, a3, a4⟩ := yV_hi (X := X) (Y := Y) (kb := yq_k h0) (b := b) (lo := Y b) (show b ≤ 16 by omega) (show yx_S T b + yz_l (T b) ≤ 4000 by omega) st W xx K
  have K2 : yP_K h2 (yx_S T b) ((yz_c (T b) (yx_S T b) 0 0 0).map Prod.fst) := by
    intro k i e
    have q := K k i e
    unfold yC_m at q ⊢
    rw [a4.2.1 _ (by decide), a4.2.1 _ (by decide), a4.2.1 _ (by decide), a4.2.1 _ (by decide)]
    exact q
  have B2 : yP_B (yV_B T b) b h2 := by
    intro u hu
    rw [a4.2.1 _ (by decide), (hB u hu).1, yV_Bu T b u hu]
    exact ⟨(yV_c1 (hB u hu).2).1, (yV_c1 (hB u hu).2).2.1⟩
  obtain ⟨h3, c1, c2⟩ := yV_lo (X := X) (Y := Y) (kb := yq_k h0) (b := b) (lo := Y b) (show b ≤ 16 by omega) (show yx_S T b + yz_l (T b) ≤ 4000 by omega) st W xx hv K2 B2
  have e0 : f_Pv_prove h (nI b) = (if nI mo ≤ 64 then (if yP_s 1099511627776 (yV_b T b) ≤ (1000000000 : Int64) then some (0, zs_uM h3 52 b ((zd_minl (yP_s 1099511627776 (yV_b T b)) (1000000001 : Int64)).toInt32)) else some (52, zs_uM h3 52 b ((zd_minl (yP_s 1099511627776 (yV_b T b)) (1000000001 : Int64)).toInt32))) else some (51, h2)) := by
    unfold f_Pv_prove
    simp only [if_pos (zi_in (show b < 2147483648 by omega) (show b < 17 by omega)), show nI b + 1 = nI (b + 1) from zc_ad 1 b, if_pos (zi_in (show b + 1 < 2147483648 by omega) (show b + 1 < 17 by omega)), if_pos (zi_in (show b < 2147483648 by omega) (show b < 16 by omega)), nI_clamp (show b < 2147483648 by omega), nI_clamp (show b + 1 < 2147483648 by omega), s1, s2, a1, c1, zd_B]
    rfl
  rw [e0]
  by_cases z : yH_D (T b) true = true
  · rw [if_pos z, if_neg (mt (zc_el (k := 64) (by decide) (by omega)).mp (by have := a3.mpr z; omega))]
    exact ⟨h2, rfl, zfr_w a4 (by decide) (by decide) (by decide), fun q => by rw [z] at q; cases q⟩
  · rw [if_neg z, if_pos ((zc_el (k := 64) (by decide) (by omega)).mpr (by
      rcases Nat.lt_or_ge 64 mo with q | q
      · exact absurd (a3.mp q) z
      · exact q))]
    have F3 : zfr [(51, 7)] yV_CM yV_CL h h3 := zfr_trans (zfr_w a4 (by decide) (by decide) (by decide)) (zfr_w c2 (by decide) (by decide) (by decide))
    by_cases y : yV_le 1000000000 (yV_b T b) = true
    · rw [if_pos y, if_pos ((yV_sl (by decide) (by decide) _).mpr y)]
      refine ⟨_, rfl, zfr_M (by decide) F3, fun _ _ u hu => ?_⟩
      rw [(yV_min y).1]
      refine zu_MM.trans ?_
      by_cases q : u = b
      · rw [if_pos ⟨rfl, q⟩, q]
      · rw [if_neg (fun w => q w.2), c2.2.1 _ (by decide), a4.2.1 _ (by decide)]
        exact (hB u (by omega)).1
    · rw [if_neg y, if_neg (mt (yV_sl (by decide) (by decide) _).mp y)]
      exact ⟨_, rfl, zfr_M (by decide) F3, fun _ q => absurd q y⟩
/-- a unit is proved: the model -/
theorem yV_pM (hn : nb ≤ 16) (hb : b < nb) (S4 : yx_S T nb ≤ 4000) (P : yx_PM g0 T nb g1) (pe : (g1.2.1 103) nb = nI (yx_S T nb)) (f : zfr yV_MF yV_MM yV_ML g1 g) (U : yx_T X Y h0 b (T b)) (hB : ∀ u, u < b → g.2.2 109 u = yV_m (yV_b T u) ∧ yV_le 1000000000 (yV_b T u) = true) : ∃ g2 g3, f_Mo_isDeep g (nI b) = some (if yH_D (T b) true = true then 1 else 0, g2) ∧ f_Mo_sumOf g2 (nI b) = some (yP_s 1000000000000 (yV_b T b), g3) ∧ zfr [] yV_MM [] g g2 ∧ zfr [] [] [113] g2 g3 := by
  obtain ⟨st, xx, _, W, hv, _⟩ := U
  obtain ⟨_, _, p3, _, p4⟩ := P
  have Sb : yx_S T (b + 1) ≤ yx_S T nb := yx_Sle (by omega)
  have eS : yx_S T (b + 1) = yx_S T b + yz_l (T b) := rfl
  have bg : ∀ u, u ≤ nb → (g1.2.1 103) u = nI (yx_S T u) := fun u hu => by
    by_cases z : u = nb
    · rw [z]; exact pe
    · exact p3 u (by omega)
  have C : yD_c b (yx_S T b) (yz_l (T b)) g := ⟨by omega, by omega, by rw [f.2.1 _ (by decide)]; exact bg b (by omega), by rw [f.2.1 _ (by decide)]; exact bg (b + 1) (by omega)⟩
  have K : yQ_K g (yx_S T b) (yx_S T b) (yz_c (T b) (yx_S T b) 0 0 0) := by
    intro k i e
    have q := p4 S4 b hb k i e
    unfold yM_m at q ⊢
    rw [f.2.1 _ (by decide), f.2.1 _ (by decide), f.2.1 _ (by decide), f.2.1 _ (by decide), f.2.1 _ (by decide)]
    exact q
  obtain ⟨g2, a1, a2⟩ := yV_deep (X := X) (Y := Y) (kb := yq_k h0) (b := b) (lo := Y b) (show b ≤ 16 by omega) C st W xx K
  have C2 : yD_c b (yx_S T b) (yz_l (T b)) g2 := ⟨C.1, C.2.1, by rw [a2.2.1 _ (by decide)]; exact C.2.2.1, by rw [a2.2.1 _ (by decide)]; exact C.2.2.2⟩
  have K2 : yQ_K g2 (yx_S T b) (yx_S T b) (yz_c (T b) (yx_S T b) 0 0 0) := by
    intro k i e
    have q := K k i e
    unfold yM_m at q ⊢
    rw [a2.2.1 _ (by decide), a2.2.1 _ (by decide), a2.2.1 _ (by decide), a2.2.1 _ (by decide), a2.2.1 _ (by decide)]
    exact q
  have B2 : yQ_B (yV_B T b) b g2 := by
    intro u hu
    rw [a2.2.2 _ (by decide), (hB u hu).1, yV_Bu T b u hu]
    exact ⟨(yV_c1 (hB u hu).2).1, (yV_c1 (hB u hu).2).2.2⟩
  obtain ⟨g3, c1, c2⟩ := yV_sum (X := X) (Y := Y) (kb := yq_k h0) (b := b) (lo := Y b) (show b ≤ 16 by omega) C2 st W xx hv K2 B2
  exact ⟨g2, g3, a1, c1, a2, c2⟩
end YVP
