/-! The coder: how the class lays a row of a rung. -/
/-- how many own cells they have -/
def yu_ec : List yT → Nat
  | [] => 0
  | t :: cs => (if t.1 = 25 ∧ 2 ≤ t.2.1 then 1 else 0) + yu_ec cs
/-- from the place p on the cells cs lie in the grid; fl: the one before is linked -/
def yu_L (p : Nat) (fl : Bool) (cs : List yT) (h h' : zs_H) : Prop := (∀ j, j < p → (h'.2.1 48) j = (h.2.1 48) j ∧ (h'.2.1 49) j = (h.2.1 49) j ∧ (¬ j + 1 = p → (h'.2.1 50) j = (h.2.1 50) j) ∧ (j + 1 = p → (h'.2.1 50) j = if fl = true then 1 else (h.2.1 50) j)) ∧ ∀ j t, cs[j]? = some t → (h'.2.1 48) (p + j) = nI t.2.2.2.2.2.1 ∧ (h'.2.1 50) (p + j) = (if t.2.2.2.2.1 = true then 1 else 0) ∧ (t.1 = 25 → 2 ≤ t.2.1 → (h'.2.1 49) (p + j) = nI t.2.2.2.1)
abbrev yu_g : List (Nat × Nat) := [(47, 4), (47, 11)]
abbrev yu_m : List Nat := [48, 49, 50]
section YUJ
variable {h0 g0 : zs_H}
theorem yu_lay {k17 : zs_H → Int32 → Int32 → Option zs_H} {x2 x3 : Int32} {rr : Nat} (hrr : rr < 12) : ∀ (l : zt_T) (x x' : Int32) (ow c st N : Nat) (cs : List yT) (h : zs_H), yu_R h0 g0 l x x' ow cs → yC_f h0 h → (h.1 47 10) = nI rr → (h.1 47 11) = nI c → (h.1 47 4) = nI ow → (yu_fl l = true → 1 ≤ c) → c + cs.length ≤ 12 → st + zt_ln l ≤ 24 → zt_ln l < N → ∃ h', f_Cr_layGrid_L47 k17 N h x2 x3 x (nI st) = f_Cr_layGrid_84 k17 h' x2 x3 ∧ zfr yu_g yu_m [] h h' ∧ (h'.1 47 11) = nI (c + cs.length) ∧ (h'.1 47 4) = nI (ow + yu_ec cs) ∧ yu_L (rr * 12 + c) (yu_fl l) cs h h' := by
  have vb0 : vp_nar .boolean 0 = (0 : Int32) := by decide
  have vb1 : vp_nar .boolean 1 = (1 : Int32) := by decide
  intro l
  induction l with
  | leaf =>
    intro x x' ow c st N cs h ⟨e1, _, e3⟩ f hr hc ho _ _ hs hN
    obtain ⟨N, rfl⟩ : ∃ z, N = z + 1 := ⟨N - 1, by omega⟩
    subst e3
    refine ⟨h, ?_, zfr_rfl, hc, ho, fun j hj => ⟨rfl, rfl, fun _ => rfl, fun _ => (if_neg (by decide)).symm⟩, fun j t e => by cases e⟩
    show f_Cr_layGrid_47 k17 (f_Cr_layGrid_L47 k17 N) h x2 x3 x (nI st) = _
    unfold f_Cr_layGrid_47
    rw [e1, if_pos (show (-1 : Int32) = -1 from rfl), ite_self]
  | inner kd kv o lc r _ ihr =>
    intro x x' ow c st N cs h ⟨i, k, ⟨i1, i2, i3⟩, _, hkd, H⟩ f hr hc ho hfl hcs hs hN
    have hl : zt_ln (.inner kd kv o lc r) = 1 + zt_ln r := rfl
    obtain ⟨N, rfl⟩ : ∃ z, N = z + 1 := ⟨N - 1, by omega⟩
    have f' : ∀ a, ¬ a ∈ yC_M → h.2.1 a = h0.2.1 a := fun a ha => f.2.1 a ha
    -- one cell, and the next ones
    have stp : ∀ h1 : zs_H, f_Cr_layCell h (nI i) = some h1 → h1.2.1 18 = h0.2.1 18 → f_Cr_layGrid_L47 k17 (N + 1) h x2 x3 x (nI st) = f_Cr_layGrid_L47 k17 N h1 x2 x3 ((h0.2.1 18) i) (nI (st + 1)) := by
      intro h1 e1 e2
      show f_Cr_layGrid_47 k17 (f_Cr_layGrid_L47 k17 N) h x2 x3 x (nI st) = _
      unfold f_Cr_layGrid_47
      rw [i2, if_neg (mt (zc_le (k := 24) (by decide) (by omega)).mp (by omega)), if_neg (zc_m1 (by omega)), e1, Option.bind_some, if_pos (zi_in (by omega) i1), nI_clamp (show i < 2147483648 by omega), nI_1, e2]
    by_cases z : kd = 29
    · rw [if_pos z] at H
      have hc1 := hfl (by show decide (kd = 29) = true; rw [decide_eq_true z])
      obtain ⟨h1, hh1⟩ : ∃ h1, h1 = zs_uM h 50 (rr * 12 + c - 1) 1 := ⟨_, rfl⟩
      have e1 : f_Cr_layCell h (nI i) = some h1 := by
        unfold f_Cr_layCell
        simp only [if_pos (zi_in (show i < 2147483648 by omega) i1), nI_clamp (show i < 2147483648 by omega), f' 13 (by decide), i3]
        rw [if_pos (show nI kd = 29 by rw [z]; rfl), hr, hc, show nI rr * 12 + nI c - 1 = nI (rr * 12 + c - 1) by rw [show (12 : Int32) = nI 12 from rfl, zi_mul, nI_add, show (1 : Int32) = nI 1 from rfl, zi_sub (by omega)], if_pos (zi_in (by omega) (by omega)), nI_clamp (show rr * 12 + c - 1 < 2147483648 by omega), vb1, hh1]
      have fr1 : zfr yu_g yu_m [] h h1 := by rw [hh1]; exact zfr_M (by decide) zfr_rfl
      have f1 : yC_f h0 h1 := zfr_trans f (zfr_w fr1 (by decide) (by decide) (by decide))
      obtain ⟨h2, b1, b2, b3, b4, b5, b6⟩ := ihr _ _ ow c (st + 1) N cs h1 H f1 (by rw [hh1]; exact hr) (by rw [hh1]; exact hc) (by rw [hh1]; exact ho) (fun _ => hc1) hcs (by omega) (by omega)
      refine ⟨h2, ?_, zfr_trans fr1 b2, b3, b4, fun j hj => ?_, b6⟩
      · rw [stp h1 e1 (f1.2.1 18 (by decide))]; exact b1
      · obtain ⟨d1, d2, d3, d4⟩ := b5 j hj
        have g1 : (h1.2.1 48) j = (h.2.1 48) j := by rw [hh1, zu_MM, if_neg (fun w => absurd w.1 (by decide))]
        have g2 : (h1.2.1 49) j = (h.2.1 49) j := by rw [hh1, zu_MM, if_neg (fun w => absurd w.1 (by decide))]
        refine ⟨d1.trans g1, d2.trans g2, fun w => ?_, fun w => ?_⟩
        · rw [d3 w, hh1, zu_MM, if_neg (fun w2 => by have : j = rr * 12 + c - 1 := w2.2; omega)]
        · have : (h1.2.1 50) j = 1 := by rw [hh1, zu_MM, if_pos ⟨rfl, by omega⟩]
          rw [d4 w, this, ite_self]
          have ef : yu_fl (.inner kd kv o lc r) = true := by show decide (kd = 29) = true; rw [decide_eq_true z]
          rw [if_pos ef]
    · rw [if_neg z] at H
      obtain ⟨v, S, E, cs', ecs, ⟨NN, OO⟩, hE, R⟩ := H
      have z' : ¬ nI kd = 29 := fun e => z ((zc_eq (k := 29) (by decide) (by omega)).mp e)
      have ef : yu_fl (.inner kd kv o lc r) = false := by show decide (kd = 29) = false; rw [decide_eq_false z]
      subst ecs
      have hcs' : c + (cs'.length + 1) ≤ 12 := hcs
      obtain ⟨hA, hhA⟩ : ∃ hA, hA = zs_uM (zs_uM h 48 (rr * 12 + c) (nI i)) 50 (rr * 12 + c) 0 := ⟨_, rfl⟩
      obtain ⟨hB, hhB⟩ : ∃ hB, hB = if kd = 25 ∧ 2 ≤ v then zs_uF (zs_uM hA 49 (rr * 12 + c) (nI ow)) 47 4 (nI (ow + 1)) else hA := ⟨_, rfl⟩
      obtain ⟨h1, hh1⟩ : ∃ h1, h1 = zs_uF hB 47 11 (nI (c + 1)) := ⟨_, rfl⟩
      have eat : nI rr * 12 + nI c = nI (rr * 12 + c) := by rw [show (12 : Int32) = nI 12 from rfl, zi_mul, nI_add]
      have cB : (hB.1 47 11) = nI c := by rw [hhB]; split <;> (rw [hhA]; exact hc)
      have e1 : f_Cr_layCell h (nI i) = some h1 := by
        unfold f_Cr_layCell
        simp only [if_pos (zi_in (show i < 2147483648 by omega) i1), nI_clamp (show i < 2147483648 by omega), f' 13 (by decide), i3, f' 16 (by decide)]
        rw [if_neg z', hr, hc, eat, if_pos (zi_in (by omega) (by omega)), nI_clamp (show rr * 12 + c < 2147483648 by omega), vb0, ← hhA]
        have fin : f_Cr_layCell_98 hB = some h1 := by
          unfold f_Cr_layCell_98
          rw [cB, nI_1, hh1]
        by_cases z5 : kd = 25
        · have ev := (NN.2.1 z5).1
          have ev' : (h0.2.1 16) i = nI v := ev
          have v4 : v < 4 := NN.1.2.1
          rw [if_pos (show nI kd = 25 by rw [z5]; rfl), ev']
          by_cases z2 : v < 2
          · rw [if_pos ((zc_tl (k := 2) (by decide) (by omega)).mpr z2)]
            rw [if_neg (fun w => by omega)] at hhB
            rw [← hhB]; exact fin
          · rw [if_neg (mt (zc_tl (k := 2) (by decide) (by omega)).mp z2)]
            rw [if_pos ⟨z5, by omega⟩] at hhB
            rw [ho, nI_1, ← hhB]; exact fin
        · rw [if_neg (show ¬ nI kd = 25 from fun e => z5 ((zc_eq (k := 25) (by decide) (by omega)).mp e))]
          rw [if_neg (fun w => z5 w.1)] at hhB
          rw [← hhB]; exact fin
      have frA : zfr yu_g yu_m [] h hA := by rw [hhA]; exact zfr_M (by decide) (zfr_M (by decide) zfr_rfl)
      have frB : zfr yu_g yu_m [] h hB := by
        rw [hhB]; split
        · exact zfr_F (by decide) (zfr_M (by decide) frA)
        · exact frA
      have fr1 : zfr yu_g yu_m [] h h1 := by rw [hh1]; exact zfr_F (by decide) frB
      have f1 : yC_f h0 h1 := zfr_trans f (zfr_w fr1 (by decide) (by decide) (by decide))
      have o1 : (h1.1 47 4) = nI (ow + (if kd = 25 ∧ 2 ≤ v then 1 else 0)) := by
        rw [hh1]
        show (hB.1 47 4) = _
        rw [hhB]
        split
        · rfl
        · rw [hhA]; exact ho
      obtain ⟨h2, b1, b2, b3, b4, b5, b6⟩ := ihr _ _ _ (c + 1) (st + 1) N cs' h1 R f1 ((fr1.1 _ _ (by decide)).trans hr) (by rw [hh1]; rfl) o1 (fun _ => by omega) (by omega) (by omega) (by omega)
      have g1 : ∀ j, (h1.2.1 48) j = if j = rr * 12 + c then nI i else (h.2.1 48) j := by
        intro j
        rw [hh1]
        show (hB.2.1 48) j = _
        have : (hB.2.1 48) j = (hA.2.1 48) j := by
          rw [hhB]; split
          · rw [zu_FM, zu_MM, if_neg (fun w => absurd w.1 (by decide))]
          · rfl
        rw [this, hhA, zu_MM, if_neg (fun w => absurd w.1 (by decide)), zu_MM]
        by_cases w : j = rr * 12 + c
        · rw [if_pos ⟨rfl, w⟩, if_pos w]
        · rw [if_neg (fun u => w u.2), if_neg w]
      have g2 : ∀ j, (h1.2.1 50) j = if j = rr * 12 + c then 0 else (h.2.1 50) j := by
        intro j
        rw [hh1]
        show (hB.2.1 50) j = _
        have : (hB.2.1 50) j = (hA.2.1 50) j := by
          rw [hhB]; split
          · rw [zu_FM, zu_MM, if_neg (fun w => absurd w.1 (by decide))]
          · rfl
        rw [this, hhA, zu_MM]
        by_cases w : j = rr * 12 + c
        · rw [if_pos ⟨rfl, w⟩, if_pos w]
        · rw [if_neg (fun u => w u.2), if_neg w, zu_MM, if_neg (fun w => absurd w.1 (by decide))]
      have g3 : ∀ j, (h1.2.1 49) j = if j = rr * 12 + c ∧ (kd = 25 ∧ 2 ≤ v) then nI ow else (h.2.1 49) j := by
        intro j
        rw [hh1]
        show (hB.2.1 49) j = _
        have eA : (hA.2.1 49) j = (h.2.1 49) j := by rw [hhA, zu_MM, if_neg (fun w => absurd w.1 (by decide)), zu_MM, if_neg (fun w => absurd w.1 (by decide))]
        rw [hhB]
        by_cases w : kd = 25 ∧ 2 ≤ v
        · rw [if_pos w, zu_FM, zu_MM]
          by_cases w2 : j = rr * 12 + c
          · rw [if_pos ⟨rfl, w2⟩, if_pos ⟨w2, w⟩]
          · rw [if_neg (fun u => w2 u.2), if_neg (fun u => w2 u.1), eA]
        · rw [if_neg w, if_neg (fun u => w u.2), eA]
      refine ⟨h2, ?_, zfr_trans fr1 b2, ?_, ?_, fun j hj => ?_, fun j t et => ?_⟩
      · rw [stp h1 e1 (f1.2.1 18 (by decide))]; exact b1
      · rw [b3]; exact congrArg nI (show c + 1 + cs'.length = c + (cs'.length + 1) by omega)
      · rw [b4]; exact congrArg nI (show ow + (if kd = 25 ∧ 2 ≤ v then 1 else 0) + yu_ec cs' = ow + ((if kd = 25 ∧ 2 ≤ v then 1 else 0) + yu_ec cs') by omega)
      · obtain ⟨d1, d2, d3, _⟩ := b5 j (by omega)
        rw [ef]
        rw [d1, d2, d3 (by omega), g1, g2, g3, if_neg (by omega), if_neg (by omega), if_neg (by omega)]
        exact ⟨rfl, rfl, fun _ => rfl, fun _ => (if_neg (by decide)).symm⟩
      · cases j with
        | zero =>
          have et' : some ((kd, v, S, E, yu_fl r, i, k) : yT) = some t := et
          cases et'
          obtain ⟨d1, d2, _, d4⟩ := b5 (rr * 12 + c) (by omega)
          rw [Nat.add_zero, d1, d2, d4 (by omega), g1, g2, g3, if_pos rfl, if_pos rfl]
          refine ⟨rfl, rfl, fun w1 w2 => ?_⟩
          rw [if_pos ⟨rfl, w1, w2⟩, hE w1 w2]
        | succ j =>
          have := b6 j t et
          rw [show rr * 12 + (c + 1) + j = rr * 12 + c + (j + 1) by omega] at this
          exact this
end YUJ
