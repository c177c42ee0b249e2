/-! The judge's tables: blocks and names of both sides, and how they are looked up. -/
def zv_S (LC LM : List (List Int32)) (g : zs_H) : Prop := LC.Nodup ∧ LM.Nodup ∧ LC.length < 6000 ∧ LM.length < 8000 ∧ LC.take 75 = zk_K ∧ zn_M g LM
def zv_B (LC LM : List (List Int32)) (nb : Nat) (F : Nat → Nat) (h g : zs_H) : Prop :=
  ((h.1 20 17) = nI (9 + nb) ∧ (g.1 68 33) = nI nb ∧ nb ≤ 568) ∧ ((h.1 20 18) = nI (32 + F nb) ∧ (g.1 68 41) = nI (F nb) ∧ F nb ≤ 5900) ∧ zj_ST h ∧
  (∀ b, b < nb → F b ≤ F (b + 1) ∧ F (b + 1) ≤ F nb) ∧
  (∀ b, b < nb → ∃ kd, (kd = 1 ∨ kd = 2 ∨ kd = 3) ∧ (h.2.1 21) (9 + b) = nI kd ∧ (g.2.1 86) b = nI kd ∧ (kd = 3 → b + 1 = nb)) ∧
  (∀ b, b < nb → (h.2.1 23) (9 + b) = nI (32 + F b) ∧ (g.2.1 90) b = nI (F b) ∧ (h.2.1 24) (9 + b) = nI (32 + F (b + 1))) ∧
  (∀ b, b < nb → ∃ c, zt_nr LC LM (nI c) ((g.2.1 85) b) ∧ c < 6000 ∧ (h.2.1 36) c = nI (9 + b)) ∧
  (∀ c, c < 6000 → (h.2.1 36) c = -1 ∨ (41 ≤ c ∧ c < 50 ∧ (h.2.1 36) c = nI (c - 41)) ∨ ∃ b, b < nb ∧ (h.2.1 36) c = nI (9 + b) ∧ zt_nr LC LM (nI c) ((g.2.1 85) b)) ∧
  (∀ c, 41 ≤ c → c < 50 → (h.2.1 36) c = nI (c - 41)) ∧
  (h.1 20 19) = (if 0 < nb ∧ (g.2.1 86) (nb - 1) = 3 then nI (8 + nb) else -1)
def zv_N (LC LM : List (List Int32)) (nb : Nat) (F : Nat → Nat) (h g : zs_H) : Prop :=
  (∀ v, v < F nb → zt_nr LC LM ((h.2.1 28) (32 + v)) ((g.2.1 91) v)) ∧
  (∀ c, c < 6000 → (h.2.1 37) c = -1 ∨ ∃ w, w < 32 + F nb ∧ (h.2.1 37) c = nI w ∧ (32 ≤ w → (h.2.1 28) w = nI c)) ∧
  (∀ v, F (nb - 1) ≤ v → v < F nb → ∃ c, c < 6000 ∧ (h.2.1 28) (32 + v) = nI c ∧ (h.2.1 37) c = nI (32 + v))
theorem zv_least (p : Nat → Prop) (a : Nat) : ∀ e, (∀ j, a ≤ j → j < e → ¬ p j) ∨ ∃ j, a ≤ j ∧ j < e ∧ p j ∧ ∀ i, a ≤ i → i < j → ¬ p i := by
  intro e
  induction e with
  | zero => exact .inl fun j _ h => absurd h (by omega)
  | succ e ih =>
    rcases ih with q | ⟨j, h1, h2, h3, h4⟩
    · by_cases c : a ≤ e ∧ p e
      · exact .inr ⟨e, c.1, by omega, c.2, fun i h1 h2 => q i h1 h2⟩
      · refine .inl fun j h1 h2 h3 => ?_
        by_cases ej : j = e
        · subst ej; exact c ⟨h1, h3⟩
        · exact q j h1 (by omega) h3
    · exact .inr ⟨j, h1, by omega, h3, h4⟩
theorem zv_scanM {g : zs_H} {b e : Nat} {w : Int32} (hb : b < 2100) (he : e ≤ 8400) (hbd : (if nI b = (g.1 68 33) - 1 then (g.1 68 41) else (g.2.1 90) (b + 1)) = nI e) : ∀ m v fuel, v + m = e → m < fuel →
    ((∀ j, v ≤ j → j < e → ¬ (g.2.1 91) j = w) → f_Mo_variable_L7 g fuel (nI b) w (nI v) = some (-1)) ∧ (∀ j, v ≤ j → j < e → (g.2.1 91) j = w → (∀ i, v ≤ i → i < j → ¬ (g.2.1 91) i = w) → f_Mo_variable_L7 g fuel (nI b) w (nI v) = some (nI j)) := by
  intro m
  induction m with
  | zero =>
    intro v fuel h1 h2
    obtain ⟨f, rfl⟩ : ∃ f, fuel = f + 1 := ⟨fuel - 1, by omega⟩
    refine ⟨fun _ => ?_, fun j h3 h4 => by omega⟩
    show f_Mo_variable_7 g (f_Mo_variable_L7 g f) (nI b) w (nI v) = _
    unfold f_Mo_variable_7 f_Mo_variable_33
    have hl : nI e ≤ nI v := (nI_leI (by omega) (by omega)).mpr (by omega)
    by_cases c : nI b = (g.1 68 33) - 1
    · rw [if_pos c] at hbd
      rw [if_pos c, hbd, if_pos hl]
    · rw [if_neg c] at hbd
      rw [if_neg c, nI_1, if_pos (zi_in (by omega) (by omega)), nI_clamp (by omega), hbd, if_pos hl]
  | succ m ih =>
    intro v fuel h1 h2
    obtain ⟨f, rfl⟩ : ∃ f, fuel = f + 1 := ⟨fuel - 1, by omega⟩
    have hi := ih (v + 1) f (by omega) (by omega)
    have hl : ¬ nI e ≤ nI v := mt (nI_leI (by omega) (by omega)).mp (by omega)
    have e0 : f_Mo_variable_L7 g (f + 1) (nI b) w (nI v) = if (g.2.1 91) v = w then some (nI v) else f_Mo_variable_L7 g f (nI b) w (nI (v + 1)) := by
      show f_Mo_variable_7 g (f_Mo_variable_L7 g f) (nI b) w (nI v) = _
      unfold f_Mo_variable_7 f_Mo_variable_33
      by_cases c : nI b = (g.1 68 33) - 1
      · rw [if_pos c] at hbd
        rw [if_pos c, hbd, if_neg hl, if_pos (zi_in (by omega) (by omega)), nI_clamp (by omega), nI_1]
      · rw [if_neg c] at hbd
        rw [if_neg c, nI_1, if_pos (zi_in (by omega) (by omega)), nI_clamp (by omega), hbd, if_neg hl, if_pos (zi_in (by omega) (by omega)), nI_clamp (by omega), nI_1]
    rw [e0]
    refine ⟨fun q => ?_, fun j h3 h4 h5 h6 => ?_⟩
    · rw [if_neg (q v (by omega) (by omega))]
      exact hi.1 fun j h3 h4 => q j (by omega) h4
    · by_cases ej : j = v
      · subst ej; rw [if_pos h5]
      · rw [if_neg (h6 v (by omega) (by omega))]
        exact hi.2 j (by omega) h4 h5 fun i h7 h8 => h6 i (by omega) h8
theorem zv_scanC {h : zs_H} {b e : Nat} {w : Int32} (hb : b < 629) (he : e ≤ 6000) (hbd : (h.2.1 24) b = nI e) : ∀ m v fuel, v + m = e → m < fuel →
    ((∀ j, v ≤ j → j < e → ¬ (h.2.1 28) j = w) → f_Pl_variableOf_L7 h fuel (nI b) w (nI v) = some (-1)) ∧ (∀ j, v ≤ j → j < e → (h.2.1 28) j = w → (∀ i, v ≤ i → i < j → ¬ (h.2.1 28) i = w) → f_Pl_variableOf_L7 h fuel (nI b) w (nI v) = some (nI j)) := by
  intro m
  induction m with
  | zero =>
    intro v fuel h1 h2
    obtain ⟨f, rfl⟩ : ∃ f, fuel = f + 1 := ⟨fuel - 1, by omega⟩
    refine ⟨fun _ => ?_, fun j h3 h4 => by omega⟩
    show f_Pl_variableOf_7 h (f_Pl_variableOf_L7 h f) (nI b) w (nI v) = _
    unfold f_Pl_variableOf_7
    rw [if_pos (zi_in (by omega) hb), nI_clamp (by omega), hbd, if_pos ((nI_leI (by omega) (by omega)).mpr (by omega))]
  | succ m ih =>
    intro v fuel h1 h2
    obtain ⟨f, rfl⟩ : ∃ f, fuel = f + 1 := ⟨fuel - 1, by omega⟩
    have hi := ih (v + 1) f (by omega) (by omega)
    have hl : ¬ nI e ≤ nI v := mt (nI_leI (by omega) (by omega)).mp (by omega)
    have e0 : f_Pl_variableOf_L7 h (f + 1) (nI b) w (nI v) = if (h.2.1 28) v = w then some (nI v) else f_Pl_variableOf_L7 h f (nI b) w (nI (v + 1)) := by
      show f_Pl_variableOf_7 h (f_Pl_variableOf_L7 h f) (nI b) w (nI v) = _
      unfold f_Pl_variableOf_7
      rw [if_pos (zi_in (by omega) hb), nI_clamp (n := b) (by omega), hbd, if_neg hl, if_pos (zi_in (by omega) (by omega)), nI_clamp (by omega), nI_1]
    rw [e0]
    refine ⟨fun q => ?_, fun j h3 h4 h5 h6 => ?_⟩
    · rw [if_neg (q v (by omega) (by omega))]
      exact hi.1 fun j h3 h4 => q j (by omega) h4
    · by_cases ej : j = v
      · subst ej; rw [if_pos h5]
      · rw [if_neg (h6 v (by omega) (by omega))]
        exact hi.2 j (by omega) h4 h5 fun i h7 h8 => h6 i (by omega) h8
theorem zv_bdM {LC LM : List (List Int32)} {nb b : Nat} {F : Nat → Nat} {h g : zs_H} (HB : zv_B LC LM nb F h g) (hb : b < nb) : (if nI b = (g.1 68 33) - 1 then (g.1 68 41) else (g.2.1 90) (b + 1)) = nI (F (b + 1)) := by
  obtain ⟨⟨B1, B2, B3⟩, ⟨V1, V2, V3⟩, _, _, _, B6, _⟩ := HB
  rw [B2, show nI nb - 1 = nI (nb - 1) from zi_sub (b := 1) (by omega)]
  by_cases c : b = nb - 1
  · rw [if_pos (by rw [c]), V2, show b + 1 = nb by omega]
  · rw [if_neg (fun q => c ((nI_eq (by omega) (by omega)).mp q)), (B6 (b + 1) (by omega)).2.1]
/-- a name in a finished block, on both sides -/
theorem zv_of {LC LM : List (List Int32)} {nb b c : Nat} {F : Nat → Nat} {h g : zs_H} {w : Int32} (HS : zv_S LC LM g) (HB : zv_B LC LM nb F h g) (HN : zv_N LC LM nb F h g) (hb : b < nb) (hw : zt_nr LC LM (nI c) w) :
    (∃ v, F b ≤ v ∧ v < F (b + 1) ∧ (h.2.1 28) (32 + v) = nI c ∧ f_Pl_variableOf h (nI (9 + b)) (nI c) = some (nI (32 + v)) ∧ f_Mo_variable g (nI b) w = some (nI v)) ∨
    (f_Pl_variableOf h (nI (9 + b)) (nI c) = some (-1) ∧ f_Mo_variable g (nI b) w = some (-1) ∧ ∀ v, F b ≤ v → v < F (b + 1) → ¬ (h.2.1 28) (32 + v) = nI c) := by
  obtain ⟨S1, S2, S3, S4, S5, S6⟩ := HS
  have hbd := zv_bdM HB hb
  obtain ⟨⟨B1, B2, B3⟩, ⟨V1, V2, V3⟩, B4, BF, B5, B6, B7, B8, B9, B10⟩ := HB
  obtain ⟨N1, N2, N3⟩ := HN
  have hF := BF b hb
  have h6 := B6 b hb
  have iff : ∀ v, v < F (b + 1) → ((h.2.1 28) (32 + v) = nI c ↔ (g.2.1 91) v = w) := fun v hv => zt_nr_inj S1 S2 (N1 v (by omega)) hw S3 S4
  have eC : f_Pl_variableOf h (nI (9 + b)) (nI c) = f_Pl_variableOf_L7 h zF (nI (9 + b)) (nI c) (nI (32 + F b)) := by
    unfold f_Pl_variableOf
    rw [if_pos (zi_in (by omega) (by omega)), nI_clamp (by omega), h6.1]
  have eM : f_Mo_variable g (nI b) w = f_Mo_variable_L7 g zF (nI b) w (nI (F b)) := by
    unfold f_Mo_variable
    rw [if_pos (zi_in (by omega) (by omega)), nI_clamp (by omega), h6.2.1]
  have sM := zv_scanM (w := w) (by omega) (by omega) hbd (F (b + 1) - F b) (F b) zF (by omega) (by have := zF_big; omega)
  have sC := zv_scanC (w := nI c) (by omega) (by omega) h6.2.2 (F (b + 1) - F b) (32 + F b) zF (by omega) (by have := zF_big; omega)
  rw [eC, eM]
  rcases zv_least (fun v => (h.2.1 28) (32 + v) = nI c) (F b) (F (b + 1)) with q | ⟨v, h1, h2, h3, h4⟩
  · refine .inr ⟨sC.1 fun j h1 h2 h3 => q (j - 32) (by omega) (by omega) (by rw [show 32 + (j - 32) = j by omega]; exact h3), sM.1 fun j h1 h2 h3 => q j h1 h2 ((iff j h2).mpr h3), q⟩
  · refine .inl ⟨v, h1, h2, h3, sC.2 (32 + v) (by omega) (by omega) h3 fun i h5 h7 h8 => h4 (i - 32) (by omega) (by omega) (by show _ = _; rw [show 32 + (i - 32) = i by omega]; exact h8), sM.2 v h1 h2 ((iff v h2).mp h3) fun i h5 h7 h8 => h4 i h5 h7 ((iff i (by omega)).mpr h8)⟩
/-- a name in the block that is open, on both sides -/
theorem zv_here {LC LM : List (List Int32)} {nb c : Nat} {F : Nat → Nat} {h g : zs_H} {w : Int32} (HS : zv_S LC LM g) (HB : zv_B LC LM nb F h g) (HN : zv_N LC LM nb F h g) (hb : 0 < nb) (hc : c < 6000) (hw : zt_nr LC LM (nI c) w) :
    (∃ v, F (nb - 1) ≤ v ∧ v < F nb ∧ (h.2.1 28) (32 + v) = nI c ∧ f_Pl_variableHere h (nI c) = some (nI (32 + v)) ∧ f_Mo_variable g (nI (nb - 1)) w = some (nI v)) ∨
    (f_Pl_variableHere h (nI c) = some (-1) ∧ f_Mo_variable g (nI (nb - 1)) w = some (-1) ∧ ∀ v, F (nb - 1) ≤ v → v < F nb → ¬ (h.2.1 28) (32 + v) = nI c) := by
  have ho := zv_of HS HB HN (show nb - 1 < nb by omega) hw
  obtain ⟨⟨B1, B2, B3⟩, ⟨V1, V2, V3⟩, B4, BF, B5, B6, B7, B8, B9, B10⟩ := HB
  obtain ⟨N1, N2, N3⟩ := HN
  have h6 := B6 (nb - 1) (by omega)
  have hF := BF (nb - 1) (by omega)
  rw [show nb - 1 + 1 = nb by omega] at ho hF
  have e8 : (h.1 20 17) - 1 = nI (9 + (nb - 1)) := by rw [B1, show (1 : Int32) = nI 1 from rfl, zi_sub (by omega), show 9 + nb - 1 = 9 + (nb - 1) by omega]
  have eC : f_Pl_variableHere h (nI c) = if (h.2.1 37) c < nI (32 + F (nb - 1)) then some (-1) else some ((h.2.1 37) c) := by
    unfold f_Pl_variableHere
    rw [if_pos (zi_in (by omega) hc), if_neg (by rw [B1]; exact mt (zc_el (k := 0) (by decide) (by omega)).mp (by omega)), e8, if_pos (zi_in (by omega) (by omega)), nI_clamp (by omega), nI_clamp (by omega), h6.1]
  rcases ho with ⟨v, h1, h2, h3, h4, h5⟩ | ⟨h1, h2, h3⟩
  · obtain ⟨c', hc', e1, e2⟩ := N3 v h1 h2
    have ec : c' = c := (nI_eq (by omega) (by omega)).mp (e1.symm.trans h3)
    subst ec
    refine .inl ⟨v, h1, h2, h3, ?_, h5⟩
    rw [eC, e2, if_neg (mt (nI_ltI (by omega) (by omega)).mp (by omega))]
  · refine .inr ⟨?_, h2, h3⟩
    rw [eC]
    rcases N2 c hc with q | ⟨x, hx, q1, q2⟩
    · rw [q]
      split <;> rfl
    · rw [q1, if_pos]
      refine (nI_ltI (by omega) (by omega)).mpr ?_
      by_cases c1 : 32 + F (nb - 1) ≤ x
      · exact absurd (by rw [show 32 + (x - 32) = x by omega]; exact q2 (by omega)) (h3 (x - 32) (by omega) (by omega))
      · omega
theorem zv_scanB {g : zs_H} {e : Nat} {w : Int32} (he : e ≤ 2100) : ∀ m v fuel, v + m = e → m < fuel →
    ((∀ j, v ≤ j → j < e → ¬ (g.2.1 85) j = w) → f_Mo_blockNamed_L2 g fuel w (nI e) (nI v) = some (-1)) ∧ (∀ j, v ≤ j → j < e → (g.2.1 85) j = w → (∀ i, v ≤ i → i < j → ¬ (g.2.1 85) i = w) → f_Mo_blockNamed_L2 g fuel w (nI e) (nI v) = some (nI j)) := by
  intro m
  induction m with
  | zero =>
    intro v fuel h1 h2
    obtain ⟨f, rfl⟩ : ∃ f, fuel = f + 1 := ⟨fuel - 1, by omega⟩
    refine ⟨fun _ => ?_, fun j h3 h4 => by omega⟩
    show f_Mo_blockNamed_2 g (f_Mo_blockNamed_L2 g f) w (nI e) (nI v) = _
    unfold f_Mo_blockNamed_2
    rw [if_pos ((nI_leI (by omega) (by omega)).mpr (by omega))]
  | succ m ih =>
    intro v fuel h1 h2
    obtain ⟨f, rfl⟩ : ∃ f, fuel = f + 1 := ⟨fuel - 1, by omega⟩
    have hi := ih (v + 1) f (by omega) (by omega)
    have e0 : f_Mo_blockNamed_L2 g (f + 1) w (nI e) (nI v) = if (g.2.1 85) v = w then some (nI v) else f_Mo_blockNamed_L2 g f w (nI e) (nI (v + 1)) := by
      show f_Mo_blockNamed_2 g (f_Mo_blockNamed_L2 g f) w (nI e) (nI v) = _
      unfold f_Mo_blockNamed_2
      rw [if_neg (mt (nI_leI (by omega) (by omega)).mp (by omega)), if_pos (zi_in (by omega) (by omega)), nI_clamp (by omega), nI_1]
    rw [e0]
    refine ⟨fun q => ?_, fun j h3 h4 h5 h6 => ?_⟩
    · rw [if_neg (q v (by omega) (by omega))]
      exact hi.1 fun j h3 h4 => q j (by omega) h4
    · by_cases ej : j = v
      · subst ej; rw [if_pos h5]
      · rw [if_neg (h6 v (by omega) (by omega))]
        exact hi.2 j (by omega) h4 h5 fun i h7 h8 => h6 i (by omega) h8
/-- a block's name, on both sides -/
theorem zv_bn {LC LM : List (List Int32)} {nb bd c : Nat} {F : Nat → Nat} {h g : zs_H} {w : Int32} (HS : zv_S LC LM g) (HB : zv_B LC LM nb F h g) (hbd : bd ≤ nb) (hc : c < 6000) (hw : zt_nr LC LM (nI c) w) :
    (∃ b, b < bd ∧ (h.2.1 36) c = nI (9 + b) ∧ f_Mo_blockNamed g w (nI bd) = some (nI b)) ∨ (f_Mo_blockNamed g w (nI bd) = some (-1) ∧ ∀ b, b < bd → ¬ (h.2.1 36) c = nI (9 + b)) := by
  obtain ⟨S1, S2, S3, S4, S5, S6⟩ := HS
  obtain ⟨⟨B1, B2, B3⟩, ⟨V1, V2, V3⟩, B4, BF, B5, B6, B7, B8, B9, B10⟩ := HB
  have iff : ∀ b, b < nb → ((g.2.1 85) b = w ↔ (h.2.1 36) c = nI (9 + b)) := by
    intro b hb
    constructor
    · intro q
      obtain ⟨c', e1, e2, e3⟩ := B7 b hb
      have := (zt_nr_inj S1 S2 e1 hw S3 S4).mpr q
      rw [(nI_eq (by omega) (by omega)).mp this] at e3
      exact e3
    · intro q
      rcases B8 c hc with z | ⟨_, z1, z⟩ | ⟨b', z1, z2, z3⟩
      · rw [q] at z; exact absurd z (zc_m1 (by omega))
      · rw [q] at z; have := (nI_eq (by omega) (by omega)).mp z; omega
      · rw [q] at z2
        have := (nI_eq (by omega) (by omega)).mp z2
        rw [show b = b' by omega]
        exact (zt_nr_inj S1 S2 z3 hw S3 S4).mp rfl
  have sB := zv_scanB (g := g) (w := w) (show bd ≤ 2100 by omega) bd 0 zF (by omega) (by have := zF_big; omega)
  have eM : f_Mo_blockNamed g w (nI bd) = f_Mo_blockNamed_L2 g zF w (nI bd) (nI 0) := rfl
  rw [eM]
  rcases zv_least (fun b => (g.2.1 85) b = w) 0 bd with q | ⟨b, h1, h2, h3, h4⟩
  · exact .inr ⟨sB.1 q, fun b hb z => q b (by omega) hb ((iff b (by omega)).mpr z)⟩
  · exact .inl ⟨b, h2, (iff b (by omega)).mp h3, sB.2 b h1 h2 h3 h4⟩
/-- standard names of blocks and functions -/
theorem zv_wB {LC LM : List (List Int32)} {c : Nat} {g : zs_H} {w : Int32} (HS : zv_S LC LM g) (hw : zt_nr LC LM (nI c) w) (hc : c < 6000) : f_Mo_wordOf_s10 g w = some (if 41 ≤ c ∧ c < 50 then nI (c - 41) else -1) := by
  obtain ⟨S1, S2, S3, S4, S5, S6⟩ := HS
  obtain ⟨c', k, e1, e2, e3, e4, e5, e6⟩ := hw
  have : c = c' := (nI_eq (by omega) (by omega)).mp e1
  subst this
  have hs := zj_std S1 S5 e4 zj_WBK (by decide) (by decide)
  rw [e2, zj_wordOfB S6 e5, ← e6]
  by_cases q : 41 ≤ c ∧ c < 50
  · rw [if_pos q, if_pos (hs.1.mpr q), hs.2 (hs.1.mpr q)]
  · rw [if_neg q, if_neg (fun z => q (hs.1.mp z))]
theorem zv_wF {LC LM : List (List Int32)} {c : Nat} {g : zs_H} {w : Int32} (HS : zv_S LC LM g) (hw : zt_nr LC LM (nI c) w) (hc : c < 6000) : f_Mo_wordOf_s11 g w = some (if 50 ≤ c ∧ c < 60 then nI (c - 50) else -1) := by
  obtain ⟨S1, S2, S3, S4, S5, S6⟩ := HS
  obtain ⟨c', k, e1, e2, e3, e4, e5, e6⟩ := hw
  have : c = c' := (nI_eq (by omega) (by omega)).mp e1
  subst this
  have hs := zj_std S1 S5 e4 zj_WFK (by decide) (by decide)
  rw [e2, zj_wordOfF S6 e5, ← e6]
  by_cases q : 50 ≤ c ∧ c < 60
  · rw [if_pos q, if_pos (hs.1.mpr q), hs.2 (hs.1.mpr q)]
  · rw [if_neg q, if_neg (fun z => q (hs.1.mp z))]
theorem zv_isF {c : Nat} (hc : c < 6000) : f_Nm_isStandardFunction (nI c) = if 50 ≤ c ∧ c < 60 then 1 else 0 := by
  unfold f_Nm_isStandardFunction
  by_cases c1 : c < 50
  · rw [if_pos ((zc_tl (k := 50) (by decide) (by omega)).mpr c1), if_neg (by omega)]
  · rw [if_neg (mt (zc_tl (k := 50) (by decide) (by omega)).mp c1)]
    by_cases c2 : 60 ≤ c
    · rw [if_pos ((zc_le (k := 60) (by decide) (by omega)).mpr c2), if_neg (by omega)]
    · rw [if_neg (mt (zc_le (k := 60) (by decide) (by omega)).mp c2), if_pos (by omega)]
theorem zv_isS {LC LM : List (List Int32)} {c : Nat} {g : zs_H} {w : Int32} (HS : zv_S LC LM g) (hw : zt_nr LC LM (nI c) w) (hc : c < 6000) : f_Mo_isStandard g w = some (if 41 ≤ c ∧ c < 60 then 1 else 0) := by
  unfold f_Mo_isStandard
  rw [zv_wB HS hw hc, zv_wF HS hw hc]
  by_cases c1 : 41 ≤ c ∧ c < 50
  · rw [if_pos c1, if_pos (show 41 ≤ c ∧ c < 60 by omega)]
    show (if (0 : Int32) ≤ nI (c - 41) then _ else _) = _
    rw [if_pos ((zc_le (k := 0) (by decide) (by omega)).mpr (by omega))]
  · rw [if_neg c1]
    rw [Option.bind_some, if_neg (by decide), Option.bind_some]
    by_cases c2 : 50 ≤ c ∧ c < 60
    · rw [if_pos c2, if_pos (show 41 ≤ c ∧ c < 60 by omega)]
      rw [if_neg (mt (zc_tl (k := 0) (by decide) (by omega)).mp (by omega))]
    · rw [if_neg c2, if_neg (show ¬ (41 ≤ c ∧ c < 60) by omega)]
      rfl
