/-! The model numbers its nodes. -/
def zt_sz : zt_T → Nat
  | .leaf => 0
  | .inner _ _ _ l r => 1 + zt_sz l + zt_sz r
/-- how many nodes of a kind -/
def zg_ct (c : Nat) : zt_T → Nat
  | .leaf => 0
  | .inner kd _ _ l r => (if kd = c then 1 else 0) + zg_ct c l + zg_ct c r
/-- not too many bodies, not too many EXITs -/
def zg_cx (t : zt_T) : Prop := zg_ct 20 t ≤ 3999 ∧ zg_ct 11 t ≤ 8390
theorem zg_cxi {kd : Nat} {k : Int32 × Int32} {o : Unit} {l r : zt_T} (h : zg_cx (.inner kd k o l r)) : zg_cx l ∧ zg_cx r := by
  obtain ⟨h1, h2⟩ := h
  have e : ∀ c, zg_ct c (.inner kd k o l r) = (if kd = c then 1 else 0) + zg_ct c l + zg_ct c r := fun _ => rfl
  rw [e] at h1 h2
  exact ⟨⟨by omega, by omega⟩, by omega, by omega⟩
theorem zg_cxa : ∀ (t u : zt_T), zg_cx (zt_ap t u) → zg_cx u := by
  intro t
  induction t with
  | leaf => intro u h; exact h
  | inner kd k o l r _ ih => intro u h; exact ih u (zg_cxi (show zg_cx (.inner kd k o l (zt_ap r u)) from h)).2
noncomputable def zc_cnt (P : Nat → Prop) : Nat → Nat
  | 0 => 0
  | m + 1 => zc_cnt P m + @ite Nat (P m) (Classical.propDecidable _) 1 0
theorem zc_cnt_le (P : Nat → Prop) : ∀ m, zc_cnt P m ≤ m := by
  intro m
  induction m with
  | zero => exact Nat.le_refl 0
  | succ m ih =>
    show zc_cnt P m + @ite Nat (P m) (Classical.propDecidable _) 1 0 ≤ m + 1
    split <;> omega
theorem zc_cnt_3 {P P1 P2 : Nat → Prop} {i : Nat} (hi : P i) (h1 : ∀ j, P1 j → P j ∧ ¬ j = i ∧ ¬ P2 j) (h2 : ∀ j, P2 j → P j ∧ ¬ j = i) : ∀ m, (if i < m then 1 else 0) + zc_cnt P1 m + zc_cnt P2 m ≤ zc_cnt P m := by
  intro m
  induction m with
  | zero => show (if i < 0 then 1 else 0) + 0 + 0 ≤ 0; rw [if_neg (by omega)]; omega
  | succ m ih =>
    show (if i < m + 1 then 1 else 0) + (zc_cnt P1 m + @ite Nat (P1 m) (Classical.propDecidable _) 1 0) + (zc_cnt P2 m + @ite Nat (P2 m) (Classical.propDecidable _) 1 0) ≤ zc_cnt P m + @ite Nat (P m) (Classical.propDecidable _) 1 0
    by_cases ei : i = m
    · subst ei
      rw [if_neg (by omega)] at ih
      rw [if_pos (by omega), if_neg (fun z => (h1 i z).2.1 rfl), if_neg (fun z => (h2 i z).2 rfl), if_pos hi]
      omega
    · have e : (if i < m + 1 then 1 else 0) = (if i < m then 1 else 0) := by
        by_cases c : i < m
        · rw [if_pos c, if_pos (by omega)]
        · rw [if_neg c, if_neg (by omega)]
      rw [e]
      by_cases c1 : P1 m
      · rw [if_pos c1, if_neg (h1 m c1).2.2, if_pos (h1 m c1).1]; omega
      · rw [if_neg c1]
        by_cases c2 : P2 m
        · rw [if_pos c2, if_pos (h2 m c2).1]; omega
        · rw [if_neg c2]
          omega
/-- a forest has no more nodes than places -/
theorem zt_sz_le {N : Nat → Nat → Int32 × Int32 → Int32 → Int32 → Prop} {A B : Nat → Int32} : ∀ (t : zt_T) (P : Nat → Prop) (up x y : Int32) (m : Nat), zt_G N A B t P up x y → (∀ i, P i → i < m) → zt_sz t ≤ zc_cnt P m := by
  intro t
  induction t with
  | leaf => intro P up x y m _ _; exact Nat.zero_le _
  | inner kd k v l r ihl ihr =>
    intro P up x y m q hP
    obtain ⟨i, P1, P2, z1, z2, q1, q2, q3, q4, q5, q6, q7, q8, q9⟩ := q
    have a := ihl P1 _ _ _ m q7 (fun j hj => hP j (q5 j hj).1)
    have b := ihr P2 _ _ _ m q8 (fun j hj => hP j (q6 j hj).1)
    have c := zc_cnt_3 q1 q5 q6 m
    rw [if_pos (hP i q1)] at c
    show 1 + zt_sz l + zt_sz r ≤ _
    omega
/-- through a forest: from its first node to where the one above its last is looked at -/
theorem zm_num {LC LM : List (List Int32)} {g0 : zs_H} : ∀ (t : zt_T) (P : Nat → Prop) (up x y : Int32) (g : zs_H) (a F : Nat), zt_M LC LM g0 t P up x y → ¬ t = .leaf → zfr [] [79, 80] [] g0 g → (∀ i, P i → i < 33500) → a + zt_sz t ≤ 33500 → zg_d t ≤ 1000 → ∃ g' M, f_Mo_number_L4 (F + zt_sz t) g (nI a) x = f_Mo_number_L44 (f_Mo_number_L4 F) M g' (nI (a + zt_sz t)) up ∧ zF ≤ M + zg_d t ∧ zfr [] [79, 80] [] g0 g' := by
  intro t
  induction t with
  | leaf => intro P up x y g a F _ h; exact absurd rfl h
  | inner kd k v l r ihl ihr =>
    intro P up x y g a F q _ fr hP hsz hd
    obtain ⟨i, P1, P2, z1, z2, q1, q2, q3, q4, q5, q6, q7, q8, q9⟩ := q
    have hi := hP i q1
    have esz : zt_sz (.inner kd k v l r) = 1 + zt_sz l + zt_sz r := rfl
    obtain ⟨dd, hdd⟩ : ∃ dd, dd = zg_d (.inner kd k v l r) := ⟨_, rfl⟩
    have ed : max (zg_d l + 1) (zg_d r) ≤ dd := by rw [hdd]; exact zg_d1
    rw [esz] at hsz ⊢
    rw [← hdd] at hd ⊢
    have efb : ∀ g', zfr [] [79, 80] [] g0 g' → (g'.2.1 76) = (g0.2.1 76) ∧ (g'.2.1 78) = (g0.2.1 78) ∧ (g'.2.1 75) = (g0.2.1 75) := fun g' f => ⟨f.2.1 _ (by decide), f.2.1 _ (by decide), f.2.1 _ (by decide)⟩
    -- the node itself
    have e1 : f_Mo_number_L4 (F + (1 + zt_sz l + zt_sz r)) g (nI a) x = if ((g0.2.1 76) i) < 0 then f_Mo_number_L44 (f_Mo_number_L4 (F + (zt_sz l + zt_sz r))) zF (zs_uM (zs_uM g 79 a (nI i)) 80 i (nI a)) (nI (a + 1)) (nI i) else f_Mo_number_L4 (F + (zt_sz l + zt_sz r)) (zs_uM (zs_uM g 79 a (nI i)) 80 i (nI a)) (nI (a + 1)) ((g0.2.1 76) i) := by
      rw [show F + (1 + zt_sz l + zt_sz r) = F + (zt_sz l + zt_sz r) + 1 by omega, q3]
      show f_Mo_number_4 (f_Mo_number_L4 (F + (zt_sz l + zt_sz r))) g (nI a) (nI i) = _
      unfold f_Mo_number_4
      rw [if_neg (nI_pos (by omega)), if_pos (zi_in (by omega) (by omega)), if_pos (zi_in (by omega) (by omega)), nI_clamp (by omega), nI_clamp (by omega), nI_1, (efb g fr).1]
    have fr1 : zfr [] [79, 80] [] g0 (zs_uM (zs_uM g 79 a (nI i)) 80 i (nI a)) := zfr_M (by decide) (zfr_M (by decide) fr)
    -- behind what is below it
    have e2 : ∃ g2 M, f_Mo_number_L4 (F + (1 + zt_sz l + zt_sz r)) g (nI a) x = f_Mo_number_L44 (f_Mo_number_L4 (F + zt_sz r)) (M + 1) g2 (nI (a + 1 + zt_sz l)) (nI i) ∧ zF ≤ M + 1 + zg_d l ∧ zfr [] [79, 80] [] g0 g2 := by
      rw [e1]
      by_cases cl : l = .leaf
      · subst cl
        have hf : (g0.2.1 76) i = -1 := q7.1
        rw [hf, if_pos (by decide)]
        exact ⟨_, 18446744073709551615, by rw [show F + (zt_sz (.leaf : zt_T) + zt_sz r) = F + zt_sz r by show F + (0 + zt_sz r) = _; omega]; rfl, by show zF ≤ 18446744073709551615 + 1 + 0; decide, fr1⟩
      · rcases zt_last l P1 _ _ _ q7 with ⟨z, _, _⟩ | ⟨i2, _, w1, w2, w3, _⟩
        · exact absurd z cl
        · rw [w3, if_neg (nI_pos (by omega)), ← w3]
          obtain ⟨g2, M, e3, e4, e5⟩ := ihl P1 (nI i) _ _ _ (a + 1) (F + zt_sz r) q7 cl fr1 (fun j hj => hP j (q5 j hj).1) (by omega) (by omega)
          obtain ⟨M, rfl⟩ : ∃ z, M = z + 1 := ⟨M - 1, by have : zF = 18446744073709551616 := rfl; omega⟩
          exact ⟨g2, M, by rw [show F + (zt_sz l + zt_sz r) = F + zt_sz r + zt_sz l by omega, e3], e4, e5⟩
    obtain ⟨g2, M, e3, e4, e5⟩ := e2
    rw [e3]
    have e44 : f_Mo_number_L44 (f_Mo_number_L4 (F + zt_sz r)) (M + 1) g2 (nI (a + 1 + zt_sz l)) (nI i) = if 0 ≤ (g0.2.1 78) i then f_Mo_number_L4 (F + zt_sz r) g2 (nI (a + 1 + zt_sz l)) ((g0.2.1 78) i) else f_Mo_number_L44 (f_Mo_number_L4 (F + zt_sz r)) M g2 (nI (a + 1 + zt_sz l)) up := by
      show f_Mo_number_44 (f_Mo_number_L4 (F + zt_sz r)) (f_Mo_number_L44 (f_Mo_number_L4 (F + zt_sz r)) M) g2 (nI (a + 1 + zt_sz l)) (nI i) = _
      unfold f_Mo_number_44 f_Mo_number_67 f_Mo_number_81
      have hab : (g0.2.1 75) i = up := q4.2.2.2.1
      rw [if_neg (nI_pos (by omega)), if_pos (zi_in (by omega) (by omega)), if_pos (nI_pos' (by omega)), if_pos (zi_in (by omega) (by omega)), nI_clamp (by omega), (efb g2 e5).2.1, (efb g2 e5).2.2, hab]
    rw [e44]
    by_cases cr : r = .leaf
    · subst cr
      have hb : (g0.2.1 78) i = -1 := q8.1
      rw [hb, if_neg (by decide)]
      refine ⟨g2, M, ?_, by omega, e5⟩
      rw [show F + zt_sz (.leaf : zt_T) = F from rfl, show a + (1 + zt_sz l + zt_sz (.leaf : zt_T)) = a + 1 + zt_sz l by show a + (1 + zt_sz l + 0) = _; omega]
    · rcases zt_last r P2 _ _ _ q8 with ⟨z, _, _⟩ | ⟨i2, _, w1, w2, w3, _⟩
      · exact absurd z cr
      · rw [w3, if_pos (nI_pos' (by omega)), ← w3]
        obtain ⟨g3, M3, e6, e7, e8⟩ := ihr P2 up _ _ g2 (a + 1 + zt_sz l) F q8 cr e5 (fun j hj => hP j (q6 j hj).1) (by omega) (by omega)
        exact ⟨g3, M3, by rw [e6, show a + 1 + zt_sz l + zt_sz r = a + (1 + zt_sz l + zt_sz r) by omega], by omega, e8⟩
theorem zm_number {LC LM : List (List Int32)} {g : zs_H} {kd m : Nat} {p v : Int32} {u : zt_T} (H : zt_M LC LM g (zt_n kd p v u) (fun i => i < m) (-1) (nI 0) (nI 0)) (hm : m ≤ 33500) (hd : zg_d (zt_n kd p v u) ≤ 1000) : ∃ g', f_Mo_number g = some g' ∧ zfr [] [79, 80] [] g g' := by
  have hsz := zt_sz_le _ _ _ _ _ m H (fun i hi => hi)
  have hc := zc_cnt_le (fun i => i < m) m
  unfold f_Mo_number
  obtain ⟨g', M, e1, e2, e3⟩ := zm_num _ _ _ _ _ g 0 (18446744073709551616 - zt_sz (zt_n kd p v u)) H (by intro z; cases z) zfr_rfl (fun i hi => by omega) (by omega) hd
  have ez : zF = (18446744073709551616 - zt_sz (zt_n kd p v u)) + zt_sz (zt_n kd p v u) := by
    have : zF = 18446744073709551616 := rfl
    omega
  rw [ez, show (0 : Int32) = nI 0 from rfl, e1]
  obtain ⟨M, rfl⟩ : ∃ z, M = z + 1 := ⟨M - 1, by have : zF = 18446744073709551616 := rfl; omega⟩
  obtain ⟨F, hF⟩ : ∃ z, 18446744073709551616 - zt_sz (zt_n kd p v u) = z + 1 := ⟨18446744073709551615 - zt_sz (zt_n kd p v u), by omega⟩
  rw [hF]
  refine ⟨g', ?_, e3⟩
  show f_Mo_number_44 (f_Mo_number_L4 (F + 1)) (f_Mo_number_L44 (f_Mo_number_L4 (F + 1)) M) g' (nI (0 + zt_sz (zt_n kd p v u))) (-1) = _
  unfold f_Mo_number_44 f_Mo_number_67 f_Mo_number_81
  rw [if_pos (by decide), if_neg (by decide)]
  show f_Mo_number_4 (f_Mo_number_L4 F) g' (nI (0 + zt_sz (zt_n kd p v u))) (-1) = _
  unfold f_Mo_number_4
  rw [if_pos (by decide)]
