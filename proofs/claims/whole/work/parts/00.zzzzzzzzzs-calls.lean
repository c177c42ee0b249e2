/-! Small calls, on both sides. -/
section YZC
variable {h g h' g' : zs_H} {J : (Nat → Int32) → Prop}
theorem yZ_t3 : ∀ a, a < 6 → zt_3.getD a 0 = nI ([0, 256, 512, 768, 832, 896, 960].getD a 0) ∧ zt_3.getD (a + 1) 0 - zt_3.getD a 0 = (if a < 3 then 256 else 64) := by decide
theorem yZ_nb (x : Int32) : x.toNatClampNeg < 2147483648 := by
  show x.toInt.toNat < _
  have := Int32.toInt_lt x
  omega
theorem yZ_nn {x : Int32} {k : Nat} (h1 : ¬ x < 0) (h2 : ¬ nI k < x) (hk : k < 2147483648) : ∃ a, a ≤ k ∧ x = nI a := by
  have e := zi_nn h1
  refine ⟨x.toNatClampNeg, Nat.not_lt.mp (fun z => h2 ?_), e.symm⟩
  rw [← e]
  exact (nI_ltI hk (yZ_nb x)).mpr z
/-- places -/
theorem yZ_pl (x1 x2 : Int32) : (f_Pk_isPlace x1 x2 = some 0 ∧ f_Mo_noPlace x1 x2 = 1) ∨ ∃ a i, a < 6 ∧ i < (if a < 3 then 256 else 64) ∧ x1 = nI a ∧ x2 = nI i ∧ f_Pk_isPlace x1 x2 = some 1 ∧ f_Mo_noPlace x1 x2 = 0 := by
  unfold f_Pk_isPlace f_Mo_noPlace f_Mo_noPlace_27
  by_cases z1 : x1 < 0
  · rw [if_pos z1, if_pos z1]; exact .inl ⟨rfl, rfl⟩
  rw [if_neg z1, if_neg z1]
  by_cases z2 : 5 < x1
  · rw [if_pos z2, if_pos z2]; exact .inl ⟨rfl, rfl⟩
  rw [if_neg z2, if_neg z2]
  by_cases z3 : x2 < 0
  · rw [if_pos z3, if_pos z3]; exact .inl ⟨rfl, rfl⟩
  rw [if_neg z3, if_neg z3]
  obtain ⟨a, ha, rfl⟩ := yZ_nn (k := 5) z1 z2 (by decide)
  obtain ⟨i, hi, rfl⟩ : ∃ i, i < 2147483648 ∧ x2 = nI i := ⟨x2.toNatClampNeg, yZ_nb x2, (zi_nn z3).symm⟩
  obtain ⟨t1, t2⟩ := yZ_t3 a (by omega)
  have e3 : ((3 : Int32) ≤ nI a) ↔ 3 ≤ a := zc_le (k := 3) (by decide) (by omega)
  have e64 : (nI i < (64 : Int32)) ↔ i < 64 := zc_tl (k := 64) (by decide) (by omega)
  have e256 : (nI i < (256 : Int32)) ↔ i < 256 := zc_tl (k := 256) (by decide) (by omega)
  have l64 : ((64 : Int32) ≤ nI i) ↔ 64 ≤ i := zc_le (k := 64) (by decide) (by omega)
  have l256 : ((256 : Int32) ≤ nI i) ↔ 256 ≤ i := zc_le (k := 256) (by decide) (by omega)
  simp only [show nI a + 1 = nI (a + 1) from zc_ad 1 a, if_pos (zi_in (show a + 1 < 2147483648 by omega) (show a + 1 < 7 by omega)), if_pos (zi_in (show a < 2147483648 by omega) (show a < 7 by omega)), nI_clamp (show a + 1 < 2147483648 by omega), nI_clamp (show a < 2147483648 by omega), t2, e3]
  by_cases y : a < 3
  · rw [if_pos y, if_neg (show ¬ 3 ≤ a by omega)]
    by_cases w : i < 256
    · refine .inr ⟨a, i, by omega, by rw [if_pos y]; exact w, rfl, rfl, ?_, ?_⟩
      · rw [if_neg (mt l256.mp (by omega))]
      · rw [if_pos (e256.mpr w)]
    · left
      rw [if_pos (l256.mpr (by omega)), if_neg (mt e256.mp w)]
      exact ⟨rfl, rfl⟩
  · rw [if_neg y, if_pos (show 3 ≤ a by omega)]
    by_cases w : i < 64
    · refine .inr ⟨a, i, by omega, by rw [if_neg y]; exact w, rfl, rfl, ?_, ?_⟩
      · rw [if_neg (mt l64.mp (by omega))]
      · rw [if_pos (e64.mpr w)]
    · left
      rw [if_pos (l64.mpr (by omega)), if_neg (mt e64.mp w)]
      exact ⟨rfl, rfl⟩
theorem yZ_va (x1 x3 : Int32) : (f_Pk_isValue x1 x3 = 0 ∧ f_Mo_noValue x1 x3 = 1) ∨ (f_Pk_isValue x1 x3 = 1 ∧ f_Mo_noValue x1 x3 = 0 ∧ (¬ 3 ≤ x1 → yJ_01 x3)) := by
  unfold f_Pk_isValue f_Mo_noValue
  by_cases z : 3 ≤ x1
  · rw [if_pos z, if_pos z]
    by_cases y : x3 < -32768
    · rw [if_pos y, if_pos y]; exact .inl ⟨rfl, rfl⟩
    rw [if_neg y, if_neg y]
    by_cases w : x3 ≤ 32767
    · rw [if_pos w, if_neg (Int32.not_lt.mpr w)]; exact .inr ⟨rfl, rfl, fun q => absurd z q⟩
    · rw [if_neg w, if_pos (Int32.not_le.mp w)]; exact .inl ⟨rfl, rfl⟩
  · rw [if_neg z, if_neg z]
    by_cases y : x3 = 0
    · rw [if_pos y, y]; exact .inr ⟨rfl, by decide, fun _ => .inl rfl⟩
    rw [if_neg y]
    by_cases w : x3 = 1
    · rw [if_pos w, w]; exact .inr ⟨rfl, by decide, fun _ => .inr rfl⟩
    rw [if_neg w]
    left
    refine ⟨rfl, ?_⟩
    by_cases v : x3 < 0
    · rw [if_pos v]
    rw [if_neg v]
    by_cases u : x3 ≤ 1
    · exfalso
      obtain ⟨a, ha, e⟩ := yZ_nn (x := x3) (k := 1) v (Int32.not_lt.mpr u) (by decide)
      have : a = 0 ∨ a = 1 := by omega
      rcases this with q | q
      · exact y (by rw [e, q]; rfl)
      · exact w (by rw [e, q]; rfl)
    · rw [if_neg u]
/-- a place of inputs or outputs, on both sides -/
theorem yZ_sp {a i : Nat} (ha : a < 6) (hi : i < (if a < 3 then 256 else 64)) : f_Mo_spot (nI a) (nI i) = nI (if a < 3 then i else 256 + i) ∧ zt_3.getD a 0 + nI i = nI ([0, 256, 512, 768, 832, 896, 960].getD a 0 + i) := by
  refine ⟨?_, by rw [(yZ_t3 a ha).1, nI_add]⟩
  unfold f_Mo_spot
  have e3 : ((3 : Int32) ≤ nI a) ↔ 3 ≤ a := zc_le (k := 3) (by decide) (by omega)
  by_cases y : a < 3
  · rw [if_neg (mt e3.mp (by omega)), if_pos y]
  · rw [if_pos (e3.mpr (by omega)), if_neg y]; exact zc_da 256 i
theorem yZ_inj {i j : Nat} : yY_in i = yY_in j → i < 320 → j < 320 → i = j := by
  unfold yY_in
  split <;> split <;> omega
theorem yZ_onj {i j : Nat} : yY_ou i = yY_ou j → i < 320 → j < 320 → i = j := by
  unfold yY_ou
  split <;> split <;> omega
theorem yZ_given {s : Nat} {v : Int32} (hs : s < 320) (hv : s < 256 → yJ_01 v) (io : yY_io h g) : yY_io (zs_uM h 59 (yY_in s) v) (zs_uM g 118 s v) := fun i hi => by
  refine ⟨⟨zu_MM.trans (Eq.trans ?_ zu_MM.symm), (zu_MM.trans (if_neg fun z => absurd z.1 (by decide))).trans ((io i hi).1.2.1.trans (zu_MM.trans (if_neg fun z => absurd z.1 (by decide))).symm), (zu_MM.trans (if_neg fun z => absurd z.1 (by decide))).trans ((io i hi).1.2.2.trans (zu_MM.trans (if_neg fun z => absurd z.1 (by decide))).symm)⟩, fun h2 => ⟨?_, ?_, ?_⟩⟩
  · by_cases z : i = s
    · rw [if_pos ⟨rfl, by rw [z]⟩, if_pos ⟨rfl, z⟩]
    · rw [if_neg (fun w => z (yZ_inj w.2 hi hs)), if_neg (fun w => z w.2)]; exact (io i hi).1.1
  · rw [show ((zs_uM g 118 s v).2.1 118) i = (if i = s then v else (g.2.1 118) i) from zu_MM.trans (by
      by_cases z : i = s
      · rw [if_pos ⟨rfl, z⟩, if_pos z]
      · rw [if_neg (fun w => z w.2), if_neg z])]
    split
    · rename_i z; exact hv (by omega)
    · exact ((io i hi).2 h2).1
  · rw [show ((zs_uM g 118 s v).2.1 119) i = (g.2.1 119) i from zu_MM.trans (if_neg fun z => absurd z.1 (by decide))]; exact ((io i hi).2 h2).2.1
  · rw [show ((zs_uM g 118 s v).2.1 120) i = (g.2.1 120) i from zu_MM.trans (if_neg fun z => absurd z.1 (by decide))]; exact ((io i hi).2 h2).2.2
theorem yZ_safeU {s : Nat} {v : Int32} (hs : s < 320) (hv : s < 256 → yJ_01 v) (io : yY_io h g) : yY_io (zs_uM h 61 (yY_ou s) v) (zs_uM g 120 s v) := fun i hi => by
  refine ⟨⟨(zu_MM.trans (if_neg fun z => absurd z.1 (by decide))).trans ((io i hi).1.1.trans (zu_MM.trans (if_neg fun z => absurd z.1 (by decide))).symm), (zu_MM.trans (if_neg fun z => absurd z.1 (by decide))).trans ((io i hi).1.2.1.trans (zu_MM.trans (if_neg fun z => absurd z.1 (by decide))).symm), zu_MM.trans (Eq.trans ?_ zu_MM.symm)⟩, fun h2 => ⟨?_, ?_, ?_⟩⟩
  · by_cases z : i = s
    · rw [if_pos ⟨rfl, by rw [z]⟩, if_pos ⟨rfl, z⟩]
    · rw [if_neg (fun w => z (yZ_onj w.2 hi hs)), if_neg (fun w => z w.2)]; exact (io i hi).1.2.2
  · rw [show ((zs_uM g 120 s v).2.1 118) i = (g.2.1 118) i from zu_MM.trans (if_neg fun z => absurd z.1 (by decide))]; exact ((io i hi).2 h2).1
  · rw [show ((zs_uM g 120 s v).2.1 119) i = (g.2.1 119) i from zu_MM.trans (if_neg fun z => absurd z.1 (by decide))]; exact ((io i hi).2 h2).2.1
  · rw [show ((zs_uM g 120 s v).2.1 120) i = (if i = s then v else (g.2.1 120) i) from zu_MM.trans (by
      by_cases z : i = s
      · rw [if_pos ⟨rfl, z⟩, if_pos z]
      · rw [if_neg (fun w => z w.2), if_neg z])]
    split
    · rename_i z; exact hv (by omega)
    · exact ((io i hi).2 h2).2.2
/-- what a cell of the memory's becomes does no harm -/
def yZ_k (J : (Nat → Int32) → Prop) (h g : zs_H) : Prop := (h.1 58 3) = 1 → (∀ j, j < 8192 → (h.2.1 62) j = (g.2.1 114) j) ∧ J ((g.2.1 114)) ∧ ∀ c c', J c → yJ_9 c c' → J c'
theorem yZ_mem {p : Nat} {v : Int32} (hp : p < 960) (hv : p < 768 → yJ_01 v) (kk : yZ_k J h g) : yZ_k J (zs_uM h 62 p v) (zs_uM g 114 p v) := fun l => by
  obtain ⟨k1, k2, k3⟩ := kk l
  have e : ∀ j, ((zs_uM g 114 p v).2.1 114) j = if j = p then v else (g.2.1 114) j := fun j => zu_MM.trans (by
    by_cases z : j = p
    · rw [if_pos ⟨rfl, z⟩, if_pos z]
    · rw [if_neg (fun w => z w.2), if_neg z])
  refine ⟨fun j hj => ?_, k3 _ _ k2 ⟨fun j hj => ?_, fun j hj => ?_⟩, k3⟩
  · rw [e j]
    refine zu_MM.trans ?_
    by_cases z : j = p
    · rw [if_pos ⟨rfl, z⟩, if_pos z]
    · rw [if_neg (fun w => z w.2), if_neg z]; exact k1 j hj
  · rw [e, if_neg (by omega)]
  · rw [e]
    by_cases z : j = p
    · rw [if_pos z]; exact .inr (hv (by omega))
    · rw [if_neg z]; exact .inl rfl
/-- put, and what a request writes -/
theorem yZ_chg {a i : Nat} (v : Int32) (ha : a = 0 ∨ a = 2 ∨ a = 3 ∨ a = 5) (hi : i < (if a < 3 then 256 else 64)) (hv : a < 3 → yJ_01 v) (io : yY_io h g) (el : (h.1 58 3) = (g.1 68 82)) (kk : yZ_k J h g) : ∃ v' h' g', f_Mc_change h (nI a) (nI i) v = some (v', h') ∧ (if a = 0 ∨ a = 3 then f_Mo_put_37 g (nI a) (nI i) v else if (g.1 68 82) = 0 then some (-5, g) else if a = 2 then f_Mo_put_82 g v (512 + nI i) else f_Mo_put_82 g v (896 + nI i)) = some (v', g') ∧ zfr [] [59, 62] [] h h' ∧ zfr [] [114, 118] [] g g' ∧ yY_io h' g' ∧ yZ_k J h' g' := by
  obtain ⟨s1, s2⟩ := yZ_sp (show a < 6 by omega) hi
  have mem : ∀ p, p < 960 → yY_io (zs_uM h 62 p v) (zs_uM g 114 p v) := fun p _ k hk => ⟨⟨(zu_MM.trans (if_neg fun z => absurd z.1 (by decide))).trans ((io k hk).1.1.trans (zu_MM.trans (if_neg fun z => absurd z.1 (by decide))).symm), (zu_MM.trans (if_neg fun z => absurd z.1 (by decide))).trans ((io k hk).1.2.1.trans (zu_MM.trans (if_neg fun z => absurd z.1 (by decide))).symm), (zu_MM.trans (if_neg fun z => absurd z.1 (by decide))).trans ((io k hk).1.2.2.trans (zu_MM.trans (if_neg fun z => absurd z.1 (by decide))).symm)⟩, fun h2 => by
    rw [show ((zs_uM g 114 p v).2.1 118) k = (g.2.1 118) k from zu_MM.trans (if_neg fun z => absurd z.1 (by decide)), show ((zs_uM g 114 p v).2.1 119) k = (g.2.1 119) k from zu_MM.trans (if_neg fun z => absurd z.1 (by decide)), show ((zs_uM g 114 p v).2.1 120) k = (g.2.1 120) k from zu_MM.trans (if_neg fun z => absurd z.1 (by decide))]
    exact (io k hk).2 h2⟩
  have giv : ∀ s, s < 320 → yZ_k J (zs_uM h 59 (yY_in s) v) (zs_uM g 118 s v) := fun s _ l => by
    obtain ⟨k1, k2, k3⟩ := kk l
    have e : ((zs_uM g 118 s v).2.1 114) = (g.2.1 114) := by
      funext j
      exact zu_MM.trans (if_neg fun z => absurd z.1 (by decide))
    rw [e]
    exact ⟨fun j hj => (zu_MM.trans (if_neg fun z => absurd z.1 (by decide))).trans (k1 j hj), k2, k3⟩
  unfold f_Mc_change f_Mc_change_18 f_Mo_put_37 f_Mo_put_82
  rcases ha with e | e | e | e <;> subst e
  · have hi' : i < 256 := hi
    have s2' : zt_3.getD 0 0 + nI i = nI (0 + i) := s2
    have s1' : f_Mo_spot (nI 0) (nI i) = nI i := s1
    refine ⟨0, _, _, ?_, ?_, zfr_M (by decide) zfr_rfl, zfr_M (by decide) zfr_rfl, yZ_given (s := i) (v := v) (by omega) (fun _ => hv (by decide)) io, giv i (by omega)⟩
    · rw [if_pos (zi_in (by decide) (by decide)), if_pos (show (nI 0 : Int32) = 0 from rfl), nI_clamp (n := 0) (by decide), s2', if_pos (zi_in (by omega) (by omega)), nI_clamp (n := 0 + i) (by omega), Nat.zero_add, show yY_in i = i from if_pos hi']
    · rw [if_pos (.inl rfl), s1', if_pos (zi_in (by omega) (by omega)), nI_clamp (n := i) (by omega)]
  · have hi' : i < 256 := hi
    have s2' : zt_3.getD 2 0 + nI i = nI (512 + i) := s2
    rw [if_pos (zi_in (by decide) (by decide)), if_neg (show ¬ (nI 2 : Int32) = 0 by decide), if_neg (show ¬ (nI 2 : Int32) = 3 by decide), nI_clamp (n := 2) (by decide), s2', el, if_neg (show ¬ ((2 : Nat) = 0 ∨ (2 : Nat) = 3) by decide), if_pos (show (2 : Nat) = 2 from rfl), show (512 : Int32) + nI i = nI (512 + i) from zc_da 512 i, if_pos (zi_in (a := 512 + i) (by omega) (by omega)), if_pos (zi_in (a := 512 + i) (by omega) (by omega)), nI_clamp (n := 512 + i) (by omega)]
    by_cases z : (g.1 68 82) = 0
    · rw [if_pos z, if_pos z]
      exact ⟨-5, h, g, rfl, rfl, zfr_rfl, zfr_rfl, io, kk⟩
    · rw [if_neg z, if_neg z]
      exact ⟨0, _, _, rfl, rfl, zfr_M (by decide) zfr_rfl, zfr_M (by decide) zfr_rfl, mem _ (by omega), yZ_mem (by omega) (fun _ => hv (by decide)) kk⟩
  · have hi' : i < 64 := hi
    have s2' : zt_3.getD 3 0 + nI i = nI (768 + i) := s2
    have s1' : f_Mo_spot (nI 3) (nI i) = nI (256 + i) := s1
    refine ⟨0, _, _, ?_, ?_, zfr_M (by decide) zfr_rfl, zfr_M (by decide) zfr_rfl, yZ_given (s := 256 + i) (v := v) (by omega) (fun q => absurd q (by omega)) io, giv (256 + i) (by omega)⟩
    · rw [if_pos (zi_in (by decide) (by decide)), if_neg (show ¬ (nI 3 : Int32) = 0 by decide), if_pos (show (nI 3 : Int32) = 3 from rfl), nI_clamp (n := 3) (by decide), s2', if_pos (zi_in (by omega) (by omega)), nI_clamp (n := 768 + i) (by omega), show yY_in (256 + i) = 512 + (256 + i) from if_neg (by omega), show 512 + (256 + i) = 768 + i by omega]
    · rw [if_pos (.inr rfl), s1', if_pos (zi_in (by omega) (by omega)), nI_clamp (n := 256 + i) (by omega)]
  · have hi' : i < 64 := hi
    have s2' : zt_3.getD 5 0 + nI i = nI (896 + i) := s2
    rw [if_pos (zi_in (by decide) (by decide)), if_neg (show ¬ (nI 5 : Int32) = 0 by decide), if_neg (show ¬ (nI 5 : Int32) = 3 by decide), nI_clamp (n := 5) (by decide), s2', el, if_neg (show ¬ ((5 : Nat) = 0 ∨ (5 : Nat) = 3) by decide), if_neg (show ¬ (5 : Nat) = 2 by decide), show (896 : Int32) + nI i = nI (896 + i) from zc_da 896 i, if_pos (zi_in (a := 896 + i) (by omega) (by omega)), if_pos (zi_in (a := 896 + i) (by omega) (by omega)), nI_clamp (n := 896 + i) (by omega)]
    by_cases z : (g.1 68 82) = 0
    · rw [if_pos z, if_pos z]
      exact ⟨-5, h, g, rfl, rfl, zfr_rfl, zfr_rfl, io, kk⟩
    · rw [if_neg z, if_neg z]
      exact ⟨0, _, _, rfl, rfl, zfr_M (by decide) zfr_rfl, zfr_M (by decide) zfr_rfl, mem _ (by omega), yZ_mem (by omega) (fun q => absurd q (by omega)) kk⟩
theorem yZ_put (x1 x2 x3 : Int32) (io : yY_io h g) (el : (h.1 58 3) = (g.1 68 82)) (kk : yZ_k J h g) : ∃ v' h' g', f_Pk_put h x1 x2 x3 = some (v', h') ∧ f_Mo_put g x1 x2 x3 = some (v', g') ∧ zfr [] [59, 62] [] h h' ∧ zfr [] [114, 118] [] g g' ∧ yY_io h' g' ∧ yZ_k J h' g' := by
  have no : ∃ v' h' g', some ((-1 : Int32), h) = some (v', h') ∧ some ((-1 : Int32), g) = some (v', g') ∧ zfr [] [59, 62] [] h h' ∧ zfr [] [114, 118] [] g g' ∧ yY_io h' g' ∧ yZ_k J h' g' := ⟨-1, h, g, rfl, rfl, zfr_rfl, zfr_rfl, io, kk⟩
  unfold f_Pk_put f_Mo_put
  rcases yZ_pl x1 x2 with ⟨e1, e2⟩ | ⟨a, i, ha, hi, rfl, rfl, e1, e2⟩
  · rw [e1, e2, Option.bind_some, if_pos rfl, if_neg (show ¬ (1 : Int32) = 0 by decide)]
    exact no
  rw [e1, e2, Option.bind_some, if_neg (show ¬ (1 : Int32) = 0 by decide), if_pos rfl]
  have q : ∀ k : Fin 6, (nI a = nI k.1) ↔ a = k.1 := fun k => nI_eq (by omega) (by omega)
  have q1 : (nI a = 1) ↔ a = 1 := q 1
  have q4 : (nI a = 4) ↔ a = 4 := q 4
  have q0 : (nI a = 0) ↔ a = 0 := q 0
  have q3 : (nI a = 3) ↔ a = 3 := q 3
  have q2 : (nI a = 2) ↔ a = 2 := q 2
  simp only [q0, q1, q2, q3, q4]
  rcases yZ_va (nI a) x3 with ⟨e3, e4⟩ | ⟨e3, e4, e5⟩
  · rw [e3, e4, if_neg (show ¬ (1 : Int32) = 0 by decide)]
    simp only [if_true, ite_self]
    exact no
  · rw [e3, e4, if_pos rfl]
    by_cases z1 : a = 1
    · rw [if_pos z1, if_pos z1]; exact no
    rw [if_neg z1, if_neg z1]
    by_cases z4 : a = 4
    · rw [if_pos z4, if_pos z4]; exact no
    rw [if_neg z4, if_neg z4, if_neg (show ¬ (1 : Int32) = 0 by decide)]
    obtain ⟨v', h', g', b1, b2, b3⟩ := yZ_chg (J := J) x3 (show a = 0 ∨ a = 2 ∨ a = 3 ∨ a = 5 by omega) hi (fun q => e5 (mt (zc_le (k := 3) (by decide) (by omega)).mp (by omega))) io el kk
    refine ⟨v', h', g', by rw [b1]; rfl, ?_, b3⟩
    rw [← b2]
    by_cases z0 : a = 0
    · rw [if_pos z0, if_pos (.inl z0)]
    · rw [if_neg z0]
      by_cases z3 : a = 3
      · rw [if_pos z3, if_pos (.inr z3)]
      · rw [if_neg z3, if_neg (show ¬ (a = 0 ∨ a = 3) from fun w => w.elim z0 z3)]
/-- what is seen at a place -/
theorem yZ_see {a i : Nat} (ha : a < 6) (hi : i < (if a < 3 then 256 else 64)) (io : yY_io h g) (kc : a = 2 ∨ a = 5 → ∀ j, j < 8192 → (h.2.1 62) j = (g.2.1 114) j) : f_Mc_seen h (nI a) (nI i) = (if a = 0 ∨ a = 3 then f_Mo_get_19 g (nI a) (nI i) else if a = 1 ∨ a = 4 then f_Mo_get_50 g (nI a) (nI i) else if a = 2 then f_Mo_get_85 g (512 + nI i) else f_Mo_get_85 g (896 + nI i)) ∧ ∃ v, f_Mc_seen h (nI a) (nI i) = some v := by
  obtain ⟨s1, s2⟩ := yZ_sp ha hi
  have a6 : a = 0 ∨ a = 1 ∨ a = 2 ∨ a = 3 ∨ a = 4 ∨ a = 5 := by omega
  unfold f_Mc_seen f_Mc_seen_18 f_Mc_seen_35 f_Mo_get_19 f_Mo_get_50 f_Mo_get_85
  rcases a6 with e | e | e | e | e | e <;> subst e
  · have hi' : i < 256 := hi
    have s2' : zt_3.getD 0 0 + nI i = nI (0 + i) := s2
    have s1' : f_Mo_spot (nI 0) (nI i) = nI i := s1
    have := (io i (by omega)).1.1
    rw [show yY_in i = i from if_pos hi'] at this
    rw [if_pos (zi_in (by decide) (by decide)), if_neg (show ¬ (nI 0 : Int32) = 2 by decide), if_neg (show ¬ (nI 0 : Int32) = 5 by decide), if_neg (show ¬ (nI 0 : Int32) = 1 by decide), if_neg (show ¬ (nI 0 : Int32) = 4 by decide), nI_clamp (n := 0) (by decide), s2', Nat.zero_add, if_pos (zi_in (by omega) (by omega)), nI_clamp (n := i) (by omega), if_pos (.inl rfl), s1', if_pos (zi_in (by omega) (by omega)), nI_clamp (n := i) (by omega), this]
    exact ⟨rfl, _, rfl⟩
  · have hi' : i < 256 := hi
    have s2' : zt_3.getD 1 0 + nI i = nI (256 + i) := s2
    have s1' : f_Mo_spot (nI 1) (nI i) = nI i := s1
    have := (io i (by omega)).1.2.1
    rw [show yY_ou i = 256 + i from if_pos hi'] at this
    rw [if_pos (zi_in (by decide) (by decide)), if_neg (show ¬ (nI 1 : Int32) = 2 by decide), if_neg (show ¬ (nI 1 : Int32) = 5 by decide), if_pos (show (nI 1 : Int32) = 1 from rfl), nI_clamp (n := 1) (by decide), s2', if_pos (zi_in (by omega) (by omega)), nI_clamp (n := 256 + i) (by omega), if_neg (show ¬ ((1 : Nat) = 0 ∨ (1 : Nat) = 3) by decide), if_pos (.inl rfl), s1', if_pos (zi_in (by omega) (by omega)), nI_clamp (n := i) (by omega), this]
    exact ⟨rfl, _, rfl⟩
  · have hi' : i < 256 := hi
    have s2' : zt_3.getD 2 0 + nI i = nI (512 + i) := s2
    rw [if_pos (zi_in (by decide) (by decide)), if_pos (show (nI 2 : Int32) = 2 from rfl), nI_clamp (n := 2) (by decide), s2', if_pos (zi_in (by omega) (by omega)), nI_clamp (n := 512 + i) (by omega), if_neg (show ¬ ((2 : Nat) = 0 ∨ (2 : Nat) = 3) by decide), if_neg (show ¬ ((2 : Nat) = 1 ∨ (2 : Nat) = 4) by decide), if_pos (show (2 : Nat) = 2 from rfl), show (512 : Int32) + nI i = nI (512 + i) from zc_da 512 i, if_pos (zi_in (by omega) (by omega)), nI_clamp (n := 512 + i) (by omega), kc (.inl rfl) _ (by omega)]
    exact ⟨rfl, _, rfl⟩
  · have hi' : i < 64 := hi
    have s2' : zt_3.getD 3 0 + nI i = nI (768 + i) := s2
    have s1' : f_Mo_spot (nI 3) (nI i) = nI (256 + i) := s1
    have := (io (256 + i) (by omega)).1.1
    rw [show yY_in (256 + i) = 512 + (256 + i) from if_neg (by omega), show 512 + (256 + i) = 768 + i by omega] at this
    rw [if_pos (zi_in (by decide) (by decide)), if_neg (show ¬ (nI 3 : Int32) = 2 by decide), if_neg (show ¬ (nI 3 : Int32) = 5 by decide), if_neg (show ¬ (nI 3 : Int32) = 1 by decide), if_neg (show ¬ (nI 3 : Int32) = 4 by decide), nI_clamp (n := 3) (by decide), s2', if_pos (zi_in (by omega) (by omega)), nI_clamp (n := 768 + i) (by omega), if_pos (.inr rfl), s1', if_pos (zi_in (by omega) (by omega)), nI_clamp (n := 256 + i) (by omega), this]
    exact ⟨rfl, _, rfl⟩
  · have hi' : i < 64 := hi
    have s2' : zt_3.getD 4 0 + nI i = nI (832 + i) := s2
    have s1' : f_Mo_spot (nI 4) (nI i) = nI (256 + i) := s1
    have := (io (256 + i) (by omega)).1.2.1
    rw [show yY_ou (256 + i) = 576 + (256 + i) from if_neg (by omega), show 576 + (256 + i) = 832 + i by omega] at this
    rw [if_pos (zi_in (by decide) (by decide)), if_neg (show ¬ (nI 4 : Int32) = 2 by decide), if_neg (show ¬ (nI 4 : Int32) = 5 by decide), if_neg (show ¬ (nI 4 : Int32) = 1 by decide), if_pos (show (nI 4 : Int32) = 4 from rfl), nI_clamp (n := 4) (by decide), s2', if_pos (zi_in (by omega) (by omega)), nI_clamp (n := 832 + i) (by omega), if_neg (show ¬ ((4 : Nat) = 0 ∨ (4 : Nat) = 3) by decide), if_pos (.inr rfl), s1', if_pos (zi_in (by omega) (by omega)), nI_clamp (n := 256 + i) (by omega), this]
    exact ⟨rfl, _, rfl⟩
  · have hi' : i < 64 := hi
    have s2' : zt_3.getD 5 0 + nI i = nI (896 + i) := s2
    rw [if_pos (zi_in (by decide) (by decide)), if_neg (show ¬ (nI 5 : Int32) = 2 by decide), if_pos (show (nI 5 : Int32) = 5 from rfl), nI_clamp (n := 5) (by decide), s2', if_pos (zi_in (by omega) (by omega)), nI_clamp (n := 896 + i) (by omega), if_neg (show ¬ ((5 : Nat) = 0 ∨ (5 : Nat) = 3) by decide), if_neg (show ¬ ((5 : Nat) = 1 ∨ (5 : Nat) = 4) by decide), if_neg (show ¬ (5 : Nat) = 2 by decide), show (896 : Int32) + nI i = nI (896 + i) from zc_da 896 i, if_pos (zi_in (by omega) (by omega)), nI_clamp (n := 896 + i) (by omega), kc (.inr rfl) _ (by omega)]
    exact ⟨rfl, _, rfl⟩
theorem yZ_get (x1 x2 : Int32) (io : yY_io h g) (el : (h.1 58 3) = (g.1 68 82)) (kc : ¬ (h.1 58 3) = 0 → ∀ j, j < 8192 → (h.2.1 62) j = (g.2.1 114) j) : ∃ v, f_Pk_get h x1 x2 = some v ∧ f_Mo_get g x1 x2 = some v := by
  unfold f_Pk_get f_Mo_get f_Pk_get_32
  rcases yZ_pl x1 x2 with ⟨e1, e2⟩ | ⟨a, i, ha, hi, rfl, rfl, e1, e2⟩
  · rw [e1, e2, Option.bind_some, if_pos rfl, if_neg (show ¬ (1 : Int32) = 0 by decide)]
    exact ⟨-1, rfl, rfl⟩
  rw [e1, e2, Option.bind_some, if_neg (show ¬ (1 : Int32) = 0 by decide), if_pos rfl, el]
  have q : ∀ k : Fin 6, (nI a = nI k.1) ↔ a = k.1 := fun k => nI_eq (by omega) (by omega)
  have q1 : (nI a = 1) ↔ a = 1 := q 1
  have q4 : (nI a = 4) ↔ a = 4 := q 4
  have q0 : (nI a = 0) ↔ a = 0 := q 0
  have q3 : (nI a = 3) ↔ a = 3 := q 3
  have q2 : (nI a = 2) ↔ a = 2 := q 2
  simp only [q0, q1, q2, q3, q4, Option.bind_fun_some]
  have fin : (a = 2 ∨ a = 5 → ∀ j, j < 8192 → (h.2.1 62) j = (g.2.1 114) j) → ∃ v, f_Mc_seen h (nI a) (nI i) = some v ∧ (if a = 0 ∨ a = 3 then f_Mo_get_19 g (nI a) (nI i) else if a = 1 ∨ a = 4 then f_Mo_get_50 g (nI a) (nI i) else if a = 2 then f_Mo_get_85 g (512 + nI i) else f_Mo_get_85 g (896 + nI i)) = some v := fun kc => by
    obtain ⟨b1, v, b2⟩ := yZ_see ha hi io kc
    exact ⟨v, b2, by rw [← b1]; exact b2⟩
  by_cases z0 : a = 0
  · obtain ⟨v, b1, b2⟩ := fin (fun z => by omega)
    rw [if_pos (.inl z0)] at b2
    refine ⟨v, ?_, by rw [if_pos z0]; exact b2⟩
    rw [if_pos z0]
    split <;> exact b1
  rw [if_neg z0, if_neg z0]
  by_cases z3 : a = 3
  · obtain ⟨v, b1, b2⟩ := fin (fun z => by omega)
    rw [if_pos (.inr z3)] at b2
    refine ⟨v, ?_, by rw [if_pos z3]; exact b2⟩
    rw [if_pos z3]
    split <;> exact b1
  rw [if_neg z3, if_neg z3]
  by_cases zl : (g.1 68 82) = 0
  · rw [if_pos zl, if_pos zl]
    exact ⟨-5, rfl, rfl⟩
  rw [if_neg zl, if_neg zl]
  obtain ⟨v, b1, b2⟩ := fin (fun _ => kc (by rw [el]; exact zl))
  rw [if_neg (show ¬ (a = 0 ∨ a = 3) from fun w => w.elim z0 z3)] at b2
  refine ⟨v, b1, ?_⟩
  rw [← b2]
  by_cases z1 : a = 1
  · rw [if_pos z1, if_pos (show a = 1 ∨ a = 4 from .inl z1)]
  rw [if_neg z1]
  by_cases z4 : a = 4
  · rw [if_pos z4, if_pos (show a = 1 ∨ a = 4 from .inr z4)]
  · rw [if_neg z4, if_neg (show ¬ (a = 1 ∨ a = 4) from fun w => w.elim z1 z4)]
theorem yZ_safe (x1 x2 x3 : Int32) (io : yY_io h g) : ∃ v' h' g', f_Pk_safe h x1 x2 x3 = some (v', h') ∧ f_Mo_safe g x1 x2 x3 = some (v', g') ∧ zfr [] [61] [] h h' ∧ zfr [] [120] [] g g' ∧ yY_io h' g' := by
  have no : ∃ v' h' g', some ((-1 : Int32), h) = some (v', h') ∧ some ((-1 : Int32), g) = some (v', g') ∧ zfr [] [61] [] h h' ∧ zfr [] [120] [] g g' ∧ yY_io h' g' := ⟨-1, h, g, rfl, rfl, zfr_rfl, zfr_rfl, io⟩
  have main : ∀ a, (a = 1 ∨ a = 4) → x1 = nI a → ∃ v' h' g', f_Pk_safe_10 h x1 x2 x3 = some (v', h') ∧ f_Mo_safe_10 g x1 x2 x3 = some (v', g') ∧ zfr [] [61] [] h h' ∧ zfr [] [120] [] g g' ∧ yY_io h' g' := by
    intro a ha e
    unfold f_Pk_safe_10 f_Mo_safe_10
    rcases yZ_pl x1 x2 with ⟨e1, e2⟩ | ⟨a', i, ha', hi, ea, rfl, e1, e2⟩
    · rw [e1, e2, Option.bind_some, if_pos rfl, if_neg (show ¬ (1 : Int32) = 0 by decide)]
      exact no
    have eq : a' = a := (nI_eq (by omega) (by omega)).mp (ea.symm.trans e)
    subst eq
    rw [e1, e2, Option.bind_some, if_neg (show ¬ (1 : Int32) = 0 by decide), if_pos rfl]
    rcases yZ_va x1 x3 with ⟨e3, e4⟩ | ⟨e3, e4, e5⟩
    · rw [e3, e4, if_pos rfl, if_neg (show ¬ (1 : Int32) = 0 by decide)]; exact no
    rw [e3, e4, if_pos rfl, if_neg (show ¬ (1 : Int32) = 0 by decide)]
    have e6 : a' = 1 → yJ_01 x3 := fun q => e5 (by rw [e, q]; decide)
    obtain ⟨s1, s2⟩ := yZ_sp ha' hi
    rw [e, s1, if_pos (zi_in (by omega) (by omega)), nI_clamp (n := a') (by omega), s2]
    rcases ha with z | z <;> subst z
    · have hi' : i < 256 := hi
      refine ⟨0, _, _, ?_, ?_, zfr_M (by decide) zfr_rfl, zfr_M (by decide) zfr_rfl, yZ_safeU (s := i) (v := x3) (by omega) (fun _ => e6 rfl) io⟩
      · show (if zd_in (nI (256 + i)) 960 then _ else _) = _
        rw [if_pos (zi_in (by omega) (by omega)), show yY_ou i = 256 + i from if_pos hi', show (nI ([0, 256, 512, 768, 832, 896, 960].getD 1 0 + i)).toNatClampNeg = 256 + i from nI_clamp (n := 256 + i) (by omega)]
      · show (if zd_in (nI i) 320 then _ else _) = _
        rw [if_pos (zi_in (by omega) (by omega)), show (nI (if 1 < 3 then i else 256 + i)).toNatClampNeg = i from nI_clamp (n := i) (by omega)]
    · have hi' : i < 64 := hi
      refine ⟨0, _, _, ?_, ?_, zfr_M (by decide) zfr_rfl, zfr_M (by decide) zfr_rfl, yZ_safeU (s := 256 + i) (v := x3) (by omega) (fun q => absurd q (by omega)) io⟩
      · show (if zd_in (nI (832 + i)) 960 then _ else _) = _
        rw [if_pos (zi_in (by omega) (by omega)), show yY_ou (256 + i) = 832 + i from (if_neg (by omega)).trans (by omega), show (nI ([0, 256, 512, 768, 832, 896, 960].getD 4 0 + i)).toNatClampNeg = 832 + i from nI_clamp (n := 832 + i) (by omega)]
      · show (if zd_in (nI (256 + i)) 320 then _ else _) = _
        rw [if_pos (zi_in (by omega) (by omega)), show (nI (if 4 < 3 then i else 256 + i)).toNatClampNeg = 256 + i from nI_clamp (n := 256 + i) (by omega)]
  unfold f_Pk_safe f_Mo_safe
  by_cases z1 : x1 = 1
  · rw [if_pos z1, if_pos z1]; exact main 1 (.inl rfl) z1
  rw [if_neg z1, if_neg z1]
  by_cases z4 : x1 = 4
  · rw [if_pos z4, if_pos z4]; exact main 4 (.inr rfl) z4
  rw [if_neg z4, if_neg z4]
  exact no
end YZC
