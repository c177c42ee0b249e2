/-! The judge: what keeps the tables; nodes without children. -/
abbrev zv_kf : List (Nat × Nat) := [(38, 5), (38, 6), (38, 7), (38, 8), (38, 9), (38, 10), (38, 12)]
abbrev zv_km : List Nat := [13, 14, 16, 17, 39]
abbrev zv_gm : List Nat := [100, 101, 102]
theorem zv_Ifr {LC LM : List (List Int32)} {nb nf ns : Nat} {F : Nat → Nat} {q : Int32} {h g h' g' : zs_H} (I : zv_I LC LM nb nf ns F q h g) (a : zfr zv_kf zv_km [] h h') (b : zfr [] zv_gm [] g g') : zv_I LC LM nb nf ns F q h' g' := by
  obtain ⟨HS, HB, HN, HV, HC, HT, HJ, J1, J2⟩ := I
  have e21 : h'.2.1 21 = h.2.1 21 := a.2.1 _ (by decide)
  have e22 : h'.2.1 22 = h.2.1 22 := a.2.1 _ (by decide)
  have e23 : h'.2.1 23 = h.2.1 23 := a.2.1 _ (by decide)
  have e24 : h'.2.1 24 = h.2.1 24 := a.2.1 _ (by decide)
  have e25 : h'.2.1 25 = h.2.1 25 := a.2.1 _ (by decide)
  have e26 : h'.2.1 26 = h.2.1 26 := a.2.1 _ (by decide)
  have e27 : h'.2.1 27 = h.2.1 27 := a.2.1 _ (by decide)
  have e28 : h'.2.1 28 = h.2.1 28 := a.2.1 _ (by decide)
  have e29 : h'.2.1 29 = h.2.1 29 := a.2.1 _ (by decide)
  have e30 : h'.2.1 30 = h.2.1 30 := a.2.1 _ (by decide)
  have e31 : h'.2.1 31 = h.2.1 31 := a.2.1 _ (by decide)
  have e32 : h'.2.1 32 = h.2.1 32 := a.2.1 _ (by decide)
  have e33 : h'.2.1 33 = h.2.1 33 := a.2.1 _ (by decide)
  have e34 : h'.2.1 34 = h.2.1 34 := a.2.1 _ (by decide)
  have e35 : h'.2.1 35 = h.2.1 35 := a.2.1 _ (by decide)
  have e36 : h'.2.1 36 = h.2.1 36 := a.2.1 _ (by decide)
  have e37 : h'.2.1 37 = h.2.1 37 := a.2.1 _ (by decide)
  have e40 : h'.2.1 40 = h.2.1 40 := a.2.1 _ (by decide)
  have g85 : g'.2.1 85 = g.2.1 85 := b.2.1 _ (by decide)
  have g86 : g'.2.1 86 = g.2.1 86 := b.2.1 _ (by decide)
  have g87 : g'.2.1 87 = g.2.1 87 := b.2.1 _ (by decide)
  have g88 : g'.2.1 88 = g.2.1 88 := b.2.1 _ (by decide)
  have g89 : g'.2.1 89 = g.2.1 89 := b.2.1 _ (by decide)
  have g90 : g'.2.1 90 = g.2.1 90 := b.2.1 _ (by decide)
  have g91 : g'.2.1 91 = g.2.1 91 := b.2.1 _ (by decide)
  have g92 : g'.2.1 92 = g.2.1 92 := b.2.1 _ (by decide)
  have g93 : g'.2.1 93 = g.2.1 93 := b.2.1 _ (by decide)
  have g94 : g'.2.1 94 = g.2.1 94 := b.2.1 _ (by decide)
  have g95 : g'.2.1 95 = g.2.1 95 := b.2.1 _ (by decide)
  have g96 : g'.2.1 96 = g.2.1 96 := b.2.1 _ (by decide)
  have g97 : g'.2.1 97 = g.2.1 97 := b.2.1 _ (by decide)
  have g98 : g'.2.1 98 = g.2.1 98 := b.2.1 _ (by decide)
  have g99 : g'.2.1 99 = g.2.1 99 := b.2.1 _ (by decide)
  have f17 : h'.1 20 17 = h.1 20 17 := a.1 _ _ (by decide)
  have f18 : h'.1 20 18 = h.1 20 18 := a.1 _ _ (by decide)
  have f19 : h'.1 20 19 = h.1 20 19 := a.1 _ _ (by decide)
  have j3 : h'.1 38 3 = h.1 38 3 := a.1 _ _ (by decide)
  have j4 : h'.1 38 4 = h.1 38 4 := a.1 _ _ (by decide)
  have k29 : g'.1 68 29 = g.1 68 29 := b.1 _ _ (by decide)
  have k33 : g'.1 68 33 = g.1 68 33 := b.1 _ _ (by decide)
  have k41 : g'.1 68 41 = g.1 68 41 := b.1 _ _ (by decide)
  have k54 : g'.1 68 54 = g.1 68 54 := b.1 _ _ (by decide)
  refine ⟨zv_Sfr HS b (by decide) (by decide) (by decide), ?_, ?_, ?_, ?_, ?_, ?_, j3.trans J1, k29.trans J2⟩
  · unfold zv_B zj_ST at HB ⊢; simp only [e21, e22, e23, e24, e25, e26, e27, e28, e29, e30, e31, e32, e33, e34, e35, e36, e37, e40, g85, g86, g87, g88, g89, g90, g91, g92, g93, g94, g95, g96, g97, g98, g99, f17, f18, f19, j3, j4, k29, k33, k41, k54]; exact HB
  · unfold zv_N at HN ⊢; simp only [e21, e22, e23, e24, e25, e26, e27, e28, e29, e30, e31, e32, e33, e34, e35, e36, e37, e40, g85, g86, g87, g88, g89, g90, g91, g92, g93, g94, g95, g96, g97, g98, g99, f17, f18, f19, j3, j4, k29, k33, k41, k54]; exact HN
  · unfold zv_V zv_Q at HV ⊢; simp only [e21, e22, e23, e24, e25, e26, e27, e28, e29, e30, e31, e32, e33, e34, e35, e36, e37, e40, g85, g86, g87, g88, g89, g90, g91, g92, g93, g94, g95, g96, g97, g98, g99, f17, f18, f19, j3, j4, k29, k33, k41, k54]; exact HV
  · unfold zv_C at HC ⊢; simp only [e21, e22, e23, e24, e25, e26, e27, e28, e29, e30, e31, e32, e33, e34, e35, e36, e37, e40, g85, g86, g87, g88, g89, g90, g91, g92, g93, g94, g95, g96, g97, g98, g99, f17, f18, f19, j3, j4, k29, k33, k41, k54]; exact HC
  · unfold zv_T at HT ⊢; simp only [e21, e22, e23, e24, e25, e26, e27, e28, e29, e30, e31, e32, e33, e34, e35, e36, e37, e40, g85, g86, g87, g88, g89, g90, g91, g92, g93, g94, g95, g96, g97, g98, g99, f17, f18, f19, j3, j4, k29, k33, k41, k54]; exact HT
  · simp only [e21, e22, e23, e24, e25, e26, e27, e28, e29, e30, e31, e32, e33, e34, e35, e36, e37, e40, g85, g86, g87, g88, g89, g90, g91, g92, g93, g94, g95, g96, g97, g98, g99, f17, f18, f19, j3, j4, k29, k33, k41, k54]; exact HJ
theorem zv_ent0 {h : zs_H} {i kd : Nat} (hi : i < 32784) (hkd : kd < 100) (c : (h.2.1 13) i = nI kd) (hk : ¬ kd ∈ [1, 2, 3, 4, 5, 13, 16, 19, 22, 24]) : f_Jd_enter h (nI i) = some h := by
  have e : ∀ j, j < 100 → j ∈ [1, 2, 3, 4, 5, 13, 16, 19, 22, 24] → ¬ nI kd = nI j := fun j h1 h2 z => hk (by rw [(nI_eq (by omega) (by omega)).mp z]; exact h2)
  unfold f_Jd_enter
  rw [if_pos (zi_in (by omega) hi), nI_clamp (by omega), c]
  rw [if_neg (show ¬ nI kd = 1 from e 1 (by decide) (by decide)), if_neg (show ¬ nI kd = 2 from e 2 (by decide) (by decide)), if_neg (show ¬ nI kd = 3 from e 3 (by decide) (by decide)), if_neg (show ¬ nI kd = 4 from e 4 (by decide) (by decide)), if_neg (show ¬ nI kd = 5 from e 5 (by decide) (by decide)), if_neg (show ¬ nI kd = 13 from e 13 (by decide) (by decide)), if_neg (show ¬ nI kd = 16 from e 16 (by decide) (by decide)), if_neg (show ¬ nI kd = 19 from e 19 (by decide) (by decide)), if_neg (show ¬ nI kd = 22 from e 22 (by decide) (by decide)), if_neg (show ¬ nI kd = 24 from e 24 (by decide) (by decide))]
/-- a node without children -/
theorem zv_leaf {D D' d i k kd : Nat} {h g : zs_H} (hd : d ≤ 240) (hi : i < 32784) (hk : k < 33500) (hkd : kd < 100) (hkb : kd = 0 ∨ 4 ≤ kd) (h35 : ¬ kd = 35) (hke : ¬ kd ∈ [1, 2, 3, 4, 5, 13, 16, 19, 22, 24]) (c : (h.2.1 13) i = nI kd) (c2 : (h.2.1 17) i = -1) {km : Nat} (hkm : km < 100) (hkmb : km = 0 ∨ 4 ≤ km) (hm35 : ¬ km = 35) (m1 : (g.2.1 72) k = nI km) (m2 : (g.2.1 76) k = -1) (J1 : (h.1 38 3) = 0) : f_Jd_visit (D + 1) h (nI i) (nI d) = f_Jd_leave h (nI i) ∧ f_Mo_look (D' + 2) g (nI k) = f_Mo_lookAlone_54 g (nI k) (nI km) := by
  have := zv_node (D := D) (D' := D') (d := d) (sz := 0) (i := i) (k := k) (kd := km) (l := .leaf) (h := h) (h1 := h) (g := g) (St := fun u h' g' x x' => u = .leaf ∧ h' = h ∧ g' = g ∧ x = -1 ∧ x' = -1) (Fb := fun _ _ => False) hd (by omega) hi hk hkm hkmb hm35 m1 (zv_ent0 hi hkd c hke) (fun c kv w l r h g x x' z => by cases z.1) (fun h g x x' z => ⟨z.2.2.2.1, z.2.2.2.2⟩) ⟨rfl, rfl, rfl, c2, m2⟩ (Nat.le_refl _)
  rcases this with ⟨_, _, _, _, z, _⟩ | ⟨h', g', ⟨_, z1, z2, _⟩, e1, e2⟩
  · exact absurd z id
  · subst z1; subst z2
    refine ⟨?_, ?_⟩
    · rw [e1]
      unfold f_Jd_visit_74
      rw [if_pos J1, Option.bind_fun_some]
    · rw [e2, Option.bind_fun_some]
/-- a constant, 30 or 31 -/
theorem zv_const {D D' d i k kd : Nat} {h g : zs_H} {v : Int32} (hd : d ≤ 240) (hi : i < 32784) (hk : k < 33500) (hkd : kd = 30 ∨ kd = 31) (c : (h.2.1 13) i = nI kd) (c2 : (h.2.1 17) i = -1) (c3 : (h.2.1 16) i = v) (c4 : (h.2.1 14) i = 0) (m1 : (g.2.1 72) k = nI kd) (m2 : (g.2.1 76) k = -1) (m3 : (g.2.1 74) k = v) (J1 : (h.1 38 3) = 0) (J2 : (g.1 68 29) = 0) : ∃ h' g', f_Jd_visit (D + 1) h (nI i) (nI d) = some h' ∧ f_Mo_look (D' + 2) g (nI k) = some g' ∧ (h'.2.1 14) i = (if kd = 31 then 0 else if 32767 < v then 2 else 1) ∧ (g'.2.1 100) k = (if kd = 31 then 0 else if 32767 < v then 2 else 1) ∧ (∀ j, ¬ j = i → (h'.2.1 14) j = (h.2.1 14) j) ∧ (∀ j, ¬ j = k → (g'.2.1 100) j = (g.2.1 100) j) ∧ zfr [] [14] [] h h' ∧ zfr [] [100] [] g g' := by
  have hke : ¬ kd ∈ [1, 2, 3, 4, 5, 13, 16, 19, 22, 24] := by rcases hkd with e | e <;> rw [e] <;> decide
  obtain ⟨e1, e2⟩ := zv_leaf (D := D) (D' := D') hd hi hk (by omega) (by omega) (by omega) hke c c2 (by omega) (by omega) (by omega) m1 m2 J1
  rw [e1, e2]
  have hin : zd_in (nI i) 32784 := zi_in (by omega) hi
  have ci : (nI i).toNatClampNeg = i := nI_clamp (by omega)
  have hik : zd_in (nI k) 33500 := zi_in (by omega) hk
  have ck : (nI k).toNatClampNeg = k := nI_clamp (by omega)
  unfold f_Jd_leave f_Jd_leave_438 f_Mo_lookAlone_54 f_Mo_lookAtExpressions f_Mo_lookAtExpressions_66
  rw [if_pos J2]
  have e6 : (v ≤ 32767) ↔ ¬ 32767 < v := Int32.not_lt.symm
  rcases hkd with e | e
  · subst e
    simp (config := { decide := true }) only [if_pos hin, ci, c, if_pos hik, ck, m1, m3, c3, if_false, if_true, e6, Option.bind_fun_some]
    by_cases z : 32767 < v
    · simp only [z, not_true, if_true, if_false]
      refine ⟨_, _, rfl, rfl, ?_, ?_, fun j hj => ?_, fun j hj => ?_, zfr_M (by decide) zfr_rfl, zfr_M (by decide) zfr_rfl⟩
      · rw [zu_MM, if_pos ⟨rfl, rfl⟩]; rfl
      · rw [zu_MM, if_pos ⟨rfl, rfl⟩]
      · rw [zu_MM, if_neg (fun u => hj u.2)]
      · rw [zu_MM, if_neg (fun u => hj u.2)]
    · simp only [z, not_false_iff, if_true, if_false]
      refine ⟨_, _, rfl, rfl, ?_, ?_, fun j hj => ?_, fun j hj => ?_, zfr_M (by decide) zfr_rfl, zfr_M (by decide) zfr_rfl⟩
      · rw [zu_MM, if_pos ⟨rfl, rfl⟩]; rfl
      · rw [zu_MM, if_pos ⟨rfl, rfl⟩]
      · rw [zu_MM, if_neg (fun u => hj u.2)]
      · rw [zu_MM, if_neg (fun u => hj u.2)]
  · subst e
    simp (config := { decide := true }) only [if_pos hin, ci, c, if_pos hik, ck, m1, if_false, if_true, Option.bind_fun_some]
    refine ⟨_, _, rfl, rfl, c4, ?_, fun j hj => rfl, fun j hj => ?_, zfr_rfl, zfr_M (by decide) zfr_rfl⟩
    · rw [zu_MM, if_pos ⟨rfl, rfl⟩]
    · rw [zu_MM, if_neg (fun u => hj u.2)]
