section
/-! The judge: both sides settle the variables of a declaration. -/
theorem zv_pcM : ∀ p, p < 1536 → (768 ≤ p → p % 256 < 64) → ((if (768 : Int32) ≤ nI p then 576 else 0) + (nI p / 256) * (if (768 : Int32) ≤ nI p then 64 else 256)) + (nI p - nI p / 256 * 256) = nI (zv_pc p) := by
  have key : ∀ p, p < 1536 → (p < 768 ∨ p % 256 < 64) → ((if (768 : Int32) ≤ nI p then 576 else 0) + (nI p / 256) * (if (768 : Int32) ≤ nI p then 64 else 256)) + (nI p - nI p / 256 * 256) = nI (zv_pc p) := by decide +kernel
  intro p h1 h2
  exact key p h1 (by omega)
abbrev zv_pl (pl : Int32) (x y y' s : Nat) : Prop := (pl = -1 ∧ x = y ∧ y' = y + s) ∨ ∃ p, p < 1536 ∧ (768 ≤ p → p % 256 < 64) ∧ pl = nI p ∧ x = zv_pc p ∧ y' = y
theorem zv_stepC {K : zs_H → Int32 → Int32 → Int32 → Int32 → Int32 → Int32 → Int32 → Option zs_H} {h : zs_H} {nb n v x y y' s : Nat} {ty pl co inst low : Int32} (hn : (h.1 20 18) = nI (32 + n)) (hv : v < n) (hn2 : n ≤ 5900) (hj : (h.1 38 4) = nI (8 + nb)) (hnb : nb ≤ 568) (hy : (h.2.1 25) (8 + nb) = nI y) (hpl : zv_pl pl x y y' s) :
    ∃ h', f_Jd_settle_124 K h ty pl co inst low (nI s) (nI (32 + v)) = K h' ty pl co inst low (nI s) (nI (32 + (v + 1))) ∧ (∀ j, (h'.2.1 30) j = if j = 32 + v then inst else (h.2.1 30) j) ∧ (∀ j, (h'.2.1 31) j = if j = 32 + v then ty else (h.2.1 31) j) ∧ (∀ j, (h'.2.1 33) j = if j = 32 + v then low else (h.2.1 33) j) ∧ (∀ j, (h'.2.1 34) j = if j = 32 + v then nI s else (h.2.1 34) j) ∧ (∀ j, (h'.2.1 35) j = if j = 32 + v then co else (h.2.1 35) j) ∧ (∀ j, (h'.2.1 32) j = if j = 32 + v then nI x else (h.2.1 32) j) ∧ (∀ j, (h'.2.1 25) j = if j = 8 + nb then nI y' else (h.2.1 25) j) ∧
      zfr [] [30, 31, 33, 34, 35, 32, 25] [] h h' := by
  have hl : ¬ nI (32 + n) ≤ nI (32 + v) := mt (nI_leI (by omega) (by omega)).mp (by omega)
  have hiv : zd_in (nI (32 + v)) 6000 := zi_in (by omega) (by omega)
  have cv : (nI (32 + v)).toNatClampNeg = 32 + v := nI_clamp (by omega)
  have cn : (nI (8 + nb)).toNatClampNeg = 8 + nb := nI_clamp (by omega)
  have hin : zd_in (nI (8 + nb)) 629 := zi_in (by omega) (by omega)
  unfold f_Jd_settle_124 f_Jd_settle_256
  rcases hpl with ⟨r1, r2, r3⟩ | ⟨p, p1, p2, p3, p4, p5⟩
  · subst r1; subst r2; subst r3
    simp only [hn, if_neg hl, if_pos hiv, cv, if_true, hj, if_pos hin, cn, hy, nI_add, nI_1, Nat.add_assoc]
    refine ⟨_, rfl, fun j => ?_, fun j => ?_, fun j => ?_, fun j => ?_, fun j => ?_, fun j => ?_, fun j => ?_, ?_⟩
    all_goals first | (refine zfr_M (by decide) ?_; repeat (first | exact zfr_rfl | refine zfr_M (by decide) ?_ | refine zfr_F (by decide) ?_)) | simp only [zu_FM, zu_MM, zu_FF, zu_MF, Nat.reduceEqDiff, and_true, true_and, and_false, false_and, if_true, if_false]
  · subst p3; subst p4; subst p5
    simp only [hn, if_neg hl, if_pos hiv, cv, if_neg (zc_m1 (show p < 2147483648 by omega)), (zv_pcC p p1 p2).1, Option.bind_some, nI_1, Nat.add_assoc]
    refine ⟨_, rfl, fun j => ?_, fun j => ?_, fun j => ?_, fun j => ?_, fun j => ?_, fun j => ?_, fun j => ?_, ?_⟩
    all_goals first | (refine zfr_M (by decide) ?_; repeat (first | exact zfr_rfl | refine zfr_M (by decide) ?_ | refine zfr_F (by decide) ?_)) | simp only [zu_FM, zu_MM, zu_FF, zu_MF, Nat.reduceEqDiff, and_true, true_and, and_false, false_and, if_true, if_false]
    by_cases z : j = 8 + nb
    · rw [if_pos z, z, hy]
    · rw [if_neg z]
theorem zv_stepM {K : zs_H → Int32 → Int32 → Int32 → Int32 → Int32 → Int32 → Int32 → Int32 → Int32 → Option zs_H} {g : zs_H} {hb v kj x y y' s : Nat} {x1 x4 x5 pl co so of low : Int32} (hv : v < 8400) (hkj : kj < 33500) (hj : (g.1 68 54) = nI hb) (hnb : hb < 2100) (hy : (g.2.1 88) hb = nI y) (hkd : (g.2.1 72) kj = 6) (hpl : zv_pl pl x y y' s) (hp0 : (g.2.1 96) v = -1)
    (hlow : (so = 1 ∧ ∃ kt k1, x4 = nI kt ∧ kt < 33500 ∧ (g.2.1 76) kt = nI k1 ∧ k1 < 33500 ∧ (g.2.1 74) k1 = low) ∨ (¬ so = 1 ∧ low = 0)) (hco : (x5 = -1 ∧ co = 0) ∨ ∃ kc, kc < 33500 ∧ x5 = nI kc ∧ (g.2.1 74) kc = co) :
    ∃ g', f_Mo_lookAtDeclaration_480 K g x1 pl x4 x5 so of (nI s) (nI v) (nI kj) = K g' x1 pl x4 x5 so of (nI s) (nI (v + 1)) ((g.2.1 78) kj) ∧ (∀ j, (g'.2.1 92) j = if j = v then so else (g.2.1 92) j) ∧ (∀ j, (g'.2.1 93) j = if j = v then of else (g.2.1 93) j) ∧ (∀ j, (g'.2.1 94) j = if j = v then nI x else (g.2.1 94) j) ∧ (∀ j, (g'.2.1 96) j = if j = v then pl else (g.2.1 96) j) ∧ (∀ j, (g'.2.1 97) j = if j = v then low else (g.2.1 97) j) ∧ (∀ j, (g'.2.1 98) j = if j = v then nI s else (g.2.1 98) j) ∧ (∀ j, (g'.2.1 99) j = if j = v then co else (g.2.1 99) j) ∧ (∀ j, (g'.2.1 88) j = if j = hb then nI y' else (g.2.1 88) j) ∧ (∀ j, ¬ j = kj → (g'.2.1 101) j = (g.2.1 101) j) ∧
      zfr [] [92, 93, 94, 96, 97, 98, 99, 88, 101] [] g g' := by
  have hik : zd_in (nI kj) 33500 := zi_in (by omega) hkj
  have ck : (nI kj).toNatClampNeg = kj := nI_clamp (by omega)
  have hiv : zd_in (nI v) 8400 := zi_in (by omega) hv
  have cv : (nI v).toNatClampNeg = v := nI_clamp (by omega)
  have hih : zd_in (nI hb) 2100 := zi_in (by omega) hnb
  have ch : (nI hb).toNatClampNeg = hb := nI_clamp (by omega)
  -- the end of a turn
  have fin : ∀ (g1 : zs_H), (∀ j, g1.2.1 72 j = g.2.1 72 j) → (∀ j, (g1.2.1 76) j = (g.2.1 76) j) → (∀ j, (g1.2.1 74) j = (g.2.1 74) j) → (∀ j, (g1.2.1 78) j = (g.2.1 78) j) → ∃ g', f_Mo_lookAtDeclaration_573 K g1 x1 pl x4 x5 so of (nI s) (nI v) (nI kj) = K g' x1 pl x4 x5 so of (nI s) (nI (v + 1)) ((g.2.1 78) kj) ∧ g' = zs_uM (zs_uM (zs_uM (zs_uM g1 101 kj ((g1.2.1 94) v)) 97 v low) 98 v (nI s)) 99 v co := by
    intro g1 e1 e2 e3 e4
    unfold f_Mo_lookAtDeclaration_573 f_Mo_lookAtDeclaration_615 f_Mo_lookAtDeclaration_647
    simp only [if_pos hiv, if_pos hik, ck, cv, zu_MM, Nat.reduceEqDiff, false_and, if_false, e2, e3, e4, nI_1]
    have tail : ∀ G : zs_H, (∀ j, (G.2.1 74) j = (g.2.1 74) j) → (if (0 : Int32) ≤ x5 then (if zd_in x5 33500 then K (zs_uM G 99 v ((g.2.1 74) x5.toNatClampNeg)) x1 pl x4 x5 so of (nI s) (nI (v + 1)) ((g.2.1 78) kj) else none) else K (zs_uM G 99 v 0) x1 pl x4 x5 so of (nI s) (nI (v + 1)) ((g.2.1 78) kj)) = K (zs_uM G 99 v co) x1 pl x4 x5 so of (nI s) (nI (v + 1)) ((g.2.1 78) kj) := by
      intro G _
      rcases hco with ⟨r1, r2⟩ | ⟨kc, r1, r2, r3⟩
      · rw [r1, r2, if_neg (by decide)]
      · rw [r2, if_pos ((zc_le (k := 0) (by decide) (by omega)).mpr (by omega)), if_pos (zi_in (by omega) r1), nI_clamp (by omega), r3]
    rcases hlow with ⟨l1, kt, k1, l2, l3, l4, l5, l6⟩ | ⟨l1, l2⟩
    · subst l1
      simp only [l2, if_true, if_pos (zi_in (show kt < 2147483648 by omega) l3), nI_clamp (show kt < 2147483648 by omega), l4, if_pos (zi_in (show k1 < 2147483648 by omega) l5), nI_clamp (show k1 < 2147483648 by omega), l6]
      rw [← l2, tail _ (fun j => by simp only [zu_MM, Nat.reduceEqDiff, false_and, if_false, e3])]
      exact ⟨_, rfl, rfl⟩
    · simp only [if_neg l1]
      rw [tail _ (fun j => by simp only [zu_MM, Nat.reduceEqDiff, false_and, if_false, e3]), l2]
      exact ⟨_, rfl, rfl⟩
  unfold f_Mo_lookAtDeclaration_480 f_Mo_lookAtDeclaration_509 f_Mo_layOut
  rcases hpl with ⟨r1, r2, r3⟩ | ⟨p, p1, p2, p3, p4, p5⟩
  · subst r1; subst r2; subst r3
    simp only [if_pos hik, ck, hkd, if_true, if_neg (show ¬ (0 : Int32) ≤ -1 by decide), if_pos hiv, cv, hj, if_pos hih, ch, hy, Option.bind_some, nI_add, if_pos (show (-1 : Int32) < 0 by decide)]
    obtain ⟨g', e1, e2⟩ := fin (zs_uM (zs_uM (zs_uM (zs_uM g 92 v so) 93 v of) 94 v (nI x)) 88 hb (nI (x + s))) (fun j => by simp only [zu_MM, Nat.reduceEqDiff, false_and, if_false]) (fun j => by simp only [zu_MM, Nat.reduceEqDiff, false_and, if_false]) (fun j => by simp only [zu_MM, Nat.reduceEqDiff, false_and, if_false]) (fun j => by simp only [zu_MM, Nat.reduceEqDiff, false_and, if_false])
    refine ⟨g', e1, ?_⟩
    rw [e2]
    refine ⟨fun j => ?_, fun j => ?_, fun j => ?_, fun j => ?_, fun j => ?_, fun j => ?_, fun j => ?_, fun j => ?_, fun j hj => ?_, ?_⟩
    all_goals first | (refine zfr_M (by decide) ?_; repeat (first | exact zfr_rfl | refine zfr_M (by decide) ?_ | refine zfr_F (by decide) ?_)) | simp only [zu_FM, zu_MM, zu_FF, zu_MF, Nat.reduceEqDiff, and_true, true_and, and_false, false_and, if_true, if_false]
    · by_cases z : j = v
      · rw [if_pos z, z, hp0]
      · rw [if_neg z]
    · rw [if_neg hj]
  · subst p3; subst p4; subst p5
    have hp : ¬ nI p < 0 := mt (zc_tl (k := 0) (by decide) (by omega)).mp (by omega)
    have hpm := zv_pcM p p1 p2
    simp only [if_pos hik, ck, hkd, if_true, if_pos ((zc_le (k := 0) (by decide) (show p < 2147483648 by omega)).mpr (Nat.zero_le p)), if_pos hiv, cv, hj, if_pos hih, ch, hy, Option.bind_some, Int32.add_zero, if_neg hp]
    unfold f_Mo_lookAtDeclaration_544 f_Mo_lookAtDeclaration_564
    simp only [if_pos hiv, cv]
    have e5 : ∀ (G : zs_H), (if (768 : Int32) ≤ nI p then (if (768 : Int32) ≤ nI p then f_Mo_lookAtDeclaration_573 K (zs_uM G 94 v (576 + nI p / 256 * 64 + (nI p - nI p / 256 * 256))) x1 (nI p) x4 x5 so of (nI s) (nI v) (nI kj) else f_Mo_lookAtDeclaration_573 K (zs_uM G 94 v (576 + nI p / 256 * 256 + (nI p - nI p / 256 * 256))) x1 (nI p) x4 x5 so of (nI s) (nI v) (nI kj)) else (if (768 : Int32) ≤ nI p then f_Mo_lookAtDeclaration_573 K (zs_uM G 94 v (0 + nI p / 256 * 64 + (nI p - nI p / 256 * 256))) x1 (nI p) x4 x5 so of (nI s) (nI v) (nI kj) else f_Mo_lookAtDeclaration_573 K (zs_uM G 94 v (0 + nI p / 256 * 256 + (nI p - nI p / 256 * 256))) x1 (nI p) x4 x5 so of (nI s) (nI v) (nI kj))) = f_Mo_lookAtDeclaration_573 K (zs_uM G 94 v (nI (zv_pc p))) x1 (nI p) x4 x5 so of (nI s) (nI v) (nI kj) := by
      intro G
      rw [← hpm]
      by_cases z : (768 : Int32) ≤ nI p
      · simp only [if_pos z]
      · simp only [if_neg z]
    rw [e5]
    obtain ⟨g', e1, e2⟩ := fin (zs_uM (zs_uM (zs_uM (zs_uM (zs_uM (zs_uM g 92 v so) 93 v of) 94 v (nI y')) 88 hb (nI y')) 96 v (nI p)) 94 v (nI (zv_pc p))) (fun j => by simp only [zu_MM, Nat.reduceEqDiff, false_and, if_false]) (fun j => by simp only [zu_MM, Nat.reduceEqDiff, false_and, if_false]) (fun j => by simp only [zu_MM, Nat.reduceEqDiff, false_and, if_false]) (fun j => by simp only [zu_MM, Nat.reduceEqDiff, false_and, if_false])
    refine ⟨g', e1, ?_⟩
    rw [e2]
    refine ⟨fun j => ?_, fun j => ?_, fun j => ?_, fun j => ?_, fun j => ?_, fun j => ?_, fun j => ?_, fun j => ?_, fun j hj => ?_, ?_⟩
    all_goals first | (refine zfr_M (by decide) ?_; repeat (first | exact zfr_rfl | refine zfr_M (by decide) ?_ | refine zfr_F (by decide) ?_)) | simp only [zu_FM, zu_MM, zu_FF, zu_MF, Nat.reduceEqDiff, and_true, true_and, and_false, false_and, if_true, if_false]
    all_goals (split <;> first | rfl | simp_all)
end
section
/-! The judge: the loops that settle a declaration's variables. -/
/-- r names, then something else -/
def zv_ch (Q : Nat → Prop) (g : zs_H) : Nat → Int32 → Prop
  | 0, x => ∃ k, k < 33500 ∧ x = nI k ∧ ¬ (g.2.1 72) k = 6
  | r + 1, x => ∃ k, k < 33500 ∧ x = nI k ∧ (g.2.1 72) k = 6 ∧ Q k ∧ zv_ch Q g r ((g.2.1 78) k)
theorem zv_chF {Q : Nat → Prop} {g g' : zs_H} (e1 : g'.2.1 72 = g.2.1 72) (e2 : g'.2.1 78 = g.2.1 78) : ∀ r x, zv_ch Q g r x → zv_ch Q g' r x := by
  intro r
  induction r with
  | zero => intro x ⟨k, h1, h2, h3⟩; exact ⟨k, h1, h2, by rw [e1]; exact h3⟩
  | succ r ih => intro x ⟨k, h1, h2, h3, h5, h4⟩; exact ⟨k, h1, h2, by rw [e1]; exact h3, h5, by rw [e2]; exact ih _ h4⟩
abbrev zv_sc : List Nat := [30, 31, 33, 34, 35, 32, 25]
abbrev zv_sm : List Nat := [92, 93, 94, 96, 97, 98, 99, 88, 101]
abbrev zv_in (nb ty s : Nat) (inst so of : Int32) (h : zs_H) : Prop := (inst = -1 ∧ so = 0 ∧ of = nI ty ∧ s = 1) ∨ (inst = -2 ∧ so = 1 ∧ of = nI ty ∧ 1 ≤ s ∧ s ≤ 256) ∨ (∃ B, B < 8 + nb ∧ inst = nI B ∧ so = 2 ∧ of = nI (if B < 9 then 100000 + B else B - 9) ∧ (9 ≤ B → (h.2.1 21) B = 2) ∧ (h.2.1 26) B = nI s)
abbrev zv_lo (x4 so low : Int32) (g : zs_H) : Prop := (so = 1 ∧ ∃ kt k1, x4 = nI kt ∧ kt < 33500 ∧ (g.2.1 76) kt = nI k1 ∧ k1 < 33500 ∧ (g.2.1 74) k1 = low) ∨ (¬ so = 1 ∧ low = 0)
abbrev zv_co (x5 co : Int32) (g : zs_H) : Prop := (x5 = -1 ∧ co = 0) ∨ ∃ kc, kc < 33500 ∧ x5 = nI kc ∧ (g.2.1 74) kc = co
/-- a variable stays as it is -/
def zv_v6 (h h' : zs_H) (j : Nat) : Prop := (h'.2.1 30) j = (h.2.1 30) j ∧ (h'.2.1 31) j = (h.2.1 31) j ∧ (h'.2.1 32) j = (h.2.1 32) j ∧ (h'.2.1 33) j = (h.2.1 33) j ∧ (h'.2.1 34) j = (h.2.1 34) j ∧ (h'.2.1 35) j = (h.2.1 35) j
theorem zv_v6t {h h1 h' : zs_H} {j : Nat} (a : zv_v6 h h1 j) (b : zv_v6 h1 h' j) : zv_v6 h h' j := ⟨b.1.trans a.1, b.2.1.trans a.2.1, b.2.2.1.trans a.2.2.1, b.2.2.2.1.trans a.2.2.2.1, b.2.2.2.2.1.trans a.2.2.2.2.1, b.2.2.2.2.2.trans a.2.2.2.2.2⟩
/-- the cells of one variable lie before those of another -/
def zv_ly (kd : Int32) (u w : Nat) (h : zs_H) : Prop := ∀ x s x' : Nat, (h.2.1 32) (32 + u) = nI x → (h.2.1 34) (32 + u) = nI s → (h.2.1 32) (32 + w) = nI x' → x < 1000000000 → s < 1000000000 → x' < 1000000000 → (kd = 3 ∧ (x < 960 ∨ x' < 960)) ∨ x + s ≤ x'
theorem zv_lyf {kd : Int32} {u w : Nat} {h h' : zs_H} (e1 : (h'.2.1 32) (32 + u) = (h.2.1 32) (32 + u)) (e2 : (h'.2.1 34) (32 + u) = (h.2.1 34) (32 + u)) (e3 : (h'.2.1 32) (32 + w) = (h.2.1 32) (32 + w)) (L : zv_ly kd u w h) : zv_ly kd u w h' := fun x s x' a b c => L x s x' (e1.symm.trans a) (e2.symm.trans b) (e3.symm.trans c)
theorem zv_lyn {LC LM : List (List Int32)} {nb nf u v x y : Nat} {F : Nat → Nat} {q : Int32} {h g h' : zs_H} (I : zv_I LC LM nb nf v F q h g) (hb : 0 < nb) (hv : v < F nb) (h1 : F (nb - 1) ≤ u) (h2 : u < v) (hy : (h.2.1 25) (8 + nb) = nI y) (hy2 : y ≤ 200000000) (o : zv_v6 h h' (32 + u)) (ec : (h'.2.1 32) (32 + v) = nI x) (hx : x = y ∨ (x < 960 ∧ (h.2.1 21) (8 + nb) = 3)) : zv_ly ((h.2.1 21) (8 + nb)) u v h' := by
  intro xu su xv a b c b1 b2 b3
  obtain ⟨ty, x0, s0, y0, q1, q2, q3, q4, ⟨q5, q5', q5''⟩, q6, q7, q8, q9⟩ := I.2.2.2.1.2.1 (nb - 1) u (by omega) h1 (by rw [show nb - 1 + 1 = nb by omega]; omega) h2
  rw [show 9 + (nb - 1) = 8 + nb by omega] at q4 q9
  have ex : xu = x0 := by
    rw [o.2.2.1, q2.1] at a
    exact ((nI_eq (by omega) (by omega)).mp a).symm
  have es : su = s0 := by
    rw [o.2.2.2.2.1, q3.1] at b
    exact ((nI_eq (by omega) (by omega)).mp b).symm
  have ey : y0 = y := (nI_eq (by omega) (by omega)).mp (q4.symm.trans hy)
  have ev : xv = x := (nI_eq (by omega) (by rcases hx with z | z <;> omega)).mp (c.symm.trans ec)
  rcases hx with z | ⟨z1, z2⟩
  · rcases q9 with ⟨_, w, _⟩ | ⟨p, p1, p2, p3, p4, p5, p6⟩
    · right; omega
    · left
      refine ⟨p3, .inl ?_⟩
      rw [ex, p4]
      unfold zv_pc
      split <;> omega
  · left
    exact ⟨z2, .inr (by omega)⟩
def zv_lv (a : Nat) (kd : Int32) (w : Nat) (h : zs_H) : Prop := (∀ u, a ≤ u → u < w → zv_ly kd u w h) ∧ (kd = 3 → ¬ (h.2.1 30) (32 + w) = -1 → ∀ x : Nat, (h.2.1 32) (32 + w) = nI x → x < 1000000000 → 960 ≤ x)
theorem zv_lvf {a : Nat} {kd : Int32} {w : Nat} {h h' : zs_H} (e : ∀ u, u ≤ w → zv_v6 h h' (32 + u)) (L : zv_lv a kd w h) : zv_lv a kd w h' := by
  obtain ⟨w1, _, w3, _⟩ := e w (Nat.le_refl _)
  refine ⟨fun u u1 u2 => zv_lyf (e u (by omega)).2.2.1 (e u (by omega)).2.2.2.2.1 w3 (L.1 u u1 u2), fun k i x c => L.2 k (fun z => i (w1.trans z)) x (w3.symm.trans c)⟩
/-- which variables the loops settle -/
def zv_so (a : Nat) (kd : Int32) (v m : Nat) (inst : Int32) (h h' : zs_H) : Prop := (∀ j, j < 32 + v → zv_v6 h h' j) ∧ (∀ w, v ≤ w → w < m → (h'.2.1 30) (32 + w) = inst ∧ zv_lv a kd w h')
/-- what the loops leave -/
def zv_SE (Q : Nat → Prop) (LC LM : List (List Int32)) (nb nf : Nat) (F : Nat → Nat) (h g h' g' : zs_H) : Prop := zv_I LC LM nb nf (F nb) F (-1) h' g' ∧ zfr [] zv_sc [] h h' ∧ zfr [] zv_sm [] g g' ∧ (∀ b, b < nb - 1 → (h'.2.1 25) (9 + b) = (h.2.1 25) (9 + b)) ∧ (∀ j, ¬ Q j → (g'.2.1 101) j = (g.2.1 101) j)
theorem zv_endS {Q : Nat → Prop} {LC LM : List (List Int32)} {nb nf N N' : Nat} {F : Nat → Nat} {ty pl co inst low sz x1 x4 x5 so of x : Int32} {h g : zs_H} (I : zv_I LC LM nb nf (F nb) F (-1) h g) (hb : nf + 1 = nb) (hch : zv_ch Q g 0 x) :
    f_Jd_settle_L124 (N + 1) h ty pl co inst low sz (nI (32 + F nb)) = some h ∧ f_Mo_lookAtDeclaration_L480 (N' + 1) g x1 pl x4 x5 so of sz (nI (F nb)) x = f_Mo_rule g (if (g.2.1 88) (nb - 1) ≤ 4096 then 0 else 1) 19 x1 := by
  obtain ⟨HS, ⟨⟨B1, B2, B3⟩, ⟨V1, V2, V3⟩, _⟩, _, _, _, _, HJ, J1, J2⟩ := I
  obtain ⟨k, k1, k2, k3⟩ := hch
  constructor
  · show f_Jd_settle_124 (f_Jd_settle_L124 N) h ty pl co inst low sz (nI (32 + F nb)) = _
    unfold f_Jd_settle_124
    rw [V1, if_pos ((nI_leI (by omega) (by omega)).mpr (by omega))]
  · show f_Mo_lookAtDeclaration_480 (f_Mo_lookAtDeclaration_L480 N') g x1 pl x4 x5 so of sz (nI (F nb)) x = _
    unfold f_Mo_lookAtDeclaration_480 f_Mo_lookAtDeclaration_684
    rw [k2, if_pos (zi_in (by omega) k1), nI_clamp (by omega), if_neg k3, (HJ (by omega)).2, if_pos (zi_in (by omega) (by omega)), nI_clamp (by omega), Option.bind_fun_some, Option.bind_fun_some]
    split <;> rfl
theorem zv_one {LC LM : List (List Int32)} {nb nf ty v x s y y' N N' kj : Nat} {F : Nat → Nat} {q pl co inst low x1 x4 x5 so of : Int32} {h g : zs_H} (I : zv_I LC LM nb nf v F q h g) (hb : nf + 1 = nb) (hv : v < F nb) (hty : ty < 3) (hy : (h.2.1 25) (8 + nb) = nI y) (hs : s ≤ 30000) (hy2 : y' ≤ 200000000) (hyy : y ≤ y') (hdt : zv_dt ty s low co pl) (hin : zv_in nb ty s inst so of h) (hlo : zv_lo x4 so low g) (hco : zv_co x5 co g)
    (hpl : (pl = -1 ∧ q = -1 ∧ x = y ∧ y' = y + s) ∨ ∃ p, p < 1536 ∧ (768 ≤ p → p % 256 < 64) ∧ pl = nI p ∧ q = nI p ∧ x = zv_pc p ∧ y' = y ∧ (h.2.1 21) (8 + nb) = 3 ∧ s = 1) (hkj : kj < 33500) (hkd : (g.2.1 72) kj = 6) :
    ∃ h' g', f_Jd_settle_L124 (N + 1) h (nI ty) pl co inst low (nI s) (nI (32 + v)) = f_Jd_settle_L124 N h' (nI ty) pl co inst low (nI s) (nI (32 + (v + 1))) ∧ f_Mo_lookAtDeclaration_L480 (N' + 1) g x1 pl x4 x5 so of (nI s) (nI v) (nI kj) = f_Mo_lookAtDeclaration_L480 N' g' x1 pl x4 x5 so of (nI s) (nI (v + 1)) ((g.2.1 78) kj) ∧ zv_I LC LM nb nf (v + 1) F (-1) h' g' ∧ (h'.2.1 25) (8 + nb) = nI y' ∧ zfr [] zv_sc [] h h' ∧ zfr [] zv_sm [] g g' ∧ (∀ b, b < nb - 1 → (h'.2.1 25) (9 + b) = (h.2.1 25) (9 + b)) ∧ (∀ j, ¬ j = kj → (g'.2.1 101) j = (g.2.1 101) j) ∧ (∀ j, ¬ j = 32 + v → zv_v6 h h' j) ∧ (h'.2.1 30) (32 + v) = inst ∧ (h'.2.1 32) (32 + v) = nI x := by
  have I0 := I
  obtain ⟨HS, ⟨⟨B1, B2, B3⟩, ⟨V1, V2, V3⟩, _⟩, _, ⟨_, _, W3, _⟩, ⟨_, _, C2, _⟩, _, HJ, J1, J2⟩ := I
  have hp0 : (g.2.1 96) v = -1 := W3 v (Nat.le_refl _) hv
  have hyM : (g.2.1 88) (nb - 1) = nI y := by
    obtain ⟨y0, _, c2, c3, _⟩ := C2 (nb - 1) (by omega) (by omega)
    rw [show 9 + (nb - 1) = 8 + nb by omega] at c2
    rw [c3, ← c2, hy]
  have hpl' : zv_pl pl x y y' s := by
    rcases hpl with ⟨r1, _, r3, r4⟩ | ⟨p, p1, p2, p3, _, p5, p6, _⟩
    · exact .inl ⟨r1, r3, r4⟩
    · exact .inr ⟨p, p1, p2, p3, p5, p6⟩
  obtain ⟨h', c1, c2, c3, c4, c5, c6, c7, c8, c9⟩ := zv_stepC (K := f_Jd_settle_L124 N) (ty := nI ty) (co := co) (inst := inst) (low := low) V1 hv V3 (HJ (by omega)).1 B3 hy hpl'
  obtain ⟨g', m1, m2, m3, m4, m5, m6, m7, m8, m9, mx, m10⟩ := zv_stepM (K := f_Mo_lookAtDeclaration_L480 N') (x1 := x1) (so := so) (of := of) (by omega) hkj (HJ (by omega)).2 (by omega) hyM hkd hpl' hp0 hlo hco
  exact ⟨h', g', c1, m1, zv_set1 I0 hb hv hty hy hs hy2 hyy hdt hin hpl c2 c3 c4 c5 c6 c7 c8 c9 m2 m3 m4 m5 m6 m7 m8 m9 m10, by rw [c8, if_pos rfl], c9, m10, fun b hb' => by rw [c8, if_neg (by omega)], mx, fun j hj => ⟨by rw [c2, if_neg hj], by rw [c3, if_neg hj], by rw [c7, if_neg hj], by rw [c4, if_neg hj], by rw [c5, if_neg hj], by rw [c6, if_neg hj]⟩, by rw [c2, if_pos rfl], by rw [c7, if_pos rfl]⟩
theorem zv_SEt {Q : Nat → Prop} {LC LM : List (List Int32)} {nb nf : Nat} {F : Nat → Nat} {h g h1 g1 h' g' : zs_H} (a : zfr [] zv_sc [] h h1) (b : zfr [] zv_sm [] g g1) (c : ∀ b, b < nb - 1 → (h1.2.1 25) (9 + b) = (h.2.1 25) (9 + b)) (e : ∀ j, ¬ Q j → (g1.2.1 101) j = (g.2.1 101) j) (d : zv_SE Q LC LM nb nf F h1 g1 h' g') : zv_SE Q LC LM nb nf F h g h' g' := ⟨d.1, zfr_trans a d.2.1, zfr_trans b d.2.2.1, fun x hx => (d.2.2.2.1 x hx).trans (c x hx), fun j hj => (d.2.2.2.2 j hj).trans (e j hj)⟩
/-- variables with cells of the block's own -/
theorem zv_settleU {Q : Nat → Prop} {LC LM : List (List Int32)} {nb nf ty s : Nat} {F : Nat → Nat} {co inst low x1 x4 x5 so of : Int32} (hb : nf + 1 = nb) (hty : ty < 3) (hs : s ≤ 30000) (hdt : zv_dt ty s low co (-1)) : ∀ (r N N' v y : Nat) (x : Int32) (h g : zs_H), v + r = F nb → r < N → r < N' → zv_I LC LM nb nf v F (-1) h g → (h.2.1 25) (8 + nb) = nI y → y + r * s ≤ 200000000 → zv_in nb ty s inst so of h → zv_lo x4 so low g → zv_co x5 co g → zv_ch Q g r x →
    ∃ h' g', f_Jd_settle_L124 N h (nI ty) (-1) co inst low (nI s) (nI (32 + v)) = some h' ∧ f_Mo_lookAtDeclaration_L480 N' g x1 (-1) x4 x5 so of (nI s) (nI v) x = f_Mo_rule g' (if (g'.2.1 88) (nb - 1) ≤ 4096 then 0 else 1) 19 x1 ∧ zv_SE Q LC LM nb nf F h g h' g' ∧ zv_so (F (nb - 1)) ((h.2.1 21) (8 + nb)) v (F nb) inst h h' := by
  intro r
  induction r with
  | zero =>
    intro N N' v y x h g h1 h2 h3 I hy hy2 hin hlo hco hch
    obtain ⟨N, rfl⟩ : ∃ n, N = n + 1 := ⟨N - 1, by omega⟩
    obtain ⟨N', rfl⟩ : ∃ n, N' = n + 1 := ⟨N' - 1, by omega⟩
    have ev : v = F nb := by omega
    subst ev
    obtain ⟨a1, a2⟩ := zv_endS (N := N) (N' := N') (ty := nI ty) (pl := -1) (co := co) (inst := inst) (low := low) (sz := nI s) (x1 := x1) (x4 := x4) (x5 := x5) (so := so) (of := of) I hb hch
    exact ⟨h, g, a1, a2, ⟨I, zfr_rfl, zfr_rfl, fun _ _ => rfl, fun _ _ => rfl⟩, fun _ _ => ⟨rfl, rfl, rfl, rfl, rfl, rfl⟩, fun w h1 h2 => by omega⟩
  | succ r ih =>
    intro N N' v y x h g h1 h2 h3 I hy hy2 hin hlo hco hch
    obtain ⟨N, rfl⟩ : ∃ n, N = n + 1 := ⟨N - 1, by omega⟩
    obtain ⟨N', rfl⟩ : ∃ n, N' = n + 1 := ⟨N' - 1, by omega⟩
    obtain ⟨kj, k1, k2, k3, kQ, k4⟩ := hch
    subst k2
    rw [Nat.succ_mul] at hy2
    obtain ⟨h', g', c1, m1, I', y1, f1, f2, f3, f4, o1, o2, o3⟩ := zv_one (N := N) (N' := N') (x := y) (y' := y + s) (x1 := x1) I hb (by omega) hty hy hs (by omega) (by omega) hdt hin hlo hco (.inl ⟨rfl, rfl, rfl, rfl⟩) k1 k3
    rw [c1, m1]
    have hin' : zv_in nb ty s inst so of h' := by
      rcases hin with z | z | ⟨B, z1, z2, z3, z4, z5, z6⟩
      · exact .inl z
      · exact .inr (.inl z)
      · exact .inr (.inr ⟨B, z1, z2, z3, z4, fun z => by rw [f1.2.1 _ (by decide)]; exact z5 z, by rw [f1.2.1 _ (by decide)]; exact z6⟩)
    have hlo' : zv_lo x4 so low g' := by
      unfold zv_lo
      rw [f2.2.1 76 (by decide), f2.2.1 74 (by decide)]; exact hlo
    have hco' : zv_co x5 co g' := by
      unfold zv_co
      rw [f2.2.1 74 (by decide)]; exact hco
    obtain ⟨h2', g2', d1, d2, d3, d4⟩ := ih N N' (v + 1) (y + s) ((g.2.1 78) kj) h' g' (by omega) (by omega) (by omega) I' y1 (by omega) hin' hlo' hco' (zv_chF (f2.2.1 _ (by decide)) (f2.2.1 _ (by decide)) _ _ k4)
    refine ⟨h2', g2', d1, d2, zv_SEt f1 f2 f3 (fun j hj => f4 j (fun z => hj (by rw [z]; exact kQ))) d3, fun j hj => zv_v6t (o1 j (by omega)) (d4.1 j (by omega)), fun w w1 w2 => ?_⟩
    by_cases e : w = v
    · rw [e, (d4.1 (32 + v) (by omega)).1]
      refine ⟨o2, zv_lvf (h := h') (fun u u2 => d4.1 (32 + u) (by omega)) ⟨fun u u1 u2 => zv_lyn I (by omega) (by omega) u1 u2 hy (by omega) (o1 (32 + u) (by omega)) o3 (.inl rfl), fun k3 _ x c cx => ?_⟩⟩
      obtain ⟨y0, y01, y02, _, y04⟩ := I.2.2.2.2.1.2.2.1 (nb - 1) (by omega) (by omega)
      rw [show 9 + (nb - 1) = 8 + nb by omega] at y02 y04
      have e1 : y0 = y := (nI_eq (by omega) (by omega)).mp (y02.symm.trans hy)
      have e2 : x = y := (nI_eq (by omega) (by omega)).mp (c.symm.trans o3)
      have := y04 k3
      omega
    · have := d4.2 w (by omega) w2
      rw [f1.2.1 21 (by decide)] at this
      exact this
/-- a variable at a place -/
theorem zv_settleP {Q : Nat → Prop} {LC LM : List (List Int32)} {nb nf ty v p N N' y : Nat} {F : Nat → Nat} {co inst low x1 x4 x5 so of x : Int32} {h g : zs_H} (hb : nf + 1 = nb) (hty : ty < 3) (hdt : zv_dt ty 1 low co (nI p)) (h1 : v + 1 = F nb) (h2 : 2 < N) (h3 : 2 < N') (I : zv_I LC LM nb nf v F (nI p) h g) (hy : (h.2.1 25) (8 + nb) = nI y) (hy2 : y ≤ 200000000) (hin : zv_in nb ty 1 inst so of h) (hlo : zv_lo x4 so low g) (hco : zv_co x5 co g) (hch : zv_ch Q g 1 x) (hp : p < 1536) (hp2 : 768 ≤ p → p % 256 < 64) (hk : (h.2.1 21) (8 + nb) = 3) (hi1 : inst = -1) :
    ∃ h' g', f_Jd_settle_L124 N h (nI ty) (nI p) co inst low (nI 1) (nI (32 + v)) = some h' ∧ f_Mo_lookAtDeclaration_L480 N' g x1 (nI p) x4 x5 so of (nI 1) (nI v) x = f_Mo_rule g' (if (g'.2.1 88) (nb - 1) ≤ 4096 then 0 else 1) 19 x1 ∧ zv_SE Q LC LM nb nf F h g h' g' ∧ zv_so (F (nb - 1)) ((h.2.1 21) (8 + nb)) v (F nb) inst h h' := by
  obtain ⟨N, rfl⟩ : ∃ n, N = n + 1 + 1 := ⟨N - 2, by omega⟩
  obtain ⟨N', rfl⟩ : ∃ n, N' = n + 1 + 1 := ⟨N' - 2, by omega⟩
  obtain ⟨kj, k1, k2, k3, kQ, k4⟩ := hch
  subst k2
  obtain ⟨h', g', c1, m1, I', y1, f1, f2, f3, f4, o1, o2, o3⟩ := zv_one (N := N + 1) (N' := N' + 1) (x := zv_pc p) (y' := y) (s := 1) (x1 := x1) I hb (by omega) hty hy (by omega) hy2 (Nat.le_refl _) hdt hin hlo hco (.inr ⟨p, hp, hp2, rfl, rfl, rfl, rfl, hk, rfl⟩) k1 k3
  rw [c1, m1, h1]
  rw [h1] at I'
  obtain ⟨a1, a2⟩ := zv_endS (N := N) (N' := N') (ty := nI ty) (pl := nI p) (co := co) (inst := inst) (low := low) (sz := nI 1) (x1 := x1) (x4 := x4) (x5 := x5) (so := so) (of := of) I' hb (zv_chF (f2.2.1 _ (by decide)) (f2.2.1 _ (by decide)) _ _ k4)
  exact ⟨h', g', a1, a2, ⟨I', f1, f2, f3, fun j hj => f4 j (fun z => hj (by rw [z]; exact kQ))⟩, fun j hj => o1 j (by omega), fun w w1 w2 => by rw [show w = v by omega]; exact ⟨o2, fun u u1 u2 => zv_lyn I (by omega) (by omega) u1 u2 hy hy2 (o1 (32 + u) (by omega)) o3 (.inr ⟨by unfold zv_pc; split <;> omega, hk⟩), fun _ z => absurd (o2.trans hi1) z⟩⟩
end
section
/-! The judge: what a declaration must keep (43, 15, 18), on each side. -/
theorem zv_sh : ∀ p, p < 1536 → (nI p >>> ((8 : Int32) &&& 31)) = nI (p / 256) ∧ nI p / 256 = nI (p / 256) := by decide +kernel
def zv_a43 (s f : Nat) : Int32 := if s = 0 ∨ f = 8 then 0 else 1
def zv_a15 (f t : Nat) (pl : Int32) : Int32 := if pl = -1 then 0 else if f = 8 ∧ nI t = (if 768 ≤ pl then 1 else 0) then 0 else 1
def zv_bd (t kc : Nat) (v : Int32) : Int32 := if kc = 31 then (if t = 0 then 0 else 1) else if t = 0 then 1 else if t = 1 ∧ (v < -32768 ∨ 32767 < v) then 1 else 0
def zv_a18 (f t kc : Nat) (pl cn v : Int32) : Int32 := if cn = -1 then 0 else if f = 10 then 1 else if ¬ pl = -1 ∧ (pl / 256 = 0 ∨ pl / 256 = 3) then 1 else zv_bd t kc v
abbrev zv_pv (pl : Int32) : Prop := pl = -1 ∨ ∃ p, p < 1536 ∧ (768 ≤ p → p % 256 < 64) ∧ pl = nI p
theorem zv_d43C {h : zs_H} {s f : Nat} {x1 x2 pl cn ty : Int32} (hs : s < 3) (hf : f = 8 ∨ f = 9 ∨ f = 10) (c : (h.1 38 5) = nI s) : f_Jd_judgeDeclaration_165 h x1 x2 pl cn (nI f) ty = (f_Jd_refuseIf h (zv_a43 s f) 43 x1).bind fun h2 => (if 3 ≤ (pl >>> ((8 : Int32) &&& 31)) then f_Jd_judgeDeclaration_206 h2 x1 x2 pl cn (nI f) ty 1 else f_Jd_judgeDeclaration_206 h2 x1 x2 pl cn (nI f) ty 0) := by
  unfold f_Jd_judgeDeclaration_165 f_Jd_judgeDeclaration_186 f_Jd_judgeDeclaration_187 zv_a43
  have e1 : (nI s = 0) ↔ s = 0 := zc_eq (k := 0) (by decide) (by omega)
  have e2 : (nI f = 8) ↔ f = 8 := zc_eq (k := 8) (by decide) (by omega)
  simp only [c, e1, e2]
  by_cases x1 : s = 0 <;> by_cases x2 : f = 8 <;> simp only [x1, x2, if_true, if_false, or_self, or_true, true_or]
theorem zv_d15C {h : zs_H} {f t : Nat} {x1 x2 pl cn : Int32} (hf : f = 8 ∨ f = 9 ∨ f = 10) (hpl : zv_pv pl) : (if 3 ≤ (pl >>> ((8 : Int32) &&& 31)) then f_Jd_judgeDeclaration_206 h x1 x2 pl cn (nI f) (nI t) 1 else f_Jd_judgeDeclaration_206 h x1 x2 pl cn (nI f) (nI t) 0) = f_Jd_judgeDeclaration_233 h x1 x2 pl cn (nI f) (nI t) (zv_a15 f t pl) := by
  unfold f_Jd_judgeDeclaration_206 f_Jd_judgeDeclaration_232 f_Jd_judgeDeclaration_228 zv_a15
  have e2 : (nI f = 8) ↔ f = 8 := zc_eq (k := 8) (by decide) (by omega)
  rcases hpl with r | ⟨p, p1, p2, p3⟩
  · subst r
    simp only [if_true]
    split <;> rfl
  · subst p3
    have n1 : ¬ nI p = -1 := zc_m1 (by omega)
    have e3 : ((3 : Int32) ≤ nI p >>> ((8 : Int32) &&& 31)) ↔ (768 : Int32) ≤ nI p := by
      rw [(zv_sh p p1).1, zc_le (k := 3) (by decide) (by omega), zc_le (k := 768) (by decide) (by omega)]; omega
    simp only [if_neg n1, e2, e3]
    by_cases x1 : f = 8 <;> by_cases x2 : (768 : Int32) ≤ nI p <;> by_cases x3 : nI t = 1 <;> by_cases x4 : nI t = 0 <;> simp only [x1, x2, x3, x4, if_true, if_false, and_true, true_and, and_false, false_and, show ¬ (1 : Int32) = 0 by decide, show ¬ (0 : Int32) = 1 by decide]
theorem zv_d18C {h : zs_H} {f t kc ic : Nat} {x1 x2 pl cn v : Int32} (hf : f = 8 ∨ f = 9 ∨ f = 10) (ht : t < 3) (hpl : zv_pv pl) (hcn : cn = -1 ∨ (cn = nI ic ∧ ic < 32784 ∧ kc < 100 ∧ (h.2.1 13) ic = nI kc ∧ (h.2.1 16) ic = v)) : (if cn = (-1) then f_Jd_judgeDeclaration_311 h x1 x2 pl cn (nI t) else (if pl = (-1) then f_Jd_judgeDeclaration_269 h x1 x2 pl cn (nI f) (nI t) else (if (pl >>> ((8 : Int32) &&& 31)) = 0 then f_Jd_judgeDeclaration_265 h x1 x2 pl cn (nI f) (nI t) else (if (pl >>> ((8 : Int32) &&& 31)) = 3 then f_Jd_judgeDeclaration_265 h x1 x2 pl cn (nI f) (nI t) else f_Jd_judgeDeclaration_269 h x1 x2 pl cn (nI f) (nI t))))) = (f_Jd_refuseIf h (zv_a18 f t kc pl cn v) 18 x1).bind fun h4 => f_Jd_judgeDeclaration_311 h4 x1 x2 pl cn (nI t) := by
  rcases hcn with r | ⟨r1, r2, r3, r4, r5⟩
  · unfold zv_a18
    rw [if_pos r, if_pos r, zv_ref0, Option.bind_some]
  · have nc : ¬ cn = -1 := by rw [r1]; exact zc_m1 (by omega)
    have e2 : (nI f = 10) ↔ f = 10 := zc_eq (k := 10) (by decide) (by omega)
    have e3 : (nI t = 0) ↔ t = 0 := zc_eq (k := 0) (by decide) (by omega)
    have e4 : (nI t = 1) ↔ t = 1 := zc_eq (k := 1) (by decide) (by omega)
    have e5 : (nI kc = 31) ↔ kc = 31 := zc_eq (k := 31) (by decide) (by omega)
    have hic : f_Jd_isConstantOf h (nI t) cn = some (if zv_bd t kc v = 0 then 1 else 0) := by
      unfold f_Jd_isConstantOf f_Jd_isInRange zv_bd
      simp only [r1, if_pos (zi_in (show ic < 2147483648 by omega) r2), nI_clamp (show ic < 2147483648 by omega), r4, r5, e3, e4, e5]
      by_cases y1 : kc = 31 <;> by_cases y2 : t = 0 <;> by_cases y3 : t = 1 <;> by_cases y4 : v < -32768 <;> by_cases y5 : 32767 < v <;> simp only [y1, y2, y3, y4, y5, if_true, if_false, and_true, true_and, and_false, false_and, or_self, or_true, true_or, Option.bind_some, show ¬ (1 : Int32) = 0 by decide, show ¬ (0 : Int32) = 1 by decide, show ((0 : Nat) = 1) = False by simp, show ((1 : Nat) = 0) = False by simp]
    have hbd : zv_bd t kc v = 0 ∨ zv_bd t kc v = 1 := by unfold zv_bd; (repeat' split) <;> first | exact .inl rfl | exact .inr rfl
    have e269 : f_Jd_judgeDeclaration_269 h x1 x2 pl cn (nI f) (nI t) = f_Jd_judgeDeclaration_300 h x1 x2 pl cn (nI t) (if f = 10 then 1 else zv_bd t kc v) := by
      unfold f_Jd_judgeDeclaration_269 f_Jd_judgeDeclaration_270 f_Jd_judgeDeclaration_295
      simp only [e2, hic, if_true, Option.bind_some]
      by_cases y1 : f = 10
      · simp only [y1, if_true]
      · rcases hbd with y | y <;> simp only [y1, y, if_true, if_false, show ¬ (1 : Int32) = 0 by decide]
    have e265 : f_Jd_judgeDeclaration_265 h x1 x2 pl cn (nI f) (nI t) = f_Jd_judgeDeclaration_300 h x1 x2 pl cn (nI t) 1 := by
      unfold f_Jd_judgeDeclaration_265 f_Jd_judgeDeclaration_270 f_Jd_judgeDeclaration_295
      simp only [e2, show ¬ (1 : Int32) = 0 by decide, if_false, ite_self]
    rw [if_neg nc, e269, e265]
    show _ = f_Jd_judgeDeclaration_300 h x1 x2 pl cn (nI t) (zv_a18 f t kc pl cn v)
    unfold zv_a18
    rw [if_neg nc]
    rcases hpl with r | ⟨p, p1, p2, p3⟩
    · simp only [r, if_true, not_true, false_and, if_false]
    · have n1 : ¬ pl = -1 := by rw [p3]; exact zc_m1 (by omega)
      rw [if_neg n1]
      simp only [p3, (zv_sh p p1).1, (zv_sh p p1).2, show (¬ nI p = -1) = True from eq_true (zc_m1 (by omega)), true_and]
      by_cases y0 : f = 10 <;> by_cases y1 : nI (p / 256) = 0 <;> by_cases y2 : nI (p / 256) = 3 <;> simp only [y0, y1, y2, if_true, if_false, or_self, or_true, true_or, ite_self]
theorem zv_d43M {g : zs_H} {s f k k4 kt : Nat} {n2 pl cn : Int32} (hs : s < 3) (hf : f = 8 ∨ f = 9 ∨ f = 10) (hk : k < 33500) (hk4 : k4 < 33500) (hkt : kt < 33500) (a1 : (g.2.1 75) k = nI k4) (a2 : (g.2.1 74) k4 = nI s) (a3 : (g.2.1 72) kt = nI f) : (if zd_in (nI kt) 33500 then (if zd_in (nI k) 33500 then (if zd_in ((g.2.1 75) (nI k).toNatClampNeg) 33500 then (if ((g.2.1 74) ((g.2.1 75) (nI k).toNatClampNeg).toNatClampNeg) = 0 then f_Mo_lookAtDeclaration_169 g (nI k) n2 pl (nI kt) cn (((g.2.1 72) (nI kt).toNatClampNeg) - 8) else (if (((g.2.1 72) (nI kt).toNatClampNeg) - 8) = 0 then f_Mo_lookAtDeclaration_169 g (nI k) n2 pl (nI kt) cn (((g.2.1 72) (nI kt).toNatClampNeg) - 8) else f_Mo_lookAtDeclaration_170 g (nI k) n2 pl (nI kt) cn (((g.2.1 72) (nI kt).toNatClampNeg) - 8) 1)) else none) else none) else none) = f_Mo_lookAtDeclaration_170 g (nI k) n2 pl (nI kt) cn (nI (f - 8)) (zv_a43 s f) := by
  unfold f_Mo_lookAtDeclaration_169 zv_a43
  have e1 : (nI s = 0) ↔ s = 0 := zc_eq (k := 0) (by decide) (by omega)
  have e2 : nI f - 8 = nI (f - 8) := zc_sb (k := 8) (by omega)
  have e3 : (nI (f - 8) = 0) ↔ f = 8 := by rw [zc_eq (k := 0) (by decide) (by omega)]; omega
  simp only [if_pos (zi_in (show kt < 2147483648 by omega) hkt), if_pos (zi_in (show k < 2147483648 by omega) hk), nI_clamp (show kt < 2147483648 by omega), nI_clamp (show k < 2147483648 by omega), a1, if_pos (zi_in (show k4 < 2147483648 by omega) hk4), nI_clamp (show k4 < 2147483648 by omega), a2, a3, e1, e2, e3]
  by_cases x1 : s = 0 <;> by_cases x2 : f = 8 <;> simp only [x1, x2, if_true, if_false, or_self, or_true, true_or]
theorem zv_d15M {g : zs_H} {f t kt : Nat} {x1 n2 pl cn : Int32} (hf : f = 8 ∨ f = 9 ∨ f = 10) (hpl : zv_pv pl) (hkt : kt < 33500) (a : f = 8 → (g.2.1 74) kt = nI t) : (if pl < 0 then f_Mo_lookAtDeclaration_212 g x1 n2 pl (nI kt) cn (nI (f - 8)) else (if nI (f - 8) = 0 then (if zd_in (nI kt) 33500 then (if 768 ≤ pl then f_Mo_lookAtDeclaration_205 g x1 n2 pl (nI kt) cn (nI (f - 8)) 1 ((g.2.1 74) (nI kt).toNatClampNeg) else f_Mo_lookAtDeclaration_205 g x1 n2 pl (nI kt) cn (nI (f - 8)) 0 ((g.2.1 74) (nI kt).toNatClampNeg)) else none) else f_Mo_lookAtDeclaration_208 g x1 n2 pl (nI kt) cn (nI (f - 8)))) = f_Mo_lookAtDeclaration_213 g x1 n2 pl (nI kt) cn (nI (f - 8)) (zv_a15 f t pl) := by
  unfold f_Mo_lookAtDeclaration_205 f_Mo_lookAtDeclaration_208 f_Mo_lookAtDeclaration_212 zv_a15
  have e3 : (nI (f - 8) = 0) ↔ f = 8 := by rw [zc_eq (k := 0) (by decide) (by omega)]; omega
  rcases hpl with r | ⟨p, p1, p2, p3⟩
  · subst r
    rw [if_pos (by decide), if_pos rfl]
  · have n1 : ¬ pl = -1 := by rw [p3]; exact zc_m1 (by omega)
    have n2 : ¬ pl < 0 := by rw [p3]; exact mt (zc_tl (k := 0) (by decide) (by omega)).mp (by omega)
    simp only [if_neg n1, if_neg n2, e3, if_pos (zi_in (show kt < 2147483648 by omega) hkt), nI_clamp (show kt < 2147483648 by omega)]
    by_cases x1 : f = 8
    · rw [a x1]
      by_cases x2 : (768 : Int32) ≤ pl <;> by_cases x3 : nI t = 1 <;> by_cases x4 : nI t = 0 <;> simp only [x1, x2, x3, x4, if_true, if_false, and_true, true_and, and_false, false_and, show ¬ (1 : Int32) = 0 by decide, show ¬ (0 : Int32) = 1 by decide]
    · simp only [x1, if_false, false_and]
theorem zv_d18M {g : zs_H} {f t kc ic : Nat} {x1 n2 x4 pl cn v of : Int32} (hf : f = 8 ∨ f = 9 ∨ f = 10) (ht : t < 3) (hpl : zv_pv pl) (hcn : cn = -1 ∨ (cn = nI ic ∧ ic < 33500 ∧ kc < 100 ∧ (g.2.1 72) ic = nI kc ∧ (g.2.1 74) ic = v)) (hof : ¬ f = 10 → of = nI t) : f_Mo_lookAtDeclaration_266 g x1 n2 pl x4 cn (nI (f - 8)) of = (f_Mo_rule g (zv_a18 f t kc pl cn v) 18 x1).bind fun g4 => f_Mo_lookAtDeclaration_398 g4 x1 n2 pl x4 cn (nI (f - 8)) of := by
  unfold f_Mo_lookAtDeclaration_266
  rcases hcn with r | ⟨r1, r2, r3, r4, r5⟩
  · unfold zv_a18
    rw [if_pos r, if_pos (by rw [r]; decide), zv_rule0, Option.bind_some]
  · have nc : ¬ cn = -1 := by rw [r1]; exact zc_m1 (by omega)
    have nc0 : ¬ cn < 0 := by rw [r1]; exact mt (zc_tl (k := 0) (by decide) (by omega)).mp (by omega)
    have e2 : (nI (f - 8) = 2) ↔ f = 10 := by rw [zc_eq (k := 2) (by decide) (by omega)]; omega
    have e3 : (nI t = 0) ↔ t = 0 := zc_eq (k := 0) (by decide) (by omega)
    have e4 : (nI t = 1) ↔ t = 1 := zc_eq (k := 1) (by decide) (by omega)
    have e5 : (nI kc = 31) ↔ kc = 31 := zc_eq (k := 31) (by decide) (by omega)
    have e300 : f_Mo_lookAtDeclaration_300 g x1 n2 pl x4 cn (nI (f - 8)) of = f_Mo_lookAtDeclaration_392 g x1 n2 pl x4 cn (nI (f - 8)) of 1 := by
      unfold f_Mo_lookAtDeclaration_300 f_Mo_lookAtDeclaration_305 f_Mo_lookAtDeclaration_342 f_Mo_lookAtDeclaration_347 f_Mo_lookAtDeclaration_387
      simp only [show ¬ (1 : Int32) = 0 by decide, if_false]
    have e304 : ¬ f = 10 → f_Mo_lookAtDeclaration_304 g x1 n2 pl x4 cn (nI (f - 8)) of = f_Mo_lookAtDeclaration_392 g x1 n2 pl x4 cn (nI (f - 8)) of (zv_bd t kc v) := by
      intro hf10
      rw [hof hf10]
      unfold f_Mo_lookAtDeclaration_304 f_Mo_lookAtDeclaration_305 f_Mo_lookAtDeclaration_329 f_Mo_lookAtDeclaration_339 f_Mo_lookAtDeclaration_342 f_Mo_lookAtDeclaration_347 f_Mo_lookAtDeclaration_387 f_Mo_lookAtDeclaration_391 zv_bd
      have e6 : (v ≤ 32767) ↔ ¬ 32767 < v := Int32.not_lt.symm
      simp only [r1, if_pos (zi_in (show ic < 2147483648 by omega) r2), nI_clamp (show ic < 2147483648 by omega), r4, r5, e3, e4, e5, e6, if_true]
      by_cases y1 : kc = 31 <;> by_cases y2 : t = 0 <;> by_cases y3 : t = 1 <;> by_cases y4 : v < -32768 <;> by_cases y5 : 32767 < v <;> simp only [y1, y2, y3, y4, y5, if_true, if_false, and_true, true_and, and_false, false_and, or_self, or_true, true_or, not_true, not_false_iff, show ¬ (1 : Int32) = 0 by decide, show ¬ (0 : Int32) = 1 by decide, show ((0 : Nat) = 1) = False by simp, show ((1 : Nat) = 0) = False by simp]
    show _ = f_Mo_lookAtDeclaration_392 g x1 n2 pl x4 cn (nI (f - 8)) of (zv_a18 f t kc pl cn v)
    unfold zv_a18
    rw [if_neg nc, if_neg nc0, e300]
    by_cases y0 : f = 10
    · rw [if_pos (e2.mpr y0), if_pos y0]
    · rw [if_neg (mt e2.mp y0), if_neg y0, e304 y0]
      rcases hpl with r | ⟨p, p1, p2, p3⟩
      · rw [if_pos (by rw [r]; decide), if_neg (fun z => z.1 r)]
      · have n1 : ¬ pl = -1 := by rw [p3]; exact zc_m1 (by omega)
        have n2 : ¬ pl < 0 := by rw [p3]; exact mt (zc_tl (k := 0) (by decide) (by omega)).mp (by omega)
        simp only [if_neg n2, n1, not_false_iff, true_and]
        by_cases y1 : pl / 256 = 0 <;> by_cases y2 : pl / 256 = 3 <;> simp only [y1, y2, if_true, if_false, or_self, or_true, true_or, ite_self]
end
section
/-! The judge: the type of a declaration, and how many cells it takes. -/
def zv_TY (nb f t it kt : Nat) (of : Int32) (h g : zs_H) : Prop :=
  (f = 8 ∧ (h.2.1 16) it = nI t ∧ (g.2.1 74) kt = nI t ∧ of = nI t) ∨
  (f = 9 ∧ of = nI t ∧ ∃ (i1 i2 i3 k1 k2 k3 : Nat) (lo hi : Int32), (i1 < 32784 ∧ i2 < 32784 ∧ i3 < 32784 ∧ k1 < 33500 ∧ k2 < 33500 ∧ k3 < 33500) ∧ ((h.2.1 17) it = nI i1 ∧ (h.2.1 18) i1 = nI i2 ∧ (h.2.1 18) i2 = nI i3 ∧ (h.2.1 16) i1 = lo ∧ (h.2.1 16) i2 = hi ∧ (h.2.1 16) i3 = nI t) ∧ ((g.2.1 76) kt = nI k1 ∧ (g.2.1 78) k1 = nI k2 ∧ (g.2.1 77) kt = nI k3 ∧ (g.2.1 74) k1 = lo ∧ (g.2.1 74) k2 = hi ∧ (g.2.1 74) k3 = nI t) ∧ ¬ hi.toInt64 - lo.toInt64 < 0 ∧ hi.toInt64 - lo.toInt64 ≤ 255) ∨
  (f = 10 ∧ t = 0 ∧ ∃ (c B : Nat) (w : Int32), c < 6000 ∧ B < 8 + nb ∧ (h.2.1 16) it = nI c ∧ (g.2.1 74) kt = w ∧ (h.2.1 36) c = nI B ∧ (9 ≤ B → (h.2.1 21) B = 2) ∧ f_Mo_blockOf g w = some of ∧ of = nI (if B < 9 then 100000 + B else B - 9))
theorem zv_d32 {lo hi : Int32} (h1 : ¬ hi.toInt64 - lo.toInt64 < 0) (h2 : hi.toInt64 - lo.toInt64 ≤ 255) : ∃ d, (d ≤ 255 ∧ lo.toInt + (d + 1 : Nat) ≤ 2147483648) ∧ hi - lo + 1 = nI (d + 1) := by
  obtain ⟨e1, _⟩ := zv_i64 lo hi
  rw [Int64.lt_iff_toInt_lt, e1, show (0 : Int64).toInt = 0 from rfl] at h1
  rw [Int64.le_iff_toInt_le, e1, show (255 : Int64).toInt = 255 from rfl] at h2
  have hh := hi.toInt_lt
  refine ⟨(hi.toInt - lo.toInt).toNat, ⟨by omega, by omega⟩, ?_⟩
  apply Int32.toInt_inj.mp
  rw [Int32.toInt_add, Int32.toInt_sub, show (1 : Int32).toInt = 1 from rfl, show (nI ((hi.toInt - lo.toInt).toNat + 1)).toInt = (((hi.toInt - lo.toInt).toNat + 1 : Nat) : Int) from Int32.toInt_ofNat_of_lt (by omega)]
  rw [Int.bmod_eq_of_le (n := hi.toInt - lo.toInt) (m := 2 ^ 32) (by omega) (by omega), Int.bmod_eq_of_le (by omega) (by omega)]
  omega
theorem zv_stc : ∀ B, B < 9 → zt_2.getD B 0 = (if B < 5 then 6 else 3) := by decide +kernel
theorem zv_sizes {LC LM : List (List Int32)} {nb nf ns f t it kt : Nat} {F : Nat → Nat} {q of pl co x1 x2 cm : Int32} {h g : zs_H} (I : zv_I LC LM nb nf ns F q h g) (hb : nf + 1 = nb) (hit : it < 32784) (hkt : kt < 33500) (c1 : (h.2.1 13) it = nI f) (TY : zv_TY nb f t it kt of h g) :
    ∃ (sz : Nat) (inst low : Int32), (sz ≤ 30000 ∧ low.toInt + sz ≤ 2147483648) ∧ (f = 8 → sz = 1) ∧ zv_in nb t sz inst (nI (f - 8)) of h ∧ zv_lo (nI kt) (nI (f - 8)) low g ∧ f_Jd_settle h (nI it) (nI t) pl co = f_Jd_settle_118 h (nI t) pl co inst low (nI sz) ∧ f_Mo_lookAtDeclaration_398 g x1 x2 pl (nI kt) cm (nI (f - 8)) of = f_Mo_lookAtDeclaration_462 g x1 x2 pl (nI kt) cm (nI (f - 8)) of (nI sz) := by
  obtain ⟨HS, ⟨⟨B1, B2, B3⟩, _, B4, _⟩, _, _, ⟨_, C1, _, _⟩, _, HJ, J1, J2⟩ := I
  have hi1 : zd_in (nI it) 32784 := zi_in (by omega) hit
  have cit : (nI it).toNatClampNeg = it := nI_clamp (by omega)
  have hk1 : zd_in (nI kt) 33500 := zi_in (by omega) hkt
  have ckt : (nI kt).toNatClampNeg = kt := nI_clamp (by omega)
  have j0 : (g.1 68 29) ≤ 0 := by rw [J2]; decide
  unfold f_Jd_settle f_Jd_settle_39 f_Jd_settle_63 f_Mo_lookAtDeclaration_398
  simp only [if_pos hi1, cit, c1, if_pos j0]
  rcases TY with ⟨r1, r2, r3, r4⟩ | ⟨r1, r2, i1, i2, i3, k1, k2, k3, lo, hi, ⟨b1, b2, b3, b4, b5, b6⟩, ⟨d1, d2, d3, d4, d5, d6⟩, ⟨e1, e2, e3, e4, e5, e6⟩, v1, v2⟩ | ⟨r1, r2, c, B, w, u1, u2, u3, u4, u5, u6, u7, u8⟩
  · subst r1
    refine ⟨1, -1, 0, ⟨by omega, by decide⟩, fun _ => rfl, .inl ⟨rfl, rfl, r4, rfl⟩, .inr ⟨by decide, rfl⟩, ?_, ?_⟩
    · rw [if_neg (by decide), if_pos (by decide), if_neg (by decide)]; rfl
    · rw [if_pos (by decide)]; rfl
  · subst r1
    obtain ⟨d, ⟨d7, d9⟩, d8⟩ := zv_d32 v1 v2
    refine ⟨d + 1, -2, lo, ⟨by omega, d9⟩, fun z => by omega, .inr (.inl ⟨rfl, rfl, r2, by omega, by omega⟩), .inl ⟨rfl, kt, k1, rfl, hkt, e1, b4, e4⟩, ?_, ?_⟩
    · unfold f_Tr_second
      rw [if_neg (by decide), if_pos (by decide), if_pos (by decide)]
      simp only [if_pos hi1, cit, d1, if_neg (zc_m1 (show i1 < 2147483648 by omega)), if_pos (zi_in (show i1 < 2147483648 by omega) b1), nI_clamp (show i1 < 2147483648 by omega), d2, Option.bind_some, if_pos (zi_in (show i2 < 2147483648 by omega) b2), nI_clamp (show i2 < 2147483648 by omega), d4, d5, d8]
    · rw [if_neg (by decide), if_pos (by decide)]
      simp only [if_pos hk1, ckt, e1, if_pos (zi_in (show k1 < 2147483648 by omega) b4), nI_clamp (show k1 < 2147483648 by omega), e2, if_pos (zi_in (show k2 < 2147483648 by omega) b5), nI_clamp (show k2 < 2147483648 by omega), e4, e5, d8]
  · subst r1
    -- how many cells the block has
    have key : ∃ sz, sz ≤ 30000 ∧ (h.2.1 26) B = nI sz ∧ f_Mo_instanceCells g of = some (nI sz) := by
      unfold f_Mo_instanceCells
      by_cases z : B < 9
      · rw [if_pos z] at u8
        have hs := zv_stc B z
        rw [u8, if_pos ((zc_le (k := 100000) (by decide) (by omega)).mpr (by omega)), (B4.1 B z).2.2.2, hs]
        by_cases z5 : B < 5
        · rw [if_pos z5, if_neg (mt (zc_le (k := 100005) (by decide) (by omega)).mp (by omega))]
          exact ⟨6, by omega, rfl, rfl⟩
        · rw [if_neg z5, if_pos ((zc_le (k := 100005) (by decide) (by omega)).mpr (by omega))]
          exact ⟨3, by omega, rfl, rfl⟩
      · rw [if_neg z] at u8
        obtain ⟨x, w1, w2, w3⟩ := C1 (B - 9) (by omega)
        rw [show 9 + (B - 9) = B by omega] at w2
        rw [u8, if_neg (mt (zc_le (k := 100000) (by decide) (by omega)).mp (by omega)), if_pos (zi_in (by omega) (by omega)), nI_clamp (by omega), w3]
        exact ⟨x, w1, w2, rfl⟩
    obtain ⟨sz, s1, s2, s3⟩ := key
    refine ⟨sz, nI B, 0, ⟨s1, by rw [show (0 : Int32).toInt = 0 from rfl]; omega⟩, fun z => by omega, .inr (.inr ⟨B, u2, rfl, rfl, u8, u6, s2⟩), .inr ⟨by decide, rfl⟩, ?_, ?_⟩
    · rw [if_pos (by decide), u3, if_pos (zi_in (by omega) u1), nI_clamp (by omega), u5, if_neg (mt (zc_tl (k := 0) (by decide) (by omega)).mp (by omega)), if_pos (zi_in (by omega) (by omega)), if_neg (by decide), nI_clamp (by omega), s2]
    · rw [if_neg (by decide), if_neg (by decide), s3, Option.bind_some]
end
section
/-! The judge: a declaration, both sides in step. -/
section ZVD
variable {nb f t it kt kc ic km : Nat} {x1 x2 n2 pl cn cm v of : Int32}
abbrev zv_cC (cn : Int32) (ic kc : Nat) (v : Int32) (h : zs_H) : Prop := cn = -1 ∨ (cn = nI ic ∧ ic < 32784 ∧ kc < 100 ∧ (h.2.1 13) ic = nI kc ∧ (h.2.1 16) ic = v)
abbrev zv_cM (cm : Int32) (km kc : Nat) (v : Int32) (g : zs_H) : Prop := cm = -1 ∨ (cm = nI km ∧ km < 33500 ∧ kc < 100 ∧ (g.2.1 72) km = nI kc ∧ (g.2.1 74) km = v)
def zv_b18C (h : zs_H) (x1 x2 pl cn : Int32) (f t : Nat) : Option zs_H := (if cn = (-1) then f_Jd_judgeDeclaration_311 h x1 x2 pl cn (nI t) else (if pl = (-1) then f_Jd_judgeDeclaration_269 h x1 x2 pl cn (nI f) (nI t) else (if (pl >>> ((8 : Int32) &&& 31)) = 0 then f_Jd_judgeDeclaration_265 h x1 x2 pl cn (nI f) (nI t) else (if (pl >>> ((8 : Int32) &&& 31)) = 3 then f_Jd_judgeDeclaration_265 h x1 x2 pl cn (nI f) (nI t) else f_Jd_judgeDeclaration_269 h x1 x2 pl cn (nI f) (nI t)))))
theorem zv_233 {h : zs_H} {a : Int32} : f_Jd_judgeDeclaration_233 h x1 x2 pl cn (nI f) (nI t) a = (f_Jd_refuseIf h a 15 x1).bind fun h2 => zv_b18C h2 x1 x2 pl cn f t := rfl
theorem zv_afC18 {h : zs_H} (hf : f = 8 ∨ f = 9 ∨ f = 10) (ht : t < 3) (hpl : zv_pv pl) (hcn : zv_cC cn ic kc v h) (nf : ¬ (h.1 38 3) = 0) (hb : (h.1 38 4) = nI (8 + nb)) (hnb : nb ≤ 568) : zv_b18C h x1 x2 pl cn f t = some h := by
  rw [show zv_b18C h x1 x2 pl cn f t = _ from zv_d18C hf ht hpl hcn, zv_refF nf, Option.bind_some]
  unfold f_Jd_judgeDeclaration_311 f_Jd_judgeDeclaration_346 f_Jd_judgeDeclaration_370
  rw [if_neg nf, hb, if_pos (zi_in (by omega) (by omega)), zv_refF nf, zv_refF nf, Option.bind_some]
  split <;> rfl
theorem zv_afC15 {h : zs_H} (hf : f = 8 ∨ f = 9 ∨ f = 10) (ht : t < 3) (hpl : zv_pv pl) (hcn : zv_cC cn ic kc v h) (nf : ¬ (h.1 38 3) = 0) (hb : (h.1 38 4) = nI (8 + nb)) (hnb : nb ≤ 568) : (if 3 ≤ (pl >>> ((8 : Int32) &&& 31)) then f_Jd_judgeDeclaration_206 h x1 x2 pl cn (nI f) (nI t) 1 else f_Jd_judgeDeclaration_206 h x1 x2 pl cn (nI f) (nI t) 0) = some h := by
  rw [zv_d15C hf hpl, zv_233, zv_refF nf, Option.bind_some, zv_afC18 hf ht hpl hcn nf hb hnb]
def zv_o15M (g : zs_H) (x1 n2 pl cn : Int32) (f kt : Nat) : Option zs_H := (if nI (f - 8) = 0 then (if zd_in (nI kt) 33500 then f_Mo_lookAtDeclaration_266 g x1 n2 pl (nI kt) cn (nI (f - 8)) ((g.2.1 74) (nI kt).toNatClampNeg) else none) else (if nI (f - 8) = 1 then (if zd_in (nI kt) 33500 then (if zd_in ((g.2.1 77) (nI kt).toNatClampNeg) 33500 then f_Mo_lookAtDeclaration_266 g x1 n2 pl (nI kt) cn (nI (f - 8)) ((g.2.1 74) ((g.2.1 77) (nI kt).toNatClampNeg).toNatClampNeg) else none) else none) else (if zd_in (nI kt) 33500 then ((f_Mo_blockOf g ((g.2.1 74) (nI kt).toNatClampNeg)).bind fun v7 => f_Mo_lookAtDeclaration_266 g x1 n2 pl (nI kt) cn (nI (f - 8)) v7) else none)))
theorem zv_213 {g : zs_H} {a : Int32} : f_Mo_lookAtDeclaration_213 g x1 n2 pl (nI kt) cm (nI (f - 8)) a = (f_Mo_rule g a 15 x1).bind fun g2 => zv_o15M g2 x1 n2 pl cm f kt := rfl
def zv_p15M (g : zs_H) (x1 n2 pl cn : Int32) (f kt : Nat) : Option zs_H := (if pl < 0 then f_Mo_lookAtDeclaration_212 g x1 n2 pl (nI kt) cn (nI (f - 8)) else (if nI (f - 8) = 0 then (if zd_in (nI kt) 33500 then (if 768 ≤ pl then f_Mo_lookAtDeclaration_205 g x1 n2 pl (nI kt) cn (nI (f - 8)) 1 ((g.2.1 74) (nI kt).toNatClampNeg) else f_Mo_lookAtDeclaration_205 g x1 n2 pl (nI kt) cn (nI (f - 8)) 0 ((g.2.1 74) (nI kt).toNatClampNeg)) else none) else f_Mo_lookAtDeclaration_208 g x1 n2 pl (nI kt) cn (nI (f - 8))))
theorem zv_170 {g : zs_H} {a : Int32} : f_Mo_lookAtDeclaration_170 g x1 n2 pl (nI kt) cm (nI (f - 8)) a = (f_Mo_rule g a 43 x1).bind fun g2 => zv_p15M g2 x1 n2 pl cm f kt := rfl
theorem zv_ofM {h g : zs_H} (hkt : kt < 33500) (TY : zv_TY nb f t it kt of h g) : zv_o15M g x1 n2 pl cm f kt = f_Mo_lookAtDeclaration_266 g x1 n2 pl (nI kt) cm (nI (f - 8)) of := by
  unfold zv_o15M
  have hk1 : zd_in (nI kt) 33500 := zi_in (by omega) hkt
  have ckt : (nI kt).toNatClampNeg = kt := nI_clamp (by omega)
  simp only [if_pos hk1, ckt]
  rcases TY with ⟨r1, r2, r3, r4⟩ | ⟨r1, r2, i1, i2, i3, k1, k2, k3, lo, hi, ⟨b1, b2, b3, b4, b5, b6⟩, ⟨d1, d2, d3, d4, d5, d6⟩, ⟨e1, e2, e3, e4, e5, e6⟩, v1, v2⟩ | ⟨r1, r2, c, B, w, u1, u2, u3, u4, u5, u6, u7, u8⟩
  · subst r1
    rw [if_pos (by decide), r3, r4]
  · subst r1
    rw [if_neg (by decide), if_pos (by decide), e3, if_pos (zi_in (by omega) b6), nI_clamp (by omega), e6, r2]
  · subst r1
    rw [if_neg (by decide), if_neg (by decide), u4, u7, Option.bind_some]
theorem zv_TYof {h g : zs_H} (TY : zv_TY nb f t it kt of h g) : (f = 8 ∨ f = 9 ∨ f = 10) ∧ (f = 8 → (g.2.1 74) kt = nI t) ∧ (¬ f = 10 → of = nI t) ∧ (f = 10 → t = 0) := by
  rcases TY with ⟨r1, r2, r3, r4⟩ | ⟨r1, r2, _⟩ | ⟨r1, r2, _⟩
  · exact ⟨.inl r1, fun _ => r3, fun _ => r4, fun z => by omega⟩
  · exact ⟨.inr (.inl r1), fun z => by omega, fun _ => r2, fun z => by omega⟩
  · exact ⟨.inr (.inr r1), fun z => by omega, fun z => absurd r1 z, fun _ => r2⟩
theorem zv_afM18 {h g : zs_H} (ht : t < 3) (hpl : zv_pv pl) (hkt : kt < 33500) (TY : zv_TY nb f t it kt of h g) (hcm : zv_cM cm km kc v g) (nj : ¬ (g.1 68 29) ≤ 0) : zv_o15M g x1 n2 pl cm f kt = some g := by
  obtain ⟨hf, _, h3, _⟩ := zv_TYof TY
  have nj' : ¬ (g.1 68 29) = 0 := fun z => nj (by rw [z]; decide)
  rw [zv_ofM hkt TY, zv_d18M hf ht hpl hcm h3, zv_ruleF nj', Option.bind_some]
  unfold f_Mo_lookAtDeclaration_398
  rw [if_neg nj]
theorem zv_afM15 {h g : zs_H} (ht : t < 3) (hpl : zv_pv pl) (hkt : kt < 33500) (TY : zv_TY nb f t it kt of h g) (hcm : zv_cM cm km kc v g) (nj : ¬ (g.1 68 29) ≤ 0) : zv_p15M g x1 n2 pl cm f kt = some g := by
  obtain ⟨hf, h2, _, _⟩ := zv_TYof TY
  have nj' : ¬ (g.1 68 29) = 0 := fun z => nj (by rw [z]; decide)
  rw [show zv_p15M g x1 n2 pl cm f kt = _ from zv_d15M hf hpl hkt h2, zv_213, zv_ruleF nj', Option.bind_some, zv_afM18 ht hpl hkt TY hcm nj]
end ZVD
end
section
/-! The judge: a declaration, both sides in step: all of it behind the scan of its children. -/
def zv_tlM (g : zs_H) (k : Nat) (n2 pl : Int32) (kt : Nat) (cm : Int32) : Option zs_H := (if zd_in (nI kt) 33500 then (if zd_in (nI k) 33500 then (if zd_in ((g.2.1 75) (nI k).toNatClampNeg) 33500 then (if ((g.2.1 74) ((g.2.1 75) (nI k).toNatClampNeg).toNatClampNeg) = 0 then f_Mo_lookAtDeclaration_169 g (nI k) n2 pl (nI kt) cm (((g.2.1 72) (nI kt).toNatClampNeg) - 8) else (if (((g.2.1 72) (nI kt).toNatClampNeg) - 8) = 0 then f_Mo_lookAtDeclaration_169 g (nI k) n2 pl (nI kt) cm (((g.2.1 72) (nI kt).toNatClampNeg) - 8) else f_Mo_lookAtDeclaration_170 g (nI k) n2 pl (nI kt) cm (((g.2.1 72) (nI kt).toNatClampNeg) - 8) 1)) else none) else none) else none)
/-- 19 -/
theorem zv_d19 {Q : Nat → Prop} {LC LM : List (List Int32)} {nb nf i k : Nat} {F : Nat → Nat} {p0 : Int32} {h g h' g' : zs_H} (hb : nf + 1 = nb) (hi : i < 32784) (hk : k < 33500) (c0 : (h.2.1 15) i = p0) (m0 : (g.2.1 73) k = p0) (SE : zv_SE Q LC LM nb nf F h g h' g') : ∃ h2 g2, f_Jd_judgeDeclaration_346 h' (nI i) = some h2 ∧ f_Mo_rule g' (if (g'.2.1 88) (nb - 1) ≤ 4096 then 0 else 1) 19 (nI k) = some g2 ∧ zfr zv_cf zv_cm [] h h2 ∧ zfr zv_mf zv_mm [] g g2 ∧ ((∃ φ, zv_X φ p0 h2 g2) ∨ (zv_SE Q LC LM nb nf F h g h2 g2 ∧ h2 = h' ∧ ∃ y, y ≤ 4096 ∧ (h2.2.1 25) (8 + nb) = nI y)) := by
  obtain ⟨I, f1, f2, f3⟩ := SE
  have I0 := I
  obtain ⟨HS, ⟨⟨B1, B2, B3⟩, _⟩, _, _, ⟨_, _, C2, _⟩, _, HJ, J1, J2⟩ := I
  obtain ⟨y, y1, y2, y3, y4⟩ := C2 (nb - 1) (by omega) (by omega)
  rw [show 9 + (nb - 1) = 8 + nb by omega] at y2
  have F1 : zfr zv_cf zv_cm [] h h' := zfr_w f1 (by decide) (by decide) (by decide)
  have F2 : zfr zv_mf zv_mm [] g g' := zfr_w f2 (by decide) (by decide) (by decide)
  have e1 : (nI y ≤ 4096) ↔ y ≤ 4096 := zc_el (k := 4096) (by decide) (by omega)
  unfold f_Jd_judgeDeclaration_346 f_Jd_judgeDeclaration_370
  rw [(HJ (by omega)).1, if_pos (zi_in (by omega) (by omega)), nI_clamp (by omega), y2, y3]
  by_cases z : y ≤ 4096
  · rw [if_pos (e1.mpr z), if_pos (e1.mpr z), zv_ref0, zv_rule0]
    exact ⟨h', g', rfl, rfl, F1, F2, .inr ⟨⟨I0, f1, f2, f3⟩, rfl, y, z, y2⟩⟩
  · rw [if_neg (mt e1.mp z), if_neg (mt e1.mp z), show (19 : Int32) = nI 19 from rfl, zv_ref1 (by decide) J1 hi, zv_rule1 (by decide) J2 hk]
    refine ⟨_, _, rfl, rfl, zfr_F (by decide) (zfr_F (by decide) F1), zfr_F (by decide) (zfr_F (by decide) F2), .inl ⟨19, by decide, by decide, rfl, ?_, rfl, ?_⟩⟩
    · show (h'.2.1 15) i = p0
      rw [f1.2.1 _ (by decide)]; exact c0
    · show (g'.2.1 73) k = p0
      rw [f2.2.1 _ (by decide)]; exact m0
theorem zv_decl {Q : Nat → Prop} {LC LM : List (List Int32)} {nb nf ns i k k4 it kt f t s ic km kc y : Nat} {F : Nat → Nat} {q pl cn cm v of p0 : Int32} {h g : zs_H} (I : zv_I LC LM nb nf ns F q h g) (hb : nf + 1 = nb) (hns : ns < F nb) (hi : i < 32784) (hk : k < 33500) (hk4 : k4 < 33500) (hit : it < 32784) (hkt : kt < 33500) (ht : t < 3) (hs : s < 3) (c0 : (h.2.1 15) i = p0) (c1 : (h.2.1 13) it = nI f) (c2 : (h.2.1 18) it = cn) (c3 : (h.1 38 5) = nI s) (c4 : (h.1 38 6) = nI (32 + ns)) (m0 : (g.2.1 73) k = p0) (m1 : (g.2.1 72) kt = nI f) (m2 : (g.2.1 75) k = nI k4) (m3 : (g.2.1 74) k4 = nI s) (TY : zv_TY nb f t it kt of h g) (hcn : zv_cC cn ic kc v h) (hcm : zv_cM cm km kc v g) (hcc : cn = -1 ↔ cm = -1) (hv31 : kc = 31 → v = 0 ∨ v = 1)
    (hpq : (pl = -1 ∧ q = -1) ∨ ∃ p, p < 1536 ∧ (768 ≤ p → p % 256 < 64) ∧ pl = nI p ∧ q = nI p ∧ F nb = ns + 1 ∧ (h.2.1 21) (8 + nb) = 3) (hy : (h.2.1 25) (8 + nb) = nI y) (hy2 : y ≤ 4096) (hch : zv_ch Q g (F nb - ns) ((g.2.1 76) k)) :
    ∃ h' g', f_Jd_judgeDeclaration_89 h (nI i) (nI it) pl = some h' ∧ zv_tlM g k (nI (F nb - ns)) pl kt cm = some g' ∧ zfr zv_cf zv_cm [] h h' ∧ zfr zv_mf zv_mm [] g g' ∧ ((∃ φ, zv_X φ p0 h' g') ∨ (zv_SE Q LC LM nb nf F h g h' g' ∧ (∃ inst, ((s = 0 ∨ inst = -1) ∧ (f = 10 ∨ inst = -1 ∨ inst = -2)) ∧ zv_so (F (nb - 1)) ((h.2.1 21) (8 + nb)) ns (F nb) inst h h') ∧ ∃ y, y ≤ 4096 ∧ (h'.2.1 25) (8 + nb) = nI y)) := by
  have I0 := I
  obtain ⟨hf, hv8, hof, _⟩ := zv_TYof TY
  obtain ⟨HS, ⟨⟨B1, B2, B3⟩, ⟨V1, V2, V3⟩, _⟩, _, _, _, _, HJ, J1, J2⟩ := I
  have hpl : zv_pv pl := by
    rcases hpq with ⟨z, _⟩ | ⟨p, z1, z2, z3, _⟩
    · exact .inl z
    · exact .inr ⟨p, z1, z2, z3⟩
  have hbl : (h.1 38 4) = nI (8 + nb) := (HJ (by omega)).1
  have eC1 : f_Jd_judgeDeclaration_89 h (nI i) (nI it) pl = f_Jd_judgeDeclaration_165 h (nI i) (nI it) pl cn (nI f) (nI t) := by
    unfold f_Jd_judgeDeclaration_89
    have hi1 : zd_in (nI it) 32784 := zi_in (by omega) hit
    have cit : (nI it).toNatClampNeg = it := nI_clamp (by omega)
    simp only [if_pos hi1, cit, c1, c2]
    rcases TY with ⟨r1, r2, r3, r4⟩ | ⟨r1, r2, i1, i2, i3, k1, k2, k3, lo, hi, ⟨b1, b2, b3, b4, b5, b6⟩, ⟨d1, d2, d3, d4, d5, d6⟩, _⟩ | ⟨r1, r2, _⟩
    · subst r1
      rw [if_pos (by decide), r2]
    · subst r1
      unfold f_Tr_second
      rw [if_neg (by decide), if_pos (by decide)]
      simp only [if_pos hi1, cit, d1, if_neg (zc_m1 (show i1 < 2147483648 by omega)), if_pos (zi_in (show i1 < 2147483648 by omega) b1), nI_clamp (show i1 < 2147483648 by omega), d2, Option.bind_some, if_pos (zi_in (show i2 < 2147483648 by omega) b2), nI_clamp (show i2 < 2147483648 by omega), d3, if_pos (zi_in (show i3 < 2147483648 by omega) b3), nI_clamp (show i3 < 2147483648 by omega), d6]
    · subst r1; subst r2
      rw [if_neg (by decide), if_neg (by decide)]; rfl
  have eC2 := zv_d43C (x1 := nI i) (x2 := nI it) (pl := pl) (cn := cn) (ty := nI t) hs hf c3
  have eM2 : zv_tlM g k (nI (F nb - ns)) pl kt cm = _ := zv_d43M (n2 := nI (F nb - ns)) (pl := pl) (cn := cm) hs hf hk hk4 hkt m2 m3 m1
  rw [zv_170] at eM2
  have ea18 : zv_a18 f t kc pl cm v = zv_a18 f t kc pl cn v := by
    unfold zv_a18
    by_cases z : cn = -1
    · rw [if_pos z, if_pos (hcc.mp z)]
    · rw [if_neg z, if_neg (mt hcc.mpr z)]
  rw [eC1, eC2, eM2]
  -- a fault
  have bad : ∀ φ : Nat, 0 < φ → φ < 1000 → ∃ h1 g1, h1 = zs_uF (zs_uF h 38 3 (nI φ)) 38 0 ((h.2.1 15) i) ∧ g1 = zs_uF (zs_uF g 68 29 (nI φ)) 68 30 ((g.2.1 73) k) ∧ zfr zv_cf zv_cm [] h h1 ∧ zfr zv_mf zv_mm [] g g1 ∧ zv_X φ p0 h1 g1 ∧ ¬ (h1.1 38 3) = 0 ∧ ¬ (g1.1 68 29) ≤ 0 := by
    intro φ a b
    refine ⟨_, _, rfl, rfl, zfr_F (by decide) (zfr_F (by decide) zfr_rfl), zfr_F (by decide) (zfr_F (by decide) zfr_rfl), ⟨a, b, rfl, c0, rfl, m0⟩, ?_, ?_⟩
    · show ¬ nI φ = 0
      exact fun z => by have := (zc_eq (k := 0) (by decide) (by omega)).mp z; omega
    · show ¬ nI φ ≤ 0
      exact fun z => by have := (zc_el (k := 0) (by decide) (by omega)).mp z; omega
  by_cases A43 : s = 0 ∨ f = 8
  · rw [show zv_a43 s f = 0 from if_pos A43, zv_ref0, zv_rule0, Option.bind_some, Option.bind_some, zv_d15C hf hpl, zv_233, show zv_p15M g (nI k) (nI (F nb - ns)) pl cm f kt = _ from zv_d15M hf hpl hkt hv8, zv_213]
    by_cases A15 : zv_a15 f t pl = 0
    · rw [A15, zv_ref0, zv_rule0, Option.bind_some, Option.bind_some, show zv_b18C h (nI i) (nI it) pl cn f t = _ from zv_d18C hf ht hpl hcn, zv_ofM hkt TY, zv_d18M hf ht hpl hcm hof, ea18]
      by_cases A18 : zv_a18 f t kc pl cn v = 0
      · rw [A18, zv_ref0, zv_rule0, Option.bind_some, Option.bind_some]
        -- all is well
        obtain ⟨co, ⟨hco, hc01⟩, eC3⟩ : ∃ co, (zv_co cm co g ∧ (t = 0 → co = 0 ∨ co = 1)) ∧ f_Jd_judgeDeclaration_311 h (nI i) (nI it) pl cn (nI t) = (f_Jd_settle h (nI it) (nI t) pl co).bind fun h2 => f_Jd_judgeDeclaration_346 h2 (nI i) := by
          unfold f_Jd_judgeDeclaration_311 f_Jd_judgeDeclaration_343
          rw [if_pos J1]
          rcases hcn with z | ⟨z1, z2, z3, z4, z5⟩
          · exact ⟨0, ⟨.inl ⟨hcc.mp z, rfl⟩, fun _ => .inl rfl⟩, by rw [if_pos z]⟩
          · have nz : ¬ cn = -1 := by rw [z1]; exact zc_m1 (by omega)
            rcases hcm with u | ⟨u1, u2, u3, u4, u5⟩
            · exact absurd (hcc.mpr u) nz
            · have c01 : t = 0 → v = 0 ∨ v = 1 := fun t0 => by
                unfold zv_a18 at A18
                rw [if_neg nz] at A18
                by_cases y1 : f = 10
                · rw [if_pos y1] at A18; exact absurd A18 (by decide)
                rw [if_neg y1] at A18
                by_cases y2 : ¬ pl = -1 ∧ (pl / 256 = 0 ∨ pl / 256 = 3)
                · rw [if_pos y2] at A18; exact absurd A18 (by decide)
                rw [if_neg y2] at A18
                unfold zv_bd at A18
                by_cases y3 : kc = 31
                · exact hv31 y3
                · rw [if_neg y3, if_pos t0] at A18; exact absurd A18 (by decide)
              exact ⟨v, ⟨.inr ⟨km, u2, u1, u5⟩, c01⟩, by rw [if_neg nz, z1, if_pos (zi_in (by omega) z2), nI_clamp (by omega), z5]⟩
        obtain ⟨sz, inst, low, ⟨s1, s1l⟩, s2, s3, s4, s5, s6⟩ := zv_sizes (pl := pl) (co := co) (x1 := nI k) (x2 := nI (F nb - ns)) (cm := cm) I0 hb hit hkt c1 TY
        have e462 : f_Mo_lookAtDeclaration_462 g (nI k) (nI (F nb - ns)) pl (nI kt) cm (nI (f - 8)) of (nI sz) = f_Mo_lookAtDeclaration_L480 zF g (nI k) pl (nI kt) cm (nI (f - 8)) of (nI sz) (nI ns) ((g.2.1 76) k) := by
          unfold f_Mo_lookAtDeclaration_462
          rw [if_pos (zi_in (by omega) hk), nI_clamp (by omega), V2, zi_sub (by omega), show F nb - (F nb - ns) = ns by omega]
        rw [eC3, s5, s6, e462]
        unfold f_Jd_settle_118
        rw [c4]
        have fin : ∃ h' g', f_Jd_settle_L124 zF h (nI t) pl co inst low (nI sz) (nI (32 + ns)) = some h' ∧ f_Mo_lookAtDeclaration_L480 zF g (nI k) pl (nI kt) cm (nI (f - 8)) of (nI sz) (nI ns) ((g.2.1 76) k) = f_Mo_rule g' (if (g'.2.1 88) (nb - 1) ≤ 4096 then 0 else 1) 19 (nI k) ∧ zv_SE Q LC LM nb nf F h g h' g' ∧ zv_so (F (nb - 1)) ((h.2.1 21) (8 + nb)) ns (F nb) inst h h' := by
          have hz := zF_big
          rcases hpq with ⟨z1, z2⟩ | ⟨p, p1, p2, p3, p4, p5, p6⟩
          · subst z1; subst z2
            have : (F nb - ns) * sz ≤ 5900 * 30000 := Nat.mul_le_mul (by omega) s1
            exact zv_settleU hb ht s1 ⟨hc01, s1l, fun p z hp => absurd z.symm (zc_m1 (by omega))⟩ (F nb - ns) zF zF ns y ((g.2.1 76) k) h g (by omega) (by omega) (by omega) I0 hy (by omega) s3 s4 hco hch
          · subst p3; subst p4
            have n1 : ¬ nI p = -1 := zc_m1 (by omega)
            have f8 : f = 8 := by
              unfold zv_a15 at A15
              rw [if_neg n1] at A15
              by_cases zz : f = 8
              · exact zz
              · rw [if_neg (fun u => zz u.1)] at A15; exact absurd A15 (by decide)
            have e1 := s2 f8
            subst e1
            rw [show F nb - ns = 1 by omega] at hch
            have i1 : inst = -1 := by
              rw [f8] at s3
              rcases s3 with ⟨e, _⟩ | ⟨_, e, _⟩ | ⟨B, _, _, e, _⟩
              · exact e
              · exact absurd e (by decide)
              · exact absurd e (by decide)
            have dt0 : ∀ p' : Nat, nI p = nI p' → p' < 1536 → (p' < 768 ↔ t = 0) := fun p' e hp' => by
              have ep : p = p' := (nI_eq (by omega) (by omega)).mp e
              subst ep
              have e7 : ((768 : Int32) ≤ nI p) ↔ 768 ≤ p := zc_le (k := 768) (by decide) (by omega)
              unfold zv_a15 at A15
              rw [if_neg n1] at A15
              by_cases z7 : 768 ≤ p
              · rw [if_pos (e7.mpr z7)] at A15
                by_cases zz : f = 8 ∧ nI t = 1
                · have := (zc_eq (k := 1) (by decide) (by omega)).mp zz.2
                  omega
                · rw [if_neg zz] at A15; exact absurd A15 (by decide)
              · rw [if_neg (mt e7.mp z7)] at A15
                by_cases zz : f = 8 ∧ nI t = 0
                · have := (zc_eq (k := 0) (by decide) (by omega)).mp zz.2
                  omega
                · rw [if_neg zz] at A15; exact absurd A15 (by decide)
            exact zv_settleP hb ht ⟨hc01, s1l, dt0⟩ (by omega) (by omega) (by omega) I0 hy (by omega) s3 s4 hco hch p1 p2 p6 i1
        obtain ⟨h', g', w1, w2, w3, w4⟩ := fin
        rw [w1, w2, Option.bind_some]
        obtain ⟨h9, g9, x1, x2, x3, x4, x5⟩ := zv_d19 hb hi hk c0 m0 w3
        refine ⟨h9, g9, x1, x2, x3, x4, ?_⟩
        rcases x5 with x5 | ⟨x5, x6, x7⟩
        · exact .inl x5
        · have ii : s = 0 ∨ inst = -1 := by
            rcases A43 with z | z
            · exact .inl z
            · right
              rw [z] at s3
              rcases s3 with ⟨e, _⟩ | ⟨_, e, _⟩ | ⟨B, _, _, e, _⟩
              · exact e
              · exact absurd e (by decide)
              · exact absurd e (by decide)
          have ij : f = 10 ∨ inst = -1 ∨ inst = -2 := by
            rcases s3 with ⟨e, _⟩ | ⟨e, _⟩ | ⟨B, _, _, e, _⟩
            · exact .inr (.inl e)
            · exact .inr (.inr e)
            · left
              have h8 : f - 8 < 2147483648 := by rcases hf with e | e | e <;> rw [e] <;> decide
              have e2 := (zc_eq (k := 2) (by decide) h8).mp e
              rcases hf with z | z | z
              · rw [z] at e2; exact absurd e2 (by decide)
              · rw [z] at e2; exact absurd e2 (by decide)
              · exact z
          exact .inr ⟨x5, ⟨inst, ⟨ii, ij⟩, by rw [x6]; exact w4⟩, x7⟩
      · obtain ⟨h1, g1, eh, eg, b1, b2, b3, b4, b5⟩ := bad 18 (by decide) (by decide)
        refine ⟨h1, g1, ?_, ?_, b1, b2, .inl ⟨18, b3⟩⟩
        · rw [show f_Jd_refuseIf h (zv_a18 f t kc pl cn v) 18 (nI i) = some h1 by rw [eh]; exact zv_ref1 (φ := 18) A18 J1 hi, Option.bind_some]
          unfold f_Jd_judgeDeclaration_311 f_Jd_judgeDeclaration_346 f_Jd_judgeDeclaration_370
          rw [if_neg b4, show (h1.1 38 4) = nI (8 + nb) by rw [eh]; exact hbl, if_pos (zi_in (by omega) (by omega)), zv_refF b4, zv_refF b4, Option.bind_some]
          split <;> rfl
        · rw [show f_Mo_rule g (zv_a18 f t kc pl cn v) 18 (nI k) = some g1 by rw [eg]; exact zv_rule1 (φ := 18) A18 J2 hk, Option.bind_some]
          unfold f_Mo_lookAtDeclaration_398
          rw [if_neg b5]
    · obtain ⟨h1, g1, eh, eg, b1, b2, b3, b4, b5⟩ := bad 15 (by decide) (by decide)
      have TY1 : zv_TY nb f t it kt of h1 g1 := by rw [eh, eg]; exact TY
      refine ⟨h1, g1, ?_, ?_, b1, b2, .inl ⟨15, b3⟩⟩
      · rw [show f_Jd_refuseIf h (zv_a15 f t pl) 15 (nI i) = some h1 by rw [eh]; exact zv_ref1 (φ := 15) A15 J1 hi, Option.bind_some]
        exact zv_afC18 (ic := ic) (kc := kc) (v := v) hf ht hpl (by rw [eh]; exact hcn) b4 (by rw [eh]; exact hbl) B3
      · rw [show f_Mo_rule g (zv_a15 f t pl) 15 (nI k) = some g1 by rw [eg]; exact zv_rule1 (φ := 15) A15 J2 hk, Option.bind_some]
        exact zv_afM18 (km := km) (kc := kc) (v := v) ht hpl hkt TY1 (by rw [eg]; exact hcm) b5
  · obtain ⟨h1, g1, eh, eg, b1, b2, b3, b4, b5⟩ := bad 43 (by decide) (by decide)
    have TY1 : zv_TY nb f t it kt of h1 g1 := by rw [eh, eg]; exact TY
    have a1 : zv_a43 s f = 1 := if_neg A43
    rw [a1]
    refine ⟨h1, g1, ?_, ?_, b1, b2, .inl ⟨43, b3⟩⟩
    · rw [show f_Jd_refuseIf h 1 43 (nI i) = some h1 by rw [eh]; exact zv_ref1 (φ := 43) (by decide) J1 hi, Option.bind_some]
      exact zv_afC15 (ic := ic) (kc := kc) (v := v) hf ht hpl (by rw [eh]; exact hcn) b4 (by rw [eh]; exact hbl) B3
    · rw [show f_Mo_rule g 1 43 (nI k) = some g1 by rw [eg]; exact zv_rule1 (φ := 43) (by decide) J2 hk, Option.bind_some]
      exact zv_afM15 (km := km) (kc := kc) (v := v) ht hpl hkt TY1 (by rw [eg]; exact hcm) b5
end
section
/-! The judge: both sides go through a node's children. -/
section ZVF
variable {D D' d i k kd sz : Nat} {St : zt_T → zs_H → zs_H → Int32 → Int32 → Prop} {Fb : zs_H → zs_H → Prop}
/-- both sides do one child -/
def zv_stp (D D' d sz : Nat) (St : zt_T → zs_H → zs_H → Int32 → Int32 → Prop) (Fb : zs_H → zs_H → Prop) : Prop := ∀ c kv w l r h g x x', St (.inner c kv w l r) h g x x' → ∃ a b, x = nI a ∧ a < 32784 ∧ x' = nI b ∧ b < 33500 ∧ (h.1 38 3) = 0 ∧ (g.1 68 29) = 0 ∧ (h.1 12 6) = nI sz ∧ ∃ h' g', f_Jd_visit D h (nI a) (nI (d + 1)) = some h' ∧ f_Mo_look D' g (nI b) = some g' ∧ ((Fb h' g' ∧ ¬ (h'.1 38 3) = 0 ∧ ¬ (g'.1 68 29) = 0) ∨ St r h' g' ((h'.2.1 18) a) ((g'.2.1 78) b))
theorem zv_fold (hd : d < 1000) (hsz : sz < 100000) (hstep : zv_stp D D' d sz St Fb) (hend : ∀ h g x x', St .leaf h g x x' → x = -1 ∧ x' = -1) : ∀ (u : zt_T) (turn N N' : Nat) (h g : zs_H) (x x' : Int32), St u h g x x' → turn + zt_ln u ≤ sz → zt_ln u < N → zt_ln u < N' →
    (∃ h' g', f_Jd_visit_L26 (f_Jd_visit D) N h (nI i) (nI d) x (nI turn) = some h' ∧ f_Mo_lookAlone_L28 (f_Mo_look D') N' g (nI k) (nI kd) x' = some g' ∧ Fb h' g' ∧ ¬ (h'.1 38 3) = 0 ∧ ¬ (g'.1 68 29) = 0) ∨
    (∃ h' g', St .leaf h' g' (-1) (-1) ∧ f_Jd_visit_L26 (f_Jd_visit D) N h (nI i) (nI d) x (nI turn) = f_Jd_visit_74 h' (nI i) ∧ f_Mo_lookAlone_L28 (f_Mo_look D') N' g (nI k) (nI kd) x' = f_Mo_lookAlone_54 g' (nI k) (nI kd)) := by
  intro u
  induction u with
  | leaf =>
    intro turn N N' h g x x' hS h1 h2 h3
    obtain ⟨N, rfl⟩ : ∃ n, N = n + 1 := ⟨N - 1, by omega⟩
    obtain ⟨N', rfl⟩ : ∃ n, N' = n + 1 := ⟨N' - 1, by omega⟩
    obtain ⟨e1, e2⟩ := hend h g x x' hS
    subst e1; subst e2
    refine .inr ⟨h, g, hS, ?_, ?_⟩
    · show f_Jd_visit_26 (f_Jd_visit D) (f_Jd_visit_L26 (f_Jd_visit D) N) h (nI i) (nI d) (-1) (nI turn) = _
      unfold f_Jd_visit_26
      rw [if_pos rfl]
      split <;> rfl
    · show f_Mo_lookAlone_28 (f_Mo_look D') (f_Mo_lookAlone_L28 (f_Mo_look D') N') g (nI k) (nI kd) (-1) = _
      unfold f_Mo_lookAlone_28
      rw [if_pos (by decide)]
  | inner c kv w l r ihl ihr =>
    intro turn N N' h g x x' hS h1 h2 h3
    have hl : zt_ln (.inner c kv w l r) = 1 + zt_ln r := rfl
    obtain ⟨N, rfl⟩ : ∃ n, N = n + 1 := ⟨N - 1, by omega⟩
    obtain ⟨N', rfl⟩ : ∃ n, N' = n + 1 := ⟨N' - 1, by omega⟩
    obtain ⟨a, b, e1, e2, e3, e4, e5, e6, e7, h', g', e8, e9, e10⟩ := hstep c kv w l r h g x x' hS
    subst e1; subst e3
    have eC : f_Jd_visit_L26 (f_Jd_visit D) (N + 1) h (nI i) (nI d) (nI a) (nI turn) = f_Jd_visit_L26 (f_Jd_visit D) N h' (nI i) (nI d) ((h'.2.1 18) a) (nI (turn + 1)) := by
      show f_Jd_visit_26 (f_Jd_visit D) (f_Jd_visit_L26 (f_Jd_visit D) N) h (nI i) (nI d) (nI a) (nI turn) = _
      unfold f_Jd_visit_26
      rw [e7, if_neg (mt (nI_leI (by omega) (by omega)).mp (by omega)), if_neg (zc_m1 (by omega)), if_pos e5, nI_1, e8, Option.bind_some, if_pos (zi_in (by omega) e2), nI_clamp (by omega), nI_1]
    have eM : f_Mo_lookAlone_L28 (f_Mo_look D') (N' + 1) g (nI k) (nI kd) (nI b) = f_Mo_lookAlone_L28 (f_Mo_look D') N' g' (nI k) (nI kd) ((g'.2.1 78) b) := by
      show f_Mo_lookAlone_28 (f_Mo_look D') (f_Mo_lookAlone_L28 (f_Mo_look D') N') g (nI k) (nI kd) (nI b) = _
      unfold f_Mo_lookAlone_28
      rw [if_neg (mt (zc_tl (k := 0) (by decide) (by omega)).mp (by omega)), if_pos e6, e9, Option.bind_some, if_pos (zi_in (by omega) e4), nI_clamp (by omega)]
    rw [eC, eM]
    rcases e10 with ⟨f1, f2, f3⟩ | hS'
    · left
      obtain ⟨N, rfl⟩ : ∃ n, N = n + 1 := ⟨N - 1, by omega⟩
      obtain ⟨N', rfl⟩ : ∃ n, N' = n + 1 := ⟨N' - 1, by omega⟩
      refine ⟨h', g', ?_, ?_, f1, f2, f3⟩
      · show f_Jd_visit_26 (f_Jd_visit D) (f_Jd_visit_L26 (f_Jd_visit D) N) h' (nI i) (nI d) ((h'.2.1 18) a) (nI (turn + 1)) = _
        unfold f_Jd_visit_26 f_Jd_visit_74
        rw [if_neg f2, if_neg f2, ite_self, ite_self]
      · show f_Mo_lookAlone_28 (f_Mo_look D') (f_Mo_lookAlone_L28 (f_Mo_look D') N') g' (nI k) (nI kd) ((g'.2.1 78) b) = _
        unfold f_Mo_lookAlone_28 f_Mo_lookAlone_54
        rw [if_neg f3, if_neg f3, ite_self]
    · exact ihr (turn + 1) N N' h' g' _ _ hS' (by omega) (by omega) (by omega)
/-- both sides come to a node that is no block and no sign between two -/
theorem zv_node {l : zt_T} {h h1 g : zs_H} (hd : d ≤ 240) (hsz : sz < 100000) (hi : i < 32784) (hk : k < 33500) (hkd : kd < 100) (hkb : kd = 0 ∨ 4 ≤ kd) (h35 : ¬ kd = 35) (m1 : (g.2.1 72) k = nI kd) (hen : f_Jd_enter h (nI i) = some h1) (hstep : zv_stp D D' d sz St Fb) (hend : ∀ h g x x', St .leaf h g x x' → x = -1 ∧ x' = -1) (hS : St l h1 g ((h1.2.1 17) i) ((g.2.1 76) k)) (hln : zt_ln l ≤ sz) :
    (∃ h' g', f_Jd_visit (D + 1) h (nI i) (nI d) = some h' ∧ f_Mo_look (D' + 2) g (nI k) = some g' ∧ Fb h' g' ∧ ¬ (h'.1 38 3) = 0 ∧ ¬ (g'.1 68 29) = 0) ∨
    (∃ h' g', St .leaf h' g' (-1) (-1) ∧ f_Jd_visit (D + 1) h (nI i) (nI d) = f_Jd_visit_74 h' (nI i) ∧ f_Mo_look (D' + 2) g (nI k) = (f_Mo_lookAlone_54 g' (nI k) (nI kd)).bind fun g2 => some g2) := by
  have hz := zF_big
  have eC : f_Jd_visit (D + 1) h (nI i) (nI d) = f_Jd_visit_L26 (f_Jd_visit D) zF h1 (nI i) (nI d) ((h1.2.1 17) i) (nI 0) := by
    show g_Jd_visit (f_Jd_visit D) h (nI i) (nI d) = _
    unfold g_Jd_visit
    rw [if_pos ((zc_el (k := 240) (by decide) (by omega)).mpr hd), hen, Option.bind_some, if_pos (zi_in (by omega) hi), nI_clamp (by omega)]
    rfl
  have eA : f_Mo_lookAlone (D' + 1) g (nI k) = f_Mo_lookAlone_L28 (f_Mo_look D') zF g (nI k) (nI kd) ((g.2.1 76) k) := by
    show g_Mo_lookAlone (f_Mo_look D') g (nI k) = _
    unfold g_Mo_lookAlone f_Mo_lookAlone_21
    simp only [if_pos (zi_in (show k < 2147483648 by omega) hk), nI_clamp (show k < 2147483648 by omega), m1]
    rcases hkb with z | z
    · rw [if_pos ((zc_el (k := 0) (by decide) (by omega)).mpr (by omega))]
    · rw [if_neg (mt (zc_el (k := 0) (by decide) (by omega)).mp (by omega)), if_pos ((zc_le (k := 4) (by decide) (by omega)).mpr z)]
  have eM : f_Mo_look (D' + 2) g (nI k) = (f_Mo_lookAlone (D' + 1) g (nI k)).bind fun g2 => some g2 := by
    show f_Mo_look_L2 (f_Mo_look (D' + 1)) (f_Mo_lookAlone (D' + 1)) zF g (nI k) (nI k) = _
    rw [show zF = 18446744073709551615 + 1 from rfl]
    show f_Mo_look_2 (f_Mo_look (D' + 1)) (f_Mo_lookAlone (D' + 1)) (f_Mo_look_L2 (f_Mo_look (D' + 1)) (f_Mo_lookAlone (D' + 1)) 18446744073709551615) g (nI k) (nI k) = _
    unfold f_Mo_look_2
    rw [if_pos (zi_in (by omega) hk), nI_clamp (by omega), m1, if_neg (fun z => h35 ((zc_eq (k := 35) (by decide) (by omega)).mp z))]
    refine congrArg _ (funext fun g2 => ?_)
    rw [show zF = 18446744073709551615 + 1 from rfl]
    show f_Mo_look_28 (f_Mo_look (D' + 1)) (f_Mo_look_L28 (f_Mo_look (D' + 1)) 18446744073709551615) g2 (nI k) (nI k) = _
    unfold f_Mo_look_28
    rw [if_pos rfl]
  rcases zv_fold (i := i) (k := k) (kd := kd) (by omega) hsz hstep hend l 0 zF zF h1 g _ _ hS (by omega) (by omega) (by omega) with ⟨h', g', a1, a2, a3⟩ | ⟨h', g', a1, a2, a3⟩
  · exact .inl ⟨h', g', by rw [eC, a1], by rw [eM, eA, a2, Option.bind_some], a3⟩
  · exact .inr ⟨h', g', a1, by rw [eC, a2], by rw [eM, eA, a3]⟩
end ZVF
end
section
/-! The judge: what keeps the tables; nodes without children. -/
abbrev zv_kf : List (Nat × Nat) := [(38, 5), (38, 6), (38, 7), (38, 8), (38, 9), (38, 10), (38, 12)]
abbrev zv_km : List Nat := [13, 14, 16, 17, 39]
abbrev zv_gm : List Nat := [100, 101, 102]
theorem zv_Ifr {LC LM : List (List Int32)} {nb nf ns : Nat} {F : Nat → Nat} {q : Int32} {h g h' g' : zs_H} (I : zv_I LC LM nb nf ns F q h g) (a : zfr zv_kf zv_km [] h h') (b : zfr [] zv_gm [] g g') : zv_I LC LM nb nf ns F q h' g' := by
  obtain ⟨HS, HB, HN, HV, HC, HT, HJ, J1, J2⟩ := I
  have e21 : h'.2.1 21 = h.2.1 21 := a.2.1 _ (by decide)
  have e22 : h'.2.1 22 = h.2.1 22 := a.2.1 _ (by decide)
  have e23 : h'.2.1 23 = h.2.1 23 := a.2.1 _ (by decide)
  have e24 : h'.2.1 24 = h.2.1 24 := a.2.1 _ (by decide)
  have e25 : h'.2.1 25 = h.2.1 25 := a.2.1 _ (by decide)
  have e26 : h'.2.1 26 = h.2.1 26 := a.2.1 _ (by decide)
  have e27 : h'.2.1 27 = h.2.1 27 := a.2.1 _ (by decide)
  have e28 : h'.2.1 28 = h.2.1 28 := a.2.1 _ (by decide)
  have e29 : h'.2.1 29 = h.2.1 29 := a.2.1 _ (by decide)
  have e30 : h'.2.1 30 = h.2.1 30 := a.2.1 _ (by decide)
  have e31 : h'.2.1 31 = h.2.1 31 := a.2.1 _ (by decide)
  have e32 : h'.2.1 32 = h.2.1 32 := a.2.1 _ (by decide)
  have e33 : h'.2.1 33 = h.2.1 33 := a.2.1 _ (by decide)
  have e34 : h'.2.1 34 = h.2.1 34 := a.2.1 _ (by decide)
  have e35 : h'.2.1 35 = h.2.1 35 := a.2.1 _ (by decide)
  have e36 : h'.2.1 36 = h.2.1 36 := a.2.1 _ (by decide)
  have e37 : h'.2.1 37 = h.2.1 37 := a.2.1 _ (by decide)
  have e40 : h'.2.1 40 = h.2.1 40 := a.2.1 _ (by decide)
  have g85 : g'.2.1 85 = g.2.1 85 := b.2.1 _ (by decide)
  have g86 : g'.2.1 86 = g.2.1 86 := b.2.1 _ (by decide)
  have g87 : g'.2.1 87 = g.2.1 87 := b.2.1 _ (by decide)
  have g88 : g'.2.1 88 = g.2.1 88 := b.2.1 _ (by decide)
  have g89 : g'.2.1 89 = g.2.1 89 := b.2.1 _ (by decide)
  have g90 : g'.2.1 90 = g.2.1 90 := b.2.1 _ (by decide)
  have g91 : g'.2.1 91 = g.2.1 91 := b.2.1 _ (by decide)
  have g92 : g'.2.1 92 = g.2.1 92 := b.2.1 _ (by decide)
  have g93 : g'.2.1 93 = g.2.1 93 := b.2.1 _ (by decide)
  have g94 : g'.2.1 94 = g.2.1 94 := b.2.1 _ (by decide)
  have g95 : g'.2.1 95 = g.2.1 95 := b.2.1 _ (by decide)
  have g96 : g'.2.1 96 = g.2.1 96 := b.2.1 _ (by decide)
  have g97 : g'.2.1 97 = g.2.1 97 := b.2.1 _ (by decide)
  have g98 : g'.2.1 98 = g.2.1 98 := b.2.1 _ (by decide)
  have g99 : g'.2.1 99 = g.2.1 99 := b.2.1 _ (by decide)
  have f17 : h'.1 20 17 = h.1 20 17 := a.1 _ _ (by decide)
  have f18 : h'.1 20 18 = h.1 20 18 := a.1 _ _ (by decide)
  have f19 : h'.1 20 19 = h.1 20 19 := a.1 _ _ (by decide)
  have j3 : h'.1 38 3 = h.1 38 3 := a.1 _ _ (by decide)
  have j4 : h'.1 38 4 = h.1 38 4 := a.1 _ _ (by decide)
  have k29 : g'.1 68 29 = g.1 68 29 := b.1 _ _ (by decide)
  have k33 : g'.1 68 33 = g.1 68 33 := b.1 _ _ (by decide)
  have k41 : g'.1 68 41 = g.1 68 41 := b.1 _ _ (by decide)
  have k54 : g'.1 68 54 = g.1 68 54 := b.1 _ _ (by decide)
  refine ⟨zv_Sfr HS b (by decide) (by decide) (by decide), ?_, ?_, ?_, ?_, ?_, ?_, j3.trans J1, k29.trans J2⟩
  · unfold zv_B zj_ST at HB ⊢; simp only [e21, e22, e23, e24, e25, e26, e27, e28, e29, e30, e31, e32, e33, e34, e35, e36, e37, e40, g85, g86, g87, g88, g89, g90, g91, g92, g93, g94, g95, g96, g97, g98, g99, f17, f18, f19, j3, j4, k29, k33, k41, k54]; exact HB
  · unfold zv_N at HN ⊢; simp only [e21, e22, e23, e24, e25, e26, e27, e28, e29, e30, e31, e32, e33, e34, e35, e36, e37, e40, g85, g86, g87, g88, g89, g90, g91, g92, g93, g94, g95, g96, g97, g98, g99, f17, f18, f19, j3, j4, k29, k33, k41, k54]; exact HN
  · unfold zv_V zv_Q at HV ⊢; simp only [e21, e22, e23, e24, e25, e26, e27, e28, e29, e30, e31, e32, e33, e34, e35, e36, e37, e40, g85, g86, g87, g88, g89, g90, g91, g92, g93, g94, g95, g96, g97, g98, g99, f17, f18, f19, j3, j4, k29, k33, k41, k54]; exact HV
  · unfold zv_C at HC ⊢; simp only [e21, e22, e23, e24, e25, e26, e27, e28, e29, e30, e31, e32, e33, e34, e35, e36, e37, e40, g85, g86, g87, g88, g89, g90, g91, g92, g93, g94, g95, g96, g97, g98, g99, f17, f18, f19, j3, j4, k29, k33, k41, k54]; exact HC
  · unfold zv_T at HT ⊢; simp only [e21, e22, e23, e24, e25, e26, e27, e28, e29, e30, e31, e32, e33, e34, e35, e36, e37, e40, g85, g86, g87, g88, g89, g90, g91, g92, g93, g94, g95, g96, g97, g98, g99, f17, f18, f19, j3, j4, k29, k33, k41, k54]; exact HT
  · simp only [e21, e22, e23, e24, e25, e26, e27, e28, e29, e30, e31, e32, e33, e34, e35, e36, e37, e40, g85, g86, g87, g88, g89, g90, g91, g92, g93, g94, g95, g96, g97, g98, g99, f17, f18, f19, j3, j4, k29, k33, k41, k54]; exact HJ
theorem zv_ent0 {h : zs_H} {i kd : Nat} (hi : i < 32784) (hkd : kd < 100) (c : (h.2.1 13) i = nI kd) (hk : ¬ kd ∈ [1, 2, 3, 4, 5, 13, 16, 19, 22, 24]) : f_Jd_enter h (nI i) = some h := by
  have e : ∀ j, j < 100 → j ∈ [1, 2, 3, 4, 5, 13, 16, 19, 22, 24] → ¬ nI kd = nI j := fun j h1 h2 z => hk (by rw [(nI_eq (by omega) (by omega)).mp z]; exact h2)
  unfold f_Jd_enter
  rw [if_pos (zi_in (by omega) hi), nI_clamp (by omega), c]
  rw [if_neg (show ¬ nI kd = 1 from e 1 (by decide) (by decide)), if_neg (show ¬ nI kd = 2 from e 2 (by decide) (by decide)), if_neg (show ¬ nI kd = 3 from e 3 (by decide) (by decide)), if_neg (show ¬ nI kd = 4 from e 4 (by decide) (by decide)), if_neg (show ¬ nI kd = 5 from e 5 (by decide) (by decide)), if_neg (show ¬ nI kd = 13 from e 13 (by decide) (by decide)), if_neg (show ¬ nI kd = 16 from e 16 (by decide) (by decide)), if_neg (show ¬ nI kd = 19 from e 19 (by decide) (by decide)), if_neg (show ¬ nI kd = 22 from e 22 (by decide) (by decide)), if_neg (show ¬ nI kd = 24 from e 24 (by decide) (by decide))]
/-- a node without children -/
theorem zv_leaf {D D' d i k kd : Nat} {h g : zs_H} (hd : d ≤ 240) (hi : i < 32784) (hk : k < 33500) (hkd : kd < 100) (hkb : kd = 0 ∨ 4 ≤ kd) (h35 : ¬ kd = 35) (hke : ¬ kd ∈ [1, 2, 3, 4, 5, 13, 16, 19, 22, 24]) (c : (h.2.1 13) i = nI kd) (c2 : (h.2.1 17) i = -1) {km : Nat} (hkm : km < 100) (hkmb : km = 0 ∨ 4 ≤ km) (hm35 : ¬ km = 35) (m1 : (g.2.1 72) k = nI km) (m2 : (g.2.1 76) k = -1) (J1 : (h.1 38 3) = 0) : f_Jd_visit (D + 1) h (nI i) (nI d) = f_Jd_leave h (nI i) ∧ f_Mo_look (D' + 2) g (nI k) = f_Mo_lookAlone_54 g (nI k) (nI km) := by
  have := zv_node (D := D) (D' := D') (d := d) (sz := 0) (i := i) (k := k) (kd := km) (l := .leaf) (h := h) (h1 := h) (g := g) (St := fun u h' g' x x' => u = .leaf ∧ h' = h ∧ g' = g ∧ x = -1 ∧ x' = -1) (Fb := fun _ _ => False) hd (by omega) hi hk hkm hkmb hm35 m1 (zv_ent0 hi hkd c hke) (fun c kv w l r h g x x' z => by cases z.1) (fun h g x x' z => ⟨z.2.2.2.1, z.2.2.2.2⟩) ⟨rfl, rfl, rfl, c2, m2⟩ (Nat.le_refl _)
  rcases this with ⟨_, _, _, _, z, _⟩ | ⟨h', g', ⟨_, z1, z2, _⟩, e1, e2⟩
  · exact absurd z id
  · subst z1; subst z2
    refine ⟨?_, ?_⟩
    · rw [e1]
      unfold f_Jd_visit_74
      rw [if_pos J1, Option.bind_fun_some]
    · rw [e2, Option.bind_fun_some]
/-- a constant, 30 or 31 -/
theorem zv_const {D D' d i k kd : Nat} {h g : zs_H} {v : Int32} (hd : d ≤ 240) (hi : i < 32784) (hk : k < 33500) (hkd : kd = 30 ∨ kd = 31) (c : (h.2.1 13) i = nI kd) (c2 : (h.2.1 17) i = -1) (c3 : (h.2.1 16) i = v) (c4 : (h.2.1 14) i = 0) (m1 : (g.2.1 72) k = nI kd) (m2 : (g.2.1 76) k = -1) (m3 : (g.2.1 74) k = v) (J1 : (h.1 38 3) = 0) (J2 : (g.1 68 29) = 0) : ∃ h' g', f_Jd_visit (D + 1) h (nI i) (nI d) = some h' ∧ f_Mo_look (D' + 2) g (nI k) = some g' ∧ (h'.2.1 14) i = (if kd = 31 then 0 else if 32767 < v then 2 else 1) ∧ (g'.2.1 100) k = (if kd = 31 then 0 else if 32767 < v then 2 else 1) ∧ (∀ j, ¬ j = i → (h'.2.1 14) j = (h.2.1 14) j) ∧ (∀ j, ¬ j = k → (g'.2.1 100) j = (g.2.1 100) j) ∧ zfr [] [14] [] h h' ∧ zfr [] [100] [] g g' := by
  have hke : ¬ kd ∈ [1, 2, 3, 4, 5, 13, 16, 19, 22, 24] := by rcases hkd with e | e <;> rw [e] <;> decide
  obtain ⟨e1, e2⟩ := zv_leaf (D := D) (D' := D') hd hi hk (by omega) (by omega) (by omega) hke c c2 (by omega) (by omega) (by omega) m1 m2 J1
  rw [e1, e2]
  have hin : zd_in (nI i) 32784 := zi_in (by omega) hi
  have ci : (nI i).toNatClampNeg = i := nI_clamp (by omega)
  have hik : zd_in (nI k) 33500 := zi_in (by omega) hk
  have ck : (nI k).toNatClampNeg = k := nI_clamp (by omega)
  unfold f_Jd_leave f_Jd_leave_438 f_Mo_lookAlone_54 f_Mo_lookAtExpressions f_Mo_lookAtExpressions_66
  rw [if_pos J2]
  have e6 : (v ≤ 32767) ↔ ¬ 32767 < v := Int32.not_lt.symm
  rcases hkd with e | e
  · subst e
    simp (config := { decide := true }) only [if_pos hin, ci, c, if_pos hik, ck, m1, m3, c3, if_false, if_true, e6, Option.bind_fun_some]
    by_cases z : 32767 < v
    · simp only [z, not_true, if_true, if_false]
      refine ⟨_, _, rfl, rfl, ?_, ?_, fun j hj => ?_, fun j hj => ?_, zfr_M (by decide) zfr_rfl, zfr_M (by decide) zfr_rfl⟩
      · rw [zu_MM, if_pos ⟨rfl, rfl⟩]; rfl
      · rw [zu_MM, if_pos ⟨rfl, rfl⟩]
      · rw [zu_MM, if_neg (fun u => hj u.2)]
      · rw [zu_MM, if_neg (fun u => hj u.2)]
    · simp only [z, not_false_iff, if_true, if_false]
      refine ⟨_, _, rfl, rfl, ?_, ?_, fun j hj => ?_, fun j hj => ?_, zfr_M (by decide) zfr_rfl, zfr_M (by decide) zfr_rfl⟩
      · rw [zu_MM, if_pos ⟨rfl, rfl⟩]; rfl
      · rw [zu_MM, if_pos ⟨rfl, rfl⟩]
      · rw [zu_MM, if_neg (fun u => hj u.2)]
      · rw [zu_MM, if_neg (fun u => hj u.2)]
  · subst e
    simp (config := { decide := true }) only [if_pos hin, ci, c, if_pos hik, ck, m1, if_false, if_true, Option.bind_fun_some]
    refine ⟨_, _, rfl, rfl, c4, ?_, fun j hj => rfl, fun j hj => ?_, zfr_rfl, zfr_M (by decide) zfr_rfl⟩
    · rw [zu_MM, if_pos ⟨rfl, rfl⟩]
    · rw [zu_MM, if_neg (fun u => hj u.2)]
end
