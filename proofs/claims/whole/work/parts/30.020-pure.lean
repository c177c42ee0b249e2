section
/-! The judge: the walk through a declaration: type and constant. -/
section ZVT
variable {LC LM : List (List Int32)} {nb nf ns sz k d D D' c : Nat} {F : Nat → Nat} {l : zt_T} {P Q : Nat → Prop} {h1 g1 : zs_H} {kv : Int32 × Int32} {o : Unit} {lc r : zt_T} {h g : zs_H} {x x' : Int32}
/-- what both sides do with a child, and what they leave -/
def zv_res (D D' d sz : Nat) (h1 g1 : zs_H) (St : zs_H → zs_H → Int32 → Int32 → Prop) (h g : zs_H) (x x' : Int32) : Prop := ∃ a b, x = nI a ∧ a < 32784 ∧ x' = nI b ∧ b < 33500 ∧ (h.1 38 3) = 0 ∧ (g.1 68 29) = 0 ∧ (h.1 12 6) = nI sz ∧ ∃ h' g', f_Jd_visit D h (nI a) (nI (d + 1)) = some h' ∧ f_Mo_look D' g (nI b) = some g' ∧ ((zv_Fb h1 g1 h' g' ∧ ¬ (h'.1 38 3) = 0 ∧ ¬ (g'.1 68 29) = 0) ∨ St h' g' ((h'.2.1 18) a) ((g'.2.1 78) b))
theorem zv_SDx (hP : ∀ j, P j → j < 32784) (hQ : ∀ j, Q j → j < 33500) (hsz : (h1.1 12 6) = nI sz) (S : zv_SD LC LM nb nf ns k F l P Q h1 g1 (.inner c kv o lc r) h g x x') (hc : c = 8 ∨ c = 9 ∨ c = 10 ∨ c = 30 ∨ c = 31) :
    ∃ (st' a b : Nat) (P1 Q1 : Nat → Prop) (z1 q : Int32) (F' : Nat → Nat), (x = nI a ∧ a < 32784 ∧ x' = nI b ∧ b < 33500) ∧ ((h.1 38 3) = 0 ∧ (g.1 68 29) = 0 ∧ (h.1 12 6) = nI sz) ∧ ((h.2.1 13) a = nI c ∧ (h.2.1 15) a = kv.1 ∧ (h.2.1 16) a = kv.2 ∧ (h.2.1 14) a = 0) ∧ ((g.2.1 72) b = nI c ∧ (g.2.1 73) b = kv.1 ∧ (if zt_nk c = true then zt_nr LC LM kv.2 ((g.2.1 74) b) else (g.2.1 74) b = kv.2)) ∧ (zt_C h lc P1 ((h.2.1 17) a) z1 ∧ zt_M LC LM g lc Q1 (nI b) ((g.2.1 76) b) ((g.2.1 77) b) ∧ (∀ j, P1 j → j < 32784 ∧ ¬ j = a ∧ (h.2.1 14) j = 0) ∧ (∀ j, Q1 j → j < 33500 ∧ Q j) ∧ Q b) ∧ ((zg_A c (zg_run c 0 lc) = true ∧ zg_v c kv.2) ∧ zg_ok lc) ∧ zv_I LC LM nb nf ns F' q h g ∧ (h.2.1 36 = h1.2.1 36 ∧ h.2.1 21 = h1.2.1 21) ∧
      (∀ h' g', zv_X 0 0 h' g' → False) ∧ (∀ h' g' φ p, zv_X φ p h' g' → zfr zv_cf (14 :: zv_cm) [] h h' → zfr zv_mf zv_mm [] g g' → zv_Fb h1 g1 h' g' ∧ ¬ (h'.1 38 3) = 0 ∧ ¬ (g'.1 68 29) = 0) ∧
      (∀ h' g', (c = 8 ∨ c = 9 ∨ c = 10 → zv_Ph nb h1 c kv lc) → zfr [] [14] [] h h' → zfr [] [100] [] g g' → (∀ j, ¬ j = a → ¬ P1 j → (h'.2.1 14) j = (h.2.1 14) j) → (∀ j, ¬ Q j → (g'.2.1 100) j = (g.2.1 100) j) → zv_SD LC LM nb nf ns k F l P Q h1 g1 r h' g' ((h'.2.1 18) a) ((g'.2.1 78) b)) := by
  have n37 : ¬ c = 37 := by omega
  have n38 : ¬ c = 38 := by omega
  have n7 : ¬ c = 7 := by omega
  have n11 : ¬ c = 11 := by omega
  obtain ⟨st, Pu, Qu, yy, yy', F', q, ⟨sC, sM⟩, ⟨s1, s2⟩, ⟨s3, s4, s5, s6, s7⟩, I, ⟨s8, s9⟩, s10, s11, s12, s13, s14, s15, s16⟩ := S
  have s4' : ¬ zg_run 5 (zg_q 5 st c) r = 99 := s4
  have h4 : ¬ zg_q 5 st c = 99 := fun z => s4' (by rw [z]; exact zv_q99 5 r)
  have hst : (1 ≤ st ∧ st ≤ 3) ∧ (zg_q 5 st c = 3 ∨ zg_q 5 st c = 4) := by
    clear s13 s15
    rcases zv_q5 h4 with ⟨e, _⟩ | ⟨e, _⟩ | ⟨_, e, e'⟩ | ⟨_, e, e'⟩
    · omega
    · omega
    · exact ⟨by omega, .inl e'⟩
    · exact ⟨by omega, .inr e'⟩
  have en : zv_nm (.inner c kv o lc r) = zv_nm r := by show (if c = 37 then 1 else 0) + zv_nm r = _; rw [if_neg n37, Nat.zero_add]
  rw [en] at s9
  have hns := s7 hst.1.1
  have hst3 : 3 ≤ zg_q 5 st c ∧ zg_q 5 st c ≤ 4 := by clear s13 s15; omega
  have hpl : q = zv_plc l ∧ (q = -1 ∨ ∃ p, p < 1536 ∧ (768 ≤ p → p % 256 < 64) ∧ q = nI p ∧ F' nb = ns + 1 ∧ (h1.2.1 21) (8 + nb) = 3) := by
    rcases s13 with ⟨_, e1, e2⟩ | ⟨_, _, e1, e2⟩
    · refine ⟨?_, .inl e1⟩
      rw [e1, e2]
      show -1 = (if c = 7 then kv.2 else zv_plc r)
      rw [if_neg n7]
      exact (zv_plc0 r _ (Nat.le_trans (by decide) hst3.1) hst3.2 s4').symm
    · exact ⟨e1, e2⟩
  obtain ⟨a, P1, P2, z1, z2, ea, a1, a2, a3, a4, a5, a6, a7, a8, a9, a10⟩ := zv_hC sC
  obtain ⟨b, Q1, Q2, z3, eb, b1, b2, b3, b4, b5, b6, b7, b8, b9, b10, b11⟩ := zv_hM sM
  have ha := hP a (s1 a a2)
  have hbb := hQ b (s2 b b2)
  have hkm : zt_km c = c := by unfold zt_km; rw [if_neg n37, if_neg n38]
  rw [hkm] at b3
  refine ⟨zg_q 5 st c, a, b, P1, Q1, z1, q, F', ⟨ea, ha, eb, hbb⟩, ⟨I.2.2.2.2.2.2.2.1, I.2.2.2.2.2.2.2.2, (s11.1.1 _ _ (by decide)).trans hsz⟩, ⟨a3, a4, a5, s10 a a2⟩, ⟨b3, b4 n11, b5⟩, ⟨a8, b9, fun j hj => ⟨hP j (s1 j (a6 j hj).1), (a6 j hj).2.1, s10 j (a6 j hj).1⟩, fun j hj => ⟨hQ j (s2 j (b7 j hj).1), s2 j (b7 j hj).1⟩, s2 b b2⟩, ⟨s3.1, s3.2.1⟩, I, ⟨s12.1.2.2.2.1, s12.1.1⟩, fun _ _ z => absurd z.1 (Nat.lt_irrefl 0), fun h' g' φ p X f1 f2 => ?_, fun h' g' Ph f1 f2 t1 t2 => ?_⟩
  · have xn := zv_Xn X
    exact ⟨⟨⟨φ, p, X⟩, zfr_trans (zfr_w s11.1 (fun _ z => z) (by decide) (by decide)) (zfr_w f1 (fun _ z => z) (by decide) (by decide)), zfr_trans s11.2.1 f2⟩, xn.1, xn.2⟩
  · have I' : zv_I LC LM nb nf ns F' q h' g' := zv_Ifr I (zfr_w f1 (by decide) (by decide) (by decide)) (zfr_w f2 (by decide) (by decide) (by decide))
    exact zv_sNext (c := c) (a := a) (b := b) (P1 := P1) (Q1 := Q1) s1 s2 s3.2.2 hst3 s4' I s8 s9 hns s10 s11 s12 hpl (fun z => s14 ⟨Ph, z⟩) (fun j hj => ⟨(a7 j hj).1, (a7 j hj).2, fun z => (a6 j z).2.2 hj⟩) (fun j hj => (b8 j hj).1) a9 b10 I' f1 f2 t1 t2 (fun j hj => hj.elim (fun e => by rw [e]; exact s1 a a2) (fun e => s1 j (a6 j e).1))
theorem zv_sType (hP : ∀ j, P j → j < 32784) (hQ : ∀ j, Q j → j < 33500) (hd : d < 240) (hsz : (h1.1 12 6) = nI sz) (S : zv_SD LC LM nb nf ns k F l P Q h1 g1 (.inner 8 kv o lc r) h g x x') : zv_res (D + 1) (D' + 2) d sz h1 g1 (zv_SD LC LM nb nf ns k F l P Q h1 g1 r) h g x x' := by
  obtain ⟨st', a, b, P1, Q1, z1, q, F', ⟨e1, e2, e3, e4⟩, ⟨J1, J2, J3⟩, ⟨a1, a2, a3, a4⟩, ⟨b1, b2, b3⟩, ⟨cC, cM, _, _, qb⟩, ⟨⟨o1, o2⟩, o3⟩, I, _, _, _, nx⟩ := zv_SDx hP hQ hsz S (.inl rfl)
  have el : lc = .leaf := zv_nolf (kd := 8) (by decide +kernel) o1
  subst el
  have c9 : (h.2.1 17) a = -1 := (show (h.2.1 17) a = -1 ∧ z1 = -1 from cC).1
  have m9 : (g.2.1 76) b = -1 := (show (g.2.1 76) b = -1 ∧ (g.2.1 77) b = -1 from cM).1
  rw [if_neg (by decide)] at b3
  obtain ⟨v1, v2⟩ := zv_vType (D := D) (D' := D') (d := d + 1) (by omega) e2 e4 J1 J2 a1 c9 b1 m9 b3
  refine ⟨a, b, e1, e2, e3, e4, J1, J2, J3, h, _, v1, v2, .inr (nx h _ (fun _ => ⟨fun z => by omega, fun z => by omega, fun z => by omega⟩) zfr_rfl (zfr_M (by decide) zfr_rfl) (fun _ _ _ => rfl) fun j hj => ?_)⟩
  rw [zu_MM, if_neg (fun z => hj (by rw [z.2]; exact qb))]
theorem zv_sConst (hc : c = 30 ∨ c = 31) (hP : ∀ j, P j → j < 32784) (hQ : ∀ j, Q j → j < 33500) (hd : d < 240) (hsz : (h1.1 12 6) = nI sz) (S : zv_SD LC LM nb nf ns k F l P Q h1 g1 (.inner c kv o lc r) h g x x') : zv_res (D + 1) (D' + 2) d sz h1 g1 (zv_SD LC LM nb nf ns k F l P Q h1 g1 r) h g x x' := by
  obtain ⟨st', a, b, P1, Q1, z1, q, F', ⟨e1, e2, e3, e4⟩, ⟨J1, J2, J3⟩, ⟨a1, a2, a3, a4⟩, ⟨b1, b2, b3⟩, ⟨cC, cM, _, _, qb⟩, ⟨⟨o1, o2⟩, o3⟩, I, _, _, _, nx⟩ := zv_SDx hP hQ hsz S (by omega)
  have el : lc = .leaf := by
    rcases hc with e | e
    · subst e; exact zv_nolf (kd := 30) (by decide +kernel) o1
    · subst e; exact zv_nolf (kd := 31) (by decide +kernel) o1
  subst el
  have c9 : (h.2.1 17) a = -1 := (show (h.2.1 17) a = -1 ∧ z1 = -1 from cC).1
  have m9 : (g.2.1 76) b = -1 := (show (g.2.1 76) b = -1 ∧ (g.2.1 77) b = -1 from cM).1
  have b3' : (g.2.1 74) b = kv.2 := by
    rcases hc with e | e
    · subst e; rw [if_neg (by decide)] at b3; exact b3
    · subst e; rw [if_neg (by decide)] at b3; exact b3
  obtain ⟨h', g', v1, v2, _, _, v5, v6, v7, v8⟩ := zv_const (D := D) (D' := D') (d := d + 1) (by omega) e2 e4 hc a1 c9 a3 a4 b1 m9 b3' J1 J2
  exact ⟨a, b, e1, e2, e3, e4, J1, J2, J3, h', g', v1, v2, .inr (nx h' g' (fun z => by omega) v7 v8 (fun j hj _ => v5 j hj) fun j hj => v6 j (fun z => hj (by rw [z]; exact qb)))⟩
theorem zv_sBtype (hP : ∀ j, P j → j < 32784) (hQ : ∀ j, Q j → j < 33500) (hb : 0 < nb) (hd : d < 240) (hsz : (h1.1 12 6) = nI sz) (S : zv_SD LC LM nb nf ns k F l P Q h1 g1 (.inner 10 kv o lc r) h g x x') : zv_res (D + 1) (D' + 2) d sz h1 g1 (zv_SD LC LM nb nf ns k F l P Q h1 g1 r) h g x x' := by
  obtain ⟨st', a, b, P1, Q1, z1, q, F', ⟨e1, e2, e3, e4⟩, ⟨J1, J2, J3⟩, ⟨a1, a2, a3, a4⟩, ⟨b1, b2, b3⟩, ⟨cC, cM, _, _, qb⟩, ⟨⟨o1, o2⟩, o3⟩, I, ⟨e36, e21⟩, _, fa, nx⟩ := zv_SDx hP hQ hsz S (by omega)
  have el : lc = .leaf := zv_nolf (kd := 10) (by decide +kernel) o1
  subst el
  have c9 : (h.2.1 17) a = -1 := (show (h.2.1 17) a = -1 ∧ z1 = -1 from cC).1
  have m9 : (g.2.1 76) b = -1 := (show (g.2.1 76) b = -1 ∧ (g.2.1 77) b = -1 from cM).1
  rw [if_pos (by decide)] at b3
  obtain ⟨cc, kk, w1, w2, w3, w4, w5, w6⟩ := id b3
  have hLC : LC.length < 6000 := I.1.2.2.1
  rw [w1] at b3
  obtain ⟨h', g', v1, v2, v3⟩ := zv_vBtype (D := D) (D' := D') (d := d + 1) I (by omega) hb e2 e4 b3 (by omega) a1 c9 (a3.trans w1) b1 m9 rfl
  refine ⟨a, b, e1, e2, e3, e4, J1, J2, J3, h', g', v1, v2, ?_⟩
  rcases v3 with ⟨f1, f2, yk, B, y1, y2, y3, _⟩ | Y
  · subst f1; subst f2
    exact .inr (nx h' g' (fun _ => ⟨fun z => by omega, fun _ => ⟨cc, B, w1, by omega, y1, by rw [← e36]; exact y2, fun z => by rw [← e21]; exact y3 z⟩, fun _ => by rw [← e21]; exact yk⟩) zfr_rfl zfr_rfl (fun _ _ _ => rfl) fun _ _ => rfl)
  · obtain ⟨X, f1, f2⟩ := zv_YX Y (by decide) (by decide) a2 b2
    exact .inl (fa h' g' 17 _ X (zfr_w f1 (fun _ z => z) (by decide) (by decide)) f2)
end ZVT
end
section
/-! The judge: the walk through a declaration: an array. -/
theorem zv_q9 {st c : Nat} (h : ¬ zg_q 9 st c = 99) : ((c = 30 ∨ c = 31) ∧ st = 0 ∧ zg_q 9 st c = 1) ∨ ((c = 30 ∨ c = 31) ∧ st = 1 ∧ zg_q 9 st c = 2) ∨ (c = 8 ∧ st = 2 ∧ zg_q 9 st c = 3) := by
  obtain ⟨cs, to, h1, h2, h3⟩ := zv_qR h
  have key : ∀ r ∈ zg_R, r.1 = 9 → r.2 ∈ [(0, [30, 31], 1), (1, [30, 31], 2), (2, [8], 3)] := by decide +kernel
  have m := key _ h1 rfl
  simp only [List.mem_cons, List.not_mem_nil, or_false, Prod.mk.injEq] at m
  rw [h3]
  rcases m with ⟨e1, e2, e3⟩ | ⟨e1, e2, e3⟩ | ⟨e1, e2, e3⟩ <;> subst e2 <;> simp only [List.mem_cons, List.not_mem_nil, or_false] at h2 <;> omega
theorem zv_A9 {st : Nat} (h : zg_A 9 st = true) : st = 3 := by
  unfold zg_A at h
  rw [List.elem_eq_mem, decide_eq_true_eq] at h
  simp only [List.mem_cons, Prod.mk.injEq, List.not_mem_nil, or_false] at h
  omega
theorem zv_lc9 {lc : zt_T} (h : zg_A 9 (zg_run 9 0 lc) = true) : ∃ (a1 a2 : Nat) (kv1 kv2 kv3 : Int32 × Int32) (l1 l2 l3 : zt_T), lc = .inner a1 kv1 () l1 (.inner a2 kv2 () l2 (.inner 8 kv3 () l3 .leaf)) ∧ (a1 = 30 ∨ a1 = 31) ∧ (a2 = 30 ∨ a2 = 31) := by
  have h3 := zv_A9 h
  cases lc with
  | leaf => exact absurd h3 (by decide)
  | inner a1 kv1 o1 l1 r1 =>
    have e1 : zg_run 9 (zg_q 9 0 a1) r1 = 3 := h3
    have n1 : ¬ zg_q 9 0 a1 = 99 := fun z => by rw [z, zv_q99] at e1; exact absurd e1 (by decide)
    rcases zv_q9 n1 with ⟨x1, _, x3⟩ | ⟨_, x2, _⟩ | ⟨_, x2, _⟩
    · rw [x3] at e1
      cases r1 with
      | leaf => exact absurd e1 (by decide)
      | inner a2 kv2 o2 l2 r2 =>
        have e2 : zg_run 9 (zg_q 9 1 a2) r2 = 3 := e1
        have n2 : ¬ zg_q 9 1 a2 = 99 := fun z => by rw [z, zv_q99] at e2; exact absurd e2 (by decide)
        rcases zv_q9 n2 with ⟨_, x2, _⟩ | ⟨y1, _, y3⟩ | ⟨_, x2, _⟩
        · omega
        · rw [y3] at e2
          cases r2 with
          | leaf => exact absurd e2 (by decide)
          | inner a3 kv3 o3 l3 r3 =>
            have e3 : zg_run 9 (zg_q 9 2 a3) r3 = 3 := e2
            have n3 : ¬ zg_q 9 2 a3 = 99 := fun z => by rw [z, zv_q99] at e3; exact absurd e3 (by decide)
            rcases zv_q9 n3 with ⟨_, x2, _⟩ | ⟨_, x2, _⟩ | ⟨w1, _, w3⟩
            · omega
            · omega
            · rw [w3] at e3
              cases r3 with
              | leaf => subst w1; exact ⟨a1, a2, kv1, kv2, kv3, l1, l2, l3, rfl, x1, y1⟩
              | inner a4 kv4 o4 l4 r4 =>
                have e4 : zg_run 9 (zg_q 9 3 a4) r4 = 3 := e3
                have n4 : ¬ zg_q 9 3 a4 = 99 := fun z => by rw [z, zv_q99] at e4; exact absurd e4 (by decide)
                rcases zv_q9 n4 with ⟨_, x2, _⟩ | ⟨_, x2, _⟩ | ⟨_, x2, _⟩ <;> omega
        · omega
    · omega
    · omega
theorem zv_sArr {LC LM : List (List Int32)} {nb nf ns sz k d D D' : Nat} {F : Nat → Nat} {l : zt_T} {P Q : Nat → Prop} {h1 g1 : zs_H} {kv : Int32 × Int32} {o : Unit} {lc r : zt_T} {h g : zs_H} {x x' : Int32} (hP : ∀ j, P j → j < 32784) (hQ : ∀ j, Q j → j < 33500) (hb : 0 < nb) (hd : d + 1 < 240) (hsz : (h1.1 12 6) = nI sz) (hs3 : 3 ≤ sz) (hsz2 : sz < 100000) (S : zv_SD LC LM nb nf ns k F l P Q h1 g1 (.inner 9 kv o lc r) h g x x') : zv_res (D + 2) (D' + 4) d sz h1 g1 (zv_SD LC LM nb nf ns k F l P Q h1 g1 r) h g x x' := by
  obtain ⟨st', a, b, P1, Q1, z1, q, F', ⟨e1, e2, e3, e4⟩, ⟨J1, J2, J3⟩, ⟨c1, c2, c3, c4⟩, ⟨b1, b2, b3⟩, ⟨cC, cM, cP, cQ, qb⟩, ⟨⟨o1, o2⟩, o3⟩, I, ⟨e36, e21⟩, _, fa, nx⟩ := zv_SDx hP hQ hsz S (by omega)
  obtain ⟨a1, a2, kv1, kv2, kv3, l1, l2, l3, el, ha1, ha2⟩ := zv_lc9 o1
  subst el
  obtain ⟨⟨u1, _⟩, _, ⟨u2, _⟩, _, ⟨u3, _⟩, _, _⟩ := o3
  have el1 : l1 = .leaf := by rcases ha1 with e | e <;> subst e <;> exact zv_nolf (by decide +kernel) u1
  have el2 : l2 = .leaf := by rcases ha2 with e | e <;> subst e <;> exact zv_nolf (by decide +kernel) u2
  have el3 : l3 = .leaf := zv_nolf (by decide +kernel) u3
  subst el1; subst el2; subst el3
  obtain ⟨i1, A1, A2, y1, _, ei1, _, p1, d1, _, w1, _, q1, f1, cC2, _⟩ := zv_hC cC
  obtain ⟨i2, A3, A4, y2, _, ei2, _, p2, d2, _, w2, _, q2, f2, cC3, _⟩ := zv_hC cC2
  obtain ⟨i3, A5, A6, y3, y4, ei3, _, p3, d3, _, w3, _, q3, f3, cC4, _⟩ := zv_hC cC3
  obtain ⟨k1, U1, U2, _, ek1, _, s1, m1, _, v1, _, _, t1, g1', cM2, _⟩ := zv_hM cM
  obtain ⟨k2, U3, U4, _, ek2, _, s2, m2, _, v2, _, _, t2, g2', cM3, _⟩ := zv_hM cM2
  obtain ⟨k3, U5, U6, y5, ek3, _, s3, m3, _, v3, _, _, t3, g3', cM4, _⟩ := zv_hM cM3
  have km1 : zt_km a1 = a1 := by rcases ha1 with e | e <;> subst e <;> decide
  have km2 : zt_km a2 = a2 := by rcases ha2 with e | e <;> subst e <;> decide
  rw [km1] at m1
  rw [km2] at m2
  have v1' : (g.2.1 74) k1 = kv1.2 := by rcases ha1 with e | e <;> subst e <;> (rw [if_neg (by decide)] at v1; exact v1)
  have v2' : (g.2.1 74) k2 = kv2.2 := by rcases ha2 with e | e <;> subst e <;> (rw [if_neg (by decide)] at v2; exact v2)
  have P2 := (q1 i2 p2).1
  have P3 := (q1 i3 (q2 i3 p3).1).1
  have Q2' := (t1 k2 s2).1
  have Q3' := (t1 k3 (t2 k3 s3).1).1
  obtain ⟨h', g', r1, r2, r3, r4, r5, r6, r7, r8, r9⟩ := zv_vArray (D := D) (D' := D') (d := d + 1) (sz := sz) (i := a) (k := b) (v3 := (g.2.1 74) k3) I hd hb hs3 hsz2 J3 e2 e4 (cP i1 p1).1 (cP i2 P2).1 (cP i3 P3).1 (cQ k1 s1).1 (cQ k2 Q2').1 (cQ k3 Q3').1 ⟨(q1 i2 p2).2, (q1 i3 (q2 i3 p3).1).2, (q2 i3 p3).2⟩ ha1 ha2 c1 ei1 ei2 ei3 (show (h.2.1 18) i3 = -1 ∧ y4 = -1 from cC4).1 d1 d2 d3 (show (h.2.1 17) i1 = -1 ∧ y1 = -1 from f1).1 (show (h.2.1 17) i2 = -1 ∧ y2 = -1 from f2).1 (show (h.2.1 17) i3 = -1 ∧ y3 = -1 from f3).1 w1 w2 (cP i1 p1).2.2 (cP i2 P2).2.2 c2 b1 ek1 ek2 ek3 (show (g.2.1 78) k3 = -1 ∧ y5 = -1 from cM4).1 m1 m2 m3 (show (g.2.1 76) k1 = -1 ∧ (g.2.1 77) k1 = -1 from g1').1 (show (g.2.1 76) k2 = -1 ∧ (g.2.1 77) k2 = -1 from g2').1 (show (g.2.1 76) k3 = -1 ∧ (g.2.1 77) k3 = -1 from g3').1 v1' v2' rfl b2
  refine ⟨a, b, e1, e2, e3, e4, J1, J2, J3, h', g', r1, r2, ?_⟩
  rcases r9 with ⟨φ, X⟩ | ⟨I', x1, x2, x3, x4, x5, x6⟩
  · exact .inl (fa h' g' φ _ X r3 r4)
  · refine .inr (nx h' g' (fun _ => ⟨fun _ => ⟨a1, a2, kv1, kv2, kv3, _, _, _, rfl, x5, x6, ha1.resolve_right x3, ha2.resolve_right x4⟩, fun z => by omega, fun z => by omega⟩) x1 x2 (fun j _ hj => r5 j (fun z => hj (by rw [z]; exact p1)) (fun z => hj (by rw [z]; exact P2))) fun j hj => r6 j (fun z => hj (by rw [z]; exact (cQ k1 s1).2)) (fun z => hj (by rw [z]; exact (cQ k2 Q2').2)) (fun z => hj (by rw [z]; exact (cQ k3 Q3').2)))
end
section
/-! The judge: a declaration is visited. -/
theorem zv_nm1 {l : zt_T} (h : zg_A 5 (zg_run 5 0 l) = true) : 1 ≤ zv_nm l := by
  cases l with
  | leaf => exact absurd h (by decide)
  | inner c kv o lc r =>
    have n1 : ¬ zg_q 5 0 c = 99 := fun z => by
      have : zg_run 5 0 (.inner c kv o lc r) = 99 := by show zg_run 5 (zg_q 5 0 c) r = 99; rw [z]; exact zv_q99 5 r
      rw [this, zv_A99] at h
      exact absurd h (by decide)
    rcases zv_q5 n1 with ⟨e, _⟩ | ⟨_, e, _⟩ | ⟨_, e, _⟩ | ⟨_, e, _⟩
    · subst e; show 1 ≤ 1 + zv_nm r; omega
    · omega
    · omega
    · omega
/-- old variables stay; new ones that are no VAR are simple -/
def zv_vn (a : Nat) (kd : Int32) (n m : Nat) (h h' : zs_H) : Prop := (∀ j, j < 32 + n → zv_v8 h h' j) ∧ (∀ v, n ≤ v → v < m → ¬ (h'.2.1 29) (32 + v) = 3 ∧ (((h'.2.1 29) (32 + v) = 1 ∨ (h'.2.1 29) (32 + v) = 2) → (h'.2.1 30) (32 + v) = -1) ∧ (kd = 1 → (h'.2.1 30) (32 + v) = -1 ∨ (h'.2.1 30) (32 + v) = -2) ∧ zv_lv a kd v h')
theorem zv_vnt {a0 : Nat} {kd : Int32} {n m m' : Nat} {h h1 h' : zs_H} (a : zv_vn a0 kd n m h h1) (b : zv_vn a0 kd m m' h1 h') (hnm : n ≤ m) : zv_vn a0 kd n m' h h' := by
  refine ⟨fun j hj => ?_, fun v h1 h2 => ?_⟩
  · obtain ⟨a1, a2, a3⟩ := a.1 j hj
    obtain ⟨b1, b2, b3⟩ := b.1 j (by omega)
    exact ⟨b1.trans a1, b2.trans a2, zv_v6t a3 b3⟩
  · by_cases e : v < m
    · obtain ⟨b1, b2, b3, _⟩ := b.1 (32 + v) (by omega)
      rw [b3, b2]
      obtain ⟨q1, q2, q3, q4⟩ := a.2 v h1 e
      exact ⟨q1, q2, q3, zv_lvf (fun u u2 => (b.1 (32 + u) (by omega)).2.2) q4⟩
    · exact b.2 v (by omega) h2
theorem zv_declV {LC LM : List (List Int32)} {nb nf s sz i k k4 d D D' yv : Nat} {F : Nat → Nat} {l : zt_T} {P Q : Nat → Prop} {h g : zs_H} {y y' p0 : Int32} (I : zv_I LC LM nb nf (F nb) F (-1) h g) (hbo : nf + 1 = nb) (hd : d + 1 < 240) (hN : F nb + zv_nm l ≤ 5900) (hs : s < 3) (hi : i < 32784) (hk : k < 33500) (hk4 : k4 < 33500) (hP : ∀ j, P j → j < 32784) (hQ : ∀ j, Q j → j < 33500) (hsz : (h.1 12 6) = nI sz) (hs3 : 3 ≤ sz) (hsz2 : sz < 100000) (hln : zt_ln l ≤ sz) (c0 : (h.2.1 13) i = 5) (c1 : (h.2.1 15) i = p0) (c2 : (h.1 38 5) = nI s) (m0 : (g.2.1 72) k = 5) (m1 : (g.2.1 73) k = p0) (m2 : (g.2.1 75) k = nI k4) (m3 : (g.2.1 74) k4 = nI s) (hC : zt_C h l P ((h.2.1 17) i) y) (hM : zt_M LC LM g l Q (nI k) ((g.2.1 76) k) y') (hA : zg_A 5 (zg_run 5 0 l) = true) (hok : zg_ok l) (hty : ∀ j, P j → (h.2.1 14) j = 0) (hy : (h.2.1 25) (8 + nb) = nI yv) (hy2 : yv ≤ 4096) :
    ∃ h' g', f_Jd_visit (D + 3) h (nI i) (nI d) = some h' ∧ f_Mo_look (D' + 6) g (nI k) = some g' ∧ ((zv_Fb h g h' g' ∧ ¬ (h'.1 38 3) = 0 ∧ ¬ (g'.1 68 29) = 0) ∨ (∃ F', (∀ j, ¬ j = nb → F' j = F j) ∧ F' nb = F nb + zv_nm l ∧ zv_I LC LM nb nf (F' nb) F' (-1) h' g' ∧ (∃ y, y ≤ 4096 ∧ (h'.2.1 25) (8 + nb) = nI y) ∧ ∃ h1 h2 g2, h1 = zs_uF h 38 6 (nI (32 + F nb)) ∧ zv_fr P Q h1 g h2 g2 ∧ zv_dk h1 g h2 g2 ∧ zv_SE Q LC LM nb nf F' h2 g2 h' g' ∧ zv_vn (F (nb - 1)) ((h.2.1 21) (8 + nb)) (F nb) (F' nb) h h')) := by
  have hb : 0 < nb := by omega
  have V1 : (h.1 20 18) = nI (32 + F nb) := I.2.1.2.1.1
  obtain ⟨h1, hh1⟩ : ∃ h1, h1 = zs_uF h 38 6 (nI (32 + F nb)) := ⟨_, rfl⟩
  have f01 : zfr [(38, 6)] [] [] h h1 := by rw [hh1]; exact zfr_F (by decide) zfr_rfl
  have A1 : ∀ z, h1.2.1 z = h.2.1 z := fun z => f01.2.1 z List.not_mem_nil
  have hen : f_Jd_enter h (nI i) = some h1 := by
    unfold f_Jd_enter
    simp (config := { decide := true }) only [if_pos (zi_in (show i < 2147483648 by omega) hi), nI_clamp (show i < 2147483648 by omega), c0, if_false, if_true, V1, hh1]
  have I1 : zv_I LC LM nb nf (F nb) F (-1) h1 g := zv_Ifr I (zfr_w f01 (by decide) (by decide) (by decide)) zfr_rfl
  have fd : (h1.1 38 6) = nI (32 + F nb) := by rw [hh1]; rfl
  have sec : (h1.1 38 5) = nI s := (f01.1 _ _ (by decide)).trans c2
  have siz : (h1.1 12 6) = nI sz := (f01.1 _ _ (by decide)).trans hsz
  have hC1 : zt_C h1 l P ((h1.2.1 17) i) y := by
    rw [A1]
    exact zt_fr l P P 0 _ y (fun i _ => ⟨fun kd k up z hz => by unfold zt_NC at hz ⊢; rw [A1, A1, A1]; exact hz, by rw [A1], by rw [A1]⟩) (fun i hi => hi) hC
  have S0 : zv_SD LC LM nb nf (F nb) k F l P Q h1 g l h1 g ((h1.2.1 17) i) ((g.2.1 76) k) := by
    refine ⟨0, P, Q, y, y', F, -1, ⟨hC1, hM⟩, ⟨fun _ z => z, fun _ z => z⟩, ⟨hok, fun z => ?_, by omega, fun _ => rfl, fun z => by omega⟩, I1, ⟨fun _ _ => rfl, rfl⟩, fun j hj => by rw [A1]; exact hty j hj, zv_fr0, ⟨⟨rfl, ⟨rfl, rfl, rfl⟩, rfl, rfl, rfl⟩, ⟨rfl, rfl, rfl, rfl⟩, rfl, zv_vo0 (n := 32 + F nb) ((f01.1 _ _ (by decide)).trans V1) (by omega)⟩, .inl ⟨by omega, rfl, rfl⟩, fun z => z, fun z => by omega, fun _ => rfl⟩
    rw [z, zv_A99] at hA
    exact absurd hA (by decide)
  have stp : zv_stp (D + 2) (D' + 4) d sz (zv_SD LC LM nb nf (F nb) k F l P Q h1 g) (zv_Fb h1 g) := by
    intro c kv w lc r h g x x' S
    have n1 : ∃ st, ¬ zg_q 5 st c = 99 := by
      obtain ⟨st, _, _, _, _, _, _, _, _, ⟨_, s4, _⟩, _⟩ := S
      exact ⟨st, fun z => s4 (by show zg_run 5 (zg_q 5 st c) r = 99; rw [z]; exact zv_q99 5 r)⟩
    obtain ⟨st, n1⟩ := n1
    rcases zv_q5 n1 with ⟨e, _⟩ | ⟨e, _⟩ | ⟨e, _⟩ | ⟨e, _⟩
    · subst e; exact zv_sName (D := D + 1) (D' := D' + 2) hP hQ hb (by omega) hN hs hk hk4 sec siz m0 m2 m3 S
    · subst e; exact zv_sPlace (D := D + 1) (D' := D' + 2) hP hQ hb (by omega) hk fd siz S
    · rcases e with e | e | e
      · subst e; exact zv_sType (D := D + 1) (D' := D' + 2) hP hQ (by omega) siz S
      · subst e; exact zv_sArr (D := D) (D' := D') hP hQ hb hd siz hs3 hsz2 S
      · subst e; exact zv_sBtype (D := D + 1) (D' := D' + 2) hP hQ hb (by omega) siz S
    · exact zv_sConst (D := D + 1) (D' := D' + 2) e hP hQ (by omega) siz S
  have hend : ∀ h' g' x x', zv_SD LC LM nb nf (F nb) k F l P Q h1 g .leaf h' g' x x' → x = -1 ∧ x' = -1 := by
    intro h' g' x x' S
    obtain ⟨_, _, _, yy, yy', _, _, ⟨sC, sM⟩, _⟩ := S
    exact ⟨(show x = -1 ∧ yy = -1 from sC).1, (show x' = -1 ∧ yy' = -1 from sM).1⟩
  rcases zv_node (D := D + 2) (D' := D' + 4) (kd := 5) (by omega) hsz2 hi hk (by decide) (by decide) (by decide) m0 hen stp hend S0 hln with ⟨h', g', e1, e2, ⟨X, x1, x2⟩, e4, e5⟩ | ⟨h', g', S, e1, e2⟩
  · exact ⟨h', g', e1, e2, .inl ⟨⟨X, zfr_trans (zfr_w f01 (by decide) (by decide) (by decide)) x1, x2⟩, e4, e5⟩⟩
  · obtain ⟨st, Pu, Qu, yy, yy', F', q, _, _, ⟨_, _, _, _, _⟩, I', ⟨s8, s9⟩, _, s11, s12, s13, s14, _, _⟩ := S
    have s9' : F' nb = F nb + zv_nm l := s9
    have hpl : q = zv_plc l ∧ (q = -1 ∨ ∃ p, p < 1536 ∧ (768 ≤ p → p % 256 < 64) ∧ q = nI p ∧ F' nb = F nb + 1 ∧ (h1.2.1 21) (8 + nb) = 3) := by
      rcases s13 with ⟨_, z1, z2⟩ | ⟨_, _, z1, z2⟩
      · exact ⟨z1.trans (show -1 = zv_plc l from z2.symm), .inl z1⟩
      · exact ⟨z1, z2⟩
    clear s13
    have J1 : (h'.1 38 3) = 0 := I'.2.2.2.2.2.2.2.1
    have J2 : (g'.1 68 29) = 0 := I'.2.2.2.2.2.2.2.2
    have gT : ∀ z, ¬ z ∈ zv_mm → g'.2.1 z = g.2.1 z := fun z hz => s11.2.1.2.1 z hz
    have hT : ∀ z, ¬ z ∈ (14 :: zv_cm) → h'.2.1 z = h1.2.1 z := fun z hz => s11.1.2.1 z hz
    obtain ⟨cC, cM⟩ := zv_CM s11 hC1 hM
    have hn1 := zv_nm1 hA
    obtain ⟨pl, cn, cm, it, kt, f, ic, km, kc, v, kvt, lt, DP, d2, d3, d4, d5, d6⟩ := zv_scanD (h := h') (g := g') (i := i) (k := k) ((s11.1.1 _ _ (by decide)).trans siz) hsz2 hi hk hA hok (by rw [hT 17 (by decide)]; exact cC) (by rw [gT 76 (by decide)]; exact cM) hP hQ hln
    have Ph := d6 _ (s14 trivial)
    obtain ⟨t, of, t1, TY⟩ := zv_mkTY (h1 := h1) I' hb hP hQ s12.1.2.2.2.1 s12.1.1 DP Ph
    obtain ⟨⟨D1, D2, D3⟩, ⟨D4, D5, D6, D7⟩, _, _, D8, D9, D10, D11, D12, D13⟩ := DP
    have eC : f_Jd_visit (D + 2 + 1) h (nI i) (nI d) = f_Jd_judgeDeclaration_89 h' (nI i) (nI it) pl := by
      rw [e1]
      unfold f_Jd_visit_74
      rw [if_pos J1, Option.bind_fun_some, zv_lv5 hi (by rw [hT 13 (by decide), A1]; exact c0), d2]
    have eM : f_Mo_look (D' + 4 + 2) g (nI k) = zv_tlM g' k (nI (zv_nm l)) pl kt cm := by
      rw [e2, Option.bind_fun_some, zv_54B (by decide) J2, ← d3]
      unfold f_Mo_lookAtBlocks
      simp (config := { decide := true }) only [if_pos (zi_in (show k < 2147483648 by omega) hk), nI_clamp (show k < 2147483648 by omega), show (g'.2.1 72) k = 5 by rw [gT 72 (by decide)]; exact m0, if_false, if_true, Option.bind_fun_some]
    obtain ⟨h2, g2, r1, r2, r3, r4, r5⟩ := zv_decl (p0 := p0) (y := yv) (s := s) (k4 := k4) I' hbo (show F nb < F' nb by omega) hi hk hk4 D1 D2 t1 hs (by rw [hT 15 (by decide), A1]; exact c1) D4 D8 (s12.2.1.2.2.1.trans sec) (s12.2.1.2.2.2.trans fd) (by rw [gT 73 (by decide)]; exact m1) D5 (by rw [gT 75 (by decide)]; exact m2) (by rw [gT 74 (by decide)]; exact m3) TY D9 D10 D11 D13 (pl := pl) (by
        rw [d5, hpl.1]
        rcases hpl.2 with z | ⟨p, z1, z2, z3, z4, z5⟩
        · exact .inl ⟨hpl.1 ▸ z, hpl.1 ▸ z⟩
        · exact .inr ⟨p, z1, z2, hpl.1 ▸ z3, hpl.1 ▸ z3, z4, by rw [s12.1.1]; exact z5⟩) (by rw [s12.1.2.2.1, A1]; exact hy) hy2 (by rw [show F' nb - F nb = zv_nm l by omega]; exact d4)
    rw [show F' nb - F nb = zv_nm l by omega] at r2
    refine ⟨h2, g2, eC.trans r1, eM.trans r2, ?_⟩
    rcases r5 with ⟨φ, X⟩ | ⟨SE, ⟨inst, ⟨ii, ij⟩, so⟩, hyy⟩
    · have xn := zv_Xn X
      exact .inl ⟨⟨⟨φ, _, X⟩, zfr_trans (zfr_w f01 (by decide) (by decide) (by decide)) (zfr_trans (zfr_w s11.1 (fun _ z => z) (by decide) (by decide)) (zfr_w r3 (fun _ z => z) (by decide) (by decide))), zfr_trans s11.2.1 r4⟩, xn.1, xn.2⟩
    · refine .inr ⟨F', s8, s9', SE.1, hyy, h1, h', g', hh1, s11, s12, SE, fun j hj => ?_, fun v v1 v2 => ?_⟩
      · obtain ⟨n, m, o1, o2, o3, o4, o5, o6⟩ := s12.2.2.2
        have en : n = 32 + F nb := by rw [show (h1.1 20 18) = nI (32 + F nb) from (f01.1 _ _ (by decide)).trans V1] at o1; exact ((nI_eq (by omega) (by omega)).mp o1).symm
        obtain ⟨a1, a2, a3⟩ := o5 j (by omega)
        have b3 := so.1 j (by omega)
        have q1 := SE.2.1
        have c3 := zv_v6t a3 b3
        refine ⟨?_, ?_, ?_, ?_, ?_, ?_, ?_, ?_⟩
        · rw [q1.2.1 _ (by decide), a1, A1]
        · rw [q1.2.1 _ (by decide), a2, A1]
        · rw [c3.1, A1]
        · rw [c3.2.1, A1]
        · rw [c3.2.2.1, A1]
        · rw [c3.2.2.2.1, A1]
        · rw [c3.2.2.2.2.1, A1]
        · rw [c3.2.2.2.2.2, A1]
      · obtain ⟨n, m, o1, o2, o3, o4, o5, o6⟩ := s12.2.2.2
        have en : n = 32 + F nb := by rw [show (h1.1 20 18) = nI (32 + F nb) from (f01.1 _ _ (by decide)).trans V1] at o1; exact ((nI_eq (by omega) (by omega)).mp o1).symm
        have em : m = 32 + F' nb := by rw [I'.2.1.2.1.1] at o2; exact ((nI_eq (by have := I'.2.1.2.1.2.2; omega) (by omega)).mp o2).symm
        have e := o6 (32 + v) (by omega) (by omega)
        have so2 := so.2 v v1 v2
        refine ⟨?_, fun v3 => ?_, fun k1 => ?_, ?_⟩
        · rw [SE.2.1.2.1 _ (by decide), e, sec]
          intro z
          have := (zc_eq (k := 3) (by decide) (by omega)).mp z
          omega
        · rcases ii with z | z
          · rw [SE.2.1.2.1 _ (by decide), e, sec, z] at v3
            exact absurd v3 (by decide)
          · rw [so2.1]; exact z
        · rw [so2.1]
          rcases ij with z | z
          · exact absurd (by rw [A1]; exact k1) (Ph.2.2 z)
          · exact z
        · have := so2.2
          rw [s8 (nb - 1) (by omega), s12.1.1, A1] at this
          exact this
end
section
/-! The judge: the walk through a section. -/
theorem zv_lnsz : ∀ u : zt_T, zt_ln u ≤ zt_sz u := by
  intro u
  induction u with
  | leaf => exact Nat.le_refl _
  | inner c k v l r ihl ihr => show 1 + zt_ln r ≤ 1 + zt_sz l + zt_sz r; omega
theorem zv_nmc : ∀ u : zt_T, zv_nm u ≤ zg_c u := by
  intro u
  induction u with
  | leaf => exact Nat.le_refl _
  | inner c k v l r ihl ihr => show (if c = 37 then 1 else 0) + zv_nm r ≤ (if c = 37 then 1 else 0) + zg_c l + zg_c r; omega
theorem zv_q4 {st c : Nat} (h : ¬ zg_q 4 st c = 99) : c = 5 ∧ st = 0 ∧ zg_q 4 st c = 0 := by
  obtain ⟨cs, to, h1, h2, h3⟩ := zv_qR h
  have key : ∀ r ∈ zg_R, r.1 = 4 → r.2 ∈ [(0, [5], 0)] := by decide +kernel
  have m := key _ h1 rfl
  simp only [List.mem_cons, List.not_mem_nil, or_false, Prod.mk.injEq] at m
  rw [h3]
  obtain ⟨e1, e2, e3⟩ := m
  subst e2
  simp only [List.mem_cons, List.not_mem_nil, or_false] at h2
  exact ⟨h2, e1, e3⟩
/-- what stays all through a section -/
def zv_sk (nb : Nat) (h1 g1 h g : zs_H) : Prop := (h.2.1 21 = h1.2.1 21 ∧ (h.2.1 22 = h1.2.1 22 ∧ h.2.1 26 = h1.2.1 26 ∧ h.2.1 27 = h1.2.1 27) ∧ h.2.1 36 = h1.2.1 36 ∧ h.2.1 39 = h1.2.1 39) ∧ ((h.1 38 10) = (h1.1 38 10) ∧ (h.1 38 12) = (h1.1 38 12) ∧ (h.1 38 5) = (h1.1 38 5)) ∧ g.2.1 84 = g1.2.1 84 ∧ ∀ b, b < nb - 1 → (h.2.1 25) (9 + b) = (h1.2.1 25) (9 + b)
def zv_SS (LC LM : List (List Int32)) (nb nf k : Nat) (F : Nat → Nat) (l : zt_T) (P Q : Nat → Prop) (h1 g1 : zs_H) (u : zt_T) (h g : zs_H) (x x' : Int32) : Prop :=
  ∃ (Pu Qu : Nat → Prop) (yy yy' : Int32) (F' : Nat → Nat),
  (zt_C h u Pu x yy ∧ zt_M LC LM g u Qu (nI k) x' yy') ∧ ((∀ j, Pu j → P j) ∧ (∀ j, Qu j → Q j)) ∧ (zg_ok u ∧ ¬ zg_run 4 0 u = 99) ∧ zv_I LC LM nb nf (F' nb) F' (-1) h g ∧ ((∀ j, ¬ j = nb → F' j = F j) ∧ F' nb + zg_c u ≤ F nb + zg_c l) ∧ (∀ j, Pu j → (h.2.1 14) j = 0) ∧ (∃ y, y ≤ 4096 ∧ (h.2.1 25) (8 + nb) = nI y) ∧ zv_fr P Q h1 g1 h g ∧ zv_sk nb h1 g1 h g ∧ zv_vn (F (nb - 1)) ((h1.2.1 21) (8 + nb)) (F nb) (F' nb) h1 h ∧ F nb ≤ F' nb
theorem zv_sDecl {LC LM : List (List Int32)} {nb nf s sz k d D D' c : Nat} {F : Nat → Nat} {l : zt_T} {P Q : Nat → Prop} {h1 g1 : zs_H} {kv : Int32 × Int32} {o : Unit} {lc r : zt_T} {h g : zs_H} {x x' : Int32} (hbo : nf + 1 = nb) (hP : ∀ j, P j → j < 32784 ∧ j < sz) (hQ : ∀ j, Q j → j < 33500) (hd : d + 2 < 240) (hN : F nb + zg_c l ≤ 5900) (hs : s < 3) (hk : k < 33500) (hs3 : 3 ≤ sz) (hsz2 : sz < 100000) (hsec : (h1.1 38 5) = nI s) (hsz : (h1.1 12 6) = nI sz) (m2 : (g1.2.1 74) k = nI s)
    (S : zv_SS LC LM nb nf k F l P Q h1 g1 (.inner c kv o lc r) h g x x') : zv_res (D + 3) (D' + 6) d sz h1 g1 (zv_SS LC LM nb nf k F l P Q h1 g1 r) h g x x' := by
  obtain ⟨Pu, Qu, yy, yy', F', ⟨sC, sM⟩, ⟨s1, s2⟩, ⟨s3, s4⟩, I, ⟨s8, s9⟩, s10, ⟨yv, y1, y2⟩, s11, s12, s13, s14⟩ := S
  have s4' : ¬ zg_run 4 (zg_q 4 0 c) r = 99 := s4
  have h4 : ¬ zg_q 4 0 c = 99 := fun z => s4' (by rw [z]; exact zv_q99 4 r)
  obtain ⟨e5, _, e0⟩ := zv_q4 h4
  rw [e0] at s4'
  subst e5
  have ec : zg_c (.inner 5 kv o lc r) = zg_c lc + zg_c r := by show 0 + zg_c lc + zg_c r = _; omega
  rw [ec] at s9
  obtain ⟨a, P1, P2, z1, z2, ea, a1, a2, a3, a4, a5, a6, a7, a8, a9, a10⟩ := zv_hC sC
  obtain ⟨b, Q1, Q2, z3, eb, b1, b2, b3, b4, b5, b6, b7, b8, b9, b10, b11⟩ := zv_hM sM
  have ha := hP a (s1 a a2)
  have hbb := hQ b (s2 b b2)
  have J1 : (h.1 38 3) = 0 := I.2.2.2.2.2.2.2.1
  have J2 : (g.1 68 29) = 0 := I.2.2.2.2.2.2.2.2
  have gT : ∀ z, ¬ z ∈ zv_mm → g.2.1 z = g1.2.1 z := fun z hz => s11.2.1.2.1 z hz
  have hsz' : (h.1 12 6) = nI sz := (s11.1.1 _ _ (by decide)).trans hsz
  have hP1 : ∀ j, P1 j → P j := fun j hj => s1 j (a6 j hj).1
  have hQ1 : ∀ j, Q1 j → Q j := fun j hj => s2 j (b7 j hj).1
  have hln : zt_ln lc ≤ sz := Nat.le_trans (zv_lnsz lc) (Nat.le_trans (zt_sz_le lc P1 _ _ _ sz a8 (fun j hj => (hP j (hP1 j hj)).2)) (zc_cnt_le _ _))
  have hnc := zv_nmc lc
  obtain ⟨h', g', v1, v2, v3⟩ := zv_declV (D := D) (D' := D') (d := d + 1) (s := s) (sz := sz) (k4 := k) (P := P1) (Q := Q1) I hbo (by omega) (by omega) hs ha.1 hbb hk (fun j hj => (hP j (hP1 j hj)).1) (fun j hj => hQ j (hQ1 j hj)) hsz' hs3 hsz2 hln a3 a4 (s12.2.1.2.2.trans hsec) b3 (b4 (by decide)) b6 (by rw [gT 74 (by decide)]; exact m2) a8 b9 s3.1.1 s3.2.1 (fun j hj => s10 j (a6 j hj).1) y2 y1
  refine ⟨a, b, ea, ha.1, eb, hbb, J1, J2, hsz', h', g', v1, v2, ?_⟩
  rcases v3 with ⟨⟨X, f1, f2⟩, n1, n2⟩ | ⟨F'', w1, w2, I', w4, hx, h2, g2, ehx, fr2, dk2, SE, vn⟩
  · exact .inl ⟨⟨X, zfr_trans (zfr_w s11.1 (fun _ z => z) (by decide) (by decide)) f1, zfr_trans s11.2.1 f2⟩, n1, n2⟩
  · right
    obtain ⟨_, q1, q2, q3, q4⟩ := SE
    have f0 : zfr [(38, 6)] [] [] h hx := by rw [ehx]; exact zfr_F (by decide) zfr_rfl
    have A0 : ∀ z, hx.2.1 z = h.2.1 z := fun z => f0.2.1 z List.not_mem_nil
    have fr : zv_fr P Q h g h' g' := by
      refine ⟨zfr_trans (zfr_w f0 (by decide) (by decide) (by decide)) (zfr_trans fr2.1 (zfr_w q1 (by decide) (by decide) (by decide))), zfr_trans fr2.2.1 (zfr_w q2 (by decide) (by decide) (by decide)), fun j hj => ?_, fun j hj => ⟨?_, ?_, ?_⟩⟩
      · rw [q1.2.1 _ (by decide), fr2.2.2.1 j (fun z => hj (hP1 j z)), A0]
      · rw [q2.2.1 _ (by decide)]; exact (fr2.2.2.2 j (fun z => hj (hQ1 j z))).1
      · rw [q4 j (fun z => hj (hQ1 j z))]; exact (fr2.2.2.2 j (fun z => hj (hQ1 j z))).2.1
      · rw [q2.2.1 _ (by decide)]; exact (fr2.2.2.2 j (fun z => hj (hQ1 j z))).2.2
    obtain ⟨cC, cM⟩ := zv_CM fr a9 b10
    have nx : (h'.2.1 18) a = (h.2.1 18) a := by rw [fr.1.2.1 _ (by decide)]
    have nb' : (g'.2.1 78) b = (g.2.1 78) b := by rw [fr.2.1.2.1 _ (by decide)]
    obtain ⟨⟨k1, k2, k3, k4, k5⟩, ⟨k6, k7, k8, _⟩, k10, _⟩ := dk2
    obtain ⟨⟨j1, j2, j3, j4⟩, ⟨j5, j6, j7⟩, j8, j9⟩ := s12
    have ty : ∀ j, P2 j → (h'.2.1 14) j = 0 := fun j hj => by
      rw [q1.2.1 _ (by decide), fr2.2.2.1 j (fun z => (a6 j z).2.2 hj), A0]; exact s10 j (a7 j hj).1
    refine ⟨P2, Q2, z2, z3, F'', ⟨by rw [nx]; exact cC, by rw [nb']; exact cM⟩, ⟨fun j hj => s1 j (a7 j hj).1, fun j hj => s2 j (b8 j hj).1⟩, ⟨s3.2.2, s4'⟩, I', ⟨fun j hj => (w1 j hj).trans (s8 j hj), by omega⟩, ty, w4, zv_frt s11 fr (fun _ z => z) (fun _ z => z), ⟨⟨?_, ?_, ?_, ?_⟩, ⟨?_, ?_, ?_⟩, ?_, fun bb hbb => ?_⟩, zv_vnt s13 (by rw [j1, s8 (nb - 1) (by omega)] at vn; exact vn) s14, by omega⟩
    · rw [q1.2.1 _ (by decide), k1, A0]; exact j1
    · exact ⟨by rw [q1.2.1 _ (by decide), k2.1, A0]; exact j2.1, by rw [q1.2.1 _ (by decide), k2.2.1, A0]; exact j2.2.1, by rw [q1.2.1 _ (by decide), k2.2.2, A0]; exact j2.2.2⟩
    · rw [q1.2.1 _ (by decide), k4, A0]; exact j3
    · rw [q1.2.1 _ (by decide), k5, A0]; exact j4
    · rw [q1.1 _ _ List.not_mem_nil, k6, f0.1 _ _ (by decide)]; exact j5
    · rw [q1.1 _ _ List.not_mem_nil, k7, f0.1 _ _ (by decide)]; exact j6
    · rw [q1.1 _ _ List.not_mem_nil, k8, f0.1 _ _ (by decide)]; exact j7
    · rw [q2.2.1 _ (by decide), k10]; exact j8
    · rw [q3 bb hbb, k3, A0]; exact j9 bb hbb
end
section
/-! The judge: a section is visited. -/
theorem zv_sectV {LC LM : List (List Int32)} {nb nf s sz i k d D D' yv : Nat} {F : Nat → Nat} {l : zt_T} {P Q : Nat → Prop} {h g : zs_H} {y y' p0 : Int32} (I : zv_I LC LM nb nf (F nb) F (-1) h g) (hbo : nf + 1 = nb) (hd : d + 2 < 240) (hN : F nb + zg_c l ≤ 5900) (hs : s < 3) (hi : i < 32784) (hk : k < 33500) (hP : ∀ j, P j → j < 32784 ∧ j < sz) (hQ : ∀ j, Q j → j < 33500) (hsz : (h.1 12 6) = nI sz) (hs3 : 3 ≤ sz) (hsz2 : sz < 100000) (c0 : (h.2.1 13) i = 4) (c1 : (h.2.1 15) i = p0) (c2 : (h.2.1 16) i = nI s) (m0 : (g.2.1 72) k = 4) (m1 : (g.2.1 73) k = p0) (m2 : (g.2.1 74) k = nI s) (hC : zt_C h l P ((h.2.1 17) i) y) (hM : zt_M LC LM g l Q (nI k) ((g.2.1 76) k) y') (hA : zg_A 4 (zg_run 4 0 l) = true) (hok : zg_ok l) (hty : ∀ j, P j → (h.2.1 14) j = 0) (hy : (h.2.1 25) (8 + nb) = nI yv) (hy2 : yv ≤ 4096) :
    ∃ h' g', f_Jd_visit (D + 4) h (nI i) (nI d) = some h' ∧ f_Mo_look (D' + 8) g (nI k) = some g' ∧ ((zv_Fb h g h' g' ∧ ¬ (h'.1 38 3) = 0 ∧ ¬ (g'.1 68 29) = 0) ∨ (∃ F' hx, (∀ j, ¬ j = nb → F' j = F j) ∧ F' nb ≤ F nb + zg_c l ∧ zv_I LC LM nb nf (F' nb) F' (-1) h' g' ∧ (∃ y, y ≤ 4096 ∧ (h'.2.1 25) (8 + nb) = nI y) ∧ hx = zs_uF h 38 5 (nI s) ∧ zv_fr P Q hx g h' g' ∧ zv_sk nb hx g h' g' ∧ zv_vn (F (nb - 1)) ((hx.2.1 21) (8 + nb)) (F nb) (F' nb) hx h' ∧ F nb ≤ F' nb)) := by
  have hb : 0 < nb := by omega
  obtain ⟨h1, hh1⟩ : ∃ h1, h1 = zs_uF h 38 5 (nI s) := ⟨_, rfl⟩
  have f01 : zfr [(38, 5)] [] [] h h1 := by rw [hh1]; exact zfr_F (by decide) zfr_rfl
  have A1 : ∀ z, h1.2.1 z = h.2.1 z := fun z => f01.2.1 z List.not_mem_nil
  have hen : f_Jd_enter h (nI i) = some h1 := by
    unfold f_Jd_enter
    simp (config := { decide := true }) only [if_pos (zi_in (show i < 2147483648 by omega) hi), nI_clamp (show i < 2147483648 by omega), c0, if_false, if_true, c2, hh1]
  have I1 : zv_I LC LM nb nf (F nb) F (-1) h1 g := zv_Ifr I (zfr_w f01 (by decide) (by decide) (by decide)) zfr_rfl
  have sec : (h1.1 38 5) = nI s := by rw [hh1]; rfl
  have siz : (h1.1 12 6) = nI sz := (f01.1 _ _ (by decide)).trans hsz
  have hC1 : zt_C h1 l P ((h1.2.1 17) i) y := by
    rw [A1]
    exact zt_fr l P P 0 _ y (fun i _ => ⟨fun kd k up z hz => by unfold zt_NC at hz ⊢; rw [A1, A1, A1]; exact hz, by rw [A1], by rw [A1]⟩) (fun i hi => hi) hC
  have hln : zt_ln l ≤ sz := Nat.le_trans (zv_lnsz l) (Nat.le_trans (zt_sz_le l P _ _ _ sz hC (fun j hj => (hP j hj).2)) (zc_cnt_le _ _))
  have S0 : zv_SS LC LM nb nf k F l P Q h1 g l h1 g ((h1.2.1 17) i) ((g.2.1 76) k) := by
    refine ⟨P, Q, y, y', F, ⟨hC1, hM⟩, ⟨fun _ z => z, fun _ z => z⟩, ⟨hok, fun z => ?_⟩, I1, ⟨fun _ _ => rfl, Nat.le_refl _⟩, fun j hj => by rw [A1]; exact hty j hj, ⟨yv, hy2, by rw [A1]; exact hy⟩, zv_fr0, ⟨⟨rfl, ⟨rfl, rfl, rfl⟩, rfl, rfl⟩, ⟨rfl, rfl, rfl⟩, rfl, fun _ _ => rfl⟩, ⟨fun _ _ => ⟨rfl, rfl, rfl, rfl, rfl, rfl, rfl, rfl⟩, fun v h1 h2 => by omega⟩, Nat.le_refl _⟩
    rw [z, zv_A99] at hA
    exact absurd hA (by decide)
  have stp : zv_stp (D + 3) (D' + 6) d sz (zv_SS LC LM nb nf k F l P Q h1 g) (zv_Fb h1 g) := by
    intro c kv w lc r h g x x' S
    exact zv_sDecl (D := D) (D' := D') hbo hP hQ hd hN hs hk hs3 hsz2 sec siz m2 S
  have hend : ∀ h' g' x x', zv_SS LC LM nb nf k F l P Q h1 g .leaf h' g' x x' → x = -1 ∧ x' = -1 := by
    intro h' g' x x' S
    obtain ⟨_, _, yy, yy', _, ⟨sC, sM⟩, _⟩ := S
    exact ⟨(show x = -1 ∧ yy = -1 from sC).1, (show x' = -1 ∧ yy' = -1 from sM).1⟩
  rcases zv_node (D := D + 3) (D' := D' + 6) (kd := 4) (by omega) hsz2 hi hk (by decide) (by decide) (by decide) m0 hen stp hend S0 hln with ⟨h', g', e1, e2, ⟨X, x1, x2⟩, e4, e5⟩ | ⟨h', g', S, e1, e2⟩
  · exact ⟨h', g', e1, e2, .inl ⟨⟨X, zfr_trans (zfr_w f01 (by decide) (by decide) (by decide)) x1, x2⟩, e4, e5⟩⟩
  · obtain ⟨_, _, _, _, F', _, _, _, I', ⟨s8, s9⟩, _, hyy, s11, s12, s13, s14⟩ := S
    have J1 : (h'.1 38 3) = 0 := I'.2.2.2.2.2.2.2.1
    have J2 : (g'.1 68 29) = 0 := I'.2.2.2.2.2.2.2.2
    have gT : ∀ z, ¬ z ∈ zv_mm → g'.2.1 z = g.2.1 z := fun z hz => s11.2.1.2.1 z hz
    have hT : ∀ z, ¬ z ∈ (14 :: zv_cm) → h'.2.1 z = h1.2.1 z := fun z hz => s11.1.2.1 z hz
    obtain ⟨h2, g2, r1, r2, r3⟩ := zv_section (i := i) (k := k) (s := s) I' hb hi hk hs (s12.2.1.2.2.trans sec) (by rw [gT 72 (by decide)]; exact m0) (by rw [gT 74 (by decide)]; exact m2)
    have eC : f_Jd_visit (D + 3 + 1) h (nI i) (nI d) = some h2 := by
      rw [e1]
      unfold f_Jd_visit_74
      rw [if_pos J1, Option.bind_fun_some, zv_lv4 hi (by rw [hT 13 (by decide), A1]; exact c0), r1]
    have eM : f_Mo_look (D' + 6 + 2) g (nI k) = some g2 := by
      rw [e2, Option.bind_fun_some, zv_54B (by decide) J2, r2]
    refine ⟨h2, g2, eC, eM, ?_⟩
    rcases r3 with ⟨t1, t2⟩ | Y
    · subst t1; subst t2
      exact .inr ⟨F', h1, s8, s9, I', hyy, hh1, s11, s12, s13, s14⟩
    · obtain ⟨X, f1, f2⟩ := zv_YX Y (by decide) (by decide) (show (h'.2.1 15) i = p0 by rw [hT 15 (by decide), A1]; exact c1) (show (g'.2.1 73) k = p0 by rw [gT 73 (by decide)]; exact m1)
      have xn := zv_Xn X
      exact .inl ⟨⟨⟨13, _, X⟩, zfr_trans (zfr_w f01 (by decide) (by decide) (by decide)) (zfr_trans (zfr_w s11.1 (fun _ z => z) (by decide) (by decide)) (zfr_w f1 (fun _ z => z) (by decide) (by decide))), zfr_trans s11.2.1 f2⟩, xn.1, xn.2⟩
end
section
/-! The judge: the variable that a node names (20, 21). -/
theorem zv_nar3 {t : Nat} (h : t < 3) : vp_nar .byte ((nI t).toInt8.toInt32) = nI t := by
  have : t = 0 ∨ t = 1 ∨ t = 2 := by omega
  rcases this with e | e | e <;> subst e <;> rfl
/-- a fault in the class, in the model -/
def zv_rf (φ i : Nat) (h : zs_H) : zs_H := zs_uF (zs_uF h 38 3 (nI φ)) 38 0 ((h.2.1 15) i)
def zv_ru (φ k : Nat) (g : zs_H) : zs_H := zs_uF (zs_uF g 68 29 (nI φ)) 68 30 ((g.2.1 73) k)
theorem zv_rff {φ i : Nat} {h : zs_H} (h1 : 0 < φ) (h2 : φ < 1000) : ¬ ((zv_rf φ i h).1 38 3) = 0 := by
  show ¬ nI φ = 0
  exact fun z => by have := (zc_eq (k := 0) (by decide) (by omega)).mp z; omega
theorem zv_ruf {φ k : Nat} {g : zs_H} (h1 : 0 < φ) (h2 : φ < 1000) : ¬ ((zv_ru φ k g).1 68 29) = 0 := by
  show ¬ nI φ = 0
  exact fun z => by have := (zc_eq (k := 0) (by decide) (by omega)).mp z; omega
theorem zv_ruf0 {φ k : Nat} {g : zs_H} (h1 : 0 < φ) (h2 : φ < 1000) : ¬ ((zv_ru φ k g).1 68 29) ≤ 0 := by
  show ¬ nI φ ≤ 0
  exact fun z => by have := (zc_el (k := 0) (by decide) (by omega)).mp z; omega
theorem zv_yy {φ i k : Nat} {h g : zs_H} : zv_Y φ i k h g (zv_rf φ i h) (zv_ru φ k g) := ⟨rfl, rfl⟩
/-- a name in the block here: none, or a variable -/
theorem zv_vCase {LC LM : List (List Int32)} {nb nf c : Nat} {F : Nat → Nat} {q : Int32} {h g : zs_H} {w : Int32} (I : zv_I LC LM nb nf (F nb) F q h g) (hb : 0 < nb) (hc : c < 6000) (hw : zt_nr LC LM (nI c) w) :
    (f_Pl_variableHere h (nI c) = some (-1) ∧ f_Mo_variable g ((g.1 68 54)) w = some (-1)) ∨
    (∃ v ins so, F (nb - 1) ≤ v ∧ v < F nb ∧ v < 5900 ∧ f_Pl_variableHere h (nI c) = some (nI (32 + v)) ∧ f_Mo_variable g ((g.1 68 54)) w = some (nI v) ∧ (h.2.1 30) (32 + v) = ins ∧ (g.2.1 92) v = nI so ∧ so < 3 ∧ (so = 0 ↔ ins = -1) ∧ (so = 1 ↔ ins = -2) ∧ (so = 2 ↔ 0 ≤ ins) ∧ zv_Q (nb - 1) v h g) := by
  obtain ⟨HS, HB, HN, HV, HC, HT, HJ, J1, J2⟩ := I
  have hz := zv_here HS HB HN hb hc hw
  have V3 : F nb ≤ 5900 := HB.2.1.2.2
  have B3 : nb ≤ 568 := HB.1.2.2
  rw [(HJ hb).2]
  rcases hz with ⟨v, v1, v2, v3, v4, v5⟩ | ⟨z1, z2, _⟩
  · right
    have Q := HV.2.1 (nb - 1) v (by omega) v1 (by rw [show nb - 1 + 1 = nb by omega]; exact v2) v2
    have Q0 := Q
    obtain ⟨ty, x, s, y, _, _, _, _, _, _, _, q8, _⟩ := Q
    rcases q8 with ⟨e1, e2, _⟩ | ⟨e1, e2, _⟩ | ⟨B, b1, e1, e2, _⟩
    · exact ⟨v, -1, 0, v1, v2, by omega, v4, v5, e1, e2, by omega, by decide, by decide, by decide, Q0⟩
    · exact ⟨v, -2, 1, v1, v2, by omega, v4, v5, e1, e2, by omega, by decide, by decide, by decide, Q0⟩
    · have m1 : ¬ nI B = -1 := zc_m1 (by omega)
      have m2 : ¬ nI B = -2 := fun z => by
        have := (zc_tl (k := 0) (by decide) (show B < 2147483648 by omega)).mp (by rw [z]; decide)
        omega
      have m3 : (0 : Int32) ≤ nI B := (zc_le (k := 0) (by decide) (by omega)).mpr (Nat.zero_le _)
      refine ⟨v, nI B, 2, v1, v2, by omega, v4, v5, e1, e2, by omega, ⟨fun z => by omega, fun z => absurd z m1⟩, ⟨fun z => by omega, fun z => absurd z m2⟩, ⟨fun _ => m3, fun _ => rfl⟩, Q0⟩
  · exact .inl ⟨z1, z2⟩
section ZVV
variable {h g : zs_H} {i k c v : Nat} {form ins : Int32}
theorem zv_vaC0 (hi : i < 32784) (c1 : (h.2.1 16) i = nI c) (J1 : (h.1 38 3) = 0) (hv : f_Pl_variableHere h (nI c) = some (-1)) : f_Jd_variableAt h (nI i) form = some (-1, zv_rf 20 i h) := by
  unfold f_Jd_variableAt f_Jd_variableAt_28
  rw [if_pos (zi_in (by omega) hi), nI_clamp (by omega), c1, hv, Option.bind_some, if_pos rfl, show (20 : Int32) = nI 20 from rfl, zv_ref1 (by decide) J1 hi, Option.bind_some]
  exact if_neg (zv_rff (φ := 20) (i := i) (h := h) (by decide) (by decide))
theorem zv_vaC1 (hi : i < 32784) (c1 : (h.2.1 16) i = nI c) (J1 : (h.1 38 3) = 0) (hv : f_Pl_variableHere h (nI c) = some (nI (32 + v))) (hv2 : v < 5900) (hin : (h.2.1 30) (32 + v) = ins) : f_Jd_variableAt h (nI i) form = some (nI (32 + v), if (if 0 ≤ form then 0 ≤ ins else ins = form) then h else zv_rf 21 i h) := by
  unfold f_Jd_variableAt f_Jd_variableAt_28 f_Jd_variableAt_81
  rw [if_pos (zi_in (by omega) hi), nI_clamp (by omega), c1, hv, Option.bind_some, if_neg (zc_m1 (by omega)), zv_ref0, Option.bind_some, if_pos J1, if_pos (zi_in (by omega) (by omega)), nI_clamp (by omega), hin]
  by_cases z : 0 ≤ form
  · simp only [z, if_true]
    by_cases z2 : 0 ≤ ins
    · simp only [z2, if_true, zv_ref0, Option.bind_some]
    · simp only [z2, if_false]
      rw [show (21 : Int32) = nI 21 from rfl, zv_ref1 (by decide) J1 hi, Option.bind_some]; rfl
  · simp only [z, if_false]
    by_cases z2 : ins = form
    · simp only [z2, if_true, zv_ref0, Option.bind_some]
    · simp only [z2, if_false]
      rw [show (21 : Int32) = nI 21 from rfl, zv_ref1 (by decide) J1 hi, Option.bind_some]; rfl
theorem zv_vaC1n (hf : ¬ 0 ≤ form) (hi : i < 32784) (c1 : (h.2.1 16) i = nI c) (J1 : (h.1 38 3) = 0) (hv : f_Pl_variableHere h (nI c) = some (nI (32 + v))) (hv2 : v < 5900) (hin : (h.2.1 30) (32 + v) = ins) : f_Jd_variableAt h (nI i) form = some (nI (32 + v), if ins = form then h else zv_rf 21 i h) := by
  rw [zv_vaC1 hi c1 J1 hv hv2 hin]
  simp only [hf, if_false]
theorem zv_vaC1p (hf : 0 ≤ form) (hi : i < 32784) (c1 : (h.2.1 16) i = nI c) (J1 : (h.1 38 3) = 0) (hv : f_Pl_variableHere h (nI c) = some (nI (32 + v))) (hv2 : v < 5900) (hin : (h.2.1 30) (32 + v) = ins) : f_Jd_variableAt h (nI i) form = some (nI (32 + v), if 0 ≤ ins then h else zv_rf 21 i h) := by
  rw [zv_vaC1 hi c1 J1 hv hv2 hin]
  simp only [hf, if_true]
theorem zv_jvF {x kd : Int32} {hf : zs_H} (e : f_Jd_variableAt h (nI i) form = some (x, hf)) (n : ¬ (hf.1 38 3) = 0) : f_Jd_judgeVariable_32 h (nI i) kd form = some hf := by
  unfold f_Jd_judgeVariable_32
  rw [e]
  show (if (hf.1 38 3) = 0 then _ else some hf) = _
  rw [if_neg n]
theorem zv_neg {v : Nat} (h : v < 2147483648) : (0 : Int32) ≤ nI v ∧ ¬ nI v < 0 := ⟨(zc_le (k := 0) (by decide) (by omega)).mpr (Nat.zero_le _), mt (zc_tl (k := 0) (by decide) h).mp (by omega)⟩
end ZVV
/-- a simple variable is named (20, 21) -/
theorem zv_nameE {LC LM : List (List Int32)} {nb nf i k c up ku : Nat} {F : Nat → Nat} {q w : Int32} {h g : zs_H} (I : zv_I LC LM nb nf (F nb) F q h g) (hb : 0 < nb) (hi : i < 32784) (hk : k < 33500) (hc : c < 6000) (hw : zt_nr LC LM (nI c) w) (c0 : (h.2.1 13) i = 6) (c1 : (h.2.1 16) i = nI c) (m0 : (g.2.1 72) k = 6) (m1 : (g.2.1 74) k = w) (m2 : (g.2.1 75) k = nI up) (hup : up < 33500) (m3 : (g.2.1 72) up = nI ku) (hku : ku < 100) (h5 : ¬ ku = 5) (h33 : ¬ ku = 33) :
    ∃ h' g', f_Jd_judgeVariable h (nI i) = some h' ∧ f_Mo_lookAtBlocks g (nI k) = some g' ∧ ((∃ φ, 0 < φ ∧ φ < 1000 ∧ zv_Y φ i k h g h' g') ∨ (∃ v ty x, F (nb - 1) ≤ v ∧ v < F nb ∧ ty < 3 ∧ h' = zs_uM (zs_uM h 16 i (nI (32 + v))) 14 i (nI ty) ∧ g' = zs_uM (zs_uM g 100 k (nI ty)) 101 k (nI x) ∧ f_Mo_variable g ((g.1 68 54)) w = some (nI v) ∧ (g.2.1 92) v = 0 ∧ (g.2.1 93) v = nI ty ∧ (g.2.1 94) v = nI x ∧ (h.2.1 32) (32 + v) = nI x ∧ (h.2.1 31) (32 + v) = nI ty)) := by
  have J1 : (h.1 38 3) = 0 := I.2.2.2.2.2.2.2.1
  have J2 : (g.1 68 29) = 0 := I.2.2.2.2.2.2.2.2
  have eM : f_Mo_lookAtBlocks g (nI k) = f_Mo_lookAtName g (nI k) := by
    unfold f_Mo_lookAtBlocks
    simp (config := { decide := true }) only [if_pos (zi_in (show k < 2147483648 by omega) hk), nI_clamp (show k < 2147483648 by omega), m0, if_false, if_true, Option.bind_fun_some]
  have eM2 : f_Mo_lookAtName g (nI k) = (f_Mo_variable g ((g.1 68 54)) w).bind fun v6 => (if 0 ≤ v6 then f_Mo_lookAtName_132 g (nI k) v6 0 else f_Mo_lookAtName_132 g (nI k) v6 1) := by
    unfold f_Mo_lookAtName
    rw [if_pos (zi_in (by omega) hk), nI_clamp (by omega), m2, if_pos (zi_in (by omega) hup), nI_clamp (by omega), m3, if_neg (fun z => h5 ((zc_eq (k := 5) (by decide) (by omega)).mp z)), if_neg (fun z => h33 ((zc_eq (k := 33) (by decide) (by omega)).mp z)), m1]
  have eC : f_Jd_judgeVariable h (nI i) = f_Jd_judgeVariable_32 h (nI i) 6 (-1) := by
    unfold f_Jd_judgeVariable
    rw [if_pos (zi_in (by omega) hi), nI_clamp (by omega), c0, if_pos rfl]
  rcases zv_vCase I hb hc hw with ⟨z1, z2⟩ | ⟨v, ins, so, v1, v2, v3, v4, v5, v6, v7, v8, s0, s1, s2, Q⟩
  · have b1 : f_Mo_lookAtName g (nI k) = some (zv_ru 20 k g) := by
      rw [eM2, z2, Option.bind_some, if_neg (by decide)]
      unfold f_Mo_lookAtName_132 f_Mo_lookAtName_156 f_Mo_lookAtName_157
      rw [show (20 : Int32) = nI 20 from rfl, zv_rule1 (by decide) J2 hk, Option.bind_some, if_pos (by decide), zv_rule0, Option.bind_some]
      show (if ((zv_ru 20 k g).1 68 29) = 0 then _ else some (zv_ru 20 k g)) = _
      rw [if_neg (zv_ruf (φ := 20) (k := k) (g := g) (by decide) (by decide))]
    exact ⟨zv_rf 20 i h, zv_ru 20 k g, eC.trans (zv_jvF (zv_vaC0 hi c1 J1 z1) (zv_rff (by decide) (by decide))), eM.trans b1, .inl ⟨20, by decide, by decide, zv_yy⟩⟩
  · have eM3 : f_Mo_lookAtName g (nI k) = if so = 0 then f_Mo_lookAtName_157 g (nI k) (nI v) 0 else f_Mo_lookAtName_157 g (nI k) (nI v) 1 := by
      rw [eM2, v5, Option.bind_some, if_pos (zv_neg (show v < 2147483648 by omega)).1]
      unfold f_Mo_lookAtName_132 f_Mo_lookAtName_156
      rw [zv_rule0, Option.bind_some, if_neg (zv_neg (show v < 2147483648 by omega)).2, if_pos (zi_in (by omega) (by omega)), nI_clamp (show v < 2147483648 by omega)]
      simp only [v7, show (nI so = 0) ↔ so = 0 from zc_eq (k := 0) (by decide) (by omega)]
    by_cases z : so = 0
    · have zi : ins = -1 := s0.mp z
      subst z
      have eV := zv_vaC1n (form := -1) (by decide) hi c1 J1 v4 v3 v6
      rw [if_pos zi] at eV
      obtain ⟨ty, x, s, y, ⟨t1, t2⟩, ⟨x1, x2⟩, _, _, _, _, _, q8, _⟩ := Q
      have q8' : (g.2.1 93) v = nI ty := by
        rcases q8 with ⟨_, _, e, _⟩ | ⟨_, e, _⟩ | ⟨B, _, _, e, _⟩
        · exact e
        · rw [v7] at e; exact absurd e (by decide)
        · rw [v7] at e; exact absurd e (by decide)
      refine ⟨zs_uM (zs_uM h 16 i (nI (32 + v))) 14 i (nI ty), zs_uM (zs_uM g 100 k (nI ty)) 101 k (nI x), ?_, ?_, .inr ⟨v, ty, x, v1, v2, t1, rfl, rfl, v5, v7, q8', x2, x1, t2⟩⟩
      · rw [eC]
        unfold f_Jd_judgeVariable_32
        rw [eV]
        show (if (h.1 38 3) = 0 then _ else _) = _
        rw [if_pos J1, if_pos (zi_in (by omega) hi), if_pos (zi_in (by omega) (by omega)), if_neg (by decide), nI_clamp (show i < 2147483648 by omega), nI_clamp (show 32 + v < 2147483648 by omega), t2, zv_nar3 t1]
        unfold f_Jd_judgeVariable_122
        rw [if_neg (by decide)]
      · rw [eM, eM3, if_pos rfl]
        unfold f_Mo_lookAtName_157
        rw [zv_rule0, Option.bind_some, if_pos J2, if_pos (zi_in (by omega) (by omega)), if_pos (zi_in (by omega) hk), nI_clamp (show v < 2147483648 by omega), nI_clamp (show k < 2147483648 by omega), q8', x2]
    · have zi : ¬ ins = -1 := fun u => z (s0.mpr u)
      have eV := zv_vaC1n (form := -1) (by decide) hi c1 J1 v4 v3 v6
      rw [if_neg zi] at eV
      refine ⟨zv_rf 21 i h, zv_ru 21 k g, eC.trans (zv_jvF eV (zv_rff (by decide) (by decide))), ?_, .inl ⟨21, by decide, by decide, zv_yy⟩⟩
      rw [eM, eM3, if_neg z]
      unfold f_Mo_lookAtName_157
      rw [show (21 : Int32) = nI 21 from rfl, zv_rule1 (by decide) J2 hk, Option.bind_some]
      show (if ((zv_ru 21 k g).1 68 29) = 0 then _ else some (zv_ru 21 k g)) = _
      rw [if_neg (zv_ruf (φ := 21) (k := k) (g := g) (by decide) (by decide))]
end
section
/-! The judge: elements (22), signs before one and between two (28, 27). -/
abbrev zv_kc (h : zs_H) (a : Nat) : Prop := (h.2.1 13) a = 30 ∨ (h.2.1 13) a = 31
def zv_fo (i : Nat) (v : Int32) (h : zs_H) : zs_H := zs_uM (zs_uM (zs_uM h 13 i 30) 16 i v) 17 i (-1)
theorem zv_isC1 {h : zs_H} {a : Nat} (ha : a < 32784) (hk : zv_kc h a) : f_Tr_isConstant h (nI a) = some 1 := by
  unfold f_Tr_isConstant
  rw [if_neg (zc_m1 (by omega)), if_pos (zi_in (by omega) ha), nI_clamp (by omega)]
  rcases hk with e | e
  · rw [if_pos e]
  · rw [if_pos e, ite_self]
theorem zv_isC0 {h : zs_H} {a : Nat} (ha : a < 32784) (hk : ¬ zv_kc h a) : f_Tr_isConstant h (nI a) = some 0 := by
  unfold f_Tr_isConstant
  rw [if_neg (zc_m1 (by omega)), if_pos (zi_in (by omega) ha), nI_clamp (by omega), if_neg (fun e => hk (.inl e)), if_neg (fun e => hk (.inr e))]
theorem zv_fold1 {h : zs_H} {i : Nat} {v : Int32} (hi : i < 32784) : f_Jd_fold h (nI i) v = some (zv_fo i v h) := by
  unfold f_Jd_fold
  rw [if_pos (zi_in (by omega) hi), nI_clamp (by omega)]; rfl
theorem zv_ois {c : Prop} [Decidable c] {a b : Option Int32} (ha : c → a.isSome = true) (hb : ¬ c → b.isSome = true) : (if c then a else b).isSome = true := by
  by_cases z : c
  · rw [if_pos z]; exact ha z
  · rw [if_neg z]; exact hb z
theorem zv_two (k x y : Int32) : ∃ v, f_Cd_two k x y = some v := by
  rw [← Option.isSome_iff_exists]
  unfold f_Cd_two
  repeat' (first | rfl | contradiction | (apply zv_ois <;> intro _))
theorem zv_isn {t : Nat} (h : t < 3) : f_Mo_isNumber (nI t) = if t = 0 then 0 else 1 := by
  have : t = 0 ∨ t = 1 ∨ t = 2 := by omega
  rcases this with e | e | e <;> subst e <;> rfl
theorem zv_t0 {t : Nat} (h : t < 3) : (nI t = 0) ↔ t = 0 := zc_eq (k := 0) (by decide) (by omega)
/-- a fault, whatever else is written -/
theorem zv_mkF {φ i k : Nat} {p : Int32} {h g h' g' h2 g2 : zs_H} (h1 : 0 < φ) (h3 : φ < 1000) (c : (h.2.1 15) i = p) (m : (g.2.1 73) k = p) (a1 : zfr [] [13, 14, 16, 17] [] h h2) (a2 : zfr [] [100, 101, 102] [] g g2) (b1 : zfr [] [13, 14, 16, 17] [] (zv_rf φ i h2) h') (b2 : zfr [] [100, 101, 102] [] (zv_ru φ k g2) g') : zv_Fb h g h' g' := by
  refine ⟨⟨φ, p, h1, h3, ?_, ?_, ?_, ?_⟩, ?_, ?_⟩
  · rw [b1.1 _ _ List.not_mem_nil]; rfl
  · rw [b1.1 _ _ List.not_mem_nil]; show (h2.2.1 15) i = p; rw [a1.2.1 _ (by decide)]; exact c
  · rw [b2.1 _ _ List.not_mem_nil]; rfl
  · rw [b2.1 _ _ List.not_mem_nil]; show (g2.2.1 73) k = p; rw [a2.2.1 _ (by decide)]; exact m
  · exact zfr_trans (zfr_w a1 (by decide) (by decide) (by decide)) (zfr_trans (zfr_F (by decide) (zfr_F (by decide) zfr_rfl)) (zfr_w b1 (by decide) (by decide) (by decide)))
  · exact zfr_trans (zfr_w a2 (by decide) (by decide) (by decide)) (zfr_trans (zfr_F (by decide) (zfr_F (by decide) zfr_rfl)) (zfr_w b2 (by decide) (by decide) (by decide)))
/-- an element of an array (20, 21, 22) -/
theorem zv_elemE {LC LM : List (List Int32)} {nb nf i k c a ka tc : Nat} {F : Nat → Nat} {q w p : Int32} {h g : zs_H} (I : zv_I LC LM nb nf (F nb) F q h g) (hb : 0 < nb) (hi : i < 32784) (hk : k < 33500) (hc : c < 6000) (hw : zt_nr LC LM (nI c) w) (c0 : (h.2.1 13) i = 32) (c1 : (h.2.1 16) i = nI c) (c2 : (h.2.1 15) i = p) (c3 : (h.2.1 17) i = nI a) (ha : a < 32784) (hai : ¬ a = i) (c4 : (h.2.1 14) a = nI tc) (htc : tc < 3) (m0 : (g.2.1 72) k = 32) (m1 : (g.2.1 74) k = w) (m2 : (g.2.1 73) k = p) (m3 : (g.2.1 76) k = nI ka) (hka : ka < 33500) (m4 : (g.2.1 100) ka = nI tc) :
    ∃ h' g', f_Jd_judgeVariable h (nI i) = some h' ∧ f_Mo_lookAtExpressions g (nI k) = some g' ∧ (zv_Fb h g h' g' ∨ (∃ v ty x, F (nb - 1) ≤ v ∧ v < F nb ∧ ty < 3 ∧ ¬ tc = 0 ∧ h' = zs_uM (zs_uM h 16 i (nI (32 + v))) 14 i (nI ty) ∧ g' = zs_uM (zs_uM g 100 k (nI ty)) 101 k (nI x) ∧ f_Mo_variable g ((g.1 68 54)) w = some (nI v) ∧ (g.2.1 92) v = 1 ∧ (g.2.1 93) v = nI ty ∧ (g.2.1 94) v = nI x ∧ (h.2.1 32) (32 + v) = nI x ∧ (h.2.1 31) (32 + v) = nI ty)) := by
  have J1 : (h.1 38 3) = 0 := I.2.2.2.2.2.2.2.1
  have J2 : (g.1 68 29) = 0 := I.2.2.2.2.2.2.2.2
  have eM : f_Mo_lookAtExpressions g (nI k) = (f_Mo_variable g ((g.1 68 54)) w).bind fun v3 => (if 0 ≤ v3 then f_Mo_lookAtElement_25 g (nI k) v3 0 else f_Mo_lookAtElement_25 g (nI k) v3 1) := by
    unfold f_Mo_lookAtExpressions f_Mo_lookAtElement
    simp (config := { decide := true }) only [if_pos (zi_in (show k < 2147483648 by omega) hk), nI_clamp (show k < 2147483648 by omega), m0, if_false, if_true, Option.bind_fun_some, m1]
  have eC : f_Jd_judgeVariable h (nI i) = f_Jd_judgeVariable_32 h (nI i) 32 (-2) := by
    unfold f_Jd_judgeVariable
    rw [if_pos (zi_in (by omega) hi), nI_clamp (by omega), c0, if_neg (by decide), if_pos rfl]
  have e80F : ∀ (φ : Nat), 0 < φ → φ < 1000 → ∀ y, f_Mo_lookAtElement_80 (zv_ru φ k g) (nI k) y 1 = some (zv_ru φ k g) ∧ f_Mo_lookAtElement_80 (zv_ru φ k g) (nI k) y 0 = some (zv_ru φ k g) := by
    intro φ a1 a2 y
    have nf := zv_ruf (φ := φ) (k := k) (g := g) a1 a2
    unfold f_Mo_lookAtElement_80
    rw [zv_ruleF nf, zv_ruleF nf, Option.bind_some, if_neg nf]
    exact ⟨rfl, rfl⟩
  have e51F : ∀ (φ : Nat), 0 < φ → φ < 1000 → ∀ y, (if zd_in (nI k) 33500 then (if zd_in (((zv_ru φ k g).2.1 76) (nI k).toNatClampNeg) 33500 then (if (f_Mo_isNumber (((zv_ru φ k g).2.1 100) (((zv_ru φ k g).2.1 76) (nI k).toNatClampNeg).toNatClampNeg)) = 0 then f_Mo_lookAtElement_80 (zv_ru φ k g) (nI k) y 1 else f_Mo_lookAtElement_80 (zv_ru φ k g) (nI k) y 0) else none) else none) = some (zv_ru φ k g) := by
    intro φ a1 a2 y
    rw [(e80F φ a1 a2 y).1, (e80F φ a1 a2 y).2, ite_self, if_pos (zi_in (by omega) hk), nI_clamp (show k < 2147483648 by omega), show ((zv_ru φ k g).2.1 76) k = nI ka from m3, if_pos (zi_in (by omega) hka)]
  rcases zv_vCase I hb hc hw with ⟨z1, z2⟩ | ⟨v, ins, so, v1, v2, v3, v4, v5, v6, v7, v8, s0, s1, s2, Q⟩
  · refine ⟨zv_rf 20 i h, zv_ru 20 k g, eC.trans (zv_jvF (zv_vaC0 hi c1 J1 z1) (zv_rff (by decide) (by decide))), ?_, .inl (zv_mkF (by decide) (by decide) c2 m2 zfr_rfl zfr_rfl zfr_rfl zfr_rfl)⟩
    rw [eM, z2, Option.bind_some, if_neg (by decide)]
    unfold f_Mo_lookAtElement_25 f_Mo_lookAtElement_50 f_Mo_lookAtElement_51
    rw [show (20 : Int32) = nI 20 from rfl, zv_rule1 (by decide) J2 hk, Option.bind_some, if_pos (by decide), zv_rule0, Option.bind_some]
    exact e51F 20 (by decide) (by decide) _
  · have eM3 : f_Mo_lookAtExpressions g (nI k) = if so = 1 then f_Mo_lookAtElement_51 g (nI k) (nI v) 0 else f_Mo_lookAtElement_51 g (nI k) (nI v) 1 := by
      rw [eM, v5, Option.bind_some, if_pos (zv_neg (show v < 2147483648 by omega)).1]
      unfold f_Mo_lookAtElement_25 f_Mo_lookAtElement_50
      rw [zv_rule0, Option.bind_some, if_neg (zv_neg (show v < 2147483648 by omega)).2, if_pos (zi_in (by omega) (by omega)), nI_clamp (show v < 2147483648 by omega)]
      simp only [v7, show (nI so = 1) ↔ so = 1 from zc_eq (k := 1) (by decide) (by omega)]
    by_cases z : so = 1
    · have zi : ins = -2 := s1.mp z
      subst z
      have eV := zv_vaC1n (form := -2) (by decide) hi c1 J1 v4 v3 v6
      rw [if_pos zi] at eV
      obtain ⟨ty, x, s, y, ⟨t1, t2⟩, ⟨x1, x2⟩, _, _, _, _, _, q8, _⟩ := Q
      have q8' : (g.2.1 93) v = nI ty := by
        rcases q8 with ⟨_, e, _⟩ | ⟨_, _, e, _⟩ | ⟨B, _, _, e, _⟩
        · rw [v7] at e; exact absurd e (by decide)
        · exact e
        · rw [v7] at e; exact absurd e (by decide)
      have eC3 : f_Jd_judgeVariable h (nI i) = if tc = 0 then f_Jd_judgeVariable_116 (zs_uM (zs_uM h 16 i (nI (32 + v))) 14 i (nI ty)) (nI i) 32 (nI (32 + v)) (nI a) 1 else f_Jd_judgeVariable_116 (zs_uM (zs_uM h 16 i (nI (32 + v))) 14 i (nI ty)) (nI i) 32 (nI (32 + v)) (nI a) 0 := by
        rw [eC]
        unfold f_Jd_judgeVariable_32
        rw [eV]
        show (if (h.1 38 3) = 0 then _ else _) = _
        rw [if_pos J1, if_pos (zi_in (by omega) hi), if_pos (zi_in (by omega) (by omega)), if_pos rfl, nI_clamp (show i < 2147483648 by omega), c3, if_pos (zi_in (by omega) ha), nI_clamp (show a < 2147483648 by omega), nI_clamp (show 32 + v < 2147483648 by omega), t2, zv_nar3 t1]
        simp only [zu_MM, hai, and_false, if_false, c4, zv_t0 htc]
      have eM4 : f_Mo_lookAtExpressions g (nI k) = if tc = 0 then f_Mo_lookAtElement_80 g (nI k) (nI v) 1 else f_Mo_lookAtElement_80 g (nI k) (nI v) 0 := by
        rw [eM3, if_pos rfl]
        unfold f_Mo_lookAtElement_51
        rw [zv_rule0, Option.bind_some, if_pos (zi_in (by omega) hk), nI_clamp (show k < 2147483648 by omega), m3, if_pos (zi_in (by omega) hka), nI_clamp (show ka < 2147483648 by omega), m4, zv_isn htc]
        by_cases zt : tc = 0
        · rw [if_pos zt, if_pos rfl, if_pos zt]
        · rw [if_neg zt, if_neg (by decide), if_neg zt]
      by_cases zt : tc = 0
      · rw [eC3, eM4, if_pos zt, if_pos zt]
        unfold f_Jd_judgeVariable_116 f_Jd_judgeVariable_122 f_Mo_lookAtElement_80
        rw [show (22 : Int32) = nI 22 from rfl, zv_rule1 (by decide) J2 hk, Option.bind_some, zv_ref1 (h := zs_uM (zs_uM h 16 i (nI (32 + v))) 14 i (nI ty)) (by decide) J1 hi, Option.bind_some, if_neg (by decide)]
        refine ⟨_, zv_ru 22 k g, rfl, ?_, .inl ?_⟩
        · show (if ((zv_ru 22 k g).1 68 29) = 0 then _ else some (zv_ru 22 k g)) = _
          rw [if_neg (zv_ruf (φ := 22) (k := k) (g := g) (by decide) (by decide))]
        · exact zv_mkF (φ := 22) (h2 := zs_uM (zs_uM h 16 i (nI (32 + v))) 14 i (nI ty)) (g2 := g) (by decide) (by decide) c2 m2 (zfr_M (by decide) (zfr_M (by decide) zfr_rfl)) zfr_rfl zfr_rfl zfr_rfl
      · rw [eC3, eM4, if_neg zt, if_neg zt]
        unfold f_Jd_judgeVariable_116 f_Jd_judgeVariable_122 f_Mo_lookAtElement_80
        rw [zv_ref0, Option.bind_some, if_neg (by decide), zv_rule0, Option.bind_some, if_pos J2, if_pos (zi_in (by omega) (by omega)), if_pos (zi_in (by omega) hk), nI_clamp (show v < 2147483648 by omega), nI_clamp (show k < 2147483648 by omega)]
        exact ⟨_, _, rfl, rfl, .inr ⟨v, ty, x, v1, v2, t1, zt, rfl, by rw [q8', x2], v5, v7, q8', x2, x1, t2⟩⟩
    · have zi : ¬ ins = -2 := fun u => z (s1.mpr u)
      have eV := zv_vaC1n (form := -2) (by decide) hi c1 J1 v4 v3 v6
      rw [if_neg zi] at eV
      refine ⟨zv_rf 21 i h, zv_ru 21 k g, eC.trans (zv_jvF eV (zv_rff (by decide) (by decide))), ?_, .inl (zv_mkF (by decide) (by decide) c2 m2 zfr_rfl zfr_rfl zfr_rfl zfr_rfl)⟩
      rw [eM3, if_neg z]
      unfold f_Mo_lookAtElement_51
      rw [show (21 : Int32) = nI 21 from rfl, zv_rule1 (by decide) J2 hk, Option.bind_some]
      exact e51F 21 (by decide) (by decide) _
/-- a sign before one (28) -/
theorem zv_oneE {i k a ka ta s : Nat} {p : Int32} {h g : zs_H} (J1 : (h.1 38 3) = 0) (J2 : (g.1 68 29) = 0) (hi : i < 32784) (hk : k < 33500) (hs : s < 2) (c1 : (h.2.1 16) i = nI s) (c2 : (h.2.1 15) i = p) (c3 : (h.2.1 17) i = nI a) (ha : a < 32784) (hai : ¬ a = i) (c4 : (h.2.1 14) a = nI ta) (hta : ta < 3) (m0 : (g.2.1 72) k = 36) (m1 : (g.2.1 74) k = nI s) (m2 : (g.2.1 73) k = p) (m3 : (g.2.1 76) k = nI ka) (hka : ka < 33500) (m4 : (g.2.1 100) ka = nI ta) :
    ∃ h' g', f_Jd_judgeOne h (nI i) = some h' ∧ f_Mo_lookAtExpressions g (nI k) = some g' ∧ (zv_Fb h g h' g' ∨ ((g' = zs_uM g 100 k (nI ta) ∧ ¬ (s = 0 ∧ ta = 0)) ∧ ((zv_kc h a ∧ h' = zv_fo i (f_Cd_one (f_Cd_turning (if s = 0 then 1 else 0) (nI ta)) ((h.2.1 16) a)) (zs_uM h 14 i (nI ta))) ∨ (¬ zv_kc h a ∧ h' = zs_uM h 14 i (nI ta))))) := by
  have e0 : (nI s = 0) ↔ s = 0 := zc_eq (k := 0) (by decide) (by omega)
  -- the class, behind the rule
  have key : ∀ (y : Int32) (h2 : zs_H), f_Jd_refuseIf h y 28 (nI i) = some h2 → (∀ z, h2.2.1 z = h.2.1 z) → (h2.2 = h.2) → f_Jd_judgeOne_54 h (nI i) (nI a) (nI ta) (if s = 0 then 1 else 0) y = some (if zv_kc h a then zv_fo i (f_Cd_one (f_Cd_turning (if s = 0 then 1 else 0) (nI ta)) ((h.2.1 16) a)) (zs_uM h2 14 i (nI ta)) else zs_uM h2 14 i (nI ta)) := by
    intro y h2 e1 e2 _
    unfold f_Jd_judgeOne_54
    rw [e1, Option.bind_some, if_pos (zi_in (by omega) hi), nI_clamp (by omega), zv_nar3 hta]
    have kk : ∀ j, ((zs_uM h2 14 i (nI ta)).2.1 13) j = (h.2.1 13) j := fun j => by rw [zu_MM, if_neg (fun z => absurd z.1 (by decide)), e2]
    by_cases z : zv_kc h a
    · rw [zv_isC1 ha (by unfold zv_kc; rw [kk]; exact z), Option.bind_some, if_neg (by decide), if_pos (zi_in (by omega) ha), zv_fold1 hi, Option.bind_some, if_pos z, nI_clamp (by omega), e2]
    · rw [zv_isC0 ha (by unfold zv_kc; rw [kk]; exact z), Option.bind_some, if_pos rfl, if_neg z]
  have eC : f_Jd_judgeOne h (nI i) = f_Jd_judgeOne_54 h (nI i) (nI a) (nI ta) (if s = 0 then 1 else 0) (if s = 0 ∧ ta = 0 then 1 else 0) := by
    unfold f_Jd_judgeOne f_Jd_judgeOne_37 f_Jd_judgeOne_53
    simp only [if_pos (zi_in (show i < 2147483648 by omega) hi), nI_clamp (show i < 2147483648 by omega), c3, if_pos (zi_in (show a < 2147483648 by omega) ha), nI_clamp (show a < 2147483648 by omega), c1, c4, e0, zv_t0 hta]
    by_cases z1 : s = 0
    · by_cases z2 : ta = 0
      · simp (config := { decide := true }) only [z1, z2, if_true, if_false, and_self]
      · simp (config := { decide := true }) only [z1, z2, if_true, if_false, and_false]
    · simp (config := { decide := true }) only [z1, if_true, if_false, false_and]
  have eM : f_Mo_lookAtExpressions g (nI k) = f_Mo_lookAtExpressions_144 g (nI k) (if s = 0 ∧ ta = 0 then 1 else 0) := by
    unfold f_Mo_lookAtExpressions f_Mo_lookAtExpressions_143
    simp (config := { decide := true }) only [if_pos (zi_in (show k < 2147483648 by omega) hk), nI_clamp (show k < 2147483648 by omega), m0, if_false, if_true, m1, e0, m3, if_pos (zi_in (show ka < 2147483648 by omega) hka), nI_clamp (show ka < 2147483648 by omega), m4, zv_isn hta]
    by_cases z1 : s = 0
    · by_cases z2 : ta = 0
      · simp (config := { decide := true }) only [z1, z2, if_true, if_false, and_self]
      · simp (config := { decide := true }) only [z1, z2, if_true, if_false, and_false]
    · simp (config := { decide := true }) only [z1, if_true, if_false, false_and]
  rw [eC, eM]
  unfold f_Mo_lookAtExpressions_144
  by_cases zb : s = 0 ∧ ta = 0
  · rw [if_pos zb, key 1 _ (show f_Jd_refuseIf h 1 28 (nI i) = some (zv_rf 28 i h) from zv_ref1 (φ := 28) (by decide) J1 hi) (fun _ => rfl) rfl, show (28 : Int32) = nI 28 from rfl, zv_rule1 (by decide) J2 hk, Option.bind_some, if_pos (zi_in (by omega) hk), nI_clamp (by omega)]
    refine ⟨_, zs_uM (zv_ru 28 k g) 100 k (nI ta), rfl, ?_, .inl ?_⟩
    · show (if zd_in ((g.2.1 76) k) 33500 then some (zs_uM (zv_ru 28 k g) 100 k ((g.2.1 100) ((g.2.1 76) k).toNatClampNeg)) else none) = _
      rw [m3, if_pos (zi_in (by omega) hka), nI_clamp (by omega), m4]
    · refine zv_mkF (φ := 28) (h2 := h) (g2 := g) (by decide) (by decide) c2 m2 zfr_rfl zfr_rfl ?_ (zfr_M (by decide) zfr_rfl)
      split
      · exact zfr_M (by decide) (zfr_M (by decide) (zfr_M (by decide) (zfr_M (by decide) zfr_rfl)))
      · exact zfr_M (by decide) zfr_rfl
  · rw [if_neg zb, key 0 h zv_ref0 (fun _ => rfl) rfl, zv_rule0, Option.bind_some, if_pos (zi_in (by omega) hk), nI_clamp (by omega), m3, if_pos (zi_in (by omega) hka), nI_clamp (by omega), m4]
    refine ⟨_, _, rfl, rfl, .inr ⟨⟨rfl, zb⟩, ?_⟩⟩
    by_cases z : zv_kc h a
    · exact .inl ⟨z, if_pos z⟩
    · exact .inr ⟨z, if_neg z⟩
end
section
/-! The judge: signs between two (27). -/
def zv_bad2 (ta tb s : Nat) : Prop := (ta = 0 ∨ tb = 0) ∧ (¬ (ta = 0 ∧ tb = 0) ∨ 4 < s)
def zv_ty2 (ta tb s : Nat) : Nat := if 2 < s ∧ s < 9 then 0 else max ta tb
theorem zv_ty2lt {ta tb s : Nat} (h1 : ta < 3) (h2 : tb < 3) : zv_ty2 ta tb s < 3 := by
  unfold zv_ty2
  split <;> omega
theorem zv_alike {ta tb : Nat} (h1 : ta < 3) (h2 : tb < 3) : f_Jd_alike (nI ta) (nI tb) = if (ta = 0 ↔ tb = 0) then nI (max ta tb) else -1 := by
  have a1 : ta = 0 ∨ ta = 1 ∨ ta = 2 := by omega
  have a2 : tb = 0 ∨ tb = 1 ∨ tb = 2 := by omega
  rcases a1 with e | e | e <;> subst e <;> rcases a2 with e | e | e <;> subst e <;> rfl
theorem zv_wider {ta tb : Nat} (h1 : ta < 3) (h2 : tb < 3) : f_Jd_wider (nI ta) (nI tb) = if ta = 0 ∨ tb = 0 then -1 else nI (max ta tb) := by
  have a1 : ta = 0 ∨ ta = 1 ∨ ta = 2 := by omega
  have a2 : tb = 0 ∨ tb = 1 ∨ tb = 2 := by omega
  rcases a1 with e | e | e <;> subst e <;> rcases a2 with e | e | e <;> subst e <;> rfl
theorem zv_widM {ta tb : Nat} (h1 : ta < 3) (h2 : tb < 3) : f_Mo_wider (nI ta) (nI tb) = nI (max ta tb) := by
  have a1 : ta = 0 ∨ ta = 1 ∨ ta = 2 := by omega
  have a2 : tb = 0 ∨ tb = 1 ∨ tb = 2 := by omega
  rcases a1 with e | e | e <;> subst e <;> rcases a2 with e | e | e <;> subst e <;> rfl
section ZVTW
variable {i k a b ka kb ta tb s : Nat} {p : Int32} {h g : zs_H}
theorem zv_twC (hi : i < 32784) (hs : s < 14) (c1 : (h.2.1 16) i = nI s) (c3 : (h.2.1 17) i = nI a) (ha : a < 32784) (c5 : (h.2.1 18) a = nI b) (hb : b < 32784) (c4 : (h.2.1 14) a = nI ta) (hta : ta < 3) (c6 : (h.2.1 14) b = nI tb) (htb : tb < 3) :
    (zv_bad2 ta tb s → f_Jd_judgeTwo h (nI i) = (f_Jd_refuse h 27 (nI i)).bind fun h5 => some h5) ∧ (¬ zv_bad2 ta tb s → f_Jd_judgeTwo h (nI i) = f_Jd_judgeTwo_149 h (nI i) (nI a) (nI b) (nI s) (nI (zv_ty2 ta tb s)) (nI i)) := by
  have e4 : (nI s ≤ 4) ↔ s ≤ 4 := zc_el (k := 4) (by decide) (by omega)
  have e3 : (nI s < 3) ↔ s < 3 := zc_tl (k := 3) (by decide) (by omega)
  have e8 : (8 < nI s) ↔ 8 < s := zc_lt (k := 8) (by decide) (by omega)
  have m1 : ¬ nI (max ta tb) = -1 := zc_m1 (by omega)
  have go : f_Jd_judgeTwo h (nI i) = f_Jd_judgeTwo_94 h (nI i) (nI a) (nI b) (nI s) (if s ≤ 4 then (if (ta = 0 ↔ tb = 0) then nI (max ta tb) else -1) else (if ta = 0 ∨ tb = 0 then -1 else nI (max ta tb))) := by
    unfold f_Jd_judgeTwo f_Jd_judgeTwo_42
    simp only [if_pos (zi_in (show i < 2147483648 by omega) hi), nI_clamp (show i < 2147483648 by omega), c3, if_pos (zi_in (show a < 2147483648 by omega) ha), nI_clamp (show a < 2147483648 by omega), c5, c1, e4, if_pos (zi_in (show b < 2147483648 by omega) hb), nI_clamp (show b < 2147483648 by omega), c4, c6, zv_alike hta htb, zv_wider hta htb, if_true]
    by_cases z : s ≤ 4
    · simp only [z, if_true]
    · simp (config := { decide := true }) only [z, if_false]
  rw [go]
  unfold f_Jd_judgeTwo_94 f_Jd_judgeTwo_127 f_Jd_judgeTwo_128 zv_bad2 zv_ty2
  simp only [e3, e8, if_true, show ¬ (1 : Int32) = 0 by decide, if_false]
  constructor
  · intro ⟨z1, z2⟩
    by_cases y1 : s ≤ 4
    · have y2 : ¬ (ta = 0 ↔ tb = 0) := by omega
      simp only [y1, y2, if_true, if_false]
    · simp only [y1, z1, if_true, if_false]
  · intro z
    by_cases y1 : s ≤ 4
    · have y2 : (ta = 0 ↔ tb = 0) := by omega
      simp only [y1, if_pos y2, if_true, m1, if_false]
      by_cases y3 : s < 3
      · simp only [y3, if_true, show ¬ (2 < s ∧ s < 9) by omega, if_false]
      · simp only [y3, if_false, show ¬ 8 < s by omega, show (2 < s ∧ s < 9) by omega, and_self, if_true]; rfl
    · have y2 : ¬ (ta = 0 ∨ tb = 0) := by omega
      simp only [y1, y2, if_false, m1, show ¬ s < 3 by omega]
      by_cases y3 : 8 < s
      · simp only [y3, if_true, show ¬ (2 < s ∧ s < 9) by omega, if_false]
      · simp only [y3, if_false, show (2 < s ∧ s < 9) by omega, and_self, if_true]; rfl
theorem zv_twM (hk : k < 33500) (hs : s < 14) (m0 : (g.2.1 72) k = 35) (m1 : (g.2.1 74) k = nI s) (m3 : (g.2.1 76) k = nI ka) (hka : ka < 33500) (m5 : (g.2.1 77) k = nI kb) (hkb : kb < 33500) (m4 : (g.2.1 100) ka = nI ta) (hta : ta < 3) (m6 : (g.2.1 100) kb = nI tb) (htb : tb < 3) :
    (zv_bad2 ta tb s → f_Mo_lookAtExpressions g (nI k) = (f_Mo_rule g 1 27 (nI k)).bind fun h2 => some (zs_uM h2 100 k (nI (zv_ty2 ta tb s)))) ∧ (¬ zv_bad2 ta tb s → f_Mo_lookAtExpressions g (nI k) = (f_Mo_rule g 0 27 (nI k)).bind fun h2 => some (zs_uM h2 100 k (nI (zv_ty2 ta tb s)))) := by
  have e4 : (nI s ≤ 4) ↔ s ≤ 4 := zc_el (k := 4) (by decide) (by omega)
  have e2 : (nI s ≤ 2) ↔ s ≤ 2 := zc_el (k := 2) (by decide) (by omega)
  have e9 : (9 ≤ nI s) ↔ 9 ≤ s := zc_le (k := 9) (by decide) (by omega)
  have g132 : ∀ (x : Int32) (h2 : zs_H), f_Mo_lookAtTwo_132 h2 x (nI k) = some (zs_uM h2 100 k x) := by
    intro x h2
    unfold f_Mo_lookAtTwo_132
    rw [if_pos (zi_in (by omega) hk), nI_clamp (show k < 2147483648 by omega)]
  have go : ∀ y : Int32, f_Mo_lookAtTwo_90 g (nI k) (nI ta) (nI tb) (nI s) (if ta = 0 ∧ tb = 0 then 1 else 0) y = (f_Mo_rule g y 27 (nI k)).bind fun h2 => some (zs_uM h2 100 k (nI (zv_ty2 ta tb s))) := by
    intro y
    unfold f_Mo_lookAtTwo_90 f_Mo_lookAtTwo_118 zv_ty2
    simp only [g132, e2, e9, zv_widM hta htb]
    refine congrArg _ (funext fun h2 => ?_)
    by_cases y1 : s ≤ 2
    · simp only [y1, if_true, show ¬ (2 < s ∧ s < 9) by omega, if_false]
      by_cases y2 : ta = 0 ∧ tb = 0
      · simp only [y2, and_self, if_true, show ¬ (1 : Int32) = 0 by decide, if_false]; rfl
      · simp only [y2, if_false, if_true]
    · by_cases y3 : 9 ≤ s
      · simp only [y1, y3, if_true, if_false, show ¬ (2 < s ∧ s < 9) by omega]
        by_cases y2 : ta = 0 ∧ tb = 0
        · simp only [y2, and_self, if_true, show ¬ (1 : Int32) = 0 by decide, if_false]; rfl
        · simp only [y2, if_false, if_true]
      · simp only [y1, y3, if_false, show (2 < s ∧ s < 9) by omega, and_self, if_true]; rfl
  have eM : f_Mo_lookAtExpressions g (nI k) = f_Mo_lookAtTwo_90 g (nI k) (nI ta) (nI tb) (nI s) (if ta = 0 ∧ tb = 0 then 1 else 0) (if (ta = 0 ∨ tb = 0) ∧ (¬ (ta = 0 ∧ tb = 0) ∨ 4 < s) then 1 else 0) := by
    unfold f_Mo_lookAtExpressions f_Mo_lookAtTwo f_Mo_lookAtTwo_50 f_Mo_lookAtTwo_51 f_Mo_lookAtTwo_65 f_Mo_lookAtTwo_66 f_Mo_lookAtTwo_85 f_Mo_lookAtTwo_89
    simp (config := { decide := true }) only [if_pos (zi_in (show k < 2147483648 by omega) hk), nI_clamp (show k < 2147483648 by omega), m0, if_false, if_true, Option.bind_fun_some, m1, m3, m5, if_pos (zi_in (show ka < 2147483648 by omega) hka), nI_clamp (show ka < 2147483648 by omega), if_pos (zi_in (show kb < 2147483648 by omega) hkb), nI_clamp (show kb < 2147483648 by omega), m4, m6, zv_isn hta, zv_isn htb, e4, zv_t0 hta, zv_t0 htb]
    by_cases y1 : ta = 0
    · by_cases y2 : tb = 0
      · by_cases y3 : s ≤ 4
        · have y4 : ¬ 4 < s := by omega
          simp (config := { decide := true }) only [y1, y2, y3, y4, if_true, if_false, and_self, or_self, not_true, false_or, and_false]
        · have y4 : 4 < s := by omega
          simp (config := { decide := true }) only [y1, y2, y3, y4, if_true, if_false, and_self, or_self, not_true, false_or, and_true]
      · simp (config := { decide := true }) only [y1, y2, if_true, if_false, and_false, not_false_iff, true_or, and_self]
    · by_cases y2 : tb = 0
      · simp (config := { decide := true }) only [y1, y2, if_true, if_false, false_and, and_false, not_false_iff, true_or, or_true, and_self]
      · simp (config := { decide := true }) only [y1, y2, if_true, if_false, false_and, and_false, not_false_iff, or_self, true_or, or_true]
  constructor
  · intro z
    unfold zv_bad2 at z
    rw [eM, go, if_pos z]
  · intro z
    unfold zv_bad2 at z
    rw [eM, go, if_neg z]
/-- a sign between two (27) -/
theorem zv_twoE (J1 : (h.1 38 3) = 0) (J2 : (g.1 68 29) = 0) (hi : i < 32784) (hk : k < 33500) (hs : s < 14) (c1 : (h.2.1 16) i = nI s) (c2 : (h.2.1 15) i = p) (c3 : (h.2.1 17) i = nI a) (ha : a < 32784) (c5 : (h.2.1 18) a = nI b) (hb : b < 32784) (c4 : (h.2.1 14) a = nI ta) (hta : ta < 3) (c6 : (h.2.1 14) b = nI tb) (htb : tb < 3) (m0 : (g.2.1 72) k = 35) (m1 : (g.2.1 74) k = nI s) (m2 : (g.2.1 73) k = p) (m3 : (g.2.1 76) k = nI ka) (hka : ka < 33500) (m5 : (g.2.1 77) k = nI kb) (hkb : kb < 33500) (m4 : (g.2.1 100) ka = nI ta) (m6 : (g.2.1 100) kb = nI tb) :
    ∃ h' g', f_Jd_judgeTwo h (nI i) = some h' ∧ f_Mo_lookAtExpressions g (nI k) = some g' ∧ (zv_Fb h g h' g' ∨ ((g' = zs_uM g 100 k (nI (zv_ty2 ta tb s)) ∧ ¬ zv_bad2 ta tb s) ∧ ((∃ v, (zv_kc h a ∧ zv_kc h b ∧ f_Cd_isByZero (f_Cd_operation (nI s) (nI (zv_ty2 ta tb s))) ((h.2.1 16) b) = 0) ∧ f_Cd_two (f_Cd_operation (nI s) (nI (zv_ty2 ta tb s))) ((h.2.1 16) a) ((h.2.1 16) b) = some v ∧ h' = zv_fo i v (zs_uM h 14 i (nI (zv_ty2 ta tb s)))) ∨ (¬ (zv_kc h a ∧ zv_kc h b ∧ f_Cd_isByZero (f_Cd_operation (nI s) (nI (zv_ty2 ta tb s))) ((h.2.1 16) b) = 0) ∧ h' = zs_uM h 14 i (nI (zv_ty2 ta tb s)))))) := by
  obtain ⟨C1, C2⟩ := zv_twC hi hs c1 c3 ha c5 hb c4 hta c6 htb
  obtain ⟨M1, M2⟩ := zv_twM hk hs m0 m1 m3 hka m5 hkb m4 hta m6 htb
  have ht := zv_ty2lt (s := s) hta htb
  by_cases z : zv_bad2 ta tb s
  · rw [C1 z, M1 z, show (27 : Int32) = nI 27 from rfl, zv_refu J1 hi, zv_rule1 (by decide) J2 hk, Option.bind_some, Option.bind_some]
    exact ⟨_, _, rfl, rfl, .inl (zv_mkF (φ := 27) (by decide) (by decide) c2 m2 zfr_rfl zfr_rfl zfr_rfl (zfr_M (by decide) zfr_rfl))⟩
  · rw [C2 z, M2 z, zv_rule0, Option.bind_some]
    have kk : ∀ j, ((zs_uM h 14 i (nI (zv_ty2 ta tb s))).2.1 13) j = (h.2.1 13) j := fun j => by rw [zu_MM, if_neg (fun z => absurd z.1 (by decide))]
    have vv : ∀ j, ((zs_uM h 14 i (nI (zv_ty2 ta tb s))).2.1 16) j = (h.2.1 16) j := fun j => by rw [zu_MM, if_neg (fun z => absurd z.1 (by decide))]
    have tt : ((zs_uM h 14 i (nI (zv_ty2 ta tb s))).2.1 14) i = nI (zv_ty2 ta tb s) := by rw [zu_MM, if_pos ⟨rfl, rfl⟩]
    unfold f_Jd_judgeTwo_149 f_Jd_judgeTwo_193 f_Jd_judgeTwo_194
    simp only [if_pos (zi_in (show i < 2147483648 by omega) hi), zv_nar3 ht, nI_clamp (show i < 2147483648 by omega), tt, nI_clamp (show b < 2147483648 by omega), nI_clamp (show a < 2147483648 by omega), vv, if_pos (zi_in (show b < 2147483648 by omega) hb), if_pos (zi_in (show a < 2147483648 by omega) ha), if_true, show ¬ (1 : Int32) = 0 by decide, if_false]
    by_cases za : zv_kc h a
    · rw [zv_isC1 ha (by unfold zv_kc; rw [kk]; exact za), Option.bind_some, if_neg (by decide)]
      by_cases zb : zv_kc h b
      · rw [zv_isC1 hb (by unfold zv_kc; rw [kk]; exact zb), Option.bind_some, if_neg (by decide)]
        obtain ⟨v, ev⟩ := zv_two (f_Cd_operation (nI s) (nI (zv_ty2 ta tb s))) ((h.2.1 16) a) ((h.2.1 16) b)
        by_cases z0 : f_Cd_isByZero (f_Cd_operation (nI s) (nI (zv_ty2 ta tb s))) ((h.2.1 16) b) = 0
        · rw [if_pos z0, ev, Option.bind_some, zv_fold1 hi, Option.bind_some]
          exact ⟨_, _, rfl, rfl, .inr ⟨⟨rfl, z⟩, .inl ⟨v, ⟨za, zb, z0⟩, rfl, rfl⟩⟩⟩
        · rw [if_neg z0]
          exact ⟨_, _, rfl, rfl, .inr ⟨⟨rfl, z⟩, .inr ⟨fun u => z0 u.2.2, rfl⟩⟩⟩
      · rw [zv_isC0 hb (by unfold zv_kc; rw [kk]; exact zb), Option.bind_some, if_pos rfl]
        exact ⟨_, _, rfl, rfl, .inr ⟨⟨rfl, z⟩, .inr ⟨fun u => zb u.2.1, rfl⟩⟩⟩
    · rw [zv_isC0 ha (by unfold zv_kc; rw [kk]; exact za), Option.bind_some, if_pos rfl]
      exact ⟨_, _, rfl, rfl, .inr ⟨⟨rfl, z⟩, .inr ⟨fun u => za u.1, rfl⟩⟩⟩
end ZVTW
end
