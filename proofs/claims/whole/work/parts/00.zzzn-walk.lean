/-! The judge: the walk through a declaration: type and constant. -/
section ZVT
variable {LC LM : List (List Int32)} {nb nf ns sz k d D D' c : Nat} {F : Nat → Nat} {l : zt_T} {P Q : Nat → Prop} {h1 g1 : zs_H} {kv : Int32 × Int32} {o : Unit} {lc r : zt_T} {h g : zs_H} {x x' : Int32}
/-- what both sides do with a child, and what they leave -/
def zv_res (D D' d sz : Nat) (h1 g1 : zs_H) (St : zs_H → zs_H → Int32 → Int32 → Prop) (h g : zs_H) (x x' : Int32) : Prop := ∃ a b, x = nI a ∧ a < 32784 ∧ x' = nI b ∧ b < 33500 ∧ (h.1 38 3) = 0 ∧ (g.1 68 29) = 0 ∧ (h.1 12 6) = nI sz ∧ ∃ h' g', f_Jd_visit D h (nI a) (nI (d + 1)) = some h' ∧ f_Mo_look D' g (nI b) = some g' ∧ ((zv_Fb h1 g1 h' g' ∧ ¬ (h'.1 38 3) = 0 ∧ ¬ (g'.1 68 29) = 0) ∨ St h' g' ((h'.2.1 18) a) ((g'.2.1 78) b))
theorem zv_SDx (hP : ∀ j, P j → j < 32784) (hQ : ∀ j, Q j → j < 33500) (hsz : (h1.1 12 6) = nI sz) (S : zv_SD LC LM nb nf ns k F l P Q h1 g1 (.inner c kv o lc r) h g x x') (hc : c = 8 ∨ c = 9 ∨ c = 10 ∨ c = 30 ∨ c = 31) :
    ∃ (st' a b : Nat) (P1 Q1 : Nat → Prop) (z1 q : Int32) (F' : Nat → Nat), (x = nI a ∧ a < 32784 ∧ x' = nI b ∧ b < 33500) ∧ ((h.1 38 3) = 0 ∧ (g.1 68 29) = 0 ∧ (h.1 12 6) = nI sz) ∧ ((h.2.1 13) a = nI c ∧ (h.2.1 15) a = kv.1 ∧ (h.2.1 16) a = kv.2 ∧ (h.2.1 14) a = 0) ∧ ((g.2.1 72) b = nI c ∧ (g.2.1 73) b = kv.1 ∧ (if zt_nk c = true then zt_nr LC LM kv.2 ((g.2.1 74) b) else (g.2.1 74) b = kv.2)) ∧ (zt_C h lc P1 ((h.2.1 17) a) z1 ∧ zt_M LC LM g lc Q1 (nI b) ((g.2.1 76) b) ((g.2.1 77) b) ∧ (∀ j, P1 j → j < 32784 ∧ ¬ j = a ∧ (h.2.1 14) j = 0) ∧ (∀ j, Q1 j → j < 33500 ∧ Q j) ∧ Q b) ∧ ((zg_A c (zg_run c 0 lc) = true ∧ zg_v c kv.2) ∧ zg_ok lc) ∧ zv_I LC LM nb nf ns F' q h g ∧ (h.2.1 36 = h1.2.1 36 ∧ h.2.1 21 = h1.2.1 21) ∧
      (∀ h' g', zv_X 0 0 h' g' → False) ∧ (∀ h' g' φ p, zv_X φ p h' g' → zfr zv_cf (14 :: zv_cm) [] h h' → zfr zv_mf zv_mm [] g g' → zv_Fb h1 g1 h' g' ∧ ¬ (h'.1 38 3) = 0 ∧ ¬ (g'.1 68 29) = 0) ∧
      (∀ h' g', (c = 8 ∨ c = 9 ∨ c = 10 → zv_Ph nb h1 c kv lc) → zfr [] [14] [] h h' → zfr [] [100] [] g g' → (∀ j, ¬ j = a → ¬ P1 j → (h'.2.1 14) j = (h.2.1 14) j) → (∀ j, ¬ Q j → (g'.2.1 100) j = (g.2.1 100) j) → zv_SD LC LM nb nf ns k F l P Q h1 g1 r h' g' ((h'.2.1 18) a) ((g'.2.1 78) b)) := by
  have n37 : ¬ c = 37 := by omega
  have n38 : ¬ c = 38 := by omega
  have n7 : ¬ c = 7 := by omega
  have n11 : ¬ c = 11 := by omega
  obtain ⟨st, Pu, Qu, yy, yy', F', q, ⟨sC, sM⟩, ⟨s1, s2⟩, ⟨s3, s4, s5, s6, s7⟩, I, ⟨s8, s9⟩, s10, s11, s12, s13, s14, s15, s16⟩ := S
  have s4' : ¬ zg_run 5 (zg_q 5 st c) r = 99 := s4
  have h4 : ¬ zg_q 5 st c = 99 := fun z => s4' (by rw [z]; exact zv_q99 5 r)
  have hst : (1 ≤ st ∧ st ≤ 3) ∧ (zg_q 5 st c = 3 ∨ zg_q 5 st c = 4) := by
    clear s13 s15
    rcases zv_q5 h4 with ⟨e, _⟩ | ⟨e, _⟩ | ⟨_, e, e'⟩ | ⟨_, e, e'⟩
    · omega
    · omega
    · exact ⟨by omega, .inl e'⟩
    · exact ⟨by omega, .inr e'⟩
  have en : zv_nm (.inner c kv o lc r) = zv_nm r := by show (if c = 37 then 1 else 0) + zv_nm r = _; rw [if_neg n37, Nat.zero_add]
  rw [en] at s9
  have hns := s7 hst.1.1
  have hst3 : 3 ≤ zg_q 5 st c ∧ zg_q 5 st c ≤ 4 := by clear s13 s15; omega
  have hpl : q = zv_plc l ∧ (q = -1 ∨ ∃ p, p < 1536 ∧ (768 ≤ p → p % 256 < 64) ∧ q = nI p ∧ F' nb = ns + 1 ∧ (h1.2.1 21) (8 + nb) = 3) := by
    rcases s13 with ⟨_, e1, e2⟩ | ⟨_, _, e1, e2⟩
    · refine ⟨?_, .inl e1⟩
      rw [e1, e2]
      show -1 = (if c = 7 then kv.2 else zv_plc r)
      rw [if_neg n7]
      exact (zv_plc0 r _ (Nat.le_trans (by decide) hst3.1) hst3.2 s4').symm
    · exact ⟨e1, e2⟩
  obtain ⟨a, P1, P2, z1, z2, ea, a1, a2, a3, a4, a5, a6, a7, a8, a9, a10⟩ := zv_hC sC
  obtain ⟨b, Q1, Q2, z3, eb, b1, b2, b3, b4, b5, b6, b7, b8, b9, b10, b11⟩ := zv_hM sM
  have ha := hP a (s1 a a2)
  have hbb := hQ b (s2 b b2)
  have hkm : zt_km c = c := by unfold zt_km; rw [if_neg n37, if_neg n38]
  rw [hkm] at b3
  refine ⟨zg_q 5 st c, a, b, P1, Q1, z1, q, F', ⟨ea, ha, eb, hbb⟩, ⟨I.2.2.2.2.2.2.2.1, I.2.2.2.2.2.2.2.2, (s11.1.1 _ _ (by decide)).trans hsz⟩, ⟨a3, a4, a5, s10 a a2⟩, ⟨b3, b4 n11, b5⟩, ⟨a8, b9, fun j hj => ⟨hP j (s1 j (a6 j hj).1), (a6 j hj).2.1, s10 j (a6 j hj).1⟩, fun j hj => ⟨hQ j (s2 j (b7 j hj).1), s2 j (b7 j hj).1⟩, s2 b b2⟩, ⟨s3.1, s3.2.1⟩, I, ⟨s12.1.2.2.2.1, s12.1.1⟩, fun _ _ z => absurd z.1 (Nat.lt_irrefl 0), fun h' g' φ p X f1 f2 => ?_, fun h' g' Ph f1 f2 t1 t2 => ?_⟩
  · have xn := zv_Xn X
    exact ⟨⟨⟨φ, p, X⟩, zfr_trans (zfr_w s11.1 (fun _ z => z) (by decide) (by decide)) (zfr_w f1 (fun _ z => z) (by decide) (by decide)), zfr_trans s11.2.1 f2⟩, xn.1, xn.2⟩
  · have I' : zv_I LC LM nb nf ns F' q h' g' := zv_Ifr I (zfr_w f1 (by decide) (by decide) (by decide)) (zfr_w f2 (by decide) (by decide) (by decide))
    exact zv_sNext (c := c) (a := a) (b := b) (P1 := P1) (Q1 := Q1) s1 s2 s3.2.2 hst3 s4' I s8 s9 hns s10 s11 s12 hpl (fun z => s14 ⟨Ph, z⟩) (fun j hj => ⟨(a7 j hj).1, (a7 j hj).2, fun z => (a6 j z).2.2 hj⟩) (fun j hj => (b8 j hj).1) a9 b10 I' f1 f2 t1 t2 (fun j hj => hj.elim (fun e => by rw [e]; exact s1 a a2) (fun e => s1 j (a6 j e).1))
theorem zv_sType (hP : ∀ j, P j → j < 32784) (hQ : ∀ j, Q j → j < 33500) (hd : d < 240) (hsz : (h1.1 12 6) = nI sz) (S : zv_SD LC LM nb nf ns k F l P Q h1 g1 (.inner 8 kv o lc r) h g x x') : zv_res (D + 1) (D' + 2) d sz h1 g1 (zv_SD LC LM nb nf ns k F l P Q h1 g1 r) h g x x' := by
  obtain ⟨st', a, b, P1, Q1, z1, q, F', ⟨e1, e2, e3, e4⟩, ⟨J1, J2, J3⟩, ⟨a1, a2, a3, a4⟩, ⟨b1, b2, b3⟩, ⟨cC, cM, _, _, qb⟩, ⟨⟨o1, o2⟩, o3⟩, I, _, _, _, nx⟩ := zv_SDx hP hQ hsz S (.inl rfl)
  have el : lc = .leaf := zv_nolf (kd := 8) (by decide +kernel) o1
  subst el
  have c9 : (h.2.1 17) a = -1 := (show (h.2.1 17) a = -1 ∧ z1 = -1 from cC).1
  have m9 : (g.2.1 76) b = -1 := (show (g.2.1 76) b = -1 ∧ (g.2.1 77) b = -1 from cM).1
  rw [if_neg (by decide)] at b3
  obtain ⟨v1, v2⟩ := zv_vType (D := D) (D' := D') (d := d + 1) (by omega) e2 e4 J1 J2 a1 c9 b1 m9 b3
  refine ⟨a, b, e1, e2, e3, e4, J1, J2, J3, h, _, v1, v2, .inr (nx h _ (fun _ => ⟨fun z => by omega, fun z => by omega, fun z => by omega⟩) zfr_rfl (zfr_M (by decide) zfr_rfl) (fun _ _ _ => rfl) fun j hj => ?_)⟩
  rw [zu_MM, if_neg (fun z => hj (by rw [z.2]; exact qb))]
theorem zv_sConst (hc : c = 30 ∨ c = 31) (hP : ∀ j, P j → j < 32784) (hQ : ∀ j, Q j → j < 33500) (hd : d < 240) (hsz : (h1.1 12 6) = nI sz) (S : zv_SD LC LM nb nf ns k F l P Q h1 g1 (.inner c kv o lc r) h g x x') : zv_res (D + 1) (D' + 2) d sz h1 g1 (zv_SD LC LM nb nf ns k F l P Q h1 g1 r) h g x x' := by
  obtain ⟨st', a, b, P1, Q1, z1, q, F', ⟨e1, e2, e3, e4⟩, ⟨J1, J2, J3⟩, ⟨a1, a2, a3, a4⟩, ⟨b1, b2, b3⟩, ⟨cC, cM, _, _, qb⟩, ⟨⟨o1, o2⟩, o3⟩, I, _, _, _, nx⟩ := zv_SDx hP hQ hsz S (by omega)
  have el : lc = .leaf := by
    rcases hc with e | e
    · subst e; exact zv_nolf (kd := 30) (by decide +kernel) o1
    · subst e; exact zv_nolf (kd := 31) (by decide +kernel) o1
  subst el
  have c9 : (h.2.1 17) a = -1 := (show (h.2.1 17) a = -1 ∧ z1 = -1 from cC).1
  have m9 : (g.2.1 76) b = -1 := (show (g.2.1 76) b = -1 ∧ (g.2.1 77) b = -1 from cM).1
  have b3' : (g.2.1 74) b = kv.2 := by
    rcases hc with e | e
    · subst e; rw [if_neg (by decide)] at b3; exact b3
    · subst e; rw [if_neg (by decide)] at b3; exact b3
  obtain ⟨h', g', v1, v2, _, _, v5, v6, v7, v8⟩ := zv_const (D := D) (D' := D') (d := d + 1) (by omega) e2 e4 hc a1 c9 a3 a4 b1 m9 b3' J1 J2
  exact ⟨a, b, e1, e2, e3, e4, J1, J2, J3, h', g', v1, v2, .inr (nx h' g' (fun z => by omega) v7 v8 (fun j hj _ => v5 j hj) fun j hj => v6 j (fun z => hj (by rw [z]; exact qb)))⟩
theorem zv_sBtype (hP : ∀ j, P j → j < 32784) (hQ : ∀ j, Q j → j < 33500) (hb : 0 < nb) (hd : d < 240) (hsz : (h1.1 12 6) = nI sz) (S : zv_SD LC LM nb nf ns k F l P Q h1 g1 (.inner 10 kv o lc r) h g x x') : zv_res (D + 1) (D' + 2) d sz h1 g1 (zv_SD LC LM nb nf ns k F l P Q h1 g1 r) h g x x' := by
  obtain ⟨st', a, b, P1, Q1, z1, q, F', ⟨e1, e2, e3, e4⟩, ⟨J1, J2, J3⟩, ⟨a1, a2, a3, a4⟩, ⟨b1, b2, b3⟩, ⟨cC, cM, _, _, qb⟩, ⟨⟨o1, o2⟩, o3⟩, I, ⟨e36, e21⟩, _, fa, nx⟩ := zv_SDx hP hQ hsz S (by omega)
  have el : lc = .leaf := zv_nolf (kd := 10) (by decide +kernel) o1
  subst el
  have c9 : (h.2.1 17) a = -1 := (show (h.2.1 17) a = -1 ∧ z1 = -1 from cC).1
  have m9 : (g.2.1 76) b = -1 := (show (g.2.1 76) b = -1 ∧ (g.2.1 77) b = -1 from cM).1
  rw [if_pos (by decide)] at b3
  obtain ⟨cc, kk, w1, w2, w3, w4, w5, w6⟩ := id b3
  have hLC : LC.length < 6000 := I.1.2.2.1
  rw [w1] at b3
  obtain ⟨h', g', v1, v2, v3⟩ := zv_vBtype (D := D) (D' := D') (d := d + 1) I (by omega) hb e2 e4 b3 (by omega) a1 c9 (a3.trans w1) b1 m9 rfl
  refine ⟨a, b, e1, e2, e3, e4, J1, J2, J3, h', g', v1, v2, ?_⟩
  rcases v3 with ⟨f1, f2, yk, B, y1, y2, y3, _⟩ | Y
  · subst f1; subst f2
    exact .inr (nx h' g' (fun _ => ⟨fun z => by omega, fun _ => ⟨cc, B, w1, by omega, y1, by rw [← e36]; exact y2, fun z => by rw [← e21]; exact y3 z⟩, fun _ => by rw [← e21]; exact yk⟩) zfr_rfl zfr_rfl (fun _ _ _ => rfl) fun _ _ => rfl)
  · obtain ⟨X, f1, f2⟩ := zv_YX Y (by decide) (by decide) a2 b2
    exact .inl (fa h' g' 17 _ X (zfr_w f1 (fun _ z => z) (by decide) (by decide)) f2)
end ZVT
