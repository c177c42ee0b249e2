/-! The judge: a declaration's place, type and constant are found. -/
def zv_DP (LC LM : List (List Int32)) (h g : zs_H) (P Q : Nat → Prop) (pl cn cm : Int32) (it kt f ic km kc : Nat) (v : Int32) (kvt : Int32 × Int32) (lt : zt_T) : Prop :=
  (it < 32784 ∧ kt < 33500 ∧ (f = 8 ∨ f = 9 ∨ f = 10)) ∧ ((h.2.1 13) it = nI f ∧ (g.2.1 72) kt = nI f ∧ (h.2.1 16) it = kvt.2 ∧ (if f = 10 then zt_nr LC LM kvt.2 ((g.2.1 74) kt) else (g.2.1 74) kt = kvt.2)) ∧
  (∃ (P1 Q1 : Nat → Prop) (z : Int32), zt_C h lt P1 ((h.2.1 17) it) z ∧ zt_M LC LM g lt Q1 (nI kt) ((g.2.1 76) kt) ((g.2.1 77) kt) ∧ (∀ i, P1 i → P i) ∧ (∀ i, Q1 i → Q i)) ∧ (zg_A f (zg_run f 0 lt) = true ∧ zg_v f kvt.2 ∧ zg_ok lt) ∧ (h.2.1 18) it = cn ∧ zv_cC cn ic kc v h ∧ zv_cM cm km kc v g ∧ (cn = -1 ↔ cm = -1) ∧ zv_pv pl ∧ (kc = 31 → v = 0 ∨ v = 1)
theorem zv_tl18 {K : zs_H → Int32 → Int32 → Int32 → Int32 → Int32 → Int32 → Option zs_H} {g : zs_H} {k kt : Nat} {n2 pl cm : Int32} : f_Mo_lookAtDeclaration_18 K g (nI k) n2 pl (nI kt) cm (-1) = zv_tlM g k n2 pl kt cm := by
  unfold f_Mo_lookAtDeclaration_18
  rw [if_pos (by decide)]
  rfl
theorem zv_L18 {N : Nat} {g : zs_H} {x1 n2 pl ty cm : Int32} (x : Int32) : f_Mo_lookAtDeclaration_L18 (N + 1) g x1 n2 pl ty cm x = f_Mo_lookAtDeclaration_18 (f_Mo_lookAtDeclaration_L18 N) g x1 n2 pl ty cm x := rfl
/-- from the type on -/
theorem zv_scanY {LC LM : List (List Int32)} {h g : zs_H} {f : Nat} {kvt : Int32 × Int32} {o : Unit} {lt r : zt_T} {P Q : Nat → Prop} {a b k n N : Nat} {z z' up pl : Int32} (hf : f = 8 ∨ f = 9 ∨ f = 10) (hr : ¬ zg_run 5 3 r = 99) (hC : zt_C h (.inner f kvt o lt r) P (nI a) z) (hM : zt_M LC LM g (.inner f kvt o lt r) Q up (nI b) z') (hP : ∀ i, P i → i < 32784) (hQ : ∀ i, Q i → i < 33500) (hok : zg_ok (.inner f kvt o lt r)) (hpl : zv_pv pl) (hN : 4 < N) (hA : a < 32784) (hB : b < 33500) :
    ∃ (cn cm : Int32) (ic km kc : Nat) (v : Int32), zv_DP LC LM h g P Q pl cn cm a b f ic km kc v kvt lt ∧ f_Mo_lookAtDeclaration_L18 N g (nI k) (nI n) pl (-1) (-1) (nI b) = zv_tlM g k (nI n) pl b cm := by
  obtain ⟨a', P1, P2, z1, z2, ea, a1, a2, a3, a4, a5, a6, a7, a8, a9, a10⟩ := zv_hC hC
  obtain ⟨b', Q1, Q2, z3, eb, b1, b2, b3, b4, b5, b6, b7, b8, b9, b10, b11⟩ := zv_hM hM
  have ha := hP a' a2
  have hb := hQ b' b2
  have e1 : a = a' := (nI_eq (by omega) (by omega)).mp ea
  have e2 : b = b' := (nI_eq (by omega) (by omega)).mp eb
  subst e1; subst e2
  have hkm : zt_km f = f := by unfold zt_km; rw [if_neg (by omega), if_neg (by omega)]
  rw [hkm] at b3
  have hv : (if f = 10 then zt_nr LC LM kvt.2 ((g.2.1 74) b) else (g.2.1 74) b = kvt.2) := by
    rcases hf with e | e | e
    · subst e; rw [if_neg (by decide)] at b5; rw [if_neg (by decide)]; exact b5
    · subst e; rw [if_neg (by decide)] at b5; rw [if_neg (by decide)]; exact b5
    · subst e; rw [if_pos (by decide)] at b5; rw [if_pos rfl]; exact b5
  obtain ⟨N, rfl⟩ : ∃ m, N = m + 1 + 1 + 1 := ⟨N - 3, by omega⟩
  have step1 : f_Mo_lookAtDeclaration_L18 (N + 1 + 1 + 1) g (nI k) (nI n) pl (-1) (-1) (nI b) = f_Mo_lookAtDeclaration_L18 (N + 1 + 1) g (nI k) (nI n) pl (nI b) (-1) ((g.2.1 78) b) := by
    show f_Mo_lookAtDeclaration_18 (f_Mo_lookAtDeclaration_L18 (N + 1 + 1)) g (nI k) (nI n) pl (-1) (-1) (nI b) = _
    rw [zv_m18 hb (by omega) b3, if_neg (by omega), if_neg (by omega), if_pos (by omega), if_neg (by omega)]
  have base : (∃ P1 Q1 z, zt_C h lt P1 ((h.2.1 17) a) z ∧ zt_M LC LM g lt Q1 (nI b) ((g.2.1 76) b) ((g.2.1 77) b) ∧ (∀ i, P1 i → P i) ∧ (∀ i, Q1 i → Q i)) := ⟨P1, Q1, z1, a8, b9, fun i hi => (a6 i hi).1, fun i hi => (b7 i hi).1⟩
  cases r with
  | leaf =>
    obtain ⟨n1, _⟩ := (show (h.2.1 18) a = -1 ∧ z2 = -1 from a9)
    obtain ⟨n2, _⟩ := (show (g.2.1 78) b = -1 ∧ z3 = -1 from b10)
    refine ⟨-1, -1, 0, 0, 0, 0, ⟨⟨ha, hb, hf⟩, ⟨a3, b3, a5, hv⟩, base, ⟨hok.1.1, hok.1.2, hok.2.1⟩, n1, .inl rfl, .inl rfl, ⟨fun _ => rfl, fun _ => rfl⟩, hpl, fun z => absurd z (by decide)⟩, ?_⟩
    rw [step1, n2, zv_L18, zv_tl18]
  | inner c kv o' lc rc =>
    have h4 : ¬ zg_q 5 3 c = 99 := fun z => hr (by show zg_run 5 (zg_q 5 3 c) rc = 99; rw [z]; exact zv_q99 5 rc)
    have hc : (c = 30 ∨ c = 31) ∧ zg_q 5 3 c = 4 := by
      rcases zv_q5 h4 with ⟨_, e, _⟩ | ⟨_, e, _⟩ | ⟨_, e, _⟩ | ⟨e1, _, e3⟩
      · omega
      · omega
      · omega
      · exact ⟨e1, e3⟩
    have hrc : ¬ zg_run 5 4 rc = 99 := fun z => hr (by show zg_run 5 (zg_q 5 3 c) rc = 99; rw [hc.2]; exact z)
    have ec : rc = .leaf := by
      cases rc with
      | leaf => rfl
      | inner c2 k2 o2 l2 r2 =>
        exfalso
        have h5 : ¬ zg_q 5 4 c2 = 99 := fun z => hrc (by show zg_run 5 (zg_q 5 4 c2) r2 = 99; rw [z]; exact zv_q99 5 r2)
        rcases zv_q5 h5 with ⟨_, e, _⟩ | ⟨_, e, _⟩ | ⟨_, e, _⟩ | ⟨_, e, _⟩ <;> omega
    subst ec
    obtain ⟨ic, P3, P4, y1, y2, ei, i1, i2, i3, i4, i5, i6, i7, i8, i9, i10⟩ := zv_hC a9
    obtain ⟨km, Q3, Q4, y3, ek, k1, k2, k3, k4, k5, k6, k7, k8, k9, k10, k11⟩ := zv_hM b10
    have hic := hP ic (a7 ic i2).1
    have hkmB := hQ km (b8 km k2).1
    have hkc : zt_km c = c := by unfold zt_km; rw [if_neg (by omega), if_neg (by omega)]
    rw [hkc] at k3
    have k5' : (g.2.1 74) km = kv.2 := by
      rcases hc.1 with e | e
      · subst e; rw [if_neg (by decide)] at k5; exact k5
      · subst e; rw [if_neg (by decide)] at k5; exact k5
    obtain ⟨n2, _⟩ := (show (g.2.1 78) km = -1 ∧ y3 = -1 from k10)
    refine ⟨nI ic, nI km, ic, km, c, kv.2, ⟨⟨ha, hb, hf⟩, ⟨a3, b3, a5, hv⟩, base, ⟨hok.1.1, hok.1.2, hok.2.1⟩, ei, .inr ⟨rfl, hic, by omega, i3, i5⟩, .inr ⟨rfl, hkmB, by omega, k3, k5'⟩, ⟨fun z => absurd z (zc_m1 (by omega)), fun z => absurd z (zc_m1 (by omega))⟩, hpl, fun z => ?_⟩, ?_⟩
    · rcases hok.2.2.1.2 with q | ⟨x, x1, x2, _⟩
      · rw [z] at q; exact absurd q (by decide)
      · rw [z] at x1
        have x1' : x < 2 := x1
        have : x = 0 ∨ x = 1 := by omega
        rcases this with e | e <;> subst e
        · exact .inl x2
        · exact .inr x2
    rw [step1, ek, zv_L18, zv_m18 hkmB (by omega) k3, if_neg (by omega), if_neg (by omega), if_neg (by omega), if_pos (by omega), n2, zv_L18, zv_tl18]
