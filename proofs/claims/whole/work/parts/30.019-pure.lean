section
/-! The judge: a declaration's children, on both sides. -/
theorem zv_m18 {K : zs_H → Int32 → Int32 → Int32 → Int32 → Int32 → Int32 → Option zs_H} {g : zs_H} {b kd n : Nat} {x1 pl ty cn : Int32} (hb : b < 33500) (hkd : kd < 100) (m : (g.2.1 72) b = nI kd) : f_Mo_lookAtDeclaration_18 K g x1 (nI n) pl ty cn (nI b) = K g x1 (nI (if kd = 6 then n + 1 else n)) (if kd = 7 then (g.2.1 74) b else pl) (if 7 < kd ∧ kd < 11 then nI b else ty) (if 29 < kd then nI b else cn) ((g.2.1 78) b) := by
  unfold f_Mo_lookAtDeclaration_18 f_Mo_lookAtDeclaration_41 f_Mo_lookAtDeclaration_66 f_Mo_lookAtDeclaration_96 f_Mo_lookAtDeclaration_98 f_Mo_lookAtDeclaration_119
  have hin : zd_in (nI b) 33500 := zi_in (by omega) hb
  have cb : (nI b).toNatClampNeg = b := nI_clamp (by omega)
  have e6 : (nI kd = 6) ↔ kd = 6 := zc_eq (k := 6) (by decide) (by omega)
  have e7 : (nI kd = 7) ↔ kd = 7 := zc_eq (k := 7) (by decide) (by omega)
  have l7 : (nI kd ≤ 7) ↔ ¬ 7 < kd := by rw [zc_el (k := 7) (by decide) (by omega)]; omega
  have l11 : (11 ≤ nI kd) ↔ ¬ kd < 11 := by rw [zc_le (k := 11) (by decide) (by omega)]; omega
  have l29 : (nI kd ≤ 29) ↔ ¬ 29 < kd := by rw [zc_el (k := 29) (by decide) (by omega)]; omega
  simp only [if_neg (mt (zc_tl (k := 0) (by decide) (show b < 2147483648 by omega)).mp (by omega)), if_pos hin, cb, m, e6, e7, l7, l11, l29, nI_1, show ∀ z : Nat, nI z + 0 = nI z from fun z => Int32.add_zero _]
  by_cases z6 : kd = 6
  · subst z6; simp (config := { decide := true }) only [if_true, if_false]
  · by_cases z7 : kd = 7
    · subst z7; simp (config := { decide := true }) only [if_true, if_false]
    · by_cases y1 : 7 < kd <;> by_cases y2 : kd < 11 <;> by_cases y3 : 29 < kd <;> simp only [z6, z7, y1, y2, y3, if_true, if_false, not_true, not_false_iff, and_self, and_true, true_and, and_false, false_and]
/-- a step of the grammar is a row of it -/
theorem zv_qR {kd st c : Nat} (h : ¬ zg_q kd st c = 99) : ∃ cs to, (kd, st, cs, to) ∈ zg_R ∧ c ∈ cs ∧ zg_q kd st c = to := by
  unfold zg_q at h ⊢
  cases e : zg_R.find? (fun r => r.1 == kd && r.2.1 == st && r.2.2.1.elem c) with
  | none => rw [e] at h; exact absurd rfl h
  | some r =>
    have h1 := List.mem_of_find?_eq_some e
    have h2 := List.find?_some e
    simp only [Bool.and_eq_true, beq_iff_eq, List.elem_eq_mem, decide_eq_true_eq] at h2
    obtain ⟨⟨a1, a2⟩, a3⟩ := h2
    obtain ⟨r1, r2, r3, r4⟩ := r
    subst a1; subst a2
    exact ⟨r3, r4, h1, a3, rfl⟩
theorem zv_q5 {st c : Nat} (h : ¬ zg_q 5 st c = 99) : (c = 37 ∧ st ≤ 1 ∧ zg_q 5 st c = 1) ∨ (c = 7 ∧ st = 1 ∧ zg_q 5 st c = 2) ∨ ((c = 8 ∨ c = 9 ∨ c = 10) ∧ (st = 1 ∨ st = 2) ∧ zg_q 5 st c = 3) ∨ ((c = 30 ∨ c = 31) ∧ st = 3 ∧ zg_q 5 st c = 4) := by
  obtain ⟨cs, to, h1, h2, h3⟩ := zv_qR h
  have key : ∀ r ∈ zg_R, r.1 = 5 → r.2 ∈ [(0, [37], 1), (1, [37], 1), (1, [7], 2), (1, [8, 9, 10], 3), (2, [8, 9, 10], 3), (3, [30, 31], 4)] := by decide +kernel
  have m := key _ h1 rfl
  simp only [List.mem_cons, List.not_mem_nil, or_false, Prod.mk.injEq] at m
  rw [h3]
  rcases m with ⟨e1, e2, e3⟩ | ⟨e1, e2, e3⟩ | ⟨e1, e2, e3⟩ | ⟨e1, e2, e3⟩ | ⟨e1, e2, e3⟩ | ⟨e1, e2, e3⟩ <;> subst e2 <;> simp only [List.mem_cons, List.not_mem_nil, or_false] at h2 <;> omega
theorem zv_q99 (kd : Nat) : ∀ (u : zt_T), zg_run kd 99 u = 99 := by
  have key : ∀ c, zg_q kd 99 c = 99 := by
    intro c
    unfold zg_q
    have : zg_R.find? (fun r => r.1 == kd && r.2.1 == 99 && r.2.2.1.elem c) = none := by
      rw [List.find?_eq_none]
      intro r hr
      have : ∀ r ∈ zg_R, ¬ r.2.1 = 99 := by decide +kernel
      have h1 := this r hr
      simp [h1]
    rw [this]; rfl
  intro u
  induction u with
  | leaf => rfl
  | inner c k v l r ihl ihr => show zg_run kd (zg_q kd 99 c) r = 99; rw [key]; exact ihr
/-- the class's nodes don't tell what is above -/
theorem zv_up0 {h : zs_H} : ∀ (t : zt_T) (P : Nat → Prop) (up x y : Int32), zt_G (zt_NC h) ((h.2.1 17)) ((h.2.1 18)) t P up x y → zt_C h t P x y := by
  intro t
  induction t with
  | leaf => intro P up x y q; exact q
  | inner kd k v l r ihl ihr =>
    intro P up x y q
    obtain ⟨i, P1, P2, z1, z2, q1, q2, q3, q4, q5, q6, q7, q8, q9⟩ := q
    exact ⟨i, P1, P2, z1, z2, q1, q2, q3, q4, q5, q6, q7, ihr _ _ _ _ q8, q9⟩
/-- a forest's first tree in the class -/
theorem zv_hC {h : zs_H} {c : Nat} {kv : Int32 × Int32} {w : Unit} {l r : zt_T} {P : Nat → Prop} {x y : Int32} (H : zt_C h (.inner c kv w l r) P x y) : ∃ a P1 P2 z1 z2, x = nI a ∧ a < 40000 ∧ P a ∧ (h.2.1 13) a = nI c ∧ (h.2.1 15) a = kv.1 ∧ (h.2.1 16) a = kv.2 ∧ (∀ j, P1 j → P j ∧ ¬ j = a ∧ ¬ P2 j) ∧ (∀ j, P2 j → P j ∧ ¬ j = a) ∧ zt_C h l P1 ((h.2.1 17) a) z1 ∧ zt_C h r P2 ((h.2.1 18) a) z2 ∧ y = (if z2 = -1 then x else z2) := by
  obtain ⟨a, P1, P2, z1, z2, q1, q2, q3, ⟨q4, q5, q6⟩, q7, q8, q9, q10, q11⟩ := H
  exact ⟨a, P1, P2, z1, z2, q3, q2, q1, q4, q5, q6, q7, q8, zv_up0 l P1 _ _ _ q9, q10, q11⟩
theorem zv_hM {LC LM : List (List Int32)} {g : zs_H} {c : Nat} {kv : Int32 × Int32} {w : Unit} {l r : zt_T} {P : Nat → Prop} {up x y : Int32} (H : zt_M LC LM g (.inner c kv w l r) P up x y) : ∃ b P1 P2 z2, x = nI b ∧ b < 40000 ∧ P b ∧ (g.2.1 72) b = nI (zt_km c) ∧ (¬ c = 11 → (g.2.1 73) b = kv.1) ∧ (if zt_nk c = true then zt_nr LC LM kv.2 ((g.2.1 74) b) else (g.2.1 74) b = kv.2) ∧ (g.2.1 75) b = up ∧ (∀ j, P1 j → P j ∧ ¬ j = b ∧ ¬ P2 j) ∧ (∀ j, P2 j → P j ∧ ¬ j = b) ∧ zt_M LC LM g l P1 (nI b) ((g.2.1 76) b) ((g.2.1 77) b) ∧ zt_M LC LM g r P2 up ((g.2.1 78) b) z2 ∧ y = (if z2 = -1 then x else z2) := by
  obtain ⟨b, P1, P2, z1, z2, q1, q2, q3, ⟨q4, q5, q6, q7, q8⟩, q9, q10, q11, q12, q13⟩ := H
  exact ⟨b, P1, P2, z2, q3, q2, q1, q4, q5, q6, q7, q9, q10, by rw [q8]; exact q11, q12, q13⟩
end
section
/-! The judge: both sides find a declaration's parts. -/
theorem zv_chQ {Q Q' : Nat → Prop} {g : zs_H} (hq : ∀ j, Q' j → Q j) : ∀ r x, zv_ch Q' g r x → zv_ch Q g r x := by
  intro r
  induction r with
  | zero => intro x h; exact h
  | succ r ih => intro x ⟨k, h1, h2, h3, h5, h4⟩; exact ⟨k, h1, h2, h3, hq k h5, ih _ h4⟩
/-- how many names stand in front -/
def zv_nm : zt_T → Nat
  | .leaf => 0
  | .inner c _ _ _ r => (if c = 37 then 1 else 0) + zv_nm r
theorem zv_nmle : ∀ u : zt_T, zv_nm u ≤ zt_ln u := by
  intro u
  induction u with
  | leaf => exact Nat.le_refl _
  | inner c k v l r ihl ihr =>
    show (if c = 37 then 1 else 0) + zv_nm r ≤ 1 + zt_ln r
    split <;> omega
/-- behind the names there are none -/
theorem zv_nm0 : ∀ (u : zt_T) (st : Nat), 2 ≤ st → st ≤ 4 → ¬ zg_run 5 st u = 99 → zv_nm u = 0 := by
  intro u
  induction u with
  | leaf => intro st _ _ _; rfl
  | inner c k v l r ihl ihr =>
    intro st h1 h2 h3
    have h3' : ¬ zg_run 5 (zg_q 5 st c) r = 99 := h3
    have h4 : ¬ zg_q 5 st c = 99 := fun z => h3' (by rw [z]; exact zv_q99 5 r)
    show (if c = 37 then 1 else 0) + zv_nm r = 0
    rcases zv_q5 h4 with ⟨e1, e2, e3⟩ | ⟨e1, e2, e3⟩ | ⟨e1, e2, e3⟩ | ⟨e1, e2, e3⟩
    · omega
    · omega
    · rw [e3] at h3'
      rw [if_neg (by omega), ihr 3 (by omega) (by omega) h3']
    · rw [e3] at h3'
      rw [if_neg (by omega), ihr 4 (by omega) (by omega) h3']
/-- the place, or none -/
def zv_plc : zt_T → Int32
  | .leaf => -1
  | .inner c kv _ _ r => if c = 7 then kv.2 else zv_plc r
/-- what is so for the type -/
def zv_tyok (Φ : Nat → Int32 × Int32 → zt_T → Prop) : zt_T → Prop
  | .leaf => True
  | .inner c kv _ l r => (c = 8 ∨ c = 9 ∨ c = 10 → Φ c kv l) ∧ zv_tyok Φ r
theorem zv_plc0 : ∀ (u : zt_T) (st : Nat), 2 ≤ st → st ≤ 4 → ¬ zg_run 5 st u = 99 → zv_plc u = -1 := by
  intro u
  induction u with
  | leaf => intro st _ _ _; rfl
  | inner c k v l r ihl ihr =>
    intro st h1 h2 h3
    have h3' : ¬ zg_run 5 (zg_q 5 st c) r = 99 := h3
    have h4 : ¬ zg_q 5 st c = 99 := fun z => h3' (by rw [z]; exact zv_q99 5 r)
    show (if c = 7 then k.2 else zv_plc r) = -1
    rcases zv_q5 h4 with ⟨e1, e2, e3⟩ | ⟨e1, e2, e3⟩ | ⟨e1, e2, e3⟩ | ⟨e1, e2, e3⟩
    · omega
    · omega
    · rw [e3] at h3'
      rw [if_neg (by omega)]; exact ihr 3 (by omega) (by omega) h3'
    · rw [e3] at h3'
      rw [if_neg (by omega)]; exact ihr 4 (by omega) (by omega) h3'
/-- the names -/
theorem zv_scanN {LC LM : List (List Int32)} {h g : zs_H} {sz : Nat} (hsz : (h.1 12 6) = nI sz) (hsz2 : sz < 100000) : ∀ (u : zt_T) (st : Nat) (P Q : Nat → Prop) (x y up x' y' : Int32), st ≤ 1 → ¬ zg_run 5 st u = 99 → 3 ≤ zg_run 5 st u → zt_C h u P x y → zt_M LC LM g u Q up x' y' → (∀ i, P i → i < 32784) → (∀ i, Q i → i < 33500) → zg_ok u →
    ∃ (w : zt_T) (P' Q' : Nat → Prop) (a b : Nat) (z z' : Int32), ¬ zg_run 5 1 w = 99 ∧ 3 ≤ zg_run 5 1 w ∧ zv_nm w = 0 ∧ zg_ok w ∧ zt_C h w P' (nI a) z ∧ zt_M LC LM g w Q' up (nI b) z' ∧ (∀ i, P' i → P i) ∧ (∀ i, Q' i → Q i) ∧ a < 32784 ∧ b < 33500 ∧ (zv_plc w = zv_plc u ∧ ∀ Φ, zv_tyok Φ u → zv_tyok Φ w) ∧ zv_ch Q g (zv_nm u) x' ∧
      (∀ N turn x1, zv_nm u < N → turn + zt_ln u ≤ sz → f_Jd_judgeDeclaration_L12 N h x1 x (nI turn) = f_Jd_judgeDeclaration_53 h x1 (nI a)) ∧
      (∀ N n x1, zv_nm u < N → f_Mo_lookAtDeclaration_L18 N g x1 (nI n) (-1) (-1) (-1) x' = f_Mo_lookAtDeclaration_L18 (N - zv_nm u) g x1 (nI (n + zv_nm u)) (-1) (-1) (-1) (nI b)) := by
  intro u
  induction u with
  | leaf =>
    intro st P Q x y up x' y' h1 h2 h3
    exact absurd (show 3 ≤ st from h3) (by omega)
  | inner c kv v l r ihl ihr =>
    intro st P Q x y up x' y' h1 h2 h3 hC hM hP hQ hok
    have h2' : ¬ zg_run 5 (zg_q 5 st c) r = 99 := h2
    have h4 : ¬ zg_q 5 st c = 99 := fun z => h2' (by rw [z]; exact zv_q99 5 r)
    have hC0 := hC
    have hM0 := hM
    obtain ⟨a, P1, P2, z1, z2, ea, a1, a2, a3, a4, a5, a6, a7, a8, a9, a10⟩ := zv_hC hC
    obtain ⟨b, Q1, Q2, z3, eb, b1, b2, b3, b4, b5, b6, b7, b8, b9, b10, b11⟩ := zv_hM hM
    have ha := hP a a2
    have hb := hQ b b2
    have hin : zd_in (nI a) 32784 := zi_in (by omega) ha
    have ca : (nI a).toNatClampNeg = a := nI_clamp (by omega)
    by_cases c37 : c = 37
    · subst c37
      have e3 : zg_q 5 st 37 = 1 := by rcases zv_q5 h4 with ⟨_, _, e⟩ | ⟨e, _⟩ | ⟨e, _⟩ | ⟨e, _⟩ <;> first | exact e | omega
      have h3' : 3 ≤ zg_run 5 (zg_q 5 st 37) r := h3
      rw [e3] at h2' h3'
      obtain ⟨w, P', Q', a', b', z, z', k1, k2, k3, k4, k5, k6, k7, k8, k9, k10, kx, k11, k12, k13⟩ := ihr 1 P2 Q2 _ _ up _ _ (by omega) h2' h3' a9 b10 (fun i hi => hP i (a7 i hi).1) (fun i hi => hQ i (b8 i hi).1) hok.2.2
      have en : zv_nm (.inner 37 kv v l r) = zv_nm r + 1 := by show 1 + zv_nm r = _; omega
      have el : zt_ln (.inner 37 kv v l r) = 1 + zt_ln r := rfl
      refine ⟨w, P', Q', a', b', z, z', k1, k2, k3, k4, k5, k6, fun i hi => (a7 i (k7 i hi)).1, fun i hi => (b8 i (k8 i hi)).1, k9, k10, ⟨kx.1, fun Φ hΦ => kx.2 Φ hΦ.2⟩, ?_, ?_, ?_⟩
      · rw [en]; exact ⟨b, hb, eb, b3, b2, zv_chQ (fun j hj => (b8 j hj).1) _ _ k11⟩
      · intro N turn x1 h5 h6
        rw [en] at h5
        rw [el] at h6
        obtain ⟨N, rfl⟩ : ∃ n, N = n + 1 := ⟨N - 1, by omega⟩
        rw [← k12 N (turn + 1) x1 (by omega) (by omega)]
        show f_Jd_judgeDeclaration_12 (f_Jd_judgeDeclaration_L12 N) h x1 x (nI turn) = _
        unfold f_Jd_judgeDeclaration_12
        rw [hsz, if_neg (mt (nI_leI (by omega) (by omega)).mp (by omega)), ea, if_pos hin, ca, a3, if_pos (by decide), nI_1]
      · intro N n x1 h5
        rw [en] at h5 ⊢
        obtain ⟨N, rfl⟩ : ∃ n, N = n + 1 := ⟨N - 1, by omega⟩
        rw [show N + 1 - (zv_nm r + 1) = N - zv_nm r by omega, show n + (zv_nm r + 1) = n + 1 + zv_nm r by omega, ← k13 N (n + 1) x1 (by omega)]
        show f_Mo_lookAtDeclaration_18 (f_Mo_lookAtDeclaration_L18 N) g x1 (nI n) (-1) (-1) (-1) x' = _
        rw [eb, zv_m18 (kd := 6) hb (by decide) b3]
        rfl
    · have hst : st = 1 ∧ (c = 7 ∨ c = 8 ∨ c = 9 ∨ c = 10) := by
        rcases zv_q5 h4 with ⟨e, _⟩ | ⟨e1, e2, _⟩ | ⟨e1, e2, _⟩ | ⟨e1, e2, _⟩
        · exact absurd e c37
        · exact ⟨e2, .inl e1⟩
        · exact ⟨by omega, .inr e1⟩
        · omega
      obtain ⟨s1, s2⟩ := hst
      subst s1
      have e0 : zv_nm (.inner c kv v l r) = 0 := by
        show (if c = 37 then 1 else 0) + zv_nm r = 0
        rw [if_neg c37]
        rcases zv_q5 h4 with ⟨e, _⟩ | ⟨e1, e2, e3⟩ | ⟨e1, e2, e3⟩ | ⟨e1, e2, e3⟩
        · exact absurd e c37
        · rw [e3] at h2'; rw [zv_nm0 r 2 (by omega) (by omega) h2']
        · rw [e3] at h2'; rw [zv_nm0 r 3 (by omega) (by omega) h2']
        · omega
      rw [ea] at hC0
      rw [eb] at hM0
      rw [e0]
      refine ⟨_, P, Q, a, b, y, y', h2, h3, e0, hok, hC0, hM0, fun i hi => hi, fun i hi => hi, ha, hb, ⟨rfl, fun Φ hΦ => hΦ⟩, ?_, ?_, ?_⟩
      · refine ⟨b, hb, eb, ?_⟩
        rw [b3]
        unfold zt_km
        rcases s2 with e | e | e | e <;> subst e <;> decide
      · intro N turn x1 h5 h6
        obtain ⟨N, rfl⟩ : ∃ n, N = n + 1 := ⟨N - 1, by omega⟩
        show f_Jd_judgeDeclaration_12 (f_Jd_judgeDeclaration_L12 N) h x1 x (nI turn) = _
        unfold f_Jd_judgeDeclaration_12
        rw [ea, if_pos hin, ca, a3, if_neg (show ¬ nI c = 37 from fun z => c37 ((zc_eq (k := 37) (by decide) (by omega)).mp z)), ite_self]
      · intro N n x1 h5
        rw [eb]; rfl
end
section
/-! The judge: a declaration's place, type and constant are found. -/
def zv_DP (LC LM : List (List Int32)) (h g : zs_H) (P Q : Nat → Prop) (pl cn cm : Int32) (it kt f ic km kc : Nat) (v : Int32) (kvt : Int32 × Int32) (lt : zt_T) : Prop :=
  (it < 32784 ∧ kt < 33500 ∧ (f = 8 ∨ f = 9 ∨ f = 10)) ∧ ((h.2.1 13) it = nI f ∧ (g.2.1 72) kt = nI f ∧ (h.2.1 16) it = kvt.2 ∧ (if f = 10 then zt_nr LC LM kvt.2 ((g.2.1 74) kt) else (g.2.1 74) kt = kvt.2)) ∧
  (∃ (P1 Q1 : Nat → Prop) (z : Int32), zt_C h lt P1 ((h.2.1 17) it) z ∧ zt_M LC LM g lt Q1 (nI kt) ((g.2.1 76) kt) ((g.2.1 77) kt) ∧ (∀ i, P1 i → P i) ∧ (∀ i, Q1 i → Q i)) ∧ (zg_A f (zg_run f 0 lt) = true ∧ zg_v f kvt.2 ∧ zg_ok lt) ∧ (h.2.1 18) it = cn ∧ zv_cC cn ic kc v h ∧ zv_cM cm km kc v g ∧ (cn = -1 ↔ cm = -1) ∧ zv_pv pl ∧ (kc = 31 → v = 0 ∨ v = 1)
theorem zv_tl18 {K : zs_H → Int32 → Int32 → Int32 → Int32 → Int32 → Int32 → Option zs_H} {g : zs_H} {k kt : Nat} {n2 pl cm : Int32} : f_Mo_lookAtDeclaration_18 K g (nI k) n2 pl (nI kt) cm (-1) = zv_tlM g k n2 pl kt cm := by
  unfold f_Mo_lookAtDeclaration_18
  rw [if_pos (by decide)]
  rfl
theorem zv_L18 {N : Nat} {g : zs_H} {x1 n2 pl ty cm : Int32} (x : Int32) : f_Mo_lookAtDeclaration_L18 (N + 1) g x1 n2 pl ty cm x = f_Mo_lookAtDeclaration_18 (f_Mo_lookAtDeclaration_L18 N) g x1 n2 pl ty cm x := rfl
/-- from the type on -/
theorem zv_scanY {LC LM : List (List Int32)} {h g : zs_H} {f : Nat} {kvt : Int32 × Int32} {o : Unit} {lt r : zt_T} {P Q : Nat → Prop} {a b k n N : Nat} {z z' up pl : Int32} (hf : f = 8 ∨ f = 9 ∨ f = 10) (hr : ¬ zg_run 5 3 r = 99) (hC : zt_C h (.inner f kvt o lt r) P (nI a) z) (hM : zt_M LC LM g (.inner f kvt o lt r) Q up (nI b) z') (hP : ∀ i, P i → i < 32784) (hQ : ∀ i, Q i → i < 33500) (hok : zg_ok (.inner f kvt o lt r)) (hpl : zv_pv pl) (hN : 4 < N) (hA : a < 32784) (hB : b < 33500) :
    ∃ (cn cm : Int32) (ic km kc : Nat) (v : Int32), zv_DP LC LM h g P Q pl cn cm a b f ic km kc v kvt lt ∧ f_Mo_lookAtDeclaration_L18 N g (nI k) (nI n) pl (-1) (-1) (nI b) = zv_tlM g k (nI n) pl b cm := by
  obtain ⟨a', P1, P2, z1, z2, ea, a1, a2, a3, a4, a5, a6, a7, a8, a9, a10⟩ := zv_hC hC
  obtain ⟨b', Q1, Q2, z3, eb, b1, b2, b3, b4, b5, b6, b7, b8, b9, b10, b11⟩ := zv_hM hM
  have ha := hP a' a2
  have hb := hQ b' b2
  have e1 : a = a' := (nI_eq (by omega) (by omega)).mp ea
  have e2 : b = b' := (nI_eq (by omega) (by omega)).mp eb
  subst e1; subst e2
  have hkm : zt_km f = f := by unfold zt_km; rw [if_neg (by omega), if_neg (by omega)]
  rw [hkm] at b3
  have hv : (if f = 10 then zt_nr LC LM kvt.2 ((g.2.1 74) b) else (g.2.1 74) b = kvt.2) := by
    rcases hf with e | e | e
    · subst e; rw [if_neg (by decide)] at b5; rw [if_neg (by decide)]; exact b5
    · subst e; rw [if_neg (by decide)] at b5; rw [if_neg (by decide)]; exact b5
    · subst e; rw [if_pos (by decide)] at b5; rw [if_pos rfl]; exact b5
  obtain ⟨N, rfl⟩ : ∃ m, N = m + 1 + 1 + 1 := ⟨N - 3, by omega⟩
  have step1 : f_Mo_lookAtDeclaration_L18 (N + 1 + 1 + 1) g (nI k) (nI n) pl (-1) (-1) (nI b) = f_Mo_lookAtDeclaration_L18 (N + 1 + 1) g (nI k) (nI n) pl (nI b) (-1) ((g.2.1 78) b) := by
    show f_Mo_lookAtDeclaration_18 (f_Mo_lookAtDeclaration_L18 (N + 1 + 1)) g (nI k) (nI n) pl (-1) (-1) (nI b) = _
    rw [zv_m18 hb (by omega) b3, if_neg (by omega), if_neg (by omega), if_pos (by omega), if_neg (by omega)]
  have base : (∃ P1 Q1 z, zt_C h lt P1 ((h.2.1 17) a) z ∧ zt_M LC LM g lt Q1 (nI b) ((g.2.1 76) b) ((g.2.1 77) b) ∧ (∀ i, P1 i → P i) ∧ (∀ i, Q1 i → Q i)) := ⟨P1, Q1, z1, a8, b9, fun i hi => (a6 i hi).1, fun i hi => (b7 i hi).1⟩
  cases r with
  | leaf =>
    obtain ⟨n1, _⟩ := (show (h.2.1 18) a = -1 ∧ z2 = -1 from a9)
    obtain ⟨n2, _⟩ := (show (g.2.1 78) b = -1 ∧ z3 = -1 from b10)
    refine ⟨-1, -1, 0, 0, 0, 0, ⟨⟨ha, hb, hf⟩, ⟨a3, b3, a5, hv⟩, base, ⟨hok.1.1, hok.1.2, hok.2.1⟩, n1, .inl rfl, .inl rfl, ⟨fun _ => rfl, fun _ => rfl⟩, hpl, fun z => absurd z (by decide)⟩, ?_⟩
    rw [step1, n2, zv_L18, zv_tl18]
  | inner c kv o' lc rc =>
    have h4 : ¬ zg_q 5 3 c = 99 := fun z => hr (by show zg_run 5 (zg_q 5 3 c) rc = 99; rw [z]; exact zv_q99 5 rc)
    have hc : (c = 30 ∨ c = 31) ∧ zg_q 5 3 c = 4 := by
      rcases zv_q5 h4 with ⟨_, e, _⟩ | ⟨_, e, _⟩ | ⟨_, e, _⟩ | ⟨e1, _, e3⟩
      · omega
      · omega
      · omega
      · exact ⟨e1, e3⟩
    have hrc : ¬ zg_run 5 4 rc = 99 := fun z => hr (by show zg_run 5 (zg_q 5 3 c) rc = 99; rw [hc.2]; exact z)
    have ec : rc = .leaf := by
      cases rc with
      | leaf => rfl
      | inner c2 k2 o2 l2 r2 =>
        exfalso
        have h5 : ¬ zg_q 5 4 c2 = 99 := fun z => hrc (by show zg_run 5 (zg_q 5 4 c2) r2 = 99; rw [z]; exact zv_q99 5 r2)
        rcases zv_q5 h5 with ⟨_, e, _⟩ | ⟨_, e, _⟩ | ⟨_, e, _⟩ | ⟨_, e, _⟩ <;> omega
    subst ec
    obtain ⟨ic, P3, P4, y1, y2, ei, i1, i2, i3, i4, i5, i6, i7, i8, i9, i10⟩ := zv_hC a9
    obtain ⟨km, Q3, Q4, y3, ek, k1, k2, k3, k4, k5, k6, k7, k8, k9, k10, k11⟩ := zv_hM b10
    have hic := hP ic (a7 ic i2).1
    have hkmB := hQ km (b8 km k2).1
    have hkc : zt_km c = c := by unfold zt_km; rw [if_neg (by omega), if_neg (by omega)]
    rw [hkc] at k3
    have k5' : (g.2.1 74) km = kv.2 := by
      rcases hc.1 with e | e
      · subst e; rw [if_neg (by decide)] at k5; exact k5
      · subst e; rw [if_neg (by decide)] at k5; exact k5
    obtain ⟨n2, _⟩ := (show (g.2.1 78) km = -1 ∧ y3 = -1 from k10)
    refine ⟨nI ic, nI km, ic, km, c, kv.2, ⟨⟨ha, hb, hf⟩, ⟨a3, b3, a5, hv⟩, base, ⟨hok.1.1, hok.1.2, hok.2.1⟩, ei, .inr ⟨rfl, hic, by omega, i3, i5⟩, .inr ⟨rfl, hkmB, by omega, k3, k5'⟩, ⟨fun z => absurd z (zc_m1 (by omega)), fun z => absurd z (zc_m1 (by omega))⟩, hpl, fun z => ?_⟩, ?_⟩
    · rcases hok.2.2.1.2 with q | ⟨x, x1, x2, _⟩
      · rw [z] at q; exact absurd q (by decide)
      · rw [z] at x1
        have x1' : x < 2 := x1
        have : x = 0 ∨ x = 1 := by omega
        rcases this with e | e <;> subst e
        · exact .inl x2
        · exact .inr x2
    rw [step1, ek, zv_L18, zv_m18 hkmB (by omega) k3, if_neg (by omega), if_neg (by omega), if_neg (by omega), if_pos (by omega), n2, zv_L18, zv_tl18]
end
section
/-! The judge: all parts of a declaration are found. -/
theorem zv_DPm {LC LM : List (List Int32)} {h g : zs_H} {P Q P' Q' : Nat → Prop} {pl cn cm v : Int32} {it kt f ic km kc : Nat} {kvt : Int32 × Int32} {lt : zt_T} (H : zv_DP LC LM h g P' Q' pl cn cm it kt f ic km kc v kvt lt) (hP : ∀ i, P' i → P i) (hQ : ∀ i, Q' i → Q i) : zv_DP LC LM h g P Q pl cn cm it kt f ic km kc v kvt lt := by
  obtain ⟨H1, H2, ⟨P1, Q1, z, H3, H4, H5, H6⟩, H7⟩ := H
  exact ⟨H1, H2, ⟨P1, Q1, z, H3, H4, fun i hi => hP i (H5 i hi), fun i hi => hQ i (H6 i hi)⟩, H7⟩
theorem zv_scanD {LC LM : List (List Int32)} {h g : zs_H} {sz i k : Nat} {l : zt_T} {P Q : Nat → Prop} {y y' : Int32} (hsz : (h.1 12 6) = nI sz) (hsz2 : sz < 100000) (hi : i < 32784) (hk : k < 33500) (hA : zg_A 5 (zg_run 5 0 l) = true) (hok : zg_ok l) (hC : zt_C h l P ((h.2.1 17) i) y) (hM : zt_M LC LM g l Q (nI k) ((g.2.1 76) k) y') (hP : ∀ i, P i → i < 32784) (hQ : ∀ i, Q i → i < 33500) (hln : zt_ln l ≤ sz) :
    ∃ (pl cn cm : Int32) (it kt f ic km kc : Nat) (v : Int32) (kvt : Int32 × Int32) (lt : zt_T), zv_DP LC LM h g P Q pl cn cm it kt f ic km kc v kvt lt ∧ f_Jd_judgeDeclaration h (nI i) = f_Jd_judgeDeclaration_89 h (nI i) (nI it) pl ∧ f_Mo_lookAtDeclaration g (nI k) = zv_tlM g k (nI (zv_nm l)) pl kt cm ∧ zv_ch Q g (zv_nm l) ((g.2.1 76) k) ∧ pl = zv_plc l ∧ (∀ Φ, zv_tyok Φ l → Φ f kvt lt) := by
  have hst : zg_run 5 0 l = 3 ∨ zg_run 5 0 l = 4 := by
    have key : ∀ st, (5, st) ∈ [(0, 0), (1, 2), (2, 2), (3, 2), (4, 0), (5, 3), (5, 4), (6, 0), (7, 0), (8, 0), (9, 3), (10, 0), (11, 0), (12, 2), (13, 0), (14, 1), (15, 2), (15, 3), (16, 1), (16, 2), (17, 2), (18, 1), (18, 2), (19, 4), (20, 0), (21, 0), (22, 0), (23, 1), (24, 1), (25, 1), (26, 0), (27, 0), (28, 1), (29, 0), (30, 0), (31, 0), (32, 1), (33, 1), (34, 0), (35, 2), (36, 1), (37, 0), (38, 0)] → st = 3 ∨ st = 4 := by
      intro st hs
      simp only [List.mem_cons, Prod.mk.injEq, List.not_mem_nil, or_false] at hs
      omega
    unfold zg_A at hA
    rw [List.elem_eq_mem, decide_eq_true_eq] at hA
    exact key _ hA
  have hz := zF_big
  obtain ⟨w, P', Q', a, b, z, z', k1, k2, k3, k4, k5, k6, k7, k8, k9, k10, ⟨kx1, kx2⟩, k11, k12, k13⟩ := zv_scanN hsz hsz2 l 0 P Q _ y (nI k) _ y' (by omega) (by omega) (by omega) hC hM hP hQ hok
  have hnl := zv_nmle l
  have eC : f_Jd_judgeDeclaration h (nI i) = f_Jd_judgeDeclaration_53 h (nI i) (nI a) := by
    unfold f_Jd_judgeDeclaration
    rw [if_pos (zi_in (by omega) hi), nI_clamp (by omega)]
    exact k12 zF 0 (nI i) (by omega) (by omega)
  have eM : f_Mo_lookAtDeclaration g (nI k) = f_Mo_lookAtDeclaration_L18 (zF - zv_nm l) g (nI k) (nI (zv_nm l)) (-1) (-1) (-1) (nI b) := by
    unfold f_Mo_lookAtDeclaration
    rw [if_pos (zi_in (by omega) hk), nI_clamp (by omega)]
    have := k13 zF 0 (nI k) (by omega)
    rw [Nat.zero_add] at this
    exact this
  have hP' : ∀ i, P' i → i < 32784 := fun i hi => hP i (k7 i hi)
  have hQ' : ∀ i, Q' i → i < 33500 := fun i hi => hQ i (k8 i hi)
  have hin : zd_in (nI a) 32784 := zi_in (by omega) k9
  have ca : (nI a).toNatClampNeg = a := nI_clamp (by omega)
  cases w with
  | leaf => exact absurd (show 3 ≤ 1 from k2) (by omega)
  | inner c kv o lc rc =>
    have h4 : ¬ zg_q 5 1 c = 99 := fun zz => k1 (by show zg_run 5 (zg_q 5 1 c) rc = 99; rw [zz]; exact zv_q99 5 rc)
    have k1' : ¬ zg_run 5 (zg_q 5 1 c) rc = 99 := k1
    have k2' : 3 ≤ zg_run 5 (zg_q 5 1 c) rc := k2
    obtain ⟨a', P1, P2, z1, z2, ea, a1, a2, a3, a4, a5, a6, a7, a8, a9, a10⟩ := zv_hC k5
    obtain ⟨b', Q1, Q2, z3, eb, b1, b2, b3, b4, b5, b6, b7, b8, b9, b10, b11⟩ := zv_hM k6
    have e1 : a = a' := (nI_eq (by omega) (by omega)).mp ea
    have e2 : b = b' := (nI_eq (by omega) (by omega)).mp eb
    rw [← e1] at a3 a5 a9
    rw [← e2] at b3 b5 b10
    rcases zv_q5 h4 with ⟨u1, u2, u3⟩ | ⟨u1, u2, u3⟩ | ⟨u1, u2, u3⟩ | ⟨u1, u2, u3⟩
    · subst u1
      exact absurd k3 (by show ¬ 1 + zv_nm rc = 0; omega)
    · subst u1
      rw [u3] at k1' k2'
      rw [if_neg (by decide)] at b5
      have hkm : zt_km 7 = 7 := by decide
      rw [hkm] at b3
      cases rc with
      | leaf => exact absurd (show 3 ≤ 2 from k2') (by omega)
      | inner f kvt ot lt rt =>
        have h5 : ¬ zg_q 5 2 f = 99 := fun zz => k1' (by show zg_run 5 (zg_q 5 2 f) rt = 99; rw [zz]; exact zv_q99 5 rt)
        have hf : (f = 8 ∨ f = 9 ∨ f = 10) ∧ zg_q 5 2 f = 3 := by
          rcases zv_q5 h5 with ⟨_, e, _⟩ | ⟨_, e, _⟩ | ⟨e1, _, e3⟩ | ⟨_, e, _⟩
          · omega
          · omega
          · exact ⟨e1, e3⟩
          · omega
        have hrt : ¬ zg_run 5 3 rt = 99 := fun zz => k1' (by show zg_run 5 (zg_q 5 2 f) rt = 99; rw [hf.2]; exact zz)
        obtain ⟨it, _, _, _, _, ei, _, i2, _⟩ := zv_hC a9
        obtain ⟨kt, _, _, _, ek, _, j2, _⟩ := zv_hM b10
        have hit := hP' it (a7 it i2).1
        have hkt := hQ' kt (b8 kt j2).1
        rw [ei] at a9
        rw [ek] at b10
        have hpl : zv_pv kv.2 := by
          rcases k4.1.2 with e | ⟨x, x1, x2, x3⟩
          · exact absurd e (by decide)
          · exact .inr ⟨x, x1, x3 rfl, x2⟩
        obtain ⟨cn, cm, ic, km, kc, v, D1, D2⟩ := zv_scanY (k := k) (n := zv_nm l) (N := zF - zv_nm l - 1) (pl := kv.2) hf.1 hrt a9 b10 (fun i hi => hP' i (a7 i hi).1) (fun i hi => hQ' i (b8 i hi).1) k4.2.2 hpl (by omega) hit hkt
        refine ⟨kv.2, cn, cm, it, kt, f, ic, km, kc, v, kvt, lt, zv_DPm D1 (fun i hi => k7 i (a7 i hi).1) (fun i hi => k8 i (b8 i hi).1), ?_, ?_, k11, kx1, fun Φ hΦ => (kx2 Φ hΦ).2.1 hf.1⟩
        · rw [eC]
          unfold f_Jd_judgeDeclaration_53
          rw [if_pos hin, ca, a3, if_pos (by decide), ei, a5]
        · rw [eM, ← D2, show zF - zv_nm l = zF - zv_nm l - 1 + 1 by omega, zv_L18, zv_m18 k10 (by decide) b3, if_neg (by decide), if_pos rfl, if_neg (by decide), if_neg (by decide), ek, b5, show zF - zv_nm l - 1 + 1 - 1 = zF - zv_nm l - 1 by omega]
    · rw [u3] at k1' k2'
      obtain ⟨cn, cm, ic, km, kc, v, D1, D2⟩ := zv_scanY (k := k) (n := zv_nm l) (N := zF - zv_nm l) (pl := -1) u1 k1' k5 k6 hP' hQ' k4 (.inl rfl) (by omega) k9 k10
      refine ⟨-1, cn, cm, a, b, c, ic, km, kc, v, kv, lc, zv_DPm D1 k7 k8, ?_, ?_, k11, ?_, fun Φ hΦ => (kx2 Φ hΦ).1 u1⟩
      · rw [eC]
        unfold f_Jd_judgeDeclaration_53
        rw [if_pos hin, ca, a3, if_neg (fun zz => by have := (zc_eq (k := 7) (by decide) (by omega)).mp zz; omega)]
      · rw [eM, D2]
      · rw [← kx1]
        show -1 = (if c = 7 then kv.2 else zv_plc rc)
        rw [if_neg (by omega), zv_plc0 rc 3 (by omega) (by omega) k1']
    · omega
end
section
/-! The judge: what is done when a node is left. -/
theorem zv_54B {g : zs_H} {k km : Nat} (h : km < 11) (J : (g.1 68 29) = 0) : f_Mo_lookAlone_54 g (nI k) (nI km) = f_Mo_lookAtBlocks g (nI k) := by
  unfold f_Mo_lookAlone_54
  rw [if_pos J, if_neg (mt (zc_le (k := 11) (by decide) (by omega)).mp (by omega)), Option.bind_fun_some]
theorem zv_54S {g : zs_H} {k km : Nat} (h : 11 ≤ km) (h2 : km < 22) (J : (g.1 68 29) = 0) : f_Mo_lookAlone_54 g (nI k) (nI km) = f_Mo_lookAtStatements g (nI k) := by
  unfold f_Mo_lookAlone_54
  rw [if_pos J, if_pos ((zc_le (k := 11) (by decide) (by omega)).mpr h), if_neg (mt (zc_le (k := 22) (by decide) (by omega)).mp (by omega)), Option.bind_fun_some]
theorem zv_54R {g : zs_H} {k km : Nat} (h : 22 ≤ km) (h2 : km < 30) (J : (g.1 68 29) = 0) : f_Mo_lookAlone_54 g (nI k) (nI km) = f_Mo_lookAtRungs g (nI k) := by
  unfold f_Mo_lookAlone_54
  rw [if_pos J, if_pos ((zc_le (k := 11) (by decide) (by omega)).mpr (by omega)), if_pos ((zc_le (k := 22) (by decide) (by omega)).mpr h), if_neg (mt (zc_le (k := 30) (by decide) (by omega)).mp (by omega)), Option.bind_fun_some]
theorem zv_54E {g : zs_H} {k km : Nat} (h : 30 ≤ km) (h2 : km < 100) (J : (g.1 68 29) = 0) : f_Mo_lookAlone_54 g (nI k) (nI km) = f_Mo_lookAtExpressions g (nI k) := by
  unfold f_Mo_lookAlone_54
  rw [if_pos J, if_pos ((zc_le (k := 11) (by decide) (by omega)).mpr (by omega)), if_pos ((zc_le (k := 22) (by decide) (by omega)).mpr (by omega)), if_pos ((zc_le (k := 30) (by decide) (by omega)).mpr h), Option.bind_fun_some]
theorem zv_lv0 {h : zs_H} {i : Nat} (hi : i < 32784) (c : (h.2.1 13) i = 0) : f_Jd_leave h (nI i) = f_Jd_leaveText h (nI i) := by
  unfold f_Jd_leave
  simp (config := { decide := true }) only [if_pos (zi_in (show i < 2147483648 by omega) hi), nI_clamp (show i < 2147483648 by omega), c, if_false, if_true, Option.bind_fun_some]
theorem zv_lv1 {h : zs_H} {i : Nat} (hi : i < 32784) (c : (h.2.1 13) i = 1) : f_Jd_leave h (nI i) = f_Jd_leaveBlock h (nI i) := by
  unfold f_Jd_leave
  simp (config := { decide := true }) only [if_pos (zi_in (show i < 2147483648 by omega) hi), nI_clamp (show i < 2147483648 by omega), c, if_false, if_true, Option.bind_fun_some]
theorem zv_lv2 {h : zs_H} {i : Nat} (hi : i < 32784) (c : (h.2.1 13) i = 2) : f_Jd_leave h (nI i) = f_Jd_leaveBlock h (nI i) := by
  unfold f_Jd_leave
  simp (config := { decide := true }) only [if_pos (zi_in (show i < 2147483648 by omega) hi), nI_clamp (show i < 2147483648 by omega), c, if_false, if_true, Option.bind_fun_some]
theorem zv_lv3 {h : zs_H} {i : Nat} (hi : i < 32784) (c : (h.2.1 13) i = 3) : f_Jd_leave h (nI i) = f_Jd_leaveBlock h (nI i) := by
  unfold f_Jd_leave
  simp (config := { decide := true }) only [if_pos (zi_in (show i < 2147483648 by omega) hi), nI_clamp (show i < 2147483648 by omega), c, if_false, if_true, Option.bind_fun_some]
theorem zv_lv4 {h : zs_H} {i : Nat} (hi : i < 32784) (c : (h.2.1 13) i = 4) : f_Jd_leave h (nI i) = f_Jd_judgeSection h (nI i) := by
  unfold f_Jd_leave
  simp (config := { decide := true }) only [if_pos (zi_in (show i < 2147483648 by omega) hi), nI_clamp (show i < 2147483648 by omega), c, if_false, if_true, Option.bind_fun_some]
theorem zv_lv5 {h : zs_H} {i : Nat} (hi : i < 32784) (c : (h.2.1 13) i = 5) : f_Jd_leave h (nI i) = f_Jd_judgeDeclaration h (nI i) := by
  unfold f_Jd_leave
  simp (config := { decide := true }) only [if_pos (zi_in (show i < 2147483648 by omega) hi), nI_clamp (show i < 2147483648 by omega), c, if_false, if_true, Option.bind_fun_some]
theorem zv_lv6 {h : zs_H} {i : Nat} (hi : i < 32784) (c : (h.2.1 13) i = 6) : f_Jd_leave h (nI i) = f_Jd_judgeVariable h (nI i) := by
  unfold f_Jd_leave
  simp (config := { decide := true }) only [if_pos (zi_in (show i < 2147483648 by omega) hi), nI_clamp (show i < 2147483648 by omega), c, if_false, if_true, Option.bind_fun_some]
theorem zv_lv7 {h : zs_H} {i : Nat} (hi : i < 32784) (c : (h.2.1 13) i = 7) : f_Jd_leave h (nI i) = f_Jd_judgePlace h (nI i) := by
  unfold f_Jd_leave
  simp (config := { decide := true }) only [if_pos (zi_in (show i < 2147483648 by omega) hi), nI_clamp (show i < 2147483648 by omega), c, if_false, if_true, Option.bind_fun_some]
theorem zv_lv9 {h : zs_H} {i : Nat} (hi : i < 32784) (c : (h.2.1 13) i = 9) : f_Jd_leave h (nI i) = f_Jd_judgeArray h (nI i) := by
  unfold f_Jd_leave
  simp (config := { decide := true }) only [if_pos (zi_in (show i < 2147483648 by omega) hi), nI_clamp (show i < 2147483648 by omega), c, if_false, if_true, Option.bind_fun_some]
theorem zv_lv10 {h : zs_H} {i : Nat} (hi : i < 32784) (c : (h.2.1 13) i = 10) : f_Jd_leave h (nI i) = f_Jd_judgeBlockType h (nI i) := by
  unfold f_Jd_leave
  simp (config := { decide := true }) only [if_pos (zi_in (show i < 2147483648 by omega) hi), nI_clamp (show i < 2147483648 by omega), c, if_false, if_true, Option.bind_fun_some]
theorem zv_lv12 {h : zs_H} {i : Nat} (hi : i < 32784) (c : (h.2.1 13) i = 12) : f_Jd_leave h (nI i) = f_Jd_judgeAssignment h (nI i) := by
  unfold f_Jd_leave
  simp (config := { decide := true }) only [if_pos (zi_in (show i < 2147483648 by omega) hi), nI_clamp (show i < 2147483648 by omega), c, if_false, if_true, Option.bind_fun_some]
theorem zv_lv14 {h : zs_H} {i : Nat} (hi : i < 32784) (c : (h.2.1 13) i = 14) : f_Jd_leave h (nI i) = f_Jd_judgeParameter h (nI i) := by
  unfold f_Jd_leave
  simp (config := { decide := true }) only [if_pos (zi_in (show i < 2147483648 by omega) hi), nI_clamp (show i < 2147483648 by omega), c, if_false, if_true, Option.bind_fun_some]
theorem zv_lv15 {h : zs_H} {i : Nat} (hi : i < 32784) (c : (h.2.1 13) i = 15) : f_Jd_leave h (nI i) = f_Jd_judgeIf h (nI i) := by
  unfold f_Jd_leave
  simp (config := { decide := true }) only [if_pos (zi_in (show i < 2147483648 by omega) hi), nI_clamp (show i < 2147483648 by omega), c, if_false, if_true, Option.bind_fun_some]
theorem zv_lv18 {h : zs_H} {i : Nat} (hi : i < 32784) (c : (h.2.1 13) i = 18) : f_Jd_leave h (nI i) = f_Jd_judgeRange h (nI i) := by
  unfold f_Jd_leave
  simp (config := { decide := true }) only [if_pos (zi_in (show i < 2147483648 by omega) hi), nI_clamp (show i < 2147483648 by omega), c, if_false, if_true, Option.bind_fun_some]
theorem zv_lv19 {h : zs_H} {i : Nat} (hi : i < 32784) (c : (h.2.1 13) i = 19) : f_Jd_leave h (nI i) = f_Jd_judgeFor h (nI i) := by
  unfold f_Jd_leave
  simp (config := { decide := true }) only [if_pos (zi_in (show i < 2147483648 by omega) hi), nI_clamp (show i < 2147483648 by omega), c, if_false, if_true, Option.bind_fun_some]
theorem zv_lv23 {h : zs_H} {i : Nat} (hi : i < 32784) (c : (h.2.1 13) i = 23) : f_Jd_leave h (nI i) = f_Jd_judgeRung h (nI i) := by
  unfold f_Jd_leave
  simp (config := { decide := true }) only [if_pos (zi_in (show i < 2147483648 by omega) hi), nI_clamp (show i < 2147483648 by omega), c, if_false, if_true, Option.bind_fun_some]
theorem zv_lv25 {h : zs_H} {i : Nat} (hi : i < 32784) (c : (h.2.1 13) i = 25) : f_Jd_leave h (nI i) = f_Jd_judgeContact h (nI i) := by
  unfold f_Jd_leave
  simp (config := { decide := true }) only [if_pos (zi_in (show i < 2147483648 by omega) hi), nI_clamp (show i < 2147483648 by omega), c, if_false, if_true, Option.bind_fun_some]
theorem zv_lv28 {h : zs_H} {i : Nat} (hi : i < 32784) (c : (h.2.1 13) i = 28) : f_Jd_leave h (nI i) = f_Jd_judgeCoil h (nI i) := by
  unfold f_Jd_leave
  simp (config := { decide := true }) only [if_pos (zi_in (show i < 2147483648 by omega) hi), nI_clamp (show i < 2147483648 by omega), c, if_false, if_true, Option.bind_fun_some]
theorem zv_lv32 {h : zs_H} {i : Nat} (hi : i < 32784) (c : (h.2.1 13) i = 32) : f_Jd_leave h (nI i) = f_Jd_judgeVariable h (nI i) := by
  unfold f_Jd_leave
  simp (config := { decide := true }) only [if_pos (zi_in (show i < 2147483648 by omega) hi), nI_clamp (show i < 2147483648 by omega), c, if_false, if_true, Option.bind_fun_some]
theorem zv_lv33 {h : zs_H} {i : Nat} (hi : i < 32784) (c : (h.2.1 13) i = 33) : f_Jd_leave h (nI i) = f_Jd_judgeVariable h (nI i) := by
  unfold f_Jd_leave
  simp (config := { decide := true }) only [if_pos (zi_in (show i < 2147483648 by omega) hi), nI_clamp (show i < 2147483648 by omega), c, if_false, if_true, Option.bind_fun_some]
theorem zv_lv34 {h : zs_H} {i : Nat} (hi : i < 32784) (c : (h.2.1 13) i = 34) : f_Jd_leave h (nI i) = f_Jd_judgeCall h (nI i) := by
  unfold f_Jd_leave
  simp (config := { decide := true }) only [if_pos (zi_in (show i < 2147483648 by omega) hi), nI_clamp (show i < 2147483648 by omega), c, if_false, if_true, Option.bind_fun_some]
theorem zv_lv35 {h : zs_H} {i : Nat} (hi : i < 32784) (c : (h.2.1 13) i = 35) : f_Jd_leave h (nI i) = f_Jd_judgeTwo h (nI i) := by
  unfold f_Jd_leave
  simp (config := { decide := true }) only [if_pos (zi_in (show i < 2147483648 by omega) hi), nI_clamp (show i < 2147483648 by omega), c, if_false, if_true, Option.bind_fun_some]
theorem zv_lv36 {h : zs_H} {i : Nat} (hi : i < 32784) (c : (h.2.1 13) i = 36) : f_Jd_leave h (nI i) = f_Jd_judgeOne h (nI i) := by
  unfold f_Jd_leave
  simp (config := { decide := true }) only [if_pos (zi_in (show i < 2147483648 by omega) hi), nI_clamp (show i < 2147483648 by omega), c, if_false, if_true, Option.bind_fun_some]
theorem zv_lv37 {h : zs_H} {i : Nat} (hi : i < 32784) (c : (h.2.1 13) i = 37) : f_Jd_leave h (nI i) = f_Jd_declareName h (nI i) := by
  unfold f_Jd_leave
  simp (config := { decide := true }) only [if_pos (zi_in (show i < 2147483648 by omega) hi), nI_clamp (show i < 2147483648 by omega), c, if_false, if_true, Option.bind_fun_some]
theorem zv_lv8 {h : zs_H} {i : Nat} (hi : i < 32784) (c : (h.2.1 13) i = 8) : f_Jd_leave h (nI i) = some h := by
  unfold f_Jd_leave
  simp (config := { decide := true }) only [if_pos (zi_in (show i < 2147483648 by omega) hi), nI_clamp (show i < 2147483648 by omega), c, if_false, if_true, Option.bind_fun_some]
theorem zv_lv11 {h : zs_H} {i : Nat} (hi : i < 32784) (c : (h.2.1 13) i = 11) : f_Jd_leave h (nI i) = some h := by
  unfold f_Jd_leave
  simp (config := { decide := true }) only [if_pos (zi_in (show i < 2147483648 by omega) hi), nI_clamp (show i < 2147483648 by omega), c, if_false, if_true, Option.bind_fun_some]
theorem zv_lv17 {h : zs_H} {i : Nat} (hi : i < 32784) (c : (h.2.1 13) i = 17) : f_Jd_leave h (nI i) = some h := by
  unfold f_Jd_leave
  simp (config := { decide := true }) only [if_pos (zi_in (show i < 2147483648 by omega) hi), nI_clamp (show i < 2147483648 by omega), c, if_false, if_true, Option.bind_fun_some]
theorem zv_lv21 {h : zs_H} {i : Nat} (hi : i < 32784) (c : (h.2.1 13) i = 21) : f_Jd_leave h (nI i) = some h := by
  unfold f_Jd_leave
  simp (config := { decide := true }) only [if_pos (zi_in (show i < 2147483648 by omega) hi), nI_clamp (show i < 2147483648 by omega), c, if_false, if_true, Option.bind_fun_some]
theorem zv_lv22 {h : zs_H} {i : Nat} (hi : i < 32784) (c : (h.2.1 13) i = 22) : f_Jd_leave h (nI i) = some h := by
  unfold f_Jd_leave
  simp (config := { decide := true }) only [if_pos (zi_in (show i < 2147483648 by omega) hi), nI_clamp (show i < 2147483648 by omega), c, if_false, if_true, Option.bind_fun_some]
theorem zv_lv24 {h : zs_H} {i : Nat} (hi : i < 32784) (c : (h.2.1 13) i = 24) : f_Jd_leave h (nI i) = some h := by
  unfold f_Jd_leave
  simp (config := { decide := true }) only [if_pos (zi_in (show i < 2147483648 by omega) hi), nI_clamp (show i < 2147483648 by omega), c, if_false, if_true, Option.bind_fun_some]
theorem zv_lv26 {h : zs_H} {i : Nat} (hi : i < 32784) (c : (h.2.1 13) i = 26) : f_Jd_leave h (nI i) = some h := by
  unfold f_Jd_leave
  simp (config := { decide := true }) only [if_pos (zi_in (show i < 2147483648 by omega) hi), nI_clamp (show i < 2147483648 by omega), c, if_false, if_true, Option.bind_fun_some]
theorem zv_lv27 {h : zs_H} {i : Nat} (hi : i < 32784) (c : (h.2.1 13) i = 27) : f_Jd_leave h (nI i) = some h := by
  unfold f_Jd_leave
  simp (config := { decide := true }) only [if_pos (zi_in (show i < 2147483648 by omega) hi), nI_clamp (show i < 2147483648 by omega), c, if_false, if_true, Option.bind_fun_some]
theorem zv_lv31 {h : zs_H} {i : Nat} (hi : i < 32784) (c : (h.2.1 13) i = 31) : f_Jd_leave h (nI i) = some h := by
  unfold f_Jd_leave
  simp (config := { decide := true }) only [if_pos (zi_in (show i < 2147483648 by omega) hi), nI_clamp (show i < 2147483648 by omega), c, if_false, if_true, Option.bind_fun_some]
theorem zv_lv38 {h : zs_H} {i : Nat} (hi : i < 32784) (c : (h.2.1 13) i = 38) : f_Jd_leave h (nI i) = some h := by
  unfold f_Jd_leave
  simp (config := { decide := true }) only [if_pos (zi_in (show i < 2147483648 by omega) hi), nI_clamp (show i < 2147483648 by omega), c, if_false, if_true, Option.bind_fun_some]
end
section
/-! The judge: the children of a declaration that have none of their own. -/
section ZVK
variable {LC LM : List (List Int32)} {nb nf ns i k D D' d : Nat} {F : Nat → Nat} {h g : zs_H}
theorem zv_vName {k5 k4 c s : Nat} {q w p : Int32} (I : zv_I LC LM nb nf ns F q h g) (hd : d ≤ 240) (hb : 0 < nb) (hnv : F nb < 5900) (hi : i < 32784) (hk : k < 33500) (h5 : k5 < 33500) (h4 : k4 < 33500) (hw : zt_nr LC LM (nI c) w) (hc : c < 6000) (hs : s < 3) (c0 : (h.2.1 13) i = 37) (c9 : (h.2.1 17) i = -1) (c1 : (h.2.1 16) i = nI c) (c2 : (h.2.1 15) i = p) (c3 : (h.1 38 5) = nI s) (m1 : (g.2.1 72) k = 6) (m9 : (g.2.1 76) k = -1) (m2 : (g.2.1 74) k = w) (m3 : (g.2.1 73) k = p) (a1 : (g.2.1 75) k = nI k5) (a2 : (g.2.1 75) k5 = nI k4) (a3 : (g.2.1 74) k4 = nI s) (a4 : (g.2.1 72) k5 = 5) :
    ∃ h' g', f_Jd_visit (D + 1) h (nI i) (nI d) = some h' ∧ f_Mo_look (D' + 2) g (nI k) = some g' ∧ zfr zv_cf zv_cm [] h h' ∧ zfr zv_mf zv_mm [] g g' ∧ ((∃ φ, zv_X φ p h' g') ∨ (zv_I LC LM nb nf ns (fun j => if j = nb then F nb + 1 else F j) q h' g' ∧ zfr [(20, 18)] zv_nl [] h h' ∧ zfr [(68, 41)] zv_gl [] g g')) := by
  have J1 : (h.1 38 3) = 0 := I.2.2.2.2.2.2.2.1
  have J2 : (g.1 68 29) = 0 := I.2.2.2.2.2.2.2.2
  obtain ⟨e1, e2⟩ := zv_leaf (D := D) (D' := D') (kd := 37) (km := 6) hd hi hk (by decide) (by decide) (by decide) (by decide) c0 c9 (by decide) (by decide) (by decide) m1 m9 J1
  rw [e1, e2, zv_lv37 hi c0, zv_54B (by decide) J2]
  exact zv_name I hb hnv hi hk h5 h4 hw hc hs c1 c2 c3 m1 m2 m3 a1 a2 a3 a4
theorem zv_vPlace {k5 k6 x : Nat} {p : Int32} (I : zv_I LC LM nb nf ns F (-1) h g) (hd : d ≤ 240) (hb : 0 < nb) (hi : i < 32784) (hk : k < 33500) (h5 : k5 < 33500) (h6 : k6 < 33500) (hx : x < 1536) (hx2 : 768 ≤ x → x % 256 < 64) (c0 : (h.2.1 13) i = 7) (c9 : (h.2.1 17) i = -1) (c1 : (h.2.1 16) i = nI x) (c2 : (h.2.1 15) i = p) (c3 : (h.1 38 6) = nI (32 + ns)) (m1 : (g.2.1 72) k = 7) (m9 : (g.2.1 76) k = -1) (m2 : (g.2.1 74) k = nI x) (m3 : (g.2.1 73) k = p) (a1 : (g.2.1 75) k = nI k5) (a2 : (g.2.1 76) k5 = nI k6) (a3 : (g.2.1 78) k6 = nI k ↔ F nb = ns + 1) (a4 : ns < F nb) :
    ∃ h', f_Jd_visit (D + 1) h (nI i) (nI d) = some h' ∧ ∃ g', f_Mo_look (D' + 2) g (nI k) = some g' ∧ zfr zv_cf zv_cm [] h h' ∧ zfr zv_mf zv_mm [] g g' ∧ ((∃ φ, zv_X φ p h' g') ∨ (h' = zs_uM h 40 (zv_pc x) 1 ∧ g' = g ∧ (h.2.1 21) (8 + nb) = 3 ∧ F nb = ns + 1 ∧ zv_I LC LM nb nf ns F (nI x) h' g')) := by
  have J1 : (h.1 38 3) = 0 := I.2.2.2.2.2.2.2.1
  have J2 : (g.1 68 29) = 0 := I.2.2.2.2.2.2.2.2
  obtain ⟨e1, e2⟩ := zv_leaf (D := D) (D' := D') (kd := 7) (km := 7) hd hi hk (by decide) (by decide) (by decide) (by decide) c0 c9 (by decide) (by decide) (by decide) m1 m9 J1
  rw [e1, e2, zv_lv7 hi c0, zv_54B (by decide) J2]
  exact zv_place I hb hi hk h5 h6 hx hx2 c1 c2 c3 m1 m2 m3 a1 a2 a3 a4
theorem zv_vBtype {c : Nat} {q w : Int32} (I : zv_I LC LM nb nf ns F q h g) (hd : d ≤ 240) (hb : 0 < nb) (hi : i < 32784) (hk : k < 33500) (hw : zt_nr LC LM (nI c) w) (hc : c < 6000) (c0 : (h.2.1 13) i = 10) (c9 : (h.2.1 17) i = -1) (c1 : (h.2.1 16) i = nI c) (m1 : (g.2.1 72) k = 10) (m9 : (g.2.1 76) k = -1) (m2 : (g.2.1 74) k = w) :
    ∃ h' g', f_Jd_visit (D + 1) h (nI i) (nI d) = some h' ∧ f_Mo_look (D' + 2) g (nI k) = some g' ∧ ((h' = h ∧ g' = g ∧ ¬ (h.2.1 21) (8 + nb) = 1 ∧ ∃ B, B < 8 + nb ∧ (h.2.1 36) c = nI B ∧ (9 ≤ B → (h.2.1 21) B = 2) ∧ f_Mo_blockOf g w = some (nI (if B < 9 then 100000 + B else B - 9))) ∨ zv_Y 17 i k h g h' g') := by
  have J1 : (h.1 38 3) = 0 := I.2.2.2.2.2.2.2.1
  have J2 : (g.1 68 29) = 0 := I.2.2.2.2.2.2.2.2
  obtain ⟨e1, e2⟩ := zv_leaf (D := D) (D' := D') (kd := 10) (km := 10) hd hi hk (by decide) (by decide) (by decide) (by decide) c0 c9 (by decide) (by decide) (by decide) m1 m9 J1
  rw [e1, e2, zv_lv10 hi c0, zv_54B (by decide) J2]
  exact zv_btype I hb hi hk hw hc c1 m1 m2
theorem zv_vType {v : Int32} (hd : d ≤ 240) (hi : i < 32784) (hk : k < 33500) (J1 : (h.1 38 3) = 0) (J2 : (g.1 68 29) = 0) (c0 : (h.2.1 13) i = 8) (c9 : (h.2.1 17) i = -1) (m1 : (g.2.1 72) k = 8) (m9 : (g.2.1 76) k = -1) (m2 : (g.2.1 74) k = v) :
    f_Jd_visit (D + 1) h (nI i) (nI d) = some h ∧ f_Mo_look (D' + 2) g (nI k) = some (zs_uM g 100 k v) := by
  obtain ⟨e1, e2⟩ := zv_leaf (D := D) (D' := D') (kd := 8) (km := 8) hd hi hk (by decide) (by decide) (by decide) (by decide) c0 c9 (by decide) (by decide) (by decide) m1 m9 J1
  rw [e1, e2, zv_lv8 hi c0, zv_54B (by decide) J2]
  refine ⟨rfl, ?_⟩
  unfold f_Mo_lookAtBlocks
  simp (config := { decide := true }) only [if_pos (zi_in (show k < 2147483648 by omega) hk), nI_clamp (show k < 2147483648 by omega), m1, m2, if_false, if_true]
end ZVK
end
section
/-! The judge: an array's type. -/
section ZVA
variable {D D' d i k kd sz : Nat} {h g h' g' : zs_H}
theorem zv_stC {a turn N : Nat} (ht : turn < sz) (hsz : sz < 100000) (ha : a < 32784) (J1 : (h.1 38 3) = 0) (es : (h.1 12 6) = nI sz) (e : f_Jd_visit D h (nI a) (nI (d + 1)) = some h') : f_Jd_visit_L26 (f_Jd_visit D) (N + 1) h (nI i) (nI d) (nI a) (nI turn) = f_Jd_visit_L26 (f_Jd_visit D) N h' (nI i) (nI d) ((h'.2.1 18) a) (nI (turn + 1)) := by
  show f_Jd_visit_26 (f_Jd_visit D) (f_Jd_visit_L26 (f_Jd_visit D) N) h (nI i) (nI d) (nI a) (nI turn) = _
  unfold f_Jd_visit_26
  rw [es, if_neg (mt (nI_leI (by omega) (by omega)).mp (by omega)), if_neg (zc_m1 (by omega)), if_pos J1, nI_1, e, Option.bind_some, if_pos (zi_in (by omega) ha), nI_clamp (by omega), nI_1]
theorem zv_stM {b N : Nat} (hb : b < 33500) (J2 : (g.1 68 29) = 0) (e : f_Mo_look D' g (nI b) = some g') : f_Mo_lookAlone_L28 (f_Mo_look D') (N + 1) g (nI k) (nI kd) (nI b) = f_Mo_lookAlone_L28 (f_Mo_look D') N g' (nI k) (nI kd) ((g'.2.1 78) b) := by
  show f_Mo_lookAlone_28 (f_Mo_look D') (f_Mo_lookAlone_L28 (f_Mo_look D') N) g (nI k) (nI kd) (nI b) = _
  unfold f_Mo_lookAlone_28
  rw [if_neg (mt (zc_tl (k := 0) (by decide) (by omega)).mp (by omega)), if_pos J2, e, Option.bind_some, if_pos (zi_in (by omega) hb), nI_clamp (by omega)]
theorem zv_uC {N : Nat} {x1 x2 x4 : Int32} {R : zs_H → Int32 → Int32 → Option zs_H} (x : Int32) : f_Jd_visit_L26 R (N + 1) h x1 x2 x x4 = f_Jd_visit_26 R (f_Jd_visit_L26 R N) h x1 x2 x x4 := rfl
theorem zv_uM {N : Nat} {x1 x2 : Int32} {R : zs_H → Int32 → Option zs_H} (x : Int32) : f_Mo_lookAlone_L28 R (N + 1) g x1 x2 x = f_Mo_lookAlone_28 R (f_Mo_lookAlone_L28 R N) g x1 x2 x := rfl
theorem zv_enC {N : Nat} {x1 x2 x4 : Int32} {R : zs_H → Int32 → Int32 → Option zs_H} : f_Jd_visit_L26 R (N + 1) h x1 x2 (-1) x4 = f_Jd_visit_74 h x1 := by
  rw [zv_uC]
  unfold f_Jd_visit_26
  rw [if_pos rfl, ite_self]
theorem zv_enM {N : Nat} {x1 x2 : Int32} {R : zs_H → Int32 → Option zs_H} : f_Mo_lookAlone_L28 R (N + 1) g x1 x2 (-1) = f_Mo_lookAlone_54 g x1 x2 := by
  rw [zv_uM]
  unfold f_Mo_lookAlone_28
  rw [if_pos (by decide)]
theorem zv_vC {h1 : zs_H} (hd : d ≤ 240) (hi : i < 32784) (hen : f_Jd_enter h (nI i) = some h1) : f_Jd_visit (D + 1) h (nI i) (nI d) = f_Jd_visit_L26 (f_Jd_visit D) zF h1 (nI i) (nI d) ((h1.2.1 17) i) (nI 0) := by
  show g_Jd_visit (f_Jd_visit D) h (nI i) (nI d) = _
  unfold g_Jd_visit
  rw [if_pos ((zc_el (k := 240) (by decide) (by omega)).mpr hd), hen, Option.bind_some, if_pos (zi_in (by omega) hi), nI_clamp (by omega)]
  rfl
theorem zv_aM (hk : k < 33500) (hkd : kd < 100) (hkb : kd = 0 ∨ 4 ≤ kd) (m1 : (g.2.1 72) k = nI kd) : f_Mo_lookAlone (D' + 1) g (nI k) = f_Mo_lookAlone_L28 (f_Mo_look D') zF g (nI k) (nI kd) ((g.2.1 76) k) := by
  show g_Mo_lookAlone (f_Mo_look D') g (nI k) = _
  unfold g_Mo_lookAlone f_Mo_lookAlone_21
  simp only [if_pos (zi_in (show k < 2147483648 by omega) hk), nI_clamp (show k < 2147483648 by omega), m1]
  rcases hkb with z | z
  · rw [if_pos ((zc_el (k := 0) (by decide) (by omega)).mpr (by omega))]
  · rw [if_neg (mt (zc_el (k := 0) (by decide) (by omega)).mp (by omega)), if_pos ((zc_le (k := 4) (by decide) (by omega)).mpr z)]
theorem zv_uL2 {N : Nat} {R A : zs_H → Int32 → Option zs_H} {x1 : Int32} (x : Int32) : f_Mo_look_L2 R A (N + 1) g x1 x = f_Mo_look_2 R A (f_Mo_look_L2 R A N) g x1 x := rfl
theorem zv_uL28 {N : Nat} {R : zs_H → Int32 → Option zs_H} {x1 : Int32} (x : Int32) : f_Mo_look_L28 R (N + 1) g x1 x = f_Mo_look_28 R (f_Mo_look_L28 R N) g x1 x := rfl
theorem zv_lM (hk : k < 33500) (hkd : kd < 100) (h35 : ¬ kd = 35) (m1 : (g.2.1 72) k = nI kd) : f_Mo_look (D' + 2) g (nI k) = f_Mo_lookAlone (D' + 1) g (nI k) := by
  show f_Mo_look_L2 (f_Mo_look (D' + 1)) (f_Mo_lookAlone (D' + 1)) zF g (nI k) (nI k) = _
  rw [show zF = 18446744073709551615 + 1 from rfl, zv_uL2]
  unfold f_Mo_look_2
  rw [if_pos (zi_in (by omega) hk), nI_clamp (by omega), m1, if_neg (fun z => h35 ((zc_eq (k := 35) (by decide) (by omega)).mp z))]
  have : ∀ g2 : zs_H, f_Mo_look_L28 (f_Mo_look (D' + 1)) zF g2 (nI k) (nI k) = some g2 := by
    intro g2
    rw [show zF = 18446744073709551615 + 1 from rfl, zv_uL28]
    unfold f_Mo_look_28
    rw [if_pos rfl]
  rw [show (fun h4 => f_Mo_look_L28 (f_Mo_look (D' + 1)) zF h4 (nI k) (nI k)) = some from funext this, show (some : zs_H → Option zs_H) = fun x => some x from rfl, Option.bind_fun_some]
/-- an array's type: two constants and a type -/
theorem zv_vArray {LC LM : List (List Int32)} {nb nf ns i1 i2 i3 k1 k2 k3 a1 a2 : Nat} {F : Nat → Nat} {q v1 v2 v3 p : Int32} (I : zv_I LC LM nb nf ns F q h g) (hd : d < 240) (hb : 0 < nb) (hsz : 3 ≤ sz) (hsz2 : sz < 100000) (es : (h.1 12 6) = nI sz) (hi : i < 32784) (hk : k < 33500) (hi1 : i1 < 32784) (hi2 : i2 < 32784) (hi3 : i3 < 32784) (hk1 : k1 < 33500) (hk2 : k2 < 33500) (hk3 : k3 < 33500) (hn : ¬ i2 = i1 ∧ ¬ i3 = i1 ∧ ¬ i3 = i2) (ha1 : a1 = 30 ∨ a1 = 31) (ha2 : a2 = 30 ∨ a2 = 31)
    (c0 : (h.2.1 13) i = 9) (c1 : (h.2.1 17) i = nI i1) (n1 : (h.2.1 18) i1 = nI i2) (n2 : (h.2.1 18) i2 = nI i3) (n3 : (h.2.1 18) i3 = -1) (d1 : (h.2.1 13) i1 = nI a1) (d2 : (h.2.1 13) i2 = nI a2) (d3 : (h.2.1 13) i3 = 8) (f1 : (h.2.1 17) i1 = -1) (f2 : (h.2.1 17) i2 = -1) (f3 : (h.2.1 17) i3 = -1) (w1 : (h.2.1 16) i1 = v1) (w2 : (h.2.1 16) i2 = v2) (t1 : (h.2.1 14) i1 = 0) (t2 : (h.2.1 14) i2 = 0) (cp : (h.2.1 15) i = p)
    (m0 : (g.2.1 72) k = 9) (m1 : (g.2.1 76) k = nI k1) (b1 : (g.2.1 78) k1 = nI k2) (b2 : (g.2.1 78) k2 = nI k3) (b3 : (g.2.1 78) k3 = -1) (e1 : (g.2.1 72) k1 = nI a1) (e2 : (g.2.1 72) k2 = nI a2) (e3 : (g.2.1 72) k3 = 8) (g1 : (g.2.1 76) k1 = -1) (g2 : (g.2.1 76) k2 = -1) (g3 : (g.2.1 76) k3 = -1) (u1 : (g.2.1 74) k1 = v1) (u2 : (g.2.1 74) k2 = v2) (u3 : (g.2.1 74) k3 = v3) (mp : (g.2.1 73) k = p) :
    ∃ h' g', f_Jd_visit (D + 2) h (nI i) (nI d) = some h' ∧ f_Mo_look (D' + 4) g (nI k) = some g' ∧ zfr zv_cf (14 :: zv_cm) [] h h' ∧ zfr zv_mf zv_mm [] g g' ∧ (∀ j, ¬ j = i1 → ¬ j = i2 → (h'.2.1 14) j = (h.2.1 14) j) ∧ (∀ j, ¬ j = k1 → ¬ j = k2 → ¬ j = k3 → (g'.2.1 100) j = (g.2.1 100) j) ∧ g'.2.1 101 = g.2.1 101 ∧ g'.2.1 102 = g.2.1 102 ∧
      ((∃ φ, zv_X φ p h' g') ∨ (zv_I LC LM nb nf ns F q h' g' ∧ zfr [] [14] [] h h' ∧ zfr [] [100] [] g g' ∧ ¬ a1 = 31 ∧ ¬ a2 = 31 ∧ ¬ v2.toInt64 - v1.toInt64 < 0 ∧ v2.toInt64 - v1.toInt64 ≤ 255)) := by
  have J1 : (h.1 38 3) = 0 := I.2.2.2.2.2.2.2.1
  have J2 : (g.1 68 29) = 0 := I.2.2.2.2.2.2.2.2
  obtain ⟨h1, x1, y1, y2, y3, y4, y5, y6, y7, y8⟩ := zv_const (D := D) (D' := D') (d := d + 1) (by omega) hi1 hk1 ha1 d1 f1 w1 t1 e1 g1 u1 J1 J2
  have A1 : ∀ z, ¬ z = 14 → h1.2.1 z = h.2.1 z := fun z hz => y7.2.1 z (by simpa using hz)
  have M1 : ∀ z, ¬ z = 100 → x1.2.1 z = g.2.1 z := fun z hz => y8.2.1 z (by simpa using hz)
  have j1 : (h1.1 38 3) = 0 := (y7.1 _ _ List.not_mem_nil).trans J1
  have j2 : (x1.1 68 29) = 0 := (y8.1 _ _ List.not_mem_nil).trans J2
  obtain ⟨h2, x2, z1, z2, z3, z4, z5, z6, z7, z8⟩ := zv_const (D := D) (D' := D') (d := d + 1) (h := h1) (g := x1) (v := v2) (by omega) hi2 hk2 ha2 (by rw [A1 13 (by decide)]; exact d2) (by rw [A1 17 (by decide)]; exact f2) (by rw [A1 16 (by decide)]; exact w2) (by rw [y5 i2 hn.1]; exact t2) (by rw [M1 72 (by decide)]; exact e2) (by rw [M1 76 (by decide)]; exact g2) (by rw [M1 74 (by decide)]; exact u2) j1 j2
  have A2 : ∀ z, ¬ z = 14 → h2.2.1 z = h.2.1 z := fun z hz => (z7.2.1 z (by simpa using hz)).trans (A1 z hz)
  have M2 : ∀ z, ¬ z = 100 → x2.2.1 z = g.2.1 z := fun z hz => (z8.2.1 z (by simpa using hz)).trans (M1 z hz)
  have F2 : zfr [] [14] [] h h2 := zfr_trans y7 z7
  have G2 : zfr [] [100] [] g x2 := zfr_trans y8 z8
  have l1 : (h2.1 38 3) = 0 := (F2.1 _ _ List.not_mem_nil).trans J1
  have l2 : (x2.1 68 29) = 0 := (G2.1 _ _ List.not_mem_nil).trans J2
  obtain ⟨q1, q2⟩ := zv_vType (D := D) (D' := D') (d := d + 1) (h := h2) (g := x2) (v := v3) (by omega) hi3 hk3 l1 l2 (by rw [A2 13 (by decide)]; exact d3) (by rw [A2 17 (by decide)]; exact f3) (by rw [M2 72 (by decide)]; exact e3) (by rw [M2 76 (by decide)]; exact g3) (by rw [M2 74 (by decide)]; exact u3)
  obtain ⟨x3, hx3⟩ : ∃ x3, x3 = zs_uM x2 100 k3 v3 := ⟨_, rfl⟩
  rw [← hx3] at q2
  have G3 : zfr [] [100] [] g x3 := by rw [hx3]; exact zfr_M (by decide) G2
  have M3 : ∀ z, ¬ z = 100 → x3.2.1 z = g.2.1 z := fun z hz => G3.2.1 z (by simpa using hz)
  have l3 : (x3.1 68 29) = 0 := (G3.1 _ _ List.not_mem_nil).trans J2
  have eC : f_Jd_visit (D + 2) h (nI i) (nI d) = f_Jd_judgeArray h2 (nI i) := by
    rw [zv_vC (D := D + 1) (by omega) hi (zv_ent0 hi (by decide) c0 (by decide)), c1, show zF = 18446744073709551612 + 1 + 1 + 1 + 1 from rfl, zv_stC (sz := sz) (by omega) hsz2 hi1 J1 es y1, A1 18 (by decide), n1, zv_stC (sz := sz) (by omega) hsz2 hi2 j1 ((y7.1 _ _ List.not_mem_nil).trans es) z1, A2 18 (by decide), n2, zv_stC (sz := sz) (by omega) hsz2 hi3 l1 ((F2.1 _ _ List.not_mem_nil).trans es) q1, A2 18 (by decide), n3, zv_enC]
    unfold f_Jd_visit_74
    rw [if_pos l1, Option.bind_fun_some, zv_lv9 hi (by rw [A2 13 (by decide)]; exact c0)]
  have eM : f_Mo_look (D' + 4) g (nI k) = f_Mo_lookAtBlocks x3 (nI k) := by
    rw [zv_lM (D' := D' + 2) (kd := 9) hk (by decide) (by decide) m0, zv_aM (D' := D' + 2) (kd := 9) hk (by decide) (by decide) m0, m1, show zF = 18446744073709551612 + 1 + 1 + 1 + 1 from rfl, zv_stM hk1 J2 y2, M1 78 (by decide), b1, zv_stM hk2 j2 z2, M2 78 (by decide), b2, zv_stM hk3 l2 q2, M3 78 (by decide), b3, zv_enM, zv_54B (by decide) l3]
  have I2 : zv_I LC LM nb nf ns F q h2 x3 := zv_Ifr I (zfr_w F2 (by decide) (by decide) (by decide)) (zfr_w G3 (by decide) (by decide) (by decide))
  obtain ⟨h', g', r1, r2, r3⟩ := zv_array (v1 := v1) (v2 := v2) I2 hb hi hk hi1 hi2 hk1 hk2 (show a1 < 100 by omega) (show a2 < 100 by omega) (by rw [A2 17 (by decide)]; exact c1) (by rw [A2 18 (by decide)]; exact n1) (by rw [A2 13 (by decide)]; exact d1) (by rw [A2 13 (by decide)]; exact d2) (by rw [A2 16 (by decide)]; exact w1) (by rw [A2 16 (by decide)]; exact w2) (by rw [M3 72 (by decide)]; exact m0) (by rw [M3 76 (by decide)]; exact m1) (by rw [M3 78 (by decide)]; exact b1) (by rw [M3 72 (by decide)]; exact e1) (by rw [M3 72 (by decide)]; exact e2) (by rw [M3 74 (by decide)]; exact u1) (by rw [M3 74 (by decide)]; exact u2)
  have ty2 : ∀ j, ¬ j = i1 → ¬ j = i2 → (h2.2.1 14) j = (h.2.1 14) j := fun j n1 n2 => (z5 j n2).trans (y5 j n1)
  have ty3 : ∀ j, ¬ j = k1 → ¬ j = k2 → ¬ j = k3 → (x3.2.1 100) j = (g.2.1 100) j := fun j n1 n2 n3 => by
    rw [hx3, zu_MM, if_neg (fun u => n3 u.2)]; exact (z6 j n2).trans (y6 j n1)
  have FF : zfr zv_cf (14 :: zv_cm) [] h h2 := zfr_w F2 (by decide) (by decide) (by decide)
  have GG : zfr zv_mf zv_mm [] g x3 := zfr_w G3 (by decide) (by decide) (by decide)
  rcases r3 with ⟨s1, s2, s3, s4, s5, s6⟩ | Y
  · subst s1; subst s2
    exact ⟨h', g', by rw [eC, r1], by rw [eM, r2], FF, GG, ty2, ty3, M3 101 (by decide), M3 102 (by decide), .inr ⟨I2, F2, G3, s3, s4, s5, s6⟩⟩
  · obtain ⟨Y1, Y2, Y3⟩ := zv_YX Y (by decide) (by decide) (show (h2.2.1 15) i = p by rw [A2 15 (by decide)]; exact cp) (show (x3.2.1 73) k = p by rw [M3 73 (by decide)]; exact mp)
    obtain ⟨o1, o2⟩ := Y
    refine ⟨h', g', by rw [eC, r1], by rw [eM, r2], zfr_trans FF (zfr_w Y2 (fun x hx => hx) (by decide) (by decide)), zfr_trans GG Y3, fun j n1 n2 => ?_, fun j n1 n2 n3 => ?_, ?_, ?_, .inl ⟨16, Y1⟩⟩
    · rw [o1]; exact ty2 j n1 n2
    · rw [o2]; exact ty3 j n1 n2 n3
    · rw [o2]; exact M3 101 (by decide)
    · rw [o2]; exact M3 102 (by decide)
end ZVA
end
section
/-! The judge: a declaration's type, when its children have been looked at. -/
theorem zv_bof {LC LM : List (List Int32)} {nb nf ns c B : Nat} {F : Nat → Nat} {q w : Int32} {h g : zs_H} (I : zv_I LC LM nb nf ns F q h g) (hb : 0 < nb) (hw : zt_nr LC LM (nI c) w) (hc : c < 6000) (e : (h.2.1 36) c = nI B) (hB : B < 8 + nb) : f_Mo_blockOf g w = some (nI (if B < 9 then 100000 + B else B - 9)) := by
  have hbl := zv_blk I hb hw hc
  obtain ⟨_, _, _, _, _, k5, k6⟩ := zv_cur I hb
  unfold f_Mo_blockOf
  rcases hbl with ⟨x1, x2, x3, x4, x5, x6⟩ | ⟨b, kd', x1, x2, x3, x4, x5, x6, x7⟩ | ⟨x1, x2, x3⟩
  · have eB : B = c - 41 := (nI_eq (by omega) (by omega)).mp (e.symm.trans x3)
    rw [x4, Option.bind_some, if_neg (mt (zc_tl (k := 0) (by decide) (by omega)).mp (by omega)), if_pos (by omega), show (100000 : Int32) + nI (c - 41) = nI (100000 + (c - 41)) from zc_da 100000 _, eB]
  · have eB : B = 9 + b := (nI_eq (by omega) (by omega)).mp (e.symm.trans x2)
    rw [x3, Option.bind_some, if_pos (by decide), k5, x4, Option.bind_some, if_neg (by omega), eB, show 9 + b - 9 = b by omega]
  · rcases x1 with x1 | x1
    · rw [e] at x1; exact absurd x1 (zc_m1 (by omega))
    · have := (nI_eq (by omega) (by omega)).mp (e.symm.trans x1); omega
def zv_arr (lt : zt_T) : Prop := ∃ (a1 a2 : Nat) (kv1 kv2 kv3 : Int32 × Int32) (l1 l2 l3 : zt_T), lt = .inner a1 kv1 () l1 (.inner a2 kv2 () l2 (.inner 8 kv3 () l3 .leaf)) ∧ ¬ kv2.2.toInt64 - kv1.2.toInt64 < 0 ∧ kv2.2.toInt64 - kv1.2.toInt64 ≤ 255 ∧ (a1 = 30 ∧ a2 = 30)
def zv_Ph (nb : Nat) (h1 : zs_H) (f : Nat) (kvt : Int32 × Int32) (lt : zt_T) : Prop := (f = 9 → zv_arr lt) ∧ (f = 10 → ∃ c B : Nat, kvt.2 = nI c ∧ c < 6000 ∧ B < 8 + nb ∧ (h1.2.1 36) c = nI B ∧ (9 ≤ B → (h1.2.1 21) B = 2)) ∧ (f = 10 → ¬ (h1.2.1 21) (8 + nb) = 1)
theorem zv_mkTY {LC LM : List (List Int32)} {nb nf ns : Nat} {F : Nat → Nat} {q : Int32} {h1 h g : zs_H} {P Q : Nat → Prop} {pl cn cm v : Int32} {it kt f ic km kc : Nat} {kvt : Int32 × Int32} {lt : zt_T} (I : zv_I LC LM nb nf ns F q h g) (hb : 0 < nb) (hP : ∀ i, P i → i < 32784) (hQ : ∀ i, Q i → i < 33500) (e36 : h.2.1 36 = h1.2.1 36) (e21 : h.2.1 21 = h1.2.1 21) (DP : zv_DP LC LM h g P Q pl cn cm it kt f ic km kc v kvt lt) (Ph : zv_Ph nb h1 f kvt lt) : ∃ t of, t < 3 ∧ zv_TY nb f t it kt of h g := by
  obtain ⟨⟨D1, D2, D3⟩, ⟨D4, D5, D6, D7⟩, ⟨P1, Q1, z, D8, D9, D10, D11⟩, ⟨D12, D13, D14⟩, _⟩ := DP
  rcases D3 with e | e | e
  · subst e
    rcases D13 with z | ⟨x, x1, x2, _⟩
    · exact absurd z (by decide)
    · rw [if_neg (by decide)] at D7
      exact ⟨x, nI x, x1, .inl ⟨rfl, D6.trans x2, D7.trans x2, rfl⟩⟩
  · subst e
    obtain ⟨a1, a2, kv1, kv2, kv3, l1, l2, l3, el, r1, r2, r3, r4⟩ := Ph.1 rfl
    subst el; subst r3; subst r4
    obtain ⟨i1, A1, A2, _, _, ei1, _, p1, _, _, w1, _, q1, _, c2, _⟩ := zv_hC D8
    obtain ⟨i2, A3, A4, _, _, ei2, _, p2, _, _, w2, _, q2, _, c3, _⟩ := zv_hC c2
    obtain ⟨i3, A5, A6, _, _, ei3, _, p3, _, _, w3, _⟩ := zv_hC c3
    obtain ⟨k1, U1, U2, y1, ek1, _, s1, _, _, v1, _, _, t1, _, d2, f1⟩ := zv_hM D9
    obtain ⟨k2, U3, U4, y2, ek2, _, s2, _, _, v2, _, _, t2, _, d3, f2⟩ := zv_hM d2
    obtain ⟨k3, U5, U6, y3, ek3, _, s3, _, _, v3, _, _, t3, _, d4, f3⟩ := zv_hM d3
    rw [if_neg (by decide)] at v1 v2 v3
    obtain ⟨_, ey3⟩ := (show (g.2.1 78) k3 = -1 ∧ y3 = -1 from d4)
    have b1 := hP i1 (D10 _ p1)
    have b2 := hP i2 (D10 _ (q1 _ p2).1)
    have b3 := hP i3 (D10 _ (q1 _ (q2 _ p3).1).1)
    have b4 := hQ k1 (D11 _ s1)
    have b5 := hQ k2 (D11 _ (t1 _ s2).1)
    have b6 := hQ k3 (D11 _ (t1 _ (t2 _ s3).1).1)
    rw [if_pos ey3, ek3] at f3
    rw [f3, if_neg (zc_m1 (by omega))] at f2
    rw [f2, if_neg (zc_m1 (by omega))] at f1
    rcases D14.2.2.2.2.1.2 with z | ⟨x, x1, x2, _⟩
    · exact absurd z (by decide)
    · exact ⟨x, nI x, x1, .inr (.inl ⟨rfl, rfl, i1, i2, i3, k1, k2, k3, kv1.2, kv2.2, ⟨b1, b2, b3, b4, b5, b6⟩, ⟨ei1, ei2, ei3, w1, w2, w3.trans x2⟩, ⟨ek1, ek2, f1, v1, v2, v3.trans x2⟩, r1, r2⟩)⟩
  · subst e
    obtain ⟨c, B, x1, x2, x3, x4, x5⟩ := Ph.2.1 rfl
    rw [if_pos rfl, x1] at D7
    exact ⟨0, _, by omega, .inr (.inr ⟨rfl, rfl, c, B, _, x2, x3, D6.trans x1, rfl, by rw [e36]; exact x4, fun z => by rw [e21]; exact x5 z, zv_bof I hb D7 x2 (by rw [e36]; exact x4) x3, rfl⟩)⟩
end
section
/-! The judge: the walk through a declaration's children. -/
theorem zv_A99 (kd : Nat) : zg_A kd 99 = false := by
  have key : ∀ r ∈ [(0, 0), (1, 2), (2, 2), (3, 2), (4, 0), (5, 3), (5, 4), (6, 0), (7, 0), (8, 0), (9, 3), (10, 0), (11, 0), (12, 2), (13, 0), (14, 1), (15, 2), (15, 3), (16, 1), (16, 2), (17, 2), (18, 1), (18, 2), (19, 4), (20, 0), (21, 0), (22, 0), (23, 1), (24, 1), (25, 1), (26, 0), (27, 0), (28, 1), (29, 0), (30, 0), (31, 0), (32, 1), (33, 1), (34, 0), (35, 2), (36, 1), (37, 0), (38, 0)], ¬ r.2 = 99 := by decide +kernel
  cases e : zg_A kd 99 with
  | false => rfl
  | true =>
    unfold zg_A at e
    rw [List.elem_eq_mem, decide_eq_true_eq] at e
    exact absurd rfl (key _ e)
/-- kinds that have no children -/
theorem zv_nolf {kd : Nat} {l : zt_T} (hk : ∀ r ∈ zg_R, ¬ r.1 = kd) (h : zg_A kd (zg_run kd 0 l) = true) : l = .leaf := by
  cases l with
  | leaf => rfl
  | inner c kv o l r =>
    exfalso
    have e : zg_q kd 0 c = 99 := Classical.byContradiction fun z => by
      obtain ⟨cs, to, m, _⟩ := zv_qR z
      exact hk _ m rfl
    have : zg_run kd 0 (.inner c kv o l r) = 99 := by show zg_run kd (zg_q kd 0 c) r = 99; rw [e]; exact zv_q99 kd r
    rw [this, zv_A99] at h
    exact absurd h (by decide)
/-- what a walk leaves as it was -/
def zv_fr (P Q : Nat → Prop) (h1 g1 h g : zs_H) : Prop := zfr zv_cf (14 :: zv_cm) [] h1 h ∧ zfr zv_mf zv_mm [] g1 g ∧ (∀ j, ¬ P j → (h.2.1 14) j = (h1.2.1 14) j) ∧ (∀ j, ¬ Q j → (g.2.1 100) j = (g1.2.1 100) j ∧ (g.2.1 101) j = (g1.2.1 101) j ∧ (g.2.1 102) j = (g1.2.1 102) j)
theorem zv_fr0 {P Q : Nat → Prop} {h g : zs_H} : zv_fr P Q h g h g := ⟨zfr_rfl, zfr_rfl, fun _ _ => rfl, fun _ _ => ⟨rfl, rfl, rfl⟩⟩
theorem zv_frt {P Q P' Q' : Nat → Prop} {h1 g1 h2 g2 h g : zs_H} (a : zv_fr P' Q' h1 g1 h2 g2) (b : zv_fr P Q h2 g2 h g) (hP : ∀ j, P' j → P j) (hQ : ∀ j, Q' j → Q j) : zv_fr P Q h1 g1 h g := by
  obtain ⟨a1, a2, a3, a4⟩ := a
  obtain ⟨b1, b2, b3, b4⟩ := b
  exact ⟨zfr_trans a1 b1, zfr_trans a2 b2, fun j hj => (b3 j hj).trans (a3 j fun z => hj (hP j z)), fun j hj => ⟨(b4 j hj).1.trans (a4 j fun z => hj (hQ j z)).1, (b4 j hj).2.1.trans (a4 j fun z => hj (hQ j z)).2.1, (b4 j hj).2.2.trans (a4 j fun z => hj (hQ j z)).2.2⟩⟩
/-- old variables stay, new ones are of this section -/
def zv_v8 (h h' : zs_H) (j : Nat) : Prop := (h'.2.1 28) j = (h.2.1 28) j ∧ (h'.2.1 29) j = (h.2.1 29) j ∧ zv_v6 h h' j
def zv_vo (h1 h : zs_H) : Prop := ∃ n m, (h1.1 20 18) = nI n ∧ (h.1 20 18) = nI m ∧ n ≤ m ∧ m ≤ 5932 ∧ (∀ j, j < n → zv_v8 h1 h j) ∧ (∀ j, n ≤ j → j < m → (h.2.1 29) j = (h1.1 38 5))
theorem zv_vo0 {h : zs_H} {n : Nat} (e : (h.1 20 18) = nI n) (hn : n ≤ 5932) : zv_vo h h := ⟨n, n, e, e, Nat.le_refl _, hn, fun _ _ => ⟨rfl, rfl, rfl, rfl, rfl, rfl, rfl, rfl⟩, fun j h1 h2 => by omega⟩
theorem zv_vof {fs : List (Nat × Nat)} {ms : List Nat} {h1 h h' : zs_H} (a : zv_vo h1 h) (f : zfr fs ms [] h h') (d1 : ¬ (20, 18) ∈ fs) (d2 : ∀ z ∈ [28, 29, 30, 31, 32, 33, 34, 35], ¬ z ∈ ms) : zv_vo h1 h' := by
  obtain ⟨n, m, e1, e2, e3, e4, e5, e6⟩ := a
  have E : ∀ z ∈ [28, 29, 30, 31, 32, 33, 34, 35], h'.2.1 z = h.2.1 z := fun z hz => f.2.1 z (d2 z hz)
  refine ⟨n, m, e1, (f.1 _ _ d1).trans e2, e3, e4, fun j hj => ?_, fun j h1 h2 => ?_⟩
  · obtain ⟨a1, a2, a3, a4, a5, a6, a7, a8⟩ := e5 j hj
    refine ⟨?_, ?_, ?_, ?_, ?_, ?_, ?_, ?_⟩
    · rw [E 28 (by decide)]; exact a1
    · rw [E 29 (by decide)]; exact a2
    · rw [E 30 (by decide)]; exact a3
    · rw [E 31 (by decide)]; exact a4
    · rw [E 32 (by decide)]; exact a5
    · rw [E 33 (by decide)]; exact a6
    · rw [E 34 (by decide)]; exact a7
    · rw [E 35 (by decide)]; exact a8
  · rw [E 29 (by decide)]; exact e6 j h1 h2
/-- a name is declared: what becomes of the variables -/
theorem zv_von {h1 h h' : zs_H} {i b nv ci : Nat} (a : zv_vo h1 h) (hi : i < 32784) (Hb : (h.1 20 17) = nI (b + 1)) (hb : b ≤ 628) (Hv : (h.1 20 18) = nI nv) (hv : nv < 5932) (hc : ci < 6000) (c1 : (h.2.1 16) i = nI ci) (c2 : (h.1 38 5) = (h1.1 38 5)) (J1 : (h.1 38 3) = 0) (J2 : (h'.1 38 3) = 0) (e : f_Jd_declareName h (nI i) = some h') : zv_vo h1 h' := by
  obtain ⟨n, m, e1, e2, e3, e4, e5, e6⟩ := a
  have em : m = nv := by rw [e2] at Hv; exact (nI_eq (by omega) (by omega)).mp Hv
  subst em
  obtain ⟨h2, w1, w2, w3, w4, w5, w6, w7, w8, w9, w10, _⟩ := zj_add (sc := (h.1 38 5)) Hb hb Hv (by omega) hc
  have no : ∀ x, f_Jd_declareName_47 h (nI i) x 1 = some h' → False := by
    intro x z
    unfold f_Jd_declareName_47 at z
    rw [if_neg (by decide), show (12 : Int32) = nI 12 from rfl, zv_refu J1 hi, Option.bind_some] at z
    have z' := Option.some.inj z
    rw [← z'] at J2
    exact absurd J2 (by show ¬ nI 12 = 0; decide)
  have eh : h' = h2 := by
    unfold f_Jd_declareName f_Jd_declareName_42 at e
    rw [if_pos (zi_in (by omega) hi), nI_clamp (by omega), c1] at e
    cases q : f_Pl_variableHere h (nI ci) with
    | none => rw [q] at e; cases e
    | some v =>
      rw [q, Option.bind_some] at e
      split at e
      · split at e
        · split at e
          · split at e
            · unfold f_Jd_declareName_47 at e
              rw [if_pos rfl, w1] at e
              exact (Option.some.inj e).symm
            · exact (no _ e).elim
          · exact (no _ e).elim
        · cases e
      · exact (no _ e).elim
  subst eh
  refine ⟨n, m + 1, e1, w2, by omega, by omega, fun j hj => ?_, fun j j1 j2 => ?_⟩
  · have nj : ¬ j = m := by omega
    obtain ⟨a1, a2, a3, a4, a5, a6, a7, a8⟩ := e5 j hj
    refine ⟨?_, ?_, ?_, ?_, ?_, ?_, ?_, ?_⟩
    · rw [w3, if_neg nj]; exact a1
    · rw [w4, if_neg nj]; exact a2
    · rw [w5, if_neg nj]; exact a3
    · rw [w6, if_neg nj]; exact a4
    · rw [w7, if_neg nj]; exact a5
    · rw [w8, if_neg nj]; exact a6
    · rw [w9, if_neg nj]; exact a7
    · rw [w10, if_neg nj]; exact a8
  · by_cases ej : j = m
    · rw [w4, if_pos ej]; exact c2
    · rw [w4, if_neg ej]; exact e6 j j1 (by omega)
/-- what stays all through a declaration's children -/
def zv_dk (h1 g1 h g : zs_H) : Prop := (h.2.1 21 = h1.2.1 21 ∧ (h.2.1 22 = h1.2.1 22 ∧ h.2.1 26 = h1.2.1 26 ∧ h.2.1 27 = h1.2.1 27) ∧ h.2.1 25 = h1.2.1 25 ∧ h.2.1 36 = h1.2.1 36 ∧ h.2.1 39 = h1.2.1 39) ∧ ((h.1 38 10) = (h1.1 38 10) ∧ (h.1 38 12) = (h1.1 38 12) ∧ (h.1 38 5) = (h1.1 38 5) ∧ (h.1 38 6) = (h1.1 38 6)) ∧ g.2.1 84 = g1.2.1 84 ∧ zv_vo h1 h
theorem zv_CM {LC LM : List (List Int32)} {P Q : Nat → Prop} {h1 g1 h g : zs_H} (fr : zv_fr P Q h1 g1 h g) {u : zt_T} {Pu Qu : Nat → Prop} {up x y x' y' : Int32} (hC : zt_C h1 u Pu x y) (hM : zt_M LC LM g1 u Qu up x' y') : zt_C h u Pu x y ∧ zt_M LC LM g u Qu up x' y' := by
  obtain ⟨a1, a2, _, _⟩ := fr
  have e13 : h.2.1 13 = h1.2.1 13 := a1.2.1 _ (by decide)
  have e15 : h.2.1 15 = h1.2.1 15 := a1.2.1 _ (by decide)
  have e16 : h.2.1 16 = h1.2.1 16 := a1.2.1 _ (by decide)
  have e17 : h.2.1 17 = h1.2.1 17 := a1.2.1 _ (by decide)
  have e18 : h.2.1 18 = h1.2.1 18 := a1.2.1 _ (by decide)
  have f72 : g.2.1 72 = g1.2.1 72 := a2.2.1 _ (by decide)
  have f73 : g.2.1 73 = g1.2.1 73 := a2.2.1 _ (by decide)
  have f74 : g.2.1 74 = g1.2.1 74 := a2.2.1 _ (by decide)
  have f75 : g.2.1 75 = g1.2.1 75 := a2.2.1 _ (by decide)
  have f76 : g.2.1 76 = g1.2.1 76 := a2.2.1 _ (by decide)
  have f77 : g.2.1 77 = g1.2.1 77 := a2.2.1 _ (by decide)
  have f78 : g.2.1 78 = g1.2.1 78 := a2.2.1 _ (by decide)
  constructor
  · exact zt_fr u Pu Pu 0 x y (fun i _ => ⟨fun kd k up z hz => by unfold zt_NC at hz ⊢; rw [e13, e15, e16]; exact hz, by rw [e17], by rw [e18]⟩) (fun i hi => hi) hC
  · exact zt_fr u Qu Qu up x' y' (fun i _ => ⟨fun kd k up z hz => by unfold zt_NM at hz ⊢; rw [f72, f73, f74, f75, f77]; exact hz, by rw [f76], by rw [f78]⟩) (fun i hi => hi) hM
end
section
/-! The judge: the walk through a declaration: its state, and the names. -/
def zv_SD (LC LM : List (List Int32)) (nb nf ns k : Nat) (F : Nat → Nat) (l : zt_T) (P Q : Nat → Prop) (h1 g1 : zs_H) (u : zt_T) (h g : zs_H) (x x' : Int32) : Prop :=
  ∃ (st : Nat) (Pu Qu : Nat → Prop) (yy yy' : Int32) (F' : Nat → Nat) (q : Int32),
  (zt_C h u Pu x yy ∧ zt_M LC LM g u Qu (nI k) x' yy') ∧ ((∀ j, Pu j → P j) ∧ (∀ j, Qu j → Q j)) ∧ (zg_ok u ∧ ¬ zg_run 5 st u = 99 ∧ st ≤ 4 ∧ (st = 0 → F' nb = ns) ∧ (1 ≤ st → ns < F' nb)) ∧ zv_I LC LM nb nf ns F' q h g ∧ ((∀ j, ¬ j = nb → F' j = F j) ∧ F' nb + zv_nm u = ns + zv_nm l) ∧ (∀ j, Pu j → (h.2.1 14) j = 0) ∧ zv_fr P Q h1 g1 h g ∧ zv_dk h1 g1 h g ∧
  ((st ≤ 1 ∧ q = -1 ∧ zv_plc l = zv_plc u) ∨ (2 ≤ st ∧ zv_plc u = -1 ∧ q = zv_plc l ∧ (q = -1 ∨ ∃ p, p < 1536 ∧ (768 ≤ p → p % 256 < 64) ∧ q = nI p ∧ F' nb = ns + 1 ∧ (h1.2.1 21) (8 + nb) = 3))) ∧ (zv_tyok (zv_Ph nb h1) u → zv_tyok (zv_Ph nb h1) l) ∧
  (st = 1 → ∃ k6, k6 < 33500 ∧ (g1.2.1 76) k = nI k6 ∧ (F' nb = ns + 1 → (g1.2.1 78) k6 = x') ∧ (¬ F' nb = ns + 1 → ∃ b2, b2 < 33500 ∧ (g1.2.1 78) k6 = nI b2 ∧ (g1.2.1 72) b2 = 6)) ∧ (st = 0 → x' = (g1.2.1 76) k)
/-- a fault in a walk -/
def zv_Fb (h1 g1 h g : zs_H) : Prop := (∃ φ p, zv_X φ p h g) ∧ zfr zv_cf (13 :: 14 :: 16 :: 17 :: zv_cm) [] h1 h ∧ zfr zv_mf zv_mm [] g1 g
theorem zv_Xn {φ : Nat} {p : Int32} {h g : zs_H} (X : zv_X φ p h g) : ¬ (h.1 38 3) = 0 ∧ ¬ (g.1 68 29) = 0 := by
  obtain ⟨a, b, c, _, d, _⟩ := X
  rw [c, d]
  exact ⟨fun z => by have := (zc_eq (k := 0) (by decide) (by omega)).mp z; omega, fun z => by have := (zc_eq (k := 0) (by decide) (by omega)).mp z; omega⟩
theorem zv_sName {LC LM : List (List Int32)} {nb nf ns s sz k k4 d D D' : Nat} {F : Nat → Nat} {l : zt_T} {P Q : Nat → Prop} {h1 g1 : zs_H} (hP : ∀ j, P j → j < 32784) (hQ : ∀ j, Q j → j < 33500) (hb : 0 < nb) (hd : d < 240) (hN : ns + zv_nm l ≤ 5900) (hs : s < 3) (hk : k < 33500) (hk4 : k4 < 33500) (hsec : (h1.1 38 5) = nI s) (hsz : (h1.1 12 6) = nI sz) (m0 : (g1.2.1 72) k = 5) (m1 : (g1.2.1 75) k = nI k4) (m2 : (g1.2.1 74) k4 = nI s)
    {kv : Int32 × Int32} {o : Unit} {lc r : zt_T} {h g : zs_H} {x x' : Int32} (S : zv_SD LC LM nb nf ns k F l P Q h1 g1 (.inner 37 kv o lc r) h g x x') :
    ∃ a b, x = nI a ∧ a < 32784 ∧ x' = nI b ∧ b < 33500 ∧ (h.1 38 3) = 0 ∧ (g.1 68 29) = 0 ∧ (h.1 12 6) = nI sz ∧ ∃ h' g', f_Jd_visit (D + 1) h (nI a) (nI (d + 1)) = some h' ∧ f_Mo_look (D' + 2) g (nI b) = some g' ∧ ((zv_Fb h1 g1 h' g' ∧ ¬ (h'.1 38 3) = 0 ∧ ¬ (g'.1 68 29) = 0) ∨ zv_SD LC LM nb nf ns k F l P Q h1 g1 r h' g' ((h'.2.1 18) a) ((g'.2.1 78) b)) := by
  obtain ⟨st, Pu, Qu, yy, yy', F', q, ⟨sC, sM⟩, ⟨s1, s2⟩, ⟨s3, s4, s5, s6, s7⟩, I, ⟨s8, s9⟩, s10, s11, s12, s13, s14, s15, s16⟩ := S
  have s4' : ¬ zg_run 5 (zg_q 5 st 37) r = 99 := s4
  have h4 : ¬ zg_q 5 st 37 = 99 := fun z => s4' (by rw [z]; exact zv_q99 5 r)
  have hst : st ≤ 1 ∧ zg_q 5 st 37 = 1 := by
    rcases zv_q5 h4 with ⟨_, e, e'⟩ | ⟨e, _⟩ | ⟨e, _⟩ | ⟨e, _⟩
    · exact ⟨e, e'⟩
    · omega
    · omega
    · omega
  rw [hst.2] at s4'
  have en : zv_nm (.inner 37 kv o lc r) = 1 + zv_nm r := rfl
  rw [en] at s9
  have hq : q = -1 ∧ zv_plc l = zv_plc r := by
    rcases s13 with ⟨_, e1, e2⟩ | ⟨e, _⟩
    · exact ⟨e1, e2⟩
    · omega
  obtain ⟨hq1, hq2⟩ := hq
  subst hq1
  obtain ⟨a, P1, P2, z1, z2, ea, a1, a2, a3, a4, a5, a6, a7, a8, a9, a10⟩ := zv_hC sC
  obtain ⟨b, Q1, Q2, z3, eb, b1, b2, b3, b4, b5, b6, b7, b8, b9, b10, b11⟩ := zv_hM sM
  have el : lc = .leaf := zv_nolf (kd := 37) (by decide +kernel) s3.1.1
  subst el
  have c9 : (h.2.1 17) a = -1 := (show (h.2.1 17) a = -1 ∧ z1 = -1 from a8).1
  have m9 : (g.2.1 76) b = -1 := (show (g.2.1 76) b = -1 ∧ (g.2.1 77) b = -1 from b9).1
  rw [if_pos (by decide)] at b5
  obtain ⟨c, kk, w1, w2, w3, w4, w5, w6⟩ := id b5
  have hLC : LC.length < 6000 := I.1.2.2.1
  have ha := hP a (s1 a a2)
  have hbb := hQ b (s2 b b2)
  have J1 : (h.1 38 3) = 0 := I.2.2.2.2.2.2.2.1
  have J2 : (g.1 68 29) = 0 := I.2.2.2.2.2.2.2.2
  have gT : ∀ z, ¬ z ∈ zv_mm → g.2.1 z = g1.2.1 z := fun z hz => s11.2.1.2.1 z hz
  have hsz' : (h.1 12 6) = nI sz := (s11.1.1 _ _ (by decide)).trans hsz
  rw [w1] at b5
  obtain ⟨h', g', v1, v2, v3, v4, v5⟩ := zv_vName (D := D) (D' := D') (d := d + 1) I (by omega) hb (by omega) ha hbb hk hk4 b5 (by omega) hs a3 c9 (a5.trans w1) a4 (s12.2.1.2.2.1.trans hsec) b3 m9 rfl (b4 (by decide)) b6 (by rw [gT 75 (by decide)]; exact m1) (by rw [gT 74 (by decide)]; exact m2) (by rw [gT 72 (by decide)]; exact m0)
  refine ⟨a, b, ea, ha, eb, hbb, J1, J2, hsz', h', g', v1, v2, ?_⟩
  rcases v5 with ⟨φ, X⟩ | ⟨I', f1, f2⟩
  · left
    have xn := zv_Xn X
    exact ⟨⟨⟨φ, _, X⟩, zfr_trans (zfr_w s11.1 (fun _ z => z) (by decide) (by decide)) (zfr_w v3 (fun _ z => z) (by decide) (by decide)), zfr_trans s11.2.1 v4⟩, xn.1, xn.2⟩
  · right
    have fr : zv_fr P Q h g h' g' := ⟨zfr_w f1 (by decide) (by decide) (by decide), zfr_w f2 (by decide) (by decide) (by decide), fun j _ => by rw [f1.2.1 _ (by decide)], fun j _ => ⟨by rw [f2.2.1 _ (by decide)], by rw [f2.2.1 _ (by decide)], by rw [f2.2.1 _ (by decide)]⟩⟩
    obtain ⟨cC, cM⟩ := zv_CM fr a9 b10
    obtain ⟨⟨k1, k2, k3, k4', k5⟩, ⟨k6, k7, k8, k9⟩, k10, k11⟩ := s12
    have nx : (h'.2.1 18) a = (h.2.1 18) a := by rw [f1.2.1 _ (by decide)]
    have nb' : (g'.2.1 78) b = (g.2.1 78) b := by rw [f2.2.1 _ (by decide)]
    refine ⟨1, P2, Q2, z2, z3, _, -1, ⟨by rw [nx]; exact cC, by rw [nb']; exact cM⟩, ⟨fun j hj => s1 j (a7 j hj).1, fun j hj => s2 j (b8 j hj).1⟩, ⟨s3.2.2, s4', by omega, fun z => by omega, fun _ => ?_⟩, I', ⟨fun j hj => ?_, ?_⟩, fun j hj => ?_, zv_frt s11 fr (fun _ z => z) (fun _ z => z), ⟨⟨?_, ?_, ?_, ?_, ?_⟩, ⟨?_, ?_, ?_, ?_⟩, ?_, ?_⟩, .inl ⟨by omega, rfl, hq2⟩, fun z => s14 ⟨fun e => by omega, z⟩, fun _ => ?_, fun z => by omega⟩
    · show ns < (if nb = nb then F' nb + 1 else F' nb)
      rw [if_pos rfl]
      have := I.2.2.2.1.2.2.2.1
      omega
    · show (if j = nb then F' nb + 1 else F' j) = F j
      rw [if_neg hj]; exact s8 j hj
    · show (if nb = nb then F' nb + 1 else F' nb) + zv_nm r = ns + zv_nm l
      rw [if_pos rfl]; omega
    · rw [f1.2.1 _ (by decide)]; exact s10 j (a7 j hj).1
    · exact (f1.2.1 _ (by decide)).trans k1
    · exact ⟨(f1.2.1 _ (by decide)).trans k2.1, (f1.2.1 _ (by decide)).trans k2.2.1, (f1.2.1 _ (by decide)).trans k2.2.2⟩
    · exact (f1.2.1 _ (by decide)).trans k3
    · exact (f1.2.1 _ (by decide)).trans k4'
    · exact (f1.2.1 _ (by decide)).trans k5
    · exact (f1.1 _ _ (by decide)).trans k6
    · exact (f1.1 _ _ (by decide)).trans k7
    · exact (f1.1 _ _ (by decide)).trans k8
    · exact (f1.1 _ _ (by decide)).trans k9
    · exact (f2.2.1 _ (by decide)).trans k10
    · have ev := (zv_leaf (D := D) (D' := D') (d := d + 1) (kd := 37) (km := 6) (by omega) ha hbb (by decide) (by decide) (by decide) (by decide) a3 c9 (by decide) (by decide) (by decide) b3 m9 J1).1
      rw [ev, zv_lv37 ha a3] at v1
      exact zv_von (b := 8 + nb) (nv := 32 + F' nb) (ci := c) k11 ha (by rw [I.2.1.1.1]; exact congrArg nI (by omega)) (by have := I.2.1.1.2.2; omega) I.2.1.2.1.1 (by omega) (by omega) (a5.trans w1) k8 J1 I'.2.2.2.2.2.2.2.1 v1
    · have eb1 : (g.2.1 78) b = (g1.2.1 78) b := by rw [gT 78 (by decide)]
      have ek1 : (g1.2.1 72) b = 6 := by rw [← gT 72 (by decide)]; exact b3
      show ∃ k6, k6 < 33500 ∧ (g1.2.1 76) k = nI k6 ∧ ((if nb = nb then F' nb + 1 else F' nb) = ns + 1 → (g1.2.1 78) k6 = (g'.2.1 78) b) ∧ (¬ (if nb = nb then F' nb + 1 else F' nb) = ns + 1 → ∃ b2, b2 < 33500 ∧ (g1.2.1 78) k6 = nI b2 ∧ (g1.2.1 72) b2 = 6)
      rw [if_pos rfl, nb', eb1]
      by_cases e0 : st = 0
      · have := s6 e0
        exact ⟨b, hbb, by rw [← s16 e0]; exact eb, fun _ => rfl, fun z => by omega⟩
      · have e1 : st = 1 := by omega
        obtain ⟨k6, y1, y2, y3, y4⟩ := s15 e1
        have := s7 (by omega)
        refine ⟨k6, y1, y2, fun z => by omega, fun _ => ?_⟩
        by_cases e2 : F' nb = ns + 1
        · exact ⟨b, hbb, (y3 e2).trans eb, ek1⟩
        · exact y4 e2
end
section
/-! The judge: the walk through a declaration: place, type without children, constant. -/
section ZVW
variable {LC LM : List (List Int32)} {nb nf ns sz k d D D' : Nat} {F : Nat → Nat} {l : zt_T} {P Q : Nat → Prop} {h1 g1 : zs_H} {kv : Int32 × Int32} {o : Unit} {lc r : zt_T} {h g : zs_H} {x x' : Int32}
theorem zv_sPlace (hP : ∀ j, P j → j < 32784) (hQ : ∀ j, Q j → j < 33500) (hb : 0 < nb) (hd : d < 240) (hk : k < 33500) (hfd : (h1.1 38 6) = nI (32 + ns)) (hsz : (h1.1 12 6) = nI sz)
    (S : zv_SD LC LM nb nf ns k F l P Q h1 g1 (.inner 7 kv o lc r) h g x x') :
    ∃ a b, x = nI a ∧ a < 32784 ∧ x' = nI b ∧ b < 33500 ∧ (h.1 38 3) = 0 ∧ (g.1 68 29) = 0 ∧ (h.1 12 6) = nI sz ∧ ∃ h' g', f_Jd_visit (D + 1) h (nI a) (nI (d + 1)) = some h' ∧ f_Mo_look (D' + 2) g (nI b) = some g' ∧ ((zv_Fb h1 g1 h' g' ∧ ¬ (h'.1 38 3) = 0 ∧ ¬ (g'.1 68 29) = 0) ∨ zv_SD LC LM nb nf ns k F l P Q h1 g1 r h' g' ((h'.2.1 18) a) ((g'.2.1 78) b)) := by
  obtain ⟨st, Pu, Qu, yy, yy', F', q, ⟨sC, sM⟩, ⟨s1, s2⟩, ⟨s3, s4, s5, s6, s7⟩, I, ⟨s8, s9⟩, s10, s11, s12, s13, s14, s15, s16⟩ := S
  have s4' : ¬ zg_run 5 (zg_q 5 st 7) r = 99 := s4
  have h4 : ¬ zg_q 5 st 7 = 99 := fun z => s4' (by rw [z]; exact zv_q99 5 r)
  have hst : st = 1 ∧ zg_q 5 st 7 = 2 := by
    rcases zv_q5 h4 with ⟨e, _⟩ | ⟨_, e, e'⟩ | ⟨e, _⟩ | ⟨e, _⟩
    · omega
    · exact ⟨e, e'⟩
    · omega
    · omega
  rw [hst.2] at s4'
  have en : zv_nm (.inner 7 kv o lc r) = zv_nm r := by show 0 + zv_nm r = _; omega
  rw [en] at s9
  have hq : q = -1 ∧ zv_plc l = kv.2 := by
    rcases s13 with ⟨_, e1, e2⟩ | ⟨e, _⟩
    · exact ⟨e1, e2⟩
    · omega
  obtain ⟨hq1, hq2⟩ := hq
  subst hq1
  obtain ⟨a, P1, P2, z1, z2, ea, a1, a2, a3, a4, a5, a6, a7, a8, a9, a10⟩ := zv_hC sC
  obtain ⟨b, Q1, Q2, z3, eb, b1, b2, b3, b4, b5, b6, b7, b8, b9, b10, b11⟩ := zv_hM sM
  have el : lc = .leaf := zv_nolf (kd := 7) (by decide +kernel) s3.1.1
  subst el
  have c9 : (h.2.1 17) a = -1 := (show (h.2.1 17) a = -1 ∧ z1 = -1 from a8).1
  have m9 : (g.2.1 76) b = -1 := (show (g.2.1 76) b = -1 ∧ (g.2.1 77) b = -1 from b9).1
  rw [if_neg (by decide)] at b5
  obtain ⟨p, p1, p2, p3⟩ : ∃ p, p < 1536 ∧ kv.2 = nI p ∧ (768 ≤ p → p % 256 < 64) := by
    rcases s3.1.2 with e | ⟨p, p1, p2, p3⟩
    · exact absurd e (by decide)
    · exact ⟨p, p1, p2, p3 rfl⟩
  have ha := hP a (s1 a a2)
  have hbb := hQ b (s2 b b2)
  have J1 : (h.1 38 3) = 0 := I.2.2.2.2.2.2.2.1
  have J2 : (g.1 68 29) = 0 := I.2.2.2.2.2.2.2.2
  have gT : ∀ z, ¬ z ∈ zv_mm → g.2.1 z = g1.2.1 z := fun z hz => s11.2.1.2.1 z hz
  have hsz' : (h.1 12 6) = nI sz := (s11.1.1 _ _ (by decide)).trans hsz
  obtain ⟨k6, y1, y2, y3, y4⟩ := s15 hst.1
  have hns := s7 (by omega)
  have hbes : (g.2.1 78) k6 = nI b ↔ F' nb = ns + 1 := by
    rw [gT 78 (by decide)]
    by_cases e : F' nb = ns + 1
    · exact ⟨fun _ => e, fun _ => (y3 e).trans eb⟩
    · refine ⟨fun z => ?_, fun z => absurd z e⟩
      obtain ⟨b2', w1, w2, w3⟩ := y4 e
      rw [w2] at z
      have eq := (nI_eq (by omega) (by omega)).mp z
      rw [eq, ← gT 72 (by decide), b3] at w3
      exact absurd w3 (by decide)
  obtain ⟨h', v1, g', v2, v3, v4, v5⟩ := zv_vPlace (D := D) (D' := D') (d := d + 1) (k5 := k) (k6 := k6) (x := p) I (by omega) hb ha hbb hk y1 p1 p3 a3 c9 (a5.trans p2) a4 (s12.2.1.2.2.2.trans hfd) b3 m9 (b5.trans p2) (b4 (by decide)) b6 (by rw [gT 76 (by decide)]; exact y2) hbes hns
  refine ⟨a, b, ea, ha, eb, hbb, J1, J2, hsz', h', g', v1, v2, ?_⟩
  rcases v5 with ⟨φ, X⟩ | ⟨f1, f2, f3, f4, I'⟩
  · left
    have xn := zv_Xn X
    exact ⟨⟨⟨φ, _, X⟩, zfr_trans (zfr_w s11.1 (fun _ z => z) (by decide) (by decide)) (zfr_w v3 (fun _ z => z) (by decide) (by decide)), zfr_trans s11.2.1 v4⟩, xn.1, xn.2⟩
  · right
    subst f2
    have fT : zfr [] [40] [] h h' := by rw [f1]; exact zfr_M (by decide) zfr_rfl
    have fr : zv_fr P Q h g' h' g' := ⟨zfr_w fT (by decide) (by decide) (by decide), zfr_rfl, fun j _ => by rw [fT.2.1 _ (by decide)], fun j _ => ⟨rfl, rfl, rfl⟩⟩
    obtain ⟨cC, cM⟩ := zv_CM fr a9 b10
    obtain ⟨⟨k1, k2, k3, k4', k5⟩, ⟨k6', k7, k8, k9⟩, k10, k11⟩ := s12
    have nx : (h'.2.1 18) a = (h.2.1 18) a := by rw [fT.2.1 _ (by decide)]
    refine ⟨2, P2, Q2, z2, z3, F', nI p, ⟨by rw [nx]; exact cC, cM⟩, ⟨fun j hj => s1 j (a7 j hj).1, fun j hj => s2 j (b8 j hj).1⟩, ⟨s3.2.2, s4', by omega, fun z => by omega, fun _ => hns⟩, I', ⟨s8, s9⟩, fun j hj => by rw [fT.2.1 _ (by decide)]; exact s10 j (a7 j hj).1, zv_frt s11 fr (fun _ z => z) (fun _ z => z), ⟨⟨?_, ?_, ?_, ?_, ?_⟩, ⟨?_, ?_, ?_, ?_⟩, k10, zv_vof k11 fT (by decide) (by decide)⟩, .inr ⟨by omega, zv_plc0 r 2 (by omega) (by omega) s4', by rw [hq2, p2], .inr ⟨p, p1, p3, rfl, f4, by rw [← k1]; exact f3⟩⟩, fun z => s14 ⟨fun e => by omega, z⟩, fun z => by omega, fun z => by omega⟩
    · exact (fT.2.1 _ (by decide)).trans k1
    · exact ⟨(fT.2.1 _ (by decide)).trans k2.1, (fT.2.1 _ (by decide)).trans k2.2.1, (fT.2.1 _ (by decide)).trans k2.2.2⟩
    · exact (fT.2.1 _ (by decide)).trans k3
    · exact (fT.2.1 _ (by decide)).trans k4'
    · exact (fT.2.1 _ (by decide)).trans k5
    · exact (fT.1 _ _ (by decide)).trans k6'
    · exact (fT.1 _ _ (by decide)).trans k7
    · exact (fT.1 _ _ (by decide)).trans k8
    · exact (fT.1 _ _ (by decide)).trans k9
/-- what comes behind a type, or a constant, that kept the tables -/
theorem zv_sNext {c st' a b : Nat} {Pu Qu P1 P2 Q1 Q2 : Nat → Prop} {z2 z3 q : Int32} {F' : Nat → Nat} {h' g' : zs_H} (s1 : ∀ j, Pu j → P j) (s2 : ∀ j, Qu j → Q j) (s3 : zg_ok r) (hst : 3 ≤ st' ∧ st' ≤ 4) (s4 : ¬ zg_run 5 st' r = 99) (I : zv_I LC LM nb nf ns F' q h g) (s8 : ∀ j, ¬ j = nb → F' j = F j) (s9 : F' nb + zv_nm r = ns + zv_nm l) (s7 : ns < F' nb) (s10 : ∀ j, Pu j → (h.2.1 14) j = 0) (s11 : zv_fr P Q h1 g1 h g) (s12 : zv_dk h1 g1 h g) (hpl : q = zv_plc l ∧ (q = -1 ∨ ∃ p, p < 1536 ∧ (768 ≤ p → p % 256 < 64) ∧ q = nI p ∧ F' nb = ns + 1 ∧ (h1.2.1 21) (8 + nb) = 3)) (hty : zv_tyok (zv_Ph nb h1) r → zv_tyok (zv_Ph nb h1) l)
    (aP : ∀ j, P2 j → Pu j ∧ ¬ j = a ∧ ¬ P1 j) (bP : ∀ j, Q2 j → Qu j) (cC : zt_C h r P2 ((h.2.1 18) a) z2) (cM : zt_M LC LM g r Q2 (nI k) ((g.2.1 78) b) z3) (I' : zv_I LC LM nb nf ns F' q h' g') (f1 : zfr [] [14] [] h h') (f2 : zfr [] [100] [] g g') (t1 : ∀ j, ¬ j = a → ¬ P1 j → (h'.2.1 14) j = (h.2.1 14) j) (t2 : ∀ j, ¬ Q j → (g'.2.1 100) j = (g.2.1 100) j) (hPa : ∀ j, j = a ∨ P1 j → P j) :
    zv_SD LC LM nb nf ns k F l P Q h1 g1 r h' g' ((h'.2.1 18) a) ((g'.2.1 78) b) := by
  have fr : zv_fr P Q h g h' g' := ⟨zfr_w f1 (by decide) (by decide) (by decide), zfr_w f2 (by decide) (by decide) (by decide), fun j hj => t1 j (fun z => hj (hPa j (.inl z))) (fun z => hj (hPa j (.inr z))), fun j hj => ⟨t2 j hj, by rw [f2.2.1 _ (by decide)], by rw [f2.2.1 _ (by decide)]⟩⟩
  obtain ⟨dC, dM⟩ := zv_CM fr cC cM
  obtain ⟨⟨k1, k2, k3, k4', k5⟩, ⟨k6', k7, k8, k9⟩, k10, k11⟩ := s12
  have nx : (h'.2.1 18) a = (h.2.1 18) a := by rw [f1.2.1 _ (by decide)]
  have nb' : (g'.2.1 78) b = (g.2.1 78) b := by rw [f2.2.1 _ (by decide)]
  refine ⟨st', P2, Q2, z2, z3, F', q, ⟨by rw [nx]; exact dC, by rw [nb']; exact dM⟩, ⟨fun j hj => s1 j (aP j hj).1, fun j hj => s2 j (bP j hj)⟩, ⟨s3, s4, hst.2, fun z => by omega, fun _ => s7⟩, I', ⟨s8, s9⟩, fun j hj => (t1 j (aP j hj).2.1 (aP j hj).2.2).trans (s10 j (aP j hj).1), zv_frt s11 fr (fun _ z => z) (fun _ z => z), ⟨⟨?_, ?_, ?_, ?_, ?_⟩, ⟨?_, ?_, ?_, ?_⟩, ?_, ?_⟩, .inr ⟨by omega, zv_plc0 r st' (by omega) (by omega) s4, hpl.1, hpl.2⟩, hty, fun z => by omega, fun z => by omega⟩
  · exact (f1.2.1 _ (by decide)).trans k1
  · exact ⟨(f1.2.1 _ (by decide)).trans k2.1, (f1.2.1 _ (by decide)).trans k2.2.1, (f1.2.1 _ (by decide)).trans k2.2.2⟩
  · exact (f1.2.1 _ (by decide)).trans k3
  · exact (f1.2.1 _ (by decide)).trans k4'
  · exact (f1.2.1 _ (by decide)).trans k5
  · exact (f1.1 _ _ (by decide)).trans k6'
  · exact (f1.1 _ _ (by decide)).trans k7
  · exact (f1.1 _ _ (by decide)).trans k8
  · exact (f1.1 _ _ (by decide)).trans k9
  · exact (f2.2.1 _ (by decide)).trans k10
  · exact zv_vof k11 f1 (by decide) (by decide)
end ZVW
end
