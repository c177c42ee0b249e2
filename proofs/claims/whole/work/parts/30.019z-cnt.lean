/-! How many calls of the judge's walk may make Strings: at most one a node. -/
def jn_N (A : Nat → Nat → Int32) (i kd : Nat) (_ : Int32 × Int32) (up z : Int32) : Prop := A 72 i = nI (zt_km kd) ∧ A 75 i = up ∧ A 77 i = z
def jn_G (A : Nat → Nat → Int32) (t : zt_T) (P : Nat → Prop) (up x y : Int32) : Prop := zt_G (jn_N A) (A 76) (A 78) t P up x y
/-- a node, and what is below it -/
def jn_n (A : Nat → Nat → Int32) (kd : Nat) (l : zt_T) (i : Nat) : Prop := i < 40000 ∧ A 72 i = nI (zt_km kd) ∧ (zg_A kd (zg_run kd 0 l) = true ∧ zg_ok l) ∧ ∃ P : Nat → Prop, jn_G A l P (nI i) (A 76 i) (A 77 i)
theorem jn_kd {kd st : Nat} (h : zg_A kd st = true) : kd ≤ 38 := by
  unfold zg_A at h
  have h2 := List.elem_iff.mp h
  simp at h2
  omega
theorem jn_km {kd : Nat} (h : kd ≤ 38) (z : nI (zt_km kd) = 35) : kd = 35 := by
  have hb : zt_km kd ≤ 38 := by
    unfold zt_km
    by_cases a : kd = 37
    · rw [if_pos a]; omega
    · rw [if_neg a]
      by_cases b : kd = 38
      · rw [if_pos b]; omega
      · rw [if_neg b]; exact h
  have z2 : zt_km kd = 35 := (nI_eq (by omega) (by omega)).mp (z.trans (by decide : (35 : Int32) = nI 35))
  unfold zt_km at z2
  by_cases a : kd = 37
  · rw [if_pos a] at z2; omega
  · rw [if_neg a] at z2
    by_cases b : kd = 38
    · rw [if_pos b] at z2; omega
    · rw [if_neg b] at z2; exact z2
/-- a call at x costs at most b -/
def jn_S (A : Nat → Nat → Int32) (f : zs_H → Int32 → Option zs_H) (c : zs_H → Int32 → Option (zs_H × Nat)) (x : Int32) (b : Nat) : Prop := ∀ h rh, fx_P A h → f h x = some rh → ∃ m, c h x = some (rh, m) ∧ m ≤ b
def jn_U (A : Nat → Nat → Int32) (f : zs_H → Int32 → Option zs_H) (c : zs_H → Int32 → Option (zs_H × Nat)) (n k : Int32) (b : Nat) : Prop := ∀ (M : Nat) (h rh : zs_H), fx_P A h → f_Mo_look_L28 f M h n k = some rh → ∃ m, c_Mo_look_L28 c M h n k = some (rh, m) ∧ m ≤ b
theorem jn_cb {o : Option zs_H} {oc : Option (zs_H × Nat)} {F : zs_H → Option zs_H} {Fc : zs_H → Option (zs_H × Nat)} {rh : zs_H} {a b : Nat} (e : o.bind F = some rh) (ho : ∀ h1, o = some h1 → ∃ m, oc = some (h1, m) ∧ m ≤ a) (hF : ∀ h1, o = some h1 → F h1 = some rh → ∃ n, Fc h1 = some (rh, n) ∧ n ≤ b) : ∃ c, zk_cb oc Fc = some (rh, c) ∧ c ≤ a + b := by
  cases o with
  | none => cases e
  | some h1 =>
    obtain ⟨m, em, hm⟩ := ho h1 rfl
    obtain ⟨n, en, hn⟩ := hF h1 rfl e
    refine ⟨m + n, ?_, by omega⟩
    unfold zk_cb
    rw [em]
    show ((Fc h1).bind fun q => some (q.1, m + q.2)) = _
    rw [en]
    rfl
theorem jn_pb {o : Option zs_H} {F : zs_H → Option zs_H} {Fc : zs_H → Option (zs_H × Nat)} {rh : zs_H} {b : Nat} (e : o.bind F = some rh) (hF : ∀ h1, o = some h1 → F h1 = some rh → ∃ n, Fc h1 = some (rh, n) ∧ n ≤ b) : ∃ c, o.bind Fc = some (rh, c) ∧ c ≤ b := by
  cases o with
  | none => cases e
  | some h1 => exact hF h1 rfl e
theorem jn_c1 {o : Option zs_H} : ∀ h1, o = some h1 → ∃ m, zk_c1 o = some (h1, m) ∧ m ≤ 1 := fun h1 e => ⟨1, by rw [e]; rfl, Nat.le_refl _⟩
theorem jn_s {rh h1 : zs_H} (e : some h1 = some rh) : ∃ n, some (h1, 0) = some (rh, n) ∧ n ≤ 0 := ⟨0, by cases e; rfl, Nat.le_refl _⟩
theorem jn_54 {h rh : zs_H} {x1 x2 : Int32} (e : f_Mo_lookAlone_54 h x1 x2 = some rh) : ∃ m, c_Mo_lookAlone_54 h x1 x2 = some (rh, m) ∧ m ≤ 1 := by
  unfold f_Mo_lookAlone_54 at e
  unfold c_Mo_lookAlone_54
  by_cases c1 : (h.1 68 29) = 0
  · rw [if_pos c1] at e ⊢
    by_cases c2 : (11 : Int32) ≤ x2
    · rw [if_pos c2] at e ⊢
      by_cases c3 : (22 : Int32) ≤ x2
      · rw [if_pos c3] at e ⊢
        by_cases c4 : (30 : Int32) ≤ x2
        · rw [if_pos c4] at e ⊢
          obtain ⟨m, em, hm⟩ := jn_cb (a := 1) (b := 0) e jn_c1 (fun h1 _ e1 => jn_s e1)
          exact ⟨m, em, by omega⟩
        · rw [if_neg c4] at e ⊢
          obtain ⟨m, em, hm⟩ := jn_pb (b := 0) e (fun h1 _ e1 => jn_s e1)
          exact ⟨m, em, by omega⟩
      · rw [if_neg c3] at e ⊢
        obtain ⟨m, em, hm⟩ := jn_cb (a := 1) (b := 0) e jn_c1 (fun h1 _ e1 => jn_s e1)
        exact ⟨m, em, by omega⟩
    · rw [if_neg c2] at e ⊢
      obtain ⟨m, em, hm⟩ := jn_pb (b := 0) e (fun h1 _ e1 => jn_s e1)
      exact ⟨m, em, by omega⟩
  · rw [if_neg c1] at e ⊢
    obtain ⟨m, em, hm⟩ := jn_s e
    exact ⟨m, em, by omega⟩
section JN
variable {A : Nat → Nat → Int32} {f fa : zs_H → Int32 → Option zs_H} {c ca : zs_H → Int32 → Option (zs_H × Nat)}
theorem jn_28 (HS : ∀ kd l i, jn_n A kd l i → jn_S A f c (nI i) (1 + zt_sz l)) (HF : ∀ h x rh, fx_P A h → f h x = some rh → fx_P A rh) {x1 x2 : Int32} : ∀ (t : zt_T) (P : Nat → Prop) (up x y : Int32) (N : Nat) (h rh : zs_H), zg_ok t → jn_G A t P up x y → fx_P A h → f_Mo_lookAlone_L28 f N h x1 x2 x = some rh → ∃ m, c_Mo_lookAlone_L28 c N h x1 x2 x = some (rh, m) ∧ m ≤ zt_sz t + 1 := by
  intro t
  induction t with
  | leaf =>
    intro P up x y N h rh _ hG H e
    obtain ⟨hx, -⟩ := hG
    subst hx
    cases N with
    | zero => cases e
    | succ N =>
      have e1 : f_Mo_lookAlone_28 f (f_Mo_lookAlone_L28 f N) h x1 x2 (-1) = some rh := e
      have g1 : c_Mo_lookAlone_L28 c (N + 1) h x1 x2 (-1) = c_Mo_lookAlone_28 c (c_Mo_lookAlone_L28 c N) h x1 x2 (-1) := rfl
      rw [g1]
      unfold f_Mo_lookAlone_28 at e1
      unfold c_Mo_lookAlone_28
      rw [if_pos (by decide)] at e1 ⊢
      obtain ⟨m, em, hm⟩ := jn_54 e1
      exact ⟨m, em, by omega⟩
  | inner kd k v l r ihl ihr =>
    intro P up x y N h rh ok hG H e
    obtain ⟨i, P1, P2, z1, z2, q1, q2, q3, q4, q5, q6, q7, q8, q9⟩ := hG
    obtain ⟨⟨ok1, -⟩, ok2, ok3⟩ := ok
    subst q3
    cases N with
    | zero => cases e
    | succ N =>
      have e1 : f_Mo_lookAlone_28 f (f_Mo_lookAlone_L28 f N) h x1 x2 (nI i) = some rh := e
      have g1 : c_Mo_lookAlone_L28 c (N + 1) h x1 x2 (nI i) = c_Mo_lookAlone_28 c (c_Mo_lookAlone_L28 c N) h x1 x2 (nI i) := rfl
      rw [g1]
      unfold f_Mo_lookAlone_28 at e1
      unfold c_Mo_lookAlone_28
      rw [if_neg (nI_pos (by omega))] at e1 ⊢
      by_cases c1 : (h.1 68 29) = 0
      · rw [if_pos c1] at e1 ⊢
        have hn : jn_n A kd l i := ⟨q2, q4.1, ⟨ok1, ok2⟩, P1, by rw [q4.2.2]; exact q7⟩
        have hF : ∀ h4, f h (nI i) = some h4 → (if zd_in (nI i) 33500 then f_Mo_lookAlone_L28 f N h4 x1 x2 (h4.2.1 78 (nI i).toNatClampNeg) else none) = some rh → ∃ n, (if zd_in (nI i) 33500 then c_Mo_lookAlone_L28 c N h4 x1 x2 (h4.2.1 78 (nI i).toNatClampNeg) else none) = some (rh, n) ∧ n ≤ zt_sz r + 1 := by
          intro h4 e2 e3
          have H4 := HF h (nI i) h4 H e2
          by_cases c2 : zd_in (nI i) 33500
          · rw [if_pos c2] at e3 ⊢
            rw [nI_clamp (by omega), H4 78 (by decide)] at e3 ⊢
            exact ihr P2 up (A 78 i) z2 N h4 rh ok3 q8 H4 e3
          · rw [if_neg c2] at e3
            cases e3
        obtain ⟨m, em, hm⟩ := jn_cb e1 (fun h1 e2 => HS kd l i hn h h1 H e2) hF
        exact ⟨m, em, by show m ≤ 1 + zt_sz l + zt_sz r + 1; omega⟩
      · rw [if_neg c1] at e1 ⊢
        obtain ⟨m, em, hm⟩ := jn_54 e1
        exact ⟨m, em, by omega⟩
theorem jn_last : ∀ (t : zt_T) (P : Nat → Prop) (up x y : Int32), ¬ t = .leaf → zg_ok t → jn_G A t P up x y → ∃ kd l q, y = nI q ∧ jn_n A kd l q ∧ 1 + zt_sz l ≤ zt_sz t := by
  intro t
  induction t with
  | leaf => intro P up x y h; exact absurd rfl h
  | inner kd k v l r ihl ihr =>
    intro P up x y _ ok hG
    obtain ⟨i, P1, P2, z1, z2, q1, q2, q3, q4, q5, q6, q7, q8, q9⟩ := hG
    obtain ⟨⟨ok1, -⟩, ok2, ok3⟩ := ok
    by_cases hr : r = .leaf
    · subst hr
      obtain ⟨-, w⟩ := q8
      rw [if_pos w] at q9
      exact ⟨kd, l, i, q9.trans q3, ⟨q2, q4.1, ⟨ok1, ok2⟩, P1, by rw [q4.2.2]; exact q7⟩, by show 1 + zt_sz l ≤ 1 + zt_sz l + 0; omega⟩
    · obtain ⟨kq, lq, q, w1, w2, w3⟩ := ihr P2 up (A 78 i) z2 hr ok3 q8
      have hne : ¬ z2 = -1 := by
        rw [w1]
        intro z
        have := congrArg Int32.toInt z
        rw [nI_toInt (by have := w2.1; omega)] at this
        have h2 : ((-1 : Int32)).toInt = -1 := by decide
        omega
      rw [if_neg hne] at q9
      exact ⟨kq, lq, q, q9.trans w1, w2, by show 1 + zt_sz lq ≤ 1 + zt_sz l + zt_sz r; omega⟩
theorem jn_U0 {n : Int32} : jn_U A f c n n 0 := by
  intro M h rh _ e
  cases M with
  | zero => cases e
  | succ M =>
    have e1 : f_Mo_look_28 f (f_Mo_look_L28 f M) h n n = some rh := e
    have g1 : c_Mo_look_L28 c (M + 1) h n n = c_Mo_look_28 c (c_Mo_look_L28 c M) h n n := rfl
    rw [g1]
    unfold f_Mo_look_28 at e1
    unfold c_Mo_look_28
    rw [if_pos rfl] at e1 ⊢
    exact jn_s e1
theorem jn_US (HS : ∀ kd l i, jn_n A kd l i → jn_S A f c (nI i) (1 + zt_sz l)) (HF : ∀ h x rh, fx_P A h → f h x = some rh → fx_P A rh) {n : Int32} {ci p q kd b : Nat} {l : zt_T} (hc : ci < 40000) (hp : p < 40000) (h1 : A 75 ci = nI p) (h2 : A 77 p = nI q) (hq : jn_n A kd l q) (hb : jn_U A f c n (nI p) b) : jn_U A f c n (nI ci) (1 + zt_sz l + 1 + b) := by
  intro M h rh H e
  cases M with
  | zero => cases e
  | succ M =>
    have e1 : f_Mo_look_28 f (f_Mo_look_L28 f M) h n (nI ci) = some rh := e
    have g1 : c_Mo_look_L28 c (M + 1) h n (nI ci) = c_Mo_look_28 c (c_Mo_look_L28 c M) h n (nI ci) := rfl
    rw [g1]
    unfold f_Mo_look_28 at e1
    unfold c_Mo_look_28
    simp only [nI_clamp (show ci < 2 ^ 31 by omega), H 75 (by decide), h1, nI_clamp (show p < 2 ^ 31 by omega), H 77 (by decide), h2] at e1 ⊢
    by_cases c1 : nI ci = n
    · rw [if_pos c1] at e1 ⊢
      obtain ⟨m, em, hm⟩ := jn_s e1
      exact ⟨m, em, by omega⟩
    · rw [if_neg c1] at e1 ⊢
      by_cases c2 : (h.1 68 29) = 0
      · rw [if_pos c2] at e1 ⊢
        by_cases c3 : zd_in (nI ci) 33500
        · rw [if_pos c3] at e1 ⊢
          by_cases c4 : zd_in (nI p) 33500
          · rw [if_pos c4] at e1 ⊢
            have hF : ∀ h6, f h (nI q) = some h6 → (if (h6.1 68 29) = 0 then ((f_Mo_lookAtExpressions h6 (nI p)).bind fun h9 => f_Mo_look_L28 f M h9 n (nI p)) else f_Mo_look_L28 f M h6 n (nI p)) = some rh → ∃ m, (if (h6.1 68 29) = 0 then (zk_cb (zk_c1 (f_Mo_lookAtExpressions h6 (nI p))) fun h9 => c_Mo_look_L28 c M h9 n (nI p)) else c_Mo_look_L28 c M h6 n (nI p)) = some (rh, m) ∧ m ≤ 1 + b := by
              intro h6 e2 e3
              have H6 := HF h (nI q) h6 H e2
              by_cases c5 : (h6.1 68 29) = 0
              · rw [if_pos c5] at e3 ⊢
                exact jn_cb e3 jn_c1 (fun h9 e4 e5 => hb M h9 rh (fx_f_Mo_lookAtExpressions H6 h9 e4) e5)
              · rw [if_neg c5] at e3 ⊢
                obtain ⟨m, em, hm⟩ := hb M h6 rh H6 e3
                exact ⟨m, em, by omega⟩
            obtain ⟨m, em, hm⟩ := jn_cb e1 (fun h6 e2 => HS kd l q hq h h6 H e2) hF
            exact ⟨m, em, by omega⟩
          · rw [if_neg c4] at e1
            cases e1
        · rw [if_neg c3] at e1
          cases e1
      · rw [if_neg c2] at e1 ⊢
        obtain ⟨m, em, hm⟩ := jn_s e1
        exact ⟨m, em, by omega⟩
theorem jn_q35 {kc : Nat} {kk : Int32 × Int32} {v : Unit} {lc rc : zt_T} (h : zg_A 35 (zg_run 35 0 (.inner kc kk v lc rc)) = true) : ¬ rc = .leaf := by
  intro hr
  subst hr
  have h0 : zg_run 35 0 (.inner kc kk v lc .leaf) = zg_q 35 0 kc := rfl
  rw [h0] at h
  by_cases h9 : zg_q 35 0 kc = 99
  · rw [h9] at h
    exact absurd h (by decide)
  · obtain ⟨cs, to, m1, m2, m3⟩ := zv_qR h9
    have key : ∀ r ∈ zg_R, r.1 = 35 → r.2.1 = 0 → r.2.2.2 = 1 := by decide
    have h1 : to = 1 := key _ m1 rfl rfl
    rw [m3, h1] at h
    exact absurd h (by decide)
theorem jn_2 (HS : ∀ kd l i, jn_n A kd l i → jn_S A f c (nI i) (1 + zt_sz l)) (HA : ∀ kd l i, jn_n A kd l i → jn_S A fa ca (nI i) (1 + zt_sz l)) (HF : ∀ h x rh, fx_P A h → f h x = some rh → fx_P A rh) (HFa : ∀ h x rh, fx_P A h → fa h x = some rh → fx_P A rh) {n : Int32} : ∀ (l : zt_T) (kd i b N : Nat) (h rh : zs_H), jn_n A kd l i → jn_U A f c n (nI i) b → fx_P A h → f_Mo_look_L2 f fa N h n (nI i) = some rh → ∃ m, c_Mo_look_L2 c ca N h n (nI i) = some (rh, m) ∧ m ≤ 1 + zt_sz l + b := by
  intro l
  induction l with
  | leaf =>
    intro kd i b N h rh hn hU H e
    cases N with
    | zero => cases e
    | succ N =>
      have e1 : f_Mo_look_2 f fa (f_Mo_look_L2 f fa N) h n (nI i) = some rh := e
      have g1 : c_Mo_look_L2 c ca (N + 1) h n (nI i) = c_Mo_look_2 c ca (c_Mo_look_L2 c ca N) h n (nI i) := rfl
      rw [g1]
      unfold f_Mo_look_2 at e1
      unfold c_Mo_look_2
      simp only [nI_clamp (show i < 2 ^ 31 by have := hn.1; omega), H 72 (by decide)] at e1 ⊢
      by_cases c1 : zd_in (nI i) 33500
      · rw [if_pos c1] at e1 ⊢
        have hk : ¬ A 72 i = 35 := by
          rw [hn.2.1]
          intro z
          have z3 : kd = 35 := jn_km (jn_kd hn.2.2.1.1) z
          subst z3
          exact absurd hn.2.2.1.1 (by decide)
        rw [if_neg hk] at e1 ⊢
        exact jn_cb e1 (fun h1 e2 => HA kd .leaf i hn h h1 H e2) (fun h1 e2 e3 => hU zF h1 rh (HFa h (nI i) h1 H e2) e3)
      · rw [if_neg c1] at e1
        cases e1
  | inner kc kk v lc rc ihl ihr =>
    intro kd i b N h rh hn hU H e
    cases N with
    | zero => cases e
    | succ N =>
      have e1 : f_Mo_look_2 f fa (f_Mo_look_L2 f fa N) h n (nI i) = some rh := e
      have g1 : c_Mo_look_L2 c ca (N + 1) h n (nI i) = c_Mo_look_2 c ca (c_Mo_look_L2 c ca N) h n (nI i) := rfl
      rw [g1]
      unfold f_Mo_look_2 at e1
      unfold c_Mo_look_2
      simp only [nI_clamp (show i < 2 ^ 31 by have := hn.1; omega), H 72 (by decide), H 76 (by decide)] at e1 ⊢
      by_cases c1 : zd_in (nI i) 33500
      · rw [if_pos c1] at e1 ⊢
        by_cases hk : A 72 i = 35
        · rw [if_pos hk] at e1 ⊢
          have z3 : kd = 35 := jn_km (jn_kd hn.2.2.1.1) (hn.2.1.symm.trans hk)
          subst z3
          obtain ⟨i1, i2, ⟨i3, i4⟩, P0, hG⟩ := hn
          have hrc := jn_q35 i3
          obtain ⟨ci, P1, P2, z1, z2, q1, q2, q3, q4, q5, q6, q7, q8, q9⟩ := hG
          obtain ⟨⟨ok1, -⟩, ok2, ok3⟩ := i4
          obtain ⟨kq, lq, q, w1, w2, w3⟩ := jn_last rc P2 (nI i) (A 78 ci) z2 hrc ok3 q8
          have hne : ¬ z2 = -1 := by
            rw [w1]
            intro z
            have := congrArg Int32.toInt z
            rw [nI_toInt (by have := w2.1; omega)] at this
            have h2 : ((-1 : Int32)).toInt = -1 := by decide
            omega
          rw [if_neg hne, w1] at q9
          have hnc : jn_n A kc lc ci := ⟨q2, q4.1, ⟨ok1, ok2⟩, P1, by rw [q4.2.2]; exact q7⟩
          have hU2 : jn_U A f c n (nI ci) (1 + zt_sz lq + 1 + b) := jn_US HS HF q2 i1 q4.2.1 q9 w2 hU
          rw [q3] at e1 ⊢
          obtain ⟨m, em, hm⟩ := ihl kc ci _ N h rh hnc hU2 H e1
          exact ⟨m, em, by show m ≤ 1 + (1 + zt_sz lc + zt_sz rc) + b; omega⟩
        · rw [if_neg hk] at e1 ⊢
          exact jn_cb e1 (fun h1 e2 => HA kd _ i hn h h1 H e2) (fun h1 e2 e3 => hU zF h1 rh (HFa h (nI i) h1 H e2) e3)
      · rw [if_neg c1] at e1
        cases e1
end JN
theorem jn_fl {A : Nat → Nat → Int32} (d : Nat) (h : zs_H) (x : Int32) (rh : zs_H) (H : fx_P A h) (e : f_Mo_look d h x = some rh) : fx_P A rh := (fx_look0 d).1 h x H rh e
theorem jn_fa {A : Nat → Nat → Int32} (d : Nat) (h : zs_H) (x : Int32) (rh : zs_H) (H : fx_P A h) (e : f_Mo_lookAlone d h x = some rh) : fx_P A rh := (fx_look0 d).2 h x H rh e
theorem jn_all (A : Nat → Nat → Int32) : ∀ d : Nat, (∀ kd l i, jn_n A kd l i → jn_S A (f_Mo_look d) (c_Mo_look d) (nI i) (1 + zt_sz l)) ∧ (∀ kd l i, jn_n A kd l i → jn_S A (f_Mo_lookAlone d) (c_Mo_lookAlone d) (nI i) (1 + zt_sz l)) := by
  intro d
  induction d with
  | zero => exact ⟨fun kd l i hn h rh H e => (by cases e), fun kd l i hn h rh H e => (by cases e)⟩
  | succ d ih =>
    obtain ⟨HS, HA⟩ := ih
    refine ⟨fun kd l i hn h rh H e => ?_, fun kd l i hn h rh H e => ?_⟩
    · rw [jn_lk] at e
      rw [jn_clk]
      unfold g_Mo_look at e
      unfold cg_Mo_look
      obtain ⟨m, em, hm⟩ := jn_2 HS HA (jn_fl d) (jn_fa d) l kd i 0 zF h rh hn jn_U0 H e
      exact ⟨m, em, by omega⟩
    · rw [jn_la] at e
      rw [jn_cla]
      obtain ⟨i1, i2, ⟨i3, i4⟩, P0, hG⟩ := hn
      have h21 : ∀ (h5 : zs_H) (x2 : Int32), fx_P A h5 → f_Mo_lookAlone_21 (f_Mo_look d) h5 (nI i) x2 = some rh → ∃ m, c_Mo_lookAlone_21 (c_Mo_look d) h5 (nI i) x2 = some (rh, m) ∧ m ≤ 1 + zt_sz l := by
        intro h5 x2 H5 e5
        unfold f_Mo_lookAlone_21 at e5
        unfold c_Mo_lookAlone_21
        by_cases c1 : zd_in (nI i) 33500
        · rw [if_pos c1] at e5 ⊢
          rw [nI_clamp (show i < 2 ^ 31 by omega), H5 76 (by decide)] at e5 ⊢
          obtain ⟨m, em, hm⟩ := jn_28 HS (jn_fl d) l P0 (nI i) (A 76 i) (A 77 i) zF h5 rh i4 hG H5 e5
          exact ⟨m, em, by omega⟩
        · rw [if_neg c1] at e5
          cases e5
      unfold g_Mo_lookAlone at e
      unfold cg_Mo_lookAlone
      by_cases c1 : zd_in (nI i) 33500
      · rw [if_pos c1] at e ⊢
        by_cases c2 : (h.2.1 72 (nI i).toNatClampNeg) ≤ 0
        · rw [if_pos c2] at e ⊢
          exact h21 h _ H e
        · rw [if_neg c2] at e ⊢
          by_cases c3 : 4 ≤ (h.2.1 72 (nI i).toNatClampNeg)
          · rw [if_pos c3] at e ⊢
            exact h21 h _ H e
          · rw [if_neg c3] at e ⊢
            exact jn_pb e (fun h5 e2 e3 => h21 h5 _ (fx_f_Mo_beginBlock H h5 e2) e3)
      · rw [if_neg c1] at e
        cases e
/-- a tree of at most K nodes stands -/
def jn_P (K : Nat) (g : zs_H) : Prop := ∃ (A : Nat → Nat → Int32) (l : zt_T), fx_P A g ∧ jn_n A 0 l 0 ∧ 1 + zt_sz l ≤ K
theorem jn_H (K : Nat) : jk_H K (jn_P K) := by
  refine ⟨fun h i v q => ?_, fun h i v q => ?_, fun h i v q => ?_, fun h v q => ?_, fun h gh q e => ?_⟩
  · obtain ⟨A, l, H, r⟩ := q; exact ⟨A, l, fx_uM (by decide) H, r⟩
  · obtain ⟨A, l, H, r⟩ := q; exact ⟨A, l, fx_uM (by decide) H, r⟩
  · obtain ⟨A, l, H, r⟩ := q; exact ⟨A, l, fx_uM (by decide) H, r⟩
  · obtain ⟨A, l, H, r⟩ := q; exact ⟨A, l, H, r⟩
  · obtain ⟨A, l, H, hn, hk⟩ := q
    obtain ⟨m, em, hm⟩ := (jn_all A 500).1 0 l 0 hn h gh H e
    exact ⟨m, by omega, em⟩
