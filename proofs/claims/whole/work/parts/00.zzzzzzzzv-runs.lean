/-! The machine: a run of statements, by T; of units. -/
section YGV
variable {X Y : Nat → Nat} {kb : Nat → yK} {pl : Nat → Nat} {tm : Nat → Nat → (Nat → Int32) → Nat → Int32} {U : Nat → Nat → yE → yE × Nat} {B : Nat → Nat} {b base : Nat}
theorem yG_pr2 {a c t : yP3} {s s' : yE} {q : yE × Nat} {k : Nat} (h1 : s'.2.1 = s.2.1) (h2 : s'.2.2 = s.2.2 + k) (h3 : yF_sh k c t) (R2 : yG_R a c s' q) : yG_R a t s q := by
  refine ⟨R2.1, fun z => (R2.2.1 z).trans h1, by have := R2.2.2.1; omega, ?_⟩
  have := yF_seq h3 R2.2.2.2
  have e2 := R2.2.2.1
  rw [show k + (q.1.2.2 - s'.2.2) = q.1.2.2 - s.2.2 by omega] at this
  exact this
theorem yF_x {c d : yP3} : yF_sh 0 c (yP_x c d) ∧ yF_sh 0 d (yP_x c d) := by
  have k0 : ∀ a : Option Nat, yP_p (some 0) a = a := fun a => by
    cases a with
    | none => rfl
    | some a => show some (0 + a) = some a; rw [Nat.zero_add]
  unfold yF_sh
  rw [k0, k0, k0, k0, k0, k0]
  exact ⟨⟨(yF_lm (c := none)).1, (yF_lm (c := none)).1, (yF_lm (c := none)).1⟩, (yF_lm (c := none)).2.1, (yF_lm (c := none)).2.1, (yF_lm (c := none)).2.1⟩
/-- the hypotheses of a block -/
def yG_h (X Y : Nat → Nat) (kb : Nat → yK) (pl : Nat → Nat) (tm : Nat → Nat → (Nat → Int32) → Nat → Int32) (B : Nat → Nat) (b base : Nat) (U : Nat → Nat → yE → yE × Nat) : Prop := b ≤ 16 ∧ (Y b ≤ X b ∧ ∀ u, u ≤ b → X u ≤ 100000) ∧ yG_U X kb pl B b U ∧ yE_hU X kb pl b U ∧ yE_ht tm ∧ (∀ u, u < b → (kb u).1 = 1 → yE_dj X kb pl u (pl u)) ∧ yE_dj X kb pl b base
def yG_V (X Y : Nat → Nat) (kb : Nat → yK) (pl : Nat → Nat) (tm : Nat → Nat → (Nat → Int32) → Nat → Int32) (B : Nat → Nat) (b base : Nat) (U : Nat → Nat → yE → yE × Nat) (T : ys) : Prop := ∀ (m lo : Nat) (E c : yP3) (s : yE), ((m = 0 ∧ yz_st T) ∨ (m = 1 ∧ yz_br T)) → yz_W X Y kb b T lo → Y b ≤ lo → (m = 1 → E = c) → ¬ yF_M c = none → yG_R c (yP_T B T E c) s (yE_T pl tm U base T s) ∧ ∀ n, yz_x T n = [] → ¬ (yE_T pl tm U base T s).2 = 1
/-- straight code with nothing left on the stack, or one number -/
theorem yG_Ls (H : yG_h X Y kb pl tm B b base U) {L : List yI} {d2 lo : Nat} (W : ∀ i, i ∈ L → yw_i X Y kb b lo i) (e : yo_h 0 L = some d2) {c : yP3} (hc : ¬ yF_M c = none) (s : yE) : ((yE_L pl tm U base L s).2 = 0 ∨ (yE_L pl tm U base L s).2 = 3 ∨ (yE_L pl tm U base L s).2 = 4) ∧ ((yE_L pl tm U base L s).2 = 0 → ∃ A', (yE_L pl tm U base L s).1.2.1 = A' ++ s.2.1 ∧ A'.length = d2) ∧ s.2.2 ≤ (yE_L pl tm U base L s).1.2.2 ∧ yF c (yP_L B L c) ((yE_L pl tm U base L s).1.2.2 - s.2.2) (yE_L pl tm U base L s).2 :=
  yG_L (lo := lo) H.1 ⟨H.2.1.1, H.2.1.2 b (Nat.le_refl _)⟩ H.2.2.1 H.2.2.2.2.2.1 H.2.2.2.2.2.2 s.2.1 c hc L [] d2 s.1 s.2.2 W e
variable {p : List yI × Int32 × Int32} {o : Unit} {l r : ys}
theorem yG_fin {c c' t : yP3} {s : yE} {q q2 : yE × Nat} (R : yG_R c' t s q) (n1 : ¬ q.2 = 1) (h : q.2 = 0 → yG_R c c' q.1 q2) : yG_R c t s (if q.2 = 0 then q2 else q) := by
  split
  · rename_i z; exact yG_sq R z (h z)
  · rename_i z; exact yG_st R z
theorem yG_fi2 {c c' t : yP3} {s : yE} {q q2 : yE × Nat} (R : yG_R c' t s q) (h : q.2 = 0 → yG_R c c' q.1 q2) : yG_R c t s (if q.2 = 0 then q2 else q) := by
  split
  · rename_i z; exact yG_sq R z (h z)
  · rename_i z; exact yG_st R z
theorem yG_T (H : yG_h X Y kb pl tm B b base U) : ∀ T : ys, yG_V X Y kb pl tm B b base U T := by
  intro T
  induction T with
  | leaf =>
    intro m lo E c s _ _ _ _ _
    exact ⟨yG_0, fun n _ => (show ¬ (0 : Nat) = 1 by decide)⟩
  | inner k p o l r ihl ihr =>
    intro m lo E c s hm ⟨W1, W2⟩ hY hE hc
    have hr : ((m = 0 ∧ yz_st r) ∨ (m = 1 ∧ yz_br r)) := hm.elim (fun z => .inl ⟨z.1, z.2.2⟩) (fun z => .inr ⟨z.1, z.2.2⟩)
    have hc' : ¬ yF_M (yP_T B r E c) = none := yF_way r E c hc
    have go := fun s => ihr m lo E c s hr W2 hY hE hc
    have xb := H.2.1.2 b (Nat.le_refl _)
    rw [yE_T, yP_T]
    by_cases k0 : k = 0
    · rw [if_pos k0] at W1
      rw [if_pos k0, if_pos k0]
      obtain ⟨a1, a2, a3, a4⟩ := yG_Ls H W1.2 W1.1 hc' s
      have R : yG_R (yP_T B r E c) (yP_L B p.1 (yP_T B r E c)) s (yE_L pl tm U base p.1 s) := ⟨by omega, fun z => by
        obtain ⟨A', q1, q2⟩ := a2 (by omega)
        rw [q1, List.eq_nil_of_length_eq_zero q2]; rfl, a3, a4⟩
      refine ⟨yG_fi2 R (fun z => (go _).1), fun n hx => ?_⟩
      have hx' : yz_x r (n + p.1.length) = [] := by rw [yz_x, if_pos k0] at hx; exact hx
      split
      · exact (go _).2 _ hx'
      · omega
    rw [if_neg k0] at W1
    rw [if_neg k0, if_neg k0]
    by_cases k2 : k = 2
    · rw [if_pos k2] at W1
      rw [if_neg (show ¬ k = 1 by omega), if_neg (show ¬ k = 1 by omega), if_pos k2, if_pos k2]
      obtain ⟨cc, N, w1, w2, w3, w4, w5, w6, w7⟩ := W1
      rw [w1, w2, nI_clamp (show cc < 2147483648 by omega), nI_clamp (show N < 2147483648 by omega)]
      have nal : ¬ yE_al X Y kb pl b base (cc + 1) (base + cc) := fun z => by
        rcases z with z | z | ⟨u, u1, u2, u3⟩
        · omega
        · omega
        · rcases H.2.2.2.2.2.2 u u1 u2 with z | z
          · omega
          · omega
      obtain ⟨R, nR⟩ := yG_lp (body := yE_T pl tm U base l) (cell := base + cc) (t := yP_T B l (none, none, none) (some 1, none, none)) hc' (fun s => (ihl 0 (cc + 1) (none, none, none) (some 1, none, none) s (.inl ⟨rfl, w6⟩) w7 (by omega) (fun z => absurd z (by decide)) (yF_nM (x := 1) (.inl rfl))).1) (fun s => yE_Tw H.1 H.2.1 H.2.2.2.1 H.2.2.2.2.1 l (cc + 1) s (base + cc) w7 nal) N (N + 1) (yE_u s.1 (base + cc) (nI N), s.2.1, s.2.2 + 1) (if_pos rfl) (by omega) w5
      have R' := yG_pr2 (s := s) (s' := (yE_u s.1 (base + cc) (nI N), s.2.1, s.2.2 + 1)) (k := 1) (t := yP_a 1 (yP_N N (yP_T B l (none, none, none) (some 1, none, none)) (yP_T B r E c))) rfl rfl (yF_a (Nat.le_refl _)) R
      refine ⟨yG_fi2 R' (fun z => (go _).1), fun n hx => ?_⟩
      have hx' : yz_x r (n + (3 + yz_l l)) = [] := by rw [yz_x, if_neg k0, if_neg (show ¬ k = 1 by omega), if_pos k2] at hx; exact hx
      split
      · exact (go _).2 _ hx'
      · exact nR
    rw [if_neg k2] at W1
    by_cases k5 : k = 5
    · rw [if_pos k5] at W1
      have m1 : m = 1 := by
        rcases hm with ⟨_, z, _⟩ | ⟨z1, _⟩
        · omega
        · exact z1
      have eE := hE m1
      subst eE
      rw [if_neg (show ¬ k = 1 by omega), if_neg (show ¬ k = 1 by omega), if_neg k2, if_neg k2, if_neg (show ¬ k = 3 by omega), if_neg (show ¬ k = 3 by omega), if_neg (show ¬ k = 4 by omega), if_neg (show ¬ k = 4 by omega), if_pos k5, if_pos k5]
      obtain ⟨cb, hcb⟩ : ∃ cb, cb = (if yz_f r = true then yP_T B r E E else yP_a 1 E) := ⟨_, rfl⟩
      rw [← hcb]
      have hcbM : ¬ yF_M cb = none := by
        rw [hcb]; split
        · exact hc'
        · exact yF_ne (yF_a (d := 0) (Nat.zero_le _)) hc
      have lv : yz_f r = true → yP_T B r E E = E := fun z => by
        cases r with
        | leaf => rfl
        | inner => cases z
      have c5M : ¬ yF_M (yP_a 1 (yP_x (yP_T B l (none, none, none) cb) (yP_T B r E E))) = none := yF_ne (yF_a (d := 0) (Nat.zero_le _)) (yF_ne yF_x.2 hc')
      obtain ⟨a1, a2, a3, a4⟩ := yG_Ls (lo := lo) H (fun i hi => .inl (W1.2.1 i hi)) W1.1 c5M s
      generalize yE_L pl tm U base p.1 s = q at a1 a2 a3 a4
      have sh1 : ∀ {z : yP3}, yF_sh 0 z (yP_x (yP_T B l (none, none, none) cb) (yP_T B r E E)) → yF_sh 1 z (yP_a 1 (yP_x (yP_T B l (none, none, none) cb) (yP_T B r E E))) := fun h => by
        have := yF_sht (yF_a (d := 1) (w := 1) (Nat.le_refl _)) h
        exact this
      by_cases z : q.2 = 0
      · rw [if_pos z]
        obtain ⟨A', q1, q2⟩ := a2 z
        obtain ⟨y, rfl⟩ : ∃ y, A' = [y] := by
          cases A' with
          | nil => cases q2
          | cons y A' =>
            have : A'.length + 1 = 1 := q2
            exact ⟨y, by rw [List.eq_nil_of_length_eq_zero (show A'.length = 0 by omega)]⟩
        have q1' : q.1.2.1 = y :: s.2.1 := q1
        rw [q1']
        have pre : ∀ {z : yP3}, yF_sh 0 z (yP_x (yP_T B l (none, none, none) cb) (yP_T B r E E)) → yF_sh (q.1.2.2 - s.2.2 + 1) z (yP_L B p.1 (yP_a 1 (yP_x (yP_T B l (none, none, none) cb) (yP_T B r E E)))) := fun h => yF_sht (a4.1 z) (sh1 h)
        have st2 : (q.1.1, s.2.1, q.1.2.2 + 1).2.2 = s.2.2 + (q.1.2.2 - s.2.2 + 1) := by show q.1.2.2 + 1 = _; omega
        show yG_R E _ s (if y = 0 then _ else _) ∧ ∀ n, _ → ¬ (if y = 0 then _ else _ : yE × Nat).2 = 1
        by_cases zy : y = 0
        · rw [if_pos zy]
          have g := go (q.1.1, s.2.1, q.1.2.2 + 1)
          refine ⟨yG_pr2 (s' := (q.1.1, s.2.1, q.1.2.2 + 1)) rfl st2 (pre yF_x.2) g.1, fun n hx => ?_⟩
          rw [yz_x, if_neg k0, if_neg (show ¬ k = 1 by omega), if_neg k2, if_neg (show ¬ k = 3 by omega), if_neg (show ¬ k = 4 by omega), if_pos k5] at hx
          exact g.2 _ (List.append_eq_nil_iff.mp hx).1
        · rw [if_neg zy]
          have g := ihl 0 lo (none, none, none) cb (q.1.1, s.2.1, q.1.2.2 + 1) (.inl ⟨rfl, W1.2.2.1⟩) W1.2.2.2 hY (fun z => absurd z (by decide)) hcbM
          have R := yG_pr2 (s := s) (s' := (q.1.1, s.2.1, q.1.2.2 + 1)) rfl st2 (pre yF_x.1) g.1
          generalize yE_T pl tm U base l (q.1.1, s.2.1, q.1.2.2 + 1) = q3 at R g
          have nx : ∀ n, yz_x (.inner k p o l r) n = [] → ¬ q3.2 = 1 := fun n hx => by
            rw [yz_x, if_neg k0, if_neg (show ¬ k = 1 by omega), if_neg k2, if_neg (show ¬ k = 3 by omega), if_neg (show ¬ k = 4 by omega), if_pos k5] at hx
            exact g.2 _ (List.append_eq_nil_iff.mp hx).2
          by_cases z3 : q3.2 = 0
          · rw [if_pos z3]
            by_cases zf : yz_f r = true
            · rw [if_pos zf]
              rw [if_pos zf, lv zf] at hcb
              rw [hcb] at R ⊢
              exact ⟨R, nx⟩
            · rw [if_neg zf]
              rw [if_neg zf] at hcb
              refine ⟨?_, fun n _ => (show ¬ (0 : Nat) = 1 by decide)⟩
              rw [hcb] at R ⊢
              exact yG_sq R z3 (yG_pr2 (s' := (q3.1.1, q3.1.2.1, q3.1.2.2 + 1)) (k := 1) rfl rfl (yF_a (Nat.le_refl _)) yG_0)
          · rw [if_neg z3]
            exact ⟨yG_st R z3, nx⟩
      · rw [if_neg z]
        exact ⟨⟨by omega, fun w => by omega, a3, fun w => absurd w z, a4.2⟩, fun n _ => by omega⟩
    rw [if_neg k5] at W1
    by_cases k1 : k = 1
    · rw [if_pos k1] at W1
      rw [if_pos k1, if_pos k1]
      have g := ihl 1 lo (yP_T B r E c) (yP_T B r E c) s (.inr ⟨rfl, W1.1⟩) W1.2 hY (fun _ => rfl) hc'
      refine ⟨yG_fi2 g.1 (fun z => (go _).1), fun n hx => ?_⟩
      rw [yz_x, if_neg k0, if_pos k1] at hx
      obtain ⟨x1, x2⟩ := List.append_eq_nil_iff.mp hx
      split
      · exact (go _).2 _ x1
      · exact g.2 _ x2
    rw [if_neg k1] at W1
    rw [if_neg k1, if_neg k1, if_neg k2, if_neg k2]
    by_cases k3 : k = 3
    · rw [if_pos k3, if_pos k3]
      refine ⟨⟨by show 1 ≤ 4; omega, fun _ => rfl, by show s.2.2 ≤ s.2.2 + 1; omega, fun z => absurd z (show ¬ (1 : Nat) = 0 by decide), fun _ => ?_, fun z => absurd z (show ¬ (1 : Nat) = 2 by decide), fun z => absurd z (show ¬ ((1 : Nat) = 3 ∨ (1 : Nat) = 4) by decide)⟩, fun n hx => ?_⟩
      · show yF_le (some (s.2.2 + 1 - s.2.2)) (some 1)
        rw [Nat.add_sub_cancel_left]; exact yF_l0
      · rw [yz_x, if_neg k0, if_neg k1, if_neg k2, if_pos k3] at hx
        exact absurd (List.append_eq_nil_iff.mp hx).2 (by intro q; cases q)
    rw [if_neg k3, if_neg k3]
    by_cases k4 : k = 4
    · rw [if_pos k4, if_pos k4]
      refine ⟨⟨by show 2 ≤ 4; omega, fun _ => rfl, by show s.2.2 ≤ s.2.2 + 1; omega, fun z => absurd z (show ¬ (2 : Nat) = 0 by decide), fun z => absurd z (show ¬ (2 : Nat) = 1 by decide), fun _ => ?_, fun z => absurd z (show ¬ ((2 : Nat) = 3 ∨ (2 : Nat) = 4) by decide)⟩, fun n hx => (show ¬ (2 : Nat) = 1 by decide)⟩
      show yF_le (some (s.2.2 + 1 - s.2.2)) (some 1)
      rw [Nat.add_sub_cancel_left]; exact yF_l0
    rw [if_neg k4, if_neg k4, if_neg k5, if_neg k5]
    have g := ihl 0 lo (none, none, none) (yP_T B r E c) s (.inl ⟨rfl, W1.1⟩) W1.2 hY (fun z => absurd z (by decide)) hc'
    refine ⟨yG_fi2 g.1 (fun z => (go _).1), fun n hx => ?_⟩
    rw [yz_x, if_neg k0, if_neg k1, if_neg k2, if_neg k3, if_neg k4, if_neg k5] at hx
    obtain ⟨x1, x2⟩ := List.append_eq_nil_iff.mp hx
    split
    · exact (go _).2 _ x1
    · exact g.2 _ x2
/-- all units -/
theorem yG_Us {X Y : Nat → Nat} {kb : Nat → yK} {pl : Nat → Nat} {tm : Nat → Nat → (Nat → Int32) → Nat → Int32} {T : Nat → ys} {nb : Nat} (hn : nb ≤ 16) (hX : ∀ u, u < nb → Y u ≤ X u ∧ X u ≤ 100000) (ht : yE_ht tm) (W : ∀ u, u < nb → yz_st (T u) ∧ (∀ n, yz_x (T u) n = []) ∧ yz_W X Y kb u (T u) (Y u)) (hP : ∀ u, u < nb → (kb u).1 = 1 → yE_dj X kb pl u (pl u)) : ∀ b, b ≤ nb → yG_U X kb pl (yV_B T b) b (yE_U T pl tm b) := by
  have hw : ∀ b, b ≤ nb → yE_hU X kb pl b (yE_U T pl tm b) := yE_Uw hn hX ht (fun u hu => (W u hu).2.2)
  intro b
  induction b with
  | zero => intro _ u base s hu; omega
  | succ b ih =>
    intro hb u base s hu dj
    unfold yG_r
    rw [yE_U, show yV_B T (b + 1) u = if u = b then yV_u (yV_W (yV_B T b) (T b)) else yV_B T b u from rfl]
    by_cases z : u = b
    · rw [if_pos z, if_pos z]
      subst z
      obtain ⟨w1, w2, w3⟩ := W u (by omega)
      have H : yG_h X Y kb pl tm (yV_B T u) u base (yE_U T pl tm u) := ⟨by omega, ⟨(hX u (by omega)).1, fun w hw => (hX w (by omega)).2⟩, ih (by omega), hw u (by omega), ht, fun w hw2 hk => hP w (by omega) hk, dj⟩
      obtain ⟨R, nR⟩ := yG_T H (T u) 0 (Y u) (none, none, none) (some 0, none, none) s (.inl ⟨rfl, w1⟩) w3 (Nat.le_refl _) (fun z => absurd z (by decide)) (yF_nM (x := 0) (.inl rfl))
      have n1 := nR 0 (w2 0)
      generalize yE_T pl tm (yE_U T pl tm u) base (T u) s = q at R n1
      obtain ⟨r1, r2, r3, r4⟩ := R
      have eW : yV_W (yV_B T u) (T u) = yF_M (yP_T (yV_B T u) (T u) (none, none, none) (some 0, none, none)) := by
        unfold yV_W yF_M
        rw [yF_out (T u) (none, none, none) (some 0, none, none) 0 (w2 0) rfl rfl]
        rfl
      have le : yF_le (some (q.1.2.2 - s.2.2)) (yV_W (yV_B T u) (T u)) := by
        rw [eW]
        have : q.2 = 0 ∨ q.2 = 2 ∨ (q.2 = 3 ∨ q.2 = 4) := by omega
        rcases this with z | z | z
        · refine yF_lt ?_ yF_Mc.1
          have := (r4.1 z).1
          exact this
        · exact yF_lt (r4.2.2.1 z) yF_Mc.2.2
        · exact r4.2.2.2 z
      obtain ⟨y, y1, y2⟩ := le _ rfl
      refine ⟨?_, fun z => r2 ?_, r3, ?_⟩
      · show (if q.2 = 2 then 0 else q.2) = 0 ∨ (if q.2 = 2 then 0 else q.2) = 3 ∨ (if q.2 = 2 then 0 else q.2) = 4
        split <;> omega
      · have z' : (if q.2 = 2 then 0 else q.2) = 0 := z
        split at z' <;> omega
      · rw [y1]
        show q.1.2.2 + 1 ≤ s.2.2 + (y + 1)
        omega
    · rw [if_neg z, if_neg z]
      exact ih (by omega) u base s (by omega) dj
end YGV
