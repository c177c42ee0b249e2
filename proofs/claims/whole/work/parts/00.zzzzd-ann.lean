/-! The judge: what is known of an expression's nodes, once it has been judged. -/
/-- what a settled variable is -/
theorem yb_so {LC LM : List (List Int32)} {nb nf v : Nat} {F : Nat → Nat} {q : Int32} {h g : zs_H} (I : zv_I LC LM nb nf (F nb) F q h g) (hb : 0 < nb) (h1 : F (nb - 1) ≤ v) (h2 : v < F nb) : ((g.2.1 92) v = 0 → (h.2.1 30) (32 + v) = -1) ∧ ((g.2.1 92) v = 1 → (h.2.1 30) (32 + v) = -2) := by
  obtain ⟨_, _, _, _, _, _, _, _, _, _, _, q8, _⟩ := I.2.2.2.1.2.1 (nb - 1) v (by omega) h1 (by rw [show nb - 1 + 1 = nb by omega]; exact h2) h2
  rcases q8 with ⟨e1, e2, _⟩ | ⟨e1, e2, _⟩ | ⟨_, _, _, e2, _⟩
  · exact ⟨fun _ => e1, fun z => by rw [e2] at z; exact absurd z (by decide)⟩
  · exact ⟨fun z => by rw [e2] at z; exact absurd z (by decide), fun _ => e1⟩
  · exact ⟨fun z => by rw [e2] at z; exact absurd z (by decide), fun z => by rw [e2] at z; exact absurd z (by decide)⟩
/-- the variable u of the block here, that has this name -/
def yb_V (F : Nat → Nat) (bb : Nat) (h : zs_H) (v : Int32) (u x : Nat) : Prop := F bb ≤ u ∧ u < F (bb + 1) ∧ (h.2.1 28) (32 + u) = v ∧ (∀ j, F bb ≤ j → j < F (bb + 1) → (h.2.1 28) (32 + j) = v → j = u) ∧ (h.2.1 32) (32 + u) = nI x
def yb_3 (h : zs_H) (P : Nat → Prop) (xl : Int32) (a : Nat) (x5 x6 : Int32) : Prop := xl = nI a ∧ P a ∧ x5 = (h.2.1 18) a ∧ x6 = (if x5 = -1 then -1 else (h.2.1 18) x5.toNatClampNeg) ∧ (x5 = -1 ∨ ∃ b, b < 32784 ∧ x5 = nI b ∧ P b) ∧ (x6 = -1 ∨ ∃ b, b < 32784 ∧ x6 = nI b ∧ P b)
/-- the value of a parameter fits its input -/
def yb_py (h : zs_H) (P : Nat → Prop) (cv a : Nat) : Prop := ∃ c, c < 32784 ∧ (h.2.1 17) a = nI c ∧ P c ∧ ((h.2.1 31) cv = 0 → (h.2.1 14) c = 0)
/-- what is told of types at assignments and contacts -/
def yb_sy (h : zs_H) (P : Nat → Prop) (kd : Nat) (xl : Int32) : Prop := (kd = 12 → ∃ a b, xl = nI a ∧ P a ∧ (h.2.1 18) a = nI b ∧ P b ∧ ((h.2.1 14) a = 0 → (h.2.1 14) b = 0)) ∧ (kd = 25 → ∃ a, xl = nI a ∧ P a ∧ (h.2.1 14) a = 0)
theorem yb_sy0 {h : zs_H} {P : Nat → Prop} {kd : Nat} {xl : Int32} (h1 : ¬ kd = 12) (h2 : ¬ kd = 25) : yb_sy h P kd xl := ⟨fun z => absurd z h1, fun z => absurd z h2⟩
/-- the arguments of a call, nodes of P, fit the inputs -/
def yb_fit (h : zs_H) (P : Nat → Prop) : List Nat → Int32 → Prop
  | [], _ => True
  | w :: ws, x => ∃ a, x = nI a ∧ a < 32784 ∧ P a ∧ ((h.2.1 31) (32 + w) = 0 → (h.2.1 14) a = 0) ∧ yb_fit h P ws ((h.2.1 18) a)
/-- two operands of a BOOL -/
def yb_t2 (h : zs_H) (s ty a b : Nat) : Prop := ty = 0 → (2 < s ∧ s < 9) ∨ (s < 3 ∧ (h.2.1 14) a = 0 ∧ (h.2.1 14) b = 0)
/-- the parameters of an invocation: their inputs' cells -/
def yb_pr (F : Nat → Nat) (bb : Nat) (h g : zs_H) (P Q : Nat → Prop) (B x : Nat) : Nat → Int32 → Int32 → Prop
  | 0, _, _ => True
  | n + 1, p, p' => ∃ a b cv off, (P a ∧ a < 32784 ∧ p = nI a) ∧ (Q b ∧ b < 33500 ∧ p' = nI b ∧ (g.2.1 72) b = 14) ∧ (h.2.1 16) a = nI cv ∧ cv < 32 + F (bb + 1) ∧ (h.2.1 32) cv = nI off ∧ (g.2.1 101) b = nI (x + off) ∧ (x + off < 600000000 ∧ zi_B F B cv ∧ (h.2.1 29) cv = 1 ∧ yb_py h P cv a) ∧ yb_pr F bb h g P Q B x n ((h.2.1 18) a) ((g.2.1 78) b)
/-- the constants of a FOR -/
def yb_fo (h : zs_H) (P : Nat → Prop) (xl : Int32) : Prop := ∃ a b c st, (xl = nI a ∧ P a ∧ (h.2.1 18) a = nI b ∧ P b ∧ (h.2.1 18) b = nI c ∧ P c) ∧ ((zv_kc h c ∧ st = (h.2.1 16) c) ∨ (¬ zv_kc h c ∧ st = 1)) ∧ ¬ st = 0 ∧ ∃ n, n ≤ 1000000 ∧ f_Cd_times ((h.2.1 16) a) ((h.2.1 16) b) st = some (Int64.ofNat n)
abbrev yb_pl : List Nat := [11, 12, 15, 16, 17, 18, 20, 21, 22, 23, 24, 25, 26, 27, 28, 29]
def yb_S (F : Nat → Nat) (bb : Nat) (h g : zs_H) (P Q : Nat → Prop) (kd : Nat) (v : Int32) (i k : Nat) (xl : Int32) (n : Nat) : Prop := kd = 38 ∨
  (kd ∈ yb_pl ∧ (h.2.1 13) i = nI kd ∧ (h.2.1 17) i = xl ∧ (h.2.1 16) i = v ∧ yb_sy h P kd xl) ∨
  (kd = 13 ∧ (h.2.1 13) i = 13 ∧ (h.2.1 17) i = xl ∧ ∃ u x B, yb_V F bb h v u x ∧ (h.2.1 16) i = nI (32 + u) ∧ (h.2.1 30) (32 + u) = nI B ∧ B < 9 + bb ∧ (g.2.1 101) k = nI x ∧ (g.2.1 102) k = nI (if B < 9 then 100 + B else B - 9) ∧ yb_pr F bb h g P Q B x n xl ((g.2.1 76) k)) ∨
  (kd = 14 ∧ (h.2.1 13) i = 14 ∧ (h.2.1 17) i = xl) ∨
  (kd = 19 ∧ (h.2.1 13) i = 19 ∧ (h.2.1 17) i = xl ∧ ∃ u x ty, yb_V F bb h v u x ∧ (h.2.1 16) i = nI (32 + u) ∧ (h.2.1 14) i = nI ty ∧ (h.2.1 31) (32 + u) = nI ty ∧ ((ty = 1 ∨ ty = 2) ∧ (h.2.1 30) (32 + u) = -1) ∧ (g.2.1 101) k = nI x ∧ yb_fo h P xl)
theorem yb_SE {F : Nat → Nat} {bb : Nat} {h g : zs_H} {P Q : Nat → Prop} {kd : Nat} {v : Int32} {i k : Nat} {xl : Int32} {n : Nat} (S : yb_S F bb h g P Q kd v i k xl n) : ¬ kd ∈ [6, 30, 31, 32, 33, 34, 35, 36] := by
  have key : ∀ z ∈ yb_pl, ¬ z ∈ [6, 30, 31, 32, 33, 34, 35, 36] := by decide
  rcases S with e | ⟨e, _⟩ | ⟨e, _⟩ | ⟨e, _⟩ | ⟨e, _⟩
  · rw [e]; decide
  · exact key _ e
  · rw [e]; decide
  · rw [e]; decide
  · rw [e]; decide
def yb_N (F : Nat → Nat) (bb : Nat) (h g : zs_H) (P Q : Nat → Prop) (kd : Nat) (v : Int32) (i k : Nat) (xl : Int32) (n : Nat) : Prop := yb_S F bb h g P Q kd v i k xl n ∨ ∃ ty, ty < 3 ∧ (h.2.1 14) i = nI ty ∧ (g.2.1 100) k = nI ty ∧
  ((kd = 6 ∧ (h.2.1 13) i = 6 ∧ ∃ u x, yb_V F bb h v u x ∧ (h.2.1 16) i = nI (32 + u) ∧ (g.2.1 101) k = nI x ∧ (h.2.1 30) (32 + u) = -1 ∧ (h.2.1 31) (32 + u) = nI ty) ∨
   ((kd = 30 ∨ kd = 31) ∧ (h.2.1 13) i = nI kd ∧ (h.2.1 16) i = v ∧ (kd = 30 → ¬ ty = 0) ∧ (kd = 31 → ty = 0)) ∨
   (kd = 32 ∧ (h.2.1 13) i = 32 ∧ (h.2.1 17) i = xl ∧ ∃ u x, yb_V F bb h v u x ∧ (h.2.1 16) i = nI (32 + u) ∧ (g.2.1 101) k = nI x ∧ (h.2.1 30) (32 + u) = -2 ∧ (h.2.1 31) (32 + u) = nI ty) ∨
   (kd = 33 ∧ (h.2.1 13) i = 33 ∧ (h.2.1 17) i = xl ∧ ∃ a u x off, xl = nI a ∧ P a ∧ yb_V F bb h v u x ∧ (h.2.1 16) i = nI (32 + u) ∧ (h.2.1 16) a = nI off ∧ (g.2.1 101) k = nI (x + off) ∧ (x + off < 600000000 ∧ ∃ B cv, (h.2.1 30) (32 + u) = nI B ∧ B < 9 + bb ∧ zi_B F B cv ∧ cv < 32 + F (bb + 1) ∧ (h.2.1 32) cv = nI off ∧ ((h.2.1 29) cv = 1 ∨ (h.2.1 29) cv = 2) ∧ (h.2.1 31) cv = nI ty)) ∨
   (kd = 34 ∧ (h.2.1 13) i = 34 ∧ (h.2.1 17) i = xl ∧ ∃ b, b < bb ∧ (h.2.1 16) i = nI (9 + b) ∧ (g.2.1 102) k = nI b ∧ n = (zv_il h (F (b + 1) - F b) (F b)).length ∧ (h.2.1 21) (9 + b) = 1 ∧ F b ≤ F (b + 1) ∧ ∃ c, v = nI c ∧ c < 6000 ∧ ¬ (50 ≤ c ∧ c < 60) ∧ F b < F (b + 1) ∧ (h.2.1 31) (32 + F b) = nI ty ∧ yb_fit h P (zv_il h (F (b + 1) - F b) (F b)) xl) ∨
   (kd = 34 ∧ ∃ s a x5 x6, s < 10 ∧ v = nI (50 + s) ∧ (n = ya_ar s ∧ (s = 0 ∨ s = 5 ∨ s = 6 → (h.2.1 14) a = nI ty) ∧ yb_st h s ty x5 x6) ∧ (g.2.1 102) k = nI (100 + s) ∧ yb_3 h P xl a x5 x6 ∧ (((ya_con h (nI a) ∧ ya_con h x5 ∧ ya_con h x6) ∧ (h.2.1 13) i = 30 ∧ f_Cd_standard (nI s) (nI ty) ((h.2.1 16) a) (ya_val h x5) (ya_val h x6) = some ((h.2.1 16) i)) ∨ (¬ (ya_con h (nI a) ∧ ya_con h x5 ∧ ya_con h x6) ∧ (h.2.1 13) i = 39 ∧ (h.2.1 16) i = nI s ∧ (h.2.1 17) i = xl))) ∨
   (kd = 35 ∧ ∃ s a b, s < 14 ∧ v = nI s ∧ xl = nI a ∧ P a ∧ (h.2.1 18) a = nI b ∧ (P b ∧ yb_t2 h s ty a b) ∧ (((zv_kc h a ∧ zv_kc h b ∧ f_Cd_isByZero (f_Cd_operation (nI s) (nI ty)) ((h.2.1 16) b) = 0) ∧ (h.2.1 13) i = 30 ∧ f_Cd_two (f_Cd_operation (nI s) (nI ty)) ((h.2.1 16) a) ((h.2.1 16) b) = some ((h.2.1 16) i)) ∨ (¬ (zv_kc h a ∧ zv_kc h b ∧ f_Cd_isByZero (f_Cd_operation (nI s) (nI ty)) ((h.2.1 16) b) = 0) ∧ (h.2.1 13) i = 35 ∧ (h.2.1 16) i = v ∧ (h.2.1 17) i = xl))) ∨
   (kd = 36 ∧ ∃ s a, s < 2 ∧ v = nI s ∧ xl = nI a ∧ (P a ∧ (ty = 0 → s = 1)) ∧ ((zv_kc h a ∧ (h.2.1 13) i = 30 ∧ (h.2.1 16) i = f_Cd_one (f_Cd_turning (if s = 0 then 1 else 0) (nI ty)) ((h.2.1 16) a)) ∨ (¬ zv_kc h a ∧ (h.2.1 13) i = 36 ∧ (h.2.1 16) i = v ∧ (h.2.1 17) i = xl))))
/-- a forest of expressions, up to (e, e') -/
def yb_F (F : Nat → Nat) (bb : Nat) (h g : zs_H) (P Q : Nat → Prop) : zt_T → Int32 → Int32 → Int32 → Int32 → Prop
  | .leaf, x, x', e, e' => x = e ∧ x' = e'
  | .inner kd kv _ l r, x, x', e, e' => ∃ (i k : Nat) (xl : Int32), (P i ∧ i < 32784 ∧ x = nI i) ∧ (Q k ∧ k < 33500 ∧ x' = nI k ∧ (g.2.1 72) k = nI (zt_km kd)) ∧ yb_N F bb h g P Q kd kv.2 i k xl (zt_ln l) ∧ yb_F F bb h g P Q l xl ((g.2.1 76) k) (-1) (-1) ∧ yb_F F bb h g P Q r ((h.2.1 18) i) ((g.2.1 78) k) e e'
def yb_fr (F : Nat → Nat) (bb : Nat) (P Q : Nat → Prop) (h g h' g' : zs_H) : Prop :=
  (∀ j, P j → j < 32784 ∧ (h'.2.1 13) j = (h.2.1 13) j ∧ (h'.2.1 14) j = (h.2.1 14) j ∧ (h'.2.1 16) j = (h.2.1 16) j ∧ (h'.2.1 17) j = (h.2.1 17) j ∧ (h'.2.1 18) j = (h.2.1 18) j) ∧
  (∀ j, Q j → (g'.2.1 100) j = (g.2.1 100) j ∧ (¬ (g.2.1 72) j = 16 → ¬ (g.2.1 72) j = 25 → (g'.2.1 101) j = (g.2.1 101) j) ∧ (¬ (g.2.1 72) j = 19 → (g'.2.1 102) j = (g.2.1 102) j) ∧ (g'.2.1 76) j = (g.2.1 76) j ∧ (g'.2.1 78) j = (g.2.1 78) j ∧ (g'.2.1 72) j = (g.2.1 72) j) ∧
  (∀ j, j < 32 + F (bb + 1) → (h'.2.1 28) j = (h.2.1 28) j ∧ (h'.2.1 29) j = (h.2.1 29) j ∧ (h'.2.1 32) j = (h.2.1 32) j ∧ (h'.2.1 30) j = (h.2.1 30) j ∧ (h'.2.1 31) j = (h.2.1 31) j) ∧ (∀ b, b < bb → (h'.2.1 21) (9 + b) = (h.2.1 21) (9 + b)) ∧ (∀ b, b < bb → F (b + 1) ≤ F (bb + 1))
/-- a kind at the top of a forest -/
def zt_has (c : Nat) : zt_T → Prop
  | .leaf => False
  | .inner kd _ _ _ r => kd = c ∨ zt_has c r
theorem yb_ilf {h h' : zs_H} : ∀ m v, (∀ j, v ≤ j → j < v + m → (h'.2.1 29) (32 + j) = (h.2.1 29) (32 + j)) → zv_il h' m v = zv_il h m v := by
  intro m
  induction m with
  | zero => intro v _; rfl
  | succ m ih =>
    intro v H
    show (if (h'.2.1 29) (32 + v) = 1 then v :: zv_il h' m (v + 1) else zv_il h' m (v + 1)) = (if (h.2.1 29) (32 + v) = 1 then v :: zv_il h m (v + 1) else zv_il h m (v + 1))
    rw [H v (Nat.le_refl _) (by omega), ih (v + 1) (fun j h1 h2 => H j (by omega) (by omega))]
theorem zv_ilm (h : zs_H) : ∀ m v w, w ∈ zv_il h m v → v ≤ w ∧ w < v + m ∧ (h.2.1 29) (32 + w) = 1 := by
  intro m
  induction m with
  | zero => intro v w hw; cases hw
  | succ m ih =>
    intro v w hw
    have hw' : w ∈ (if (h.2.1 29) (32 + v) = 1 then v :: zv_il h m (v + 1) else zv_il h m (v + 1)) := hw
    by_cases z : (h.2.1 29) (32 + v) = 1
    · rw [if_pos z] at hw'
      rcases List.mem_cons.mp hw' with e | e
      · rw [e]; exact ⟨Nat.le_refl _, by omega, z⟩
      · obtain ⟨a1, a2, a3⟩ := ih _ _ e; exact ⟨by omega, by omega, a3⟩
    · rw [if_neg z] at hw'
      obtain ⟨a1, a2, a3⟩ := ih _ _ hw'; exact ⟨by omega, by omega, a3⟩
section YBF
variable {F : Nat → Nat} {bb : Nat} {P Q : Nat → Prop} {h g h' g' : zs_H}
theorem yb_Vf (H : yb_fr F bb P Q h g h' g') {v : Int32} {u x : Nat} (V : yb_V F bb h v u x) : yb_V F bb h' v u x := by
  obtain ⟨_, _, H3, _, _⟩ := H
  obtain ⟨a1, a2, a3, a4, a5⟩ := V
  exact ⟨a1, a2, by rw [(H3 (32 + u) (by omega)).1]; exact a3, fun j j1 j2 j3 => a4 j j1 j2 (by rw [← (H3 (32 + j) (by omega)).1]; exact j3), by rw [(H3 (32 + u) (by omega)).2.2.1]; exact a5⟩
theorem yb_kcf (H : yb_fr F bb P Q h g h' g') {a : Nat} (ha : P a) : zv_kc h' a ↔ zv_kc h a := by
  unfold zv_kc
  rw [(H.1 a ha).2.1]
theorem yb_conf (H : yb_fr F bb P Q h g h' g') {x : Int32} (hx : x = -1 ∨ ∃ b, b < 32784 ∧ x = nI b ∧ P b) : (ya_con h' x ↔ ya_con h x) ∧ ya_val h' x = ya_val h x := by
  rcases hx with e | ⟨b, b1, b2, b3⟩
  · unfold ya_con ya_val
    rw [if_pos e, if_pos e]
    exact ⟨⟨fun _ => .inl e, fun _ => .inl e⟩, rfl⟩
  · unfold ya_con ya_val
    rw [b2, if_neg (zc_m1 (by omega)), if_neg (zc_m1 (by omega)), nI_clamp (show b < 2147483648 by omega), yb_kcf H b3, (H.1 b b3).2.2.2.1]
    exact ⟨Iff.rfl, rfl⟩
theorem yb_pyf (H : yb_fr F bb P Q h g h' g') {cv a : Nat} (ha : P a) (hc : cv < 32 + F (bb + 1)) (A : yb_py h P cv a) : yb_py h' P cv a := by
  obtain ⟨c, c0, c1, c2, c3⟩ := A
  exact ⟨c, c0, by rw [(H.1 a ha).2.2.2.2.1]; exact c1, c2, by rw [(H.2.2.1 cv hc).2.2.2.2, (H.1 c c2).2.2.1]; exact c3⟩
theorem yb_syf (H : yb_fr F bb P Q h g h' g') {kd : Nat} {xl : Int32} (A : yb_sy h P kd xl) : yb_sy h' P kd xl := by
  refine ⟨fun z => ?_, fun z => ?_⟩
  · obtain ⟨a, b, a1, a2, a3, a4, a5⟩ := A.1 z
    exact ⟨a, b, a1, a2, by rw [(H.1 a a2).2.2.2.2.2]; exact a3, a4, by rw [(H.1 a a2).2.2.1, (H.1 b a4).2.2.1]; exact a5⟩
  · obtain ⟨a, a1, a2, a3⟩ := A.2 z
    exact ⟨a, a1, a2, by rw [(H.1 a a2).2.2.1]; exact a3⟩
theorem yb_fitf (H : yb_fr F bb P Q h g h' g') : ∀ (ws : List Nat) (x : Int32), (∀ w, w ∈ ws → w < F (bb + 1)) → yb_fit h P ws x → yb_fit h' P ws x := by
  intro ws
  induction ws with
  | nil => intro x _ _; trivial
  | cons w ws ih =>
    intro x hw ⟨a, a1, a2, a3, a4, a5⟩
    refine ⟨a, a1, a2, a3, ?_, ?_⟩
    · rw [(H.2.2.1 (32 + w) (by have := hw w (List.mem_cons_self ..); omega)).2.2.2.2, (H.1 a a3).2.2.1]; exact a4
    · rw [(H.1 a a3).2.2.2.2.2]; exact ih _ (fun v hv => hw v (List.mem_cons_of_mem _ hv)) a5
theorem yb_stf (H : yb_fr F bb P Q h g h' g') {s ty : Nat} {x5 x6 : Int32} (y5 : x5 = -1 ∨ ∃ b, b < 32784 ∧ x5 = nI b ∧ P b) (y6 : x6 = -1 ∨ ∃ b, b < 32784 ∧ x6 = nI b ∧ P b) (A : yb_st h s ty x5 x6) : yb_st h' s ty x5 x6 := by
  intro z
  rcases A z with q | ⟨q1, q2⟩
  · exact .inl q
  · refine .inr ⟨q1, fun b hb hx => ?_⟩
    have pb : P b := by
      rcases hx with hx | hx
      · rcases y5 with w | ⟨c, c1, c2, c3⟩
        · rw [hx] at w; exact absurd w (zc_m1 (by omega))
        · have : c = b := (nI_eq (by omega) (by omega)).mp (c2.symm.trans hx)
          rw [← this]; exact c3
      · rcases y6 with w | ⟨c, c1, c2, c3⟩
        · rw [hx] at w; exact absurd w (zc_m1 (by omega))
        · have : c = b := (nI_eq (by omega) (by omega)).mp (c2.symm.trans hx)
          rw [← this]; exact c3
    rw [(H.1 b pb).2.2.1]; exact q2 b hb hx
theorem yb_prf (H : yb_fr F bb P Q h g h' g') {B x : Nat} : ∀ (n : Nat) (p p' : Int32), yb_pr F bb h g P Q B x n p p' → yb_pr F bb h' g' P Q B x n p p' := by
  intro n
  induction n with
  | zero => intro p p' _; trivial
  | succ n ih =>
    intro p p' ⟨a, b, cv, off, ⟨a1, a2, a3⟩, ⟨b1, b2, b3, b4⟩, c1, c2, c3, c4, c5, c6⟩
    obtain ⟨_, _, _, i3, _, i5⟩ := H.1 a a1
    obtain ⟨_, k2, _, _, k5, k6⟩ := H.2.1 b b1
    refine ⟨a, b, cv, off, ⟨a1, a2, a3⟩, ⟨b1, b2, b3, by rw [k6]; exact b4⟩, by rw [i3]; exact c1, c2, by rw [(H.2.2.1 cv c2).2.2.1]; exact c3, by rw [k2 (by rw [b4]; decide) (by rw [b4]; decide)]; exact c4, ⟨c5.1, c5.2.1, by rw [(H.2.2.1 cv c2).2.1]; exact c5.2.2.1, yb_pyf H a1 c2 c5.2.2.2⟩, ?_⟩
    rw [i5, k5]; exact ih _ _ c6
theorem yb_fof (H : yb_fr F bb P Q h g h' g') {xl : Int32} (A : yb_fo h P xl) : yb_fo h' P xl := by
  obtain ⟨a, b, c, st, ⟨a1, a2, a3, a4, a5, a6⟩, a7, a8, a9⟩ := A
  obtain ⟨_, _, _, i3, _, i5⟩ := H.1 a a2
  obtain ⟨_, _, _, j3, _, j5⟩ := H.1 b a4
  obtain ⟨_, _, _, k3, _, _⟩ := H.1 c a6
  refine ⟨a, b, c, st, ⟨a1, a2, by rw [i5]; exact a3, a4, by rw [j5]; exact a5, a6⟩, ?_, a8, by rw [i3, j3]; exact a9⟩
  rw [yb_kcf H a6, k3]; exact a7
theorem yb_Nf (H : yb_fr F bb P Q h g h' g') {kd i k n : Nat} {v xl : Int32} (hi : P i) (hk : Q k) (hkm : (g.2.1 72) k = nI (zt_km kd)) (N : yb_N F bb h g P Q kd v i k xl n) : yb_N F bb h' g' P Q kd v i k xl n := by
  obtain ⟨i0, i1, i2, i3, i4, i5⟩ := H.1 i hi
  obtain ⟨k1, k2, k3, k4, k5, k6⟩ := H.2.1 k hk
  rcases N with N | ⟨ty, t1, t2, t3, N⟩
  · left
    rcases N with e | ⟨e, n1, n2, n3⟩ | ⟨e, n1, n2, u, x, B, n3, n4, n5, n6, n7, n8, n9⟩ | ⟨e, n1, n2⟩ | ⟨e, n1, n2, u, x, ty, n3, n4, n5, n6, n7, n8, n9⟩
    · exact .inl e
    · exact .inr (.inl ⟨e, by rw [i1]; exact n1, by rw [i4]; exact n2, by rw [i3]; exact n3.1, yb_syf H n3.2⟩)
    · subst e
      have e1 : ¬ (g.2.1 72) k = 16 := by rw [hkm]; decide
      have e2 : ¬ (g.2.1 72) k = 25 := by rw [hkm]; decide
      have e3 : ¬ (g.2.1 72) k = 19 := by rw [hkm]; decide
      have hu := n3.2.1
      exact .inr (.inr (.inl ⟨rfl, by rw [i1]; exact n1, by rw [i4]; exact n2, u, x, B, yb_Vf H n3, by rw [i3]; exact n4, by rw [(H.2.2.1 (32 + u) (by omega)).2.2.2.1]; exact n5, n6, by rw [k2 e1 e2]; exact n7, by rw [k3 e3]; exact n8, by rw [k4]; exact yb_prf H _ _ _ n9⟩))
    · exact .inr (.inr (.inr (.inl ⟨e, by rw [i1]; exact n1, by rw [i4]; exact n2⟩)))
    · subst e
      have e1 : ¬ (g.2.1 72) k = 16 := by rw [hkm]; decide
      have e2 : ¬ (g.2.1 72) k = 25 := by rw [hkm]; decide
      have hu := n3.2.1
      exact .inr (.inr (.inr (.inr ⟨rfl, by rw [i1]; exact n1, by rw [i4]; exact n2, u, x, ty, yb_Vf H n3, by rw [i3]; exact n4, by rw [i2]; exact n5, by rw [(H.2.2.1 (32 + u) (by omega)).2.2.2.2]; exact n6, ⟨n7.1, by rw [(H.2.2.1 (32 + u) (by omega)).2.2.2.1]; exact n7.2⟩, by rw [k2 e1 e2]; exact n8, yb_fof H n9⟩)))
  · refine .inr ⟨ty, t1, by rw [i2]; exact t2, by rw [k1]; exact t3, ?_⟩
    rw [i1, i3, i4]
    rcases N with ⟨e, n1, u, x, n2, n3, n4⟩ | ⟨e, n1, n2⟩ | ⟨e, n1, n2, u, x, n3, n4, n5⟩ | ⟨e, n1, n2, a, u, x, off, n3, n4, n5, n6, n7, n8, n9⟩ | ⟨e, n1, n2, b, n3, n4, n5, n6, n7, n8⟩ | ⟨e, s, a, x5, x6, n1, n2, n3, n4, ⟨y1, y2, y3, y4, y5, y6⟩, n6⟩ | ⟨e, s, a, b, n1, n2, n3, n4, n5, n6, n7⟩ | ⟨e, s, a, n1, n2, n3, n4, n5⟩
    · subst e
      have hu := n2.2.1
      exact .inl ⟨rfl, n1, u, x, yb_Vf H n2, n3, by rw [k2 (by rw [hkm]; decide) (by rw [hkm]; decide)]; exact n4.1, by rw [(H.2.2.1 (32 + u) (by omega)).2.2.2.1]; exact n4.2.1, by rw [(H.2.2.1 (32 + u) (by omega)).2.2.2.2]; exact n4.2.2⟩
    · exact .inr (.inl ⟨e, n1, n2⟩)
    · subst e
      have hu := n3.2.1
      exact .inr (.inr (.inl ⟨rfl, n1, n2, u, x, yb_Vf H n3, n4, by rw [k2 (by rw [hkm]; decide) (by rw [hkm]; decide)]; exact n5.1, by rw [(H.2.2.1 (32 + u) (by omega)).2.2.2.1]; exact n5.2.1, by rw [(H.2.2.1 (32 + u) (by omega)).2.2.2.2]; exact n5.2.2⟩))
    · subst e
      have hu := n5.2.1
      obtain ⟨n9, B, cv, w1, w2, w3, w4, w5, w6⟩ := n9
      exact .inr (.inr (.inr (.inl ⟨rfl, n1, n2, a, u, x, off, n3, n4, yb_Vf H n5, n6, by rw [(H.1 a n4).2.2.2.1]; exact n7, by rw [k2 (by rw [hkm]; decide) (by rw [hkm]; decide)]; exact n8, n9, B, cv, by rw [(H.2.2.1 (32 + u) (by omega)).2.2.2.1]; exact w1, w2, w3, w4, by rw [(H.2.2.1 cv w4).2.2.1]; exact w5, by rw [(H.2.2.1 cv w4).2.1]; exact w6.1, by rw [(H.2.2.1 cv w4).2.2.2.2]; exact w6.2⟩)))
    · subst e
      obtain ⟨_, c, n9, n10, n11, n12, n13, n14⟩ := id n8
      refine .inr (.inr (.inr (.inr (.inl ⟨rfl, n1, n2, b, n3, n4, by rw [k3 (by rw [hkm]; decide)]; exact n5, ?_, by rw [H.2.2.2.1 b n3]; exact n7, n8.1, c, n9, n10, n11, n12, by rw [(H.2.2.1 (32 + F b) (by have := H.2.2.2.2 b n3; omega)).2.2.2.2]; exact n13, ?_⟩))))
      · have := H.2.2.2.2 b n3
        rw [yb_ilf _ _ (fun j j1 j2 => (H.2.2.1 (32 + j) (by omega)).2.1)]
        exact n6
      · have := H.2.2.2.2 b n3
        rw [yb_ilf _ _ (fun j j1 j2 => (H.2.2.1 (32 + j) (by omega)).2.1)]
        refine yb_fitf H _ _ (fun w hw => ?_) n14
        obtain ⟨_, w2, _⟩ := zv_ilm h _ _ _ hw
        omega
    · subst e
      refine .inr (.inr (.inr (.inr (.inr (.inl ⟨rfl, s, a, x5, x6, n1, n2, ⟨n3.1, fun q => by rw [(H.1 a y2).2.2.1]; exact n3.2.1 q, yb_stf H y5 y6 n3.2.2⟩, by rw [k3 (by rw [hkm]; decide)]; exact n4, ⟨y1, y2, by rw [(H.1 a y2).2.2.2.2.2]; exact y3, ?_, y5, y6⟩, ?_⟩)))))
      · rcases y5 with z | ⟨b, b1, b2, b3⟩
        · rw [if_pos z]; rw [if_pos z] at y4; exact y4
        · rw [b2, if_neg (zc_m1 (by omega)), nI_clamp (show b < 2147483648 by omega)] at y4 ⊢
          rw [(H.1 b b3).2.2.2.2.2]; exact y4
      · have ca := yb_conf H (x := nI a) (.inr ⟨a, (H.1 a y2).1, rfl, y2⟩)
        have c5 := yb_conf H y5
        have c6 := yb_conf H y6
        rw [ca.1, c5.1, c6.1, c5.2, c6.2, (H.1 a y2).2.2.2.1]
        exact n6
    · refine .inr (.inr (.inr (.inr (.inr (.inr (.inl ⟨e, s, a, b, n1, n2, n3, n4, by rw [(H.1 a n4).2.2.2.2.2]; exact n5, ⟨n6.1, by unfold yb_t2; rw [(H.1 a n4).2.2.1, (H.1 b n6.1).2.2.1]; exact n6.2⟩, ?_⟩))))))
      rw [yb_kcf H n4, yb_kcf H n6.1, (H.1 a n4).2.2.2.1, (H.1 b n6.1).2.2.2.1]
      exact n7
    · refine .inr (.inr (.inr (.inr (.inr (.inr (.inr ⟨e, s, a, n1, n2, n3, n4, ?_⟩))))))
      rw [yb_kcf H n4.1, (H.1 a n4.1).2.2.2.1]
      exact n5
theorem yb_Ff (H : yb_fr F bb P Q h g h' g') : ∀ (t : zt_T) (x x' e e' : Int32), yb_F F bb h g P Q t x x' e e' → yb_F F bb h' g' P Q t x x' e e' := by
  intro t
  induction t with
  | leaf => intro x x' e e' A; exact A
  | inner kd kv o l r ihl ihr =>
    intro x x' e e' ⟨i, k, xl, ⟨i1, i2, i3⟩, ⟨k1, k2, k3, k4⟩, N, A, B⟩
    refine ⟨i, k, xl, ⟨i1, i2, i3⟩, ⟨k1, k2, k3, by rw [(H.2.1 k k1).2.2.2.2.2]; exact k4⟩, yb_Nf H i1 k1 k4 N, ?_, ?_⟩
    · rw [(H.2.1 k k1).2.2.2.1]; exact ihl _ _ _ _ A
    · rw [(H.1 i i1).2.2.2.2.2, (H.2.1 k k1).2.2.2.2.1]; exact ihr _ _ _ _ B
theorem yb_pym {P' : Nat → Prop} (hP : ∀ j, P j → P' j) {cv a : Nat} (A : yb_py h P cv a) : yb_py h P' cv a := by
  obtain ⟨c, c0, c1, c2, c3⟩ := A
  exact ⟨c, c0, c1, hP _ c2, c3⟩
theorem yb_sym {P' : Nat → Prop} (hP : ∀ j, P j → P' j) {kd : Nat} {xl : Int32} (A : yb_sy h P kd xl) : yb_sy h P' kd xl := by
  refine ⟨fun z => ?_, fun z => ?_⟩
  · obtain ⟨a, b, a1, a2, a3, a4, a5⟩ := A.1 z
    exact ⟨a, b, a1, hP _ a2, a3, hP _ a4, a5⟩
  · obtain ⟨a, a1, a2, a3⟩ := A.2 z
    exact ⟨a, a1, hP _ a2, a3⟩
theorem yb_fitm {P' : Nat → Prop} (hP : ∀ j, P j → P' j) : ∀ (ws : List Nat) (x : Int32), yb_fit h P ws x → yb_fit h P' ws x := by
  intro ws
  induction ws with
  | nil => intro x _; trivial
  | cons w ws ih =>
    intro x ⟨a, a1, a2, a3, a4, a5⟩
    exact ⟨a, a1, a2, hP _ a3, a4, ih _ a5⟩
theorem yb_prm {P' Q' : Nat → Prop} (hP : ∀ j, P j → P' j) (hQ : ∀ j, Q j → Q' j) {B x : Nat} : ∀ (n : Nat) (p p' : Int32), yb_pr F bb h g P Q B x n p p' → yb_pr F bb h g P' Q' B x n p p' := by
  intro n
  induction n with
  | zero => intro p p' _; trivial
  | succ n ih =>
    intro p p' ⟨a, b, cv, off, ⟨a1, a2, a3⟩, ⟨b1, b2, b3, b4⟩, c1, c2, c3, c4, c5, c6⟩
    exact ⟨a, b, cv, off, ⟨hP _ a1, a2, a3⟩, ⟨hQ _ b1, b2, b3, b4⟩, c1, c2, c3, c4, ⟨c5.1, c5.2.1, c5.2.2.1, yb_pym hP c5.2.2.2⟩, ih _ _ c6⟩
theorem yb_Nm {P' Q' : Nat → Prop} (hP : ∀ j, P j → P' j) (hQ : ∀ j, Q j → Q' j) {kd i k n : Nat} {v xl : Int32} (N : yb_N F bb h g P Q kd v i k xl n) : yb_N F bb h g P' Q' kd v i k xl n := by
  rcases N with N | ⟨ty, t1, t2, t3, N⟩
  · left
    rcases N with e | N | ⟨e, n1, n2, u, x, B, n3, n4, n5, n6, n7, n8, n9⟩ | N | ⟨e, n1, n2, u, x, ty, n3, n4, n5, n6, n7, n8, ⟨a, b, c, st, ⟨a1, a2, a3, a4, a5, a6⟩, n9⟩⟩
    · exact .inl e
    · exact .inr (.inl ⟨N.1, N.2.1, N.2.2.1, N.2.2.2.1, yb_sym hP N.2.2.2.2⟩)
    · exact .inr (.inr (.inl ⟨e, n1, n2, u, x, B, n3, n4, n5, n6, n7, n8, yb_prm hP hQ _ _ _ n9⟩))
    · exact .inr (.inr (.inr (.inl N)))
    · exact .inr (.inr (.inr (.inr ⟨e, n1, n2, u, x, ty, n3, n4, n5, n6, n7, n8, a, b, c, st, ⟨a1, hP _ a2, a3, hP _ a4, a5, hP _ a6⟩, n9⟩)))
  · refine .inr ⟨ty, t1, t2, t3, ?_⟩
    rcases N with N | N | N | ⟨e, n1, n2, a, u, x, off, n3, n4, n5⟩ | N | ⟨e, s, a, x5, x6, n1, n2, n3, n4, ⟨y1, y2, y3, y4, y5, y6⟩, n6⟩ | ⟨e, s, a, b, n1, n2, n3, n4, n5, n6, n7⟩ | ⟨e, s, a, n1, n2, n3, n4, n5⟩
    · exact .inl N
    · exact .inr (.inl N)
    · exact .inr (.inr (.inl N))
    · exact .inr (.inr (.inr (.inl ⟨e, n1, n2, a, u, x, off, n3, hP _ n4, n5⟩)))
    · obtain ⟨e, n1, n2, b, n3, n4, n5, n6, n7, n8, c, n9, n10, n11, n12, n13, n14⟩ := N
      exact .inr (.inr (.inr (.inr (.inl ⟨e, n1, n2, b, n3, n4, n5, n6, n7, n8, c, n9, n10, n11, n12, n13, yb_fitm hP _ _ n14⟩))))
    · exact .inr (.inr (.inr (.inr (.inr (.inl ⟨e, s, a, x5, x6, n1, n2, n3, n4, ⟨y1, hP _ y2, y3, y4, y5.imp id (fun ⟨b, b1, b2, b3⟩ => ⟨b, b1, b2, hP _ b3⟩), y6.imp id (fun ⟨b, b1, b2, b3⟩ => ⟨b, b1, b2, hP _ b3⟩)⟩, n6⟩)))))
    · exact .inr (.inr (.inr (.inr (.inr (.inr (.inl ⟨e, s, a, b, n1, n2, n3, hP _ n4, n5, ⟨hP _ n6.1, n6.2⟩, n7⟩))))))
    · exact .inr (.inr (.inr (.inr (.inr (.inr (.inr ⟨e, s, a, n1, n2, n3, ⟨hP _ n4.1, n4.2⟩, n5⟩))))))
theorem yb_Fm {P' Q' : Nat → Prop} (hP : ∀ j, P j → P' j) (hQ : ∀ j, Q j → Q' j) : ∀ (t : zt_T) (x x' e e' : Int32), yb_F F bb h g P Q t x x' e e' → yb_F F bb h g P' Q' t x x' e e' := by
  intro t
  induction t with
  | leaf => intro x x' e e' A; exact A
  | inner kd kv o l r ihl ihr =>
    intro x x' e e' ⟨i, k, xl, ⟨i1, i2, i3⟩, ⟨k1, k2, k3, k4⟩, N, A, B⟩
    exact ⟨i, k, xl, ⟨hP _ i1, i2, i3⟩, ⟨hQ _ k1, k2, k3, k4⟩, yb_Nm hP hQ N, ihl _ _ _ _ A, ihr _ _ _ _ B⟩
theorem yb_ap : ∀ (t u : zt_T) (x x' y y' e e' : Int32), yb_F F bb h g P Q t x x' y y' → yb_F F bb h g P Q u y y' e e' → yb_F F bb h g P Q (zt_ap t u) x x' e e' := by
  intro t
  induction t with
  | leaf => intro u x x' y y' e e' ⟨a1, a2⟩ B; rw [a1, a2]; exact B
  | inner kd kv o l r ihl ihr =>
    intro u x x' y y' e e' ⟨i, k, xl, A1, A2, N, A, B⟩ C
    exact ⟨i, k, xl, A1, A2, N, A, ihr u _ _ _ _ _ _ B C⟩
/-- the types of a forest, as chains -/
theorem yb_chain {i0 : Nat} (hi0 : ∀ j, P j → ¬ j = i0) : ∀ (t : zt_T) (x x' : Int32), (∀ c, ¬ c ∈ [6, 30, 31, 32, 33, 34, 35, 36] → ¬ zt_has c t) → yb_F F bb h g P Q t x x' (-1) (-1) → ∃ ts : List Nat, ts.length = zt_ln t ∧ ya_C h i0 ts x ∧ ya_M g ts x' := by
  intro t
  induction t with
  | leaf => intro x x' _ ⟨a1, a2⟩; exact ⟨[], rfl, a1, a2⟩
  | inner kd kv o l r ihl ihr =>
    intro x x' hE ⟨i, k, xl, ⟨i1, i2, i3⟩, ⟨k1, k2, k3, k4⟩, N, A, B⟩
    obtain ⟨ts, l1, l2, l3⟩ := ihr _ _ (fun c hc hh => hE c hc (.inr hh)) B
    rcases N with N | ⟨ty, t1, t2, t3, _⟩
    · exact absurd (.inl rfl) (hE kd (yb_SE N))
    · exact ⟨ty :: ts, by show ts.length + 1 = 1 + zt_ln r; omega, ⟨i, i2, hi0 i i1, i3, t2, t1, l2⟩, k, k2, k3, t3, t1, l3⟩
end YBF
