/-! The judge: what is known of an expression's nodes, once it has been judged. -/
/-- the variable u of the block here, that has this name -/
def yb_V (F : Nat → Nat) (bb : Nat) (h : zs_H) (v : Int32) (u x : Nat) : Prop := F bb ≤ u ∧ u < F (bb + 1) ∧ (h.2.1 28) (32 + u) = v ∧ (∀ j, F bb ≤ j → j < F (bb + 1) → (h.2.1 28) (32 + j) = v → j = u) ∧ (h.2.1 32) (32 + u) = nI x
def yb_3 (h : zs_H) (P : Nat → Prop) (xl : Int32) (a : Nat) (x5 x6 : Int32) : Prop := xl = nI a ∧ P a ∧ x5 = (h.2.1 18) a ∧ x6 = (if x5 = -1 then -1 else (h.2.1 18) x5.toNatClampNeg) ∧ (x5 = -1 ∨ ∃ b, b < 32784 ∧ x5 = nI b ∧ P b) ∧ (x6 = -1 ∨ ∃ b, b < 32784 ∧ x6 = nI b ∧ P b)
def yb_N (F : Nat → Nat) (bb : Nat) (h g : zs_H) (P : Nat → Prop) (kd : Nat) (v : Int32) (i k : Nat) (xl : Int32) (n : Nat) : Prop := kd = 38 ∨ ∃ ty, ty < 3 ∧ (h.2.1 14) i = nI ty ∧ (g.2.1 100) k = nI ty ∧
  ((kd = 6 ∧ (h.2.1 13) i = 6 ∧ ∃ u x, yb_V F bb h v u x ∧ (h.2.1 16) i = nI (32 + u) ∧ (g.2.1 101) k = nI x) ∨
   ((kd = 30 ∨ kd = 31) ∧ (h.2.1 13) i = nI kd ∧ (h.2.1 16) i = v) ∨
   (kd = 32 ∧ (h.2.1 13) i = 32 ∧ (h.2.1 17) i = xl ∧ ∃ u x, yb_V F bb h v u x ∧ (h.2.1 16) i = nI (32 + u) ∧ (g.2.1 101) k = nI x) ∨
   (kd = 33 ∧ (h.2.1 13) i = 33 ∧ (h.2.1 17) i = xl ∧ ∃ a u x off, xl = nI a ∧ P a ∧ yb_V F bb h v u x ∧ (h.2.1 16) i = nI (32 + u) ∧ (h.2.1 16) a = nI off ∧ (g.2.1 101) k = nI (x + off) ∧ x + off < 600000000) ∨
   (kd = 34 ∧ (h.2.1 13) i = 34 ∧ (h.2.1 17) i = xl ∧ ∃ b, b < bb ∧ (h.2.1 16) i = nI (9 + b) ∧ (g.2.1 102) k = nI b ∧ n = (zv_il h (F (b + 1) - F b) (F b)).length ∧ (h.2.1 21) (9 + b) = 1 ∧ F b ≤ F (b + 1)) ∨
   (kd = 34 ∧ ∃ s a x5 x6, s < 10 ∧ v = nI (50 + s) ∧ n = ya_ar s ∧ (g.2.1 102) k = nI (100 + s) ∧ yb_3 h P xl a x5 x6 ∧ (((ya_con h (nI a) ∧ ya_con h x5 ∧ ya_con h x6) ∧ (h.2.1 13) i = 30 ∧ f_Cd_standard (nI s) (nI ty) ((h.2.1 16) a) (ya_val h x5) (ya_val h x6) = some ((h.2.1 16) i)) ∨ (¬ (ya_con h (nI a) ∧ ya_con h x5 ∧ ya_con h x6) ∧ (h.2.1 13) i = 39 ∧ (h.2.1 16) i = nI s ∧ (h.2.1 17) i = xl))) ∨
   (kd = 35 ∧ ∃ s a b, s < 14 ∧ v = nI s ∧ xl = nI a ∧ P a ∧ (h.2.1 18) a = nI b ∧ P b ∧ (((zv_kc h a ∧ zv_kc h b ∧ f_Cd_isByZero (f_Cd_operation (nI s) (nI ty)) ((h.2.1 16) b) = 0) ∧ (h.2.1 13) i = 30 ∧ f_Cd_two (f_Cd_operation (nI s) (nI ty)) ((h.2.1 16) a) ((h.2.1 16) b) = some ((h.2.1 16) i)) ∨ (¬ (zv_kc h a ∧ zv_kc h b ∧ f_Cd_isByZero (f_Cd_operation (nI s) (nI ty)) ((h.2.1 16) b) = 0) ∧ (h.2.1 13) i = 35 ∧ (h.2.1 16) i = v ∧ (h.2.1 17) i = xl))) ∨
   (kd = 36 ∧ ∃ s a, s < 2 ∧ v = nI s ∧ xl = nI a ∧ P a ∧ ((zv_kc h a ∧ (h.2.1 13) i = 30 ∧ (h.2.1 16) i = f_Cd_one (f_Cd_turning (if s = 0 then 1 else 0) (nI ty)) ((h.2.1 16) a)) ∨ (¬ zv_kc h a ∧ (h.2.1 13) i = 36 ∧ (h.2.1 16) i = v ∧ (h.2.1 17) i = xl))))
/-- a forest of expressions, up to (e, e') -/
def yb_F (F : Nat → Nat) (bb : Nat) (h g : zs_H) (P Q : Nat → Prop) : zt_T → Int32 → Int32 → Int32 → Int32 → Prop
  | .leaf, x, x', e, e' => x = e ∧ x' = e'
  | .inner kd kv _ l r, x, x', e, e' => ∃ (i k : Nat) (xl : Int32), (P i ∧ i < 32784 ∧ x = nI i) ∧ (Q k ∧ k < 33500 ∧ x' = nI k) ∧ yb_N F bb h g P kd kv.2 i k xl (zt_ln l) ∧ yb_F F bb h g P Q l xl ((g.2.1 76) k) (-1) (-1) ∧ yb_F F bb h g P Q r ((h.2.1 18) i) ((g.2.1 78) k) e e'
def yb_fr (F : Nat → Nat) (bb : Nat) (P Q : Nat → Prop) (h g h' g' : zs_H) : Prop :=
  (∀ j, P j → j < 32784 ∧ (h'.2.1 13) j = (h.2.1 13) j ∧ (h'.2.1 14) j = (h.2.1 14) j ∧ (h'.2.1 16) j = (h.2.1 16) j ∧ (h'.2.1 17) j = (h.2.1 17) j ∧ (h'.2.1 18) j = (h.2.1 18) j) ∧
  (∀ j, Q j → (g'.2.1 100) j = (g.2.1 100) j ∧ (g'.2.1 101) j = (g.2.1 101) j ∧ (g'.2.1 102) j = (g.2.1 102) j ∧ (g'.2.1 76) j = (g.2.1 76) j ∧ (g'.2.1 78) j = (g.2.1 78) j) ∧
  (∀ j, j < F (bb + 1) → (h'.2.1 28) (32 + j) = (h.2.1 28) (32 + j) ∧ (h'.2.1 29) (32 + j) = (h.2.1 29) (32 + j) ∧ (h'.2.1 32) (32 + j) = (h.2.1 32) (32 + j)) ∧ (∀ b, b < bb → (h'.2.1 21) (9 + b) = (h.2.1 21) (9 + b)) ∧ (∀ b, b < bb → F (b + 1) ≤ F (bb + 1))
/-- a kind at the top of a forest -/
def zt_has (c : Nat) : zt_T → Prop
  | .leaf => False
  | .inner kd _ _ _ r => kd = c ∨ zt_has c r
theorem yb_ilf {h h' : zs_H} : ∀ m v, (∀ j, v ≤ j → j < v + m → (h'.2.1 29) (32 + j) = (h.2.1 29) (32 + j)) → zv_il h' m v = zv_il h m v := by
  intro m
  induction m with
  | zero => intro v _; rfl
  | succ m ih =>
    intro v H
    show (if (h'.2.1 29) (32 + v) = 1 then v :: zv_il h' m (v + 1) else zv_il h' m (v + 1)) = (if (h.2.1 29) (32 + v) = 1 then v :: zv_il h m (v + 1) else zv_il h m (v + 1))
    rw [H v (Nat.le_refl _) (by omega), ih (v + 1) (fun j h1 h2 => H j (by omega) (by omega))]
section YBF
variable {F : Nat → Nat} {bb : Nat} {P Q : Nat → Prop} {h g h' g' : zs_H}
theorem yb_Vf (H : yb_fr F bb P Q h g h' g') {v : Int32} {u x : Nat} (V : yb_V F bb h v u x) : yb_V F bb h' v u x := by
  obtain ⟨_, _, H3, _, _⟩ := H
  obtain ⟨a1, a2, a3, a4, a5⟩ := V
  exact ⟨a1, a2, by rw [(H3 u a2).1]; exact a3, fun j j1 j2 j3 => a4 j j1 j2 (by rw [← (H3 j j2).1]; exact j3), by rw [(H3 u a2).2.2]; exact a5⟩
theorem yb_kcf (H : yb_fr F bb P Q h g h' g') {a : Nat} (ha : P a) : zv_kc h' a ↔ zv_kc h a := by
  unfold zv_kc
  rw [(H.1 a ha).2.1]
theorem yb_conf (H : yb_fr F bb P Q h g h' g') {x : Int32} (hx : x = -1 ∨ ∃ b, b < 32784 ∧ x = nI b ∧ P b) : (ya_con h' x ↔ ya_con h x) ∧ ya_val h' x = ya_val h x := by
  rcases hx with e | ⟨b, b1, b2, b3⟩
  · unfold ya_con ya_val
    rw [if_pos e, if_pos e]
    exact ⟨⟨fun _ => .inl e, fun _ => .inl e⟩, rfl⟩
  · unfold ya_con ya_val
    rw [b2, if_neg (zc_m1 (by omega)), if_neg (zc_m1 (by omega)), nI_clamp (show b < 2147483648 by omega), yb_kcf H b3, (H.1 b b3).2.2.2.1]
    exact ⟨Iff.rfl, rfl⟩
theorem yb_Nf (H : yb_fr F bb P Q h g h' g') {kd i k n : Nat} {v xl : Int32} (hi : P i) (hk : Q k) (N : yb_N F bb h g P kd v i k xl n) : yb_N F bb h' g' P kd v i k xl n := by
  obtain ⟨i0, i1, i2, i3, i4, i5⟩ := H.1 i hi
  obtain ⟨k1, k2, k3, k4, k5⟩ := H.2.1 k hk
  rcases N with N | ⟨ty, t1, t2, t3, N⟩
  · exact .inl N
  · refine .inr ⟨ty, t1, by rw [i2]; exact t2, by rw [k1]; exact t3, ?_⟩
    rw [i1, i3, i4, k2, k3]
    rcases N with ⟨e, n1, u, x, n2, n3, n4⟩ | ⟨e, n1, n2⟩ | ⟨e, n1, n2, u, x, n3, n4, n5⟩ | ⟨e, n1, n2, a, u, x, off, n3, n4, n5, n6, n7, n8⟩ | ⟨e, n1, n2, b, n3, n4, n5, n6, n7, n8⟩ | ⟨e, s, a, x5, x6, n1, n2, n3, n4, ⟨y1, y2, y3, y4, y5, y6⟩, n6⟩ | ⟨e, s, a, b, n1, n2, n3, n4, n5, n6, n7⟩ | ⟨e, s, a, n1, n2, n3, n4, n5⟩
    · exact .inl ⟨e, n1, u, x, yb_Vf H n2, n3, n4⟩
    · exact .inr (.inl ⟨e, n1, n2⟩)
    · exact .inr (.inr (.inl ⟨e, n1, n2, u, x, yb_Vf H n3, n4, n5⟩))
    · exact .inr (.inr (.inr (.inl ⟨e, n1, n2, a, u, x, off, n3, n4, yb_Vf H n5, n6, by rw [(H.1 a n4).2.2.2.1]; exact n7, n8⟩)))
    · refine .inr (.inr (.inr (.inr (.inl ⟨e, n1, n2, b, n3, n4, n5, ?_, by rw [H.2.2.2.1 b n3]; exact n7, n8⟩))))
      have := H.2.2.2.2 b n3
      rw [yb_ilf _ _ (fun j j1 j2 => (H.2.2.1 j (by omega)).2.1)]
      exact n6
    · refine .inr (.inr (.inr (.inr (.inr (.inl ⟨e, s, a, x5, x6, n1, n2, n3, n4, ⟨y1, y2, by rw [(H.1 a y2).2.2.2.2.2]; exact y3, ?_, y5, y6⟩, ?_⟩)))))
      · rcases y5 with z | ⟨b, b1, b2, b3⟩
        · rw [if_pos z]; rw [if_pos z] at y4; exact y4
        · rw [b2, if_neg (zc_m1 (by omega)), nI_clamp (show b < 2147483648 by omega)] at y4 ⊢
          rw [(H.1 b b3).2.2.2.2.2]; exact y4
      · have ca := yb_conf H (x := nI a) (.inr ⟨a, (H.1 a y2).1, rfl, y2⟩)
        have c5 := yb_conf H y5
        have c6 := yb_conf H y6
        rw [ca.1, c5.1, c6.1, c5.2, c6.2, (H.1 a y2).2.2.2.1]
        exact n6
    · refine .inr (.inr (.inr (.inr (.inr (.inr (.inl ⟨e, s, a, b, n1, n2, n3, n4, by rw [(H.1 a n4).2.2.2.2.2]; exact n5, n6, ?_⟩))))))
      rw [yb_kcf H n4, yb_kcf H n6, (H.1 a n4).2.2.2.1, (H.1 b n6).2.2.2.1]
      exact n7
    · refine .inr (.inr (.inr (.inr (.inr (.inr (.inr ⟨e, s, a, n1, n2, n3, n4, ?_⟩))))))
      rw [yb_kcf H n4, (H.1 a n4).2.2.2.1]
      exact n5
theorem yb_Ff (H : yb_fr F bb P Q h g h' g') : ∀ (t : zt_T) (x x' e e' : Int32), yb_F F bb h g P Q t x x' e e' → yb_F F bb h' g' P Q t x x' e e' := by
  intro t
  induction t with
  | leaf => intro x x' e e' A; exact A
  | inner kd kv o l r ihl ihr =>
    intro x x' e e' ⟨i, k, xl, ⟨i1, i2, i3⟩, ⟨k1, k2, k3⟩, N, A, B⟩
    refine ⟨i, k, xl, ⟨i1, i2, i3⟩, ⟨k1, k2, k3⟩, yb_Nf H i1 k1 N, ?_, ?_⟩
    · rw [(H.2.1 k k1).2.2.2.1]; exact ihl _ _ _ _ A
    · rw [(H.1 i i1).2.2.2.2.2, (H.2.1 k k1).2.2.2.2]; exact ihr _ _ _ _ B
theorem yb_Nm {P' : Nat → Prop} (hP : ∀ j, P j → P' j) {kd i k n : Nat} {v xl : Int32} (N : yb_N F bb h g P kd v i k xl n) : yb_N F bb h g P' kd v i k xl n := by
  rcases N with N | ⟨ty, t1, t2, t3, N⟩
  · exact .inl N
  · refine .inr ⟨ty, t1, t2, t3, ?_⟩
    rcases N with N | N | N | ⟨e, n1, n2, a, u, x, off, n3, n4, n5⟩ | N | ⟨e, s, a, x5, x6, n1, n2, n3, n4, ⟨y1, y2, y3, y4, y5, y6⟩, n6⟩ | ⟨e, s, a, b, n1, n2, n3, n4, n5, n6, n7⟩ | ⟨e, s, a, n1, n2, n3, n4, n5⟩
    · exact .inl N
    · exact .inr (.inl N)
    · exact .inr (.inr (.inl N))
    · exact .inr (.inr (.inr (.inl ⟨e, n1, n2, a, u, x, off, n3, hP _ n4, n5⟩)))
    · exact .inr (.inr (.inr (.inr (.inl N))))
    · exact .inr (.inr (.inr (.inr (.inr (.inl ⟨e, s, a, x5, x6, n1, n2, n3, n4, ⟨y1, hP _ y2, y3, y4, y5.imp id (fun ⟨b, b1, b2, b3⟩ => ⟨b, b1, b2, hP _ b3⟩), y6.imp id (fun ⟨b, b1, b2, b3⟩ => ⟨b, b1, b2, hP _ b3⟩)⟩, n6⟩)))))
    · exact .inr (.inr (.inr (.inr (.inr (.inr (.inl ⟨e, s, a, b, n1, n2, n3, hP _ n4, n5, hP _ n6, n7⟩))))))
    · exact .inr (.inr (.inr (.inr (.inr (.inr (.inr ⟨e, s, a, n1, n2, n3, hP _ n4, n5⟩))))))
theorem yb_Fm {P' Q' : Nat → Prop} (hP : ∀ j, P j → P' j) (hQ : ∀ j, Q j → Q' j) : ∀ (t : zt_T) (x x' e e' : Int32), yb_F F bb h g P Q t x x' e e' → yb_F F bb h g P' Q' t x x' e e' := by
  intro t
  induction t with
  | leaf => intro x x' e e' A; exact A
  | inner kd kv o l r ihl ihr =>
    intro x x' e e' ⟨i, k, xl, ⟨i1, i2, i3⟩, ⟨k1, k2, k3⟩, N, A, B⟩
    exact ⟨i, k, xl, ⟨hP _ i1, i2, i3⟩, ⟨hQ _ k1, k2, k3⟩, yb_Nm hP N, ihl _ _ _ _ A, ihr _ _ _ _ B⟩
theorem yb_ap : ∀ (t u : zt_T) (x x' y y' e e' : Int32), yb_F F bb h g P Q t x x' y y' → yb_F F bb h g P Q u y y' e e' → yb_F F bb h g P Q (zt_ap t u) x x' e e' := by
  intro t
  induction t with
  | leaf => intro u x x' y y' e e' ⟨a1, a2⟩ B; rw [a1, a2]; exact B
  | inner kd kv o l r ihl ihr =>
    intro u x x' y y' e e' ⟨i, k, xl, A1, A2, N, A, B⟩ C
    exact ⟨i, k, xl, A1, A2, N, A, ihr u _ _ _ _ _ _ B C⟩
/-- the types of a forest, as chains -/
theorem yb_chain {i0 : Nat} (hi0 : ∀ j, P j → ¬ j = i0) : ∀ (t : zt_T) (x x' : Int32), (∀ c, c = 38 → ¬ zt_has c t) → yb_F F bb h g P Q t x x' (-1) (-1) → ∃ ts : List Nat, ts.length = zt_ln t ∧ ya_C h i0 ts x ∧ ya_M g ts x' := by
  intro t
  induction t with
  | leaf => intro x x' _ ⟨a1, a2⟩; exact ⟨[], rfl, a1, a2⟩
  | inner kd kv o l r ihl ihr =>
    intro x x' hE ⟨i, k, xl, ⟨i1, i2, i3⟩, ⟨k1, k2, k3⟩, N, A, B⟩
    obtain ⟨ts, l1, l2, l3⟩ := ihr _ _ (fun c hc hh => hE c hc (.inr hh)) B
    rcases N with N | ⟨ty, t1, t2, t3, _⟩
    · exact absurd (.inl N) (hE 38 rfl)
    · exact ⟨ty :: ts, by show ts.length + 1 = 1 + zt_ln r; omega, ⟨i, i2, hi0 i i1, i3, t2, t1, l2⟩, k, k2, k3, t3, t1, l3⟩
end YBF
