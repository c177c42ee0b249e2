/-! readIndex leaves the places of the variables as they are. -/
def fy_P (A : Nat → Nat → Int32) (h : zs_H) : Prop := ∀ k, k ∈ [94] → h.2.1 k = A k
def fy_1 (A : Nat → Nat → Int32) (o : Option zs_H) : Prop := ∀ h, o = some h → fy_P A h
def fy_2 (A : Nat → Nat → Int32) (o : Option (Int32 × zs_H)) : Prop := ∀ x h, o = some (x, h) → fy_P A h
def fy_3 (A : Nat → Nat → Int32) (o : Option (Int64 × zs_H)) : Prop := ∀ x h, o = some (x, h) → fy_P A h
section FYS
variable {A : Nat → Nat → Int32} {h : zs_H}
theorem fy_uF {k j : Nat} {v : Int32} (H : fy_P A h) : fy_P A (zs_uF h k j v) := H
theorem fy_uL {k j : Nat} {v : Int64} (H : fy_P A h) : fy_P A (zs_uL h k j v) := H
theorem fy_uM {k j : Nat} {v : Int32} (hk : ¬ k ∈ [94]) (H : fy_P A h) : fy_P A (zs_uM h k j v) := fun m hm => by
  rw [← H m hm]
  funext i
  show (if m = k ∧ i = j then v else h.2.1 m i) = _
  rw [if_neg (fun z => hk (by rw [← z.1]; exact hm))]
theorem fy_1s (H : fy_P A h) : fy_1 A (some h) := fun h' e => by cases e; exact H
theorem fy_1n : fy_1 A none := fun h' e => by cases e
theorem fy_1i {c : Prop} [Decidable c] {a b : Option zs_H} (p : c → fy_1 A a) (q : ¬ c → fy_1 A b) : fy_1 A (if c then a else b) := by
  by_cases z : c
  · rw [if_pos z]; exact p z
  · rw [if_neg z]; exact q z
theorem fy_b1 {o : Option zs_H} {F : zs_H → Option zs_H} (p : fy_1 A o) (q : ∀ h, fy_P A h → fy_1 A (F h)) : fy_1 A (o.bind F) := by
  cases o with
  | none => exact fy_1n
  | some h => exact q h (p h rfl)
theorem fy_O1 {α : Type} {o : Option α} {F : α → Option zs_H} (q : ∀ v, fy_1 A (F v)) : fy_1 A (o.bind F) := by
  cases o with
  | none => exact fy_1n
  | some v => exact q v
theorem fy_2s {x : Int32} (H : fy_P A h) : fy_2 A (some (x, h)) := fun x' h' e => by cases e; exact H
theorem fy_2n : fy_2 A none := fun x h' e => by cases e
theorem fy_2i {c : Prop} [Decidable c] {a b : Option (Int32 × zs_H)} (p : c → fy_2 A a) (q : ¬ c → fy_2 A b) : fy_2 A (if c then a else b) := by
  by_cases z : c
  · rw [if_pos z]; exact p z
  · rw [if_neg z]; exact q z
theorem fy_b2 {o : Option zs_H} {F : zs_H → Option (Int32 × zs_H)} (p : fy_1 A o) (q : ∀ h, fy_P A h → fy_2 A (F h)) : fy_2 A (o.bind F) := by
  cases o with
  | none => exact fy_2n
  | some h => exact q h (p h rfl)
theorem fy_O2 {α : Type} {o : Option α} {F : α → Option (Int32 × zs_H)} (q : ∀ v, fy_2 A (F v)) : fy_2 A (o.bind F) := by
  cases o with
  | none => exact fy_2n
  | some v => exact q v
theorem fy_3s {x : Int64} (H : fy_P A h) : fy_3 A (some (x, h)) := fun x' h' e => by cases e; exact H
theorem fy_3n : fy_3 A none := fun x h' e => by cases e
theorem fy_3i {c : Prop} [Decidable c] {a b : Option (Int64 × zs_H)} (p : c → fy_3 A a) (q : ¬ c → fy_3 A b) : fy_3 A (if c then a else b) := by
  by_cases z : c
  · rw [if_pos z]; exact p z
  · rw [if_neg z]; exact q z
theorem fy_b3 {o : Option zs_H} {F : zs_H → Option (Int64 × zs_H)} (p : fy_1 A o) (q : ∀ h, fy_P A h → fy_3 A (F h)) : fy_3 A (o.bind F) := by
  cases o with
  | none => exact fy_3n
  | some h => exact q h (p h rfl)
theorem fy_O3 {α : Type} {o : Option α} {F : α → Option (Int64 × zs_H)} (q : ∀ v, fy_3 A (F v)) : fy_3 A (o.bind F) := by
  cases o with
  | none => exact fy_3n
  | some v => exact q v
theorem fy_B21 {o : Option (Int32 × zs_H)} {F : Int32 → zs_H → Option (zs_H)} (p : fy_2 A o) (q : ∀ x h, fy_P A h → fy_1 A (F x h)) : fy_1 A (zd_B o F) := by
  cases o with
  | none => exact fy_1n
  | some w => exact q w.1 w.2 (p w.1 w.2 rfl)
theorem fy_B22 {o : Option (Int32 × zs_H)} {F : Int32 → zs_H → Option (Int32 × zs_H)} (p : fy_2 A o) (q : ∀ x h, fy_P A h → fy_2 A (F x h)) : fy_2 A (zd_B o F) := by
  cases o with
  | none => exact fy_2n
  | some w => exact q w.1 w.2 (p w.1 w.2 rfl)
theorem fy_B23 {o : Option (Int32 × zs_H)} {F : Int32 → zs_H → Option (Int64 × zs_H)} (p : fy_2 A o) (q : ∀ x h, fy_P A h → fy_3 A (F x h)) : fy_3 A (zd_B o F) := by
  cases o with
  | none => exact fy_3n
  | some w => exact q w.1 w.2 (p w.1 w.2 rfl)
theorem fy_B31 {o : Option (Int64 × zs_H)} {F : Int64 → zs_H → Option (zs_H)} (p : fy_3 A o) (q : ∀ x h, fy_P A h → fy_1 A (F x h)) : fy_1 A (zd_B o F) := by
  cases o with
  | none => exact fy_1n
  | some w => exact q w.1 w.2 (p w.1 w.2 rfl)
theorem fy_B32 {o : Option (Int64 × zs_H)} {F : Int64 → zs_H → Option (Int32 × zs_H)} (p : fy_3 A o) (q : ∀ x h, fy_P A h → fy_2 A (F x h)) : fy_2 A (zd_B o F) := by
  cases o with
  | none => exact fy_2n
  | some w => exact q w.1 w.2 (p w.1 w.2 rfl)
theorem fy_B33 {o : Option (Int64 × zs_H)} {F : Int64 → zs_H → Option (Int64 × zs_H)} (p : fy_3 A o) (q : ∀ x h, fy_P A h → fy_3 A (F x h)) : fy_3 A (zd_B o F) := by
  cases o with
  | none => exact fy_3n
  | some w => exact q w.1 w.2 (p w.1 w.2 rfl)
end FYS
theorem fy_f_Mo_passes_44 {A : Nat → Nat → Int32} {h : zs_H} {x2 : Int32} {y0 : Int32} {y1 : Int32}  (H : fy_P A h) : fy_2 A (f_Mo_passes_44 h x2 y0 y1) := by
  unfold f_Mo_passes_44
  exact (fy_2i (fun _ => (fy_2s (fy_uF H))) (fun _ => fy_2n))
theorem fy_f_Mo_passes_29 {A : Nat → Nat → Int32} {h : zs_H} {y0 : Int32}  (H : fy_P A h) : fy_2 A (f_Mo_passes_29 h y0) := by
  unfold f_Mo_passes_29
  exact (fy_2i (fun _ => (fy_f_Mo_passes_44  H)) (fun _ => (fy_f_Mo_passes_44  H)))
theorem fy_f_Mo_passes_28 {A : Nat → Nat → Int32} {h : zs_H}  (H : fy_P A h) : fy_2 A (f_Mo_passes_28 h) := by
  unfold f_Mo_passes_28
  exact (fy_f_Mo_passes_29  H)
theorem fy_f_Mo_passes {A : Nat → Nat → Int32} {h : zs_H} {x1 : Int32}  (H : fy_P A h) : fy_2 A (f_Mo_passes h x1) := by
  unfold f_Mo_passes
  exact (fy_2i (fun _ => (fy_f_Mo_passes_28  H)) (fun _ => (fy_2i (fun _ => (fy_2i (fun _ => (fy_f_Mo_passes_29  H)) (fun _ => (fy_f_Mo_passes_28  H)))) (fun _ => fy_2n))))
theorem fy_f_Mo_readIndex_96 {A : Nat → Nat → Int32} {k34 : zs_H → Int32 → Int32 → Int64 → Int32 → (Option (Int32 × zs_H))} {h : zs_H} {x1 : Int32} {x2 : Int32} {x5 : Int32} {y0 : Int64} (H_k34 : ∀ z0 z1 z2 z3 z4, fy_P A z0 → fy_2 A (k34 z0 z1 z2 z3 z4)) (H : fy_P A h) : fy_2 A (f_Mo_readIndex_96 k34 h x1 x2 x5 y0) := by
  unfold f_Mo_readIndex_96
  exact (H_k34 _ _ _ _ _ (fy_uF H))
theorem fy_f_Mo_readIndex_180 {A : Nat → Nat → Int32} {h : zs_H}  (H : fy_P A h) : fy_2 A (f_Mo_readIndex_180 h) := by
  unfold f_Mo_readIndex_180
  exact (fy_2s (fy_uF H))
theorem fy_f_Mo_readIndex_159 {A : Nat → Nat → Int32} {h : zs_H} {x1 : Int32} {y0 : Int64}  (H : fy_P A h) : fy_2 A (f_Mo_readIndex_159 h x1 y0) := by
  unfold f_Mo_readIndex_159
  exact (fy_2i (fun _ => (fy_f_Mo_readIndex_180  H)) (fun _ => (fy_2i (fun _ => (fy_f_Mo_readIndex_180  H)) (fun _ => (fy_2i (fun _ => (fy_2s H)) (fun _ => (fy_f_Mo_readIndex_180  H)))))))
theorem fy_f_Mo_readIndex_148 {A : Nat → Nat → Int32} {h : zs_H} {x2 : Int32} {x3 : Int64} {y0 : Int32}  (H : fy_P A h) : fy_2 A (f_Mo_readIndex_148 h x2 x3 y0) := by
  unfold f_Mo_readIndex_148
  exact (fy_2i (fun _ => (fy_f_Mo_readIndex_159  H)) (fun _ => (fy_f_Mo_readIndex_159  H)))
theorem fy_f_Mo_readIndex_147 {A : Nat → Nat → Int32} {h : zs_H} {x2 : Int32} {x3 : Int64}  (H : fy_P A h) : fy_2 A (f_Mo_readIndex_147 h x2 x3) := by
  unfold f_Mo_readIndex_147
  exact (fy_f_Mo_readIndex_148  H)
theorem fy_f_Mo_readIndex_110 {A : Nat → Nat → Int32} {h : zs_H} {x1 : Int32} {x2 : Int32} {x3 : Int64} {x5 : Int32}  (H : fy_P A h) : fy_2 A (f_Mo_readIndex_110 h x1 x2 x3 x5) := by
  unfold f_Mo_readIndex_110
  exact (fy_2i (fun _ => (fy_f_Mo_readIndex_147  H)) (fun _ => (fy_2i (fun _ => (fy_f_Mo_readIndex_147  H)) (fun _ => (fy_B22 (fy_f_Mo_passes  H) (fun v4 h5 H_h5 => (fy_2i (fun _ => (fy_f_Mo_readIndex_147  H_h5)) (fun _ => (fy_2i (fun _ => (fy_f_Mo_readIndex_148  H_h5)) (fun _ => (fy_f_Mo_readIndex_147  H_h5)))))))))))
theorem fy_f_Mo_readIndex_34 {A : Nat → Nat → Int32} {k34 : zs_H → Int32 → Int32 → Int64 → Int32 → (Option (Int32 × zs_H))} {h : zs_H} {x1 : Int32} {x2 : Int32} {x3 : Int64} {x5 : Int32} (H_k34 : ∀ z0 z1 z2 z3 z4, fy_P A z0 → fy_2 A (k34 z0 z1 z2 z3 z4)) (H : fy_P A h) : fy_2 A (f_Mo_readIndex_34 k34 h x1 x2 x3 x5) := by
  unfold f_Mo_readIndex_34
  exact (fy_2i (fun _ => (fy_f_Mo_readIndex_110  H)) (fun _ => (fy_2i (fun _ => (fy_2i (fun _ => (fy_f_Mo_readIndex_110  H)) (fun _ => (fy_2i (fun _ => (fy_f_Mo_readIndex_96 H_k34 H)) (fun _ => (fy_f_Mo_readIndex_96 H_k34 H)))))) (fun _ => fy_2n))))
theorem fy_f_Mo_readIndex_L34 {A : Nat → Nat → Int32}   : ∀ (N : Nat) (h : zs_H) (x1 : Int32) (x2 : Int32) (x3 : Int64) (x4 : Int32), fy_P A h → fy_2 A (f_Mo_readIndex_L34  N h x1 x2 x3 x4) := by
  intro N
  induction N with
  | zero => intro h x1 x2 x3 x4 _; exact fy_2n
  | succ N ih =>
    intro h x1 x2 x3 x4 H
    exact fy_f_Mo_readIndex_34  (fun b0 b1 b2 b3 b4 z => ih b0 b1 b2 b3 b4 z) H
theorem fy_f_Mo_readIndex_L34' {A : Nat → Nat → Int32}   {N : Nat} {h : zs_H} {x1 : Int32} {x2 : Int32} {x3 : Int64} {x4 : Int32} (H : fy_P A h) : fy_2 A (f_Mo_readIndex_L34  N h x1 x2 x3 x4) := fy_f_Mo_readIndex_L34  N h x1 x2 x3 x4 H
theorem fy_f_Mo_readIndex_25 {A : Nat → Nat → Int32} {h : zs_H} {x1 : Int32} {y0 : Int32}  (H : fy_P A h) : fy_2 A (f_Mo_readIndex_25 h x1 y0) := by
  unfold f_Mo_readIndex_25
  exact (fy_f_Mo_readIndex_L34'  H)
theorem fy_f_Mo_readIndex_24 {A : Nat → Nat → Int32} {h : zs_H} {x1 : Int32}  (H : fy_P A h) : fy_2 A (f_Mo_readIndex_24 h x1) := by
  unfold f_Mo_readIndex_24
  exact (fy_f_Mo_readIndex_25  H)
theorem fy_f_Mo_readIndex {A : Nat → Nat → Int32} {h : zs_H}  (H : fy_P A h) : fy_2 A (f_Mo_readIndex h) := by
  unfold f_Mo_readIndex
  exact (fy_B22 (fy_f_Mo_passes  H) (fun v2 h3 H_h3 => (fy_2i (fun _ => (fy_f_Mo_readIndex_24  H_h3)) (fun _ => (fy_B22 (fy_f_Mo_passes  H_h3) (fun v7 h8 H_h8 => (fy_2i (fun _ => (fy_f_Mo_readIndex_24  H_h8)) (fun _ => (fy_f_Mo_readIndex_25  H_h8)))))))))
/-! watch: the function of its bytes against the one that the pure part speaks of. -/
theorem jw_B {α : Type} {a : Int32} {b : zs_H} {F : Int32 → zs_H → Option α} : zd_B (some (a, b)) F = F a b := rfl
theorem jw_Bs {o : Option (Int32 × zs_H)} : (zd_B o fun v h => some (v, h)) = o := by
  cases o with
  | none => rfl
  | some p => rfl
theorem jw_E {h : zs_H} {v base b : Int32} {r : Int32 × zs_H} (e : f_Mo_watch_E h v base = some r) (M : Nat) : jw_watch_L37 (M + 1) h b base 0 v = some r := by
  have g1 : jw_watch_L37 (M + 1) h b base 0 v = jw_watch_37 (jw_watch_L37 M) h b base 0 v := rfl
  rw [g1]
  unfold f_Mo_watch_E at e
  unfold jw_watch_37
  rw [if_pos rfl]
  by_cases c1 : v < 0
  · rw [if_pos c1] at e ⊢; exact e
  · rw [if_neg c1] at e ⊢
    by_cases c2 : zd_in v 8400
    · rw [if_pos c2] at e ⊢
      unfold jw_watch_159
      rw [if_pos c2]
      by_cases c3 : (h.2.1 92 v.toNatClampNeg) = 2
      · rw [if_pos c3] at e ⊢
        by_cases c4 : (h.2.1 93 v.toNatClampNeg) < 100000
        · rw [if_pos c4] at e
          rw [if_neg (Int32.not_le.mpr c4)]
          exact e
        · rw [if_neg c4] at e
          rw [if_pos (Int32.not_lt.mp c4), if_pos c3, jw_Bs]
          exact e
      · rw [if_neg c3] at e ⊢
        rw [if_neg c3]
        by_cases c5 : (h.2.1 92 v.toNatClampNeg) = 1
        · rw [if_pos c5] at e ⊢
          obtain ⟨i, h2, d1, e⟩ := zd_Be e
          rw [d1, jw_B, if_pos c2]
          by_cases c6 : (h2.1 68 93) < 0
          · rw [if_pos c6] at e ⊢; exact e
          · rw [if_neg c6] at e ⊢
            by_cases c7 : (i - (h2.2.1 97 v.toNatClampNeg)) < 0
            · rw [if_pos c7] at e ⊢; exact e
            · rw [if_neg c7] at e ⊢
              by_cases c8 : (h2.2.1 98 v.toNatClampNeg) ≤ (i - (h2.2.1 97 v.toNatClampNeg))
              · rw [if_pos c8] at e
                rw [if_neg (Int32.not_lt.mpr c8)]
                exact e
              · rw [if_neg c8] at e
                rw [if_pos (Int32.not_le.mp c8), jw_Bs]
                have hf : h2.2.1 94 = h.2.1 94 := fy_f_Mo_readIndex (A := h.2.1) (fun k _ => rfl) i h2 d1 94 (by decide)
                rw [hf] at e
                exact e
        · rw [if_neg c5] at e ⊢
          by_cases c6 : (h.1 68 93) < (h.1 68 94)
          · rw [if_pos c6] at e
            rw [if_neg (Int32.not_le.mpr c6)]
            exact e
          · rw [if_neg c6] at e
            rw [if_pos (Int32.not_lt.mp c6), jw_Bs]
            exact e
    · rw [if_neg c2] at e
      cases e
theorem jw_L (N : Nat) : ∀ (h : zs_H) (b base v4 : Int32) (r : Int32 × zs_H), f_Mo_watch_L16 N h b base = some r → jw_watch_L37 (N + 1) h b base 1 v4 = some r := by
  induction N with
  | zero => intro h b base v4 r e; cases e
  | succ N ih =>
    intro h b base v4 r e
    have e1 : f_Mo_watch_16 (f_Mo_watch_L16 N) h b base = some r := e
    have g1 : jw_watch_L37 (N + 1 + 1) h b base 1 v4 = jw_watch_37 (jw_watch_L37 (N + 1)) h b base 1 v4 := rfl
    rw [g1]
    unfold f_Mo_watch_16 f_Mo_watch_B at e1
    unfold jw_watch_37
    rw [if_neg (by decide)]
    obtain ⟨v, h1, d1, e1⟩ := zd_Be e1
    obtain ⟨v7, h8, d2, d1⟩ := zd_Be d1
    rw [d2, jw_B]
    by_cases c0 : v7 = 0
    · rw [if_pos c0] at d1 ⊢
      cases d1
      rw [if_pos (by decide)] at e1
      unfold jw_watch_57 jw_watch_101 jw_watch_102
      rw [if_pos (by decide), if_pos rfl]
      exact jw_E e1 N
    · rw [if_neg c0] at d1 ⊢
      obtain ⟨v2, d3, d1⟩ := zd_b d1
      cases d1
      rw [d3, Option.bind_some]
      unfold jw_watch_57
      by_cases c1 : v < 0
      · rw [if_pos c1] at e1 ⊢
        unfold jw_watch_101 jw_watch_102
        rw [if_pos rfl]
        exact jw_E e1 N
      · rw [if_neg c1] at e1 ⊢
        by_cases c2 : zd_in v 8400
        · rw [if_pos c2] at e1 ⊢
          by_cases c3 : (h1.2.1 92 v.toNatClampNeg) = 2
          · rw [if_pos c3] at e1 ⊢
            by_cases c4 : (h1.2.1 93 v.toNatClampNeg) < 100000
            · rw [if_pos c4] at e1
              rw [if_neg (Int32.not_le.mpr c4)]
              obtain ⟨p, h2, d4, e1⟩ := zd_Be e1
              rw [d4, jw_B]
              by_cases c5 : p = 0
              · rw [if_pos c5] at e1 ⊢
                unfold jw_watch_101 jw_watch_102
                rw [if_pos rfl]
                exact jw_E e1 N
              · rw [if_neg c5] at e1 ⊢
                unfold jw_watch_102
                rw [if_neg (by decide), if_pos c2]
                exact ih _ _ _ _ _ e1
            · rw [if_neg c4] at e1
              rw [if_pos (Int32.not_lt.mp c4)]
              unfold jw_watch_101 jw_watch_102
              rw [if_pos rfl]
              exact jw_E e1 N
          · rw [if_neg c3] at e1 ⊢
            unfold jw_watch_101 jw_watch_102
            rw [if_pos rfl]
            exact jw_E e1 N
        · rw [if_neg c2] at e1
          cases e1
theorem jw_w {h : zs_H} {r : Int32 × zs_H} (e : f_Mo_watch h = some r) : jw_watch h = some r := by
  unfold f_Mo_watch at e
  unfold jw_watch
  obtain ⟨n, h1, d, e⟩ := zd_Be e
  rw [d, jw_B]
  have hc : ((zs_uF h1 68 94 n).1 68 82) = h1.1 68 82 := rfl
  rw [hc] at e
  by_cases c : (h1.1 68 82) = 0
  · rw [if_pos c] at e ⊢
    exact e
  · rw [if_neg c] at e ⊢
    exact jw_L zF _ _ _ _ _ e
