/-! The machine: BOOLs; standard blocks, a proved text. -/
section YJT
def yJ_ck (B x : Nat) : Bool := (List.range 32).all fun v => !(decide (zj_sv B ≤ v) && decide (v < zj_sv (B + 1)) && (zj_t v 3 == 0) && (zj_t v 4 == nI x))
theorem yJ_nb {B x : Nat} (h : yJ_ck B x = true) : ¬ yq_sB B x := fun q => by
  obtain ⟨v, v1, v2, v3, v4, v5⟩ := q
  have := List.all_eq_true.mp h v (List.mem_range.mpr v1)
  rw [decide_eq_true v2, decide_eq_true v3, v5, v4] at this
  simp at this
theorem yJ_s3 {B : Nat} (h : B < 3) : ¬ yq_sB B 3 ∧ ¬ yq_sB B 5 := by
  rcases (show B = 0 ∨ B = 1 ∨ B = 2 by omega) with z | z | z <;> subst z
  · exact ⟨yJ_nb (by decide), yJ_nb (by decide)⟩
  · exact ⟨yJ_nb (by decide), yJ_nb (by decide)⟩
  · exact ⟨yJ_nb (by decide), yJ_nb (by decide)⟩
theorem yJ_s5 {B : Nat} (h : B < 5) (h3 : 3 ≤ B) : ¬ yq_sB B 4 := by
  rcases (show B = 3 ∨ B = 4 by omega) with z | z <;> subst z
  · exact yJ_nb (by decide)
  · exact yJ_nb (by decide)
theorem yJ_on (x : Int32) : yJ_01 (yT_on x) := by
  unfold yT_on
  split
  · exact .inl rfl
  · exact .inr rfl
theorem yJ_ite {p : Prop} [Decidable p] {a b : Int32} (h1 : yJ_01 a) (h2 : yJ_01 b) : yJ_01 (if p then a else b) := by
  split
  · exact h1
  · exact h2
theorem yJ_tq {k : Nat} {c0 c2 c3 c4 pt gr : Int32} : yJ_01 (yT_q k c0 c2 c3 c4 pt gr) := by
  have z0 : yJ_01 0 := .inl rfl
  have z1 : yJ_01 1 := .inr rfl
  unfold yT_q
  exact yJ_ite (yJ_ite z0 z1) (yJ_ite (yJ_ite z1 (yJ_ite (yJ_ite z1 z0) (yJ_ite z0 z1))) (yJ_ite z1 (yJ_ite z0 (yJ_ite (yJ_ite z0 z1) z0))))
theorem yJ_u {c : Nat → Int32} {p j : Nat} {v : Int32} (h : yJ_01 (c j)) (hv : j = p → yJ_01 v) : yJ_01 (yE_u c p v j) := by
  unfold yE_u
  split
  · rename_i z; exact hv z
  · exact h
theorem yJ_tm {nw : Int32} : yJ_t (yT_m nw) := by
  intro B p c t hB ht hs hc
  have z0 : yJ_01 0 := .inl rfl
  have z1 : yJ_01 1 := .inr rfl
  have n3 : B < 3 → ¬ t = 3 ∧ ¬ t = 5 := fun q => ⟨fun z => (yJ_s3 q).1 (by rw [← z]; exact hs), fun z => (yJ_s3 q).2 (by rw [← z]; exact hs)⟩
  have n4 : 3 ≤ B → B < 5 → ¬ t = 4 := fun q r z => yJ_s5 r q (by rw [← z]; exact hs)
  unfold yT_m
  by_cases k3 : B < 3
  · rw [if_pos k3]
    obtain ⟨a, b⟩ := n3 k3
    exact yJ_u (yJ_u (yJ_u (yJ_u hc (fun z => absurd (show t = 3 by omega) a)) (fun _ => yJ_tq)) (fun _ => yJ_on _)) (fun z => absurd (show t = 5 by omega) b)
  rw [if_neg k3]
  by_cases k5 : B < 5
  · rw [if_pos k5]
    have a := n4 (by omega) k5
    exact yJ_u (yJ_u (yJ_u hc (fun z => absurd (show t = 4 by omega) a)) (fun _ => yJ_ite (yJ_ite z0 z1) (yJ_ite z0 z1))) (fun _ => yJ_on _)
  rw [if_neg k5]
  by_cases k7 : B < 7
  · rw [if_pos k7]
    exact yJ_u (yJ_u hc (fun _ => yJ_ite (yJ_ite z1 z0) (yJ_ite z1 z0))) (fun _ => yJ_on _)
  · rw [if_neg k7]
    exact yJ_u hc (fun _ => yJ_ite (yJ_ite z1 z0) (yJ_ite z1 z0))
end YJT
/-- the blocks whose own cells hold BOOLs -/
def yJ_LD (h0 : zs_H) (T : Nat → ys) (u : Nat) : Prop := ¬ yz_N h0 u (T u)
def yJ_B (h0 : zs_H) (T : Nat → ys) : Nat → Nat → Prop := yq_b (yJ_LD h0 T) h0
theorem yJ_NL {h0 : zs_H} {T : Nat → ys} {u : Nat} (H : yz_NL h0 u (T u)) : yz_B (yJ_B h0 T) u (T u) := by
  by_cases z : yz_N h0 u (T u)
  · exact z _ (fun q => q z)
  · rcases H with q | q
    · exact absurd q z
    · exact q _ z
/-- where the BOOLs of a proved text are -/
def yJ_Zt (nb : Nat) (T : Nat → ys) (X Y : Nat → Nat) (h0 : zs_H) : Prop := yJ_q X Y (yJ_B h0 T) (nb - 1) ∧ (∀ u, u < nb → yz_B (yJ_B h0 T) u (T u)) ∧ (∀ j, j < 768 → yJ_B h0 T (nb - 1) j) ∧ (∀ j, 768 ≤ j → j < 960 → ¬ yJ_B h0 T (nb - 1) j) ∧ 960 ≤ X (nb - 1)
/-- its BOOLs are 0 or 1 -/
def yJ_c (h0 : zs_H) (nb : Nat) (T : Nat → ys) (X K : Nat → Nat) (c : Nat → Int32) : Prop := yJ_G (yJ_B h0 T) (yq_k h0) (yh_pl X K (X (nb - 1))) (nb - 1) 0 c
theorem yJ_mkZ {LC LM : List (List Int32)} {nb : Nat} {F X Y : Nat → Nat} {T : Nat → ys} {h0 g0 : zs_H} (n0 : 0 < nb) (n16 : nb ≤ 16) (C : yk_cx LC LM nb F X Y h0 g0) (k3 : (h0.2.1 21) (9 + (nb - 1)) = 3) (U : ∀ b, b < nb → yz_NL h0 b (T b)) : yJ_Zt nb T X Y h0 := by
  refine ⟨fun u hu => ?_, fun u hu => yJ_NL (U u hu), fun j hj => yq_b7 (by omega) k3 hj, fun j h7 h9 => yq_b9 C (by omega) k3 h7 h9, ?_⟩
  · have hu' : u < nb := by omega
    have kB := (C.2.2 u hu').1
    exact ⟨⟨kB.2.1, by omega, by omega⟩, fun j hj => yq_bX C hu' hj, fun j => yq_bz C hu'⟩
  · obtain ⟨⟨k1, k2, k3'⟩, k4, _, _, k5, _⟩ := C.2.2 (nb - 1) (by omega)
    have := k5 k3
    omega
