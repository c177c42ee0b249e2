/-! The coder: what is known of a ladder's code. -/
section YUT
variable {X Y : Nat → Nat} {kb : Nat → yK} {Tb : Nat → Prop} {b lo pw n m : Nat} {q : Nat → Nat → yT}
/-- all instructions are in their bounds, and d numbers more lie on the stack -/
def yu_w (X Y : Nat → Nat) (kb : Nat → yK) (b lo : Nat) (L : List yI) (d e : Nat) : Prop := (∀ k, yo_h (k + d) L = some (k + e)) ∧ ∀ i, i ∈ L → yw_i X Y kb b lo i
theorem yu_wap {L1 L2 : List yI} {d e f : Nat} (A : yu_w X Y kb b lo L1 d e) (B : yu_w X Y kb b lo L2 e f) : yu_w X Y kb b lo (L1 ++ L2) d f := by
  refine ⟨fun k => by rw [yo_1 (A.1 k)]; exact B.1 k, fun i hi => ?_⟩
  rcases List.mem_append.mp hi with z | z
  · exact A.2 i z
  · exact B.2 i z
theorem yu_wn {d : Nat} : yu_w X Y kb b lo [] d d := ⟨fun k => rfl, fun i hi => (by cases hi)⟩
theorem yu_w1 {i : yI} {d e : Nat} (h1 : yo_t i.1 ≤ d) (h2 : d - yo_t i.1 + yo_l i.1 = e) (h3 : yw_i X Y kb b lo i) : yu_w X Y kb b lo [i] d e := by
  refine ⟨fun k => ?_, fun j hj => by rw [List.mem_singleton.mp hj]; exact h3⟩
  show (if yo_t i.1 ≤ k + d then some (k + d - yo_t i.1 + yo_l i.1) else none) = _
  rw [if_pos (by omega)]
  exact congrArg some (by omega)
theorem yu_w0 {d : Nat} {v : Int32} : yu_w X Y kb b lo [(0, v, 0, 0)] d (d + 1) := yu_w1 (Nat.zero_le _) rfl (.inl (.inl rfl))
theorem yu_wl {d x : Nat} (h : x < X b) : yu_w X Y kb b lo [(1, nI x, 0, 0)] d (d + 1) := yu_w1 (Nat.zero_le _) rfl (.inl (.inr (.inr (.inl ⟨rfl, x, rfl, h⟩))))
theorem yu_ws {d x : Nat} (h : (x < Y b ∧ ¬ (kb b).2 x) ∨ (lo ≤ x ∧ x < X b)) : yu_w X Y kb b lo [(2, nI x, 0, 0)] (d + 1) d := yu_w1 (by show 1 ≤ d + 1; omega) (by show d + 1 - 1 + 0 = d; omega) (.inr (.inl ⟨rfl, x, rfl, h⟩))
theorem yu_w7 {d k : Nat} (h : k < 25) : yu_w X Y kb b lo [(7, nI k, 0, 0)] (d + 2) (d + 1) := yu_w1 (by show 2 ≤ d + 2; omega) (by show d + 2 - 2 + 1 = d + 1; omega) (.inl (.inr (.inr (.inr (.inr (.inr (.inr (.inl ⟨rfl, k, rfl, h⟩))))))))
theorem yu_w8 {d : Nat} : yu_w X Y kb b lo [(8, 2, 0, 0)] (d + 1) (d + 1) := yu_w1 (by show 1 ≤ d + 1; omega) (by show d + 1 - 1 + 1 = d + 1; omega) (.inl (.inr (.inr (.inr (.inr (.inr (.inr (.inr (.inl ⟨rfl, 2, rfl, by decide⟩)))))))))
theorem yu_wct {t : yT} {d : Nat} (B : yu_B Tb (kb b).2 (Y b) lo (X b) t) (hYX : Y b ≤ X b) (v4 : t.2.1 < 4) : yu_w X Y kb b lo (yu_ct t) (d + 1) (d + 1) := by
  unfold yu_ct
  split
  · rename_i h25
    have hS := B.1 (.inl h25)
    have l1 : ∀ d, yu_w X Y kb b lo [(1, nI t.2.2.1, 0, 0)] d (d + 1) := fun d => yu_wl (by omega)
    split
    · exact yu_wap (l1 _) (yu_w7 (k := 10) (by decide))
    · split
      · exact yu_wap (l1 _) (yu_wap yu_w8 (yu_w7 (k := 10) (by decide)))
      · have hE := B.2.1 h25 (by omega)
        have l2 : ∀ d, yu_w X Y kb b lo [(1, nI t.2.2.2.1, 0, 0)] d (d + 1) := fun d => yu_wl (by omega)
        have st : ∀ d, yu_w X Y kb b lo [(2, nI t.2.2.2.1, 0, 0)] (d + 1) d := fun d => yu_ws (.inr (by omega))
        split
        · exact yu_wap (l1 _) (yu_wap (l2 _) (yu_wap yu_w8 (yu_wap (yu_w7 (k := 10) (by decide)) (yu_wap (yu_w7 (k := 10) (by decide)) (yu_wap (l1 _) (st _))))))
        · exact yu_wap (l2 _) (yu_wap (l1 _) (yu_wap yu_w8 (yu_wap (yu_w7 (k := 10) (by decide)) (yu_wap (yu_w7 (k := 10) (by decide)) (yu_wap (l1 _) (st _))))))
  · exact yu_wn
end YUT
