/-! The coder: a ladder's grids are in their bounds. -/
section YUV
variable {X Y : Nat → Nat} {b lo hi pw m : Nat} {rows : List (List yT)}
theorem yu_mkH {Tb Qb : Nat → Prop} (Fm : yu_F m rows) (hB : ∀ cs, cs ∈ rows → ∀ u, u ∈ cs → yu_B Tb Qb (Y b) lo hi u) (h1 : lo ≤ pw) (h2 : pw + 156 ≤ X b) (h3 : Y b ≤ X b) (h4 : hi ≤ X b) : yu_H Tb Qb X Y b lo pw rows.length m (yu_q rows) := by
  refine ⟨Fm.1, ⟨h1, h2, h3⟩, fun r c hr hc => ?_⟩
  obtain ⟨cs, e1, e2, _⟩ := yu_Fg Fm hr hc
  obtain ⟨a1, a2, a3⟩ := hB cs (List.mem_of_getElem? e1) _ (List.mem_of_getElem? e2)
  exact ⟨⟨a1, fun h25 hv => by have := a2 h25 hv; omega, a3⟩, a3.1⟩
end YUV
section YUW
variable {n v q ow : Nat} {T : ys} {h h' : zs_H}
/-- statements are a part of a unit -/
theorem yC_RU (R : yC_R n v q T ow h h') (hx : yz_x T n = []) : yC_U n ((yz_c T n v q 0).map Prod.fst) h h' := by
  obtain ⟨⟨r1, r2, r3⟩, _, _⟩ := R
  rw [hx] at r3
  refine ⟨r1, zfr_w r2 (by decide) (by decide) (by decide), fun h4 => ⟨(r3 h4).1, fun k i e => ?_⟩⟩
  obtain ⟨⟨a1, a2, a3⟩, a4⟩ := (r3 h4).2 k i e
  exact ⟨a1, a4 List.not_mem_nil, a2, a3⟩
end YUW
