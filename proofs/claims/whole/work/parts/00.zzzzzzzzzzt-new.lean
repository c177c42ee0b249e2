/-! What holds between two calls holds behind both constructors. -/
theorem yO_new {kn : Nat → Int32} (hk : ∀ i, i < 405 → kn i = zk_kn.getD i 0) : yO 0 (zs_f0, fun k => if k = 3 then kn else fun _ => 0, fun _ _ => 0) (zs_f0, fun k => if k = 3 then kn else fun _ => 0, fun _ _ => 0) := by
  refine ⟨⟨⟨rfl, rfl, by decide⟩, fun i => ?_, fun i hi => absurd hi (Nat.not_lt_zero i)⟩, ⟨⟨rfl, fun i hi => hk i hi⟩, rfl, rfl, rfl⟩, fun i hi => ⟨⟨rfl, rfl, rfl⟩, fun _ => ⟨.inl rfl, .inl rfl, .inl rfl⟩⟩, ⟨rfl, ?_⟩, ⟨rfl, rfl⟩, ⟨0, by decide, rfl, rfl, fun i hi => absurd hi (Nat.not_lt_zero i)⟩, .inl ⟨rfl, rfl, rfl, rfl, rfl, rfl, rfl, rfl⟩⟩
  · show zb_ok 0
    exact ⟨by decide, by decide⟩
  · show (-5 : Int32) = if (0 : Int32) = 0 then -5 else _
    rw [if_pos rfl]
