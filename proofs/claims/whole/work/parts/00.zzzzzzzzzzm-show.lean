/-! watch: a cell is shown, on both sides. -/
theorem zwt_show {h g : zs_H} {u p : Nat} {ty : Int32} (hu : u < 6000) (hp : p < 8192) (e : (h.2.1 62) p = (g.2.1 114) p) (et : (h.2.1 31) u = ty) : f_Pk_show h (nI u) (nI p) = some (ty, zs_uF h 0 4 ((g.2.1 114) p)) ∧ f_Mo_see g ty (nI p) = some (ty, zs_uF g 68 87 ((g.2.1 114) p)) := by
  constructor
  · unfold f_Pk_show f_Mc_cellAt
    rw [if_neg (nI_pos (by omega)), if_neg (mt (zc_le (k := 8192) (by decide) (by omega)).mp (by omega)), if_pos (zi_in (by omega) hp), nI_clamp (n := p) (by omega), Option.bind_some, if_pos (zi_in (by omega) hu), nI_clamp (by omega), e, et]
  · unfold f_Mo_see
    rw [if_pos (zi_in (by omega) hp), nI_clamp (by omega)]
