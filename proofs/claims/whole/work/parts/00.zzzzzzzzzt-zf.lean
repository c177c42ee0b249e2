/-! What was judged stays so when other fields of the model change. -/
section YZF
variable {LC LM : List (List Int32)} {s : Nat} {h g g' : zs_H}
abbrev yZ_q : List (Nat × Nat) := [(68, 31), (68, 80), (68, 81)]
theorem yZ_If {nb : Nat} {F : Nat → Nat} (I : zv_I LC LM nb nb (F nb) F (-1) h g) (f : zfr yZ_q [] [] g g') : zv_I LC LM nb nb (F nb) F (-1) h g' := by
  obtain ⟨HS, HB, HN, HV, HC, HT, HJ, J1, J2⟩ := I
  have G : g'.2.1 = g.2.1 := funext fun z => f.2.1 z List.not_mem_nil
  have k3 : g'.1 68 3 = g.1 68 3 := f.1 _ _ (by decide)
  have k29 : g'.1 68 29 = g.1 68 29 := f.1 _ _ (by decide)
  have k33 : g'.1 68 33 = g.1 68 33 := f.1 _ _ (by decide)
  have k41 : g'.1 68 41 = g.1 68 41 := f.1 _ _ (by decide)
  have k54 : g'.1 68 54 = g.1 68 54 := f.1 _ _ (by decide)
  refine ⟨?_, ?_, ?_, ?_, ?_, ?_, ?_, J1, k29.trans J2⟩
  · unfold zv_S zn_M at HS ⊢; simp only [G, k3]; exact HS
  · unfold zv_B at HB ⊢; simp only [G, k33, k41]; exact HB
  · unfold zv_N at HN ⊢; simp only [G]; exact HN
  · unfold zv_V zv_Q at HV ⊢; simp only [G]; exact HV
  · unfold zv_C at HC ⊢; rw [G]; exact HC
  · unfold zv_T at HT ⊢; simp only [G]; exact HT
  · simp only [k54]; exact HJ
theorem yZ_Kf {F : Nat → Nat} {sz b : Nat} {P Q : Nat → Prop} (hP : ∀ j, P j → j < 32784) (hF : ∀ j, j < b → F (j + 1) ≤ F (b + 1)) (K : yg_K LC LM F sz b P Q h g) (f : zfr yZ_q [] [] g g') : yg_K LC LM F sz b P Q h g' := by
  have G : ∀ z, g'.2.1 z = g.2.1 z := fun z => f.2.1 z List.not_mem_nil
  obtain ⟨Fb, i, k, c, kv, lb, a, bn, y, m, k1, ⟨i1, i2, i3, i4⟩, ⟨l1, l2, l3, Qm, q01, q02⟩, k4, a3, k6, y3, k8, k9, k10, k11⟩ := K
  refine ⟨Fb, i, k, c, kv, lb, a, bn, y, m, k1, ⟨i1, i2, i3, by rw [G]; exact i4⟩, ⟨by rw [G]; exact l1, l2, by rw [G]; exact l3, Qm, q01, zt_fr _ Qm Qm _ _ _ (fun i _ => ⟨fun kd k up z hz => by unfold zt_NM at hz ⊢; rw [G 72, G 73, G 74, G 75, G 77]; exact hz, by rw [G 76], by rw [G 78]⟩) (fun i hi => hi) q02⟩, k4, a3, ?_, y3, ?_, ?_, k10, by rw [G 73]; exact k11⟩
  · refine yb_Ff (h := h) (g := g) ⟨fun j hj => ⟨hP j hj, rfl, rfl, rfl, rfl, rfl⟩, fun j hj => ⟨by rw [G], fun _ _ => by rw [G], fun _ => by rw [G], by rw [G], by rw [G], by rw [G]⟩, fun j hj => ⟨rfl, rfl, rfl, rfl, rfl⟩, fun bq hbq => rfl, fun bq hbq => ?_⟩ _ _ _ _ _ k6
    rw [k1 _ (by omega), k1 _ (Nat.le_refl _)]
    exact hF bq hbq
  · exact yg_Gf (fun _ z => z) (G _) (G _) (G _) (fun j hj => ⟨fun _ _ => by rw [G], fun _ _ => by rw [G], fun _ _ => by rw [G]⟩) _ _ _ k8
  · exact yg_Gf (fun _ z => z) (G _) (G _) (G _) (fun j hj => ⟨fun _ _ => by rw [G], fun _ _ => by rw [G], fun _ _ => by rw [G]⟩) _ _ _ k9
theorem yZ_Zf (Z : yh_Z s LC LM h g) (f : zfr yZ_q [] [] g g') : yh_Z s LC LM h g' := by
  have G : ∀ z, g'.2.1 z = g.2.1 z := fun z => f.2.1 z List.not_mem_nil
  obtain ⟨nb, F, X, K, I, si, BK, TT, KK⟩ := Z
  refine ⟨nb, F, X, K, yZ_If I f, si, fun j hj => ?_, ?_, fun b hb => ?_⟩
  · obtain ⟨b1, b2, b3, b4⟩ := BK j hj
    exact ⟨b1, b2, by rw [G]; exact b3, by rw [G]; exact b4⟩
  · obtain ⟨t1, ⟨t2, t3, t4⟩, t5, t6, t7⟩ := TT
    exact ⟨t1, ⟨t2, (f.1 _ _ (by decide)).trans t3, t4⟩, fun j hj k => ⟨(t5 j hj k).1, by rw [G]; exact (t5 j hj k).2⟩, by rw [G]; exact t6, t7⟩
  · obtain ⟨Pb, Qb, p1, p2⟩ := KK b hb
    have hm := yh_mono (F := F) (nb := nb) (fun bq hbq => (I.2.1.2.2.2.1 bq hbq).1)
    refine ⟨Pb, Qb, p1, yZ_Kf p1 (fun j hj => ?_) p2 f⟩
    have := hm (b - j) (j + 1) (by omega)
    rwa [show j + 1 + (b - j) = b + 1 by omega] at this
end YZF
