/-! Small things for both readers. -/
theorem zz_isCell {h0 h : zs_H} {T : Nat → Int32} {n K φ w : Nat} {LC : List (List Int32)} (H : zq_Z h0 T n K LC φ w h) : f_Ps_isCell h = 0 := by
  unfold f_Ps_isCell
  iterate 7 rw [if_neg (zq_ne H (by decide) (by decide))]
theorem zk_sgv {h0 g0 h g : zs_H} {T : Nat → Int32} {n K : Nat} {LC LM : List (List Int32)} {j d s m o q : Nat} (H : zk_L h0 g0 T n K LC h g LM j d s m o q) {c k : Nat} (hc : zk_cs c k = true) (ht : (h.1 19 5) = nI k) : (g.1 68 6) = 5 ∧ (g.1 68 9) = nI c := by
  have hA := zl_ckA (zk_F H)
  have hk : k < 200 := by
    rcases zk_csf hc with ⟨a, b⟩ | ⟨a, b, e⟩
    · have := zl_svb a; omega
    · omega
  have key : (zl_at T n j).1 = 5 ∧ (zl_at T n j).2.2.2 = c := by
    have z := (zk_tok H hk).mp ht
    rcases zk_csf hc with ⟨a, b⟩ | ⟨a, b, e⟩
    · rw [b] at z; exact (hA.1 c a).mp z
    · rw [e]; exact (hA.2.1 k a b).mp z
  have m6 := H.2.2.2.2.2.2.2.2.2.2.1
  have m8 := H.2.2.2.2.2.2.2.2.2.2.2.2.1
  exact ⟨by rw [m6, key.1]; rfl, by rw [m8 (by omega) (by omega), key.2]⟩
