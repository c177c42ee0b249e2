/-! The class reads a text. -/
theorem zk_Ko2 : zn_o zk_K zk_K.length ≤ 330 := by decide +kernel
theorem zl_read {h : zs_H} {n : Nat} (hn : n ≤ 10240) (hT : ∀ i, zb_ok ((h.2.1 1) i)) (HC : zn_C h zk_K) : zw (f_Tk_read_c1 h (nI n)) (fun h' => ∃ k L, k ≤ n ∧ zl_I h' (h.2.1 1) n (k + 1) L ∧ (∀ i, i < k → ¬ ((zl_at (h.2.1 1) n i).1 = 0 ∨ (zl_at (h.2.1 1) n i).1 = 9)) ∧ ((zl_at (h.2.1 1) n k).1 = 0 ∨ (zl_at (h.2.1 1) n k).1 = 9) ∧ zfr [(2, 5), (8, 3), (8, 7), (8, 5), (8, 6)] [4, 5, 6, 7, 9, 10, 11] [] h h') := by
  unfold f_Tk_read_c1
  have f0 : zfr [(2, 5), (8, 3), (8, 7), (8, 5), (8, 6)] [4, 5, 6, 7, 9, 10, 11] [] h (zs_uF (zs_uF (zs_uF (zs_uF h 8 5 1) 8 6 (nI n)) 8 7 0) 8 3 0) := zfr_F (by decide) (zfr_F (by decide) (zfr_F (by decide) (zfr_F (by decide) zfr_rfl)))
  have hI : zl_I (zs_uF (zs_uF (zs_uF (zs_uF h 8 5 1) 8 6 (nI n)) 8 7 0) 8 3 0) (h.2.1 1) n 0 zk_K := by
    refine ⟨⟨fun j hj => absurd hj (Nat.not_lt_zero j), rfl⟩, ?_, zk_Kn, ?_, ?_⟩
    · exact zn_C_fr (zfr_F (fs := [(8, 3), (8, 7), (8, 5), (8, 6)]) (ms := []) (ls := []) (by decide) (zfr_F (by decide) (zfr_F (by decide) (zfr_F (by decide) zfr_rfl)))) (by decide) (by decide) (by decide) (by decide) (by decide) HC
    · exact List.take_of_length_le (by rw [zk_Kl]; exact Nat.le_refl _)
    · rw [zk_Kl]; exact Nat.le_refl _
  refine zw_mono (zl_rd (T := (h.2.1 1)) hn n 0 zF (zs_uF (zs_uF (zs_uF (zs_uF h 8 5 1) 8 6 (nI n)) 8 7 0) 8 3 0) zk_K (by omega) (by have := zF_big; omega) ⟨rfl, by omega, (show ¬ (1 : Int32) = 0 by decide), hT, rfl⟩ hI rfl (Nat.zero_le n) ?_ ?_ (Nat.le_refl 0)) fun h' q => ?_
  · rw [zk_Kl]; exact ⟨by omega, Or.inl (by omega)⟩
  · have := zk_Ko2; omega
  · obtain ⟨k, L, q1, q2, q3, q4, q5, q6⟩ := q
    exact ⟨k, L, q2, q3, fun i hi => q4 i (Nat.zero_le i) hi, q5, zfr_trans f0 (zfr_w q6 (by decide) (by decide) (by decide))⟩
