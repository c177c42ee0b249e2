/-! The machine: a run of a proved text, on both sides. -/
section YXR
variable {p : Nat} {nw : Int32}
theorem yX_len : ∀ k, k < 9 → (k < 5 → (zt_2.getD k 0).toNatClampNeg = 6) ∧ (5 ≤ k → (zt_2.getD k 0).toNatClampNeg = 3) := by decide
theorem yX_ht : yE_ht (yT_m nw) := by
  intro k p c j hk hj
  obtain ⟨l1, l2⟩ := yX_len k hk
  unfold yT_m
  by_cases k3 : k < 3
  · have := l1 (by omega)
    rw [if_pos k3]
    unfold yE_u
    rw [if_neg (by omega), if_neg (by omega), if_neg (by omega), if_neg (by omega)]
  rw [if_neg k3]
  by_cases k5 : k < 5
  · have := l1 (by omega)
    rw [if_pos k5]
    unfold yE_u
    rw [if_neg (by omega), if_neg (by omega), if_neg (by omega)]
  rw [if_neg k5]
  have := l2 (by omega)
  by_cases k7 : k < 7
  · rw [if_pos k7]
    unfold yE_u
    rw [if_neg (by omega), if_neg (by omega)]
  · rw [if_neg k7]
    unfold yE_u
    rw [if_neg (by omega)]
theorem yX_m : yS_m (yT_m nw) := by
  intro p c
  unfold yT_m
  rw [if_pos (by decide)]
  have e : ∀ (c' : Nat → Int32) (v a b : Int32), yE_u (yE_u (yE_u c' (p + 2) v) (p + 4) a) (p + 5) b (p + 2) = v := fun c' v a b => by
    unfold yE_u
    rw [if_neg (by omega), if_neg (by omega), if_pos rfl]
  rw [e]
  unfold yT_q
  rw [if_neg (by decide), if_neg (by decide)]
  split
  · exact .inr rfl
  · split
    · exact .inl rfl
    · split
      · split
        · exact .inl rfl
        · exact .inr rfl
      · exact .inl rfl
theorem yX_tN {g0 : zs_H} (hn : (g0.1 68 73) = nw) : yN_t (yT_m nw) g0 := by
  intro k p c g f hk hp h2 hc
  obtain ⟨g', a1, a2, a3⟩ := yT_M (g0 := g) (g := g) (c := c) (nw := nw) hk ⟨zfr_rfl, hc⟩ ((f.1 _ _ (by decide)).trans hn) hp h2
  exact ⟨g', a1, a3, a2⟩
theorem yX_tR {h0 : zs_H} (hn : (h0.1 58 9) = nw) : yR_t (yT_m nw) h0 := by
  intro k p c h f hk hp hc
  obtain ⟨h', a1, a2, a3⟩ := yT_C (h0 := h) (h := h) (c := c) (nw := nw) hk ⟨zfr_rfl, hc⟩ ((f.1 _ _ (by decide)).trans hn) hp
  exact ⟨h', a1, a3, a2⟩
variable {LC LM : List (List Int32)} {nb : Nat} {F X Y K : Nat → Nat} {T : Nat → ys} {h0 g0 : zs_H}
theorem yX_pm {s0 : Nat} : ∀ (m b : Nat), yh_pl X K s0 b ≤ yh_pl X K s0 (b + m) := by
  intro m
  induction m with
  | zero => intro b; exact Nat.le_refl _
  | succ m ih =>
    intro b
    have := ih b
    show _ ≤ yh_pl X K s0 (b + m) + _
    omega
theorem yX_p1 {s0 w u : Nat} (h : w < u) (k : K w = 1) : yh_pl X K s0 w + X w ≤ yh_pl X K s0 u := by
  have := yX_pm (X := X) (K := K) (s0 := s0) (u - (w + 1)) (w + 1)
  rw [show w + 1 + (u - (w + 1)) = u by omega] at this
  have e : yh_pl X K s0 (w + 1) = yh_pl X K s0 w + X w := by show _ + _ = _; rw [if_pos k]
  omega
/-- what is known of a proved text -/
def yX_Z (nb : Nat) (T : Nat → ys) (X Y K : Nat → Nat) (h0 : zs_H) : Prop := (0 < nb ∧ K (nb - 1) = 3 ∧ yh_pl X K (X (nb - 1)) nb ≤ 8192 ∧ (∀ j, (yq_k h0 (nb - 1)).2 j → 960 ≤ j) ∧ yJ_Zt nb T X Y h0) ∧ (∀ j, j < nb → (K j = 1 ∨ K j = 2 ∨ K j = 3) ∧ (yq_k h0 j).1 = nI (K j)) ∧ ∀ nw, yN_A nb T X Y (yq_k h0) (yh_pl X K (X (nb - 1))) (yT_m nw)
theorem yX_A (n0 : 0 < nb) (n16 : nb ≤ 16) (C : yk_cx LC LM nb F X Y h0 g0) (KK : ∀ j, j < nb → (K j = 1 ∨ K j = 2 ∨ K j = 3) ∧ (h0.2.1 21) (9 + j) = nI (K j) ∧ (g0.2.1 86) j = nI (K j)) (TT : yh_T nb X K h0 g0) (U : ∀ b, b < nb → yx_T X Y h0 b (T b) ∧ yH_D (T b) true = false ∧ yV_le 1000000000 (yV_b T b) = true) (S4 : yx_S T nb ≤ 4000) : yX_Z nb T X Y K h0 := by
  have kk : ∀ j, j < nb → (yq_k h0 j).1 = 1 → K j = 1 := fun j hj z => by
    have e : nI (K j) = 1 := (KK j hj).2.1.symm.trans z
    have := (KK j hj).1
    exact (zc_eq (k := 1) (by decide) (by omega)).mp e
  have k3 : (h0.2.1 21) (9 + (nb - 1)) = 3 := by rw [(KK (nb - 1) (by omega)).2.1, TT.1.2]; rfl
  refine ⟨⟨n0, TT.1.2, TT.2.1.2.2, fun j hj => yq_9 C (by omega) k3 hj, yJ_mkZ n0 n16 C k3 (fun b hb => (U b hb).1.2.2.2.2.2)⟩, fun j hj => ⟨(KK j hj).1, (KK j hj).2.1⟩, fun nw => ⟨n16, fun u hu => ?_, yX_ht, fun u hu => ?_, fun u hu k1 => ?_, S4, fun u hu => ?_, yX_m⟩⟩
  · have := (C.2.2 u hu).1; exact ⟨this.2.1, by omega⟩
  · obtain ⟨⟨t1, t2, t3, t4, t5⟩, d1, d2⟩ := U u hu
    exact ⟨⟨t1, t2, t4⟩, d1, d2⟩
  · have k := kk u hu k1
    refine ⟨fun w hw hk => .inl (yX_p1 hw (kk w (by omega) hk)), ?_, ?_⟩
    · have := yq_Y0 C hu k1
      have := (C.2.2 u hu).1.2.1
      omega
    · exact Nat.le_trans (yX_p1 hu k) TT.2.1.2.2
  · have hu' : u < nb := by omega
    have kB := (C.2.2 u hu').1
    exact ⟨⟨kB.2.1, by omega, by omega⟩, fun j hj => ⟨yq_Y C hu' hj, fun z => yq_f0 C hu' z hj⟩⟩
theorem yX_ofN (x : Int32) : ∃ p : Nat, x = nI p := ⟨x.toBitVec.toNat, by
  apply Int32.toBitVec_inj.mp
  show x.toBitVec = BitVec.ofNat 32 x.toBitVec.toNat
  rw [BitVec.ofNat_toNat, BitVec.setWidth_eq]⟩
variable {bu : Nat} {c : Nat → Int32}
/-- the result of a run -/
abbrev yX_r (nb : Nat) (T : Nat → ys) (X K : Nat → Nat) (nw : Int32) (c : Nat → Int32) : yE × Nat := yE_U T (yh_pl X K (X (nb - 1))) (yT_m nw) nb (nb - 1) 0 (c, [], 0)
theorem yX_R (Z : yX_Z nb T X Y K h0) (hbu : yV_le bu (yV_b T (nb - 1)) = true) : ((yX_r nb T X K nw c).2 = 0 ∨ (yX_r nb T X K nw c).2 = 3 ∨ (yX_r nb T X K nw c).2 = 4) ∧ (yX_r nb T X K nw c).1.2.2 ≤ bu ∧ yE_dj X (yq_k h0) (yh_pl X K (X (nb - 1))) (nb - 1) 0 ∧ (yS_g (yq_k h0) (nb - 1) 0 c → yS_g (yq_k h0) (nb - 1) 0 (yX_r nb T X K nw c).1.1) ∧ (yJ_c h0 nb T X K c → yJ_c h0 nb T X K (yX_r nb T X K nw c).1.1) := by
  obtain ⟨⟨n0, k3, _, _, Zt⟩, KK, A⟩ := Z
  obtain ⟨A1, A2, A3, A4, A5, A6, A7, A8⟩ := A nw
  have dj : yE_dj X (yq_k h0) (yh_pl X K (X (nb - 1))) (nb - 1) 0 := fun w hw _ => .inr (by
    have := yX_pm (X := X) (K := K) (s0 := X (nb - 1)) w 0
    rw [Nat.zero_add] at this
    have e : yh_pl X K (X (nb - 1)) 0 = X (nb - 1) := rfl
    omega)
  obtain ⟨r1, _, _, r4⟩ := yG_Us A1 A2 A3 (fun u hu => (A4 u hu).1) (fun u hu hk => (A5 u hu hk).1) nb (Nat.le_refl _) (nb - 1) 0 (c, [], 0) (by omega) dj
  have eB : yV_B T nb (nb - 1) = yV_u (yV_b T (nb - 1)) := by
    obtain ⟨m, rfl⟩ : ∃ m, nb = m + 1 := ⟨nb - 1, by omega⟩
    rw [Nat.add_sub_cancel]
    show (if m = m then _ else _) = _
    rw [if_pos rfl]
    rfl
  have lB := yN_Wle hbu
  rw [eB] at r4
  refine ⟨r1, ?_, dj, fun G => yS_Us A1 A7 A3 A8 (fun u hu => (A4 u hu).1.2.2) nb (Nat.le_refl _) (nb - 1) 0 (c, [], 0) (by omega) dj G, fun G => (yJ_Us A1 Zt.1 A3 yJ_tm (fun u hu => (A4 u hu).1) Zt.2.1 (fun u hu hk => (A5 u hu hk).1) nb (Nat.le_refl _) (nb - 1) 0 (c, [], 0) (by omega) dj).2 G⟩
  have r4' : (yX_r nb T X K nw c).1.2.2 + 1 ≤ 0 + yV_u (yV_b T (nb - 1)) := r4
  omega
/-- the model -/
theorem yX_M {g : zs_H} (Z : yX_Z nb T X Y K h0) (hbu : yV_le bu (yV_b T (nb - 1)) = true) (B : yN_B nb T (yq_k h0) (yh_pl X K (X (nb - 1))) (yT_m nw) g) (hc : ∀ j, j < 8192 → (g.2.1 114) j = c j) (s1 : (g.1 68 76) = 0) (s2 : (g.1 68 74) = 0) (s3 : (g.1 68 75) = 0) (G : yS_g (yq_k h0) (nb - 1) 0 c) : ∃ g', f_Mo_go 400 g (nI (nb - 1)) 0 = some g' ∧ zfr yN_F yN_M [] g g' ∧ (∀ j, j < 8192 → (g'.2.1 114) j = (yX_r nb T X K nw c).1.1 j) ∧ (g'.1 68 74) = nI (yX_r nb T X K nw c).1.2.2 ∧ (g'.1 68 75) = (if (yX_r nb T X K nw c).2 = 0 then 0 else if (yX_r nb T X K nw c).2 = 3 then -3 else -4) := by
  obtain ⟨r1, r2, dj, r3⟩ := yX_R (nw := nw) (c := c) Z hbu
  obtain ⟨⟨n0, k3, p8, _⟩, KK, A⟩ := Z
  have A1 := (A nw).1
  have px : X (nb - 1) ≤ 8192 := by
    have := yX_pm (X := X) (K := K) (s0 := X (nb - 1)) nb 0
    rw [Nat.zero_add] at this
    have e : yh_pl X K (X (nb - 1)) 0 = X (nb - 1) := rfl
    omega
  obtain ⟨g', a1, a2, a3⟩ := yN_Us (A nw) nb g 400 (Nat.le_refl _) (by omega) B (nb - 1) 0 (c, [], 0) g (by omega) zfr_rfl ⟨hc, s1, trivial, s2, s3⟩ (by show 0 + 64 * (nb - 1 + 1) ≤ 1088; omega) (by omega) dj G
  refine ⟨g', a1, a2, ?_⟩
  rcases r1 with z | z
  · obtain ⟨q1, _, _, q4, q5⟩ := a3.1 z
    exact ⟨q1, q4, by rw [if_pos z]; exact q5⟩
  · obtain ⟨q1, q2, q3⟩ := a3.2 z
    refine ⟨q2, q3, ?_⟩
    rw [if_neg (by omega)]
    exact q1
/-- the class -/
theorem yX_C {h : zs_H} (Z : yX_Z nb T X Y K h0) (hbu : yV_le bu (yV_b T (nb - 1)) = true) (hb2 : bu ≤ 100000) (B : yR_B nb T (yq_k h0) (yh_pl X K (X (nb - 1))) (yT_m nw) h) (hc : ∀ j, j < 8192 → (h.2.1 62) j = c j) : ∃ h', f_Mc_run h (nI (nb - 1)) = some (if (yX_r nb T X K nw c).2 = 0 then 0 else if (yX_r nb T X K nw c).2 = 3 then -3 else -4, h') ∧ zfr yR_F yR_M [] h h' ∧ (∀ j, j < 8192 → (h'.2.1 62) j = (yX_r nb T X K nw c).1.1 j) ∧ (h'.1 58 6) = nI (yX_r nb T X K nw c).1.2.2 := by
  have hz := zF_big
  obtain ⟨r1, r2, dj, r3⟩ := yX_R (nw := nw) (c := c) Z hbu
  obtain ⟨⟨n0, k3, p8, _⟩, KK, A⟩ := Z
  have A1 := (A nw).1
  have px : X (nb - 1) ≤ 8192 := by
    have := yX_pm (X := X) (K := K) (s0 := X (nb - 1)) nb 0
    rw [Nat.zero_add] at this
    have e : yh_pl X K (X (nb - 1)) 0 = X (nb - 1) := rfl
    omega
  obtain ⟨h1, hh1⟩ : ∃ h1, h1 = zs_uF (zs_uF (zs_uF h 58 6 0) 58 14 0) 58 17 0 := ⟨_, rfl⟩
  have f1 : zfr yR_F yR_M [] h h1 := by rw [hh1]; exact zfr_F (by decide) (zfr_F (by decide) (zfr_F (by decide) zfr_rfl))
  obtain ⟨pa, ea⟩ := yX_ofN ((h1.1 58 18))
  obtain ⟨pb, eb⟩ := yX_ofN ((h1.1 58 19))
  obtain ⟨pc, ec⟩ := yX_ofN ((h1.1 58 20))
  have S1 : yR_s h1 (c, [], 0) pa pb pc 0 := ⟨⟨fun j hj => by rw [hh1]; exact hc j hj, by rw [hh1]; rfl, trivial, by rw [hh1]; rfl⟩, ea, eb, ec, by rw [hh1]; rfl⟩
  obtain ⟨h2, h', k, a1, a2, a3, a4⟩ := yR_Us (A nw) nb h (Nat.le_refl _) B (nb - 1) 0 (c, [], 0) h1 pa pb pc 0 (by omega) f1 S1 (by omega) (by show 0 + 64 * (nb - 1 + 1) ≤ 1088; omega) (by omega) dj
  have a2' : 2 * 0 + k ≤ 2 * (yX_r nb T X K nw c).1.2.2 + 1 := a2
  have e0 : f_Mc_run h (nI (nb - 1)) = f_Mc_run_L25 zF h2 0 (nI 0) := by
    unfold f_Mc_run
    rw [← hh1, show (0 : Int32) = nI 0 from rfl, a1]
    rfl
  rw [e0]
  rcases r1 with z | z
  · obtain ⟨q1, q2, q3⟩ := a3 z
    refine ⟨h', ?_, zfr_trans f1 q2.1, q3.1.1, q3.1.2.2.2⟩
    have e1 := q1 (zF - k) 0 (by omega)
    rw [show zF - k + k = zF by omega, Nat.zero_add] at e1
    rw [e1, if_pos z, show zF - k = (zF - k - 1) + 1 by omega]
    show f_Mc_run_25 (f_Mc_run_L25 (zF - k - 1)) h' 0 (nI k) = _
    unfold f_Mc_run_25
    rw [q3.2.2.2.2, if_pos (show nI 0 ≤ 0 by decide), ite_self]
  · obtain ⟨q1, q2⟩ := a4 z
    refine ⟨h', ?_, zfr_trans f1 q2.1, q2.2.1, q2.2.2⟩
    have e1 := q1 (zF - 1 - k) 0 (by omega)
    rw [show zF - 1 - k + 1 + k = zF by omega] at e1
    have nz : ¬ (yX_r nb T X K nw c).2 = 0 := by omega
    rw [e1, if_neg nz]
end YXR
