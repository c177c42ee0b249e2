section
/-! The class's reader: single steps. -/
theorem zt_Cup {h : zs_H} {A B : Nat → Int32} : ∀ (t : zt_T) (P : Nat → Prop) (up up' x y : Int32), zt_G (zt_NC h) A B t P up x y → zt_G (zt_NC h) A B t P up' x y := by
  intro t
  induction t with
  | leaf => intro P up up' x y q; exact q
  | inner kd k v l r ihl ihr =>
    intro P up up' x y q
    obtain ⟨i, P1, P2, z1, z2, q1, q2, q3, q4, q5, q6, q7, q8, q9⟩ := q
    exact ⟨i, P1, P2, z1, z2, q1, q2, q3, q4, q5, q6, q7, ihr P2 up up' _ _ q8, q9⟩
/-- what the reader of the class may change -/
abbrev zq_fs : List (Nat × Nat) := [(19, 0), (19, 3), (19, 4), (19, 5), (19, 6), (19, 7), (12, 6)]
abbrev zq_ms : List Nat := [13, 14, 15, 16, 17, 18]
abbrev zq_f (h h' : zs_H) : Prop := zfr zq_fs zq_ms [] h h'
def zq_fin (T : Nat → Int32) (n j : Nat) : Prop := (zl_at T n j).1 = 0 ∨ (zl_at T n j).1 = 9
/-- the tokens of a text, as the class has them -/
def zq_S (h : zs_H) (T : Nat → Int32) (n K : Nat) (LC : List (List Int32)) : Prop := zl_CT h T n (K + 1) LC ∧ K ≤ n ∧ n ≤ 10240 ∧ (∀ i, i < K → ¬ zq_fin T n i) ∧ zq_fin T n K ∧ LC.Nodup ∧ LC.take 75 = zk_K ∧ LC.length < 6000 ∧ (∀ i, zb_ok (T i)) ∧ 75 ≤ LC.length
theorem zq_S_f {h h' : zs_H} {T : Nat → Int32} {n K : Nat} {LC : List (List Int32)} (f : zq_f h h') (H : zq_S h T n K LC) : zq_S h' T n K LC := by
  unfold zq_S zl_CT at H ⊢
  rw [f.2.1 _ (by decide), f.2.1 _ (by decide), f.2.1 _ (by decide), f.1 _ _ (by decide)]
  exact H
/-- the class's reader at token j, without a fault -/
def zq_C (h : zs_H) (T : Nat → Int32) (n j d s : Nat) : Prop := (h.1 19 3) = 0 ∧ (h.1 19 4) = nI j ∧ (h.1 19 5) = nI (zl_ck (zl_at T n j)) ∧ (h.1 19 6) = nI (zl_at T n j).2.1 ∧ (h.1 19 7) = nI d ∧ (h.1 12 6) = nI s ∧ s ≤ 32784
/-- the class's reader behind a fault, or at a token that is badly written -/
def zq_B (h : zs_H) (T : Nat → Int32) (n K φ w : Nat) : Prop := (((h.1 19 3) = nI φ ∧ (h.1 19 0) = nI w ∧ (h.1 19 5) = 0 ∧ ∃ j, j ≤ K ∧ (h.1 19 4) = nI j) ∨ ((h.1 19 3) = 0 ∧ (h.1 19 5) = 7 ∧ (h.1 19 4) = nI K ∧ (h.1 19 6) = nI w ∧ (zl_at T n K).1 = 9 ∧ (zl_at T n K).2.2.2 = φ)) ∧ 1 ≤ φ ∧ φ < 1000 ∧ ∃ s, (h.1 12 6) = nI s ∧ s ≤ 32784
/-- take: the token that is due -/
theorem zq_take1 {h : zs_H} {T : Nat → Int32} {n K j d s : Nat} {LC : List (List Int32)} (HS : zq_S h T n K LC) (HC : zq_C h T n j d s) (hj : j < K) : ∃ h', f_Ps_take h (nI (zl_ck (zl_at T n j))) = some h' ∧ zq_C h' T n (j + 1) d s ∧ zfr [(19, 4), (19, 5), (19, 6)] [] [] h h' := by
  obtain ⟨s1, s2, s3, s4, s5, s6, s7, s8, s9, s10⟩ := HS
  obtain ⟨c1, c2, c3, c4, c5, c6, c7⟩ := HC
  obtain ⟨t1, t2, t3, t4⟩ := s1.1 (j + 1) (by omega)
  unfold f_Ps_take
  rw [if_pos c1, if_pos c3, c2, nI_1, s1.2, if_neg (mt (nI_leI (by omega) (by omega)).mp (by omega)), if_pos (zi_in (by omega) (by omega)), nI_clamp (by omega), t1, t2]
  exact ⟨_, rfl, ⟨c1, rfl, rfl, rfl, c5, c6, c7⟩, zfr_F (by decide) (zfr_F (by decide) (zfr_F (by decide) zfr_rfl))⟩
/-- take: another one -/
theorem zq_take2 {h : zs_H} {T : Nat → Int32} {n K j d s : Nat} {LC : List (List Int32)} {x : Int32} (HS : zq_S h T n K LC) (HC : zq_C h T n j d s) (hj : j ≤ K) (hx : ¬ nI (zl_ck (zl_at T n j)) = x) (h7 : ¬ nI (zl_ck (zl_at T n j)) = 7) : ∃ h', f_Ps_take h x = some h' ∧ zq_B h' T n K 6 (zl_at T n j).2.1 ∧ zq_f h h' := by
  obtain ⟨c1, c2, c3, c4, c5, c6, c7⟩ := HC
  unfold f_Ps_take f_Ps_take_74 f_Ps_take_108 f_Ps_take_119
  rw [if_pos c1, c3, if_neg hx, if_pos c1, if_neg h7]
  exact ⟨_, rfl, ⟨Or.inl ⟨rfl, c4, rfl, j, hj, c2⟩, by decide, by decide, s, c6, c7⟩, zfr_F (by decide) (zfr_F (by decide) (zfr_F (by decide) zfr_rfl))⟩
/-- behind a fault: take -/
theorem bkc_take {h : zs_H} {T : Nat → Int32} {n K φ w : Nat} {LC : List (List Int32)} {x : Int32} (HS : zq_S h T n K LC) (HB : zq_B h T n K φ w) : zw (f_Ps_take h x) (fun h' => zq_B h' T n K φ w ∧ zq_f h h') := by
  obtain ⟨s1, s2, s3, s4, s5, s6, s7, s8, s9, s10⟩ := HS
  obtain ⟨b1, b2, b3, s, b4, b5⟩ := HB
  have hφ : ¬ nI φ = 0 := fun q => by have := (zc_eq (k := 0) (by decide) (by omega)).mp q; omega
  unfold f_Ps_take f_Ps_take_74 f_Ps_take_108 f_Ps_take_119
  rcases b1 with ⟨a1, a2, a3, j, a4, a5⟩ | ⟨a1, a2, a3, a4, a5, a6⟩
  · rw [a1, if_neg hφ, if_neg hφ, zw_some]
    exact ⟨⟨Or.inl ⟨a1, a2, rfl, j, a4, a5⟩, b2, b3, s, b4, b5⟩, zfr_F (by decide) zfr_rfl⟩
  · obtain ⟨t1, t2, t3, t4⟩ := s1.1 K (by omega)
    have hv : (h.2.1 11) K = nI φ := by
      rw [t3]
      unfold zl_cv
      rw [if_neg (by omega), if_neg (by omega), a6]
    have key : zw (if zd_in (h.1 19 4) 16385 then some (zs_uF (zs_uF (zs_uF h 19 3 (h.2.1 11 ((h.1 19 4)).toNatClampNeg)) 19 0 (h.1 19 6)) 19 5 0) else none) (fun h' => zq_B h' T n K φ w ∧ zq_f h h') := by
      rw [a3, if_pos (zi_in (by omega) (by omega)), nI_clamp (by omega), hv, zw_some]
      exact ⟨⟨Or.inl ⟨rfl, a4, rfl, K, Nat.le_refl K, a3⟩, b2, b3, s, b4, b5⟩, zfr_F (by decide) (zfr_F (by decide) (zfr_F (by decide) zfr_rfl))⟩
    rw [if_pos a1, if_pos a1, a2, if_pos rfl]
    by_cases e : (7 : Int32) = x
    · rw [if_pos e, s1.2, a3, nI_1, if_pos (Int32.le_refl _), ← a3]; exact key
    · rw [if_neg e]; exact key
/-- a node of the class -/
def zq_A (s kd : Nat) (p v : Int32) (h h' : zs_H) : Prop := (h'.1 12 6) = nI (s + 1) ∧ (∀ j, (h'.2.1 13) j = if j = s then nI kd else (h.2.1 13) j) ∧ (∀ j, (h'.2.1 15) j = if j = s then p else (h.2.1 15) j) ∧ (∀ j, (h'.2.1 16) j = if j = s then v else (h.2.1 16) j) ∧ (∀ j, (h'.2.1 17) j = if j = s then -1 else (h.2.1 17) j) ∧ (∀ j, (h'.2.1 18) j = if j = s then -1 else (h.2.1 18) j) ∧ zfr [(12, 6)] zq_ms [] h h'
theorem zq_min {s : Nat} (hs : s ≤ 32784) : zd_min (nI s) 32783 = nI (min s 32783) := by
  unfold zd_min
  by_cases c : 32783 < s
  · rw [if_pos ((zc_lt (k := 32783) (t := s) (by decide) (by omega)).mpr c), Nat.min_eq_right (by omega)]; rfl
  · rw [if_neg (mt (zc_lt (k := 32783) (t := s) (by decide) (by omega)).mp c), Nat.min_eq_left (by omega)]
theorem zq_nar : ∀ k, k < 128 → vp_nar .byte ((nI k).toInt8.toInt32) = nI k := zl_nar7
theorem zq_add {h : zs_H} {s kd p : Nat} {v : Int32} (Hs : (h.1 12 6) = nI s) (hs : s < 32784) (hk : kd < 128) (hp : p < 65536) : ∃ h', f_Tr_add h (nI kd) (nI p) v = some (nI s, h') ∧ zq_A s kd (nI p) v h h' := by
  unfold f_Tr_add
  rw [Hs, zq_min (by omega), Nat.min_eq_left (by omega), if_pos (zi_in (by omega) hs), nI_clamp (by omega), zq_nar kd hk, zm_char hp, nI_1]
  refine ⟨_, rfl, rfl, fun j => ?_, fun j => ?_, fun j => ?_, fun j => ?_, fun j => ?_, zfr_F (by decide) (zfr_M (by decide) (zfr_M (by decide) (zfr_M (by decide) (zfr_M (by decide) (zfr_M (by decide) (zfr_M (by decide) zfr_rfl))))))⟩
  all_goals simp [zu_FM, zu_MM]
/-- behind a fault: a node -/
theorem bkc_add {h : zs_H} {T : Nat → Int32} {n K φ w : Nat} {x1 x2 x3 : Int32} (HB : zq_B h T n K φ w) : zw (f_Tr_add h x1 x2 x3) (fun p => (∃ i, i < 32784 ∧ p.1 = nI i) ∧ zq_B p.2 T n K φ w ∧ zq_f h p.2) := by
  obtain ⟨b1, b2, b3, s, b4, b5⟩ := HB
  unfold f_Tr_add
  have h1 := Nat.min_le_right s 32783
  rw [b4, zq_min b5, if_pos (zi_in (a := min s 32783) (by omega) (by omega)), nI_1, zw_some]
  exact ⟨⟨min s 32783, by omega, rfl⟩, ⟨b1, b2, b3, min s 32783 + 1, rfl, by omega⟩, zfr_F (by decide) (zfr_M (by decide) (zfr_M (by decide) (zfr_M (by decide) (zfr_M (by decide) (zfr_M (by decide) (zfr_M (by decide) zfr_rfl))))))⟩
theorem bkc_hang {h : zs_H} {T : Nat → Int32} {n K φ w a : Nat} {x2 x3 : Int32} (HB : zq_B h T n K φ w) (ha : a < 32784) (h2 : x2 = -1 ∨ ∃ i, i < 32784 ∧ x2 = nI i) : zw (f_Tr_hang h (nI a) x2 x3) (fun p => p.1 = x3 ∧ zq_B p.2 T n K φ w ∧ zq_f h p.2) := by
  unfold f_Tr_hang
  rcases h2 with e | ⟨i, hi, e⟩
  · rw [if_pos e, if_pos (zi_in (by omega) ha), zw_some]
    exact ⟨rfl, HB, zfr_M (by decide) zfr_rfl⟩
  · rw [e, if_neg (zc_m1 (by omega)), if_pos (zi_in (by omega) hi), zw_some]
    exact ⟨rfl, HB, zfr_M (by decide) zfr_rfl⟩
theorem bkc_deepen {h : zs_H} {T : Nat → Int32} {n K φ w : Nat} (HB : zq_B h T n K φ w) : zw (f_Ps_deepen h) (fun h' => zq_f h h' ∧ (((h.1 19 7) < 60) → zq_B h' T n K φ w) ∧ (¬ (h.1 19 3) = 0 → zq_B h' T n K φ w)) := by
  obtain ⟨b1, b2, b3, s, b4, b5⟩ := HB
  unfold f_Ps_deepen f_Ps_deepen_35
  by_cases c : (h.1 19 7) < 60
  · rw [if_pos c, zw_some]
    exact ⟨zfr_F (by decide) zfr_rfl, fun _ => ⟨b1, b2, b3, s, b4, b5⟩, fun _ => ⟨b1, b2, b3, s, b4, b5⟩⟩
  · rw [if_neg c]
    by_cases c2 : (h.1 19 3) = 0
    · rw [if_pos c2, zw_some]
      exact ⟨zfr_F (by decide) (zfr_F (by decide) (zfr_F (by decide) (zfr_F (by decide) zfr_rfl))), fun q => absurd q c, fun q => absurd c2 q⟩
    · rw [if_neg c2, zw_some]
      exact ⟨zfr_F (by decide) zfr_rfl, fun _ => ⟨b1, b2, b3, s, b4, b5⟩, fun _ => ⟨b1, b2, b3, s, b4, b5⟩⟩
end
section
/-! The class's reader behind a fault. -/
def zq_Z (h0 : zs_H) (T : Nat → Int32) (n K : Nat) (LC : List (List Int32)) (φ w : Nat) (h : zs_H) : Prop := zq_f h0 h ∧ zq_S h T n K LC ∧ zq_B h T n K φ w
def zq_v (x : Int32) : Prop := ∃ i, i < 32784 ∧ x = nI i
def zq_vl (x : Int32) : Prop := x = -1 ∨ zq_v x
theorem zy_e (d : Nat) : f_Ps_expression (d + 1) = g_Ps_expression (f_Ps_expression d) (f_Ps_operand d) := rfl
theorem zy_o (d : Nat) : f_Ps_operand (d + 1) = g_Ps_operand (f_Ps_expression d) (f_Ps_namedOperand d) (f_Ps_operand d) := rfl
theorem zy_n (d : Nat) : f_Ps_namedOperand (d + 1) = g_Ps_namedOperand (f_Ps_expression d) := rfl
theorem zy_L {r : zs_H → Int32 → Option (Int32 × zs_H)} {h : zs_H} {x1 x2 x4 : Int32} : f_Ps_expression_L13 r zF h x1 x2 (-1) x4 = some (x2, h) := by
  rw [zF_9]
  show f_Ps_expression_13 r (f_Ps_expression_L13 r (18446744073709551607 + 8)) h x1 x2 (-1) x4 = _
  unfold f_Ps_expression_13
  rw [if_pos (show (-1 : Int32) < 0 by decide)]
  split <;> rfl
section ZU
variable {h0 h : zs_H} {T : Nat → Int32} {n K φ w : Nat} {LC : List (List Int32)}
theorem zq_tk (H : zq_Z h0 T n K LC φ w h) : (h.1 19 5) = 0 ∨ (h.1 19 5) = 7 := by
  rcases H.2.2.1 with a | a
  · exact Or.inl a.2.2.1
  · exact Or.inr a.2.1
theorem zq_ne (H : zq_Z h0 T n K LC φ w h) {x : Int32} (h1 : ¬ x = 0) (h2 : ¬ x = 7) : ¬ (h.1 19 5) = x := by
  intro q
  rcases zq_tk H with a | a
  · exact h1 (q.symm.trans a)
  · exact h2 (q.symm.trans a)
theorem zq_at (H : zq_Z h0 T n K LC φ w h) : zd_in ((h.1 19 4)) 16385 := by
  have hK := H.2.1.2.1
  have hn := H.2.1.2.2.1
  rcases H.2.2.1 with ⟨_, _, _, j, a1, a2⟩ | a
  · rw [a2]; exact zi_in (by omega) (by omega)
  · rw [a.2.2.1]; exact zi_in (by omega) (by omega)
theorem zz_take {x : Int32} (H : zq_Z h0 T n K LC φ w h) : zw (f_Ps_take h x) (zq_Z h0 T n K LC φ w) :=
  zw_mono (bkc_take H.2.1 H.2.2) fun h' q => ⟨zfr_trans H.1 q.2, zq_S_f q.2 H.2.1, q.1⟩
theorem zz_add {x1 x2 x3 : Int32} (H : zq_Z h0 T n K LC φ w h) : zw (f_Tr_add h x1 x2 x3) (fun p => zq_v p.1 ∧ zq_Z h0 T n K LC φ w p.2) :=
  zw_mono (bkc_add H.2.2) fun p q => ⟨q.1, zfr_trans H.1 q.2.2, zq_S_f q.2.2 H.2.1, q.2.1⟩
theorem zz_hang {x1 x2 x3 : Int32} (H : zq_Z h0 T n K LC φ w h) (h1 : zq_v x1) (h2 : zq_vl x2) (h3 : zq_v x3) : zw (f_Tr_hang h x1 x2 x3) (fun p => zq_v p.1 ∧ zq_Z h0 T n K LC φ w p.2) := by
  obtain ⟨a, ha, rfl⟩ := h1
  exact zw_mono (bkc_hang H.2.2 ha h2) fun p q => ⟨by rw [q.1]; exact h3, zfr_trans H.1 q.2.2, zq_S_f q.2.2 H.2.1, q.2.1⟩
theorem zz_uM {k j : Nat} {v : Int32} (H : zq_Z h0 T n K LC φ w h) (m : k ∈ zq_ms) : zq_Z h0 T n K LC φ w (zs_uM h k j v) := by
  have f : zq_f h (zs_uM h k j v) := zfr_M m zfr_rfl
  exact ⟨zfr_trans H.1 f, zq_S_f f H.2.1, H.2.2⟩
theorem zz_open {v : Int32} (H : zq_Z h0 T n K LC φ w h) : zq_Z h0 T n K LC φ w (zs_uF h 19 7 v) := by
  have f : zq_f h (zs_uF h 19 7 v) := zfr_F (by decide) zfr_rfl
  exact ⟨zfr_trans H.1 f, zq_S_f f H.2.1, H.2.2⟩
theorem zz_simpleType (H : zq_Z h0 T n K LC φ w h) : zw (f_Ps_simpleType h) (fun p => zq_v p.1 ∧ zq_Z h0 T n K LC φ w p.2) := by
  have key : ∀ (g : zs_H) (x y : Int32), zq_Z h0 T n K LC φ w g → zq_v x → zw (f_Ps_simpleType_61 g x y) (fun p => zq_v p.1 ∧ zq_Z h0 T n K LC φ w p.2) := by
    intro g x y Hg hx
    unfold f_Ps_simpleType_61
    rw [zw_bind]
    exact zw_mono (zz_take Hg) fun g' q => zw_some.mpr ⟨hx, q⟩
  unfold f_Ps_simpleType f_Ps_simpleType_46 f_Ps_simpleType_47
  rw [zw_B]
  refine zw_mono (zz_add H) fun p q => ?_
  repeat' split
  all_goals exact key _ _ _ q.2 q.1
theorem zz_constant (H : zq_Z h0 T n K LC φ w h) : zw (f_Ps_constant h) (fun p => zq_v p.1 ∧ zq_Z h0 T n K LC φ w p.2) := by
  unfold f_Ps_constant
  rw [if_neg (zq_ne H (by decide) (by decide)), if_neg (zq_ne H (by decide) (by decide)), zw_B]
  refine zw_mono (zz_add H) fun p q => ?_
  rw [if_neg (zq_ne q.2 (by decide) (by decide))]
  unfold f_Ps_constant_88 f_Ps_constant_99 f_Ps_constant_139
  rw [if_pos rfl, if_pos rfl, if_pos (zq_at q.2)]
  obtain ⟨⟨i, hi, e⟩, q2⟩ := q
  rw [e, if_pos (zi_in (by omega) hi), zw_bind]
  exact zw_mono (zz_take (zz_uM q2 (by decide))) fun g' z => zw_some.mpr ⟨⟨i, hi, rfl⟩, z⟩
theorem zz_type (H : zq_Z h0 T n K LC φ w h) : zw (f_Ps_type h) (fun p => zq_v p.1 ∧ zq_Z h0 T n K LC φ w p.2) := by
  unfold f_Ps_type
  rw [if_neg (zq_ne H (by decide) (by decide)), if_neg (zq_ne H (by decide) (by decide)), zw_B]
  exact zw_mono (zz_simpleType H) fun p q => zw_some.mpr q
theorem zz_operator (H : zq_Z h0 T n K LC φ w h) : f_Ps_operator h = -1 := by
  unfold f_Ps_operator
  iterate 15 rw [if_neg (zq_ne H (by decide) (by decide))]
theorem zz_operand {d : Nat} (H : zq_Z h0 T n K LC φ w h) : zw (f_Ps_operand (d + 1) h) (fun p => zq_v p.1 ∧ zq_Z h0 T n K LC φ w p.2) := by
  rw [zy_o]
  unfold g_Ps_operand
  rw [if_neg (zq_ne H (by decide) (by decide)), if_neg (zq_ne H (by decide) (by decide)), if_neg (zq_ne H (by decide) (by decide)), if_neg (zq_ne H (by decide) (by decide)), if_neg (zq_ne H (by decide) (by decide)), if_neg (zq_ne H (by decide) (by decide)), if_pos (zq_at H), zw_B]
  refine zw_mono (zz_add H) fun p q => ?_
  rw [zw_bind]
  exact zw_mono (zz_take q.2) fun g' z => zw_some.mpr ⟨q.1, z⟩
theorem zz_expression {d : Nat} {x : Int32} (H : zq_Z h0 T n K LC φ w h) : zw (f_Ps_expression (d + 2) h x) (fun p => zq_v p.1 ∧ zq_Z h0 T n K LC φ w p.2) := by
  rw [zy_e]
  unfold g_Ps_expression
  rw [zw_B]
  refine zw_mono (zz_operand H) fun p q => ?_
  rw [zz_operator q.2, zy_L, zw_some]
  exact q
theorem zz_whole (H : zq_Z h0 T n K LC φ w h) : zw (f_Ps_wholeExpression h) (fun p => zq_v p.1 ∧ zq_Z h0 T n K LC φ w p.2) := by
  unfold f_Ps_wholeExpression
  rw [zw_B]
  exact zw_mono (zz_expression (d := 398) H) fun p q => zw_some.mpr ⟨q.1, zz_open q.2⟩
end ZU
end
section
/-! The model's reader: single steps. -/
theorem zl_J_up {T : Nat → Int32} {n b b' c : Nat} (h : zl_J T n b c) (hb : b ≤ b') : zl_J T n b' c := by
  by_cases e : b' = b
  · rw [e]; exact h
  · have := h.1
    exact ⟨by omega, Or.inl (by omega)⟩
theorem zl_J_nm {T : Nat → Int32} {n b c : Nat} (hT : ∀ i, zb_ok (T i)) (hb : b ≤ n) (h : zl_J T n b c) (h1 : (zl_tok T n b).1 = 1) : zl_J T n (zl_tok T n b).2.2.1 (c + 1) := by
  have hk := zl_tok_kd (n := n) (b := b) hT hb
  obtain ⟨t1, t2, t3, t4, t5, t6⟩ := zl_tok_nm (T := T) (n := n) (b := b) (Or.inl h1)
  have hne := zl_ne_le (T := T) (n := n) (a := (zl_tok T n b).2.1) (by omega)
  rw [← t1] at hne
  have k1 := hk.1
  have k2 := (hk.2.2.2.1 (by omega)).1
  have hJ := h.1
  refine ⟨?_, Or.inr hne.2.2.1⟩
  rcases h.2 with w | w
  · omega
  · have : ¬ (zl_tok T n b).2.1 = b := fun e5 => by rw [e5, w] at t3; exact absurd t3 (by decide)
    omega
theorem zl_tok_0 {T : Nat → Int32} {n b : Nat} (h : (zl_tok T n b).1 = 0) : (zl_tok T n b).2.2.1 = n := by
  have hfin : ∀ a v e, ¬ (zl_fin T n a v e).1 = 0 := by
    intro a v e
    unfold zl_fin
    repeat' split
    all_goals simp
  revert h
  unfold zl_tok
  by_cases c : (zl_sk T n (n - b) b).2 = true
  · rw [if_pos c]
    generalize (zl_sk T n (n - b) b).1 = a
    unfold zl_tk
    by_cases c0 : n ≤ a
    · rw [if_pos c0]; intro _; rfl
    rw [if_neg c0]
    intro h
    exfalso
    revert h
    unfold zl_tm zl_tn zl_nb zl_pl zl_sn
    repeat' split
    all_goals first | exact hfin _ _ _ | simp
  · rw [if_neg c]; intro h; simp at h
/-- what the reader of the model may change -/
abbrev zx_fs : List (Nat × Nat) := [(68, 3), (68, 6), (68, 7), (68, 8), (68, 9), (68, 10), (68, 11), (68, 12), (68, 13), (68, 14), (68, 25)]
abbrev zx_ms : List Nat := [70, 71, 72, 73, 74, 75, 76, 77, 78, 81, 82, 83]
abbrev zx_f (g g' : zs_H) : Prop := zfr zx_fs zx_ms [] g g'
/-- nodes are where they say -/
def zx_W (g : zs_H) (m : Nat) : Prop := ∀ i, i < m → (g.2.1 76) i = -1 ∨ ((∃ a, a < m ∧ (g.2.1 76) i = nI a) ∧ ∃ a, a < m ∧ (g.2.1 77) i = nI a)
/-- the model's reader behind a fault, with m nodes -/
def zx_B (g0 : zs_H) (T : Nat → Int32) (n φ w m O : Nat) (g : zs_H) : Prop := zx_f g0 g ∧ zl_X g T n ∧ n ≤ 10240 ∧ (∀ i, zb_ok (T i)) ∧ (g.1 68 10) = nI φ ∧ (g.1 68 11) = nI w ∧ (1 ≤ φ ∧ φ < 1000) ∧ (∃ LM b, zn_M g LM ∧ (g.1 68 8) = nI b ∧ b ≤ n ∧ zl_J T n b LM.length) ∧ (g.1 68 14) = nI m ∧ zx_W g m ∧ ∃ o, (g.1 68 25) = nI o ∧ o ≤ O
section ZV
variable {g0 g : zs_H} {T : Nat → Int32} {n φ w m O : Nat}
theorem zx_ne (H : zx_B g0 T n φ w m O g) : ¬ (g.1 68 10) = 0 := by
  obtain ⟨_, _, _, _, h5, _, h7, _⟩ := H
  rw [h5]
  exact fun q => by have := (zc_eq (k := 0) (by decide) (by omega)).mp q; omega
theorem zx_pos (H : zx_B g0 T n φ w m O g) : ¬ (g.1 68 10) ≤ 0 := by
  obtain ⟨_, _, _, _, h5, _, h7, _⟩ := H
  rw [h5]
  exact mt (zc_el (k := 0) (by decide) (by omega)).mp (by omega)
theorem zx_isSign (H : zx_B g0 T n φ w m O g) (x : Int32) : f_Mo_isSign g x = 0 := by
  unfold f_Mo_isSign; rw [if_neg (zx_ne H)]
theorem zx_isWord (H : zx_B g0 T n φ w m O g) (x : Int32) : f_Mo_isWord g x = 0 := by
  unfold f_Mo_isWord; rw [if_neg (zx_ne H)]
theorem zx_signAt (H : zx_B g0 T n φ w m O g) : f_Mo_signAt g = -1 := by
  unfold f_Mo_signAt; rw [if_neg (zx_pos H)]
theorem zx_want (H : zx_B g0 T n φ w m O g) (x : Int32) : f_Mo_want g x = some g := by
  unfold f_Mo_want; rw [if_neg (zx_ne H)]
theorem zx_wantSign (H : zx_B g0 T n φ w m O g) (x : Int32) : f_Mo_wantSign g x = some g := by
  unfold f_Mo_wantSign; rw [zx_want H]; rfl
theorem zx_wantWord (H : zx_B g0 T n φ w m O g) (x : Int32) : f_Mo_wantWord g x = some g := by
  unfold f_Mo_wantWord; rw [zx_want H]; rfl
theorem zx_name (H : zx_B g0 T n φ w m O g) : f_Mo_name g = some ((g.1 68 9), g) := by
  unfold f_Mo_name f_Mo_name_19
  rw [zx_want H, zx_want H]
  split <;> rfl
theorem zx_next2 (H : zx_B g0 T n φ w m O g) : f_Mo_next2 g = some g := by
  unfold f_Mo_next2; rw [if_neg (zx_ne H)]
theorem zx_uF {k j : Nat} {v : Int32} (H : zx_B g0 T n φ w m O g) (h1 : (k, j) = (68, 12) ∨ (k, j) = (68, 13)) : zx_B g0 T n φ w m O (zs_uF g k j v) := by
  obtain ⟨h2, h3, h4, h5, h6, h7, h8, ⟨LM, b, b1, b2, b3, b4⟩, h9, h10, o, h11, h12⟩ := H
  rcases h1 with e | e <;> cases e
  · exact ⟨zfr_F (by decide) h2, h3, h4, h5, h6, h7, h8, ⟨LM, b, b1, b2, b3, b4⟩, h9, h10, o, h11, h12⟩
  · exact ⟨zfr_F (by decide) h2, h3, h4, h5, h6, h7, h8, ⟨LM, b, b1, b2, b3, b4⟩, h9, h10, o, h11, h12⟩
theorem zx_open (H : zx_B g0 T n φ w m O g) : zw (f_Mo_open g) (zx_B g0 T n φ w m O) := by
  unfold f_Mo_open f_Mo_open_26
  rw [if_neg (zx_ne H), zw_some]
  exact zx_uF H (Or.inl rfl)
theorem zx_next (H : zx_B g0 T n φ w m O g) : zw (f_Mo_next g) (zx_B g0 T n φ w m O) := by
  have hne := zx_ne H
  obtain ⟨h2, h3, h4, h5, h6, h7, h8, ⟨LM, b, b1, b2, b3, b4⟩, h9, h10, o, h11, h12⟩ := H
  refine zw_mono (zl_next h3 h5 b2 b3 b1 (by have := b4.1; omega)) fun g' q => ?_
  obtain ⟨q1, q2, q3⟩ := q
  have hX : zl_X g' T n := by
    refine ⟨(q1.1 _ _ (by decide)).trans h3.1, h3.2.1, fun i hi => ?_⟩
    rw [q1.2.1 _ (by decide)]; exact h3.2.2 i hi
  have hW : zx_W g' m := by
    unfold zx_W
    rw [q1.2.1 _ (by decide), q1.2.1 _ (by decide)]; exact h10
  have fr : zx_f g0 g' := zfr_trans h2 (zfr_w q1 (by decide) (by decide) (by decide))
  have hkd := zl_tok_kd (n := n) (b := b) h5 b3
  by_cases c : (zl_tok T n b).1 = 9
  · obtain ⟨q4, q5, q6, b', q7, q8, q9⟩ := q2 c
    obtain ⟨q10, q11⟩ := q5 hne
    exact ⟨fr, hX, h4, h5, q10.trans h6, q11.trans h7, h8, ⟨LM, b', q6, q7, q8, zl_J_up b4 q9⟩, (q1.1 _ _ (by decide)).trans h9, hW, o, (q1.1 _ _ (by decide)).trans h11, h12⟩
  · obtain ⟨q4, q5, q6, q7, q8, q9, q10⟩ := q3 c
    have hb' : (zl_tok T n b).2.2.1 ≤ n ∧ b ≤ (zl_tok T n b).2.2.1 := by
      by_cases c0 : (zl_tok T n b).1 = 0
      · have := zl_tok_0 c0
        rw [this]; exact ⟨Nat.le_refl n, b3⟩
      · have := hkd.2.2.2.1 (by omega)
        have := hkd.1
        omega
    refine ⟨fr, hX, h4, h5, q4.trans h6, q5.trans h7, h8, ?_, (q1.1 _ _ (by decide)).trans h9, hW, o, (q1.1 _ _ (by decide)).trans h11, h12⟩
    by_cases c1 : (zl_tok T n b).1 = 1
    · obtain ⟨q11, q12⟩ := q9 c1
      refine ⟨_, _, q12, q7, hb'.1, ?_⟩
      split
      · exact zl_J_up b4 hb'.2
      · rw [List.length_append]; exact zl_J_nm h5 b3 b4 c1
    · exact ⟨LM, _, (q10 c1).1, q7, hb'.1, zl_J_up b4 hb'.2⟩
end ZV
end
section
/-! Nodes of the model; both readers in step. -/
/-- a node of the model -/
def zx_N (m kd : Nat) (p v : Int32) (g g' : zs_H) : Prop := (g'.1 68 14) = nI (m + 1) ∧ (∀ j, (g'.2.1 72) j = if j = m then nI kd else (g.2.1 72) j) ∧ (∀ j, (g'.2.1 73) j = if j = m then p else (g.2.1 73) j) ∧ (∀ j, (g'.2.1 74) j = if j = m then v else (g.2.1 74) j) ∧ (∀ j, (g'.2.1 75) j = if j = m then -1 else (g.2.1 75) j) ∧ (∀ j, (g'.2.1 76) j = if j = m then -1 else (g.2.1 76) j) ∧ (∀ j, (g'.2.1 77) j = if j = m then -1 else (g.2.1 77) j) ∧ (∀ j, (g'.2.1 78) j = if j = m then -1 else (g.2.1 78) j) ∧ zfr [(68, 14)] [72, 73, 74, 75, 76, 77, 78] [] g g'
theorem zx_node {g : zs_H} {m : Nat} {kd p v : Int32} {kn : Nat} (Hm : (g.1 68 14) = nI m) (hm : m < 33500) (hk : kd = nI kn) : ∃ g', f_Mo_node g kd p v = some (nI m, g') ∧ zx_N m kn p v g g' := by
  unfold f_Mo_node
  rw [Hm, if_pos (zi_in (by omega) hm), nI_clamp (by omega), nI_1, hk]
  refine ⟨_, rfl, rfl, fun j => ?_, fun j => ?_, fun j => ?_, fun j => ?_, fun j => ?_, fun j => ?_, fun j => ?_, zfr_M (by decide) (zfr_M (by decide) (zfr_M (by decide) (zfr_M (by decide) (zfr_M (by decide) (zfr_M (by decide) (zfr_M (by decide) (zfr_F (by decide) zfr_rfl)))))))⟩
  all_goals simp [zu_FM, zu_MM]
theorem zx_W_N {g g' : zs_H} {m kd : Nat} {p v : Int32} (H : zx_W g m) (q : zx_N m kd p v g g') : zx_W g' (m + 1) := by
  obtain ⟨q1, q2, q3, q4, q5, q6, q7, q8, q9⟩ := q
  intro i hi
  rw [q6 i, q7 i]
  by_cases e : i = m
  · rw [if_pos e]; exact Or.inl rfl
  · rw [if_neg e, if_neg e]
    rcases H i (by omega) with a | ⟨⟨a, a1, a2⟩, b, b1, b2⟩
    · exact Or.inl a
    · exact Or.inr ⟨⟨a, by omega, a2⟩, b, by omega, b2⟩
/-- hanging a node: what becomes of the arrays -/
def zx_H (a b : Nat) (g g' : zs_H) : Prop := (∀ j, (g'.2.1 75) j = if j = a then nI b else (g.2.1 75) j) ∧ (∀ j, (g'.2.1 77) j = if j = b then nI a else (g.2.1 77) j) ∧ (((g.2.1 76) b = -1 ∧ (∀ j, (g'.2.1 76) j = if j = b then nI a else (g.2.1 76) j) ∧ (∀ j, (g'.2.1 78) j = (g.2.1 78) j)) ∨ (¬ (g.2.1 76) b = -1 ∧ (∀ j, (g'.2.1 76) j = (g.2.1 76) j) ∧ ∃ c, c < 40000 ∧ (g.2.1 77) b = nI c ∧ ∀ j, (g'.2.1 78) j = if j = c then nI a else (g.2.1 78) j)) ∧ zfr [] [75, 77, 76, 78] [] g g'
theorem zx_hang {g : zs_H} {m a b : Nat} (hm : m ≤ 33500) (ha : a < m) (hb : b < m) (HW : zx_W g m) : ∃ g', f_Mo_hang g (nI a) (nI b) = some g' ∧ zx_H a b g g' ∧ zx_W g' m := by
  have h31 : ∀ g1 : zs_H, f_Mo_hang_31 g1 (nI a) (nI b) = some (zs_uM (zs_uM g1 77 b (nI a)) 75 a (nI b)) := by
    intro g1
    unfold f_Mo_hang_31
    rw [if_pos (zi_in (by omega) (by omega)), if_pos (zi_in (by omega) (by omega)), nI_clamp (by omega), nI_clamp (by omega)]
  unfold f_Mo_hang
  rw [if_pos (zi_in (by omega) (by omega)), nI_clamp (by omega)]
  rcases HW b hb with e | ⟨⟨c, c1, c2⟩, c', c3, c4⟩
  · rw [e, if_neg (by decide), h31]
    refine ⟨_, rfl, ⟨fun j => ?_, fun j => ?_, Or.inl ⟨e, fun j => ?_, fun j => ?_⟩, zfr_M (by decide) (zfr_M (by decide) (zfr_M (by decide) zfr_rfl))⟩, ?_⟩
    · simp [zu_MM]
    · simp [zu_MM]
    · simp [zu_MM]
    · simp [zu_MM]
    · intro i hi
      simp only [zu_MM, reduceCtorEq, Nat.reduceEqDiff, false_and, if_false, true_and]
      by_cases ei : i = b
      · rw [if_pos ei, if_pos ei]; exact Or.inr ⟨⟨a, ha, rfl⟩, a, ha, rfl⟩
      · rw [if_neg ei, if_neg ei]; exact HW i hi
  · have hne : ¬ (g.2.1 76) b = -1 := by rw [c2]; exact zc_m1 (by omega)
    rw [c2, if_pos (nI_pos' (by omega)), c4, if_pos (zi_in (by omega) (by omega)), nI_clamp (by omega), h31]
    refine ⟨_, rfl, ⟨fun j => ?_, fun j => ?_, Or.inr ⟨hne, fun j => ?_, c', by omega, c4, fun j => ?_⟩, zfr_M (by decide) (zfr_M (by decide) (zfr_M (by decide) zfr_rfl))⟩, ?_⟩
    · simp [zu_MM]
    · simp [zu_MM]
    · simp [zu_MM]
    · simp [zu_MM]
    · intro i hi
      simp only [zu_MM, reduceCtorEq, Nat.reduceEqDiff, false_and, if_false, true_and]
      by_cases ei : i = b
      · rw [if_pos ei, ei]; exact Or.inr ⟨⟨c, c1, c2⟩, a, ha, rfl⟩
      · rw [if_neg ei]; exact HW i hi
section ZW
variable {g0 g : zs_H} {T : Nat → Int32} {n φ w m O : Nat}
theorem zxb_node {kd p v : Int32} {kn : Nat} (H : zx_B g0 T n φ w m O g) (hm : m < 33500) (hk : kd = nI kn) : zw (f_Mo_node g kd p v) (fun q => q.1 = nI m ∧ zx_B g0 T n φ w (m + 1) O q.2) := by
  obtain ⟨h2, h3, h4, h5, h6, h7, h8, ⟨LM, b, b1, b2, b3, b4⟩, h9, h10, o, h11, h12⟩ := H
  obtain ⟨g', e, q⟩ := zx_node (p := p) (v := v) h9 hm hk
  have hW := zx_W_N h10 q
  obtain ⟨q1, q2, q3, q4, q5, q6, q7, q8, q9⟩ := q
  refine ⟨_, e, rfl, zfr_trans h2 (zfr_w q9 (by decide) (by decide) (by decide)), ⟨(q9.1 _ _ (by decide)).trans h3.1, h3.2.1, fun i hi => ?_⟩, h4, h5, (q9.1 _ _ (by decide)).trans h6, (q9.1 _ _ (by decide)).trans h7, h8, ⟨LM, b, zn_fr q9 (by decide) (by decide) (by decide) b1, (q9.1 _ _ (by decide)).trans b2, b3, b4⟩, q1, hW, o, (q9.1 _ _ (by decide)).trans h11, h12⟩
  show g'.2.1 69 i = T i
  rw [q9.2.1 _ (by decide)]; exact h3.2.2 i hi
theorem zxb_hang {a b : Nat} (H : zx_B g0 T n φ w m O g) (hm : m ≤ 33500) (ha : a < m) (hb : b < m) : zw (f_Mo_hang g (nI a) (nI b)) (zx_B g0 T n φ w m O) := by
  obtain ⟨h2, h3, h4, h5, h6, h7, h8, ⟨LM, b', b1, b2, b3, b4⟩, h9, h10, o, h11, h12⟩ := H
  obtain ⟨g', e, q, hW⟩ := zx_hang hm ha hb h10
  have q9 := q.2.2.2
  refine ⟨_, e, zfr_trans h2 (zfr_w q9 (by decide) (by decide) (by decide)), ⟨(q9.1 _ _ (by decide)).trans h3.1, h3.2.1, fun i hi => ?_⟩, h4, h5, (q9.1 _ _ (by decide)).trans h6, (q9.1 _ _ (by decide)).trans h7, h8, ⟨LM, b', zn_fr q9 (by decide) (by decide) (by decide) b1, (q9.1 _ _ (by decide)).trans b2, b3, b4⟩, (q9.1 _ _ (by decide)).trans h9, hW, o, (q9.1 _ _ (by decide)).trans h11, h12⟩
  rw [q9.2.1 _ (by decide)]; exact h3.2.2 i hi
theorem zxb_add {kd p v : Int32} {kn b : Nat} (H : zx_B g0 T n φ w m O g) (hm : m < 33500) (hk : kd = nI kn) (hb : b < m) : zw (f_Mo_add g (nI b) kd p v) (fun q => q.1 = nI m ∧ zx_B g0 T n φ w (m + 1) O q.2) := by
  unfold f_Mo_add
  rw [zw_B]
  refine zw_mono (zxb_node H hm hk) fun q z => ?_
  rw [z.1, zw_bind]
  exact zw_mono (zxb_hang z.2 (by omega) (by omega) (by omega)) fun g' y => zw_some.mpr ⟨rfl, y⟩
theorem zxb_keep {x : Int32} (H : zx_B g0 T n φ w m O g) (hO : O < 200) : zw (f_Mo_keep g x) (zx_B g0 T n φ w m (O + 1)) := by
  obtain ⟨h2, h3, h4, h5, h6, h7, h8, h9, h10, h11, o, h12, h13⟩ := H
  unfold f_Mo_keep
  rw [h12, if_pos (zi_in (by omega) (by omega)), nI_1, zw_some]
  exact ⟨zfr_F (by decide) (zfr_M (by decide) h2), h3, h4, h5, h6, h7, h8, h9, h10, h11, o + 1, rfl, by omega⟩
theorem zxb_uM {k j : Nat} {v : Int32} (H : zx_B g0 T n φ w m O g) (hk : k = 73 ∨ k = 74 ∨ k = 75) : zx_B g0 T n φ w m O (zs_uM g k j v) := by
  obtain ⟨h2, h3, h4, h5, h6, h7, h8, h9, h10, h11, h12⟩ := H
  rcases hk with e | e | e <;> subst e <;> exact ⟨zfr_M (by decide) h2, h3, h4, h5, h6, h7, h8, h9, h10, h11, h12⟩
theorem zxb_expression {d : Nat} {x : Int32} (H : zx_B g0 T n φ w m O g) : f_Mo_expression (d + 1) g x = some g := by
  show g_Mo_expression (f_Mo_operand d) g x = _
  unfold g_Mo_expression
  rw [if_neg (zx_pos H)]
theorem zxb_operand {d : Nat} (H : zx_B g0 T n φ w m O g) : f_Mo_operand (d + 1) g = some g := by
  show g_Mo_operand (f_Mo_bracket d) (f_Mo_nameOperand d) (f_Mo_operand d) g = _
  unfold g_Mo_operand
  rw [if_neg (zx_pos H)]
end ZW
end
section
/-! Both readers in step: one token. -/
def zl_sv (v : Nat) : Prop := v ∈ [40, 41, 91, 93, 44, 59, 58, 46, 43, 45, 42, 47, 61, 60, 62, 38, 124]
/-- which values the kinds of tokens have -/
def zl_F (t : zl_T) : Prop := (t.1 = 0 ∨ t.1 = 1 ∨ t.1 = 2 ∨ t.1 = 3 ∨ t.1 = 4 ∨ t.1 = 5 ∨ t.1 = 9) ∧ (t.1 = 2 → t.2.2.2 < 41) ∧ (t.1 = 5 → (256 ≤ t.2.2.2 ∧ t.2.2.2 ≤ 260) ∨ zl_sv t.2.2.2) ∧ (t.1 = 9 → 1 ≤ t.2.2.2 ∧ t.2.2.2 ≤ 5)
theorem zl_svI : ∀ c, c < 256 → nI c ∈ zl_sg → c ∈ [40, 41, 91, 93, 44, 59, 58, 46, 43, 45, 42, 47, 61, 60, 62, 38, 124] := by decide +kernel
theorem zl_F9 {a e w : Nat} (h1 : 1 ≤ w) (h2 : w ≤ 5) : zl_F (9, a, e, w) := ⟨by simp, by simp, by simp, fun _ => ⟨h1, h2⟩⟩
theorem zl_F3 {k a e v : Nat} (h : k = 0 ∨ k = 1 ∨ k = 3 ∨ k = 4) : zl_F (k, a, e, v) := by
  refine ⟨?_, fun q => ?_, fun q => ?_, fun q => ?_⟩ <;> dsimp only at * <;> omega
theorem zl_Ffin {T : Nat → Int32} {n a e : Nat} {v : Option Nat} : zl_F (zl_fin T n a v e) := by
  unfold zl_fin
  cases v with
  | none => exact zl_F9 (by decide) (by decide)
  | some x =>
    dsimp only
    split
    · exact zl_F3 (by simp)
    · exact zl_F9 (by decide) (by decide)
theorem zl_Ftok {T : Nat → Int32} {n b : Nat} (hT : ∀ i, zb_ok (T i)) : zl_F (zl_tok T n b) := by
  unfold zl_tok
  by_cases c : (zl_sk T n (n - b) b).2 = true
  · rw [if_pos c]
    generalize (zl_sk T n (n - b) b).1 = a
    unfold zl_tk
    by_cases c0 : n ≤ a
    · rw [if_pos c0]; exact zl_F3 (by simp)
    rw [if_neg c0]
    by_cases c1 : zl_g T n a = 84 ∧ zl_b T n (a + 1) = 35
    · rw [if_pos c1]; exact zl_Ffin
    rw [if_neg c1]
    by_cases c2 : ¬ f_Mo_isLetter (zl_g T n a) = 0
    · rw [if_pos c2]
      unfold zl_tn
      by_cases d1 : 32 < zl_ne T n a - a
      · rw [if_pos d1]; exact zl_F9 (by decide) (by decide)
      rw [if_neg d1]
      by_cases d2 : zl_nm T n a (zl_ne T n a) ∈ zl_W
      · rw [if_pos d2]
        have hw : zl_W.idxOf (zl_nm T n a (zl_ne T n a)) < 41 := List.idxOf_lt_length_of_mem d2
        exact ⟨by simp, fun _ => hw, by simp, by simp⟩
      · rw [if_neg d2]; exact zl_F3 (by simp)
    rw [if_neg c2]
    by_cases c3 : ¬ f_Mo_isDigit (zl_g T n a) = 0
    · rw [if_pos c3]
      unfold zl_nb
      repeat' split
      all_goals first | exact zl_Ffin | exact zl_F9 (by decide) (by decide)
    rw [if_neg c3]
    by_cases c4 : zl_g T n a = 37
    · rw [if_pos c4]
      unfold zl_pl
      repeat' split
      all_goals first | exact zl_F9 (by decide) (by decide) | exact zl_F3 (by simp)
    · rw [if_neg c4]
      obtain ⟨k, hk, ek, -, -⟩ := zl_byte (hT a)
      have eb : zl_b T n a = nI k := by unfold zl_b; rw [if_pos (by omega), ek]
      unfold zl_sn
      rw [eb, nI_clamp (by omega)]
      by_cases d1 : zl_2 (nI k) (zl_b T n (a + 1)) = 0
      · rw [if_pos d1]
        by_cases d2 : nI k ∈ zl_sg
        · rw [if_pos d2]; exact ⟨by simp, by simp, fun _ => Or.inr (zl_svI k hk d2), by simp⟩
        · rw [if_neg d2]; exact zl_F9 (by decide) (by decide)
      · rw [if_neg d1]
        refine ⟨by simp, by simp, fun _ => Or.inl ?_, by simp⟩
        show 256 ≤ zl_2 (nI k) (zl_b T n (a + 1)) ∧ zl_2 (nI k) (zl_b T n (a + 1)) ≤ 260
        unfold zl_2 at d1 ⊢
        repeat' split
        all_goals first | decide | (exfalso; apply d1; simp_all)
  · rw [if_neg c]; exact zl_F9 (by decide) (by decide)
theorem zl_ckD {t : zl_T} (H : zl_F t) : (t.1 = 0 ∧ zl_ck t = 6) ∨ (t.1 = 1 ∧ zl_ck t = 8) ∨ (t.1 = 2 ∧ zl_ck t = 128 + t.2.2.2 ∧ t.2.2.2 < 41) ∨ (t.1 = 3 ∧ zl_ck t = 9) ∨ (t.1 = 4 ∧ zl_ck t = 10) ∨ (t.1 = 9 ∧ zl_ck t = 7) ∨ (t.1 = 5 ∧ 256 ≤ t.2.2.2 ∧ t.2.2.2 ≤ 260 ∧ zl_ck t = t.2.2.2 - 255) ∨ (t.1 = 5 ∧ zl_sv t.2.2.2 ∧ zl_ck t = t.2.2.2) := by
  obtain ⟨k, a, e, v⟩ := t
  obtain ⟨h1, h2, h3, h4⟩ := H
  dsimp only at *
  rcases h1 with rfl | rfl | rfl | rfl | rfl | rfl | rfl
  · exact Or.inl ⟨rfl, rfl⟩
  · exact Or.inr (Or.inl ⟨rfl, rfl⟩)
  · exact Or.inr (Or.inr (Or.inl ⟨rfl, rfl, h2 rfl⟩))
  · exact Or.inr (Or.inr (Or.inr (Or.inl ⟨rfl, rfl⟩)))
  · exact Or.inr (Or.inr (Or.inr (Or.inr (Or.inl ⟨rfl, rfl⟩))))
  · refine Or.inr (Or.inr (Or.inr (Or.inr (Or.inr (Or.inr ?_)))))
    rcases h3 rfl with ⟨a1, a2⟩ | a1
    · refine Or.inl ⟨rfl, a1, a2, ?_⟩
      have : v = 256 ∨ v = 257 ∨ v = 258 ∨ v = 259 ∨ v = 260 := by omega
      rcases this with rfl | rfl | rfl | rfl | rfl <;> rfl
    · refine Or.inr ⟨rfl, a1, ?_⟩
      have h5 : v < 200 := by
        simp only [zl_sv, List.mem_cons, List.not_mem_nil, or_false] at a1
        omega
      show (if v = 256 then 1 else if v = 257 then 2 else if v = 258 then 3 else if v = 259 then 4 else if v = 260 then 5 else v) = v
      rw [if_neg (by omega), if_neg (by omega), if_neg (by omega), if_neg (by omega), if_neg (by omega)]
  · exact Or.inr (Or.inr (Or.inr (Or.inr (Or.inr (Or.inl ⟨rfl, rfl⟩)))))
theorem zl_svb {v : Nat} (h : zl_sv v) : 38 ≤ v ∧ v < 128 := by
  simp only [zl_sv, List.mem_cons, List.not_mem_nil, or_false] at h
  omega
theorem zl_ckA {t : zl_T} (H : zl_F t) : (∀ c, zl_sv c → (zl_ck t = c ↔ t.1 = 5 ∧ t.2.2.2 = c)) ∧ (∀ c, 1 ≤ c → c ≤ 5 → (zl_ck t = c ↔ t.1 = 5 ∧ t.2.2.2 = 255 + c)) ∧ (∀ c, c < 41 → (zl_ck t = 128 + c ↔ t.1 = 2 ∧ t.2.2.2 = c)) ∧ (zl_ck t = 6 ↔ t.1 = 0) ∧ (zl_ck t = 7 ↔ t.1 = 9) ∧ (zl_ck t = 8 ↔ t.1 = 1) ∧ (zl_ck t = 9 ↔ t.1 = 3) ∧ (zl_ck t = 10 ↔ t.1 = 4) ∧ zl_ck t < 200 ∧ ¬ zl_ck t = 0 := by
  have hD := zl_ckD H
  generalize zl_ck t = k at hD ⊢
  have hs : ∀ v, zl_sv v → 38 ≤ v ∧ v < 128 := fun v => zl_svb
  generalize t.1 = a at hD ⊢
  generalize t.2.2.2 = v at hD ⊢
  have hv : zl_sv v → 38 ≤ v ∧ v < 128 := zl_svb
  have hD2 : (a = 0 ∧ k = 6) ∨ (a = 1 ∧ k = 8) ∨ (a = 2 ∧ k = 128 + v ∧ v < 41) ∨ (a = 3 ∧ k = 9) ∨ (a = 4 ∧ k = 10) ∨ (a = 9 ∧ k = 7) ∨ (a = 5 ∧ 256 ≤ v ∧ v ≤ 260 ∧ k = v - 255) ∨ (a = 5 ∧ 38 ≤ v ∧ v < 128 ∧ k = v) := by
    rcases hD with h | h | h | h | h | h | h | ⟨h1, h2, h3⟩
    · omega
    · omega
    · omega
    · omega
    · omega
    · omega
    · omega
    · have := hv h2; omega
  refine ⟨fun c hc => ?_, fun c h1 h2 => ?_, fun c hc => ?_, ?_, ?_, ?_, ?_, ?_, ?_, ?_⟩
  · have := hs c hc; omega
  all_goals omega
end
section
/-! Both readers in step: going on by a token, or a fault. -/
/-- the model's reader at token j, without a fault: d open ones, m nodes, o operands, q expressions -/
def zk_M (g : zs_H) (T : Nat → Int32) (n : Nat) (LM : List (List Int32)) (j d m o q : Nat) : Prop := zl_X g T n ∧ (g.1 68 10) = 0 ∧ ¬ (zl_at T n j).1 = 9 ∧ (g.1 68 7) = nI (zl_at T n j).2.1 ∧ (g.1 68 8) = nI (zl_at T n j).2.2.1 ∧ (g.1 68 6) = nI (zl_at T n j).1 ∧ ((zl_at T n j).1 = 1 → (g.1 68 9) = nI (LM.idxOf (zl_cn T n j)) ∧ zl_cn T n j ∈ LM) ∧ (¬ (zl_at T n j).1 = 1 → ¬ (zl_at T n j).1 = 0 → (g.1 68 9) = nI (zl_at T n j).2.2.2) ∧ zn_M g LM ∧ LM.Nodup ∧ zl_J T n (zl_at T n j).2.2.1 LM.length ∧ (g.1 68 12) = nI d ∧ d ≤ 60 ∧ (g.1 68 14) = nI m ∧ zx_W g m ∧ (g.1 68 25) = nI o ∧ (g.1 68 13) = nI q
/-- both in step -/
def zk_L (h0 g0 : zs_H) (T : Nat → Int32) (n K : Nat) (LC : List (List Int32)) (h g : zs_H) (LM : List (List Int32)) (j d s m o q : Nat) : Prop := zq_f h0 h ∧ zx_f g0 g ∧ zq_S h T n K LC ∧ zq_C h T n j d s ∧ j ≤ K ∧ zk_M g T n LM j d m o q
/-- both behind the same fault -/
def zk_B (h0 g0 : zs_H) (T : Nat → Int32) (n K : Nat) (LC : List (List Int32)) (m O : Nat) (h g : zs_H) : Prop := ∃ φ w, zq_Z h0 T n K LC φ w h ∧ zx_B g0 T n φ w m O g
abbrev zk_lx : List (Nat × Nat) := [(68, 3), (68, 6), (68, 7), (68, 8), (68, 9), (68, 10), (68, 11)]
theorem zq_bs {T : Nat → Int32} {n : Nat} (hT : ∀ i, zb_ok (T i)) : ∀ j, (∀ i, i < j → ¬ zq_fin T n i) → zl_bs T n j ≤ n := by
  intro j
  induction j with
  | zero => intro _; exact Nat.zero_le n
  | succ j ih =>
    intro h
    have hk := zl_tok_kd (n := n) (b := zl_bs T n j) hT (ih fun i hi => h i (by omega))
    exact (hk.2.2.2.1 (h j (by omega))).2
section ZY
variable {h0 g0 h g : zs_H} {T : Nat → Int32} {n K : Nat} {LC LM : List (List Int32)} {j d s m o q : Nat}
theorem zk_F (H : zk_L h0 g0 T n K LC h g LM j d s m o q) : zl_F (zl_at T n j) := zl_Ftok H.2.2.1.2.2.2.2.2.2.2.2.1
theorem zk_tok (H : zk_L h0 g0 T n K LC h g LM j d s m o q) {x : Nat} (hx : x < 200) : (h.1 19 5) = nI x ↔ zl_ck (zl_at T n j) = x := by
  have hF := (zl_ckA (zk_F H)).2.2.2.2.2.2.2.2.1
  rw [H.2.2.2.1.2.2.1]
  exact nI_eq (by omega) (by omega)
theorem zk_lt (H : zk_L h0 g0 T n K LC h g LM j d s m o q) (hE : ¬ (zl_at T n j).1 = 0) : j < K := by
  have h1 := H.2.2.2.2.1
  have h2 := H.2.2.2.2.2.2.2.1
  have h3 := H.2.2.1.2.2.2.2.1
  refine Nat.lt_of_le_of_ne h1 fun e => ?_
  subst e
  rcases h3 with a | a
  · exact hE a
  · exact h2 a
theorem zk_bs (H : zk_L h0 g0 T n K LC h g LM j d s m o q) : zl_bs T n (j + 1) = (zl_at T n j).2.2.1 := rfl
/-- both go on -/
theorem zk_step (H : zk_L h0 g0 T n K LC h g LM j d s m o q) (hE : ¬ (zl_at T n j).1 = 0) : ∃ h' g', f_Ps_take h ((h.1 19 5)) = some h' ∧ f_Mo_next g = some g' ∧ zfr [(19, 4), (19, 5), (19, 6)] [] [] h h' ∧ zfr zk_lx [70, 71] [] g g' ∧ ((∃ LM', LM <+: LM' ∧ zk_L h0 g0 T n K LC h' g' LM' (j + 1) d s m o q) ∨ zk_B h0 g0 T n K LC m o h' g') := by
  have hlt := zk_lt H hE
  have hF1 : zl_F (zl_at T n (j + 1)) := zl_Ftok H.2.2.1.2.2.2.2.2.2.2.2.1
  obtain ⟨a1, a2, a3, a4, a5, a6⟩ := H
  obtain ⟨h', e1, e2, e3⟩ := zq_take1 a3 a4 hlt
  have hf : zq_f h h' := zfr_w e3 (by decide) (by decide) (by decide)
  have hS' := zq_S_f hf a3
  obtain ⟨m1, m2, m3, m4, m5, m6, m7, m8, m9, m10, m11, m12, m13, m14, m15, m16, m17⟩ := a6
  have hT := a3.2.2.2.2.2.2.2.2.1
  have hn := a3.2.2.1
  have hkd := zl_tok_kd (n := n) (b := zl_bs T n j) hT (zq_bs hT j (fun i hi => a3.2.2.2.1 i (by omega)))
  have hb : (zl_at T n j).2.2.1 ≤ n := (hkd.2.2.2.1 (fun z => z.elim hE m3)).2
  obtain ⟨g', e4, q1, q2, q3⟩ := zl_next m1 hT m5 hb m9 (by have := m11.1; omega)
  have hX : zl_X g' T n := by
    refine ⟨(q1.1 _ _ (by decide)).trans m1.1, m1.2.1, fun i hi => ?_⟩
    rw [q1.2.1 _ (by decide)]; exact m1.2.2 i hi
  have hW : zx_W g' m := by
    unfold zx_W
    rw [q1.2.1 _ (by decide), q1.2.1 _ (by decide)]; exact m15
  have fr : zx_f g0 g' := zfr_trans a2 (zfr_w q1 (by decide) (by decide) (by decide))
  have hkd1 := zl_tok_kd (n := n) (b := (zl_at T n j).2.2.1) hT hb
  refine ⟨h', g', by rw [a4.2.2.1]; exact e1, e4, e3, q1, ?_⟩
  have eat : zl_tok T n (zl_at T n j).2.2.1 = zl_at T n (j + 1) := rfl
  rw [eat] at q2 q3 hkd1
  by_cases c : (zl_at T n (j + 1)).1 = 9
  · refine Or.inr ⟨(zl_at T n (j + 1)).2.2.2, (zl_at T n (j + 1)).2.1, ?_, ?_⟩
    · have hK : j + 1 = K := by
        refine Nat.le_antisymm hlt (Nat.le_of_not_lt fun z => ?_)
        exact a3.2.2.2.1 (j + 1) z (Or.inr c)
      obtain ⟨c1, c2, c3, c4, c5, c6, c7⟩ := e2
      refine ⟨zfr_trans a1 hf, hS', Or.inr ⟨c1, ?_, by rw [c2, hK], c4, by rw [← hK]; exact c, by rw [← hK]⟩, (hF1.2.2.2 c).1, by have := (hF1.2.2.2 c).2; omega, s, c6, c7⟩
      rw [c3, ((zl_ckA hF1).2.2.2.2.1).mpr c]; rfl
    · obtain ⟨q4, q5, q6, b', q7, q8, q9⟩ := q2 c
      obtain ⟨q10, q11⟩ := q4 m2
      exact ⟨fr, hX, hn, hT, q10, q11, ⟨(hF1.2.2.2 c).1, by have := (hF1.2.2.2 c).2; omega⟩, ⟨LM, b', q6, q7, q8, zl_J_up m11 q9⟩, (q1.1 _ _ (by decide)).trans m14, hW, o, (q1.1 _ _ (by decide)).trans m16, Nat.le_refl o⟩
  · obtain ⟨q4, q5, q6, q7, q8, q9, q10⟩ := q3 c
    have hbb : (zl_at T n j).2.2.1 ≤ (zl_at T n (j + 1)).2.2.1 := by
      by_cases c0 : (zl_at T n (j + 1)).1 = 0
      · have := zl_tok_0 (b := (zl_at T n j).2.2.1) c0
        rw [eat] at this; omega
      · have h1 := (hkd1.2.2.2.1 (fun z => z.elim c0 c)).1
        have h2 := hkd1.1
        omega
    by_cases c1 : (zl_at T n (j + 1)).1 = 1
    · obtain ⟨q11, q12⟩ := q9 c1
      have ecn : zl_nm T n (zl_at T n (j + 1)).2.1 (zl_at T n (j + 1)).2.2.1 = zl_cn T n (j + 1) := rfl
      rw [ecn] at q11 q12
      refine Or.inl ⟨if zl_cn T n (j + 1) ∈ LM then LM else LM ++ [zl_cn T n (j + 1)], ?_, zfr_trans a1 hf, fr, hS', e2, by omega, hX, q4.trans m2, c, q6, q7, q8, fun _ => ?_, fun z => absurd c1 z, q12, ?_, ?_, (q1.1 _ _ (by decide)).trans m12, m13, (q1.1 _ _ (by decide)).trans m14, hW, (q1.1 _ _ (by decide)).trans m16, (q1.1 _ _ (by decide)).trans m17⟩
      · split
        · exact List.prefix_refl _
        · exact List.prefix_append _ _
      · by_cases z : zl_cn T n (j + 1) ∈ LM
        · rw [if_pos z]; exact ⟨q11, z⟩
        · rw [if_neg z]; exact ⟨by rw [zl_idxn z]; exact q11, List.mem_append_right _ (List.mem_singleton.mpr rfl)⟩
      · split
        · exact m10
        · rename_i z
          refine List.nodup_append.mpr ⟨m10, List.nodup_cons.mpr ⟨List.not_mem_nil, List.nodup_nil⟩, fun a ha b hb e => ?_⟩
          rw [List.mem_singleton.mp hb] at e
          exact z (e ▸ ha)
      · split
        · exact zl_J_up m11 hbb
        · rw [List.length_append]; exact zl_J_nm hT hb m11 c1
    · refine Or.inl ⟨LM, List.prefix_refl _, zfr_trans a1 hf, fr, hS', e2, by omega, hX, q4.trans m2, c, q6, q7, q8, fun z => absurd z c1, fun _ z => (q10 c1).2 z, (q10 c1).1, m10, zl_J_up m11 hbb, (q1.1 _ _ (by decide)).trans m12, m13, (q1.1 _ _ (by decide)).trans m14, hW, (q1.1 _ _ (by decide)).trans m16, (q1.1 _ _ (by decide)).trans m17⟩
/-- the token can't come -/
theorem zk_wrong (H : zk_L h0 g0 T n K LC h g LM j d s m o q) {x : Int32} (hx : ¬ (h.1 19 5) = x) : ∃ h' g', f_Ps_take h x = some h' ∧ f_Mo_wrong g = some g' ∧ zk_B h0 g0 T n K LC m o h' g' := by
  have hF := zk_F H
  obtain ⟨a1, a2, a3, a4, a5, a6⟩ := H
  obtain ⟨m1, m2, m3, m4, m5, m6, m7, m8, m9, m10, m11, m12, m13, m14, m15, m16, m17⟩ := a6
  have hT := a3.2.2.2.2.2.2.2.2.1
  have h7 : ¬ nI (zl_ck (zl_at T n j)) = 7 := fun z => m3 (((zl_ckA hF).2.2.2.2.1).mp ((zc_eq (k := 7) (by decide) (by have := (zl_ckA hF).2.2.2.2.2.2.2.2.1; omega)).mp z))
  obtain ⟨h', e1, e2, e3⟩ := zq_take2 (x := x) a3 a4 a5 (by rw [← a4.2.2.1]; exact hx) h7
  have hbs := zq_bs hT j (fun i hi => a3.2.2.2.1 i (by omega))
  have hkd := zl_tok_kd (n := n) (b := zl_bs T n j) hT hbs
  have hbn : (zl_at T n j).2.2.1 ≤ n := by
    by_cases c0 : (zl_at T n j).1 = 0
    · have := zl_tok_0 (b := zl_bs T n j) c0
      unfold zl_at; omega
    · exact (hkd.2.2.2.1 (fun z => z.elim c0 m3)).2
  refine ⟨h', zl_ft g 6 (zl_at T n j).2.1, e1, ?_, 6, (zl_at T n j).2.1, ⟨zfr_trans a1 e3, zq_S_f e3 a3, e2⟩, ?_⟩
  · unfold f_Mo_wrong
    rw [zl_fail m4]; rfl
  · have f := zl_ftf (g := g) (w := 6) (a := (zl_at T n j).2.1)
    have e : zl_ft g 6 (zl_at T n j).2.1 = zs_uF (zs_uF g 68 10 6) 68 11 (nI (zl_at T n j).2.1) := if_pos m2
    refine ⟨zfr_trans a2 (zfr_w f (by decide) (by decide) (by decide)), ?_, a3.2.2.1, hT, by rw [e]; rfl, by rw [e]; rfl, by decide, ⟨LM, (zl_at T n j).2.2.1, zn_fr f (by decide) (by decide) (by decide) m9, (f.1 _ _ (by decide)).trans m5, hbn, m11⟩, (f.1 _ _ (by decide)).trans m14, ?_, o, (f.1 _ _ (by decide)).trans m16, Nat.le_refl o⟩
    · refine ⟨(f.1 _ _ (by decide)).trans m1.1, m1.2.1, fun i hi => ?_⟩
      rw [f.2.1 _ (by decide)]; exact m1.2.2 i hi
    · unfold zx_W
      rw [f.2.1 _ (by decide), f.2.1 _ (by decide)]; exact m15
end ZY
end
section
/-! Both readers in step: what is wanted; hanging nodes. -/
def zk_cs (c k : Nat) : Bool := ([40, 41, 91, 93, 44, 59, 58, 46, 43, 45, 42, 47, 61, 60, 62, 38, 124].elem c && c == k) || (decide (256 ≤ c) && decide (c ≤ 260) && (k + 255 == c))
theorem zk_csf {c k : Nat} (h : zk_cs c k = true) : (zl_sv c ∧ k = c) ∨ (1 ≤ k ∧ k ≤ 5 ∧ c = 255 + k) := by
  unfold zk_cs at h
  rw [Bool.or_eq_true, Bool.and_eq_true, Bool.and_eq_true, Bool.and_eq_true] at h
  rcases h with ⟨h1, h2⟩ | ⟨⟨h1, h2⟩, h3⟩
  · exact Or.inl ⟨by unfold zl_sv; exact List.elem_iff.mp h1, (beq_iff_eq.mp h2).symm⟩
  · have h4 := of_decide_eq_true h1
    have h5 := of_decide_eq_true h2
    have h6 := beq_iff_eq.mp h3
    exact Or.inr ⟨by omega, by omega, by omega⟩
theorem zk_F' {h : zs_H} {T : Nat → Int32} {n K : Nat} {LC : List (List Int32)} (H : zq_S h T n K LC) (j : Nat) : zl_F (zl_at T n j) := zl_Ftok H.2.2.2.2.2.2.2.2.1
section ZA
variable {h0 g0 h g : zs_H} {T : Nat → Int32} {n K : Nat} {LC LM : List (List Int32)} {j d s m o q : Nat}
theorem zk_sign (H : zk_L h0 g0 T n K LC h g LM j d s m o q) {c k : Nat} (hc : zk_cs c k = true) : f_Mo_isSign g (nI c) = if (h.1 19 5) = nI k then 1 else 0 := by
  have hA := zl_ckA (zk_F H)
  have hk : k < 200 ∧ c < 2147483648 := by
    rcases zk_csf hc with ⟨a, b⟩ | ⟨a, b, e⟩
    · have := zl_svb a; omega
    · omega
  have ht := zk_tok H hk.1
  obtain ⟨a1, a2, a3, a4, a5, a6⟩ := H
  obtain ⟨m1, m2, m3, m4, m5, m6, m7, m8, m9⟩ := a6
  have key : zl_ck (zl_at T n j) = k ↔ (zl_at T n j).1 = 5 ∧ (zl_at T n j).2.2.2 = c := by
    rcases zk_csf hc with ⟨a, b⟩ | ⟨a, b, e⟩
    · rw [b]; exact hA.1 c a
    · rw [e]; exact hA.2.1 k a b
  have hb := zl_tok_kd (n := n) (b := zl_bs T n j) a3.2.2.2.2.2.2.2.2.1 (zq_bs a3.2.2.2.2.2.2.2.2.1 j (fun i hi => a3.2.2.2.1 i (by omega)))
  have hv : (zl_at T n j).2.2.2 < 2147483648 := hb.2.2.2.2
  unfold f_Mo_isSign
  rw [if_pos m2, m6]
  by_cases e : (zl_at T n j).1 = 5
  · rw [if_pos (by rw [e]; rfl), m8 (by omega) (by omega)]
    by_cases e2 : (zl_at T n j).2.2.2 = c
    · rw [if_pos (by rw [e2]), if_pos (ht.mpr (key.mpr ⟨e, e2⟩))]
    · rw [if_neg (fun z => e2 ((nI_eq hv hk.2).mp z)), if_neg (fun z => e2 (key.mp (ht.mp z)).2)]
  · rw [if_neg (fun z => e ((zc_eq (k := 5) (by decide) (by have := (zk_F' a3 j).1; omega)).mp z)), if_neg (fun z => e (key.mp (ht.mp z)).1)]
theorem zk_word (H : zk_L h0 g0 T n K LC h g LM j d s m o q) {c : Nat} (hc : c < 41) : f_Mo_isWord g (nI c) = if (h.1 19 5) = nI (128 + c) then 1 else 0 := by
  have hA := zl_ckA (zk_F H)
  have ht := zk_tok H (x := 128 + c) (by omega)
  have key := hA.2.2.1 c hc
  obtain ⟨a1, a2, a3, a4, a5, a6⟩ := H
  obtain ⟨m1, m2, m3, m4, m5, m6, m7, m8, m9⟩ := a6
  have hF := zk_F' a3 j
  unfold f_Mo_isWord
  rw [if_pos m2, m6]
  by_cases e : (zl_at T n j).1 = 2
  · rw [if_pos (by rw [e]; rfl), m8 (by omega) (by omega)]
    have hv := hF.2.1 e
    by_cases e2 : (zl_at T n j).2.2.2 = c
    · rw [if_pos (by rw [e2]), if_pos (ht.mpr (key.mpr ⟨e, e2⟩))]
    · rw [if_neg (fun z => e2 ((nI_eq (by omega) (by omega)).mp z)), if_neg (fun z => e2 (key.mp (ht.mp z)).2)]
  · rw [if_neg (fun z => e ((zc_eq (k := 2) (by decide) (by have := hF.1; omega)).mp z)), if_neg (fun z => e (key.mp (ht.mp z)).1)]
theorem zk_kind (H : zk_L h0 g0 T n K LC h g LM j d s m o q) : ((g.1 68 6) = 1 ↔ (h.1 19 5) = 8) ∧ ((g.1 68 6) = 3 ↔ (h.1 19 5) = 9) ∧ ((g.1 68 6) = 4 ↔ (h.1 19 5) = 10) ∧ ((g.1 68 6) = 0 ↔ (h.1 19 5) = 6) := by
  have hA := zl_ckA (zk_F H)
  have hF := zk_F H
  have h8 := zk_tok H (x := 8) (by decide)
  have h9 := zk_tok H (x := 9) (by decide)
  have h10 := zk_tok H (x := 10) (by decide)
  have h6 := zk_tok H (x := 6) (by decide)
  have m6 := H.2.2.2.2.2.2.2.2.2.2.1
  have hk : (zl_at T n j).1 < 2147483648 := by have := hF.1; omega
  rw [m6]
  exact ⟨(zc_eq (k := 1) (by decide) hk).trans (hA.2.2.2.2.2.1.symm.trans h8.symm), (zc_eq (k := 3) (by decide) hk).trans (hA.2.2.2.2.2.2.1.symm.trans h9.symm), (zc_eq (k := 4) (by decide) hk).trans (hA.2.2.2.2.2.2.2.1.symm.trans h10.symm), (zc_eq (k := 0) (by decide) hk).trans (hA.2.2.2.1.symm.trans h6.symm)⟩
/-- what goes on: in step at the next token, or both behind a fault -/
def zk_on (h0 g0 : zs_H) (T : Nat → Int32) (n K : Nat) (LC : List (List Int32)) (LM : List (List Int32)) (j d s m o q : Nat) (h g h' g' : zs_H) : Prop := (zfr [(19, 4), (19, 5), (19, 6)] [] [] h h' ∧ zfr zk_lx [70, 71] [] g g' ∧ ∃ LM', LM <+: LM' ∧ zk_L h0 g0 T n K LC h' g' LM' (j + 1) d s m o q) ∨ zk_B h0 g0 T n K LC m o h' g'
theorem zk_want (H : zk_L h0 g0 T n K LC h g LM j d s m o q) {x y : Int32} (hxy : ¬ y = 0 ↔ (h.1 19 5) = x) (hx6 : ¬ x = 6) : ∃ h' g', f_Ps_take h x = some h' ∧ f_Mo_want g y = some g' ∧ (zk_B h0 g0 T n K LC m o h' g' ∨ ((h.1 19 5) = x ∧ zk_on h0 g0 T n K LC LM j d s m o q h g h' g')) := by
  have m2 := H.2.2.2.2.2.2.1
  unfold f_Mo_want
  rw [if_pos m2]
  by_cases c : (h.1 19 5) = x
  · have hE : ¬ (zl_at T n j).1 = 0 := by
      intro z
      have h6 := ((zk_kind H).2.2.2).mp (by rw [H.2.2.2.2.2.2.2.2.2.2.1, z]; rfl)
      exact hx6 (c.symm.trans h6)
    obtain ⟨h', g', e1, e2, e3, e4, e5⟩ := zk_step H hE
    rw [c] at e1
    rw [if_neg (hxy.mpr c), e2]
    refine ⟨h', g', e1, rfl, Or.inr ⟨c, ?_⟩⟩
    rcases e5 with z | z
    · exact Or.inl ⟨e3, e4, z⟩
    · exact Or.inr z
  · obtain ⟨h', g', e1, e2, e3⟩ := zk_wrong H c
    have hy : y = 0 := Classical.byContradiction fun z => c (hxy.mp z)
    rw [if_pos hy, e2]
    exact ⟨h', g', e1, rfl, Or.inl e3⟩
theorem zk_wantS (H : zk_L h0 g0 T n K LC h g LM j d s m o q) {c k : Nat} (hc : zk_cs c k = true) (hk : ¬ nI k = 6) : ∃ h' g', f_Ps_take h (nI k) = some h' ∧ f_Mo_wantSign g (nI c) = some g' ∧ (zk_B h0 g0 T n K LC m o h' g' ∨ ((h.1 19 5) = nI k ∧ zk_on h0 g0 T n K LC LM j d s m o q h g h' g')) := by
  unfold f_Mo_wantSign
  rw [zk_sign H hc]
  obtain ⟨h', g', e1, e2, e3⟩ := zk_want H (x := nI k) (y := if (h.1 19 5) = nI k then 1 else 0) (by by_cases z : (h.1 19 5) = nI k <;> simp [z]) hk
  exact ⟨h', g', e1, by rw [e2]; rfl, e3⟩
theorem zk_wantW (H : zk_L h0 g0 T n K LC h g LM j d s m o q) {c : Nat} (hc : c < 41) : ∃ h' g', f_Ps_take h (nI (128 + c)) = some h' ∧ f_Mo_wantWord g (nI c) = some g' ∧ (zk_B h0 g0 T n K LC m o h' g' ∨ ((h.1 19 5) = nI (128 + c) ∧ zk_on h0 g0 T n K LC LM j d s m o q h g h' g')) := by
  unfold f_Mo_wantWord
  rw [zk_word H hc]
  obtain ⟨h', g', e1, e2, e3⟩ := zk_want H (x := nI (128 + c)) (y := if (h.1 19 5) = nI (128 + c) then 1 else 0) (by by_cases z : (h.1 19 5) = nI (128 + c) <;> simp [z]) (fun z => by have := (zc_eq (k := 6) (by decide) (by omega)).mp z; omega)
  exact ⟨h', g', e1, by rw [e2]; rfl, e3⟩
end ZA
end
section
/-! Nodes are hung, in the class and in the model. -/
/-- the class's nodes before s are as they were -/
def zq_kp (s : Nat) (h h' : zs_H) : Prop := ∀ i, i < s → (h'.2.1 13) i = (h.2.1 13) i ∧ (h'.2.1 15) i = (h.2.1 15) i ∧ (h'.2.1 16) i = (h.2.1 16) i ∧ (h'.2.1 17) i = (h.2.1 17) i ∧ (h'.2.1 18) i = (h.2.1 18) i
theorem zq_kp_f {s : Nat} {h h' : zs_H} {fs : List (Nat × Nat)} (f : zfr fs [] [] h h') : zq_kp s h h' := fun i _ => ⟨congrFun (f.2.1 _ List.not_mem_nil) i, congrFun (f.2.1 _ List.not_mem_nil) i, congrFun (f.2.1 _ List.not_mem_nil) i, congrFun (f.2.1 _ List.not_mem_nil) i, congrFun (f.2.1 _ List.not_mem_nil) i⟩
theorem zq_kp_t {s s' : Nat} {h h1 h2 : zs_H} (a : zq_kp s h h1) (b : zq_kp s' h1 h2) (hs : s ≤ s') : zq_kp s h h2 := fun i hi => by
  obtain ⟨a1, a2, a3, a4, a5⟩ := a i hi
  obtain ⟨b1, b2, b3, b4, b5⟩ := b i (by omega)
  exact ⟨b1.trans a1, b2.trans a2, b3.trans a3, b4.trans a4, b5.trans a5⟩
theorem zq_kp_r {s : Nat} {h : zs_H} : zq_kp s h h := fun _ _ => ⟨rfl, rfl, rfl, rfl, rfl⟩
theorem zq_kp_A {s kd : Nat} {p v : Int32} {h h' : zs_H} (q : zq_A s kd p v h h') : zq_kp s h h' := fun i hi => by
  obtain ⟨q1, q2, q3, q4, q5, q6, q7⟩ := q
  exact ⟨by rw [q2, if_neg (by omega)], by rw [q3, if_neg (by omega)], by rw [q4, if_neg (by omega)], by rw [q5, if_neg (by omega)], by rw [q6, if_neg (by omega)]⟩
theorem zt_Ck {h h' : zs_H} {t : zt_T} {P : Nat → Prop} {x y : Int32} {s : Nat} (k : zq_kp s h h') (hP : ∀ i, P i → i < s) (H : zt_C h t P x y) : zt_C h' t P x y := by
  refine zt_fr t P P _ _ _ (fun i hi => ?_) (fun _ z => z) H
  obtain ⟨a1, a2, a3, a4, a5⟩ := k i (hP i hi)
  refine ⟨fun kd kk up z q => ?_, a4, a5⟩
  unfold zt_NC at q ⊢
  rw [a1, a2, a3]; exact q
theorem zt_Cm {h : zs_H} {t : zt_T} {P Q : Nat → Prop} {x y : Int32} (hP : ∀ i, P i → Q i) (H : zt_C h t P x y) : zt_C h t Q x y := zt_fr t P Q _ _ _ (fun _ _ => ⟨fun _ _ _ _ z => z, rfl, rfl⟩) hP H
theorem zt_Cn {s kd : Nat} {p v : Int32} {h h' : zs_H} (hs : s < 40000) (q : zq_A s kd p v h h') : zt_C h' (zt_n kd p v .leaf) (fun i => i = s) (nI s) (nI s) := by
  obtain ⟨q1, q2, q3, q4, q5, q6, q7⟩ := q
  refine ⟨s, fun _ => False, fun _ => False, -1, -1, rfl, hs, rfl, ⟨by rw [q2, if_pos rfl], by rw [q3, if_pos rfl], by rw [q4, if_pos rfl]⟩, fun j z => z.elim, fun j z => z.elim, ?_, ?_, by rw [if_pos rfl]⟩
  · rw [q5, if_pos rfl]; exact ⟨rfl, rfl⟩
  · rw [q6, if_pos rfl]; exact ⟨rfl, rfl⟩
/-- the class hangs a node behind a parent's children -/
theorem zq_hangC {h : zs_H} {ip a : Nat} {y : Int32} {t u : zt_T} {P Q : Nat → Prop} (hip : ip < 32784) (hP : ∀ i, P i → i < 32784) (ht : zt_C h t P ((h.2.1 17) ip) y) (hu : zt_C h u Q (nI a) (nI a)) (hd : ∀ i, P i → ¬ Q i) (h1 : ¬ P ip) (h2 : ¬ Q ip) (ha : a < 40000) : ∃ h', f_Tr_hang h (nI ip) y (nI a) = some (nI a, h') ∧ zt_C h' (zt_ap t u) (fun i => P i ∨ Q i) ((h'.2.1 17) ip) (nI a) ∧ (∀ i, (h'.2.1 13) i = (h.2.1 13) i ∧ (h'.2.1 15) i = (h.2.1 15) i ∧ (h'.2.1 16) i = (h.2.1 16) i ∧ (¬ i = ip → (h'.2.1 17) i = (h.2.1 17) i) ∧ (¬ P i → (h'.2.1 18) i = (h.2.1 18) i)) ∧ zfr [] [17, 18] [] h h' := by
  unfold f_Tr_hang
  rcases zt_last t P _ _ _ ht with ⟨e1, e2, e3⟩ | ⟨i, c, i1, i2, i3, c1, c2, c3⟩
  · rw [if_pos e3, if_pos (zi_in (by omega) hip), nI_clamp (by omega)]
    have key : ∀ i, (zs_uM h 17 ip (nI a)).2.1 17 i = if i = ip then nI a else (h.2.1 17) i := fun i => by simp [zu_MM]
    refine ⟨_, rfl, ?_, fun i => ⟨rfl, rfl, rfl, fun z => ?_, fun _ => rfl⟩, zfr_M (by decide) zfr_rfl⟩
    · rw [e1, key, if_pos rfl]
      show zt_C _ u _ _ _
      refine zt_fr u Q _ _ _ _ (fun i hi => ⟨fun _ _ _ _ z => z, ?_, rfl⟩) (fun _ z => Or.inr z) hu
      rw [key, if_neg (show ¬ i = ip from fun z => h2 (z ▸ hi))]
    · rw [key, if_neg z]
  · have hc := hP c c1
    rw [c3, if_neg (zc_m1 (by omega)), if_pos (zi_in (by omega) hc), nI_clamp (by omega)]
    have key : ∀ i, (zs_uM h 18 c (nI a)).2.1 18 i = if i = c then nI a else (h.2.1 18) i := fun i => by simp [zu_MM]
    have kc : ∀ i, (zs_uM h 18 c (nI a)).2.1 17 i = (h.2.1 17) i := fun i => rfl
    refine ⟨_, rfl, ?_, fun i => ⟨rfl, rfl, rfl, fun _ => rfl, fun z => ?_⟩, zfr_M (by decide) zfr_rfl⟩
    · rw [c3] at ht
      rw [kc]
      exact zt_app (j := c) (by omega) (by rw [key, if_pos rfl]) (fun i => kc i) (fun i z => by rw [key, if_neg z]) (fun _ _ _ _ _ z => z) hu (zc_m1 (by omega)) (fun z => hd c c1 z) t P _ hd ht
    · rw [key, if_neg (show ¬ i = c from fun w => z (w.symm ▸ c1))]
/-- a parent and what is below it -/
theorem zt_Cp {h : zs_H} {ip kd : Nat} {p v y : Int32} {t : zt_T} {P : Nat → Prop} (hip : ip < 40000) (h1 : ¬ P ip) (hk : (h.2.1 13) ip = nI kd) (hp : (h.2.1 15) ip = p) (hv : (h.2.1 16) ip = v) (hn : (h.2.1 18) ip = -1) (ht : zt_C h t P ((h.2.1 17) ip) y) : zt_C h (zt_n kd p v t) (fun i => i = ip ∨ P i) (nI ip) (nI ip) :=
  ⟨ip, P, fun _ => False, y, -1, Or.inl rfl, hip, rfl, ⟨hk, hp, hv⟩, fun j hj => ⟨Or.inr hj, fun z => h1 (z ▸ hj), fun z => z⟩, fun j z => z.elim, zt_Cup t P 0 _ _ _ ht, ⟨hn, rfl⟩, by rw [if_pos rfl]⟩
/-- the model's nodes before b are as they were, and b too but for what is below it -/
def zx_kp (b : Nat) (g g' : zs_H) : Prop := (∀ i, i < b → (g'.2.1 72) i = (g.2.1 72) i ∧ (g'.2.1 73) i = (g.2.1 73) i ∧ (g'.2.1 74) i = (g.2.1 74) i ∧ (g'.2.1 75) i = (g.2.1 75) i ∧ (g'.2.1 76) i = (g.2.1 76) i ∧ (g'.2.1 77) i = (g.2.1 77) i ∧ (g'.2.1 78) i = (g.2.1 78) i) ∧ (g'.2.1 72) b = (g.2.1 72) b ∧ (g'.2.1 73) b = (g.2.1 73) b ∧ (g'.2.1 74) b = (g.2.1 74) b ∧ (g'.2.1 75) b = (g.2.1 75) b ∧ (g'.2.1 78) b = (g.2.1 78) b
theorem zx_kp_r {b : Nat} {g : zs_H} : zx_kp b g g := ⟨fun _ _ => ⟨rfl, rfl, rfl, rfl, rfl, rfl, rfl⟩, rfl, rfl, rfl, rfl, rfl⟩
theorem zx_kp_t {b : Nat} {g g1 g2 : zs_H} (a : zx_kp b g g1) (c : zx_kp b g1 g2) : zx_kp b g g2 := by
  obtain ⟨a0, a1, a2, a3, a4, a5⟩ := a
  obtain ⟨c0, c1, c2, c3, c4, c5⟩ := c
  refine ⟨fun i hi => ?_, c1.trans a1, c2.trans a2, c3.trans a3, c4.trans a4, c5.trans a5⟩
  obtain ⟨x1, x2, x3, x4, x5, x6, x7⟩ := a0 i hi
  obtain ⟨y1, y2, y3, y4, y5, y6, y7⟩ := c0 i hi
  exact ⟨y1.trans x1, y2.trans x2, y3.trans x3, y4.trans x4, y5.trans x5, y6.trans x6, y7.trans x7⟩
/-- all the nodes before m are as they were -/
def zx_ka (m : Nat) (g g' : zs_H) : Prop := ∀ i, i < m → (g'.2.1 72) i = (g.2.1 72) i ∧ (g'.2.1 73) i = (g.2.1 73) i ∧ (g'.2.1 74) i = (g.2.1 74) i ∧ (g'.2.1 75) i = (g.2.1 75) i ∧ (g'.2.1 76) i = (g.2.1 76) i ∧ (g'.2.1 77) i = (g.2.1 77) i ∧ (g'.2.1 78) i = (g.2.1 78) i
theorem zx_ka_l {m : Nat} {g g' : zs_H} (f : zfr zk_lx [70, 71] [] g g') : zx_ka m g g' := fun i _ => ⟨congrFun (f.2.1 _ (by decide)) i, congrFun (f.2.1 _ (by decide)) i, congrFun (f.2.1 _ (by decide)) i, congrFun (f.2.1 _ (by decide)) i, congrFun (f.2.1 _ (by decide)) i, congrFun (f.2.1 _ (by decide)) i, congrFun (f.2.1 _ (by decide)) i⟩
theorem zx_ka_t {m m' : Nat} {g g1 g2 : zs_H} (a : zx_ka m g g1) (c : zx_ka m' g1 g2) (hm : m ≤ m') : zx_ka m g g2 := fun i hi => by
  obtain ⟨x1, x2, x3, x4, x5, x6, x7⟩ := a i hi
  obtain ⟨y1, y2, y3, y4, y5, y6, y7⟩ := c i (by omega)
  exact ⟨y1.trans x1, y2.trans x2, y3.trans x3, y4.trans x4, y5.trans x5, y6.trans x6, y7.trans x7⟩
theorem zx_ka_kp {m b : Nat} {g g' : zs_H} (a : zx_ka m g g') (hb : b < m) : zx_kp b g g' := by
  obtain ⟨x1, x2, x3, x4, x5, x6, x7⟩ := a b hb
  exact ⟨fun i hi => a i (by omega), x1, x2, x3, x4, x7⟩
theorem zx_kp_ka {m b : Nat} {g g' : zs_H} (a : zx_kp b g g') (hb : m ≤ b) : zx_ka m g g' := fun i hi => a.1 i (by omega)
theorem zx_ka_N {m kd : Nat} {p v : Int32} {g g' : zs_H} (q : zx_N m kd p v g g') : zx_ka m g g' := fun i hi => by
  obtain ⟨q1, q2, q3, q4, q5, q6, q7, q8, q9⟩ := q
  exact ⟨by rw [q2, if_neg (by omega)], by rw [q3, if_neg (by omega)], by rw [q4, if_neg (by omega)], by rw [q5, if_neg (by omega)], by rw [q6, if_neg (by omega)], by rw [q7, if_neg (by omega)], by rw [q8, if_neg (by omega)]⟩
theorem zt_nrm {LC LM LM' : List (List Int32)} {v w : Int32} (hp : LM <+: LM') (H : zt_nr LC LM v w) : zt_nr LC LM' v w := by
  obtain ⟨c, k, h1, h2, h3, h4, h5, h6⟩ := H
  obtain ⟨r, rfl⟩ := hp
  refine ⟨c, k, h1, h2, h3, h4, by rw [List.length_append]; omega, ?_⟩
  rw [h6, List.getD_eq_getElem?_getD, List.getD_eq_getElem?_getD, List.getElem?_append_left h5]
theorem zt_Mk {LC LM LM' : List (List Int32)} {g g' : zs_H} {t : zt_T} {P : Nat → Prop} {up x y : Int32} {m : Nat} (hp : LM <+: LM') (k : zx_ka m g g') (hP : ∀ i, P i → i < m) (H : zt_M LC LM g t P up x y) : zt_M LC LM' g' t P up x y := by
  refine zt_fr t P P _ _ _ (fun i hi => ?_) (fun _ z => z) H
  obtain ⟨a1, a2, a3, a4, a5, a6, a7⟩ := k i (hP i hi)
  refine ⟨fun kd kk up z q => ?_, a5, a7⟩
  unfold zt_NM at q ⊢
  rw [a1, a2, a3, a4, a6]
  refine ⟨q.1, q.2.1, ?_, q.2.2.2⟩
  have q3 := q.2.2.1
  by_cases c : zt_nk kd = true
  · rw [if_pos c] at q3 ⊢; exact zt_nrm hp q3
  · rw [if_neg c] at q3 ⊢; exact q3
theorem zt_Mm {LC LM : List (List Int32)} {g : zs_H} {t : zt_T} {P Q : Nat → Prop} {up x y : Int32} (hP : ∀ i, P i → Q i) (H : zt_M LC LM g t P up x y) : zt_M LC LM g t Q up x y := zt_fr t P Q _ _ _ (fun _ _ => ⟨fun _ _ _ _ z => z, rfl, rfl⟩) hP H
/-- a node's own fields -/
def zt_Nf (LC LM : List (List Int32)) (g : zs_H) (i kd : Nat) (p v : Int32) : Prop := (g.2.1 72) i = nI (zt_km kd) ∧ (¬ kd = 11 → (g.2.1 73) i = p) ∧ (if zt_nk kd = true then zt_nr LC LM v ((g.2.1 74) i) else (g.2.1 74) i = v)
/-- the model hangs a node, with what is below it, behind a parent's children -/
theorem zx_hangM {LC LM : List (List Int32)} {g g' : zs_H} {a b kd : Nat} {p v : Int32} {t l : zt_T} {P Q : Nat → Prop} (ha : a < 40000) (hH : zx_H a b g g') (ht : zt_M LC LM g t P (nI b) ((g.2.1 76) b) ((g.2.1 77) b)) (hN : zt_Nf LC LM g a kd p v) (hbs : (g.2.1 78) a = -1) (hl : zt_M LC LM g l Q (nI a) ((g.2.1 76) a) ((g.2.1 77) a)) (hd : ∀ i, P i → ¬ Q i ∧ ¬ i = a) (h1 : ¬ P b) (h2 : ¬ Q b) (h3 : ¬ a = b) (h4 : ¬ Q a) : zt_M LC LM g' (zt_ap t (zt_n kd p v l)) (fun i => P i ∨ i = a ∨ Q i) (nI b) ((g'.2.1 76) b) ((g'.2.1 77) b) := by
  obtain ⟨H1, H2, H3, H4⟩ := hH
  have ek : (g'.2.1 72) = (g.2.1 72) := H4.2.1 _ (by decide)
  have ep : (g'.2.1 73) = (g.2.1 73) := H4.2.1 _ (by decide)
  have ev : (g'.2.1 74) = (g.2.1 74) := H4.2.1 _ (by decide)
  have eN : ∀ i, ¬ i = a → ¬ i = b → ∀ kd k up z, zt_NM LC LM g i kd k up z → zt_NM LC LM g' i kd k up z := by
    intro i i1 i2 kd k up z q
    unfold zt_NM at q ⊢
    rw [ek, ep, ev, H1, if_neg i1, H2, if_neg i2]; exact q
  have hlast : (g'.2.1 77) b = nI a := by rw [H2, if_pos rfl]
  have hNa : ∀ z, (g.2.1 77) a = z → zt_NM LC LM g' a kd (p, v) (nI b) z := by
    intro z hz
    unfold zt_NM
    rw [ek, ep, ev, H1, if_pos rfl, H2, if_neg h3]
    exact ⟨hN.1, hN.2.1, hN.2.2, rfl, hz⟩
  rcases H3 with ⟨e1, e2, e3⟩ | ⟨e1, e2, c, c1, c2, e3⟩
  · -- the first one
    have et : t = .leaf := by
      rcases zt_last t P _ _ _ ht with ⟨z, _, _⟩ | ⟨i, _, _, i2, i3, _⟩
      · exact z
      · rw [e1] at i3; exact absurd i3.symm (zc_m1 (by omega))
    rw [et, hlast, e2, if_pos rfl]
    refine ⟨a, Q, fun _ => False, (g.2.1 77) a, -1, Or.inr (Or.inl rfl), ha, rfl, hNa _ rfl, fun j hj => ⟨Or.inr (Or.inr hj), fun z => h4 (z ▸ hj), fun z => z⟩, fun j z => z.elim, ?_, ?_, by rw [if_pos rfl]⟩
    · rw [e2, if_neg h3]
      exact zt_fr l Q Q _ _ _ (fun i hi => ⟨eN i (fun z => h4 (z ▸ hi)) (fun z => h2 (z ▸ hi)), by rw [e2, if_neg (show ¬ i = b from fun z => h2 (z ▸ hi))], e3 i⟩) (fun _ z => z) hl
    · exact ⟨by rw [e3, hbs], rfl⟩
  · have hcP : P c := by
      rcases zt_last t P _ _ _ ht with ⟨z, y, _⟩ | ⟨i, j, _, _, _, j1, j2, j3⟩
      · exact absurd y e1
      · rw [c2] at j3
        have := (nI_eq (by omega) (by omega)).mp j3
        rw [this]; exact j1
    -- both in the new arrays, but for the link
    have hu : zt_G (zt_NM LC LM g') ((g.2.1 76)) ((g.2.1 78)) (zt_n kd p v l) (fun i => i = a ∨ Q i) (nI b) (nI a) (nI a) := by
      refine ⟨a, Q, fun _ => False, (g.2.1 77) a, -1, Or.inl rfl, ha, rfl, hNa _ rfl, fun j hj => ⟨Or.inr hj, fun z => h4 (z ▸ hj), fun z => z⟩, fun j z => z.elim, ?_, ⟨hbs, rfl⟩, by rw [if_pos rfl]⟩
      exact zt_fr l Q Q _ _ _ (fun i hi => ⟨eN i (fun z => h4 (z ▸ hi)) (fun z => h2 (z ▸ hi)), rfl, rfl⟩) (fun _ z => z) hl
    have ht2 : zt_G (zt_NM LC LM g') ((g.2.1 76)) ((g.2.1 78)) t P (nI b) ((g.2.1 76) b) (nI c) := by
      rw [c2] at ht
      exact zt_fr t P P _ _ _ (fun i hi => ⟨eN i (hd i hi).2 (fun z => h1 (z ▸ hi)), rfl, rfl⟩) (fun _ z => z) ht
    rw [hlast, e2]
    exact zt_app (j := c) c1 (by rw [e3, if_pos rfl]) e2 (fun i z => by rw [e3, if_neg z]) (fun _ _ _ _ _ z => z) hu (zc_m1 (by omega)) (fun z => z.elim (hd c hcP).2 (hd c hcP).1) t P _ (fun i hi z => z.elim (hd i hi).2 (hd i hi).1) ht2
end
section
/-! What comes behind a parent's children in the model. -/
/-- the last node of a forest gets something below it -/
theorem zt_sub {N N' : Nat → Nat → Int32 × Int32 → Int32 → Int32 → Prop} {A A' B B' : Nat → Int32} {i kd : Nat} {p v up z1 : Int32} {l : zt_T} {Q : Nat → Prop} (hi : i < 40000) (hn : N' i kd (p, v) up z1) (hl : zt_G N' A' B' l Q (nI i) (A' i) z1) (hQi : ¬ Q i) : ∀ (t : zt_T) (P : Nat → Prop) (x : Int32), (∀ a, P a → ¬ Q a) → zt_G N A B (zt_ap t (zt_n kd p v .leaf)) P up x (nI i) → (∀ a, P a → (¬ a = i → (∀ kd k up z, N a kd k up z → N' a kd k up z) ∧ A' a = A a) ∧ B' a = B a) → zt_G N' A' B' (zt_ap t (zt_n kd p v l)) (fun a => P a ∨ Q a) up x (nI i) := by
  intro t
  induction t with
  | leaf =>
    intro P x hPQ q hN2
    obtain ⟨i', P1, P2, z1', z2, q1, q2, q3, q4, q5, q6, q7, q8, q9⟩ := q
    obtain ⟨q8a, q8b⟩ := q8
    rw [if_pos q8b, q3] at q9
    have e : i = i' := (nI_eq (by omega) (by omega)).mp q9
    subst e
    refine ⟨i, Q, fun _ => False, z1, -1, Or.inl q1, q2, q3, hn, fun a ha => ⟨Or.inr ha, fun z => hQi (z ▸ ha), fun z => z⟩, fun a z => z.elim, hl, ⟨by rw [(hN2 i q1).2]; exact q8a, rfl⟩, by rw [if_pos rfl]; exact q3.symm⟩
  | inner kd' k' v' l' r ihl ihr =>
    intro P x hPQ q hN2
    obtain ⟨i', P1, P2, z1', z2, q1, q2, q3, q4, q5, q6, q7, q8, q9⟩ := q
    have hz : ¬ z2 = -1 := by
      intro z
      rcases zt_last _ P2 _ _ _ q8 with ⟨w, _, _⟩ | ⟨_, j, _, _, _, _, j2, j3⟩
      · revert w
        cases r with
        | leaf => intro w; cases w
        | inner => intro w; cases w
      · rw [z] at j3; exact absurd j3.symm (zc_m1 (by omega))
    rw [if_neg hz] at q9
    have hP2 : P2 i := by
      rcases zt_last _ P2 _ _ _ q8 with ⟨_, _, w⟩ | ⟨_, j, _, _, _, j1, j2, j3⟩
      · exact absurd w hz
      · rw [← q9] at j3
        have := (nI_eq (by omega) (by omega)).mp j3
        rw [this]; exact j1
    have hne : ¬ i' = i := fun z => (q6 i hP2).2 z.symm
    have hr := ihr P2 (B i') (fun a ha => hPQ a (q6 a ha).1) (by rw [q9]; exact q8) (fun a ha => hN2 a (q6 a ha).1)
    refine ⟨i', P1, fun a => P2 a ∨ Q a, z1', nI i, Or.inl q1, q2, q3, ((hN2 i' q1).1 hne).1 _ _ _ _ q4, fun a ha => ⟨Or.inl (q5 a ha).1, (q5 a ha).2.1, fun z => z.elim (q5 a ha).2.2 (hPQ a (q5 a ha).1)⟩, fun a ha => ha.elim (fun z => ⟨Or.inl (q6 a z).1, (q6 a z).2⟩) (fun z => ⟨Or.inr z, fun w => hPQ i' q1 (w ▸ z)⟩), ?_, ?_, by rw [if_neg (zc_m1 (by omega))]⟩
    · rw [((hN2 i' q1).1 hne).2]
      refine zt_fr l' P1 P1 _ _ _ (fun a ha => ?_) (fun _ z => z) q7
      have ha2 : ¬ a = i := fun z => (q5 a ha).2.2 (z ▸ hP2)
      have ha3 := hN2 a (q5 a ha).1
      exact ⟨(ha3.1 ha2).1, (ha3.1 ha2).2, ha3.2⟩
    · rw [(hN2 i' q1).2]; exact hr
/-- a forest t comes behind what is below node b -/
def zx_AP (LC LM LM' : List (List Int32)) (b m m' : Nat) (t : zt_T) (g g' : zs_H) : Prop := ∀ (P : Nat → Prop) (u : zt_T), (∀ i, P i → b < i ∧ i < m) → zt_M LC LM g u P (nI b) ((g.2.1 76) b) ((g.2.1 77) b) → zx_kp b g g' ∧ zt_M LC LM' g' (zt_ap u t) (fun i => P i ∨ (m ≤ i ∧ i < m')) (nI b) ((g'.2.1 76) b) ((g'.2.1 77) b)
theorem zx_AP_0 {LC LM LM' : List (List Int32)} {b m : Nat} {g g' : zs_H} (hp : LM <+: LM') (k : zx_ka m g g') (hb : b < m) : zx_AP LC LM LM' b m m .leaf g g' := by
  refine fun P u hP H => ⟨zx_ka_kp k hb, ?_⟩
  obtain ⟨_, _, _, _, k5, k6, _⟩ := k b hb
  rw [zt_ap_leaf, k5, k6]
  exact zt_Mm (fun i hi => Or.inl hi) (zt_Mk hp k (fun i hi => (hP i hi).2) H)
theorem zx_AP_t {LC LM LM1 LM2 : List (List Int32)} {b m m1 m2 : Nat} {t t' : zt_T} {g g1 g2 : zs_H} (a : zx_AP LC LM LM1 b m m1 t g g1) (c : zx_AP LC LM1 LM2 b m1 m2 t' g1 g2) (h1 : m ≤ m1) (h2 : m1 ≤ m2) (hb : b < m) : zx_AP LC LM LM2 b m m2 (zt_ap t t') g g2 := by
  refine fun P u hP H => ?_
  have a1 := a P u hP H
  have q := c _ _ (fun i hi => hi.elim (fun z => ⟨(hP i z).1, by have := (hP i z).2; omega⟩) (fun z => ⟨by omega, z.2⟩)) a1.2
  have q2 := q.2
  rw [zt_ap_as] at q2
  refine ⟨zx_kp_t a1.1 q.1, zt_Mm (fun i hi => ?_) q2⟩
  rcases hi with (z | z) | z
  · exact Or.inl z
  · exact Or.inr ⟨z.1, by omega⟩
  · exact Or.inr ⟨by omega, z.2⟩
/-- add: a node without anything below it -/
theorem zx_add {LC LM : List (List Int32)} {g : zs_H} {m b kd : Nat} {kv p v : Int32} {v' : Int32} (Hm : (g.1 68 14) = nI m) (hm : m < 33500) (HW : zx_W g m) (hb : b < m) (hk : kv = nI (zt_km kd)) (hv : if zt_nk kd = true then zt_nr LC LM v' v else v = v') : ∃ g', f_Mo_add g (nI b) kv p v = some (nI m, g') ∧ zx_AP LC LM LM b m (m + 1) (zt_n kd p v' .leaf) g g' ∧ zx_W g' (m + 1) ∧ (g'.1 68 14) = nI (m + 1) ∧ zt_Nf LC LM g' m kd p v' ∧ (g'.2.1 75) m = nI b ∧ (g'.2.1 76) m = -1 ∧ (g'.2.1 77) m = -1 ∧ (g'.2.1 78) m = -1 ∧ (g'.2.1 77) b = nI m ∧ zfr [(68, 14)] [72, 73, 74, 75, 76, 77, 78] [] g g' := by
  obtain ⟨g1, e1, q⟩ := zx_node (p := p) (v := v) Hm hm hk
  have hW1 := zx_W_N HW q
  have hka := zx_ka_N q
  obtain ⟨q1, q2, q3, q4, q5, q6, q7, q8, q9⟩ := q
  obtain ⟨g2, e2, hH, hW2⟩ := zx_hang (a := m) (b := b) (show m + 1 ≤ 33500 by omega) (by omega) (by omega) hW1
  have hNf : zt_Nf LC LM g1 m kd p v' := by
    refine ⟨by rw [q2, if_pos rfl], fun _ => by rw [q3, if_pos rfl], ?_⟩
    rw [q4, if_pos rfl]; exact hv
  have f2 := hH.2.2.2
  have hbm : ¬ m = b := by omega
  refine ⟨g2, ?_, fun P u hP H => ⟨?_, ?_⟩, hW2, (f2.1 _ _ (by decide)).trans q1, ?_, ?_, ?_, ?_, ?_, by rw [hH.2.1, if_pos rfl], zfr_trans (zfr_w q9 (by decide) (by decide) (by decide)) (zfr_w f2 (by decide) (by decide) (by decide))⟩
  · unfold f_Mo_add
    rw [e1]
    show (f_Mo_hang g1 (nI m) (nI b)).bind _ = _
    rw [e2]; rfl
  · refine zx_kp_t (zx_ka_kp hka hb) ?_
    obtain ⟨H1, H2, H3, H4⟩ := hH
    obtain ⟨_, _, _, _, k5, k6, _⟩ := hka b hb
    have hbs : ∀ i, i ≤ b → (g2.2.1 78) i = (g1.2.1 78) i ∧ (i < b → (g2.2.1 76) i = (g1.2.1 76) i) := by
      intro i hi
      rcases H3 with ⟨e3, e4, e5⟩ | ⟨e3, e4, c, c1, c2, e5⟩
      · exact ⟨e5 i, fun z => by rw [e4, if_neg (by omega)]⟩
      · have hc : b < c := by
          rcases zt_last u P _ _ _ H with ⟨_, z, _⟩ | ⟨_, j, _, _, _, j1, j2, j3⟩
          · rw [← k5] at z; exact absurd z e3
          · rw [← k6, c2] at j3
            have := (nI_eq (by omega) (by omega)).mp j3
            have := hP j j1
            omega
        exact ⟨by rw [e5, if_neg (by omega)], fun _ => e4 i⟩
    exact ⟨fun i hi => ⟨congrFun (f2.2.1 _ (by decide)) i, congrFun (f2.2.1 _ (by decide)) i, congrFun (f2.2.1 _ (by decide)) i, by rw [H1, if_neg (by omega)], (hbs i (by omega)).2 hi, by rw [H2, if_neg (by omega)], (hbs i (by omega)).1⟩, congrFun (f2.2.1 _ (by decide)) b, congrFun (f2.2.1 _ (by decide)) b, congrFun (f2.2.1 _ (by decide)) b, by rw [H1, if_neg (by omega)], (hbs b (Nat.le_refl b)).1⟩
  · obtain ⟨_, _, _, _, k5, k6, _⟩ := hka b hb
    have H1 := zt_Mk (List.prefix_refl LM) hka (fun i hi => (hP i hi).2) H
    rw [← k5, ← k6] at H1
    have h5 : (g1.2.1 76) m = -1 := by rw [q6, if_pos rfl]
    have h6 : (g1.2.1 77) m = -1 := by rw [q7, if_pos rfl]
    have h8 : (g1.2.1 78) m = -1 := by rw [q8, if_pos rfl]
    have r := zx_hangM (l := .leaf) (Q := fun _ => False) (by omega) hH H1 hNf h8 ⟨h5, h6⟩ (fun i hi => ⟨fun z => z, fun z => by have := (hP i hi).2; omega⟩) (fun z => by have := (hP b z).1; omega) (fun z => z) hbm (fun z => z)
    refine zt_Mm (fun i hi => ?_) r
    rcases hi with z | z | z
    · exact Or.inl z
    · exact Or.inr ⟨by omega, by omega⟩
    · exact z.elim
  · unfold zt_Nf at hNf ⊢
    rw [f2.2.1 _ (by decide), f2.2.1 _ (by decide), f2.2.1 _ (by decide)]; exact hNf
  · rw [hH.1, if_pos rfl]
  · rcases hH.2.2.1 with ⟨_, e4, _⟩ | ⟨_, e4, _⟩
    · rw [e4, if_neg hbm, q6, if_pos rfl]
    · rw [e4, q6, if_pos rfl]
  · rw [hH.2.1, if_neg hbm, q7, if_pos rfl]
  · rcases hH.2.2.1 with ⟨_, _, e5⟩ | ⟨e9, _, c, c1, c2, e5⟩
    · rw [e5, q8, if_pos rfl]
    · have hcm : ¬ m = c := by
        intro z
        rcases HW b hb with y | ⟨_, a, a1, a2⟩
        · obtain ⟨_, _, _, _, k5, k6, _⟩ := hka b hb
          exact e9 (k5.trans y)
        · obtain ⟨_, _, _, _, k5, k6, _⟩ := hka b hb
          rw [k6, a2] at c2
          have := (nI_eq (by omega) (by omega)).mp c2
          omega
      rw [e5, if_neg hcm, q8, if_pos rfl]
/-- a node with what comes below it -/
theorem zx_AP_n {LC LM LM1 LM' : List (List Int32)} {g g1 g2 : zs_H} {b m m' kd : Nat} {p v : Int32} {l : zt_T} (hm : m < 33500) (hm' : m + 1 ≤ m') (hb : b < m) (a : zx_AP LC LM LM1 b m (m + 1) (zt_n kd p v .leaf) g g1) (hp : LM1 <+: LM') (h1 : (g1.2.1 76) m = -1) (h2 : (g1.2.1 77) m = -1) (c : zx_AP LC LM1 LM' m (m + 1) m' l g1 g2) (hN : zt_Nf LC LM' g2 m kd p v) (hab : (g2.2.1 75) m = nI b) (h6 : (g1.2.1 77) b = nI m) (hk : ∀ i, i < m → (g2.2.1 72) i = (g1.2.1 72) i ∧ (g2.2.1 73) i = (g1.2.1 73) i ∧ (g2.2.1 74) i = (g1.2.1 74) i ∧ (g2.2.1 75) i = (g1.2.1 75) i ∧ (g2.2.1 76) i = (g1.2.1 76) i ∧ (g2.2.1 77) i = (g1.2.1 77) i ∧ (g2.2.1 78) i = (g1.2.1 78) i) (hbs : (g2.2.1 78) m = (g1.2.1 78) m) : zx_AP LC LM LM' b m m' (zt_n kd p v l) g g2 := by
  intro P u hP H
  obtain ⟨a1, a2⟩ := a P u hP H
  obtain ⟨c1, c2⟩ := c (fun _ => False) .leaf (fun i z => z.elim) ⟨h1, h2⟩
  have ka : zx_ka m g1 g2 := hk
  refine ⟨zx_kp_t a1 (zx_ka_kp ka hb), ?_⟩
  obtain ⟨_, _, _, _, k5, k6, _⟩ := ka b hb
  rw [k5, k6, h6]
  rw [h6] at a2
  have hmono : ∀ i, i < m → ∀ kd k up z, zt_NM LC LM1 g1 i kd k up z → zt_NM LC LM' g2 i kd k up z := by
    intro i hi kd k up z q
    obtain ⟨x1, x2, x3, x4, x5, x6, x7⟩ := ka i hi
    unfold zt_NM at q ⊢
    rw [x1, x2, x3, x4, x6]
    refine ⟨q.1, q.2.1, ?_, q.2.2.2⟩
    have q3 := q.2.2.1
    by_cases w : zt_nk kd = true
    · rw [if_pos w] at q3 ⊢; exact zt_nrm hp q3
    · rw [if_neg w] at q3 ⊢; exact q3
  have hn : zt_NM LC LM' g2 m kd (p, v) (nI b) ((g2.2.1 77) m) := ⟨hN.1, hN.2.1, hN.2.2, hab, rfl⟩
  have hl : zt_G (zt_NM LC LM' g2) ((g2.2.1 76)) ((g2.2.1 78)) l (fun i => m + 1 ≤ i ∧ i < m') (nI m) ((g2.2.1 76) m) ((g2.2.1 77) m) := zt_Mm (fun i hi => hi.elim (fun z => z.elim) (fun z => z)) c2
  have r := zt_sub (by omega) hn hl (fun z => by omega) u _ _ (fun i hi z => by rcases hi with y | y; (have := (hP i y).2; omega); omega) a2 (fun i hi => ?_)
  · refine zt_Mm (fun i hi => ?_) r
    rcases hi with (z | z) | z
    · exact Or.inl z
    · exact Or.inr ⟨z.1, by omega⟩
    · exact Or.inr ⟨by omega, z.2⟩
  · rcases hi with y | y
    · have := (hP i y).2
      exact ⟨fun _ => ⟨hmono i this, (ka i this).2.2.2.2.1⟩, (ka i this).2.2.2.2.2.2⟩
    · have e : i = m := by omega
      subst e
      exact ⟨fun z => absurd rfl z, hbs⟩
theorem zt_Nfm {LC LM LM' : List (List Int32)} {g g' : zs_H} {i kd : Nat} {p v : Int32} (hp : LM <+: LM') (e1 : (g'.2.1 72) i = (g.2.1 72) i) (e2 : (g'.2.1 73) i = (g.2.1 73) i) (e3 : (g'.2.1 74) i = (g.2.1 74) i) (H : zt_Nf LC LM g i kd p v) : zt_Nf LC LM' g' i kd p v := by
  unfold zt_Nf at H ⊢
  rw [e1, e2, e3]
  refine ⟨H.1, H.2.1, ?_⟩
  have q3 := H.2.2
  by_cases w : zt_nk kd = true
  · rw [if_pos w] at q3 ⊢; exact zt_nrm hp q3
  · rw [if_neg w] at q3 ⊢; exact q3
/-- a node with what comes below it, its own fields unchanged -/
theorem zx_AP_n' {LC LM LM1 LM' : List (List Int32)} {g g1 g2 : zs_H} {b m m' kd : Nat} {p v : Int32} {l : zt_T} (hm : m < 33500) (hm' : m + 1 ≤ m') (hb : b < m) (a : zx_AP LC LM LM1 b m (m + 1) (zt_n kd p v .leaf) g g1) (hp : LM1 <+: LM') (h1 : (g1.2.1 76) m = -1) (h2 : (g1.2.1 77) m = -1) (c : zx_AP LC LM1 LM' m (m + 1) m' l g1 g2) (hN : zt_Nf LC LM1 g1 m kd p v) (hab : (g1.2.1 75) m = nI b) (h6 : (g1.2.1 77) b = nI m) : zx_AP LC LM LM' b m m' (zt_n kd p v l) g g2 := by
  obtain ⟨c1, c2⟩ := c (fun _ => False) .leaf (fun i z => z.elim) ⟨h1, h2⟩
  obtain ⟨k0, k1, k2, k3, k4, k5⟩ := c1
  exact zx_AP_n hm hm' hb a hp h1 h2 c (zt_Nfm hp k1 k2 k3 hN) (k4.trans hab) h6 k0 k5
end
section
/-! Both readers in step: nodes. -/
section ZD
variable {h0 g0 h g : zs_H} {T : Nat → Int32} {n K : Nat} {LC LM : List (List Int32)} {j d s m o q : Nat}
theorem zk_place (H : zk_L h0 g0 T n K LC h g LM j d s m o q) : (zl_at T n j).2.1 ≤ 10240 := by
  obtain ⟨a1, a2, a3, a4, a5, a6⟩ := H
  have hT := a3.2.2.2.2.2.2.2.2.1
  have := (zl_tok_kd (n := n) (b := zl_bs T n j) hT (zq_bs hT j (fun i hi => a3.2.2.2.1 i (by omega)))).2.1
  have hn := a3.2.2.1
  exact Nat.le_trans this hn
/-- the class makes a node for the token here -/
theorem zk_cadd (H : zk_L h0 g0 T n K LC h g LM j d s m o q) {kd : Nat} {kv v : Int32} (hs : s < 32784) (hk : kd < 128) (hkv : kv = nI kd) : ∃ h', f_Tr_add h kv ((h.1 19 6)) v = some (nI s, h') ∧ zk_L h0 g0 T n K LC h' g LM j d (s + 1) m o q ∧ zq_A s kd (nI (zl_at T n j).2.1) v h h' := by
  have hp := zk_place H
  obtain ⟨a1, a2, a3, a4, a5, a6⟩ := H
  obtain ⟨c1, c2, c3, c4, c5, c6, c7⟩ := a4
  obtain ⟨h', e1, e2⟩ := zq_add (kd := kd) (p := (zl_at T n j).2.1) (v := v) c6 hs hk (by omega)
  have f : zq_f h h' := zfr_w e2.2.2.2.2.2.2 (by decide) (by decide) (by decide)
  have ff := e2.2.2.2.2.2.2
  refine ⟨h', by rw [hkv, c4]; exact e1, ⟨zfr_trans a1 f, a2, zq_S_f f a3, ⟨(ff.1 _ _ (by decide)).trans c1, (ff.1 _ _ (by decide)).trans c2, (ff.1 _ _ (by decide)).trans c3, (ff.1 _ _ (by decide)).trans c4, (ff.1 _ _ (by decide)).trans c5, e2.1, by omega⟩, a5, a6⟩, e2⟩
/-- a change of the class's tree alone -/
theorem zk_cf (H : zk_L h0 g0 T n K LC h g LM j d s m o q) {h' : zs_H} {ms : List Nat} (f : zfr [] ms [] h h') (hm : ∀ x ∈ ms, x ∈ zq_ms) : zk_L h0 g0 T n K LC h' g LM j d s m o q := by
  obtain ⟨a1, a2, a3, a4, a5, a6⟩ := H
  obtain ⟨c1, c2, c3, c4, c5, c6, c7⟩ := a4
  have ff : zq_f h h' := zfr_w f (fun x z => absurd z List.not_mem_nil) hm (fun x z => z)
  have e : ∀ k j, h'.1 k j = h.1 k j := fun k j => f.1 k j List.not_mem_nil
  exact ⟨zfr_trans a1 ff, a2, zq_S_f ff a3, ⟨(e _ _).trans c1, (e _ _).trans c2, (e _ _).trans c3, (e _ _).trans c4, (e _ _).trans c5, (e _ _).trans c6, c7⟩, a5, a6⟩
/-- a change of the model's tree alone -/
theorem zk_mf (H : zk_L h0 g0 T n K LC h g LM j d s m o q) {g' : zs_H} {m' : Nat} (f : zfr [(68, 14)] [72, 73, 74, 75, 76, 77, 78] [] g g') (hm : (g'.1 68 14) = nI m') (hW : zx_W g' m') : zk_L h0 g0 T n K LC h g' LM j d s m' o q := by
  obtain ⟨a1, a2, a3, a4, a5, a6⟩ := H
  obtain ⟨m1, m2, m3, m4, m5, m6, m7, m8, m9, m10, m11, m12, m13, m14, m15, m16, m17⟩ := a6
  refine ⟨a1, zfr_trans a2 (zfr_w f (by decide) (by decide) (by decide)), a3, a4, a5, ⟨(f.1 _ _ (by decide)).trans m1.1, m1.2.1, fun i hi => ?_⟩, (f.1 _ _ (by decide)).trans m2, m3, (f.1 _ _ (by decide)).trans m4, (f.1 _ _ (by decide)).trans m5, (f.1 _ _ (by decide)).trans m6, fun z => ⟨(f.1 _ _ (by decide)).trans (m7 z).1, (m7 z).2⟩, fun z y => (f.1 _ _ (by decide)).trans (m8 z y), zn_fr f (by decide) (by decide) (by decide) m9, m10, m11, (f.1 _ _ (by decide)).trans m12, m13, hm, hW, (f.1 _ _ (by decide)).trans m16, (f.1 _ _ (by decide)).trans m17⟩
  rw [f.2.1 _ (by decide)]; exact m1.2.2 i hi
/-- the model makes a node -/
theorem zk_madd (H : zk_L h0 g0 T n K LC h g LM j d s m o q) {b kd : Nat} {kv p v v' : Int32} (hm : m < 33500) (hb : b < m) (hk : kv = nI (zt_km kd)) (hv : if zt_nk kd = true then zt_nr LC LM v' v else v = v') : ∃ g', f_Mo_add g (nI b) kv p v = some (nI m, g') ∧ zk_L h0 g0 T n K LC h g' LM j d s (m + 1) o q ∧ zx_AP LC LM LM b m (m + 1) (zt_n kd p v' .leaf) g g' ∧ zt_Nf LC LM g' m kd p v' ∧ (g'.2.1 75) m = nI b ∧ (g'.2.1 76) m = -1 ∧ (g'.2.1 77) m = -1 ∧ (g'.2.1 78) m = -1 ∧ (g'.2.1 77) b = nI m ∧ zfr [(68, 14)] [72, 73, 74, 75, 76, 77, 78] [] g g' := by
  have m14 := H.2.2.2.2.2.2.2.2.2.2.2.2.2.2.2.2.2.2.1
  have m15 := H.2.2.2.2.2.2.2.2.2.2.2.2.2.2.2.2.2.2.2.1
  obtain ⟨g', e1, e2, e3, e4, e5, e6, e7, e8, e9, e10, e11⟩ := zx_add (p := p) m14 hm m15 hb hk hv
  exact ⟨g', e1, zk_mf H e11 e4 e3, e2, e5, e6, e7, e8, e9, e10, e11⟩
/-- the name here, in the class and in the model -/
theorem zk_nm (H : zk_L h0 g0 T n K LC h g LM j d s m o q) (h1 : (zl_at T n j).1 = 1) : zd_in ((h.1 19 4)) 16385 ∧ zt_nr LC LM (h.2.1 11 ((h.1 19 4)).toNatClampNeg) ((g.1 68 9)) := by
  obtain ⟨a1, a2, a3, a4, a5, a6⟩ := H
  obtain ⟨m1, m2, m3, m4, m5, m6, m7, m8⟩ := a6
  obtain ⟨s1, s2, s3, s4, s5, s6, s7, s8, s9, s10⟩ := a3
  obtain ⟨t1, t2, t3, t4⟩ := s1.1 j (by omega)
  rw [a4.2.1, nI_clamp (by omega), t3, (m7 h1).1]
  refine ⟨zi_in (by omega) (by omega), LC.idxOf (zl_cn T n j), LM.idxOf (zl_cn T n j), by unfold zl_cv; rw [if_pos (Or.inl h1)], rfl, ?_, List.idxOf_lt_length_of_mem (t4 (Or.inl h1)), List.idxOf_lt_length_of_mem (m7 h1).2, ?_⟩
  · have hLW : LC = zl_W ++ LC.drop 41 := by
      rw [← zl_WK, ← s7, List.take_take, show min 41 75 = 41 from rfl, List.take_append_drop]
    have hnw : ¬ zl_cn T n j ∈ zl_W := by
      intro z
      have w : (zl_at T n j).1 = 2 := (zl_tok_nm (T := T) (n := n) (b := zl_bs T n j) (Or.inl h1)).2.2.2.2.1.mpr z
      omega
    rw [hLW, List.idxOf_append, if_neg hnw]
    exact Nat.le_add_left _ _
  · have e : ∀ (L : List (List Int32)) (c : List Int32), c ∈ L → L.getD (L.idxOf c) [] = c := by
      intro L c hc
      have hl := List.idxOf_lt_length_of_mem hc
      rw [List.getD_eq_getElem?_getD, List.getElem?_eq_getElem hl]
      exact List.getElem_idxOf hl
    rw [e _ _ (t4 (Or.inl h1)), e _ _ (m7 h1).2]
end ZD
end
section
/-! What trees a text can have. -/
/-- what may come below a node of a kind: kind, state, kinds of the next child, state behind it -/
def zg_R : List (Nat × Nat × List Nat × Nat) := [
  (0, 0, [1, 2, 3], 0),
  (1, 0, [8], 1), (1, 1, [4], 1), (1, 1, [11, 22], 2),
  (2, 0, [4], 0), (2, 0, [11, 22], 2),
  (3, 0, [4], 0), (3, 0, [11, 22], 2),
  (4, 0, [5], 0),
  (5, 0, [37], 1), (5, 1, [37], 1), (5, 1, [7], 2), (5, 1, [8, 9, 10], 3), (5, 2, [8, 9, 10], 3), (5, 3, [30, 31], 4),
  (9, 0, [30, 31], 1), (9, 1, [30, 31], 2), (9, 2, [8], 3),
  (11, 0, [12, 13, 15, 16, 19, 20, 21], 0),
  (12, 0, [6, 32], 1), (12, 1, [6, 30, 31, 32, 33, 34, 35, 36], 2),
  (13, 0, [14], 0),
  (14, 0, [6, 30, 31, 32, 33, 34, 35, 36], 1),
  (15, 0, [6, 30, 31, 32, 33, 34, 35, 36], 1), (15, 1, [11], 2), (15, 2, [6, 30, 31, 32, 33, 34, 35, 36], 1), (15, 2, [11], 3),
  (16, 0, [6, 30, 31, 32, 33, 34, 35, 36], 1), (16, 1, [17], 1), (16, 1, [11], 2),
  (17, 0, [18], 1), (17, 1, [18], 1), (17, 1, [11], 2),
  (18, 0, [30, 31], 1), (18, 1, [30, 31], 2),
  (19, 0, [30, 31], 1), (19, 1, [30, 31], 2), (19, 2, [30, 31], 3), (19, 2, [11], 4), (19, 3, [11], 4),
  (22, 0, [23], 0),
  (23, 0, [24], 1), (23, 1, [24], 1),
  (24, 0, [25, 26, 27, 28], 1), (24, 1, [25, 26, 27, 28], 1), (24, 1, [29], 2), (24, 2, [25, 26, 27, 28], 1),
  (25, 0, [6, 33], 1),
  (28, 0, [6], 1),
  (32, 0, [6, 30, 31, 32, 33, 34, 35, 36], 1),
  (33, 0, [38], 1),
  (34, 0, [6, 30, 31, 32, 33, 34, 35, 36], 0),
  (35, 0, [6, 30, 31, 32, 33, 34, 35, 36], 1), (35, 1, [6, 30, 31, 32, 33, 34, 35, 36], 2),
  (36, 0, [6, 30, 31, 32, 33, 34, 35, 36], 1)]
def zg_q (kd st c : Nat) : Nat := ((zg_R.find? (fun r => r.1 == kd && r.2.1 == st && r.2.2.1.elem c)).map (·.2.2.2)).getD 99
/-- where it may end -/
def zg_A (kd st : Nat) : Bool := [(0, 0), (1, 2), (2, 2), (3, 2), (4, 0), (5, 3), (5, 4), (6, 0), (7, 0), (8, 0), (9, 3), (10, 0), (11, 0), (12, 2), (13, 0), (14, 1), (15, 2), (15, 3), (16, 1), (16, 2), (17, 2), (18, 1), (18, 2), (19, 4), (20, 0), (21, 0), (22, 0), (23, 1), (24, 1), (25, 1), (26, 0), (27, 0), (28, 1), (29, 0), (30, 0), (31, 0), (32, 1), (33, 1), (34, 0), (35, 2), (36, 1), (37, 0), (38, 0)].elem (kd, st)
/-- how many values a kind has; 0: any -/
def zg_b (kd : Nat) : Nat := if kd = 4 then 3 else if kd = 7 then 1536 else if kd = 8 then 3 else if kd = 25 then 4 else if kd = 28 then 4 else if kd = 31 then 2 else if kd = 35 then 14 else if kd = 36 then 2 else 0
def zg_v (kd : Nat) (v : Int32) : Prop := zg_b kd = 0 ∨ ∃ x, x < zg_b kd ∧ v = nI x ∧ (kd = 7 → 768 ≤ x → x % 256 < 64)
def zg_run (kd : Nat) : Nat → zt_T → Nat
  | st, .leaf => st
  | st, .inner c _ _ _ r => zg_run kd (zg_q kd st c) r
def zg_ok : zt_T → Prop
  | .leaf => True
  | .inner kd k _ l r => (zg_A kd (zg_run kd 0 l) = true ∧ zg_v kd k.2) ∧ zg_ok l ∧ zg_ok r
/-- how deep it is -/
def zg_d : zt_T → Nat
  | .leaf => 0
  | .inner kd _ _ l r => max (zg_d l + (if kd = 19 then 2 else 1)) (zg_d r)
theorem zg_d1 {kd : Nat} {k : Int32 × Int32} {v : Unit} {l r : zt_T} : max (zg_d l + 1) (zg_d r) ≤ zg_d (.inner kd k v l r) := by
  show max (zg_d l + 1) (zg_d r) ≤ max (zg_d l + (if kd = 19 then 2 else 1)) (zg_d r)
  split <;> omega
theorem zg_d0 {kd : Nat} {k : Int32 × Int32} {v : Unit} {l r : zt_T} (h : ¬ kd = 19) : zg_d (.inner kd k v l r) = max (zg_d l + 1) (zg_d r) := by
  show max (zg_d l + (if kd = 19 then 2 else 1)) (zg_d r) = _
  rw [if_neg h]
theorem zg_d2 {k1 k2 : Nat} {v1 v2 : Int32 × Int32} {o1 o2 : Unit} {l1 l2 r : zt_T} : max (zg_d l1 + 1) (max (zg_d l2 + 1) (zg_d r)) ≤ zg_d (.inner k1 v1 o1 l1 (.inner k2 v2 o2 l2 r)) := by
  have a := zg_d1 (kd := k1) (k := v1) (v := o1) (l := l1) (r := .inner k2 v2 o2 l2 r)
  have b := zg_d1 (kd := k2) (k := v2) (v := o2) (l := l2) (r := r)
  omega
/-- how many names it declares -/
def zg_c : zt_T → Nat
  | .leaf => 0
  | .inner kd _ _ l r => (if kd = 37 then 1 else 0) + zg_c l + zg_c r
theorem zg_run_ap (kd : Nat) : ∀ (t u : zt_T) (st : Nat), zg_run kd st (zt_ap t u) = zg_run kd (zg_run kd st t) u := by
  intro t u
  induction t with
  | leaf => intro st; rfl
  | inner c k v l r ihl ihr => intro st; exact ihr _
theorem zg_ok_ap : ∀ (t u : zt_T), zg_ok t → zg_ok u → zg_ok (zt_ap t u) := by
  intro t u
  induction t with
  | leaf => intro _ h; exact h
  | inner c k v l r ihl ihr => intro h hu; exact ⟨h.1, h.2.1, ihr h.2.2 hu⟩
theorem zg_d_ap : ∀ (t u : zt_T), zg_d (zt_ap t u) = max (zg_d t) (zg_d u) := by
  intro t u
  induction t with
  | leaf => show zg_d u = max 0 (zg_d u); omega
  | inner c k v l r ihl ihr =>
    show max (zg_d l + (if c = 19 then 2 else 1)) (zg_d (zt_ap r u)) = max (max (zg_d l + (if c = 19 then 2 else 1)) (zg_d r)) (zg_d u)
    generalize (if c = 19 then 2 else 1) = zz
    rw [ihr]; omega
theorem zg_c_ap : ∀ (t u : zt_T), zg_c (zt_ap t u) = zg_c t + zg_c u := by
  intro t u
  induction t with
  | leaf => show zg_c u = 0 + zg_c u; omega
  | inner c k v l r ihl ihr =>
    show (if c = 37 then 1 else 0) + zg_c l + zg_c (zt_ap r u) = (if c = 37 then 1 else 0) + zg_c l + zg_c r + zg_c u
    rw [ihr]; omega
/-- a tree with one of these kinds at its top -/
def zg_T (S : List Nat) (D : Nat) (t : zt_T) : Prop := ∃ kd p v l, t = zt_n kd p v l ∧ kd ∈ S ∧ zg_ok t ∧ zg_d t ≤ D
/-- what is below a node of a kind, up to here -/
def zg_U (kd st D : Nat) (u : zt_T) : Prop := zg_run kd 0 u = st ∧ zg_ok u ∧ zg_d u ≤ D
theorem zg_U0 {kd D : Nat} : zg_U kd 0 D .leaf := ⟨rfl, trivial, Nat.zero_le D⟩
theorem zg_U1 {kd st st' D : Nat} {S : List Nat} {u t : zt_T} (H : zg_U kd st D u) (ht : zg_T S D t) (hq : ∀ c ∈ S, zg_q kd st c = st') : zg_U kd st' D (zt_ap u t) := by
  obtain ⟨h1, h2, h3⟩ := H
  obtain ⟨c, p, v, l, rfl, t1, t2, t3⟩ := ht
  refine ⟨?_, zg_ok_ap _ _ h2 t2, by rw [zg_d_ap]; omega⟩
  rw [zg_run_ap, h1]
  exact hq c t1
theorem zg_n {kd st D : Nat} {p v : Int32} {u : zt_T} {S : List Nat} (H : zg_U kd st D u) (ha : zg_A kd st = true) (hv : zg_v kd v) (hS : kd ∈ S) (h19 : ¬ kd = 19 := by decide) : zg_T S (D + 1) (zt_n kd p v u) := by
  obtain ⟨h1, h2, h3⟩ := H
  refine ⟨kd, p, v, u, rfl, hS, ⟨⟨by rw [h1]; exact ha, hv⟩, h2, trivial⟩, ?_⟩
  show max (zg_d u + (if kd = 19 then 2 else 1)) 0 ≤ D + 1
  rw [if_neg h19]
  omega
theorem zg_n19 {st D : Nat} {p v : Int32} {u : zt_T} {S : List Nat} (H : zg_U 19 st D u) (ha : zg_A 19 st = true) (hv : zg_v 19 v) (hS : 19 ∈ S) : zg_T S (D + 2) (zt_n 19 p v u) := by
  obtain ⟨h1, h2, h3⟩ := H
  refine ⟨19, p, v, u, rfl, hS, ⟨⟨by rw [h1]; exact ha, hv⟩, h2, trivial⟩, ?_⟩
  show max (zg_d u + 2) 0 ≤ D + 2
  omega
theorem zg_c_n {kd : Nat} {p v : Int32} {u : zt_T} (h : ¬ kd = 37) : zg_c (zt_n kd p v u) = zg_c u := by
  show (if kd = 37 then 1 else 0) + zg_c u + 0 = _
  rw [if_neg h]; omega
theorem zg_Tm {S S' : List Nat} {D D' : Nat} {t : zt_T} (H : zg_T S D t) (hS : ∀ c ∈ S, c ∈ S') (hD : D ≤ D') : zg_T S' D' t := by
  obtain ⟨c, p, v, l, e, t1, t2, t3⟩ := H
  exact ⟨c, p, v, l, e, hS c t1, t2, by omega⟩
end
