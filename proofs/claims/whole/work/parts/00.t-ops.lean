/-! The class's reader: single steps. -/
theorem zt_Cup {h : zs_H} {A B : Nat → Int32} : ∀ (t : zt_T) (P : Nat → Prop) (up up' x y : Int32), zt_G (zt_NC h) A B t P up x y → zt_G (zt_NC h) A B t P up' x y := by
  intro t
  induction t with
  | leaf => intro P up up' x y q; exact q
  | inner kd k v l r ihl ihr =>
    intro P up up' x y q
    obtain ⟨i, P1, P2, z1, z2, q1, q2, q3, q4, q5, q6, q7, q8, q9⟩ := q
    exact ⟨i, P1, P2, z1, z2, q1, q2, q3, q4, q5, q6, q7, ihr P2 up up' _ _ q8, q9⟩
/-- what the reader of the class may change -/
abbrev zq_fs : List (Nat × Nat) := [(19, 0), (19, 3), (19, 4), (19, 5), (19, 6), (19, 7), (12, 6)]
abbrev zq_ms : List Nat := [13, 14, 15, 16, 17, 18]
abbrev zq_f (h h' : zs_H) : Prop := zfr zq_fs zq_ms [] h h'
def zq_fin (T : Nat → Int32) (n j : Nat) : Prop := (zl_at T n j).1 = 0 ∨ (zl_at T n j).1 = 9
/-- the tokens of a text, as the class has them -/
def zq_S (h : zs_H) (T : Nat → Int32) (n K : Nat) (LC : List (List Int32)) : Prop := zl_CT h T n (K + 1) LC ∧ K ≤ n ∧ n ≤ 10240 ∧ (∀ i, i < K → ¬ zq_fin T n i) ∧ zq_fin T n K ∧ LC.Nodup ∧ LC.take 75 = zk_K ∧ LC.length < 6000 ∧ (∀ i, zb_ok (T i)) ∧ 75 ≤ LC.length
theorem zq_S_f {h h' : zs_H} {T : Nat → Int32} {n K : Nat} {LC : List (List Int32)} (f : zq_f h h') (H : zq_S h T n K LC) : zq_S h' T n K LC := by
  unfold zq_S zl_CT at H ⊢
  rw [f.2.1 _ (by decide), f.2.1 _ (by decide), f.2.1 _ (by decide), f.1 _ _ (by decide)]
  exact H
/-- the class's reader at token j, without a fault -/
def zq_C (h : zs_H) (T : Nat → Int32) (n j d s : Nat) : Prop := (h.1 19 3) = 0 ∧ (h.1 19 4) = nI j ∧ (h.1 19 5) = nI (zl_ck (zl_at T n j)) ∧ (h.1 19 6) = nI (zl_at T n j).2.1 ∧ (h.1 19 7) = nI d ∧ (h.1 12 6) = nI s ∧ s ≤ 32784
/-- the class's reader behind a fault, or at a token that is badly written -/
def zq_B (h : zs_H) (T : Nat → Int32) (n K φ w : Nat) : Prop := (((h.1 19 3) = nI φ ∧ (h.1 19 0) = nI w ∧ (h.1 19 5) = 0 ∧ ∃ j, j ≤ K ∧ (h.1 19 4) = nI j) ∨ ((h.1 19 3) = 0 ∧ (h.1 19 5) = 7 ∧ (h.1 19 4) = nI K ∧ (h.1 19 6) = nI w ∧ (zl_at T n K).1 = 9 ∧ (zl_at T n K).2.2.2 = φ)) ∧ 1 ≤ φ ∧ φ < 1000 ∧ ∃ s, (h.1 12 6) = nI s ∧ s ≤ 32784
/-- take: the token that is due -/
theorem zq_take1 {h : zs_H} {T : Nat → Int32} {n K j d s : Nat} {LC : List (List Int32)} (HS : zq_S h T n K LC) (HC : zq_C h T n j d s) (hj : j < K) : ∃ h', f_Ps_take h (nI (zl_ck (zl_at T n j))) = some h' ∧ zq_C h' T n (j + 1) d s ∧ zfr [(19, 4), (19, 5), (19, 6)] [] [] h h' := by
  obtain ⟨s1, s2, s3, s4, s5, s6, s7, s8, s9, s10⟩ := HS
  obtain ⟨c1, c2, c3, c4, c5, c6, c7⟩ := HC
  obtain ⟨t1, t2, t3, t4⟩ := s1.1 (j + 1) (by omega)
  unfold f_Ps_take
  rw [if_pos c1, if_pos c3, c2, nI_1, s1.2, if_neg (mt (nI_leI (by omega) (by omega)).mp (by omega)), if_pos (zi_in (by omega) (by omega)), nI_clamp (by omega), t1, t2]
  exact ⟨_, rfl, ⟨c1, rfl, rfl, rfl, c5, c6, c7⟩, zfr_F (by decide) (zfr_F (by decide) (zfr_F (by decide) zfr_rfl))⟩
/-- take: another one -/
theorem zq_take2 {h : zs_H} {T : Nat → Int32} {n K j d s : Nat} {LC : List (List Int32)} {x : Int32} (HS : zq_S h T n K LC) (HC : zq_C h T n j d s) (hj : j ≤ K) (hx : ¬ nI (zl_ck (zl_at T n j)) = x) (h7 : ¬ nI (zl_ck (zl_at T n j)) = 7) : ∃ h', f_Ps_take h x = some h' ∧ zq_B h' T n K 6 (zl_at T n j).2.1 ∧ zq_f h h' := by
  obtain ⟨c1, c2, c3, c4, c5, c6, c7⟩ := HC
  unfold f_Ps_take f_Ps_take_74 f_Ps_take_108 f_Ps_take_119
  rw [if_pos c1, c3, if_neg hx, if_pos c1, if_neg h7]
  exact ⟨_, rfl, ⟨Or.inl ⟨rfl, c4, rfl, j, hj, c2⟩, by decide, by decide, s, c6, c7⟩, zfr_F (by decide) (zfr_F (by decide) (zfr_F (by decide) zfr_rfl))⟩
/-- behind a fault: take -/
theorem bkc_take {h : zs_H} {T : Nat → Int32} {n K φ w : Nat} {LC : List (List Int32)} {x : Int32} (HS : zq_S h T n K LC) (HB : zq_B h T n K φ w) : zw (f_Ps_take h x) (fun h' => zq_B h' T n K φ w ∧ zq_f h h') := by
  obtain ⟨s1, s2, s3, s4, s5, s6, s7, s8, s9, s10⟩ := HS
  obtain ⟨b1, b2, b3, s, b4, b5⟩ := HB
  have hφ : ¬ nI φ = 0 := fun q => by have := (zc_eq (k := 0) (by decide) (by omega)).mp q; omega
  unfold f_Ps_take f_Ps_take_74 f_Ps_take_108 f_Ps_take_119
  rcases b1 with ⟨a1, a2, a3, j, a4, a5⟩ | ⟨a1, a2, a3, a4, a5, a6⟩
  · rw [a1, if_neg hφ, if_neg hφ, zw_some]
    exact ⟨⟨Or.inl ⟨a1, a2, rfl, j, a4, a5⟩, b2, b3, s, b4, b5⟩, zfr_F (by decide) zfr_rfl⟩
  · obtain ⟨t1, t2, t3, t4⟩ := s1.1 K (by omega)
    have hv : (h.2.1 11) K = nI φ := by
      rw [t3]
      unfold zl_cv
      rw [if_neg (by omega), if_neg (by omega), a6]
    have key : zw (if zd_in (h.1 19 4) 16385 then some (zs_uF (zs_uF (zs_uF h 19 3 (h.2.1 11 ((h.1 19 4)).toNatClampNeg)) 19 0 (h.1 19 6)) 19 5 0) else none) (fun h' => zq_B h' T n K φ w ∧ zq_f h h') := by
      rw [a3, if_pos (zi_in (by omega) (by omega)), nI_clamp (by omega), hv, zw_some]
      exact ⟨⟨Or.inl ⟨rfl, a4, rfl, K, Nat.le_refl K, a3⟩, b2, b3, s, b4, b5⟩, zfr_F (by decide) (zfr_F (by decide) (zfr_F (by decide) zfr_rfl))⟩
    rw [if_pos a1, if_pos a1, a2, if_pos rfl]
    by_cases e : (7 : Int32) = x
    · rw [if_pos e, s1.2, a3, nI_1, if_pos (Int32.le_refl _), ← a3]; exact key
    · rw [if_neg e]; exact key
/-- a node of the class -/
def zq_A (s kd : Nat) (p v : Int32) (h h' : zs_H) : Prop := (h'.1 12 6) = nI (s + 1) ∧ (∀ j, (h'.2.1 13) j = if j = s then nI kd else (h.2.1 13) j) ∧ (∀ j, (h'.2.1 15) j = if j = s then p else (h.2.1 15) j) ∧ (∀ j, (h'.2.1 16) j = if j = s then v else (h.2.1 16) j) ∧ (∀ j, (h'.2.1 17) j = if j = s then -1 else (h.2.1 17) j) ∧ (∀ j, (h'.2.1 18) j = if j = s then -1 else (h.2.1 18) j) ∧ zfr [(12, 6)] zq_ms [] h h'
theorem zq_min {s : Nat} (hs : s ≤ 32784) : zd_min (nI s) 32783 = nI (min s 32783) := by
  unfold zd_min
  by_cases c : 32783 < s
  · rw [if_pos ((zc_lt (k := 32783) (t := s) (by decide) (by omega)).mpr c), Nat.min_eq_right (by omega)]; rfl
  · rw [if_neg (mt (zc_lt (k := 32783) (t := s) (by decide) (by omega)).mp c), Nat.min_eq_left (by omega)]
theorem zq_nar : ∀ k, k < 128 → vp_nar .byte ((nI k).toInt8.toInt32) = nI k := zl_nar7
theorem zq_add {h : zs_H} {s kd p : Nat} {v : Int32} (Hs : (h.1 12 6) = nI s) (hs : s < 32784) (hk : kd < 128) (hp : p < 65536) : ∃ h', f_Tr_add h (nI kd) (nI p) v = some (nI s, h') ∧ zq_A s kd (nI p) v h h' := by
  unfold f_Tr_add
  rw [Hs, zq_min (by omega), Nat.min_eq_left (by omega), if_pos (zi_in (by omega) hs), nI_clamp (by omega), zq_nar kd hk, zm_char hp, nI_1]
  refine ⟨_, rfl, rfl, fun j => ?_, fun j => ?_, fun j => ?_, fun j => ?_, fun j => ?_, zfr_F (by decide) (zfr_M (by decide) (zfr_M (by decide) (zfr_M (by decide) (zfr_M (by decide) (zfr_M (by decide) (zfr_M (by decide) zfr_rfl))))))⟩
  all_goals simp [zu_FM, zu_MM]
/-- behind a fault: a node -/
theorem bkc_add {h : zs_H} {T : Nat → Int32} {n K φ w : Nat} {x1 x2 x3 : Int32} (HB : zq_B h T n K φ w) : zw (f_Tr_add h x1 x2 x3) (fun p => (∃ i, i < 32784 ∧ p.1 = nI i) ∧ zq_B p.2 T n K φ w ∧ zq_f h p.2) := by
  obtain ⟨b1, b2, b3, s, b4, b5⟩ := HB
  unfold f_Tr_add
  have h1 := Nat.min_le_right s 32783
  rw [b4, zq_min b5, if_pos (zi_in (a := min s 32783) (by omega) (by omega)), nI_1, zw_some]
  exact ⟨⟨min s 32783, by omega, rfl⟩, ⟨b1, b2, b3, min s 32783 + 1, rfl, by omega⟩, zfr_F (by decide) (zfr_M (by decide) (zfr_M (by decide) (zfr_M (by decide) (zfr_M (by decide) (zfr_M (by decide) (zfr_M (by decide) zfr_rfl))))))⟩
theorem bkc_hang {h : zs_H} {T : Nat → Int32} {n K φ w a : Nat} {x2 x3 : Int32} (HB : zq_B h T n K φ w) (ha : a < 32784) (h2 : x2 = -1 ∨ ∃ i, i < 32784 ∧ x2 = nI i) : zw (f_Tr_hang h (nI a) x2 x3) (fun p => p.1 = x3 ∧ zq_B p.2 T n K φ w ∧ zq_f h p.2) := by
  unfold f_Tr_hang
  rcases h2 with e | ⟨i, hi, e⟩
  · rw [if_pos e, if_pos (zi_in (by omega) ha), zw_some]
    exact ⟨rfl, HB, zfr_M (by decide) zfr_rfl⟩
  · rw [e, if_neg (zc_m1 (by omega)), if_pos (zi_in (by omega) hi), zw_some]
    exact ⟨rfl, HB, zfr_M (by decide) zfr_rfl⟩
theorem bkc_deepen {h : zs_H} {T : Nat → Int32} {n K φ w : Nat} (HB : zq_B h T n K φ w) : zw (f_Ps_deepen h) (fun h' => zq_f h h' ∧ (((h.1 19 7) < 60) → zq_B h' T n K φ w) ∧ (¬ (h.1 19 3) = 0 → zq_B h' T n K φ w)) := by
  obtain ⟨b1, b2, b3, s, b4, b5⟩ := HB
  unfold f_Ps_deepen f_Ps_deepen_35
  by_cases c : (h.1 19 7) < 60
  · rw [if_pos c, zw_some]
    exact ⟨zfr_F (by decide) zfr_rfl, fun _ => ⟨b1, b2, b3, s, b4, b5⟩, fun _ => ⟨b1, b2, b3, s, b4, b5⟩⟩
  · rw [if_neg c]
    by_cases c2 : (h.1 19 3) = 0
    · rw [if_pos c2, zw_some]
      exact ⟨zfr_F (by decide) (zfr_F (by decide) (zfr_F (by decide) (zfr_F (by decide) zfr_rfl))), fun q => absurd q c, fun q => absurd c2 q⟩
    · rw [if_neg c2, zw_some]
      exact ⟨zfr_F (by decide) zfr_rfl, fun _ => ⟨b1, b2, b3, s, b4, b5⟩, fun _ => ⟨b1, b2, b3, s, b4, b5⟩⟩
