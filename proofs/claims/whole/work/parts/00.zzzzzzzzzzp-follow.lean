/-! watch, on both sides. -/
/-- the class, once the name is found -/
def zwt_Kc (k16 : zs_H → Int32 → Int32 → Int32 → Int32 → Int32 → (Option (Int32 × zs_H))) (h : zs_H) (x1 x3 v4 x5 v8 : Int32) : Option (Int32 × zs_H) := (if v8 = (-1) then (some ((-1), h)) else (if zd_in v8 6000 then (if (h.2.1 30 v8.toNatClampNeg) = (-1) then (if v4 = x1 then (zd_B (f_Pk_show h v8 (x3 + (h.2.1 32 v8.toNatClampNeg))) fun v24 h25 => (some (v24, h25))) else (some ((-1), h))) else (if (h.2.1 30 v8.toNatClampNeg) = (-2) then ((f_Pk_indexOnTape h v8 v4 x1).bind fun v17 => (if v17 = (-1) then (some ((-1), h)) else (zd_B (f_Pk_show h v8 ((x3 + (h.2.1 32 v8.toNatClampNeg)) + v17)) fun v20 h21 => (some (v20, h21))))) else (if x1 ≤ v4 then (some ((-1), h)) else (if zd_in v4 16384 then (if (h.2.1 1 v4.toNatClampNeg) = 46 then k16 h x1 (h.2.1 30 v8.toNatClampNeg) (x3 + (h.2.1 32 v8.toNatClampNeg)) (v4 + 1) (x5 + 1) else (some ((-1), h))) else none)))) else none))
section ZWP
variable {h g h0 g0 : zs_H} {T : Nat → Int32} {n a : Nat} {LC LM : List (List Int32)} {nb b : Nat} {F X Y : Nat → Nat}
theorem zwt_cs {N BB k : Nat} {x3 x y : Int32} (eT : (h.2.1 1) = T) (hT : ∀ i, zb_ok (T i)) (hn : n ≤ 10240) (ha : a ≤ n) (hB : BB < 629) (hk : k < 16384) (e1 : f_Nm_find_c1 h (nI a) (nI (zl_ne T n a) - nI a) = some x) (e2 : f_Pl_variableOf h (nI BB) x = some y) : f_Pk_follow_L16 (N + 1) h (nI n) (nI BB) x3 (nI a) (nI k) = zwt_Kc (f_Pk_follow_L16 N) h (nI n) x3 (nI (zl_ne T n a)) (nI k) y := by
  have e3 : f_Pk_nameEnd h (nI a) (nI n) = some (nI (zl_ne T n a)) := by
    have := zwt_ne (h := h) (n := n) (a := a) (by rw [eT]; exact hT) hn ha
    rw [eT] at this
    exact this
  show f_Pk_follow_16 (f_Pk_follow_L16 N) h (nI n) (nI BB) x3 (nI a) (nI k) = _
  unfold f_Pk_follow_16
  rw [if_neg (mt (zc_le (k := 16384) (by decide) (by omega)).mp (by omega)), if_neg (zc_m1 (by omega)), e3, Option.bind_some, e1, Option.bind_some, e2, Option.bind_some]
  rfl
/-- a variable, as watch sees it -/
theorem zwt_var {v : Nat} (C : yk_cx LC LM nb F X Y h0 g0) (E : yL_E h0 g0 h g) (hb : b < nb) (h1 : F b ≤ v) (h2 : v < F (b + 1)) : ∃ ty x s, ((h.2.1 31) (32 + v) = nI ty ∧ ((h.2.1 32) (32 + v) = nI x ∧ (g.2.1 94) v = nI x) ∧ ((h.2.1 34) (32 + v) = nI s ∧ (g.2.1 98) v = nI s) ∧ (g.2.1 97) v = (h.2.1 33) (32 + v) ∧ ((h.2.1 33) (32 + v)).toInt + s ≤ 2147483648) ∧ (x + s ≤ Y b ∧ v < 5900) ∧ (((h.2.1 30) (32 + v) = -1 ∧ (g.2.1 92) v = 0 ∧ (g.2.1 93) v = nI ty ∧ s = 1) ∨ ((h.2.1 30) (32 + v) = -2 ∧ (g.2.1 92) v = 1 ∧ (g.2.1 93) v = nI ty ∧ 1 ≤ s ∧ s ≤ 256) ∨ (∃ B, B < 9 ∧ (h.2.1 30) (32 + v) = nI B ∧ (g.2.1 92) v = 2 ∧ (g.2.1 93) v = nI (100000 + B) ∧ s = (zt_2.getD B 0).toNatClampNeg) ∨ (∃ u, u < b ∧ (h.2.1 30) (32 + v) = nI (9 + u) ∧ (g.2.1 92) v = 2 ∧ (g.2.1 93) v = nI u ∧ s = X u)) := by
  have hF := C.1.2.1.2.2.2.1 b hb
  obtain ⟨ty, x, s, q1, q2, q3, q4, _, q5, q6⟩ := yk_Q C hb h1 h2
  obtain ⟨_, x', s', _, _, _, r3, _, ⟨_, r6, _, _, r5, _⟩, _⟩ := C.1.2.2.2.1.2.1 b v hb h1 h2 (by omega)
  have kB := (C.2.2 b hb).1
  have es : s' = s := (nI_eq (by omega) (by omega)).mp (r3.1.symm.trans q3.1)
  rw [es] at r5
  rw [E.1 31 (by decide) (by decide), E.1 32 (by decide) (by decide), E.1 33 (by decide) (by decide), E.1 34 (by decide) (by decide), E.1 30 (by decide) (by decide), E.2.1 92 (by decide) (by decide), E.2.1 93 (by decide) (by decide), E.2.1 94 (by decide) (by decide), E.2.1 97 (by decide) (by decide), E.2.1 98 (by decide) (by decide)]
  refine ⟨ty, x, s, ⟨q1.2, q2, q3, q4, r5⟩, q5, ?_⟩
  rcases q6 with q | q | ⟨B, z1, z2, z3, z4, z5, z6⟩
  · exact .inl q
  · exact .inr (.inl q)
  · by_cases h9 : B < 9
    · refine .inr (.inr (.inl ⟨B, h9, z2, z3, by rw [z4, if_pos h9], ?_⟩))
      have := C.1.2.1.2.2.1.1 B h9
      rw [← this.2.2.2, z6, nI_clamp (by omega)]
    · obtain ⟨u, rfl⟩ : ∃ u, B = 9 + u := ⟨B - 9, by omega⟩
      have es2 : s = X u := (nI_eq (by have := (C.2.2 u (by omega)).1; omega) (by have := (C.2.2 u (by omega)).1; omega)).mp (z6.symm.trans (C.2.2 u (by omega)).2.1)
      exact .inr (.inr (.inr ⟨u, by omega, z2, z3, by rw [z4, if_neg h9, show 9 + u - 9 = u by omega], es2⟩))
theorem zwt_ST (C : yk_cx LC LM nb F X Y h0 g0) (E : yL_E h0 g0 h g) : zj_ST h := by
  have := C.1.2.1.2.2.1
  unfold zj_ST at this ⊢
  rw [E.1 21 (by decide) (by decide), E.1 23 (by decide) (by decide), E.1 24 (by decide) (by decide), E.1 26 (by decide) (by decide), E.1 28 (by decide) (by decide), E.1 29 (by decide) (by decide), E.1 30 (by decide) (by decide), E.1 31 (by decide) (by decide), E.1 32 (by decide) (by decide)]
  exact this
def zwt_T7 (B v : Nat) : Bool := decide (zp_tN v 4 < (zt_2.getD B 0).toNatClampNeg)
theorem zwt_T8 : ∀ B, B < 9 → ∀ v, v < 32 → zj_sv B ≤ v → v < zj_sv (B + 1) → zwt_T7 B v = true := by decide +kernel
abbrev zwt_F1 : List (Nat × Nat) := [(0, 4)]
abbrev zwt_F2 : List (Nat × Nat) := [(68, 93), (68, 95), (68, 87)]
/-- both end so -/
def zwt_Z (h g : zs_H) (rc rm : Option (Int32 × zs_H)) : Prop := ∃ v h' g', rc = some (v, h') ∧ rm = some (v, g') ∧ zfr zwt_F1 [] [] h h' ∧ zfr zwt_F2 [] [] g g' ∧ (h'.1 0 4) = (g'.1 68 87)
theorem zwt_Z1 {g' : zs_H} {rc rm : Option (Int32 × zs_H)} (w : (h.1 0 4) = (g.1 68 87)) (f : zfr [(68, 93), (68, 95)] [] [] g g') (e1 : rc = some (-1, h)) (e2 : rm = some (-1, g')) : zwt_Z h g rc rm := ⟨-1, h, g', e1, e2, zfr_rfl, zfr_w f (by decide) (by decide) (by decide), w.trans (f.1 _ _ (by decide)).symm⟩
theorem zwt_Zs {g' : zs_H} {u p : Nat} {ty : Int32} {rc rm : Option (Int32 × zs_H)} (cc : ∀ j, j < 8192 → (h.2.1 62) j = (g.2.1 114) j) (f : zfr [(68, 93), (68, 95)] [] [] g g') (hu : u < 6000) (hp : p < 8192) (et : (h.2.1 31) u = ty) (e1 : rc = (zd_B (f_Pk_show h (nI u) (nI p)) fun v24 h25 => (some (v24, h25)))) (e2 : rm = f_Mo_see g' ty (nI p)) : zwt_Z h g rc rm := by
  have ec : (h.2.1 62) p = (g'.2.1 114) p := (cc p hp).trans (by rw [f.2.1 _ List.not_mem_nil])
  obtain ⟨s1, s2⟩ := zwt_show (h := h) (g := g') hu hp ec et
  rw [s1, yL_B] at e1
  rw [s2] at e2
  exact ⟨ty, _, _, e1, e2, zfr_F (by decide) zfr_rfl, zfr_F (by decide) (zfr_w f (by decide) (by decide) (by decide)), rfl⟩
theorem zwt_lp (C : yk_cx LC LM nb F X Y h0 g0) (n16 : nb ≤ 16) (NC : zn_C h LC) (LD : zwt_ld LC) (eT : (h.2.1 1) = T) : ∀ (b base a k N N' : Nat) (g : zs_H), b < nb → base + X b ≤ 8192 → b + 1 < N → b < N' → k + b + 2 < 16384 → yL_E h0 g0 h g → (∀ j, j < 8192 → (h.2.1 62) j = (g.2.1 114) j) → zwt_P T n a g → (h.1 0 4) = (g.1 68 87) → zwt_Z h g (f_Pk_follow_L16 N h (nI n) (nI (9 + b)) (nI base) (nI a) (nI k)) (f_Mo_watch_L16 N' g (nI b) (nI base)) := by
  intro b
  induction b using Nat.strongRecOn with
  | ind b ih =>
  intro base a k N N' g hb hX hN hN' hk E cc P w
  obtain ⟨N, rfl⟩ : ∃ z, N = z + 1 := ⟨N - 1, by omega⟩
  obtain ⟨N', rfl⟩ : ∃ z, N' = z + 1 := ⟨N' - 1, by omega⟩
  have hn := P.1
  have hT := P.2.1
  have Q := zwt_mkQ C E NC LD
  have hl := zl_ne_le (T := T) (n := n) (a := a) hn.2
  obtain ⟨g1, x8, y8, x, o1, o2, o3, o4, o5, o6⟩ := zwt_own Q hb eT P
  have eC := zwt_cs (N := N) (BB := 9 + b) (k := k) (x3 := nI base) eT hT hn.1 hn.2 (by omega) (by omega) o2 o3
  have G1 : ∀ z, g1.2.1 z = g.2.1 z := fun z => o4.2.1 z List.not_mem_nil
  have eM : f_Mo_watch_L16 (N' + 1) g (nI b) (nI base) = (if x8 < 0 then f_Mo_watch_E g1 x8 (nI base) else (if zd_in x8 8400 then (if (g.2.1 92 x8.toNatClampNeg) = 2 then (if (g.2.1 93 x8.toNatClampNeg) < 100000 then (zd_B (f_Mo_passes g1 46) fun p h2 => (if p = 0 then f_Mo_watch_E h2 x8 (nI base) else f_Mo_watch_L16 N' h2 (h2.2.1 93 x8.toNatClampNeg) (nI base + (h2.2.1 94 x8.toNatClampNeg)))) else f_Mo_watch_E g1 x8 (nI base)) else f_Mo_watch_E g1 x8 (nI base)) else none)) := by
    show f_Mo_watch_16 (f_Mo_watch_L16 N') g (nI b) (nI base) = _
    unfold f_Mo_watch_16
    rw [o1, yL_B, G1, G1]
  rw [eC, eM]
  rcases o6 with ⟨z1, z2⟩ | ⟨v, v1, v2, z1, z2⟩
  · subst z1
    subst z2
    refine zwt_Z1 w o4 ?_ ?_
    · unfold zwt_Kc
      rw [if_pos rfl]
    · unfold f_Mo_watch_E
      rw [if_pos (show (-1 : Int32) < 0 by decide), if_pos (show (-1 : Int32) < 0 by decide)]
  subst z1
  subst z2
  obtain ⟨ty, xx, s, ⟨t1, ⟨t2, t3⟩, ⟨t4, t5⟩, t6, t7⟩, ⟨t8, t9⟩, alt⟩ := zwt_var C E hb v1 v2
  have kB := (C.2.2 b hb).1
  have hxy : xx + s ≤ X b := by omega
  have i1 : ¬ nI v < 0 := mt (zc_tl (k := 0) (by decide) (by omega)).mp (by omega)
  have i2 : zd_in (nI v) 8400 := zi_in (by omega) (by omega)
  have i3 : (nI v).toNatClampNeg = v := nI_clamp (by omega)
  have i4 : zd_in (nI (32 + v)) 6000 := zi_in (by omega) (by omega)
  have i5 : (nI (32 + v)).toNatClampNeg = 32 + v := nI_clamp (by omega)
  have i6 : ¬ nI (32 + v) = -1 := zc_m1 (by omega)
  have ep : nI base + nI xx = nI (base + xx) := nI_add base xx
  have E_ : ∀ g2 : zs_H, f_Mo_watch_E g2 (nI v) (nI base) = (if (g2.2.1 92 v) = 2 then (if (g2.2.1 93 v) < 100000 then (some ((-1), g2)) else f_Mo_watchPin g2 (g2.2.1 93 v) (nI base + (g2.2.1 94 v))) else (if (g2.2.1 92 v) = 1 then zwt_I g2 (nI v) (nI base) else (if (g2.1 68 93) < (g2.1 68 94) then (some ((-1), g2)) else f_Mo_see g2 (g2.2.1 93 v) (nI base + (g2.2.1 94 v))))) := fun g2 => by
    unfold f_Mo_watch_E zwt_I
    rw [if_neg i1, if_pos i2, i3]
  unfold zwt_Kc
  rw [if_neg i6, if_pos i4, i5, if_neg i1, if_pos i2, i3, t2, ep]
  rcases alt with ⟨a1, a2, a3, a4⟩ | ⟨a1, a2, a3, a4, a5⟩ | ⟨B, a1, a2, a3, a4, a5⟩ | ⟨u, a1, a2, a3, a4, a5⟩
  · -- one cell
    rw [a1, if_pos (show (-1 : Int32) = -1 from rfl), a2, if_neg (show ¬ (0 : Int32) = 2 by decide), E_ g1, G1, G1, G1, a2, if_neg (show ¬ (0 : Int32) = 2 by decide), if_neg (show ¬ (0 : Int32) = 1 by decide), o5.2.2.2.2, o5.2.2.2.1, a3, t3, ep]
    by_cases q : zl_ne T n a < n
    · refine zwt_Z1 w o4 ?_ ?_
      · rw [if_neg (fun z => by have := (nI_eq (by omega) (by omega)).mp z; omega)]
      · rw [if_pos ((nI_ltI (by omega) (by omega)).mpr q)]
    · rw [if_neg (mt (nI_ltI (by omega) (by omega)).mp q), if_pos (congrArg nI (show zl_ne T n a = n by omega))]
      exact zwt_Zs cc o4 (by omega) (by omega) t1 rfl rfl
  · -- an ARRAY
    have t6' : (g1.2.1 97) v = (h.2.1 33) (32 + v) := by rw [G1]; exact t6
    have t5' : (g1.2.1 98) v = nI s := by rw [G1]; exact t5
    obtain ⟨r, g2, r1, r2, r3⟩ := zwt_idx (u := 32 + v) (v := v) (s := s) (base := nI base) eT o5 (by omega) (by omega) rfl t6' t4 t5' (by omega) t7
    have o42 : zfr [(68, 93), (68, 95)] [] [] g g2 := zfr_trans o4 (zfr_w r2 (by decide) (by decide) (by decide))
    rw [a1, if_neg (show ¬ (-2 : Int32) = -1 by decide), if_pos (show (-2 : Int32) = -2 from rfl), a2, if_neg (show ¬ (1 : Int32) = 2 by decide), E_ g1, G1, a2, if_neg (show ¬ (1 : Int32) = 2 by decide), if_pos (show (1 : Int32) = 1 from rfl), r1, Option.bind_some]
    rcases r3 with ⟨r4, r5⟩ | ⟨j, r4, r5, r6⟩
    · refine zwt_Z1 w o42 ?_ r5
      rw [if_pos r4]
    · rw [r5, if_neg (zc_m1 (by omega)), r6, G1, G1, a3, t3, ep, nI_add]
      exact zwt_Zs cc o42 (by omega) (by omega) t1 rfl rfl
  · -- a standard block
    have ST := zwt_ST C E
    have HS := C.1.1
    have c1 : ¬ nI B = -1 := zc_m1 (by omega)
    have c2 : ¬ nI B = -2 := yq_m2 (by omega)
    have c3 : ¬ nI (100000 + B) < 100000 := mt (zc_tl (k := 100000) (by decide) (by omega)).mp (by omega)
    rw [a2, if_neg c1, if_neg c2, a3, if_pos (show (2 : Int32) = 2 from rfl), a4, if_neg c3, E_ g1, G1, G1, G1, a3, if_pos (show (2 : Int32) = 2 from rfl), a4, if_neg c3, t3, ep]
    have eP : f_Mo_watchPin g1 (nI (100000 + B)) (nI (base + xx)) = (zd_B (f_Mo_passes g1 46) fun v2 h3 => (if v2 = 0 then (some ((-1), h3)) else zwt_R h3 (nI (100000 + B)) (nI (base + xx)))) := rfl
    rw [eP]
    rcases zwt_pas o5 46 with ⟨p1, p2, p3, p4⟩ | ⟨p1, p3, p4⟩
    · rw [p3, yL_B, if_neg (show ¬ (1 : Int32) = 0 by decide), if_neg (mt (nI_leI (by omega) (by omega)).mp (by omega)), if_pos (zi_in (by omega) (show zl_ne T n a < 16384 by omega)), nI_clamp (by omega), eT, if_pos p2, nI_1, nI_1]
      have hl2 := zl_ne_le (T := T) (n := n) (a := zl_ne T n a + 1) (by omega)
      obtain ⟨x', y', g3, s1, s2, s3, s4, s5⟩ := zwt_std (x2 := nI (base + xx)) HS.1 HS.2.2.1 LD NC HS.2.2.2.2.1 ST eT p4 a1
      obtain ⟨N, rfl⟩ : ∃ z, N = z + 1 := ⟨N - 1, by omega⟩
      have o43 : zfr [(68, 93), (68, 95)] [] [] g g3 := zfr_trans o4 (zfr_trans (zfr_F (by decide) zfr_rfl) s3)
      rw [zwt_cs (N := N) (BB := B) (k := k + 1) (x3 := nI (base + xx)) eT hT hn.1 (by omega) (by omega) (by omega) s1 s2]
      unfold zwt_Kc
      rcases s5 with ⟨s6, s7⟩ | ⟨v', w1, w2, w3, w4, w5⟩
      · refine zwt_Z1 w o43 ?_ s7
        rw [if_pos s6]
      · obtain ⟨m1, m2, m3, m4, m5⟩ := ST.2 v' w1
        obtain ⟨_, _, _, m6, m7, _⟩ := zp_T3 v' w1
        have m8 : zp_tN v' 4 < (zt_2.getD B 0).toNatClampNeg := of_decide_eq_true (zwt_T8 B a1 v' w1 w2 w3)
        rw [w4, if_neg (zc_m1 (by omega)), if_pos (zi_in (by omega) (show v' < 6000 by omega)), nI_clamp (n := v') (by omega), m3, if_pos (show (-1 : Int32) = -1 from rfl), m5, w5, m7, nI_add]
        by_cases q : zl_ne T n (zl_ne T n a + 1) < n
        · refine zwt_Z1 w o43 ?_ ?_
          · rw [if_neg (fun z => by have := (nI_eq (by omega) (by omega)).mp z; omega)]
          · rw [if_pos q]
        · rw [if_neg q, if_pos (congrArg nI (show zl_ne T n (zl_ne T n a + 1) = n by omega))]
          exact zwt_Zs cc o43 (by omega) (by omega) m4 rfl rfl
    · rw [p3, yL_B, if_pos (show (0 : Int32) = 0 from rfl)]
      refine zwt_Z1 w (zfr_F (by decide) o4) ?_ rfl
      by_cases q : n ≤ zl_ne T n a
      · rw [if_pos ((nI_leI (by omega) (by omega)).mpr q)]
      · rw [if_neg (mt (nI_leI (by omega) (by omega)).mp q), if_pos (zi_in (by omega) (show zl_ne T n a < 16384 by omega)), nI_clamp (by omega), eT, if_neg (fun z => p1 ⟨by omega, z⟩)]
  · -- a part
    have c1 : ¬ nI (9 + u) = -1 := zc_m1 (by omega)
    have c2 : ¬ nI (9 + u) = -2 := yq_m2 (by omega)
    have c3 : nI u < 100000 := (zc_tl (k := 100000) (by decide) (by omega)).mpr (by omega)
    rw [a2, if_neg c1, if_neg c2, a3, if_pos (show (2 : Int32) = 2 from rfl), a4, if_pos c3]
    rcases zwt_pas o5 46 with ⟨p1, p2, p3, p4⟩ | ⟨p1, p3, p4⟩
    · rw [p3, yL_B, if_neg (show ¬ (1 : Int32) = 0 by decide), if_neg (mt (nI_leI (by omega) (by omega)).mp (by omega)), if_pos (zi_in (by omega) (show zl_ne T n a < 16384 by omega)), nI_clamp (by omega), eT, if_pos p2, nI_1, nI_1]
      obtain ⟨g3, hg3⟩ : ∃ g3, g3 = zs_uF g1 68 93 (nI (zl_ne T n a + 1)) := ⟨_, rfl⟩
      have o43 : zfr [(68, 93), (68, 95)] [] [] g g3 := by rw [hg3]; exact zfr_F (by decide) o4
      rw [← hg3] at p4 ⊢
      have q3 : g3.2.1 93 v = nI u := by rw [o43.2.1 _ List.not_mem_nil]; exact a4
      have q4 : g3.2.1 94 v = nI xx := by rw [o43.2.1 _ List.not_mem_nil]; exact t3
      rw [q3, q4, ep]
      have E3 : yL_E h0 g0 h g3 := yL_Ef E zfr_rfl (zfr_w o43 (by decide) (by decide) (by decide))
      obtain ⟨r, h', g', y1, y2, y3, y4, y5⟩ := ih u a1 (base + xx) (zl_ne T n a + 1) (k + 1) N N' g3 (by omega) (by omega) (by omega) (by omega) (by omega) E3 (fun j hj => (cc j hj).trans (by rw [o43.2.1 _ List.not_mem_nil])) p4 (w.trans (o43.1 _ _ (by decide)).symm)
      exact ⟨r, h', g', y1, y2, y3, zfr_trans (zfr_w o43 (by decide) (by decide) (by decide)) y4, y5⟩
    · rw [p3, yL_B, if_pos (show (0 : Int32) = 0 from rfl), E_]
      refine zwt_Z1 w (zfr_F (by decide) o4) (g' := zs_uF g1 68 93 (nI (zl_ne T n a))) ?_ ?_
      · by_cases q : n ≤ zl_ne T n a
        · rw [if_pos ((nI_leI (by omega) (by omega)).mpr q)]
        · rw [if_neg (mt (nI_leI (by omega) (by omega)).mp q), if_pos (zi_in (by omega) (show zl_ne T n a < 16384 by omega)), nI_clamp (by omega), eT, if_neg (fun z => p1 ⟨by omega, z⟩)]
      · show (if (g1.2.1 92 v) = 2 then (if (g1.2.1 93 v) < 100000 then _ else _) else _) = _
        rw [G1, G1, a3, if_pos (show (2 : Int32) = 2 from rfl), a4, if_pos c3]
theorem yO_watch {t : Nat} (R : yO t h g) : ∃ v h' g', f_Pk_watch h = some (v, h') ∧ f_Mo_watch g = some (v, g') ∧ yO 0 h' g' ∧ zO_r h g h' g' := by
  have hz := zF_big
  obtain ⟨⟨⟨t1, t2, t3⟩, t4, t5⟩, NN, io, c, ⟨s1, s2⟩, o, D⟩ := id R
  unfold f_Pk_watch f_Mo_watch f_Mo_useTape
  rw [yL_B, t1, t2]
  obtain ⟨h1, hh1⟩ : ∃ h1, h1 = zs_uF h 0 1 0 := ⟨_, rfl⟩
  obtain ⟨g1, hg1⟩ : ∃ g1, g1 = zs_uF (zs_uF g 68 78 0) 68 94 (nI t) := ⟨_, rfl⟩
  have fin : ∀ h' g', zfr zwt_F1 [] [] h1 h' → zfr ((68, 93) :: zwt_F2) [] [] g1 g' → (h'.1 0 4) = (g'.1 68 87) → yO 0 h' g' ∧ zO_r h g h' g' := fun h' g' f1 f2 w => by
    have F1 : zfr [(0, 1), (0, 4)] [] [] h h' := zfr_trans (by rw [hh1]; exact zfr_F (by decide) zfr_rfl) (zfr_w f1 (by decide) (by decide) (by decide))
    have F2 : zfr [(68, 78), (68, 94), (68, 93), (68, 93), (68, 95), (68, 87)] [] [] g g' := zfr_trans (by rw [hg1]; exact zfr_F (by decide) (zfr_F (by decide) zfr_rfl)) (zfr_w f2 (by decide) (by decide) (by decide))
    have A1 : zfr yO_F1 yO_M1 [] h h' := zfr_w F1 (by decide) (by decide) (by decide)
    have A2 : zfr yO_F2 yO_M2 [] g g' := zfr_w F2 (by decide) (by decide) (by decide)
    refine ⟨⟨⟨⟨(f1.1 _ _ (by decide)).trans (by rw [hh1]; rfl), (f2.1 _ _ (by decide)).trans (by rw [hg1]; rfl), by decide⟩, fun i => by rw [F1.2.1 _ (by decide)]; exact t4 i, fun i hi => absurd hi (Nat.not_lt_zero i)⟩, yO_Nf NN A1 A2, fun i hi => ?_, yO_cf c A1 A2, ⟨w, ?_⟩, ?_, yO_Df D (zfr_w F1 (by decide) (by decide) (by decide)) (zfr_w F2 (by decide) (by decide) (by decide))⟩, zO_Cz F1, zO_Mz F2⟩
    · rw [F1.2.1 _ (by decide), F1.2.1 _ (by decide), F1.2.1 _ (by decide), F2.2.1 _ (by decide), F2.2.1 _ (by decide), F2.2.1 _ (by decide)]
      exact io i hi
    · exact (F1.1 _ _ (by decide)).trans (s2.trans (F2.1 _ _ (by decide)).symm)
    · obtain ⟨n, n1, n2, n3, n4⟩ := o
      exact ⟨n, n1, (F1.1 _ _ (by decide)).trans n2, (F2.1 _ _ (by decide)).trans n3, fun i hi => by rw [F1.2.1 _ (by decide), F2.2.1 _ (by decide)]; exact n4 i hi⟩
  have e82 : (zs_uF (zs_uF g 68 78 0) 68 94 (nI t)).1 68 82 = (g.1 68 82) := rfl
  rw [e82, ← hh1, ← hg1]
  have w1 : (h1.1 0 4) = (g1.1 68 87) := by rw [hh1, hg1]; exact s1
  rcases D with ⟨d1, u⟩ | ⟨d1, d2, d3, Z⟩
  · rw [u.1, d1, if_pos (show (0 : Int32) = 0 from rfl), if_pos (show (0 : Int32) = 0 from rfl)]
    exact ⟨-5, h1, g1, rfl, rfl, fin h1 g1 zfr_rfl zfr_rfl w1⟩
  · rw [d1, d2, if_neg (show ¬ (1 : Int32) = 0 by decide), if_neg (show ¬ (1 : Int32) = 0 by decide)]
    obtain ⟨LC, LM, nb, F, X, Y, K, T, w, h0, g0, S, M⟩ := yO_ZS Z
    obtain ⟨⟨⟨n0, n16⟩, C, p8, _⟩, E, L, _, NC, LD⟩ := S
    have px := yJ_px L.1
    have ePr : (h1.1 20 19) = nI (9 + (nb - 1)) := by
      rw [hh1, show 9 + (nb - 1) = 8 + nb by omega]
      exact L.2.2.1.2.2.2.1
    have eBl : (zs_uF g 68 78 0).1 68 33 - 1 = nI (nb - 1) := by
      show (g.1 68 33) - 1 = _
      rw [L.2.2.2.2.2.2.1]
      exact zi_sub (b := 1) n0
    obtain ⟨g2, hg2⟩ : ∃ g2, g2 = zs_uF g1 68 93 0 := ⟨_, rfl⟩
    have E2 : yL_E h0 g0 h1 g2 := yL_Ef E (by rw [hh1]; exact zfr_F (by decide) zfr_rfl) (by rw [hg2, hg1]; exact zfr_F (by decide) (zfr_F (by decide) (zfr_F (by decide) zfr_rfl)))
    have NC1 : zn_C h1 LC := by rw [hh1]; exact NC
    have P : zwt_P ((h.2.1 1)) t 0 g2 := by
      rw [hg2, hg1]
      exact ⟨⟨t3, Nat.zero_le _⟩, t4, t5, rfl, rfl⟩
    obtain ⟨v, h', g', y1, y2, y3, y4, y5⟩ := zwt_lp (T := (h.2.1 1)) (n := t) C n16 NC1 LD (by rw [hh1]; rfl) (nb - 1) 0 0 0 zF zF g2 (by omega) (by omega) (by omega) (by omega) (by omega) E2 (by rw [hh1, hg2, hg1]; exact M.1) P (by rw [hg2]; exact w1)
    rw [eBl, ← hg2]
    refine ⟨v, h', g', ?_, y2, fin h' g' y3 (zfr_trans (by rw [hg2]; exact zfr_F (by decide) zfr_rfl) (zfr_w y4 (by decide) (by decide) (by decide))) y5⟩
    unfold f_Pk_follow
    rw [ePr]
    have y1' : f_Pk_follow_L16 zF h1 (nI t) (nI (9 + (nb - 1))) 0 0 0 = some (v, h') := y1
    rw [y1', yL_B]
end ZWP
