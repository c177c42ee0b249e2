/-! watch: a name on a path, looked up in a standard block, on both sides. -/
/-- watchPin behind its point -/
def zwt_R (h3 : zs_H) (x1 x2 : Int32) : Option (Int32 × zs_H) := (zd_B (f_Mo_readPathName h3) fun v5 h6 => (if v5 = 0 then (some ((-1), h6)) else (if (h6.1 68 93) < (h6.1 68 94) then (some ((-1), h6)) else ((zwt_f h6 (zp_row x1 1) 0).bind fun k => (if 0 ≤ k then f_Mo_watchPin_2 h6 x1 x2 1 k else ((zwt_f h6 (zp_row x1 0) 0).bind fun k2 => (if 0 ≤ k2 then f_Mo_watchPin_2 h6 x1 x2 0 k2 else (some ((-1), h6)))))))))
section ZWN
variable {h g : zs_H} {T : Nat → Int32} {n a e : Nat} {LC LM : List (List Int32)}
theorem zwt_nmc (h : a < e) : zl_nm T n a e = zl_g T n a :: zl_nm T n (a + 1) e := by
  unfold zl_nm
  rw [show e - a = (e - (a + 1)) + 1 by omega, List.range_succ_eq_map, List.map_cons, List.map_map, Nat.add_zero]
  congr 1
  apply List.map_congr_left
  intro i _
  show zl_g T n (a + (i + 1)) = zl_g T n (a + 1 + i)
  rw [show a + (i + 1) = a + 1 + i by omega]
theorem zwt_wN (P : zwt_P T n e g) (hF : (g.1 68 95) = nI a) : ∀ (s : List Int32) (k : Nat), a + k + s.length = e → zwt_w g s k = some (if s = zl_nm T n (a + k) e then 1 else 0) := by
  have hn := P.1
  intro s
  induction s with
  | nil =>
    intro k hk
    have ek : a + k = e := hk
    rw [ek]
    have : zl_nm T n e e = [] := by unfold zl_nm; rw [Nat.sub_self]; rfl
    rw [this, if_pos rfl]; rfl
  | cons c s ih =>
    intro k hk
    have hl : (c :: s).length = s.length + 1 := rfl
    have e1 : f_Mo_tapeGreat g (nI a + nI k) = some (zl_g T n (a + k)) := by
      rw [nI_add, zwt_g P (by omega), if_pos (by omega)]
      unfold zl_g
      rw [zl_bT (by omega)]
    show ((f_Mo_tapeGreat g ((g.1 68 95) + nI k)).bind fun v => if c = v then zwt_w g s (k + 1) else some 0) = _
    rw [hF, e1, Option.bind_some, zwt_nmc (show a + k < e by omega)]
    by_cases z : c = zl_g T n (a + k)
    · rw [if_pos z, ih (k + 1) (by omega), show a + (k + 1) = a + k + 1 by omega]
      by_cases y : s = zl_nm T n (a + k + 1) e
      · rw [if_pos y, if_pos (by rw [z, y])]
      · rw [if_neg y, if_neg (fun q => y (List.cons.inj q).2)]
    · rw [if_neg z, if_neg (fun q => z (List.cons.inj q).1)]
theorem zwt_isW (P : zwt_P T n e g) (hF : (g.1 68 95) = nI a) (ha : a ≤ e) {s : List Int32} (hs : s.length ≤ 32) : f_Mo_isPathWord g s = some (if s = zl_nm T n a e then 1 else 0) := by
  have hn := P.1
  unfold f_Mo_isPathWord
  rw [P.2.2.2.2, hF, zi_sub ha]
  by_cases c : s.length = e - a
  · rw [if_pos (congrArg nI c)]
    exact zwt_wN P hF s 0 (by omega)
  · rw [if_neg (mt (nI_eq (by omega) (by omega)).mp c), if_neg (fun q => c (by rw [q, zl_nm_len]))]
theorem zwt_fN {c : Nat} (P : zwt_P T n e g) (hF : (g.1 68 95) = nI a) (ha : a ≤ e) (hc : ∀ j, j < 75 → (zk_K.getD j [] = zl_nm T n a e ↔ c = j)) : ∀ (L : List Nat) (k : Nat), (∀ j ∈ L, j < 75) → zwt_f g (L.map fun j => zk_K.getD j []) (nI k) = some (match zp_ixN c L k with | none => -1 | some p => nI p) := by
  intro L
  induction L with
  | nil => intro k _; rfl
  | cons j l ih =>
    intro k h1
    have hj := h1 j List.mem_cons_self
    show ((f_Mo_isPathWord g (zk_K.getD j [])).bind fun v => if v = 0 then zwt_f g (l.map fun j => zk_K.getD j []) (nI k + 1) else some (nI k)) = some (match (if c = j then some k else zp_ixN c l (k + 1)) with | none => -1 | some p => nI p)
    rw [zwt_isW P hF ha (zp_K1 j hj).2, Option.bind_some]
    by_cases z : c = j
    · rw [if_pos ((hc j hj).mpr z), if_neg (show ¬ (1 : Int32) = 0 by decide), if_pos z]
    · rw [if_neg (mt (hc j hj).mp z), if_pos (show (0 : Int32) = 0 from rfl), if_neg z, nI_1]
      exact ih (k + 1) (fun i hi => h1 i (List.mem_cons_of_mem _ hi))
/-- a name on a path, in the class -/
theorem zwt_fd (q1 : LC.Nodup) (q2 : LC.length < 6000) (q3 : zwt_ld LC) (q4 : zn_C h LC) (hK : LC.take 75 = zk_K) (eT : (h.2.1 1) = T) (P : zwt_P T n a g) : ∃ x, f_Nm_find_c1 h (nI a) (nI (zl_ne T n a) - nI a) = some x ∧ ((zwt_ok T n a ∧ ∃ c, (∀ j, j < 75 → (zk_K.getD j [] = zl_nm T n a (zl_ne T n a) ↔ c = j)) ∧ ((x = nI c ∧ c < 6000) ∨ (x = -1 ∧ c = 6000))) ∨ (¬ zwt_ok T n a ∧ x = -1)) := by
  have hn := P.1
  have hT := P.2.1
  have hl := zl_ne_le (T := T) (n := n) (a := a) hn.2
  have ez : nI (zl_ne T n a) - nI a = nI (zl_ne T n a - a) := zi_sub hl.1
  have er : zn_rc T a (zl_ne T n a - a) = zl_nm T n a (zl_ne T n a) := zwt_nr hT hl.2.1 hl.2.2.2
  rw [ez]
  by_cases ok : zwt_ok T n a
  · obtain ⟨k1, k2, k3⟩ := id ok
    obtain ⟨x, x1, x2⟩ := zn_findc1 (a := a) (len := zl_ne T n a - a) q4 (by omega) k2 (by omega)
    rw [eT, er] at x2
    refine ⟨x, x1, .inl ⟨ok, ?_⟩⟩
    rcases x2 with ⟨j, j1, j2, j3⟩ | ⟨j1, j2⟩
    · refine ⟨j, fun i hi => ?_, .inl ⟨j2, by omega⟩⟩
      rw [← j3]
      exact ⟨fun w => (zp_fld q1 hK j1 hi).mp w.symm, fun w => ((zp_fld q1 hK j1 hi).mpr w).symm⟩
    · refine ⟨6000, fun i hi => ⟨fun w => ?_, fun w => by omega⟩, .inr ⟨j1, rfl⟩⟩
      exfalso
      have l75 : 75 ≤ LC.length := by
        have := congrArg List.length hK
        rw [List.length_take, show zk_K.length = 75 from by decide +kernel] at this
        omega
      exact j2 i (by omega) (((zp_fld q1 hK (c := i) (j := i) (by omega) hi).mpr rfl).trans w)
  · by_cases c1 : zl_ne T n a - a < 1
    · refine ⟨-1, ?_, .inr ⟨ok, rfl⟩⟩
      unfold f_Nm_find_c1
      rw [if_pos ((zc_tl (k := 1) (by decide) (by omega)).mpr c1)]
    by_cases c2 : 32 < zl_ne T n a - a
    · refine ⟨-1, ?_, .inr ⟨ok, rfl⟩⟩
      unfold f_Nm_find_c1
      rw [if_neg (mt (zc_tl (k := 1) (by decide) (by omega)).mp c1), if_pos ((zc_lt (k := 32) (by decide) (by omega)).mpr c2)]
    obtain ⟨x, x1, x2⟩ := zn_findc1 (a := a) (len := zl_ne T n a - a) q4 (by omega) (by omega) (by omega)
    rw [eT, er] at x2
    rcases x2 with ⟨j, j1, j2, j3⟩ | ⟨j1, _⟩
    · exfalso
      have hm : LC.getD j [] ∈ LC := by
        rw [List.getD_eq_getElem?_getD, List.getElem?_eq_getElem j1]
        exact List.getElem_mem j1
      have w := zwt_let (q3 _ hm)
      rw [j3, zl_nm_at (by omega), Nat.add_zero] at w
      unfold zl_g at w
      rw [zl_bT (by omega)] at w
      exact ok ⟨by omega, by omega, w⟩
    · exact ⟨x, x1, .inr ⟨ok, j1⟩⟩
theorem zwt_T6 : ∀ v, v < 32 → zj_t v 2 = 1 ∨ zj_t v 2 = 2 := by decide +kernel
/-- in a standard block -/
theorem zwt_std {B : Nat} {x2 : Int32} (q1 : LC.Nodup) (q2 : LC.length < 6000) (q3 : zwt_ld LC) (q4 : zn_C h LC) (hK : LC.take 75 = zk_K) (ST : zj_ST h) (eT : (h.2.1 1) = T) (P : zwt_P T n a g) (hB : B < 9) : ∃ x y g', f_Nm_find_c1 h (nI a) (nI (zl_ne T n a) - nI a) = some x ∧ f_Pl_variableOf h (nI B) x = some y ∧ zfr [(68, 93), (68, 95)] [] [] g g' ∧ zwt_P T n (zl_ne T n a) g' ∧ ((y = -1 ∧ zwt_R g (nI (100000 + B)) x2 = some (-1, g')) ∨ ∃ v, v < 32 ∧ zj_sv B ≤ v ∧ v < zj_sv (B + 1) ∧ y = nI v ∧ zwt_R g (nI (100000 + B)) x2 = (if zl_ne T n a < n then some (-1, g') else f_Mo_see g' (zj_t v 3) (x2 + zj_t v 4))) := by
  have hz := zF_big
  have hn := P.1
  have hl := zl_ne_le (T := T) (n := n) (a := a) hn.2
  obtain ⟨g', a1, a2, a3, a4⟩ := zwt_rd P
  obtain ⟨x, x1, alt⟩ := zwt_fd q1 q2 q3 q4 hK eT P
  obtain ⟨r1, r2⟩ := zp_T5 B hB
  obtain ⟨_, s1, s2, _⟩ := ST.1 B hB
  have ST2 := ST.2
  have eC : f_Pl_variableOf h (nI B) x = f_Pl_variableOf_L7 h zF (nI B) x (nI (zj_sv B)) := by
    unfold f_Pl_variableOf
    rw [if_pos (zi_in (by omega) (show B < 629 by omega)), nI_clamp (by omega), s1]
  have sC := zv_scanC (h := h) (w := x) (show B < 629 by omega) (show zj_sv (B + 1) ≤ 6000 by omega) s2 (zj_sv (B + 1) - zj_sv B) (zj_sv B) zF (by omega) (by omega)
  have nmv : ∀ v, v < 32 → (h.2.1 28) v = nI (60 + zp_tN v 1) ∧ zp_tN v 1 < 15 := fun v hv => ⟨by rw [(ST2 v hv).1, (zp_T3 v hv).1], (zp_T3 v hv).2.2.2.2.2⟩
  rcases alt with ⟨ok, c, hc, hx⟩ | ⟨ok, hx⟩
  · have e1 : f_Mo_readPathName g = some (1, g') := by
      rcases a1 with q | q
      · exact q.2
      · exact absurd ok q.1
    have iff : ∀ v, v < 32 → ((h.2.1 28) v = x ↔ c = 60 + zp_tN v 1) := fun v hv => by
      obtain ⟨m1, m2⟩ := nmv v hv
      rw [m1]
      rcases hx with ⟨w1, w2⟩ | ⟨w1, w2⟩
      · rw [w1, nI_eq (by omega) (by omega)]; omega
      · rw [w1, w2]
        exact ⟨fun w => absurd w (zc_m1 (by omega)), fun w => by omega⟩
    have fr : ∀ inp, inp < 2 → zwt_f g' (zp_row (nI (100000 + B)) (nI inp)) 0 = some (match zp_ixN c (zp_rowN B inp) 0 with | none => -1 | some p => nI p) := fun inp hi => by
      obtain ⟨t1, t2, t3⟩ := zp_T1 B hB inp hi
      rw [t1]
      exact zwt_fN a3 a4 hl.1 hc _ 0 t2
    have f1 := fr 1 (by decide)
    have f0 := fr 0 (by decide)
    have eR : zwt_R g (nI (100000 + B)) x2 = (if zl_ne T n a < n then some (-1, g') else ((zwt_f g' (zp_row (nI (100000 + B)) (nI 1)) 0).bind fun k => (if 0 ≤ k then f_Mo_watchPin_2 g' (nI (100000 + B)) x2 (nI 1) k else ((zwt_f g' (zp_row (nI (100000 + B)) (nI 0)) 0).bind fun k2 => (if 0 ≤ k2 then f_Mo_watchPin_2 g' (nI (100000 + B)) x2 (nI 0) k2 else (some ((-1), g'))))))) := by
      unfold zwt_R
      rw [e1, yL_B, if_neg (show ¬ (1 : Int32) = 0 by decide), a3.2.2.2.2, a3.2.2.2.1]
      by_cases z : zl_ne T n a < n
      · rw [if_pos z, if_pos ((nI_ltI (by omega) (by omega)).mpr z)]
      · rw [if_neg z, if_neg (mt (nI_ltI (by omega) (by omega)).mp z)]
        rfl
    rcases zv_least (fun v => c = 60 + zp_tN v 1) (zj_sv B) (zj_sv (B + 1)) with q | ⟨v, v1, v2, v3, v4⟩
    · have nn : ∀ inp, inp < 2 → zp_ixN c (zp_rowN B inp) 0 = none := fun inp hi => zp_ixN0 _ _ fun hm => by
        obtain ⟨v, _, w2, w3, w4⟩ := zp_T2 B hB inp hi c hm
        exact q v w2 w3 w4.symm
      refine ⟨x, -1, g', x1, ?_, a2, a3, .inl ⟨rfl, ?_⟩⟩
      · rw [eC]
        exact sC.1 fun j h1 h2 h3 => q j h1 h2 ((iff j (by omega)).mp h3)
      · rw [eR, f1, f0, nn 1 (by decide), nn 0 (by decide)]
        show (if _ then _ else ((some (-1 : Int32)).bind _)) = _
        rw [Option.bind_some, if_neg (show ¬ (0 : Int32) ≤ -1 by decide)]
        show (if _ then _ else ((some (-1 : Int32)).bind _)) = _
        rw [Option.bind_some, if_neg (show ¬ (0 : Int32) ≤ -1 by decide), ite_self]
    · have hv : v < 32 := by omega
      refine ⟨x, nI v, g', x1, ?_, a2, a3, .inr ⟨v, hv, v1, v2, rfl, ?_⟩⟩
      · rw [eC]
        exact sC.2 v v1 v2 ((iff v hv).mpr v3) fun i h5 h7 h8 => v4 i h5 h7 ((iff i (by omega)).mp h8)
      · have hge : (100000 : Int32) ≤ nI (100000 + B) := (zc_le (k := 100000) (by decide) (by omega)).mpr (by omega)
        have pin : ∀ inp p : Nat, f_Mo_pinType zp_h0 (nI (100000 + B)) (nI inp) (nI p) = some (zj_t v 3) → f_Mo_pinCell zp_h0 (nI (100000 + B)) (nI inp) (nI p) = some (zj_t v 4) → f_Mo_watchPin_2 g' (nI (100000 + B)) x2 (nI inp) (nI p) = f_Mo_see g' (zj_t v 3) (x2 + zj_t v 4) := fun inp p p1 p2 => by
          unfold f_Mo_watchPin_2
          rw [(zp_pt hge).1, (zp_pt hge).2, p1, p2, Option.bind_some, Option.bind_some]
        have ge : ∀ p : Nat, p < 3 → (0 : Int32) ≤ nI p := fun p hp => (zc_le (k := 0) (by decide) (by omega)).mpr (by omega)
        have v3' : c = 60 + zp_tN v 1 := v3
        rw [eR, f1, f0, v3']
        obtain ⟨k1, k2⟩ := zp_T4 (inp := 1) hB (by decide) hv v1 v2
        obtain ⟨j1, j2⟩ := zp_T4 (inp := 0) hB (by decide) hv v1 v2
        rcases zwt_T6 v hv with w | w
        · obtain ⟨p, p1, p2, p3, p4⟩ := k1 (by rw [if_neg (by decide)]; exact w)
          rw [p2, Option.bind_some]
          show (if _ then _ else (if (0 : Int32) ≤ nI p then _ else _)) = _
          rw [if_pos (ge p p1), pin 1 p p3 p4]
        · rw [k2 (by rw [if_neg (by decide), w]; decide), Option.bind_some]
          obtain ⟨p, p1, p2, p3, p4⟩ := j1 (by rw [if_pos rfl]; exact w)
          show (if _ then _ else (if (0 : Int32) ≤ -1 then _ else _)) = _
          rw [if_neg (show ¬ (0 : Int32) ≤ -1 by decide), p2, Option.bind_some]
          show (if _ then _ else (if (0 : Int32) ≤ nI p then _ else _)) = _
          rw [if_pos (ge p p1), pin 0 p p3 p4]
  · have e1 : f_Mo_readPathName g = some (0, g') := by
      rcases a1 with q | q
      · exact absurd q.1 ok
      · exact q.2
    refine ⟨x, -1, g', x1, ?_, a2, a3, .inl ⟨rfl, ?_⟩⟩
    · rw [eC]
      refine sC.1 fun j h1 h2 h3 => ?_
      obtain ⟨m1, m2⟩ := nmv j (by omega)
      rw [m1, hx] at h3
      exact zc_m1 (by omega) h3
    · unfold zwt_R
      rw [e1, yL_B, if_pos (show (0 : Int32) = 0 from rfl)]
end ZWN
