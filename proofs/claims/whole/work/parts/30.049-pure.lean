section
/-! watch: the tables of a loaded text. -/
section ZWL
variable {h g h0 g0 : zs_H} {LC LM : List (List Int32)} {nb : Nat} {F X Y : Nat → Nat}
theorem zwt_mkQ (C : yk_cx LC LM nb F X Y h0 g0) (E : yL_E h0 g0 h g) (N : zn_C h LC) (LD : zwt_ld LC) : zwt_Q LC LM nb F h g := by
  have HS := C.1.1
  have HB := C.1.2.1
  have HN := C.1.2.2.1
  have hbd := fun b (hb : b < nb) => zv_bdM HB hb
  obtain ⟨S1, S2, S3, S4, S5, S6⟩ := HS
  obtain ⟨⟨B1, B2, B3⟩, ⟨V1, V2, V3⟩, _, BF, _, B6, _⟩ := HB
  obtain ⟨E1, E2, ⟨E3, E4, E5, E6, E7⟩, ⟨E8, E9, E10, E11⟩⟩ := E
  refine ⟨⟨S1, S3, LD, N, ?_⟩, ⟨B3, V3, BF⟩, fun b hb => ?_, fun v hv => ?_⟩
  · unfold zn_M
    rw [E8, E2 71 (by decide) (by decide), E2 70 (by decide) (by decide)]
    exact S6
  · rw [E1 23 (by decide) (by decide), E1 24 (by decide) (by decide), E2 90 (by decide) (by decide), E9, E10]
    exact ⟨(B6 b hb).1, (B6 b hb).2.1, (B6 b hb).2.2, hbd b hb⟩
  · rw [E1 28 (by decide) (by decide), E2 91 (by decide) (by decide)]
    exact HN.1 v hv
/-- a byte on the path is passed -/
theorem zwt_pas {T : Nat → Int32} {n a : Nat} (P : zwt_P T n a g) (c : Int32) : (a < n ∧ T a = c ∧ f_Mo_passes g c = some (1, zs_uF g 68 93 (nI (a + 1))) ∧ zwt_P T n (a + 1) (zs_uF g 68 93 (nI (a + 1)))) ∨ (¬ (a < n ∧ T a = c) ∧ f_Mo_passes g c = some (0, zs_uF g 68 93 (nI a)) ∧ zwt_P T n a (zs_uF g 68 93 (nI a))) := by
  obtain ⟨⟨h1, h2⟩, h3, h4, h5, h6⟩ := P
  unfold f_Mo_passes f_Mo_passes_28 f_Mo_passes_29 f_Mo_passes_44
  rw [h5, h6]
  have o0 : (0 : Int32) = 0 ∨ (0 : Int32) = 1 := .inl rfl
  have o1 : (1 : Int32) = 0 ∨ (1 : Int32) = 1 := .inr rfl
  have z0 : nI a + 0 = nI a := nI_add a 0
  have z1 : nI a + 1 = nI (a + 1) := nI_add a 1
  by_cases c1 : a < n
  · rw [if_neg (mt (nI_leI (by omega) (by omega)).mp (by omega)), if_pos (zi_in (by omega) (show a < 16384 by omega)), nI_clamp (by omega), h4 a c1]
    by_cases c2 : T a = c
    · rw [if_pos c2, if_neg (show ¬ (1 : Int32) = 0 by decide), if_pos o1, z1]
      exact .inl ⟨c1, c2, rfl, ⟨h1, by omega⟩, h3, h4, h5, rfl⟩
    · rw [if_neg c2, if_pos (show (0 : Int32) = 0 from rfl), if_pos o0, z0]
      exact .inr ⟨fun q => c2 q.2, rfl, ⟨h1, h2⟩, h3, h4, h5, rfl⟩
  · rw [if_pos ((nI_leI (by omega) (by omega)).mpr (by omega)), if_pos (show (0 : Int32) = 0 from rfl), if_pos o0, z0]
    exact .inr ⟨fun q => c1 q.1, rfl, ⟨h1, h2⟩, h3, h4, h5, rfl⟩
end ZWL
end
section
/-! watch: a cell is shown, on both sides. -/
theorem zwt_show {h g : zs_H} {u p : Nat} {ty : Int32} (hu : u < 6000) (hp : p < 8192) (e : (h.2.1 62) p = (g.2.1 114) p) (et : (h.2.1 31) u = ty) : f_Pk_show h (nI u) (nI p) = some (ty, zs_uF h 0 4 ((g.2.1 114) p)) ∧ f_Mo_see g ty (nI p) = some (ty, zs_uF g 68 87 ((g.2.1 114) p)) := by
  constructor
  · unfold f_Pk_show f_Mc_cellAt
    rw [if_neg (nI_pos (by omega)), if_neg (mt (zc_le (k := 8192) (by decide) (by omega)).mp (by omega)), if_pos (zi_in (by omega) hp), nI_clamp (n := p) (by omega), Option.bind_some, if_pos (zi_in (by omega) hu), nI_clamp (by omega), e, et]
  · unfold f_Mo_see
    rw [if_pos (zi_in (by omega) hp), nI_clamp (by omega)]
end
section
/-! watch: a name on a path, looked up in a standard block, on both sides. -/
/-- watchPin behind its point -/
def zwt_R (h3 : zs_H) (x1 x2 : Int32) : Option (Int32 × zs_H) := (zd_B (f_Mo_readPathName h3) fun v5 h6 => (if v5 = 0 then (some ((-1), h6)) else (if (h6.1 68 93) < (h6.1 68 94) then (some ((-1), h6)) else ((zwt_f h6 (zp_row x1 1) 0).bind fun k => (if 0 ≤ k then f_Mo_watchPin_2 h6 x1 x2 1 k else ((zwt_f h6 (zp_row x1 0) 0).bind fun k2 => (if 0 ≤ k2 then f_Mo_watchPin_2 h6 x1 x2 0 k2 else (some ((-1), h6)))))))))
section ZWN
variable {h g : zs_H} {T : Nat → Int32} {n a e : Nat} {LC LM : List (List Int32)}
theorem zwt_nmc (h : a < e) : zl_nm T n a e = zl_g T n a :: zl_nm T n (a + 1) e := by
  unfold zl_nm
  rw [show e - a = (e - (a + 1)) + 1 by omega, List.range_succ_eq_map, List.map_cons, List.map_map, Nat.add_zero]
  congr 1
  apply List.map_congr_left
  intro i _
  show zl_g T n (a + (i + 1)) = zl_g T n (a + 1 + i)
  rw [show a + (i + 1) = a + 1 + i by omega]
theorem zwt_wN (P : zwt_P T n e g) (hF : (g.1 68 95) = nI a) : ∀ (s : List Int32) (k : Nat), a + k + s.length = e → zwt_w g s k = some (if s = zl_nm T n (a + k) e then 1 else 0) := by
  have hn := P.1
  intro s
  induction s with
  | nil =>
    intro k hk
    have ek : a + k = e := hk
    rw [ek]
    have : zl_nm T n e e = [] := by unfold zl_nm; rw [Nat.sub_self]; rfl
    rw [this, if_pos rfl]; rfl
  | cons c s ih =>
    intro k hk
    have hl : (c :: s).length = s.length + 1 := rfl
    have e1 : f_Mo_tapeGreat g (nI a + nI k) = some (zl_g T n (a + k)) := by
      rw [nI_add, zwt_g P (by omega), if_pos (by omega)]
      unfold zl_g
      rw [zl_bT (by omega)]
    show ((f_Mo_tapeGreat g ((g.1 68 95) + nI k)).bind fun v => if c = v then zwt_w g s (k + 1) else some 0) = _
    rw [hF, e1, Option.bind_some, zwt_nmc (show a + k < e by omega)]
    by_cases z : c = zl_g T n (a + k)
    · rw [if_pos z, ih (k + 1) (by omega), show a + (k + 1) = a + k + 1 by omega]
      by_cases y : s = zl_nm T n (a + k + 1) e
      · rw [if_pos y, if_pos (by rw [z, y])]
      · rw [if_neg y, if_neg (fun q => y (List.cons.inj q).2)]
    · rw [if_neg z, if_neg (fun q => z (List.cons.inj q).1)]
theorem zwt_isW (P : zwt_P T n e g) (hF : (g.1 68 95) = nI a) (ha : a ≤ e) {s : List Int32} (hs : s.length ≤ 32) : f_Mo_isPathWord g s = some (if s = zl_nm T n a e then 1 else 0) := by
  have hn := P.1
  unfold f_Mo_isPathWord
  rw [P.2.2.2.2, hF, zi_sub ha]
  by_cases c : s.length = e - a
  · rw [if_pos (congrArg nI c)]
    exact zwt_wN P hF s 0 (by omega)
  · rw [if_neg (mt (nI_eq (by omega) (by omega)).mp c), if_neg (fun q => c (by rw [q, zl_nm_len]))]
theorem zwt_fN {c : Nat} (P : zwt_P T n e g) (hF : (g.1 68 95) = nI a) (ha : a ≤ e) (hc : ∀ j, j < 75 → (zk_K.getD j [] = zl_nm T n a e ↔ c = j)) : ∀ (L : List Nat) (k : Nat), (∀ j ∈ L, j < 75) → zwt_f g (L.map fun j => zk_K.getD j []) (nI k) = some (match zp_ixN c L k with | none => -1 | some p => nI p) := by
  intro L
  induction L with
  | nil => intro k _; rfl
  | cons j l ih =>
    intro k h1
    have hj := h1 j List.mem_cons_self
    show ((f_Mo_isPathWord g (zk_K.getD j [])).bind fun v => if v = 0 then zwt_f g (l.map fun j => zk_K.getD j []) (nI k + 1) else some (nI k)) = some (match (if c = j then some k else zp_ixN c l (k + 1)) with | none => -1 | some p => nI p)
    rw [zwt_isW P hF ha (zp_K1 j hj).2, Option.bind_some]
    by_cases z : c = j
    · rw [if_pos ((hc j hj).mpr z), if_neg (show ¬ (1 : Int32) = 0 by decide), if_pos z]
    · rw [if_neg (mt (hc j hj).mp z), if_pos (show (0 : Int32) = 0 from rfl), if_neg z, nI_1]
      exact ih (k + 1) (fun i hi => h1 i (List.mem_cons_of_mem _ hi))
/-- a name on a path, in the class -/
theorem zwt_fd (q1 : LC.Nodup) (q2 : LC.length < 6000) (q3 : zwt_ld LC) (q4 : zn_C h LC) (hK : LC.take 75 = zk_K) (eT : (h.2.1 1) = T) (P : zwt_P T n a g) : ∃ x, f_Nm_find_c1 h (nI a) (nI (zl_ne T n a) - nI a) = some x ∧ ((zwt_ok T n a ∧ ∃ c, (∀ j, j < 75 → (zk_K.getD j [] = zl_nm T n a (zl_ne T n a) ↔ c = j)) ∧ ((x = nI c ∧ c < 6000) ∨ (x = -1 ∧ c = 6000))) ∨ (¬ zwt_ok T n a ∧ x = -1)) := by
  have hn := P.1
  have hT := P.2.1
  have hl := zl_ne_le (T := T) (n := n) (a := a) hn.2
  have ez : nI (zl_ne T n a) - nI a = nI (zl_ne T n a - a) := zi_sub hl.1
  have er : zn_rc T a (zl_ne T n a - a) = zl_nm T n a (zl_ne T n a) := zwt_nr hT hl.2.1 hl.2.2.2
  rw [ez]
  by_cases ok : zwt_ok T n a
  · obtain ⟨k1, k2, k3⟩ := id ok
    obtain ⟨x, x1, x2⟩ := zn_findc1 (a := a) (len := zl_ne T n a - a) q4 (by omega) k2 (by omega)
    rw [eT, er] at x2
    refine ⟨x, x1, .inl ⟨ok, ?_⟩⟩
    rcases x2 with ⟨j, j1, j2, j3⟩ | ⟨j1, j2⟩
    · refine ⟨j, fun i hi => ?_, .inl ⟨j2, by omega⟩⟩
      rw [← j3]
      exact ⟨fun w => (zp_fld q1 hK j1 hi).mp w.symm, fun w => ((zp_fld q1 hK j1 hi).mpr w).symm⟩
    · refine ⟨6000, fun i hi => ⟨fun w => ?_, fun w => by omega⟩, .inr ⟨j1, rfl⟩⟩
      exfalso
      have l75 : 75 ≤ LC.length := by
        have := congrArg List.length hK
        rw [List.length_take, show zk_K.length = 75 from by decide +kernel] at this
        omega
      exact j2 i (by omega) (((zp_fld q1 hK (c := i) (j := i) (by omega) hi).mpr rfl).trans w)
  · by_cases c1 : zl_ne T n a - a < 1
    · refine ⟨-1, ?_, .inr ⟨ok, rfl⟩⟩
      unfold f_Nm_find_c1
      rw [if_pos ((zc_tl (k := 1) (by decide) (by omega)).mpr c1)]
    by_cases c2 : 32 < zl_ne T n a - a
    · refine ⟨-1, ?_, .inr ⟨ok, rfl⟩⟩
      unfold f_Nm_find_c1
      rw [if_neg (mt (zc_tl (k := 1) (by decide) (by omega)).mp c1), if_pos ((zc_lt (k := 32) (by decide) (by omega)).mpr c2)]
    obtain ⟨x, x1, x2⟩ := zn_findc1 (a := a) (len := zl_ne T n a - a) q4 (by omega) (by omega) (by omega)
    rw [eT, er] at x2
    rcases x2 with ⟨j, j1, j2, j3⟩ | ⟨j1, _⟩
    · exfalso
      have hm : LC.getD j [] ∈ LC := by
        rw [List.getD_eq_getElem?_getD, List.getElem?_eq_getElem j1]
        exact List.getElem_mem j1
      have w := zwt_let (q3 _ hm)
      rw [j3, zl_nm_at (by omega), Nat.add_zero] at w
      unfold zl_g at w
      rw [zl_bT (by omega)] at w
      exact ok ⟨by omega, by omega, w⟩
    · exact ⟨x, x1, .inr ⟨ok, j1⟩⟩
theorem zwt_T6 : ∀ v, v < 32 → zj_t v 2 = 1 ∨ zj_t v 2 = 2 := by decide +kernel
/-- in a standard block -/
theorem zwt_std {B : Nat} {x2 : Int32} (q1 : LC.Nodup) (q2 : LC.length < 6000) (q3 : zwt_ld LC) (q4 : zn_C h LC) (hK : LC.take 75 = zk_K) (ST : zj_ST h) (eT : (h.2.1 1) = T) (P : zwt_P T n a g) (hB : B < 9) : ∃ x y g', f_Nm_find_c1 h (nI a) (nI (zl_ne T n a) - nI a) = some x ∧ f_Pl_variableOf h (nI B) x = some y ∧ zfr [(68, 93), (68, 95)] [] [] g g' ∧ zwt_P T n (zl_ne T n a) g' ∧ ((y = -1 ∧ zwt_R g (nI (100000 + B)) x2 = some (-1, g')) ∨ ∃ v, v < 32 ∧ zj_sv B ≤ v ∧ v < zj_sv (B + 1) ∧ y = nI v ∧ zwt_R g (nI (100000 + B)) x2 = (if zl_ne T n a < n then some (-1, g') else f_Mo_see g' (zj_t v 3) (x2 + zj_t v 4))) := by
  have hz := zF_big
  have hn := P.1
  have hl := zl_ne_le (T := T) (n := n) (a := a) hn.2
  obtain ⟨g', a1, a2, a3, a4⟩ := zwt_rd P
  obtain ⟨x, x1, alt⟩ := zwt_fd q1 q2 q3 q4 hK eT P
  obtain ⟨r1, r2⟩ := zp_T5 B hB
  obtain ⟨_, s1, s2, _⟩ := ST.1 B hB
  have ST2 := ST.2
  have eC : f_Pl_variableOf h (nI B) x = f_Pl_variableOf_L7 h zF (nI B) x (nI (zj_sv B)) := by
    unfold f_Pl_variableOf
    rw [if_pos (zi_in (by omega) (show B < 629 by omega)), nI_clamp (by omega), s1]
  have sC := zv_scanC (h := h) (w := x) (show B < 629 by omega) (show zj_sv (B + 1) ≤ 6000 by omega) s2 (zj_sv (B + 1) - zj_sv B) (zj_sv B) zF (by omega) (by omega)
  have nmv : ∀ v, v < 32 → (h.2.1 28) v = nI (60 + zp_tN v 1) ∧ zp_tN v 1 < 15 := fun v hv => ⟨by rw [(ST2 v hv).1, (zp_T3 v hv).1], (zp_T3 v hv).2.2.2.2.2⟩
  rcases alt with ⟨ok, c, hc, hx⟩ | ⟨ok, hx⟩
  · have e1 : f_Mo_readPathName g = some (1, g') := by
      rcases a1 with q | q
      · exact q.2
      · exact absurd ok q.1
    have iff : ∀ v, v < 32 → ((h.2.1 28) v = x ↔ c = 60 + zp_tN v 1) := fun v hv => by
      obtain ⟨m1, m2⟩ := nmv v hv
      rw [m1]
      rcases hx with ⟨w1, w2⟩ | ⟨w1, w2⟩
      · rw [w1, nI_eq (by omega) (by omega)]; omega
      · rw [w1, w2]
        exact ⟨fun w => absurd w (zc_m1 (by omega)), fun w => by omega⟩
    have fr : ∀ inp, inp < 2 → zwt_f g' (zp_row (nI (100000 + B)) (nI inp)) 0 = some (match zp_ixN c (zp_rowN B inp) 0 with | none => -1 | some p => nI p) := fun inp hi => by
      obtain ⟨t1, t2, t3⟩ := zp_T1 B hB inp hi
      rw [t1]
      exact zwt_fN a3 a4 hl.1 hc _ 0 t2
    have f1 := fr 1 (by decide)
    have f0 := fr 0 (by decide)
    have eR : zwt_R g (nI (100000 + B)) x2 = (if zl_ne T n a < n then some (-1, g') else ((zwt_f g' (zp_row (nI (100000 + B)) (nI 1)) 0).bind fun k => (if 0 ≤ k then f_Mo_watchPin_2 g' (nI (100000 + B)) x2 (nI 1) k else ((zwt_f g' (zp_row (nI (100000 + B)) (nI 0)) 0).bind fun k2 => (if 0 ≤ k2 then f_Mo_watchPin_2 g' (nI (100000 + B)) x2 (nI 0) k2 else (some ((-1), g'))))))) := by
      unfold zwt_R
      rw [e1, yL_B, if_neg (show ¬ (1 : Int32) = 0 by decide), a3.2.2.2.2, a3.2.2.2.1]
      by_cases z : zl_ne T n a < n
      · rw [if_pos z, if_pos ((nI_ltI (by omega) (by omega)).mpr z)]
      · rw [if_neg z, if_neg (mt (nI_ltI (by omega) (by omega)).mp z)]
        rfl
    rcases zv_least (fun v => c = 60 + zp_tN v 1) (zj_sv B) (zj_sv (B + 1)) with q | ⟨v, v1, v2, v3, v4⟩
    · have nn : ∀ inp, inp < 2 → zp_ixN c (zp_rowN B inp) 0 = none := fun inp hi => zp_ixN0 _ _ fun hm => by
        obtain ⟨v, _, w2, w3, w4⟩ := zp_T2 B hB inp hi c hm
        exact q v w2 w3 w4.symm
      refine ⟨x, -1, g', x1, ?_, a2, a3, .inl ⟨rfl, ?_⟩⟩
      · rw [eC]
        exact sC.1 fun j h1 h2 h3 => q j h1 h2 ((iff j (by omega)).mp h3)
      · rw [eR, f1, f0, nn 1 (by decide), nn 0 (by decide)]
        show (if _ then _ else ((some (-1 : Int32)).bind _)) = _
        rw [Option.bind_some, if_neg (show ¬ (0 : Int32) ≤ -1 by decide)]
        show (if _ then _ else ((some (-1 : Int32)).bind _)) = _
        rw [Option.bind_some, if_neg (show ¬ (0 : Int32) ≤ -1 by decide), ite_self]
    · have hv : v < 32 := by omega
      refine ⟨x, nI v, g', x1, ?_, a2, a3, .inr ⟨v, hv, v1, v2, rfl, ?_⟩⟩
      · rw [eC]
        exact sC.2 v v1 v2 ((iff v hv).mpr v3) fun i h5 h7 h8 => v4 i h5 h7 ((iff i (by omega)).mp h8)
      · have hge : (100000 : Int32) ≤ nI (100000 + B) := (zc_le (k := 100000) (by decide) (by omega)).mpr (by omega)
        have pin : ∀ inp p : Nat, f_Mo_pinType zp_h0 (nI (100000 + B)) (nI inp) (nI p) = some (zj_t v 3) → f_Mo_pinCell zp_h0 (nI (100000 + B)) (nI inp) (nI p) = some (zj_t v 4) → f_Mo_watchPin_2 g' (nI (100000 + B)) x2 (nI inp) (nI p) = f_Mo_see g' (zj_t v 3) (x2 + zj_t v 4) := fun inp p p1 p2 => by
          unfold f_Mo_watchPin_2
          rw [(zp_pt hge).1, (zp_pt hge).2, p1, p2, Option.bind_some, Option.bind_some]
        have ge : ∀ p : Nat, p < 3 → (0 : Int32) ≤ nI p := fun p hp => (zc_le (k := 0) (by decide) (by omega)).mpr (by omega)
        have v3' : c = 60 + zp_tN v 1 := v3
        rw [eR, f1, f0, v3']
        obtain ⟨k1, k2⟩ := zp_T4 (inp := 1) hB (by decide) hv v1 v2
        obtain ⟨j1, j2⟩ := zp_T4 (inp := 0) hB (by decide) hv v1 v2
        rcases zwt_T6 v hv with w | w
        · obtain ⟨p, p1, p2, p3, p4⟩ := k1 (by rw [if_neg (by decide)]; exact w)
          rw [p2, Option.bind_some]
          show (if _ then _ else (if (0 : Int32) ≤ nI p then _ else _)) = _
          rw [if_pos (ge p p1), pin 1 p p3 p4]
        · rw [k2 (by rw [if_neg (by decide), w]; decide), Option.bind_some]
          obtain ⟨p, p1, p2, p3, p4⟩ := j1 (by rw [if_pos rfl]; exact w)
          show (if _ then _ else (if (0 : Int32) ≤ -1 then _ else _)) = _
          rw [if_neg (show ¬ (0 : Int32) ≤ -1 by decide), p2, Option.bind_some]
          show (if _ then _ else (if (0 : Int32) ≤ nI p then _ else _)) = _
          rw [if_pos (ge p p1), pin 0 p p3 p4]
  · have e1 : f_Mo_readPathName g = some (0, g') := by
      rcases a1 with q | q
      · exact absurd q.1 ok
      · exact q.2
    refine ⟨x, -1, g', x1, ?_, a2, a3, .inl ⟨rfl, ?_⟩⟩
    · rw [eC]
      refine sC.1 fun j h1 h2 h3 => ?_
      obtain ⟨m1, m2⟩ := nmv j (by omega)
      rw [m1, hx] at h3
      exact zc_m1 (by omega) h3
    · unfold zwt_R
      rw [e1, yL_B, if_pos (show (0 : Int32) = 0 from rfl)]
end ZWN
end
section
/-! watch: the index on a path, on both sides. -/
abbrev zwt_dg (T : Nat → Int32) (i : Nat) : Prop := 48 ≤ (T i).toInt ∧ (T i).toInt ≤ 57
def zwt_d (T : Nat → Int32) (i : Nat) : Nat := ((T i).toInt - 48).toNat
def zwt_v (T : Nat → Int32) : Nat → Nat → Nat → Nat
  | 0, _, V => V
  | m + 1, i, V => zwt_v T m (i + 1) (V * 10 + zwt_d T i)
def zwt_I (h : zs_H) (v base : Int32) : Option (Int32 × zs_H) := (zd_B (f_Mo_readIndex h) fun i h2 => (if (h2.1 68 93) < 0 then (some ((-1), h2)) else (if (i - (h2.2.1 97 v.toNatClampNeg)) < 0 then (some ((-1), h2)) else (if (h2.2.1 98 v.toNatClampNeg) ≤ (i - (h2.2.1 97 v.toNatClampNeg)) then (some ((-1), h2)) else f_Mo_see h2 (h2.2.1 93 v.toNatClampNeg) ((base + (h2.2.1 94 v.toNatClampNeg)) + (i - (h2.2.1 97 v.toNatClampNeg)))))))
section ZWO
variable {h g : zs_H} {T : Nat → Int32} {n a : Nat}
theorem zwt_wrap {z l : Int} {s : Nat} (hs : s ≤ 30000) (h1 : -2147483648 ≤ z) (h2 : z < 2147483648) (l1 : -2147483648 ≤ l) (l2 : l < 2147483648) (l3 : l + s ≤ 2147483648) : ((0 ≤ (z - l).bmod (2 ^ 32) ∧ (z - l).bmod (2 ^ 32) < s) ↔ (0 ≤ z - l ∧ z - l < s)) ∧ (0 ≤ z - l → z - l < s → (z - l).bmod (2 ^ 32) = z - l) := by
  rw [show (2 : Nat) ^ 32 = 4294967296 from rfl]
  generalize hd : (z - l).bmod 4294967296 = d
  rw [Int.bmod_def] at hd
  split at hd
  · omega
  · omega
theorem zwt_toN {x : Int64} {k : Nat} (h : x.toInt = k) (hk : k < 2147483648) : x.toInt32 = nI k := by
  apply Int32.toInt_inj.mp
  rw [Int64.toInt_toInt32, h, show (nI k).toInt = (k : Int) from Int32.toInt_ofNat_of_lt hk]
  exact Int.bmod_eq_of_le (by omega) (by omega)
theorem zwt_tl {k : Nat} (hk : k < 9223372036854775808) : (lN k).toInt = (k : Int) := Int64.toInt_ofNat_of_lt hk
theorem zwt_dC {i : Nat} : zwt_dg T i ↔ ¬ T i < 48 ∧ T i ≤ 57 := by
  unfold zwt_dg
  rw [Int32.lt_iff_toInt_lt, Int32.le_iff_toInt_le, show (48 : Int32).toInt = 48 from by decide, show (57 : Int32).toInt = 57 from by decide]
  omega
theorem zwt_dM {i : Nat} : f_Mo_isDigit (T i) = if zwt_dg T i then 1 else 0 := by
  unfold f_Mo_isDigit
  by_cases c1 : T i < 48
  · rw [if_pos c1, if_neg (fun q => (zwt_dC.mp q).1 c1)]
  · rw [if_neg c1]
    by_cases c2 : T i ≤ 57
    · rw [if_neg (Int32.not_lt.mpr c2), if_pos (zwt_dC.mpr ⟨c1, c2⟩)]
    · rw [if_pos (Int32.not_le.mp c2), if_neg (fun q => c2 (zwt_dC.mp q).2)]
theorem zwt_dN {i : Nat} (q : zwt_dg T i) : T i = nI (48 + zwt_d T i) ∧ zwt_d T i ≤ 9 := by
  obtain ⟨q1, q2⟩ := q
  unfold zwt_d
  refine ⟨?_, by omega⟩
  apply Int32.toInt_inj.mp
  rw [show (nI (48 + ((T i).toInt - 48).toNat)).toInt = ((48 + ((T i).toInt - 48).toNat : Nat) : Int) from Int32.toInt_ofNat_of_lt (by omega)]
  omega
theorem zwt_ac {m d : Nat} (hd : d ≤ 9) : ((lN m * (10 : Int64)) + ((nI (48 + d)).toInt64)) - (48 : Int64) = lN (m * 10 + d) := by
  rw [zj_32 (by omega), show (10 : Int64) = lN 10 from rfl, lN_mul, lN_add, show (48 : Int64) = lN 48 from rfl, lN_sub (by omega), show m * 10 + (48 + d) - 48 = m * 10 + d by omega]
theorem zwt_ms {V M d : Nat} : min (min V M * 10 + d) M = min (V * 10 + d) M := by omega
/-- the class's digits -/
theorem zwt_C91 {x1 x4 : Int32} (eT : (h.2.1 1) = T) (hn : n ≤ 10240) (h1n : 1 ≤ n) : ∀ (m i N V : Nat), i + m = n - 1 → m < N → ((∀ j, i ≤ j → j < n - 1 → zwt_dg T j) → f_Pk_indexOnTape_L91 h N x1 (nI n) x4 (lN (min V 1099511627776)) (nI i) = f_Pk_indexOnTape_171 h x1 (if x4 = 0 then lN (min (zwt_v T m i V) 1099511627776) else -lN (min (zwt_v T m i V) 1099511627776))) ∧ ((¬ ∀ j, i ≤ j → j < n - 1 → zwt_dg T j) → f_Pk_indexOnTape_L91 h N x1 (nI n) x4 (lN (min V 1099511627776)) (nI i) = some (-1)) := by
  have e1 : nI n - 1 = nI (n - 1) := zi_sub (b := 1) h1n
  intro m
  induction m with
  | zero =>
    intro i N V hi hN
    obtain ⟨N, rfl⟩ : ∃ z, N = z + 1 := ⟨N - 1, by omega⟩
    refine ⟨fun _ => ?_, fun q => absurd (fun j _ _ => by omega) q⟩
    show f_Pk_indexOnTape_91 h (f_Pk_indexOnTape_L91 h N) x1 (nI n) x4 (lN (min V 1099511627776)) (nI i) = _
    unfold f_Pk_indexOnTape_91
    rw [e1, if_pos ((nI_leI (by omega) (by omega)).mpr (by omega))]
    show _ = f_Pk_indexOnTape_171 h x1 (if x4 = 0 then lN (min V 1099511627776) else -lN (min V 1099511627776))
    split <;> rfl
  | succ m ih =>
    intro i N V hi hN
    obtain ⟨N, rfl⟩ : ∃ z, N = z + 1 := ⟨N - 1, by omega⟩
    have e0 : f_Pk_indexOnTape_L91 h (N + 1) x1 (nI n) x4 (lN (min V 1099511627776)) (nI i) = if T i < 48 then some (-1) else if T i ≤ 57 then f_Pk_indexOnTape_L91 h N x1 (nI n) x4 (zd_minl (((lN (min V 1099511627776) * (10 : Int64)) + ((T i).toInt64)) - (48 : Int64)) (1099511627776 : Int64)) (nI (i + 1)) else some (-1) := by
      show f_Pk_indexOnTape_91 h (f_Pk_indexOnTape_L91 h N) x1 (nI n) x4 (lN (min V 1099511627776)) (nI i) = _
      unfold f_Pk_indexOnTape_91
      rw [e1, if_neg (mt (nI_leI (by omega) (by omega)).mp (by omega)), if_pos (zi_in (by omega) (show i < 16384 by omega)), nI_clamp (by omega), eT, nI_1]
    rw [e0]
    by_cases q : zwt_dg T i
    · obtain ⟨q1, q2⟩ := zwt_dC.mp q
      obtain ⟨d1, d2⟩ := zwt_dN q
      rw [if_neg q1, if_pos q2]
      have es : zd_minl (((lN (min V 1099511627776) * (10 : Int64)) + ((T i).toInt64)) - (48 : Int64)) (1099511627776 : Int64) = lN (min (V * 10 + zwt_d T i) 1099511627776) := by
        rw [d1, zwt_ac d2, show (1099511627776 : Int64) = lN 1099511627776 from rfl, zl_minl (by omega) (by decide), zwt_ms]
      rw [es]
      obtain ⟨i1, i2⟩ := ih (i + 1) N (V * 10 + zwt_d T i) (by omega) (by omega)
      refine ⟨fun w => i1 (fun j h1 h2 => w j (by omega) h2), fun w => i2 (fun y => w (fun j h1 h2 => ?_))⟩
      by_cases ej : j = i
      · subst ej; exact q
      · exact y j (by omega) h2
    · refine ⟨fun w => absurd (w i (Nat.le_refl _) (by omega)) q, fun _ => ?_⟩
      by_cases c1 : T i < 48
      · rw [if_pos c1]
      · rw [if_neg c1, if_neg (fun c2 => q (zwt_dC.mpr ⟨c1, c2⟩))]
/-- the model's digits -/
theorem zwt_M34 {x1 x2 x5 : Int32} : ∀ (m i N V : Nat) (g : zs_H), i + m = n → m < N → zwt_P T n i g → ∃ e g', (i ≤ e ∧ e ≤ n) ∧ (∀ j, i ≤ j → j < e → zwt_dg T j) ∧ (e < n → ¬ zwt_dg T e) ∧ f_Mo_readIndex_L34 N g x1 x2 (lN (min V 3000000000)) x5 = f_Mo_readIndex_110 g' x1 x2 (lN (min (zwt_v T (e - i) i V) 3000000000)) x5 ∧ zfr [(68, 93)] [] [] g g' ∧ zwt_P T n e g' := by
  intro m
  induction m with
  | zero =>
    intro i N V g hi hN P
    obtain ⟨N, rfl⟩ : ∃ z, N = z + 1 := ⟨N - 1, by omega⟩
    have hn := P.1
    refine ⟨i, g, ⟨Nat.le_refl _, by omega⟩, fun j h1 h2 => by omega, fun q => by omega, ?_, zfr_rfl, P⟩
    show f_Mo_readIndex_34 (f_Mo_readIndex_L34 N) g x1 x2 (lN (min V 3000000000)) x5 = _
    unfold f_Mo_readIndex_34
    rw [P.2.2.2.1, P.2.2.2.2, if_pos ((nI_leI (by omega) (by omega)).mpr (by omega)), Nat.sub_self]
    rfl
  | succ m ih =>
    intro i N V g hi hN P
    obtain ⟨N, rfl⟩ : ∃ z, N = z + 1 := ⟨N - 1, by omega⟩
    have hn := P.1
    have e0 : f_Mo_readIndex_L34 (N + 1) g x1 x2 (lN (min V 3000000000)) x5 = if f_Mo_isDigit (T i) = 0 then f_Mo_readIndex_110 g x1 x2 (lN (min V 3000000000)) x5 else if (((lN (min V 3000000000) * (10 : Int64)) + ((T i).toInt64)) - (48 : Int64)) ≤ (3000000000 : Int64) then f_Mo_readIndex_L34 N (zs_uF g 68 93 (nI (i + 1))) x1 x2 (((lN (min V 3000000000) * (10 : Int64)) + ((T i).toInt64)) - (48 : Int64)) x5 else f_Mo_readIndex_L34 N (zs_uF g 68 93 (nI (i + 1))) x1 x2 (3000000000 : Int64) x5 := by
      show f_Mo_readIndex_34 (f_Mo_readIndex_L34 N) g x1 x2 (lN (min V 3000000000)) x5 = _
      unfold f_Mo_readIndex_34 f_Mo_readIndex_96
      rw [P.2.2.2.1, P.2.2.2.2, if_neg (mt (nI_leI (by omega) (by omega)).mp (by omega)), if_pos (zi_in (by omega) (show i < 16384 by omega)), nI_clamp (by omega), P.2.2.1 i (by omega), nI_1]
    rw [e0, zwt_dM]
    by_cases q : zwt_dg T i
    · obtain ⟨d1, d2⟩ := zwt_dN q
      rw [if_pos q, if_neg (show ¬ (1 : Int32) = 0 by decide)]
      have es : ((lN (min V 3000000000) * (10 : Int64)) + ((T i).toInt64)) - (48 : Int64) = lN (min V 3000000000 * 10 + zwt_d T i) := by rw [d1]; exact zwt_ac d2
      obtain ⟨e, g', a1, a2, a3, a4, a5, a6⟩ := ih (i + 1) N (V * 10 + zwt_d T i) (zs_uF g 68 93 (nI (i + 1))) (by omega) (by omega) ⟨⟨hn.1, by omega⟩, P.2.1, P.2.2.1, P.2.2.2.1, rfl⟩
      refine ⟨e, g', by omega, fun j h1 h2 => ?_, a3, ?_, zfr_trans (zfr_F (by decide) zfr_rfl) a5, a6⟩
      · by_cases ej : j = i
        · subst ej; exact q
        · exact a2 j (by omega) h2
      · have ev : zwt_v T (e - i) i V = zwt_v T (e - (i + 1)) (i + 1) (V * 10 + zwt_d T i) := by
          rw [show e - i = (e - (i + 1)) + 1 by omega]; rfl
        rw [ev, ← a4, es]
        by_cases c : min V 3000000000 * 10 + zwt_d T i ≤ 3000000000
        · rw [if_pos ((zj_el (k := 3000000000) (by decide) (by omega)).mpr c), show min (V * 10 + zwt_d T i) 3000000000 = min V 3000000000 * 10 + zwt_d T i by omega]
        · rw [if_neg (mt (zj_el (k := 3000000000) (by decide) (by omega)).mp c), show min (V * 10 + zwt_d T i) 3000000000 = 3000000000 by omega]
          rfl
    · rw [if_neg q, if_pos (show (0 : Int32) = 0 from rfl)]
      refine ⟨i, g, ⟨Nat.le_refl _, by omega⟩, fun j h1 h2 => by omega, fun _ => q, ?_, zfr_rfl, P⟩
      rw [Nat.sub_self]; rfl
theorem zwt_147 {x2 : Int32} {x3 : Int64} : f_Mo_readIndex_147 g x2 x3 = some (0, zs_uF g 68 93 (-1)) := by
  unfold f_Mo_readIndex_147 f_Mo_readIndex_148 f_Mo_readIndex_159 f_Mo_readIndex_180
  split <;> rw [if_pos (show (0 : Int32) = 0 from rfl)]
theorem zwt_110 {e f : Nat} {x2 : Int32} {x3 : Int64} (P : zwt_P T n e g) (hf : f ≤ n) : ∃ g', zfr [(68, 93)] [] [] g g' ∧ (((f < e ∧ e + 1 = n ∧ T e = 93) ∧ f_Mo_readIndex_110 g 1 x2 x3 (nI f) = f_Mo_readIndex_148 g' x2 x3 1 ∧ zwt_P T n n g') ∨ (¬ (f < e ∧ e + 1 = n ∧ T e = 93) ∧ f_Mo_readIndex_110 g 1 x2 x3 (nI f) = some (0, g') ∧ (g'.1 68 93) = -1)) := by
  have hn := P.1
  unfold f_Mo_readIndex_110
  rw [if_neg (show ¬ (1 : Int32) = 0 by decide), P.2.2.2.2]
  by_cases c1 : e ≤ f
  · rw [if_pos ((nI_leI (by omega) (by omega)).mpr c1), zwt_147]
    exact ⟨_, zfr_F (by decide) zfr_rfl, .inr ⟨fun q => by omega, rfl, rfl⟩⟩
  rw [if_neg (mt (nI_leI (by omega) (by omega)).mp c1)]
  rcases zwt_pas P 93 with ⟨p1, p2, p3, p4⟩ | ⟨p1, p3, p4⟩
  · rw [p3, yL_B, if_neg (show ¬ (1 : Int32) = 0 by decide), p4.2.2.2.1, p4.2.2.2.2]
    by_cases c2 : e + 1 = n
    · rw [if_pos (congrArg nI c2)]
      rw [c2] at p4
      exact ⟨_, zfr_F (by decide) zfr_rfl, .inl ⟨⟨by omega, c2, p2⟩, by rw [c2], p4⟩⟩
    · rw [if_neg (mt (nI_eq (by omega) (by omega)).mp c2), zwt_147]
      exact ⟨_, zfr_F (by decide) (zfr_F (by decide) zfr_rfl), .inr ⟨fun q => c2 q.2.1, rfl, rfl⟩⟩
  · rw [p3, yL_B, if_pos (show (0 : Int32) = 0 from rfl), zwt_147]
    exact ⟨_, zfr_F (by decide) (zfr_F (by decide) zfr_rfl), .inr ⟨fun q => p1 ⟨by omega, q.2.2⟩, rfl, rfl⟩⟩
def zwt_sg (T : Nat → Int32) (n a : Nat) : Nat := if a + 1 < n ∧ T (a + 1) = 45 then 1 else 0
def zwt_io (T : Nat → Int32) (n a : Nat) : Prop := (a < n ∧ T a = 91) ∧ a + 1 + zwt_sg T n a + 1 < n ∧ T (n - 1) = 93 ∧ ∀ j, a + 1 + zwt_sg T n a ≤ j → j < n - 1 → zwt_dg T j
def zwt_iv (T : Nat → Int32) (n a : Nat) : Nat := zwt_v T (n - 1 - (a + 1 + zwt_sg T n a)) (a + 1 + zwt_sg T n a) 0
theorem zwt_93 {i : Nat} (h : T i = 93) : ¬ zwt_dg T i := fun q => by
  have := q.2
  rw [h, show (93 : Int32).toInt = 93 from by decide] at this
  omega
theorem zwt_riM (P : zwt_P T n a g) : ∃ g', zfr [(68, 93)] [] [] g g' ∧ ((zwt_io T n a ∧ f_Mo_readIndex g = f_Mo_readIndex_148 g' (nI (zwt_sg T n a)) (lN (min (zwt_iv T n a) 3000000000)) 1 ∧ zwt_P T n n g') ∨ (¬ zwt_io T n a ∧ f_Mo_readIndex g = some (0, g') ∧ (g'.1 68 93) = -1)) := by
  have hz := zF_big
  have hn := P.1
  have z0 : (0 : Int64) = lN (min 0 3000000000) := by decide
  have main : ∀ (f sg : Nat) (g1 : zs_H), zwt_P T n f g1 → f = a + 1 + sg → sg = zwt_sg T n a → (a < n ∧ T a = 91) → zfr [(68, 93)] [] [] g g1 → f_Mo_readIndex g = f_Mo_readIndex_L34 zF g1 1 (nI sg) (0 : Int64) (nI f) → ∃ g', zfr [(68, 93)] [] [] g g' ∧ ((zwt_io T n a ∧ f_Mo_readIndex g = f_Mo_readIndex_148 g' (nI (zwt_sg T n a)) (lN (min (zwt_iv T n a) 3000000000)) 1 ∧ zwt_P T n n g') ∨ (¬ zwt_io T n a ∧ f_Mo_readIndex g = some (0, g') ∧ (g'.1 68 93) = -1)) := fun f sg g1 P1 ef es ha fr er => by
    have hn1 := P1.1
    obtain ⟨e, g2, a1, a2, a3, a4, a5, a6⟩ := zwt_M34 (x1 := 1) (x2 := nI sg) (x5 := nI f) (n - f) f zF 0 g1 (by omega) (by omega) P1
    obtain ⟨g3, b1, b2⟩ := zwt_110 (f := f) (x2 := nI sg) (x3 := lN (min (zwt_v T (e - f) f 0) 3000000000)) a6 (by omega)
    rw [z0, a4] at er
    refine ⟨g3, zfr_trans fr (zfr_trans a5 b1), ?_⟩
    rcases b2 with ⟨⟨c1, c2, c3⟩, c4, c5⟩ | ⟨c1, c4, c5⟩
    · left
      have ee : e = n - 1 := by omega
      refine ⟨⟨ha, by rw [← es, ← ef]; omega, by rw [← ee]; exact c3, fun j h1 h2 => a2 j (by rw [ef, es]; exact h1) (by omega)⟩, ?_, c5⟩
      rw [er, c4, es]
      unfold zwt_iv
      rw [← es, ← ef, ee]
    · right
      refine ⟨fun q => c1 ?_, by rw [er, c4], c5⟩
      obtain ⟨_, q2, q3, q4⟩ := q
      rw [← es, ← ef] at q2 q4
      have ee : e = n - 1 := by
        by_cases y : e < n - 1
        · exact absurd (q4 e a1.1 y) (a3 (by omega))
        · by_cases y2 : e = n
          · exact absurd (a2 (n - 1) (by omega) (by omega)) (zwt_93 q3)
          · omega
      exact ⟨by omega, by omega, by rw [ee]; exact q3⟩
  rcases zwt_pas P 91 with ⟨p1, p2, p3, p4⟩ | ⟨p1, p3, p4⟩
  · rcases zwt_pas p4 45 with ⟨r1, r2, r3, r4⟩ | ⟨r1, r3, r4⟩
    · refine main (a + 1 + 1) 1 _ r4 rfl (by unfold zwt_sg; rw [if_pos ⟨r1, r2⟩]) ⟨p1, p2⟩ (zfr_F (by decide) (zfr_F (by decide) zfr_rfl)) ?_
      unfold f_Mo_readIndex f_Mo_readIndex_25
      rw [p3, yL_B, if_neg (show ¬ (1 : Int32) = 0 by decide), r3, yL_B, if_neg (show ¬ (1 : Int32) = 0 by decide)]
      rfl
    · refine main (a + 1) 0 _ r4 rfl (by unfold zwt_sg; rw [if_neg r1]) ⟨p1, p2⟩ (zfr_F (by decide) (zfr_F (by decide) zfr_rfl)) ?_
      unfold f_Mo_readIndex f_Mo_readIndex_24 f_Mo_readIndex_25
      rw [p3, yL_B, if_neg (show ¬ (1 : Int32) = 0 by decide), r3, yL_B, if_pos (show (0 : Int32) = 0 from rfl)]
      rfl
  · obtain ⟨e, g2, a1, a2, a3, a4, a5, a6⟩ := zwt_M34 (x1 := 0) (x2 := 0) (x5 := nI a) (n - a) a zF 0 _ (by omega) (by omega) p4
    refine ⟨zs_uF g2 68 93 (-1), zfr_F (by decide) (zfr_trans (zfr_F (by decide) zfr_rfl) a5), .inr ⟨fun q => p1 q.1, ?_, rfl⟩⟩
    unfold f_Mo_readIndex f_Mo_readIndex_24 f_Mo_readIndex_25
    rw [p3, yL_B, if_pos (show (0 : Int32) = 0 from rfl)]
    show f_Mo_readIndex_L34 zF (zs_uF g 68 93 (nI a)) 0 0 (0 : Int64) (nI a) = _
    rw [z0, a4]
    unfold f_Mo_readIndex_110
    rw [if_pos (show (0 : Int32) = 0 from rfl), zwt_147]
theorem zwt_riC {x1 : Int32} (eT : (h.2.1 1) = T) (hn : n ≤ 10240) (ha : a ≤ n) : (zwt_io T n a ∧ f_Pk_indexOnTape h x1 (nI a) (nI n) = f_Pk_indexOnTape_171 h x1 (if zwt_sg T n a = 0 then lN (min (zwt_iv T n a) 1099511627776) else -lN (min (zwt_iv T n a) 1099511627776))) ∨ (¬ zwt_io T n a ∧ f_Pk_indexOnTape h x1 (nI a) (nI n) = some (-1)) := by
  have hz := zF_big
  unfold f_Pk_indexOnTape
  by_cases c1 : n ≤ a
  · rw [if_pos ((nI_leI (by omega) (by omega)).mpr c1)]
    exact .inr ⟨fun q => by have := q.1.1; omega, rfl⟩
  rw [if_neg (mt (nI_leI (by omega) (by omega)).mp c1), if_pos (zi_in (by omega) (show a < 16384 by omega)), nI_clamp (by omega), eT, show nI n - 1 = nI (n - 1) from zi_sub (b := 1) (by omega), if_pos (zi_in (by omega) (show n - 1 < 16384 by omega)), nI_clamp (by omega), nI_1]
  by_cases c2 : T a = 91
  · rw [if_pos c2]
    by_cases c3 : T (n - 1) = 93
    · rw [if_pos c3]
      have main : ∀ sg, sg = zwt_sg T n a → sg ≤ 1 → (zwt_io T n a ∧ f_Pk_indexOnTape_72 h x1 (nI n) (nI sg) (nI (a + 1 + sg)) = f_Pk_indexOnTape_171 h x1 (if zwt_sg T n a = 0 then lN (min (zwt_iv T n a) 1099511627776) else -lN (min (zwt_iv T n a) 1099511627776))) ∨ (¬ zwt_io T n a ∧ f_Pk_indexOnTape_72 h x1 (nI n) (nI sg) (nI (a + 1 + sg)) = some (-1)) := fun sg es h1 => by
        unfold f_Pk_indexOnTape_72
        rw [show nI n - 1 = nI (n - 1) from zi_sub (b := 1) (by omega)]
        by_cases c4 : a + 1 + sg < n - 1
        · rw [if_pos ((nI_ltI (by omega) (by omega)).mpr c4), show (0 : Int64) = lN (min 0 1099511627776) from by decide]
          obtain ⟨i1, i2⟩ := zwt_C91 (x1 := x1) (x4 := nI sg) eT hn (by omega) (n - 1 - (a + 1 + sg)) (a + 1 + sg) zF 0 (by omega) (by omega)
          by_cases c5 : ∀ j, a + 1 + sg ≤ j → j < n - 1 → zwt_dg T j
          · refine .inl ⟨⟨⟨by omega, c2⟩, by rw [← es]; omega, c3, by rw [← es]; exact c5⟩, ?_⟩
            rw [i1 c5]
            unfold zwt_iv
            rw [← es]
            by_cases c6 : sg = 0
            · rw [if_pos c6, if_pos (by rw [c6]; rfl)]
            · rw [if_neg c6, if_neg (fun q => c6 ((zc_eq (k := 0) (by decide) (by omega)).mp q))]
          · exact .inr ⟨fun q => c5 (by rw [es]; exact q.2.2.2), i2 c5⟩
        · rw [if_neg (mt (nI_ltI (by omega) (by omega)).mp c4)]
          exact .inr ⟨fun q => by have := q.2.1; rw [← es] at this; omega, rfl⟩
      have m0 : zwt_sg T n a = 0 → _ := fun q => main 0 q.symm (by decide)
      have m1 : zwt_sg T n a = 1 → _ := fun q => main 1 q.symm (by decide)
      have f0 : f_Pk_indexOnTape_55 h x1 (nI a) (nI n) = f_Pk_indexOnTape_72 h x1 (nI n) (nI 0) (nI (a + 1 + 0)) := by
        unfold f_Pk_indexOnTape_55 f_Pk_indexOnTape_56
        rw [if_pos (show (0 : Int32) = 0 from rfl), nI_1]
        rfl
      have f1 : f_Pk_indexOnTape_56 h x1 (nI a) (nI n) 1 = f_Pk_indexOnTape_72 h x1 (nI n) (nI 1) (nI (a + 1 + 1)) := by
        unfold f_Pk_indexOnTape_56
        rw [if_neg (show ¬ (1 : Int32) = 0 by decide), show nI a + 2 = nI (a + 2) from nI_add a 2]
        rfl
      by_cases c4 : n ≤ a + 1
      · rw [if_pos ((nI_leI (by omega) (by omega)).mpr c4), f0]
        exact m0 (by unfold zwt_sg; rw [if_neg (fun q => by omega)])
      · rw [if_neg (mt (nI_leI (by omega) (by omega)).mp c4), if_pos (zi_in (by omega) (show a + 1 < 16384 by omega)), nI_clamp (by omega)]
        by_cases c5 : T (a + 1) = 45
        · rw [if_pos c5, f1]
          exact m1 (by unfold zwt_sg; rw [if_pos ⟨by omega, c5⟩])
        · rw [if_neg c5, f0]
          exact m0 (by unfold zwt_sg; rw [if_neg (fun q => c5 q.2)])
    · rw [if_neg c3]
      exact .inr ⟨fun q => c3 q.2.2.1, rfl⟩
  · rw [if_neg c2]
    exact .inr ⟨fun q => c2 q.1.2, rfl⟩
theorem zwt_171 {u s : Nat} {lw : Int32} {y : Int64} {z : Int} (hu : u < 6000) (l1 : (h.2.1 33) u = lw) (s1 : (h.2.1 34) u = nI s) (hs : s ≤ 30000) (hy : y.toInt = z) (hz : -2199023255552 ≤ z ∧ z ≤ 2199023255552) : f_Pk_indexOnTape_171 h (nI u) y = some (if 0 ≤ z - lw.toInt ∧ z - lw.toInt < s then nI (z - lw.toInt).toNat else -1) := by
  have b1 := Int32.toInt_lt lw
  have b2 := Int32.le_toInt lw
  have ed : (y - lw.toInt64).toInt = z - lw.toInt := by
    rw [Int64.toInt_sub, hy, Int32.toInt_toInt64]
    exact Int.bmod_eq_of_le (by omega) (by omega)
  unfold f_Pk_indexOnTape_171
  rw [if_pos (zi_in (by omega) hu), nI_clamp (by omega), l1, s1, zj_32 (by omega)]
  by_cases c1 : z - lw.toInt < 0
  · rw [if_pos (Int64.lt_iff_toInt_lt.mpr (by rw [ed, show (0 : Int64).toInt = 0 from by decide]; exact c1)), if_neg (fun q => by omega)]
  rw [if_neg (fun q => c1 (by have := Int64.lt_iff_toInt_lt.mp q; rw [ed, show (0 : Int64).toInt = 0 from by decide] at this; exact this))]
  by_cases c2 : (s : Int) ≤ z - lw.toInt
  · rw [if_pos (Int64.le_iff_toInt_le.mpr (by rw [ed, zwt_tl (by omega)]; exact c2)), if_neg (fun q => by omega)]
  · rw [if_neg (fun q => c2 (by have := Int64.le_iff_toInt_le.mp q; rw [ed, zwt_tl (by omega)] at this; exact this)), if_pos ⟨by omega, by omega⟩, zwt_toN (k := (z - lw.toInt).toNat) (by rw [ed]; omega) (by omega)]
theorem zwt_148 {sg V : Nat} (P : zwt_P T n n g) (hsg : sg ≤ 1) (hV : V ≤ 3000000000) : ∃ z : Int, z = (if sg = 0 then (V : Int) else -(V : Int)) ∧ ((-2147483648 ≤ z ∧ z ≤ 2147483647 ∧ ∃ i : Int32, i.toInt = z ∧ f_Mo_readIndex_148 g (nI sg) (lN V) 1 = some (i, g)) ∨ (¬ (-2147483648 ≤ z ∧ z ≤ 2147483647) ∧ f_Mo_readIndex_148 g (nI sg) (lN V) 1 = some (0, zs_uF g 68 93 (-1)))) := by
  have key : ∀ (y : Int64) (z : Int), y.toInt = z → ((-2147483648 ≤ z ∧ z ≤ 2147483647 ∧ ∃ i : Int32, i.toInt = z ∧ f_Mo_readIndex_159 g 1 y = some (i, g)) ∨ (¬ (-2147483648 ≤ z ∧ z ≤ 2147483647) ∧ f_Mo_readIndex_159 g 1 y = some (0, zs_uF g 68 93 (-1)))) := fun y z hy => by
    unfold f_Mo_readIndex_159 f_Mo_readIndex_180
    rw [if_neg (show ¬ (1 : Int32) = 0 by decide)]
    by_cases c1 : 2147483647 < z
    · rw [if_pos (Int64.lt_iff_toInt_lt.mpr (by rw [hy, show (2147483647 : Int64).toInt = 2147483647 from by decide]; exact c1))]
      exact .inr ⟨fun q => by omega, rfl⟩
    rw [if_neg (fun q => c1 (by have := Int64.lt_iff_toInt_lt.mp q; rw [hy, show (2147483647 : Int64).toInt = 2147483647 from by decide] at this; exact this))]
    by_cases c2 : -2147483648 ≤ z
    · rw [if_pos (Int64.le_iff_toInt_le.mpr (by rw [hy, show (-2147483648 : Int64).toInt = -2147483648 from by decide]; exact c2))]
      refine .inl ⟨c2, by omega, y.toInt32, ?_, rfl⟩
      rw [Int64.toInt_toInt32, hy]
      exact Int.bmod_eq_of_le (by omega) (by omega)
    · rw [if_neg (fun q => c2 (by have := Int64.le_iff_toInt_le.mp q; rw [hy, show (-2147483648 : Int64).toInt = -2147483648 from by decide] at this; exact this))]
      exact .inr ⟨fun q => c2 q.1, rfl⟩
  refine ⟨_, rfl, ?_⟩
  unfold f_Mo_readIndex_148
  by_cases c : sg = 0
  · rw [if_pos c, if_pos (show nI sg = 0 by rw [c]; rfl)]
    exact key _ _ (zwt_tl (by omega))
  · rw [if_neg (fun q => c ((zc_eq (k := 0) (by decide) (by omega)).mp q)), if_neg c]
    refine key _ _ ?_
    rw [Int64.toInt_neg, zwt_tl (by omega)]
    exact Int.bmod_eq_of_le (by omega) (by omega)
/-- the index, on both sides -/
theorem zwt_idx {u v s : Nat} {lw base : Int32} (eT : (h.2.1 1) = T) (P : zwt_P T n a g) (hu : u < 6000) (hv : v < 8400) (l1 : (h.2.1 33) u = lw) (l2 : (g.2.1 97) v = lw) (s1 : (h.2.1 34) u = nI s) (s2 : (g.2.1 98) v = nI s) (hs : s ≤ 30000) (hl : lw.toInt + s ≤ 2147483648) : ∃ r g', f_Pk_indexOnTape h (nI u) (nI a) (nI n) = some r ∧ zfr [(68, 93)] [] [] g g' ∧ ((r = -1 ∧ zwt_I g (nI v) base = some (-1, g')) ∨ ∃ k, k < s ∧ r = nI k ∧ zwt_I g (nI v) base = f_Mo_see g' ((g.2.1 93) v) (base + (g.2.1 94) v + nI k)) := by
  have hn := P.1
  have b1 := Int32.toInt_lt lw
  have b2 := Int32.le_toInt lw
  obtain ⟨g1, f1, alt⟩ := zwt_riM P
  have C := zwt_riC (x1 := nI u) eT hn.1 hn.2
  have sgl : zwt_sg T n a ≤ 1 := by unfold zwt_sg; split <;> decide
  have fail : ∀ g2, f_Mo_readIndex g = some (0, g2) → (g2.1 68 93) = -1 → zwt_I g (nI v) base = some (-1, g2) := fun g2 q1 q2 => by
    unfold zwt_I
    rw [q1, yL_B, q2, if_pos (show (-1 : Int32) < 0 by decide)]
  rcases alt with ⟨ok, r1, P1⟩ | ⟨ok, r1, r2⟩
  · rcases C with ⟨_, c1⟩ | ⟨no, _⟩
    · generalize zwt_iv T n a = V at r1 c1
      generalize zwt_sg T n a = sg at r1 c1 sgl
      obtain ⟨z, ez, alt⟩ := zwt_148 (sg := sg) (V := min V 3000000000) P1 sgl (by omega)
      obtain ⟨y, ey⟩ : ∃ y : Int64, y = (if sg = 0 then lN (min V 1099511627776) else -lN (min V 1099511627776)) := ⟨_, rfl⟩
      have ty : y.toInt = (if sg = 0 then ((min V 1099511627776 : Nat) : Int) else -((min V 1099511627776 : Nat) : Int)) := by
        rw [ey]
        split
        · exact zwt_tl (by omega)
        · rw [Int64.toInt_neg, zwt_tl (by omega)]
          exact Int.bmod_eq_of_le (by omega) (by omega)
      rw [← ey, zwt_171 hu l1 s1 hs ty (by split <;> omega)] at c1
      rcases alt with ⟨w1, w2, i, w3, w4⟩ | ⟨w1, w2⟩
      · have ez2 : (if sg = 0 then ((min V 1099511627776 : Nat) : Int) else -((min V 1099511627776 : Nat) : Int)) = z := by
          rw [ez]
          by_cases c : sg = 0
          · rw [if_pos c] at ez ⊢
            rw [if_pos c]; omega
          · rw [if_neg c] at ez ⊢
            rw [if_neg c]; omega
        rw [ez2] at c1
        obtain ⟨x1, x2⟩ := zwt_wrap (z := z) (l := lw.toInt) hs w1 (by omega) (by omega) (by omega) hl
        have ti : (i - lw).toInt = (z - lw.toInt).bmod (2 ^ 32) := by rw [Int32.toInt_sub, w3]
        have hpa : ¬ (g1.1 68 93) < 0 := by rw [P1.2.2.2.2]; exact mt (zc_tl (k := 0) (by decide) (by omega)).mp (by omega)
        have eI : zwt_I g (nI v) base = (if (i - lw) < 0 then (some ((-1), g1)) else (if nI s ≤ (i - lw) then (some ((-1), g1)) else f_Mo_see g1 ((g.2.1 93) v) ((base + (g.2.1 94) v) + (i - lw)))) := by
          unfold zwt_I
          rw [r1, w4, yL_B, if_neg hpa, nI_clamp (by omega), f1.2.1 97 List.not_mem_nil, f1.2.1 98 List.not_mem_nil, f1.2.1 93 List.not_mem_nil, f1.2.1 94 List.not_mem_nil, l2, s2]
        by_cases q : 0 ≤ z - lw.toInt ∧ z - lw.toInt < s
        · rw [if_pos q] at c1
          have ei : i - lw = nI (z - lw.toInt).toNat := by
            apply Int32.toInt_inj.mp
            rw [ti, x2 q.1 q.2, zln_ti (by omega)]
            omega
          refine ⟨_, g1, c1, f1, .inr ⟨(z - lw.toInt).toNat, by omega, rfl, ?_⟩⟩
          rw [eI, ei, if_neg (mt (zc_tl (k := 0) (by decide) (by omega)).mp (by omega)), if_neg (mt (nI_leI (by omega) (by omega)).mp (by omega))]
        · rw [if_neg q] at c1
          refine ⟨_, g1, c1, f1, .inl ⟨rfl, ?_⟩⟩
          rw [eI]
          by_cases y1 : (i - lw) < 0
          · rw [if_pos y1]
          · rw [if_neg y1, if_pos]
            rw [Int32.le_iff_toInt_le, zln_ti (by omega), ti]
            rw [Int32.lt_iff_toInt_lt, ti, show (0 : Int32).toInt = 0 from by decide] at y1
            have := mt x1.mp q
            omega
      · have nq : ¬ (0 ≤ (if sg = 0 then ((min V 1099511627776 : Nat) : Int) else -((min V 1099511627776 : Nat) : Int)) - lw.toInt ∧ (if sg = 0 then ((min V 1099511627776 : Nat) : Int) else -((min V 1099511627776 : Nat) : Int)) - lw.toInt < s) := by
          rw [ez] at w1
          by_cases c : sg = 0
          · rw [if_pos c] at w1
            rw [if_pos c]; omega
          · rw [if_neg c] at w1
            rw [if_neg c]; omega
        rw [if_neg nq] at c1
        exact ⟨_, zs_uF g1 68 93 (-1), c1, zfr_F (by decide) f1, .inl ⟨rfl, fail _ (r1.trans w2) rfl⟩⟩
    · exact absurd ok no
  · rcases C with ⟨yes, _⟩ | ⟨_, c1⟩
    · exact absurd yes ok
    · exact ⟨-1, g1, c1, f1, .inl ⟨rfl, fail g1 r1 r2⟩⟩
end ZWO
end
section
/-! watch, on both sides. -/
/-- the class, once the name is found -/
def zwt_Kc (k16 : zs_H → Int32 → Int32 → Int32 → Int32 → Int32 → (Option (Int32 × zs_H))) (h : zs_H) (x1 x3 v4 x5 v8 : Int32) : Option (Int32 × zs_H) := (if v8 = (-1) then (some ((-1), h)) else (if zd_in v8 6000 then (if (h.2.1 30 v8.toNatClampNeg) = (-1) then (if v4 = x1 then (zd_B (f_Pk_show h v8 (x3 + (h.2.1 32 v8.toNatClampNeg))) fun v24 h25 => (some (v24, h25))) else (some ((-1), h))) else (if (h.2.1 30 v8.toNatClampNeg) = (-2) then ((f_Pk_indexOnTape h v8 v4 x1).bind fun v17 => (if v17 = (-1) then (some ((-1), h)) else (zd_B (f_Pk_show h v8 ((x3 + (h.2.1 32 v8.toNatClampNeg)) + v17)) fun v20 h21 => (some (v20, h21))))) else (if x1 ≤ v4 then (some ((-1), h)) else (if zd_in v4 16384 then (if (h.2.1 1 v4.toNatClampNeg) = 46 then k16 h x1 (h.2.1 30 v8.toNatClampNeg) (x3 + (h.2.1 32 v8.toNatClampNeg)) (v4 + 1) (x5 + 1) else (some ((-1), h))) else none)))) else none))
section ZWP
variable {h g h0 g0 : zs_H} {T : Nat → Int32} {n a : Nat} {LC LM : List (List Int32)} {nb b : Nat} {F X Y : Nat → Nat}
theorem zwt_cs {N BB k : Nat} {x3 x y : Int32} (eT : (h.2.1 1) = T) (hT : ∀ i, zb_ok (T i)) (hn : n ≤ 10240) (ha : a ≤ n) (hB : BB < 629) (hk : k < 16384) (e1 : f_Nm_find_c1 h (nI a) (nI (zl_ne T n a) - nI a) = some x) (e2 : f_Pl_variableOf h (nI BB) x = some y) : f_Pk_follow_L16 (N + 1) h (nI n) (nI BB) x3 (nI a) (nI k) = zwt_Kc (f_Pk_follow_L16 N) h (nI n) x3 (nI (zl_ne T n a)) (nI k) y := by
  have e3 : f_Pk_nameEnd h (nI a) (nI n) = some (nI (zl_ne T n a)) := by
    have := zwt_ne (h := h) (n := n) (a := a) (by rw [eT]; exact hT) hn ha
    rw [eT] at this
    exact this
  show f_Pk_follow_16 (f_Pk_follow_L16 N) h (nI n) (nI BB) x3 (nI a) (nI k) = _
  unfold f_Pk_follow_16
  rw [if_neg (mt (zc_le (k := 16384) (by decide) (by omega)).mp (by omega)), if_neg (zc_m1 (by omega)), e3, Option.bind_some, e1, Option.bind_some, e2, Option.bind_some]
  rfl
/-- a variable, as watch sees it -/
theorem zwt_var {v : Nat} (C : yk_cx LC LM nb F X Y h0 g0) (E : yL_E h0 g0 h g) (hb : b < nb) (h1 : F b ≤ v) (h2 : v < F (b + 1)) : ∃ ty x s, ((h.2.1 31) (32 + v) = nI ty ∧ ((h.2.1 32) (32 + v) = nI x ∧ (g.2.1 94) v = nI x) ∧ ((h.2.1 34) (32 + v) = nI s ∧ (g.2.1 98) v = nI s) ∧ (g.2.1 97) v = (h.2.1 33) (32 + v) ∧ ((h.2.1 33) (32 + v)).toInt + s ≤ 2147483648) ∧ (x + s ≤ Y b ∧ v < 5900) ∧ (((h.2.1 30) (32 + v) = -1 ∧ (g.2.1 92) v = 0 ∧ (g.2.1 93) v = nI ty ∧ s = 1) ∨ ((h.2.1 30) (32 + v) = -2 ∧ (g.2.1 92) v = 1 ∧ (g.2.1 93) v = nI ty ∧ 1 ≤ s ∧ s ≤ 256) ∨ (∃ B, B < 9 ∧ (h.2.1 30) (32 + v) = nI B ∧ (g.2.1 92) v = 2 ∧ (g.2.1 93) v = nI (100000 + B) ∧ s = (zt_2.getD B 0).toNatClampNeg) ∨ (∃ u, u < b ∧ (h.2.1 30) (32 + v) = nI (9 + u) ∧ (g.2.1 92) v = 2 ∧ (g.2.1 93) v = nI u ∧ s = X u)) := by
  have hF := C.1.2.1.2.2.2.1 b hb
  obtain ⟨ty, x, s, q1, q2, q3, q4, _, q5, q6⟩ := yk_Q C hb h1 h2
  obtain ⟨_, x', s', _, _, _, r3, _, ⟨_, r6, _, _, r5, _⟩, _⟩ := C.1.2.2.2.1.2.1 b v hb h1 h2 (by omega)
  have kB := (C.2.2 b hb).1
  have es : s' = s := (nI_eq (by omega) (by omega)).mp (r3.1.symm.trans q3.1)
  rw [es] at r5
  rw [E.1 31 (by decide) (by decide), E.1 32 (by decide) (by decide), E.1 33 (by decide) (by decide), E.1 34 (by decide) (by decide), E.1 30 (by decide) (by decide), E.2.1 92 (by decide) (by decide), E.2.1 93 (by decide) (by decide), E.2.1 94 (by decide) (by decide), E.2.1 97 (by decide) (by decide), E.2.1 98 (by decide) (by decide)]
  refine ⟨ty, x, s, ⟨q1.2, q2, q3, q4, r5⟩, q5, ?_⟩
  rcases q6 with q | q | ⟨B, z1, z2, z3, z4, z5, z6⟩
  · exact .inl q
  · exact .inr (.inl q)
  · by_cases h9 : B < 9
    · refine .inr (.inr (.inl ⟨B, h9, z2, z3, by rw [z4, if_pos h9], ?_⟩))
      have := C.1.2.1.2.2.1.1 B h9
      rw [← this.2.2.2, z6, nI_clamp (by omega)]
    · obtain ⟨u, rfl⟩ : ∃ u, B = 9 + u := ⟨B - 9, by omega⟩
      have es2 : s = X u := (nI_eq (by have := (C.2.2 u (by omega)).1; omega) (by have := (C.2.2 u (by omega)).1; omega)).mp (z6.symm.trans (C.2.2 u (by omega)).2.1)
      exact .inr (.inr (.inr ⟨u, by omega, z2, z3, by rw [z4, if_neg h9, show 9 + u - 9 = u by omega], es2⟩))
theorem zwt_ST (C : yk_cx LC LM nb F X Y h0 g0) (E : yL_E h0 g0 h g) : zj_ST h := by
  have := C.1.2.1.2.2.1
  unfold zj_ST at this ⊢
  rw [E.1 21 (by decide) (by decide), E.1 23 (by decide) (by decide), E.1 24 (by decide) (by decide), E.1 26 (by decide) (by decide), E.1 28 (by decide) (by decide), E.1 29 (by decide) (by decide), E.1 30 (by decide) (by decide), E.1 31 (by decide) (by decide), E.1 32 (by decide) (by decide)]
  exact this
def zwt_T7 (B v : Nat) : Bool := decide (zp_tN v 4 < (zt_2.getD B 0).toNatClampNeg)
theorem zwt_T8 : ∀ B, B < 9 → ∀ v, v < 32 → zj_sv B ≤ v → v < zj_sv (B + 1) → zwt_T7 B v = true := by decide +kernel
abbrev zwt_F1 : List (Nat × Nat) := [(0, 4)]
abbrev zwt_F2 : List (Nat × Nat) := [(68, 93), (68, 95), (68, 87)]
/-- both end so -/
def zwt_Z (h g : zs_H) (rc rm : Option (Int32 × zs_H)) : Prop := ∃ v h' g', rc = some (v, h') ∧ rm = some (v, g') ∧ zfr zwt_F1 [] [] h h' ∧ zfr zwt_F2 [] [] g g' ∧ (h'.1 0 4) = (g'.1 68 87)
theorem zwt_Z1 {g' : zs_H} {rc rm : Option (Int32 × zs_H)} (w : (h.1 0 4) = (g.1 68 87)) (f : zfr [(68, 93), (68, 95)] [] [] g g') (e1 : rc = some (-1, h)) (e2 : rm = some (-1, g')) : zwt_Z h g rc rm := ⟨-1, h, g', e1, e2, zfr_rfl, zfr_w f (by decide) (by decide) (by decide), w.trans (f.1 _ _ (by decide)).symm⟩
theorem zwt_Zs {g' : zs_H} {u p : Nat} {ty : Int32} {rc rm : Option (Int32 × zs_H)} (cc : ∀ j, j < 8192 → (h.2.1 62) j = (g.2.1 114) j) (f : zfr [(68, 93), (68, 95)] [] [] g g') (hu : u < 6000) (hp : p < 8192) (et : (h.2.1 31) u = ty) (e1 : rc = (zd_B (f_Pk_show h (nI u) (nI p)) fun v24 h25 => (some (v24, h25)))) (e2 : rm = f_Mo_see g' ty (nI p)) : zwt_Z h g rc rm := by
  have ec : (h.2.1 62) p = (g'.2.1 114) p := (cc p hp).trans (by rw [f.2.1 _ List.not_mem_nil])
  obtain ⟨s1, s2⟩ := zwt_show (h := h) (g := g') hu hp ec et
  rw [s1, yL_B] at e1
  rw [s2] at e2
  exact ⟨ty, _, _, e1, e2, zfr_F (by decide) zfr_rfl, zfr_F (by decide) (zfr_w f (by decide) (by decide) (by decide)), rfl⟩
theorem zwt_lp (C : yk_cx LC LM nb F X Y h0 g0) (n16 : nb ≤ 16) (NC : zn_C h LC) (LD : zwt_ld LC) (eT : (h.2.1 1) = T) : ∀ (b base a k N N' : Nat) (g : zs_H), b < nb → base + X b ≤ 8192 → b + 1 < N → b < N' → k + b + 2 < 16384 → yL_E h0 g0 h g → (∀ j, j < 8192 → (h.2.1 62) j = (g.2.1 114) j) → zwt_P T n a g → (h.1 0 4) = (g.1 68 87) → zwt_Z h g (f_Pk_follow_L16 N h (nI n) (nI (9 + b)) (nI base) (nI a) (nI k)) (f_Mo_watch_L16 N' g (nI b) (nI base)) := by
  intro b
  induction b using Nat.strongRecOn with
  | ind b ih =>
  intro base a k N N' g hb hX hN hN' hk E cc P w
  obtain ⟨N, rfl⟩ : ∃ z, N = z + 1 := ⟨N - 1, by omega⟩
  obtain ⟨N', rfl⟩ : ∃ z, N' = z + 1 := ⟨N' - 1, by omega⟩
  have hn := P.1
  have hT := P.2.1
  have Q := zwt_mkQ C E NC LD
  have hl := zl_ne_le (T := T) (n := n) (a := a) hn.2
  obtain ⟨g1, x8, y8, x, o1, o2, o3, o4, o5, o6⟩ := zwt_own Q hb eT P
  have eC := zwt_cs (N := N) (BB := 9 + b) (k := k) (x3 := nI base) eT hT hn.1 hn.2 (by omega) (by omega) o2 o3
  have G1 : ∀ z, g1.2.1 z = g.2.1 z := fun z => o4.2.1 z List.not_mem_nil
  have eM : f_Mo_watch_L16 (N' + 1) g (nI b) (nI base) = (if x8 < 0 then f_Mo_watch_E g1 x8 (nI base) else (if zd_in x8 8400 then (if (g.2.1 92 x8.toNatClampNeg) = 2 then (if (g.2.1 93 x8.toNatClampNeg) < 100000 then (zd_B (f_Mo_passes g1 46) fun p h2 => (if p = 0 then f_Mo_watch_E h2 x8 (nI base) else f_Mo_watch_L16 N' h2 (h2.2.1 93 x8.toNatClampNeg) (nI base + (h2.2.1 94 x8.toNatClampNeg)))) else f_Mo_watch_E g1 x8 (nI base)) else f_Mo_watch_E g1 x8 (nI base)) else none)) := by
    show f_Mo_watch_16 (f_Mo_watch_L16 N') g (nI b) (nI base) = _
    unfold f_Mo_watch_16
    rw [o1, yL_B, G1, G1]
  rw [eC, eM]
  rcases o6 with ⟨z1, z2⟩ | ⟨v, v1, v2, z1, z2⟩
  · subst z1
    subst z2
    refine zwt_Z1 w o4 ?_ ?_
    · unfold zwt_Kc
      rw [if_pos rfl]
    · unfold f_Mo_watch_E
      rw [if_pos (show (-1 : Int32) < 0 by decide), if_pos (show (-1 : Int32) < 0 by decide)]
  subst z1
  subst z2
  obtain ⟨ty, xx, s, ⟨t1, ⟨t2, t3⟩, ⟨t4, t5⟩, t6, t7⟩, ⟨t8, t9⟩, alt⟩ := zwt_var C E hb v1 v2
  have kB := (C.2.2 b hb).1
  have hxy : xx + s ≤ X b := by omega
  have i1 : ¬ nI v < 0 := mt (zc_tl (k := 0) (by decide) (by omega)).mp (by omega)
  have i2 : zd_in (nI v) 8400 := zi_in (by omega) (by omega)
  have i3 : (nI v).toNatClampNeg = v := nI_clamp (by omega)
  have i4 : zd_in (nI (32 + v)) 6000 := zi_in (by omega) (by omega)
  have i5 : (nI (32 + v)).toNatClampNeg = 32 + v := nI_clamp (by omega)
  have i6 : ¬ nI (32 + v) = -1 := zc_m1 (by omega)
  have ep : nI base + nI xx = nI (base + xx) := nI_add base xx
  have E_ : ∀ g2 : zs_H, f_Mo_watch_E g2 (nI v) (nI base) = (if (g2.2.1 92 v) = 2 then (if (g2.2.1 93 v) < 100000 then (some ((-1), g2)) else f_Mo_watchPin g2 (g2.2.1 93 v) (nI base + (g2.2.1 94 v))) else (if (g2.2.1 92 v) = 1 then zwt_I g2 (nI v) (nI base) else (if (g2.1 68 93) < (g2.1 68 94) then (some ((-1), g2)) else f_Mo_see g2 (g2.2.1 93 v) (nI base + (g2.2.1 94 v))))) := fun g2 => by
    unfold f_Mo_watch_E zwt_I
    rw [if_neg i1, if_pos i2, i3]
  unfold zwt_Kc
  rw [if_neg i6, if_pos i4, i5, if_neg i1, if_pos i2, i3, t2, ep]
  rcases alt with ⟨a1, a2, a3, a4⟩ | ⟨a1, a2, a3, a4, a5⟩ | ⟨B, a1, a2, a3, a4, a5⟩ | ⟨u, a1, a2, a3, a4, a5⟩
  · -- one cell
    rw [a1, if_pos (show (-1 : Int32) = -1 from rfl), a2, if_neg (show ¬ (0 : Int32) = 2 by decide), E_ g1, G1, G1, G1, a2, if_neg (show ¬ (0 : Int32) = 2 by decide), if_neg (show ¬ (0 : Int32) = 1 by decide), o5.2.2.2.2, o5.2.2.2.1, a3, t3, ep]
    by_cases q : zl_ne T n a < n
    · refine zwt_Z1 w o4 ?_ ?_
      · rw [if_neg (fun z => by have := (nI_eq (by omega) (by omega)).mp z; omega)]
      · rw [if_pos ((nI_ltI (by omega) (by omega)).mpr q)]
    · rw [if_neg (mt (nI_ltI (by omega) (by omega)).mp q), if_pos (congrArg nI (show zl_ne T n a = n by omega))]
      exact zwt_Zs cc o4 (by omega) (by omega) t1 rfl rfl
  · -- an ARRAY
    have t6' : (g1.2.1 97) v = (h.2.1 33) (32 + v) := by rw [G1]; exact t6
    have t5' : (g1.2.1 98) v = nI s := by rw [G1]; exact t5
    obtain ⟨r, g2, r1, r2, r3⟩ := zwt_idx (u := 32 + v) (v := v) (s := s) (base := nI base) eT o5 (by omega) (by omega) rfl t6' t4 t5' (by omega) t7
    have o42 : zfr [(68, 93), (68, 95)] [] [] g g2 := zfr_trans o4 (zfr_w r2 (by decide) (by decide) (by decide))
    rw [a1, if_neg (show ¬ (-2 : Int32) = -1 by decide), if_pos (show (-2 : Int32) = -2 from rfl), a2, if_neg (show ¬ (1 : Int32) = 2 by decide), E_ g1, G1, a2, if_neg (show ¬ (1 : Int32) = 2 by decide), if_pos (show (1 : Int32) = 1 from rfl), r1, Option.bind_some]
    rcases r3 with ⟨r4, r5⟩ | ⟨j, r4, r5, r6⟩
    · refine zwt_Z1 w o42 ?_ r5
      rw [if_pos r4]
    · rw [r5, if_neg (zc_m1 (by omega)), r6, G1, G1, a3, t3, ep, nI_add]
      exact zwt_Zs cc o42 (by omega) (by omega) t1 rfl rfl
  · -- a standard block
    have ST := zwt_ST C E
    have HS := C.1.1
    have c1 : ¬ nI B = -1 := zc_m1 (by omega)
    have c2 : ¬ nI B = -2 := yq_m2 (by omega)
    have c3 : ¬ nI (100000 + B) < 100000 := mt (zc_tl (k := 100000) (by decide) (by omega)).mp (by omega)
    rw [a2, if_neg c1, if_neg c2, a3, if_pos (show (2 : Int32) = 2 from rfl), a4, if_neg c3, E_ g1, G1, G1, G1, a3, if_pos (show (2 : Int32) = 2 from rfl), a4, if_neg c3, t3, ep]
    have eP : f_Mo_watchPin g1 (nI (100000 + B)) (nI (base + xx)) = (zd_B (f_Mo_passes g1 46) fun v2 h3 => (if v2 = 0 then (some ((-1), h3)) else zwt_R h3 (nI (100000 + B)) (nI (base + xx)))) := rfl
    rw [eP]
    rcases zwt_pas o5 46 with ⟨p1, p2, p3, p4⟩ | ⟨p1, p3, p4⟩
    · rw [p3, yL_B, if_neg (show ¬ (1 : Int32) = 0 by decide), if_neg (mt (nI_leI (by omega) (by omega)).mp (by omega)), if_pos (zi_in (by omega) (show zl_ne T n a < 16384 by omega)), nI_clamp (by omega), eT, if_pos p2, nI_1, nI_1]
      have hl2 := zl_ne_le (T := T) (n := n) (a := zl_ne T n a + 1) (by omega)
      obtain ⟨x', y', g3, s1, s2, s3, s4, s5⟩ := zwt_std (x2 := nI (base + xx)) HS.1 HS.2.2.1 LD NC HS.2.2.2.2.1 ST eT p4 a1
      obtain ⟨N, rfl⟩ : ∃ z, N = z + 1 := ⟨N - 1, by omega⟩
      have o43 : zfr [(68, 93), (68, 95)] [] [] g g3 := zfr_trans o4 (zfr_trans (zfr_F (by decide) zfr_rfl) s3)
      rw [zwt_cs (N := N) (BB := B) (k := k + 1) (x3 := nI (base + xx)) eT hT hn.1 (by omega) (by omega) (by omega) s1 s2]
      unfold zwt_Kc
      rcases s5 with ⟨s6, s7⟩ | ⟨v', w1, w2, w3, w4, w5⟩
      · refine zwt_Z1 w o43 ?_ s7
        rw [if_pos s6]
      · obtain ⟨m1, m2, m3, m4, m5⟩ := ST.2 v' w1
        obtain ⟨_, _, _, m6, m7, _⟩ := zp_T3 v' w1
        have m8 : zp_tN v' 4 < (zt_2.getD B 0).toNatClampNeg := of_decide_eq_true (zwt_T8 B a1 v' w1 w2 w3)
        rw [w4, if_neg (zc_m1 (by omega)), if_pos (zi_in (by omega) (show v' < 6000 by omega)), nI_clamp (n := v') (by omega), m3, if_pos (show (-1 : Int32) = -1 from rfl), m5, w5, m7, nI_add]
        by_cases q : zl_ne T n (zl_ne T n a + 1) < n
        · refine zwt_Z1 w o43 ?_ ?_
          · rw [if_neg (fun z => by have := (nI_eq (by omega) (by omega)).mp z; omega)]
          · rw [if_pos q]
        · rw [if_neg q, if_pos (congrArg nI (show zl_ne T n (zl_ne T n a + 1) = n by omega))]
          exact zwt_Zs cc o43 (by omega) (by omega) m4 rfl rfl
    · rw [p3, yL_B, if_pos (show (0 : Int32) = 0 from rfl)]
      refine zwt_Z1 w (zfr_F (by decide) o4) ?_ rfl
      by_cases q : n ≤ zl_ne T n a
      · rw [if_pos ((nI_leI (by omega) (by omega)).mpr q)]
      · rw [if_neg (mt (nI_leI (by omega) (by omega)).mp q), if_pos (zi_in (by omega) (show zl_ne T n a < 16384 by omega)), nI_clamp (by omega), eT, if_neg (fun z => p1 ⟨by omega, z⟩)]
  · -- a part
    have c1 : ¬ nI (9 + u) = -1 := zc_m1 (by omega)
    have c2 : ¬ nI (9 + u) = -2 := yq_m2 (by omega)
    have c3 : nI u < 100000 := (zc_tl (k := 100000) (by decide) (by omega)).mpr (by omega)
    rw [a2, if_neg c1, if_neg c2, a3, if_pos (show (2 : Int32) = 2 from rfl), a4, if_pos c3]
    rcases zwt_pas o5 46 with ⟨p1, p2, p3, p4⟩ | ⟨p1, p3, p4⟩
    · rw [p3, yL_B, if_neg (show ¬ (1 : Int32) = 0 by decide), if_neg (mt (nI_leI (by omega) (by omega)).mp (by omega)), if_pos (zi_in (by omega) (show zl_ne T n a < 16384 by omega)), nI_clamp (by omega), eT, if_pos p2, nI_1, nI_1]
      obtain ⟨g3, hg3⟩ : ∃ g3, g3 = zs_uF g1 68 93 (nI (zl_ne T n a + 1)) := ⟨_, rfl⟩
      have o43 : zfr [(68, 93), (68, 95)] [] [] g g3 := by rw [hg3]; exact zfr_F (by decide) o4
      rw [← hg3] at p4 ⊢
      have q3 : g3.2.1 93 v = nI u := by rw [o43.2.1 _ List.not_mem_nil]; exact a4
      have q4 : g3.2.1 94 v = nI xx := by rw [o43.2.1 _ List.not_mem_nil]; exact t3
      rw [q3, q4, ep]
      have E3 : yL_E h0 g0 h g3 := yL_Ef E zfr_rfl (zfr_w o43 (by decide) (by decide) (by decide))
      obtain ⟨r, h', g', y1, y2, y3, y4, y5⟩ := ih u a1 (base + xx) (zl_ne T n a + 1) (k + 1) N N' g3 (by omega) (by omega) (by omega) (by omega) (by omega) E3 (fun j hj => (cc j hj).trans (by rw [o43.2.1 _ List.not_mem_nil])) p4 (w.trans (o43.1 _ _ (by decide)).symm)
      exact ⟨r, h', g', y1, y2, y3, zfr_trans (zfr_w o43 (by decide) (by decide) (by decide)) y4, y5⟩
    · rw [p3, yL_B, if_pos (show (0 : Int32) = 0 from rfl), E_]
      refine zwt_Z1 w (zfr_F (by decide) o4) (g' := zs_uF g1 68 93 (nI (zl_ne T n a))) ?_ ?_
      · by_cases q : n ≤ zl_ne T n a
        · rw [if_pos ((nI_leI (by omega) (by omega)).mpr q)]
        · rw [if_neg (mt (nI_leI (by omega) (by omega)).mp q), if_pos (zi_in (by omega) (show zl_ne T n a < 16384 by omega)), nI_clamp (by omega), eT, if_neg (fun z => p1 ⟨by omega, z⟩)]
      · show (if (g1.2.1 92 v) = 2 then (if (g1.2.1 93 v) < 100000 then _ else _) else _) = _
        rw [G1, G1, a3, if_pos (show (2 : Int32) = 2 from rfl), a4, if_pos c3]
theorem yO_watch {t : Nat} (R : yO t h g) : ∃ v h' g', f_Pk_watch h = some (v, h') ∧ f_Mo_watch g = some (v, g') ∧ yO 0 h' g' ∧ zO_r h g h' g' := by
  have hz := zF_big
  obtain ⟨⟨⟨t1, t2, t3⟩, t4, t5⟩, NN, io, c, ⟨s1, s2⟩, o, D⟩ := id R
  unfold f_Pk_watch f_Mo_watch f_Mo_useTape
  rw [yL_B, t1, t2]
  obtain ⟨h1, hh1⟩ : ∃ h1, h1 = zs_uF h 0 1 0 := ⟨_, rfl⟩
  obtain ⟨g1, hg1⟩ : ∃ g1, g1 = zs_uF (zs_uF g 68 78 0) 68 94 (nI t) := ⟨_, rfl⟩
  have fin : ∀ h' g', zfr zwt_F1 [] [] h1 h' → zfr ((68, 93) :: zwt_F2) [] [] g1 g' → (h'.1 0 4) = (g'.1 68 87) → yO 0 h' g' ∧ zO_r h g h' g' := fun h' g' f1 f2 w => by
    have F1 : zfr [(0, 1), (0, 4)] [] [] h h' := zfr_trans (by rw [hh1]; exact zfr_F (by decide) zfr_rfl) (zfr_w f1 (by decide) (by decide) (by decide))
    have F2 : zfr [(68, 78), (68, 94), (68, 93), (68, 93), (68, 95), (68, 87)] [] [] g g' := zfr_trans (by rw [hg1]; exact zfr_F (by decide) (zfr_F (by decide) zfr_rfl)) (zfr_w f2 (by decide) (by decide) (by decide))
    have A1 : zfr yO_F1 yO_M1 [] h h' := zfr_w F1 (by decide) (by decide) (by decide)
    have A2 : zfr yO_F2 yO_M2 [] g g' := zfr_w F2 (by decide) (by decide) (by decide)
    refine ⟨⟨⟨⟨(f1.1 _ _ (by decide)).trans (by rw [hh1]; rfl), (f2.1 _ _ (by decide)).trans (by rw [hg1]; rfl), by decide⟩, fun i => by rw [F1.2.1 _ (by decide)]; exact t4 i, fun i hi => absurd hi (Nat.not_lt_zero i)⟩, yO_Nf NN A1 A2, fun i hi => ?_, yO_cf c A1 A2, ⟨w, ?_⟩, ?_, yO_Df D (zfr_w F1 (by decide) (by decide) (by decide)) (zfr_w F2 (by decide) (by decide) (by decide))⟩, zO_Cz F1, zO_Mz F2⟩
    · rw [F1.2.1 _ (by decide), F1.2.1 _ (by decide), F1.2.1 _ (by decide), F2.2.1 _ (by decide), F2.2.1 _ (by decide), F2.2.1 _ (by decide)]
      exact io i hi
    · exact (F1.1 _ _ (by decide)).trans (s2.trans (F2.1 _ _ (by decide)).symm)
    · obtain ⟨n, n1, n2, n3, n4⟩ := o
      exact ⟨n, n1, (F1.1 _ _ (by decide)).trans n2, (F2.1 _ _ (by decide)).trans n3, fun i hi => by rw [F1.2.1 _ (by decide), F2.2.1 _ (by decide)]; exact n4 i hi⟩
  have e82 : (zs_uF (zs_uF g 68 78 0) 68 94 (nI t)).1 68 82 = (g.1 68 82) := rfl
  rw [e82, ← hh1, ← hg1]
  have w1 : (h1.1 0 4) = (g1.1 68 87) := by rw [hh1, hg1]; exact s1
  rcases D with ⟨d1, u⟩ | ⟨d1, d2, d3, Z⟩
  · rw [u.1, d1, if_pos (show (0 : Int32) = 0 from rfl), if_pos (show (0 : Int32) = 0 from rfl)]
    exact ⟨-5, h1, g1, rfl, rfl, fin h1 g1 zfr_rfl zfr_rfl w1⟩
  · rw [d1, d2, if_neg (show ¬ (1 : Int32) = 0 by decide), if_neg (show ¬ (1 : Int32) = 0 by decide)]
    obtain ⟨LC, LM, nb, F, X, Y, K, T, w, h0, g0, S, M⟩ := yO_ZS Z
    obtain ⟨⟨⟨n0, n16⟩, C, p8, _⟩, E, L, _, NC, LD⟩ := S
    have px := yJ_px L.1
    have ePr : (h1.1 20 19) = nI (9 + (nb - 1)) := by
      rw [hh1, show 9 + (nb - 1) = 8 + nb by omega]
      exact L.2.2.1.2.2.2.1
    have eBl : (zs_uF g 68 78 0).1 68 33 - 1 = nI (nb - 1) := by
      show (g.1 68 33) - 1 = _
      rw [L.2.2.2.2.2.2.1]
      exact zi_sub (b := 1) n0
    obtain ⟨g2, hg2⟩ : ∃ g2, g2 = zs_uF g1 68 93 0 := ⟨_, rfl⟩
    have E2 : yL_E h0 g0 h1 g2 := yL_Ef E (by rw [hh1]; exact zfr_F (by decide) zfr_rfl) (by rw [hg2, hg1]; exact zfr_F (by decide) (zfr_F (by decide) (zfr_F (by decide) zfr_rfl)))
    have NC1 : zn_C h1 LC := by rw [hh1]; exact NC
    have P : zwt_P ((h.2.1 1)) t 0 g2 := by
      rw [hg2, hg1]
      exact ⟨⟨t3, Nat.zero_le _⟩, t4, t5, rfl, rfl⟩
    obtain ⟨v, h', g', y1, y2, y3, y4, y5⟩ := zwt_lp (T := (h.2.1 1)) (n := t) C n16 NC1 LD (by rw [hh1]; rfl) (nb - 1) 0 0 0 zF zF g2 (by omega) (by omega) (by omega) (by omega) (by omega) E2 (by rw [hh1, hg2, hg1]; exact M.1) P (by rw [hg2]; exact w1)
    rw [eBl, ← hg2]
    refine ⟨v, h', g', ?_, y2, fin h' g' y3 (zfr_trans (by rw [hg2]; exact zfr_F (by decide) zfr_rfl) (zfr_w y4 (by decide) (by decide) (by decide))) y5⟩
    unfold f_Pk_follow
    rw [ePr]
    have y1' : f_Pk_follow_L16 zF h1 (nI t) (nI (9 + (nb - 1))) 0 0 0 = some (v, h') := y1
    rw [y1', yL_B]
end ZWP
end
section
/-! CX: not too many bodies, not too many EXITs: the class's reader. -/
theorem zc_cnt_mb {P Q : Nat → Prop} : ∀ m, (∀ i, i < m → P i → Q i) → zc_cnt P m ≤ zc_cnt Q m := by
  intro m
  induction m with
  | zero => intro _; exact Nat.le_refl 0
  | succ m ih =>
    intro H
    have a := ih (fun i hi => H i (by omega))
    have b := H m (by omega)
    show zc_cnt P m + @ite Nat (P m) (Classical.propDecidable _) 1 0 ≤ zc_cnt Q m + @ite Nat (Q m) (Classical.propDecidable _) 1 0
    by_cases z : P m
    · rw [if_pos z, if_pos (b z)]; omega
    · rw [if_neg z]; omega
theorem zc_cnt_up {P : Nat → Prop} {m : Nat} : ∀ k, zc_cnt P m ≤ zc_cnt P (m + k) := by
  intro k
  induction k with
  | zero => exact Nat.le_refl _
  | succ k ih =>
    show _ ≤ zc_cnt P (m + k) + @ite Nat (P (m + k)) (Classical.propDecidable _) 1 0
    omega
abbrev zcx_T : Type := (Nat → Nat) × (Nat → Nat) × Nat
def zcx_E (E : zcx_T) : Prop := (∀ j, j < E.2.2 → E.2.1 j + 1 ≤ E.2.1 (j + 1) ∧ (128 ≤ E.1 j → E.2.1 j + 2 ≤ E.2.1 (j + 1)) ∧ (E.1 j = 156 → E.2.1 j + 4 ≤ E.2.1 (j + 1))) ∧ E.2.2 ≤ 10240 ∧ ∀ j, j ≤ E.2.2 → E.1 j < 1000 ∧ E.2.1 j ≤ 10240
noncomputable def zcx_c (k s : Nat) (h : zs_H) : Nat := zc_cnt (fun i => h.2.1 13 i = nI k) s
def zcx_P (E : zcx_T) (a : Int) (h : zs_H) : Prop := zcx_E E ∧ (h.1 8 3 = nI (E.2.2 + 1) ∧ (∀ j, j ≤ E.2.2 → h.2.1 9 j = nI (E.1 j)) ∧ ∀ j, j ≤ E.2.2 → E.1 j = 7 → ¬ h.2.1 11 j = 0) ∧ ∃ s, h.1 12 6 = nI s ∧ s ≤ 32784 ∧ (¬ h.1 19 3 = 0 ∨ ∃ j, j ≤ E.2.2 ∧ h.1 19 4 = nI j ∧ h.1 19 5 = nI (E.1 j) ∧ 2 * (zcx_c 11 s h : Int) + 4 * (zcx_c 20 s h : Int) + a ≤ (E.2.1 j : Int))
def zcx_1 (E : zcx_T) (a : Int) (o : Option zs_H) : Prop := ∀ h, o = some h → zcx_P E a h
def zcx_2 (E : zcx_T) (a : Int) (o : Option (Int32 × zs_H)) : Prop := ∀ x h, o = some (x, h) → zcx_P E a h
def zcx_kb (x : Int32) : Bool := decide (¬ vp_nar .byte (x.toInt8.toInt32) = nI 11) && decide (¬ vp_nar .byte (x.toInt8.toInt32) = nI 20)
def zcx_k (x : Int32) : Prop := zcx_kb x = true
theorem zcx_kI {x : Int32} (h : zcx_kb x = true) : zcx_k x := h
theorem zcx_ke {x : Int32} (h : zcx_k x) : ¬ vp_nar .byte (x.toInt8.toInt32) = nI 11 ∧ ¬ vp_nar .byte (x.toInt8.toInt32) = nI 20 := by
  unfold zcx_k zcx_kb at h
  rw [Bool.and_eq_true] at h
  exact ⟨of_decide_eq_true h.1, of_decide_eq_true h.2⟩
section ZXS
variable {E : zcx_T} {a b : Int}
theorem zcx_1s {h : zs_H} (H : zcx_P E a h) : zcx_1 E a (some h) := fun h' e => by cases e; exact H
theorem zcx_2s {h : zs_H} {x : Int32} (H : zcx_P E a h) : zcx_2 E a (some (x, h)) := fun x' h' e => by cases e; exact H
theorem zcx_1n : zcx_1 E a none := fun h' e => by cases e
theorem zcx_2n : zcx_2 E a none := fun x h' e => by cases e
theorem zcx_1i {c : Prop} [Decidable c] {A B : Option zs_H} (p : c → zcx_1 E a A) (q : ¬ c → zcx_1 E a B) : zcx_1 E a (if c then A else B) := by
  by_cases h : c
  · rw [if_pos h]; exact p h
  · rw [if_neg h]; exact q h
theorem zcx_2i {c : Prop} [Decidable c] {A B : Option (Int32 × zs_H)} (p : c → zcx_2 E a A) (q : ¬ c → zcx_2 E a B) : zcx_2 E a (if c then A else B) := by
  by_cases h : c
  · rw [if_pos h]; exact p h
  · rw [if_neg h]; exact q h
theorem zcx_b2 {A : Option zs_H} {F : zs_H → Option (Int32 × zs_H)} (p : zcx_1 E b A) (q : ∀ h, zcx_P E b h → zcx_2 E a (F h)) : zcx_2 E a (A.bind F) := by
  cases A with
  | none => exact zcx_2n
  | some h => exact q h (p h rfl)
theorem zcx_b1 {A : Option zs_H} {F : zs_H → Option zs_H} (p : zcx_1 E b A) (q : ∀ h, zcx_P E b h → zcx_1 E a (F h)) : zcx_1 E a (A.bind F) := by
  cases A with
  | none => exact zcx_1n
  | some h => exact q h (p h rfl)
theorem zcx_B2 {A : Option (Int32 × zs_H)} {F : Int32 → zs_H → Option (Int32 × zs_H)} (p : zcx_2 E b A) (q : ∀ x h, zcx_P E b h → zcx_2 E a (F x h)) : zcx_2 E a (zd_B A F) := by
  cases A with
  | none => exact zcx_2n
  | some p' => exact q p'.1 p'.2 (p p'.1 p'.2 rfl)
theorem zcx_b2e {A : Option zs_H} {F : zs_H → Option (Int32 × zs_H)} (p : zcx_1 E a A) (q : ∀ h, zcx_P E a h → zcx_2 E a (F h)) : zcx_2 E a (A.bind F) := zcx_b2 p q
theorem zcx_b1e {A : Option zs_H} {F : zs_H → Option zs_H} (p : zcx_1 E a A) (q : ∀ h, zcx_P E a h → zcx_1 E a (F h)) : zcx_1 E a (A.bind F) := zcx_b1 p q
theorem zcx_B2e {A : Option (Int32 × zs_H)} {F : Int32 → zs_H → Option (Int32 × zs_H)} (p : zcx_2 E a A) (q : ∀ x h, zcx_P E a h → zcx_2 E a (F x h)) : zcx_2 E a (zd_B A F) := zcx_B2 p q
theorem zcx_le {h : zs_H} (H : zcx_P E a h) (hb : b ≤ a) : zcx_P E b h := by
  obtain ⟨hE, t, s, s1, s2, alt⟩ := H
  refine ⟨hE, t, s, s1, s2, ?_⟩
  rcases alt with q | ⟨j, j1, j2, j3, j4⟩
  · exact .inl q
  · exact .inr ⟨j, j1, j2, j3, by omega⟩
theorem zcx_2le {o : Option (Int32 × zs_H)} (H : zcx_2 E a o) (hb : b ≤ a) : zcx_2 E b o := fun x h e => zcx_le (H x h e) hb
theorem zcx_big {h : zs_H} (H : zcx_P E a h) (ha : 10240 < a) : zcx_P E b h := by
  obtain ⟨hE, t, s, s1, s2, alt⟩ := H
  refine ⟨hE, t, s, s1, s2, ?_⟩
  rcases alt with q | ⟨j, j1, j2, j3, j4⟩
  · exact .inl q
  · have := (hE.2.2 j j1).2
    omega
theorem zcx_uF {h : zs_H} {k j : Nat} {v : Int32} (hk : ¬ (k, j) ∈ [(8, 3), (12, 6), (19, 3), (19, 4), (19, 5)]) (H : zcx_P E a h) : zcx_P E a (zs_uF h k j v) := by
  have ne : ∀ p : Nat × Nat, p ∈ [(8, 3), (12, 6), (19, 3), (19, 4), (19, 5)] → (zs_uF h k j v).1 p.1 p.2 = h.1 p.1 p.2 := fun p hp => by
    show (if p.1 = k ∧ p.2 = j then v else h.1 p.1 p.2) = _
    rw [if_neg (fun z => hk (by rw [← z.1, ← z.2]; exact hp))]
  obtain ⟨hE, ⟨t1, t2, t3⟩, s, s1, s2, alt⟩ := H
  refine ⟨hE, ⟨(ne (8, 3) (by decide)).trans t1, t2, t3⟩, s, (ne (12, 6) (by decide)).trans s1, s2, ?_⟩
  rcases alt with q | ⟨j', j1, j2, j3, j4⟩
  · exact .inl (fun z => q ((ne (19, 3) (by decide)).symm.trans z))
  · exact .inr ⟨j', j1, (ne (19, 4) (by decide)).trans j2, (ne (19, 5) (by decide)).trans j3, j4⟩
theorem zcx_uM {h : zs_H} {k j : Nat} {v : Int32} (hk : ¬ k ∈ [9, 11, 13]) (H : zcx_P E a h) : zcx_P E a (zs_uM h k j v) := by
  have ne : ∀ m : Nat, m ∈ [9, 11, 13] → (zs_uM h k j v).2.1 m = h.2.1 m := fun m hm => by
    funext i
    show (if m = k ∧ i = j then v else h.2.1 m i) = _
    rw [if_neg (fun z => hk (by rw [← z.1]; exact hm))]
  obtain ⟨hE, ⟨t1, t2, t3⟩, s, s1, s2, alt⟩ := H
  refine ⟨hE, ⟨t1, by rw [ne 9 (by decide)]; exact t2, by rw [ne 11 (by decide)]; exact t3⟩, s, s1, s2, ?_⟩
  unfold zcx_c at alt ⊢
  rw [ne 13 (by decide)]
  exact alt
theorem zcx_uK {h : zs_H} {j : Nat} {v : Int32} (hv : ¬ v = nI 11 ∧ ¬ v = nI 20) (H : zcx_P E a h) : zcx_P E a (zs_uM h 13 j v) := by
  have ne : ∀ m : Nat, m ∈ [9, 11] → (zs_uM h 13 j v).2.1 m = h.2.1 m := fun m hm => by
    funext i
    show (if m = 13 ∧ i = j then v else h.2.1 m i) = _
    rw [if_neg (fun z => by
      have : ∀ m, m ∈ [9, 11] → ¬ m = 13 := by decide
      exact this m hm z.1)]
  obtain ⟨hE, ⟨t1, t2, t3⟩, s, s1, s2, alt⟩ := H
  refine ⟨hE, ⟨t1, by rw [ne 9 (by decide)]; exact t2, by rw [ne 11 (by decide)]; exact t3⟩, s, s1, s2, ?_⟩
  rcases alt with q | ⟨j', j1, j2, j3, j4⟩
  · exact .inl q
  · have key : ∀ k, ¬ v = nI k → zcx_c k s (zs_uM h 13 j v) ≤ zcx_c k s h := fun k hk => zc_cnt_mb s (fun i _ z => by
      have z' : (if 13 = 13 ∧ i = j then v else h.2.1 13 i) = nI k := z
      by_cases q : i = j
      · rw [if_pos ⟨rfl, q⟩] at z'; exact absurd z' hk
      · rw [if_neg (fun w => q w.2)] at z'; exact z')
    have k1 := key 11 hv.1
    have k2 := key 20 hv.2
    exact .inr ⟨j', j1, j2, j3, by omega⟩
theorem zcx_addc {h h' : zs_H} {k s p : Nat} {v : Int32} (hp : p ≤ s) (e : ∀ i, h'.2.1 13 i = if i = p then v else h.2.1 13 i) : zcx_c k (p + 1) h' ≤ zcx_c k s h + (if v = nI k then 1 else 0) := by
  have e1 : zc_cnt (fun i => h'.2.1 13 i = nI k) p ≤ zc_cnt (fun i => h.2.1 13 i = nI k) p := zc_cnt_mb p (fun i hi z => by
    have z' : h'.2.1 13 i = nI k := z
    rw [e, if_neg (by omega)] at z'
    exact z')
  have e2 : zc_cnt (fun i => h.2.1 13 i = nI k) p ≤ zc_cnt (fun i => h.2.1 13 i = nI k) s := by
    have := zc_cnt_up (P := fun i => h.2.1 13 i = nI k) (m := p) (s - p)
    rw [show p + (s - p) = s by omega] at this
    exact this
  have e3 : h'.2.1 13 p = v := by rw [e, if_pos rfl]
  unfold zcx_c
  show zc_cnt (fun i => h'.2.1 13 i = nI k) p + @ite Nat (h'.2.1 13 p = nI k) (Classical.propDecidable _) 1 0 ≤ _
  by_cases z : v = nI k
  · rw [if_pos (e3.trans z), if_pos z]; omega
  · rw [if_neg (fun q => z (e3.symm.trans q)), if_neg z]; omega
theorem zcx_add {h : zs_H} {x1 x2 x3 : Int32} (H : zcx_P E a h) (hb : b + 2 * (if vp_nar .byte (x1.toInt8.toInt32) = nI 11 then 1 else 0) + 4 * (if vp_nar .byte (x1.toInt8.toInt32) = nI 20 then 1 else 0) ≤ a) : zcx_2 E b (f_Tr_add h x1 x2 x3) := by
  intro x h' e
  obtain ⟨hE, ⟨t1, t2, t3⟩, s, s1, s2, alt⟩ := H
  unfold f_Tr_add at e
  rw [s1, zq_min s2, if_pos (zi_in (by omega) (by omega)), nI_clamp (by omega), nI_1] at e
  have key : ∀ k, zcx_c k (min s 32783 + 1) h' ≤ zcx_c k s h + (if vp_nar .byte (x1.toInt8.toInt32) = nI k then 1 else 0) := fun k => zcx_addc (by omega) (fun i => by
    cases e
    by_cases ei : i = min s 32783
    · subst ei; simp [zu_FM, zu_MM]
    · simp [zu_FM, zu_MM, ei])
  have k1 := key 11
  have k2 := key 20
  have le : 2 * (zcx_c 11 (min s 32783 + 1) h' : Int) + 4 * (zcx_c 20 (min s 32783 + 1) h' : Int) + b ≤ 2 * (zcx_c 11 s h : Int) + 4 * (zcx_c 20 s h : Int) + a := by
    by_cases c1 : vp_nar .byte (x1.toInt8.toInt32) = nI 11
    · rw [if_pos c1] at k1 hb
      by_cases c2 : vp_nar .byte (x1.toInt8.toInt32) = nI 20
      · rw [if_pos c2] at k2 hb; omega
      · rw [if_neg c2] at k2 hb; omega
    · rw [if_neg c1] at k1 hb
      by_cases c2 : vp_nar .byte (x1.toInt8.toInt32) = nI 20
      · rw [if_pos c2] at k2 hb; omega
      · rw [if_neg c2] at k2 hb; omega
  refine ⟨hE, ?_, min s 32783 + 1, ?_, by omega, ?_⟩
  · cases e; exact ⟨t1, t2, t3⟩
  · cases e; rfl
  · rcases alt with q | ⟨j, j1, j2, j3, j4⟩
    · left
      cases e; exact q
    · right
      refine ⟨j, j1, ?_, ?_, by omega⟩
      · cases e; exact j2
      · cases e; exact j3
theorem cx_f_Tr_add {h : zs_H} {x1 x2 x3 : Int32} (hk : zcx_k x1) (H : zcx_P E a h) : zcx_2 E a (f_Tr_add h x1 x2 x3) := zcx_add H (by rw [if_neg (zcx_ke hk).1, if_neg (zcx_ke hk).2]; omega)
theorem zcx_bad {h : zs_H} {v w : Int32} (H : zcx_P E a h) (hv : ¬ v = 0) : zcx_P E b (zs_uF (zs_uF (zs_uF h 19 3 v) 19 0 w) 19 5 0) := by
  obtain ⟨hE, t, s, s1, s2, alt⟩ := H
  exact ⟨hE, t, s, s1, s2, .inl hv⟩
theorem zcx_t74 {h : zs_H} (H : zcx_P E a h) : zcx_1 E b (f_Ps_take_74 h) := by
  obtain ⟨hE, ⟨t1, t2, t3⟩, s, s1, s2, alt⟩ := id H
  unfold f_Ps_take_74 f_Ps_take_108 f_Ps_take_119
  by_cases c1 : h.1 19 3 = 0
  · rw [if_pos c1]
    rcases alt with q | ⟨j, j1, j2, j3, j4⟩
    · exact absurd c1 q
    have hj := hE.2.1
    by_cases c2 : h.1 19 5 = 7
    · rw [if_pos c2, j2]
      have e7 : E.1 j = 7 := by
        have := (hE.2.2 j j1).1
        exact (zc_eq (k := 7) (by decide) (by omega)).mp (j3.symm.trans c2)
      rw [if_pos (zi_in (by omega) (show j < 16385 by omega)), nI_clamp (by omega)]
      exact zcx_1s (zcx_bad H (t3 j j1 e7))
    · rw [if_neg c2]
      exact zcx_1s (zcx_bad H (by decide))
  · rw [if_neg c1]
    refine zcx_1s ⟨hE, ⟨t1, t2, t3⟩, s, s1, s2, .inl c1⟩
theorem zcx_take {h : zs_H} {x : Int32} {w : Int} (H : zcx_P E a h) (hw : ∀ j, j < E.2.2 → nI (E.1 j) = x → (E.2.1 j : Int) + w ≤ (E.2.1 (j + 1) : Int)) : zcx_1 E (a + w) (f_Ps_take h x) := by
  obtain ⟨hE, ⟨t1, t2, t3⟩, s, s1, s2, alt⟩ := id H
  unfold f_Ps_take
  by_cases c1 : h.1 19 3 = 0
  · rw [if_pos c1]
    rcases alt with q | ⟨j, j1, j2, j3, j4⟩
    · exact absurd c1 q
    have hj := hE.2.1
    by_cases c2 : h.1 19 5 = x
    · rw [if_pos c2, t1, j2, nI_1]
      by_cases c3 : j < E.2.2
      · rw [if_neg (mt (nI_leI (by omega) (by omega)).mp (by omega)), if_pos (zi_in (by omega) (show j + 1 < 16385 by omega)), nI_clamp (by omega), t2 (j + 1) (by omega)]
        have := hw j c3 (j3.symm.trans c2)
        refine zcx_1s ⟨hE, ⟨t1, t2, t3⟩, s, s1, s2, .inr ⟨j + 1, by omega, rfl, rfl, ?_⟩⟩
        show 2 * (zcx_c 11 s h : Int) + 4 * (zcx_c 20 s h : Int) + (a + w) ≤ (E.2.1 (j + 1) : Int)
        omega
      · rw [if_pos ((nI_leI (by omega) (by omega)).mpr (by omega))]
        exact zcx_t74 H
    · rw [if_neg c2]; exact zcx_t74 H
  · rw [if_neg c1]; exact zcx_t74 H
theorem cx_take1 {h : zs_H} {x : Int32} (H : zcx_P E a h) : zcx_1 E (a + 1) (f_Ps_take h x) := zcx_take H (fun j hj _ => by have := (H.1.1 j hj).1; omega)
theorem cx_f_Ps_take {h : zs_H} {x : Int32} (H : zcx_P E a h) : zcx_1 E a (f_Ps_take h x) := fun h' e => zcx_le (cx_take1 H h' e) (by omega)
theorem cx_takeK {h : zs_H} {x : Int32} (hx : (128 : Int32) ≤ x) (H : zcx_P E a h) : zcx_1 E (a + 2) (f_Ps_take h x) := zcx_take H (fun j hj e => by
  have l := (H.1.2.2 j (by omega)).1
  have : 128 ≤ E.1 j := (zc_le (k := 128) (by decide) (by omega)).mp (by rw [e]; exact hx)
  have := (H.1.1 j hj).2.1 this
  omega)
theorem cx_takeX {h : zs_H} (H : zcx_P E a h) : zcx_1 E (a + 4) (f_Ps_take h 156) := zcx_take H (fun j hj e => by
  have l := (H.1.2.2 j (by omega)).1
  have : E.1 j = 156 := (zc_eq (k := 156) (by decide) (by omega)).mp e
  have := (H.1.1 j hj).2.2 this
  omega)
theorem cx_f_Ps_deepen {h : zs_H} (H : zcx_P E a h) : zcx_1 E a (f_Ps_deepen h) := by
  unfold f_Ps_deepen f_Ps_deepen_35
  refine zcx_1i (fun _ => zcx_1s (zcx_uF (by decide) H)) (fun _ => zcx_1i (fun _ => ?_) (fun _ => zcx_1s (zcx_uF (by decide) H)))
  exact zcx_1s (zcx_uF (by decide) (zcx_bad H (by decide)))
end ZXS
end
section
/-! CX: the class's reader, part 1. -/

theorem cx_f_Ps_simpleType_61 {E : zcx_T} {a : Int} {h : zs_H} {x1 : Int32} {y0 : Int32}  (H : zcx_P E a h) : zcx_2 E a (f_Ps_simpleType_61 h x1 y0) := by
  unfold f_Ps_simpleType_61
  exact (zcx_b2e (cx_f_Ps_take H) (fun h2 H_h2 => (zcx_2s H_h2)))
theorem cx_f_Ps_simpleType_47 {E : zcx_T} {a : Int} {h : zs_H} {x1 : Int32} {y0 : Int32}  (H : zcx_P E a h) : zcx_2 E a (f_Ps_simpleType_47 h x1 y0) := by
  unfold f_Ps_simpleType_47
  exact (zcx_2i (fun _ => (cx_f_Ps_simpleType_61  H)) (fun _ => (cx_f_Ps_simpleType_61  H)))
theorem cx_f_Ps_simpleType_46 {E : zcx_T} {a : Int} {h : zs_H} {x1 : Int32}  (H : zcx_P E a h) : zcx_2 E a (f_Ps_simpleType_46 h x1) := by
  unfold f_Ps_simpleType_46
  exact (cx_f_Ps_simpleType_47  H)
theorem cx_f_Ps_simpleType {E : zcx_T} {a : Int} {h : zs_H}  (H : zcx_P E a h) : zcx_2 E a (f_Ps_simpleType h) := by
  unfold f_Ps_simpleType
  exact (zcx_B2e (cx_f_Tr_add (zcx_kI (by decide +kernel)) H) (fun v2 h3 H_h3 => (zcx_2i (fun _ => (cx_f_Ps_simpleType_46  H_h3)) (fun _ => (zcx_2i (fun _ => (cx_f_Ps_simpleType_46  H_h3)) (fun _ => (cx_f_Ps_simpleType_47  H_h3)))))))
theorem cx_f_Tr_hang {E : zcx_T} {a : Int} {h : zs_H} {x1 : Int32} {x2 : Int32} {x3 : Int32}  (H : zcx_P E a h) : zcx_2 E a (f_Tr_hang h x1 x2 x3) := by
  unfold f_Tr_hang
  exact (zcx_2i (fun _ => (zcx_2i (fun _ => (zcx_2s (zcx_uM (by decide) H))) (fun _ => zcx_2n))) (fun _ => (zcx_2i (fun _ => (zcx_2s (zcx_uM (by decide) H))) (fun _ => zcx_2n))))
theorem cx_f_Ps_constant_45 {E : zcx_T} {a : Int} {h : zs_H} {y0 : Int32} {y1 : Int32} {y2 : Int32} (Hk : zcx_k y2)  (H : zcx_P E a h) : zcx_2 E a (f_Ps_constant_45 h y0 y1 y2) := by
  unfold f_Ps_constant_45
  exact (zcx_B2e (cx_f_Tr_add Hk H) (fun v2 h3 H_h3 => (zcx_b2e (cx_f_Ps_take H_h3) (fun h5 H_h5 => (zcx_2s H_h5)))))
theorem cx_f_Ps_constant_20 {E : zcx_T} {a : Int} {h : zs_H}  (H : zcx_P E a h) : zcx_2 E a (f_Ps_constant_20 h) := by
  unfold f_Ps_constant_20
  exact (zcx_2i (fun _ => (cx_f_Ps_constant_45 (zcx_kI (by decide +kernel)) H)) (fun _ => (cx_f_Ps_constant_45 (zcx_kI (by decide +kernel)) H)))
theorem cx_f_Ps_constant_139 {E : zcx_T} {a : Int} {h : zs_H} {x1 : Int32} {y0 : Int32} {y1 : Int32}  (H : zcx_P E a h) : zcx_2 E a (f_Ps_constant_139 h x1 y0 y1) := by
  unfold f_Ps_constant_139
  exact (zcx_2i (fun _ => (zcx_b2e (cx_f_Ps_take (zcx_uM (by decide) H)) (fun h3 H_h3 => (zcx_2s H_h3)))) (fun _ => zcx_2n))
theorem cx_f_Ps_constant_99 {E : zcx_T} {a : Int} {h : zs_H} {x1 : Int32} {x2 : Int32}  (H : zcx_P E a h) : zcx_2 E a (f_Ps_constant_99 h x1 x2) := by
  unfold f_Ps_constant_99
  exact (zcx_2i (fun _ => (zcx_2i (fun _ => (cx_f_Ps_constant_139  H)) (fun _ => zcx_2n))) (fun _ => (zcx_2i (fun _ => (cx_f_Ps_constant_139  H)) (fun _ => zcx_2n))))
theorem cx_f_Ps_constant_88 {E : zcx_T} {a : Int} {h : zs_H} {x1 : Int32} {y0 : Int32}  (H : zcx_P E a h) : zcx_2 E a (f_Ps_constant_88 h x1 y0) := by
  unfold f_Ps_constant_88
  exact (zcx_2i (fun _ => (cx_f_Ps_constant_99  H)) (fun _ => (zcx_b2e (cx_f_Ps_take H) (fun h3 H_h3 => (cx_f_Ps_constant_99  H_h3)))))
theorem cx_f_Ps_constant {E : zcx_T} {a : Int} {h : zs_H}  (H : zcx_P E a h) : zcx_2 E a (f_Ps_constant h) := by
  unfold f_Ps_constant
  exact (zcx_2i (fun _ => (cx_f_Ps_constant_20  H)) (fun _ => (zcx_2i (fun _ => (cx_f_Ps_constant_20  H)) (fun _ => (zcx_B2e (cx_f_Tr_add (zcx_kI (by decide +kernel)) H) (fun v4 h5 H_h5 => (zcx_2i (fun _ => (cx_f_Ps_constant_88  H_h5)) (fun _ => (cx_f_Ps_constant_88  H_h5)))))))))
section ZXC
variable {E : zcx_T} {a : Int} {h : zs_H}
theorem cxp_45 {y0 y1 y2 : Int32} (hk : zcx_k y2) (H : zcx_P E a h) : zcx_2 E (a + 1) (f_Ps_constant_45 h y0 y1 y2) := by
  unfold f_Ps_constant_45
  refine zcx_B2 (cx_f_Tr_add hk H) ?_
  intro x h' H'
  refine zcx_b2 (cx_take1 H') ?_
  intro h2 H2
  exact zcx_2s H2
theorem cxp_139 {x1 y0 y1 : Int32} (H : zcx_P E a h) : zcx_2 E (a + 1) (f_Ps_constant_139 h x1 y0 y1) := by
  unfold f_Ps_constant_139
  refine zcx_2i (fun _ => ?_) (fun _ => zcx_2n)
  refine zcx_b2 (cx_take1 (zcx_uM (by decide) H)) ?_
  intro h2 H2
  exact zcx_2s H2
theorem cxp_99 {x1 x2 : Int32} (H : zcx_P E a h) : zcx_2 E (a + 1) (f_Ps_constant_99 h x1 x2) := by
  unfold f_Ps_constant_99
  exact zcx_2i (fun _ => zcx_2i (fun _ => cxp_139 H) (fun _ => zcx_2n)) (fun _ => zcx_2i (fun _ => cxp_139 H) (fun _ => zcx_2n))
theorem cxp_constant (H : zcx_P E a h) : zcx_2 E (a + 1) (f_Ps_constant h) := by
  have c20 : zcx_2 E (a + 1) (f_Ps_constant_20 h) := by
    unfold f_Ps_constant_20
    exact zcx_2i (fun _ => cxp_45 (zcx_kI (by decide +kernel)) H) (fun _ => cxp_45 (zcx_kI (by decide +kernel)) H)
  unfold f_Ps_constant
  refine zcx_2i (fun _ => c20) (fun _ => zcx_2i (fun _ => c20) (fun _ => ?_))
  refine zcx_B2 (cx_f_Tr_add (zcx_kI (by decide +kernel)) H) ?_
  intro v4 h5 H5
  have c88 : ∀ y0, zcx_2 E (a + 1) (f_Ps_constant_88 h5 v4 y0) := fun y0 => by
    unfold f_Ps_constant_88
    refine zcx_2i (fun _ => cxp_99 H5) (fun _ => ?_)
    refine zcx_b2 (cx_f_Ps_take H5) ?_
    intro h3 H3
    exact cxp_99 H3
  exact zcx_2i (fun _ => c88 _) (fun _ => c88 _)
end ZXC
end
