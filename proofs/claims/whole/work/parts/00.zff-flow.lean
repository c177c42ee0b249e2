/-! Both readers in step: one thing behind the other. -/
/-- both end: in step with X, or behind the same fault -/
def zk_G (h0 g0 : zs_H) (T : Nat → Int32) (n K : Nat) (LC : List (List Int32)) (M0 M O : Nat) (X : Int32 → zs_H → zs_H → Prop) (A : Option (Int32 × zs_H)) (B : Option zs_H) : Prop := ∃ x h' g', A = some (x, h') ∧ B = some g' ∧ (X x h' g' ∨ zk_Z h0 g0 T n K LC M0 M O x h' g')
theorem zk_bK {h0 g0 h g : zs_H} {T : Nat → Int32} {n K : Nat} {LC LM : List (List Int32)} {j d s m o q : Nat} (H : zk_L h0 g0 T n K LC h g LM j d s m o q) : j ≤ K ∧ K ≤ 10240 ∧ s ≤ 32784 := ⟨H.2.2.2.2.1, by have := H.2.2.1.2.1; have := H.2.2.1.2.2.1; omega, H.2.2.2.1.2.2.2.2.2.2⟩
/-- the model makes a node, whatever its value -/
theorem zk_madd0 {h0 g0 h g : zs_H} {T : Nat → Int32} {n K : Nat} {LC LM : List (List Int32)} {j d s m o q : Nat} (H : zk_L h0 g0 T n K LC h g LM j d s m o q) {b kn : Nat} {kv p v : Int32} (hm : m < 33500) (hb : b < m) (hk : kv = nI kn) : ∃ g', f_Mo_add g (nI b) kv p v = some (nI m, g') ∧ zk_L h0 g0 T n K LC h g' LM j d s (m + 1) o q ∧ (g'.1 68 6) = (g.1 68 6) := by
  have m14 := H.2.2.2.2.2.2.2.2.2.2.2.2.2.2.2.2.2.2.1
  have m15 := H.2.2.2.2.2.2.2.2.2.2.2.2.2.2.2.2.2.2.2.1
  obtain ⟨g1, e1, q1⟩ := zx_node (p := p) (v := v) m14 hm hk
  obtain ⟨g2, e2, q2, q3⟩ := zx_hang (a := m) (b := b) (m := m + 1) (by omega) (by omega) (by omega) (zx_W_N m15 q1)
  have f1 := q1.2.2.2.2.2.2.2.2
  have f2 := q2.2.2.2
  have f : zfr [(68, 14)] [72, 73, 74, 75, 76, 77, 78] [] g g2 := zfr_trans f1 (zfr_w f2 (by decide) (by decide) (by decide))
  refine ⟨g2, ?_, zk_mf H f ((f2.1 _ _ (by decide)).trans q1.1) q3, f.1 _ _ (by decide)⟩
  unfold f_Mo_add
  rw [e1]
  show (f_Mo_hang g1 (nI m) (nI b)).bind _ = _
  rw [e2]; rfl
theorem zk_notE {h0 g0 h g : zs_H} {T : Nat → Int32} {n K : Nat} {LC LM : List (List Int32)} {j d s m o q : Nat} (H : zk_L h0 g0 T n K LC h g LM j d s m o q) (h6 : ¬ (h.1 19 5) = 6) : ¬ (zl_at T n j).1 = 0 := by
  intro z
  exact h6 (((zk_kind H).2.2.2).mp (by rw [H.2.2.2.2.2.2.2.2.2.2.1, z]; rfl))
section ZFF
variable {h0 g0 h g g1 h' g' : zs_H} {T : Nat → Int32} {n K : Nat} {LC LM LM' : List (List Int32)} {j d s m o q b kd j' d' s' m' e st D f M0 M : Nat} {p v y : Int32} {u : zt_T} {X : Int32 → zs_H → zs_H → Prop}
theorem zk_Ib (I : zk_I h0 g0 T n K LC LM j s m o q b kd p v h g g1 u y LM' j' d' s' m' e st D f h' g') : j ≤ j' ∧ j' ≤ K ∧ K ≤ 10240 ∧ s < s' ∧ m < m' ∧ s' + e ≤ s + 1 + 2 * (j' - j) ∧ m' + e ≤ m + 1 + 2 * (j' - j) ∧ b < m ∧ s < 32784 ∧ m < 33500 := by
  have a := zk_bK I.1
  have c := I.2.2.2.2.2.1
  omega
theorem zk_Iv (I : zk_I h0 g0 T n K LC LM j s m o q b kd p v h g g1 u y LM' j' d' s' m' e st D f h' g') : zq_v (nI s) := ⟨s, (zk_Ib I).2.2.2.2.2.2.2.2.1, rfl⟩
theorem zk_Gf {A : Option (Int32 × zs_H)} {B : Option zs_H} {φ w O : Nat} (a : zw A (fun p => zq_v p.1 ∧ zq_Z h0 T n K LC φ w p.2)) (c : zw B (fun g' => ∃ m', (M0 ≤ m' ∧ m' ≤ M) ∧ zx_B g0 T n φ w m' O g')) : zk_G h0 g0 T n K LC M0 M O X A B := zk_fin a c
/-- a token that is wanted -/
theorem zk_sA (I : zk_I h0 g0 T n K LC LM j s m o q b kd p v h g g1 u y LM' j' d' s' m' e st D f h' g') {A B : Option zs_H} {x : Int32} {FA : zs_H → Option (Int32 × zs_H)} {FB : zs_H → Option zs_H} (R : ∃ h2 g2, A = some h2 ∧ B = some g2 ∧ (zk_B h0 g0 T n K LC m' o h2 g2 ∨ ((h'.1 19 5) = x ∧ zk_on h0 g0 T n K LC LM' j' d' s' m' o q h' g' h2 g2))) (bad : ∀ φ w h2 g2, zq_Z h0 T n K LC φ w h2 → zx_B g0 T n φ w m' o g2 → zk_G h0 g0 T n K LC M0 M o X (FA h2) (FB g2)) (good : ∀ h2 g2 LM2, zk_I h0 g0 T n K LC LM j s m o q b kd p v h g g1 u y LM2 (j' + 1) d' s' m' (e + 2) st D (f + 1) h2 g2 → zk_G h0 g0 T n K LC M0 M o X (FA h2) (FB g2)) : zk_G h0 g0 T n K LC M0 M o X (A.bind FA) (B.bind FB) := by
  obtain ⟨h2, g2, rfl, rfl, R⟩ := R
  rcases R with ⟨φ, w, z1, z2⟩ | ⟨_, ⟨f1, f2, LM2, hp, L2⟩ | ⟨φ, w, z1, z2⟩⟩
  · exact bad φ w h2 g2 z1 z2
  · exact good h2 g2 LM2 (zk_It I f1 f2 hp L2)
  · exact bad φ w h2 g2 z1 z2
/-- a token that is there -/
theorem zk_sN (I : zk_I h0 g0 T n K LC LM j s m o q b kd p v h g g1 u y LM' j' d' s' m' e st D f h' g') {x : Int32} {FA : zs_H → Option (Int32 × zs_H)} {FB : zs_H → Option zs_H} (hx : (h'.1 19 5) = x) (h6 : ¬ x = 6) (bad : ∀ φ w h2 g2, zq_Z h0 T n K LC φ w h2 → zx_B g0 T n φ w m' o g2 → zk_G h0 g0 T n K LC M0 M o X (FA h2) (FB g2)) (good : ∀ h2 g2 LM2, zk_I h0 g0 T n K LC LM j s m o q b kd p v h g g1 u y LM2 (j' + 1) d' s' m' (e + 2) st D (f + 1) h2 g2 → zk_G h0 g0 T n K LC M0 M o X (FA h2) (FB g2)) : zk_G h0 g0 T n K LC M0 M o X ((f_Ps_take h' x).bind FA) ((f_Mo_next g').bind FB) := by
  obtain ⟨h2, g2, e1, e2, f1, f2, R⟩ := zk_step I.1 (zk_notE I.1 (by rw [hx]; exact h6))
  rw [hx] at e1
  rw [e1, e2]
  rcases R with ⟨LM2, hp, L2⟩ | ⟨φ, w, z1, z2⟩
  · exact good h2 g2 LM2 (zk_It I f1 f2 hp L2)
  · exact bad φ w h2 g2 z1 z2
/-- a child -/
theorem zk_sK (I : zk_I h0 g0 T n K LC LM j s m o q b kd p v h g g1 u y LM' j' d' s' m' e st D f h' g') {A : Option (Int32 × zs_H)} {B : Option zs_H} {M1 st' : Nat} {S : List Nat} {FA : Int32 → zs_H → Option (Int32 × zs_H)} {FB : zs_H → Option zs_H} (R : ∃ x h2 g2, A = some (x, h2) ∧ B = some g2 ∧ (zk_T h0 g0 T n K LC LM' (zg_T S D) j' d' s' m' o q m h' g' x h2 g2 ∨ zk_Z h0 g0 T n K LC m' M1 o x h2 g2)) (hq : ∀ c ∈ S, zg_q kd st c = st') (bad : ∀ φ w m2 x h2 g2, m' ≤ m2 → m2 ≤ M1 → zq_v x → zq_Z h0 T n K LC φ w h2 → zx_B g0 T n φ w m2 o g2 → zk_G h0 g0 T n K LC M0 M o X (zd_B (f_Tr_hang h2 (nI s) y x) FA) (FB g2)) (good : ∀ x h3 g2 u3 LM3 j3 s3 m3, zq_v x → j' < j3 → zk_I h0 g0 T n K LC LM j s m o q b kd p v h g g1 u3 x LM3 j3 d' s3 m3 e st' D f h3 g2 → zk_G h0 g0 T n K LC M0 M o X (FA x h3) (FB g2)) : zk_G h0 g0 T n K LC M0 M o X (zd_B A fun x2 h2 => zd_B (f_Tr_hang h2 (nI s) y x2) FA) (B.bind FB) := by
  obtain ⟨x, h2, g2, rfl, rfl, R⟩ := R
  rw [zo_B]
  rcases R with R | ⟨vx, φ, w, m2, w1, w2, z1, z2⟩
  · have vx := zk_Tv R
    obtain ⟨h3, u3, LM3, j3, s3, m3, e1, e2, I3⟩ := zk_Ic I R hq
    rw [e1]
    exact good x h3 g2 u3 LM3 j3 s3 m3 vx e2 I3
  · exact bad φ w m2 x h2 g2 w1 w2 vx z1 z2
/-- a child without children: made, hung, then its token -/
theorem zk_sLf (I : zk_I h0 g0 T n K LC LM j s m o q b kd p v h g g1 u y LM' j' d' s' m' e st D f h' g') {k2 st' f' : Nat} {kc km x yy v2 w2 : Int32} {Q : Int32 → zs_H → Option zs_H} {FA : Int32 → zs_H → Option (Int32 × zs_H)} {FB : zs_H → Option zs_H} (hk : k2 < 128) (hkc : kc = nI k2) (hkm : km = nI (zt_km k2)) (hx : ¬ yy = 0 ↔ (h'.1 19 5) = x) (hx6 : ¬ x = 6) (hv : (h'.1 19 5) = x → (if zt_nk k2 = true then zt_nr LC LM' v2 w2 else w2 = v2) ∧ zg_v k2 v2) (hq : zg_q kd st k2 = st') (hA : zg_A k2 0 = true) (hD : 1 ≤ D) (hf : (if k2 = 37 then 2 else 0) + f' ≤ f + 1) (hs : s' < 32784) (hm : m' < 33500) (hQ : ∀ x g2, (g2.1 68 6) = (g'.1 68 6) → (g2.1 68 10) = 0 → Q x g2 = (f_Mo_want g2 yy).bind FB) (bad : ∀ φ w x h2 g2, zq_v x → zq_Z h0 T n K LC φ w h2 → zx_B g0 T n φ w (m' + 1) o g2 → zk_G h0 g0 T n K LC M0 M o X (FA x h2) (FB g2)) (good : ∀ h3 g2 u3 LM3, zk_I h0 g0 T n K LC LM j s m o q b kd p v h g g1 u3 (nI s') LM3 (j' + 1) d' (s' + 1) (m' + 1) (e + 1) st' D f' h3 g2 → zk_G h0 g0 T n K LC M0 M o X (FA (nI s') h3) (FB g2)) : zk_G h0 g0 T n K LC M0 M o X (zd_B (f_Tr_add h' kc ((h'.1 19 6)) v2) fun x1 h1 => zd_B (f_Tr_hang h1 (nI s) y x1) fun x2 h2 => (f_Ps_take h2 x).bind fun h3 => FA x2 h3) (zd_B (f_Mo_add g' (nI m) km ((g'.1 68 7)) w2) Q) := by
  have hb := zk_Ib I
  obtain ⟨i1, i2, i3, ⟨c1, c2, c3, c4, c5⟩, ⟨LM1, ⟨p1, p2⟩, m1, m2, m3, m4, m5, m6, m7⟩, ⟨n1, n2, n3, n4, n5, n6, n7, n8⟩, w1, w3⟩ := I
  have m4' := i1.2.2.2.2.2.2.2.2.1
  obtain ⟨ha, e1, L1, qA⟩ := zk_cadd i1 (kd := k2) (kv := kc) (v := v2) hs hk hkc
  have kA := zq_kp_A qA
  obtain ⟨k1, k2', k3, k4, k5⟩ := kA s n2
  have c5' : zt_C ha u (fun i => s < i ∧ i < s') ((ha.2.1 17) s) y := by rw [k4]; exact zt_Ck kA (fun i hi => hi.2) c5
  obtain ⟨hb', e2, t2, e3, e4⟩ := zq_hangC (ip := s) (a := s') (by omega) (fun i hi => by omega) c5' (zt_Cn (by omega) qA) (fun i hi z => by omega) (by omega) (by omega) (by omega)
  have L2 := zk_cf L1 e4 (by decide)
  have etk : (hb'.1 19 5) = (h'.1 19 5) := by rw [L2.2.2.2.1.2.2.1, i1.2.2.2.1.2.2.1]
  rw [e1, zo_B, e2, zo_B]
  by_cases c : (h'.1 19 5) = x
  · obtain ⟨hv1, hv2⟩ := hv c
    obtain ⟨g2, e5, L3, qM, q1, q2, q3, q4, q5, q6, q7⟩ := zk_madd L2 (b := m) (kd := k2) (kv := km) (p := (g'.1 68 7)) (v := w2) (v' := v2) hm n3 hkm hv1
    rw [e5, zo_B, hQ _ _ (q7.1 _ _ (by decide)) L3.2.2.2.2.2.2.1]
    obtain ⟨h3, g3, e6, e7, R⟩ := zk_want L3 (x := x) (y := yy) (by rw [etk]; exact hx) hx6
    rw [e6, e7]
    show zk_G h0 g0 T n K LC M0 M o X (FA (nI s') h3) (FB g3)
    rcases R with ⟨φ, w, z1, z2⟩ | ⟨_, ⟨f1, f2, LM3, hp, L4⟩ | ⟨φ, w, z1, z2⟩⟩
    · exact bad φ w _ h3 g3 ⟨s', hs, rfl⟩ z1 z2
    · refine good h3 g3 (zt_ap u (zt_n k2 (nI (zl_at T n j').2.1) v2 .leaf)) LM3 ⟨L4, i2.trans hp, ?_, ?_, ⟨LM1, ⟨p1, p2.trans hp⟩, m1, m2, m3, m4, m5, m6, ?_⟩, by omega, zg_U1 w1 (zg_Tm (zg_n (S := [k2]) (D := 0) zg_U0 hA hv2 (List.mem_singleton.mpr rfl) (fun z => by rw [z] at hA; exact absurd hA (by decide))) (fun _ z => z) hD) (fun c hc => by rw [List.mem_singleton.mp hc]; exact hq), ?_⟩
      · intro i hi
        obtain ⟨x1, x2, x3, x4, x5⟩ := i3 i hi
        obtain ⟨y1, y2, y3, y4, y5⟩ := kA i (by omega)
        obtain ⟨z1, z2, z3, z4, z5⟩ := e3 i
        obtain ⟨r1, r2, r3, r4, r5⟩ := zq_kp_f (s := s' + 1) f1 i (by omega)
        exact ⟨r1.trans (z1.trans (y1.trans x1)), r2.trans (z2.trans (y2.trans x2)), r3.trans (z3.trans (y3.trans x3)), r4.trans ((z4 (by omega)).trans (y4.trans x4)), r5.trans ((z5 (by omega)).trans (y5.trans x5))⟩
      · obtain ⟨z1, z2, z3, z4, z5⟩ := e3 s
        have kf := zq_kp_f (s := s' + 1) f1
        obtain ⟨r1, r2, r3, r4, r5⟩ := kf s (by omega)
        refine ⟨r1.trans (z1.trans (k1.trans c1)), r2.trans (z2.trans (k2'.trans c2)), r3.trans (z3.trans (k3.trans c3)), r5.trans ((z5 (by omega)).trans (k5.trans c4)), ?_⟩
        rw [r4]
        exact zt_Ck kf (fun i hi => hi.2) (zt_Cm (fun i hi => by omega) t2)
      · rw [m4'] at qM
        have := zx_AP_t (zx_AP_t m7 qM (by omega) (by omega) (by omega)) (zx_AP_0 hp (zx_ka_l (m := m' + 1) f2) (by omega)) (by omega) (Nat.le_refl _) (by omega)
        rwa [zt_ap_leaf] at this
      · rw [zg_c_ap]
        show 2 * (zg_c u + ((if k2 = 37 then 1 else 0) + 0 + 0)) + f' ≤ _
        split at hf <;> rename_i w <;> simp only [w, if_true, if_false] <;> omega
    · exact bad φ w _ h3 g3 ⟨s', hs, rfl⟩ z1 z2
  · obtain ⟨g2, e5, L3, q7⟩ := zk_madd0 L2 (b := m) (kn := zt_km k2) (kv := km) (p := (g'.1 68 7)) (v := w2) hm n3 hkm
    rw [e5, zo_B, hQ _ _ q7 L3.2.2.2.2.2.2.1]
    obtain ⟨h3, g3, e6, e7, R⟩ := zk_want L3 (x := x) (y := yy) (by rw [etk]; exact hx) hx6
    rw [e6, e7]
    show zk_G h0 g0 T n K LC M0 M o X (FA (nI s') h3) (FB g3)
    rcases R with ⟨φ, w, z1, z2⟩ | ⟨z, _⟩
    · exact bad φ w _ h3 g3 ⟨s', hs, rfl⟩ z1 z2
    · rw [etk] at z; exact absurd z c
/-- a child that hangs already -/
theorem zk_Ihg (I : zk_I h0 g0 T n K LC LM j s m o q b kd p v h g g1 .leaf (-1) LM' j' d' s' m' e st D f h' g') {S : List Nat} {st' : Nat} {h2 g2 : zs_H} {t : zt_T} {LM3 : List (List Int32)} {j3 s3 m3 e' : Nat} (hW : zg_T S D t) (hc : 2 * zg_c t ≤ j3 - j') (hp : LM' <+: LM3) (L : zk_L h0 g0 T n K LC h2 g2 LM3 j3 d' s3 m3 o q) (hj : j' < j3) (hs : s' < s3) (hs2 : s3 + e' ≤ s' + e + 2 * (j3 - j')) (hm : m' < m3) (hm2 : m3 + e' ≤ m' + e + 2 * (j3 - j')) (ht : zt_C h2 t (fun i => s' ≤ i ∧ i < s3) (nI s') (nI s')) (hk : zq_kp s h' h2) (hn : (h2.2.1 13) s = (h'.2.1 13) s ∧ (h2.2.1 15) s = (h'.2.1 15) s ∧ (h2.2.1 16) s = (h'.2.1 16) s ∧ (h2.2.1 18) s = (h'.2.1 18) s ∧ (h2.2.1 17) s = nI s') (ha : zx_AP LC LM' LM3 m m' m3 t g' g2) (hq : ∀ c ∈ S, zg_q kd st c = st') : zk_I h0 g0 T n K LC LM j s m o q b kd p v h g g1 t (nI s') LM3 j3 d' s3 m3 e' st' D f h2 g2 := by
  obtain ⟨i1, i2, i3, ⟨c1, c2, c3, c4, c5⟩, ⟨LM1, ⟨p1, p2⟩, m1, m2, m3', m4, m5, m6, m7⟩, ⟨n1, n2, n3, n4, n5, n6, n7, n8⟩, w1, w3⟩ := I
  obtain ⟨k1, k2, k3, k4, k5⟩ := hn
  refine ⟨L, i2.trans hp, zq_kp_t i3 hk (Nat.le_refl s), ⟨k1.trans c1, k2.trans c2, k3.trans c3, k4.trans c4, ?_⟩, ⟨LM1, ⟨p1, p2.trans hp⟩, m1, m2, m3', m4, m5, m6, zx_AP_t m7 ha (by omega) (by omega) (by omega)⟩, by omega, zg_U1 w1 hW hq, ?_⟩
  · rw [k5]; exact zt_Cm (fun i hi => by omega) ht
  · rw [show zg_c .leaf = 0 from rfl] at w3; omega
end ZFF
section ZFL
variable {h0 g0 h g : zs_H} {T : Nat → Int32} {n K : Nat} {LC LM : List (List Int32)} {j d s m o q M0 M : Nat} {X : Int32 → zs_H → zs_H → Prop}
/-- what the two states of a token have in common -/
abbrev zk_tf (h g h2 g2 : zs_H) : Prop := zfr [(19, 4), (19, 5), (19, 6)] [] [] h h2 ∧ zfr zk_lx [70, 71] [] g g2
theorem zk_lA (L : zk_L h0 g0 T n K LC h g LM j d s m o q) {A B : Option zs_H} {x : Int32} {FA : zs_H → Option (Int32 × zs_H)} {FB : zs_H → Option zs_H} (R : ∃ h2 g2, A = some h2 ∧ B = some g2 ∧ (zk_B h0 g0 T n K LC m o h2 g2 ∨ ((h.1 19 5) = x ∧ zk_on h0 g0 T n K LC LM j d s m o q h g h2 g2))) (bad : ∀ φ w h2 g2, zq_Z h0 T n K LC φ w h2 → zx_B g0 T n φ w m o g2 → zk_G h0 g0 T n K LC M0 M o X (FA h2) (FB g2)) (good : ∀ h2 g2 LM2, (h.1 19 5) = x → zk_tf h g h2 g2 → LM <+: LM2 → zk_L h0 g0 T n K LC h2 g2 LM2 (j + 1) d s m o q → zk_G h0 g0 T n K LC M0 M o X (FA h2) (FB g2)) : zk_G h0 g0 T n K LC M0 M o X (A.bind FA) (B.bind FB) := by
  obtain ⟨h2, g2, rfl, rfl, R⟩ := R
  rcases R with ⟨φ, w, z1, z2⟩ | ⟨c, ⟨f1, f2, LM2, hp, L2⟩ | ⟨φ, w, z1, z2⟩⟩
  · exact bad φ w h2 g2 z1 z2
  · exact good h2 g2 LM2 c ⟨f1, f2⟩ hp L2
  · exact bad φ w h2 g2 z1 z2
theorem zk_lN (L : zk_L h0 g0 T n K LC h g LM j d s m o q) {x : Int32} {FA : zs_H → Option (Int32 × zs_H)} {FB : zs_H → Option zs_H} (hx : (h.1 19 5) = x) (h6 : ¬ x = 6) (bad : ∀ φ w h2 g2, zq_Z h0 T n K LC φ w h2 → zx_B g0 T n φ w m o g2 → zk_G h0 g0 T n K LC M0 M o X (FA h2) (FB g2)) (good : ∀ h2 g2 LM2, zk_tf h g h2 g2 → LM <+: LM2 → zk_L h0 g0 T n K LC h2 g2 LM2 (j + 1) d s m o q → zk_G h0 g0 T n K LC M0 M o X (FA h2) (FB g2)) : zk_G h0 g0 T n K LC M0 M o X ((f_Ps_take h x).bind FA) ((f_Mo_next g).bind FB) := by
  obtain ⟨h2, g2, e1, e2, f1, f2, R⟩ := zk_step L (zk_notE L (by rw [hx]; exact h6))
  rw [hx] at e1
  rw [e1, e2]
  rcases R with ⟨LM2, hp, L2⟩ | ⟨φ, w, z1, z2⟩
  · exact good h2 g2 LM2 ⟨f1, f2⟩ hp L2
  · exact bad φ w h2 g2 z1 z2
end ZFL
