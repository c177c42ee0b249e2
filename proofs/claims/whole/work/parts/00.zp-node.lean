/-! Both readers in step: an operand's node, in the model hung nowhere. -/
/-- nothing of what was there has changed -/
def zk_Y (s m o : Nat) (LM : List (List Int32)) (h g : zs_H) (LM' : List (List Int32)) (h' g' : zs_H) : Prop := zq_kp s h h' ∧ zx_ka m g g' ∧ zo_fr o g g' ∧ LM <+: LM'
theorem zk_Yr {s m o : Nat} {LM : List (List Int32)} {h g : zs_H} : zk_Y s m o LM h g LM h g := ⟨zq_kp_r, fun _ _ => ⟨rfl, rfl, rfl, rfl, rfl, rfl, rfl⟩, fun _ _ => ⟨rfl, rfl, rfl⟩, List.prefix_refl _⟩
theorem zk_Yt {s m o s' m' o' : Nat} {LM LM1 LM2 : List (List Int32)} {h g h1 g1 h2 g2 : zs_H} (a : zk_Y s m o LM h g LM1 h1 g1) (c : zk_Y s' m' o' LM1 h1 g1 LM2 h2 g2) (e1 : s ≤ s') (e2 : m ≤ m') (e3 : o ≤ o') : zk_Y s m o LM h g LM2 h2 g2 := ⟨zq_kp_t a.1 c.1 e1, zx_ka_t a.2.1 c.2.1 e2, zo_fr_t a.2.2.1 c.2.2.1 e3, a.2.2.2.trans c.2.2.2⟩
theorem zx_ka_f {m : Nat} {g g' : zs_H} {fs : List (Nat × Nat)} (f : zfr fs [] [] g g') : zx_ka m g g' := fun i _ => ⟨congrFun (f.2.1 _ List.not_mem_nil) i, congrFun (f.2.1 _ List.not_mem_nil) i, congrFun (f.2.1 _ List.not_mem_nil) i, congrFun (f.2.1 _ List.not_mem_nil) i, congrFun (f.2.1 _ List.not_mem_nil) i, congrFun (f.2.1 _ List.not_mem_nil) i, congrFun (f.2.1 _ List.not_mem_nil) i⟩
theorem zk_Yk {s m o : Nat} {LM LM' : List (List Int32)} {h g h' g' : zs_H} (f : zk_tf h g h' g') (hp : LM <+: LM') : zk_Y s m o LM h g LM' h' g' := ⟨zq_kp_f f.1, zx_ka_l f.2, zo_fr_f f.2 (by decide) (by decide) (by decide), hp⟩
theorem zk_Yo {s m o : Nat} {LM : List (List Int32)} {h g h' g' : zs_H} {fs fs' : List (Nat × Nat)} (f : zfr fs [] [] h h') (f' : zfr fs' [] [] g g') : zk_Y s m o LM h g LM h' g' := ⟨zq_kp_f f, zx_ka_f f', zo_fr_f f' List.not_mem_nil List.not_mem_nil List.not_mem_nil, List.prefix_refl _⟩
theorem zx_Om {g0 g : zs_H} {T : Nat → Int32} {n φ w m O O' : Nat} (H : zx_B g0 T n φ w m O g) (h : O ≤ O') : zx_B g0 T n φ w m O' g := by
  obtain ⟨h2, h3, h4, h5, h6, h7, h8, h9, h10, h11, o, h12, h13⟩ := H
  exact ⟨h2, h3, h4, h5, h6, h7, h8, h9, h10, h11, o, h12, by omega⟩
theorem zg_Um {kd st D D' : Nat} {u : zt_T} (H : zg_U kd st D u) (h : D ≤ D') : zg_U kd st D' u := ⟨H.1, H.2.1, by have := H.2.2; omega⟩
/-- an operand's node is being read: in the class node s, in the model node m, which hangs nowhere -/
def zk_J (h0 g0 : zs_H) (T : Nat → Int32) (n K : Nat) (LC LM : List (List Int32)) (j d s m o q kd : Nat) (p v : Int32) (h g : zs_H) (u : zt_T) (y : Int32) (LM' : List (List Int32)) (j' d' s' m' e st D : Nat) (h' g' : zs_H) : Prop :=
  zk_L h0 g0 T n K LC h' g' LM' j' d' s' m' o q ∧ zq_kp s h h' ∧ ((h'.2.1 13) s = nI kd ∧ (h'.2.1 15) s = p ∧ (h'.2.1 16) s = v ∧ (h'.2.1 18) s = -1 ∧ zt_C h' u (fun i => s < i ∧ i < s') ((h'.2.1 17) s) y) ∧ (∃ LM1 g1, (LM <+: LM1 ∧ LM1 <+: LM') ∧ zx_ka m g g1 ∧ (g1.2.1 76) m = -1 ∧ (g1.2.1 77) m = -1 ∧ zt_Nf LC LM1 g1 m kd p v ∧ (g1.2.1 75) m = -1 ∧ (g1.2.1 78) m = -1 ∧ zx_AP LC LM1 LM' m (m + 1) m' u g1 g') ∧ zo_fr o g g' ∧ (j ≤ j' ∧ d ≤ d' ∧ s < s' ∧ m < m' ∧ s' + e ≤ s + 1 + 2 * (j' - j) ∧ m' + e ≤ m + 1 + 2 * (j' - j) ∧ s < 32784 ∧ m < 33500) ∧ zg_U kd st D u ∧ zg_c u = 0
section ZP
variable {h0 g0 h g h' g' : zs_H} {T : Nat → Int32} {n K : Nat} {LC LM LM' : List (List Int32)} {j d s m o q kd j' d' s' m' e st D : Nat} {p v y : Int32} {u : zt_T}
/-- it begins -/
theorem zk_J1 {h2 g2 : zs_H} {LM2 : List (List Int32)} {j2 d2 : Nat} (L2 : zk_L h0 g0 T n K LC h2 g2 LM2 j2 d2 (s + 1) m o q) {km p v w : Int32} (Y : zk_Y s m o LM h g LM2 h2 g2) (hj : j ≤ j2) (hd : d ≤ d2) (hn : (h2.2.1 13) s = nI kd ∧ (h2.2.1 15) s = p ∧ (h2.2.1 16) s = v ∧ (h2.2.1 18) s = -1 ∧ (h2.2.1 17) s = -1) (hs : s < 32784) (hm : m < 33500) (hkm : km = nI (zt_km kd)) (hv : if zt_nk kd = true then zt_nr LC LM2 v w else w = v) : ∃ g3, f_Mo_node g2 km p w = some (nI m, g3) ∧ zk_J h0 g0 T n K LC LM j d s m o q kd p v h g .leaf (-1) LM2 j2 d2 (s + 1) (m + 1) (2 * (j2 - j)) 0 D h2 g3 := by
  obtain ⟨y1, y2, y3, y4⟩ := Y
  obtain ⟨g3, e3, L3, qN⟩ := zk_mnode L2 p w hm hkm
  have kN := zx_ka_N qN
  obtain ⟨q1, q2, q3, q4, q5, q6, q7, q8, q9⟩ := qN
  refine ⟨g3, e3, L3, y1, ⟨hn.1, hn.2.1, hn.2.2.1, hn.2.2.2.1, hn.2.2.2.2, rfl⟩, ⟨LM2, g3, ⟨y4, List.prefix_refl _⟩, zx_ka_t y2 kN (Nat.le_refl m), by rw [q6, if_pos rfl], by rw [q7, if_pos rfl], ⟨by rw [q2, if_pos rfl], fun _ => by rw [q3, if_pos rfl], by rw [q4, if_pos rfl]; exact hv⟩, by rw [q5, if_pos rfl], by rw [q8, if_pos rfl], zx_AP_0 (List.prefix_refl _) (fun i _ => ⟨rfl, rfl, rfl, rfl, rfl, rfl, rfl⟩) (by omega)⟩, zo_fr_t y3 (zo_fr_f q9 (by decide) (by decide) (by decide)) (Nat.le_refl o), by omega, zg_U0, rfl⟩
theorem zk_Jb (I : zk_J h0 g0 T n K LC LM j d s m o q kd p v h g u y LM' j' d' s' m' e st D h' g') : j ≤ j' ∧ j' ≤ K ∧ K ≤ 10240 ∧ s < s' ∧ m < m' ∧ s' + e ≤ s + 1 + 2 * (j' - j) ∧ m' + e ≤ m + 1 + 2 * (j' - j) ∧ s < 32784 ∧ m < 33500 ∧ d ≤ d' ∧ d' ≤ 60 := by
  have a := zk_bK I.1
  have b := (zk_dd I.1).2.2.1
  have c := I.2.2.2.2.2.1
  omega
/-- something else has changed: a token, or what is open -/
theorem zk_Jt (I : zk_J h0 g0 T n K LC LM j d s m o q kd p v h g u y LM' j' d' s' m' e st D h' g') {h2 g2 : zs_H} {LM2 : List (List Int32)} {d2 j2 : Nat} (Y : zk_Y s' m' o LM' h' g' LM2 h2 g2) (hd : d ≤ d2) (hj : j' ≤ j2) (L2 : zk_L h0 g0 T n K LC h2 g2 LM2 j2 d2 s' m' o q) : zk_J h0 g0 T n K LC LM j d s m o q kd p v h g u y LM2 j2 d2 s' m' (e + 2 * (j2 - j')) st D h2 g2 := by
  obtain ⟨k, y2, y3, y4⟩ := Y
  obtain ⟨i1, i3, ⟨c1, c2, c3, c4, c5⟩, ⟨LM1, g1, ⟨p1, p2⟩, m1, m2, m3, m4, m5, m6, m7⟩, i4, ⟨n1, n2, n3, n4, n5, n6, n7, n8⟩, w1, w2⟩ := I
  obtain ⟨k1, k2, k3, k4, k5⟩ := k s n3
  refine ⟨L2, zq_kp_t i3 k (by omega), ⟨k1.trans c1, k2.trans c2, k3.trans c3, k5.trans c4, ?_⟩, ⟨LM1, g1, ⟨p1, p2.trans y4⟩, m1, m2, m3, m4, m5, m6, ?_⟩, zo_fr_t i4 y3 (Nat.le_refl o), by omega, w1, w2⟩
  · rw [k4]; exact zt_Ck k (fun i hi => hi.2) c5
  · have := zx_AP_t m7 (zx_AP_0 y4 y2 n4) (by omega) (Nat.le_refl _) (by omega)
    rwa [zt_ap_leaf] at this
/-- a tree below it -/
theorem zk_Jc0 (I : zk_J h0 g0 T n K LC LM j d s m o q kd p v h g u y LM' j' d' s' m' e st D h' g') {h2 g2 : zs_H} {S : List Nat} {t : zt_T} {LM3 : List (List Int32)} {j3 d3 s3 m3 a st' D' e' : Nat} (r0 : zg_T S D' t) (r0c : zg_c t = 0) (r1 : LM' <+: LM3) (r2 : zk_L h0 g0 T n K LC h2 g2 LM3 j3 d3 s3 m3 o q) (r3 : j' ≤ j3 ∧ d ≤ d3 ∧ s' < s3 ∧ s3 + e' ≤ s' + e + 2 * (j3 - j') ∧ m' < m3 ∧ m3 + e' ≤ m' + e + 2 * (j3 - j')) (r9 : s' ≤ a ∧ a < s3) (r11 : zt_C h2 t (fun i => s' ≤ i ∧ i < s3) (nI a) (nI a)) (r12 : zq_kp s' h' h2) (r13 : zx_AP LC LM' LM3 m m' m3 t g' g2) (r14 : zo_fr o g' g2) (hq : ∀ c ∈ S, zg_q kd st c = st') (hD : D ≤ D') : ∃ h3, f_Tr_hang h2 (nI s) y (nI a) = some (nI a, h3) ∧ zk_J h0 g0 T n K LC LM j d s m o q kd p v h g (zt_ap u t) (nI a) LM3 j3 d3 s3 m3 e' st' D' h3 g2 := by
  obtain ⟨i1, i3, ⟨c1, c2, c3, c4, c5⟩, ⟨LM1, g1, ⟨p1, p2⟩, m1, m2, m3', m4, m5, m6, m7⟩, i4, ⟨n1, n2, n3, n4, n5, n6, n7, n8⟩, w1, w2⟩ := I
  have hs3 : s3 ≤ 32784 := r2.2.2.2.1.2.2.2.2.2.2
  obtain ⟨k1, k2, k3, k4, k5⟩ := r12 s n3
  have c5' : zt_C h2 u (fun i => s < i ∧ i < s') ((h2.2.1 17) s) y := by rw [k4]; exact zt_Ck r12 (fun i hi => hi.2) c5
  obtain ⟨h3, e1, e2, e3, e4⟩ := zq_hangC (ip := s) (a := a) (by omega) (fun i hi => by omega) c5' r11 (fun i hi z => by omega) (by omega) (by omega) (by omega)
  refine ⟨h3, e1, zk_cf r2 e4 (by decide), ?_, ⟨(e3 s).1.trans (k1.trans c1), (e3 s).2.1.trans (k2.trans c2), (e3 s).2.2.1.trans (k3.trans c3), ((e3 s).2.2.2.2 (by omega)).trans (k5.trans c4), zt_Cm (fun i hi => by omega) e2⟩, ⟨LM1, g1, ⟨p1, p2.trans r1⟩, m1, m2, m3', m4, m5, m6, zx_AP_t m7 r13 (by omega) (by omega) (by omega)⟩, zo_fr_t i4 r14 (Nat.le_refl o), by omega, zg_U1 (zg_Um w1 hD) r0 hq, by rw [zg_c_ap, w2, r0c]⟩
  intro i hi
  obtain ⟨x1, x2, x3, x4, x5⟩ := i3 i hi
  obtain ⟨y1, y2, y3, y4, y5⟩ := r12 i (by omega)
  obtain ⟨z1, z2, z3, z4, z5⟩ := e3 i
  exact ⟨z1.trans (y1.trans x1), z2.trans (y2.trans x2), z3.trans (y3.trans x3), (z4 (by omega)).trans (y4.trans x4), (z5 (by omega)).trans (y5.trans x5)⟩
/-- an expression below it -/
theorem zk_Jc (I : zk_J h0 g0 T n K LC LM j d s m o q kd p v h g u y LM' j' d' s' m' e st D h' g') {h2 g2 : zs_H} {x : Int32} {st' dd : Nat} (R : zk_E h0 g0 T n K LC LM' j' d' s' m' o q m h' g' x h2 g2) (hq : ∀ c ∈ zg_E, zg_q kd st c = st') (h1 : dd ≤ d') (h2' : D ≤ (60 - dd) + (d' - dd) + 2) : ∃ h3 u3 LM3 j3 d3 s3 m3, f_Tr_hang h2 (nI s) y x = some (x, h3) ∧ j' < j3 ∧ d' ≤ d3 ∧ zq_v x ∧ zk_J h0 g0 T n K LC LM j d s m o q kd p v h g u3 x LM3 j3 d3 s3 m3 e st' ((60 - dd) + (d3 - dd) + 2) h3 g2 := by
  have b := zk_Jb I
  obtain ⟨t, LM3, j3, d3, s3, m3', a, ⟨r0, r0c⟩, r1, r2, ⟨r3, r4, r5, r6, r7, r8⟩, ⟨r9, r9a, r9b⟩, r11, r12, r13, r14⟩ := R
  have b2 := zk_bK r2
  subst r9
  obtain ⟨h3, e1, J⟩ := zk_Jc0 (e' := e) (D' := (60 - dd) + (d3 - dd) + 2) I (zg_Tm r0 (fun _ z => z) (by omega)) r0c r1 r2 (by omega) ⟨r9a, r9b⟩ r11 r12 r13 r14 hq (by omega)
  exact ⟨h3, _, LM3, j3, d3, s3, m3', e1, r3, r4, ⟨a, by omega, rfl⟩, J⟩
/-- what it is then in the model -/
theorem zk_Jm (I : zk_J h0 g0 T n K LC LM j d s m o q kd p v h g u y LM' j' d' s' m' e st D h' g') : zt_M LC LM' g' (zt_n kd p v u) (fun i => m ≤ i ∧ i < m') (-1) (nI m) (nI m) ∧ zx_ka m g g' ∧ LM <+: LM' := by
  obtain ⟨i1, i3, ⟨c1, c2, c3, c4, c5⟩, ⟨LM1, g1, ⟨p1, p2⟩, m1, m2, m3, m4, m5, m6, m7⟩, i4, ⟨n1, n2, n3, n4, n5, n6, n7, n8⟩, w1, w2⟩ := I
  obtain ⟨c1, c2⟩ := m7 (fun _ => False) .leaf (fun i z => z.elim) ⟨m2, m3⟩
  obtain ⟨k0, k1, k2, k3, k4, k5⟩ := c1
  refine ⟨?_, zx_ka_t m1 k0 (Nat.le_refl m), p1.trans p2⟩
  exact zo_mk (P1 := fun i => m + 1 ≤ i ∧ i < m') (by omega) (zt_Nfm p2 k1 k2 k3 m4) (k4.trans m5) (k5.trans m6) (by omega) (fun i hi => by omega) (zt_Mm (fun i hi => hi.elim (fun z => z.elim) (fun z => z)) c2)
theorem zk_Jw (I : zk_J h0 g0 T n K LC LM j d s m o q kd p v h g u y LM' j' d' s' m' e st D h' g') : zt_C h' (zt_n kd p v u) (fun i => s ≤ i ∧ i < s') (nI s) (nI s) := by
  have b := zk_Jb I
  obtain ⟨i1, i3, ⟨c1, c2, c3, c4, c5⟩, _⟩ := I
  exact zt_Cm (fun i hi => by omega) (zt_Cp (by omega) (by omega) c1 c2 c3 c4 c5)
/-- the model keeps it; then something else may change -/
theorem zk_Jk (I : zk_J h0 g0 T n K LC LM j d s m o q kd p v h g u y LM' j' d' s' m' e st D h' g') (ho : o < 200) (ha : zg_A kd st = true) (hv : zg_v kd v) (hS : kd ∈ zg_E) (h37 : ¬ kd = 37) : ∃ g2, f_Mo_keep g' (nI m) = some g2 ∧ zk_L h0 g0 T n K LC h' g2 LM' j' d' s' m' (o + 1) q ∧ ∀ {h3 g3 : zs_H} {LM3 : List (List Int32)} {j3 d3 : Nat}, zk_Y s' m' (o + 1) LM' h' g2 LM3 h3 g3 → zk_L h0 g0 T n K LC h3 g3 LM3 j3 d3 s' m' (o + 1) q → j' ≤ j3 → j < j3 → 1 + 2 * j' ≤ e + 2 * j3 → d ≤ d3 → D ≤ (60 - d) + (d3 - d) + 1 → zk_X h0 g0 T n K LC LM j d s m o q 0 0 h g (nI s) h3 g3 := by
  have b := zk_Jb I
  obtain ⟨M1, M2, M3⟩ := zk_Jm I
  have C1 := zk_Jw I
  obtain ⟨g2, e1, L2, e2, e3, e4⟩ := zk_keep I.1 ho (nI m)
  refine ⟨g2, e1, L2, fun {h3 g3 LM3 j3 d3} Y L3 hj hj2 he hd hD => ?_⟩
  obtain ⟨y1, y2, y3, y4⟩ := Y
  have ka2 : zx_ka m' g' g2 := fun i _ => ⟨congrFun (e4.2.1 _ (by decide)) i, congrFun (e4.2.1 _ (by decide)) i, congrFun (e4.2.1 _ (by decide)) i, congrFun (e4.2.1 _ (by decide)) i, congrFun (e4.2.1 _ (by decide)) i, congrFun (e4.2.1 _ (by decide)) i, congrFun (e4.2.1 _ (by decide)) i⟩
  have ka3 := zx_ka_t ka2 y2 (Nat.le_refl m')
  have i4 := I.2.2.2.2.1
  obtain ⟨w1, w2⟩ := I.2.2.2.2.2.2
  refine ⟨zt_n kd p v u, LM3, j3, d3, s', m', s, ⟨zg_Tm (zg_n w1 ha hv hS (fun z => by rw [z] at hS; exact absurd hS (by decide))) (fun _ z => z) (by omega), by rw [zg_c_n h37]; exact w2⟩, M3.trans y4, L3, ⟨hj2, by omega, b.2.2.2.1, by omega, by omega, by omega⟩, ⟨rfl, Nat.le_refl s, b.2.2.2.1⟩, zt_Ck y1 (fun i hi => hi.2) C1, zq_kp_t I.2.1 y1 (by omega), ?_, zx_ka_t M2 ka3 (by omega), zo_fr_t (zo_fr_t i4 e3 (Nat.le_refl o)) y3 (by omega)⟩
  refine ⟨rfl, m, kd, p, v, u, rfl, ⟨Nat.le_refl m, b.2.2.2.2.1⟩, by omega, ?_, zt_Mk y4 ka3 (fun i hi => hi.2) M1⟩
  rw [(y3 o (by omega)).1]; exact e2
end ZP
