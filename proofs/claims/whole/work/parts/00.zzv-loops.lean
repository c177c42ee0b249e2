/-! The judge: the loops that settle a declaration's variables. -/
/-- r names, then something else -/
def zv_ch (Q : Nat → Prop) (g : zs_H) : Nat → Int32 → Prop
  | 0, x => ∃ k, k < 33500 ∧ x = nI k ∧ ¬ (g.2.1 72) k = 6
  | r + 1, x => ∃ k, k < 33500 ∧ x = nI k ∧ (g.2.1 72) k = 6 ∧ Q k ∧ zv_ch Q g r ((g.2.1 78) k)
theorem zv_chF {Q : Nat → Prop} {g g' : zs_H} (e1 : g'.2.1 72 = g.2.1 72) (e2 : g'.2.1 78 = g.2.1 78) : ∀ r x, zv_ch Q g r x → zv_ch Q g' r x := by
  intro r
  induction r with
  | zero => intro x ⟨k, h1, h2, h3⟩; exact ⟨k, h1, h2, by rw [e1]; exact h3⟩
  | succ r ih => intro x ⟨k, h1, h2, h3, h5, h4⟩; exact ⟨k, h1, h2, by rw [e1]; exact h3, h5, by rw [e2]; exact ih _ h4⟩
abbrev zv_sc : List Nat := [30, 31, 33, 34, 35, 32, 25]
abbrev zv_sm : List Nat := [92, 93, 94, 96, 97, 98, 99, 88, 101]
abbrev zv_in (nb ty s : Nat) (inst so of : Int32) (h : zs_H) : Prop := (inst = -1 ∧ so = 0 ∧ of = nI ty ∧ s = 1) ∨ (inst = -2 ∧ so = 1 ∧ of = nI ty ∧ 1 ≤ s ∧ s ≤ 256) ∨ (∃ B, B < 8 + nb ∧ inst = nI B ∧ so = 2 ∧ of = nI (if B < 9 then 100000 + B else B - 9) ∧ (9 ≤ B → (h.2.1 21) B = 2) ∧ (h.2.1 26) B = nI s)
abbrev zv_lo (x4 so low : Int32) (g : zs_H) : Prop := (so = 1 ∧ ∃ kt k1, x4 = nI kt ∧ kt < 33500 ∧ (g.2.1 76) kt = nI k1 ∧ k1 < 33500 ∧ (g.2.1 74) k1 = low) ∨ (¬ so = 1 ∧ low = 0)
abbrev zv_co (x5 co : Int32) (g : zs_H) : Prop := (x5 = -1 ∧ co = 0) ∨ ∃ kc, kc < 33500 ∧ x5 = nI kc ∧ (g.2.1 74) kc = co
/-- a variable stays as it is -/
def zv_v6 (h h' : zs_H) (j : Nat) : Prop := (h'.2.1 30) j = (h.2.1 30) j ∧ (h'.2.1 31) j = (h.2.1 31) j ∧ (h'.2.1 32) j = (h.2.1 32) j ∧ (h'.2.1 33) j = (h.2.1 33) j ∧ (h'.2.1 34) j = (h.2.1 34) j ∧ (h'.2.1 35) j = (h.2.1 35) j
theorem zv_v6t {h h1 h' : zs_H} {j : Nat} (a : zv_v6 h h1 j) (b : zv_v6 h1 h' j) : zv_v6 h h' j := ⟨b.1.trans a.1, b.2.1.trans a.2.1, b.2.2.1.trans a.2.2.1, b.2.2.2.1.trans a.2.2.2.1, b.2.2.2.2.1.trans a.2.2.2.2.1, b.2.2.2.2.2.trans a.2.2.2.2.2⟩
/-- the cells of one variable lie before those of another -/
def zv_ly (kd : Int32) (u w : Nat) (h : zs_H) : Prop := ∀ x s x' : Nat, (h.2.1 32) (32 + u) = nI x → (h.2.1 34) (32 + u) = nI s → (h.2.1 32) (32 + w) = nI x' → x < 1000000000 → s < 1000000000 → x' < 1000000000 → (kd = 3 ∧ (x < 960 ∨ x' < 960)) ∨ x + s ≤ x'
theorem zv_lyf {kd : Int32} {u w : Nat} {h h' : zs_H} (e1 : (h'.2.1 32) (32 + u) = (h.2.1 32) (32 + u)) (e2 : (h'.2.1 34) (32 + u) = (h.2.1 34) (32 + u)) (e3 : (h'.2.1 32) (32 + w) = (h.2.1 32) (32 + w)) (L : zv_ly kd u w h) : zv_ly kd u w h' := fun x s x' a b c => L x s x' (e1.symm.trans a) (e2.symm.trans b) (e3.symm.trans c)
theorem zv_lyn {LC LM : List (List Int32)} {nb nf u v x y : Nat} {F : Nat → Nat} {q : Int32} {h g h' : zs_H} (I : zv_I LC LM nb nf v F q h g) (hb : 0 < nb) (hv : v < F nb) (h1 : F (nb - 1) ≤ u) (h2 : u < v) (hy : (h.2.1 25) (8 + nb) = nI y) (hy2 : y ≤ 200000000) (o : zv_v6 h h' (32 + u)) (ec : (h'.2.1 32) (32 + v) = nI x) (hx : x = y ∨ (x < 960 ∧ (h.2.1 21) (8 + nb) = 3)) : zv_ly ((h.2.1 21) (8 + nb)) u v h' := by
  intro xu su xv a b c b1 b2 b3
  obtain ⟨ty, x0, s0, y0, q1, q2, q3, q4, ⟨q5, q5', q5''⟩, q6, q7, q8, q9⟩ := I.2.2.2.1.2.1 (nb - 1) u (by omega) h1 (by rw [show nb - 1 + 1 = nb by omega]; omega) h2
  rw [show 9 + (nb - 1) = 8 + nb by omega] at q4 q9
  have ex : xu = x0 := by
    rw [o.2.2.1, q2.1] at a
    exact ((nI_eq (by omega) (by omega)).mp a).symm
  have es : su = s0 := by
    rw [o.2.2.2.2.1, q3.1] at b
    exact ((nI_eq (by omega) (by omega)).mp b).symm
  have ey : y0 = y := (nI_eq (by omega) (by omega)).mp (q4.symm.trans hy)
  have ev : xv = x := (nI_eq (by omega) (by rcases hx with z | z <;> omega)).mp (c.symm.trans ec)
  rcases hx with z | ⟨z1, z2⟩
  · rcases q9 with ⟨_, w, _⟩ | ⟨p, p1, p2, p3, p4, p5, p6⟩
    · right; omega
    · left
      refine ⟨p3, .inl ?_⟩
      rw [ex, p4]
      unfold zv_pc
      split <;> omega
  · left
    exact ⟨z2, .inr (by omega)⟩
def zv_lv (a : Nat) (kd : Int32) (w : Nat) (h : zs_H) : Prop := (∀ u, a ≤ u → u < w → zv_ly kd u w h) ∧ (kd = 3 → ¬ (h.2.1 30) (32 + w) = -1 → ∀ x : Nat, (h.2.1 32) (32 + w) = nI x → x < 1000000000 → 960 ≤ x)
theorem zv_lvf {a : Nat} {kd : Int32} {w : Nat} {h h' : zs_H} (e : ∀ u, u ≤ w → zv_v6 h h' (32 + u)) (L : zv_lv a kd w h) : zv_lv a kd w h' := by
  obtain ⟨w1, _, w3, _⟩ := e w (Nat.le_refl _)
  refine ⟨fun u u1 u2 => zv_lyf (e u (by omega)).2.2.1 (e u (by omega)).2.2.2.2.1 w3 (L.1 u u1 u2), fun k i x c => L.2 k (fun z => i (w1.trans z)) x (w3.symm.trans c)⟩
/-- which variables the loops settle -/
def zv_so (a : Nat) (kd : Int32) (v m : Nat) (inst : Int32) (h h' : zs_H) : Prop := (∀ j, j < 32 + v → zv_v6 h h' j) ∧ (∀ w, v ≤ w → w < m → (h'.2.1 30) (32 + w) = inst ∧ zv_lv a kd w h')
/-- what the loops leave -/
def zv_SE (Q : Nat → Prop) (LC LM : List (List Int32)) (nb nf : Nat) (F : Nat → Nat) (h g h' g' : zs_H) : Prop := zv_I LC LM nb nf (F nb) F (-1) h' g' ∧ zfr [] zv_sc [] h h' ∧ zfr [] zv_sm [] g g' ∧ (∀ b, b < nb - 1 → (h'.2.1 25) (9 + b) = (h.2.1 25) (9 + b)) ∧ (∀ j, ¬ Q j → (g'.2.1 101) j = (g.2.1 101) j)
theorem zv_endS {Q : Nat → Prop} {LC LM : List (List Int32)} {nb nf N N' : Nat} {F : Nat → Nat} {ty pl co inst low sz x1 x4 x5 so of x : Int32} {h g : zs_H} (I : zv_I LC LM nb nf (F nb) F (-1) h g) (hb : nf + 1 = nb) (hch : zv_ch Q g 0 x) :
    f_Jd_settle_L124 (N + 1) h ty pl co inst low sz (nI (32 + F nb)) = some h ∧ f_Mo_lookAtDeclaration_L480 (N' + 1) g x1 pl x4 x5 so of sz (nI (F nb)) x = f_Mo_rule g (if (g.2.1 88) (nb - 1) ≤ 4096 then 0 else 1) 19 x1 := by
  obtain ⟨HS, ⟨⟨B1, B2, B3⟩, ⟨V1, V2, V3⟩, _⟩, _, _, _, _, HJ, J1, J2⟩ := I
  obtain ⟨k, k1, k2, k3⟩ := hch
  constructor
  · show f_Jd_settle_124 (f_Jd_settle_L124 N) h ty pl co inst low sz (nI (32 + F nb)) = _
    unfold f_Jd_settle_124
    rw [V1, if_pos ((nI_leI (by omega) (by omega)).mpr (by omega))]
  · show f_Mo_lookAtDeclaration_480 (f_Mo_lookAtDeclaration_L480 N') g x1 pl x4 x5 so of sz (nI (F nb)) x = _
    unfold f_Mo_lookAtDeclaration_480 f_Mo_lookAtDeclaration_684
    rw [k2, if_pos (zi_in (by omega) k1), nI_clamp (by omega), if_neg k3, (HJ (by omega)).2, if_pos (zi_in (by omega) (by omega)), nI_clamp (by omega), Option.bind_fun_some, Option.bind_fun_some]
    split <;> rfl
theorem zv_one {LC LM : List (List Int32)} {nb nf ty v x s y y' N N' kj : Nat} {F : Nat → Nat} {q pl co inst low x1 x4 x5 so of : Int32} {h g : zs_H} (I : zv_I LC LM nb nf v F q h g) (hb : nf + 1 = nb) (hv : v < F nb) (hty : ty < 3) (hy : (h.2.1 25) (8 + nb) = nI y) (hs : s ≤ 30000) (hy2 : y' ≤ 200000000) (hyy : y ≤ y') (hdt : zv_dt ty s low co pl) (hin : zv_in nb ty s inst so of h) (hlo : zv_lo x4 so low g) (hco : zv_co x5 co g)
    (hpl : (pl = -1 ∧ q = -1 ∧ x = y ∧ y' = y + s) ∨ ∃ p, p < 1536 ∧ (768 ≤ p → p % 256 < 64) ∧ pl = nI p ∧ q = nI p ∧ x = zv_pc p ∧ y' = y ∧ (h.2.1 21) (8 + nb) = 3 ∧ s = 1) (hkj : kj < 33500) (hkd : (g.2.1 72) kj = 6) :
    ∃ h' g', f_Jd_settle_L124 (N + 1) h (nI ty) pl co inst low (nI s) (nI (32 + v)) = f_Jd_settle_L124 N h' (nI ty) pl co inst low (nI s) (nI (32 + (v + 1))) ∧ f_Mo_lookAtDeclaration_L480 (N' + 1) g x1 pl x4 x5 so of (nI s) (nI v) (nI kj) = f_Mo_lookAtDeclaration_L480 N' g' x1 pl x4 x5 so of (nI s) (nI (v + 1)) ((g.2.1 78) kj) ∧ zv_I LC LM nb nf (v + 1) F (-1) h' g' ∧ (h'.2.1 25) (8 + nb) = nI y' ∧ zfr [] zv_sc [] h h' ∧ zfr [] zv_sm [] g g' ∧ (∀ b, b < nb - 1 → (h'.2.1 25) (9 + b) = (h.2.1 25) (9 + b)) ∧ (∀ j, ¬ j = kj → (g'.2.1 101) j = (g.2.1 101) j) ∧ (∀ j, ¬ j = 32 + v → zv_v6 h h' j) ∧ (h'.2.1 30) (32 + v) = inst ∧ (h'.2.1 32) (32 + v) = nI x := by
  have I0 := I
  obtain ⟨HS, ⟨⟨B1, B2, B3⟩, ⟨V1, V2, V3⟩, _⟩, _, ⟨_, _, W3, _⟩, ⟨_, _, C2, _⟩, _, HJ, J1, J2⟩ := I
  have hp0 : (g.2.1 96) v = -1 := W3 v (Nat.le_refl _) hv
  have hyM : (g.2.1 88) (nb - 1) = nI y := by
    obtain ⟨y0, _, c2, c3, _⟩ := C2 (nb - 1) (by omega) (by omega)
    rw [show 9 + (nb - 1) = 8 + nb by omega] at c2
    rw [c3, ← c2, hy]
  have hpl' : zv_pl pl x y y' s := by
    rcases hpl with ⟨r1, _, r3, r4⟩ | ⟨p, p1, p2, p3, _, p5, p6, _⟩
    · exact .inl ⟨r1, r3, r4⟩
    · exact .inr ⟨p, p1, p2, p3, p5, p6⟩
  obtain ⟨h', c1, c2, c3, c4, c5, c6, c7, c8, c9⟩ := zv_stepC (K := f_Jd_settle_L124 N) (ty := nI ty) (co := co) (inst := inst) (low := low) V1 hv V3 (HJ (by omega)).1 B3 hy hpl'
  obtain ⟨g', m1, m2, m3, m4, m5, m6, m7, m8, m9, mx, m10⟩ := zv_stepM (K := f_Mo_lookAtDeclaration_L480 N') (x1 := x1) (so := so) (of := of) (by omega) hkj (HJ (by omega)).2 (by omega) hyM hkd hpl' hp0 hlo hco
  exact ⟨h', g', c1, m1, zv_set1 I0 hb hv hty hy hs hy2 hyy hdt hin hpl c2 c3 c4 c5 c6 c7 c8 c9 m2 m3 m4 m5 m6 m7 m8 m9 m10, by rw [c8, if_pos rfl], c9, m10, fun b hb' => by rw [c8, if_neg (by omega)], mx, fun j hj => ⟨by rw [c2, if_neg hj], by rw [c3, if_neg hj], by rw [c7, if_neg hj], by rw [c4, if_neg hj], by rw [c5, if_neg hj], by rw [c6, if_neg hj]⟩, by rw [c2, if_pos rfl], by rw [c7, if_pos rfl]⟩
theorem zv_SEt {Q : Nat → Prop} {LC LM : List (List Int32)} {nb nf : Nat} {F : Nat → Nat} {h g h1 g1 h' g' : zs_H} (a : zfr [] zv_sc [] h h1) (b : zfr [] zv_sm [] g g1) (c : ∀ b, b < nb - 1 → (h1.2.1 25) (9 + b) = (h.2.1 25) (9 + b)) (e : ∀ j, ¬ Q j → (g1.2.1 101) j = (g.2.1 101) j) (d : zv_SE Q LC LM nb nf F h1 g1 h' g') : zv_SE Q LC LM nb nf F h g h' g' := ⟨d.1, zfr_trans a d.2.1, zfr_trans b d.2.2.1, fun x hx => (d.2.2.2.1 x hx).trans (c x hx), fun j hj => (d.2.2.2.2 j hj).trans (e j hj)⟩
/-- variables with cells of the block's own -/
theorem zv_settleU {Q : Nat → Prop} {LC LM : List (List Int32)} {nb nf ty s : Nat} {F : Nat → Nat} {co inst low x1 x4 x5 so of : Int32} (hb : nf + 1 = nb) (hty : ty < 3) (hs : s ≤ 30000) (hdt : zv_dt ty s low co (-1)) : ∀ (r N N' v y : Nat) (x : Int32) (h g : zs_H), v + r = F nb → r < N → r < N' → zv_I LC LM nb nf v F (-1) h g → (h.2.1 25) (8 + nb) = nI y → y + r * s ≤ 200000000 → zv_in nb ty s inst so of h → zv_lo x4 so low g → zv_co x5 co g → zv_ch Q g r x →
    ∃ h' g', f_Jd_settle_L124 N h (nI ty) (-1) co inst low (nI s) (nI (32 + v)) = some h' ∧ f_Mo_lookAtDeclaration_L480 N' g x1 (-1) x4 x5 so of (nI s) (nI v) x = f_Mo_rule g' (if (g'.2.1 88) (nb - 1) ≤ 4096 then 0 else 1) 19 x1 ∧ zv_SE Q LC LM nb nf F h g h' g' ∧ zv_so (F (nb - 1)) ((h.2.1 21) (8 + nb)) v (F nb) inst h h' := by
  intro r
  induction r with
  | zero =>
    intro N N' v y x h g h1 h2 h3 I hy hy2 hin hlo hco hch
    obtain ⟨N, rfl⟩ : ∃ n, N = n + 1 := ⟨N - 1, by omega⟩
    obtain ⟨N', rfl⟩ : ∃ n, N' = n + 1 := ⟨N' - 1, by omega⟩
    have ev : v = F nb := by omega
    subst ev
    obtain ⟨a1, a2⟩ := zv_endS (N := N) (N' := N') (ty := nI ty) (pl := -1) (co := co) (inst := inst) (low := low) (sz := nI s) (x1 := x1) (x4 := x4) (x5 := x5) (so := so) (of := of) I hb hch
    exact ⟨h, g, a1, a2, ⟨I, zfr_rfl, zfr_rfl, fun _ _ => rfl, fun _ _ => rfl⟩, fun _ _ => ⟨rfl, rfl, rfl, rfl, rfl, rfl⟩, fun w h1 h2 => by omega⟩
  | succ r ih =>
    intro N N' v y x h g h1 h2 h3 I hy hy2 hin hlo hco hch
    obtain ⟨N, rfl⟩ : ∃ n, N = n + 1 := ⟨N - 1, by omega⟩
    obtain ⟨N', rfl⟩ : ∃ n, N' = n + 1 := ⟨N' - 1, by omega⟩
    obtain ⟨kj, k1, k2, k3, kQ, k4⟩ := hch
    subst k2
    rw [Nat.succ_mul] at hy2
    obtain ⟨h', g', c1, m1, I', y1, f1, f2, f3, f4, o1, o2, o3⟩ := zv_one (N := N) (N' := N') (x := y) (y' := y + s) (x1 := x1) I hb (by omega) hty hy hs (by omega) (by omega) hdt hin hlo hco (.inl ⟨rfl, rfl, rfl, rfl⟩) k1 k3
    rw [c1, m1]
    have hin' : zv_in nb ty s inst so of h' := by
      rcases hin with z | z | ⟨B, z1, z2, z3, z4, z5, z6⟩
      · exact .inl z
      · exact .inr (.inl z)
      · exact .inr (.inr ⟨B, z1, z2, z3, z4, fun z => by rw [f1.2.1 _ (by decide)]; exact z5 z, by rw [f1.2.1 _ (by decide)]; exact z6⟩)
    have hlo' : zv_lo x4 so low g' := by
      unfold zv_lo
      rw [f2.2.1 76 (by decide), f2.2.1 74 (by decide)]; exact hlo
    have hco' : zv_co x5 co g' := by
      unfold zv_co
      rw [f2.2.1 74 (by decide)]; exact hco
    obtain ⟨h2', g2', d1, d2, d3, d4⟩ := ih N N' (v + 1) (y + s) ((g.2.1 78) kj) h' g' (by omega) (by omega) (by omega) I' y1 (by omega) hin' hlo' hco' (zv_chF (f2.2.1 _ (by decide)) (f2.2.1 _ (by decide)) _ _ k4)
    refine ⟨h2', g2', d1, d2, zv_SEt f1 f2 f3 (fun j hj => f4 j (fun z => hj (by rw [z]; exact kQ))) d3, fun j hj => zv_v6t (o1 j (by omega)) (d4.1 j (by omega)), fun w w1 w2 => ?_⟩
    by_cases e : w = v
    · rw [e, (d4.1 (32 + v) (by omega)).1]
      refine ⟨o2, zv_lvf (h := h') (fun u u2 => d4.1 (32 + u) (by omega)) ⟨fun u u1 u2 => zv_lyn I (by omega) (by omega) u1 u2 hy (by omega) (o1 (32 + u) (by omega)) o3 (.inl rfl), fun k3 _ x c cx => ?_⟩⟩
      obtain ⟨y0, y01, y02, _, y04⟩ := I.2.2.2.2.1.2.2.1 (nb - 1) (by omega) (by omega)
      rw [show 9 + (nb - 1) = 8 + nb by omega] at y02 y04
      have e1 : y0 = y := (nI_eq (by omega) (by omega)).mp (y02.symm.trans hy)
      have e2 : x = y := (nI_eq (by omega) (by omega)).mp (c.symm.trans o3)
      have := y04 k3
      omega
    · have := d4.2 w (by omega) w2
      rw [f1.2.1 21 (by decide)] at this
      exact this
/-- a variable at a place -/
theorem zv_settleP {Q : Nat → Prop} {LC LM : List (List Int32)} {nb nf ty v p N N' y : Nat} {F : Nat → Nat} {co inst low x1 x4 x5 so of x : Int32} {h g : zs_H} (hb : nf + 1 = nb) (hty : ty < 3) (hdt : zv_dt ty 1 low co (nI p)) (h1 : v + 1 = F nb) (h2 : 2 < N) (h3 : 2 < N') (I : zv_I LC LM nb nf v F (nI p) h g) (hy : (h.2.1 25) (8 + nb) = nI y) (hy2 : y ≤ 200000000) (hin : zv_in nb ty 1 inst so of h) (hlo : zv_lo x4 so low g) (hco : zv_co x5 co g) (hch : zv_ch Q g 1 x) (hp : p < 1536) (hp2 : 768 ≤ p → p % 256 < 64) (hk : (h.2.1 21) (8 + nb) = 3) (hi1 : inst = -1) :
    ∃ h' g', f_Jd_settle_L124 N h (nI ty) (nI p) co inst low (nI 1) (nI (32 + v)) = some h' ∧ f_Mo_lookAtDeclaration_L480 N' g x1 (nI p) x4 x5 so of (nI 1) (nI v) x = f_Mo_rule g' (if (g'.2.1 88) (nb - 1) ≤ 4096 then 0 else 1) 19 x1 ∧ zv_SE Q LC LM nb nf F h g h' g' ∧ zv_so (F (nb - 1)) ((h.2.1 21) (8 + nb)) v (F nb) inst h h' := by
  obtain ⟨N, rfl⟩ : ∃ n, N = n + 1 + 1 := ⟨N - 2, by omega⟩
  obtain ⟨N', rfl⟩ : ∃ n, N' = n + 1 + 1 := ⟨N' - 2, by omega⟩
  obtain ⟨kj, k1, k2, k3, kQ, k4⟩ := hch
  subst k2
  obtain ⟨h', g', c1, m1, I', y1, f1, f2, f3, f4, o1, o2, o3⟩ := zv_one (N := N + 1) (N' := N' + 1) (x := zv_pc p) (y' := y) (s := 1) (x1 := x1) I hb (by omega) hty hy (by omega) hy2 (Nat.le_refl _) hdt hin hlo hco (.inr ⟨p, hp, hp2, rfl, rfl, rfl, rfl, hk, rfl⟩) k1 k3
  rw [c1, m1, h1]
  rw [h1] at I'
  obtain ⟨a1, a2⟩ := zv_endS (N := N) (N' := N') (ty := nI ty) (pl := nI p) (co := co) (inst := inst) (low := low) (sz := nI 1) (x1 := x1) (x4 := x4) (x5 := x5) (so := so) (of := of) I' hb (zv_chF (f2.2.1 _ (by decide)) (f2.2.1 _ (by decide)) _ _ k4)
  exact ⟨h', g', a1, a2, ⟨I', f1, f2, f3, fun j hj => f4 j (fun z => hj (by rw [z]; exact kQ))⟩, fun j hj => o1 j (by omega), fun w w1 w2 => by rw [show w = v by omega]; exact ⟨o2, fun u u1 u2 => zv_lyn I (by omega) (by omega) u1 u2 hy hy2 (o1 (32 + u) (by omega)) o3 (.inr ⟨by unfold zv_pc; split <;> omega, hk⟩), fun _ z => absurd (o2.trans hi1) z⟩⟩
