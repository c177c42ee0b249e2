/-! The coder: a block, on both sides. -/
section YXC
variable {LC LM : List (List Int32)} {nb b e sz : Nat} {F X Y : Nat → Nat} {h0 g0 : zs_H} {P Q : Nat → Prop}
theorem yu_vW {kb : Nat → yK} {lo a : Nat} (nq : ∀ j, ¬ (kb b).2 j) (H : ∀ v, a ≤ v → v < e → ∃ x, (h0.2.1 32) (32 + v) = nI x ∧ x < Y b) : ∀ (m v : Nat), a ≤ v → v + m = e → yo_h 0 (yu_vs h0 m v) = some 0 ∧ ∀ i, i ∈ yu_vs h0 m v → yw_i X Y kb b lo i := by
  intro m
  induction m with
  | zero => intro v _ _; exact ⟨rfl, fun i hi => by cases hi⟩
  | succ m ih =>
    intro v ha hv
    obtain ⟨i1, i2⟩ := ih (v + 1) (by omega) (by omega)
    rw [yu_vs]
    split
    · refine ⟨?_, fun i hi => ?_⟩
      · rw [yo_1 (e := 0) rfl]; exact i1
      · rcases List.mem_append.mp hi with z | z
        · rcases List.mem_append.mp z with z | z
          · rw [List.mem_singleton.mp z]; exact .inl (.inl rfl)
          · rw [List.mem_singleton.mp z]
            obtain ⟨x, e1, e2⟩ := H v ha (by omega)
            exact .inr (.inl ⟨rfl, x, e1, .inl ⟨e2, nq _⟩⟩)
        · exact i2 i z
    · rw [List.nil_append]; exact ⟨i1, i2⟩
/-- the beginning of a FUNCTION -/
theorem yu_vsN {Bc : Nat → Nat → Prop} {a : Nat} (H : ∀ v, a ≤ v → v < e → ∀ x : Nat, (h0.2.1 32) (32 + v) = nI x → x < 100000 → Bc b x → (h0.2.1 35) (32 + v) = 0 ∨ (h0.2.1 35) (32 + v) = 1) (hc : ∀ v, a ≤ v → v < e → ∃ x : Nat, (h0.2.1 32) (32 + v) = nI x ∧ x < 100000) : ∀ (m v : Nat), a ≤ v → v + m = e → yo_N Bc b (yu_vs h0 m v) := by
  intro m
  induction m with
  | zero => intro v _ _ K st A; exact A
  | succ m ih =>
    intro v ha hv K st A
    have i1 := ih (v + 1) (by omega) (by omega) K st A
    rw [yu_vs]
    split
    · rw [yo_Wap]
      obtain ⟨x, e1, e2⟩ := hc v ha (by omega)
      show (Bc b ((h0.2.1 32) (32 + v)).toNatClampNeg → _) ∧ yo_W Bc b (yu_vs h0 m (v + 1)) K st
      rw [e1, nI_clamp (by omega)]
      exact ⟨fun z => H v ha (by omega) x e1 e2 z, i1⟩
    · rw [List.nil_append]; exact i1
theorem zc_m2 {t : Nat} (ht : t < 2147483646) : ¬ nI t = -2 := fun z => by
  have h : nI t + 1 = -1 := by rw [z]; rfl
  rw [show nI t + 1 = nI (t + 1) from zc_ad 1 t] at h
  exact zc_m1 (by omega) h
/-- what is known of the variables of a block -/
def yx_v (F : Nat → Nat) (b : Nat) (h0 : zs_H) : Prop := ∀ v, F b ≤ v → v < F (b + 1) → ((h0.2.1 29) (32 + v) = 3 ↔ (h0.2.1 21) (9 + b) = 1 ∧ v = F b) ∧ ((h0.2.1 21) (9 + b) = 1 → (h0.2.1 30) (32 + v) = -1 ∨ (h0.2.1 30) (32 + v) = -2)
theorem yx_fun (C : yk_cx LC LM nb F X Y h0 g0) (hb : b < nb) (k1 : (h0.2.1 21) (9 + b) = 1) (S3 : yx_v F b h0) (kb : Nat → yK) (nq : ∀ j, ¬ (kb b).2 j) (lo : Nat) : ∃ L : List yI, L.length ≤ 12000 ∧ (yo_h 0 L = some 0 ∧ (∀ i, i ∈ L → yw_i X Y kb b lo i) ∧ ∀ LD : Nat → Prop, yo_N (yq_b LD h0) b L) ∧ (∀ (h : zs_H) (n : Nat), yC_f h0 h → (h.1 47 3) = nI (9 + b) → (h.1 41 5) = nI n → n + 12000 < 90000000 → ∃ h', f_Cr_beginFunction h = some h' ∧ yC_E n L h h') ∧ (∀ (g : zs_H) (n s lv : Nat), yM_f g0 g → yM_c g n s b lv → n + 12000 < 90000000 → ∃ g', f_Mo_beginFunction g (nI b) = some g' ∧ yM_E s n (yv lv L) g g') := by
  have hz := zF_big
  have C0 := C
  obtain ⟨I, _, CC⟩ := C
  obtain ⟨⟨x1, x2, x3⟩, x4, x5, x6, x7⟩ := CC b hb
  have HB := I.2.1
  have hn := HB.1.2.2
  have hF := HB.2.1.2.2
  have hFb := (HB.2.2.2.1 b hb).2
  obtain ⟨f1, f2, f3⟩ := HB.2.2.2.2.2.1 b hb
  have hlt := (I.2.2.2.2.1.2.2.2 b hb k1).1
  have V : ∀ v, F b ≤ v → v < F (b + 1) → (∃ x, (h0.2.1 32) (32 + v) = nI x ∧ x < Y b) ∧ (g0.2.1 99) v = (h0.2.1 35) (32 + v) ∧ (g0.2.1 94) v = (h0.2.1 32) (32 + v) := by
    intro v v1 v2
    obtain ⟨ty, x, s, y, _, ⟨q1, q2⟩, _, q4, ⟨q5, q6, q7⟩, _, q8, q9, q10⟩ := I.2.2.2.1.2.1 b v hb v1 v2 (by omega)
    refine ⟨⟨x, q1, ?_⟩, q8, q2.trans q1.symm⟩
    have ey : y = Y b := (nI_eq (by omega) (by omega)).mp (q4.symm.trans x6)
    have hs : 1 ≤ s := by
      rcases q9 with ⟨_, _, _, e⟩ | ⟨_, _, _, e, _⟩ | ⟨B, B1, B2, _⟩
      · omega
      · exact e
      · rcases (S3 v v1 v2).2 k1 with z | z
        · exact absurd (B2.symm.trans z) (zc_m1 (by omega))
        · exact absurd (B2.symm.trans z) (zc_m2 (by omega))
    rcases q10 with ⟨_, z, _⟩ | ⟨p, _, _, z, _⟩
    · omega
    · rw [k1] at z; exact absurd z (by decide)
  obtain ⟨m, hm⟩ : ∃ m, F (b + 1) = F b + 1 + m := ⟨F (b + 1) - (F b + 1), by omega⟩
  have sec : ∀ v, F b + 1 ≤ v → v < F (b + 1) → ((g0.2.1 95) v = 0 ↔ (h0.2.1 29) (32 + v) = 0) ∧ (g0.2.1 99) v = (h0.2.1 35) (32 + v) ∧ (g0.2.1 94) v = (h0.2.1 32) (32 + v) := by
    intro v v1 v2
    refine ⟨?_, (V v (by omega) v2).2⟩
    obtain ⟨s, s1, s2, s3⟩ := I.2.2.2.1.1 v (by omega)
    have n3 : ¬ s = 3 := fun z => by
      have := ((S3 v (by omega) v2).1.mp (by rw [s2, z]; rfl)).2
      omega
    rw [s3, s2, if_neg n3]
  have lv := yu_vl (h0 := h0) m (F b + 1)
  have W := yu_vW (h0 := h0) (X := X) (Y := Y) (b := b) (kb := kb) (lo := lo) (a := F b + 1) (e := F (b + 1)) nq (fun v v1 v2 => (V v (by omega) v2).1) m (F b + 1) (Nat.le_refl _) hm.symm
  have Y1 : 0 < Y b := by
    obtain ⟨x, _, h2⟩ := (V (F b) (Nat.le_refl _) hlt).1
    omega
  refine ⟨yu_pre h0 m (F b + 1), ?_, ⟨?_, fun i hi => ?_, fun LD K st A => ?_⟩, fun h n f hbk es hn => ?_, fun g n s lv f c hn => ?_⟩
  · show ((yu_vs h0 m (F b + 1)).length + 1) + 1 ≤ _
    omega
  · unfold yu_pre
    rw [yo_1 (e := 0) rfl]; exact W.1
  · rcases List.mem_append.mp hi with z | z
    · rcases List.mem_append.mp z with z | z
      · rw [List.mem_singleton.mp z]; exact .inl (.inl rfl)
      · rw [List.mem_singleton.mp z]
        exact .inr (.inl ⟨rfl, 0, rfl, .inl ⟨Y1, nq _⟩⟩)
    · exact W.2 i z
  · have N := yu_vsN (h0 := h0) (Bc := yq_b LD h0) (b := b) (a := F b + 1) (e := F (b + 1)) ?_ (fun v v1 v2 => by
      obtain ⟨x, q1, q2⟩ := (V v (by omega) v2).1
      exact ⟨x, q1, by omega⟩) m (F b + 1) (Nat.le_refl _) hm.symm K st A
    · unfold yu_pre
      rw [yo_Wap]
      show (yq_b LD h0 b (0 : Int32).toNatClampNeg → _) ∧ yo_W (yq_b LD h0) b (yu_vs h0 m (F b + 1)) K st
      exact ⟨fun _ => .inl rfl, N⟩
    intro v v1 v2 x e1 hx z
    obtain ⟨ty, x', s', y', ⟨t1, t2⟩, ⟨r1, _⟩, ⟨r2, _⟩, q4, ⟨r3, r4, _, r5, _⟩, _, _, q9, _⟩ := I.2.2.2.1.2.1 b v hb (by omega) v2 (by omega)
    have ex : x' = x := (nI_eq (by omega) (by omega)).mp (r1.symm.trans e1)
    have hs : 1 ≤ s' := by
      rcases q9 with ⟨_, _, _, e⟩ | ⟨_, _, _, e, _⟩ | ⟨B, B1, B2, _⟩
      · omega
      · exact e
      · rcases (S3 v (by omega) v2).2 k1 with z | z
        · exact absurd (B2.symm.trans z) (zc_m1 (by omega))
        · exact absurd (B2.symm.trans z) (zc_m2 (by omega))
    have t0 := yq_bc (LD := LD) (j := 0) C0 hb ⟨by omega, v2⟩ ((S3 v (by omega) v2).2 k1) e1 hx r2 (by omega) (by omega) z
    exact r5 ((zc_eq (k := 0) (by decide) (by omega)).mp (t2.symm.trans t0))
  · obtain ⟨h1, a1, a2⟩ := yC_emit es (by omega) 0 (by decide) 0
    have ff1 : yC_f h0 h1 := zfr_trans f (zfr_w a2.2.1 (by decide) (by decide) (by decide))
    obtain ⟨h2, b1, b2⟩ := yC_emit a2.1 (show n + 1 < 100000000 by omega) 2 (by decide) 0
    have ff2 : yC_f h0 h2 := zfr_trans ff1 (zfr_w b2.2.1 (by decide) (by decide) (by decide))
    have bk2 : (h2.1 47 3) = nI (9 + b) := (b2.2.1.1 _ _ (by decide)).trans ((a2.2.1.1 _ _ (by decide)).trans hbk)
    obtain ⟨h3, c1, c2⟩ := yu_bfC (b := b) (by omega) f3 (by omega) (m + 1) (F b) zF (n + 1 + 1) h2 (by omega) ff2 bk2 b2.1 (by omega) (by omega)
    rw [yu_vs, if_neg (by rw [(S3 (F b) (Nat.le_refl _) hlt).1.mpr ⟨k1, rfl⟩]; decide), List.nil_append] at c2
    refine ⟨h3, ?_, yC_ap (yC_ap a2 b2) c2⟩
    unfold f_Cr_beginFunction
    refine (congrArg (fun z => zd_B z _) a1).trans ?_
    show zd_B (f_Cd_emit h1 2 0) (fun _ h6 => if zd_in ((h6.1 47 3)) 629 then f_Cr_beginFunction_L33 zF h6 ((h6.2.1 23) ((h6.1 47 3)).toNatClampNeg) else none) = _
    refine (congrArg (fun z => zd_B z _) b1).trans ?_
    show (if zd_in ((h2.1 47 3)) 629 then f_Cr_beginFunction_L33 zF h2 ((h2.2.1 23) ((h2.1 47 3)).toNatClampNeg) else none) = _
    rw [bk2, if_pos (zi_in (by omega) (by omega)), nI_clamp (by omega), ff2.2.1 23 (by decide), f1]
    exact c1
  · obtain ⟨g1, a1, a2⟩ := yM_e c (show n < 100000000 by omega) 0 0 0 0 (by decide)
    have ff1 : yM_f g0 g1 := zfr_trans f (zfr_w a2.2.1 (by decide) (by decide) (by decide))
    have c1 := yM_cL c a2
    obtain ⟨g2, b1, b2⟩ := yM_e c1 (show n + 1 < 100000000 by omega) 2 0 0 0 (by decide)
    have ff2 : yM_f g0 g2 := zfr_trans ff1 (zfr_w b2.2.1 (by decide) (by decide) (by decide))
    have c2 := yM_cL c1 b2
    obtain ⟨g3, d1, d2⟩ := yu_bfM (h0 := h0) (a := F b + 1) (fun g f => yu_end HB hb f) (by omega) sec m (F b + 1) zF (n + 1 + 1) s lv g2 hm.symm (Nat.le_refl _) ff2 c2 (by omega) (by omega)
    refine ⟨g3, ?_, ?_⟩
    · unfold f_Mo_beginFunction
      refine (congrArg (fun z => zd_B z _) a1).trans ?_
      show zd_B (f_Mo_emit g1 2 0 0 0) (fun _ h6 => if zd_in (nI b) 2101 then f_Mo_beginFunction_L27 zF h6 (nI b) ((h6.2.1 90) (nI b).toNatClampNeg + 1) else none) = _
      refine (congrArg (fun z => zd_B z _) b1).trans ?_
      show (if zd_in (nI b) 2101 then f_Mo_beginFunction_L27 zF g2 (nI b) ((g2.2.1 90) (nI b).toNatClampNeg + 1) else none) = _
      rw [if_pos (zi_in (by omega) (by omega)), nI_clamp (by omega), ff2.2.1 90 (by decide), f2, show nI (F b) + 1 = nI (F b + 1) from zc_ad 1 (F b)]
      exact d1
    · have := yM_ap (yM_ap a2 b2) d2
      unfold yu_pre
      rw [yv_ap, yv_ap]
      exact this
/-- a unit's code -/
def yx_C (h0 : zs_H) (b : Nat) (T : ys) : Prop := ∀ (h : zs_H) (n : Nat), yC_f h0 h → (h.1 47 3) = nI (9 + b) → (h.1 41 5) = nI n → n + yz_l T + 700000 ≤ 80000000 → ∃ h', f_Cr_codeBlock h = some h' ∧ yx_U n ((yz_c T n 0 0 0).map Prod.fst) h h'
def yx_M (g0 : zs_H) (b : Nat) (T : ys) : Prop := ∀ (g : zs_H) (n : Nat), yM_f g0 g → yM_c g n n b 0 → (g.1 68 68) = 0 → (g.1 68 66) = 0 → n + yz_l T + 700000 ≤ 80000000 → ∃ g', (∀ K : zs_H → Int32 → Option (Int32 × zs_H), (if (g.2.1 86) b = 1 then ((f_Mo_beginFunction g (nI b)).bind fun h8 => f_Mo_generate_66 K h8 (nI b)) else f_Mo_generate_66 K g (nI b)) = K g' (nI (b + 1))) ∧ yM_U n n (yz_c T n 0 0 0) g g' ∧ (g'.1 68 68) = 0 ∧ (g'.1 68 66) = 0
/-- all that is known of a unit's code -/
def yx_T (X Y : Nat → Nat) (h0 : zs_H) (b : Nat) (T : ys) : Prop := yz_st T ∧ (∀ n, yz_x T n = []) ∧ yz_l T ≤ 600000 ∧ yz_W X Y (yq_k h0) b T (Y b) ∧ yz_v T ≤ 61 ∧ yz_NL h0 b T
theorem yx_unit (C : yk_cx LC LM nb F X Y h0 g0) (hb : b < nb) (hn16 : nb ≤ 16) (hP : ∀ j, P j → j < 32784) (hsz : (h0.1 12 6) = nI sz) (hs2 : sz ≤ 32784) (K : yg_K LC LM F sz b P Q h0 g0) : ∃ T, yx_C h0 b T ∧ yx_M g0 b T ∧ yx_T X Y h0 b T := by
  have hz := zF_big
  obtain ⟨Fb, i, k, c, kv, lb, a, bn, y, m, FbF, ⟨i1, i2, i3, i4⟩, ⟨l1, l2, l3, Qm, _, M⟩, ⟨hc, hA, ok, hd, hcx, hx, hru⟩, ⟨a1, ⟨a2, a2'⟩, a3⟩, A, ⟨⟨y1, y1'⟩, y2, y3⟩, G0, G1, S3, _⟩ := K
  have C' : yj_cx LC LM nb b sz F Fb X Y h0 g0 P := ⟨C, hb, FbF, hP, hsz, hs2⟩
  obtain ⟨⟨x1, x2, x3⟩, x4, x5, x6, x7⟩ := C.2.2 b hb
  have ey : y = Y b := (nI_eq (by omega) (by omega)).mp (y2.symm.trans x6)
  subst ey
  have hbd := yg_body (kv := kv) (o := ()) hc hA ok
  have hsl : zt_sz (.inner c kv () lb .leaf) = 1 + zt_sz lb + 0 := rfl
  have eX : X b = Y b + yc_o (.inner c kv () lb .leaf) := (nI_eq (by omega) (by omega)).mp (x4.symm.trans y3)
  have body : ∃ T, yx_B h0 g0 b a bn (Y b) T ∧ yz_st T ∧ (∀ n, yz_x T n = []) ∧ yz_l T ≤ 16 * zt_sz lb ∧ yz_W X Y (yq_k h0) b T (Y b) ∧ yz_v T ≤ 61 ∧ yz_NL h0 b T := by
    rcases hc with e | e <;> subst e
    · have e0 : yg_c 0 (.inner 11 kv () lb .leaf) = yg_c 0 lb := by show 0 + yg_c 0 lb + 0 = _; omega
      exact yx_b11 C' A M G0 a1 l2 l3 hA ok hd hcx a2' (by rw [eX, hbd.1, e0]; omega) hx
    · have e0 : yg_c 0 (.inner 22 kv () lb .leaf) = 0 := by
        have : yg_c 0 (.inner 22 kv () lb .leaf) = 0 + yg_c 0 lb + 0 := rfl
        rw [this, yu_ld0 lb ok (yu_gld (by decide) (yc_gA hA))]
      have e1 : yg_c 1 (.inner 22 kv () lb .leaf) = yg_c 1 lb := by show 0 + yg_c 1 lb + 0 = _; omega
      rw [e0, Nat.add_zero] at G1
      have hX : X b = Y b + yg_c 1 lb + 156 := by rw [eX, hbd.1, e0, e1, if_pos rfl]; omega
      exact yx_b22 C' A M G1 a1 l2 l3 hA ok a2' hX hru
  obtain ⟨T0, ⟨BC, BM⟩, t1, t2, t3, t4, t5⟩ := body
  have h61 : ∀ h : zs_H, yC_f h0 h → (h.1 47 3) = nI (9 + b) → f_Cr_codeBlock_61 h = f_Cr_codeBlock_124 h (nI a) := by
    intro h f hbk
    unfold f_Cr_codeBlock_61
    rw [hbk, if_pos (zi_in (by omega) (by omega)), nI_clamp (by omega), f.2.1 22 (by decide), i3, if_pos (zi_in (by omega) i1), nI_clamp (by omega), f.2.1 17 (by decide)]
    exact yu_chain a1 ((f.1 _ _ (by decide)).trans hsz) hs2 m zF 0 _ (by rw [f.2.1 18 (by decide)]; exact a3) (by omega) (by omega)
  have m66 : ∀ (K : zs_H → Int32 → Option (Int32 × zs_H)) (g g' : zs_H), yM_f g0 g → (if (g.2.1 72) bn = 11 then f_Mo_bodyCode 400 g (nI bn) else f_Mo_ladderCode g (nI bn)) = some g' → f_Mo_generate_66 K g (nI b) = K g' (nI (b + 1)) := by
    intro K g g' f hg
    unfold f_Mo_generate_66 f_Mo_generate_102
    simp only [if_pos (zi_in (show b < 2147483648 by omega) (show b < 2100 by omega)), nI_clamp (show b < 2147483648 by omega), f.2.1 84 (by decide), i4, if_pos (zi_in (show k < 2147483648 by omega) i2), nI_clamp (show k < 2147483648 by omega), f.2.1 77 (by decide), l1, if_pos (zi_in (show bn < 2147483648 by omega) l2), nI_clamp (show bn < 2147483648 by omega), show nI b + 1 = nI (b + 1) from zc_ad 1 b]
    by_cases z : (g.2.1 72) bn = 11
    · rw [if_pos z] at hg ⊢; rw [hg]; rfl
    · rw [if_neg z] at hg ⊢; rw [hg]; rfl
  obtain ⟨kd, kd1, kd2, kd3, _⟩ := C.1.2.1.2.2.2.2.1 b hb
  have pre : ∀ h : zs_H, yC_f h0 h → (h.1 47 3) = nI (9 + b) → ∃ h3, h3 = zs_uF (zs_uF (zs_uF h 47 4 (nI (Y b))) 47 5 ((h0.2.1 26) (9 + b) - 156)) 47 6 (-1) ∧ f_Cr_codeBlock h = (if (h0.2.1 21) (9 + b) = 1 then ((f_Cr_beginFunction h3).bind fun h4 => f_Cr_codeBlock_61 h4) else f_Cr_codeBlock_61 h3) := by
    intro h f hbk
    refine ⟨_, rfl, ?_⟩
    unfold f_Cr_codeBlock
    simp only [hbk, if_pos (zi_in (show 9 + b < 2147483648 by omega) (show 9 + b < 629 by omega)), nI_clamp (show 9 + b < 2147483648 by omega), f.2.1 21 (by decide), f.2.1 25 (by decide), f.2.1 26 (by decide), x6]
  have toU : ∀ (h h3 h' : zs_H) (n : Nat) (L : List yI), h3 = zs_uF (zs_uF (zs_uF h 47 4 (nI (Y b))) 47 5 ((h0.2.1 26) (9 + b) - 156)) 47 6 (-1) → yC_U n L h3 h' → yx_U n L h h' := by
    intro h h3 h' n L e U
    have f3 : zfr yx_F yU_M [] h h3 := by rw [e]; exact zfr_F (by decide) (zfr_F (by decide) (zfr_F (by decide) zfr_rfl))
    have e2 : h3.2.1 = h.2.1 := by rw [e]; rfl
    refine ⟨U.1, zfr_trans f3 (zfr_w U.2.1 (by decide) (by decide) (by decide)), fun h4 => ⟨fun j hj a ha => ?_, (U.2.2 h4).2⟩⟩
    rw [(U.2.2 h4).1 j hj a ha, e2]
  by_cases k1 : (h0.2.1 21) (9 + b) = 1
  · obtain ⟨L, L1, ⟨L2, L3, LN⟩, L4, L5⟩ := yx_fun C hb k1 (fun v v1 v2 => ⟨(S3 v v1 v2).1, (S3 v v1 v2).2.1⟩) (yq_k h0) (fun j => yq_fn C hb (fun v v1 v2 => (S3 v v1 v2).2.1 k1)) (Y b)
    have sL : yz_st (yz_i L) := ⟨by decide, trivial⟩
    have lL : yz_l (yz_i L) = L.length := rfl
    have cL : ∀ n, yz_c (yz_i L) n 0 0 0 = yv 0 L := fun n => List.append_nil _
    have eT : yz_l (yz_ap (yz_i L) T0) = L.length + yz_l T0 := by rw [yz_apl _ _ sL, lL]
    have cT : ∀ n, yz_c (yz_ap (yz_i L) T0) n 0 0 0 = yv 0 L ++ yz_c T0 (n + L.length) 0 0 0 := fun n => by rw [yz_apc _ _ _ _ _ _ sL, cL, lL]
    refine ⟨yz_ap (yz_i L) T0, fun h n f hbk es hn => ?_, fun g n f c w1 w2 hn => ?_, yz_stap _ _ sL t1, fun n => ?_, by rw [eT]; omega, yz_Wap _ _ _ (yz_Wi L2 L3) t4, ?_, t5.2.imp (fun q LD nl => yz_Bap _ _ (yz_Bi (LN LD)) (q LD nl)) (fun q LD ld => yz_Bap _ _ (yz_Bi (LN LD)) (q LD ld))⟩
    · rw [eT] at hn
      obtain ⟨h3, e3, p1⟩ := pre h f hbk
      have f3 : yC_f h0 h3 := by rw [e3]; exact zfr_F (by decide) (zfr_F (by decide) (zfr_F (by decide) f))
      have bk3 : (h3.1 47 3) = nI (9 + b) := by rw [e3]; exact hbk
      obtain ⟨h4, q1, q2⟩ := L4 h3 n f3 bk3 (by rw [e3]; exact es) (by omega)
      have f4 : yC_f h0 h4 := zfr_trans f3 (zfr_w q2.2.1 (by decide) (by decide) (by decide))
      have bk4 : (h4.1 47 3) = nI (9 + b) := (q2.2.1.1 _ _ (by decide)).trans bk3
      obtain ⟨h5, r1, r2⟩ := BC h4 (n + L.length) f4 q2.1 ((q2.2.1.1 _ _ (by decide)).trans (by rw [e3]; rfl)) ((q2.2.1.1 _ _ (by decide)).trans (by rw [e3]; rfl)) (by omega)
      refine ⟨h5, ?_, toU h h3 h5 n _ e3 ?_⟩
      · rw [p1, if_pos k1, q1, Option.bind_some, h61 h4 f4 bk4, r1]
      · rw [cT, List.map_append, yv_m]
        exact yC_Uap (yC_UE q2) r2
    · rw [eT] at hn
      obtain ⟨g1, q1, q2⟩ := L5 g n n 0 f c (by omega)
      have f1 : yM_f g0 g1 := zfr_trans f (zfr_w q2.2.1 (by decide) (by decide) (by decide))
      obtain ⟨g2, r1, r2, r3, r4, _⟩ := BM g1 (n + L.length) n f1 (yM_cL c q2) ((q2.2.1.1 _ _ (by decide)).trans w1) ((q2.2.1.1 _ _ (by decide)).trans w2) (by omega)
      refine ⟨g2, fun K => ?_, ?_, r3, r4⟩
      · rw [f.2.1 86 (by decide), kd3, ← kd2, if_pos k1, q1, Option.bind_some]
        exact m66 K g1 g2 f1 r1
      · rw [cT]
        refine yM_Uap (yM_UE q2) ?_
        rw [yv_len]
        exact r2
    · rw [yz_apx _ _ _ sL, t2]; rfl
    · rw [yz_vap]; exact Nat.max_le.mpr ⟨Nat.zero_le _, t5.1⟩
  · refine ⟨T0, fun h n f hbk es hn => ?_, fun g n f c w1 w2 hn => ?_, t1, t2, by omega, t4, t5⟩
    · obtain ⟨h3, e3, p1⟩ := pre h f hbk
      have f3 : yC_f h0 h3 := by rw [e3]; exact zfr_F (by decide) (zfr_F (by decide) (zfr_F (by decide) f))
      have bk3 : (h3.1 47 3) = nI (9 + b) := by rw [e3]; exact hbk
      obtain ⟨h5, r1, r2⟩ := BC h3 n f3 (by rw [e3]; exact es) (by rw [e3]; rfl) (by rw [e3]; rfl) (by omega)
      exact ⟨h5, by rw [p1, if_neg k1, h61 h3 f3 bk3, r1], toU h h3 h5 n _ e3 r2⟩
    · obtain ⟨g2, r1, r2, r3, r4, _⟩ := BM g n n f c w1 w2 (by omega)
      refine ⟨g2, fun K => ?_, r2, r3, r4⟩
      rw [f.2.1 86 (by decide), kd3, ← kd2, if_neg k1]
      exact m66 K g g2 f r1
end YXC
