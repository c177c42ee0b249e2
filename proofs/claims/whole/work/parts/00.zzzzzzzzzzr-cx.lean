/-! CX: not too many bodies, not too many EXITs: a text. -/
theorem zc_cnt_2 {P P1 P2 : Nat → Prop} (h1 : ∀ j, P1 j → P j ∧ ¬ P2 j) (h2 : ∀ j, P2 j → P j) : ∀ m, zc_cnt P1 m + zc_cnt P2 m ≤ zc_cnt P m := by
  intro m
  induction m with
  | zero => exact Nat.le_refl 0
  | succ m ih =>
    show (zc_cnt P1 m + @ite Nat (P1 m) (Classical.propDecidable _) 1 0) + (zc_cnt P2 m + @ite Nat (P2 m) (Classical.propDecidable _) 1 0) ≤ zc_cnt P m + @ite Nat (P m) (Classical.propDecidable _) 1 0
    by_cases c1 : P1 m
    · rw [if_pos c1, if_neg (h1 m c1).2, if_pos (h1 m c1).1]; omega
    · rw [if_neg c1]
      by_cases c2 : P2 m
      · rw [if_pos c2, if_pos (h2 m c2)]; omega
      · rw [if_neg c2]; omega
theorem zcx_ct {h : zs_H} {A B : Nat → Int32} {c : Nat} : ∀ (t : zt_T) (P : Nat → Prop) (up x y : Int32) (m : Nat), zt_G (zt_NC h) A B t P up x y → (∀ i, P i → i < m) → zg_ct c t ≤ zc_cnt (fun i => P i ∧ (h.2.1 13) i = nI c) m := by
  intro t
  induction t with
  | leaf => intro P up x y m _ _; exact Nat.zero_le _
  | inner kd k v l r ihl ihr =>
    intro P up x y m q hP
    obtain ⟨i, P1, P2, z1, z2, q1, q2, q3, q4, q5, q6, q7, q8, q9⟩ := q
    have a := ihl P1 _ _ _ m q7 (fun j hj => hP j (q5 j hj).1)
    have b := ihr P2 _ _ _ m q8 (fun j hj => hP j (q6 j hj).1)
    show (if kd = c then 1 else 0) + zg_ct c l + zg_ct c r ≤ _
    by_cases e : kd = c
    · have d := zc_cnt_3 (P := fun i => P i ∧ (h.2.1 13) i = nI c) (P1 := fun i => P1 i ∧ (h.2.1 13) i = nI c) (P2 := fun i => P2 i ∧ (h.2.1 13) i = nI c) (i := i) ⟨q1, by rw [q4.1, e]⟩ (fun j hj => ⟨⟨(q5 j hj.1).1, hj.2⟩, (q5 j hj.1).2.1, fun w => (q5 j hj.1).2.2 w.1⟩) (fun j hj => ⟨⟨(q6 j hj.1).1, hj.2⟩, (q6 j hj.1).2⟩) m
      rw [if_pos (hP i q1)] at d
      rw [if_pos e]; omega
    · have d := zc_cnt_2 (P := fun i => P i ∧ (h.2.1 13) i = nI c) (P1 := fun i => P1 i ∧ (h.2.1 13) i = nI c) (P2 := fun i => P2 i ∧ (h.2.1 13) i = nI c) (fun j hj => ⟨⟨(q5 j hj.1).1, hj.2⟩, fun w => (q5 j hj.1).2.2 w.1⟩) (fun j hj => ⟨(q6 j hj.1).1, hj.2⟩) m
      rw [if_neg e]; omega
/-- how long a word is -/
def zl_ww (t : zl_T) : Prop := t.1 = 2 → t.2.1 + (zl_W.getD t.2.2.2 []).length ≤ t.2.2.1
theorem zl_wF {T : Nat → Int32} {n a e : Nat} {v : Option Nat} : zl_ww (zl_fin T n a v e) := by
  unfold zl_fin zl_ww
  cases v with
  | none => intro q; exact absurd q (by show ¬ (9 : Nat) = 2; decide)
  | some x =>
    dsimp only
    split
    · intro q; exact absurd q (by show ¬ (3 : Nat) = 2; decide)
    · intro q; exact absurd q (by show ¬ (9 : Nat) = 2; decide)
theorem zl_wk {k a e v : Nat} (hk : ¬ k = 2) : zl_ww (k, a, e, v) := fun q => absurd q hk
theorem zl_wtok {T : Nat → Int32} {n b : Nat} : zl_ww (zl_tok T n b) := by
  unfold zl_tok
  by_cases c : (zl_sk T n (n - b) b).2 = true
  · rw [if_pos c]
    generalize (zl_sk T n (n - b) b).1 = a
    unfold zl_tk
    by_cases c0 : n ≤ a
    · rw [if_pos c0]; exact zl_wk (by decide)
    rw [if_neg c0]
    by_cases c1 : zl_g T n a = 84 ∧ zl_b T n (a + 1) = 35
    · rw [if_pos c1]; exact zl_wF
    rw [if_neg c1]
    by_cases c2 : ¬ f_Mo_isLetter (zl_g T n a) = 0
    · rw [if_pos c2]
      unfold zl_tn
      by_cases d1 : 32 < zl_ne T n a - a
      · rw [if_pos d1]; exact zl_wk (by decide)
      rw [if_neg d1]
      by_cases d2 : zl_nm T n a (zl_ne T n a) ∈ zl_W
      · rw [if_pos d2]
        intro _
        have hl := (zl_ne_le (T := T) (n := n) (a := a) (by omega)).1
        have hw : zl_W.idxOf (zl_nm T n a (zl_ne T n a)) < zl_W.length := List.idxOf_lt_length_of_mem d2
        have eg : zl_W.getD (zl_W.idxOf (zl_nm T n a (zl_ne T n a))) [] = zl_nm T n a (zl_ne T n a) := by
          rw [List.getD_eq_getElem?_getD, List.getElem?_eq_getElem hw]
          exact List.getElem_idxOf hw
        show a + (zl_W.getD (zl_W.idxOf (zl_nm T n a (zl_ne T n a))) []).length ≤ zl_ne T n a
        rw [eg, zl_nm_len]
        omega
      · rw [if_neg d2]; exact zl_wk (by decide)
    rw [if_neg c2]
    by_cases c3 : ¬ f_Mo_isDigit (zl_g T n a) = 0
    · rw [if_pos c3]
      unfold zl_nb
      repeat' split
      all_goals first | exact zl_wF | exact zl_wk (by decide)
    rw [if_neg c3]
    by_cases c4 : zl_g T n a = 37
    · rw [if_pos c4]
      unfold zl_pl
      repeat' split
      all_goals exact zl_wk (by decide)
    · rw [if_neg c4]
      unfold zl_sn
      repeat' split
      all_goals exact zl_wk (by decide)
  · rw [if_neg c]; exact zl_wk (by decide)
def zl_wd (v : Nat) : Bool := decide (2 ≤ (zl_W.getD v []).length)
theorem zl_wda : ∀ v, v < 41 → zl_wd v = true := by decide +kernel
theorem zl_w4 : (zl_W.getD 28 []).length = 4 := by decide +kernel
theorem zcx_mkE {h : zs_H} {T : Nat → Int32} {n K : Nat} {LC : List (List Int32)} (S : zq_S h T n K LC) : zcx_E (fun j => zl_ck (zl_at T n j), fun j => (zl_at T n j).2.1, K) := by
  obtain ⟨s1, s2, s3, s4, s5, s6, s7, s8, s9, s10⟩ := id S
  have bs : ∀ j, j ≤ K → zl_bs T n j ≤ n := by
    intro j
    induction j with
    | zero => intro _; exact Nat.zero_le _
    | succ j ih =>
      intro hj
      have k := zl_tok_kd (T := T) (n := n) (b := zl_bs T n j) s9 (ih (by omega))
      exact (k.2.2.2.1 (s4 j (by omega))).2
  have F := fun j => zk_F' S j
  have sv : ∀ x, zl_sv x → x < 128 := by
    intro x hx
    have : ∀ x, x ∈ [40, 41, 91, 93, 44, 59, 58, 46, 43, 45, 42, 47, 61, 60, 62, 38, 124] → x < 128 := by decide
    exact this x hx
  refine ⟨fun j hj => ?_, by show K ≤ 10240; omega, fun j hj => ?_⟩
  · have hj : j < K := hj
    have k := zl_tok_kd (T := T) (n := n) (b := zl_bs T n j) s9 (bs j (by omega))
    have k1 := zl_tok_kd (T := T) (n := n) (b := zl_bs T n (j + 1)) s9 (bs (j + 1) (by omega))
    have e1 : (zl_at T n j).2.2.1 ≤ (zl_at T n (j + 1)).2.1 := k1.1
    have e2 : (zl_at T n j).2.1 < (zl_at T n j).2.2.1 := (k.2.2.2.1 (s4 j hj)).1
    have w := zl_wtok (T := T) (n := n) (b := zl_bs T n j)
    have w' : (zl_at T n j).1 = 2 → (zl_at T n j).2.1 + (zl_W.getD (zl_at T n j).2.2.2 []).length ≤ (zl_at T n j).2.2.1 := w
    have ck := zl_ckD (F j)
    have two : 128 ≤ zl_ck (zl_at T n j) → (zl_at T n j).1 = 2 ∧ zl_ck (zl_at T n j) = 128 + (zl_at T n j).2.2.2 ∧ (zl_at T n j).2.2.2 < 41 := fun q => by
      rcases ck with z | z | z | z | z | z | z | z
      · omega
      · omega
      · exact z
      · omega
      · omega
      · omega
      · omega
      · have := sv _ z.2.1; omega
    show (zl_at T n j).2.1 + 1 ≤ (zl_at T n (j + 1)).2.1 ∧ (128 ≤ zl_ck (zl_at T n j) → (zl_at T n j).2.1 + 2 ≤ (zl_at T n (j + 1)).2.1) ∧ (zl_ck (zl_at T n j) = 156 → (zl_at T n j).2.1 + 4 ≤ (zl_at T n (j + 1)).2.1)
    refine ⟨by omega, fun q => ?_, fun q => ?_⟩
    · obtain ⟨t1, t2, t3⟩ := two q
      have := w' t1
      have := of_decide_eq_true (zl_wda _ t3)
      omega
    · obtain ⟨t1, t2, t3⟩ := two (by omega)
      have := w' t1
      rw [show (zl_at T n j).2.2.2 = 28 by omega, zl_w4] at this
      omega
  · have k := zl_tok_kd (T := T) (n := n) (b := zl_bs T n j) s9 (bs j hj)
    have e2 : (zl_at T n j).2.1 ≤ n := k.2.1
    have ck := zl_ckD (F j)
    show zl_ck (zl_at T n j) < 1000 ∧ (zl_at T n j).2.1 ≤ 10240
    refine ⟨?_, by omega⟩
    rcases ck with z | z | z | z | z | z | z | z
    · omega
    · omega
    · omega
    · omega
    · omega
    · omega
    · omega
    · have := sv _ z.2.1; omega
theorem zcx_CX : yL_CX := by
  intro h T n K LC S h1 t LM s m g1 e TX
  have hE := zcx_mkE S
  obtain ⟨s1, s2, s3, s4, s5, s6, s7, s8, s9, s10⟩ := id S
  have F := fun j => zk_F' S j
  obtain ⟨E, eE⟩ : ∃ E : zcx_T, E = (fun j => zl_ck (zl_at T n j), fun j => (zl_at T n j).2.1, K) := ⟨_, rfl⟩
  rw [← eE] at hE
  have E2 : E.2.2 = K := by rw [eE]
  unfold f_Ps_parse at e
  obtain ⟨hh, ehh⟩ : ∃ hh, hh = zs_uF (zs_uF (zs_uF (zs_uF (zs_uF (zs_uF h 19 3 0) 19 4 0) 19 5 (h.2.1 9 0)) 19 6 (h.2.1 10 0)) 19 7 0) 12 6 0 := ⟨_, rfl⟩
  rw [← ehh] at e
  have H0 : zcx_P E 0 hh := by
    refine ⟨hE, ⟨?_, fun j hj => ?_, fun j hj z => ?_⟩, 0, ?_, by decide, .inr ⟨0, Nat.zero_le _, ?_, ?_, ?_⟩⟩
    · rw [ehh, E2]; exact s1.2
    · rw [ehh, eE]; exact (s1.1 j (by omega)).1
    · rw [ehh]
      show ¬ (h.2.1 11) j = 0
      rw [(s1.1 j (by omega)).2.2.1]
      have z' : zl_ck (zl_at T n j) = 7 := by rw [eE] at z; exact z
      have t9 : (zl_at T n j).1 = 9 := by
        rcases zl_ckD (F j) with q | q | q | q | q | q | q | q
        · omega
        · omega
        · omega
        · omega
        · omega
        · exact q.1
        · omega
        · exfalso
          have : ¬ zl_sv 7 := by unfold zl_sv; decide
          apply this
          have e7 : (zl_at T n j).2.2.2 = 7 := by omega
          rw [← e7]; exact q.2.1
      have v := (F j).2.2.2 t9
      unfold zl_cv
      rw [if_neg (by omega), if_neg (by omega)]
      exact fun q => by have := (zc_eq (k := 0) (by decide) (by omega)).mp q; omega
    · rw [ehh]; rfl
    · rw [ehh]; rfl
    · rw [ehh, eE]; exact (s1.1 0 (by omega)).1
    · show 2 * ((0 : Nat) : Int) + 4 * ((0 : Nat) : Int) + 0 ≤ _
      omega
  have A : zcx_2 E 0 (f_Tr_add hh 0 0 0) := cx_f_Tr_add (zcx_kI (by decide +kernel)) H0
  cases q : f_Tr_add hh 0 0 0 with
  | none => rw [q] at e; cases e
  | some p =>
    have B := A p.1 p.2 q
    rw [q] at e
    obtain ⟨⟨_, _, s', a1, a2, alt⟩, c2⟩ := cx_parse64 zF p.2 p.1 (-1) 0 B (nI 0) h1 e
    rcases alt with z | ⟨j, j1, j2, j3, j4⟩
    · exact absurd c2.symm z
    · have hj := (hE.2.2 j j1).2
      obtain ⟨_, _, b1, b2, b3, _⟩ := TX
      have es : s' = s := (nI_eq (by omega) (by omega)).mp (a1.symm.trans b1)
      subst es
      have cc : ∀ c, zg_ct c t ≤ zcx_c c s' h1 := fun c => Nat.le_trans (zcx_ct t _ _ _ _ s' b3 (fun i hi => hi)) (zc_cnt_mb s' (fun i _ z => z.2))
      have c11 := cc 11
      have c20 := cc 20
      exact ⟨by omega, by omega⟩
theorem yO_loadX {t : Nat} {h g : zs_H} (R : yO t h g) (x1 : Int32) : ∃ v h' g' t', f_Pk_load h x1 = some (v, h') ∧ f_Mo_load g x1 = some (v, g') ∧ t' ≤ t ∧ yO t' h' g' ∧ zO_r h g h' g' := yO_load zcx_CX R x1
