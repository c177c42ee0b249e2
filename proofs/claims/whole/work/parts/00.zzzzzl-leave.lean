/-! The judge: a block's own cells, counted; a block is left. -/
theorem yg_w0 {p kd : Nat} {v : Int32} (h : ¬ (kd = 16 ∨ kd = 19)) (h2 : ¬ kd = 25) : yg_w p kd v = 0 := by
  unfold yg_w
  rw [if_neg h, if_neg (show ¬ (kd = 25 ∧ 2 ≤ v) from fun z => h2 z.1), ite_self]
def yg_tp : zt_T → Prop
  | .leaf => True
  | .inner kd _ _ _ r => ¬ kd ∈ [0, 1, 2, 3, 22] ∧ yg_tp r
theorem yg_gt {kd : Nat} (hkd : ¬ kd ∈ [0, 1, 2, 3]) : ∀ {l : zt_T} {st : Nat}, ¬ zg_run kd st l = 99 → yg_tp l := by
  have key : ∀ r ∈ zg_R, ¬ r.1 ∈ [0, 1, 2, 3] → ∀ c ∈ r.2.2.1, ¬ c ∈ [0, 1, 2, 3, 22] := by decide +kernel
  intro l
  induction l with
  | leaf => intro _ _; trivial
  | inner c kv o lc r _ ihr =>
    intro st h
    obtain ⟨p, h1⟩ := yl_gr (kd := kd) (p := fun c => ¬ c ∈ [0, 1, 2, 3, 22]) (fun r hr e c hc => key r hr (by rw [e]; exact hkd) c hc) h
    exact ⟨p, ihr h1⟩
theorem zg_A39 {kd st : Nat} (h : zg_A kd st = true) : kd < 39 := by
  have key : ∀ r ∈ [(0, 0), (1, 2), (2, 2), (3, 2), (4, 0), (5, 3), (5, 4), (6, 0), (7, 0), (8, 0), (9, 3), (10, 0), (11, 0), (12, 2), (13, 0), (14, 1), (15, 2), (15, 3), (16, 1), (16, 2), (17, 2), (18, 1), (18, 2), (19, 4), (20, 0), (21, 0), (22, 0), (23, 1), (24, 1), (25, 1), (26, 0), (27, 0), (28, 1), (29, 0), (30, 0), (31, 0), (32, 1), (33, 1), (34, 0), (35, 2), (36, 1), (37, 0), (38, 0)], r.1 < 39 := by decide +kernel
  unfold zg_A at h
  rw [List.elem_eq_mem, decide_eq_true_eq] at h
  exact key _ h
theorem yg_E {kd : Nat} (h : kd < 39) (h2 : 30 ≤ zt_km kd) : kd ∈ yb_E := by
  unfold zt_km at h2
  split at h2
  · omega
  · split at h2
    · omega
    · have : kd = 30 ∨ kd = 31 ∨ kd = 32 ∨ kd = 33 ∨ kd = 34 ∨ kd = 35 ∨ kd = 36 := by omega
      rcases this with e | e | e | e | e | e | e <;> rw [e] <;> decide
theorem yg_oE {kd : Nat} {kv : Int32 × Int32} {o : Unit} {l : zt_T} (ok : zg_ok (.inner kd kv o l .leaf)) (hE : kd ∈ yb_E) : (if kd = 16 ∨ kd = 19 then 1 else if kd = 22 then 156 else if kd = 25 ∧ 2 ≤ kv.2 then 1 else 0) + yc_o l = 0 := yc_oE (.inner kd kv o l .leaf) ok ⟨hE, trivial⟩
theorem yg_o : ∀ t : zt_T, zg_ok t → yg_tp t → yc_o t = yg_c 0 t + yg_c 1 t := by
  intro t
  induction t with
  | leaf => intro _ _; rfl
  | inner kd kv o l r ihl ihr =>
    intro ⟨⟨hA, hv⟩, okl, okr⟩ ⟨hk, tr⟩
    have h22 : ¬ kd = 22 := fun z => hk (by rw [z]; decide)
    have hr := ihr okr tr
    have hl := ihl okl (yg_gt (fun z => hk (by simp only [List.mem_cons, List.not_mem_nil, or_false] at z ⊢; omega)) (yc_gA hA))
    show (if kd = 16 ∨ kd = 19 then 1 else if kd = 22 then 156 else if kd = 25 ∧ 2 ≤ kv.2 then 1 else 0) + yc_o l + yc_o r = ((if 30 ≤ zt_km kd then 0 else yg_w 0 kd kv.2 + yg_c 0 l) + yg_c 0 r) + ((if 30 ≤ zt_km kd then 0 else yg_w 1 kd kv.2 + yg_c 1 l) + yg_c 1 r)
    by_cases z : 30 ≤ zt_km kd
    · rw [yg_oE (kv := kv) (o := o) ⟨⟨hA, hv⟩, okl, trivial⟩ (yg_E (zg_A39 hA) z), if_pos z, if_pos z]
      omega
    · rw [if_neg z, if_neg z, if_neg h22]
      have e : (if kd = 16 ∨ kd = 19 then 1 else if kd = 25 ∧ 2 ≤ kv.2 then 1 else 0) = yg_w 0 kd kv.2 + yg_w 1 kd kv.2 := by
        unfold yg_w
        rw [if_pos rfl, if_neg (show ¬ (1 : Nat) = 0 by decide)]
        by_cases a : kd = 16 ∨ kd = 19
        · rw [if_pos a, if_pos a, if_neg (fun q => by omega)]
        · rw [if_neg a, if_neg a, Nat.zero_add]
      rw [e]
      omega
def yg_f1 : zt_T → Prop
  | .leaf => False
  | .inner kd _ _ _ _ => kd ∈ yb_E
theorem yg_first {kd : Nat} {l : zt_T} (hk : kd = 16 ∨ kd = 19 ∨ kd = 25) (h : zg_A kd (zg_run kd 0 l) = true) : yg_f1 l := by
  have key : ∀ r ∈ zg_R, (r.1 = 16 ∨ r.1 = 19 ∨ r.1 = 25) → r.2.1 = 0 → ∀ c ∈ r.2.2.1, c ∈ yb_E := by decide +kernel
  cases l with
  | leaf => rcases hk with e | e | e <;> rw [e] at h <;> exact absurd h (by decide)
  | inner c kv o lc r =>
    obtain ⟨cs, to, m1, m2, m3⟩ := zv_qR (yb_run h)
    exact key _ m1 hk rfl c m2
theorem yg_b : ∀ t : zt_T, zg_ok t → yg_tp t → 2 * yc_o t ≤ zt_sz t ∧ (yg_f1 t → 2 * yc_o t + 1 ≤ zt_sz t) := by
  intro t
  induction t with
  | leaf => intro _ _; exact ⟨Nat.le_refl _, fun z => z.elim⟩
  | inner kd kv o l r ihl ihr =>
    intro ⟨⟨hA, hv⟩, okl, okr⟩ ⟨hk, tr⟩
    have h22 : ¬ kd = 22 := fun z => hk (by rw [z]; decide)
    have hr := (ihr okr tr).1
    have hl := ihl okl (yg_gt (fun z => hk (by simp only [List.mem_cons, List.not_mem_nil, or_false] at z ⊢; omega)) (yc_gA hA))
    have e : yc_o (.inner kd kv o l r) = (if kd = 16 ∨ kd = 19 then 1 else if kd = 22 then 156 else if kd = 25 ∧ 2 ≤ kv.2 then 1 else 0) + yc_o l + yc_o r := rfl
    have es : zt_sz (.inner kd kv o l r) = 1 + zt_sz l + zt_sz r := rfl
    refine ⟨?_, fun hE => ?_⟩
    · rw [e, es, if_neg h22]
      by_cases a : kd = 16 ∨ kd = 19
      · rw [if_pos a]
        have := hl.2 (yg_first (by omega) hA)
        omega
      · rw [if_neg a]
        by_cases b : kd = 25 ∧ 2 ≤ kv.2
        · rw [if_pos b]
          have := hl.2 (yg_first (.inr (.inr b.1)) hA)
          omega
        · rw [if_neg b]
          have := hl.1
          omega
    · rw [e, es, yg_oE (kv := kv) (o := o) ⟨⟨hA, hv⟩, okl, trivial⟩ hE]
      omega
/-- what declarations are made of -/
def yg_sd : zt_T → Prop
  | .leaf => True
  | .inner kd _ _ _ r => kd ∈ [4, 5, 7, 8, 9, 10, 30, 31, 37] ∧ yg_sd r
theorem yg_gsd {kd : Nat} (hkd : kd ∈ [4, 5, 7, 8, 9, 10, 30, 31, 37]) : ∀ {l : zt_T} {st : Nat}, ¬ zg_run kd st l = 99 → yg_sd l := by
  have key : ∀ r ∈ zg_R, r.1 ∈ [4, 5, 7, 8, 9, 10, 30, 31, 37] → ∀ c ∈ r.2.2.1, c ∈ [4, 5, 7, 8, 9, 10, 30, 31, 37] := by decide +kernel
  intro l
  induction l with
  | leaf => intro _ _; trivial
  | inner c kv o lc r _ ihr =>
    intro st h
    obtain ⟨p, h1⟩ := yl_gr (kd := kd) (p := fun c => c ∈ [4, 5, 7, 8, 9, 10, 30, 31, 37]) (fun r hr e c hc => key r hr (by rw [e]; exact hkd) c hc) h
    exact ⟨p, ihr h1⟩
theorem yg_sd0 (p : Nat) : ∀ t : zt_T, zg_ok t → yg_sd t → yg_c p t = 0 := by
  have key : ∀ z ∈ [4, 5, 7, 8, 9, 10, 30, 31, 37], ¬ z = 16 ∧ ¬ z = 19 ∧ ¬ z = 25 := by decide
  intro t
  induction t with
  | leaf => intro _ _; rfl
  | inner kd kv o l r ihl ihr =>
    intro ⟨⟨hA, hv⟩, okl, okr⟩ ⟨hk, tr⟩
    obtain ⟨k1, k2, k3⟩ := key kd hk
    show (if 30 ≤ zt_km kd then 0 else yg_w p kd kv.2 + yg_c p l) + yg_c p r = 0
    rw [ihr okr tr, ihl okl (yg_gsd hk (yc_gA hA)), show yg_w p kd kv.2 = 0 from yg_w0 (by omega) k3, ite_self]
theorem yg_cap (p : Nat) : ∀ t u : zt_T, yg_c p (zt_ap t u) = yg_c p t + yg_c p u := by
  intro t u
  induction t with
  | leaf => show yg_c p u = 0 + yg_c p u; omega
  | inner kd kv o l r ihl ihr =>
    show (if 30 ≤ zt_km kd then 0 else yg_w p kd kv.2 + yg_c p l) + yg_c p (zt_ap r u) = (if 30 ≤ zt_km kd then 0 else yg_w p kd kv.2 + yg_c p l) + yg_c p r + yg_c p u
    rw [ihr]; omega
/-- a body's cells -/
theorem yg_body {kd : Nat} {kv : Int32 × Int32} {o : Unit} {l : zt_T} (hk : kd = 11 ∨ kd = 22) (hA : zg_A kd (zg_run kd 0 l) = true) (ok : zg_ok l) : yc_o (.inner kd kv o l .leaf) = yg_c 0 (.inner kd kv o l .leaf) + yg_c 1 (.inner kd kv o l .leaf) + (if kd = 22 then 156 else 0) ∧ 2 * yc_o (.inner kd kv o l .leaf) ≤ zt_sz (.inner kd kv o l .leaf) + 312 := by
  have tl : yg_tp l := yg_gt (by rcases hk with e | e <;> rw [e] <;> decide) (yc_gA hA)
  have h1 := yg_o l ok tl
  have h2 := (yg_b l ok tl).1
  have e0 : ∀ p, yg_c p (.inner kd kv o l .leaf) = yg_c p l := by
    intro p
    show (if 30 ≤ zt_km kd then 0 else yg_w p kd kv.2 + yg_c p l) + 0 = _
    rw [if_neg (by rcases hk with e | e <;> rw [e] <;> decide), show yg_w p kd kv.2 = 0 from yg_w0 (by omega) (by omega)]
    omega
  have e1 : yc_o (.inner kd kv o l .leaf) = (if kd = 22 then 156 else 0) + yc_o l := by
    show (if kd = 16 ∨ kd = 19 then 1 else if kd = 22 then 156 else if kd = 25 ∧ 2 ≤ kv.2 then 1 else 0) + yc_o l + 0 = _
    rw [if_neg (by omega), if_neg (show ¬ (kd = 25 ∧ 2 ≤ kv.2) from fun z => by omega)]
    omega
  have es : zt_sz (.inner kd kv o l .leaf) = 1 + zt_sz l + 0 := rfl
  rw [e0, e0, e1, es]
  constructor
  · omega
  · split <;> omega
/-- the block is finished -/
theorem zv_Ifin {LC LM : List (List Int32)} {nb nf x : Nat} {F : Nat → Nat} {h g h' g' : zs_H} (I : zv_I LC LM nb nf (F nb) F (-1) h g) (hbo : nf + 1 = nb) (hx : x ≤ 30000) (a : zfr [] [26] [] h h') (a26 : ∀ j, (h'.2.1 26) j = if j = 8 + nb then nI x else (h.2.1 26) j) (b : zfr [] [100, 88, 101, 102] [] g g') (b88 : ∀ j, (g'.2.1 88) j = if j = nb - 1 then nI x else (g.2.1 88) j) : zv_I LC LM nb nb (F nb) F (-1) h' g' := by
  obtain ⟨HS, HB, HN, HV, HC, HT, HJ, J1, J2⟩ := I
  have e21 : h'.2.1 21 = h.2.1 21 := a.2.1 _ (by decide)
  have e22 : h'.2.1 22 = h.2.1 22 := a.2.1 _ (by decide)
  have e23 : h'.2.1 23 = h.2.1 23 := a.2.1 _ (by decide)
  have e24 : h'.2.1 24 = h.2.1 24 := a.2.1 _ (by decide)
  have e25 : h'.2.1 25 = h.2.1 25 := a.2.1 _ (by decide)
  have e27 : h'.2.1 27 = h.2.1 27 := a.2.1 _ (by decide)
  have e28 : h'.2.1 28 = h.2.1 28 := a.2.1 _ (by decide)
  have e29 : h'.2.1 29 = h.2.1 29 := a.2.1 _ (by decide)
  have e30 : h'.2.1 30 = h.2.1 30 := a.2.1 _ (by decide)
  have e31 : h'.2.1 31 = h.2.1 31 := a.2.1 _ (by decide)
  have e32 : h'.2.1 32 = h.2.1 32 := a.2.1 _ (by decide)
  have e33 : h'.2.1 33 = h.2.1 33 := a.2.1 _ (by decide)
  have e34 : h'.2.1 34 = h.2.1 34 := a.2.1 _ (by decide)
  have e35 : h'.2.1 35 = h.2.1 35 := a.2.1 _ (by decide)
  have e36 : h'.2.1 36 = h.2.1 36 := a.2.1 _ (by decide)
  have e37 : h'.2.1 37 = h.2.1 37 := a.2.1 _ (by decide)
  have e40 : h'.2.1 40 = h.2.1 40 := a.2.1 _ (by decide)
  have g85 : g'.2.1 85 = g.2.1 85 := b.2.1 _ (by decide)
  have g86 : g'.2.1 86 = g.2.1 86 := b.2.1 _ (by decide)
  have g87 : g'.2.1 87 = g.2.1 87 := b.2.1 _ (by decide)
  have g89 : g'.2.1 89 = g.2.1 89 := b.2.1 _ (by decide)
  have g90 : g'.2.1 90 = g.2.1 90 := b.2.1 _ (by decide)
  have g91 : g'.2.1 91 = g.2.1 91 := b.2.1 _ (by decide)
  have g92 : g'.2.1 92 = g.2.1 92 := b.2.1 _ (by decide)
  have g93 : g'.2.1 93 = g.2.1 93 := b.2.1 _ (by decide)
  have g94 : g'.2.1 94 = g.2.1 94 := b.2.1 _ (by decide)
  have g95 : g'.2.1 95 = g.2.1 95 := b.2.1 _ (by decide)
  have g96 : g'.2.1 96 = g.2.1 96 := b.2.1 _ (by decide)
  have g97 : g'.2.1 97 = g.2.1 97 := b.2.1 _ (by decide)
  have g98 : g'.2.1 98 = g.2.1 98 := b.2.1 _ (by decide)
  have g99 : g'.2.1 99 = g.2.1 99 := b.2.1 _ (by decide)
  have f17 : h'.1 20 17 = h.1 20 17 := a.1 _ _ (by decide)
  have f18 : h'.1 20 18 = h.1 20 18 := a.1 _ _ (by decide)
  have f19 : h'.1 20 19 = h.1 20 19 := a.1 _ _ (by decide)
  have j3 : h'.1 38 3 = h.1 38 3 := a.1 _ _ (by decide)
  have j4 : h'.1 38 4 = h.1 38 4 := a.1 _ _ (by decide)
  have k29 : g'.1 68 29 = g.1 68 29 := b.1 _ _ (by decide)
  have k33 : g'.1 68 33 = g.1 68 33 := b.1 _ _ (by decide)
  have k41 : g'.1 68 41 = g.1 68 41 := b.1 _ _ (by decide)
  have k54 : g'.1 68 54 = g.1 68 54 := b.1 _ _ (by decide)
  refine ⟨zv_Sfr HS b (by decide) (by decide) (by decide), ?_, ?_, ?_, ?_, ?_, ?_, j3.trans J1, k29.trans J2⟩
  · obtain ⟨b1, b2, ⟨st1, st2⟩, b3⟩ := HB
    refine ⟨by simp only [e21, e22, e23, e24, e25, e27, e28, e29, e30, e31, e32, e33, e34, e35, e36, e37, e40, g85, g86, g87, g89, g90, g91, g92, g93, g94, g95, g96, g97, g98, g99, f17, f18, f19, j3, j4, k29, k33, k41, k54]; exact b1, by simp only [e21, e22, e23, e24, e25, e27, e28, e29, e30, e31, e32, e33, e34, e35, e36, e37, e40, g85, g86, g87, g89, g90, g91, g92, g93, g94, g95, g96, g97, g98, g99, f17, f18, f19, j3, j4, k29, k33, k41, k54]; exact b2, ⟨fun i hi => ?_, by simp only [e21, e22, e23, e24, e25, e27, e28, e29, e30, e31, e32, e33, e34, e35, e36, e37, e40, g85, g86, g87, g89, g90, g91, g92, g93, g94, g95, g96, g97, g98, g99, f17, f18, f19, j3, j4, k29, k33, k41, k54]; exact st2⟩, by simp only [e21, e22, e23, e24, e25, e27, e28, e29, e30, e31, e32, e33, e34, e35, e36, e37, e40, g85, g86, g87, g89, g90, g91, g92, g93, g94, g95, g96, g97, g98, g99, f17, f18, f19, j3, j4, k29, k33, k41, k54]; exact b3⟩
    rw [a26, if_neg (by omega)]
    simp only [e21, e22, e23, e24, e25, e27, e28, e29, e30, e31, e32, e33, e34, e35, e36, e37, e40, g85, g86, g87, g89, g90, g91, g92, g93, g94, g95, g96, g97, g98, g99, f17, f18, f19, j3, j4, k29, k33, k41, k54]
    exact st1 i hi
  · unfold zv_N at HN ⊢; simp only [e21, e22, e23, e24, e25, e27, e28, e29, e30, e31, e32, e33, e34, e35, e36, e37, e40, g85, g86, g87, g89, g90, g91, g92, g93, g94, g95, g96, g97, g98, g99, f17, f18, f19, j3, j4, k29, k33, k41, k54]; exact HN
  · obtain ⟨v1, v2, v3⟩ := HV
    refine ⟨by simp only [e21, e22, e23, e24, e25, e27, e28, e29, e30, e31, e32, e33, e34, e35, e36, e37, e40, g85, g86, g87, g89, g90, g91, g92, g93, g94, g95, g96, g97, g98, g99, f17, f18, f19, j3, j4, k29, k33, k41, k54]; exact v1, fun b v hb h1 h2 h3 => ?_, by simp only [e21, e22, e23, e24, e25, e27, e28, e29, e30, e31, e32, e33, e34, e35, e36, e37, e40, g85, g86, g87, g89, g90, g91, g92, g93, g94, g95, g96, g97, g98, g99, f17, f18, f19, j3, j4, k29, k33, k41, k54]; exact v3⟩
    have Q := v2 b v hb h1 h2 h3
    unfold zv_Q at Q ⊢
    simp only [e21, e22, e23, e24, e25, e27, e28, e29, e30, e31, e32, e33, e34, e35, e36, e37, e40, g85, g86, g87, g89, g90, g91, g92, g93, g94, g95, g96, g97, g98, g99, f17, f18, f19, j3, j4, k29, k33, k41, k54]
    obtain ⟨ty, x, s, y, q1, q2, q3, q4, q5, q6, q7, q8, q9⟩ := Q
    refine ⟨ty, x, s, y, q1, q2, q3, q4, q5, q6, q7, ?_, q9⟩
    rcases q8 with z | z | ⟨B, z1, z2, z3, z4, z5, z6⟩
    · exact .inl z
    · exact .inr (.inl z)
    · exact .inr (.inr ⟨B, z1, z2, z3, z4, z5, by rw [a26, if_neg (by omega)]; exact z6⟩)
  · obtain ⟨c1, c2, c3, c4⟩ := HC
    refine ⟨.inl rfl, fun b hb => ?_, fun b h1 h2 => by omega, by simp only [e21, e22, e23, e24, e25, e27, e28, e29, e30, e31, e32, e33, e34, e35, e36, e37, e40, g85, g86, g87, g89, g90, g91, g92, g93, g94, g95, g96, g97, g98, g99, f17, f18, f19, j3, j4, k29, k33, k41, k54]; exact c4⟩
    by_cases e : b = nb - 1
    · exact ⟨x, hx, by rw [a26, if_pos (by omega)], by rw [b88, if_pos e]⟩
    · obtain ⟨y, y1, y2, y3⟩ := c2 b (by omega)
      exact ⟨y, y1, by rw [a26, if_neg (by omega)]; exact y2, by rw [b88, if_neg e]; exact y3⟩
  · unfold zv_T at HT ⊢; simp only [e21, e22, e23, e24, e25, e27, e28, e29, e30, e31, e32, e33, e34, e35, e36, e37, e40, g85, g86, g87, g89, g90, g91, g92, g93, g94, g95, g96, g97, g98, g99, f17, f18, f19, j3, j4, k29, k33, k41, k54]; exact HT
  · simp only [e21, e22, e23, e24, e25, e27, e28, e29, e30, e31, e32, e33, e34, e35, e36, e37, e40, g85, g86, g87, g89, g90, g91, g92, g93, g94, g95, g96, g97, g98, g99, f17, f18, f19, j3, j4, k29, k33, k41, k54]; exact HJ
/-- the model at a block's end -/
theorem yg_end {LC LM : List (List Int32)} {g : zs_H} {he n k kb kd kdb : Nat} {l : zt_T} {Q : Nat → Prop} (hhe : he < 2100) (hk : k < 33500) (hkb : kb < 33500) (hkd : kd = 1 ∨ kd = 2 ∨ kd = 3) (hkdb : kdb < 100) (e1 : (g.1 68 54) = nI he) (e2 : (g.2.1 88) he = nI n) (e3 : (g.2.1 72) k = nI kd) (e4 : (g.2.1 77) k = nI kb) (e5 : (g.2.1 72) kb = nI kdb) (hM : zt_M LC LM g l Q (nI k) ((g.2.1 76) k) ((g.2.1 77) k)) (ok : zg_ok l) (hQ : ∀ j, Q j → j < 33500) (hQk : ¬ Q k) (hd : zg_d l ≤ 399) (hs : zt_sz l < zF) :
    ∃ g', f_Mo_endBlock g (nI k) = some g' ∧ zfr [] [88, 101, 102] [] g g' ∧ (∀ j, (g'.2.1 88) j = if j = he then nI (n + yg_c 0 l + yg_c 1 l + (if kdb = 22 then 156 else 0)) else (g.2.1 88) j) ∧ (∀ j, ¬ Q j → (g'.2.1 101) j = (g.2.1 101) j ∧ (g'.2.1 102) j = (g.2.1 102) j) ∧ (∀ j, ¬ (g.2.1 72) j = 16 → ¬ (g.2.1 72) j = 25 → (g'.2.1 101) j = (g.2.1 101) j) ∧ (∀ j, ¬ (g.2.1 72) j = 19 → (g'.2.1 102) j = (g.2.1 102) j) ∧ yg_G 0 g' Q n l ((g.2.1 76) k) ∧ yg_G 1 g' Q (n + yg_c 0 l) l ((g.2.1 76) k) := by
  have kp : ∀ (g1 g' : zs_H) (u : zt_T) (Qu : Nat → Prop) (a c d : Int32), zfr [] [88, 101, 102] [] g1 g' → zt_M LC LM g1 u Qu a c d → zt_M LC LM g' u Qu a c d := by
    intro g1 g' u Qu a c d f hu
    refine zt_fr u Qu Qu a c d (fun i _ => ?_) (fun i hi => hi) hu
    exact ⟨fun kd k up z hz => by unfold zt_NM at hz ⊢; rw [f.2.1 72 (by decide), f.2.1 73 (by decide), f.2.1 74 (by decide), f.2.1 75 (by decide), f.2.1 77 (by decide)]; exact hz, by rw [f.2.1 _ (by decide)], by rw [f.2.1 _ (by decide)]⟩
  have lz := zv_lnsz l
  have hw0 : ∀ p v, yg_w p kd v = 0 := by
    intro p v
    exact yg_w0 (by omega) (by omega)
  -- one pass
  have pass : ∀ (p m : Nat) (g0 : zs_H), (p = 0 ∨ p = 1) → zfr [] [88, 101, 102] [] g g0 → (g0.2.1 88) he = nI m → ∃ g', f_Mo_give 400 g0 (nI k) (nI p) = some g' ∧ yg_O p he (m + yg_c p l) (fun j => j = k ∨ Q j) g0 g' ∧ ((g'.2.1 101) k = (g0.2.1 101) k ∧ (g'.2.1 102) k = (g0.2.1 102) k) ∧ yg_G p g' Q m l ((g.2.1 76) k) := by
    intro p m g0 hp f0 hm
    have h1 : (g0.1 68 54) = nI he := (f0.1 _ _ List.not_mem_nil).trans e1
    have h3 : (g0.2.1 72) k = nI kd := by rw [f0.2.1 _ (by decide)]; exact e3
    obtain ⟨g1, r1, O1, _⟩ := yg_node (D := 399) (v := 0) hp hk hhe (by omega) h1 hm h3 (fun z => by omega)
    rw [hw0, Nat.add_zero] at O1
    have f1 := zfr_trans f0 O1.1
    obtain ⟨g2, s1, O2, G⟩ := yg_give (LC := LC) (LM := LM) hp hhe l 399 zF m g1 Q (nI k) _ _ ok (kp g g1 l Q _ _ _ f1 hM) hQ ((f1.1 _ _ List.not_mem_nil).trans e1) (by rw [O1.2.1, if_pos rfl]) hd (by omega) hs
    refine ⟨g2, ?_, yg_Ot O1 O2 (fun j z => .inl z) (fun j z => .inr z), ?_, G⟩
    · rw [r1, show (g1.2.1 76) k = (g.2.1 76) k by rw [f1.2.1 _ (by decide)]]; exact s1
    · obtain ⟨a1, a2⟩ := O2.2.2.1 k hQk
      have kk : ∀ c, c = 16 ∨ c = 19 ∨ c = 25 → ¬ (g0.2.1 72) k = nI c := by
        intro c hc z
        rw [h3] at z
        have := (nI_eq (by omega) (by omega)).mp z
        omega
      exact ⟨a1.trans (O1.2.2.2.1 k (fun _ => kk 16 (.inl rfl)) (fun _ => kk 25 (.inr (.inr rfl)))), a2.trans (O1.2.2.2.2 k (fun _ => kk 19 (.inr (.inl rfl))))⟩
  obtain ⟨g1, r1, O1, K1, G1⟩ := pass 0 n g (.inl rfl) zfr_rfl e2
  obtain ⟨g2, r2, O2, K2, G2⟩ := pass 1 (n + yg_c 0 l) g1 (.inr rfl) O1.1 (by rw [O1.2.1, if_pos rfl])
  have f2 := zfr_trans O1.1 O2.1
  have a2 : ∀ z, ¬ z ∈ [88, 101, 102] → g2.2.1 z = g.2.1 z := fun z hz => f2.2.1 z hz
  have q22 : (nI kdb = 22) ↔ kdb = 22 := zc_eq (k := 22) (by decide) (by omega)
  have e45 : ∀ (y : Int32) (w : Nat), y = nI w → f_Mo_endBlock_45 g2 y (nI (n + yg_c 0 l + yg_c 1 l)) (nI he) = some (zs_uM g2 88 he (nI (n + yg_c 0 l + yg_c 1 l + w))) := by
    intro y w hy
    unfold f_Mo_endBlock_45
    rw [if_pos (zi_in (by omega) hhe), nI_clamp (show he < 2147483648 by omega), hy, show nI (n + yg_c 0 l + yg_c 1 l) + nI w = nI (n + yg_c 0 l + yg_c 1 l + w) from (Int32.ofNat_add _ w).symm]
  have eE : f_Mo_endBlock g (nI k) = some (zs_uM g2 88 he (nI (n + yg_c 0 l + yg_c 1 l + (if kdb = 22 then 156 else 0)))) := by
    unfold f_Mo_endBlock
    rw [show f_Mo_give 400 g (nI k) 0 = some g1 from r1, Option.bind_some, show f_Mo_give 400 g1 (nI k) 1 = some g2 from r2, Option.bind_some, show (g2.1 68 54) = nI he from (f2.1 _ _ List.not_mem_nil).trans e1, if_pos (zi_in (by omega) hhe), if_pos (zi_in (by omega) hk), nI_clamp (show k < 2147483648 by omega), a2 77 (by decide), e4, if_pos (zi_in (by omega) hkb), nI_clamp (show kb < 2147483648 by omega), a2 72 (by decide), e5, nI_clamp (show he < 2147483648 by omega), O2.2.1, if_pos rfl]
    by_cases z : kdb = 22
    · rw [if_pos (q22.mpr z), if_pos z]; exact e45 156 156 rfl
    · rw [if_neg (mt q22.mp z), if_neg z]; exact e45 0 0 rfl
  refine ⟨_, eE, zfr_M (by decide) f2, fun j => ?_, fun j hj => ?_, fun j h1 h2 => ?_, fun j h1 => ?_, ?_, ?_⟩
  · rw [yg_uM]
    by_cases z : j = he
    · rw [if_pos z, if_pos z]
    · rw [if_neg z, if_neg z, O2.2.1, if_neg z, O1.2.1, if_neg z]
  · show (g2.2.1 101) j = _ ∧ (g2.2.1 102) j = _
    by_cases z : j = k
    · subst z
      exact ⟨K2.1.trans K1.1, K2.2.trans K1.2⟩
    · obtain ⟨x1, x2⟩ := O1.2.2.1 j (fun q => by rcases q with q | q; exact z q; exact hj q)
      obtain ⟨y1, y2⟩ := O2.2.2.1 j (fun q => by rcases q with q | q; exact z q; exact hj q)
      exact ⟨y1.trans x1, y2.trans x2⟩
  · show (g2.2.1 101) j = _
    exact (O2.2.2.2.1 j (fun z => absurd z (by decide)) (fun _ => by rw [O1.1.2.1 _ (by decide)]; exact h2)).trans (O1.2.2.2.1 j (fun _ => h1) (fun z => absurd z (by decide)))
  · show (g2.2.1 102) j = _
    exact (O2.2.2.2.2 j (fun z => absurd z (by decide))).trans (O1.2.2.2.2 j (fun _ => h1))
  · refine yg_Gf (g := g2) (g' := (zs_uM g2 88 he (nI (n + yg_c 0 l + yg_c 1 l + (if kdb = 22 then 156 else 0))))) (fun _ z => z) rfl rfl rfl (fun j _ => ⟨fun _ _ => rfl, fun _ _ => rfl, fun _ _ => rfl⟩) l _ _ (yg_Gf (g' := g2) (fun _ z => z) (O2.1.2.1 _ (by decide)) (O2.1.2.1 _ (by decide)) (O2.1.2.1 _ (by decide)) (fun j _ => ⟨fun _ e => O2.2.2.2.1 j (fun z => absurd z (by decide)) (fun _ => by rw [e]; decide), fun _ _ => O2.2.2.2.2 j (fun z => absurd z (by decide)), fun z => absurd z (by decide)⟩) l _ _ G1)
  · exact yg_Gf (g := g2) (g' := (zs_uM g2 88 he (nI (n + yg_c 0 l + yg_c 1 l + (if kdb = 22 then 156 else 0))))) (fun _ z => z) rfl rfl rfl (fun j _ => ⟨fun _ _ => rfl, fun _ _ => rfl, fun _ _ => rfl⟩) l _ _ G2
/-- a block is left -/
theorem yg_leave {LC LM : List (List Int32)} {nb nf i k kb kd kdb oc yv : Nat} {F : Nat → Nat} {h g : zs_H} {l : zt_T} {Q : Nat → Prop} {p0 : Int32} (I : zv_I LC LM nb nf (F nb) F (-1) h g) (hbo : nf + 1 = nb) (hi : i < 32784) (hk : k < 33500) (hkb : kb < 33500) (hkd : kd = 1 ∨ kd = 2 ∨ kd = 3) (hkdb : kdb < 100) (c0 : (h.2.1 13) i = nI kd) (c1 : (h.2.1 15) i = p0) (m0 : (g.2.1 72) k = nI kd) (m1 : (g.2.1 73) k = p0) (m4 : (g.2.1 77) k = nI kb) (m5 : (g.2.1 72) kb = nI kdb) (hM : zt_M LC LM g l Q (nI k) ((g.2.1 76) k) ((g.2.1 77) k)) (ok : zg_ok l) (hQ : ∀ j, Q j → j < 33500) (hQk : ¬ Q k) (hd : zg_d l ≤ 399) (hs : zt_sz l < zF) (ow : (h.1 38 10) = nI oc) (hy : (h.2.1 25) (8 + nb) = nI yv) (hx : yv + oc ≤ 30000) (eoc : oc = yg_c 0 l + yg_c 1 l + (if kdb = 22 then 156 else 0)) :
    ∃ h' g', f_Jd_leaveBlock h (nI i) = some h' ∧ f_Mo_lookAtBlocks g (nI k) = some g' ∧ ((zv_Fb h g h' g' ∧ ¬ (h'.1 38 3) = 0 ∧ ¬ (g'.1 68 29) = 0) ∨ (zv_I LC LM nb nb (F nb) F (-1) h' g' ∧ zfr [] [26] [] h h' ∧ (∀ j, (h'.2.1 26) j = if j = 8 + nb then nI (yv + oc) else (h.2.1 26) j) ∧ zfr [] [88, 101, 102] [] g g' ∧ (∀ j, (g'.2.1 88) j = if j = nb - 1 then nI (yv + oc) else (g.2.1 88) j) ∧ (∀ j, ¬ Q j → (g'.2.1 101) j = (g.2.1 101) j ∧ (g'.2.1 102) j = (g.2.1 102) j) ∧ (∀ j, ¬ (g.2.1 72) j = 16 → ¬ (g.2.1 72) j = 25 → (g'.2.1 101) j = (g.2.1 101) j) ∧ (∀ j, ¬ (g.2.1 72) j = 19 → (g'.2.1 102) j = (g.2.1 102) j) ∧ yg_G 0 g' Q yv l ((g.2.1 76) k) ∧ yg_G 1 g' Q (yv + yg_c 0 l) l ((g.2.1 76) k))) := by
  have I0 := I
  obtain ⟨HS, HB, HN, HV, HC, HT, HJ, J1, J2⟩ := I
  obtain ⟨jb, mh⟩ := HJ (by omega)
  have B3 : nb ≤ 568 := HB.1.2.2
  have V3 : F nb ≤ 5900 := HB.2.1.2.2
  have hz := zF_big
  have e9 : 9 + (nb - 1) = 8 + nb := by omega
  have bc : (g.2.1 88) (nb - 1) = nI yv := by
    obtain ⟨x, x1, x2, x3, _⟩ := HC.2.2.1 (nb - 1) (by omega) (by omega)
    rw [e9] at x2
    rw [x3, ← x2, hy]
  obtain ⟨h1, hh1⟩ : ∃ h1, h1 = zs_uM h 26 (8 + nb) (nI (yv + oc)) := ⟨_, rfl⟩
  have f1 : zfr [] [26] [] h h1 := by rw [hh1]; exact zfr_M (by decide) zfr_rfl
  have a26 : ∀ j, (h1.2.1 26) j = if j = 8 + nb then nI (yv + oc) else (h.2.1 26) j := by rw [hh1]; exact yg_uM
  have J1' : (h1.1 38 3) = 0 := (f1.1 _ _ List.not_mem_nil).trans J1
  obtain ⟨b1, b2, b3⟩ := HB.2.2.2.2.2.1 (nb - 1) (by omega)
  have en : nb - 1 + 1 = nb := by omega
  rw [en] at b3
  rw [e9] at b1 b3
  have hF : F (nb - 1) ≤ F nb := by have := (HB.2.2.2.1 (nb - 1) (by omega)).1; rwa [en] at this
  have hsec : ∀ v, v < F nb → ((g.2.1 95) v = 1 ↔ (h1.2.1 29) (32 + v) = 1) := by
    intro v hv
    obtain ⟨s, s1, s2, s3⟩ := HV.1 v hv
    rw [show (h1.2.1 29) (32 + v) = nI s by rw [f1.2.1 _ (by decide)]; exact s2, s3]
    have q : ∀ z : Nat, z < 4 → (nI z = 1 ↔ z = 1) := fun z hz => zc_eq (k := 1) (by decide) (by omega)
    rw [q s s1, q _ (by split <;> omega)]
    split <;> omega
  have hiC : f_Pl_inputs h1 (nI (8 + nb)) = some (nI (zv_il h1 (F nb - F (nb - 1)) (F (nb - 1))).length) := by
    unfold f_Pl_inputs
    rw [if_pos (zi_in (by omega) (by omega)), nI_clamp (show 8 + nb < 2147483648 by omega), show (h1.2.1 23) (8 + nb) = nI (32 + F (nb - 1)) by rw [f1.2.1 _ (by decide)]; exact b1]
    have := zv_inpC (h := h1) (b := nb - 1) (e := F nb) (by omega) (by omega) (by rw [e9, f1.2.1 _ (by decide)]; exact b3) (F nb - F (nb - 1)) (F (nb - 1)) 0 zF (by omega) (by omega)
    rw [Nat.zero_add, e9] at this
    exact this
  have hiM : f_Mo_inputs g (nI (nb - 1)) = some (nI (zv_il h1 (F nb - F (nb - 1)) (F (nb - 1))).length) := by
    unfold f_Mo_inputs
    rw [if_pos (zi_in (by omega) (by omega)), nI_clamp (show nb - 1 < 2147483648 by omega), b2]
    have hbd := zv_bdM HB (show nb - 1 < nb by omega)
    rw [en] at hbd
    have := zv_inpM (h := h1) (g := g) (b := nb - 1) (e := F nb) (by omega) (by omega) (by rw [en]; exact hbd) hsec (F nb - F (nb - 1)) (F (nb - 1)) 0 zF (by omega) (by omega)
    rw [Nat.zero_add] at this
    exact this
  have hlen := zv_ilen h1 (F nb - F (nb - 1)) (F (nb - 1))
  generalize (zv_il h1 (F nb - F (nb - 1)) (F (nb - 1))).length = n8 at hiC hiM hlen
  have q8 : (nI n8 ≤ (8 : Int32)) ↔ n8 ≤ 8 := zc_el (k := 8) (by decide) (by omega)
  have qk : (nI kd = 1) ↔ kd = 1 := zc_eq (k := 1) (by decide) (by omega)
  obtain ⟨h', g', r1, r2, r3⟩ := zv_both (φ := 44) (i := i) (k := k) (kd = 1 ∧ 8 < n8) J1' J2 hi hk
  have eC : f_Jd_leaveBlock h (nI i) = some h' := by
    unfold f_Jd_leaveBlock f_Jd_leaveBlock_63 f_Jd_leaveBlock_64
    rw [jb, if_pos (zi_in (by omega) (by omega)), if_pos (zi_in (by omega) hi), nI_clamp (show i < 2147483648 by omega), nI_clamp (show 8 + nb < 2147483648 by omega), c0, hy, ow, show nI yv + nI oc = nI (yv + oc) from (Int32.ofNat_add yv oc).symm, ← hh1, hiC, Option.bind_some]
    by_cases z : kd = 1
    · rw [if_pos (qk.mpr z)]
      by_cases z8 : n8 ≤ 8
      · rw [if_pos (q8.mpr z8)]
        rw [if_neg (by omega)] at r1
        rw [show (44 : Int32) = nI 44 from rfl, r1]; rfl
      · rw [if_neg (mt q8.mp z8)]
        rw [if_pos (by omega)] at r1
        rw [show (44 : Int32) = nI 44 from rfl, r1]; rfl
    · rw [if_neg (fun q => z (qk.mp q))]
      rw [if_neg (by omega)] at r1
      rw [show (44 : Int32) = nI 44 from rfl, r1]; rfl
  have eM : f_Mo_lookAtBlocks g (nI k) = f_Mo_endBlock g' (nI k) := by
    have e97 : ∀ y : Int32, f_Mo_rule g y 44 (nI k) = some g' → f_Mo_lookAtBlocks_97 g (nI k) y = f_Mo_endBlock g' (nI k) := by
      intro y q
      unfold f_Mo_lookAtBlocks_97
      rw [q, Option.bind_some, Option.bind_fun_some]
    have r2' : f_Mo_rule g (if kd = 1 ∧ 8 < n8 then 1 else 0) 44 (nI k) = some g' := r2
    have k0 : (nI kd = 0) ↔ kd = 0 := zc_eq (k := 0) (by decide) (by omega)
    have k1 : (nI kd = 1) ↔ kd = 1 := zc_eq (k := 1) (by decide) (by omega)
    have k2 : (nI kd = 2) ↔ kd = 2 := zc_eq (k := 2) (by decide) (by omega)
    have k3 : (nI kd = 3) ↔ kd = 3 := zc_eq (k := 3) (by decide) (by omega)
    unfold f_Mo_lookAtBlocks f_Mo_lookAtBlocks_96
    rw [if_pos (zi_in (by omega) hk), nI_clamp (show k < 2147483648 by omega), m0, if_neg (mt k0.mp (by omega)), mh, hiM, Option.bind_some]
    rcases hkd with z | z | z
    · rw [if_pos (k1.mpr z), if_pos (k1.mpr z)]
      by_cases z8 : n8 ≤ 8
      · rw [if_pos (q8.mpr z8)]
        rw [if_neg (by omega)] at r2'
        exact e97 0 r2'
      · rw [if_neg (mt q8.mp z8)]
        rw [if_pos (by omega)] at r2'
        exact e97 1 r2'
    · rw [if_neg (show ¬ nI kd = 1 from mt k1.mp (by omega)), if_pos (k2.mpr z), if_neg (show ¬ nI kd = 1 from mt k1.mp (by omega))]
      rw [if_neg (by omega)] at r2'
      exact e97 0 r2'
    · rw [if_neg (show ¬ nI kd = 1 from mt k1.mp (by omega)), if_neg (mt k2.mp (by omega)), if_pos (k3.mpr z), if_neg (show ¬ nI kd = 1 from mt k1.mp (by omega))]
      rw [if_neg (by omega)] at r2'
      exact e97 0 r2'
  rcases r3 with ⟨_, x1, x2⟩ | ⟨_, Y⟩
  · subst x1; subst x2
    obtain ⟨g2, s1, s2, s3, s4, s5, s6, s7, s8⟩ := yg_end (he := nb - 1) (n := yv) (by omega) hk hkb hkd hkdb mh bc m0 m4 m5 hM ok hQ hQk hd hs
    have ex : yv + yg_c 0 l + yg_c 1 l + (if kdb = 22 then 156 else 0) = yv + oc := by omega
    rw [ex] at s3
    exact ⟨h', g2, eC, by rw [eM, s1], .inr ⟨zv_Ifin I0 hbo hx f1 a26 (zfr_w s2 (by decide) (by decide) (by decide)) s3, f1, a26, s2, s3, s4, s5, s6, s7, s8⟩⟩
  · obtain ⟨X, u1, u2⟩ := zv_YX Y (by decide) (by decide) (show (h1.2.1 15) i = p0 by rw [f1.2.1 _ (by decide)]; exact c1) m1
    obtain ⟨_, Y2⟩ := Y
    obtain ⟨g2, s1, s2, _⟩ := yg_end (g := g') (LC := LC) (LM := LM) (he := nb - 1) (n := yv) (k := k) (kb := kb) (kd := kd) (kdb := kdb) (l := l) (Q := Q) (by omega) hk hkb hkd hkdb (by rw [Y2]; exact mh) (by rw [Y2]; exact bc) (by rw [Y2]; exact m0) (by rw [Y2]; exact m4) (by rw [Y2]; exact m5) (by rw [Y2]; exact hM) ok hQ hQk hd hs
    have X2 : zv_X 44 p0 h' g2 := ⟨X.1, X.2.1, X.2.2.1, X.2.2.2.1, (s2.1 _ _ List.not_mem_nil).trans X.2.2.2.2.1, (s2.1 _ _ List.not_mem_nil).trans X.2.2.2.2.2⟩
    have xn := zv_Xn X2
    exact ⟨h', g2, eC, by rw [eM, s1], .inl ⟨⟨⟨44, p0, X2⟩, zfr_trans (zfr_w f1 (by decide) (by decide) (by decide)) (zfr_w u1 (fun _ z => z) (by decide) (by decide)), zfr_trans u2 (zfr_w s2 (by decide) (by decide) (by decide))⟩, xn.1, xn.2⟩⟩
