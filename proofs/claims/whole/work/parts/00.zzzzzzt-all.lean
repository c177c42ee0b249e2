/-! The coder: what is known of the code of statements; a judged forest. -/
/-- an instruction of a statement of block b: its numbers are in their bounds; own cells are written from lo on -/
def yw_i (X Y : Nat → Nat) (kb : Nat → yK) (b lo : Nat) (i : yI) : Prop := yo_i X (fun u => (kb u).1 = 1) b i ∨ (i.1 = 2 ∧ ∃ x, i.2.1 = nI x ∧ ((x < Y b ∧ ¬ (kb b).2 x) ∨ (lo ≤ x ∧ x < X b))) ∨ (i.1 = 4 ∧ ∃ x s, i.2.1 = nI x ∧ i.2.2.2 = nI s ∧ x + s ≤ Y b ∧ ∀ j, j < s → ¬ (kb b).2 (x + j)) ∨ (i.1 = 15 ∧ ∃ u x, i.2.1 = nI u ∧ i.2.2.1 = nI x ∧ u < b ∧ (kb u).1 = 2 ∧ x + X u ≤ Y b ∧ ∀ j, j < X u → ((kb b).2 (x + j) ↔ (kb u).2 j)) ∨ (i.1 = 17 ∧ ∃ B x, i.2.1 = nI B ∧ i.2.2.1 = nI x ∧ B < 9 ∧ x + (zt_2.getD B 0).toNatClampNeg ≤ Y b ∧ ∀ j, j < (zt_2.getD B 0).toNatClampNeg → ((kb b).2 (x + j) ↔ B = 2 ∧ j = 2))
def yz_W (X Y : Nat → Nat) (kb : Nat → yK) (b : Nat) : ys → Nat → Prop
  | .leaf, _ => True
  | .inner k p _ l r, lo => (if k = 0 then yo_h 0 p.1 = some 0 ∧ ∀ i, i ∈ p.1 → yw_i X Y kb b lo i else if k = 2 then ∃ c N, p.2.1 = nI c ∧ p.2.2 = nI N ∧ lo ≤ c ∧ c < X b ∧ N ≤ 1000000 ∧ yz_st l ∧ yz_W X Y kb b l (c + 1) else if k = 5 then yo_h 0 p.1 = some 1 ∧ (∀ i, i ∈ p.1 → yo_i X (fun u => (kb u).1 = 1) b i) ∧ yz_st l ∧ yz_W X Y kb b l lo else (if k = 1 then yz_br l else yz_st l) ∧ yz_W X Y kb b l lo) ∧ yz_W X Y kb b r lo
/-- code that leaves the stack as it was -/
def yo_N (Bc : Nat → Nat → Prop) (b : Nat) (L : List yI) : Prop := ∀ (K : List Prop → Prop) (st : List Prop), K st → yo_W Bc b L K st
/-- BOOLs stay BOOLs -/
def yz_B (Bc : Nat → Nat → Prop) (b : Nat) : ys → Prop
  | .leaf => True
  | .inner k p _ l r => (if k = 0 then yo_N Bc b p.1 else if k = 2 then ¬ Bc b p.2.1.toNatClampNeg ∧ yz_B Bc b l else if k = 5 then yo_E Bc b False p.1 ∧ yz_B Bc b l else yz_B Bc b l) ∧ yz_B Bc b r
/-- .. in a body of statements -/
def yz_N (h0 : zs_H) (b : Nat) (T : ys) : Prop := ∀ LD : Nat → Prop, ¬ LD b → yz_B (yq_b LD h0) b T
theorem yz_Bap {Bc : Nat → Nat → Prop} {b : Nat} : ∀ (t u : ys), yz_B Bc b t → yz_B Bc b u → yz_B Bc b (yz_ap t u) := by
  intro t
  induction t with
  | leaf => intro u _ h; exact h
  | inner k p o l r _ ihr => intro u ⟨h1, h2⟩ h3; exact ⟨h1, ihr u h2 h3⟩
theorem yz_Bi {Bc : Nat → Nat → Prop} {b : Nat} {L : List yI} (h : yo_N Bc b L) : yz_B Bc b (yz_i L) := ⟨h, trivial⟩
theorem yo_N2 {Bc : Nat → Nat → Prop} {b x : Nat} {φ : Prop} {L : List yI} (A : yo_E Bc b φ L) (hx : x < 2147483648) (h : Bc b x → φ) : yo_N Bc b (L ++ [(2, nI x, 0, 0)]) := fun K st H => by
  rw [yo_Wap]
  refine A _ _ fun p hp => ?_
  show (Bc b (nI x).toNatClampNeg → p) ∧ K st
  rw [nI_clamp hx]
  exact ⟨fun z => hp (h z), H⟩
theorem yo_N4 {Bc : Nat → Nat → Prop} {b x s : Nat} {lo : Int32} {φ ψ : Prop} {L L1 : List yI} (A1 : yo_E Bc b ψ L1) (A : yo_E Bc b φ L) (hx : x < 2147483648) (hs : s < 2147483648) (h : ∀ j, j < s → Bc b (x + j) → φ) : yo_N Bc b (L1 ++ (L ++ [(4, nI x, lo, nI s)])) := fun K st H => by
  rw [yo_Wap]
  refine A1 _ _ fun q _ => ?_
  rw [yo_Wap]
  refine A _ _ fun p hp => ?_
  show (∀ j : Nat, j < (nI s).toNatClampNeg → Bc b ((nI x).toNatClampNeg + j) → p) ∧ K st
  rw [nI_clamp hx, nI_clamp hs]
  exact ⟨fun j hj z => hp (h j hj z), H⟩
/-- how many loops are in each other -/
def yz_v : ys → Nat
  | .leaf => 0
  | .inner k _ _ l r => max (if k = 2 then yz_v l + 1 else yz_v l) (yz_v r)
section YZW
variable {X Y : Nat → Nat} {kb : Nat → yK} {b : Nat}
theorem yw_m {lo lo' : Nat} {i : yI} (h : lo ≤ lo') (H : yw_i X Y kb b lo' i) : yw_i X Y kb b lo i := by
  rcases H with H | ⟨e, x, e1, H⟩ | H
  · exact .inl H
  · exact .inr (.inl ⟨e, x, e1, H.imp id (fun z => ⟨by omega, z.2⟩)⟩)
  · exact .inr (.inr H)
theorem yz_Wm : ∀ (t : ys) (lo lo' : Nat), lo ≤ lo' → yz_W X Y kb b t lo' → yz_W X Y kb b t lo := by
  intro t
  induction t with
  | leaf => intro _ _ _ _; trivial
  | inner k p o l r ihl ihr =>
    intro lo lo' h ⟨H1, H2⟩
    refine ⟨?_, ihr _ _ h H2⟩
    by_cases k0 : k = 0
    · rw [if_pos k0] at H1 ⊢; exact ⟨H1.1, fun i hi => yw_m h (H1.2 i hi)⟩
    rw [if_neg k0] at H1 ⊢
    by_cases k2 : k = 2
    · rw [if_pos k2] at H1 ⊢
      obtain ⟨c, N, a1, a2, a3, a4⟩ := H1
      exact ⟨c, N, a1, a2, by omega, a4⟩
    rw [if_neg k2] at H1 ⊢
    by_cases k5 : k = 5
    · rw [if_pos k5] at H1 ⊢; exact ⟨H1.1, H1.2.1, H1.2.2.1, ihl _ _ h H1.2.2.2⟩
    rw [if_neg k5] at H1 ⊢
    exact ⟨H1.1, ihl _ _ h H1.2⟩
theorem yz_Wap : ∀ (t u : ys) (lo : Nat), yz_W X Y kb b t lo → yz_W X Y kb b u lo → yz_W X Y kb b (yz_ap t u) lo := by
  intro t
  induction t with
  | leaf => intro u lo _ h; exact h
  | inner k p o l r _ ihr => intro u lo ⟨h1, h2⟩ h3; exact ⟨h1, ihr u lo h2 h3⟩
theorem yz_Wi {L : List yI} {lo : Nat} (h1 : yo_h 0 L = some 0) (h2 : ∀ i, i ∈ L → yw_i X Y kb b lo i) : yz_W X Y kb b (yz_i L) lo := ⟨⟨h1, h2⟩, trivial⟩
theorem yz_vap : ∀ (t u : ys), yz_v (yz_ap t u) = max (yz_v t) (yz_v u) := by
  intro t
  induction t with
  | leaf => intro u; show yz_v u = max 0 (yz_v u); omega
  | inner k p o l r _ ihr =>
    intro u
    show max (if k = 2 then yz_v l + 1 else yz_v l) (yz_v (yz_ap r u)) = max (max (if k = 2 then yz_v l + 1 else yz_v l) (yz_v r)) (yz_v u)
    rw [ihr u, Nat.max_assoc]
end YZW
theorem zg_x20 : ∀ t : zt_T, zg_x t ≤ zg_ct 20 t := by
  intro t
  induction t with
  | leaf => exact Nat.le_refl _
  | inner kd kv o l r ihl ihr =>
    show (if kd = 20 then 1 else if kd = 11 ∨ kd = 15 ∨ kd = 16 ∨ kd = 17 then zg_x l else 0) + zg_x r ≤ (if kd = 20 then 1 else 0) + zg_ct 20 l + zg_ct 20 r
    by_cases z : kd = 20
    · rw [if_pos z, if_pos z]; omega
    · rw [if_neg z, if_neg z]
      split <;> omega
/-- a judged forest: its nodes, its tree in the model, its own cells -/
def yj_f (LC LM : List (List Int32)) (Fb : Nat → Nat) (b : Nat) (h0 g0 : zs_H) (P Q : Nat → Prop) (ow : Nat) (t : zt_T) (Qm : Nat → Prop) (up x x' y : Int32) : Prop := yb_F Fb b h0 g0 P Q t x x' (-1) (-1) ∧ zt_M LC LM g0 t Qm up x' y ∧ yg_G 0 g0 Q ow t x'
def yj_cx (LC LM : List (List Int32)) (nb b sz : Nat) (F Fb X Y : Nat → Nat) (h0 g0 : zs_H) (P : Nat → Prop) : Prop := yk_cx LC LM nb F X Y h0 g0 ∧ b < nb ∧ (∀ j, j ≤ b + 1 → Fb j = F j) ∧ (∀ j, P j → j < 32784) ∧ (h0.1 12 6) = nI sz ∧ sz ≤ 32784
section YJC
variable {LC LM : List (List Int32)} {nb b sz ow : Nat} {F Fb X Y : Nat → Nat} {h0 g0 : zs_H} {P Q Qm : Nat → Prop} {up x x' y : Int32} {kd : Nat} {kv : Int32 × Int32} {o : Unit} {l r : zt_T}
theorem yj_c (H : yj_f LC LM Fb b h0 g0 P Q ow (.inner kd kv o l r) Qm up x x' y) : ∃ (i k : Nat) (xl : Int32) (Q1 Q2 : Nat → Prop) (z2 : Int32), ((P i ∧ i < 32784 ∧ x = nI i) ∧ (Q k ∧ k < 33500 ∧ x' = nI k) ∧ (g0.2.1 72) k = nI (zt_km kd)) ∧ yb_N Fb b h0 g0 P Q kd kv.2 i k xl (zt_ln l) ∧ (if zt_nk kd = true then zt_nr LC LM kv.2 ((g0.2.1 74) k) else (g0.2.1 74) k = kv.2) ∧ (∀ j, Q1 j → ¬ j = k) ∧ (¬ 30 ≤ zt_km kd → (kd = 16 → (g0.2.1 101) k = nI ow) ∧ (kd = 19 → (g0.2.1 102) k = nI ow) ∧ yj_f LC LM Fb b h0 g0 P Q (ow + yg_w 0 kd kv.2) l Q1 (nI k) xl ((g0.2.1 76) k) ((g0.2.1 77) k)) ∧ (yb_F Fb b h0 g0 P Q l xl ((g0.2.1 76) k) (-1) (-1) ∧ zt_M LC LM g0 l Q1 (nI k) ((g0.2.1 76) k) ((g0.2.1 77) k)) ∧ yj_f LC LM Fb b h0 g0 P Q (ow + yg_c 0 (.inner kd kv o l .leaf)) r Q2 up ((h0.2.1 18) i) ((g0.2.1 78) k) z2 ∧ y = (if z2 = -1 then x' else z2) := by
  obtain ⟨⟨i, k, xl, ⟨pi, i2, ix⟩, ⟨qk, k2, kx, km⟩, N, Al, Ar⟩, M, b', qb, b2, bx, bk, G1, G2⟩ := H
  obtain ⟨k', P1, P2, z2, ex', _, _, _, _, nv, _, d1, _, Ml, Mr, ey⟩ := zv_hM M
  have ek : k' = k := (nI_eq (by omega) (by omega)).mp (ex'.symm.trans kx)
  subst ek
  have eb : b' = k' := (nI_eq (by omega) (by omega)).mp (bx.symm.trans kx)
  subst eb
  refine ⟨i, b', xl, P1, P2, z2, ⟨⟨pi, i2, ix⟩, ⟨qk, k2, kx⟩, km⟩, N, nv, fun j hj => (d1 j hj).2.1, fun h30 => ?_, ⟨Al, Ml⟩, ⟨Ar, Mr, G2⟩, ey⟩
  rcases G1 with z | ⟨a1, a2, _, a4⟩
  · exact absurd z h30
  · exact ⟨a1 rfl, a2 rfl, Al, Ml, a4⟩
/-- the first tree of a forest is an expression -/
theorem yj_e (C : yj_cx LC LM nb b sz F Fb X Y h0 g0 P) (ok : zg_ok (.inner kd kv o l r)) (hE : kd ∈ yb_E) (hd : zg_d l + 1 ≤ 190) (hz : zt_sz l + 1 ≤ sz) (A : yb_F Fb b h0 g0 P Q (.inner kd kv o l r) x x' (-1) (-1)) (M : zt_M LC LM g0 (.inner kd kv o l r) Qm up x' y) : ∃ (i k : Nat) (Q1 : Nat → Prop) (L : List yI), (i < 32784 ∧ x = nI i) ∧ (k < 33500 ∧ x' = nI k ∧ ¬ Q1 k) ∧ (yk_C h0 (zg_d l) (nI i) L ∧ yk_M g0 b Q1 (zg_d l) k L) ∧ ((L.length + 1 ≤ 6 * (1 + zt_sz l) ∧ yk_ty h0 b i L) ∧ yk_e X (fun u => (h0.2.1 21) (9 + u) = 1) b L) := by
  obtain ⟨c1, c2, c3, c4, c5, c6⟩ := C
  obtain ⟨⟨hA, hv⟩, okl, _⟩ := ok
  obtain ⟨i, k, Q1, Q2, z2, L, ⟨_, a1⟩, ⟨_, a2⟩, a3, _, a5, a6, _, _⟩ := yk_exp1 c1 c2 c3 c4 c5 c6 (fun okl tpl => yk_exp c1 c2 c3 c4 c5 c6 l okl tpl) hA hv okl hE Qm up x x' y (-1) (-1) M A hd hz
  exact ⟨i, k, Q1, L, a1, ⟨a2.1, a2.2, fun z => (a3 k z).2 rfl⟩, a5, a6⟩
/-- one child of a kind -/
theorem yj_q {c st : Nat} {kv : Int32 × Int32} {o : Unit} {lc r : zt_T} (h : ¬ zg_run kd st (.inner c kv o lc r) = 99) : ∃ cs to, (kd, st, cs, to) ∈ zg_R ∧ c ∈ cs ∧ zg_q kd st c = to ∧ ¬ zg_run kd to r = 99 := by
  have h1 : ¬ zg_run kd (zg_q kd st c) r = 99 := h
  have h2 : ¬ zg_q kd st c = 99 := fun z => h1 (by rw [z]; exact zv_q99 kd r)
  obtain ⟨cs, to, m1, m2, m3⟩ := zv_qR h2
  exact ⟨cs, to, m1, m2, m3, by rw [← m3]; exact h1⟩
theorem yj_q11 {c : Nat} {kv : Int32 × Int32} {o : Unit} {lc r : zt_T} (h : ¬ zg_run 11 0 (.inner c kv o lc r) = 99) : (c = 12 ∨ c = 13 ∨ c = 15 ∨ c = 16 ∨ c = 19 ∨ c = 20 ∨ c = 21) ∧ ¬ zg_run 11 0 r = 99 := by
  have key : ∀ r ∈ zg_R, r.1 = 11 → r.2 = (0, [12, 13, 15, 16, 19, 20, 21], 0) := by decide +kernel
  obtain ⟨cs, to, m1, m2, _, m4⟩ := yj_q h
  have k1 := key _ m1 rfl
  simp only [Prod.mk.injEq] at k1
  obtain ⟨_, e2, e3⟩ := k1
  rw [e2] at m2
  rw [e3] at m4
  simp only [List.mem_cons, List.not_mem_nil, or_false] at m2
  exact ⟨m2, m4⟩
end YJC
/-- a statement that has been coded -/
def yj_1 (X Y : Nat → Nat) (h0 g0 : zs_H) (b kd : Nat) (kv : Int32 × Int32) (l : zt_T) (i k ow : Nat) (T : ys) : Prop := yz_st T ∧ (yk_SC h0 (zg_d l) kd i ow (yg_c 0 (.inner kd kv () l .leaf)) T ∧ yk_SM g0 b (zg_d l) k T (zg_ct 20 (.inner kd kv () l .leaf)) (zg_ct 11 (.inner kd kv () l .leaf))) ∧ ((∀ n, (yz_x T n).length ≤ zg_x (.inner kd kv () l .leaf)) ∧ yz_l T ≤ 6 * zt_sz (.inner kd kv () l .leaf)) ∧ yz_W X Y (yq_k h0) b T ow ∧ 3 * yz_v T ≤ zg_d (.inner kd kv () l .leaf) ∧ yz_N h0 b T
/-- a row of statements that has been coded -/
def yj_L (X Y : Nat → Nat) (h0 g0 : zs_H) (b : Nat) (t : zt_T) (x x' : Int32) (ow : Nat) (T : ys) : Prop := yk_SL h0 g0 b t x x' ow T ∧ (∀ n, (yz_x T n).length ≤ zg_x t) ∧ yz_W X Y (yq_k h0) b T ow ∧ 3 * yz_v T ≤ zg_d t ∧ yz_N h0 b T
/-- it can be coded, wherever it stands -/
def yj_K (LC LM : List (List Int32)) (b sz : Nat) (Fb X Y : Nat → Nat) (h0 g0 : zs_H) (P Q : Nat → Prop) (t : zt_T) : Prop := ∀ (ow : Nat) (Qm : Nat → Prop) (up x x' y : Int32), yj_f LC LM Fb b h0 g0 P Q ow t Qm up x x' y → zg_ok t → ¬ zg_run 11 0 t = 99 → zg_d t ≤ 187 → zt_sz t + 1 ≤ sz → Y b ≤ ow → ow + yg_c 0 t ≤ X b → ∃ T, yj_L X Y h0 g0 b t x x' ow T
