/-! What trees a text can have. -/
/-- what may come below a node of a kind: kind, state, kinds of the next child, state behind it -/
def zg_R : List (Nat × Nat × List Nat × Nat) := [
  (0, 0, [1, 2, 3], 0),
  (1, 0, [8], 1), (1, 1, [4], 1), (1, 1, [11, 22], 2),
  (2, 0, [4], 0), (2, 0, [11, 22], 2),
  (3, 0, [4], 0), (3, 0, [11, 22], 2),
  (4, 0, [5], 0),
  (5, 0, [37], 1), (5, 1, [37], 1), (5, 1, [7], 2), (5, 1, [8, 9, 10], 3), (5, 2, [8, 9, 10], 3), (5, 3, [30, 31], 4),
  (9, 0, [30, 31], 1), (9, 1, [30, 31], 2), (9, 2, [8], 3),
  (11, 0, [12, 13, 15, 16, 19, 20, 21], 0),
  (12, 0, [6, 32], 1), (12, 1, [6, 30, 31, 32, 33, 34, 35, 36], 2),
  (13, 0, [14], 0),
  (14, 0, [6, 30, 31, 32, 33, 34, 35, 36], 1),
  (15, 0, [6, 30, 31, 32, 33, 34, 35, 36], 1), (15, 1, [11], 2), (15, 2, [6, 30, 31, 32, 33, 34, 35, 36], 1), (15, 2, [11], 3),
  (16, 0, [6, 30, 31, 32, 33, 34, 35, 36], 1), (16, 1, [17], 1), (16, 1, [11], 2),
  (17, 0, [18], 1), (17, 1, [18], 1), (17, 1, [11], 2),
  (18, 0, [30, 31], 1), (18, 1, [30, 31], 2),
  (19, 0, [30, 31], 1), (19, 1, [30, 31], 2), (19, 2, [30, 31], 3), (19, 2, [11], 4), (19, 3, [11], 4),
  (22, 0, [23], 0),
  (23, 0, [24], 1), (23, 1, [24], 1),
  (24, 0, [25, 26, 27, 28], 1), (24, 1, [25, 26, 27, 28], 1), (24, 1, [29], 2), (24, 2, [25, 26, 27, 28], 1),
  (25, 0, [6, 33], 1),
  (28, 0, [6], 1),
  (32, 0, [6, 30, 31, 32, 33, 34, 35, 36], 1),
  (33, 0, [38], 1),
  (34, 0, [6, 30, 31, 32, 33, 34, 35, 36], 0),
  (35, 0, [6, 30, 31, 32, 33, 34, 35, 36], 1), (35, 1, [6, 30, 31, 32, 33, 34, 35, 36], 2),
  (36, 0, [6, 30, 31, 32, 33, 34, 35, 36], 1)]
def zg_q (kd st c : Nat) : Nat := ((zg_R.find? (fun r => r.1 == kd && r.2.1 == st && r.2.2.1.elem c)).map (·.2.2.2)).getD 99
/-- where it may end -/
def zg_A (kd st : Nat) : Bool := [(0, 0), (1, 2), (2, 2), (3, 2), (4, 0), (5, 3), (5, 4), (6, 0), (7, 0), (8, 0), (9, 3), (10, 0), (11, 0), (12, 2), (13, 0), (14, 1), (15, 2), (15, 3), (16, 1), (16, 2), (17, 2), (18, 1), (18, 2), (19, 4), (20, 0), (21, 0), (22, 0), (23, 1), (24, 1), (25, 1), (26, 0), (27, 0), (28, 1), (29, 0), (30, 0), (31, 0), (32, 1), (33, 1), (34, 0), (35, 2), (36, 1), (37, 0), (38, 0)].elem (kd, st)
/-- how many values a kind has; 0: any -/
def zg_b (kd : Nat) : Nat := if kd = 4 then 3 else if kd = 7 then 1536 else if kd = 8 then 3 else if kd = 25 then 4 else if kd = 28 then 4 else if kd = 31 then 2 else if kd = 35 then 14 else if kd = 36 then 2 else 0
def zg_v (kd : Nat) (v : Int32) : Prop := zg_b kd = 0 ∨ ∃ x, x < zg_b kd ∧ v = nI x ∧ (kd = 7 → 768 ≤ x → x % 256 < 64)
def zg_run (kd : Nat) : Nat → zt_T → Nat
  | st, .leaf => st
  | st, .inner c _ _ _ r => zg_run kd (zg_q kd st c) r
def zg_ok : zt_T → Prop
  | .leaf => True
  | .inner kd k _ l r => (zg_A kd (zg_run kd 0 l) = true ∧ zg_v kd k.2) ∧ zg_ok l ∧ zg_ok r
/-- how deep it is -/
def zg_d : zt_T → Nat
  | .leaf => 0
  | .inner kd _ _ l r => max (zg_d l + (if kd = 19 then 2 else 1)) (zg_d r)
theorem zg_d1 {kd : Nat} {k : Int32 × Int32} {v : Unit} {l r : zt_T} : max (zg_d l + 1) (zg_d r) ≤ zg_d (.inner kd k v l r) := by
  show max (zg_d l + 1) (zg_d r) ≤ max (zg_d l + (if kd = 19 then 2 else 1)) (zg_d r)
  split <;> omega
theorem zg_d0 {kd : Nat} {k : Int32 × Int32} {v : Unit} {l r : zt_T} (h : ¬ kd = 19) : zg_d (.inner kd k v l r) = max (zg_d l + 1) (zg_d r) := by
  show max (zg_d l + (if kd = 19 then 2 else 1)) (zg_d r) = _
  rw [if_neg h]
theorem zg_d2 {k1 k2 : Nat} {v1 v2 : Int32 × Int32} {o1 o2 : Unit} {l1 l2 r : zt_T} : max (zg_d l1 + 1) (max (zg_d l2 + 1) (zg_d r)) ≤ zg_d (.inner k1 v1 o1 l1 (.inner k2 v2 o2 l2 r)) := by
  have a := zg_d1 (kd := k1) (k := v1) (v := o1) (l := l1) (r := .inner k2 v2 o2 l2 r)
  have b := zg_d1 (kd := k2) (k := v2) (v := o2) (l := l2) (r := r)
  omega
/-- how many names it declares -/
def zg_c : zt_T → Nat
  | .leaf => 0
  | .inner kd _ _ l r => (if kd = 37 then 1 else 0) + zg_c l + zg_c r
theorem zg_run_ap (kd : Nat) : ∀ (t u : zt_T) (st : Nat), zg_run kd st (zt_ap t u) = zg_run kd (zg_run kd st t) u := by
  intro t u
  induction t with
  | leaf => intro st; rfl
  | inner c k v l r ihl ihr => intro st; exact ihr _
theorem zg_ok_ap : ∀ (t u : zt_T), zg_ok t → zg_ok u → zg_ok (zt_ap t u) := by
  intro t u
  induction t with
  | leaf => intro _ h; exact h
  | inner c k v l r ihl ihr => intro h hu; exact ⟨h.1, h.2.1, ihr h.2.2 hu⟩
theorem zg_d_ap : ∀ (t u : zt_T), zg_d (zt_ap t u) = max (zg_d t) (zg_d u) := by
  intro t u
  induction t with
  | leaf => show zg_d u = max 0 (zg_d u); omega
  | inner c k v l r ihl ihr =>
    show max (zg_d l + (if c = 19 then 2 else 1)) (zg_d (zt_ap r u)) = max (max (zg_d l + (if c = 19 then 2 else 1)) (zg_d r)) (zg_d u)
    generalize (if c = 19 then 2 else 1) = zz
    rw [ihr]; omega
theorem zg_c_ap : ∀ (t u : zt_T), zg_c (zt_ap t u) = zg_c t + zg_c u := by
  intro t u
  induction t with
  | leaf => show zg_c u = 0 + zg_c u; omega
  | inner c k v l r ihl ihr =>
    show (if c = 37 then 1 else 0) + zg_c l + zg_c (zt_ap r u) = (if c = 37 then 1 else 0) + zg_c l + zg_c r + zg_c u
    rw [ihr]; omega
/-- a tree with one of these kinds at its top -/
def zg_T (S : List Nat) (D : Nat) (t : zt_T) : Prop := ∃ kd p v l, t = zt_n kd p v l ∧ kd ∈ S ∧ zg_ok t ∧ zg_d t ≤ D
/-- what is below a node of a kind, up to here -/
def zg_U (kd st D : Nat) (u : zt_T) : Prop := zg_run kd 0 u = st ∧ zg_ok u ∧ zg_d u ≤ D
theorem zg_U0 {kd D : Nat} : zg_U kd 0 D .leaf := ⟨rfl, trivial, Nat.zero_le D⟩
theorem zg_U1 {kd st st' D : Nat} {S : List Nat} {u t : zt_T} (H : zg_U kd st D u) (ht : zg_T S D t) (hq : ∀ c ∈ S, zg_q kd st c = st') : zg_U kd st' D (zt_ap u t) := by
  obtain ⟨h1, h2, h3⟩ := H
  obtain ⟨c, p, v, l, rfl, t1, t2, t3⟩ := ht
  refine ⟨?_, zg_ok_ap _ _ h2 t2, by rw [zg_d_ap]; omega⟩
  rw [zg_run_ap, h1]
  exact hq c t1
theorem zg_n {kd st D : Nat} {p v : Int32} {u : zt_T} {S : List Nat} (H : zg_U kd st D u) (ha : zg_A kd st = true) (hv : zg_v kd v) (hS : kd ∈ S) (h19 : ¬ kd = 19 := by decide) : zg_T S (D + 1) (zt_n kd p v u) := by
  obtain ⟨h1, h2, h3⟩ := H
  refine ⟨kd, p, v, u, rfl, hS, ⟨⟨by rw [h1]; exact ha, hv⟩, h2, trivial⟩, ?_⟩
  show max (zg_d u + (if kd = 19 then 2 else 1)) 0 ≤ D + 1
  rw [if_neg h19]
  omega
theorem zg_n19 {st D : Nat} {p v : Int32} {u : zt_T} {S : List Nat} (H : zg_U 19 st D u) (ha : zg_A 19 st = true) (hv : zg_v 19 v) (hS : 19 ∈ S) : zg_T S (D + 2) (zt_n 19 p v u) := by
  obtain ⟨h1, h2, h3⟩ := H
  refine ⟨19, p, v, u, rfl, hS, ⟨⟨by rw [h1]; exact ha, hv⟩, h2, trivial⟩, ?_⟩
  show max (zg_d u + 2) 0 ≤ D + 2
  omega
theorem zg_c_n {kd : Nat} {p v : Int32} {u : zt_T} (h : ¬ kd = 37) : zg_c (zt_n kd p v u) = zg_c u := by
  show (if kd = 37 then 1 else 0) + zg_c u + 0 = _
  rw [if_neg h]; omega
theorem zg_Tm {S S' : List Nat} {D D' : Nat} {t : zt_T} (H : zg_T S D t) (hS : ∀ c ∈ S, c ∈ S') (hD : D ≤ D') : zg_T S' D' t := by
  obtain ⟨c, p, v, l, e, t1, t2, t3⟩ := H
  exact ⟨c, p, v, l, e, hS c t1, t2, by omega⟩
