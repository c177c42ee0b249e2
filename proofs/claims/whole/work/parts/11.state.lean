/-! The state of both systems as numbers: every cell has its place in zs_sh; the references between cells never change. -/
/-- the cells: an array (its kind 0 int, 1 byte, 2 char, 3 boolean, 4 long; its length), or an object (its class; of each field: (0, r) the cell r for ever, (1, _) a number, (2, r) null or the cell r) -/
def zs_sh : List ((Nat × Nat) ⊕ (Nat × List (Nat × Nat))) := [.inr (0, [(0, 1), (1, 0), (1, 0), (1, 0), (1, 0), (0, 2), (0, 8), (0, 19), (0, 12), (0, 20), (0, 38), (0, 41), (0, 47), (0, 51), (0, 58), (0, 66)]),
  .inl (1, 16384),
  .inr (1, [(0, 3), (0, 4), (0, 5), (0, 6), (0, 7), (1, 0)]),
  .inl (1, 405),
  .inl (1, 16789),
  .inl (0, 6001),
  .inl (0, 6000),
  .inl (0, 1024),
  .inr (2, [(0, 9), (0, 10), (0, 11), (1, 0), (0, 2), (2, 1), (1, 0), (1, 0)]),
  .inl (2, 16385),
  .inl (2, 16385),
  .inl (0, 16385),
  .inr (3, [(0, 13), (0, 14), (0, 15), (0, 16), (0, 17), (0, 18), (1, 0)]),
  .inl (1, 32784),
  .inl (1, 32784),
  .inl (2, 32784),
  .inl (0, 32784),
  .inl (0, 32784),
  .inl (0, 32784),
  .inr (4, [(1, 0), (0, 8), (0, 12), (1, 0), (1, 0), (1, 0), (1, 0), (1, 0)]),
  .inr (5, [(0, 21), (0, 22), (0, 23), (0, 24), (0, 25), (0, 26), (0, 27), (0, 28), (0, 29), (0, 30), (0, 31), (0, 32), (0, 33), (0, 34), (0, 35), (0, 36), (0, 37), (1, 0), (1, 0), (1, 0), (1, 0)]),
  .inl (0, 629),
  .inl (0, 629),
  .inl (0, 629),
  .inl (0, 629),
  .inl (0, 629),
  .inl (0, 629),
  .inl (0, 629),
  .inl (0, 6000),
  .inl (0, 6000),
  .inl (0, 6000),
  .inl (0, 6000),
  .inl (0, 6000),
  .inl (0, 6000),
  .inl (0, 6000),
  .inl (0, 6000),
  .inl (0, 6000),
  .inl (0, 6000),
  .inr (6, [(1, 0), (0, 12), (0, 20), (1, 0), (1, 0), (1, 0), (1, 0), (1, 0), (1, 0), (1, 0), (1, 0), (0, 39), (1, 0), (0, 40)]),
  .inl (0, 240),
  .inl (3, 960),
  .inr (7, [(0, 42), (0, 43), (0, 44), (0, 45), (0, 46), (1, 0), (1, 0)]),
  .inl (1, 4000),
  .inl (0, 4000),
  .inl (0, 4000),
  .inl (0, 4000),
  .inl (0, 17),
  .inr (8, [(0, 12), (0, 20), (0, 41), (1, 0), (1, 0), (1, 0), (1, 0), (0, 48), (0, 49), (0, 50), (1, 0), (1, 0)]),
  .inl (0, 144),
  .inl (0, 144),
  .inl (3, 144),
  .inr (9, [(0, 52), (0, 41), (0, 53), (0, 54), (0, 55), (0, 56), (0, 57), (1, 0)]),
  .inl (0, 16),
  .inl (3, 4001),
  .inl (4, 4001),
  .inl (4, 4001),
  .inl (4, 4001),
  .inl (0, 240),
  .inr (10, [(0, 59), (0, 60), (0, 61), (1, 0), (1, 0), (1, 0), (1, 0), (1, 0), (1, 0), (1, 0), (0, 41), (0, 20), (0, 62), (0, 63), (1, 0), (0, 64), (0, 65), (1, 0), (1, 0), (1, 0), (1, 0)]),
  .inl (0, 960),
  .inl (0, 960),
  .inl (0, 960),
  .inl (0, 8192),
  .inl (0, 1088),
  .inl (0, 51),
  .inl (0, 16),
  .inr (11, [(0, 67), (1, 0), (1, 0), (0, 58), (2, 1), (1, 0)]),
  .inl (1, 256),
  .inr (12, [(1, 0), (1, 0), (0, 69), (1, 0), (0, 70), (0, 71), (1, 0), (1, 0), (1, 0), (1, 0), (1, 0), (1, 0), (1, 0), (1, 0), (1, 0), (0, 72), (0, 73), (0, 74), (0, 75), (0, 76), (0, 77), (0, 78), (1, 0), (0, 79), (0, 80), (1, 0), (0, 81), (0, 82), (0, 83), (1, 0), (1, 0), (1, 0), (1, 0), (1, 0), (0, 84), (0, 85), (0, 86), (0, 87), (0, 88), (0, 89), (0, 90), (1, 0), (0, 91), (0, 92), (0, 93), (0, 94), (0, 95), (0, 96), (0, 97), (0, 98), (0, 99), (0, 100), (0, 101), (0, 102), (1, 0), (1, 0), (1, 0), (0, 103), (1, 0), (0, 104), (0, 105), (0, 106), (0, 107), (0, 108), (1, 0), (0, 109), (1, 0), (0, 110), (1, 0), (0, 111), (0, 112), (0, 113), (0, 114), (1, 0), (1, 0), (1, 0), (1, 0), (0, 115), (1, 0), (0, 116), (1, 0), (1, 0), (1, 0), (1, 0), (1, 0), (1, 0), (1, 0), (1, 0), (1, 0), (0, 117), (0, 118), (0, 119), (0, 120), (1, 0), (1, 0), (1, 0)]),
  .inl (1, 16384),
  .inl (1, 262144),
  .inl (0, 8192),
  .inl (0, 33500),
  .inl (0, 33500),
  .inl (0, 33500),
  .inl (0, 33500),
  .inl (0, 33500),
  .inl (0, 33500),
  .inl (0, 33500),
  .inl (0, 33500),
  .inl (0, 33500),
  .inl (0, 200),
  .inl (0, 200),
  .inl (0, 200),
  .inl (0, 2100),
  .inl (0, 2100),
  .inl (0, 2100),
  .inl (0, 2100),
  .inl (0, 2100),
  .inl (0, 2100),
  .inl (0, 2101),
  .inl (0, 8400),
  .inl (0, 8400),
  .inl (0, 8400),
  .inl (0, 8400),
  .inl (0, 8400),
  .inl (0, 8400),
  .inl (0, 8400),
  .inl (0, 8400),
  .inl (0, 8400),
  .inl (0, 33500),
  .inl (0, 33500),
  .inl (0, 33500),
  .inl (0, 17),
  .inl (0, 4000),
  .inl (0, 4000),
  .inl (0, 4000),
  .inl (0, 4000),
  .inl (0, 4001),
  .inl (4, 16),
  .inl (0, 8400),
  .inl (0, 4000),
  .inl (0, 4001),
  .inl (4, 248100),
  .inl (0, 8192),
  .inl (0, 1200),
  .inl (1, 16384),
  .inl (0, 300),
  .inl (0, 320),
  .inl (0, 320),
  .inl (0, 320)]
/-- addresses of the cells, classes of the arrays -/
abbrev zs_T : Type := (Nat → Nat) × (Nat → ClassId)
def zs_v (S : zs_T) (x : Int32) (t : Nat × Nat) : Value := match t.1 with
  | 0 => .ref (S.1 t.2)
  | 1 => .int x
  | _ => if x = 0 then .null else .ref (S.1 t.2)
def zs_fs (S : zs_T) (f : Nat → Int32) : Nat → List (Nat × Nat) → List Value
  | _, [] => []
  | j, t :: r => zs_v S (f j) t :: zs_fs S f (j + 1) r
def zs_ar (S : zs_T) (t n : Nat) (m : Nat → Int32) (L : Nat → Int64) : va_E := match t with
  | 4 => .inl (S.2 4, n, .inr (.inl L))
  | t => .inl (S.2 t, n, .inl m)
def zs_c (S : zs_T) (q : (Nat × Nat) ⊕ (Nat × List (Nat × Nat))) (f m : Nat → Int32) (L : Nat → Int64) : va_E := match q with
  | .inl (t, n) => zs_ar S t n m L
  | .inr (ci, tm) => .inr (ci, zs_fs S f 0 tm)
def zs_W0 (S : zs_T) (h : zs_H) : Nat → List ((Nat × Nat) ⊕ (Nat × List (Nat × Nat))) → va_W
  | _, [] => []
  | k, q :: r => (S.1 k, zs_c S q (h.1 k) (h.2.1 k) (h.2.2 k)) :: zs_W0 S h (k + 1) r
/-- the world -/
def zs_W (S : zs_T) (h : zs_H) : va_W := zs_W0 S h 0 zs_sh
abbrev zs_G (S : zs_T) (l : Launch) (D : va_G) (sz0 : Nat) : zk_GT := (l, D, zk_cls, zk_TY (S.2 0) (S.2 1) (S.2 2) (S.2 3) (S.2 4), sz0)
theorem zs_W0_at {S : zs_T} {h : zs_H} {sh : List ((Nat × Nat) ⊕ (Nat × List (Nat × Nat)))} : ∀ {b k : Nat} {q : (Nat × Nat) ⊕ (Nat × List (Nat × Nat))}, sh[k]? = some q → (zs_W0 S h b sh)[k]? = some (S.1 (b + k), zs_c S q (h.1 (b + k)) (h.2.1 (b + k)) (h.2.2 (b + k))) := by
  induction sh with
  | nil => intro b k q hq; simp at hq
  | cons a r ih =>
    intro b k q hq
    cases k with
    | zero => simp at hq; subst hq; rfl
    | succ k =>
      simp at hq
      have := ih (b := b + 1) hq
      rw [show b + 1 + k = b + (k + 1) by omega] at this
      simpa [zs_W0] using this
theorem zs_at {S : zs_T} {h : zs_H} {k : Nat} {q : (Nat × Nat) ⊕ (Nat × List (Nat × Nat))} (hq : zs_sh[k]? = some q) : (zs_W S h)[k]? = some (S.1 k, zs_c S q (h.1 k) (h.2.1 k) (h.2.2 k)) := by
  have := zs_W0_at (S := S) (h := h) (b := 0) hq
  rw [Nat.zero_add] at this
  exact this
theorem zs_W0_ext {S : zs_T} {h h' : zs_H} {sh : List ((Nat × Nat) ⊕ (Nat × List (Nat × Nat)))} : ∀ {b : Nat}, (∀ k, b ≤ k → h.1 k = h'.1 k ∧ h.2.1 k = h'.2.1 k ∧ h.2.2 k = h'.2.2 k) → zs_W0 S h b sh = zs_W0 S h' b sh := by
  induction sh with
  | nil => intro b _; rfl
  | cons a r ih =>
    intro b hb
    obtain ⟨e1, e2, e3⟩ := hb b (Nat.le_refl b)
    show _ :: _ = _ :: _
    rw [e1, e2, e3, ih (fun k hk => hb k (by omega))]
theorem zs_W0_set {S : zs_T} {h h' : zs_H} {sh : List ((Nat × Nat) ⊕ (Nat × List (Nat × Nat)))} : ∀ {b k : Nat} {q : (Nat × Nat) ⊕ (Nat × List (Nat × Nat))} {e : va_E}, sh[k]? = some q → (∀ a, a ≠ b + k → h.1 a = h'.1 a ∧ h.2.1 a = h'.2.1 a ∧ h.2.2 a = h'.2.2 a) → e = zs_c S q (h'.1 (b + k)) (h'.2.1 (b + k)) (h'.2.2 (b + k)) → (zs_W0 S h b sh).set k (S.1 (b + k), e) = zs_W0 S h' b sh := by
  induction sh with
  | nil => intro b k q e hq; simp at hq
  | cons a r ih =>
    intro b k q e hq hn he
    cases k with
    | zero =>
      simp at hq
      subst hq
      subst he
      show _ :: _ = _ :: _
      congr 1
      exact zs_W0_ext (fun k hk => hn k (by omega))
    | succ k =>
      simp at hq
      obtain ⟨e1, e2, e3⟩ := hn b (by omega)
      show _ :: _ = _ :: _
      rw [e1, e2, e3]
      congr 1
      have := ih (b := b + 1) (k := k) (q := q) (e := e) hq (fun a ha => hn a (by omega)) (by rw [show b + 1 + k = b + (k + 1) by omega]; exact he)
      rw [show b + 1 + k = b + (k + 1) by omega] at this
      exact this
theorem zs_set {S : zs_T} {h h' : zs_H} {k : Nat} {q : (Nat × Nat) ⊕ (Nat × List (Nat × Nat))} {e : va_E} (hq : zs_sh[k]? = some q) (hn : ∀ a, a ≠ k → h.1 a = h'.1 a ∧ h.2.1 a = h'.2.1 a ∧ h.2.2 a = h'.2.2 a) (he : e = zs_c S q (h'.1 k) (h'.2.1 k) (h'.2.2 k)) : (zs_W S h).set k (S.1 k, e) = zs_W S h' := by
  have := zs_W0_set (S := S) (h := h) (h' := h') (b := 0) (k := k) (q := q) (e := e) hq (by rw [Nat.zero_add]; exact hn) (by rw [Nat.zero_add]; exact he)
  rw [Nat.zero_add] at this
  exact this
theorem zs_fs_at {S : zs_T} {f : Nat → Int32} {tm : List (Nat × Nat)} : ∀ {b j : Nat} {t : Nat × Nat}, tm[j]? = some t → (zs_fs S f b tm)[j]? = some (zs_v S (f (b + j)) t) := by
  induction tm with
  | nil => intro b j t hq; simp at hq
  | cons a r ih =>
    intro b j t hq
    cases j with
    | zero => simp at hq; subst hq; rfl
    | succ j =>
      simp at hq
      have := ih (b := b + 1) hq
      rw [show b + 1 + j = b + (j + 1) by omega] at this
      simpa [zs_fs] using this
theorem zs_fs_ext {S : zs_T} {f g : Nat → Int32} {tm : List (Nat × Nat)} : ∀ {b : Nat}, (∀ k, b ≤ k → f k = g k) → zs_fs S f b tm = zs_fs S g b tm := by
  induction tm with
  | nil => intro b _; rfl
  | cons a r ih =>
    intro b hb
    show _ :: _ = _ :: _
    rw [hb b (Nat.le_refl b), ih (fun k hk => hb k (by omega))]
theorem zs_fs_set {S : zs_T} {f g : Nat → Int32} {tm : List (Nat × Nat)} : ∀ {b j : Nat} {t : Nat × Nat} {v : Value}, tm[j]? = some t → (∀ a, a ≠ b + j → f a = g a) → v = zs_v S (g (b + j)) t → (zs_fs S f b tm).set j v = zs_fs S g b tm := by
  induction tm with
  | nil => intro b j t v hq; simp at hq
  | cons a r ih =>
    intro b j t v hq hn hv
    cases j with
    | zero =>
      simp at hq
      subst hq; subst hv
      show _ :: _ = _ :: _
      congr 1
      exact zs_fs_ext (fun k hk => hn k (by omega))
    | succ j =>
      simp at hq
      show _ :: _ = _ :: _
      rw [hn b (by omega)]
      congr 1
      have := ih (b := b + 1) (j := j) (t := t) (v := v) hq (fun a ha => hn a (by omega)) (by rw [show b + 1 + j = b + (j + 1) by omega]; exact hv)
      exact this
theorem zs_fs_len {S : zs_T} {f : Nat → Int32} {tm : List (Nat × Nat)} : ∀ {b : Nat}, (zs_fs S f b tm).length = tm.length := by
  induction tm with
  | nil => intro b; rfl
  | cons a r ih => intro b; simp [zs_fs, ih]
/-- a field is written -/
theorem zs_setF {S : zs_T} {h : zs_H} {k ci j : Nat} {tm : List (Nat × Nat)} {t : Nat × Nat} {v : Value} {x : Int32} (hq : zs_sh[k]? = some (.inr (ci, tm))) (hj : tm[j]? = some t) (hv : v = zs_v S x t) : (zs_W S h).set k (S.1 k, .inr (ci, (zs_fs S (h.1 k) 0 tm).set j v)) = zs_W S (zs_uF h k j x) := by
  refine zs_set hq (fun a ha => ⟨?_, rfl, rfl⟩) ?_
  · funext b
    show _ = if a = k ∧ b = j then x else h.1 a b
    rw [if_neg (fun q => ha q.1)]
  · show Sum.inr _ = Sum.inr _
    have e1 : (zs_fs S (h.1 k) 0 tm).set j v = zs_fs S ((zs_uF h k j x).1 k) 0 tm := by
      refine zs_fs_set hj (fun a ha => ?_) ?_
      · show h.1 k a = if k = k ∧ a = j then x else h.1 k a
        rw [if_neg (fun q => ha (by omega))]
      · rw [hv]
        show zs_v S x t = zs_v S (if k = k ∧ 0 + j = j then x else h.1 k (0 + j)) t
        rw [if_pos ⟨rfl, by omega⟩]
    rw [e1]
/-- a place of an array is written -/
theorem zs_setM {S : zs_T} {h : zs_H} {k t n : Nat} {i x : Int32} (hq : zs_sh[k]? = some (.inl (t, n))) (ht : t < 4) : (zs_W S h).set k (S.1 k, .inl (S.2 t, n, .inl (upd (h.2.1 k) i.toNatClampNeg x))) = zs_W S (zs_uM h k i.toNatClampNeg x) := by
  refine zs_set hq (fun a ha => ⟨rfl, ?_, rfl⟩) ?_
  · funext b
    show _ = if a = k ∧ b = i.toNatClampNeg then x else h.2.1 a b
    rw [if_neg (fun q => ha q.1)]
  · have e1 : (zs_uM h k i.toNatClampNeg x).2.1 k = upd (h.2.1 k) i.toNatClampNeg x := by
      funext b
      show (if k = k ∧ b = i.toNatClampNeg then x else h.2.1 k b) = if b = i.toNatClampNeg then x else h.2.1 k b
      by_cases hb : b = i.toNatClampNeg
      · rw [if_pos ⟨rfl, hb⟩, if_pos hb]
      · rw [if_neg (fun q => hb q.2), if_neg hb]
    rw [e1]
    match t, ht with
    | 0, _ => rfl
    | 1, _ => rfl
    | 2, _ => rfl
    | 3, _ => rfl
theorem zs_setL {S : zs_T} {h : zs_H} {k n : Nat} {i : Int32} {x : Int64} (hq : zs_sh[k]? = some (.inl (4, n))) : (zs_W S h).set k (S.1 k, .inl (S.2 4, n, .inr (.inl (vp_updL (h.2.2 k) i.toNatClampNeg x)))) = zs_W S (zs_uL h k i.toNatClampNeg x) := by
  refine zs_set hq (fun a ha => ⟨rfl, rfl, ?_⟩) ?_
  · funext b
    show _ = if a = k ∧ b = i.toNatClampNeg then x else h.2.2 a b
    rw [if_neg (fun q => ha q.1)]
  · have e1 : (zs_uL h k i.toNatClampNeg x).2.2 k = vp_updL (h.2.2 k) i.toNatClampNeg x := by
      funext b
      show (if k = k ∧ b = i.toNatClampNeg then x else h.2.2 k b) = if b = i.toNatClampNeg then x else h.2.2 k b
      by_cases hb : b = i.toNatClampNeg
      · rw [if_pos ⟨rfl, hb⟩, if_pos hb]
      · rw [if_neg (fun q => hb q.2), if_neg hb]
    rw [e1]
    rfl
section ZS
variable {X : zkj_T} {M : zk_MT} {rm : Room} {E : Nat → State → Prop} {S : zs_T} {l : Launch} {D : va_G} {sz0 : Nat} {h : zs_H} {cells slots pc n : Nat} {lv lv' : List (Nat × Value)} {r r' : List Value}
/-- a number, or a cell, out of a field -/
theorem zs_get {C0 : String} {T : u_T} {N ci index : Nat} {tm : List (Nat × Nat)} {t : Nat × Nat} {v : Value} (C : zk_C X M (zs_G S l D sz0) rm E) (k j : Nat) (hk : zs_sh[k]? = some (.inr (ci, tm))) (hj : tm[j]? = some t) (hv : zs_v S (h.1 k j) t = v) (hc : zk_cls[ci]? = some (C0, T, N)) (hin : ∀ w ∈ u_ws C0 T N, w ∈ zk_BW) (hjN : j < N) (hlink : Cond.fieldLink M.1.cls index (T j).1 (T j).2.1 (T j).2.2.1 ∈ zk_BW) (d : decode M.2.1 pc = .ok (.getfield index, 3)) (hpc : pc + 3 = n) (kk : zk_Ab X (zs_W S h) cells slots n lv (v :: r)) : zk_Ab X (zs_W S h) cells slots pc lv (.ref (S.1 k) :: r) := by
  refine zk_get C k (zs_at hk) hc hin j hjN hlink ?_ d hpc kk
  have := zs_fs_at (S := S) (f := h.1 k) (b := 0) hj
  rw [show 0 + j = j by omega, hv] at this
  exact this
theorem zs_put {C0 : String} {T : u_T} {N ci index : Nat} {tm : List (Nat × Nat)} {t : Nat × Nat} {v : Value} {ty : FieldType} (C : zk_C X M (zs_G S l D sz0) rm E) (k j : Nat) (x : Int32) (hk : zs_sh[k]? = some (.inr (ci, tm))) (hj : tm[j]? = some t) (hv : v = zs_v S x t) (hc : zk_cls[ci]? = some (C0, T, N)) (hin : ∀ w ∈ u_ws C0 T N, w ∈ zk_BW) (ty0 : Nat → FieldType) (hty : ∀ k, k < N → parseFieldDescriptor (T k).2.2.1 = some (ty0 k)) (hnm : ∀ a, a < N → ∀ b, b < N → a ≠ b → (T a).2.1 ≠ (T b).2.1) (hjN : j < N) (hlink : Cond.fieldLink M.1.cls index (T j).1 (T j).2.1 (T j).2.2.1 ∈ zk_BW) (hfin : (T j).2.2.2 = false) (hd : ty0 j = ty) (hn : narrow ty v = v) (hfit : fits ty v = true) (hl : j < tm.length) (d : decode M.2.1 pc = .ok (.putfield index, 3)) (hpc : pc + 3 = n) (kk : zk_Ab X (zs_W S (zs_uF h k j x)) cells slots n lv r) : zk_Ab X (zs_W S h) cells slots pc lv (v :: .ref (S.1 k) :: r) :=
  zk_put C k (zs_at hk) hc hin ty0 hty hnm j hjN hlink hfin hd hn hfit (by rw [zs_fs_len]; exact hl) d (zs_setF hk hj hv) hpc kk
theorem zs_iald {N : Nat} {i : Int32} (C : zk_C X M (zs_G S l D sz0) rm E) (k : Nat) (hk : zs_sh[k]? = some (.inl (0, N))) (hin : vp_in i N) (d : decode M.2.1 pc = .ok (.iaload, 1)) (hpc : pc + 1 = n) (kk : zk_Ab X (zs_W S h) cells slots n lv (.int (h.2.1 k i.toNatClampNeg) :: r)) : zk_Ab X (zs_W S h) cells slots pc lv (.int i :: .ref (S.1 k) :: r) := zk_iald C k 0 (zs_at hk) rfl hin d hpc kk
theorem zs_bald {N : Nat} {i : Int32} (C : zk_C X M (zs_G S l D sz0) rm E) (k : Nat) (hk : zs_sh[k]? = some (.inl (1, N))) (hin : vp_in i N) (d : decode M.2.1 pc = .ok (.baload, 1)) (hpc : pc + 1 = n) (kk : zk_Ab X (zs_W S h) cells slots n lv (.int (h.2.1 k i.toNatClampNeg) :: r)) : zk_Ab X (zs_W S h) cells slots pc lv (.int i :: .ref (S.1 k) :: r) := zk_bald C k 1 (zs_at hk) rfl hin d hpc kk
theorem zs_cald {N : Nat} {i : Int32} (C : zk_C X M (zs_G S l D sz0) rm E) (k : Nat) (hk : zs_sh[k]? = some (.inl (2, N))) (hin : vp_in i N) (d : decode M.2.1 pc = .ok (.caload, 1)) (hpc : pc + 1 = n) (kk : zk_Ab X (zs_W S h) cells slots n lv (.int (h.2.1 k i.toNatClampNeg) :: r)) : zk_Ab X (zs_W S h) cells slots pc lv (.int i :: .ref (S.1 k) :: r) := zk_cald C k 2 (zs_at hk) rfl hin d hpc kk
theorem zs_zald {N : Nat} {i : Int32} (C : zk_C X M (zs_G S l D sz0) rm E) (k : Nat) (hk : zs_sh[k]? = some (.inl (3, N))) (hin : vp_in i N) (d : decode M.2.1 pc = .ok (.baload, 1)) (hpc : pc + 1 = n) (kk : zk_Ab X (zs_W S h) cells slots n lv (.int (h.2.1 k i.toNatClampNeg) :: r)) : zk_Ab X (zs_W S h) cells slots pc lv (.int i :: .ref (S.1 k) :: r) := zk_zald C k 3 (zs_at hk) rfl hin d hpc kk
theorem zs_lald {N : Nat} {i : Int32} (C : zk_C X M (zs_G S l D sz0) rm E) (k : Nat) (hk : zs_sh[k]? = some (.inl (4, N))) (hin : vp_in i N) (d : decode M.2.1 pc = .ok (.laload, 1)) (hpc : pc + 1 = n) (kk : zk_Ab X (zs_W S h) cells slots n lv (.long (h.2.2 k i.toNatClampNeg) :: r)) : zk_Ab X (zs_W S h) cells slots pc lv (.int i :: .ref (S.1 k) :: r) := zk_lald C k 4 (zs_at hk) rfl hin d hpc kk
theorem zs_iast {N : Nat} {i x : Int32} (C : zk_C X M (zs_G S l D sz0) rm E) (k : Nat) (hk : zs_sh[k]? = some (.inl (0, N))) (hin : vp_in i N) (d : decode M.2.1 pc = .ok (.iastore, 1)) (hpc : pc + 1 = n) (kk : zk_Ab X (zs_W S (zs_uM h k i.toNatClampNeg x)) cells slots n lv r) : zk_Ab X (zs_W S h) cells slots pc lv (.int x :: .int i :: .ref (S.1 k) :: r) := zk_iast C k 0 (zs_at hk) rfl hin d (zs_setM hk (by decide)) hpc kk
theorem zs_bast {N : Nat} {i x : Int32} (C : zk_C X M (zs_G S l D sz0) rm E) (k : Nat) (hk : zs_sh[k]? = some (.inl (1, N))) (hin : vp_in i N) (d : decode M.2.1 pc = .ok (.bastore, 1)) (hpc : pc + 1 = n) (kk : zk_Ab X (zs_W S (zs_uM h k i.toNatClampNeg (vp_nar .byte x))) cells slots n lv r) : zk_Ab X (zs_W S h) cells slots pc lv (.int x :: .int i :: .ref (S.1 k) :: r) := zk_bast C k 1 (zs_at hk) rfl hin d (zs_setM hk (by decide)) hpc kk
theorem zs_cast {N : Nat} {i x : Int32} (C : zk_C X M (zs_G S l D sz0) rm E) (k : Nat) (hk : zs_sh[k]? = some (.inl (2, N))) (hin : vp_in i N) (d : decode M.2.1 pc = .ok (.castore, 1)) (hpc : pc + 1 = n) (kk : zk_Ab X (zs_W S (zs_uM h k i.toNatClampNeg (vp_nar .char x))) cells slots n lv r) : zk_Ab X (zs_W S h) cells slots pc lv (.int x :: .int i :: .ref (S.1 k) :: r) := zk_cast C k 2 (zs_at hk) rfl hin d (zs_setM hk (by decide)) hpc kk
theorem zs_zast {N : Nat} {i x : Int32} (C : zk_C X M (zs_G S l D sz0) rm E) (k : Nat) (hk : zs_sh[k]? = some (.inl (3, N))) (hin : vp_in i N) (d : decode M.2.1 pc = .ok (.bastore, 1)) (hpc : pc + 1 = n) (kk : zk_Ab X (zs_W S (zs_uM h k i.toNatClampNeg (vp_nar .boolean x))) cells slots n lv r) : zk_Ab X (zs_W S h) cells slots pc lv (.int x :: .int i :: .ref (S.1 k) :: r) := zk_zast C k 3 (zs_at hk) rfl hin d (zs_setM hk (by decide)) hpc kk
theorem zs_last {N : Nat} {i : Int32} {x : Int64} (C : zk_C X M (zs_G S l D sz0) rm E) (k : Nat) (hk : zs_sh[k]? = some (.inl (4, N))) (hin : vp_in i N) (d : decode M.2.1 pc = .ok (.lastore, 1)) (hpc : pc + 1 = n) (kk : zk_Ab X (zs_W S (zs_uL h k i.toNatClampNeg x)) cells slots n lv r) : zk_Ab X (zs_W S h) cells slots pc lv (.long x :: .int i :: .ref (S.1 k) :: r) := zk_last C k 4 (zs_at hk) rfl hin d (zs_setL hk) hpc kk
theorem zs_alen {t N : Nat} {v : Int32} (C : zk_C X M (zs_G S l D sz0) rm E) (k : Nat) (hk : zs_sh[k]? = some (.inl (t, N))) (ht : t < 5) (hv : Int32.ofNat N = v) (d : decode M.2.1 pc = .ok (.arraylength, 1)) (hpc : pc + 1 = n) (kk : zk_Ab X (zs_W S h) cells slots n lv (.int v :: r)) : zk_Ab X (zs_W S h) cells slots pc lv (.ref (S.1 k) :: r) := by
  match t, ht with
  | 0, _ => exact zk_alen C k 0 (zs_at hk) rfl hv d hpc kk
  | 1, _ => exact zk_alen C k 1 (zs_at hk) rfl hv d hpc kk
  | 2, _ => exact zk_alen C k 2 (zs_at hk) rfl hv d hpc kk
  | 3, _ => exact zk_alen C k 3 (zs_at hk) rfl hv d hpc kk
  | 4, _ => exact zk_alen C k 4 (zs_at hk) rfl hv d hpc kk
/-- a call of a method of a cell -/
theorem zs_callV {T : u_T} {N0 ci k : Nat} {tm : List (Nat × Nat)} {N : zk_MT} {rn : Room} {index : Nat} {As rest st : List Value} {Post : Option Value → va_W → Prop} {c1 s1 : Nat} (C : zk_C X M (zs_G S l D sz0) rm E) (hSp : zk_Sp (zs_G S l D sz0) E N rn (.ref (S.1 k) :: As) (zs_W S h) Post) (hM : zk_My N) (hl : Cond.methodLink M.1.cls index N.1 ∈ zk_BW) (hv : zk_Mv N) (hn : As.length = N.2.2.2.2) (hR : rn.frames + 1 ≤ rm.frames ∧ 8 + (N.2.2.1 + 11) + rn.locals ≤ rm.locals) (hf : cells + rn.cells ≤ rm.cells ∧ slots + rn.slots ≤ rm.slots) (hk : zs_sh[k]? = some (.inr (ci, tm))) (hc : zk_cls[ci]? = some (N.1.cls, T, N0)) (hst : st = As.reverse ++ .ref (S.1 k) :: rest) (hrm : (rest.map fun v => v.category).sum ≤ 8) (d : decode M.2.1 pc = .ok (.invokevirtual index, 3)) (hpc : pc + 3 = n) (hc1 : cells + rn.cells = c1) (hs1 : slots + rn.slots = s1) (kk : ∀ (v : Option Value) (w : va_W), Post v w → zk_Ab X w c1 s1 n lv (v.toList ++ rest)) : zk_Ab X (zs_W S h) cells slots pc lv st :=
  zk_callV C hSp hM hl hv hn hR hf k (zs_at hk) hc hst hrm d hpc hc1 hs1 kk
end ZS
def zs_known : Nat → Int32 := zn_sp (zn_sp (zn_sp (zn_sp (fun _ => 0) 0 270 (ze_f 0)) 270 39 (ze_f 1)) 309 53 (ze_f 2)) 362 43 (ze_f 3)
def zs_h0 : zs_H := (zs_f0, fun k => if k = 3 then zs_known else fun _ => 0, fun _ _ => 0)
