/-! The machine: what code does, by T. -/
/-- cells, the stack (its top first), steps -/
abbrev yE : Type := (Nat → Int32) × List Int32 × Nat
def yE_u (c : Nat → Int32) (j : Nat) (v : Int32) : Nat → Int32 := fun k => if k = j then v else c k
/-- an index is none of an array's -/
abbrev yE_bad (i : yI) (x : Int32) : Prop := x.toInt64 - i.2.2.1.toInt64 < 0 ∨ ¬ x.toInt64 - i.2.2.1.toInt64 < i.2.2.2.toInt64
def yE_ix (i : yI) (x : Int32) : Nat := (x.toInt64 - i.2.2.1.toInt64).toInt32.toNatClampNeg
/-- one instruction of straight code; 0: it goes on; 3, 4: faults; 5: never -/
def yE_1 (pl : Nat → Nat) (tm : Nat → Nat → (Nat → Int32) → Nat → Int32) (U : Nat → Nat → yE → yE × Nat) (base : Nat) (i : yI) (s : yE) : yE × Nat :=
  if i.1 = 0 then ((s.1, i.2.1 :: s.2.1, s.2.2 + 1), 0)
  else if i.1 = 1 then ((s.1, s.1 (base + i.2.1.toNatClampNeg) :: s.2.1, s.2.2 + 1), 0)
  else if i.1 = 2 then (match s.2.1 with
    | x :: S => ((yE_u s.1 (base + i.2.1.toNatClampNeg) x, S, s.2.2 + 1), 0)
    | [] => (s, 5))
  else if i.1 = 3 then (match s.2.1 with
    | x :: S => if yE_bad i x then ((s.1, S, s.2.2 + 1), 4) else ((s.1, s.1 (base + i.2.1.toNatClampNeg + yE_ix i x) :: S, s.2.2 + 1), 0)
    | [] => (s, 5))
  else if i.1 = 4 then (match s.2.1 with
    | y :: x :: S => if yE_bad i x then ((s.1, S, s.2.2 + 1), 4) else ((yE_u s.1 (base + i.2.1.toNatClampNeg + yE_ix i x) y, S, s.2.2 + 1), 0)
    | _ => (s, 5))
  else if i.1 = 5 then ((s.1, s.1 (pl i.2.1.toNatClampNeg + i.2.2.1.toNatClampNeg) :: s.2.1, s.2.2 + 1), 0)
  else if i.1 = 6 then (match s.2.1 with
    | x :: S => ((yE_u s.1 (pl i.2.1.toNatClampNeg + i.2.2.1.toNatClampNeg) x, S, s.2.2 + 1), 0)
    | [] => (s, 5))
  else if i.1 = 7 then (match s.2.1 with
    | y :: x :: S => if f_Cd_isByZero i.2.1 y = 0 then (match f_Cd_two i.2.1 x y with
      | some v => ((s.1, v :: S, s.2.2 + 1), 0)
      | none => (s, 5)) else ((s.1, S, s.2.2 + 1), 3)
    | _ => (s, 5))
  else if i.1 = 8 then (match s.2.1 with
    | x :: S => ((s.1, f_Cd_one i.2.1 x :: S, s.2.2 + 1), 0)
    | [] => (s, 5))
  else if i.1 = 9 then (match s.2.1 with
    | y :: x :: z :: S => ((s.1, (if z = 0 then x else y) :: S, s.2.2 + 1), 0)
    | _ => (s, 5))
  else if i.1 = 12 then ((yE_u s.1 (base + i.2.1.toNatClampNeg) i.2.2.1, s.2.1, s.2.2 + 1), 0)
  else if i.1 = 15 then U i.2.1.toNatClampNeg (base + i.2.2.1.toNatClampNeg) (s.1, s.2.1, s.2.2 + 1)
  else if i.1 = 16 then U i.2.1.toNatClampNeg (pl i.2.1.toNatClampNeg) (s.1, s.2.1, s.2.2 + 1)
  else ((tm i.2.1.toNatClampNeg (base + i.2.2.1.toNatClampNeg) s.1, s.2.1, s.2.2 + 1), 0)
section YEX
variable (pl : Nat → Nat) (tm : Nat → Nat → (Nat → Int32) → Nat → Int32) (U : Nat → Nat → yE → yE × Nat) (base : Nat)
def yE_L : List yI → yE → yE × Nat
  | [], s => (s, 0)
  | i :: L, s => if (yE_1 pl tm U base i s).2 = 0 then yE_L L (yE_1 pl tm U base i s).1 else yE_1 pl tm U base i s
/-- rounds of a loop: from NEXT on -/
def yE_l (body : yE → yE × Nat) (cell : Nat) : Nat → yE → yE × Nat
  | 0, s => (s, 5)
  | f + 1, s => if s.1 cell = 0 then ((s.1, s.2.1, s.2.2 + 1), 0) else
    if (body (yE_u s.1 cell (s.1 cell - 1), s.2.1, s.2.2 + 1)).2 = 0 then yE_l body cell f ((body (yE_u s.1 cell (s.1 cell - 1), s.2.1, s.2.2 + 1)).1.1, (body (yE_u s.1 cell (s.1 cell - 1), s.2.1, s.2.2 + 1)).1.2.1, (body (yE_u s.1 cell (s.1 cell - 1), s.2.1, s.2.2 + 1)).1.2.2 + 1)
    else if (body (yE_u s.1 cell (s.1 cell - 1), s.2.1, s.2.2 + 1)).2 = 1 then ((body (yE_u s.1 cell (s.1 cell - 1), s.2.1, s.2.2 + 1)).1, 0)
    else body (yE_u s.1 cell (s.1 cell - 1), s.2.1, s.2.2 + 1)
/-- 0: through; 1: out of the loop; 2: out of the unit -/
def yE_T : ys → yE → yE × Nat
  | .leaf, s => (s, 0)
  | .inner k p _ l r, s =>
    if k = 0 then (if (yE_L pl tm U base p.1 s).2 = 0 then yE_T r (yE_L pl tm U base p.1 s).1 else yE_L pl tm U base p.1 s)
    else if k = 1 then (if (yE_T l s).2 = 0 then yE_T r (yE_T l s).1 else yE_T l s)
    else if k = 2 then (if (yE_l (yE_T l) (base + p.2.1.toNatClampNeg) (p.2.2.toNatClampNeg + 1) (yE_u s.1 (base + p.2.1.toNatClampNeg) p.2.2, s.2.1, s.2.2 + 1)).2 = 0 then yE_T r (yE_l (yE_T l) (base + p.2.1.toNatClampNeg) (p.2.2.toNatClampNeg + 1) (yE_u s.1 (base + p.2.1.toNatClampNeg) p.2.2, s.2.1, s.2.2 + 1)).1 else yE_l (yE_T l) (base + p.2.1.toNatClampNeg) (p.2.2.toNatClampNeg + 1) (yE_u s.1 (base + p.2.1.toNatClampNeg) p.2.2, s.2.1, s.2.2 + 1))
    else if k = 3 then ((s.1, s.2.1, s.2.2 + 1), 1)
    else if k = 4 then ((s.1, s.2.1, s.2.2 + 1), 2)
    else if k = 5 then (if (yE_L pl tm U base p.1 s).2 = 0 then (match (yE_L pl tm U base p.1 s).1.2.1 with
      | y :: S => if y = 0 then yE_T r ((yE_L pl tm U base p.1 s).1.1, S, (yE_L pl tm U base p.1 s).1.2.2 + 1) else (if (yE_T l ((yE_L pl tm U base p.1 s).1.1, S, (yE_L pl tm U base p.1 s).1.2.2 + 1)).2 = 0 then (if yz_f r = true then yE_T l ((yE_L pl tm U base p.1 s).1.1, S, (yE_L pl tm U base p.1 s).1.2.2 + 1) else (((yE_T l ((yE_L pl tm U base p.1 s).1.1, S, (yE_L pl tm U base p.1 s).1.2.2 + 1)).1.1, (yE_T l ((yE_L pl tm U base p.1 s).1.1, S, (yE_L pl tm U base p.1 s).1.2.2 + 1)).1.2.1, (yE_T l ((yE_L pl tm U base p.1 s).1.1, S, (yE_L pl tm U base p.1 s).1.2.2 + 1)).1.2.2 + 1), 0)) else yE_T l ((yE_L pl tm U base p.1 s).1.1, S, (yE_L pl tm U base p.1 s).1.2.2 + 1))
      | [] => (s, 5)) else yE_L pl tm U base p.1 s)
    else (if (yE_T l s).2 = 0 then yE_T r (yE_T l s).1 else yE_T l s)
end YEX
/-- units below b -/
def yE_U (T : Nat → ys) (pl : Nat → Nat) (tm : Nat → Nat → (Nat → Int32) → Nat → Int32) : Nat → Nat → Nat → yE → yE × Nat
  | 0, _, _, s => (s, 5)
  | b + 1, u, base, s => if u = b then ((yE_T pl tm (yE_U T pl tm b) base (T b) s).1, if (yE_T pl tm (yE_U T pl tm b) base (T b) s).2 = 2 then 0 else (yE_T pl tm (yE_U T pl tm b) base (T b) s).2) else yE_U T pl tm b u base s
/-- a stack in an array: its top last -/
def yE_k (A : Nat → Int32) : List Int32 → Prop
  | [] => True
  | x :: S => A S.length = x ∧ yE_k A S
theorem yE_kf {A B : Nat → Int32} : ∀ {S : List Int32}, (∀ j, j < S.length → B j = A j) → yE_k A S → yE_k B S := by
  intro S
  induction S with
  | nil => intro _ _; trivial
  | cons x S ih =>
    intro h ⟨h1, h2⟩
    exact ⟨(h _ (by rw [List.length_cons]; omega)).trans h1, ih (fun j hj => h j (by rw [List.length_cons]; omega)) h2⟩
theorem yE_kp {A B : Nat → Int32} {S : List Int32} {v : Int32} (h : yE_k A S) (h1 : B S.length = v) (h2 : ∀ j, ¬ j = S.length → B j = A j) : yE_k B (v :: S) := ⟨h1, yE_kf (fun j hj => h2 j (by omega)) h⟩
