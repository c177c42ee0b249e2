/-! What the partial functions of the methods are made of. -/
abbrev zs_H : Type := (Nat → Nat → Int32) × (Nat → Nat → Int32) × (Nat → Nat → Int64)
def zs_uF (h : zs_H) (k j : Nat) (v : Int32) : zs_H := (fun a b => if a = k ∧ b = j then v else h.1 a b, h.2)
def zs_uM (h : zs_H) (k j : Nat) (v : Int32) : zs_H := (h.1, fun a b => if a = k ∧ b = j then v else h.2.1 a b, h.2.2)
def zs_uL (h : zs_H) (k j : Nat) (v : Int64) : zs_H := (h.1, h.2.1, fun a b => if a = k ∧ b = j then v else h.2.2 a b)
/-- the state behind both constructors -/
def zs_f0 : Nat → Nat → Int32 := fun k j => if k = 0 ∧ j = 3 then (-5) else if k = 66 ∧ j = 2 then 1 else if k = 68 ∧ j = 11 then (-1) else if k = 68 ∧ j = 81 then (-1) else if k = 68 ∧ j = 83 then 1 else 0
def ze_len : List Nat := [270, 39, 53, 43, 3, 2, 17, 271, 12, 17, 40, 54, 6, 8, 9, 4, 5, 5, 5, 5, 2, 3]
def ze_byt : List (List Int32) := [[70, 85, 78, 67, 84, 73, 79, 78, 32, 69, 78, 68, 95, 70, 85, 78, 67, 84, 73, 79, 78, 32, 70, 85, 78, 67, 84, 73, 79, 78, 95, 66, 76, 79, 67, 75, 32, 69, 78, 68, 95, 70, 85, 78, 67, 84, 73, 79, 78, 95, 66, 76, 79, 67, 75, 32, 80, 82, 79, 71, 82, 65, 77, 32, 69, 78, 68, 95, 80, 82, 79, 71, 82, 65, 77, 32, 86, 65, 82, 32, 86, 65, 82, 95, 73, 78, 80, 85, 84, 32, 86, 65, 82, 95, 79, 85, 84, 80, 85, 84, 32, 69, 78, 68, 95, 86, 65, 82, 32, 65, 84, 32, 66, 79, 79, 76, 32, 73, 78, 84, 32, 68, 73, 78, 84, 32, 65, 82, 82, 65, 89, 32, 79, 70, 32, 73, 70, 32, 84, 72, 69, 78, 32, 69, 76, 83, 73, 70, 32, 69, 76, 83, 69, 32, 69, 78, 68, 95, 73, 70, 32, 67, 65, 83, 69, 32, 69, 78, 68, 95, 67, 65, 83, 69, 32, 70, 79, 82, 32, 84, 79, 32, 66, 89, 32, 68, 79, 32, 69, 78, 68, 95, 70, 79, 82, 32, 69, 88, 73, 84, 32, 82, 69, 84, 85, 82, 78, 32, 79, 82, 32, 88, 79, 82, 32, 65, 78, 68, 32, 77, 79, 68, 32, 78, 79, 84, 32, 84, 82, 85, 69, 32, 70, 65, 76, 83, 69, 32, 76, 65, 68, 68, 69, 82, 32, 69, 78, 68, 95, 76, 65, 68, 68, 69, 82, 32, 82, 85, 78, 71, 32, 69, 78, 68, 95, 82, 85, 78, 71, 32],
  [84, 79, 78, 32, 84, 79, 70, 32, 84, 80, 32, 67, 84, 85, 32, 67, 84, 68, 32, 82, 95, 84, 82, 73, 71, 32, 70, 95, 84, 82, 73, 71, 32, 83, 82, 32, 82, 83, 32],
  [65, 66, 83, 32, 77, 73, 78, 32, 77, 65, 88, 32, 76, 73, 77, 73, 84, 32, 83, 69, 76, 32, 83, 72, 76, 32, 83, 72, 82, 32, 84, 79, 95, 73, 78, 84, 32, 84, 79, 95, 68, 73, 78, 84, 32, 84, 79, 95, 66, 79, 79, 76, 32],
  [73, 78, 32, 80, 84, 32, 81, 32, 69, 84, 32, 67, 85, 32, 82, 32, 80, 86, 32, 67, 86, 32, 67, 68, 32, 76, 68, 32, 67, 76, 75, 32, 83, 49, 32, 81, 49, 32, 83, 32, 82, 49, 32],
  [73, 81, 77],
  [88, 87],
  [40, 41, 91, 93, 44, 59, 58, 46, 43, 45, 42, 47, 61, 60, 62, 38, 124],
  [32, 70, 85, 78, 67, 84, 73, 79, 78, 32, 69, 78, 68, 95, 70, 85, 78, 67, 84, 73, 79, 78, 32, 70, 85, 78, 67, 84, 73, 79, 78, 95, 66, 76, 79, 67, 75, 32, 69, 78, 68, 95, 70, 85, 78, 67, 84, 73, 79, 78, 95, 66, 76, 79, 67, 75, 32, 80, 82, 79, 71, 82, 65, 77, 32, 69, 78, 68, 95, 80, 82, 79, 71, 82, 65, 77, 32, 86, 65, 82, 32, 86, 65, 82, 95, 73, 78, 80, 85, 84, 32, 86, 65, 82, 95, 79, 85, 84, 80, 85, 84, 32, 69, 78, 68, 95, 86, 65, 82, 32, 65, 84, 32, 66, 79, 79, 76, 32, 73, 78, 84, 32, 68, 73, 78, 84, 32, 65, 82, 82, 65, 89, 32, 79, 70, 32, 73, 70, 32, 84, 72, 69, 78, 32, 69, 76, 83, 73, 70, 32, 69, 76, 83, 69, 32, 69, 78, 68, 95, 73, 70, 32, 67, 65, 83, 69, 32, 69, 78, 68, 95, 67, 65, 83, 69, 32, 70, 79, 82, 32, 84, 79, 32, 66, 89, 32, 68, 79, 32, 69, 78, 68, 95, 70, 79, 82, 32, 69, 88, 73, 84, 32, 82, 69, 84, 85, 82, 78, 32, 79, 82, 32, 88, 79, 82, 32, 65, 78, 68, 32, 77, 79, 68, 32, 78, 79, 84, 32, 84, 82, 85, 69, 32, 70, 65, 76, 83, 69, 32, 76, 65, 68, 68, 69, 82, 32, 69, 78, 68, 95, 76, 65, 68, 68, 69, 82, 32, 82, 85, 78, 71, 32, 69, 78, 68, 95, 82, 85, 78, 71, 32],
  [73, 88, 81, 88, 77, 88, 73, 87, 81, 87, 77, 87],
  [40, 41, 91, 93, 44, 59, 58, 46, 43, 45, 42, 47, 61, 60, 62, 38, 124],
  [32, 84, 79, 78, 32, 84, 79, 70, 32, 84, 80, 32, 67, 84, 85, 32, 67, 84, 68, 32, 82, 95, 84, 82, 73, 71, 32, 70, 95, 84, 82, 73, 71, 32, 83, 82, 32, 82, 83, 32],
  [32, 65, 66, 83, 32, 77, 73, 78, 32, 77, 65, 88, 32, 76, 73, 77, 73, 84, 32, 83, 69, 76, 32, 83, 72, 76, 32, 83, 72, 82, 32, 84, 79, 95, 73, 78, 84, 32, 84, 79, 95, 68, 73, 78, 84, 32, 84, 79, 95, 66, 79, 79, 76, 32],
  [73, 78, 32, 80, 84, 32],
  [67, 85, 32, 82, 32, 80, 86, 32],
  [67, 68, 32, 76, 68, 32, 80, 86, 32],
  [67, 76, 75, 32],
  [83, 49, 32, 82, 32],
  [83, 32, 82, 49, 32],
  [81, 32, 69, 84, 32],
  [81, 32, 67, 86, 32],
  [81, 32],
  [81, 49, 32]]
abbrev ze_n (i : Nat) : Nat := ze_len.getD i 0
abbrev ze_f (i : Nat) : Nat → Int32 := fun j => (ze_byt.getD i []).getD j 0
def zd_min (x y : Int32) : Int32 := if y < x then y else x
def zd_max (x y : Int32) : Int32 := if x < y then y else x
def zd_abs (x : Int32) : Int32 := if 0 ≤ x then x else 0 - x
def zd_minl (x y : Int64) : Int64 := if y < x then y else x
def zd_maxl (x y : Int64) : Int64 := if y < x then x else y
def zd_absl (x : Int64) : Int64 := if 0 < x then x else -x
/-- an index is there -/
abbrev zd_in (i : Int32) (n : Nat) : Prop := ¬ i < 0 ∧ i.toNatClampNeg < n
def zd_it {α : Type} (F : α → α) (b : α) : Nat → α
  | 0 => b
  | n + 1 => F (zd_it F b n)
/-- turns of a loop: more than there are -/
def zF : Nat := 18446744073709551616
def zd_B {α β : Type} (o : Option (α × zs_H)) (K : α → zs_H → Option β) : Option β := match o with
  | some (a, h) => K a h
  | none => none
theorem zd_Be {α β : Type} {o : Option (α × zs_H)} {K : α → zs_H → Option β} {r : β} (e : zd_B o K = some r) : ∃ a h, o = some (a, h) ∧ K a h = some r := by
  match o, e with
  | some (a, h), e => exact ⟨a, h, rfl, e⟩
theorem zd_b {α β : Type} {o : Option α} {K : α → Option β} {r : β} (e : o.bind K = some r) : ∃ a, o = some a ∧ K a = some r := by
  match o, e with
  | some a, e => exact ⟨a, rfl, e⟩
theorem zd_g {α : Type} {c : Prop} [Decidable c] {A : Option α} {r : α} (e : (if c then A else none) = some r) : c ∧ A = some r := by
  by_cases h : c
  · rw [if_pos h] at e; exact ⟨h, e⟩
  · rw [if_neg h] at e; cases e
theorem zd_gn {α : Type} {c : Prop} [Decidable c] {A : Option α} {r : α} (e : (if c then none else A) = some r) : ¬ c ∧ A = some r := by
  by_cases h : c
  · rw [if_pos h] at e; cases e
  · rw [if_neg h] at e; exact ⟨h, e⟩
theorem zd_pos {α : Type} {c : Prop} [Decidable c] {A B r : α} (h : c) (e : (if c then A else B) = r) : A = r := (if_pos h).symm.trans e
theorem zd_neg {α : Type} {c : Prop} [Decidable c] {A B r : α} (h : ¬ c) (e : (if c then A else B) = r) : B = r := (if_neg h).symm.trans e
/-- PlantKeeper$Parser.LEVEL -/
def zt_0 : List Int32 := [0, 1, 2, 3, 3, 4, 4, 4, 4, 5, 5, 6, 6, 6]
/-- PlantKeeper$Plan.STANDARD_VARIABLES -/
def zt_1 : List Int32 := [0, 0, 1, 0, 0, 0, 1, 1, 2, 1, 0, 2, 2, 0, 2, 0, 3, 2, 2, 3, 1, 0, 1, 0, 0, 1, 1, 1, 2, 1, 1, 2, 2, 0, 2, 1, 3, 2, 2, 3, 2, 0, 1, 0, 0, 2, 1, 1, 2, 1, 2, 2, 2, 0, 2, 2, 3, 2, 2, 3, 3, 4, 1, 0, 0, 3, 5, 1, 0, 1, 3, 6, 1, 1, 2, 3, 2, 2, 0, 3, 3, 7, 2, 1, 4, 4, 8, 1, 0, 0, 4, 9, 1, 0, 1, 4, 6, 1, 1, 2, 4, 2, 2, 0, 3, 4, 7, 2, 1, 4, 5, 10, 1, 0, 0, 5, 2, 2, 0, 1, 6, 10, 1, 0, 0, 6, 2, 2, 0, 1, 7, 11, 1, 0, 0, 7, 5, 1, 0, 1, 7, 12, 2, 0, 2, 8, 13, 1, 0, 0, 8, 14, 1, 0, 1, 8, 12, 2, 0, 2]
/-- PlantKeeper$Plan.STANDARD_CELLS -/
def zt_2 : List Int32 := [6, 6, 6, 6, 6, 3, 3, 3, 3]
/-- PlantKeeper.AREA_START -/
def zt_3 : List Int32 := [0, 256, 512, 768, 832, 896, 960]
/-- PlantKeeper$Code.ARGUMENTS -/
def zt_4 : List Int32 := [1, 2, 2, 3, 3, 2, 2, 1, 1, 1]
/-- PlantKeeper$Code.RISE -/
def zt_5 : List Int32 := [1, 1, (-1), 0, (-2), 1, (-1), (-1), 0, (-2), 0, (-1), 0, 0, 0, 0, 0, 0, 0]
/-- PlantKeeperModel.TAKEN -/
def zt_6 : List Int32 := [0, 0, 1, 1, 2, 0, 1, 2, 1, 3, 0, 1, 0, 0, 0, 0, 0, 0, 0]
/-- PlantKeeperModel.LEFT -/
def zt_7 : List Int32 := [1, 1, 0, 1, 0, 1, 0, 1, 1, 1, 0, 0, 0, 0, 0, 0, 0, 0, 0]
/-- a stretch of an int array, copied within it -/
def zs_cp (h : zs_H) (k sp dp n : Nat) : zs_H := (h.1, fun a b => if a = k then va_cpy (h.2.1 k) (h.2.1 k) sp dp n b else h.2.1 a b, h.2.2)
abbrev zs_cpok (sp dp n : Int32) (N : Nat) : Prop := ¬ sp < 0 ∧ ¬ dp < 0 ∧ ¬ n < 0 ∧ sp.toNatClampNeg + n.toNatClampNeg ≤ N ∧ dp.toNatClampNeg + n.toNatClampNeg ≤ N
