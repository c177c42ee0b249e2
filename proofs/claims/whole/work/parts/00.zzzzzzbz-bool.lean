/-! BOOLs: which cells hold them, and what code leaves on the stack. -/
/-- a cell of standard block B that holds a BOOL -/
def yq_sB (B t : Nat) : Prop := ∃ v, v < 32 ∧ zj_sv B ≤ v ∧ v < zj_sv (B + 1) ∧ zj_t v 4 = nI t ∧ zj_t v 3 = 0
/-- the cells of block b that hold BOOLs; LD: the blocks whose own cells do -/
def yq_B (LD : Nat → Prop) (h : zs_H) : Nat → Nat → Nat → Prop
  | 0, _, _ => False
  | n + 1, b, j => ((h.2.1 21) (9 + b) = 3 ∧ j < 768) ∨ (LD b ∧ ∃ y x, (h.2.1 25) (9 + b) = nI y ∧ (h.2.1 26) (9 + b) = nI x ∧ y ≤ j ∧ j < x ∧ x < 100000) ∨ ∃ f e v x s, ((h.2.1 23) (9 + b) = nI f ∧ (h.2.1 24) (9 + b) = nI e ∧ f ≤ 32 + v ∧ 32 + v < e ∧ e < 10000) ∧ ((h.2.1 32) (32 + v) = nI x ∧ x < 100000) ∧ ((h.2.1 34) (32 + v) = nI s ∧ s < 100000) ∧ (x ≤ j ∧ j < x + s) ∧ ((((h.2.1 30) (32 + v) = -1 ∨ (h.2.1 30) (32 + v) = -2) ∧ (h.2.1 31) (32 + v) = 0) ∨ ∃ B, ((h.2.1 30) (32 + v) = nI B ∧ B < 700) ∧ ((B < 9 ∧ yq_sB B (j - x)) ∨ (9 ≤ B ∧ B < 9 + b ∧ yq_B LD h n (B - 9) (j - x))))
/-- .. of block u; 1000 + u: all cells of block u -/
def yq_b (LD : Nat → Prop) (h : zs_H) (u j : Nat) : Prop := if u < 1000 then yq_B LD h (u + 1) u j else ∃ s : Nat, (h.2.1 26) (9 + (u - 1000)) = nI s ∧ s < 100000 ∧ j < s
theorem yq_bd {LD : Nat → Prop} {h : zs_H} {u j : Nat} (hu : u < 1000) : yq_b LD h u j ↔ yq_B LD h (u + 1) u j := by
  unfold yq_b
  rw [if_pos hu]
/-- whether TWO leaves a BOOL -/
def yo_2 (k : Int32) (p q : Prop) : Prop := (13 ≤ k ∧ k ≤ 18) ∨ ((k = 10 ∨ k = 11 ∨ k = 12) ∧ p ∧ q)
section YOW
variable (Bc : Nat → Nat → Prop) (b : Nat)
/-- one instruction: what must hold before, so that K holds of the stack behind it; of each number it is said whether it is a BOOL -/
def yo_w (i : yI) (K : List Prop → Prop) (st : List Prop) : Prop :=
  if i.1 = 0 then K ((i.2.1 = 0 ∨ i.2.1 = 1) :: st)
  else if i.1 = 1 then K (Bc b i.2.1.toNatClampNeg :: st)
  else if i.1 = 2 then (match st with
    | p :: S => (Bc b i.2.1.toNatClampNeg → p) ∧ K S
    | [] => False)
  else if i.1 = 3 then (match st with
    | _ :: S => K ((∀ j : Nat, j < i.2.2.2.toNatClampNeg → Bc b (i.2.1.toNatClampNeg + j)) :: S)
    | [] => False)
  else if i.1 = 4 then (match st with
    | p :: _ :: S => (∀ j : Nat, j < i.2.2.2.toNatClampNeg → Bc b (i.2.1.toNatClampNeg + j) → p) ∧ K S
    | _ => False)
  else if i.1 = 5 then K (Bc i.2.1.toNatClampNeg i.2.2.1.toNatClampNeg :: st)
  else if i.1 = 6 then (match st with
    | p :: S => (Bc i.2.1.toNatClampNeg i.2.2.1.toNatClampNeg → p) ∧ K S
    | [] => False)
  else if i.1 = 7 then (match st with
    | q :: p :: S => K (yo_2 i.2.1 p q :: S)
    | _ => False)
  else if i.1 = 8 then (match st with
    | _ :: S => K ((i.2.1 = 2 ∨ i.2.1 = 7) :: S)
    | [] => False)
  else if i.1 = 9 then (match st with
    | q :: p :: _ :: S => K ((p ∧ q) :: S)
    | _ => False)
  else if i.1 = 15 then (∀ j : Nat, Bc (1000 + i.2.1.toNatClampNeg) j → (Bc b (i.2.2.1.toNatClampNeg + j) ↔ Bc i.2.1.toNatClampNeg j)) ∧ K st
  else if i.1 = 17 then (∀ j : Nat, j < (zt_2.getD i.2.1.toNatClampNeg 0).toNatClampNeg → (Bc b (i.2.2.1.toNatClampNeg + j) ↔ yq_sB i.2.1.toNatClampNeg j)) ∧ K st
  else K st
def yo_W : List yI → (List Prop → Prop) → List Prop → Prop
  | [], K => K
  | i :: L, K => yo_w Bc b i (yo_W L K)
theorem yo_Wap : ∀ (A B : List yI) (K : List Prop → Prop) (st : List Prop), yo_W Bc b (A ++ B) K st = yo_W Bc b A (yo_W Bc b B K) st := by
  intro A
  induction A with
  | nil => intro B K st; rfl
  | cons i A ih =>
    intro B K st
    show yo_w Bc b i (yo_W Bc b (A ++ B) K) st = yo_w Bc b i (yo_W Bc b A (yo_W Bc b B K)) st
    rw [show yo_W Bc b (A ++ B) K = yo_W Bc b A (yo_W Bc b B K) from funext fun s => ih B K s]
/-- code that leaves one number, a BOOL if φ -/
def yo_E (φ : Prop) (L : List yI) : Prop := ∀ (K : List Prop → Prop) (st : List Prop), (∀ p : Prop, (φ → p) → K (p :: st)) → yo_W Bc b L K st
end YOW
section YOE
variable {Bc : Nat → Nat → Prop} {b : Nat} {φ ψ χ ω : Prop} {La Lb Lc L : List yI} {i : yI}
theorem yo_Em (h : ψ → φ) (A : yo_E Bc b φ L) : yo_E Bc b ψ L := fun K st H => A K st fun p hp => H p fun z => hp (h z)
theorem yo_E0 {v : Int32} (h : φ → v = 0 ∨ v = 1) : yo_E Bc b φ [(0, v, 0, 0)] := fun K st H => by
  show K ((v = 0 ∨ v = 1) :: st)
  exact H _ h
theorem yo_E1 {x : Nat} (hx : x < 2147483648) (h : φ → Bc b x) : yo_E Bc b φ [(1, nI x, 0, 0)] := fun K st H => by
  show K (Bc b (nI x).toNatClampNeg :: st)
  rw [nI_clamp hx]
  exact H _ h
theorem yo_E3 {x s : Nat} {lo le : Int32} (hx : x < 2147483648) (hs : s < 2147483648) (hl : le = nI s) (A : yo_E Bc b ψ La) (h : φ → ∀ j, j < s → Bc b (x + j)) : yo_E Bc b φ (La ++ [(3, nI x, lo, le)]) := fun K st H => by
  subst hl
  rw [yo_Wap]
  refine A _ _ fun p _ => ?_
  show K ((∀ j : Nat, j < (nI s).toNatClampNeg → Bc b ((nI x).toNatClampNeg + j)) :: st)
  rw [nI_clamp hx, nI_clamp hs]
  exact H _ h
theorem yo_E8 {k : Int32} (A : yo_E Bc b ψ La) (h : φ → k = 2 ∨ k = 7) : yo_E Bc b φ (La ++ [(8, k, 0, 0)]) := fun K st H => by
  rw [yo_Wap]
  refine A _ _ fun p _ => ?_
  show K ((k = 2 ∨ k = 7) :: st)
  exact H _ h
theorem yo_E7 {k : Int32} (A : yo_E Bc b ψ La) (B : yo_E Bc b χ Lb) (h : φ → (13 ≤ k ∧ k ≤ 18) ∨ ((k = 10 ∨ k = 11 ∨ k = 12) ∧ ψ ∧ χ)) : yo_E Bc b φ (La ++ (Lb ++ [(7, k, 0, 0)])) := fun K st H => by
  rw [yo_Wap]
  refine A _ _ fun p hp => ?_
  rw [yo_Wap]
  refine B _ _ fun q hq => ?_
  show K (yo_2 k p q :: st)
  refine H _ fun z => ?_
  rcases h z with w | ⟨w1, w2, w3⟩
  · exact .inl w
  · exact .inr ⟨w1, hp w2, hq w3⟩
theorem yo_E9 (A : yo_E Bc b ω La) (B : yo_E Bc b ψ Lb) (D : yo_E Bc b χ Lc) (h : φ → ψ ∧ χ) : yo_E Bc b φ (La ++ (Lb ++ (Lc ++ [(9, 0, 0, 0)]))) := fun K st H => by
  rw [yo_Wap]
  refine A _ _ fun p0 _ => ?_
  rw [yo_Wap]
  refine B _ _ fun p hp => ?_
  rw [yo_Wap]
  refine D _ _ fun q hq => ?_
  show K ((p ∧ q) :: st)
  exact H _ fun z => ⟨hp (h z).1, hq (h z).2⟩
end YOE
