/-! The core: a judgement over worlds (zk_Ab), with one row an instruction. -/
abbrev zkj_T : Type := Program × Launch × Env × Room × State × MethodId × Array Value × List Frame × Method × Code × (State → Prop) × va_G × List vw_C × List (ClassId × FieldType) × Nat × Nat
def zk_A (sz0 : Nat) : Nat → Prop := fun q => sz0 ≤ q
/-- from every heap that holds the world ws, with these locals and this operand stack at pc, the run goes on to its end -/
def zk_Ab (X : zkj_T) (ws : va_W) (cells slots pc : Nat) (lv : List (Nat × Value)) (st : List Value) : Prop := match X with
  | (p, l, e, R, s, m, args, below, meth, c, Q, D, cl, _, sz0, nL) => ∀ (H : Heap) (locs : List Loc) (ls : Array Slot), va_P D cl ws H → va_D (zk_A sz0) ws → va_S (zk_A sz0) s.heap H locs → lv_has ls nL lv → W p l e R s m args below meth c H locs cells slots Q (F0 m pc ls st)
/-- the environment (tables that nobody writes) stays where the old cells stay -/
def zk_Em (E : Nat → State → Prop) : Prop := ∀ (sz0 : Nat) (u U : State), u.WarmedH U.vm → (∀ a : Nat, a < sz0 → U.heap[a]? = u.heap[a]?) → E sz0 u → E sz0 U
/-- a method: its name, bytes, locals, kind of answer, number of parameters -/
abbrev zk_MT : Type := MethodName × ByteArray × Nat × Option FieldType × Nat
/-- the launch, the classes' numbers, the array classes, where the law's own cells begin -/
abbrev zk_GT : Type := Launch × va_G × List vw_C × List (ClassId × FieldType) × Nat
/-- what holds of a method's run from its entry on -/
def zk_C (X : zkj_T) (M : zk_MT) (G : zk_GT) (rm : Room) (E : Nat → State → Prop) : Prop := match X with
  | (p, l, _, R, s, m, args, _, meth, c, _, D, cl, tys, sz0, nL) => (p.tables.exec = Jvm.exec ∧ c.code = M.2.1 ∧ c.maxLocals = nL ∧ s.vm.findClass M.1.cls = some m.cls ∧ ∀ w ∈ zk_BW, w.before args s = true) ∧ va_K D cl tys s ∧ sz0 ≤ s.heap.size ∧ E sz0 s ∧ zk_Em E ∧ (l, D, cl, tys, sz0) = G ∧ nL = M.2.2.1 ∧ R = rm ∧ (M.1.name = "<init>" → meth.name = "<init>")
section ZK1
variable {X : zkj_T} {M : zk_MT} {G : zk_GT} {rm : Room} {E : Nat → State → Prop} {ws : va_W} {cells slots pc n : Nat} {lv lv' : List (Nat × Value)} {r : List Value}
/-- fewer locals, in another order -/
theorem zk_lvs (ks : List Nat) (hl : lv_pick lv ks = lv') (k : zk_Ab X ws cells slots pc lv' r) : zk_Ab X ws cells slots pc lv r := by
  obtain ⟨p, l, e, R, s, m, args, below, meth, c, Q, D, cl, tys, sz0, nL⟩ := X
  exact fun H locs ls hP hD hS h => k H locs ls hP hD hS (lv_sub h ks hl)
/-- the number on top gets a name -/
theorem zk_topi {x : Int32} (k : ∀ y : Int32, y = x → zk_Ab X ws cells slots pc lv (.int y :: r)) : zk_Ab X ws cells slots pc lv (.int x :: r) := k x rfl
theorem zk_topl {x : Int64} (k : ∀ y : Int64, y = x → zk_Ab X ws cells slots pc lv (.long y :: r)) : zk_Ab X ws cells slots pc lv (.long x :: r) := k x rfl
theorem zk_widen {c1 s1 : Nat} (h1 : cells ≤ c1) (h2 : slots ≤ s1) (k : zk_Ab X ws c1 s1 pc lv r) : zk_Ab X ws cells slots pc lv r := by
  obtain ⟨p, l, e, R, s, m, args, below, meth, c, Q, D, cl, tys, sz0, nL⟩ := X
  exact fun H locs ls hP hD hS h => W.widen h1 h2 (k H locs ls hP hD hS h)
theorem zk_iconst {z : Int} {v : Int32} (C : zk_C X M G rm E) (d : decode M.2.1 pc = .ok (.iconst z, 1)) (hv : Int32.ofInt z = v) (hpc : pc + 1 = n) (k : zk_Ab X ws cells slots n lv (.int v :: r)) : zk_Ab X ws cells slots pc lv (r) := by
  obtain ⟨p, l, e, R, s, m, args, below, meth, c, Q, D, cl, tys, sz0, nL⟩ := X
  obtain ⟨⟨hx, hb, hml, hown, hts⟩, hK, hsz, hE, hEm, hG9, hnL9, hrm9, hin0⟩ := C; subst hG9; subst hnL9; subst hrm9
  subst hpc
  exact fun H locs ls hP hD hS h => lv_iconst hx hb d hv (k H locs ls hP hD hS h)
theorem zk_bipush {z : Int} {v : Int32} (C : zk_C X M G rm E) (d : decode M.2.1 pc = .ok (.bipush z, 2)) (hv : (Int8.ofInt z).toInt32 = v) (hpc : pc + 2 = n) (k : zk_Ab X ws cells slots n lv (.int v :: r)) : zk_Ab X ws cells slots pc lv (r) := by
  obtain ⟨p, l, e, R, s, m, args, below, meth, c, Q, D, cl, tys, sz0, nL⟩ := X
  obtain ⟨⟨hx, hb, hml, hown, hts⟩, hK, hsz, hE, hEm, hG9, hnL9, hrm9, hin0⟩ := C; subst hG9; subst hnL9; subst hrm9
  subst hpc
  exact fun H locs ls hP hD hS h => lv_bipush hx hb d hv (k H locs ls hP hD hS h)
theorem zk_sipush {z : Int} {v : Int32} (C : zk_C X M G rm E) (d : decode M.2.1 pc = .ok (.sipush z, 3)) (hv : (Int16.ofInt z).toInt32 = v) (hpc : pc + 3 = n) (k : zk_Ab X ws cells slots n lv (.int v :: r)) : zk_Ab X ws cells slots pc lv (r) := by
  obtain ⟨p, l, e, R, s, m, args, below, meth, c, Q, D, cl, tys, sz0, nL⟩ := X
  obtain ⟨⟨hx, hb, hml, hown, hts⟩, hK, hsz, hE, hEm, hG9, hnL9, hrm9, hin0⟩ := C; subst hG9; subst hnL9; subst hrm9
  subst hpc
  exact fun H locs ls hP hD hS h => lv_sipush hx hb d hv (k H locs ls hP hD hS h)
theorem zk_lconst {z : Fin 2} {v : Int64} (C : zk_C X M G rm E) (d : decode M.2.1 pc = .ok (.lconst z, 1)) (hv : Int64.ofNat (z : Nat) = v) (hpc : pc + 1 = n) (k : zk_Ab X ws cells slots n lv (.long v :: r)) : zk_Ab X ws cells slots pc lv (r) := by
  obtain ⟨p, l, e, R, s, m, args, below, meth, c, Q, D, cl, tys, sz0, nL⟩ := X
  obtain ⟨⟨hx, hb, hml, hown, hts⟩, hK, hsz, hE, hEm, hG9, hnL9, hrm9, hin0⟩ := C; subst hG9; subst hnL9; subst hrm9
  subst hpc
  exact fun H locs ls hP hD hS h => lv_lconst hx hb d hv (k H locs ls hP hD hS h)
theorem zk_null  (C : zk_C X M G rm E) (d : decode M.2.1 pc = .ok (.aconst_null, 1)) (hpc : pc + 1 = n) (k : zk_Ab X ws cells slots n lv (.null :: r)) : zk_Ab X ws cells slots pc lv (r) := by
  obtain ⟨p, l, e, R, s, m, args, below, meth, c, Q, D, cl, tys, sz0, nL⟩ := X
  obtain ⟨⟨hx, hb, hml, hown, hts⟩, hK, hsz, hE, hEm, hG9, hnL9, hrm9, hin0⟩ := C; subst hG9; subst hnL9; subst hrm9
  subst hpc
  exact fun H locs ls hP hD hS h => lv_null hx hb d (k H locs ls hP hD hS h)
theorem zk_iload_n {kf : Fin 4} {i : Nat} {x : Int32} (C : zk_C X M G rm E) (d : decode M.2.1 pc = .ok (.iload_n kf, 1)) (hi : (kf : Nat) = i) (q : Nat) (hq : lv[q]? = some (i, .int x)) (hpc : pc + 1 = n) (k : zk_Ab X ws cells slots n lv (.int x :: r)) : zk_Ab X ws cells slots pc lv (r) := by
  obtain ⟨p, l, e, R, s, m, args, below, meth, c, Q, D, cl, tys, sz0, nL⟩ := X
  obtain ⟨⟨hx, hb, hml, hown, hts⟩, hK, hsz, hE, hEm, hG9, hnL9, hrm9, hin0⟩ := C; subst hG9; subst hnL9; subst hrm9
  subst hpc
  exact fun H locs ls hP hD hS h => lv_iload_n hx hb d hi (lv_at h q hq) (k H locs ls hP hD hS h)
theorem zk_iload {i : Nat} {x : Int32} (C : zk_C X M G rm E) (d : decode M.2.1 pc = .ok (.iload i, 2)) (q : Nat) (hq : lv[q]? = some (i, .int x)) (hpc : pc + 2 = n) (k : zk_Ab X ws cells slots n lv (.int x :: r)) : zk_Ab X ws cells slots pc lv (r) := by
  obtain ⟨p, l, e, R, s, m, args, below, meth, c, Q, D, cl, tys, sz0, nL⟩ := X
  obtain ⟨⟨hx, hb, hml, hown, hts⟩, hK, hsz, hE, hEm, hG9, hnL9, hrm9, hin0⟩ := C; subst hG9; subst hnL9; subst hrm9
  subst hpc
  exact fun H locs ls hP hD hS h => lv_iload hx hb d (lv_at h q hq) (k H locs ls hP hD hS h)
theorem zk_lload_n {kf : Fin 4} {i : Nat} {x : Int64} (C : zk_C X M G rm E) (d : decode M.2.1 pc = .ok (.lload_n kf, 1)) (hi : (kf : Nat) = i) (q : Nat) (hq : lv[q]? = some (i, .long x)) (hpc : pc + 1 = n) (k : zk_Ab X ws cells slots n lv (.long x :: r)) : zk_Ab X ws cells slots pc lv (r) := by
  obtain ⟨p, l, e, R, s, m, args, below, meth, c, Q, D, cl, tys, sz0, nL⟩ := X
  obtain ⟨⟨hx, hb, hml, hown, hts⟩, hK, hsz, hE, hEm, hG9, hnL9, hrm9, hin0⟩ := C; subst hG9; subst hnL9; subst hrm9
  subst hpc
  exact fun H locs ls hP hD hS h => lv_lload_n hx hb d hi (lv_at h q hq) (k H locs ls hP hD hS h)
theorem zk_lload {i : Nat} {x : Int64} (C : zk_C X M G rm E) (d : decode M.2.1 pc = .ok (.lload i, 2)) (q : Nat) (hq : lv[q]? = some (i, .long x)) (hpc : pc + 2 = n) (k : zk_Ab X ws cells slots n lv (.long x :: r)) : zk_Ab X ws cells slots pc lv (r) := by
  obtain ⟨p, l, e, R, s, m, args, below, meth, c, Q, D, cl, tys, sz0, nL⟩ := X
  obtain ⟨⟨hx, hb, hml, hown, hts⟩, hK, hsz, hE, hEm, hG9, hnL9, hrm9, hin0⟩ := C; subst hG9; subst hnL9; subst hrm9
  subst hpc
  exact fun H locs ls hP hD hS h => lv_lload hx hb d (lv_at h q hq) (k H locs ls hP hD hS h)
theorem zk_aload_n {kf : Fin 4} {i : Nat} {x : Nat} (C : zk_C X M G rm E) (d : decode M.2.1 pc = .ok (.aload_n kf, 1)) (hi : (kf : Nat) = i) (q : Nat) (hq : lv[q]? = some (i, .ref x)) (hpc : pc + 1 = n) (k : zk_Ab X ws cells slots n lv (.ref x :: r)) : zk_Ab X ws cells slots pc lv (r) := by
  obtain ⟨p, l, e, R, s, m, args, below, meth, c, Q, D, cl, tys, sz0, nL⟩ := X
  obtain ⟨⟨hx, hb, hml, hown, hts⟩, hK, hsz, hE, hEm, hG9, hnL9, hrm9, hin0⟩ := C; subst hG9; subst hnL9; subst hrm9
  subst hpc
  exact fun H locs ls hP hD hS h => lv_aload_n hx hb d hi (lv_at h q hq) (k H locs ls hP hD hS h)
theorem zk_aload {i : Nat} {x : Nat} (C : zk_C X M G rm E) (d : decode M.2.1 pc = .ok (.aload i, 2)) (q : Nat) (hq : lv[q]? = some (i, .ref x)) (hpc : pc + 2 = n) (k : zk_Ab X ws cells slots n lv (.ref x :: r)) : zk_Ab X ws cells slots pc lv (r) := by
  obtain ⟨p, l, e, R, s, m, args, below, meth, c, Q, D, cl, tys, sz0, nL⟩ := X
  obtain ⟨⟨hx, hb, hml, hown, hts⟩, hK, hsz, hE, hEm, hG9, hnL9, hrm9, hin0⟩ := C; subst hG9; subst hnL9; subst hrm9
  subst hpc
  exact fun H locs ls hP hD hS h => lv_aload hx hb d (lv_at h q hq) (k H locs ls hP hD hS h)
theorem zk_istore_n {kf : Fin 4} {i : Nat} {x : Int32} (C : zk_C X M G rm E) (d : decode M.2.1 pc = .ok (.istore_n kf, 1)) (hi : (kf : Nat) = i) (hn : i < M.2.2.1) (hl : (i, Value.int x) :: lv.filter (fun q => !(q.1 == i) && !(q.1 + 1 == i && q.2.category == 2)) = lv') (hpc : pc + 1 = n) (k : zk_Ab X ws cells slots n lv' r) : zk_Ab X ws cells slots pc lv (.int x :: r) := by
  obtain ⟨p, l, e, R, s, m, args, below, meth, c, Q, D, cl, tys, sz0, nL⟩ := X
  obtain ⟨⟨hx, hb, hml, hown, hts⟩, hK, hsz, hE, hEm, hG9, hnL9, hrm9, hin0⟩ := C; subst hG9; subst hnL9; subst hrm9
  subst hpc
  exact fun H locs ls hP hD hS h => lv_istore_n hx hb d hi h hn hl (fun ls h => k H locs ls hP hD hS h)
theorem zk_istore {i : Nat} {x : Int32} (C : zk_C X M G rm E) (d : decode M.2.1 pc = .ok (.istore i, 2)) (hn : i < M.2.2.1) (hl : (i, Value.int x) :: lv.filter (fun q => !(q.1 == i) && !(q.1 + 1 == i && q.2.category == 2)) = lv') (hpc : pc + 2 = n) (k : zk_Ab X ws cells slots n lv' r) : zk_Ab X ws cells slots pc lv (.int x :: r) := by
  obtain ⟨p, l, e, R, s, m, args, below, meth, c, Q, D, cl, tys, sz0, nL⟩ := X
  obtain ⟨⟨hx, hb, hml, hown, hts⟩, hK, hsz, hE, hEm, hG9, hnL9, hrm9, hin0⟩ := C; subst hG9; subst hnL9; subst hrm9
  subst hpc
  exact fun H locs ls hP hD hS h => lv_istore hx hb d h hn hl (fun ls h => k H locs ls hP hD hS h)
theorem zk_lstore_n {kf : Fin 4} {i : Nat} {x : Int64} (C : zk_C X M G rm E) (d : decode M.2.1 pc = .ok (.lstore_n kf, 1)) (hi : (kf : Nat) = i) (hn : i + 1 < M.2.2.1) (hl : (i, Value.long x) :: lv.filter (fun q => !(q.1 == i) && (!(q.1 == i + 1) && !(q.1 + 1 == i && q.2.category == 2))) = lv') (hpc : pc + 1 = n) (k : zk_Ab X ws cells slots n lv' r) : zk_Ab X ws cells slots pc lv (.long x :: r) := by
  obtain ⟨p, l, e, R, s, m, args, below, meth, c, Q, D, cl, tys, sz0, nL⟩ := X
  obtain ⟨⟨hx, hb, hml, hown, hts⟩, hK, hsz, hE, hEm, hG9, hnL9, hrm9, hin0⟩ := C; subst hG9; subst hnL9; subst hrm9
  subst hpc
  exact fun H locs ls hP hD hS h => lv_lstore_n hx hb d hi h hn hl (fun ls h => k H locs ls hP hD hS h)
theorem zk_lstore {i : Nat} {x : Int64} (C : zk_C X M G rm E) (d : decode M.2.1 pc = .ok (.lstore i, 2)) (hn : i + 1 < M.2.2.1) (hl : (i, Value.long x) :: lv.filter (fun q => !(q.1 == i) && (!(q.1 == i + 1) && !(q.1 + 1 == i && q.2.category == 2))) = lv') (hpc : pc + 2 = n) (k : zk_Ab X ws cells slots n lv' r) : zk_Ab X ws cells slots pc lv (.long x :: r) := by
  obtain ⟨p, l, e, R, s, m, args, below, meth, c, Q, D, cl, tys, sz0, nL⟩ := X
  obtain ⟨⟨hx, hb, hml, hown, hts⟩, hK, hsz, hE, hEm, hG9, hnL9, hrm9, hin0⟩ := C; subst hG9; subst hnL9; subst hrm9
  subst hpc
  exact fun H locs ls hP hD hS h => lv_lstore hx hb d h hn hl (fun ls h => k H locs ls hP hD hS h)
theorem zk_astore_n {kf : Fin 4} {i : Nat} {x : Nat} (C : zk_C X M G rm E) (d : decode M.2.1 pc = .ok (.astore_n kf, 1)) (hi : (kf : Nat) = i) (hn : i < M.2.2.1) (hl : (i, Value.ref x) :: lv.filter (fun q => !(q.1 == i) && !(q.1 + 1 == i && q.2.category == 2)) = lv') (hpc : pc + 1 = n) (k : zk_Ab X ws cells slots n lv' r) : zk_Ab X ws cells slots pc lv (.ref x :: r) := by
  obtain ⟨p, l, e, R, s, m, args, below, meth, c, Q, D, cl, tys, sz0, nL⟩ := X
  obtain ⟨⟨hx, hb, hml, hown, hts⟩, hK, hsz, hE, hEm, hG9, hnL9, hrm9, hin0⟩ := C; subst hG9; subst hnL9; subst hrm9
  subst hpc
  exact fun H locs ls hP hD hS h => lv_astore_n hx hb d hi h hn hl (fun ls h => k H locs ls hP hD hS h)
theorem zk_astore {i : Nat} {x : Nat} (C : zk_C X M G rm E) (d : decode M.2.1 pc = .ok (.astore i, 2)) (hn : i < M.2.2.1) (hl : (i, Value.ref x) :: lv.filter (fun q => !(q.1 == i) && !(q.1 + 1 == i && q.2.category == 2)) = lv') (hpc : pc + 2 = n) (k : zk_Ab X ws cells slots n lv' r) : zk_Ab X ws cells slots pc lv (.ref x :: r) := by
  obtain ⟨p, l, e, R, s, m, args, below, meth, c, Q, D, cl, tys, sz0, nL⟩ := X
  obtain ⟨⟨hx, hb, hml, hown, hts⟩, hK, hsz, hE, hEm, hG9, hnL9, hrm9, hin0⟩ := C; subst hG9; subst hnL9; subst hrm9
  subst hpc
  exact fun H locs ls hP hD hS h => lv_astore hx hb d h hn hl (fun ls h => k H locs ls hP hD hS h)
theorem zk_iinc {i : Nat} {z : Int} {x v : Int32} (C : zk_C X M G rm E) (d : decode M.2.1 pc = .ok (.iinc i z, 3)) (q : Nat) (hq : lv[q]? = some (i, .int x)) (hv : x + Int32.ofInt z = v) (hn : i < M.2.2.1) (hl : (i, Value.int v) :: lv.filter (fun q => !(q.1 == i) && !(q.1 + 1 == i && q.2.category == 2)) = lv') (hpc : pc + 3 = n) (k : zk_Ab X ws cells slots n lv' r) : zk_Ab X ws cells slots pc lv r := by
  obtain ⟨p, l, e, R, s, m, args, below, meth, c, Q, D, cl, tys, sz0, nL⟩ := X
  obtain ⟨⟨hx, hb, hml, hown, hts⟩, hK, hsz, hE, hEm, hG9, hnL9, hrm9, hin0⟩ := C; subst hG9; subst hnL9; subst hrm9
  subst hpc
  exact fun H locs ls hP hD hS h => lv_iinc hx hb d h (k := q) hq hv hn hl (fun ls h => k H locs ls hP hD hS h)
theorem zk_iadd {x y : Int32} (C : zk_C X M G rm E) (d : decode M.2.1 pc = .ok (.iadd, 1)) (hpc : pc + 1 = n) (k : zk_Ab X ws cells slots n lv (.int (x + y) :: r)) : zk_Ab X ws cells slots pc lv (.int y :: .int x :: r) := by
  obtain ⟨p, l, e, R, s, m, args, below, meth, c, Q, D, cl, tys, sz0, nL⟩ := X
  obtain ⟨⟨hx, hb, hml, hown, hts⟩, hK, hsz, hE, hEm, hG9, hnL9, hrm9, hin0⟩ := C; subst hG9; subst hnL9; subst hrm9
  subst hpc
  exact fun H locs ls hP hD hS h => lv_iadd hx hb d (k H locs ls hP hD hS h)
theorem zk_isub {x y : Int32} (C : zk_C X M G rm E) (d : decode M.2.1 pc = .ok (.isub, 1)) (hpc : pc + 1 = n) (k : zk_Ab X ws cells slots n lv (.int (x - y) :: r)) : zk_Ab X ws cells slots pc lv (.int y :: .int x :: r) := by
  obtain ⟨p, l, e, R, s, m, args, below, meth, c, Q, D, cl, tys, sz0, nL⟩ := X
  obtain ⟨⟨hx, hb, hml, hown, hts⟩, hK, hsz, hE, hEm, hG9, hnL9, hrm9, hin0⟩ := C; subst hG9; subst hnL9; subst hrm9
  subst hpc
  exact fun H locs ls hP hD hS h => lv_isub hx hb d (k H locs ls hP hD hS h)
theorem zk_imul {x y : Int32} (C : zk_C X M G rm E) (d : decode M.2.1 pc = .ok (.imul, 1)) (hpc : pc + 1 = n) (k : zk_Ab X ws cells slots n lv (.int (x * y) :: r)) : zk_Ab X ws cells slots pc lv (.int y :: .int x :: r) := by
  obtain ⟨p, l, e, R, s, m, args, below, meth, c, Q, D, cl, tys, sz0, nL⟩ := X
  obtain ⟨⟨hx, hb, hml, hown, hts⟩, hK, hsz, hE, hEm, hG9, hnL9, hrm9, hin0⟩ := C; subst hG9; subst hnL9; subst hrm9
  subst hpc
  exact fun H locs ls hP hD hS h => lv_imul hx hb d (k H locs ls hP hD hS h)
theorem zk_iand {x y : Int32} (C : zk_C X M G rm E) (d : decode M.2.1 pc = .ok (.iand, 1)) (hpc : pc + 1 = n) (k : zk_Ab X ws cells slots n lv (.int (x &&& y) :: r)) : zk_Ab X ws cells slots pc lv (.int y :: .int x :: r) := by
  obtain ⟨p, l, e, R, s, m, args, below, meth, c, Q, D, cl, tys, sz0, nL⟩ := X
  obtain ⟨⟨hx, hb, hml, hown, hts⟩, hK, hsz, hE, hEm, hG9, hnL9, hrm9, hin0⟩ := C; subst hG9; subst hnL9; subst hrm9
  subst hpc
  exact fun H locs ls hP hD hS h => lv_iand hx hb d (k H locs ls hP hD hS h)
theorem zk_ior {x y : Int32} (C : zk_C X M G rm E) (d : decode M.2.1 pc = .ok (.ior, 1)) (hpc : pc + 1 = n) (k : zk_Ab X ws cells slots n lv (.int (x ||| y) :: r)) : zk_Ab X ws cells slots pc lv (.int y :: .int x :: r) := by
  obtain ⟨p, l, e, R, s, m, args, below, meth, c, Q, D, cl, tys, sz0, nL⟩ := X
  obtain ⟨⟨hx, hb, hml, hown, hts⟩, hK, hsz, hE, hEm, hG9, hnL9, hrm9, hin0⟩ := C; subst hG9; subst hnL9; subst hrm9
  subst hpc
  exact fun H locs ls hP hD hS h => lv_ior hx hb d (k H locs ls hP hD hS h)
theorem zk_ixor {x y : Int32} (C : zk_C X M G rm E) (d : decode M.2.1 pc = .ok (.ixor, 1)) (hpc : pc + 1 = n) (k : zk_Ab X ws cells slots n lv (.int (x ^^^ y) :: r)) : zk_Ab X ws cells slots pc lv (.int y :: .int x :: r) := by
  obtain ⟨p, l, e, R, s, m, args, below, meth, c, Q, D, cl, tys, sz0, nL⟩ := X
  obtain ⟨⟨hx, hb, hml, hown, hts⟩, hK, hsz, hE, hEm, hG9, hnL9, hrm9, hin0⟩ := C; subst hG9; subst hnL9; subst hrm9
  subst hpc
  exact fun H locs ls hP hD hS h => lv_ixor hx hb d (k H locs ls hP hD hS h)
theorem zk_ishl {x y : Int32} (C : zk_C X M G rm E) (d : decode M.2.1 pc = .ok (.ishl, 1)) (hpc : pc + 1 = n) (k : zk_Ab X ws cells slots n lv (.int (x <<< (y &&& 31)) :: r)) : zk_Ab X ws cells slots pc lv (.int y :: .int x :: r) := by
  obtain ⟨p, l, e, R, s, m, args, below, meth, c, Q, D, cl, tys, sz0, nL⟩ := X
  obtain ⟨⟨hx, hb, hml, hown, hts⟩, hK, hsz, hE, hEm, hG9, hnL9, hrm9, hin0⟩ := C; subst hG9; subst hnL9; subst hrm9
  subst hpc
  exact fun H locs ls hP hD hS h => lv_ishl hx hb d (k H locs ls hP hD hS h)
theorem zk_ishr {x y : Int32} (C : zk_C X M G rm E) (d : decode M.2.1 pc = .ok (.ishr, 1)) (hpc : pc + 1 = n) (k : zk_Ab X ws cells slots n lv (.int (x >>> (y &&& 31)) :: r)) : zk_Ab X ws cells slots pc lv (.int y :: .int x :: r) := by
  obtain ⟨p, l, e, R, s, m, args, below, meth, c, Q, D, cl, tys, sz0, nL⟩ := X
  obtain ⟨⟨hx, hb, hml, hown, hts⟩, hK, hsz, hE, hEm, hG9, hnL9, hrm9, hin0⟩ := C; subst hG9; subst hnL9; subst hrm9
  subst hpc
  exact fun H locs ls hP hD hS h => lv_ishr hx hb d (k H locs ls hP hD hS h)
theorem zk_idiv {x y : Int32} (C : zk_C X M G rm E) (d : decode M.2.1 pc = .ok (.idiv, 1)) (hne : ¬ y = 0) (hpc : pc + 1 = n) (k : zk_Ab X ws cells slots n lv (.int (x / y) :: r)) : zk_Ab X ws cells slots pc lv (.int y :: .int x :: r) := by
  obtain ⟨p, l, e, R, s, m, args, below, meth, c, Q, D, cl, tys, sz0, nL⟩ := X
  obtain ⟨⟨hx, hb, hml, hown, hts⟩, hK, hsz, hE, hEm, hG9, hnL9, hrm9, hin0⟩ := C; subst hG9; subst hnL9; subst hrm9
  subst hpc
  exact fun H locs ls hP hD hS h => lv_idiv hx hb d hne (k H locs ls hP hD hS h)
theorem zk_irem {x y : Int32} (C : zk_C X M G rm E) (d : decode M.2.1 pc = .ok (.irem, 1)) (hne : ¬ y = 0) (hpc : pc + 1 = n) (k : zk_Ab X ws cells slots n lv (.int (x - x / y * y) :: r)) : zk_Ab X ws cells slots pc lv (.int y :: .int x :: r) := by
  obtain ⟨p, l, e, R, s, m, args, below, meth, c, Q, D, cl, tys, sz0, nL⟩ := X
  obtain ⟨⟨hx, hb, hml, hown, hts⟩, hK, hsz, hE, hEm, hG9, hnL9, hrm9, hin0⟩ := C; subst hG9; subst hnL9; subst hrm9
  subst hpc
  exact fun H locs ls hP hD hS h => lv_irem hx hb d hne (k H locs ls hP hD hS h)
theorem zk_ineg {x : Int32} (C : zk_C X M G rm E) (d : decode M.2.1 pc = .ok (.ineg, 1)) (hpc : pc + 1 = n) (k : zk_Ab X ws cells slots n lv (.int (-x) :: r)) : zk_Ab X ws cells slots pc lv (.int x :: r) := by
  obtain ⟨p, l, e, R, s, m, args, below, meth, c, Q, D, cl, tys, sz0, nL⟩ := X
  obtain ⟨⟨hx, hb, hml, hown, hts⟩, hK, hsz, hE, hEm, hG9, hnL9, hrm9, hin0⟩ := C; subst hG9; subst hnL9; subst hrm9
  subst hpc
  exact fun H locs ls hP hD hS h => lv_ineg hx hb d (k H locs ls hP hD hS h)
theorem zk_ladd {x y : Int64} (C : zk_C X M G rm E) (d : decode M.2.1 pc = .ok (.ladd, 1)) (hpc : pc + 1 = n) (k : zk_Ab X ws cells slots n lv (.long (x + y) :: r)) : zk_Ab X ws cells slots pc lv (.long y :: .long x :: r) := by
  obtain ⟨p, l, e, R, s, m, args, below, meth, c, Q, D, cl, tys, sz0, nL⟩ := X
  obtain ⟨⟨hx, hb, hml, hown, hts⟩, hK, hsz, hE, hEm, hG9, hnL9, hrm9, hin0⟩ := C; subst hG9; subst hnL9; subst hrm9
  subst hpc
  exact fun H locs ls hP hD hS h => lv_ladd hx hb d (k H locs ls hP hD hS h)
theorem zk_lsub {x y : Int64} (C : zk_C X M G rm E) (d : decode M.2.1 pc = .ok (.lsub, 1)) (hpc : pc + 1 = n) (k : zk_Ab X ws cells slots n lv (.long (x - y) :: r)) : zk_Ab X ws cells slots pc lv (.long y :: .long x :: r) := by
  obtain ⟨p, l, e, R, s, m, args, below, meth, c, Q, D, cl, tys, sz0, nL⟩ := X
  obtain ⟨⟨hx, hb, hml, hown, hts⟩, hK, hsz, hE, hEm, hG9, hnL9, hrm9, hin0⟩ := C; subst hG9; subst hnL9; subst hrm9
  subst hpc
  exact fun H locs ls hP hD hS h => lv_lsub hx hb d (k H locs ls hP hD hS h)
theorem zk_lmul {x y : Int64} (C : zk_C X M G rm E) (d : decode M.2.1 pc = .ok (.lmul, 1)) (hpc : pc + 1 = n) (k : zk_Ab X ws cells slots n lv (.long (x * y) :: r)) : zk_Ab X ws cells slots pc lv (.long y :: .long x :: r) := by
  obtain ⟨p, l, e, R, s, m, args, below, meth, c, Q, D, cl, tys, sz0, nL⟩ := X
  obtain ⟨⟨hx, hb, hml, hown, hts⟩, hK, hsz, hE, hEm, hG9, hnL9, hrm9, hin0⟩ := C; subst hG9; subst hnL9; subst hrm9
  subst hpc
  exact fun H locs ls hP hD hS h => lv_lmul hx hb d (k H locs ls hP hD hS h)
theorem zk_land {x y : Int64} (C : zk_C X M G rm E) (d : decode M.2.1 pc = .ok (.land, 1)) (hpc : pc + 1 = n) (k : zk_Ab X ws cells slots n lv (.long (x &&& y) :: r)) : zk_Ab X ws cells slots pc lv (.long y :: .long x :: r) := by
  obtain ⟨p, l, e, R, s, m, args, below, meth, c, Q, D, cl, tys, sz0, nL⟩ := X
  obtain ⟨⟨hx, hb, hml, hown, hts⟩, hK, hsz, hE, hEm, hG9, hnL9, hrm9, hin0⟩ := C; subst hG9; subst hnL9; subst hrm9
  subst hpc
  exact fun H locs ls hP hD hS h => lv_land hx hb d (k H locs ls hP hD hS h)
theorem zk_lor {x y : Int64} (C : zk_C X M G rm E) (d : decode M.2.1 pc = .ok (.lor, 1)) (hpc : pc + 1 = n) (k : zk_Ab X ws cells slots n lv (.long (x ||| y) :: r)) : zk_Ab X ws cells slots pc lv (.long y :: .long x :: r) := by
  obtain ⟨p, l, e, R, s, m, args, below, meth, c, Q, D, cl, tys, sz0, nL⟩ := X
  obtain ⟨⟨hx, hb, hml, hown, hts⟩, hK, hsz, hE, hEm, hG9, hnL9, hrm9, hin0⟩ := C; subst hG9; subst hnL9; subst hrm9
  subst hpc
  exact fun H locs ls hP hD hS h => lv_lor hx hb d (k H locs ls hP hD hS h)
theorem zk_lxor {x y : Int64} (C : zk_C X M G rm E) (d : decode M.2.1 pc = .ok (.lxor, 1)) (hpc : pc + 1 = n) (k : zk_Ab X ws cells slots n lv (.long (x ^^^ y) :: r)) : zk_Ab X ws cells slots pc lv (.long y :: .long x :: r) := by
  obtain ⟨p, l, e, R, s, m, args, below, meth, c, Q, D, cl, tys, sz0, nL⟩ := X
  obtain ⟨⟨hx, hb, hml, hown, hts⟩, hK, hsz, hE, hEm, hG9, hnL9, hrm9, hin0⟩ := C; subst hG9; subst hnL9; subst hrm9
  subst hpc
  exact fun H locs ls hP hD hS h => lv_lxor hx hb d (k H locs ls hP hD hS h)
theorem zk_ldiv {x y : Int64} (C : zk_C X M G rm E) (d : decode M.2.1 pc = .ok (.ldiv, 1)) (hne : ¬ y = 0) (hpc : pc + 1 = n) (k : zk_Ab X ws cells slots n lv (.long (x / y) :: r)) : zk_Ab X ws cells slots pc lv (.long y :: .long x :: r) := by
  obtain ⟨p, l, e, R, s, m, args, below, meth, c, Q, D, cl, tys, sz0, nL⟩ := X
  obtain ⟨⟨hx, hb, hml, hown, hts⟩, hK, hsz, hE, hEm, hG9, hnL9, hrm9, hin0⟩ := C; subst hG9; subst hnL9; subst hrm9
  subst hpc
  exact fun H locs ls hP hD hS h => lv_ldiv hx hb d hne (k H locs ls hP hD hS h)
theorem zk_lrem {x y : Int64} (C : zk_C X M G rm E) (d : decode M.2.1 pc = .ok (.lrem, 1)) (hne : ¬ y = 0) (hpc : pc + 1 = n) (k : zk_Ab X ws cells slots n lv (.long (x - x / y * y) :: r)) : zk_Ab X ws cells slots pc lv (.long y :: .long x :: r) := by
  obtain ⟨p, l, e, R, s, m, args, below, meth, c, Q, D, cl, tys, sz0, nL⟩ := X
  obtain ⟨⟨hx, hb, hml, hown, hts⟩, hK, hsz, hE, hEm, hG9, hnL9, hrm9, hin0⟩ := C; subst hG9; subst hnL9; subst hrm9
  subst hpc
  exact fun H locs ls hP hD hS h => lv_lrem hx hb d hne (k H locs ls hP hD hS h)
theorem zk_lneg {x : Int64} (C : zk_C X M G rm E) (d : decode M.2.1 pc = .ok (.lneg, 1)) (hpc : pc + 1 = n) (k : zk_Ab X ws cells slots n lv (.long (-x) :: r)) : zk_Ab X ws cells slots pc lv (.long x :: r) := by
  obtain ⟨p, l, e, R, s, m, args, below, meth, c, Q, D, cl, tys, sz0, nL⟩ := X
  obtain ⟨⟨hx, hb, hml, hown, hts⟩, hK, hsz, hE, hEm, hG9, hnL9, hrm9, hin0⟩ := C; subst hG9; subst hnL9; subst hrm9
  subst hpc
  exact fun H locs ls hP hD hS h => lv_lneg hx hb d (k H locs ls hP hD hS h)
theorem zk_i2l {x : Int32} (C : zk_C X M G rm E) (d : decode M.2.1 pc = .ok (.i2l, 1)) (hpc : pc + 1 = n) (k : zk_Ab X ws cells slots n lv (.long (x.toInt64) :: r)) : zk_Ab X ws cells slots pc lv (.int x :: r) := by
  obtain ⟨p, l, e, R, s, m, args, below, meth, c, Q, D, cl, tys, sz0, nL⟩ := X
  obtain ⟨⟨hx, hb, hml, hown, hts⟩, hK, hsz, hE, hEm, hG9, hnL9, hrm9, hin0⟩ := C; subst hG9; subst hnL9; subst hrm9
  subst hpc
  exact fun H locs ls hP hD hS h => lv_i2l hx hb d rfl (k H locs ls hP hD hS h)
theorem zk_l2i {x : Int64} (C : zk_C X M G rm E) (d : decode M.2.1 pc = .ok (.l2i, 1)) (hpc : pc + 1 = n) (k : zk_Ab X ws cells slots n lv (.int (x.toInt32) :: r)) : zk_Ab X ws cells slots pc lv (.long x :: r) := by
  obtain ⟨p, l, e, R, s, m, args, below, meth, c, Q, D, cl, tys, sz0, nL⟩ := X
  obtain ⟨⟨hx, hb, hml, hown, hts⟩, hK, hsz, hE, hEm, hG9, hnL9, hrm9, hin0⟩ := C; subst hG9; subst hnL9; subst hrm9
  subst hpc
  exact fun H locs ls hP hD hS h => lv_l2i hx hb d rfl (k H locs ls hP hD hS h)
theorem zk_i2b {x : Int32} (C : zk_C X M G rm E) (d : decode M.2.1 pc = .ok (.i2b, 1)) (hpc : pc + 1 = n) (k : zk_Ab X ws cells slots n lv (.int (x.toInt8.toInt32) :: r)) : zk_Ab X ws cells slots pc lv (.int x :: r) := by
  obtain ⟨p, l, e, R, s, m, args, below, meth, c, Q, D, cl, tys, sz0, nL⟩ := X
  obtain ⟨⟨hx, hb, hml, hown, hts⟩, hK, hsz, hE, hEm, hG9, hnL9, hrm9, hin0⟩ := C; subst hG9; subst hnL9; subst hrm9
  subst hpc
  exact fun H locs ls hP hD hS h => lv_i2b hx hb d rfl (k H locs ls hP hD hS h)
theorem zk_i2s {x : Int32} (C : zk_C X M G rm E) (d : decode M.2.1 pc = .ok (.i2s, 1)) (hpc : pc + 1 = n) (k : zk_Ab X ws cells slots n lv (.int (x.toInt16.toInt32) :: r)) : zk_Ab X ws cells slots pc lv (.int x :: r) := by
  obtain ⟨p, l, e, R, s, m, args, below, meth, c, Q, D, cl, tys, sz0, nL⟩ := X
  obtain ⟨⟨hx, hb, hml, hown, hts⟩, hK, hsz, hE, hEm, hG9, hnL9, hrm9, hin0⟩ := C; subst hG9; subst hnL9; subst hrm9
  subst hpc
  exact fun H locs ls hP hD hS h => lv_i2s hx hb d rfl (k H locs ls hP hD hS h)
theorem zk_i2c {x : Int32} (C : zk_C X M G rm E) (d : decode M.2.1 pc = .ok (.i2c, 1)) (hpc : pc + 1 = n) (k : zk_Ab X ws cells slots n lv (.int ((x.toUInt32 % 65536).toInt32) :: r)) : zk_Ab X ws cells slots pc lv (.int x :: r) := by
  obtain ⟨p, l, e, R, s, m, args, below, meth, c, Q, D, cl, tys, sz0, nL⟩ := X
  obtain ⟨⟨hx, hb, hml, hown, hts⟩, hK, hsz, hE, hEm, hG9, hnL9, hrm9, hin0⟩ := C; subst hG9; subst hnL9; subst hrm9
  subst hpc
  exact fun H locs ls hP hD hS h => lv_i2c hx hb d rfl (k H locs ls hP hD hS h)
theorem zk_iushr {x y : Int32} (C : zk_C X M G rm E) (d : decode M.2.1 pc = .ok (.iushr, 1)) (hpc : pc + 1 = n) (k : zk_Ab X ws cells slots n lv (.int ((x.toUInt32 >>> (y.toUInt32 &&& Int32.toUInt32 31)).toInt32) :: r)) : zk_Ab X ws cells slots pc lv (.int y :: .int x :: r) := by
  obtain ⟨p, l, e, R, s, m, args, below, meth, c, Q, D, cl, tys, sz0, nL⟩ := X
  obtain ⟨⟨hx, hb, hml, hown, hts⟩, hK, hsz, hE, hEm, hG9, hnL9, hrm9, hin0⟩ := C; subst hG9; subst hnL9; subst hrm9
  subst hpc
  exact fun H locs ls hP hD hS h => lv_iushr hx hb d rfl (k H locs ls hP hD hS h)
theorem zk_lushr {x : Int64} {y : Int32} (C : zk_C X M G rm E) (d : decode M.2.1 pc = .ok (.lushr, 1)) (hpc : pc + 1 = n) (k : zk_Ab X ws cells slots n lv (.long ((x.toUInt64 >>> (y.toInt64.toUInt64 &&& Int64.toUInt64 63)).toInt64) :: r)) : zk_Ab X ws cells slots pc lv (.int y :: .long x :: r) := by
  obtain ⟨p, l, e, R, s, m, args, below, meth, c, Q, D, cl, tys, sz0, nL⟩ := X
  obtain ⟨⟨hx, hb, hml, hown, hts⟩, hK, hsz, hE, hEm, hG9, hnL9, hrm9, hin0⟩ := C; subst hG9; subst hnL9; subst hrm9
  subst hpc
  exact fun H locs ls hP hD hS h => lv_lushr hx hb d rfl (k H locs ls hP hD hS h)
theorem zk_lshl {x : Int64} {y : Int32} (C : zk_C X M G rm E) (d : decode M.2.1 pc = .ok (.lshl, 1)) (hpc : pc + 1 = n) (k : zk_Ab X ws cells slots n lv (.long (x <<< (y.toInt64 &&& 63)) :: r)) : zk_Ab X ws cells slots pc lv (.int y :: .long x :: r) := by
  obtain ⟨p, l, e, R, s, m, args, below, meth, c, Q, D, cl, tys, sz0, nL⟩ := X
  obtain ⟨⟨hx, hb, hml, hown, hts⟩, hK, hsz, hE, hEm, hG9, hnL9, hrm9, hin0⟩ := C; subst hG9; subst hnL9; subst hrm9
  subst hpc
  exact fun H locs ls hP hD hS h => lv_lshl hx hb d rfl (k H locs ls hP hD hS h)
theorem zk_lshr {x : Int64} {y : Int32} (C : zk_C X M G rm E) (d : decode M.2.1 pc = .ok (.lshr, 1)) (hpc : pc + 1 = n) (k : zk_Ab X ws cells slots n lv (.long (x >>> (y.toInt64 &&& 63)) :: r)) : zk_Ab X ws cells slots pc lv (.int y :: .long x :: r) := by
  obtain ⟨p, l, e, R, s, m, args, below, meth, c, Q, D, cl, tys, sz0, nL⟩ := X
  obtain ⟨⟨hx, hb, hml, hown, hts⟩, hK, hsz, hE, hEm, hG9, hnL9, hrm9, hin0⟩ := C; subst hG9; subst hnL9; subst hrm9
  subst hpc
  exact fun H locs ls hP hD hS h => lv_lshr hx hb d rfl (k H locs ls hP hD hS h)
theorem zk_lcmp {x y : Int64} (C : zk_C X M G rm E) (d : decode M.2.1 pc = .ok (.lcmp, 1)) (hpc : pc + 1 = n) (k : zk_Ab X ws cells slots n lv (.int (lg_cmp x y) :: r)) : zk_Ab X ws cells slots pc lv (.long y :: .long x :: r) := by
  obtain ⟨p, l, e, R, s, m, args, below, meth, c, Q, D, cl, tys, sz0, nL⟩ := X
  obtain ⟨⟨hx, hb, hml, hown, hts⟩, hK, hsz, hE, hEm, hG9, hnL9, hrm9, hin0⟩ := C; subst hG9; subst hnL9; subst hrm9
  subst hpc
  exact fun H locs ls hP hD hS h => W.lcmp hx hb d (k H locs ls hP hD hS h)
theorem zk_dup {va : Value} (C : zk_C X M G rm E) (d : decode M.2.1 pc = .ok (.dup, 1)) (h1 : va.category = 1) (hpc : pc + 1 = n) (k : zk_Ab X ws cells slots n lv (va :: va :: r)) : zk_Ab X ws cells slots pc lv (va :: r) := by
  obtain ⟨p, l, e, R, s, m, args, below, meth, c, Q, D, cl, tys, sz0, nL⟩ := X
  obtain ⟨⟨hx, hb, hml, hown, hts⟩, hK, hsz, hE, hEm, hG9, hnL9, hrm9, hin0⟩ := C; subst hG9; subst hnL9; subst hrm9
  subst hpc
  exact fun H locs ls hP hD hS h => lv_dup hx hb d h1 (k H locs ls hP hD hS h)
theorem zk_pop {va : Value} (C : zk_C X M G rm E) (d : decode M.2.1 pc = .ok (.pop, 1)) (h1 : va.category = 1) (hpc : pc + 1 = n) (k : zk_Ab X ws cells slots n lv (r)) : zk_Ab X ws cells slots pc lv (va :: r) := by
  obtain ⟨p, l, e, R, s, m, args, below, meth, c, Q, D, cl, tys, sz0, nL⟩ := X
  obtain ⟨⟨hx, hb, hml, hown, hts⟩, hK, hsz, hE, hEm, hG9, hnL9, hrm9, hin0⟩ := C; subst hG9; subst hnL9; subst hrm9
  subst hpc
  exact fun H locs ls hP hD hS h => lv_pop hx hb d h1 (k H locs ls hP hD hS h)
theorem zk_dup_x1 {va vb : Value} (C : zk_C X M G rm E) (d : decode M.2.1 pc = .ok (.dup_x1, 1)) (h1 : va.category = 1) (h2 : vb.category = 1) (hpc : pc + 1 = n) (k : zk_Ab X ws cells slots n lv (va :: vb :: va :: r)) : zk_Ab X ws cells slots pc lv (va :: vb :: r) := by
  obtain ⟨p, l, e, R, s, m, args, below, meth, c, Q, D, cl, tys, sz0, nL⟩ := X
  obtain ⟨⟨hx, hb, hml, hown, hts⟩, hK, hsz, hE, hEm, hG9, hnL9, hrm9, hin0⟩ := C; subst hG9; subst hnL9; subst hrm9
  subst hpc
  exact fun H locs ls hP hD hS h => lv_dup_x1 hx hb d h1 h2 (k H locs ls hP hD hS h)
theorem zk_dup_x2 {va vb vd : Value} (C : zk_C X M G rm E) (d : decode M.2.1 pc = .ok (.dup_x2, 1)) (h1 : va.category = 1) (h2 : vb.category = 1) (h3 : vd.category = 1) (hpc : pc + 1 = n) (k : zk_Ab X ws cells slots n lv (va :: vb :: vd :: va :: r)) : zk_Ab X ws cells slots pc lv (va :: vb :: vd :: r) := by
  obtain ⟨p, l, e, R, s, m, args, below, meth, c, Q, D, cl, tys, sz0, nL⟩ := X
  obtain ⟨⟨hx, hb, hml, hown, hts⟩, hK, hsz, hE, hEm, hG9, hnL9, hrm9, hin0⟩ := C; subst hG9; subst hnL9; subst hrm9
  subst hpc
  exact fun H locs ls hP hD hS h => lv_dup_x2 hx hb d h1 h2 h3 (k H locs ls hP hD hS h)
theorem zk_dup2 {va vb : Value} (C : zk_C X M G rm E) (d : decode M.2.1 pc = .ok (.dup2, 1)) (h1 : va.category = 1) (h2 : vb.category = 1) (hpc : pc + 1 = n) (k : zk_Ab X ws cells slots n lv (va :: vb :: va :: vb :: r)) : zk_Ab X ws cells slots pc lv (va :: vb :: r) := by
  obtain ⟨p, l, e, R, s, m, args, below, meth, c, Q, D, cl, tys, sz0, nL⟩ := X
  obtain ⟨⟨hx, hb, hml, hown, hts⟩, hK, hsz, hE, hEm, hG9, hnL9, hrm9, hin0⟩ := C; subst hG9; subst hnL9; subst hrm9
  subst hpc
  exact fun H locs ls hP hD hS h => lv_dup2_11 hx hb d h1 h2 (k H locs ls hP hD hS h)
theorem zk_dup2L {va : Value} (C : zk_C X M G rm E) (d : decode M.2.1 pc = .ok (.dup2, 1)) (h1 : va.category = 2) (hpc : pc + 1 = n) (k : zk_Ab X ws cells slots n lv (va :: va :: r)) : zk_Ab X ws cells slots pc lv (va :: r) := by
  obtain ⟨p, l, e, R, s, m, args, below, meth, c, Q, D, cl, tys, sz0, nL⟩ := X
  obtain ⟨⟨hx, hb, hml, hown, hts⟩, hK, hsz, hE, hEm, hG9, hnL9, hrm9, hin0⟩ := C; subst hG9; subst hnL9; subst hrm9
  subst hpc
  exact fun H locs ls hP hD hS h => lv_dup2_2 hx hb d h1 (k H locs ls hP hD hS h)
theorem zk_pop2L {va : Value} (C : zk_C X M G rm E) (d : decode M.2.1 pc = .ok (.pop2, 1)) (h1 : va.category = 2) (hpc : pc + 1 = n) (k : zk_Ab X ws cells slots n lv (r)) : zk_Ab X ws cells slots pc lv (va :: r) := by
  obtain ⟨p, l, e, R, s, m, args, below, meth, c, Q, D, cl, tys, sz0, nL⟩ := X
  obtain ⟨⟨hx, hb, hml, hown, hts⟩, hK, hsz, hE, hEm, hG9, hnL9, hrm9, hin0⟩ := C; subst hG9; subst hnL9; subst hrm9
  subst hpc
  exact fun H locs ls hP hD hS h => lv_pop2_2 hx hb d h1 (k H locs ls hP hD hS h)
theorem zk_if_eq {x : Int32} {off : Int} {tgt : Nat} (C : zk_C X M G rm E) (d : decode M.2.1 pc = .ok (.ifCond .eq off, 3)) (ht : (pc : Int) + off = (tgt : Int)) (hpc : pc + 3 = n) (kt : x = 0 → zk_Ab X ws cells slots tgt lv r) (kf : ¬ x = 0 → zk_Ab X ws cells slots n lv r) : zk_Ab X ws cells slots pc lv (.int x :: r) := by
  obtain ⟨p, l, e, R, s, m, args, below, meth, c, Q, D, cl, tys, sz0, nL⟩ := X
  obtain ⟨⟨hx, hb, hml, hown, hts⟩, hK, hsz, hE, hEm, hG9, hnL9, hrm9, hin0⟩ := C; subst hG9; subst hnL9; subst hrm9
  subst hpc
  exact fun H locs ls hP hD hS h => lv_if_eq hx hb d ht (fun q => kt q H locs ls hP hD hS h) (fun q => kf q H locs ls hP hD hS h)
theorem zk_icmp_eq {x y : Int32} {off : Int} {tgt : Nat} (C : zk_C X M G rm E) (d : decode M.2.1 pc = .ok (.if_icmp .eq off, 3)) (ht : (pc : Int) + off = (tgt : Int)) (hpc : pc + 3 = n) (kt : x = y → zk_Ab X ws cells slots tgt lv r) (kf : ¬ x = y → zk_Ab X ws cells slots n lv r) : zk_Ab X ws cells slots pc lv (.int y :: .int x :: r) := by
  obtain ⟨p, l, e, R, s, m, args, below, meth, c, Q, D, cl, tys, sz0, nL⟩ := X
  obtain ⟨⟨hx, hb, hml, hown, hts⟩, hK, hsz, hE, hEm, hG9, hnL9, hrm9, hin0⟩ := C; subst hG9; subst hnL9; subst hrm9
  subst hpc
  exact fun H locs ls hP hD hS h => lv_icmp_eq hx hb d ht (fun q => kt q H locs ls hP hD hS h) (fun q => kf q H locs ls hP hD hS h)
theorem zk_if_ne {x : Int32} {off : Int} {tgt : Nat} (C : zk_C X M G rm E) (d : decode M.2.1 pc = .ok (.ifCond .ne off, 3)) (ht : (pc : Int) + off = (tgt : Int)) (hpc : pc + 3 = n) (kt : ¬ x = 0 → zk_Ab X ws cells slots tgt lv r) (kf : x = 0 → zk_Ab X ws cells slots n lv r) : zk_Ab X ws cells slots pc lv (.int x :: r) := by
  obtain ⟨p, l, e, R, s, m, args, below, meth, c, Q, D, cl, tys, sz0, nL⟩ := X
  obtain ⟨⟨hx, hb, hml, hown, hts⟩, hK, hsz, hE, hEm, hG9, hnL9, hrm9, hin0⟩ := C; subst hG9; subst hnL9; subst hrm9
  subst hpc
  exact fun H locs ls hP hD hS h => lv_if_ne hx hb d ht (fun q => kt q H locs ls hP hD hS h) (fun q => kf q H locs ls hP hD hS h)
theorem zk_icmp_ne {x y : Int32} {off : Int} {tgt : Nat} (C : zk_C X M G rm E) (d : decode M.2.1 pc = .ok (.if_icmp .ne off, 3)) (ht : (pc : Int) + off = (tgt : Int)) (hpc : pc + 3 = n) (kt : ¬ x = y → zk_Ab X ws cells slots tgt lv r) (kf : x = y → zk_Ab X ws cells slots n lv r) : zk_Ab X ws cells slots pc lv (.int y :: .int x :: r) := by
  obtain ⟨p, l, e, R, s, m, args, below, meth, c, Q, D, cl, tys, sz0, nL⟩ := X
  obtain ⟨⟨hx, hb, hml, hown, hts⟩, hK, hsz, hE, hEm, hG9, hnL9, hrm9, hin0⟩ := C; subst hG9; subst hnL9; subst hrm9
  subst hpc
  exact fun H locs ls hP hD hS h => lv_icmp_ne hx hb d ht (fun q => kt q H locs ls hP hD hS h) (fun q => kf q H locs ls hP hD hS h)
theorem zk_if_lt {x : Int32} {off : Int} {tgt : Nat} (C : zk_C X M G rm E) (d : decode M.2.1 pc = .ok (.ifCond .lt off, 3)) (ht : (pc : Int) + off = (tgt : Int)) (hpc : pc + 3 = n) (kt : x < 0 → zk_Ab X ws cells slots tgt lv r) (kf : ¬ x < 0 → zk_Ab X ws cells slots n lv r) : zk_Ab X ws cells slots pc lv (.int x :: r) := by
  obtain ⟨p, l, e, R, s, m, args, below, meth, c, Q, D, cl, tys, sz0, nL⟩ := X
  obtain ⟨⟨hx, hb, hml, hown, hts⟩, hK, hsz, hE, hEm, hG9, hnL9, hrm9, hin0⟩ := C; subst hG9; subst hnL9; subst hrm9
  subst hpc
  exact fun H locs ls hP hD hS h => lv_if_lt hx hb d ht (fun q => kt q H locs ls hP hD hS h) (fun q => kf q H locs ls hP hD hS h)
theorem zk_icmp_lt {x y : Int32} {off : Int} {tgt : Nat} (C : zk_C X M G rm E) (d : decode M.2.1 pc = .ok (.if_icmp .lt off, 3)) (ht : (pc : Int) + off = (tgt : Int)) (hpc : pc + 3 = n) (kt : x < y → zk_Ab X ws cells slots tgt lv r) (kf : ¬ x < y → zk_Ab X ws cells slots n lv r) : zk_Ab X ws cells slots pc lv (.int y :: .int x :: r) := by
  obtain ⟨p, l, e, R, s, m, args, below, meth, c, Q, D, cl, tys, sz0, nL⟩ := X
  obtain ⟨⟨hx, hb, hml, hown, hts⟩, hK, hsz, hE, hEm, hG9, hnL9, hrm9, hin0⟩ := C; subst hG9; subst hnL9; subst hrm9
  subst hpc
  exact fun H locs ls hP hD hS h => lv_icmp_lt hx hb d ht (fun q => kt q H locs ls hP hD hS h) (fun q => kf q H locs ls hP hD hS h)
theorem zk_if_ge {x : Int32} {off : Int} {tgt : Nat} (C : zk_C X M G rm E) (d : decode M.2.1 pc = .ok (.ifCond .ge off, 3)) (ht : (pc : Int) + off = (tgt : Int)) (hpc : pc + 3 = n) (kt : 0 ≤ x → zk_Ab X ws cells slots tgt lv r) (kf : ¬ 0 ≤ x → zk_Ab X ws cells slots n lv r) : zk_Ab X ws cells slots pc lv (.int x :: r) := by
  obtain ⟨p, l, e, R, s, m, args, below, meth, c, Q, D, cl, tys, sz0, nL⟩ := X
  obtain ⟨⟨hx, hb, hml, hown, hts⟩, hK, hsz, hE, hEm, hG9, hnL9, hrm9, hin0⟩ := C; subst hG9; subst hnL9; subst hrm9
  subst hpc
  exact fun H locs ls hP hD hS h => lv_if_ge hx hb d ht (fun q => kt q H locs ls hP hD hS h) (fun q => kf q H locs ls hP hD hS h)
theorem zk_icmp_ge {x y : Int32} {off : Int} {tgt : Nat} (C : zk_C X M G rm E) (d : decode M.2.1 pc = .ok (.if_icmp .ge off, 3)) (ht : (pc : Int) + off = (tgt : Int)) (hpc : pc + 3 = n) (kt : y ≤ x → zk_Ab X ws cells slots tgt lv r) (kf : ¬ y ≤ x → zk_Ab X ws cells slots n lv r) : zk_Ab X ws cells slots pc lv (.int y :: .int x :: r) := by
  obtain ⟨p, l, e, R, s, m, args, below, meth, c, Q, D, cl, tys, sz0, nL⟩ := X
  obtain ⟨⟨hx, hb, hml, hown, hts⟩, hK, hsz, hE, hEm, hG9, hnL9, hrm9, hin0⟩ := C; subst hG9; subst hnL9; subst hrm9
  subst hpc
  exact fun H locs ls hP hD hS h => lv_icmp_ge hx hb d ht (fun q => kt q H locs ls hP hD hS h) (fun q => kf q H locs ls hP hD hS h)
theorem zk_if_gt {x : Int32} {off : Int} {tgt : Nat} (C : zk_C X M G rm E) (d : decode M.2.1 pc = .ok (.ifCond .gt off, 3)) (ht : (pc : Int) + off = (tgt : Int)) (hpc : pc + 3 = n) (kt : 0 < x → zk_Ab X ws cells slots tgt lv r) (kf : ¬ 0 < x → zk_Ab X ws cells slots n lv r) : zk_Ab X ws cells slots pc lv (.int x :: r) := by
  obtain ⟨p, l, e, R, s, m, args, below, meth, c, Q, D, cl, tys, sz0, nL⟩ := X
  obtain ⟨⟨hx, hb, hml, hown, hts⟩, hK, hsz, hE, hEm, hG9, hnL9, hrm9, hin0⟩ := C; subst hG9; subst hnL9; subst hrm9
  subst hpc
  exact fun H locs ls hP hD hS h => lv_if_gt hx hb d ht (fun q => kt q H locs ls hP hD hS h) (fun q => kf q H locs ls hP hD hS h)
theorem zk_icmp_gt {x y : Int32} {off : Int} {tgt : Nat} (C : zk_C X M G rm E) (d : decode M.2.1 pc = .ok (.if_icmp .gt off, 3)) (ht : (pc : Int) + off = (tgt : Int)) (hpc : pc + 3 = n) (kt : y < x → zk_Ab X ws cells slots tgt lv r) (kf : ¬ y < x → zk_Ab X ws cells slots n lv r) : zk_Ab X ws cells slots pc lv (.int y :: .int x :: r) := by
  obtain ⟨p, l, e, R, s, m, args, below, meth, c, Q, D, cl, tys, sz0, nL⟩ := X
  obtain ⟨⟨hx, hb, hml, hown, hts⟩, hK, hsz, hE, hEm, hG9, hnL9, hrm9, hin0⟩ := C; subst hG9; subst hnL9; subst hrm9
  subst hpc
  exact fun H locs ls hP hD hS h => lv_icmp_gt hx hb d ht (fun q => kt q H locs ls hP hD hS h) (fun q => kf q H locs ls hP hD hS h)
theorem zk_if_le {x : Int32} {off : Int} {tgt : Nat} (C : zk_C X M G rm E) (d : decode M.2.1 pc = .ok (.ifCond .le off, 3)) (ht : (pc : Int) + off = (tgt : Int)) (hpc : pc + 3 = n) (kt : x ≤ 0 → zk_Ab X ws cells slots tgt lv r) (kf : ¬ x ≤ 0 → zk_Ab X ws cells slots n lv r) : zk_Ab X ws cells slots pc lv (.int x :: r) := by
  obtain ⟨p, l, e, R, s, m, args, below, meth, c, Q, D, cl, tys, sz0, nL⟩ := X
  obtain ⟨⟨hx, hb, hml, hown, hts⟩, hK, hsz, hE, hEm, hG9, hnL9, hrm9, hin0⟩ := C; subst hG9; subst hnL9; subst hrm9
  subst hpc
  exact fun H locs ls hP hD hS h => lv_if_le hx hb d ht (fun q => kt q H locs ls hP hD hS h) (fun q => kf q H locs ls hP hD hS h)
theorem zk_icmp_le {x y : Int32} {off : Int} {tgt : Nat} (C : zk_C X M G rm E) (d : decode M.2.1 pc = .ok (.if_icmp .le off, 3)) (ht : (pc : Int) + off = (tgt : Int)) (hpc : pc + 3 = n) (kt : x ≤ y → zk_Ab X ws cells slots tgt lv r) (kf : ¬ x ≤ y → zk_Ab X ws cells slots n lv r) : zk_Ab X ws cells slots pc lv (.int y :: .int x :: r) := by
  obtain ⟨p, l, e, R, s, m, args, below, meth, c, Q, D, cl, tys, sz0, nL⟩ := X
  obtain ⟨⟨hx, hb, hml, hown, hts⟩, hK, hsz, hE, hEm, hG9, hnL9, hrm9, hin0⟩ := C; subst hG9; subst hnL9; subst hrm9
  subst hpc
  exact fun H locs ls hP hD hS h => lv_icmp_le hx hb d ht (fun q => kt q H locs ls hP hD hS h) (fun q => kf q H locs ls hP hD hS h)
theorem zk_goto {off : Int} {tgt : Nat} (C : zk_C X M G rm E) (d : decode M.2.1 pc = .ok (.goto off, 3)) (ht : (pc : Int) + off = (tgt : Int)) (k : zk_Ab X ws cells slots tgt lv r) : zk_Ab X ws cells slots pc lv r := by
  obtain ⟨p, l, e, R, s, m, args, below, meth, c, Q, D, cl, tys, sz0, nL⟩ := X
  obtain ⟨⟨hx, hb, hml, hown, hts⟩, hK, hsz, hE, hEm, hG9, hnL9, hrm9, hin0⟩ := C; subst hG9; subst hnL9; subst hrm9
  exact fun H locs ls hP hD hS h => lv_goto hx hb d ht (k H locs ls hP hD hS h)
theorem zk_tableOut {dflt lo hi : Int} {offs : Array Int} {len : Nat} {x : Int32} {tgt : Nat} (C : zk_C X M G rm E) (d : decode M.2.1 pc = .ok (.tableswitch dflt lo hi offs, len)) (h1 : x.toInt < lo ∨ hi < x.toInt) (ht : (pc : Int) + dflt = (tgt : Int)) (k : zk_Ab X ws cells slots tgt lv r) : zk_Ab X ws cells slots pc lv (.int x :: r) := by
  obtain ⟨p, l, e, R, s, m, args, below, meth, c, Q, D, cl, tys, sz0, nL⟩ := X
  obtain ⟨⟨hx, hb, hml, hown, hts⟩, hK, hsz, hE, hEm, hG9, hnL9, hrm9, hin0⟩ := C; subst hG9; subst hnL9; subst hrm9
  exact fun H locs ls hP hD hS h => lv_tableOut hx hb d h1 ht (k H locs ls hP hD hS h)
theorem zk_tableIn {dflt lo hi : Int} {offs : Array Int} {len : Nat} {x : Int32} {off : Int} {tgt : Nat} (C : zk_C X M G rm E) (d : decode M.2.1 pc = .ok (.tableswitch dflt lo hi offs, len)) (h1 : ¬ x.toInt < lo) (h2 : ¬ hi < x.toInt) (ho : offs[(x.toInt - lo).toNat]? = some off) (ht : (pc : Int) + off = (tgt : Int)) (k : zk_Ab X ws cells slots tgt lv r) : zk_Ab X ws cells slots pc lv (.int x :: r) := by
  obtain ⟨p, l, e, R, s, m, args, below, meth, c, Q, D, cl, tys, sz0, nL⟩ := X
  obtain ⟨⟨hx, hb, hml, hown, hts⟩, hK, hsz, hE, hEm, hG9, hnL9, hrm9, hin0⟩ := C; subst hG9; subst hnL9; subst hrm9
  exact fun H locs ls hP hD hS h => lv_tableIn hx hb d h1 h2 ho ht (k H locs ls hP hD hS h)
theorem zk_lookup {dflt : Int} {ps : Array (Int × Int)} {len : Nat} {x : Int32} {off : Int} {tgt : Nat} (C : zk_C X M G rm E) (d : decode M.2.1 pc = .ok (.lookupswitch dflt ps, len)) (hp : (ps.toList.zip (ps.toList.drop 1)).all (fun (a, next) => a.1 < next.1) = true) (ho : Op.lookupswitch.offset ps.toList dflt x.toInt = off) (ht : (pc : Int) + off = (tgt : Int)) (k : zk_Ab X ws cells slots tgt lv r) : zk_Ab X ws cells slots pc lv (.int x :: r) := by
  obtain ⟨p, l, e, R, s, m, args, below, meth, c, Q, D, cl, tys, sz0, nL⟩ := X
  obtain ⟨⟨hx, hb, hml, hown, hts⟩, hK, hsz, hE, hEm, hG9, hnL9, hrm9, hin0⟩ := C; subst hG9; subst hnL9; subst hrm9
  exact fun H locs ls hP hD hS h => lv_lookup hx hb d hp ho ht (k H locs ls hP hD hS h)
end ZK1
