/-! The core, second part: fields, arrays, new cells, calls, ends, a method's contract (zk_Sp). -/
def zk_Pc (av : List Value) (E : Nat → State → Prop) (D : va_G) (cl : List vw_C) (tys : List (ClassId × FieldType)) (sz0 : Nat) (ws : va_W) : Array Value → State → Prop := va_Pc av (fun U => va_P D cl ws U.heap ∧ va_K D cl tys U ∧ va_D (zk_A sz0) ws ∧ sz0 ≤ U.heap.size ∧ E sz0 U)
def zk_Qc (Post : Option Value → va_W → Prop) (D : va_G) (cl : List vw_C) (sz0 : Nat) : Array Value → State → Outcome → State → Prop := fun _ st o t => (∃ (v : Option Value) (ws' : va_W), o = .returned v ∧ Post v ws' ∧ va_P D cl ws' t.heap ∧ va_D (zk_A sz0) ws') ∧ va_F (zk_A sz0) st t
/-- what the tables say of a method -/
def zk_My (M : zk_MT) : Prop := Cond.code M.1 M.2.1 M.2.2.1 M.2.2.2.1 ∈ zk_BW ∧ Cond.initialized M.1.cls ∈ zk_BW ∧ plainName M.1.cls = true ∧ M.1.cls ≠ "java/lang/invoke/MethodHandle" ∧ M.1.cls ≠ "java/lang/invoke/VarHandle" ∧ (parseMethodDescriptor M.1.desc).map (fun d => d.parameters.length) = some M.2.2.2.2
def zk_Mv (M : zk_MT) : Prop := Cond.instanceMethod M.1 ∈ zk_BW ∧ Cond.selects M.1.cls M.1 M.1 ∈ zk_BW
/-- a method's contract: with these arguments in this world it returns, and Post holds of its answer and of the world then -/
def zk_Sp (G : zk_GT) (E : Nat → State → Prop) (M : zk_MT) (rm : Room) (av : List Value) (ws : va_W) (Post : Option Value → va_W → Prop) : Prop := match G with
  | (l, D, cl, tys, sz0) => Met l M.1 (Cond.code M.1 M.2.1 M.2.2.1 M.2.2.2.1 :: zk_BW) rm (zk_Pc av E D cl tys sz0 ws) (zk_Qc Post D cl sz0) rm.cells rm.slots (zk_A sz0)
/-- where the run of a method ends -/
def zkj_R (X : zkj_T) (Post : Option Value → va_W → Prop) (ret : Option FieldType) : Prop := match X with
  | (_, _, _, R, s, _, args, below, meth, _, Q, D, cl, _, sz0, _) => meth.sig.returnType = ret ∧ meth.locks = false ∧ Q = MQ below (zk_Qc Post D cl sz0) args s R.cells R.slots (zk_A sz0)
section ZK2
variable {X : zkj_T} {M : zk_MT} {G : zk_GT} {rm : Room} {E : Nat → State → Prop} {ws ws' : va_W} {cells slots pc n : Nat} {lv lv' : List (Nat × Value)} {r : List Value}
theorem zk_met {av : List Value} {Post : Option Value → va_W → Prop} (hM : zk_My M) (hlen : (lg_sl av).length ≤ M.2.2.1) (hEm : zk_Em E)
    (body : ∀ X : zkj_T, zk_C X M G rm E → zkj_R X Post M.2.2.2.1 → zk_Ab X ws 0 0 0 (lv_args 0 av) []) : zk_Sp G E M rm av ws Post := by
  obtain ⟨l, D, cl, tys, sz0⟩ := G
  obtain ⟨y, cc, maxL, ret, np⟩ := M
  refine Met.ofW (cc := cc) (maxL := maxL) (ret := ret) hM.2.2.1 rfl ?_
  intro p e s m args below meth c s₁ B hml hv
  obtain ⟨rfl, hP, hK, hD, hsz, hE⟩ := hv
  have hl := lv_entry av (n := maxL) hlen
  have hts := atoms_spec (ws := Cond.code y cc maxL ret :: zk_BW) B.pre
  rw [lg_entry_eq]
  exact body (p, l, e, rm, s, m, av.toArray, below, meth, c, MQ below (zk_Qc Post D cl sz0) av.toArray s rm.cells rm.slots (zk_A sz0), D, cl, tys, sz0, maxL) ⟨⟨B.exec, B.bytes, hml, findClass_of_methodNamed B.named, fun w h => hts w (List.mem_cons_of_mem _ h)⟩, hK, hsz, hE, hEm, rfl, rfl, rfl, fun h => ((name_of_methodNamed B.named B.method).1).trans h⟩ ⟨B.returns, B.notSynchronized, rfl⟩ s.heap [] _ hP hD va_S.rf hl
/-- a contract for more -/
theorem zk_Sp.mono {av : List Value} {Post Post' : Option Value → va_W → Prop} (h : zk_Sp G E M rm av ws Post) (hP : ∀ v w, Post v w → Post' v w) : zk_Sp G E M rm av ws Post' := by
  obtain ⟨l, D, cl, tys, sz0⟩ := G
  intro p e ha hc hk s m args below hf h1 h2 h3
  obtain ⟨k, o, a1, a2, a3, ⟨⟨v, w, b1, b2, b3⟩, b4⟩, b5⟩ := h p e ha hc hk s m args below hf h1 h2 h3
  exact ⟨k, o, a1, a2, a3, ⟨⟨v, w, b1, hP v w b2, b3⟩, b4⟩, b5⟩
theorem zk_wsE (h : ws' = ws) (k : zk_Ab X ws' cells slots pc lv r) : zk_Ab X ws cells slots pc lv r := h ▸ k
theorem zkj_cs {c1 s1 : Nat} (h1 : c1 = cells) (h2 : s1 = slots) (k : zk_Ab X ws c1 s1 pc lv r) : zk_Ab X ws cells slots pc lv r := h1 ▸ h2 ▸ k
theorem zk_goodB : GoodIn zk_BW zk_BW := fun w h => ⟨h, good_of_word (List.mem_filter.mp h).2⟩
theorem zk_goodC (hM : zk_My M) : GoodIn zk_BW (Cond.code M.1 M.2.1 M.2.2.1 M.2.2.2.1 :: zk_BW) := fun w h => (List.mem_cons.mp h).elim (fun e => by rw [e]; exact zk_goodB _ hM.1) (zk_goodB w)
theorem zk_goodV {own : String} {index : Nat} (hM : zk_My M) (hv : zk_Mv M) (hl : Cond.methodLink own index M.1 ∈ zk_BW) : GoodIn zk_BW (wsV own index M.1.cls M.1 (Cond.code M.1 M.2.1 M.2.2.1 M.2.2.2.1 :: zk_BW)) := by
  intro w h
  unfold wsV at h
  rcases List.mem_append.mp h with h | h
  · have h' : w = .methodLink own index M.1 ∨ w = .instanceMethod M.1 ∨ w = .selects M.1.cls M.1 M.1 ∨ w = .initialized M.1.cls := by simpa using h
    rcases h' with e | e | e | e <;> rw [e]
    · exact zk_goodB _ hl
    · exact zk_goodB _ hv.1
    · exact zk_goodB _ hv.2
    · exact zk_goodB _ hM.2.1
  · exact zk_goodC hM w h
theorem zk_goodS {own : String} {index : Nat} (hM : zk_My M) (hs : Cond.static M.1 ∈ zk_BW) (hl : Cond.methodLink own index M.1 ∈ zk_BW) : GoodIn zk_BW (va_wsS own index M.1 (Cond.code M.1 M.2.1 M.2.2.1 M.2.2.2.1 :: zk_BW)) := by
  intro w h
  unfold va_wsS at h
  rcases List.mem_append.mp h with h | h
  · have h' : w = .methodLink own index M.1 ∨ w = .static M.1 ∨ w = .initialized M.1.cls := by simpa using h
    rcases h' with e | e | e <;> rw [e]
    · exact zk_goodB _ hl
    · exact zk_goodB _ hs
    · exact zk_goodB _ hM.2.1
  · exact zk_goodC hM w h
theorem zk_iret {Post : Option Value → va_W → Prop} {v : Int32} (C : zk_C X M G rm E) (hR : zkj_R X Post (some .int)) (d : decode M.2.1 pc = .ok (.ireturn, 1)) (h1 : cells = rm.cells) (h2 : slots = rm.slots) (hp : Post (some (.int v)) ws) : zk_Ab X ws cells slots pc lv [.int v] := by
  obtain ⟨p, l, e, R, s, m, args, below, meth, c, Q, D, cl, tys, sz0, nL⟩ := X
  obtain ⟨⟨hx, hb, hml, hown, hts⟩, hK, hsz, hE, hEm, hG9, hnL9, hrm9, hin0⟩ := C; subst hG9; subst hnL9; subst hrm9
  obtain ⟨hr, hlk, rfl⟩ := hR
  subst h1; subst h2
  exact fun H locs ls hP hD hS h => W.iret hx hb hr (fun t ht hW => ⟨⟨some (.int v), ws, rfl, hp, by rw [ht]; exact hP, hD⟩, hS.F ht⟩) hS.2.2 d hlk
theorem zk_zret {Post : Option Value → va_W → Prop} {v : Int32} {ty : FieldType} (C : zk_C X M G rm E) (hR : zkj_R X Post (some ty)) (hn : narrow ty (.int v) = .int v) (d : decode M.2.1 pc = .ok (.ireturn, 1)) (h1 : cells = rm.cells) (h2 : slots = rm.slots) (hp : Post (some (.int v)) ws) : zk_Ab X ws cells slots pc lv [.int v] := by
  obtain ⟨p, l, e, R, s, m, args, below, meth, c, Q, D, cl, tys, sz0, nL⟩ := X
  obtain ⟨⟨hx, hb, hml, hown, hts⟩, hK, hsz, hE, hEm, hG9, hnL9, hrm9, hin0⟩ := C; subst hG9; subst hnL9; subst hrm9
  obtain ⟨hr, hlk, rfl⟩ := hR
  subst h1; subst h2
  exact fun H locs ls hP hD hS h => W.zret hx hb hr hn (fun t ht hW => ⟨⟨some (.int v), ws, rfl, hp, by rw [ht]; exact hP, hD⟩, hS.F ht⟩) hS.2.2 d hlk
theorem zk_lret {Post : Option Value → va_W → Prop} {v : Int64} (C : zk_C X M G rm E) (hR : zkj_R X Post (some .long)) (d : decode M.2.1 pc = .ok (.lreturn, 1)) (h1 : cells = rm.cells) (h2 : slots = rm.slots) (hp : Post (some (.long v)) ws) : zk_Ab X ws cells slots pc lv [.long v] := by
  obtain ⟨p, l, e, R, s, m, args, below, meth, c, Q, D, cl, tys, sz0, nL⟩ := X
  obtain ⟨⟨hx, hb, hml, hown, hts⟩, hK, hsz, hE, hEm, hG9, hnL9, hrm9, hin0⟩ := C; subst hG9; subst hnL9; subst hrm9
  obtain ⟨hr, hlk, rfl⟩ := hR
  subst h1; subst h2
  exact fun H locs ls hP hD hS h => W.lret hx hb hr (fun t ht hW => ⟨⟨some (.long v), ws, rfl, hp, by rw [ht]; exact hP, hD⟩, hS.F ht⟩) hS.2.2 d hlk
theorem zk_vret {Post : Option Value → va_W → Prop} (C : zk_C X M G rm E) (hR : zkj_R X Post none) (d : decode M.2.1 pc = .ok (.return_, 1)) (h1 : cells = rm.cells) (h2 : slots = rm.slots) (hp : Post none ws) : zk_Ab X ws cells slots pc lv [] := by
  obtain ⟨p, l, e, R, s, m, args, below, meth, c, Q, D, cl, tys, sz0, nL⟩ := X
  obtain ⟨⟨hx, hb, hml, hown, hts⟩, hK, hsz, hE, hEm, hG9, hnL9, hrm9, hin0⟩ := C; subst hG9; subst hnL9; subst hrm9
  obtain ⟨hr, hlk, rfl⟩ := hR
  subst h1; subst h2
  exact fun H locs ls hP hD hS h => W.vret hx hb hr (fun t ht hW => ⟨⟨none, ws, rfl, hp, by rw [ht]; exact hP, hD⟩, hS.F ht⟩) hS.2.2 d hlk
theorem zk_get {C0 : String} {T : u_T} {N ci index a : Nat} {fs : List Value} {v : Value} (C : zk_C X M G rm E) (q0 : Nat) (he : ws[q0]? = some (a, .inr (ci, fs))) (hc : G.2.2.1[ci]? = some (C0, T, N)) (hin : ∀ w ∈ u_ws C0 T N, w ∈ zk_BW) (j : Nat) (hj : j < N) (hlink : Cond.fieldLink M.1.cls index (T j).1 (T j).2.1 (T j).2.2.1 ∈ zk_BW) (hv : fs[j]? = some v) (d : decode M.2.1 pc = .ok (.getfield index, 3)) (hpc : pc + 3 = n) (k : zk_Ab X ws cells slots n lv (v :: r)) : zk_Ab X ws cells slots pc lv (.ref a :: r) := by
  obtain ⟨p, l, e, R, s, m, args, below, meth, c, Q, D, cl, tys, sz0, nL⟩ := X
  obtain ⟨⟨hx, hb, hml, hown, hts⟩, hK, hsz, hE, hEm, hG9, hnL9, hrm9, hin0⟩ := C; subst hG9; subst hnL9; subst hrm9
  subst hpc
  exact fun H locs ls hP hD hS h => va_get hx hb hts hin hown hK hP q0 he hc j hj (hts _ hlink) (fun _ h9 => h9) hv d (k H locs ls hP hD hS h)
theorem zk_put {C0 : String} {T : u_T} {N ci index a : Nat} {fs : List Value} {v : Value} {ty : FieldType} (C : zk_C X M G rm E) (q0 : Nat) (he : ws[q0]? = some (a, .inr (ci, fs))) (hc : G.2.2.1[ci]? = some (C0, T, N)) (hin : ∀ w ∈ u_ws C0 T N, w ∈ zk_BW) (ty0 : Nat → FieldType) (hty : ∀ k, k < N → parseFieldDescriptor (T k).2.2.1 = some (ty0 k)) (hnm : ∀ a, a < N → ∀ b, b < N → a ≠ b → (T a).2.1 ≠ (T b).2.1) (j : Nat) (hj : j < N) (hlink : Cond.fieldLink M.1.cls index (T j).1 (T j).2.1 (T j).2.2.1 ∈ zk_BW) (hfin : (T j).2.2.2 = false) (hd : ty0 j = ty) (hn : narrow ty v = v) (hfit : fits ty v = true) (hl : j < fs.length) (d : decode M.2.1 pc = .ok (.putfield index, 3)) (hws : ws.set q0 (a, .inr (ci, fs.set j v)) = ws') (hpc : pc + 3 = n) (k : zk_Ab X ws' cells slots n lv r) : zk_Ab X ws cells slots pc lv (v :: .ref a :: r) := by
  obtain ⟨p, l, e, R, s, m, args, below, meth, c, Q, D, cl, tys, sz0, nL⟩ := X
  obtain ⟨⟨hx, hb, hml, hown, hts⟩, hK, hsz, hE, hEm, hG9, hnL9, hrm9, hin0⟩ := C; subst hG9; subst hnL9; subst hrm9
  subst hpc; subst hws; subst hd
  exact fun H locs ls hP hD hS h => va_put hx hb hts hin ty0 hty hnm hown hK hP hD hS q0 he hc j hj (hts _ hlink) (fun _ h9 => h9) hfin (hty j hj) hn hfit hl d (fun H locs hP hD hS => k H locs ls hP hD hS h)
theorem zk_putF {C0 : String} {T : u_T} {N ci index a : Nat} {fs : List Value} {v : Value} {ty : FieldType} (C : zk_C X M G rm E) (q0 : Nat) (he : ws[q0]? = some (a, .inr (ci, fs))) (hc : G.2.2.1[ci]? = some (C0, T, N)) (hin : ∀ w ∈ u_ws C0 T N, w ∈ zk_BW) (ty0 : Nat → FieldType) (hty : ∀ k, k < N → parseFieldDescriptor (T k).2.2.1 = some (ty0 k)) (hnm : ∀ a, a < N → ∀ b, b < N → a ≠ b → (T a).2.1 ≠ (T b).2.1) (j : Nat) (hj : j < N) (hlink : Cond.fieldLink M.1.cls index (T j).1 (T j).2.1 (T j).2.2.1 ∈ zk_BW) (hfin : (T j).2.2.2 = true) (hin2 : M.1.name = "<init>") (hdecl : (T j).1 = M.1.cls) (hd : ty0 j = ty) (hn : narrow ty v = v) (hfit : fits ty v = true) (hl : j < fs.length) (d : decode M.2.1 pc = .ok (.putfield index, 3)) (hws : ws.set q0 (a, .inr (ci, fs.set j v)) = ws') (hpc : pc + 3 = n) (k : zk_Ab X ws' cells slots n lv r) : zk_Ab X ws cells slots pc lv (v :: .ref a :: r) := by
  obtain ⟨p, l, e, R, s, m, args, below, meth, c, Q, D, cl, tys, sz0, nL⟩ := X
  obtain ⟨⟨hx, hb, hml, hown, hts⟩, hK, hsz, hE, hEm, hG9, hnL9, hrm9, hin0⟩ := C; subst hG9; subst hnL9; subst hrm9
  subst hpc; subst hws; subst hd
  exact fun H locs ls hP hD hS h => va_putF hx hb hts hin ty0 hty hnm hown hK hP hD hS q0 he hc j hj (hts _ hlink) (fun _ h9 => h9) hfin (hin0 hin2) hdecl (hty j hj) hn hfit hl d (fun H locs hP hD hS => k H locs ls hP hD hS h)
theorem zk_iald {a N : Nat} {cA : ClassId} {f : Nat → Int32} {i : Int32} (C : zk_C X M G rm E) (q0 t0 : Nat) (ha : ws[q0]? = some (a, .inl (cA, N, .inl f))) (ht : G.2.2.2.1[t0]? = some (cA, .int)) (hin : vp_in i N) (d : decode M.2.1 pc = .ok (.iaload, 1)) (hpc : pc + 1 = n) (k : zk_Ab X ws cells slots n lv (.int (f i.toNatClampNeg) :: r)) : zk_Ab X ws cells slots pc lv (.int i :: .ref a :: r) := by
  obtain ⟨p, l, e, R, s, m, args, below, meth, c, Q, D, cl, tys, sz0, nL⟩ := X
  obtain ⟨⟨hx, hb, hml, hown, hts⟩, hK, hsz, hE, hEm, hG9, hnL9, hrm9, hin0⟩ := C; subst hG9; subst hnL9; subst hrm9
  subst hpc
  exact fun H locs ls hP hD hS h => va_iald hx hb hK hP q0 t0 ha ht hin d (k H locs ls hP hD hS h)
theorem zk_bald {a N : Nat} {cA : ClassId} {f : Nat → Int32} {i : Int32} (C : zk_C X M G rm E) (q0 t0 : Nat) (ha : ws[q0]? = some (a, .inl (cA, N, .inl f))) (ht : G.2.2.2.1[t0]? = some (cA, .byte)) (hin : vp_in i N) (d : decode M.2.1 pc = .ok (.baload, 1)) (hpc : pc + 1 = n) (k : zk_Ab X ws cells slots n lv (.int (f i.toNatClampNeg) :: r)) : zk_Ab X ws cells slots pc lv (.int i :: .ref a :: r) := by
  obtain ⟨p, l, e, R, s, m, args, below, meth, c, Q, D, cl, tys, sz0, nL⟩ := X
  obtain ⟨⟨hx, hb, hml, hown, hts⟩, hK, hsz, hE, hEm, hG9, hnL9, hrm9, hin0⟩ := C; subst hG9; subst hnL9; subst hrm9
  subst hpc
  exact fun H locs ls hP hD hS h => va_bald hx hb hK hP q0 t0 ha ht hin d (k H locs ls hP hD hS h)
theorem zk_zald {a N : Nat} {cA : ClassId} {f : Nat → Int32} {i : Int32} (C : zk_C X M G rm E) (q0 t0 : Nat) (ha : ws[q0]? = some (a, .inl (cA, N, .inl f))) (ht : G.2.2.2.1[t0]? = some (cA, .boolean)) (hin : vp_in i N) (d : decode M.2.1 pc = .ok (.baload, 1)) (hpc : pc + 1 = n) (k : zk_Ab X ws cells slots n lv (.int (f i.toNatClampNeg) :: r)) : zk_Ab X ws cells slots pc lv (.int i :: .ref a :: r) := by
  obtain ⟨p, l, e, R, s, m, args, below, meth, c, Q, D, cl, tys, sz0, nL⟩ := X
  obtain ⟨⟨hx, hb, hml, hown, hts⟩, hK, hsz, hE, hEm, hG9, hnL9, hrm9, hin0⟩ := C; subst hG9; subst hnL9; subst hrm9
  subst hpc
  exact fun H locs ls hP hD hS h => va_zald hx hb hK hP q0 t0 ha ht hin d (k H locs ls hP hD hS h)
theorem zk_cald {a N : Nat} {cA : ClassId} {f : Nat → Int32} {i : Int32} (C : zk_C X M G rm E) (q0 t0 : Nat) (ha : ws[q0]? = some (a, .inl (cA, N, .inl f))) (ht : G.2.2.2.1[t0]? = some (cA, .char)) (hin : vp_in i N) (d : decode M.2.1 pc = .ok (.caload, 1)) (hpc : pc + 1 = n) (k : zk_Ab X ws cells slots n lv (.int (f i.toNatClampNeg) :: r)) : zk_Ab X ws cells slots pc lv (.int i :: .ref a :: r) := by
  obtain ⟨p, l, e, R, s, m, args, below, meth, c, Q, D, cl, tys, sz0, nL⟩ := X
  obtain ⟨⟨hx, hb, hml, hown, hts⟩, hK, hsz, hE, hEm, hG9, hnL9, hrm9, hin0⟩ := C; subst hG9; subst hnL9; subst hrm9
  subst hpc
  exact fun H locs ls hP hD hS h => va_cald hx hb hK hP q0 t0 ha ht hin d (k H locs ls hP hD hS h)
theorem zk_lald {a N : Nat} {cA : ClassId} {f : Nat → Int64} {i : Int32} (C : zk_C X M G rm E) (q0 t0 : Nat) (ha : ws[q0]? = some (a, .inl (cA, N, .inr (.inl f)))) (ht : G.2.2.2.1[t0]? = some (cA, .long)) (hin : vp_in i N) (d : decode M.2.1 pc = .ok (.laload, 1)) (hpc : pc + 1 = n) (k : zk_Ab X ws cells slots n lv (.long (f i.toNatClampNeg) :: r)) : zk_Ab X ws cells slots pc lv (.int i :: .ref a :: r) := by
  obtain ⟨p, l, e, R, s, m, args, below, meth, c, Q, D, cl, tys, sz0, nL⟩ := X
  obtain ⟨⟨hx, hb, hml, hown, hts⟩, hK, hsz, hE, hEm, hG9, hnL9, hrm9, hin0⟩ := C; subst hG9; subst hnL9; subst hrm9
  subst hpc
  exact fun H locs ls hP hD hS h => va_lald hx hb hK hP q0 t0 ha ht hin d (k H locs ls hP hD hS h)
theorem zk_iast {a N : Nat} {cA : ClassId} {f : Nat → Int32} {i x : Int32} (C : zk_C X M G rm E) (q0 t0 : Nat) (ha : ws[q0]? = some (a, .inl (cA, N, .inl f))) (ht : G.2.2.2.1[t0]? = some (cA, .int)) (hin : vp_in i N) (d : decode M.2.1 pc = .ok (.iastore, 1)) (hws : ws.set q0 (a, .inl (cA, N, .inl (upd f i.toNatClampNeg x))) = ws') (hpc : pc + 1 = n) (k : zk_Ab X ws' cells slots n lv r) : zk_Ab X ws cells slots pc lv (.int x :: .int i :: .ref a :: r) := by
  obtain ⟨p, l, e, R, s, m, args, below, meth, c, Q, D, cl, tys, sz0, nL⟩ := X
  obtain ⟨⟨hx, hb, hml, hown, hts⟩, hK, hsz, hE, hEm, hG9, hnL9, hrm9, hin0⟩ := C; subst hG9; subst hnL9; subst hrm9
  subst hpc; subst hws
  exact fun H locs ls hP hD hS h => va_iast hx hb hK hP hD hS q0 t0 ha ht hin d (fun H locs hP hD hS => k H locs ls hP hD hS h)
theorem zk_bast {a N : Nat} {cA : ClassId} {f : Nat → Int32} {i x : Int32} (C : zk_C X M G rm E) (q0 t0 : Nat) (ha : ws[q0]? = some (a, .inl (cA, N, .inl f))) (ht : G.2.2.2.1[t0]? = some (cA, .byte)) (hin : vp_in i N) (d : decode M.2.1 pc = .ok (.bastore, 1)) (hws : ws.set q0 (a, .inl (cA, N, .inl (upd f i.toNatClampNeg (vp_nar .byte x)))) = ws') (hpc : pc + 1 = n) (k : zk_Ab X ws' cells slots n lv r) : zk_Ab X ws cells slots pc lv (.int x :: .int i :: .ref a :: r) := by
  obtain ⟨p, l, e, R, s, m, args, below, meth, c, Q, D, cl, tys, sz0, nL⟩ := X
  obtain ⟨⟨hx, hb, hml, hown, hts⟩, hK, hsz, hE, hEm, hG9, hnL9, hrm9, hin0⟩ := C; subst hG9; subst hnL9; subst hrm9
  subst hpc; subst hws
  exact fun H locs ls hP hD hS h => va_bast hx hb hK hP hD hS q0 t0 ha ht hin d (fun H locs hP hD hS => k H locs ls hP hD hS h)
theorem zk_zast {a N : Nat} {cA : ClassId} {f : Nat → Int32} {i x : Int32} (C : zk_C X M G rm E) (q0 t0 : Nat) (ha : ws[q0]? = some (a, .inl (cA, N, .inl f))) (ht : G.2.2.2.1[t0]? = some (cA, .boolean)) (hin : vp_in i N) (d : decode M.2.1 pc = .ok (.bastore, 1)) (hws : ws.set q0 (a, .inl (cA, N, .inl (upd f i.toNatClampNeg (vp_nar .boolean x)))) = ws') (hpc : pc + 1 = n) (k : zk_Ab X ws' cells slots n lv r) : zk_Ab X ws cells slots pc lv (.int x :: .int i :: .ref a :: r) := by
  obtain ⟨p, l, e, R, s, m, args, below, meth, c, Q, D, cl, tys, sz0, nL⟩ := X
  obtain ⟨⟨hx, hb, hml, hown, hts⟩, hK, hsz, hE, hEm, hG9, hnL9, hrm9, hin0⟩ := C; subst hG9; subst hnL9; subst hrm9
  subst hpc; subst hws
  exact fun H locs ls hP hD hS h => va_zast hx hb hK hP hD hS q0 t0 ha ht hin d (fun H locs hP hD hS => k H locs ls hP hD hS h)
theorem zk_cast {a N : Nat} {cA : ClassId} {f : Nat → Int32} {i x : Int32} (C : zk_C X M G rm E) (q0 t0 : Nat) (ha : ws[q0]? = some (a, .inl (cA, N, .inl f))) (ht : G.2.2.2.1[t0]? = some (cA, .char)) (hin : vp_in i N) (d : decode M.2.1 pc = .ok (.castore, 1)) (hws : ws.set q0 (a, .inl (cA, N, .inl (upd f i.toNatClampNeg (vp_nar .char x)))) = ws') (hpc : pc + 1 = n) (k : zk_Ab X ws' cells slots n lv r) : zk_Ab X ws cells slots pc lv (.int x :: .int i :: .ref a :: r) := by
  obtain ⟨p, l, e, R, s, m, args, below, meth, c, Q, D, cl, tys, sz0, nL⟩ := X
  obtain ⟨⟨hx, hb, hml, hown, hts⟩, hK, hsz, hE, hEm, hG9, hnL9, hrm9, hin0⟩ := C; subst hG9; subst hnL9; subst hrm9
  subst hpc; subst hws
  exact fun H locs ls hP hD hS h => va_cast hx hb hK hP hD hS q0 t0 ha ht hin d (fun H locs hP hD hS => k H locs ls hP hD hS h)
theorem zk_last {a N : Nat} {cA : ClassId} {f : Nat → Int64} {i : Int32} {x : Int64} (C : zk_C X M G rm E) (q0 t0 : Nat) (ha : ws[q0]? = some (a, .inl (cA, N, .inr (.inl f)))) (ht : G.2.2.2.1[t0]? = some (cA, .long)) (hin : vp_in i N) (d : decode M.2.1 pc = .ok (.lastore, 1)) (hws : ws.set q0 (a, .inl (cA, N, .inr (.inl (vp_updL f i.toNatClampNeg x)))) = ws') (hpc : pc + 1 = n) (k : zk_Ab X ws' cells slots n lv r) : zk_Ab X ws cells slots pc lv (.long x :: .int i :: .ref a :: r) := by
  obtain ⟨p, l, e, R, s, m, args, below, meth, c, Q, D, cl, tys, sz0, nL⟩ := X
  obtain ⟨⟨hx, hb, hml, hown, hts⟩, hK, hsz, hE, hEm, hG9, hnL9, hrm9, hin0⟩ := C; subst hG9; subst hnL9; subst hrm9
  subst hpc; subst hws
  exact fun H locs ls hP hD hS h => va_last hx hb hK hP hD hS q0 t0 ha ht hin d (fun H locs hP hD hS => k H locs ls hP hD hS h)
theorem zk_alen {a : Nat} {cA : ClassId} {x : vp_A} {ty : FieldType} {v : Int32} (C : zk_C X M G rm E) (q0 t0 : Nat) (ha : ws[q0]? = some (a, .inl (cA, x))) (ht : G.2.2.2.1[t0]? = some (cA, ty)) (hv : Int32.ofNat x.1 = v) (d : decode M.2.1 pc = .ok (.arraylength, 1)) (hpc : pc + 1 = n) (k : zk_Ab X ws cells slots n lv (.int v :: r)) : zk_Ab X ws cells slots pc lv (.ref a :: r) := by
  obtain ⟨p, l, e, R, s, m, args, below, meth, c, Q, D, cl, tys, sz0, nL⟩ := X
  obtain ⟨⟨hx, hb, hml, hown, hts⟩, hK, hsz, hE, hEm, hG9, hnL9, hrm9, hin0⟩ := C; subst hG9; subst hnL9; subst hrm9
  subst hpc
  exact fun H locs ls hP hD hS h => va_alen hx hb hK hP q0 t0 ha ht hv d (k H locs ls hP hD hS h)
theorem zk_new {c1 s1 : Nat} {C0 : String} {T : u_T} {N ci index : Nat} {fs : List Value} (C : zk_C X M G rm E) (hin : ∀ w ∈ u_ws C0 T N, w ∈ zk_BW) (ty0 : Nat → FieldType) (hty : ∀ k, k < N → parseFieldDescriptor (T k).2.2.1 = some (ty0 k)) (hcl : Cond.classLink M.1.cls index C0 ∈ zk_BW) (hinst : Cond.instantiable C0 N ∈ zk_BW) (hini : Cond.initialized C0 ∈ zk_BW) (hc : G.2.2.1[ci]? = some (C0, T, N)) (hfs : ∀ j, j < N → defaultValue (ty0 j) = vp_V fs j) (h1 : cells + 1 ≤ rm.cells) (h2 : slots + N ≤ rm.slots) (d : decode M.2.1 pc = .ok (.new index, 3)) (hpc : pc + 3 = n) (hc1 : cells + 1 = c1) (hs1 : slots + N = s1) (k : ∀ q : Nat, zk_Ab X (ws ++ [(q, .inr (ci, fs))]) c1 s1 n lv (.ref q :: r)) : zk_Ab X ws cells slots pc lv r := by
  obtain ⟨p, l, e, R, s, m, args, below, meth, c, Q, D, cl, tys, sz0, nL⟩ := X
  obtain ⟨⟨hx, hb, hml, hown, hts⟩, hK, hsz, hE, hEm, hG9, hnL9, hrm9, hin0⟩ := C; subst hG9; subst hnL9; subst hrm9
  subst hpc; subst hc1; subst hs1
  exact fun H locs ls hP hD hS h => va_new hx hb hts hin ty0 hty hown (hts _ hcl) (hts _ hinst) (hts _ hini) hK hP hD hS (fun q hq => Nat.le_trans hsz hq) hc hfs h1 h2 d (fun q H hP hD hS => k q H locs ls hP hD hS h)
theorem zk_newa {c1 s1 : Nat} {atype : ArrayType} {ty : FieldType} {cA : ClassId} {x : Int32} {N : Nat} {a0 : vp_A} (C : zk_C X M G rm E) (harr : Cond.arrayClass ty ∈ zk_BW) (hty : newarray.typeOf atype = ty) (t0 : Nat) (ht : G.2.2.2.1[t0]? = some (cA, ty)) (ha : ∀ cA : ClassId, vp_cell cA a0 = arrV cA N (fun _ => defaultValue ty)) (hn : ¬ x < 0) (hN : x.toNatClampNeg = N) (hbytes : N * componentBytes ty ≤ 536870912) (h1 : cells + 1 ≤ rm.cells) (h2 : slots + N ≤ rm.slots) (d : decode M.2.1 pc = .ok (.newarray atype, 2)) (hpc : pc + 2 = n) (hc1 : cells + 1 = c1) (hs1 : slots + N = s1) (k : ∀ q : Nat, zk_Ab X (ws ++ [(q, .inl (cA, a0))]) c1 s1 n lv (.ref q :: r)) : zk_Ab X ws cells slots pc lv (.int x :: r) := by
  obtain ⟨p, l, e, R, s, m, args, below, meth, c, Q, D, cl, tys, sz0, nL⟩ := X
  obtain ⟨⟨hx, hb, hml, hown, hts⟩, hK, hsz, hE, hEm, hG9, hnL9, hrm9, hin0⟩ := C; subst hG9; subst hnL9; subst hrm9
  subst hpc; subst hty; subst hc1; subst hs1
  refine fun H locs ls hP hD hS h => va_newa hx hb (hts _ harr) rfl hK hP hD hS (fun q hq => Nat.le_trans hsz hq) ha hn hN hbytes h1 h2 d (fun q cA' H hK' hP hD hS => ?_)
  have e1 : cA' = cA := by
    have h3 := (hK'.2 tys.length (cA', newarray.typeOf atype) (by simp)).2
    have h4 := (hK.2 t0 _ ht).2
    cases atype <;> exact Option.some.inj (Eq.trans (Eq.symm h3) h4)
  subst e1
  exact k q H locs ls hP hD hS h
/-- behind a call -/
theorem zk_after {p : Program} {l : Launch} {e : Env} {R : Room} {s : State} {m : MethodId} {args : Array Value} {below : List Frame} {meth : Method} {c : Code} {H : Heap} {locs : List Loc} {Q : State → Prop} {D : va_G} {cl : List vw_C} {sz0 mc ms : Nat} {ls : Array Slot} {st0 rest : List Value} {a : Array Value} {Post : Option Value → va_W → Prop}
    (hr : va_Run p l e R s m args below meth c H locs cells slots mc ms (F0 m pc ls st0) rest (zk_Qc Post D cl sz0 a) (zk_A sz0)) (hS : va_S (zk_A sz0) s.heap H locs)
    (kk : ∀ (v : Option Value) (w : va_W), Post v w → ∀ (H1 : Heap) (locs1 : List Loc), va_P D cl w H1 → va_D (zk_A sz0) w → va_S (zk_A sz0) s.heap H1 locs1 → W p l e R s m args below meth c H1 locs1 (cells + mc) (slots + ms) Q (F0 m (pc + 3) ls (v.toList ++ rest))) : W p l e R s m args below meth c H locs cells slots Q (F0 m pc ls st0) := by
  intro T hT X
  obtain ⟨v, st₀, t, T', L, h0, X', hL, e1, e2, ⟨⟨v', w, hv, hp, hP1, hD1⟩, hz, hk⟩, st⟩ := hr T hT X
  cases hv
  rw [h0] at hz hk
  obtain ⟨t2, a1, b1⟩ := kk v w hp T'.heap (locs ++ L) (by rw [e1]; exact hP1) hD1 ⟨Nat.le_trans hS.1 (by rw [e1]; exact hz), fun q h1 h2 => by rw [e1, hk q (Nat.lt_of_lt_of_le h1 hS.1) h2]; exact hS.2.1 q h1 h2, fun q hq => by
      rcases List.mem_append.mp hq with h | h
      · exact hS.2.2 q h
      · exact hL q h⟩ T' rfl X'
  exact ⟨t2, st t2 a1, b1⟩
theorem zk_blind {av : List Value} {D : va_G} {cl : List vw_C} {tys : List (ClassId × FieldType)} {sz0 : Nat} (hEm : zk_Em E) : FrameBlind (zk_Pc av E D cl tys sz0 ws) := fun a U g mk q => by
  obtain ⟨q0, qP, qK, qD, qs, qE⟩ := q
  exact ⟨q0, qP, va_K.moved (u := U) (U := U.calling g mk a) (Vm.Alike.refl U.vm) qK, qD, qs, hEm _ U (U.calling g mk a) (State.WarmedH.refl U) (fun _ _ => rfl) qE⟩
theorem zk_pre {s : State} {H : Heap} {locs : List Loc} {av : List Value} {D : va_G} {cl : List vw_C} {tys : List (ClassId × FieldType)} {sz0 : Nat} (hK : va_K D cl tys s) (hsz : sz0 ≤ s.heap.size) (hE : E sz0 s) (hEm : zk_Em E) (hP : va_P D cl ws H) (hD : va_D (zk_A sz0) ws) (hS : va_S (zk_A sz0) s.heap H locs) : PreS s H (zk_Pc av E D cl tys sz0 ws) av :=
  ⟨zk_blind hEm, fun U hU hW => ⟨rfl, by rw [hU]; exact hP, va_K.moved hW.alike hK, hD, by rw [hU]; exact Nat.le_trans hsz hS.1, hEm _ s U hW (fun a ha => by rw [hU]; exact hS.2.1 a (Nat.lt_of_lt_of_le ha hsz) (Nat.not_le.mpr ha)) hE⟩⟩
theorem zk_callV {T : u_T} {N0 ci : Nat} {fs : List Value} {b : Nat} {N : zk_MT} {rn : Room} {index : Nat} {As rest st : List Value} {Post : Option Value → va_W → Prop} {c1 s1 : Nat} (C : zk_C X M G rm E) (hSp : zk_Sp G E N rn (.ref b :: As) ws Post) (hM : zk_My N) (hl : Cond.methodLink M.1.cls index N.1 ∈ zk_BW) (hv : zk_Mv N) (hn : As.length = N.2.2.2.2) (hR : rn.frames + 1 ≤ rm.frames ∧ 8 + (N.2.2.1 + 11) + rn.locals ≤ rm.locals) (hf : cells + rn.cells ≤ rm.cells ∧ slots + rn.slots ≤ rm.slots) (q0 : Nat) (he : ws[q0]? = some (b, .inr (ci, fs))) (hc : G.2.2.1[ci]? = some (N.1.cls, T, N0)) (hst : st = As.reverse ++ .ref b :: rest) (hrm : (rest.map fun v => v.category).sum ≤ 8) (d : decode M.2.1 pc = .ok (.invokevirtual index, 3)) (hpc : pc + 3 = n) (hc1 : cells + rn.cells = c1) (hs1 : slots + rn.slots = s1) (k : ∀ (v : Option Value) (w : va_W), Post v w → zk_Ab X w c1 s1 n lv (v.toList ++ rest)) : zk_Ab X ws cells slots pc lv st := by
  obtain ⟨p, l, e, R, s, m, args, below, meth, c, Q, D, cl, tys, sz0, nL⟩ := X
  obtain ⟨⟨hx, hb, hml, hown, hts⟩, hK, hsz, hE, hEm, hG9, hnL9, hrm9, hin0⟩ := C; subst hG9; subst hnL9; subst hrm9
  subst hpc; subst hst; subst hc1; subst hs1
  exact fun H locs ls hP hD hS h => zk_after (va_runV (As := As) (rest := rest) ⟨hx, hb, hml, hown, hts⟩ hSp (cwV N.2.2.2.2 hts (zk_goodV hM hv hl) rfl rfl rfl ⟨rfl, hM.2.2.2⟩ hR) (⟨(zk_pre hK hsz hE hEm hP hD hS).1, va_recv hK hP hc he, (zk_pre hK hsz hE hEm hP hD hS).2⟩) rfl hn h.1 rfl (lv_room hrm) d hf) hS (fun v w hp H1 locs1 hP1 hD1 hS1 => k v w hp H1 locs1 ls hP1 hD1 hS1 h)
theorem zk_callS {N : zk_MT} {rn : Room} {index : Nat} {As rest st : List Value} {Post : Option Value → va_W → Prop} {c1 s1 : Nat} (C : zk_C X M G rm E) (hSp : zk_Sp G E N rn As ws Post) (hM : zk_My N) (hl : Cond.methodLink M.1.cls index N.1 ∈ zk_BW) (hs : Cond.static N.1 ∈ zk_BW) (hn : As.length = N.2.2.2.2) (hR : rn.frames + 1 ≤ rm.frames ∧ 8 + (N.2.2.1 + 11) + rn.locals ≤ rm.locals) (hf : cells + rn.cells ≤ rm.cells ∧ slots + rn.slots ≤ rm.slots) (hst : st = As.reverse ++ rest) (hrm : (rest.map fun v => v.category).sum ≤ 8) (d : decode M.2.1 pc = .ok (.invokestatic index, 3)) (hpc : pc + 3 = n) (hc1 : cells + rn.cells = c1) (hs1 : slots + rn.slots = s1) (k : ∀ (v : Option Value) (w : va_W), Post v w → zk_Ab X w c1 s1 n lv (v.toList ++ rest)) : zk_Ab X ws cells slots pc lv st := by
  obtain ⟨p, l, e, R, s, m, args, below, meth, c, Q, D, cl, tys, sz0, nL⟩ := X
  obtain ⟨⟨hx, hb, hml, hown, hts⟩, hK, hsz, hE, hEm, hG9, hnL9, hrm9, hin0⟩ := C; subst hG9; subst hnL9; subst hrm9
  subst hpc; subst hst; subst hc1; subst hs1
  exact fun H locs ls hP hD hS h => zk_after (va_runS (As := As) (rest := rest) ⟨hx, hb, hml, hown, hts⟩ hSp (va_cwS N.2.2.2.2 hts (zk_goodS hM hs hl) rfl rfl rfl hM.2.2.2 hR) (zk_pre hK hsz hE hEm hP hD hS) rfl hn h.1 rfl (lv_room hrm) d hf) hS (fun v w hp H1 locs1 hP1 hD1 hS1 => k v w hp H1 locs1 ls hP1 hD1 hS1 h)
theorem zk_callI {b : Nat} {N : zk_MT} {rn : Room} {index : Nat} {As rest st : List Value} {Post : Option Value → va_W → Prop} {c1 s1 : Nat} (C : zk_C X M G rm E) (hSp : zk_Sp G E N rn (.ref b :: As) ws Post) (hM : zk_My N) (hl : Cond.methodLink M.1.cls index N.1 ∈ zk_BW) (hret : N.2.2.2.1 = none) (hinm : Cond.instanceMethod N.1 ∈ zk_BW) (hy1 : N.1.name = "<init>") (hn : As.length = N.2.2.2.2) (hR : rn.frames + 1 ≤ rm.frames ∧ 8 + (N.2.2.1 + 11) + rn.locals ≤ rm.locals) (hf : cells + rn.cells ≤ rm.cells ∧ slots + rn.slots ≤ rm.slots) (hst : st = As.reverse ++ .ref b :: rest) (hrm : (rest.map fun v => v.category).sum ≤ 8) (d : decode M.2.1 pc = .ok (.invokespecial index, 3)) (hpc : pc + 3 = n) (hc1 : cells + rn.cells = c1) (hs1 : slots + rn.slots = s1) (k : ∀ (v : Option Value) (w : va_W), Post v w → zk_Ab X w c1 s1 n lv (v.toList ++ rest)) : zk_Ab X ws cells slots pc lv st := by
  obtain ⟨p, l, e, R, s, m, args, below, meth, c, Q, D, cl, tys, sz0, nL⟩ := X
  obtain ⟨⟨hx, hb, hml, hown, hts⟩, hK, hsz, hE, hEm, hG9, hnL9, hrm9, hin0⟩ := C; subst hG9; subst hnL9; subst hrm9
  obtain ⟨y, bytes, maxL, ret, np⟩ := N
  change ret = none at hret
  subst hret
  subst hpc; subst hst; subst hc1; subst hs1
  exact fun H locs ls hP hD hS h => zk_after (va_runI (As := As) (rest := rest) ⟨hx, hb, hml, hown, hts⟩ hSp (cwI np hts (zk_goodC hM) rfl rfl rfl (hts _ hM.2.1) (hts _ hl) (hts _ hinm) hy1 hM.2.2.2 hR) (zk_pre hK hsz hE hEm hP hD hS) rfl hn h.1 rfl (lv_room hrm) d hf) hS (fun v w hp H1 locs1 hP1 hD1 hS1 => k v w hp H1 locs1 ls hP1 hD1 hS1 h)
theorem zk_objInit {a idx : Nat} (C : zk_C X M G rm E) (hlk : Cond.methodLink M.1.cls idx objectInit ∈ zk_BW) (hinm : Cond.instanceMethod objectInit ∈ zk_BW) (hcode : Cond.code objectInit ⟨#[0xb1]⟩ 1 none ∈ zk_BW) (d : decode M.2.1 pc = .ok (.invokespecial idx, 3)) (hpc : pc + 3 = n) (h1 : 1 ≤ rm.frames) (h2 : 12 ≤ rm.locals) (hnn : r = []) (k : zk_Ab X ws cells slots n lv r) : zk_Ab X ws cells slots pc lv (.ref a :: r) := by
  obtain ⟨p, l, e, R, s, m, args, below, meth, c, Q, D, cl, tys, sz0, nL⟩ := X
  obtain ⟨⟨hx, hb, hml, hown, hts⟩, hK, hsz, hE, hEm, hG9, hnL9, hrm9, hin0⟩ := C; subst hG9; subst hnL9; subst hrm9
  subst hpc; subst hnn
  intro H locs ls hP hD hS h
  refine W.objInit hx hb hown (hts _ hlk) (hts _ hinm) (hts _ hcode) rfl (by rw [hml]; exact h.1) rfl d h1 (by show 2 * 0 + 0 + 12 ≤ _; omega) ?_
  exact W.eq (g2 := F0 m (pc + 3) ls []) rfl (k H locs ls hP hD hS h)
end ZK2
theorem zk_ap {ws0 l : va_W} {x : Nat × va_E} (j : Nat) (h : l[j]? = some x) : (ws0 ++ l)[ws0.length + j]? = some x := by
  rw [List.getElem?_append_right (Nat.le_add_right _ _), Nat.add_sub_cancel_left]; exact h
theorem zk_apS {ws0 l l' : va_W} {x : Nat × va_E} (j : Nat) (h : l.set j x = l') : (ws0 ++ l).set (ws0.length + j) x = ws0 ++ l' := by
  rw [List.set_append_right _ _ (Nat.le_add_right _ _), Nat.add_sub_cancel_left, h]
theorem zk_apE {ws0 l l' : va_W} {x : Nat × va_E} (h : l ++ [x] = l') : ws0 ++ l' = (ws0 ++ l) ++ [x] := by rw [← h, List.append_assoc]
theorem zk_zi (n : Nat) (cA : ClassId) : vp_cell cA (n, .inl (fun _ => (0 : Int32))) = arrV cA n (fun _ => Value.int 0) := by rw [vp_cell_i]
theorem zk_zl (n : Nat) (cA : ClassId) : vp_cell cA (n, .inr (.inl (fun _ => (0 : Int64)))) = arrV cA n (fun _ => Value.long 0) := by rw [vp_cell_l]
abbrev zk_TY (cI cB cC cZ cJ : ClassId) : List (ClassId × FieldType) := [(cI, .int), (cB, .byte), (cC, .char), (cZ, .boolean), (cJ, .long)]
theorem zk_inU {ws : List Cond} (idx : List Nat) (h : ws = idx.filterMap (fun i => tables_1[i]?)) (g : ws.all goodWord = true) : ∀ w ∈ ws, w ∈ zk_BW := fun w hw => by
  have g1 := List.all_eq_true.mp g w hw
  rw [h] at hw
  obtain ⟨i, -, hi⟩ := List.mem_filterMap.mp hw
  exact zk_inT i hi g1
