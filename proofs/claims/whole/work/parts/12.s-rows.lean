theorem zd_no {α : Type} {r : α} {C : Prop} (e : none = some r) : C := by cases e
theorem zd_nI {j : Int32} {n : Nat} (q : zd_in j n) : nI j.toNatClampNeg = j := by
  obtain ⟨k, hk, rfl⟩ := nI_of q.1
  rw [nI_clamp hk]
theorem zd_charAt {G : zk_GT} {P : ze_T} (ws : va_W) (i : Nat) (hi : i < 22) (j : Int32) (q : zd_in j (ze_n i)) (hN : ze_n i < 2 ^ 31) : zk_Sp G (ze_E P) km_St_charAt { frames := 3, cells := 0, slots := 0, locals := 64 } [.ref (P.1 i), .int j] ws (fun v w => v = some (.int (ze_f i j.toNatClampNeg &&& 255)) ∧ w = ws) := by
  have h := cs_charAt (G := G) (P := P) ws i hi j.toNatClampNeg q.2 hN
  rw [zd_nI q] at h
  exact h
section ZCP
variable {X : zkj_T} {M : zk_MT} {G : zk_GT} {S : zs_T} {l : Launch} {D : va_G} {sz0 : Nat} {rm : Room} {E : Nat → State → Prop} {ws ws' : va_W} {h : zs_H} {cells slots pc n1 : Nat} {lv : List (Nat × Value)} {r : List Value}
theorem zk_copy {N a : Nat} {cA : ClassId} {f : Nat → Int32} {index : Nat} {sp dp n : Int32} (C : zk_C X M G rm E) (q0 t0 : Nat) (ha : ws[q0]? = some (a, .inl (cA, N, .inl f))) (ht : G.2.2.2.1[t0]? = some (cA, .int)) (hq : zs_cpok sp dp n N) (hl : Cond.methodLink M.1.cls index arraycopyName ∈ zk_BW) (hna : Cond.native arraycopyName ∈ zk_BW) (hst : Cond.static arraycopyName ∈ zk_BW) (hin : Cond.initialized "java/lang/System" ∈ zk_BW) (h1 : 1 ≤ rm.frames) (h2 : (r.map fun v => v.category).sum + (nativeFrameWords "java/lang/System" "arraycopy" 5 + 11) ≤ rm.locals) (d : decode M.2.1 pc = .ok (.invokestatic index, 3)) (hws : ws.set q0 (a, .inl (cA, N, .inl (va_cpy f f sp.toNatClampNeg dp.toNatClampNeg n.toNatClampNeg))) = ws') (hpc : pc + 3 = n1) (kk : zk_Ab X ws' cells slots n1 lv r) : zk_Ab X ws cells slots pc lv (.int n :: .int dp :: .ref a :: .int sp :: .ref a :: r) := by
  obtain ⟨p, l, e, R, s, m, args, below, meth, c, Q, D, cl, tys, sz0, nL⟩ := X
  obtain ⟨⟨hx, hb, hml, hown, hts⟩, hK, hsz, hE, hEm, hG9, hnL9, hrm9, hin0⟩ := C; subst hG9; subst hnL9; subst hrm9
  subst hpc; subst hws
  obtain ⟨q1, q2, q3, q4, q5⟩ := hq
  exact fun H locs ls hP hD hS h => va_copyi hx hb (hml.trans h.1.symm) hown (hts _ hl) (hts _ hna) (hts _ hst) (hts _ hin) hK hP hD hS q0 q0 t0 t0 ha ha ht ht rfl q1 q2 q3 q4 q5 (fun _ _ => rfl) h1 h2 d (fun H locs hP hD hS => kk H locs ls hP hD hS h)
theorem zs_copy {N : Nat} {index : Nat} {sp dp n : Int32} (C : zk_C X M (zs_G S l D sz0) rm E) (k : Nat) (hk : zs_sh[k]? = some (.inl (0, N))) (hq : zs_cpok sp dp n N) (hl : Cond.methodLink M.1.cls index arraycopyName ∈ zk_BW) (hna : Cond.native arraycopyName ∈ zk_BW) (hst : Cond.static arraycopyName ∈ zk_BW) (hin : Cond.initialized "java/lang/System" ∈ zk_BW) (h1 : 1 ≤ rm.frames) (h2 : (r.map fun v => v.category).sum + (nativeFrameWords "java/lang/System" "arraycopy" 5 + 11) ≤ rm.locals) (d : decode M.2.1 pc = .ok (.invokestatic index, 3)) (hpc : pc + 3 = n1) (kk : zk_Ab X (zs_W S (zs_cp h k sp.toNatClampNeg dp.toNatClampNeg n.toNatClampNeg)) cells slots n1 lv r) : zk_Ab X (zs_W S h) cells slots pc lv (.int n :: .int dp :: .ref (S.1 k) :: .int sp :: .ref (S.1 k) :: r) := by
  refine zk_copy C k 0 (zs_at hk) rfl hq hl hna hst hin h1 h2 d ?_ hpc kk
  refine zs_set hk (fun a ha => ⟨rfl, ?_, rfl⟩) ?_
  · funext b
    show _ = if a = k then _ else h.2.1 a b
    rw [if_neg ha]
  · have e1 : (zs_cp h k sp.toNatClampNeg dp.toNatClampNeg n.toNatClampNeg).2.1 k = va_cpy (h.2.1 k) (h.2.1 k) sp.toNatClampNeg dp.toNatClampNeg n.toNatClampNeg := by
      funext b
      show (if k = k then _ else _) = _
      rw [if_pos rfl]
    rw [e1]
    rfl
end ZCP
