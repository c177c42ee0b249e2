def R_law : String := "PlantKeeperLaw"
def lw_P (b : Addr) (xs : List Int32) (args : Array Value) (s : State) : Prop := args = #[.ref b] ∧ s.IntsAt b xs ∧ xs.length ≤ 3072 ∧ (Jvm.Cond.and given_1 narrow_1).before args s = true
def lw_Q (_ : Array Value) (s : State) (o : Outcome) (t : State) : Prop := o = .returned (some (.int 1)) ∧ Framed s o t [] 600000 7302249
def lw_Z (below : List Frame) (a : Array Value) (s : State) : State → Prop := fun t => ∃ o, t.status = .running ∧ Ended t below o ∧ lw_Q a s o t
/-- the law's own end, with 1 on the stack, nothing written that was there before, its room as the claim has it -/
theorem lw_ret {p : Program} {l : Launch} {e : Env} {s : State} {m : MethodId} {below : List Frame} {meth : Method} {c : Code} {b : Nat} (hx : p.tables.exec = Jvm.exec) (hb : c.code = code) (hr : meth.sig.returnType = ret) (hlocks : meth.locks = false) {pc : Nat} {H : Heap} {ls : Array Slot} (hdg : decode code pc = .ok (.ireturn, 1)) : W p l e room_1 s m #[Value.ref b] below meth c H [] 600000 7302249 (lw_Z below #[Value.ref b] s) (F0 m pc ls [.int 1]) := by
  intro T hT X
  obtain ⟨fs, hret, hrun, hended, hW, hframe⟩ := X.leave (v := some (.int 1)) (hlocks := hlocks) (fun h => by rw [hr] at h; cases h)
  have hmeth' : T.vm.method? m = some meth := X.method'
  refine ⟨T.setFrames fs, ?_, .returned (some (.int 1)), hrun, hended, rfl, ⟨_, rfl⟩, hW, hframe⟩
  jvm_step X.here [X.here.top, hx, hb, hdg, hmeth', hr, ret, narrow_b1]
  (try refine ⟨rfl, ?_⟩); (try refine ⟨rfl, ?_⟩)
  first | (intro acts; rw [hret _ acts rfl rfl rfl]) | rw [hret _ _ rfl rfl rfl]
  exact Steps.refl _
/-- what holds at the law's entry: the machine, the code, the tables' words (any of lw_tbl by 'hts w (by decide +kernel)'), the script of L ints xs at the cell b, what the Statement gives of the start (any of its parts by flat_of_before) -/
def lw_At (p : Program) (s : State) (m : MethodId) (meth : Method) (c : Code) (b L : Nat) (xs : Nat → Int32) : Prop :=
  p.tables.exec = Jvm.exec ∧ c.code = code ∧ meth.sig.returnType = ret ∧ c.maxLocals = 4 ∧ s.vm.findClass R_law = some m.cls ∧ (∀ w ∈ lw_tbl, w.before #[Value.ref b] s = true) ∧ va_X b L xs s s.heap ∧ b < s.heap.size ∧ meth.locks = false ∧ (Jvm.Cond.and given_1 narrow_1).before #[Value.ref b] s = true
/-- the law's end -/
theorem jz_ret {p : Program} {l : Launch} {e : Env} {s : State} {m : MethodId} {below : List Frame} {meth : Method} {c : Code} {b : Nat} {D : va_G} {cl : List vw_C} {tys : List (ClassId × FieldType)} {ws : va_W} {cells slots pc : Nat} {lv : List (Nat × Value)} (hx : p.tables.exec = Jvm.exec) (hb : c.code = code) (hr : meth.sig.returnType = ret) (hlocks : meth.locks = false) (h1 : cells ≤ 600000) (h2 : slots ≤ 7302249) (d : decode code pc = .ok (.ireturn, 1)) : zk_Ab (p, l, e, room_1, s, m, #[Value.ref b], below, meth, c, lw_Z below #[Value.ref b] s, D, cl, tys, s.heap.size, 4) ws cells slots pc lv [.int 1] := by
  intro H locs ls hP hD hS h
  refine va_forget (fun q hq => hS.2.2 q hq) ?_
  refine W.widen h1 h2 ?_
  exact lw_ret hx hb hr hlocks d
/-- the array class of a kind -/
theorem jz_arr {args : Array Value} {s : State} {ty : FieldType} (hp : ∀ C, ty ≠ .object C) (h : (Cond.arrayClass ty).before args s = true) : ∃ cA : ClassId, ArrOfT s cA ty ∧ va_RA s cA ty := by
  obtain ⟨cA, kA, comp, h1, h2, h3⟩ := Cond.arrayClass_spec h
  refine ⟨cA, fun n z => ⟨fun k h => (by cases h), kA, h2, comp, h3⟩, ?_⟩
  cases ty with
  | object C => exact absurd rfl (hp C)
  | _ => exact h1
set_option maxHeartbeats 4000000 in
set_option maxRecDepth 100000 in
theorem whole_start {p : Program} {e : Env} {s : State} {m : MethodId} {below : List Frame} {meth : Method} {c : Code} (l : Launch) {b L : Nat} {xs : Nat → Int32} (hL : L ≤ 3072) (C0 : lw_At p s m meth c b L xs) : W p l e room_1 s m #[Value.ref b] below meth c s.heap [] 0 0 (lw_Z below #[Value.ref b] s) (entryFrame m ([Value.ref b] : List Value).toArray 4) := by
  obtain ⟨hx, hb, hr, hml, hown, hts, hX, hbl, hlocks, hgv⟩ := id C0
  obtain ⟨P, hE⟩ := jz_env hts hgv
  obtain ⟨c0, i0, k0⟩ := u_known (C := kr_Pk) (T := kt_Pk) (N := 16) (n := 16) (fun w h => hts w (List.mem_filter.mp h).1) ki_Pk (jz_w hts 23 (by decide +kernel))
  obtain ⟨c1, i1, k1⟩ := u_known (C := kr_Nm) (T := kt_Nm) (N := 6) (n := 6) (fun w h => hts w (List.mem_filter.mp h).1) ki_Nm (jz_w hts 31 (by decide +kernel))
  obtain ⟨c2, i2, k2⟩ := u_known (C := kr_Tk) (T := kt_Tk) (N := 8) (n := 8) (fun w h => hts w (List.mem_filter.mp h).1) ki_Tk (jz_w hts 113 (by decide +kernel))
  obtain ⟨c3, i3, k3⟩ := u_known (C := kr_Tr) (T := kt_Tr) (N := 7) (n := 7) (fun w h => hts w (List.mem_filter.mp h).1) ki_Tr (jz_w hts 149 (by decide +kernel))
  obtain ⟨c4, i4, k4⟩ := u_known (C := kr_Ps) (T := kt_Ps) (N := 8) (n := 8) (fun w h => hts w (List.mem_filter.mp h).1) ki_Ps (jz_w hts 195 (by decide +kernel))
  obtain ⟨c5, i5, k5⟩ := u_known (C := kr_Pl) (T := kt_Pl) (N := 21) (n := 21) (fun w h => hts w (List.mem_filter.mp h).1) ki_Pl (jz_w hts 227 (by decide +kernel))
  obtain ⟨c6, i6, k6⟩ := u_known (C := kr_Jd) (T := kt_Jd) (N := 14) (n := 14) (fun w h => hts w (List.mem_filter.mp h).1) ki_Jd (jz_w hts 345 (by decide +kernel))
  obtain ⟨c7, i7, k7⟩ := u_known (C := kr_Cd) (T := kt_Cd) (N := 7) (n := 7) (fun w h => hts w (List.mem_filter.mp h).1) ki_Cd (jz_w hts 396 (by decide +kernel))
  obtain ⟨c8, i8, k8⟩ := u_known (C := kr_Cr) (T := kt_Cr) (N := 12) (n := 12) (fun w h => hts w (List.mem_filter.mp h).1) ki_Cr (jz_w hts 437 (by decide +kernel))
  obtain ⟨c9, i9, k9⟩ := u_known (C := kr_Pv) (T := kt_Pv) (N := 8) (n := 8) (fun w h => hts w (List.mem_filter.mp h).1) ki_Pv (jz_w hts 480 (by decide +kernel))
  obtain ⟨c10, i10, k10⟩ := u_known (C := kr_Mc) (T := kt_Mc) (N := 21) (n := 21) (fun w h => hts w (List.mem_filter.mp h).1) ki_Mc (jz_w hts 513 (by decide +kernel))
  obtain ⟨c11, i11, k11⟩ := u_known (C := kr_Ln) (T := kt_Ln) (N := 6) (n := 6) (fun w h => hts w (List.mem_filter.mp h).1) ki_Ln (jz_w hts 592 (by decide +kernel))
  obtain ⟨c12, i12, k12⟩ := u_known (C := kr_Mo) (T := kt_Mo) (N := 96) (n := 96) (fun w h => hts w (List.mem_filter.mp h).1) ki_Mo (jz_w hts 1676 (by decide +kernel))
  obtain ⟨c13, i13, k13⟩ := u_known (C := kr_St) (T := kt_St) (N := 4) (n := 4) (fun w h => hts w (List.mem_filter.mp h).1) ki_St (jz_w hts 2393 (by decide +kernel))
  obtain ⟨dC, dI, hKc⟩ : ∃ (dC : Nat → ClassId) (dI : Nat → Nat → Nat), ∀ (k : Nat) (q : vw_C), zk_cls[k]? = some q → u_Kn s q.1 q.2.1 q.2.2 (dC k) (dI k) := by
    refine ⟨fun k => [c0, c1, c2, c3, c4, c5, c6, c7, c8, c9, c10, c11, c12, c13].getD k c0, fun k => [i0, i1, i2, i3, i4, i5, i6, i7, i8, i9, i10, i11, i12, i13].getD k i0, ?_⟩
    intro k q hq
    match k, hq with
    | 0, hq => obtain rfl : _ = q := Option.some.inj hq; exact k0
    | 1, hq => obtain rfl : _ = q := Option.some.inj hq; exact k1
    | 2, hq => obtain rfl : _ = q := Option.some.inj hq; exact k2
    | 3, hq => obtain rfl : _ = q := Option.some.inj hq; exact k3
    | 4, hq => obtain rfl : _ = q := Option.some.inj hq; exact k4
    | 5, hq => obtain rfl : _ = q := Option.some.inj hq; exact k5
    | 6, hq => obtain rfl : _ = q := Option.some.inj hq; exact k6
    | 7, hq => obtain rfl : _ = q := Option.some.inj hq; exact k7
    | 8, hq => obtain rfl : _ = q := Option.some.inj hq; exact k8
    | 9, hq => obtain rfl : _ = q := Option.some.inj hq; exact k9
    | 10, hq => obtain rfl : _ = q := Option.some.inj hq; exact k10
    | 11, hq => obtain rfl : _ = q := Option.some.inj hq; exact k11
    | 12, hq => obtain rfl : _ = q := Option.some.inj hq; exact k12
    | 13, hq => obtain rfl : _ = q := Option.some.inj hq; exact k13
    | k + 14, hq => exact absurd hq (by simp [zk_cls])
  obtain ⟨cI, hcI⟩ := jz_arr (ty := .int) (fun _ h => by cases h) (jz_w hts 111 (by decide +kernel))
  obtain ⟨cB, hcB⟩ := jz_arr (ty := .byte) (fun _ h => by cases h) (jz_w hts 110 (by decide +kernel))
  obtain ⟨cC, hcC⟩ := jz_arr (ty := .char) (fun _ h => by cases h) (jz_w hts 147 (by decide +kernel))
  obtain ⟨cZ, hcZ⟩ := jz_arr (ty := .boolean) (fun _ h => by cases h) (jz_w hts 394 (by decide +kernel))
  obtain ⟨cJ, hcJ⟩ := jz_arr (ty := .long) (fun _ h => by cases h) (jz_w hts 511 (by decide +kernel))
  have hK : va_K (dC, dI) zk_cls (zk_TY cI cB cC cZ cJ) s := by
    refine ⟨hKc, fun k q hq => ?_⟩
    match k, hq with
    | 0, hq => obtain rfl : _ = q := Option.some.inj hq; exact hcI
    | 1, hq => obtain rfl : _ = q := Option.some.inj hq; exact hcB
    | 2, hq => obtain rfl : _ = q := Option.some.inj hq; exact hcC
    | 3, hq => obtain rfl : _ = q := Option.some.inj hq; exact hcZ
    | 4, hq => obtain rfl : _ = q := Option.some.inj hq; exact hcJ
    | k + 5, hq => exact absurd hq (by simp [zk_TY])
  have hl := lv_entry ([.ref b]) (n := 4) (Nat.le_of_ble_eq_true rfl)
  rw [lg_entry_eq]
  have hs0 : jz_scr (p, l, e, room_1, s, m, #[Value.ref b], below, meth, c, lw_Z below #[Value.ref b] s, (dC, dI), zk_cls, zk_TY cI cB cC cZ cJ, s.heap.size, 4) b L xs := ⟨hX, hbl, Nat.not_le.mpr hbl⟩
  have hC0 : zk_C (p, l, e, room_1, s, m, #[Value.ref b], below, meth, c, lw_Z below #[Value.ref b] s, (dC, dI), zk_cls, zk_TY cI cB cC cZ cJ, s.heap.size, 4) km_law (l, (dC, dI), zk_cls, zk_TY cI cB cC cZ cJ, s.heap.size) room_1 (ze_E P) := ⟨⟨hx, hb, hml, hown, fun w h => hts w (List.mem_filter.mp h).1⟩, hK, Nat.le_refl _, hE, ze_Em P, rfl, rfl, rfl, fun h => absurd h (by decide)⟩
  have hret : ∀ (ws : va_W) (cells slots : Nat) (lv : List (Nat × Value)), cells ≤ 600000 → slots ≤ 7302249 → zk_Ab (p, l, e, room_1, s, m, #[Value.ref b], below, meth, c, lw_Z below #[Value.ref b] s, (dC, dI), zk_cls, zk_TY cI cB cC cZ cJ, s.heap.size, 4) ws cells slots 483 lv [.int 1] := fun ws cells slots lv h1 h2 => jz_ret hx hb hr hlocks h1 h2 kd_law_483
  refine (?_ : zk_Ab (p, l, e, room_1, s, m, #[Value.ref b], below, meth, c, lw_Z below #[Value.ref b] s, (dC, dI), zk_cls, zk_TY cI cB cC cZ cJ, s.heap.size, 4) [] 0 0 0 [(0, .ref b)] []) s.heap [] _ (fun k q h => by simp at h) ⟨fun i j p q h => by simp at h, fun k q h => by simp at h⟩ va_S.rf hl
  generalize (p, l, e, room_1, s, m, #[Value.ref b], below, meth, c, lw_Z below #[Value.ref b] s, (dC, dI), zk_cls, zk_TY cI cB cC cZ cJ, s.heap.size, 4) = X at hs0 hC0 hret ⊢
  exact jz_main hL hC0 hs0 hret
-- ===== the rest of the skeleton =====
set_option maxHeartbeats 4000000 in
theorem lw_walk (l : Launch) (b : Addr) (xs : List Int32) : MetFree l x (headSpec (Jvm.Cond.code x code maxLocals ret :: tables_1) room_1) (lw_P b xs) (fun _ _ _ _ _ => True) lw_Q := by
  refine MetFree.of_bodyS (code := code) (maxLocals := maxLocals) (ret := ret) (by decide) ?_ ?_
  · intro args s m h hn
    obtain ⟨meth, c, h1, h2, h3, h4, h5, h6, -, -⟩ := Cond.code_spec hn (atoms_spec (ws := Jvm.Cond.code x code maxLocals ret :: tables_1) h _ List.mem_cons_self)
    exact ⟨meth, c, h1, h2, h3, h4, h5, h6⟩
  · intro p e s m args below meth c s₁ B hml0 hP _
    obtain ⟨rfl, hx, hbd, hgv⟩ := hP
    obtain ⟨scr, harrAt, hlist, hof, hsmall⟩ := hx
    obtain ⟨hcb, hkn, -, -⟩ := State.arrayAt?_spec harrAt
    have hown : s.vm.findClass R_law = some m.cls := findClass_of_methodNamed B.named
    have hts0 : ∀ c ∈ (Jvm.Cond.code x code maxLocals ret :: tables_1), c.before #[Value.ref b] s = true := atoms_spec (ws := Jvm.Cond.code x code maxLocals ret :: tables_1) B.pre
    have hts : ∀ w ∈ lw_tbl, w.before #[Value.ref b] s = true := k2_hts_sels lw_privs (fun w hw => hts0 w (List.mem_cons_of_mem _ hw)) lw_privs_ok
    have hml : c.maxLocals = 4 := B.maxLocals_eq (hts0 _ List.mem_cons_self)
    have X₀ : Stand p l e room_1 s m #[Value.ref b] below meth c s₁ [] 0 0 := Stand.of_body B
    have hh0 : s₁.heap = s.heap := by rw [B.state]; rfl
    have hsz : scr.slots.size = xs.length := by rw [← Array.length_toList, hlist, List.length_map]
    have hval : ∀ j : Nat, j < xs.length → scr.slots[j]? = some (.int (xs.getD j 0)) := fun j hj => by
      rw [← Array.getElem?_toList, hlist]
      simp [hj]
    have hbl : b < s.heap.size := (Array.getElem?_eq_some_iff.mp hcb).1
    have hX : va_X b xs.length (fun j => xs.getD j 0) s s.heap := ⟨scr, hcb, hof, hkn, hsz, hval⟩
    have K : W p l e room_1 s m #[Value.ref b] below meth c s₁.heap [] 0 0 (lw_Z below #[Value.ref b] s) (entryFrame m ([Value.ref b] : List Value).toArray 4) := by
      rw [hh0]
      exact whole_start l hbd ⟨B.exec, B.bytes, B.returns, hml, hown, hts, hX, hbl, B.notSynchronized, hgv⟩
    obtain ⟨t, a1, o, b1, b2, b3⟩ := K s₁ rfl X₀
    exact ⟨t, o, a1, b1, b2, b3⟩
theorem lw_pre_spec {args : Array Value} {s : State} (h : (Jvm.Cond.and given_1 narrow_1).before args s = true) (hr : rest_1_c.before args s = true) : ∃ (b : Addr) (xs : List Int32), lw_P b xs args s := by
  have hs := flat_of_before _ h
  have hq := flat_of_before _ hr
  have hc : (Cond.count 1).before args s = true := hs _ (by decide +kernel)
  have harr : (Cond.arrayOf (.arg 0) .int).before args s = true := hs _ (by decide +kernel)
  have hle : (Cond.le (.length (.arg 0)) (.int 3072)).before args s = true := hs _ (by decide +kernel)
  have hlen : (Cond.isInt (.length (.arg 0))).before args s = true := hq _ (by decide +kernel)
  have hall : (Cond.all (.arg 0) (.isInt (.elem (.arg 0) (.index 0)))).before args s = true := hq _ (by decide +kernel)
  obtain ⟨b, xs, hb, hx⟩ := State.ints_of_pre rfl harr hlen hall
  have hsm : xs.length < 2 ^ 31 := hx.choose_spec.2.2.2
  have hev : (Term.length (.arg 0)).eval args s none [] s = some (.int xs.length.toInt32) := hx.length_eval hb
  have hv := Cond.le_ints hev (show (Term.int 3072).eval args s none [] s = some (.int 3072) from rfl)
  have hd : xs.length.toInt32 ≤ 3072 := by
    simpa [Cond.before, Cond.holds, hv] using hle
  have hN : xs.length ≤ 3072 := (Int32.ofNat_le_ofNat hsm (by decide)).mp (show Int32.ofNat xs.length ≤ Int32.ofNat 3072 from hd)
  exact ⟨b, xs, Cond.one_arg hc (show args[0]? = some (.ref b) from hb), hx, hN, h⟩
theorem lw_comes (l : Launch) : Comes l x (Jvm.Cond.code x code maxLocals ret :: tables_1) room_1 (fun tb e args s => Calls_1 tb e args s ∧ rest_1 tb e args s ∧ Pre_1 tb e args s)
    (fun _ _ args s o t => lw_Q args s o t) := by
  intro p e ha hc hk s m args below hf hfit hheap happ hpre
  obtain ⟨b, xs, hP⟩ := lw_pre_spec hpre.2.2 hpre.2.1
  obtain ⟨k, o, h1, h2, h3, hQ⟩ := lw_walk l b xs p e ha hc hk s m args below hf ((Spec.applies_iff_loose hf).mp happ).1 hP trivial
  exact ⟨k, o, h1, h2, h3, hQ⟩
theorem lw_frame {s t : State} {o : Outcome} {args : Array Value} (h : Framed s o t [] 600000 7302249) :
    Framed s o t (fieldLocs frame_1_writes args s ++ arrayLocs frame_1_arrays args s ++ staticLocs frame_1_statics s) 600000 7302249 := h
theorem lw_limb (L : Cond) (hL : ∀ (args : Array Value) (s t : State), L.after args s (.returned (some (.int 1))) t = true) :
    ArmFor flags0 classFile x code maxLocals ret World_1 tables_1 room_1 Calls_1 rest_1 Pre_1
      (fun tb e a s o t => postC L tb e a s o t ∧ Framed s o t (fieldLocs frame_1_writes a s ++ arrayLocs frame_1_arrays a s ++ staticLocs frame_1_statics s) 600000 7302249) := by
  intro l _ _ _ p e ha hc hk s m args below hf hfit hheap happ hpre
  obtain ⟨k, o, h1, h2, h3, rfl, hF⟩ := lw_comes l p e ha hc hk s m args below hf hfit hheap happ hpre
  exact ⟨k, _, h1, h2, h3, hL args s _, lw_frame hF⟩
theorem i_vc : Claimed_1_1 ∧ Claimed_1_2 := ⟨lw_limb limb_1_1 (fun args s t => by simp [limb_1_1, Cond.after, Cond.holds, Cond.value]), lw_limb limb_1_2 (fun args s t => Cond.after_iff.mpr (by
  first | (rw [show limb_1_2 = Cond.eq .result (.int 1) from rfl, Cond.eq_ints (x := 1) (y := 1) rfl rfl]; simp; done) | (simp [limb_1_2, Cond.value, Term.eval]; done)))⟩

