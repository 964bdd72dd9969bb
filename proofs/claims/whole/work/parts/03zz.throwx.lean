section GXC
variable {p : Program} {l : Launch} {e : Env} {R : Room} {s V : State} {m : MethodId} {args : Array Value} {below : List Frame} {meth : Method} {c : Code} {cells slots : Nat}
/-- words of an exception's own kind: its constructor's link, its size, the methods it takes from Throwable, its fields -/
def gx_rest (own : String) (ic : Nat) (X : String) : List Cond :=
  [.instantiable X 6, .methodLink own ic (Bundle.initS X), .selects X Bundle.tFill Bundle.tFill, .selects X Bundle.tFill0 Bundle.tFill0] ++
  ([("backtrace", "Ljava/lang/Object;"), ("detailMessage", "Ljava/lang/String;"), ("suppressedExceptions", Bundle.listD), ("stackTrace", Bundle.steD), ("cause", "Ljava/lang/Throwable;")].map (fun x => Cond.lays X Bundle.tN x.1 x.2)) ++
  [.lays Bundle.tN Bundle.tN "backtrace" "Ljava/lang/Object;", .fieldLink Bundle.tN 198 Bundle.tN "backtrace" "Ljava/lang/Object;", .isRef (.static Bundle.tN "SUPPRESSED_SENTINEL" Bundle.listD), .isRef (.static Bundle.tN "UNASSIGNED_STACK" Bundle.steD)]
/-- all that is asked: X's constructor hands its text to n1's by entry ix, n1's and those above by the usual entry -/
def gx_ws (own : String) (ic : Nat) (X : String) (ix : Nat) (rx : ByteArray) (n1 : String) (ns : List String) : List Cond :=
  gx_rest own ic X ++ (Bundle.passSAtoms X n1 ix rx ++ (Bundle.chainSAtoms n1 ns ++ (Bundle.throwableAtoms ++ Bundle.throwableSAtoms)))
/-- a method of Throwable is the one that is chosen in an object of kind q -/
theorem gx_pick (hA : l.admits e) {X : String} {t : MethodName} {q : ClassId} {f : MethodId} (w : (Cond.selects X t t).before args s = true) (hq : s.vm.findClass X = some q) (hf : s.methodNamed? t = some f) (hn : t.cls ≠ "java/lang/invoke/MethodHandle" ∧ t.cls ≠ "java/lang/invoke/VarHandle") : selectMethod e.platform s.vm q f = .method f := by
  obtain ⟨q', f', f'', u1, u2, u3, u4, -⟩ := Cond.selects_spec w
  have v1 : q' = q := Option.some.inj (u1.symm.trans hq)
  have v2 : f' = f := Option.some.inj (u2.symm.trans (State.methodFound?_of_named hf hn))
  have v3 : f'' = f := Option.some.inj (u3.symm.trans hf)
  rw [v1, v2, v3] at u4
  exact (Launch.admits_selectMethod hA _ _ _).trans u4
/-- where a field lies in an object of kind q -/
def gx_lie (s : State) (q : ClassId) (k : Class) (f : Field) : Prop := k.instanceTypes[f.slot]? = some f.type ∧ ∃ d : Class × Field, Jmm.declares? s.vm f.slot (q + 1) q = some d ∧ d.2.name = f.name
theorem gx_lie_of {X n d : String} {q q' i : Nat} {k k' : Class} {f : Field} (hq : s.vm.findClass X = some q) (hk : s.vm.classes[q]? = some k) (hf : s.fieldFound? Bundle.tN n d = some (q', k', i, f)) (w : (Cond.lays X Bundle.tN n d).before args s = true) : gx_lie s q k f := Cond.laysAt hq hk hf w
theorem gx_lie_ne {q : ClassId} {k : Class} {f g : Field} (h : gx_lie s q k f) (h' : gx_lie s q k g) (hn : f.name ≠ g.name) : g.slot ≠ f.slot := by
  obtain ⟨-, _, h1, h2⟩ := h
  obtain ⟨-, _, h3, h4⟩ := h'
  exact (Cond.laysApart h1 h3 h2 h4 hn).symm
/-- a field that the constructor does not write still holds null -/
theorem gx_null {T : ThrowableT} {q : ClassId} {k : Class} {f : Field} {a : Addr} {u v : RefV} {j : ThreadId} (h : gx_lie s q k f) (ty : f.type = .object "java/lang/Object") (n1 : T.fCause.slot ≠ f.slot) (n2 : T.fStack.slot ≠ f.slot) (n3 : T.fSupp.slot ≠ f.slot) : ((preparedCellV T (freshCell q k) a u v).withEntry j).slots[f.slot]? = some .null := by
  have z := fresh_default (c := q) h.1
  rw [ty] at z
  show (((((freshCell q k).slots.setIfInBounds T.fCause.slot (.ref a)).setIfInBounds T.fStack.slot u.v).setIfInBounds T.fSupp.slot v.v))[f.slot]? = some .null
  rw [Array.getElem?_setIfInBounds_ne n3, Array.getElem?_setIfInBounds_ne n2, Array.getElem?_setIfInBounds_ne n1]
  exact z
/-- a cell of statics stands as it stood -/
theorem gx_still (X : Stand p l e R s m args below meth c V [] cells slots) {b : Addr} {z : Cell} (hz : s.heap[b]? = some z) (hs : z.vm.isStatics = true) : ∃ z' : Cell, V.heap[b]? = some z' ∧ z'.vm ≠ .unknown ∧ ∀ i : Nat, z'.slots[i]? = z.slots[i]? := by
  obtain ⟨z', h1, h2, -, h4⟩ := X.same.2.2.2.2.2 b z hz
  refine ⟨z', h1, fun h => ?_, fun i => h4 i (fun h => nomatch h)⟩
  rw [h2] at h
  have h : z.vm = .unknown := h
  rw [h] at hs
  exact nomatch hs
set_option maxHeartbeats 1000000 in
/-- a fresh exception at a, its constructor called with a text, then thrown: it leaves the method -/
theorem gx_ctor (X : Stand p l e R s m args below meth c V [] cells slots) (hexec : p.tables.exec = Jvm.exec) (htr : e.platform.stackTraces = false) {own cls n1 : String} {ns : List String} {ic ix : Nat} {rx : ByteArray}
    (x0 : decode rx 0 = .ok (.aload_n 0, 1)) (x1 : decode rx 1 = .ok (.aload_n 1, 1)) (x2 : decode rx 2 = .ok (.invokespecial ix, 3)) (x5 : decode rx 5 = .ok (.return_, 1))
    (hown : s.vm.findClass own = some m.cls) (f1 : Bundle.fit cls = true) (f2 : Bundle.fit n1 = true) (f3 : ∀ n ∈ ns, Bundle.fit n = true) (h : ∀ w ∈ gx_ws own ic cls ix rx n1 ns, w.before args s = true)
    {a : Addr} {q : ClassId} {k : Class} (hq : s.vm.findClass cls = some q) (hk : s.vm.classes[q]? = some k) (ha : V.heap[a]? = some (freshCell q k)) (hnew : s.heap.size ≤ a)
    {msg : Value} (hmsg : msg.isRef = true) {pc : Nat} {ls : Array Slot} (hls : ls.size = c.maxLocals) {rest : List Value}
    (d0 : decode c.code pc = .ok (.invokespecial ic, 3)) (d3 : decode c.code (pc + 3) = .ok (.athrow, 1)) (hout : ∀ x ∈ c.exceptionTable.toList, covers x (pc + 3) = false)
    (hR1 : ns.length + 4 < R.frames) (hR2 : ((Value.ref a :: rest).map fun v => v.category).sum + (13 * (ns.length + 2) + 42) ≤ R.locals) (hlocks : meth.locks = false) :
    ∃ U : State, Steps p.tables e below (V.setTop { method := m, pc := pc, locals := ls, stack := msg :: .ref a :: .ref a :: rest, locked := none }) U ∧ U.status = .running ∧ Ended U below (.threw a) ∧ s.WarmedH U.vm ∧ s.sameButNew ({ U with vm := s.vm } : State) [] cells slots ∧
      ∃ z : Cell, U.heap[a]? = some z ∧ z.vm = .none ∧ z.cls = q := by
  have o1 : ∀ w ∈ gx_rest own ic cls, w.before args s = true := fun w hw => h w (List.mem_append_left _ hw)
  have o2 : ∀ w ∈ Bundle.passSAtoms cls n1 ix rx, w.before args s = true := fun w hw => h w (List.mem_append_right _ (List.mem_append_left _ hw))
  have o3 : ∀ w ∈ Bundle.chainSAtoms n1 ns, w.before args s = true := fun w hw => h w (List.mem_append_right _ (List.mem_append_right _ (List.mem_append_left _ hw)))
  have o4 : ∀ w ∈ Bundle.throwableAtoms, w.before args s = true := fun w hw => h w (List.mem_append_right _ (List.mem_append_right _ (List.mem_append_right _ (List.mem_append_left _ hw))))
  have o5 : ∀ w ∈ Bundle.throwableSAtoms, w.before args s = true := fun w hw => h w (List.mem_append_right _ (List.mem_append_right _ (List.mem_append_right _ (List.mem_append_right _ hw))))
  have pm : e.platform.magicAccessors = ({} : Platform).magicAccessors := by rw [X.admits.platform]
  obtain ⟨T, _, LT, -, TY⟩ := ThrowableC.of_atoms (pl := e.platform) (args := args) (by rw [X.admits.platform]) (by rw [X.admits.platform]) pm o4
  obtain ⟨Z, M, LZ, LM, nZ⟩ := Init0T.ofS_atoms (args := args) pm LT TY o5
  obtain ⟨P, LP, nP, nS⟩ := PassC.ofS_atoms (args := args) pm (Bundle.fit_spec f1).1 (Bundle.fit_spec f2).2 x0 x1 x2 x5 o2
  obtain ⟨P', Ps, len, LP', LPs, nP', up, on⟩ := Bundle.chainS (args := args) pm nZ ns n1 f2 f3 o3
  have link : P.sup = P'.m := Option.some.inj (nS.symm.trans nP')
  have eq : P.m.cls = q := Option.some.inj ((findClass_of_methodNamed nP).symm.trans hq)
  have ord : k.kind = .ordinary := by
    obtain ⟨q1, k1, c1, c2, c3, -⟩ := Cond.instantiable_spec (o1 (.instantiable cls 6) (by simp [gx_rest]))
    rw [Option.some.inj (hq.symm.trans c1)] at hk
    rw [Option.some.inj (hk.symm.trans c2)]
    exact c3
  -- the fields
  obtain ⟨_, fM⟩ := TY.msg
  obtain ⟨ci, i, fB, B1, B2, B3, B4, -, B6, B7, B8⟩ := Cond.ownField (t := .object "java/lang/Object") TY.found LT.cls (by decide +kernel) (o1 (.fieldLink Bundle.tN 198 Bundle.tN "backtrace" "Ljava/lang/Object;") (by simp [gx_rest])) (o1 (.lays Bundle.tN Bundle.tN "backtrace" "Ljava/lang/Object;") (by simp [gx_rest])) e.platform pm
  have lB := gx_lie_of hq hk B8 (o1 _ (by simp [gx_rest]))
  have lC := gx_lie_of hq hk TY.cause (o1 _ (by simp [gx_rest]))
  have lS := gx_lie_of hq hk TY.stack (o1 _ (by simp [gx_rest]))
  have lP := gx_lie_of hq hk TY.supp (o1 _ (by simp [gx_rest]))
  have lM := gx_lie_of hq hk fM (o1 _ (by simp [gx_rest]))
  have back := fun (u v : RefV) (j : ThreadId) => gx_null (T := T.toThrowableT) (a := a) (u := u) (v := v) (j := j) lB B7 (gx_lie_ne lB lC (by rw [B6, TY.causeName]; decide)) (gx_lie_ne lB lS (by rw [B6, TY.stackName]; decide)) (gx_lie_ne lB lP (by rw [B6, TY.suppName]; decide))
  -- the statics
  obtain ⟨z, z1, z2⟩ := TY.statics
  obtain ⟨u, hu⟩ := Cond.staticRefV TY.unassigned LT.unassignedStatic LT.statics z1 z2 (o1 (.isRef (.static Bundle.tN "UNASSIGNED_STACK" Bundle.steD)) (by simp [gx_rest]))
  obtain ⟨v, hv⟩ := Cond.staticRefV TY.sentinel LT.sentinelStatic LT.statics z1 z2 (o1 (.isRef (.static Bundle.tN "SUPPRESSED_SENTINEL" Bundle.listD)) (by simp [gx_rest]))
  obtain ⟨z', y1, y2, y3⟩ := gx_still X z1 z2
  have old : T.aS < s.heap.size := (Array.getElem?_eq_some_iff.mp z1).1
  -- the call
  obtain ⟨tm, _, _, _, vm1, t1, -, -, -, -, -, -, -, w1, go⟩ := Steps.initColdS (tb := p.tables) (e := e) (below := below) (s := s) (U := V) X.here hexec X.warmed pm hown (t := Bundle.initS cls) rfl rfl (Bundle.fit_spec f1).2
    (o1 (.methodLink own ic (Bundle.initS cls)) (by simp [gx_rest])) (o2 (.instanceMethod (Bundle.initS cls)) (by simp [Bundle.passSAtoms])) (bytes := rx) (maxL := 2) (o2 (.code (Bundle.initS cls) rx 2 none) (by simp [Bundle.passSAtoms]))
    (f := { method := m, pc := pc, locals := ls, stack := msg :: .ref a :: .ref a :: rest, locked := none }) rfl (a := a) (msg := msg) (rest := .ref a :: rest) rfl d0
  have et : tm = P.m := Option.some.inj (t1.symm.trans nP)
  obtain ⟨vm2, X2, st⟩ := (X.noted w1).ctorMessageOffV hexec (g := { method := m, pc := pc, locals := ls, stack := .ref a :: rest, locked := none }) rfl hls T LT Z LZ M LM (P :: P' :: Ps)
    (fun x hx => by
      rcases List.mem_cons.mp hx with rfl | hx
      · exact LP
      · rcases List.mem_cons.mp hx with rfl | hx
        · exact LP'
        · exact LPs x hx) ⟨link, up, on⟩ (u0 := u) (sen := v) (self := a) hmsg (cell := freshCell q k) (cellS := z') ha (fun _ g => nomatch g) (fun g => nomatch g) rfl rfl
    (gx_pick X.admits (o1 (.selects cls Bundle.tFill0 Bundle.tFill0) (by simp [gx_rest])) hq TY.fill0 (by decide)) (gx_pick X.admits (o1 (.selects cls Bundle.tFill Bundle.tFill) (by simp [gx_rest])) hq TY.fill (by decide))
    y1 (Nat.ne_of_lt (Nat.lt_of_lt_of_le old hnew)) y2 ((y3 _).trans hu) ((y3 _).trans hv)
    (Takes.of_laid hk ord lC.1 (by rw [TY.causeType]; rfl)) (Takes.of_laid hk ord lS.1 (by rw [TY.stackType]; exact fits_refV_array _ u)) (Takes.of_laid hk ord lP.1 (by rw [TY.suppType]; exact fits_refV_object _ v))
    (Takes.of_laid hk ord lM.1 (by rw [TY.msgType]; exact fits_refV_object _ ⟨msg, hmsg⟩)) TY.objLocals
    ⟨⟨ci, i, fB⟩, ⟨B1, B2, B3, B4⟩, back u v _, fun _ _ => rfl⟩ htr [] d0 (by simp only [List.length_cons]; omega) (by
      have e0 : (P :: P' :: Ps).length = ns.length + 2 := by simp only [List.length_cons]; omega
      rw [e0]
      show 2 * 0 + ((Value.ref a :: rest).map fun v => v.category).sum + (13 * (ns.length + 2) + 42) ≤ R.locals
      omega)
  obtain ⟨r1, r2, r3, r4, r5⟩ := X2.athrowLeaves hexec (g := { method := m, pc := pc + 3, locals := ls, stack := .ref a :: rest, locked := none }) rfl rfl rfl hout (a := a) (rest := rest) rfl d3
  refine ⟨_, go _ (fun acts => ?_), r2, r3, r4, r5.weaken (fun y hy lt => ?_) (Nat.le_refl _) (Nat.le_refl _), _, heapAt_setCell_self (s := (V.setVm vm1).setVm vm2) (plainBareV T.toThrowableT (freshCell q k) a u v msg) (Array.getElem?_eq_some_iff.mp ha).1, rfl, rfl⟩
  · rw [doInvoke_state, et]
    exact st _ r1
  · have hb : y.base = a := by
      simp only [List.nil_append, List.mem_cons, List.not_mem_nil, or_false] at hy
      rcases hy with rfl | rfl | rfl | rfl | rfl <;> rfl
    rw [hb] at lt
    exact absurd lt (Nat.not_lt.mpr hnew)
end GXC
def gx_at (own : String) (ic : Nat) (X : String) (ix : Nat) (rx : ByteArray) (n1 : String) (ns : List String) : List Cond := (gx_ws own ic X ix rx n1 ns).filter vx_no
section GXT
variable {p : Program} {l : Launch} {e : Env} {R : Room} {s : State} {m : MethodId} {args : Array Value} {below : List Frame} {meth : Method} {c : Code} {H : Heap} {locs : List Loc} {cells slots : Nat} {Q : State → Prop}
variable {mc ms : Nat} {free : Addr → Prop} {A0 A1 : Nat → Prop} {H0 : Heap} {a : Array Value} {ls : Array Slot} {st0 rest : List Value}
variable {Qc : Array Value → State → Outcome → State → Prop} {XC : String → State → State → Prop}
theorem gx_throwS {cc : ByteArray} {pc : Nat} (hexec : p.tables.exec = Jvm.exec) (hb : c.code = cc) (hl : l.stackTraces = false) {own cls n1 text : String} {ns : List String} {ik is ic ix mc ms sa : Nat} {rx : ByteArray} {A : Nat → Prop}
    (x0 : decode rx 0 = .ok (.aload_n 0, 1)) (x1 : decode rx 1 = .ok (.aload_n 1, 1)) (x2 : decode rx 2 = .ok (.invokespecial ix, 3)) (x5 : decode rx 5 = .ok (.return_, 1))
    (hown : s.vm.findClass own = some m.cls) (hcls : Bundle.fit cls = true) (hn1 : Bundle.fit n1 = true) (hns : ∀ n ∈ ns, Bundle.fit n = true)
    (hk : (Cond.classLink own ik cls).before args s = true) (hini : (Cond.initialized cls).before args s = true) (hstr : vk_R own is text sa s) (hat : ∀ w ∈ gx_at own ic cls ix rx n1 ns, w.before args s = true)
    (hgood : ∀ w ∈ Cond.classLink own ik cls :: Cond.initialized cls :: gx_at own ic cls ix rx n1 ns, vx_ot w = true)
    (hU : vx_Zq Bundle.tN "UNASSIGNED_STACK" Bundle.steD A s s.heap) (hN : vx_Zq Bundle.tN "SUPPRESSED_SENTINEL" Bundle.listD A s s.heap) (hS : va_S A s.heap H locs) (hsize : ls.size = c.maxLocals)
    (d0 : decode cc pc = .ok (.new ik, 3)) (d3 : decode cc (pc + 3) = .ok (.dup, 1)) (d4 : decode cc (pc + 4) = .ok (.ldc is, 2)) (d6 : decode cc (pc + 6) = .ok (.invokespecial ic, 3)) (d9 : decode cc (pc + 9) = .ok (.athrow, 1))
    (hout : ∀ x ∈ c.exceptionTable.toList, covers x (pc + 9) = false)
    (hRframes : ns.length + 4 < R.frames) (hRlocals : (rest.map fun v => v.category).sum + (13 * (ns.length + 2) + 43) ≤ R.locals) (hRcells : cells + 1 ≤ R.cells) (hRslots : slots + 6 ≤ R.slots) (hlocks : meth.locks = false)
    (hx : ∀ t : State, s.vm.Alike t.vm → H.size ≤ t.heap.size → (∀ q : Nat, q < H.size → t.heap[q]? = H[q]?) → XC cls s t)
    (hf : ∀ z ∈ locs, free z.base) (hc : cells + 1 ≤ mc) (hs : slots + 6 ≤ ms) :
    W p l e R s m args below meth c H locs cells slots (vx_MQ below Qc XC args s mc ms free) (F0 m pc ls rest) := by
  intro T hT X
  have htr : e.platform.stackTraces = false := (show e.platform.stackTraces = l.stackTraces by rw [X.admits.platform]).trans hl
  have Y := vx_rebase X (R' := { frames := R.frames, locals := R.locals, cells := 1, slots := 6 }) (Nat.le_refl _) (Nat.le_refl _) hRcells hRslots
  obtain ⟨s', hA⟩ : ∃ z, z = (T.setVm s.vm).setFrames (.invoking m args :: below) := ⟨_, rfl⟩
  rw [← hA] at Y
  have hvm : s'.vm = s.vm := by rw [hA]; rfl
  have hhp : s'.heap = H := by rw [hA]; exact hT
  have hW0 : s.WarmedH s'.vm := by rw [hvm]; exact State.WarmedH.refl s
  have hat' : ∀ w ∈ gx_at own ic cls ix rx n1 ns, w.before args s' = true := fun w hw => vx_ot_at hW0 hvm.symm (hgood w (List.mem_cons_of_mem _ (List.mem_cons_of_mem _ hw))) (hat w hw)
  have hk' : (Cond.classLink own ik cls).before args s' = true := vx_ot_at hW0 hvm.symm (hgood _ List.mem_cons_self) hk
  have hini' : (Cond.initialized cls).before args s' = true := vx_ot_at hW0 hvm.symm (hgood _ (List.mem_cons_of_mem _ List.mem_cons_self)) hini
  have hU' : vx_Zq Bundle.tN "UNASSIGNED_STACK" Bundle.steD A s' s'.heap := by rw [hhp]; exact vx_Zq.moved hW0.alike (hU.kept hS.2.1)
  have hN' : vx_Zq Bundle.tN "SUPPRESSED_SENTINEL" Bundle.listD A s' s'.heap := by rw [hhp]; exact vx_Zq.moved hW0.alike (hN.kept hS.2.1)
  have h : ∀ w ∈ gx_ws own ic cls ix rx n1 ns, w.before args s' = true := vx_own hat' (vx_isRefq hU'.1) (vx_isRefq hN'.1) hU'.2.word hN'.2.word
  have hown' : s'.vm.findClass own = some m.cls := by rw [hvm]; exact hown
  have hins : (Cond.instantiable cls 6).before args s' = true := h _ (by simp [gx_ws, gx_rest])
  obtain ⟨vm₁, cX, kX, hfX, hkX, -, -, X₁, st1⟩ := Y.newCold hexec (own := own) (C := cls) (index := ik) (n := 6) hown' hk' hins hini'
    (g := F0 m pc ls rest) rfl (by rw [hb]; exact d0) (Nat.le_refl _) (Nat.le_refl _)
  generalize hT1 : (T.setVm vm₁).pushCell { cls := cX, slots := kX.instanceTypes.map defaultValue, vm := .none } = T1 at X₁ st1
  have hcat : (Value.ref T.heap.size).category = 1 := rfl
  have hcellA : T1.heap[T.heap.size]? = some (freshCell cX kX) := by rw [← hT1]; exact State.heap_pushCell_size _ _
  have d3' : decode c.code (pc + 3) = .ok (.dup, 1) := by rw [hb]; exact d3
  have d4' : decode c.code (pc + 4) = .ok (.ldc is, 2) := by rw [hb]; exact d4
  have hstr' : vk_R own is text sa s' := vk_R.warm hW0 hstr
  obtain ⟨U, hsteps, hrun, hend, hW, hsame, ce, hce, hOv, hOc⟩ := gx_ctor X₁ hexec htr (own := own) (cls := cls) (n1 := n1) (ns := ns) (ic := ic) x0 x1 x2 x5 hown' hcls hn1 hns h hfX hkX hcellA (by rw [hhp, hT]; exact Nat.le_refl _) (msg := .ref sa) rfl (pc := pc + 6) hsize (rest := rest)
    (by rw [hb]; exact d6) (by rw [hb]; exact d9) hout hRframes (by simp only [List.map_cons, List.sum_cons, hcat]; omega) hlocks
  obtain ⟨f1, f2⟩ := vx_frame hsame
  rw [hhp] at f1 f2
  have hWs : s.WarmedH U.vm := State.WarmedH.trans hW0 hW
  have hcl : s.vm.findClass cls = some ce.cls := by
    rw [hOc, ← hvm]
    exact hfX
  have hall : s.sameButNew ({ U with vm := s.vm } : State) locs mc ms := by
    subst hA
    obtain ⟨e1, e2⟩ := hsame
    rw [State.setFrames_setFrames] at e1
    have h2 : (T.setVm s.vm).sameButNew ({ U with vm := s.vm } : State) [] (0 + 1) (0 + 6) := ⟨e1, e2⟩
    have h3 := X.same.trans h2
    rw [List.append_nil] at h3
    exact h3.mono hc hs
  refine ⟨U, ?_, .threw T.heap.size, hrun, hend, Or.inr ⟨T.heap.size, rfl, cls, ce, locs, hx U hWs.alike f1 (fun q hq => f2 q hq (fun z hz => nomatch hz)), hce, hOv, hcl, hWs, hall, hf⟩⟩
  refine st1 _ ?_
  show Steps p.tables e below (T1.setTop { method := m, pc := pc + 3, locals := ls, stack := .ref T.heap.size :: rest, locked := none }) _
  jvm_step X₁.here [X₁.here.top, hexec, d3', Value.category]
  exact X₁.ldcString hexec (own := own) (text := text) (index := is) (a := sa) hown' hstr'.1 hstr'.2
    (g := { method := m, pc := pc + 4, locals := ls, stack := .ref T.heap.size :: .ref T.heap.size :: rest, locked := none }) rfl d4' _ hsteps

end GXT
