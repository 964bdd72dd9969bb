/-! CONTRACTS of methods that make no cells: from the memory M, with the numbers vs, they end with 'post' -/
def gAdr (kd : gKd) (ln : gLn) (rh : gRh) (sz : Nat) (q : Nat) : Prop := (∃ o, kd o < 8 ∧ gad o = q) ∨ (∃ o k, 0 ≤ ln o k ∧ rh o k = q) ∨ sz ≤ q
def gPre (D : va_G) (cy : Nat → ClassId) (kd : gKd) (ln : gLn) (rh : gRh) (M : gM) (sz : Nat) (U : State) : Prop := U.heap.size = sz ∧ gAt D cy kd ln rh M U.heap ∧ gK D cy U ∧ gZ cy (gAdr kd ln rh sz) U U.heap
def gEnd (D : va_G) (cy : Nat → ClassId) (kd : gKd) (ln : gLn) (rh : gRh) (u : gM) (t : State) : Prop := gAt D cy kd ln rh u t.heap
def gws (y : MethodName) (b : ByteArray) (n : Nat) (r : Option FieldType) : List Cond := Cond.code y b n r :: gT
abbrev gRm (fr lo : Nat) : Room := { frames := fr, cells := 0, slots := 0, locals := lo }
theorem gws_in {y : MethodName} {b : ByteArray} {n : Nat} {r : Option FieldType} (h : Cond.code y b n r ∈ gT) : GoodIn gT (gws y b n r) := by
  intro w hw
  have h1 : w ∈ gT := by
    rcases List.mem_cons.mp hw with q | q
    · rw [q]; exact h
    · exact q
  exact ⟨h1, good_of_word (gT_good w h1)⟩
theorem gPre_blind {D : va_G} {cy : Nat → ClassId} {kd : gKd} {ln : gLn} {rh : gRh} {M : gM} {sz : Nat} {vs : List Value} : FrameBlind (va_Pc vs (gPre D cy kd ln rh M sz)) := by
  intro a U g mk q
  obtain ⟨q0, q1, q2, q3, q4⟩ := q
  exact ⟨q0, q1, q2, gK.same (s := U) (U := U.calling g mk a) rfl q3, gZ.go (u := U) (U := U.calling g mk a) q4 (Vm.Alike.refl U.vm) (fun _ _ _ => rfl) (fun _ h => h)⟩
theorem gS_adr {D : va_G} {cy : Nat → ClassId} {A : Nat → Prop} {H0 : Heap} {kd : gKd} {ln : gLn} {rh : gRh} {M : gM} {H : Heap} {locs : List Loc} (h : gS D cy A H0 kd ln rh M H locs) : ∀ q, gAdr kd ln rh H.size q → A q := by
  intro q hq
  rcases hq with ⟨o, h1, rfl⟩ | ⟨o, k, h1, rfl⟩ | h1
  · exact h.2.1 o h1
  · exact h.2.2.1 o k h1
  · exact h.2.2.2.1 q (Nat.le_trans h.2.2.2.2.1 h1)
def gMI (l : Launch) (D : va_G) (cy : Nat → ClassId) (y : MethodName) (b : ByteArray) (n : Nat) (rt : FieldType) (fr lo : Nat) (vs : List Value) (kd : gKd) (ln : gLn) (rh : gRh) (M : gM) (post : Int → gM → Prop) : Prop :=
  ∀ sz : Nat, Met l y (gws y b n (some rt)) (gRm fr lo) (va_Pc vs (gPre D cy kd ln rh M sz)) (va_Qi (fun r (u : gM) => ∃ x, r = gI x ∧ rng x ∧ post x u) (gEnd D cy kd ln rh) (gAdr kd ln rh sz)) 0 0 (gAdr kd ln rh sz)
def gMV (l : Launch) (D : va_G) (cy : Nat → ClassId) (y : MethodName) (b : ByteArray) (n : Nat) (fr lo : Nat) (vs : List Value) (kd : gKd) (ln : gLn) (rh : gRh) (M : gM) (post : gM → Prop) : Prop :=
  ∀ sz : Nat, Met l y (gws y b n none) (gRm fr lo) (va_Pc vs (gPre D cy kd ln rh M sz)) (va_Qv (fun (u : gM) => post u) (gEnd D cy kd ln rh) (gAdr kd ln rh sz)) 0 0 (gAdr kd ln rh sz)
def gML (l : Launch) (D : va_G) (cy : Nat → ClassId) (y : MethodName) (b : ByteArray) (n : Nat) (fr lo : Nat) (vs : List Value) (kd : gKd) (ln : gLn) (rh : gRh) (M : gM) (post : BitVec 64 → gM → Prop) : Prop :=
  ∀ sz : Nat, Met l y (gws y b n (some .long)) (gRm fr lo) (va_Pc vs (gPre D cy kd ln rh M sz)) (va_Ql (fun r (u : gM) => ∃ x, r = gL x ∧ post x u) (gEnd D cy kd ln rh) (gAdr kd ln rh sz)) 0 0 (gAdr kd ln rh sz)
theorem gMI_of {l : Launch} {D : va_G} {cy : Nat → ClassId} {y : MethodName} {b : ByteArray} {n : Nat} {fr lo : Nat} {vs : List Value} {kd : gKd} {ln : gLn} {rh : gRh} {M : gM} {own : String} (hy : plainName y.cls = true) (ho : y.cls = own) (hnl : (lg_sl vs).length ≤ n) {post : Int → gM → Prop} (body : ∀ (p : Program) (e : Env) (s : State) (m : MethodId) (args : Array Value) (below : List Frame) (meth : Method) (c : Code) (A : Nat → Prop) (H0 : Heap) (Q : State → Prop), gC p s m args c b n own D cy A H0 → (∀ (x : Int) (M' : gM) (pc' : Nat) (lv' : List (Nat × Value)), decode b pc' = .ok (.ireturn, 1) → rng x → post x M' → gW p l e (gRm fr lo) s m args below meth c D cy A H0 Q n kd ln rh 0 0 M' pc' lv' [.int (gI x)]) → gW p l e (gRm fr lo) s m args below meth c D cy A H0 Q n kd ln rh 0 0 M 0 (lv_args 0 vs) []) : gMI l D cy y b n .int fr lo vs kd ln rh M post := by
  intro sz
  refine Met.ofW (cc := b) (maxL := n) (ret := (some .int)) hy rfl ?_
  intro p e s m args below meth c s₁ B hml hv
  obtain ⟨rfl, hsz, hat, hK, hZ⟩ := hv
  have hx := B.exec
  have hb := B.bytes
  have hr := B.returns
  have hts0 := atoms_spec (ws := gws y b n (some .int)) B.pre
  have hts : ∀ w ∈ gT, w.before vs.toArray s = true := fun w hw => hts0 w (List.mem_cons_of_mem _ hw)
  have hown : s.vm.findClass y.cls = some m.cls := findClass_of_methodNamed B.named
  have hlocks := B.notSynchronized
  rw [ho] at hown
  have hl := lv_entry vs (n := n) hnl
  rw [lg_entry_eq]
  generalize (lg_sl vs ++ List.replicate (n - (lg_sl vs).length) Slot.unset).toArray = ls at hl ⊢
  refine body p e s m vs.toArray below meth c (gAdr kd ln rh sz) s.heap _ ⟨hx, hb, hml, hown, hts, hK, rfl, hZ⟩ ?_ s.heap [] ls ⟨hat, fun o h => Or.inl ⟨o, h, rfl⟩, fun o k h => Or.inr (Or.inl ⟨o, k, h, rfl⟩), fun q h => Or.inr (Or.inr (by rw [← hsz]; exact h)), va_S.rf⟩ hl
  intro x M' pc' lv' hd hc hp H locs ls' hS hl'
  exact W.iret (v := gI x) hx hb hr (fun t ht hW => ⟨⟨gI x, M', rfl, ⟨x, rfl, hc, hp⟩, by unfold gEnd; rw [ht]; exact hS.1⟩, hS.2.2.2.2.F ht⟩) hS.2.2.2.2.2.2 hd
theorem gMI_ofZ {l : Launch} {D : va_G} {cy : Nat → ClassId} {y : MethodName} {b : ByteArray} {n : Nat} {fr lo : Nat} {vs : List Value} {kd : gKd} {ln : gLn} {rh : gRh} {M : gM} {own : String} (hy : plainName y.cls = true) (ho : y.cls = own) (hnl : (lg_sl vs).length ≤ n) {post : Int → gM → Prop} (body : ∀ (p : Program) (e : Env) (s : State) (m : MethodId) (args : Array Value) (below : List Frame) (meth : Method) (c : Code) (A : Nat → Prop) (H0 : Heap) (Q : State → Prop), gC p s m args c b n own D cy A H0 → (∀ (x : Int) (M' : gM) (pc' : Nat) (lv' : List (Nat × Value)), decode b pc' = .ok (.ireturn, 1) → (x = 0 ∨ x = 1) → post x M' → gW p l e (gRm fr lo) s m args below meth c D cy A H0 Q n kd ln rh 0 0 M' pc' lv' [.int (gI x)]) → gW p l e (gRm fr lo) s m args below meth c D cy A H0 Q n kd ln rh 0 0 M 0 (lv_args 0 vs) []) : gMI l D cy y b n .boolean fr lo vs kd ln rh M post := by
  intro sz
  refine Met.ofW (cc := b) (maxL := n) (ret := (some .boolean)) hy rfl ?_
  intro p e s m args below meth c s₁ B hml hv
  obtain ⟨rfl, hsz, hat, hK, hZ⟩ := hv
  have hx := B.exec
  have hb := B.bytes
  have hr := B.returns
  have hts0 := atoms_spec (ws := gws y b n (some .boolean)) B.pre
  have hts : ∀ w ∈ gT, w.before vs.toArray s = true := fun w hw => hts0 w (List.mem_cons_of_mem _ hw)
  have hown : s.vm.findClass y.cls = some m.cls := findClass_of_methodNamed B.named
  have hlocks := B.notSynchronized
  rw [ho] at hown
  have hl := lv_entry vs (n := n) hnl
  rw [lg_entry_eq]
  generalize (lg_sl vs ++ List.replicate (n - (lg_sl vs).length) Slot.unset).toArray = ls at hl ⊢
  refine body p e s m vs.toArray below meth c (gAdr kd ln rh sz) s.heap _ ⟨hx, hb, hml, hown, hts, hK, rfl, hZ⟩ ?_ s.heap [] ls ⟨hat, fun o h => Or.inl ⟨o, h, rfl⟩, fun o k h => Or.inr (Or.inl ⟨o, k, h, rfl⟩), fun q h => Or.inr (Or.inr (by rw [← hsz]; exact h)), va_S.rf⟩ hl
  intro x M' pc' lv' hd hc hp H locs ls' hS hl'
  have hc2 : rng x := by rcases hc with rfl | rfl <;> decide
  exact W.zret (v := gI x) (ty := .boolean) hx hb hr (gI_bool hc) (fun t ht hW => ⟨⟨gI x, M', rfl, ⟨x, rfl, hc2, hp⟩, by unfold gEnd; rw [ht]; exact hS.1⟩, hS.2.2.2.2.F ht⟩) hS.2.2.2.2.2.2 hd
theorem gMV_of {l : Launch} {D : va_G} {cy : Nat → ClassId} {y : MethodName} {b : ByteArray} {n : Nat} {fr lo : Nat} {vs : List Value} {kd : gKd} {ln : gLn} {rh : gRh} {M : gM} {own : String} (hy : plainName y.cls = true) (ho : y.cls = own) (hnl : (lg_sl vs).length ≤ n) {post : gM → Prop} (body : ∀ (p : Program) (e : Env) (s : State) (m : MethodId) (args : Array Value) (below : List Frame) (meth : Method) (c : Code) (A : Nat → Prop) (H0 : Heap) (Q : State → Prop), gC p s m args c b n own D cy A H0 → (∀ (M' : gM) (pc' : Nat) (lv' : List (Nat × Value)), decode b pc' = .ok (.return_, 1) → post M' → gW p l e (gRm fr lo) s m args below meth c D cy A H0 Q n kd ln rh 0 0 M' pc' lv' []) → gW p l e (gRm fr lo) s m args below meth c D cy A H0 Q n kd ln rh 0 0 M 0 (lv_args 0 vs) []) : gMV l D cy y b n fr lo vs kd ln rh M post := by
  intro sz
  refine Met.ofW (cc := b) (maxL := n) (ret := none) hy rfl ?_
  intro p e s m args below meth c s₁ B hml hv
  obtain ⟨rfl, hsz, hat, hK, hZ⟩ := hv
  have hx := B.exec
  have hb := B.bytes
  have hr := B.returns
  have hts0 := atoms_spec (ws := gws y b n none) B.pre
  have hts : ∀ w ∈ gT, w.before vs.toArray s = true := fun w hw => hts0 w (List.mem_cons_of_mem _ hw)
  have hown : s.vm.findClass y.cls = some m.cls := findClass_of_methodNamed B.named
  have hlocks := B.notSynchronized
  rw [ho] at hown
  have hl := lv_entry vs (n := n) hnl
  rw [lg_entry_eq]
  generalize (lg_sl vs ++ List.replicate (n - (lg_sl vs).length) Slot.unset).toArray = ls at hl ⊢
  refine body p e s m vs.toArray below meth c (gAdr kd ln rh sz) s.heap _ ⟨hx, hb, hml, hown, hts, hK, rfl, hZ⟩ ?_ s.heap [] ls ⟨hat, fun o h => Or.inl ⟨o, h, rfl⟩, fun o k h => Or.inr (Or.inl ⟨o, k, h, rfl⟩), fun q h => Or.inr (Or.inr (by rw [← hsz]; exact h)), va_S.rf⟩ hl
  intro M' pc' lv' hd hp H locs ls' hS hl'
  exact W.vret hx hb hr (fun t ht hW => ⟨⟨M', rfl, hp, by unfold gEnd; rw [ht]; exact hS.1⟩, hS.2.2.2.2.F ht⟩) hS.2.2.2.2.2.2 hd
theorem gML_of {l : Launch} {D : va_G} {cy : Nat → ClassId} {y : MethodName} {b : ByteArray} {n : Nat} {fr lo : Nat} {vs : List Value} {kd : gKd} {ln : gLn} {rh : gRh} {M : gM} {own : String} (hy : plainName y.cls = true) (ho : y.cls = own) (hnl : (lg_sl vs).length ≤ n) {post : BitVec 64 → gM → Prop} (body : ∀ (p : Program) (e : Env) (s : State) (m : MethodId) (args : Array Value) (below : List Frame) (meth : Method) (c : Code) (A : Nat → Prop) (H0 : Heap) (Q : State → Prop), gC p s m args c b n own D cy A H0 → (∀ (x : BitVec 64) (M' : gM) (pc' : Nat) (lv' : List (Nat × Value)), decode b pc' = .ok (.lreturn, 1) → post x M' → gW p l e (gRm fr lo) s m args below meth c D cy A H0 Q n kd ln rh 0 0 M' pc' lv' [.long (gL x)]) → gW p l e (gRm fr lo) s m args below meth c D cy A H0 Q n kd ln rh 0 0 M 0 (lv_args 0 vs) []) : gML l D cy y b n fr lo vs kd ln rh M post := by
  intro sz
  refine Met.ofW (cc := b) (maxL := n) (ret := (some .long)) hy rfl ?_
  intro p e s m args below meth c s₁ B hml hv
  obtain ⟨rfl, hsz, hat, hK, hZ⟩ := hv
  have hx := B.exec
  have hb := B.bytes
  have hr := B.returns
  have hts0 := atoms_spec (ws := gws y b n (some .long)) B.pre
  have hts : ∀ w ∈ gT, w.before vs.toArray s = true := fun w hw => hts0 w (List.mem_cons_of_mem _ hw)
  have hown : s.vm.findClass y.cls = some m.cls := findClass_of_methodNamed B.named
  have hlocks := B.notSynchronized
  rw [ho] at hown
  have hl := lv_entry vs (n := n) hnl
  rw [lg_entry_eq]
  generalize (lg_sl vs ++ List.replicate (n - (lg_sl vs).length) Slot.unset).toArray = ls at hl ⊢
  refine body p e s m vs.toArray below meth c (gAdr kd ln rh sz) s.heap _ ⟨hx, hb, hml, hown, hts, hK, rfl, hZ⟩ ?_ s.heap [] ls ⟨hat, fun o h => Or.inl ⟨o, h, rfl⟩, fun o k h => Or.inr (Or.inl ⟨o, k, h, rfl⟩), fun q h => Or.inr (Or.inr (by rw [← hsz]; exact h)), va_S.rf⟩ hl
  intro x M' pc' lv' hd hp H locs ls' hS hl'
  exact W.lret (v := gL x) hx hb hr (fun t ht hW => ⟨⟨gL x, M', rfl, ⟨x, rfl, hp⟩, by unfold gEnd; rw [ht]; exact hS.1⟩, hS.2.2.2.2.F ht⟩) hS.2.2.2.2.2.2 hd
/-! CALLS -/
def gCV (own : String) (idx : Nat) (y : MethodName) (na : Nat) : Prop := Cond.methodLink own idx y ∈ gT ∧ Cond.instanceMethod y ∈ gT ∧ Cond.selects y.cls y y ∈ gT ∧ Cond.initialized y.cls ∈ gT ∧ y.cls ≠ "java/lang/invoke/MethodHandle" ∧ y.cls ≠ "java/lang/invoke/VarHandle" ∧ (parseMethodDescriptor y.desc).map (fun d => d.parameters.length) = some na
def gCS (own : String) (idx : Nat) (y : MethodName) (na : Nat) : Prop := Cond.methodLink own idx y ∈ gT ∧ Cond.static y ∈ gT ∧ Cond.initialized y.cls ∈ gT ∧ y.cls ≠ "java/lang/invoke/MethodHandle" ∧ y.cls ≠ "java/lang/invoke/VarHandle" ∧ (parseMethodDescriptor y.desc).map (fun d => d.parameters.length) = some na
def gCN (own : String) (idx : Nat) (y : MethodName) (na : Nat) : Prop := (∃ host, (own, idx, y, host) ∈ gNest) ∧ Cond.static y ∈ gT ∧ Cond.initialized y.cls ∈ gT ∧ y.cls ≠ "java/lang/invoke/MethodHandle" ∧ y.cls ≠ "java/lang/invoke/VarHandle" ∧ (parseMethodDescriptor y.desc).map (fun d => d.parameters.length) = some na
section GCall
variable {p : Program} {l : Launch} {e : Env} {R : Room} {s : State} {m : MethodId} {args : Array Value} {below : List Frame} {meth : Method} {c : Code} {cells slots : Nat} {Q : State → Prop} {cc : ByteArray} {nL : Nat} {own : String} {D : va_G} {cy : Nat → ClassId} {A : Nat → Prop} {H0 : Heap} {kd : gKd} {ln : gLn} {rh : gRh} {M : gM} {pc : Nat} {lv : List (Nat × Value)} {st : List Value}
variable {y : MethodName} {b : ByteArray} {n fr lo idx na : Nat} {As st0 : List Value}
theorem q_callVI (C : gC p s m args c cc nL own D cy A H0) {rt : FieldType} {post : Int → gM → Prop} {o : Int} {ci : Nat} (G : gCV own idx y na) (hcode : Cond.code y b n (some rt) ∈ gT) (hcs : cells ≤ R.cells ∧ slots ≤ R.slots) (hR : fr + 1 ≤ R.frames ∧ 8 + (n + 11) + lo ≤ R.locals) (hna : As.length = na) (ho : kd o = ci) (hci : ∃ T N, vwCl[ci]? = some (y.cls, T, N)) (h8 : ci < 8) (hst : st0 = As.reverse ++ .ref (gad o) :: st) (hrm : (st.map fun v => v.category).sum ≤ 8) (hM : gMI l D cy y b n rt fr lo (.ref (gad o) :: As) kd ln rh M post) (hd : decode cc pc = .ok (.invokevirtual idx, 3)) (kk : ∀ (x : Int) (M' : gM), rng x → post x M' → gW p l e R s m args below meth c D cy A H0 Q nL kd ln rh cells slots M' (pc + 3) lv (.int (gI x) :: st)) : gW p l e R s m args below meth c D cy A H0 Q nL kd ln rh cells slots M pc lv st0 := by
  intro H locs ls hS hl
  obtain ⟨hx, hb, hml, hown, hts, hK, -, hZ⟩ := C
  have hS2 := hS
  obtain ⟨hat, hA1, hA2, hA3, hVS0⟩ := hS2
  obtain ⟨T, N, hcl⟩ := hci
  have hre : ∃ cell : Cell, H[gad o]? = some cell ∧ cell.vm.isStatics = false ∧ s.vm.findClass y.cls = some cell.cls := by
    obtain ⟨-, cell, q1, q2, q3, -⟩ := hat.1 o (by rw [ho]; exact h8)
    exact ⟨cell, q1, by rw [q3]; rfl, by rw [q2, ho]; exact (hK.1.1 _ _ hcl).2.1⟩
  refine va_calli (va_runV (As := As) (rest := st) ⟨hx, hb, hml, hown, hts⟩ (hM H.size) ⟨callB_of na hts (gws_in hcode) rfl rfl rfl (hts _ G.2.2.2.1) (hts _ G.1) ⟨G.2.2.2.2.1, G.2.2.2.2.2.1, G.2.2.2.2.2.2⟩ hR, hts _ G.2.1, hts _ G.2.2.1⟩ ⟨gPre_blind, hre, fun U hU hW => ⟨rfl, by rw [hU], by rw [hU]; exact hat, gK.warm hW hK, by rw [hU]; exact gZ.go hZ hW.alike hVS0.2.1 (gS_adr hS)⟩⟩ rfl hna hl.1 hst (lv_room hrm) hd hcs) hVS0 (fun q _ h => gS_adr hS q h) (gS_adr hS) (fun r u t H1 locs1 ht hvm hw hB hz1 hk1 hVS => ?_)
  obtain ⟨x, rfl, hrx, hpx⟩ := hw
  have hB : gAt D cy kd ln rh u t.heap := hB
  rw [ht] at hB
  exact kk x u hrx hpx H1 locs1 ls ⟨hB, hA1, hA2, hA3, hVS⟩ hl
theorem q_callSI (C : gC p s m args c cc nL own D cy A H0) {rt : FieldType} {post : Int → gM → Prop} (G : gCS own idx y na) (hcode : Cond.code y b n (some rt) ∈ gT) (hcs : cells ≤ R.cells ∧ slots ≤ R.slots) (hR : fr + 1 ≤ R.frames ∧ 8 + (n + 11) + lo ≤ R.locals) (hna : As.length = na) (hst : st0 = As.reverse ++ st) (hrm : (st.map fun v => v.category).sum ≤ 8) (hM : gMI l D cy y b n rt fr lo As kd ln rh M post) (hd : decode cc pc = .ok (.invokestatic idx, 3)) (kk : ∀ (x : Int) (M' : gM), rng x → post x M' → gW p l e R s m args below meth c D cy A H0 Q nL kd ln rh cells slots M' (pc + 3) lv (.int (gI x) :: st)) : gW p l e R s m args below meth c D cy A H0 Q nL kd ln rh cells slots M pc lv st0 := by
  intro H locs ls hS hl
  obtain ⟨hx, hb, hml, hown, hts, hK, -, hZ⟩ := C
  have hS2 := hS
  obtain ⟨hat, hA1, hA2, hA3, hVS0⟩ := hS2
  refine va_calli (va_runS (As := As) (rest := st) ⟨hx, hb, hml, hown, hts⟩ (hM H.size) ⟨callB_of na hts (gws_in hcode) rfl rfl rfl (hts _ G.2.2.1) (hts _ G.1) ⟨G.2.2.2.1, G.2.2.2.2.1, G.2.2.2.2.2⟩ hR, hts _ G.2.1⟩ ⟨gPre_blind, fun U hU hW => ⟨rfl, by rw [hU], by rw [hU]; exact hat, gK.warm hW hK, by rw [hU]; exact gZ.go hZ hW.alike hVS0.2.1 (gS_adr hS)⟩⟩ rfl hna hl.1 hst (lv_room hrm) hd hcs) hVS0 (fun q _ h => gS_adr hS q h) (gS_adr hS) (fun r u t H1 locs1 ht hvm hw hB hz1 hk1 hVS => ?_)
  obtain ⟨x, rfl, hrx, hpx⟩ := hw
  have hB : gAt D cy kd ln rh u t.heap := hB
  rw [ht] at hB
  exact kk x u hrx hpx H1 locs1 ls ⟨hB, hA1, hA2, hA3, hVS⟩ hl
theorem q_callNI (C : gC p s m args c cc nL own D cy A H0) {rt : FieldType} {post : Int → gM → Prop} (G : gCN own idx y na) (hcode : Cond.code y b n (some rt) ∈ gT) (hcs : cells ≤ R.cells ∧ slots ≤ R.slots) (hR : fr + 1 ≤ R.frames ∧ 8 + (n + 11) + lo ≤ R.locals) (hna : As.length = na) (hst : st0 = As.reverse ++ st) (hrm : (st.map fun v => v.category).sum ≤ 8) (hM : gMI l D cy y b n rt fr lo As kd ln rh M post) (hd : decode cc pc = .ok (.invokestatic idx, 3)) (kk : ∀ (x : Int) (M' : gM), rng x → post x M' → gW p l e R s m args below meth c D cy A H0 Q nL kd ln rh cells slots M' (pc + 3) lv (.int (gI x) :: st)) : gW p l e R s m args below meth c D cy A H0 Q nL kd ln rh cells slots M pc lv st0 := by
  intro H locs ls hS hl
  obtain ⟨hx, hb, hml, hown, hts, hK, -, hZ⟩ := C
  have hS2 := hS
  obtain ⟨hat, hA1, hA2, hA3, hVS0⟩ := hS2
  obtain ⟨⟨host, hnest⟩, G⟩ := G
  refine va_calli (va_runSN (As := As) (rest := st) ⟨hx, hb, hml, hown, hts⟩ (hM H.size) ⟨va_cnB na hts (gws_in hcode) rfl rfl rfl (hK.2.1 _ hnest) (hts _ G.2.1) ⟨G.2.2.1, G.2.2.2.1, G.2.2.2.2⟩ hR, hts _ G.1, trivial⟩ ⟨gPre_blind, fun U hU hW => ⟨rfl, by rw [hU], by rw [hU]; exact hat, gK.warm hW hK, by rw [hU]; exact gZ.go hZ hW.alike hVS0.2.1 (gS_adr hS)⟩⟩ rfl hna hl.1 hst (lv_room hrm) hd hcs) hVS0 (fun q _ h => gS_adr hS q h) (gS_adr hS) (fun r u t H1 locs1 ht hvm hw hB hz1 hk1 hVS => ?_)
  obtain ⟨x, rfl, hrx, hpx⟩ := hw
  have hB : gAt D cy kd ln rh u t.heap := hB
  rw [ht] at hB
  exact kk x u hrx hpx H1 locs1 ls ⟨hB, hA1, hA2, hA3, hVS⟩ hl
theorem q_callVV (C : gC p s m args c cc nL own D cy A H0) {post : gM → Prop} {o : Int} {ci : Nat} (G : gCV own idx y na) (hcode : Cond.code y b n none ∈ gT) (hcs : cells ≤ R.cells ∧ slots ≤ R.slots) (hR : fr + 1 ≤ R.frames ∧ 8 + (n + 11) + lo ≤ R.locals) (hna : As.length = na) (ho : kd o = ci) (hci : ∃ T N, vwCl[ci]? = some (y.cls, T, N)) (h8 : ci < 8) (hst : st0 = As.reverse ++ .ref (gad o) :: st) (hrm : (st.map fun v => v.category).sum ≤ 8) (hM : gMV l D cy y b n fr lo (.ref (gad o) :: As) kd ln rh M post) (hd : decode cc pc = .ok (.invokevirtual idx, 3)) (kk : ∀ (M' : gM), post M' → gW p l e R s m args below meth c D cy A H0 Q nL kd ln rh cells slots M' (pc + 3) lv st) : gW p l e R s m args below meth c D cy A H0 Q nL kd ln rh cells slots M pc lv st0 := by
  intro H locs ls hS hl
  obtain ⟨hx, hb, hml, hown, hts, hK, -, hZ⟩ := C
  have hS2 := hS
  obtain ⟨hat, hA1, hA2, hA3, hVS0⟩ := hS2
  obtain ⟨T, N, hcl⟩ := hci
  have hre : ∃ cell : Cell, H[gad o]? = some cell ∧ cell.vm.isStatics = false ∧ s.vm.findClass y.cls = some cell.cls := by
    obtain ⟨-, cell, q1, q2, q3, -⟩ := hat.1 o (by rw [ho]; exact h8)
    exact ⟨cell, q1, by rw [q3]; rfl, by rw [q2, ho]; exact (hK.1.1 _ _ hcl).2.1⟩
  refine va_callv (va_runV (As := As) (rest := st) ⟨hx, hb, hml, hown, hts⟩ (hM H.size) ⟨callB_of na hts (gws_in hcode) rfl rfl rfl (hts _ G.2.2.2.1) (hts _ G.1) ⟨G.2.2.2.2.1, G.2.2.2.2.2.1, G.2.2.2.2.2.2⟩ hR, hts _ G.2.1, hts _ G.2.2.1⟩ ⟨gPre_blind, hre, fun U hU hW => ⟨rfl, by rw [hU], by rw [hU]; exact hat, gK.warm hW hK, by rw [hU]; exact gZ.go hZ hW.alike hVS0.2.1 (gS_adr hS)⟩⟩ rfl hna hl.1 hst (lv_room hrm) hd hcs) hVS0 (fun q _ h => gS_adr hS q h) (gS_adr hS) (fun u t H1 locs1 ht hvm hw hB hz1 hk1 hVS => ?_)
  skip
  have hB : gAt D cy kd ln rh u t.heap := hB
  rw [ht] at hB
  exact kk u hw H1 locs1 ls ⟨hB, hA1, hA2, hA3, hVS⟩ hl
theorem q_callSV (C : gC p s m args c cc nL own D cy A H0) {post : gM → Prop} (G : gCS own idx y na) (hcode : Cond.code y b n none ∈ gT) (hcs : cells ≤ R.cells ∧ slots ≤ R.slots) (hR : fr + 1 ≤ R.frames ∧ 8 + (n + 11) + lo ≤ R.locals) (hna : As.length = na) (hst : st0 = As.reverse ++ st) (hrm : (st.map fun v => v.category).sum ≤ 8) (hM : gMV l D cy y b n fr lo As kd ln rh M post) (hd : decode cc pc = .ok (.invokestatic idx, 3)) (kk : ∀ (M' : gM), post M' → gW p l e R s m args below meth c D cy A H0 Q nL kd ln rh cells slots M' (pc + 3) lv st) : gW p l e R s m args below meth c D cy A H0 Q nL kd ln rh cells slots M pc lv st0 := by
  intro H locs ls hS hl
  obtain ⟨hx, hb, hml, hown, hts, hK, -, hZ⟩ := C
  have hS2 := hS
  obtain ⟨hat, hA1, hA2, hA3, hVS0⟩ := hS2
  refine va_callv (va_runS (As := As) (rest := st) ⟨hx, hb, hml, hown, hts⟩ (hM H.size) ⟨callB_of na hts (gws_in hcode) rfl rfl rfl (hts _ G.2.2.1) (hts _ G.1) ⟨G.2.2.2.1, G.2.2.2.2.1, G.2.2.2.2.2⟩ hR, hts _ G.2.1⟩ ⟨gPre_blind, fun U hU hW => ⟨rfl, by rw [hU], by rw [hU]; exact hat, gK.warm hW hK, by rw [hU]; exact gZ.go hZ hW.alike hVS0.2.1 (gS_adr hS)⟩⟩ rfl hna hl.1 hst (lv_room hrm) hd hcs) hVS0 (fun q _ h => gS_adr hS q h) (gS_adr hS) (fun u t H1 locs1 ht hvm hw hB hz1 hk1 hVS => ?_)
  skip
  have hB : gAt D cy kd ln rh u t.heap := hB
  rw [ht] at hB
  exact kk u hw H1 locs1 ls ⟨hB, hA1, hA2, hA3, hVS⟩ hl
theorem q_callNV (C : gC p s m args c cc nL own D cy A H0) {post : gM → Prop} (G : gCN own idx y na) (hcode : Cond.code y b n none ∈ gT) (hcs : cells ≤ R.cells ∧ slots ≤ R.slots) (hR : fr + 1 ≤ R.frames ∧ 8 + (n + 11) + lo ≤ R.locals) (hna : As.length = na) (hst : st0 = As.reverse ++ st) (hrm : (st.map fun v => v.category).sum ≤ 8) (hM : gMV l D cy y b n fr lo As kd ln rh M post) (hd : decode cc pc = .ok (.invokestatic idx, 3)) (kk : ∀ (M' : gM), post M' → gW p l e R s m args below meth c D cy A H0 Q nL kd ln rh cells slots M' (pc + 3) lv st) : gW p l e R s m args below meth c D cy A H0 Q nL kd ln rh cells slots M pc lv st0 := by
  intro H locs ls hS hl
  obtain ⟨hx, hb, hml, hown, hts, hK, -, hZ⟩ := C
  have hS2 := hS
  obtain ⟨hat, hA1, hA2, hA3, hVS0⟩ := hS2
  obtain ⟨⟨host, hnest⟩, G⟩ := G
  refine va_callv (va_runSN (As := As) (rest := st) ⟨hx, hb, hml, hown, hts⟩ (hM H.size) ⟨va_cnB na hts (gws_in hcode) rfl rfl rfl (hK.2.1 _ hnest) (hts _ G.2.1) ⟨G.2.2.1, G.2.2.2.1, G.2.2.2.2⟩ hR, hts _ G.1, trivial⟩ ⟨gPre_blind, fun U hU hW => ⟨rfl, by rw [hU], by rw [hU]; exact hat, gK.warm hW hK, by rw [hU]; exact gZ.go hZ hW.alike hVS0.2.1 (gS_adr hS)⟩⟩ rfl hna hl.1 hst (lv_room hrm) hd hcs) hVS0 (fun q _ h => gS_adr hS q h) (gS_adr hS) (fun u t H1 locs1 ht hvm hw hB hz1 hk1 hVS => ?_)
  skip
  have hB : gAt D cy kd ln rh u t.heap := hB
  rw [ht] at hB
  exact kk u hw H1 locs1 ls ⟨hB, hA1, hA2, hA3, hVS⟩ hl
theorem q_callVL (C : gC p s m args c cc nL own D cy A H0) {post : BitVec 64 → gM → Prop} {o : Int} {ci : Nat} (G : gCV own idx y na) (hcode : Cond.code y b n (some .long) ∈ gT) (hcs : cells ≤ R.cells ∧ slots ≤ R.slots) (hR : fr + 1 ≤ R.frames ∧ 8 + (n + 11) + lo ≤ R.locals) (hna : As.length = na) (ho : kd o = ci) (hci : ∃ T N, vwCl[ci]? = some (y.cls, T, N)) (h8 : ci < 8) (hst : st0 = As.reverse ++ .ref (gad o) :: st) (hrm : (st.map fun v => v.category).sum ≤ 8) (hM : gML l D cy y b n fr lo (.ref (gad o) :: As) kd ln rh M post) (hd : decode cc pc = .ok (.invokevirtual idx, 3)) (kk : ∀ (x : BitVec 64) (M' : gM), post x M' → gW p l e R s m args below meth c D cy A H0 Q nL kd ln rh cells slots M' (pc + 3) lv (.long (gL x) :: st)) : gW p l e R s m args below meth c D cy A H0 Q nL kd ln rh cells slots M pc lv st0 := by
  intro H locs ls hS hl
  obtain ⟨hx, hb, hml, hown, hts, hK, -, hZ⟩ := C
  have hS2 := hS
  obtain ⟨hat, hA1, hA2, hA3, hVS0⟩ := hS2
  obtain ⟨T, N, hcl⟩ := hci
  have hre : ∃ cell : Cell, H[gad o]? = some cell ∧ cell.vm.isStatics = false ∧ s.vm.findClass y.cls = some cell.cls := by
    obtain ⟨-, cell, q1, q2, q3, -⟩ := hat.1 o (by rw [ho]; exact h8)
    exact ⟨cell, q1, by rw [q3]; rfl, by rw [q2, ho]; exact (hK.1.1 _ _ hcl).2.1⟩
  refine va_calll (va_runV (As := As) (rest := st) ⟨hx, hb, hml, hown, hts⟩ (hM H.size) ⟨callB_of na hts (gws_in hcode) rfl rfl rfl (hts _ G.2.2.2.1) (hts _ G.1) ⟨G.2.2.2.2.1, G.2.2.2.2.2.1, G.2.2.2.2.2.2⟩ hR, hts _ G.2.1, hts _ G.2.2.1⟩ ⟨gPre_blind, hre, fun U hU hW => ⟨rfl, by rw [hU], by rw [hU]; exact hat, gK.warm hW hK, by rw [hU]; exact gZ.go hZ hW.alike hVS0.2.1 (gS_adr hS)⟩⟩ rfl hna hl.1 hst (lv_room hrm) hd hcs) hVS0 (fun q _ h => gS_adr hS q h) (gS_adr hS) (fun r u t H1 locs1 ht hvm hw hB hz1 hk1 hVS => ?_)
  obtain ⟨x, rfl, hpx⟩ := hw
  have hB : gAt D cy kd ln rh u t.heap := hB
  rw [ht] at hB
  exact kk x u hpx H1 locs1 ls ⟨hB, hA1, hA2, hA3, hVS⟩ hl
theorem q_callSL (C : gC p s m args c cc nL own D cy A H0) {post : BitVec 64 → gM → Prop} (G : gCS own idx y na) (hcode : Cond.code y b n (some .long) ∈ gT) (hcs : cells ≤ R.cells ∧ slots ≤ R.slots) (hR : fr + 1 ≤ R.frames ∧ 8 + (n + 11) + lo ≤ R.locals) (hna : As.length = na) (hst : st0 = As.reverse ++ st) (hrm : (st.map fun v => v.category).sum ≤ 8) (hM : gML l D cy y b n fr lo As kd ln rh M post) (hd : decode cc pc = .ok (.invokestatic idx, 3)) (kk : ∀ (x : BitVec 64) (M' : gM), post x M' → gW p l e R s m args below meth c D cy A H0 Q nL kd ln rh cells slots M' (pc + 3) lv (.long (gL x) :: st)) : gW p l e R s m args below meth c D cy A H0 Q nL kd ln rh cells slots M pc lv st0 := by
  intro H locs ls hS hl
  obtain ⟨hx, hb, hml, hown, hts, hK, -, hZ⟩ := C
  have hS2 := hS
  obtain ⟨hat, hA1, hA2, hA3, hVS0⟩ := hS2
  refine va_calll (va_runS (As := As) (rest := st) ⟨hx, hb, hml, hown, hts⟩ (hM H.size) ⟨callB_of na hts (gws_in hcode) rfl rfl rfl (hts _ G.2.2.1) (hts _ G.1) ⟨G.2.2.2.1, G.2.2.2.2.1, G.2.2.2.2.2⟩ hR, hts _ G.2.1⟩ ⟨gPre_blind, fun U hU hW => ⟨rfl, by rw [hU], by rw [hU]; exact hat, gK.warm hW hK, by rw [hU]; exact gZ.go hZ hW.alike hVS0.2.1 (gS_adr hS)⟩⟩ rfl hna hl.1 hst (lv_room hrm) hd hcs) hVS0 (fun q _ h => gS_adr hS q h) (gS_adr hS) (fun r u t H1 locs1 ht hvm hw hB hz1 hk1 hVS => ?_)
  obtain ⟨x, rfl, hpx⟩ := hw
  have hB : gAt D cy kd ln rh u t.heap := hB
  rw [ht] at hB
  exact kk x u hpx H1 locs1 ls ⟨hB, hA1, hA2, hA3, hVS⟩ hl
theorem q_callNL (C : gC p s m args c cc nL own D cy A H0) {post : BitVec 64 → gM → Prop} (G : gCN own idx y na) (hcode : Cond.code y b n (some .long) ∈ gT) (hcs : cells ≤ R.cells ∧ slots ≤ R.slots) (hR : fr + 1 ≤ R.frames ∧ 8 + (n + 11) + lo ≤ R.locals) (hna : As.length = na) (hst : st0 = As.reverse ++ st) (hrm : (st.map fun v => v.category).sum ≤ 8) (hM : gML l D cy y b n fr lo As kd ln rh M post) (hd : decode cc pc = .ok (.invokestatic idx, 3)) (kk : ∀ (x : BitVec 64) (M' : gM), post x M' → gW p l e R s m args below meth c D cy A H0 Q nL kd ln rh cells slots M' (pc + 3) lv (.long (gL x) :: st)) : gW p l e R s m args below meth c D cy A H0 Q nL kd ln rh cells slots M pc lv st0 := by
  intro H locs ls hS hl
  obtain ⟨hx, hb, hml, hown, hts, hK, -, hZ⟩ := C
  have hS2 := hS
  obtain ⟨hat, hA1, hA2, hA3, hVS0⟩ := hS2
  obtain ⟨⟨host, hnest⟩, G⟩ := G
  refine va_calll (va_runSN (As := As) (rest := st) ⟨hx, hb, hml, hown, hts⟩ (hM H.size) ⟨va_cnB na hts (gws_in hcode) rfl rfl rfl (hK.2.1 _ hnest) (hts _ G.2.1) ⟨G.2.2.1, G.2.2.2.1, G.2.2.2.2⟩ hR, hts _ G.1, trivial⟩ ⟨gPre_blind, fun U hU hW => ⟨rfl, by rw [hU], by rw [hU]; exact hat, gK.warm hW hK, by rw [hU]; exact gZ.go hZ hW.alike hVS0.2.1 (gS_adr hS)⟩⟩ rfl hna hl.1 hst (lv_room hrm) hd hcs) hVS0 (fun q _ h => gS_adr hS q h) (gS_adr hS) (fun r u t H1 locs1 ht hvm hw hB hz1 hk1 hVS => ?_)
  obtain ⟨x, rfl, hpx⟩ := hw
  have hB : gAt D cy kd ln rh u t.heap := hB
  rw [ht] at hB
  exact kk x u hpx H1 locs1 ls ⟨hB, hA1, hA2, hA3, hVS⟩ hl
end GCall
