/-! CONTRACTS of methods that make cells: at most mc cells of ms slots; the layout behind is told by 'post' -/
abbrev gLy : Type := gKd × gLn × gRh × gM
abbrev gRx (fr lo mc ms : Nat) : Room := { frames := fr, cells := mc, slots := ms, locals := lo }
def gEnx (D : va_G) (cy : Nat → ClassId) (kd : gKd) (ln : gLn) (rh : gRh) (sz : Nat) (u : gLy) (t : State) : Prop := gAt D cy u.1 u.2.1 u.2.2.1 u.2.2.2 t.heap ∧ (∀ o, u.1 o < 8 → gAdr kd ln rh sz (gad o)) ∧ (∀ o k, 0 ≤ u.2.1 o k → gAdr kd ln rh sz (u.2.2.1 o k)) ∧ gKp kd ln rh u.1 u.2.1 u.2.2.1
def gXV (l : Launch) (D : va_G) (cy : Nat → ClassId) (y : MethodName) (b : ByteArray) (n : Nat) (fr lo mc ms : Nat) (vs : List Value) (kd : gKd) (ln : gLn) (rh : gRh) (M : gM) (post : gKd → gLn → gM → Prop) : Prop :=
  ∀ sz : Nat, Met l y (gws y b n none) (gRx fr lo mc ms) (va_Pc vs (gPre D cy kd ln rh M sz)) (va_Qv (fun (u : gLy) => post u.1 u.2.1 u.2.2.2) (gEnx D cy kd ln rh sz) (gAdr kd ln rh sz)) mc ms (gAdr kd ln rh sz)
def gXI (l : Launch) (D : va_G) (cy : Nat → ClassId) (y : MethodName) (b : ByteArray) (n : Nat) (rt : FieldType) (fr lo mc ms : Nat) (vs : List Value) (kd : gKd) (ln : gLn) (rh : gRh) (M : gM) (post : Int → gKd → gLn → gM → Prop) : Prop :=
  ∀ sz : Nat, Met l y (gws y b n (some rt)) (gRx fr lo mc ms) (va_Pc vs (gPre D cy kd ln rh M sz)) (va_Qi (fun r (u : gLy) => ∃ x, r = gI x ∧ rng x ∧ post x u.1 u.2.1 u.2.2.2) (gEnx D cy kd ln rh sz) (gAdr kd ln rh sz)) mc ms (gAdr kd ln rh sz)
def gXR (l : Launch) (D : va_G) (cy : Nat → ClassId) (y : MethodName) (b : ByteArray) (n : Nat) (rc : String) (fr lo mc ms : Nat) (vs : List Value) (kd : gKd) (ln : gLn) (rh : gRh) (M : gM) (post : Int → gKd → gLn → gM → Prop) : Prop :=
  ∀ sz : Nat, Met l y (gws y b n (some (.object rc))) (gRx fr lo mc ms) (va_Pc vs (gPre D cy kd ln rh M sz)) (va_Qr (fun (u : Int × gLy) => post u.1 u.2.1 u.2.2.1 u.2.2.2.2) (fun u a t => a = gad u.1 ∧ gEnx D cy kd ln rh sz u.2 t) (gAdr kd ln rh sz)) mc ms (gAdr kd ln rh sz)
theorem gXV_of {l : Launch} {D : va_G} {cy : Nat → ClassId} {y : MethodName} {b : ByteArray} {n : Nat} {fr lo mc ms : Nat} {vs : List Value} {kd : gKd} {ln : gLn} {rh : gRh} {M : gM} {own : String} (hy : plainName y.cls = true) (ho : y.cls = own) (hnl : (lg_sl vs).length ≤ n) {post : gKd → gLn → gM → Prop} (body : ∀ (p : Program) (e : Env) (s : State) (m : MethodId) (args : Array Value) (below : List Frame) (meth : Method) (c : Code) (A : Nat → Prop) (H0 : Heap) (Q : State → Prop), gC p s m args c b n own D cy A H0 → meth.name = y.name → (∀ (kd' : gKd) (ln' : gLn) (rh' : gRh) (M' : gM) (pc' : Nat) (lv' : List (Nat × Value)) (ce sl : Nat), ce ≤ mc → sl ≤ ms → gKp kd ln rh kd' ln' rh' →  decode b pc' = .ok (.return_, 1) → post kd' ln' M' → gW p l e (gRx fr lo mc ms) s m args below meth c D cy A H0 Q n kd' ln' rh' ce sl M' pc' lv' []) → gW p l e (gRx fr lo mc ms) s m args below meth c D cy A H0 Q n kd ln rh 0 0 M 0 (lv_args 0 vs) []) : gXV l D cy y b n fr lo mc ms vs kd ln rh M post := by
  intro sz
  refine Met.ofW (cc := b) (maxL := n) (ret := none) hy rfl ?_
  intro p e s m args below meth c s₁ B hml hv
  obtain ⟨rfl, hsz, hat, hK, hZ⟩ := hv
  have hx := B.exec
  have hb := B.bytes
  have hr := B.returns
  have hts0 := atoms_spec (ws := gws y b n none) B.pre
  have hts : ∀ w ∈ gT, w.before vs.toArray s = true := fun w hw => hts0 w (List.mem_cons_of_mem _ hw)
  have hown : s.vm.findClass y.cls = some m.cls := findClass_of_methodNamed B.named
  have hlocks := B.notSynchronized
  rw [ho] at hown
  have hl := lv_entry vs (n := n) hnl
  rw [lg_entry_eq]
  generalize (lg_sl vs ++ List.replicate (n - (lg_sl vs).length) Slot.unset).toArray = ls at hl ⊢
  refine body p e s m vs.toArray below meth c (gAdr kd ln rh sz) s.heap _ ⟨hx, hb, hml, hown, hts, hK, rfl, hZ⟩ (name_of_methodNamed B.named B.method).1 ?_ s.heap [] ls ⟨hat, fun o h => Or.inl ⟨o, h, rfl⟩, fun o k h => Or.inr (Or.inl ⟨o, k, h, rfl⟩), fun q h => Or.inr (Or.inr (by rw [← hsz]; exact h)), va_S.rf⟩ hl
  intro kd' ln' rh' M' pc' lv' ce sl hce hsl hkp hd hp H locs ls' hS hl'
  refine W.widen (k := mc) (n := ms) hce hsl ?_
  exact W.vret hx hb hr (fun t ht hW => ⟨⟨(kd', ln', rh', M'), rfl, hp, ⟨by rw [ht]; exact hS.1, hS.2.1, hS.2.2.1, hkp⟩⟩, hS.2.2.2.2.F ht⟩) hS.2.2.2.2.2.2 hd
theorem gXI_of {l : Launch} {D : va_G} {cy : Nat → ClassId} {y : MethodName} {b : ByteArray} {n : Nat} {fr lo mc ms : Nat} {vs : List Value} {kd : gKd} {ln : gLn} {rh : gRh} {M : gM} {own : String} (hy : plainName y.cls = true) (ho : y.cls = own) (hnl : (lg_sl vs).length ≤ n) {post : Int → gKd → gLn → gM → Prop} (body : ∀ (p : Program) (e : Env) (s : State) (m : MethodId) (args : Array Value) (below : List Frame) (meth : Method) (c : Code) (A : Nat → Prop) (H0 : Heap) (Q : State → Prop), gC p s m args c b n own D cy A H0 → meth.name = y.name → (∀ (x : Int) (kd' : gKd) (ln' : gLn) (rh' : gRh) (M' : gM) (pc' : Nat) (lv' : List (Nat × Value)) (ce sl : Nat), ce ≤ mc → sl ≤ ms → gKp kd ln rh kd' ln' rh' →  decode b pc' = .ok (.ireturn, 1) → rng x → post x kd' ln' M' → gW p l e (gRx fr lo mc ms) s m args below meth c D cy A H0 Q n kd' ln' rh' ce sl M' pc' lv' [.int (gI x)]) → gW p l e (gRx fr lo mc ms) s m args below meth c D cy A H0 Q n kd ln rh 0 0 M 0 (lv_args 0 vs) []) : gXI l D cy y b n .int fr lo mc ms vs kd ln rh M post := by
  intro sz
  refine Met.ofW (cc := b) (maxL := n) (ret := (some .int)) hy rfl ?_
  intro p e s m args below meth c s₁ B hml hv
  obtain ⟨rfl, hsz, hat, hK, hZ⟩ := hv
  have hx := B.exec
  have hb := B.bytes
  have hr := B.returns
  have hts0 := atoms_spec (ws := gws y b n (some .int)) B.pre
  have hts : ∀ w ∈ gT, w.before vs.toArray s = true := fun w hw => hts0 w (List.mem_cons_of_mem _ hw)
  have hown : s.vm.findClass y.cls = some m.cls := findClass_of_methodNamed B.named
  have hlocks := B.notSynchronized
  rw [ho] at hown
  have hl := lv_entry vs (n := n) hnl
  rw [lg_entry_eq]
  generalize (lg_sl vs ++ List.replicate (n - (lg_sl vs).length) Slot.unset).toArray = ls at hl ⊢
  refine body p e s m vs.toArray below meth c (gAdr kd ln rh sz) s.heap _ ⟨hx, hb, hml, hown, hts, hK, rfl, hZ⟩ (name_of_methodNamed B.named B.method).1 ?_ s.heap [] ls ⟨hat, fun o h => Or.inl ⟨o, h, rfl⟩, fun o k h => Or.inr (Or.inl ⟨o, k, h, rfl⟩), fun q h => Or.inr (Or.inr (by rw [← hsz]; exact h)), va_S.rf⟩ hl
  intro x kd' ln' rh' M' pc' lv' ce sl hce hsl hkp hd hc hp H locs ls' hS hl'
  refine W.widen (k := mc) (n := ms) hce hsl ?_
  exact W.iret (v := gI x) hx hb hr (fun t ht hW => ⟨⟨gI x, (kd', ln', rh', M'), rfl, ⟨x, rfl, hc, hp⟩, ⟨by rw [ht]; exact hS.1, hS.2.1, hS.2.2.1, hkp⟩⟩, hS.2.2.2.2.F ht⟩) hS.2.2.2.2.2.2 hd
theorem gXI_ofZ {l : Launch} {D : va_G} {cy : Nat → ClassId} {y : MethodName} {b : ByteArray} {n : Nat} {fr lo mc ms : Nat} {vs : List Value} {kd : gKd} {ln : gLn} {rh : gRh} {M : gM} {own : String} (hy : plainName y.cls = true) (ho : y.cls = own) (hnl : (lg_sl vs).length ≤ n) {post : Int → gKd → gLn → gM → Prop} (body : ∀ (p : Program) (e : Env) (s : State) (m : MethodId) (args : Array Value) (below : List Frame) (meth : Method) (c : Code) (A : Nat → Prop) (H0 : Heap) (Q : State → Prop), gC p s m args c b n own D cy A H0 → meth.name = y.name → (∀ (x : Int) (kd' : gKd) (ln' : gLn) (rh' : gRh) (M' : gM) (pc' : Nat) (lv' : List (Nat × Value)) (ce sl : Nat), ce ≤ mc → sl ≤ ms → gKp kd ln rh kd' ln' rh' →  decode b pc' = .ok (.ireturn, 1) → (x = 0 ∨ x = 1) → post x kd' ln' M' → gW p l e (gRx fr lo mc ms) s m args below meth c D cy A H0 Q n kd' ln' rh' ce sl M' pc' lv' [.int (gI x)]) → gW p l e (gRx fr lo mc ms) s m args below meth c D cy A H0 Q n kd ln rh 0 0 M 0 (lv_args 0 vs) []) : gXI l D cy y b n .boolean fr lo mc ms vs kd ln rh M post := by
  intro sz
  refine Met.ofW (cc := b) (maxL := n) (ret := (some .boolean)) hy rfl ?_
  intro p e s m args below meth c s₁ B hml hv
  obtain ⟨rfl, hsz, hat, hK, hZ⟩ := hv
  have hx := B.exec
  have hb := B.bytes
  have hr := B.returns
  have hts0 := atoms_spec (ws := gws y b n (some .boolean)) B.pre
  have hts : ∀ w ∈ gT, w.before vs.toArray s = true := fun w hw => hts0 w (List.mem_cons_of_mem _ hw)
  have hown : s.vm.findClass y.cls = some m.cls := findClass_of_methodNamed B.named
  have hlocks := B.notSynchronized
  rw [ho] at hown
  have hl := lv_entry vs (n := n) hnl
  rw [lg_entry_eq]
  generalize (lg_sl vs ++ List.replicate (n - (lg_sl vs).length) Slot.unset).toArray = ls at hl ⊢
  refine body p e s m vs.toArray below meth c (gAdr kd ln rh sz) s.heap _ ⟨hx, hb, hml, hown, hts, hK, rfl, hZ⟩ (name_of_methodNamed B.named B.method).1 ?_ s.heap [] ls ⟨hat, fun o h => Or.inl ⟨o, h, rfl⟩, fun o k h => Or.inr (Or.inl ⟨o, k, h, rfl⟩), fun q h => Or.inr (Or.inr (by rw [← hsz]; exact h)), va_S.rf⟩ hl
  intro x kd' ln' rh' M' pc' lv' ce sl hce hsl hkp hd hc hp H locs ls' hS hl'
  refine W.widen (k := mc) (n := ms) hce hsl ?_
  exact W.zret (v := gI x) (ty := .boolean) hx hb hr (gI_bool hc) (fun t ht hW => ⟨⟨gI x, (kd', ln', rh', M'), rfl, ⟨x, rfl, rng1 hc, hp⟩, ⟨by rw [ht]; exact hS.1, hS.2.1, hS.2.2.1, hkp⟩⟩, hS.2.2.2.2.F ht⟩) hS.2.2.2.2.2.2 hd
theorem gXR_of {l : Launch} {D : va_G} {cy : Nat → ClassId} {y : MethodName} {b : ByteArray} {n : Nat} {fr lo mc ms : Nat} {vs : List Value} {kd : gKd} {ln : gLn} {rh : gRh} {M : gM} {own : String} (hy : plainName y.cls = true) (ho : y.cls = own) (hnl : (lg_sl vs).length ≤ n) {rc : String} {post : Int → gKd → gLn → gM → Prop} (body : ∀ (p : Program) (e : Env) (s : State) (m : MethodId) (args : Array Value) (below : List Frame) (meth : Method) (c : Code) (A : Nat → Prop) (H0 : Heap) (Q : State → Prop), gC p s m args c b n own D cy A H0 → meth.name = y.name → (∀ (x : Int) (kd' : gKd) (ln' : gLn) (rh' : gRh) (M' : gM) (pc' : Nat) (lv' : List (Nat × Value)) (ce sl : Nat), ce ≤ mc → sl ≤ ms → gKp kd ln rh kd' ln' rh' →  decode b pc' = .ok (.areturn, 1) → post x kd' ln' M' → gW p l e (gRx fr lo mc ms) s m args below meth c D cy A H0 Q n kd' ln' rh' ce sl M' pc' lv' [.ref (gad x)]) → gW p l e (gRx fr lo mc ms) s m args below meth c D cy A H0 Q n kd ln rh 0 0 M 0 (lv_args 0 vs) []) : gXR l D cy y b n rc fr lo mc ms vs kd ln rh M post := by
  intro sz
  refine Met.ofW (cc := b) (maxL := n) (ret := (some (.object rc))) hy rfl ?_
  intro p e s m args below meth c s₁ B hml hv
  obtain ⟨rfl, hsz, hat, hK, hZ⟩ := hv
  have hx := B.exec
  have hb := B.bytes
  have hr := B.returns
  have hts0 := atoms_spec (ws := gws y b n (some (.object rc))) B.pre
  have hts : ∀ w ∈ gT, w.before vs.toArray s = true := fun w hw => hts0 w (List.mem_cons_of_mem _ hw)
  have hown : s.vm.findClass y.cls = some m.cls := findClass_of_methodNamed B.named
  have hlocks := B.notSynchronized
  rw [ho] at hown
  have hl := lv_entry vs (n := n) hnl
  rw [lg_entry_eq]
  generalize (lg_sl vs ++ List.replicate (n - (lg_sl vs).length) Slot.unset).toArray = ls at hl ⊢
  refine body p e s m vs.toArray below meth c (gAdr kd ln rh sz) s.heap _ ⟨hx, hb, hml, hown, hts, hK, rfl, hZ⟩ (name_of_methodNamed B.named B.method).1 ?_ s.heap [] ls ⟨hat, fun o h => Or.inl ⟨o, h, rfl⟩, fun o k h => Or.inr (Or.inl ⟨o, k, h, rfl⟩), fun q h => Or.inr (Or.inr (by rw [← hsz]; exact h)), va_S.rf⟩ hl
  intro x kd' ln' rh' M' pc' lv' ce sl hce hsl hkp hd hp H locs ls' hS hl'
  refine W.widen (k := mc) (n := ms) hce hsl ?_
  exact W.aret (v := .ref (gad x)) (rt := .object rc) hx hb hr (Or.inl ⟨_, rfl⟩) (Or.inr ⟨_, rfl⟩) (fun t ht hW => ⟨⟨(x, kd', ln', rh', M'), gad x, rfl, hp, rfl, ⟨by rw [ht]; exact hS.1, hS.2.1, hS.2.2.1, hkp⟩⟩, hS.2.2.2.2.F ht⟩) hS.2.2.2.2.2.2 hd
section GXC2
variable {p : Program} {l : Launch} {e : Env} {R : Room} {s : State} {m : MethodId} {args : Array Value} {below : List Frame} {meth : Method} {c : Code} {cells slots : Nat} {Q : State → Prop} {cc : ByteArray} {nL : Nat} {own : String} {D : va_G} {cy : Nat → ClassId} {A : Nat → Prop} {H0 : Heap} {kd : gKd} {ln : gLn} {rh : gRh} {M : gM} {pc : Nat} {lv : List (Nat × Value)} {st : List Value}
variable {y : MethodName} {b : ByteArray} {n fr lo mc ms idx na : Nat} {As st0 : List Value}
theorem q_objInit (C : gC p s m args c cc nL own D cy A H0) {idx : Nat} {o : Int} (hw : Cond.methodLink own idx objectInit ∈ gT ∧ Cond.instanceMethod objectInit ∈ gT ∧ Cond.code objectInit ⟨#[0xb1]⟩ 1 none ∈ gT) (hfr : 1 ≤ R.frames) (hlo : (st.map fun v => v.category).sum + 12 ≤ R.locals) (hd : decode cc pc = .ok (.invokespecial idx, 3)) (k : gW p l e R s m args below meth c D cy A H0 Q nL kd ln rh cells slots M (pc + 3) lv st) : gW p l e R s m args below meth c D cy A H0 Q nL kd ln rh cells slots M pc lv (.ref (gad o) :: st) := by
  intro H locs ls hS hl
  obtain ⟨hx, hb, hml, hown, hts, hK, -⟩ := C
  refine W.objInit hx hb hown (hts _ hw.1) (hts _ hw.2.1) (hts _ hw.2.2) rfl (by rw [hml]; exact hl.1) rfl hd hfr (by show 2 * 0 + _ + 12 ≤ _; omega) ?_
  exact k H locs ls hS hl
def gCI (own : String) (idx : Nat) (y : MethodName) (na : Nat) : Prop := Cond.methodLink own idx y ∈ gT ∧ Cond.instanceMethod y ∈ gT ∧ Cond.initialized y.cls ∈ gT ∧ y.name = "<init>" ∧ y.cls ≠ "java/lang/invoke/MethodHandle" ∧ y.cls ≠ "java/lang/invoke/VarHandle" ∧ (parseMethodDescriptor y.desc).map (fun d => d.parameters.length) = some na
def gCJ (own : String) (idx : Nat) (y : MethodName) (na : Nat) : Prop := (∃ host, (own, idx, y, host) ∈ gNest) ∧ Cond.instanceMethod y ∈ gT ∧ Cond.initialized y.cls ∈ gT ∧ y.name = "<init>" ∧ y.cls ≠ "java/lang/invoke/MethodHandle" ∧ y.cls ≠ "java/lang/invoke/VarHandle" ∧ (parseMethodDescriptor y.desc).map (fun d => d.parameters.length) = some na
theorem q_callIX (C : gC p s m args c cc nL own D cy A H0) {post : gKd → gLn → gM → Prop} {o : Int} (G : gCI own idx y na) (hcode : Cond.code y b n none ∈ gT) (hcs : cells + mc ≤ R.cells ∧ slots + ms ≤ R.slots) (hR : fr + 1 ≤ R.frames ∧ 8 + (n + 11) + lo ≤ R.locals) (hna : As.length = na) (hst : st0 = As.reverse ++ .ref (gad o) :: st) (hrm : (st.map fun v => v.category).sum ≤ 8) (hM : gXV l D cy y b n fr lo mc ms (.ref (gad o) :: As) kd ln rh M post) (hd : decode cc pc = .ok (.invokespecial idx, 3)) (kk : ∀ (kd' : gKd) (ln' : gLn) (rh' : gRh) (M' : gM), gKp kd ln rh kd' ln' rh' → post kd' ln' M' → gW p l e R s m args below meth c D cy A H0 Q nL kd' ln' rh' (cells + mc) (slots + ms) M' (pc + 3) lv st) : gW p l e R s m args below meth c D cy A H0 Q nL kd ln rh cells slots M pc lv st0 := by
  intro H locs ls hS hl
  obtain ⟨hx, hb, hml, hown, hts, hK, -, hZ⟩ := C
  have hS2 := hS
  obtain ⟨hat, hA1, hA2, hA3, hVS0⟩ := hS2
  refine va_callv (va_runI (As := As) (rest := st) ⟨hx, hb, hml, hown, hts⟩ (hM H.size) (cwI na hts (gws_in hcode) rfl rfl rfl (hts _ G.2.2.1) (hts _ G.1) (hts _ G.2.1) G.2.2.2.1 ⟨G.2.2.2.2.1, G.2.2.2.2.2.1, G.2.2.2.2.2.2⟩ hR) ⟨gPre_blind, fun U hU hW => ⟨rfl, by rw [hU], by rw [hU]; exact hat, gK.warm hW hK, by rw [hU]; exact gZ.go hZ hW.alike hVS0.2.1 (gS_adr hS)⟩⟩ rfl hna hl.1 hst (lv_room hrm) hd hcs) hVS0 (fun q _ h => gS_adr hS q h) (gS_adr hS) (fun u t H1 locs1 ht hvm hw hB hz1 hk1 hVS => ?_)
  obtain ⟨b1, b2, b3, b4⟩ := hB
  rw [ht] at b1
  exact kk u.1 u.2.1 u.2.2.1 u.2.2.2 b4 hw H1 locs1 ls ⟨b1, fun o h => gS_adr hS _ (b2 o h), fun o k h => gS_adr hS _ (b3 o k h), hA3, hVS⟩ hl
theorem q_callJX (C : gC p s m args c cc nL own D cy A H0) {post : gKd → gLn → gM → Prop} {o : Int} (G : gCJ own idx y na) (hcode : Cond.code y b n none ∈ gT) (hcs : cells + mc ≤ R.cells ∧ slots + ms ≤ R.slots) (hR : fr + 1 ≤ R.frames ∧ 8 + (n + 11) + lo ≤ R.locals) (hna : As.length = na) (hst : st0 = As.reverse ++ .ref (gad o) :: st) (hrm : (st.map fun v => v.category).sum ≤ 8) (hM : gXV l D cy y b n fr lo mc ms (.ref (gad o) :: As) kd ln rh M post) (hd : decode cc pc = .ok (.invokespecial idx, 3)) (kk : ∀ (kd' : gKd) (ln' : gLn) (rh' : gRh) (M' : gM), gKp kd ln rh kd' ln' rh' → post kd' ln' M' → gW p l e R s m args below meth c D cy A H0 Q nL kd' ln' rh' (cells + mc) (slots + ms) M' (pc + 3) lv st) : gW p l e R s m args below meth c D cy A H0 Q nL kd ln rh cells slots M pc lv st0 := by
  intro H locs ls hS hl
  obtain ⟨hx, hb, hml, hown, hts, hK, -, hZ⟩ := C
  have hS2 := hS
  obtain ⟨hat, hA1, hA2, hA3, hVS0⟩ := hS2
  obtain ⟨⟨host, hnest⟩, G⟩ := G
  refine va_callv (va_runIN (As := As) (rest := st) ⟨hx, hb, hml, hown, hts⟩ (hM H.size) ⟨va_cnB na hts (gws_in hcode) rfl rfl rfl (hK.2.1 _ hnest) (hts _ G.2.1) ⟨G.2.2.2.1, G.2.2.2.2.1, G.2.2.2.2.2⟩ hR, G.2.2.1, hts _ G.1⟩ ⟨gPre_blind, fun U hU hW => ⟨rfl, by rw [hU], by rw [hU]; exact hat, gK.warm hW hK, by rw [hU]; exact gZ.go hZ hW.alike hVS0.2.1 (gS_adr hS)⟩⟩ rfl hna hl.1 hst (lv_room hrm) hd hcs) hVS0 (fun q _ h => gS_adr hS q h) (gS_adr hS) (fun u t H1 locs1 ht hvm hw hB hz1 hk1 hVS => ?_)
  obtain ⟨b1, b2, b3, b4⟩ := hB
  rw [ht] at b1
  exact kk u.1 u.2.1 u.2.2.1 u.2.2.2 b4 hw H1 locs1 ls ⟨b1, fun o h => gS_adr hS _ (b2 o h), fun o k h => gS_adr hS _ (b3 o k h), hA3, hVS⟩ hl
theorem q_callXR (C : gC p s m args c cc nL own D cy A H0) {rc : String} {post : Int → gKd → gLn → gM → Prop} {o : Int} {ci : Nat} (G : gCV own idx y na) (hcode : Cond.code y b n (some (.object rc)) ∈ gT) (hcs : cells + mc ≤ R.cells ∧ slots + ms ≤ R.slots) (hR : fr + 1 ≤ R.frames ∧ 8 + (n + 11) + lo ≤ R.locals) (hna : As.length = na) (ho : kd o = ci) (hci : ∃ T N, vwCl[ci]? = some (y.cls, T, N)) (h8 : ci < 8) (hst : st0 = As.reverse ++ .ref (gad o) :: st) (hrm : (st.map fun v => v.category).sum ≤ 8) (hM : gXR l D cy y b n rc fr lo mc ms (.ref (gad o) :: As) kd ln rh M post) (hd : decode cc pc = .ok (.invokevirtual idx, 3)) (kk : ∀ (x : Int) (kd' : gKd) (ln' : gLn) (rh' : gRh) (M' : gM), gKp kd ln rh kd' ln' rh' → post x kd' ln' M' → gW p l e R s m args below meth c D cy A H0 Q nL kd' ln' rh' (cells + mc) (slots + ms) M' (pc + 3) lv (.ref (gad x) :: st)) : gW p l e R s m args below meth c D cy A H0 Q nL kd ln rh cells slots M pc lv st0 := by
  intro H locs ls hS hl
  obtain ⟨hx, hb, hml, hown, hts, hK, -, hZ⟩ := C
  have hS2 := hS
  obtain ⟨hat, hA1, hA2, hA3, hVS0⟩ := hS2
  obtain ⟨T, N, hcl⟩ := hci
  have hre : ∃ cell : Cell, H[gad o]? = some cell ∧ cell.vm.isStatics = false ∧ s.vm.findClass y.cls = some cell.cls := by
    obtain ⟨-, cell, q1, q2, q3, -⟩ := hat.1 o (by rw [ho]; exact h8)
    exact ⟨cell, q1, by rw [q3]; rfl, by rw [q2, ho]; exact (hK.1.1 _ _ hcl).2.1⟩
  refine va_callr (va_runV (As := As) (rest := st) ⟨hx, hb, hml, hown, hts⟩ (hM H.size) ⟨callB_of na hts (gws_in hcode) rfl rfl rfl (hts _ G.2.2.2.1) (hts _ G.1) ⟨G.2.2.2.2.1, G.2.2.2.2.2.1, G.2.2.2.2.2.2⟩ hR, hts _ G.2.1, hts _ G.2.2.1⟩ ⟨gPre_blind, hre, fun U hU hW => ⟨rfl, by rw [hU], by rw [hU]; exact hat, gK.warm hW hK, by rw [hU]; exact gZ.go hZ hW.alike hVS0.2.1 (gS_adr hS)⟩⟩ rfl hna hl.1 hst (lv_room hrm) hd hcs) hVS0 (fun q _ h => gS_adr hS q h) (gS_adr hS) (fun u ra t H1 locs1 ht hvm hw hB hz1 hk1 hVS => ?_)
  obtain ⟨rfl, hB⟩ := hB
  obtain ⟨b1, b2, b3, b4⟩ := hB
  rw [ht] at b1
  exact kk u.1 u.2.1 u.2.2.1 u.2.2.2.1 u.2.2.2.2 b4 hw H1 locs1 ls ⟨b1, fun o h => gS_adr hS _ (b2 o h), fun o k h => gS_adr hS _ (b3 o k h), hA3, hVS⟩ hl
theorem q_callXI (C : gC p s m args c cc nL own D cy A H0) {rt : FieldType} {post : Int → gKd → gLn → gM → Prop} {o : Int} {ci : Nat} (G : gCV own idx y na) (hcode : Cond.code y b n (some rt) ∈ gT) (hcs : cells + mc ≤ R.cells ∧ slots + ms ≤ R.slots) (hR : fr + 1 ≤ R.frames ∧ 8 + (n + 11) + lo ≤ R.locals) (hna : As.length = na) (ho : kd o = ci) (hci : ∃ T N, vwCl[ci]? = some (y.cls, T, N)) (h8 : ci < 8) (hst : st0 = As.reverse ++ .ref (gad o) :: st) (hrm : (st.map fun v => v.category).sum ≤ 8) (hM : gXI l D cy y b n rt fr lo mc ms (.ref (gad o) :: As) kd ln rh M post) (hd : decode cc pc = .ok (.invokevirtual idx, 3)) (kk : ∀ (x : Int) (kd' : gKd) (ln' : gLn) (rh' : gRh) (M' : gM), gKp kd ln rh kd' ln' rh' → rng x → post x kd' ln' M' → gW p l e R s m args below meth c D cy A H0 Q nL kd' ln' rh' (cells + mc) (slots + ms) M' (pc + 3) lv (.int (gI x) :: st)) : gW p l e R s m args below meth c D cy A H0 Q nL kd ln rh cells slots M pc lv st0 := by
  intro H locs ls hS hl
  obtain ⟨hx, hb, hml, hown, hts, hK, -, hZ⟩ := C
  have hS2 := hS
  obtain ⟨hat, hA1, hA2, hA3, hVS0⟩ := hS2
  obtain ⟨T, N, hcl⟩ := hci
  have hre : ∃ cell : Cell, H[gad o]? = some cell ∧ cell.vm.isStatics = false ∧ s.vm.findClass y.cls = some cell.cls := by
    obtain ⟨-, cell, q1, q2, q3, -⟩ := hat.1 o (by rw [ho]; exact h8)
    exact ⟨cell, q1, by rw [q3]; rfl, by rw [q2, ho]; exact (hK.1.1 _ _ hcl).2.1⟩
  refine va_calli (va_runV (As := As) (rest := st) ⟨hx, hb, hml, hown, hts⟩ (hM H.size) ⟨callB_of na hts (gws_in hcode) rfl rfl rfl (hts _ G.2.2.2.1) (hts _ G.1) ⟨G.2.2.2.2.1, G.2.2.2.2.2.1, G.2.2.2.2.2.2⟩ hR, hts _ G.2.1, hts _ G.2.2.1⟩ ⟨gPre_blind, hre, fun U hU hW => ⟨rfl, by rw [hU], by rw [hU]; exact hat, gK.warm hW hK, by rw [hU]; exact gZ.go hZ hW.alike hVS0.2.1 (gS_adr hS)⟩⟩ rfl hna hl.1 hst (lv_room hrm) hd hcs) hVS0 (fun q _ h => gS_adr hS q h) (gS_adr hS) (fun r u t H1 locs1 ht hvm hw hB hz1 hk1 hVS => ?_)
  obtain ⟨x, rfl, hrx, hpx⟩ := hw
  obtain ⟨b1, b2, b3, b4⟩ := hB
  rw [ht] at b1
  exact kk x u.1 u.2.1 u.2.2.1 u.2.2.2 b4 hrx hpx H1 locs1 ls ⟨b1, fun o h => gS_adr hS _ (b2 o h), fun o k h => gS_adr hS _ (b3 o k h), hA3, hVS⟩ hl
theorem q_aast (C : gC p s m args c cc nL own D cy A H0) {ci k t0 t cj : Nat} {Cn : String} {o i x : Int} (ho : kd o = ci) (ht : gak ci k = t) (hgt : ∀ x j, gav rh o t x j = gR x) (hty : (gtys cy)[t0]? = some (cy t, .object Cn)) (hxk : kd x = cj) (h8 : cj < 8) (hcl : ∃ T N, vwCl[cj]? = some (Cn, T, N)) (hr : gRg ci k x) (hi : 0 ≤ i ∧ i < ln o k) (hd : decode cc pc = .ok (.aastore, 1)) (kk : gW p l e R s m args below meth c D cy A H0 Q nL kd ln rh cells slots (gu M o k i x) (pc + 1) lv st) : gW p l e R s m args below meth c D cy A H0 Q nL kd ln rh cells slots M pc lv (.ref (gad x) :: .int (gI i) :: .ref (rh o k) :: st) := by
  intro H locs ls hS hl
  obtain ⟨hx, hb, hml, hown, hts, ⟨hK, -⟩, -⟩ := C
  obtain ⟨hat, hA1, hA2, hA3, hVS⟩ := hS
  subst ho
  obtain ⟨a1, -, a2⟩ := hat.2.1 o k (by omega)
  obtain ⟨T, N, hcl⟩ := hcl
  obtain ⟨hpx, cellV, g1, g2, g3, -⟩ := hat.1 x (by rw [hxk]; exact h8)
  rw [hxk] at g2
  have hcls := (hK.1 cj _ hcl).2
  obtain ⟨kA, comp, k1, k2, k3, -⟩ := (hK.2 t0 _ hty).2
  have hcomp : comp = D.1 cj := Option.some.inj (k3.symm.trans hcls.1)
  subst hcomp
  have hcls2 := hcls
  obtain ⟨kC, hkC, -⟩ := hcls.2
  have hz : i < ((ln o k).toNat : Int) := by omega
  refine W.aast hx hb a2 (fun q h => by cases h) (fun h => by cases h) (by rw [ht]; exact k1) k2 rfl hkC ⟨fun q => gI_in hi.1 hz (by omega) (Or.inl q), by rw [gI_cl hi.1 (by omega), arrV_size]; omega⟩ g1 (fun q h => by rw [g3] at h; cases h) (by rw [g2]; exact hkC) (by rw [g2]; exact va_assign hcls2) rfl rfl hd fun H' e1 e2 e3 => ?_
  rw [gI_cl hi.1 (by omega)] at e1
  exact kk H' _ ls ⟨gAt_ast hat hi.1 hi.2 e1 e2 e3 (by rw [ht, hgt]; exact if_neg (by omega)) hr, hA1, hA2, hA3, hVS.put e2 e3 (hA2 o k (by omega))⟩ hl
theorem q_anewput (C : gC p s m args c cc nL own D cy A H0) {idx ci k t0 t ic : Nat} {Cn : String} {o n : Int} (hin : meth.name = "<init>") (F : gFd own idx ci k true) (hdc : ∀ (C9 : String) (T : u_T) (N : Nat), vwCl[ci]? = some (C9, T, N) → (T k).1 = own) (ho : kd o = ci) (hf2 : gft ci k = 2) (ht : gak ci k = t) (hgt : ∀ rh9 o9 x j, gav rh9 o9 t x j = gR x) (hw : Cond.classLink own ic Cn ∈ gT ∧ FieldType.object Cn ∈ gAt3) (htt : (gtys cy)[t0]? = some (cy t, .object Cn)) (hty : ∀ (C9 : String) (T : u_T) (N : Nat), vwCl[ci]? = some (C9, T, N) → parseFieldDescriptor (T k).2.2.1 = some (.array (.object Cn))) (hneg : ln o k < 0) (hn : 0 ≤ n ∧ n ≤ 67108864) (hce : cells + 1 ≤ R.cells) (hsl : slots + n.toNat ≤ R.slots) (hd : decode cc pc = .ok (.anewarray ic, 3)) (hd2 : decode cc (pc + 3) = .ok (.putfield idx, 3)) (kk : ∀ (ln1 : gLn) (rh1 : gRh), ln1 = gla ln o k n → gKp kd ln rh kd ln1 rh1 → gW p l e R s m args below meth c D cy A H0 Q nL kd ln1 rh1 (cells + 1) (slots + n.toNat) (gza M o k) (pc + 6) lv st) : gW p l e R s m args below meth c D cy A H0 Q nL kd ln rh cells slots M pc lv (.int (gI n) :: .ref (gad o) :: st) := by
  intro H locs ls hS hl
  obtain ⟨hx, hb, hml, hown, hts, ⟨hK, -, -, -, hO⟩, -⟩ := C
  obtain ⟨h8, C9, T, N, ty0, hcl, hN, hinw, hkN, hlink, hty0, hnm, hfin⟩ := F
  obtain ⟨hat, hA1, hA2, hA3, hVS⟩ := hS
  subst ho
  have hn31 : n < 2147483648 := by omega
  have hNn : (gI n).toNatClampNeg = n.toNat := gI_cl hn.1 hn31
  refine W.anew hx hb hown (hts _ hw.1) (gAO.use hO hw.2) rfl hd rfl (by rw [show (0 : Int32) = gI 0 from rfl, gI_lt ⟨by omega, hn31⟩ ⟨by decide, by decide⟩]; omega) (by rw [hNn]; omega) hce (by rw [hNn]; exact hsl) fun cA kA comp hNm _ _ _ => ?_
  rw [hNn, arrV_new]
  obtain ⟨hpos, cell, q1, q2, q3, q4⟩ := hat.1 o h8
  have hlt : gad o < H.size := (Array.getElem?_eq_some_iff.mp q1).1
  have hcA : cA = cy t := by
    obtain ⟨_, _, -, -, -, h9⟩ := (hK.2 t0 _ htt).2
    exact Option.some.inj (hNm.symm.trans h9)
  subst hcA
  generalize hH1 : H.push (arrV (cy t) n.toNat fun _ => Value.null) = H1
  have z1 : H1.size = H.size + 1 := by rw [← hH1]; simp
  have o1 : ∀ q, q < H.size → H1[q]? = H[q]? := fun q hq => by rw [← hH1, Array.getElem?_push, if_neg (Nat.ne_of_lt hq)]
  have z0 : H1[H.size]? = some (arrV (cy t) n.toNat fun _ => Value.null) := by rw [← hH1]; simp
  have hap := va_apart (own := own) hts hinw ty0 hty0 hnm hK hcl
  obtain ⟨hSl, hfc, kC, hkC, hkind⟩ := hK.1 _ _ hcl
  obtain ⟨cf, kf, fi, f, hi, hsl9⟩ := hSl k hkN
  have hst := (u_facts hfc hkC (u_lays hts hinw hkN) hi).1
  have h6 := u_fits hfc hkC hkind (u_lays hts hinw hkN) hi (hty _ _ _ hcl) (v := .ref H.size) rfl rfl
  have hlay := hts _ (hinw _ (u_in_lay hkN))
  unfold u_lay at hlay
  rw [if_pos hfin] at hlay
  have hcf : m.cls = cf := by
    obtain ⟨_, _, c', _, _, _, -, -, hf', -, -, -, hown2, -⟩ := Cond.laysFinal_spec hlay
    have e1 : c' = cf := by have := hi.symm.trans hf'; simp at this; exact this.1.symm
    rw [hdc _ _ _ hcl] at hown2
    rw [← e1]; exact Option.some.inj (hown.symm.trans hown2)
  refine W.putFinK hx hb hown (hts _ hlink) hi hst hcf hin (cell := cell) (by rw [q2]; exact h6) ((o1 _ hlt).trans q1) q3 (by rw [hsl9]; exact k2_hasslot (q4 k (by rw [hN]; exact hkN))) rfl rfl hd2 fun H2 e1 e2 e3 => ?_
  rw [hsl9] at e1 ⊢
  have hap' : ∀ a b, a < gnf (kd o) → b < gnf (kd o) → a ≠ b → D.2 (kd o) a ≠ D.2 (kd o) b := fun a b ha hb' => hap a b (by rw [← hN]; exact ha) (by rw [← hN]; exact hb')
  refine kk _ (gra rh o k H.size) rfl ⟨fun _ _ => rfl, fun z j hz => ⟨gla_n (fun q => by rw [q.1, q.2] at hz; omega), gra_n (fun q => by rw [q.1, q.2] at hz; omega)⟩⟩ H2 _ ls ⟨gAt_newput hat h8 (by rw [hN]; exact hkN) hf2 hneg hn.1 hn31 z1 o1 ?_ q1 e1 e2 e3 hap', hA1, fun o' k' hk' => ?_, hA3, ?_⟩ hl
  · rw [z0, ht]
    congr 2
    funext j
    rw [hgt]
    rfl
  · by_cases e : o' = o ∧ k' = k
    · rw [e.1, e.2, gra_s]
      exact hA3 _ hVS.1
    · rw [gla_n e] at hk'
      rw [gra_n e]
      exact hA2 o' k' hk'
  · have hV1 : va_S A H0 H1 locs := ⟨Nat.le_trans hVS.1 (by omega), fun x h1 h2 => (o1 x (Nat.lt_of_lt_of_le h1 hVS.1)).trans (hVS.2.1 x h1 h2), hVS.2.2⟩
    exact hV1.put e2 e3 (hA1 o h8)
end GXC2
theorem gfo_put {ci k : Nat} {ln : gLn} {rh : gRh} {M : gM} {o x : Int} (hf : gft ci k = 1) (h : 0 < x) : gfv ci ln rh (gu M o k (-1) x) o k = .ref (gad x) := by
  unfold gfv
  rw [hf]
  show gR (gu M o k (-1) x o k (-1)) = _
  rw [gu_s]
  exact if_neg (by omega)
theorem gfa_put {ci k j : Nat} {ln : gLn} {rh : gRh} {M : gM} {o x : Int} (hf : gft ci k = j + 3) (h : 0 < x) : gfv ci ln rh (gu M o k (-1) x) o k = .ref (rh x j) := by
  unfold gfv
  rw [hf]
  show (if gu M o k (-1) x o k (-1) = 0 then Value.null else .ref (rh (gu M o k (-1) x o k (-1)) j)) = _
  rw [gu_s]
  exact if_neg (by omega)
theorem gfa_al {ln : gLn} {x : Int} {j0 j : Nat} (q : j0 + 3 = j + 3) (r : 0 ≤ ln x j0) : 0 ≤ ln x j := by
  have e : j0 = j := by omega
  subst e
  exact r
theorem ac8 : Cond.arrayClass .int ∈ gT := gT_in (by decide +kernel) rfl
theorem ac9 : Cond.arrayClass .byte ∈ gT := gT_in (by decide +kernel) rfl
theorem ac10 : Cond.arrayClass .boolean ∈ gT := gT_in (by decide +kernel) rfl
theorem ac11 : Cond.arrayClass .long ∈ gT := gT_in (by decide +kernel) rfl
