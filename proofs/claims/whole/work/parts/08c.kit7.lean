/-! METHODS THAT MAY THROW. One class of exception; the memory is told by 'px' -/
theorem gXa_in : ∀ w ∈ gXa.filter goodWord, w ∈ lw_tbl := by decide +kernel
theorem gXa_ot : ∀ w ∈ Cond.classLink RX6 194 gNS :: Cond.initialized gNS :: gXa, vx_ot w = true := by decide +kernel
theorem gXa_b : ∀ w ∈ gXa.filter (fun w => !goodWord w), w ∈ gOt := by decide +kernel
theorem gXa_k : Cond.classLink RX6 194 gNS ∈ gT ∧ Cond.initialized gNS ∈ gT := ⟨gT_in (by decide +kernel) rfl, gT_in (by decide +kernel) rfl⟩
theorem gXa_x0 : decode prog_17_method_4_code 0 = .ok (.aload_n 0, 1) := by decide +kernel
theorem gXa_x1 : decode prog_17_method_4_code 1 = .ok (.aload_n 1, 1) := by decide +kernel
theorem gXa_x2 : decode prog_17_method_4_code 2 = .ok (.invokespecial 13, 3) := by decide +kernel
theorem gXa_x5 : decode prog_17_method_4_code 5 = .ok (.return_, 1) := by decide +kernel
theorem gXa_at {args : Array Value} {s : State} (hts : ∀ w ∈ gT, w.before args s = true) (hO : ∀ w ∈ gOt, va_Nw w s) : ∀ w ∈ gXa, w.before args s = true :=
  vx_hat (B := gOt) (fun w hw => hts w (gT_in (gXa_in w hw) (List.mem_filter.mp hw).2)) gXa_b (fun w hw => va_Nw.use (gOt_tab w hw) (hO w hw))
abbrev gRt (fr lo : Nat) : Room := { frames := fr, cells := 1, slots := 6, locals := lo }
def gWX (p : Program) (l : Launch) (e : Env) (R : Room) (s : State) (m : MethodId) (args : Array Value) (below : List Frame) (meth : Method) (c : Code) (D : va_G) (cy : Nat → ClassId) (A : Nat → Prop) (H0 : Heap) (Q : State → Prop) (nL : Nat)
    (kd : gKd) (ln : gLn) (rh : gRh) (cells slots : Nat) (M : gM) (pc : Nat) (lv : List (Nat × Value)) (st : List Value) : Prop :=
  ∀ (H : Heap) (locs : List Loc) (ls : Array Slot), gS D cy A H0 kd ln rh M H locs → lv_has ls nL lv → ∀ (ce : Cell) (q9 : Addr), H[q9]? = some ce → ce.vm = .none → s.vm.findClass gNS = some ce.cls → vx_W p l e R s m args below meth c H locs cells slots Q (F0 m pc ls st) q9
def gXC (D : va_G) (cy : Nat → ClassId) (kd : gKd) (ln : gLn) (rh : gRh) (px : gM → Prop) (sz : Nat) : String → State → State → Prop := vx_X px (fun E (u : gM) t => E = gNS ∧ gAt D cy kd ln rh u t.heap) (gAdr kd ln rh sz)
def gTI (l : Launch) (D : va_G) (cy : Nat → ClassId) (y : MethodName) (b : ByteArray) (n : Nat) (rt : FieldType) (fr lo : Nat) (vs : List Value) (kd : gKd) (ln : gLn) (rh : gRh) (M : gM) (post : Int → gM → Prop) (px : gM → Prop) : Prop :=
  ∀ sz : Nat, vx_Met l y (gws y b n (some rt)) (gRt fr lo) (va_Pc vs (gPre D cy kd ln rh M sz)) (va_Qi (fun r (u : gM) => ∃ x, r = gI x ∧ rng x ∧ post x u) (gEnd D cy kd ln rh) (gAdr kd ln rh sz)) (gXC D cy kd ln rh px sz) 1 6 (gAdr kd ln rh sz)
def gTR (l : Launch) (D : va_G) (cy : Nat → ClassId) (y : MethodName) (b : ByteArray) (n : Nat) (rc : String) (fr lo : Nat) (vs : List Value) (kd : gKd) (ln : gLn) (rh : gRh) (M : gM) (post : Int → gM → Prop) (px : gM → Prop) : Prop :=
  ∀ sz : Nat, vx_Met l y (gws y b n (some (.object rc))) (gRt fr lo) (va_Pc vs (gPre D cy kd ln rh M sz)) (va_Qr (fun (u : Int × gM) => post u.1 u.2) (fun u a t => a = gad u.1 ∧ gAt D cy kd ln rh u.2 t.heap) (gAdr kd ln rh sz)) (gXC D cy kd ln rh px sz) 1 6 (gAdr kd ln rh sz)
theorem gAt_more {D : va_G} {cy : Nat → ClassId} {kd : gKd} {ln : gLn} {rh : gRh} {M : gM} {H H' : Heap} (h : gAt D cy kd ln rh M H) (h1 : H.size ≤ H'.size) (h2 : ∀ q : Nat, q < H.size → H'[q]? = H[q]?) : gAt D cy kd ln rh M H' := by
  obtain ⟨a1, a2, a3, a4, a5⟩ := h
  refine ⟨fun o ho => ?_, fun o k hk => ?_, a3, a4, a5⟩
  · obtain ⟨b1, b2⟩ := a1 o ho
    refine ⟨b1, b2.kept (h2 _ ?_)⟩
    obtain ⟨cell, q1, -⟩ := b2
    exact (Array.getElem?_eq_some_iff.mp q1).1
  · obtain ⟨b1, b2, b3⟩ := a2 o k hk
    exact ⟨b1, Int.le_trans b2 (by omega), (h2 _ (Array.getElem?_eq_some_iff.mp b3).1).trans b3⟩
theorem gTI_of {l : Launch} {D : va_G} {cy : Nat → ClassId} {y : MethodName} {b : ByteArray} {n : Nat} {fr lo : Nat} {vs : List Value} {kd : gKd} {ln : gLn} {rh : gRh} {M : gM} {own : String} (hy : plainName y.cls = true) (ho : y.cls = own) (hnl : (lg_sl vs).length ≤ n) (hst : l.stackTraces = false) (hox : own = RX6) {post : Int → gM → Prop} {px : gM → Prop} (body : ∀ (p : Program) (e : Env) (s : State) (m : MethodId) (args : Array Value) (below : List Frame) (meth : Method) (c : Code) (A : Nat → Prop) (H0 : Heap) (Q : State → Prop), gC p s m args c b n own D cy A H0 → (∀ (x : Int) (M' : gM) (pc' : Nat) (lv' : List (Nat × Value)) (ce sl : Nat), ce ≤ 1 → sl ≤ 6 → decode b pc' = .ok (.ireturn, 1) → rng x → post x M' → gW p l e (gRt fr lo) s m args below meth c D cy A H0 Q n kd ln rh ce sl M' pc' lv' [.int (gI x)]) → (∀ (q : Nat × String × Nat) (M' : gM) (pc' : Nat) (lv' : List (Nat × Value)) (st' : List Value), q ∈ gStr → decode b pc' = .ok (.new 194, 3) → decode b (pc' + 3) = .ok (.dup, 1) → decode b (pc' + 4) = .ok (.ldc q.1, 2) → decode b (pc' + 6) = .ok (.invokespecial 198, 3) → decode b (pc' + 9) = .ok (.athrow, 1) → 5 < fr → (st'.map fun v => v.category).sum + 82 ≤ lo → px M' → gW p l e (gRt fr lo) s m args below meth c D cy A H0 Q n kd ln rh 0 0 M' pc' lv' st') → (∀ (M' : gM) (pc' : Nat) (lv' : List (Nat × Value)) (st' : List Value) (ce sl : Nat), ce ≤ 1 → sl ≤ 6 → px M' → gWX p l e (gRt fr lo) s m args below meth c D cy A H0 Q n kd ln rh ce sl M' pc' lv' st') → gW p l e (gRt fr lo) s m args below meth c D cy A H0 Q n kd ln rh 0 0 M 0 (lv_args 0 vs) []) : gTI l D cy y b n .int fr lo vs kd ln rh M post px := by
  subst hox
  intro sz
  refine vx_ofW (cc := b) (maxL := n) (ret := (some .int)) hy rfl ?_
  intro p e s m args below meth c s₁ B hml hxt hv
  obtain ⟨rfl, hsz, hat, hK, hZ⟩ := hv
  have hx := B.exec
  have hb := B.bytes
  have hr := B.returns
  have hts0 := atoms_spec (ws := gws y b n (some .int)) B.pre
  have hts : ∀ w ∈ gT, w.before vs.toArray s = true := fun w hw => hts0 w (List.mem_cons_of_mem _ hw)
  have hown : s.vm.findClass y.cls = some m.cls := findClass_of_methodNamed B.named
  have hlocks := B.notSynchronized
  rw [ho] at hown
  have hl := lv_entry vs (n := n) hnl
  rw [lg_entry_eq]
  generalize (lg_sl vs ++ List.replicate (n - (lg_sl vs).length) Slot.unset).toArray = ls at hl ⊢
  refine body p e s m vs.toArray below meth c (gAdr kd ln rh sz) s.heap _ ⟨hx, hb, hml, hown, hts, hK, rfl, hZ⟩ ?_ ?_ ?_ s.heap [] ls ⟨hat, fun o h => Or.inl ⟨o, h, rfl⟩, fun o k h => Or.inr (Or.inl ⟨o, k, h, rfl⟩), fun q h => Or.inr (Or.inr (by rw [← hsz]; exact h)), va_S.rf⟩ hl
  · intro x M' pc' lv' ce sl hce hsl hd hc hp H locs ls' hS hl'
    refine W.widen (k := 1) (n := 6) hce hsl ?_
    exact vx_ret (W.iret (v := gI x) hx hb hr (fun t ht hW => ⟨⟨gI x, M', rfl, ⟨x, rfl, hc, hp⟩, by unfold gEnd; rw [ht]; exact hS.1⟩, hS.2.2.2.2.F ht⟩) hS.2.2.2.2.2.2 hd)
  · intro q M' pc' lv' st' hq d0 d3 d4 d6 d9 hfr hlo hp H locs ls' hS hl'
    refine gx_throwS (own := RX6) (cls := gNS) (text := q.2.1) (n1 := gN1) (ns := gNm) (ik := 194) (is := q.1) (ic := 198) (sa := cy q.2.2) hx hb hst gXa_x0 gXa_x1 gXa_x2 gXa_x5 hown (by decide) (by decide) (by decide) (hts _ gXa_k.1) (hts _ gXa_k.2) (hK.2.2.1 q hq) (gXa_at hts hK.2.2.2.1) gXa_ot hZ.2.2.2.2.1 hZ.2.2.2.2.2 hS.2.2.2.2 (hl'.1.trans hml.symm) d0 d3 d4 d6 d9 (fun x hx9 => (hxt x hx9).elim) hfr hlo (Nat.le_refl _) (Nat.le_refl _) hlocks (fun t hvm h1 h2 => ⟨M', hp, ⟨rfl, ?_⟩, ?_⟩) hS.2.2.2.2.2.2 (Nat.le_refl _) (Nat.le_refl _)
    · exact gAt_more hS.1 h1 h2
    · exact ⟨Nat.le_trans hS.2.2.2.2.1 h1, fun z hz hn => by rw [h2 z (Nat.lt_of_lt_of_le hz hS.2.2.2.2.1)]; exact hS.2.2.2.2.2.1 z hz hn⟩
  · intro M' pc' lv' st' ce sl hce hsl hp H locs ls' hS hl' cel q9 h1 h2 h3
    exact vx_out (E := gNS) (fun x hx9 => (hxt x hx9).elim) hlocks h1 h2 h3 (fun t ht hvm => ⟨M', hp, ⟨rfl, by rw [ht]; exact hS.1⟩, hS.2.2.2.2.F ht⟩) hS.2.2.2.2.2.2 hce hsl
theorem gTR_of {l : Launch} {D : va_G} {cy : Nat → ClassId} {y : MethodName} {b : ByteArray} {n : Nat} {fr lo : Nat} {vs : List Value} {kd : gKd} {ln : gLn} {rh : gRh} {M : gM} {own : String} (hy : plainName y.cls = true) (ho : y.cls = own) (hnl : (lg_sl vs).length ≤ n) (hst : l.stackTraces = false) (hox : own = RX6) {rc : String} {post : Int → gM → Prop} {px : gM → Prop} (body : ∀ (p : Program) (e : Env) (s : State) (m : MethodId) (args : Array Value) (below : List Frame) (meth : Method) (c : Code) (A : Nat → Prop) (H0 : Heap) (Q : State → Prop), gC p s m args c b n own D cy A H0 → (∀ (x : Int) (M' : gM) (pc' : Nat) (lv' : List (Nat × Value)) (ce sl : Nat), ce ≤ 1 → sl ≤ 6 → decode b pc' = .ok (.areturn, 1) → post x M' → gW p l e (gRt fr lo) s m args below meth c D cy A H0 Q n kd ln rh ce sl M' pc' lv' [.ref (gad x)]) → (∀ (q : Nat × String × Nat) (M' : gM) (pc' : Nat) (lv' : List (Nat × Value)) (st' : List Value), q ∈ gStr → decode b pc' = .ok (.new 194, 3) → decode b (pc' + 3) = .ok (.dup, 1) → decode b (pc' + 4) = .ok (.ldc q.1, 2) → decode b (pc' + 6) = .ok (.invokespecial 198, 3) → decode b (pc' + 9) = .ok (.athrow, 1) → 5 < fr → (st'.map fun v => v.category).sum + 82 ≤ lo → px M' → gW p l e (gRt fr lo) s m args below meth c D cy A H0 Q n kd ln rh 0 0 M' pc' lv' st') → (∀ (M' : gM) (pc' : Nat) (lv' : List (Nat × Value)) (st' : List Value) (ce sl : Nat), ce ≤ 1 → sl ≤ 6 → px M' → gWX p l e (gRt fr lo) s m args below meth c D cy A H0 Q n kd ln rh ce sl M' pc' lv' st') → gW p l e (gRt fr lo) s m args below meth c D cy A H0 Q n kd ln rh 0 0 M 0 (lv_args 0 vs) []) : gTR l D cy y b n rc fr lo vs kd ln rh M post px := by
  subst hox
  intro sz
  refine vx_ofW (cc := b) (maxL := n) (ret := (some (.object rc))) hy rfl ?_
  intro p e s m args below meth c s₁ B hml hxt hv
  obtain ⟨rfl, hsz, hat, hK, hZ⟩ := hv
  have hx := B.exec
  have hb := B.bytes
  have hr := B.returns
  have hts0 := atoms_spec (ws := gws y b n (some (.object rc))) B.pre
  have hts : ∀ w ∈ gT, w.before vs.toArray s = true := fun w hw => hts0 w (List.mem_cons_of_mem _ hw)
  have hown : s.vm.findClass y.cls = some m.cls := findClass_of_methodNamed B.named
  have hlocks := B.notSynchronized
  rw [ho] at hown
  have hl := lv_entry vs (n := n) hnl
  rw [lg_entry_eq]
  generalize (lg_sl vs ++ List.replicate (n - (lg_sl vs).length) Slot.unset).toArray = ls at hl ⊢
  refine body p e s m vs.toArray below meth c (gAdr kd ln rh sz) s.heap _ ⟨hx, hb, hml, hown, hts, hK, rfl, hZ⟩ ?_ ?_ ?_ s.heap [] ls ⟨hat, fun o h => Or.inl ⟨o, h, rfl⟩, fun o k h => Or.inr (Or.inl ⟨o, k, h, rfl⟩), fun q h => Or.inr (Or.inr (by rw [← hsz]; exact h)), va_S.rf⟩ hl
  · intro x M' pc' lv' ce sl hce hsl hd hp H locs ls' hS hl'
    refine W.widen (k := 1) (n := 6) hce hsl ?_
    exact vx_ret (W.aret (v := .ref (gad x)) (rt := .object rc) hx hb hr (Or.inl ⟨_, rfl⟩) (Or.inr ⟨_, rfl⟩) (fun t ht hW => ⟨⟨(x, M'), gad x, rfl, hp, rfl, by rw [ht]; exact hS.1⟩, hS.2.2.2.2.F ht⟩) hS.2.2.2.2.2.2 hd)
  · intro q M' pc' lv' st' hq d0 d3 d4 d6 d9 hfr hlo hp H locs ls' hS hl'
    refine gx_throwS (own := RX6) (cls := gNS) (text := q.2.1) (n1 := gN1) (ns := gNm) (ik := 194) (is := q.1) (ic := 198) (sa := cy q.2.2) hx hb hst gXa_x0 gXa_x1 gXa_x2 gXa_x5 hown (by decide) (by decide) (by decide) (hts _ gXa_k.1) (hts _ gXa_k.2) (hK.2.2.1 q hq) (gXa_at hts hK.2.2.2.1) gXa_ot hZ.2.2.2.2.1 hZ.2.2.2.2.2 hS.2.2.2.2 (hl'.1.trans hml.symm) d0 d3 d4 d6 d9 (fun x hx9 => (hxt x hx9).elim) hfr hlo (Nat.le_refl _) (Nat.le_refl _) hlocks (fun t hvm h1 h2 => ⟨M', hp, ⟨rfl, ?_⟩, ?_⟩) hS.2.2.2.2.2.2 (Nat.le_refl _) (Nat.le_refl _)
    · exact gAt_more hS.1 h1 h2
    · exact ⟨Nat.le_trans hS.2.2.2.2.1 h1, fun z hz hn => by rw [h2 z (Nat.lt_of_lt_of_le hz hS.2.2.2.2.1)]; exact hS.2.2.2.2.2.1 z hz hn⟩
  · intro M' pc' lv' st' ce sl hce hsl hp H locs ls' hS hl' cel q9 h1 h2 h3
    exact vx_out (E := gNS) (fun x hx9 => (hxt x hx9).elim) hlocks h1 h2 h3 (fun t ht hvm => ⟨M', hp, ⟨rfl, by rw [ht]; exact hS.1⟩, hS.2.2.2.2.F ht⟩) hS.2.2.2.2.2.2 hce hsl
section GTC
variable {p : Program} {l : Launch} {e : Env} {R : Room} {s : State} {m : MethodId} {args : Array Value} {below : List Frame} {meth : Method} {c : Code} {cells slots : Nat} {Q : State → Prop} {cc : ByteArray} {nL : Nat} {own : String} {D : va_G} {cy : Nat → ClassId} {A : Nat → Prop} {H0 : Heap} {kd : gKd} {ln : gLn} {rh : gRh} {M : gM} {pc : Nat} {lv : List (Nat × Value)} {st : List Value}
variable {y : MethodName} {b : ByteArray} {n fr lo idx na : Nat} {As st0 : List Value}
theorem gx_callr {S SX : Type} {post : S → Prop} {px : SX → Prop} {B : S → Nat → State → Prop} {BX : String → SX → State → Prop} {A1 AX : Nat → Prop} {H : Heap} {locs : List Loc} {mc ms : Nat} {ls : Array Slot} {a : Array Value} {free : Addr → Prop} (hr : vx_Run p l e R s m args below meth c H locs cells slots mc ms (F0 m pc ls st0) st (va_Qr post B A1 a) (vx_X px BX AX) free) (hS : va_S A H0 H locs) (hA : ∀ q, q < H.size → A1 q → A q) (hf : ∀ q, free q → A q) (hAX : ∀ q, q < H.size → AX q → A q)
    (kx : ∀ (E : String) (ce : Cell) (q9 : Addr) (u : SX) (t : State) (H1 : Heap) (locs1 : List Loc), t.heap = H1 → s.vm.Alike t.vm → px u → BX E u t → H.size ≤ H1.size → (∀ q : Nat, q < H.size → ¬ AX q → H1[q]? = H[q]?) → va_S A H0 H1 locs1 → H1[q9]? = some ce → ce.vm = .none → s.vm.findClass E = some ce.cls → vx_W p l e R s m args below meth c H1 locs1 (cells + mc) (slots + ms) Q (F0 m pc ls st) q9)
    (kk : ∀ (u : S) (ra : Nat) (t : State) (H1 : Heap) (locs1 : List Loc), t.heap = H1 → s.vm.Alike t.vm → post u → B u ra t → H.size ≤ H1.size → (∀ q : Nat, q < H.size → ¬ A1 q → H1[q]? = H[q]?) → va_S A H0 H1 locs1 → W p l e R s m args below meth c H1 locs1 (cells + mc) (slots + ms) Q (F0 m (pc + 3) ls (.ref ra :: st))) : W p l e R s m args below meth c H locs cells slots Q (F0 m pc ls st0) := by
  intro T hT X
  rcases hr T hT X with ⟨v, st₀, t, T', L, h0, X', hL, e1, e2, ⟨⟨u, ra, hv, hp, hb⟩, hF⟩, st⟩ | ⟨q, st₀, t, T', L, E, ce, h0, X', hL, e1, e2, ⟨u, hp, hb, hF⟩, hce, hcv, hcl, st⟩
  · cases hv
    obtain ⟨k1, k2, k3⟩ := vx_keep h0 e1 hS hA hf hL hF
    obtain ⟨t2, a1, b1⟩ := kk u ra t T'.heap (locs ++ L) e1.symm (by rw [← e2]; exact X'.warmed.alike) hp hb k1 k2 k3 T' rfl X'
    exact ⟨t2, st t2 a1, b1⟩
  · obtain ⟨k1, k2, k3⟩ := vx_keep h0 e1 hS hAX hf hL hF
    obtain ⟨t2, a1, b1⟩ := kx E ce q u t T'.heap (locs ++ L) e1.symm (by rw [← e2]; exact X'.warmed.alike) hp hb k1 k2 k3 (by rw [e1]; exact hce) hcv hcl T' rfl X'
    exact ⟨t2, st.trans a1, b1⟩
theorem q_callTR (C : gC p s m args c cc nL own D cy A H0) {rc : String} {post : Int → gM → Prop} {px : gM → Prop} {o : Int} {ci : Nat} (G : gCV own idx y na) (hcode : Cond.code y b n (some (.object rc)) ∈ gT) (hcs : cells + 1 ≤ R.cells ∧ slots + 6 ≤ R.slots) (hR : fr + 1 ≤ R.frames ∧ 8 + (n + 11) + lo ≤ R.locals) (hna : As.length = na) (ho : kd o = ci) (hci : ∃ T N, vwCl[ci]? = some (y.cls, T, N)) (h8 : ci < 8) (hst : st0 = As.reverse ++ .ref (gad o) :: st) (hrm : (st.map fun v => v.category).sum ≤ 8) (hM : gTR l D cy y b n rc fr lo (.ref (gad o) :: As) kd ln rh M post px) (hd : decode cc pc = .ok (.invokevirtual idx, 3)) (kx : ∀ (M' : gM), px M' → gWX p l e R s m args below meth c D cy A H0 Q nL kd ln rh (cells + 1) (slots + 6) M' pc lv st) (kk : ∀ (x : Int) (M' : gM), post x M' → gW p l e R s m args below meth c D cy A H0 Q nL kd ln rh (cells + 1) (slots + 6) M' (pc + 3) lv (.ref (gad x) :: st)) : gW p l e R s m args below meth c D cy A H0 Q nL kd ln rh cells slots M pc lv st0 := by
  intro H locs ls hS hl
  obtain ⟨hx, hb, hml, hown, hts, hK, -, hZ⟩ := C
  have hS2 := hS
  obtain ⟨hat, hA1, hA2, hA3, hVS0⟩ := hS2
  obtain ⟨T, N, hcl⟩ := hci
  have hre : ∃ cell : Cell, H[gad o]? = some cell ∧ cell.vm.isStatics = false ∧ s.vm.findClass y.cls = some cell.cls := by
    obtain ⟨-, cell, q1, q2, q3, -⟩ := hat.1 o (by rw [ho]; exact h8)
    exact ⟨cell, q1, by rw [q3]; rfl, by rw [q2, ho]; exact (hK.1.1 _ _ hcl).2.1⟩
  refine gx_callr (vx_runV (As := As) (rest := st) ⟨hx, hb, hml, hown, hts⟩ (hM H.size) ⟨callB_of na hts (gws_in hcode) rfl rfl rfl (hts _ G.2.2.2.1) (hts _ G.1) ⟨G.2.2.2.2.1, G.2.2.2.2.2.1, G.2.2.2.2.2.2⟩ hR, hts _ G.2.1, hts _ G.2.2.1⟩ ⟨gPre_blind, hre, fun U hU hW => ⟨rfl, by rw [hU], by rw [hU]; exact hat, gK.warm hW hK, by rw [hU]; exact gZ.go hZ hW.alike hVS0.2.1 (gS_adr hS)⟩⟩ rfl hna hl.1 hst (lv_room hrm) hd hcs) hVS0 (fun q _ h => gS_adr hS q h) (gS_adr hS) (fun q _ h => gS_adr hS q h) (fun E ce q9 u t H1 locs1 ht hvm hw hB hz1 hk1 hVS g1 g2 g3 => ?_) (fun u ra t H1 locs1 ht hvm hw hB hz1 hk1 hVS => ?_)
  · obtain ⟨rfl, hB⟩ := hB
    rw [ht] at hB
    exact kx u hw H1 locs1 ls ⟨hB, hA1, hA2, hA3, hVS⟩ hl ce q9 g1 g2 g3
  · obtain ⟨rfl, hB⟩ := hB
    rw [ht] at hB
    exact kk u.1 u.2 hw H1 locs1 ls ⟨hB, hA1, hA2, hA3, hVS⟩ hl
theorem q_callTI (C : gC p s m args c cc nL own D cy A H0) {rt : FieldType} {post : Int → gM → Prop} {px : gM → Prop} {o : Int} {ci : Nat} (G : gCV own idx y na) (hcode : Cond.code y b n (some rt) ∈ gT) (hcs : cells + 1 ≤ R.cells ∧ slots + 6 ≤ R.slots) (hR : fr + 1 ≤ R.frames ∧ 8 + (n + 11) + lo ≤ R.locals) (hna : As.length = na) (ho : kd o = ci) (hci : ∃ T N, vwCl[ci]? = some (y.cls, T, N)) (h8 : ci < 8) (hst : st0 = As.reverse ++ .ref (gad o) :: st) (hrm : (st.map fun v => v.category).sum ≤ 8) (hM : gTI l D cy y b n rt fr lo (.ref (gad o) :: As) kd ln rh M post px) (hd : decode cc pc = .ok (.invokevirtual idx, 3)) (kx : ∀ (M' : gM), px M' → gWX p l e R s m args below meth c D cy A H0 Q nL kd ln rh (cells + 1) (slots + 6) M' pc lv st) (kk : ∀ (x : Int) (M' : gM), rng x → post x M' → gW p l e R s m args below meth c D cy A H0 Q nL kd ln rh (cells + 1) (slots + 6) M' (pc + 3) lv (.int (gI x) :: st)) : gW p l e R s m args below meth c D cy A H0 Q nL kd ln rh cells slots M pc lv st0 := by
  intro H locs ls hS hl
  obtain ⟨hx, hb, hml, hown, hts, hK, -, hZ⟩ := C
  have hS2 := hS
  obtain ⟨hat, hA1, hA2, hA3, hVS0⟩ := hS2
  obtain ⟨T, N, hcl⟩ := hci
  have hre : ∃ cell : Cell, H[gad o]? = some cell ∧ cell.vm.isStatics = false ∧ s.vm.findClass y.cls = some cell.cls := by
    obtain ⟨-, cell, q1, q2, q3, -⟩ := hat.1 o (by rw [ho]; exact h8)
    exact ⟨cell, q1, by rw [q3]; rfl, by rw [q2, ho]; exact (hK.1.1 _ _ hcl).2.1⟩
  refine vx_calli (vx_runV (As := As) (rest := st) ⟨hx, hb, hml, hown, hts⟩ (hM H.size) ⟨callB_of na hts (gws_in hcode) rfl rfl rfl (hts _ G.2.2.2.1) (hts _ G.1) ⟨G.2.2.2.2.1, G.2.2.2.2.2.1, G.2.2.2.2.2.2⟩ hR, hts _ G.2.1, hts _ G.2.2.1⟩ ⟨gPre_blind, hre, fun U hU hW => ⟨rfl, by rw [hU], by rw [hU]; exact hat, gK.warm hW hK, by rw [hU]; exact gZ.go hZ hW.alike hVS0.2.1 (gS_adr hS)⟩⟩ rfl hna hl.1 hst (lv_room hrm) hd hcs) hVS0 (fun q _ h => gS_adr hS q h) (gS_adr hS) (fun q _ h => gS_adr hS q h) (fun E ce q9 u t H1 locs1 ht hvm hw hB hz1 hk1 hVS g1 g2 g3 => ?_) (fun r u t H1 locs1 ht hvm hw hB hz1 hk1 hVS => ?_)
  · obtain ⟨rfl, hB⟩ := hB
    rw [ht] at hB
    exact kx u hw H1 locs1 ls ⟨hB, hA1, hA2, hA3, hVS⟩ hl ce q9 g1 g2 g3
  · obtain ⟨x, rfl, hrx, hpx⟩ := hw
    have hB : gAt D cy kd ln rh u t.heap := hB
    rw [ht] at hB
    exact kk x u hrx hpx H1 locs1 ls ⟨hB, hA1, hA2, hA3, hVS⟩ hl
end GTC
