/-! METHODS THAT CATCH: a table of handlers; at most one cell of six slots is made and forgotten -/
def gwh (y : MethodName) (b : ByteArray) (n : Nat) (r : Option FieldType) (hh : List (Nat × Nat × Nat × Nat)) : List Cond := Cond.codeWith y b n r hh :: gT
theorem gwh_in {y : MethodName} {b : ByteArray} {n : Nat} {r : Option FieldType} {hh : List (Nat × Nat × Nat × Nat)} (h : Cond.codeWith y b n r hh ∈ gT) : ∀ w ∈ gwh y b n r hh, w ∈ gT := by
  intro w hw
  rcases List.mem_cons.mp hw with q | q
  · rw [q]; exact h
  · exact q
def gHI (l : Launch) (D : va_G) (cy : Nat → ClassId) (y : MethodName) (b : ByteArray) (n : Nat) (hh : List (Nat × Nat × Nat × Nat)) (fr lo : Nat) (vs : List Value) (kd : gKd) (ln : gLn) (rh : gRh) (M : gM) (post : Int → gM → Prop) : Prop :=
  ∀ sz : Nat, Met l y (gwh y b n (some .int) hh) (gRt fr lo) (va_Pc vs (gPre D cy kd ln rh M sz)) (va_Qi (fun r (u : gM) => ∃ x, r = gI x ∧ rng x ∧ post x u) (gEnd D cy kd ln rh) (gAdr kd ln rh sz)) 1 6 (gAdr kd ln rh sz)
theorem gHI_of {l : Launch} {D : va_G} {cy : Nat → ClassId} {y : MethodName} {b : ByteArray} {n : Nat} {hh : List (Nat × Nat × Nat × Nat)} {fr lo : Nat} {vs : List Value} {kd : gKd} {ln : gLn} {rh : gRh} {M : gM} {own : String} (hy : plainName y.cls = true) (ho : y.cls = own) (hnl : (lg_sl vs).length ≤ n) {post : Int → gM → Prop} (body : ∀ (p : Program) (e : Env) (s : State) (m : MethodId) (args : Array Value) (below : List Frame) (meth : Method) (c : Code) (A : Nat → Prop) (H0 : Heap) (Q : State → Prop), gC p s m args c b n own D cy A H0 → c.exceptionTable.toList = tableOf hh → (∀ (x : Int) (M' : gM) (pc' : Nat) (lv' : List (Nat × Value)) (ce sl : Nat), ce ≤ 1 → sl ≤ 6 → decode b pc' = .ok (.ireturn, 1) → rng x → post x M' → gW p l e (gRt fr lo) s m args below meth c D cy A H0 Q n kd ln rh ce sl M' pc' lv' [.int (gI x)]) → gW p l e (gRt fr lo) s m args below meth c D cy A H0 Q n kd ln rh 0 0 M 0 (lv_args 0 vs) []) : gHI l D cy y b n hh fr lo vs kd ln rh M post := by
  intro sz
  refine va_MetW (cc := b) (maxL := n) (ret := (some .int)) (hh := hh) hy rfl ?_
  intro p e s m args below meth c s₁ B hml hv
  obtain ⟨rfl, hsz, hat, hK, hZ⟩ := hv
  have hx := B.exec
  have hb := B.bytes
  have hr := B.returns
  have hts0 := atoms_spec (ws := gwh y b n (some .int) hh) B.pre
  have hts : ∀ w ∈ gT, w.before vs.toArray s = true := fun w hw => hts0 w (List.mem_cons_of_mem _ hw)
  have hxt := vx_table (x := y) B (hts0 _ List.mem_cons_self)
  have hown : s.vm.findClass y.cls = some m.cls := findClass_of_methodNamed B.named
  have hlocks := B.notSynchronized
  rw [ho] at hown
  have hl := lv_entry vs (n := n) hnl
  rw [lg_entry_eq]
  generalize (lg_sl vs ++ List.replicate (n - (lg_sl vs).length) Slot.unset).toArray = ls at hl ⊢
  refine body p e s m vs.toArray below meth c (gAdr kd ln rh sz) s.heap _ ⟨hx, hb, hml, hown, hts, hK, rfl, hZ⟩ hxt ?_ s.heap [] ls ⟨hat, fun o h => Or.inl ⟨o, h, rfl⟩, fun o k h => Or.inr (Or.inl ⟨o, k, h, rfl⟩), fun q h => Or.inr (Or.inr (by rw [← hsz]; exact h)), va_S.rf⟩ hl
  intro x M' pc' lv' ce sl hce hsl hd hc hp H locs ls' hS hl'
  refine W.widen (k := 1) (n := 6) hce hsl ?_
  exact W.iret (v := gI x) hx hb hr (fun t ht hW => ⟨⟨gI x, M', rfl, ⟨x, rfl, hc, hp⟩, by unfold gEnd; rw [ht]; exact hS.1⟩, hS.2.2.2.2.F ht⟩) hS.2.2.2.2.2.2 hd
theorem gAt_out {D : va_G} {cy : Nat → ClassId} {kd : gKd} {ln : gLn} {rh : gRh} {M : gM} {H : Heap} {n : Int} {a : Nat} (h : gAt D cy kd ln rh M H) (ho : kd (-1) = 200) (hneg : ∀ k, ln (-1) k < 0) (hn : 0 ≤ n) (hn2 : n < 2147483648)
    (ha1 : ∀ o' k', 0 ≤ ln o' k' → rh o' k' ≠ a) (ha2 : ∀ o', kd o' < 8 → gad o' ≠ a) (e0 : H[a]? = some (arrV (cy 11) n.toNat (fun _ => .long 0))) :
    gAt D cy kd (gla ln (-1) (0) n) (gra rh (-1) (0) a) (gza M (-1) (0)) H := by
  obtain ⟨h1, h2, h3, h4, h5, h6⟩ := h
  refine ⟨fun o' ho' => ?_, fun o' k' hk' => ?_, fun a9 b ka kb ha hb he => ?_, fun a9 b kb ha hb he => ?_, fun o' k' i' => ?_, fun o' k' j' ho' hf' hm' => ?_⟩
  · obtain ⟨hp', hob⟩ := h1 o' ho'
    exact ⟨hp', hob.to (fun j hj => gfv_grow (hneg _) (fun j2 => h6 o' j j2 ho') (fun q => by omega))⟩
  · by_cases e : o' = -1 ∧ k' = 0
    · obtain ⟨rfl, rfl⟩ := e
      rw [gla_s, gra_s]
      refine ⟨hn2, by omega, ?_⟩
      rw [e0, ho]
      show _ = some (arrV (cy 11) _ _)
      refine congrArg some (congrArg (arrV (cy 11) n.toNat) (funext fun j => ?_))
      rw [show gza M (-1) 0 (-1) 0 (j : Int) = 0 from if_pos ⟨rfl, rfl, by omega⟩]
      rfl
    · rw [gla_n e] at hk' ⊢
      obtain ⟨b1, b2, b3⟩ := h2 o' k' hk'
      rw [gra_n e]
      refine ⟨b1, b2, ?_⟩
      have hne : o' ≠ -1 := fun q => by rw [q] at hk'; have := hneg k'; omega
      rw [b3]
      congr 2
      funext j
      rw [show gza M (-1) (0) o' k' (j : Int) = M o' k' j from if_neg (fun q => e ⟨q.1, q.2.1⟩)]
      by_cases e14 : gak (kd o') k' = 14
      · rw [e14]
        show Value.ref _ = Value.ref _
        rw [gra_n (fun q => hne q.1)]
      · unfold gav
        split <;> first | rfl | (exfalso; omega)
  · by_cases ea : a9 = -1 ∧ ka = 0 <;> by_cases eb : b = -1 ∧ kb = 0
    · exact ⟨ea.1.trans eb.1.symm, ea.2.trans eb.2.symm⟩
    · rw [gla_n eb] at hb
      rw [gra_n eb, ea.1, ea.2, gra_s] at he
      exact absurd he.symm (ha1 b kb hb)
    · rw [gla_n ea] at ha
      rw [gra_n ea, eb.1, eb.2, gra_s] at he
      exact absurd he (ha1 a9 ka ha)
    · rw [gla_n ea] at ha
      rw [gla_n eb] at hb
      rw [gra_n ea, gra_n eb] at he
      exact h3 a9 b ka kb ha hb he
  · by_cases eb : b = -1 ∧ kb = 0
    · rw [eb.1, eb.2, gra_s] at he
      exact ha2 a9 ha he
    · rw [gla_n eb] at hb
      rw [gra_n eb] at he
      exact h4 a9 b kb ha hb he
  · unfold gza
    split
    · exact gRg_0 _ _
    · exact h5 o' k' i'
  · rw [gza_m] at hm' ⊢
    have h9 := h6 o' k' j' ho' hf' hm'
    unfold gla
    split
    · exact hn
    · exact h9
/-- the script of the law -/
def gsx (xs : Nat → Int32) (i : Int) : Int := (xs i.toNat).toInt
theorem gsx_I (xs : Nat → Int32) (i : Int) : gI (gsx xs i) = xs i.toNat := Int32.ofInt_toInt _
theorem gsx_r (xs : Nat → Int32) (i : Int) : rng (gsx xs i) := by
  have h1 := Int32.le_toInt (xs i.toNat)
  have h2 := Int32.toInt_lt (xs i.toNat)
  unfold rng gsx
  constructor
  · simpa using h1
  · simpa using h2
def gScr (b9 : Nat) (sL : Int) (sx : Int → Int) (s : State) (H0 : Heap) (A : Nat → Prop) : Prop := ∃ (L : Nat) (xs : Nat → Int32), sL = (L : Int) ∧ sx = gsx xs ∧ L ≤ 3072 ∧ va_X b9 L xs s H0 ∧ b9 < H0.size ∧ ¬ A b9
theorem gScr_r {b9 : Nat} {sL : Int} {sx : Int → Int} {s : State} {H0 : Heap} {A : Nat → Prop} (h : gScr b9 sL sx s H0 A) (i : Int) : rng (sx i) := by
  obtain ⟨L, xs, -, e, -⟩ := h
  rw [e]
  exact gsx_r xs i
section GH3
variable {p : Program} {l : Launch} {e : Env} {R : Room} {s : State} {m : MethodId} {args : Array Value} {below : List Frame} {meth : Method} {c : Code} {cells slots : Nat} {Q : State → Prop} {cc : ByteArray} {nL : Nat} {own : String} {D : va_G} {cy : Nat → ClassId} {A : Nat → Prop} {H0 : Heap} {kd : gKd} {ln : gLn} {rh : gRh} {M : gM} {pc : Nat} {lv : List (Nat × Value)} {st : List Value}
variable {y : MethodName} {b : ByteArray} {n fr lo idx na : Nat} {As st0 : List Value}
theorem q_catch (C : gC p s m args c cc nL own D cy A H0) {hs he hp hk : Nat} (hxt : c.exceptionTable.toList = tableOf [(hs, he, hp, hk)]) (hcov : covers ⟨hs, he, hp, hk⟩ pc = true) (h0 : hk ≠ 0) (hlink : Cond.classLink own hk gNS ∈ gT) (kk : ∀ q9 : Nat, gW p l e R s m args below meth c D cy A H0 Q nL kd ln rh cells slots M hp lv [.ref q9]) : gWX p l e R s m args below meth c D cy A H0 Q nL kd ln rh cells slots M pc lv st := by
  intro H locs ls hS hl ce q9 h1 h2 h3
  obtain ⟨hx, hb, hml, hown, hts, hK, -, hZ⟩ := C
  exact vx_catch (E := gNS) hown [] ⟨hs, he, hp, hk⟩ [] hxt (fun z hz => absurd hz List.not_mem_nil) hcov h0 (hts _ hlink) (va_Nw.use (gOt_tab _ List.mem_cons_self) (hK.2.2.2.1 _ List.mem_cons_self)) h1 h2 h3 (kk q9 H locs ls hS hl)
theorem q_callHI (C : gC p s m args c cc nL own D cy A H0) {hh : List (Nat × Nat × Nat × Nat)} {post : Int → gM → Prop} (G : gCS own idx y na) (hcode : Cond.codeWith y b n (some .int) hh ∈ gT) (hcs : cells + 1 ≤ R.cells ∧ slots + 6 ≤ R.slots) (hR : fr + 1 ≤ R.frames ∧ 8 + (n + 11) + lo ≤ R.locals) (hna : As.length = na) (hst : st0 = As.reverse ++ st) (hrm : (st.map fun v => v.category).sum ≤ 8) (hM : gHI l D cy y b n hh fr lo As kd ln rh M post) (hd : decode cc pc = .ok (.invokestatic idx, 3)) (kk : ∀ (x : Int) (M' : gM), rng x → post x M' → gW p l e R s m args below meth c D cy A H0 Q nL kd ln rh (cells + 1) (slots + 6) M' (pc + 3) lv (.int (gI x) :: st)) : gW p l e R s m args below meth c D cy A H0 Q nL kd ln rh cells slots M pc lv st0 := by
  intro H locs ls hS hl
  obtain ⟨hx, hb, hml, hown, hts, hK, -, hZ⟩ := C
  have hS2 := hS
  obtain ⟨hat, hA1, hA2, hA3, hVS0⟩ := hS2
  have hin := gwh_in hcode
  have hlen : ∀ sig, parseMethodDescriptor y.desc = some sig → na = sig.parameters.length := fun sig h => by
    have h2 := G.2.2.2.2.2
    rw [h] at h2
    exact (Option.some.inj h2).symm
  refine va_calli (vx_runSW (As := As) (rest := st) (hh := hh) ⟨hx, hb, hml, hown, hts⟩ (hM H.size) ⟨⟨rfl, rfl, hR.1, hR.2, fun w hw a' U hW => word_at hW (good_of_word (gT_good w (hin w hw))) (hts w (hin w hw)), List.mem_cons_self⟩, hts _ hcode, hts _ G.2.2.1, ⟨G.2.2.2.1, G.2.2.2.2.1⟩, hlen, hts _ G.1, hts _ G.2.1⟩ ⟨gPre_blind, fun U hU hW => ⟨rfl, by rw [hU], by rw [hU]; exact hat, gK.warm hW hK, by rw [hU]; exact gZ.go hZ hW.alike hVS0.2.1 (gS_adr hS)⟩⟩ rfl hna hl.1 hst (lv_room hrm) hd hcs) hVS0 (fun q _ h => gS_adr hS q h) (gS_adr hS) (fun r u t H1 locs1 ht hvm hw hB hz1 hk1 hVS => ?_)
  obtain ⟨x, rfl, hrx, hpx⟩ := hw
  have hB : gAt D cy kd ln rh u t.heap := hB
  rw [ht] at hB
  exact kk x u hrx hpx H1 locs1 ls ⟨hB, hA1, hA2, hA3, hVS⟩ hl
theorem q_newout (C : gC p s m args c cc nL own D cy A H0) (ho : kd (-1) = 200) (hneg : ∀ k, ln (-1) k < 0) (hce : cells + 1 ≤ R.cells) (hsl : slots + 1 ≤ R.slots) (hd : decode cc pc = .ok (.newarray .long, 2))
    (kk : ∀ (ln1 : gLn) (rh1 : gRh), ln1 = gla ln (-1) (0) 1 → gKp kd ln rh kd ln1 rh1 → gW p l e R s m args below meth c D cy A H0 Q nL kd ln1 rh1 (cells + 1) (slots + 1) (gza M (-1) (0)) (pc + 2) lv (.ref (rh1 (-1) (0)) :: st)) : gW p l e R s m args below meth c D cy A H0 Q nL kd ln rh cells slots M pc lv (.int (gI 1) :: st) := by
  intro H locs ls hS hl
  obtain ⟨hx, hb, hml, hown, hts, ⟨hK, -⟩, -⟩ := C
  obtain ⟨hat, hA1, hA2, hA3, hVS⟩ := hS
  refine va_newaK (atype := .long) hx hb (hts _ ac11) rfl hd rfl (by decide) (N := 1) (by decide) (by decide) hce hsl rfl fun H1 cA z0 z1 o1 hAr hNm => ?_
  have hcA : cA = cy 11 := by
    have h9 : s.vm.findClass ("[" ++ FieldType.long.toString) = some (cy 11) := (hK.2 3 _ rfl).2
    exact Option.some.inj (hNm.symm.trans h9)
  subst hcA
  have hltA : ∀ o', kd o' < 8 → gad o' ≠ H.size := fun o' ho' => by
    obtain ⟨-, c9, e9, -⟩ := hat.1 o' ho'
    have := (Array.getElem?_eq_some_iff.mp e9).1
    omega
  have hltB : ∀ o' k', 0 ≤ ln o' k' → rh o' k' ≠ H.size := fun o' k' hk' => by
    have := (Array.getElem?_eq_some_iff.mp (hat.2.1 o' k' hk').2.2).1
    omega
  refine kk _ (gra rh (-1) (0) H.size) rfl ⟨fun _ _ => rfl, fun z j hz => ?_⟩ H1 _ ls ⟨gAt_out (a := H.size) (gAt_more hat (by omega) o1) ho hneg (by decide) (by decide) hltB hltA z0, hA1, fun o' k' hk' => ?_, hA3, ?_⟩ hl
  · have n0 : ¬ (z = -1 ∧ j = 0) := fun q => by rw [q.1] at hz; have := hneg j; omega
    exact ⟨gla_n n0, gra_n n0⟩
  · by_cases e : o' = -1 ∧ k' = 0
    · rw [e.1, e.2, gra_s]
      exact hA3 _ hVS.1
    · rw [gla_n e] at hk'
      rw [gra_n e]
      exact hA2 o' k' hk'
  · exact ⟨Nat.le_trans hVS.1 (by omega), fun x h1 h2 => (o1 x (Nat.lt_of_lt_of_le h1 hVS.1)).trans (hVS.2.1 x h1 h2), hVS.2.2⟩
theorem q_sld (C : gC p s m args c cc nL own D cy A H0) {b9 : Nat} {sL : Int} {sx : Int → Int} {i : Int} (hX : gScr b9 sL sx s H0 A) (hi : 0 ≤ i ∧ i < sL) (hd : decode cc pc = .ok (.iaload, 1)) (kk : gW p l e R s m args below meth c D cy A H0 Q nL kd ln rh cells slots M (pc + 1) lv (.int (gI (sx i)) :: st)) : gW p l e R s m args below meth c D cy A H0 Q nL kd ln rh cells slots M pc lv (.int (gI i) :: .ref b9 :: st) := by
  intro H locs ls hS hl
  obtain ⟨L, xs, rfl, rfl, hL, hX⟩ := hX
  obtain ⟨hx, hb, hml, hown, hts, hK, -⟩ := C
  have h2 : (gI i).toNatClampNeg = i.toNat := gI_cl hi.1 (by omega)
  refine va_sld hx hb hX.1 hX.2.1 hX.2.2 hS.2.2.2.2 ?_ hd ?_
  · unfold vp_in
    rw [h2, show (0 : Int32) = gI 0 from rfl, gI_lt ⟨by omega, by omega⟩ ⟨by decide, by decide⟩]
    omega
  · rw [h2, ← gsx_I xs i]
    exact kk H locs ls hS hl
theorem q_slen (C : gC p s m args c cc nL own D cy A H0) {b9 : Nat} {sL : Int} {sx : Int → Int} (hX : gScr b9 sL sx s H0 A) (hd : decode cc pc = .ok (.arraylength, 1)) (kk : gW p l e R s m args below meth c D cy A H0 Q nL kd ln rh cells slots M (pc + 1) lv (.int (gI sL) :: st)) : gW p l e R s m args below meth c D cy A H0 Q nL kd ln rh cells slots M pc lv (.ref b9 :: st) := by
  intro H locs ls hS hl
  obtain ⟨L, xs, rfl, rfl, hL, hX⟩ := hX
  obtain ⟨hx, hb, hml, hown, hts, hK, -⟩ := C
  refine va_slen hx hb hX.1 hX.2.1 hX.2.2 hS.2.2.2.2 hd ?_
  exact kk H locs ls hS hl
end GH3
