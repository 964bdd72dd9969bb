def gzf (M : gM) (o : Int) (k : Nat) (f : Int → Int) : gM := fun z j i => if z = o ∧ j = k ∧ 0 ≤ i then f i else M z j i
theorem gzf_m {M : gM} {o z : Int} {k j : Nat} {f : Int → Int} : gzf M o k f z j (-1) = M z j (-1) := if_neg (fun q => by have := q.2.2; omega)
theorem gzf_z {M : gM} {o : Int} {k : Nat} : gzf M o k (fun _ => 0) = gza M o k := rfl
theorem gfv_growf {kd : gKd} {ln : gLn} {rh : gRh} {M : gM} {o o' n : Int} {k j q : Nat} {f : Int → Int} (hneg : ln o k < 0) (ha : ∀ j2, gft (kd o') j = j2 + 3 → M o' j (-1) ≠ 0 → 0 ≤ ln (M o' j (-1)) j2) (hne : ¬ (o' = o ∧ j = k)) : gfv (kd o') ln rh M o' j = gfv (kd o') (gla ln o k n) (gra rh o k q) (gzf M o k f) o' j := by
  rw [gfv_grow (n := n) (q := q) hneg ha hne]
  unfold gfv
  rw [gza_m, gzf_m]
/-- an array that stands in the heap comes into the layout, by a field of its owner -/
theorem gAt_putarr {D : va_G} {cy : Nat → ClassId} {kd : gKd} {ln : gLn} {rh : gRh} {M : gM} {H1 H2 : Heap} {o n : Int} {k a : Nat} {cell : Cell} {f : Int → Int} (h : gAt D cy kd ln rh M H1) (ho : kd o < 8) (hk : k < gnf (kd o)) (hf : gft (kd o) k = 2) (hneg : ln o k < 0) (hn : 0 ≤ n) (hn2 : n < 2147483648)
    (ha1 : ∀ o' k', 0 ≤ ln o' k' → rh o' k' ≠ a) (ha2 : ∀ o', kd o' < 8 → gad o' ≠ a) (hfr : ∀ i, gRg (kd o) k (f i)) (e0 : H1[a]? = some (arrV (cy (gak (kd o) k)) n.toNat (fun j => gav (gra rh o k a) o (gak (kd o) k) (f j) j))) (hc : H1[gad o]? = some cell)
    (e1 : H2[gad o]? = some (cell.setSlot (D.2 (kd o) k) (.ref a))) (e2 : H2.size = H1.size) (e3 : ∀ q, q ≠ gad o → H2[q]? = H1[q]?) (hap : ∀ a b, a < gnf (kd o) → b < gnf (kd o) → a ≠ b → D.2 (kd o) a ≠ D.2 (kd o) b) :
    gAt D cy kd (gla ln o k n) (gra rh o k a) (gzf M o k f) H2 := by
  obtain ⟨h1, h2, h3, h4, h5, h6⟩ := h
  have hlt : gad o < H1.size := (Array.getElem?_eq_some_iff.mp hc).1
  have hk28 := gnf_le (kd o)
  obtain ⟨hpo, -⟩ := h1 o ho
  refine ⟨fun o' ho' => ?_, fun o' k' hk' => ?_, fun a9 b ka kb ha hb he => ?_, fun a9 b kb ha hb he => ?_, fun o' k' i' => ?_, fun o' k' j' ho' hf' hm' => ?_⟩
  · obtain ⟨hp', hob⟩ := h1 o' ho'
    refine ⟨hp', ?_⟩
    by_cases e : o' = o
    · subst e
      obtain ⟨cell', q1, q2, q3, q4⟩ := hob
      cases q1.symm.trans hc
      refine ⟨_, e1, q2, q3, fun j hj => ?_⟩
      rw [t_set q4 hap hk _ j hj]
      unfold updV
      split
      · rename_i hjk
        subst hjk
        show some (Value.ref a) = some (gfv (kd o') (gla ln o' j n) (gra rh o' j a) (gzf M o' j f) o' j)
        unfold gfv
        rw [hf, gla_s, gra_s]
        show some (Value.ref a) = some (if n < 0 then Value.null else Value.ref a)
        rw [if_neg (by omega)]
      · rename_i hjk
        exact congrArg some (gfv_growf hneg (fun j2 => h6 o' j j2 ho') (fun q => hjk q.2))
    · have hne : gad o' ≠ gad o := fun q => e (gad_inj hp' hpo q)
      exact (hob.kept (e3 _ hne)).to (fun j _ => gfv_growf hneg (fun j2 => h6 o' j j2 ho') (fun q => e q.1))
  · by_cases e : o' = o ∧ k' = k
    · obtain ⟨rfl, rfl⟩ := e
      rw [gla_s, gra_s]
      refine ⟨hn2, ?_, ?_⟩
      · rw [e2]; unfold gad at hlt; omega
      · rw [e3 _ (fun q => ha2 o' ho q.symm), e0]
        congr 2
        funext j
        rw [show gzf M o' k' f o' k' (j : Int) = f j from if_pos ⟨rfl, rfl, by omega⟩]
    · rw [gla_n e] at hk' ⊢
      obtain ⟨b1, b2, b3⟩ := h2 o' k' hk'
      rw [gra_n e]
      refine ⟨b1, by rw [e2]; exact b2, ?_⟩
      rw [e3 _ (fun q => h4 o o' k' ho hk' q.symm), b3]
      congr 2
      funext j
      rw [show gzf M o k f o' k' (j : Int) = M o' k' j from if_neg (fun q => e ⟨q.1, q.2.1⟩)]
      unfold gav
      split <;> first | rfl | skip
      rw [gra_n (fun q => by have := q.2; omega)]
  · by_cases ea : a9 = o ∧ ka = k <;> by_cases eb : b = o ∧ kb = k
    · exact ⟨ea.1.trans eb.1.symm, ea.2.trans eb.2.symm⟩
    · rw [gla_n eb] at hb
      rw [gra_n eb, ea.1, ea.2, gra_s] at he
      exact absurd he.symm (ha1 b kb hb)
    · rw [gla_n ea] at ha
      rw [gra_n ea, eb.1, eb.2, gra_s] at he
      exact absurd he (ha1 a9 ka ha)
    · rw [gla_n ea] at ha
      rw [gla_n eb] at hb
      rw [gra_n ea, gra_n eb] at he
      exact h3 a9 b ka kb ha hb he
  · by_cases eb : b = o ∧ kb = k
    · rw [eb.1, eb.2, gra_s] at he
      exact ha2 a9 ha he
    · rw [gla_n eb] at hb
      rw [gra_n eb] at he
      exact h4 a9 b kb ha hb he
  · by_cases e : o' = o ∧ k' = k ∧ 0 ≤ i'
    · rw [show gzf M o k f o' k' i' = f i' from if_pos e, e.1, e.2.1]
      exact hfr i'
    · rw [show gzf M o k f o' k' i' = M o' k' i' from if_neg e]
      exact h5 o' k' i'
  · rw [gzf_m] at hm' ⊢
    have h9 := h6 o' k' j' ho' hf' hm'
    unfold gla
    split
    · exact hn
    · exact h9
/-- a row of longs of an object without a field of its own (its outer array comes later) -/
theorem gAt_row {D : va_G} {cy : Nat → ClassId} {kd : gKd} {ln : gLn} {rh : gRh} {M : gM} {H : Heap} {o n : Int} {i a : Nat} (h : gAt D cy kd ln rh M H) (ho : kd o = 0) (hneg : ln o (100 + i) < 0) (h7 : ln o 7 < 0) (hn : 0 ≤ n) (hn2 : n < 2147483648)
    (ha1 : ∀ o' k', 0 ≤ ln o' k' → rh o' k' ≠ a) (ha2 : ∀ o', kd o' < 8 → gad o' ≠ a) (e0 : H[a]? = some (arrV (cy 11) n.toNat (fun _ => .long 0))) :
    gAt D cy kd (gla ln o (100 + i) n) (gra rh o (100 + i) a) (gza M o (100 + i)) H := by
  obtain ⟨h1, h2, h3, h4, h5, h6⟩ := h
  have h8 : kd o < 8 := by omega
  obtain ⟨hpo, hoo⟩ := h1 o h8
  have hlt : gad o < H.size := by
    obtain ⟨cell', q1, -⟩ := hoo
    exact (Array.getElem?_eq_some_iff.mp q1).1
  refine ⟨fun o' ho' => ?_, fun o' k' hk' => ?_, fun a9 b ka kb ha hb he => ?_, fun a9 b kb ha hb he => ?_, fun o' k' i' => ?_, fun o' k' j' ho' hf' hm' => ?_⟩
  · obtain ⟨hp', hob⟩ := h1 o' ho'
    have hk28 := gnf_le (kd o')
    exact ⟨hp', hob.to (fun j hj => gfv_grow hneg (fun j2 => h6 o' j j2 ho') (fun q => by have := q.2; omega))⟩
  · by_cases e : o' = o ∧ k' = 100 + i
    · obtain ⟨rfl, rfl⟩ := e
      rw [gla_s, gra_s]
      refine ⟨hn2, by unfold gad at hlt; omega, ?_⟩
      rw [e0, ho, gak_row]
      congr 2
      funext j
      rw [show gza M o' (100 + i) o' (100 + i) (j : Int) = 0 from if_pos ⟨rfl, rfl, by omega⟩]
      rfl
    · rw [gla_n e] at hk' ⊢
      obtain ⟨b1, b2, b3⟩ := h2 o' k' hk'
      rw [gra_n e]
      refine ⟨b1, b2, ?_⟩
      rw [b3]
      congr 2
      funext j
      rw [show gza M o (100 + i) o' k' (j : Int) = M o' k' j from if_neg (fun q => e ⟨q.1, q.2.1⟩)]
      by_cases e14 : gak (kd o') k' = 14
      · have hne : o' ≠ o := fun q => by
          rw [q, ho] at e14
          rw [q] at hk'
          have e7 : k' = 7 := by
            unfold gak at e14
            split at e14 <;> first | rfl | (exfalso; omega) | simp_all
          rw [e7] at hk'
          omega
        rw [e14]
        show Value.ref _ = Value.ref _
        rw [gra_n (fun q => hne q.1)]
      · unfold gav
        split <;> first | rfl | (exfalso; omega)
  · by_cases ea : a9 = o ∧ ka = 100 + i <;> by_cases eb : b = o ∧ kb = 100 + i
    · exact ⟨ea.1.trans eb.1.symm, ea.2.trans eb.2.symm⟩
    · rw [gla_n eb] at hb
      rw [gra_n eb, ea.1, ea.2, gra_s] at he
      exact absurd he.symm (ha1 b kb hb)
    · rw [gla_n ea] at ha
      rw [gra_n ea, eb.1, eb.2, gra_s] at he
      exact absurd he (ha1 a9 ka ha)
    · rw [gla_n ea] at ha
      rw [gla_n eb] at hb
      rw [gra_n ea, gra_n eb] at he
      exact h3 a9 b ka kb ha hb he
  · by_cases eb : b = o ∧ kb = 100 + i
    · rw [eb.1, eb.2, gra_s] at he
      exact ha2 a9 ha he
    · rw [gla_n eb] at hb
      rw [gra_n eb] at he
      exact h4 a9 b kb ha hb he
  · unfold gza
    split
    · exact gRg_0 _ _
    · exact h5 o' k' i'
  · rw [gza_m] at hm' ⊢
    have h9 := h6 o' k' j' ho' hf' hm'
    unfold gla
    split
    · exact hn
    · exact h9
section GI2
variable {p : Program} {l : Launch} {e : Env} {R : Room} {s : State} {m : MethodId} {args : Array Value} {below : List Frame} {meth : Method} {c : Code} {cells slots : Nat} {Q : State → Prop} {cc : ByteArray} {nL : Nat} {own : String} {D : va_G} {cy : Nat → ClassId} {A : Nat → Prop} {H0 : Heap} {kd : gKd} {ln : gLn} {rh : gRh} {M : gM} {pc : Nat} {lv : List (Nat × Value)} {st : List Value}
theorem q_newini (C : gC p s m args c cc nL own D cy A H0) {idx ci k : Nat} {o v0 v1 : Int} (hin : meth.name = "<init>") (F : gFd own idx ci k true) (hdc : ∀ (Cn : String) (T : u_T) (N : Nat), vwCl[ci]? = some (Cn, T, N) → (T k).1 = own) (ho : kd o = ci) (hf2 : gft ci k = 2) (hak : gak ci k = 8) (hty : ∀ (Cn : String) (T : u_T) (N : Nat), vwCl[ci]? = some (Cn, T, N) → parseFieldDescriptor (T k).2.2.1 = some (.array .int)) (hneg : ln o k < 0) (hv0 : rng v0) (hv1 : rng v1) (hg : ∀ x, rng x → gRg ci k x) (hce : cells + 1 ≤ R.cells) (hsl : slots + 2 ≤ R.slots)
    (d0 : decode cc pc = .ok (.newarray .int, 2)) (d2 : decode cc (pc + 2) = .ok (.dup, 1)) (d3 : decode cc (pc + 3) = .ok (.iconst 0, 1)) (d4 : decode cc (pc + 4) = .ok (.iconst v0, 1)) (d5 : decode cc (pc + 5) = .ok (.iastore, 1)) (d6 : decode cc (pc + 6) = .ok (.dup, 1)) (d7 : decode cc (pc + 7) = .ok (.iconst 1, 1)) (d8 : decode cc (pc + 8) = .ok (.iconst v1, 1)) (d9 : decode cc (pc + 9) = .ok (.iastore, 1)) (d10 : decode cc (pc + 10) = .ok (.putfield idx, 3))
    (kk : ∀ (ln1 : gLn) (rh1 : gRh), ln1 = gla ln o k 2 → gKp kd ln rh kd ln1 rh1 → gW p l e R s m args below meth c D cy A H0 Q nL kd ln1 rh1 (cells + 1) (slots + 2) (gzf M o k (fun i => if i = 0 then v0 else if i = 1 then v1 else 0)) (pc + 13) lv st) : gW p l e R s m args below meth c D cy A H0 Q nL kd ln rh cells slots M pc lv (.int (gI 2) :: .ref (gad o) :: st) := by
  intro H locs ls hS hl
  obtain ⟨hx, hb, hml, hown, hts, ⟨hK, -⟩, -⟩ := C
  obtain ⟨h8, Cn, T, N, ty0, hcl, hN, hinw, hkN, hlink, hty0, hnm, hfin⟩ := F
  obtain ⟨hat, hA1, hA2, hA3, hVS⟩ := hS
  subst ho
  refine va_newaK (atype := .int) hx hb (hts _ ac8) rfl d0 rfl (by decide) (N := 2) (by decide) (by decide) hce hsl rfl fun H1 cA z0 z1 o1 hAr hNm => ?_
  have hcA : cA = cy 8 := by
    have h9 : s.vm.findClass ("[" ++ FieldType.int.toString) = some (cy 8) := (hK.2 0 _ rfl).2
    exact Option.some.inj (hNm.symm.trans h9)
  subst hcA
  refine lv_dup hx hb d2 rfl ?_
  refine lv_iconst (v := 0) hx hb d3 (by decide) ?_
  refine lv_iconst (v := gI v0) hx hb d4 rfl ?_
  refine W.iast hx hb z0 (hAr _ _) (fun q => by cases q) (by rw [arrV_size]; decide) rfl rfl d5 fun H2 f1 f2 f3 => ?_
  rw [show (0 : Int32).toNatClampNeg = 0 by decide, arrV_store] at f1
  refine lv_dup hx hb d6 rfl ?_
  refine lv_iconst (v := 1) hx hb d7 (by decide) ?_
  refine lv_iconst (v := gI v1) hx hb d8 rfl ?_
  refine W.iast hx hb f1 (hAr _ _) (fun q => by cases q) (by rw [arrV_size]; decide) rfl rfl d9 fun H3 g1 g2 g3 => ?_
  rw [show (1 : Int32).toNatClampNeg = 1 by decide, arrV_store] at g1
  have hz3 : H3.size = H.size + 1 := by rw [g2, f2, z1]
  have hold : ∀ q, q < H.size → H3[q]? = H[q]? := fun q hq => by rw [g3 q (Nat.ne_of_lt hq), f3 q (Nat.ne_of_lt hq), o1 q hq]
  have hat3 := gAt_more hat (by omega) hold
  obtain ⟨hpos, cell, q1, q2, q3, q4⟩ := hat3.1 o h8
  have hltA : ∀ o', kd o' < 8 → gad o' ≠ H.size := fun o' ho' => by
    obtain ⟨-, c9, e9, -⟩ := hat.1 o' ho'
    have := (Array.getElem?_eq_some_iff.mp e9).1
    omega
  have hltB : ∀ o' k', 0 ≤ ln o' k' → rh o' k' ≠ H.size := fun o' k' hk' => by
    have := (Array.getElem?_eq_some_iff.mp (hat.2.1 o' k' hk').2.2).1
    omega
  have hap := va_apart (own := own) hts hinw ty0 hty0 hnm hK hcl
  obtain ⟨hSl, hfc, kC, hkC, hkind⟩ := hK.1 _ _ hcl
  obtain ⟨cf, kf, fi, f, hi, hsl9⟩ := hSl k hkN
  have hst := (u_facts hfc hkC (u_lays hts hinw hkN) hi).1
  have h6 := u_fits hfc hkC hkind (u_lays hts hinw hkN) hi (hty _ _ _ hcl) (v := .ref H.size) rfl rfl
  have hlay := hts _ (hinw _ (u_in_lay hkN))
  unfold u_lay at hlay
  rw [if_pos hfin] at hlay
  have hcf : m.cls = cf := by
    obtain ⟨_, _, c', _, _, _, -, -, hf', -, -, -, hown2, -⟩ := Cond.laysFinal_spec hlay
    have e1 : c' = cf := by have := hi.symm.trans hf'; simp at this; exact this.1.symm
    rw [hdc _ _ _ hcl] at hown2
    rw [← e1]; exact Option.some.inj (hown.symm.trans hown2)
  refine W.putFinK hx hb hown (hts _ hlink) hi hst hcf hin (cell := cell) (by rw [q2]; exact h6) q1 q3 (by rw [hsl9]; exact k2_hasslot (q4 k (by rw [hN]; exact hkN))) rfl rfl d10 fun H4 e1 e2 e3 => ?_
  rw [hsl9] at e1 ⊢
  have hap' : ∀ a b, a < gnf (kd o) → b < gnf (kd o) → a ≠ b → D.2 (kd o) a ≠ D.2 (kd o) b := fun a b ha hb' => hap a b (by rw [← hN]; exact ha) (by rw [← hN]; exact hb')
  refine kk _ (gra rh o k H.size) rfl ⟨fun _ _ => rfl, fun z j hz => ⟨gla_n (fun q => by rw [q.1, q.2] at hz; omega), gra_n (fun q => by rw [q.1, q.2] at hz; omega)⟩⟩ H4 _ ls ⟨gAt_putarr (a := H.size) hat3 h8 (by rw [hN]; exact hkN) hf2 hneg (by decide) (by decide) hltB hltA (fun i => ?_) ?_ q1 e1 e2 e3 hap', hA1, fun o' k' hk' => ?_, hA3, ?_⟩ hl
  · show gRg (kd o) k (if i = 0 then v0 else if i = 1 then v1 else 0)
    split
    · exact hg _ hv0
    · split
      · exact hg _ hv1
      · exact gRg_0 _ _
  · rw [g1, hak]
    congr 2
    funext j
    show updV (updV (fun _ => .int 0) 0 (.int (gI v0))) 1 (.int (gI v1)) j = Value.int (gI (if (j : Int) = 0 then v0 else if (j : Int) = 1 then v1 else 0))
    unfold updV
    by_cases j1 : j = 1
    · rw [if_pos j1, if_neg (by omega), if_pos (by omega)]
    · by_cases j0 : j = 0
      · rw [if_neg j1, if_pos j0, if_pos (by omega)]
      · rw [if_neg j1, if_neg j0, if_neg (by omega), if_neg (by omega)]
        rfl
  · by_cases e : o' = o ∧ k' = k
    · rw [e.1, e.2, gra_s]
      exact hA3 _ hVS.1
    · rw [gla_n e] at hk'
      rw [gra_n e]
      exact hA2 o' k' hk'
  · have hV1 : va_S A H0 H1 locs := ⟨Nat.le_trans hVS.1 (by omega), fun x h1 h2 => (o1 x (Nat.lt_of_lt_of_le h1 hVS.1)).trans (hVS.2.1 x h1 h2), hVS.2.2⟩
    exact ((hV1.put f2 f3 (hA3 _ hVS.1)).put g2 g3 (hA3 _ hVS.1)).put e2 e3 (hA1 o h8)
end GI2
