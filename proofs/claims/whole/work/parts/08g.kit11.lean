theorem gvr_outer (c : ClassId) (N h0 : Nat) : ∀ i : Nat, Jvm.Free.Multi.outerC c N h0 i = arrV c N (fun j => if j < i then .ref (h0 + 1 + j) else .null)
  | 0 => by
    show ({ cls := c, slots := Array.replicate N .null, vm := .none } : Cell) = _
    rw [arrV_new]
    refine congrArg (arrV c N) (funext fun j => ?_)
    simp
  | i + 1 => by
    show (Jvm.Free.Multi.outerC c N h0 i).setSlot i (.ref (h0 + 1 + i)) = _
    rw [gvr_outer c N h0 i, arrV_store]
    refine congrArg (arrV c N) (funext fun j => ?_)
    by_cases e : j = i
    · subst e
      simp [updV]
    · by_cases h : j < i
      · simp [updV, e, h, Nat.lt_succ_of_lt h]
      · simp [updV, e, h, show ¬ j < i + 1 by omega]
theorem arrV_ext {c : ClassId} {N : Nat} {f g : Nat → Value} (h : ∀ j, j < N → f j = g j) : arrV c N f = arrV c N g := by
  unfold arrV
  congr 1
  congr 1
  funext j
  exact h j.1 j.2
section GI3
variable {p : Program} {l : Launch} {e : Env} {R : Room} {s : State} {m : MethodId} {args : Array Value} {below : List Frame} {meth : Method} {c : Code} {cells slots : Nat} {Q : State → Prop} {cc : ByteArray} {nL : Nat} {own : String} {D : va_G} {cy : Nat → ClassId} {A : Nat → Prop} {H0 : Heap} {kd : gKd} {ln : gLn} {rh : gRh} {M : gM} {pc : Nat} {lv : List (Nat × Value)} {st : List Value}
theorem q_multi (C : gC p s m args c cc nL own D cy A H0) {idx ix : Nat} {o S : Int} (hin : meth.name = "<init>") (F : gFd own idx 0 7 true) (hdc : ∀ (Cn : String) (T : u_T) (N : Nat), vwCl[(0 : Nat)]? = some (Cn, T, N) → (T 7).1 = own) (ho : kd o = 0) (hty : ∀ (Cn : String) (T : u_T) (N : Nat), vwCl[(0 : Nat)]? = some (Cn, T, N) → parseFieldDescriptor (T 7).2.2.1 = some (.array (.array .long))) (hcl0 : Cond.classLink own ix "[[J" ∈ gT) (hov : FieldType.array .long ∈ gAt3) (hac : Cond.arrayClass .long ∈ gT)
    (hneg : ln o 7 < 0 ∧ ln o 100 < 0 ∧ ln o 101 < 0 ∧ ln o 102 < 0) (hn : 0 ≤ S ∧ S ≤ 67108864) (hce : cells + 4 ≤ R.cells) (hsl : slots + (3 + 3 * S.toNat) ≤ R.slots) (hd : decode cc pc = .ok (.multianewarray ix 2, 4)) (hd2 : decode cc (pc + 4) = .ok (.putfield idx, 3))
    (kk : ∀ (ln1 : gLn) (rh1 : gRh), ln1 = gla (gla (gla (gla ln o 100 S) o 101 S) o 102 S) o 7 3 → gKp kd ln rh kd ln1 rh1 → gW p l e R s m args below meth c D cy A H0 Q nL kd ln1 rh1 (cells + 4) (slots + (3 + 3 * S.toNat)) (gza (gza (gza (gza M o 100) o 101) o 102) o 7) (pc + 7) lv st) : gW p l e R s m args below meth c D cy A H0 Q nL kd ln rh cells slots M pc lv (.int (gI S) :: .int (gI 3) :: .ref (gad o) :: st) := by
  intro H locs ls hS hl
  obtain ⟨hx, hb, hml, hown, hts, ⟨hK, -, -, -, hO⟩, -⟩ := C
  obtain ⟨h8, Cn, T0, N, ty0, hcl, hN, hinw, hkN, hlink, hty0, hnm, hfin⟩ := F
  obtain ⟨hat, hA1, hA2, hA3, hVS⟩ := hS
  have h8o : kd o < 8 := by omega
  have hn31 : S < 2147483648 := by omega
  have hNn : (gI S).toNatClampNeg = S.toNat := gI_cl hn.1 hn31
  have h3n : (gI 3).toNatClampNeg = 3 := by decide
  intro T hT Xs
  obtain ⟨vm₁, cA, comp, -, fA, fC, hO, -, X', step⟩ := Xs.multianewarray2F hx hown (hts _ hcl0) (gAO.use hO hov) (hts _ hac) (g := F0 m pc ls (.int (gI S) :: .int (gI 3) :: .ref (gad o) :: st)) rfl (by rw [hb]; exact hd) rfl (by decide) (by rw [show (0 : Int32) = gI 0 from rfl, gI_lt ⟨by omega, hn31⟩ ⟨by decide, by decide⟩]; omega) (by decide) (by rw [hNn]; show S.toNat * 8 ≤ _; omega) (by rw [hNn]; omega) rfl rfl (by rw [h3n]; omega) (by rw [h3n, hNn]; omega)
  rw [h3n, hNn] at X' step
  generalize hF : Jvm.Free.Multi.fill (T.setVm vm₁) cA comp 3 S.toNat (defaultValue .long) 3 = F at X' step
  have hTh : (T.setVm vm₁).heap = H := hT
  obtain ⟨f1, f2, -, -⟩ := Jvm.Free.Multi.fill_facts (T.setVm vm₁) cA comp 3 S.toNat (defaultValue .long) 3
  rw [hF, hTh] at f1 f2
  have hold : ∀ x : Nat, x < H.size → F.heap[x]? = H[x]? := fun x hx => by
    have := Jvm.Free.Multi.fill_old (T.setVm vm₁) cA comp 3 S.toNat (defaultValue .long) (a := x) (by rw [hTh]; exact hx) 3
    rw [hF, hTh] at this
    exact this
  have hc11 : comp = cy 11 := by
    have h9 : s.vm.findClass ("[" ++ FieldType.long.toString) = some (cy 11) := (hK.2 3 _ rfl).2
    exact Option.some.inj (fC.symm.trans h9)
  have hc14 : cA = cy 14 := by
    have h9 : s.vm.findClass ("[" ++ (FieldType.array .long).toString) = some (cy 14) := (hK.2 6 _ rfl).2
    exact Option.some.inj (fA.symm.trans h9)
  subst hc11
  subst hc14
  have hrow : ∀ j : Nat, j < 3 → F.heap[H.size + 1 + j]? = some (arrV (cy 11) S.toNat (fun _ => .long 0)) := fun j hj => by
    have := Jvm.Free.Multi.fill_inner (T.setVm vm₁) (cy 14) (cy 11) 3 S.toNat (defaultValue .long) 3 j hj
    rw [hF, hTh] at this
    rw [this]
    exact congrArg some (arrV_new _ _ _)
  rw [gvr_outer] at f2
  have hltA : ∀ o', kd o' < 8 → gad o' < H.size := fun o' ho' => by
    obtain ⟨-, c9, e9, -⟩ := hat.1 o' ho'
    exact (Array.getElem?_eq_some_iff.mp e9).1
  have hltB : ∀ o' k', 0 ≤ ln o' k' → rh o' k' < H.size := fun o' k' hk' => (Array.getElem?_eq_some_iff.mp (hat.2.1 o' k' hk').2.2).1
  have at0 := gAt_more hat (by omega) hold
  have at1 := gAt_row (i := 0) (a := H.size + 1) (n := S) at0 ho hneg.2.1 hneg.1 hn.1 hn31 (fun o' k' hk' q => by have := hltB o' k' hk'; omega) (fun o' ho' q => by have := hltA o' ho'; omega) (hrow 0 (by decide))
  have hB1 : ∀ o' k', 0 ≤ gla ln o 100 S o' k' → gra rh o 100 (H.size + 1) o' k' < H.size + 2 := fun o' k' hk' => by
    by_cases e : o' = o ∧ k' = 100
    · rw [e.1, e.2, gra_s]; omega
    · rw [gla_n e] at hk'; rw [gra_n e]; have := hltB o' k' hk'; omega
  have at2 := gAt_row (i := 1) (a := H.size + 2) (n := S) at1 ho (by rw [gla_n (by omega)]; exact hneg.2.2.1) (by rw [gla_n (by omega)]; exact hneg.1) hn.1 hn31 (fun o' k' hk' => Nat.ne_of_lt (hB1 o' k' hk')) (fun o' ho' q => by have := hltA o' ho'; omega) (hrow 1 (by decide))
  have hB2 : ∀ o' k', 0 ≤ gla (gla ln o 100 S) o 101 S o' k' → gra (gra rh o 100 (H.size + 1)) o 101 (H.size + 2) o' k' < H.size + 3 := fun o' k' hk' => by
    by_cases e : o' = o ∧ k' = 101
    · rw [e.1, e.2, gra_s]; omega
    · rw [gla_n e] at hk'; rw [gra_n e]; have := hB1 o' k' hk'; omega
  have at3 := gAt_row (i := 2) (a := H.size + 3) (n := S) at2 ho (by rw [gla_n (by omega), gla_n (by omega)]; exact hneg.2.2.2) (by rw [gla_n (by omega), gla_n (by omega)]; exact hneg.1) hn.1 hn31 (fun o' k' hk' => Nat.ne_of_lt (hB2 o' k' hk')) (fun o' ho' q => by have := hltA o' ho'; omega) (hrow 2 (by decide))
  have hB3 : ∀ o' k', 0 ≤ gla (gla (gla ln o 100 S) o 101 S) o 102 S o' k' → gra (gra (gra rh o 100 (H.size + 1)) o 101 (H.size + 2)) o 102 (H.size + 3) o' k' ≠ H.size := fun o' k' hk' => by
    by_cases e : o' = o ∧ k' = 102
    · rw [e.1, e.2, gra_s]; omega
    · rw [gla_n e] at hk'; rw [gra_n e]
      by_cases e : o' = o ∧ k' = 101
      · rw [e.1, e.2, gra_s]; omega
      · rw [gla_n e] at hk'; rw [gra_n e]
        by_cases e : o' = o ∧ k' = 100
        · rw [e.1, e.2, gra_s]; omega
        · rw [gla_n e] at hk'; rw [gra_n e]; have := hltB o' k' hk'; omega
  obtain ⟨hpos, cell, q1, q2, q3, q4⟩ := at3.1 o h8o
  have hap := va_apart (own := own) hts hinw ty0 hty0 hnm hK hcl
  obtain ⟨hSl, hfc, kC, hkC, hkind⟩ := hK.1 _ _ hcl
  obtain ⟨cf, kf, fi, f, hi, hsl9⟩ := hSl 7 hkN
  have hst := (u_facts hfc hkC (u_lays hts hinw hkN) hi).1
  have h6 := u_fits hfc hkC hkind (u_lays hts hinw hkN) hi (hty _ _ _ hcl) (v := .ref H.size) rfl rfl
  have hlay := hts _ (hinw _ (u_in_lay hkN))
  unfold u_lay at hlay
  rw [if_pos hfin] at hlay
  have hcf : m.cls = cf := by
    obtain ⟨_, _, c', _, _, _, -, -, hf', -, -, -, hown2, -⟩ := Cond.laysFinal_spec hlay
    have e1 : c' = cf := by have := hi.symm.trans hf'; simp at this; exact this.1.symm
    rw [hdc _ _ _ hcl] at hown2
    rw [← e1]; exact Option.some.inj (hown.symm.trans hown2)
  have hap' : ∀ a b, a < gnf (kd o) → b < gnf (kd o) → a ≠ b → D.2 (kd o) a ≠ D.2 (kd o) b := fun a b ha hb' => by
    rw [ho] at ha hb' ⊢
    exact hap a b (by rw [← hN]; exact ha) (by rw [← hN]; exact hb')
  have main : W p l e R s m args below meth c F.heap locs (cells + 1 + 3) (slots + 3 + 3 * S.toNat) Q (F0 m (pc + 4) ls (.ref H.size :: .ref (gad o) :: st)) := by
    rw [ho] at q2 q4
    refine W.putFinK hx hb hown (hts _ hlink) hi hst hcf hin (cell := cell) (by rw [q2]; exact h6) q1 q3 (by rw [hsl9]; exact k2_hasslot (q4 7 (by rw [hN]; exact hkN))) rfl rfl hd2 fun H2 e1 e2 e3 => ?_
    rw [hsl9] at e1 ⊢
    rw [show cells + 1 + 3 = cells + 4 from rfl, show slots + 3 + 3 * S.toNat = slots + (3 + 3 * S.toNat) by omega]
    refine kk _ (gra (gra (gra (gra rh o 100 (H.size + 1)) o 101 (H.size + 2)) o 102 (H.size + 3)) o 7 H.size) rfl ⟨fun _ _ => rfl, fun z j hz => ?_⟩ H2 _ ls ⟨?_, hA1, fun o' k' hk' => ?_, hA3, ?_⟩ hl
    · have n0 : ¬ (z = o ∧ j = 7) := fun q => by rw [q.1, q.2] at hz; have := hneg.1; omega
      have n1 : ¬ (z = o ∧ j = 100) := fun q => by rw [q.1, q.2] at hz; have := hneg.2.1; omega
      have n2 : ¬ (z = o ∧ j = 101) := fun q => by rw [q.1, q.2] at hz; have := hneg.2.2.1; omega
      have n3 : ¬ (z = o ∧ j = 102) := fun q => by rw [q.1, q.2] at hz; have := hneg.2.2.2; omega
      rw [gla_n n0, gla_n n3, gla_n n2, gla_n n1, gra_n n0, gra_n n3, gra_n n2, gra_n n1]
      exact ⟨rfl, rfl⟩
    · rw [← gzf_z]
      refine gAt_putarr (a := H.size) at3 h8o (by rw [ho, hN]; exact hkN) (by rw [ho]; rfl) (by rw [gla_n (by omega), gla_n (by omega), gla_n (by omega)]; exact hneg.1) (by decide) (by decide) hB3 (fun o' ho' q => by have := hltA o' ho'; omega) (fun i => gRg_0 _ _) ?_ q1 (by rw [ho]; exact e1) e2 e3 hap'
      rw [f2, ho]
      refine congrArg some ?_
      show _ = arrV (cy 14) 3 _
      refine arrV_ext fun j hj => ?_
      rw [if_pos hj]
      show Value.ref _ = Value.ref (gra (gra (gra (gra rh o 100 (H.size + 1)) o 101 (H.size + 2)) o 102 (H.size + 3)) o 7 H.size o (100 + j))
      rcases (show j = 0 ∨ j = 1 ∨ j = 2 by omega) with rfl | rfl | rfl
      · rw [gra_n (by omega), gra_n (by omega), gra_n (by omega), gra_s]
      · rw [gra_n (by omega), gra_n (by omega), gra_s]
      · rw [gra_n (by omega), gra_s]
    · by_cases e : o' = o ∧ k' = 7
      · rw [e.1, e.2, gra_s]
        exact hA3 _ hVS.1
      · rw [gla_n e] at hk'
        rw [gra_n e]
        by_cases e : o' = o ∧ k' = 102
        · rw [e.1, e.2, gra_s]
          exact hA3 _ (Nat.le_trans hVS.1 (by omega))
        · rw [gla_n e] at hk'
          rw [gra_n e]
          by_cases e : o' = o ∧ k' = 101
          · rw [e.1, e.2, gra_s]
            exact hA3 _ (Nat.le_trans hVS.1 (by omega))
          · rw [gla_n e] at hk'
            rw [gra_n e]
            by_cases e : o' = o ∧ k' = 100
            · rw [e.1, e.2, gra_s]
              exact hA3 _ (Nat.le_trans hVS.1 (by omega))
            · rw [gla_n e] at hk'
              rw [gra_n e]
              exact hA2 o' k' hk'
    · have hV1 : va_S A H0 F.heap locs := ⟨Nat.le_trans hVS.1 (by omega), fun x h1 h2 => (hold x (Nat.lt_of_lt_of_le h1 hVS.1)).trans (hVS.2.1 x h1 h2), hVS.2.2⟩
      exact hV1.put e2 e3 (hA1 o h8o)
  obtain ⟨t, a1, b1⟩ := main F rfl X'
  refine ⟨t, step t ?_, b1⟩
  have e : T.heap.size = H.size := by rw [hT]
  rw [e]
  exact a1
end GI3
