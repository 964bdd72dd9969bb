/-! CELLS ARE MADE: the layout grows -/
def gkn (kd : gKd) (o : Int) (ci : Nat) : gKd := fun z => if z = o then ci else kd z
def gzr (M : gM) (o : Int) : gM := fun z k i => if z = o then 0 else M z k i
def gla (ln : gLn) (o : Int) (k : Nat) (n : Int) : gLn := fun z j => if z = o ∧ j = k then n else ln z j
def gra (rh : gRh) (o : Int) (k : Nat) (q : Nat) : gRh := fun z j => if z = o ∧ j = k then q else rh z j
def gza (M : gM) (o : Int) (k : Nat) : gM := fun z j i => if z = o ∧ j = k ∧ 0 ≤ i then 0 else M z j i
/-- what was there stays: objects, arrays, their lengths and addresses -/
def gKp (kd : gKd) (ln : gLn) (rh : gRh) (kd1 : gKd) (ln1 : gLn) (rh1 : gRh) : Prop := (∀ z, kd z < 8 → kd1 z = kd z) ∧ ∀ z j, 0 ≤ ln z j → ln1 z j = ln z j ∧ rh1 z j = rh z j
theorem gKp_r {kd : gKd} {ln : gLn} {rh : gRh} : gKp kd ln rh kd ln rh := ⟨fun _ _ => rfl, fun _ _ _ => ⟨rfl, rfl⟩⟩
theorem gKp_t {kd kd1 kd2 : gKd} {ln ln1 ln2 : gLn} {rh rh1 rh2 : gRh} (a : gKp kd ln rh kd1 ln1 rh1) (b : gKp kd1 ln1 rh1 kd2 ln2 rh2) : gKp kd ln rh kd2 ln2 rh2 := by
  refine ⟨fun z h => ?_, fun z j h => ?_⟩
  · have h1 := a.1 z h
    rw [b.1 z (by rw [h1]; exact h), h1]
  · obtain ⟨h1, h2⟩ := a.2 z j h
    obtain ⟨h3, h4⟩ := b.2 z j (by rw [h1]; exact h)
    exact ⟨h3.trans h1, h4.trans h2⟩
theorem gKp_k {kd kd1 : gKd} {ln ln1 : gLn} {rh rh1 : gRh} {x : Int} {c : Nat} (a : gKp kd ln rh kd1 ln1 rh1) (h : kd x = c) (h8 : c < 8) : kd1 x = c := (a.1 x (by rw [h]; exact h8)).trans h
theorem gKp_l {kd kd1 : gKd} {ln ln1 : gLn} {rh rh1 : gRh} {x : Int} {k : Nat} (a : gKp kd ln rh kd1 ln1 rh1) (h : 0 ≤ ln x k) : 0 ≤ ln1 x k := by rw [(a.2 x k h).1]; exact h
theorem gRg_0 (c k : Nat) : gRg c k 0 := by
  unfold gRg
  split
  · exact ⟨by decide, by decide⟩
  · split
    · exact ⟨by decide, by decide⟩
    · exact Int.le_refl 0
    · exact Int.le_refl 0
    · exact ⟨by decide, by decide⟩
  · exact Int.le_refl 0
theorem gkn_s {kd : gKd} {o : Int} {ci : Nat} : gkn kd o ci o = ci := if_pos rfl
theorem gkn_n {kd : gKd} {o x : Int} {ci : Nat} (h : x ≠ o) : gkn kd o ci x = kd x := if_neg h
theorem gkn_old {kd kd1 : gKd} {o x : Int} {ci c : Nat} (e : kd1 = gkn kd o ci) (h : kd x = c) (h8 : c < 8) (ho : 8 ≤ kd o) : kd1 x = c := by
  rw [e, gkn_n (fun q => by rw [q] at h; omega)]
  exact h
theorem gla_old {ln ln1 : gLn} {o x : Int} {k j : Nat} {n : Int} (e : ln1 = gla ln o k n) (h : 0 ≤ ln x j) (hn : ln o k < 0) : 0 ≤ ln1 x j := by
  rw [e]
  unfold gla
  rw [if_neg (fun q => by rw [q.1, q.2] at h; omega)]
  exact h
/-- a new object, all its fields as they are born -/
theorem gAt_new {D : va_G} {cy : Nat → ClassId} {kd : gKd} {ln : gLn} {rh : gRh} {M : gM} {H H1 : Heap} {ci : Nat} (h : gAt D cy kd ln rh M H) (z1 : H1.size = H.size + 1) (o1 : ∀ q, q < H.size → H1[q]? = H[q]?) (h8 : ci < 8)
    (hb : t_OB H.size (D.1 ci) (gnf ci) (D.2 ci) H1 (fun k => if gft ci k = 0 then .int 0 else .null)) :
    8 ≤ kd ((H.size : Int) + 1) ∧ (∀ k, ln ((H.size : Int) + 1) k < 0) ∧ gAt D cy (gkn kd ((H.size : Int) + 1) ci) ln rh (gzr M ((H.size : Int) + 1)) H1 := by
  obtain ⟨h1, h2, h3, h4, h5, h6⟩ := h
  have hgad : gad ((H.size : Int) + 1) = H.size := by unfold gad; omega
  have hk8 : 8 ≤ kd ((H.size : Int) + 1) := by
    rcases Nat.lt_or_ge (kd ((H.size : Int) + 1)) 8 with q | q
    · obtain ⟨-, cell, e1, -⟩ := h1 _ q
      rw [hgad] at e1
      have := (Array.getElem?_eq_some_iff.mp e1).1
      omega
    · exact q
  have hln : ∀ k, ln ((H.size : Int) + 1) k < 0 := fun k => by
    rcases Int.lt_or_le (ln ((H.size : Int) + 1) k) 0 with q | q
    · exact q
    · have := (h2 _ k q).2.1
      omega
  refine ⟨hk8, hln, fun o ho => ?_, fun o k hk => ?_, h3, fun o o' k' ho hk' => ?_, fun o k i => ?_, fun o k j ho hf hm => ?_⟩
  · by_cases e : o = (H.size : Int) + 1
    · subst e
      rw [gkn_s] at ho ⊢
      refine ⟨by omega, ?_⟩
      rw [hgad]
      refine hb.to (fun k _ => ?_)
      show _ = gfv ci ln rh (gzr M ((H.size : Int) + 1)) ((H.size : Int) + 1) k
      unfold gfv
      have e0 : gzr M ((H.size : Int) + 1) ((H.size : Int) + 1) k (-1) = 0 := if_pos rfl
      rw [e0]
      generalize gft ci k = f
      match f with
      | 0 => rfl
      | 1 => rfl
      | 2 => show Value.null = if ln ((H.size : Int) + 1) k < 0 then Value.null else _; rw [if_pos (hln k)]
      | j + 3 => show (if j + 3 = 0 then Value.int 0 else Value.null) = if (0 : Int) = 0 then Value.null else _; rw [if_neg (Nat.succ_ne_zero _), if_pos rfl]
    · rw [gkn_n e] at ho ⊢
      obtain ⟨b1, b2⟩ := h1 o ho
      refine ⟨b1, (b2.kept (o1 _ ?_)).to (fun k _ => ?_)⟩
      · obtain ⟨cell, q1, -⟩ := b2
        exact (Array.getElem?_eq_some_iff.mp q1).1
      · show gfv _ _ _ _ _ _ = gfv _ _ _ _ _ _
        unfold gfv
        rw [show gzr M ((H.size : Int) + 1) o k (-1) = M o k (-1) from if_neg e]
  · obtain ⟨b1, b2, b3⟩ := h2 o k hk
    have e : o ≠ (H.size : Int) + 1 := fun q => by have := hln k; rw [← q] at this; omega
    rw [gkn_n e]
    refine ⟨b1, by omega, (o1 _ (Array.getElem?_eq_some_iff.mp b3).1).trans (b3.trans ?_)⟩
    congr 2
    funext j
    rw [show gzr M ((H.size : Int) + 1) o k j = M o k j from if_neg e]
  · by_cases e : o = (H.size : Int) + 1
    · subst e
      rw [hgad]
      have := (Array.getElem?_eq_some_iff.mp (h2 o' k' hk').2.2).1
      omega
    · rw [gkn_n e] at ho
      exact h4 o o' k' ho hk'
  · by_cases e : o = (H.size : Int) + 1
    · subst e
      rw [show gzr M ((H.size : Int) + 1) ((H.size : Int) + 1) k i = 0 from if_pos rfl]
      exact gRg_0 _ _
    · rw [gkn_n e, show gzr M ((H.size : Int) + 1) o k i = M o k i from if_neg e]
      exact h5 o k i
  · by_cases e : o = (H.size : Int) + 1
    · subst e
      exact absurd (show gzr M ((H.size : Int) + 1) ((H.size : Int) + 1) k (-1) = 0 from if_pos rfl) hm
    · rw [gkn_n e] at ho hf
      rw [show gzr M ((H.size : Int) + 1) o k (-1) = M o k (-1) from if_neg e] at hm ⊢
      exact h6 o k j ho hf hm
/-- a class by its row in the pool of 'own' -/
def gNw (own : String) (idx ci N : Nat) : Prop := ci < 8 ∧ gnf ci = N ∧ ∃ (Cn : String) (T : u_T) (ty : Nat → FieldType), vwCl[ci]? = some (Cn, T, N) ∧ (∀ w ∈ u_ws Cn T N, w ∈ gT) ∧ (∀ k, k < N → parseFieldDescriptor (T k).2.2.1 = some (ty k)) ∧ (∀ k, k < N → defaultValue (ty k) = if gft ci k = 0 then .int 0 else .null) ∧ Cond.classLink own idx Cn ∈ gT ∧ Cond.instantiable Cn N ∈ gT ∧ Cond.initialized Cn ∈ gT
theorem gnf_le (c : Nat) : gnf c ≤ 28 := by unfold gnf; split <;> decide
theorem gra_n {rh : gRh} {o z : Int} {k j q : Nat} (h : ¬ (z = o ∧ j = k)) : gra rh o k q z j = rh z j := if_neg h
theorem gla_n {ln : gLn} {o z : Int} {k j : Nat} {n : Int} (h : ¬ (z = o ∧ j = k)) : gla ln o k n z j = ln z j := if_neg h
theorem gra_s {rh : gRh} {o : Int} {k q : Nat} : gra rh o k q o k = q := if_pos ⟨rfl, rfl⟩
theorem gla_s {ln : gLn} {o : Int} {k : Nat} {n : Int} : gla ln o k n o k = n := if_pos ⟨rfl, rfl⟩
theorem gza_m {M : gM} {o z : Int} {k j : Nat} : gza M o k z j (-1) = M z j (-1) := if_neg (fun q => by have := q.2.2; omega)
theorem gfv_grow {kd : gKd} {ln : gLn} {rh : gRh} {M : gM} {o o' n : Int} {k j q : Nat} (hneg : ln o k < 0) (ha : ∀ j2, gft (kd o') j = j2 + 3 → M o' j (-1) ≠ 0 → 0 ≤ ln (M o' j (-1)) j2) (hne : ¬ (o' = o ∧ j = k)) : gfv (kd o') ln rh M o' j = gfv (kd o') (gla ln o k n) (gra rh o k q) (gza M o k) o' j := by
  unfold gfv
  rw [gza_m, gla_n hne, gra_n hne]
  generalize hg : gft (kd o') j = f at ha
  match f with
  | 0 => rfl
  | 1 => rfl
  | 2 => rfl
  | j2 + 3 =>
    show (if M o' j (-1) = 0 then Value.null else .ref (rh (M o' j (-1)) j2)) = if M o' j (-1) = 0 then Value.null else .ref (gra rh o k q (M o' j (-1)) j2)
    by_cases h0 : M o' j (-1) = 0
    · rw [if_pos h0, if_pos h0]
    · have h1 := ha j2 rfl h0
      rw [if_neg h0, if_neg h0, gra_n (fun z => by rw [z.1, z.2] at h1; omega)]
/-- a new array in a field of an object -/
theorem gAt_newput {D : va_G} {cy : Nat → ClassId} {kd : gKd} {ln : gLn} {rh : gRh} {M : gM} {H H1 H2 : Heap} {o n : Int} {k : Nat} {cell : Cell} (h : gAt D cy kd ln rh M H) (ho : kd o < 8) (hk : k < gnf (kd o)) (hf : gft (kd o) k = 2) (hneg : ln o k < 0) (hn : 0 ≤ n) (hn2 : n < 2147483648)
    (z1 : H1.size = H.size + 1) (o1 : ∀ q, q < H.size → H1[q]? = H[q]?) (e0 : H1[H.size]? = some (arrV (cy (gak (kd o) k)) n.toNat (fun j => gav (gra rh o k H.size) o (gak (kd o) k) 0 j))) (hc : H[gad o]? = some cell)
    (e1 : H2[gad o]? = some (cell.setSlot (D.2 (kd o) k) (.ref H.size))) (e2 : H2.size = H1.size) (e3 : ∀ q, q ≠ gad o → H2[q]? = H1[q]?) (hap : ∀ a b, a < gnf (kd o) → b < gnf (kd o) → a ≠ b → D.2 (kd o) a ≠ D.2 (kd o) b) :
    gAt D cy kd (gla ln o k n) (gra rh o k H.size) (gza M o k) H2 := by
  obtain ⟨h1, h2, h3, h4, h5, h6⟩ := h
  have hlt : gad o < H.size := (Array.getElem?_eq_some_iff.mp hc).1
  have hk28 := gnf_le (kd o)
  obtain ⟨hpo, -⟩ := h1 o ho
  refine ⟨fun o' ho' => ?_, fun o' k' hk' => ?_, fun a b ka kb ha hb he => ?_, fun a b kb ha hb he => ?_, fun o' k' i' => ?_, fun o' k' j' ho' hf' hm' => ?_⟩
  · obtain ⟨hp', hob⟩ := h1 o' ho'
    refine ⟨hp', ?_⟩
    by_cases e : o' = o
    · subst e
      obtain ⟨cell', q1, q2, q3, q4⟩ := hob
      cases q1.symm.trans hc
      refine ⟨_, e1, q2, q3, fun j hj => ?_⟩
      rw [t_set q4 hap hk _ j hj]
      unfold updV
      split
      · rename_i hjk
        subst hjk
        show some (Value.ref H.size) = some (gfv (kd o') (gla ln o' j n) (gra rh o' j H.size) (gza M o' j) o' j)
        unfold gfv
        rw [hf, gla_s, gra_s]
        show some (Value.ref H.size) = some (if n < 0 then Value.null else Value.ref H.size)
        rw [if_neg (by omega)]
      · rename_i hjk
        exact congrArg some (gfv_grow hneg (fun j2 => h6 o' j j2 ho') (fun q => hjk q.2))
    · have hne : gad o' ≠ gad o := fun q => e (gad_inj hp' hpo q)
      have hlt' : gad o' < H.size := by
        obtain ⟨cell', q1, -⟩ := hob
        exact (Array.getElem?_eq_some_iff.mp q1).1
      exact (hob.kept ((e3 _ hne).trans (o1 _ hlt'))).to (fun j _ => gfv_grow hneg (fun j2 => h6 o' j j2 ho') (fun q => e q.1))
  · by_cases e : o' = o ∧ k' = k
    · obtain ⟨rfl, rfl⟩ := e
      rw [gla_s, gra_s]
      refine ⟨hn2, ?_, ?_⟩
      · rw [e2, z1]; unfold gad at hlt; omega
      · rw [e3 _ (by omega), e0]
        congr 2
        funext j
        rw [show gza M o' k' o' k' (j : Int) = 0 from if_pos ⟨rfl, rfl, by omega⟩]
    · rw [gla_n e] at hk' ⊢
      obtain ⟨b1, b2, b3⟩ := h2 o' k' hk'
      have hlt' := (Array.getElem?_eq_some_iff.mp b3).1
      rw [gra_n e]
      refine ⟨b1, by rw [e2, z1]; omega, ?_⟩
      rw [e3 _ (fun q => h4 o o' k' ho hk' q.symm), o1 _ hlt', b3]
      congr 2
      funext j
      rw [show gza M o k o' k' (j : Int) = M o' k' j from if_neg (fun q => e ⟨q.1, q.2.1⟩)]
      unfold gav
      split <;> first | rfl | skip
      rw [gra_n (fun q => by have := q.2; omega)]
  · by_cases ea : a = o ∧ ka = k <;> by_cases eb : b = o ∧ kb = k
    · exact ⟨ea.1.trans eb.1.symm, ea.2.trans eb.2.symm⟩
    · rw [gla_n eb] at hb
      rw [gra_n eb, ea.1, ea.2, gra_s] at he
      have := (Array.getElem?_eq_some_iff.mp (h2 b kb hb).2.2).1
      omega
    · rw [gla_n ea] at ha
      rw [gra_n ea, eb.1, eb.2, gra_s] at he
      have := (Array.getElem?_eq_some_iff.mp (h2 a ka ha).2.2).1
      omega
    · rw [gla_n ea] at ha
      rw [gla_n eb] at hb
      rw [gra_n ea, gra_n eb] at he
      exact h3 a b ka kb ha hb he
  · by_cases eb : b = o ∧ kb = k
    · rw [eb.1, eb.2, gra_s] at he
      obtain ⟨-, cell', q1, -⟩ := h1 a ha
      have := (Array.getElem?_eq_some_iff.mp q1).1
      omega
    · rw [gla_n eb] at hb
      rw [gra_n eb] at he
      exact h4 a b kb ha hb he
  · unfold gza
    split
    · exact gRg_0 _ _
    · exact h5 o' k' i'
  · rw [gza_m] at hm' ⊢
    have h9 := h6 o' k' j' ho' hf' hm'
    unfold gla
    split
    · exact hn
    · exact h9
section GA
variable {p : Program} {l : Launch} {e : Env} {R : Room} {s : State} {m : MethodId} {args : Array Value} {below : List Frame} {meth : Method} {c : Code} {cells slots : Nat} {Q : State → Prop} {cc : ByteArray} {nL : Nat} {own : String} {D : va_G} {cy : Nat → ClassId} {A : Nat → Prop} {H0 : Heap} {kd : gKd} {ln : gLn} {rh : gRh} {M : gM} {pc : Nat} {lv : List (Nat × Value)} {st : List Value}
theorem q_new (C : gC p s m args c cc nL own D cy A H0) {idx ci N : Nat} (F : gNw own idx ci N) (hce : cells + 1 ≤ R.cells) (hsl : slots + N ≤ R.slots) (hd : decode cc pc = .ok (.new idx, 3)) (kk : ∀ (o : Int) (kd1 : gKd) (M1 : gM), 0 < o → 8 ≤ kd o → (∀ k, ln o k < 0) → kd1 = gkn kd o ci → M1 = gzr M o → gKp kd ln rh kd1 ln rh → gW p l e R s m args below meth c D cy A H0 Q nL kd1 ln rh (cells + 1) (slots + N) M1 (pc + 3) lv (.ref (gad o) :: st)) : gW p l e R s m args below meth c D cy A H0 Q nL kd ln rh cells slots M pc lv st := by
  intro H locs ls hS hl
  obtain ⟨hx, hb, hml, hown, hts, ⟨hK, -⟩, -⟩ := C
  obtain ⟨h8, hN, Cn, T, ty, hcl, hin, hty, hdef, w1, w2, w3⟩ := F
  obtain ⟨hat, hA1, hA2, hA3, hVS⟩ := hS
  have hKn := hK.1 ci _ hcl
  refine W.newcK hx hb hown (hts _ w1) (hts _ w2) (hts _ w3) rfl hd hce hsl hKn.2.1 rfl fun H1 kC hkC e1 z1 o1 => ?_
  have hbo : t_OB H.size (D.1 ci) (gnf ci) (D.2 ci) H1 (fun k => if gft ci k = 0 then .int 0 else .null) := by
    rw [hN]
    exact (u_born ty hts hin hKn hkC e1 hty).to hdef
  obtain ⟨g1, g2, g3⟩ := gAt_new hat z1 o1 h8 hbo
  have hgad : gad ((H.size : Int) + 1) = H.size := by unfold gad; omega
  have hk := kk ((H.size : Int) + 1) _ _ (by omega) g1 g2 rfl rfl ⟨fun z hz => gkn_n (fun q => by rw [q] at hz; omega), fun _ _ _ => ⟨rfl, rfl⟩⟩ H1 locs ls ⟨g3, fun o ho => ?_, hA2, hA3, ⟨Nat.le_trans hVS.1 (by omega), fun x h1 h2 => (o1 x (Nat.lt_of_lt_of_le h1 hVS.1)).trans (hVS.2.1 x h1 h2), hVS.2.2⟩⟩ hl
  · rw [hgad] at hk
    exact hk
  · by_cases e : o = (H.size : Int) + 1
    · rw [e, hgad]
      exact hA3 _ hVS.1
    · rw [gkn_n e] at ho
      exact hA1 o ho
theorem q_putF (C : gC p s m args c cc nL own D cy A H0) {idx ci k : Nat} {o x : Int} {v : Value} {ty : FieldType} (hin : meth.name = "<init>") (F : gFd own idx ci k true) (hdc : ∀ (Cn : String) (T : u_T) (N : Nat), vwCl[ci]? = some (Cn, T, N) → (T k).1 = own) (ho : kd o = ci) (hty : ∀ (Cn : String) (T : u_T) (N : Nat), vwCl[ci]? = some (Cn, T, N) → parseFieldDescriptor (T k).2.2.1 = some ty) (hv : gfv ci ln rh (gu M o k (-1) x) o k = v) (hn : narrow ty v = v) (hf : fits ty v = true) (hr : gRg ci k x) (ha : ∀ j, gft ci k = j + 3 → x ≠ 0 → 0 ≤ ln x j) (hd : decode cc pc = .ok (.putfield idx, 3)) (kk : gW p l e R s m args below meth c D cy A H0 Q nL kd ln rh cells slots (gu M o k (-1) x) (pc + 3) lv st) : gW p l e R s m args below meth c D cy A H0 Q nL kd ln rh cells slots M pc lv (v :: .ref (gad o) :: st) := by
  intro H locs ls hS hl
  obtain ⟨hx, hb, hml, hown, hts, ⟨hK, -⟩, -⟩ := C
  obtain ⟨h8, Cn, T, N, ty0, hcl, hN, hinw, hkN, hlink, hty0, hnm, hfin⟩ := F
  obtain ⟨hat, hA1, hA2, hA3, hVS⟩ := hS
  subst ho
  obtain ⟨hpos, cell, q1, q2, q3, q4⟩ := hat.1 o h8
  have hap := va_apart (own := own) hts hinw ty0 hty0 hnm hK hcl
  obtain ⟨hSl, hfc, kC, hkC, hkind⟩ := hK.1 _ _ hcl
  obtain ⟨cf, kf, fi, f, hi, hsl⟩ := hSl k hkN
  have hst := (u_facts hfc hkC (u_lays hts hinw hkN) hi).1
  have h6 := u_fits hfc hkC hkind (u_lays hts hinw hkN) hi (hty _ _ _ hcl) hn hf
  have hlay := hts _ (hinw _ (u_in_lay hkN))
  unfold u_lay at hlay
  rw [if_pos hfin] at hlay
  have hcf : m.cls = cf := by
    obtain ⟨_, _, c', _, _, _, -, -, hf', -, -, -, hown2, -⟩ := Cond.laysFinal_spec hlay
    have e1 : c' = cf := by have := hi.symm.trans hf'; simp at this; exact this.1.symm
    rw [hdc _ _ _ hcl] at hown2
    rw [← e1]; exact Option.some.inj (hown.symm.trans hown2)
  refine W.putFinK hx hb hown (hts _ hlink) hi hst hcf hin (by rw [q2]; exact h6) q1 q3 (by rw [hsl]; exact k2_hasslot (q4 k (by rw [hN]; exact hkN))) rfl rfl hd fun H' e1 e2 e3 => ?_
  rw [hsl] at e1 ⊢
  exact kk H' _ ls ⟨gAt_put hat h8 (by rw [hN]; exact hkN) q1 e1 e2 e3 (fun a b ha hb' => hap a b (by rw [← hN]; exact ha) (by rw [← hN]; exact hb')) hv hr ha, hA1, hA2, hA3, hVS.put e2 e3 (hA1 o h8)⟩ hl
theorem q_newput (C : gC p s m args c cc nL own D cy A H0) {idx ci k t0 : Nat} {o n : Int} {atype : ArrayType} {ty : FieldType} (hin : meth.name = "<init>") (F : gFd own idx ci k true) (hdc : ∀ (Cn : String) (T : u_T) (N : Nat), vwCl[ci]? = some (Cn, T, N) → (T k).1 = own) (ho : kd o = ci) (hf2 : gft ci k = 2) (hat0 : newarray.typeOf atype = ty) (hac : Cond.arrayClass ty ∈ gT) (htt : (gtys cy)[t0]? = some (cy (gak ci k), ty)) (hra : ∀ cA, va_RA s cA ty = (s.vm.findClass ("[" ++ ty.toString) = some cA)) (hdv : ∀ rh9 o9 j, gav rh9 o9 (gak ci k) 0 j = defaultValue ty) (hty : ∀ (Cn : String) (T : u_T) (N : Nat), vwCl[ci]? = some (Cn, T, N) → parseFieldDescriptor (T k).2.2.1 = some (.array ty)) (hneg : ln o k < 0) (hn : 0 ≤ n ∧ n ≤ 67108864) (hcb : componentBytes ty ≤ 8) (hce : cells + 1 ≤ R.cells) (hsl : slots + n.toNat ≤ R.slots) (hd : decode cc pc = .ok (.newarray atype, 2)) (hd2 : decode cc (pc + 2) = .ok (.putfield idx, 3)) (kk : ∀ (ln1 : gLn) (rh1 : gRh), ln1 = gla ln o k n → gKp kd ln rh kd ln1 rh1 → gW p l e R s m args below meth c D cy A H0 Q nL kd ln1 rh1 (cells + 1) (slots + n.toNat) (gza M o k) (pc + 5) lv st) : gW p l e R s m args below meth c D cy A H0 Q nL kd ln rh cells slots M pc lv (.int (gI n) :: .ref (gad o) :: st) := by
  intro H locs ls hS hl
  obtain ⟨hx, hb, hml, hown, hts, ⟨hK, -⟩, -⟩ := C
  obtain ⟨h8, Cn, T, N, ty0, hcl, hN, hinw, hkN, hlink, hty0, hnm, hfin⟩ := F
  obtain ⟨hat, hA1, hA2, hA3, hVS⟩ := hS
  subst ho
  subst hat0
  have hn31 : n < 2147483648 := by omega
  have hNn : (gI n).toNatClampNeg = n.toNat := gI_cl hn.1 hn31
  refine va_newaK hx hb (hts _ hac) rfl hd rfl (by rw [show (0 : Int32) = gI 0 from rfl, gI_lt ⟨by omega, hn31⟩ ⟨by decide, by decide⟩]; omega) hNn (Nat.le_trans (Nat.mul_le_mul_left _ hcb) (by omega)) hce hsl rfl fun H1 cA z0 z1 o1 hAr hNm => ?_
  obtain ⟨hpos, cell, q1, q2, q3, q4⟩ := hat.1 o h8
  have hlt : gad o < H.size := (Array.getElem?_eq_some_iff.mp q1).1
  have hcA : cA = cy (gak (kd o) k) := by
    have h9 := (hK.2 t0 _ htt).2
    rw [hra] at h9
    exact Option.some.inj (hNm.symm.trans h9)
  subst hcA
  have hap := va_apart (own := own) hts hinw ty0 hty0 hnm hK hcl
  obtain ⟨hSl, hfc, kC, hkC, hkind⟩ := hK.1 _ _ hcl
  obtain ⟨cf, kf, fi, f, hi, hsl9⟩ := hSl k hkN
  have hst := (u_facts hfc hkC (u_lays hts hinw hkN) hi).1
  have h6 := u_fits hfc hkC hkind (u_lays hts hinw hkN) hi (hty _ _ _ hcl) (v := .ref H.size) rfl rfl
  have hlay := hts _ (hinw _ (u_in_lay hkN))
  unfold u_lay at hlay
  rw [if_pos hfin] at hlay
  have hcf : m.cls = cf := by
    obtain ⟨_, _, c', _, _, _, -, -, hf', -, -, -, hown2, -⟩ := Cond.laysFinal_spec hlay
    have e1 : c' = cf := by have := hi.symm.trans hf'; simp at this; exact this.1.symm
    rw [hdc _ _ _ hcl] at hown2
    rw [← e1]; exact Option.some.inj (hown.symm.trans hown2)
  refine W.putFinK hx hb hown (hts _ hlink) hi hst hcf hin (cell := cell) (by rw [q2]; exact h6) ((o1 _ hlt).trans q1) q3 (by rw [hsl9]; exact k2_hasslot (q4 k (by rw [hN]; exact hkN))) rfl rfl hd2 fun H2 e1 e2 e3 => ?_
  rw [hsl9] at e1 ⊢
  have hap' : ∀ a b, a < gnf (kd o) → b < gnf (kd o) → a ≠ b → D.2 (kd o) a ≠ D.2 (kd o) b := fun a b ha hb' => hap a b (by rw [← hN]; exact ha) (by rw [← hN]; exact hb')
  refine kk _ (gra rh o k H.size) rfl ⟨fun _ _ => rfl, fun z j hz => ⟨gla_n (fun q => by rw [q.1, q.2] at hz; omega), gra_n (fun q => by rw [q.1, q.2] at hz; omega)⟩⟩ H2 _ ls ⟨gAt_newput hat h8 (by rw [hN]; exact hkN) hf2 hneg hn.1 hn31 z1 o1 ?_ q1 e1 e2 e3 hap', hA1, fun o' k' hk' => ?_, hA3, ?_⟩ hl
  · rw [z0]
    congr 2
    funext j
    exact (hdv _ _ _).symm
  · by_cases e : o' = o ∧ k' = k
    · rw [e.1, e.2, gra_s]
      exact hA3 _ hVS.1
    · rw [gla_n e] at hk'
      rw [gra_n e]
      exact hA2 o' k' hk'
  · have hV1 : va_S A H0 H1 locs := ⟨Nat.le_trans hVS.1 (by omega), fun x h1 h2 => (o1 x (Nat.lt_of_lt_of_le h1 hVS.1)).trans (hVS.2.1 x h1 h2), hVS.2.2⟩
    exact hV1.put e2 e3 (hA1 o h8)
end GA
