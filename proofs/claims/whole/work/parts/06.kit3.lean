/-- a field by its class's row in the pool of 'own': class ci, slot k -/
def gFd (own : String) (idx ci k : Nat) (fin : Bool) : Prop := ci < 8 ∧ ∃ (Cn : String) (T : u_T) (N : Nat) (ty : Nat → FieldType), vwCl[ci]? = some (Cn, T, N) ∧ gnf ci = N ∧ (∀ w ∈ u_ws Cn T N, w ∈ gT) ∧ k < N ∧ Cond.fieldLink own idx (T k).1 (T k).2.1 (T k).2.2.1 ∈ gT ∧ (∀ k, k < N → parseFieldDescriptor (T k).2.2.1 = some (ty k)) ∧ (∀ a, a < N → ∀ b, b < N → a ≠ b → (T a).2.1 ≠ (T b).2.1) ∧ (T k).2.2.2 = fin
/-- a number is laid into a field -/
theorem gAt_put {D : va_G} {cy : Nat → ClassId} {kd : gKd} {ln : gLn} {rh : gRh} {M : gM} {H H' : Heap} {o x : Int} {k : Nat} {cell : Cell} {v : Value} (h : gAt D cy kd ln rh M H) (ho : kd o < 8) (hk : k < gnf (kd o))
    (hc : H[gad o]? = some cell) (e1 : H'[gad o]? = some (cell.setSlot (D.2 (kd o) k) v)) (e2 : H'.size = H.size) (e3 : ∀ q, q ≠ gad o → H'[q]? = H[q]?) (hap : ∀ a b, a < gnf (kd o) → b < gnf (kd o) → a ≠ b → D.2 (kd o) a ≠ D.2 (kd o) b)
    (hv : gfv (kd o) ln rh (gu M o k (-1) x) o k = v) (hr : gRg (kd o) k x) (ha : ∀ j, gft (kd o) k = j + 3 → x ≠ 0 → 0 ≤ ln x j) : gAt D cy kd ln rh (gu M o k (-1) x) H' := by
  obtain ⟨h1, h2, h3, h4, h5, h6⟩ := h
  refine ⟨fun o' ho' => ?_, fun o' k' hk' => ?_, h3, h4, fun o' k' i' => ?_, fun o' k' j' ho' hf' hm' => ?_⟩
  · obtain ⟨hp', hob⟩ := h1 o' ho'
    obtain ⟨hp, -⟩ := h1 o ho
    refine ⟨hp', ?_⟩
    by_cases e : o' = o
    · subst e
      obtain ⟨cell', q1, q2, q3, q4⟩ := hob
      cases q1.symm.trans hc
      refine ⟨_, e1, q2, q3, fun j hj => ?_⟩
      rw [t_set q4 hap hk v j hj]
      unfold updV
      split
      · rename_i hjk
        rw [hjk]
        exact congrArg some hv.symm
      · rename_i hjk
        congr 1
        show gfv _ _ _ _ _ _ = gfv _ _ _ _ _ _
        unfold gfv
        rw [gu_n (fun q => hjk q.2.1)]
    · have hne : gad o' ≠ gad o := fun q => e (gad_inj hp' hp q)
      refine (hob.kept (e3 _ hne)).to (fun j _ => ?_)
      show gfv _ _ _ _ _ _ = gfv _ _ _ _ _ _
      unfold gfv
      rw [gu_n (fun q => e q.1)]
  · obtain ⟨a1, a0, a2⟩ := h2 o' k' hk'
    refine ⟨a1, by rw [e2]; exact a0, ?_⟩
    rw [e3 _ (fun q => h4 o o' k' ho hk' q.symm), a2]
    congr 2
    funext j
    rw [gu_n (fun q => by have := q.2.2; omega)]
  · by_cases e : o' = o ∧ k' = k ∧ i' = -1
    · obtain ⟨rfl, rfl, rfl⟩ := e
      rw [gu_s]
      exact hr
    · rw [gu_n e]
      exact h5 o' k' i'
  · by_cases e : o' = o ∧ k' = k
    · obtain ⟨rfl, rfl⟩ := e
      rw [gu_s] at hm' ⊢
      exact ha j' hf' hm'
    · have e2 : gu M o k (-1) x o' k' (-1) = M o' k' (-1) := gu_n (fun q => e ⟨q.1, q.2.1⟩)
      rw [e2] at hm' ⊢
      exact h6 o' k' j' ho' hf' hm'
/-- a number is laid into an array -/
theorem gAt_ast {D : va_G} {cy : Nat → ClassId} {kd : gKd} {ln : gLn} {rh : gRh} {M : gM} {H H' : Heap} {o x i : Int} {k : Nat} {v : Value} (h : gAt D cy kd ln rh M H) (hi : 0 ≤ i) (hi2 : i < ln o k)
    (e1 : H'[rh o k]? = some ((arrV (cy (gak (kd o) k)) (ln o k).toNat (fun j => gav rh o (gak (kd o) k) (M o k j) j)).setSlot i.toNat v)) (e2 : H'.size = H.size) (e3 : ∀ q, q ≠ rh o k → H'[q]? = H[q]?)
    (hv : gav rh o (gak (kd o) k) x i.toNat = v) (hr : gRg (kd o) k x) : gAt D cy kd ln rh (gu M o k i x) H' := by
  obtain ⟨h1, h2, h3, h4, h5, h6⟩ := h
  refine ⟨fun o' ho' => ?_, fun o' k' hk' => ?_, h3, h4, fun o' k' i' => ?_, fun o' k' j' ho' hf' hm' => ?_⟩
  · obtain ⟨hp', hob⟩ := h1 o' ho'
    refine ⟨hp', (hob.kept (e3 _ (h4 o' o k ho' (by omega)))).to (fun j _ => ?_)⟩
    show gfv _ _ _ _ _ _ = gfv _ _ _ _ _ _
    unfold gfv
    rw [gu_n (fun q => by have := q.2.2; omega)]
  · obtain ⟨a1, a0, a2⟩ := h2 o' k' hk'
    refine ⟨a1, by rw [e2]; exact a0, ?_⟩
    by_cases e : o' = o ∧ k' = k
    · obtain ⟨rfl, rfl⟩ := e
      rw [e1, arrV_store]
      congr 2
      funext j
      unfold updV
      split
      · rename_i hj
        have hji : (j : Int) = i := by omega
        rw [hji, gu_s, hj, hv]
      · rename_i hj
        rw [gu_n (fun q => by have := q.2.2; omega)]
    · rw [e3 _ (fun q => e (h3 o' o k' k hk' (by omega) q)), a2]
      congr 2
      funext j
      rw [gu_n (fun q => e ⟨q.1, q.2.1⟩)]
  · by_cases e : o' = o ∧ k' = k ∧ i' = i
    · obtain ⟨rfl, rfl, rfl⟩ := e
      rw [gu_s]
      exact hr
    · rw [gu_n e]
      exact h5 o' k' i'
  · have e2 : gu M o k i x o' k' (-1) = M o' k' (-1) := gu_n (fun q => by have := q.2.2; omega)
    rw [e2] at hm' ⊢
    exact h6 o' k' j' ho' hf' hm'
section GH
variable {p : Program} {l : Launch} {e : Env} {R : Room} {s : State} {m : MethodId} {args : Array Value} {below : List Frame} {meth : Method} {c : Code} {cells slots : Nat} {Q : State → Prop} {cc : ByteArray} {nL : Nat} {own : String} {D : va_G} {cy : Nat → ClassId} {A : Nat → Prop} {H0 : Heap} {kd : gKd} {ln : gLn} {rh : gRh} {M : gM} {pc : Nat} {lv : List (Nat × Value)} {st : List Value}
theorem q_get (C : gC p s m args c cc nL own D cy A H0) {idx ci k : Nat} {fin : Bool} {o : Int} {v : Value} (F : gFd own idx ci k fin) (ho : kd o = ci) (hv : gfv ci ln rh M o k = v) (hd : decode cc pc = .ok (.getfield idx, 3)) (kk : gRg ci k (M o k (-1)) → gW p l e R s m args below meth c D cy A H0 Q nL kd ln rh cells slots M (pc + 3) lv (v :: st)) : gW p l e R s m args below meth c D cy A H0 Q nL kd ln rh cells slots M pc lv (.ref (gad o) :: st) := by
  intro H locs ls hS hl
  obtain ⟨hx, hb, hml, hown, hts, ⟨hK, -⟩, -⟩ := C
  obtain ⟨h8, Cn, T, N, ty, hcl, hN, hin, hkN, hlink, hty, hnm, -⟩ := F
  have hat := hS.1
  obtain ⟨hO, -, -, -, hRg, -⟩ := hat
  subst ho
  obtain ⟨hpos, cell, q1, q2, q3, q4⟩ := hO o h8
  obtain ⟨hSl, hfc, kC, hkC, hkind⟩ := hK.1 _ _ hcl
  obtain ⟨cf, kf, fi, f, hi, hsl⟩ := hSl k hkN
  refine W.getf hx hb hown (hts _ hlink) hi (u_facts hfc hkC (u_lays hts hin hkN) hi).1 q1 (by rw [q3]; exact fun h => by cases h) (v := v) ?_ rfl rfl hd (kk (hRg o k (-1)) H locs ls hS hl)
  rw [hsl, q4 k (by rw [hN]; exact hkN)]
  exact congrArg some hv
theorem q_put (C : gC p s m args c cc nL own D cy A H0) {idx ci k : Nat} {o x : Int} {v : Value} {ty : FieldType} (F : gFd own idx ci k false) (ho : kd o = ci) (hty : ∀ (Cn : String) (T : u_T) (N : Nat), vwCl[ci]? = some (Cn, T, N) → parseFieldDescriptor (T k).2.2.1 = some ty) (hv : gfv ci ln rh (gu M o k (-1) x) o k = v) (hn : narrow ty v = v) (hf : fits ty v = true) (hr : gRg ci k x) (ha : ∀ j, gft ci k = j + 3 → x ≠ 0 → 0 ≤ ln x j) (hd : decode cc pc = .ok (.putfield idx, 3)) (kk : gW p l e R s m args below meth c D cy A H0 Q nL kd ln rh cells slots (gu M o k (-1) x) (pc + 3) lv st) : gW p l e R s m args below meth c D cy A H0 Q nL kd ln rh cells slots M pc lv (v :: .ref (gad o) :: st) := by
  intro H locs ls hS hl
  obtain ⟨hx, hb, hml, hown, hts, ⟨hK, -⟩, -⟩ := C
  obtain ⟨h8, Cn, T, N, ty0, hcl, hN, hin, hkN, hlink, hty0, hnm, hfin⟩ := F
  obtain ⟨hat, hA1, hA2, hA3, hVS⟩ := hS
  subst ho
  obtain ⟨hpos, cell, q1, q2, q3, q4⟩ := hat.1 o h8
  have hap := va_apart (own := own) hts hin ty0 hty0 hnm hK hcl
  obtain ⟨hSl, hfc, kC, hkC, hkind⟩ := hK.1 _ _ hcl
  obtain ⟨cf, kf, fi, f, hi, hsl⟩ := hSl k hkN
  have hlay := hts _ (hin _ (u_in_lay hkN))
  unfold u_lay at hlay
  rw [if_neg (by rw [hfin]; decide)] at hlay
  have hst := (u_facts hfc hkC (u_lays hts hin hkN) hi).1
  have h6 := u_store hfc hkC hkind hlay hi (hty _ _ _ hcl) hn hf
  refine W.putK hx hb (f := f) ⟨hown, hts _ hlink, ⟨_, _, _, hi⟩, hst⟩ (by rw [q2]; exact h6) q1 q3 (by rw [hsl]; exact k2_hasslot (q4 k (by rw [hN]; exact hkN))) rfl rfl hd fun H' e1 e2 e3 => ?_
  rw [hsl] at e1 ⊢
  exact kk H' _ ls ⟨gAt_put hat h8 (by rw [hN]; exact hkN) q1 e1 e2 e3 (fun a b ha hb' => hap a b (by rw [← hN]; exact ha) (by rw [← hN]; exact hb')) hv hr ha, hA1, hA2, hA3, hVS.put e2 e3 (hA1 o h8)⟩ hl
theorem q_iald (C : gC p s m args c cc nL own D cy A H0) {ci k : Nat} {o i : Int} (ho : kd o = ci) (ht : gak ci k = 8) (hg : ∀ x, gRg ci k x → rng x) (hi : 0 ≤ i ∧ i < ln o k) (hd : decode cc pc = .ok (.iaload, 1)) (kk : rng (M o k i) → gW p l e R s m args below meth c D cy A H0 Q nL kd ln rh cells slots M (pc + 1) lv (.int (gI (M o k i)) :: st)) : gW p l e R s m args below meth c D cy A H0 Q nL kd ln rh cells slots M pc lv (.int (gI i) :: .ref (rh o k) :: st) := by
  intro H locs ls hS hl
  obtain ⟨hx, hb, hml, hown, hts, ⟨hK, -⟩, -⟩ := C
  subst ho
  obtain ⟨a1, -, a2⟩ := hS.1.2.1 o k (by omega)
  have hz : i < ((ln o k).toNat : Int) := by omega
  refine W.iald (v := .int (gI (M o k i))) hx hb a2 (by rw [ht]; exact (hK.2 0 _ rfl).1 _ _) (fun q => by cases q) (by rw [arrV_size]; exact gI_in hi.1 hz (by omega)) ?_ rfl rfl hd (kk (hg _ (hS.1.2.2.2.2.1 o k i)) H locs ls hS hl)
  rw [gI_cl hi.1 (by omega), arrV_read _ _ (by omega), ht]
  show some (Value.int (gI (M o k (i.toNat : Int)))) = _
  rw [Int.toNat_of_nonneg hi.1]
theorem q_bald (C : gC p s m args c cc nL own D cy A H0) {ci k : Nat} {o i : Int} (ho : kd o = ci) (ht : gak ci k = 9) (hg : ∀ x, gRg ci k x → rng x) (hi : 0 ≤ i ∧ i < ln o k) (hd : decode cc pc = .ok (.baload, 1)) (kk : rng (M o k i) → gW p l e R s m args below meth c D cy A H0 Q nL kd ln rh cells slots M (pc + 1) lv (.int (gI (M o k i)) :: st)) : gW p l e R s m args below meth c D cy A H0 Q nL kd ln rh cells slots M pc lv (.int (gI i) :: .ref (rh o k) :: st) := by
  intro H locs ls hS hl
  obtain ⟨hx, hb, hml, hown, hts, ⟨hK, -⟩, -⟩ := C
  subst ho
  obtain ⟨a1, -, a2⟩ := hS.1.2.1 o k (by omega)
  have hz : i < ((ln o k).toNat : Int) := by omega
  refine W.bald (v := .int (gI (M o k i))) hx hb a2 (by rw [ht]; exact (hK.2 1 _ rfl).1 _ _) (fun q => by cases q) (by rw [arrV_size]; exact gI_in hi.1 hz (by omega)) ?_ rfl rfl hd (kk (hg _ (hS.1.2.2.2.2.1 o k i)) H locs ls hS hl)
  rw [gI_cl hi.1 (by omega), arrV_read _ _ (by omega), ht]
  show some (Value.int (gI (M o k (i.toNat : Int)))) = _
  rw [Int.toNat_of_nonneg hi.1]
theorem q_zald (C : gC p s m args c cc nL own D cy A H0) {ci k : Nat} {o i : Int} (ho : kd o = ci) (ht : gak ci k = 10) (hg : ∀ x, gRg ci k x → rng x) (hi : 0 ≤ i ∧ i < ln o k) (hd : decode cc pc = .ok (.baload, 1)) (kk : rng (M o k i) → gW p l e R s m args below meth c D cy A H0 Q nL kd ln rh cells slots M (pc + 1) lv (.int (gI (M o k i)) :: st)) : gW p l e R s m args below meth c D cy A H0 Q nL kd ln rh cells slots M pc lv (.int (gI i) :: .ref (rh o k) :: st) := by
  intro H locs ls hS hl
  obtain ⟨hx, hb, hml, hown, hts, ⟨hK, -⟩, -⟩ := C
  subst ho
  obtain ⟨a1, -, a2⟩ := hS.1.2.1 o k (by omega)
  have hz : i < ((ln o k).toNat : Int) := by omega
  refine W.zald (v := .int (gI (M o k i))) hx hb a2 (by rw [ht]; exact (hK.2 2 _ rfl).1 _ _) (fun q => by cases q) (by rw [arrV_size]; exact gI_in hi.1 hz (by omega)) ?_ rfl rfl hd (kk (hg _ (hS.1.2.2.2.2.1 o k i)) H locs ls hS hl)
  rw [gI_cl hi.1 (by omega), arrV_read _ _ (by omega), ht]
  show some (Value.int (gI (M o k (i.toNat : Int)))) = _
  rw [Int.toNat_of_nonneg hi.1]
theorem q_lald (C : gC p s m args c cc nL own D cy A H0) {ci k : Nat} {o i : Int} (ho : kd o = ci) (ht : gak ci k = 11) (hg : ∀ x, gRg ci k x → 0 ≤ x ∧ x < 18446744073709551616) (hi : 0 ≤ i ∧ i < ln o k) (hd : decode cc pc = .ok (.laload, 1)) (kk : 0 ≤ M o k i ∧ M o k i < 18446744073709551616 → gW p l e R s m args below meth c D cy A H0 Q nL kd ln rh cells slots M (pc + 1) lv (.long (gL (BitVec.ofInt 64 (M o k i))) :: st)) : gW p l e R s m args below meth c D cy A H0 Q nL kd ln rh cells slots M pc lv (.int (gI i) :: .ref (rh o k) :: st) := by
  intro H locs ls hS hl
  obtain ⟨hx, hb, hml, hown, hts, ⟨hK, -⟩, -⟩ := C
  subst ho
  obtain ⟨a1, -, a2⟩ := hS.1.2.1 o k (by omega)
  have hz : i < ((ln o k).toNat : Int) := by omega
  refine W.lald (v := .long (gL (BitVec.ofInt 64 (M o k i)))) hx hb a2 (by rw [ht]; exact (hK.2 3 _ rfl).1 _ _) (fun q => by cases q) (by rw [arrV_size]; exact gI_in hi.1 hz (by omega)) ?_ rfl rfl hd (kk (hg _ (hS.1.2.2.2.2.1 o k i)) H locs ls hS hl)
  rw [gI_cl hi.1 (by omega), arrV_read _ _ (by omega), ht]
  show some (Value.long (gL (BitVec.ofInt 64 (M o k (i.toNat : Int))))) = _
  rw [Int.toNat_of_nonneg hi.1]
theorem q_iast (C : gC p s m args c cc nL own D cy A H0) {ci k : Nat} {o i x : Int} (ho : kd o = ci) (ht : gak ci k = 8) (hr : gRg ci k x) (hi : 0 ≤ i ∧ i < ln o k) (hd : decode cc pc = .ok (.iastore, 1)) (kk : gW p l e R s m args below meth c D cy A H0 Q nL kd ln rh cells slots (gu M o k i x) (pc + 1) lv st) : gW p l e R s m args below meth c D cy A H0 Q nL kd ln rh cells slots M pc lv (.int (gI x) :: .int (gI i) :: .ref (rh o k) :: st) := by
  intro H locs ls hS hl
  obtain ⟨hx, hb, hml, hown, hts, ⟨hK, -⟩, -⟩ := C
  obtain ⟨hat, hA1, hA2, hA3, hVS⟩ := hS
  subst ho
  obtain ⟨a1, -, a2⟩ := hat.2.1 o k (by omega)
  have hz : i < ((ln o k).toNat : Int) := by omega
  refine W.iast hx hb a2 (by rw [ht]; exact (hK.2 0 _ rfl).1 _ _) (fun q => by cases q) (by rw [arrV_size]; exact gI_in hi.1 hz (by omega)) rfl rfl hd fun H' e1 e2 e3 => ?_
  rw [gI_cl hi.1 (by omega)] at e1
  exact kk H' _ ls ⟨gAt_ast hat hi.1 hi.2 e1 e2 e3 (by rw [ht]; rfl) hr, hA1, hA2, hA3, hVS.put e2 e3 (hA2 o k (by omega))⟩ hl
theorem gI_byte {x : Int} (h : -128 ≤ x ∧ x < 128) : narrow .byte (.int (gI x)) = .int (gI x) := by
  have h1 : (gI x).toInt8.toInt32 = gI x := by
    rw [← Int32.toInt_inj, Int8.toInt_toInt32, Int32.toInt_toInt8, gI_toInt ⟨by omega, by omega⟩]
    exact Int.bmod_eq_of_le (by omega) (by omega)
  show Value.int (vp_nar .byte (gI x)) = _
  rw [vp_nar_byte, h1]
theorem q_bast (C : gC p s m args c cc nL own D cy A H0) {ci k : Nat} {o i x : Int} (ho : kd o = ci) (ht : gak ci k = 9) (hr : gRg ci k x) (hx8 : -128 ≤ x ∧ x < 128) (hi : 0 ≤ i ∧ i < ln o k) (hd : decode cc pc = .ok (.bastore, 1)) (kk : gW p l e R s m args below meth c D cy A H0 Q nL kd ln rh cells slots (gu M o k i x) (pc + 1) lv st) : gW p l e R s m args below meth c D cy A H0 Q nL kd ln rh cells slots M pc lv (.int (gI x) :: .int (gI i) :: .ref (rh o k) :: st) := by
  intro H locs ls hS hl
  obtain ⟨hx, hb, hml, hown, hts, ⟨hK, -⟩, -⟩ := C
  obtain ⟨hat, hA1, hA2, hA3, hVS⟩ := hS
  subst ho
  obtain ⟨a1, -, a2⟩ := hat.2.1 o k (by omega)
  have hz : i < ((ln o k).toNat : Int) := by omega
  refine W.bast hx hb a2 (by rw [ht]; exact (hK.2 1 _ rfl).1 _ _) (fun q => by cases q) (by rw [arrV_size]; exact gI_in hi.1 hz (by omega)) rfl rfl hd fun H' e1 e2 e3 => ?_
  rw [gI_cl hi.1 (by omega)] at e1
  exact kk H' _ ls ⟨gAt_ast hat hi.1 hi.2 e1 e2 e3 (by rw [ht]; exact (gI_byte hx8).symm) hr, hA1, hA2, hA3, hVS.put e2 e3 (hA2 o k (by omega))⟩ hl
theorem gI_bool {x : Int} (h : x = 0 ∨ x = 1) : narrow .boolean (.int (gI x)) = .int (gI x) := by rcases h with rfl | rfl <;> rfl
theorem q_zast (C : gC p s m args c cc nL own D cy A H0) {ci k : Nat} {o i x : Int} (ho : kd o = ci) (ht : gak ci k = 10) (hr : gRg ci k x) (hx1 : x = 0 ∨ x = 1) (hi : 0 ≤ i ∧ i < ln o k) (hd : decode cc pc = .ok (.bastore, 1)) (kk : gW p l e R s m args below meth c D cy A H0 Q nL kd ln rh cells slots (gu M o k i x) (pc + 1) lv st) : gW p l e R s m args below meth c D cy A H0 Q nL kd ln rh cells slots M pc lv (.int (gI x) :: .int (gI i) :: .ref (rh o k) :: st) := by
  intro H locs ls hS hl
  obtain ⟨hx, hb, hml, hown, hts, ⟨hK, -⟩, -⟩ := C
  obtain ⟨hat, hA1, hA2, hA3, hVS⟩ := hS
  subst ho
  obtain ⟨a1, -, a2⟩ := hat.2.1 o k (by omega)
  have hz : i < ((ln o k).toNat : Int) := by omega
  refine W.zast hx hb a2 (by rw [ht]; exact (hK.2 2 _ rfl).1 _ _) (fun q => by cases q) (by rw [arrV_size]; exact gI_in hi.1 hz (by omega)) rfl rfl hd fun H' e1 e2 e3 => ?_
  rw [gI_cl hi.1 (by omega)] at e1
  exact kk H' _ ls ⟨gAt_ast hat hi.1 hi.2 e1 e2 e3 (by rw [ht]; exact (gI_bool hx1).symm) hr, hA1, hA2, hA3, hVS.put e2 e3 (hA2 o k (by omega))⟩ hl
theorem q_last (C : gC p s m args c cc nL own D cy A H0) {ci k : Nat} {o i : Int} {x : BitVec 64} (ho : kd o = ci) (ht : gak ci k = 11) (hr : gRg ci k x.toNat) (hi : 0 ≤ i ∧ i < ln o k) (hd : decode cc pc = .ok (.lastore, 1)) (kk : gW p l e R s m args below meth c D cy A H0 Q nL kd ln rh cells slots (gu M o k i x.toNat) (pc + 1) lv st) : gW p l e R s m args below meth c D cy A H0 Q nL kd ln rh cells slots M pc lv (.long (gL x) :: .int (gI i) :: .ref (rh o k) :: st) := by
  intro H locs ls hS hl
  obtain ⟨hx, hb, hml, hown, hts, ⟨hK, -⟩, -⟩ := C
  obtain ⟨hat, hA1, hA2, hA3, hVS⟩ := hS
  subst ho
  obtain ⟨a1, -, a2⟩ := hat.2.1 o k (by omega)
  have hz : i < ((ln o k).toNat : Int) := by omega
  refine W.last hx hb a2 (by rw [ht]; exact (hK.2 3 _ rfl).1 _ _) (fun q => by cases q) (by rw [arrV_size]; exact gI_in hi.1 hz (by omega)) rfl rfl hd fun H' e1 e2 e3 => ?_
  rw [gI_cl hi.1 (by omega)] at e1
  exact kk H' _ ls ⟨gAt_ast hat hi.1 hi.2 e1 e2 e3 (by rw [ht]; show Value.long (gL (BitVec.ofInt 64 (x.toNat : Int))) = _; rw [BitVec.ofInt_natCast, BitVec.ofNat_toNat, BitVec.setWidth_eq]) hr, hA1, hA2, hA3, hVS.put e2 e3 (hA2 o k (by omega))⟩ hl
theorem q_alen (C : gC p s m args c cc nL own D cy A H0) {ci k t0 : Nat} {ty : FieldType} {o : Int} (ho : kd o = ci) (ht : (gtys cy)[t0]? = some (cy (gak ci k), ty)) (hi : 0 ≤ ln o k) (hd : decode cc pc = .ok (.arraylength, 1)) (kk : ln o k < 2147483648 → gW p l e R s m args below meth c D cy A H0 Q nL kd ln rh cells slots M (pc + 1) lv (.int (gI (ln o k)) :: st)) : gW p l e R s m args below meth c D cy A H0 Q nL kd ln rh cells slots M pc lv (.ref (rh o k) :: st) := by
  intro H locs ls hS hl
  obtain ⟨hx, hb, hml, hown, hts, ⟨hK, -⟩, -⟩ := C
  subst ho
  obtain ⟨a1, -, a2⟩ := hS.1.2.1 o k hi
  refine W.alen hx hb a2 ((hK.2 t0 _ ht).1 _ _) ?_ rfl rfl hd (kk a1 H locs ls hS hl)
  rw [arrV_size]
  show Int32.ofNat _ = Int32.ofInt _
  rw [← Int32.ofInt_eq_ofNat, Int.toNat_of_nonneg hi]
end GH
