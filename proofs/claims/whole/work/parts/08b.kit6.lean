section GO
variable {p : Program} {l : Launch} {e : Env} {R : Room} {s : State} {m : MethodId} {args : Array Value} {below : List Frame} {meth : Method} {c : Code} {cells slots : Nat} {Q : State → Prop} {cc : ByteArray} {nL : Nat} {own : String} {D : va_G} {cy : Nat → ClassId} {A : Nat → Prop} {H0 : Heap} {kd : gKd} {ln : gLn} {rh : gRh} {M : gM} {pc : Nat} {lv : List (Nat × Value)} {st : List Value}
theorem q_lvE {lv' : List (Nat × Value)} (h : lv = lv') (k : gW p l e R s m args below meth c D cy A H0 Q nL kd ln rh cells slots M pc lv' st) : gW p l e R s m args below meth c D cy A H0 Q nL kd ln rh cells slots M pc lv st := h ▸ k
theorem q_nn {x : Int} {ci : Nat} (hx : kd x = ci) (h8 : ci < 8) (k : gW p l e R s m args below meth c D cy A H0 Q nL kd ln rh cells slots M pc lv (.ref (gad x) :: st)) : gW p l e R s m args below meth c D cy A H0 Q nL kd ln rh cells slots M pc lv (gR x :: st) := by
  intro H locs ls hS hl
  have h := (hS.1.1 x (by rw [hx]; exact h8)).1
  rw [show gR x = Value.ref (gad x) from if_neg (by omega)]
  exact k H locs ls hS hl
theorem q_aald (C : gC p s m args c cc nL own D cy A H0) {ci k t0 t : Nat} {Cn : String} {o i : Int} (ho : kd o = ci) (ht : gak ci k = t) (hgt : ∀ x j, gav rh o t x j = gR x) (hty : (gtys cy)[t0]? = some (cy t, .object Cn)) (hi : 0 ≤ i ∧ i < ln o k) (hd : decode cc pc = .ok (.aaload, 1)) (kk : gW p l e R s m args below meth c D cy A H0 Q nL kd ln rh cells slots M (pc + 1) lv (gR (M o k i) :: st)) : gW p l e R s m args below meth c D cy A H0 Q nL kd ln rh cells slots M pc lv (.int (gI i) :: .ref (rh o k) :: st) := by
  intro H locs ls hS hl
  obtain ⟨hx, hb, hml, hown, hts, ⟨hK, -⟩, -⟩ := C
  subst ho
  obtain ⟨a1, -, a2⟩ := hS.1.2.1 o k (by omega)
  have hz : i < ((ln o k).toNat : Int) := by omega
  refine W.aald (v := gR (M o k i)) (ty := .object Cn) hx hb a2 (by rw [ht]; exact (hK.2 t0 _ hty).1 _ _) rfl (fun q => by cases q) (by rw [arrV_size]; exact gI_in hi.1 hz (by omega)) ?_ rfl rfl hd (kk H locs ls hS hl)
  rw [gI_cl hi.1 (by omega), arrV_read _ _ (by omega), ht]
  show some (gav rh o t (M o k (i.toNat : Int)) i.toNat) = _
  rw [Int.toNat_of_nonneg hi.1, hgt]
theorem q_aaldR (C : gC p s m args c cc nL own D cy A H0) {ci k : Nat} {o i : Int} (ho : kd o = ci) (ht : gak ci k = 14) (hi : 0 ≤ i ∧ i < ln o k) (hd : decode cc pc = .ok (.aaload, 1)) (kk : gW p l e R s m args below meth c D cy A H0 Q nL kd ln rh cells slots M (pc + 1) lv (.ref (rh o (100 + i.toNat)) :: st)) : gW p l e R s m args below meth c D cy A H0 Q nL kd ln rh cells slots M pc lv (.int (gI i) :: .ref (rh o k) :: st) := by
  intro H locs ls hS hl
  obtain ⟨hx, hb, hml, hown, hts, ⟨hK, -⟩, -⟩ := C
  subst ho
  obtain ⟨a1, -, a2⟩ := hS.1.2.1 o k (by omega)
  have hz : i < ((ln o k).toNat : Int) := by omega
  refine W.aald (v := .ref (rh o (100 + i.toNat))) (ty := .array .long) hx hb a2 (by rw [ht]; exact (hK.2 6 _ rfl).1 _ _) rfl (fun q => by cases q) (by rw [arrV_size]; exact gI_in hi.1 hz (by omega)) ?_ rfl rfl hd (kk H locs ls hS hl)
  rw [gI_cl hi.1 (by omega), arrV_read _ _ (by omega), ht]
  rfl
theorem q_ifnull (C : gC p s m args c cc nL own D cy A H0) {x off : Int} {tgt : Nat} (ht : (pc : Int) + off = (tgt : Int)) (hd : decode cc pc = .ok (.ifnull off, 3)) (kt : x = 0 → gW p l e R s m args below meth c D cy A H0 Q nL kd ln rh cells slots M tgt lv st) (kf : x ≠ 0 → gW p l e R s m args below meth c D cy A H0 Q nL kd ln rh cells slots M (pc + 3) lv st) : gW p l e R s m args below meth c D cy A H0 Q nL kd ln rh cells slots M pc lv (gR x :: st) := by
  intro H locs ls hS hl
  by_cases h : x = 0
  · rw [show gR x = Value.null from if_pos h]
    exact lv_ifnullN C.1 C.2.1 hd ht (kt h H locs ls hS hl)
  · rw [show gR x = Value.ref (gad x) from if_neg h]
    exact lv_ifnull C.1 C.2.1 hd (kf h H locs ls hS hl)
theorem q_ifnonnull (C : gC p s m args c cc nL own D cy A H0) {x off : Int} {tgt : Nat} (ht : (pc : Int) + off = (tgt : Int)) (hd : decode cc pc = .ok (.ifnonnull off, 3)) (kt : x ≠ 0 → gW p l e R s m args below meth c D cy A H0 Q nL kd ln rh cells slots M tgt lv st) (kf : x = 0 → gW p l e R s m args below meth c D cy A H0 Q nL kd ln rh cells slots M (pc + 3) lv st) : gW p l e R s m args below meth c D cy A H0 Q nL kd ln rh cells slots M pc lv (gR x :: st) := by
  intro H locs ls hS hl
  by_cases h : x = 0
  · rw [show gR x = Value.null from if_pos h]
    exact lv_ifnonnullN C.1 C.2.1 hd (kf h H locs ls hS hl)
  · rw [show gR x = Value.ref (gad x) from if_neg h]
    exact lv_ifnonnull C.1 C.2.1 hd ht (kt h H locs ls hS hl)
theorem q_null (C : gC p s m args c cc nL own D cy A H0) (hd : decode cc pc = .ok (.aconst_null, 1)) (k : gW p l e R s m args below meth c D cy A H0 Q nL kd ln rh cells slots M (pc + 1) lv (gR 0 :: st)) : gW p l e R s m args below meth c D cy A H0 Q nL kd ln rh cells slots M pc lv st := fun H locs ls hS hl => lv_null C.1 C.2.1 hd (k H locs ls hS hl)
theorem q_aloadR_n (C : gC p s m args c cc nL own D cy A H0) {f : Fin 4} {i : Nat} {x : Int} (j : Nat) (hi : (f : Nat) = i) (hj : lv[j]? = some (i, gR x)) (hd : decode cc pc = .ok (.aload_n f, 1)) (k : gW p l e R s m args below meth c D cy A H0 Q nL kd ln rh cells slots M (pc + 1) lv (gR x :: st)) : gW p l e R s m args below meth c D cy A H0 Q nL kd ln rh cells slots M pc lv st := by
  intro H locs ls hS hl
  have hk := k H locs ls hS hl
  by_cases h : x = 0
  · rw [show gR x = Value.null from if_pos h] at hj hk
    exact lv_aload_nN C.1 C.2.1 hd hi (lv_at hl j hj) hk
  · rw [show gR x = Value.ref (gad x) from if_neg h] at hj hk
    exact lv_aload_n C.1 C.2.1 hd hi (lv_at hl j hj) hk
theorem q_aloadR (C : gC p s m args c cc nL own D cy A H0) {i : Nat} {x : Int} (j : Nat)  (hj : lv[j]? = some (i, gR x)) (hd : decode cc pc = .ok (.aload i, 2)) (k : gW p l e R s m args below meth c D cy A H0 Q nL kd ln rh cells slots M (pc + 2) lv (gR x :: st)) : gW p l e R s m args below meth c D cy A H0 Q nL kd ln rh cells slots M pc lv st := by
  intro H locs ls hS hl
  have hk := k H locs ls hS hl
  by_cases h : x = 0
  · rw [show gR x = Value.null from if_pos h] at hj hk
    exact lv_aloadN C.1 C.2.1 hd (lv_at hl j hj) hk
  · rw [show gR x = Value.ref (gad x) from if_neg h] at hj hk
    exact lv_aload C.1 C.2.1 hd (lv_at hl j hj) hk
theorem q_astoreR_n (C : gC p s m args c cc nL own D cy A H0) {f : Fin 4} {i : Nat} {x : Int} {lv' : List (Nat × Value)} (hi : (f : Nat) = i) (hn : i < nL) (hl' : (i, gR x) :: lv.filter (fun q => !(q.1 == i) && !(q.1 + 1 == i && q.2.category == 2)) = lv') (hd : decode cc pc = .ok (.astore_n f, 1)) (k : gW p l e R s m args below meth c D cy A H0 Q nL kd ln rh cells slots M (pc + 1) lv' st) : gW p l e R s m args below meth c D cy A H0 Q nL kd ln rh cells slots M pc lv (gR x :: st) := by
  intro H locs ls hS hl
  by_cases h : x = 0
  · have e : gR x = Value.null := if_pos h
    rw [e] at hl' ⊢
    exact lv_astore_nN C.1 C.2.1 hd hi hl hn hl' (fun ls hl => k H locs ls hS hl)
  · have e : gR x = Value.ref (gad x) := if_neg h
    rw [e] at hl' ⊢
    exact lv_astore_n C.1 C.2.1 hd hi hl hn hl' (fun ls hl => k H locs ls hS hl)
theorem q_astoreR (C : gC p s m args c cc nL own D cy A H0) {i : Nat} {x : Int} {lv' : List (Nat × Value)}  (hn : i < nL) (hl' : (i, gR x) :: lv.filter (fun q => !(q.1 == i) && !(q.1 + 1 == i && q.2.category == 2)) = lv') (hd : decode cc pc = .ok (.astore i, 2)) (k : gW p l e R s m args below meth c D cy A H0 Q nL kd ln rh cells slots M (pc + 2) lv' st) : gW p l e R s m args below meth c D cy A H0 Q nL kd ln rh cells slots M pc lv (gR x :: st) := by
  intro H locs ls hS hl
  by_cases h : x = 0
  · have e : gR x = Value.null := if_pos h
    rw [e] at hl' ⊢
    exact lv_astoreN C.1 C.2.1 hd hl hn hl' (fun ls hl => k H locs ls hS hl)
  · have e : gR x = Value.ref (gad x) := if_neg h
    rw [e] at hl' ⊢
    exact lv_astore C.1 C.2.1 hd hl hn hl' (fun ls hl => k H locs ls hS hl)
theorem q_tswOut (C : gC p s m args c cc nL own D cy A H0) {a dflt lo hi : Int} {offs : Array Int} {len tgt : Nat} (ha : rng a) (h : a < lo ∨ hi < a) (ht : (pc : Int) + dflt = (tgt : Int)) (hd : decode cc pc = .ok (.tableswitch dflt lo hi offs, len)) (k : gW p l e R s m args below meth c D cy A H0 Q nL kd ln rh cells slots M tgt lv st) : gW p l e R s m args below meth c D cy A H0 Q nL kd ln rh cells slots M pc lv (.int (gI a) :: st) := fun H locs ls hS hl => lv_tableOut C.1 C.2.1 hd (by rw [gI_toInt ha]; exact h) ht (k H locs ls hS hl)
theorem q_tswIn (C : gC p s m args c cc nL own D cy A H0) {a dflt lo hi off : Int} {offs : Array Int} {len tgt : Nat} (ha : rng a) (h1 : ¬ a < lo) (h2 : ¬ hi < a) (ho : offs[(a - lo).toNat]? = some off) (ht : (pc : Int) + off = (tgt : Int)) (hd : decode cc pc = .ok (.tableswitch dflt lo hi offs, len)) (k : gW p l e R s m args below meth c D cy A H0 Q nL kd ln rh cells slots M tgt lv st) : gW p l e R s m args below meth c D cy A H0 Q nL kd ln rh cells slots M pc lv (.int (gI a) :: st) := fun H locs ls hS hl => lv_tableIn C.1 C.2.1 hd (by rw [gI_toInt ha]; exact h1) (by rw [gI_toInt ha]; exact h2) (by rw [gI_toInt ha]; exact ho) ht (k H locs ls hS hl)
def gll (t : Nat) : Int := match t with
  | 0 => 3
  | _ => 2
theorem gZ_T {cy : Nat → ClassId} {A : Nat → Prop} {U : State} {H : Heap} (h : gZ cy A U H) {t : Nat} (ht : t < 2) : va_T .char (cy (20 + t)) (gll t).toNat (fun j => .int (gI (gle t j))) A U H := by
  rcases (show t = 0 ∨ t = 1 by omega) with rfl | rfl
  · exact h.2.1
  · exact h.2.2.2.1
theorem q_gets (C : gC p s m args c cc nL own D cy A H0) {t idx : Nat} {nm : String} (hn : (t = 0 ∧ nm = "MAN_LETTERS") ∨ (t = 1 ∧ nm = "TURN_LETTERS")) (hw : Cond.fieldLink own idx RX6 nm "[C" ∈ gT) (hd : decode cc pc = .ok (.getstatic idx, 3)) (k : gW p l e R s m args below meth c D cy A H0 Q nL kd ln rh cells slots M (pc + 3) lv (.ref (cy (20 + t)) :: st)) : gW p l e R s m args below meth c D cy A H0 Q nL kd ln rh cells slots M pc lv st := by
  intro H locs ls hS hl
  obtain ⟨hx, hb, hml, hown, hts, hK, h0, hZ⟩ := C
  subst h0
  rcases hn with ⟨rfl, rfl⟩ | ⟨rfl, rfl⟩
  · exact va_gets hx hb hZ.1 hS.2.2.2.2 hown (hts _ hw) (fun _ h => h) hd (k H locs ls hS hl)
  · exact va_gets hx hb hZ.2.2.1 hS.2.2.2.2 hown (hts _ hw) (fun _ h => h) hd (k H locs ls hS hl)
theorem q_cald (C : gC p s m args c cc nL own D cy A H0) {t : Nat} {i : Int} (ht : t < 2) (hi : 0 ≤ i ∧ i < gll t) (hd : decode cc pc = .ok (.caload, 1)) (k : rng (gle t i.toNat) → gW p l e R s m args below meth c D cy A H0 Q nL kd ln rh cells slots M (pc + 1) lv (.int (gI (gle t i.toNat)) :: st)) : gW p l e R s m args below meth c D cy A H0 Q nL kd ln rh cells slots M pc lv (.int (gI i) :: .ref (cy (20 + t)) :: st) := by
  intro H locs ls hS hl
  obtain ⟨hx, hb, hml, hown, hts, hK, h0, hZ⟩ := C
  subst h0
  have h3 : gll t ≤ 3 := by rcases (show t = 0 ∨ t = 1 by omega) with rfl | rfl <;> decide
  refine va_tc hx hb (gZ_T hZ ht) hS.2.2.2.2 (gI_in hi.1 (by omega) (by omega)) (by rw [gI_cl hi.1 (by omega)]) hd (k ?_ H locs ls hS hl)
  unfold gle; split <;> decide
theorem q_clen (C : gC p s m args c cc nL own D cy A H0) {t : Nat} (ht : t < 2) (hd : decode cc pc = .ok (.arraylength, 1)) (k : gW p l e R s m args below meth c D cy A H0 Q nL kd ln rh cells slots M (pc + 1) lv (.int (gI (gll t)) :: st)) : gW p l e R s m args below meth c D cy A H0 Q nL kd ln rh cells slots M pc lv (.ref (cy (20 + t)) :: st) := by
  intro H locs ls hS hl
  obtain ⟨hx, hb, hml, hown, hts, hK, h0, hZ⟩ := C
  subst h0
  refine va_tlen hx hb (gZ_T hZ ht) hS.2.2.2.2 ?_ hd (k H locs ls hS hl)
  rcases (show t = 0 ∨ t = 1 by omega) with rfl | rfl <;> rfl
theorem q_putO (C : gC p s m args c cc nL own D cy A H0) {idx ci k : Nat} {o x : Int} {Cn : String} (F : gFd own idx ci k false) (ho : kd o = ci) (hty : ∀ (C9 : String) (T : u_T) (N : Nat), vwCl[ci]? = some (C9, T, N) → parseFieldDescriptor (T k).2.2.1 = some (.object Cn)) (hf1 : gft ci k = 1) (h0 : 0 < x) (hr : gRg ci k x) (hd : decode cc pc = .ok (.putfield idx, 3)) (kk : gW p l e R s m args below meth c D cy A H0 Q nL kd ln rh cells slots (gu M o k (-1) x) (pc + 3) lv st) : gW p l e R s m args below meth c D cy A H0 Q nL kd ln rh cells slots M pc lv (.ref (gad x) :: .ref (gad o) :: st) := by
  refine q_put (ty := .object Cn) C F ho hty ?_ rfl rfl hr (fun j q => by rw [hf1] at q; omega) hd kk
  unfold gfv
  rw [hf1]
  show gR (gu M o k (-1) x o k (-1)) = _
  rw [gu_s]
  exact if_neg (by omega)
theorem q_mmax (C : gC p s m args c cc nL own D cy A H0) {a b : Int} {idx : Nat} (ha : rng a) (hb : rng b) (hw : Cond.methodLink own idx Lib.Math.max.name ∈ gT ∧ Cond.static Lib.Math.max.name ∈ gT ∧ Cond.initialized "java/lang/Math" ∈ gT ∧ Cond.code Lib.Math.max.name Lib.Math.max.code 2 (some .int) ∈ gT) (hfr : 1 ≤ R.frames) (hlo : (st.map fun v => v.category).sum + 13 ≤ R.locals) (hcs : cells ≤ R.cells ∧ slots ≤ R.slots) (hd : decode cc pc = .ok (.invokestatic idx, 3)) (k : gW p l e R s m args below meth c D cy A H0 Q nL kd ln rh cells slots M (pc + 3) lv (.int (gI (if a < b then b else a)) :: st)) : gW p l e R s m args below meth c D cy A H0 Q nL kd ln rh cells slots M pc lv (.int (gI b) :: .int (gI a) :: st) := by
  intro H locs ls hS hl
  obtain ⟨hx, hb', hml, hown, hts, hK, -⟩ := C
  refine va_mmax hx hb' (hml.trans hl.1.symm) hown (hts _ hw.1) (hts _ hw.2.1) (hts _ hw.2.2.1) (hts _ hw.2.2.2) hfr hlo hcs.1 hcs.2 hd ?_
  have hk := k H locs ls hS hl
  rw [show gI (if a < b then b else a) = if gI a < gI b then gI b else gI a by
    by_cases h : a < b
    · rw [if_pos h, if_pos ((gI_lt ha hb).mpr h)]
    · rw [if_neg h, if_neg (fun q => h ((gI_lt ha hb).mp q))]] at hk
  exact hk
theorem q_mmin (C : gC p s m args c cc nL own D cy A H0) {a b : Int} {idx : Nat} (ha : rng a) (hb : rng b) (hw : Cond.methodLink own idx Lib.Math.min.name ∈ gT ∧ Cond.static Lib.Math.min.name ∈ gT ∧ Cond.initialized "java/lang/Math" ∈ gT ∧ Cond.code Lib.Math.min.name Lib.Math.min.code 2 (some .int) ∈ gT) (hfr : 1 ≤ R.frames) (hlo : (st.map fun v => v.category).sum + 13 ≤ R.locals) (hcs : cells ≤ R.cells ∧ slots ≤ R.slots) (hd : decode cc pc = .ok (.invokestatic idx, 3)) (k : gW p l e R s m args below meth c D cy A H0 Q nL kd ln rh cells slots M (pc + 3) lv (.int (gI (if b < a then b else a)) :: st)) : gW p l e R s m args below meth c D cy A H0 Q nL kd ln rh cells slots M pc lv (.int (gI b) :: .int (gI a) :: st) := by
  intro H locs ls hS hl
  obtain ⟨hx, hb', hml, hown, hts, hK, -⟩ := C
  refine va_mmin hx hb' (hml.trans hl.1.symm) hown (hts _ hw.1) (hts _ hw.2.1) (hts _ hw.2.2.1) (hts _ hw.2.2.2) hfr hlo hcs.1 hcs.2 hd ?_
  have hk := k H locs ls hS hl
  rw [show gI (if b < a then b else a) = if gI b < gI a then gI b else gI a by
    by_cases h : b < a
    · rw [if_pos h, if_pos ((gI_lt hb ha).mpr h)]
    · rw [if_neg h, if_neg (fun q => h ((gI_lt hb ha).mp q))]] at hk
  exact hk
end GO
