/-! MEMORY. Numbers by owner, slot and place. An object's owner number is its address and one more; 0 is null. A field of an object is at place -1; an array that a field holds is at the places from 0 on. -/
abbrev gM : Type := Int → Nat → Int → Int
abbrev gKd : Type := Int → Nat
abbrev gLn : Type := Int → Nat → Int
abbrev gRh : Type := Int → Nat → Nat
def gI (x : Int) : Int32 := Int32.ofInt x
def gL (b : BitVec 64) : Int64 := Int64.ofBitVec b
def gad (o : Int) : Nat := (o - 1).toNat
def gR (x : Int) : Value := if x = 0 then .null else .ref (gad x)
abbrev rng (x : Int) : Prop := -2147483648 ≤ x ∧ x < 2147483648
/-- a field: 0 a number, 1 an object, 2 an array of its own, 3 + j the array of slot j of another object -/
def gft (c k : Nat) : Nat := match c, k with
  | 0, 0 => 0
  | 0, 1 => 0
  | 0, 2 => 2
  | 0, 3 => 2
  | 0, 4 => 2
  | 0, 5 => 2
  | 0, 6 => 2
  | 0, 7 => 2
  | 0, 8 => 2
  | 0, 9 => 1
  | 0, 10 => 1
  | 1, 1 => 2
  | 2, 1 => 2
  | 2, 2 => 2
  | 2, 4 => 7
  | 2, 5 => 2
  | 2, 6 => 2
  | 2, 7 => 2
  | 3, 0 => 1
  | 3, 1 => 1
  | 3, 2 => 1
  | 3, 3 => 4
  | 3, 5 => 2
  | 3, 7 => 2
  | 3, 8 => 2
  | 3, 9 => 2
  | 5, 1 => 2
  | 5, 2 => 1
  | 5, 3 => 2
  | 5, 4 => 2
  | 5, 5 => 2
  | 5, 6 => 2
  | 5, 8 => 1
  | 5, 9 => 2
  | 5, 10 => 2
  | 6, 0 => 2
  | 6, 1 => 1
  | 6, 2 => 2
  | 6, 3 => 1
  | 6, 4 => 1
  | 6, 5 => 1
  | 6, 6 => 1
  | 6, 7 => 2
  | 6, 9 => 2
  | 6, 11 => 2
  | 7, 3 => 2
  | 7, 4 => 2
  | 7, 5 => 2
  | 7, 6 => 2
  | 7, 7 => 2
  | 7, 8 => 2
  | 7, 10 => 2
  | 7, 13 => 2
  | 7, 14 => 2
  | 7, 15 => 2
  | 7, 16 => 2
  | 7, 17 => 2
  | 7, 18 => 2
  | 7, 19 => 2
  | 7, 22 => 2
  | 7, 23 => 2
  | 7, 24 => 2
  | 7, 25 => 2
  | 7, 27 => 2
  | 0, _ => 2
  | 200, _ => 2
  | _, _ => 0
/-- the kind of an array: 8 int, 9 byte, 10 boolean, 11 long, 12 and 13 objects, 14 rows of longs -/
def gak (c k : Nat) : Nat := match c, k with
  | 0, 2 => 8
  | 0, 3 => 8
  | 0, 4 => 8
  | 0, 5 => 13
  | 0, 6 => 11
  | 0, 7 => 14
  | 0, 8 => 11
  | 1, 1 => 8
  | 2, 1 => 8
  | 2, 2 => 8
  | 2, 5 => 8
  | 2, 6 => 8
  | 2, 7 => 8
  | 3, 5 => 8
  | 3, 7 => 8
  | 3, 8 => 8
  | 3, 9 => 8
  | 5, 1 => 9
  | 5, 3 => 8
  | 5, 4 => 8
  | 5, 5 => 8
  | 5, 6 => 8
  | 5, 9 => 8
  | 5, 10 => 8
  | 6, 0 => 12
  | 6, 2 => 10
  | 6, 7 => 8
  | 6, 9 => 8
  | 6, 11 => 8
  | 7, 3 => 10
  | 7, 4 => 9
  | 7, 5 => 8
  | 7, 6 => 8
  | 7, 7 => 8
  | 7, 8 => 9
  | 7, 10 => 9
  | 7, 13 => 8
  | 7, 14 => 8
  | 7, 15 => 8
  | 7, 16 => 8
  | 7, 17 => 8
  | 7, 18 => 8
  | 7, 19 => 8
  | 7, 22 => 8
  | 7, 23 => 8
  | 7, 24 => 8
  | 7, 25 => 8
  | 7, 27 => 8
  | 0, _ => 11
  | 200, _ => 11
  | _, _ => 0
def gnf (c : Nat) : Nat := match c with
  | 0 => 11
  | 1 => 2
  | 2 => 8
  | 3 => 11
  | 4 => 5
  | 5 => 11
  | 6 => 13
  | 7 => 28
  | _ => 0
def gfv (c : Nat) (ln : gLn) (rh : gRh) (M : gM) (o : Int) (k : Nat) : Value := match gft c k with
  | 0 => .int (gI (M o k (-1)))
  | 1 => gR (M o k (-1))
  | 2 => if ln o k < 0 then .null else .ref (rh o k)
  | j + 3 => if M o k (-1) = 0 then .null else .ref (rh (M o k (-1)) j)
def gav (rh : gRh) (o : Int) (t : Nat) (x : Int) (j : Nat) : Value := match t with
  | 11 => .long (gL (BitVec.ofInt 64 x))
  | 12 => gR x
  | 13 => gR x
  | 14 => .ref (rh o (100 + j))
  | _ => .int (gI x)
def gRg (c k : Nat) (x : Int) : Prop := match gft c k with
  | 0 => rng x
  | 2 => match gak c k with
    | 11 => 0 ≤ x ∧ x < 18446744073709551616
    | 12 => 0 ≤ x
    | 13 => 0 ≤ x
    | _ => rng x
  | _ => 0 ≤ x
def gtys (cy : Nat → ClassId) : List (ClassId × FieldType) := [(cy 8, .int), (cy 9, .byte), (cy 10, .boolean), (cy 11, .long), (cy 12, .object RX0), (cy 13, .object RX5), (cy 14, .array .long)]
def gu (M : gM) (o : Int) (k : Nat) (i x : Int) : gM := fun o' k' i' => if o' = o ∧ k' = k ∧ i' = i then x else M o' k' i'
def gAt (D : va_G) (cy : Nat → ClassId) (kd : gKd) (ln : gLn) (rh : gRh) (M : gM) (H : Heap) : Prop :=
  (∀ o : Int, kd o < 8 → 0 < o ∧ t_OB (gad o) (D.1 (kd o)) (gnf (kd o)) (D.2 (kd o)) H (fun k => gfv (kd o) ln rh M o k)) ∧
  (∀ (o : Int) (k : Nat), 0 ≤ ln o k → ln o k < 2147483648 ∧ o ≤ (H.size : Int) ∧ H[rh o k]? = some (arrV (cy (gak (kd o) k)) (ln o k).toNat (fun j => gav rh o (gak (kd o) k) (M o k j) j))) ∧
  (∀ (o o' : Int) (k k' : Nat), 0 ≤ ln o k → 0 ≤ ln o' k' → rh o k = rh o' k' → o = o' ∧ k = k') ∧
  (∀ (o o' : Int) (k' : Nat), kd o < 8 → 0 ≤ ln o' k' → gad o ≠ rh o' k') ∧
  (∀ (o : Int) (k : Nat) (i : Int), gRg (kd o) k (M o k i)) ∧
  (∀ (o : Int) (k j : Nat), kd o < 8 → gft (kd o) k = j + 3 → M o k (-1) ≠ 0 → 0 ≤ ln (M o k (-1)) j)
def gS (D : va_G) (cy : Nat → ClassId) (A : Nat → Prop) (H0 : Heap) (kd : gKd) (ln : gLn) (rh : gRh) (M : gM) (H : Heap) (locs : List Loc) : Prop :=
  gAt D cy kd ln rh M H ∧ (∀ o, kd o < 8 → A (gad o)) ∧ (∀ o k, 0 ≤ ln o k → A (rh o k)) ∧ (∀ q, H0.size ≤ q → A q) ∧ va_S A H0 H locs
/-- links to private methods of nest mates -/
def gNest : List (String × Nat × MethodName × String) := [(RX0, 62, yX6_bit, RX6), (RX0, 70, yX6_has, RX6), (RX3, 160, yX6_lowest, RX6), (RX3, 180, yX6_has, RX6), (RX6, 21, yX1_init, RX6), (RX6, 28, yX4_init, RX6)]
def gNS : String := "java/util/NoSuchElementException"
def gN1 : String := "java/lang/RuntimeException"
def gNm : List String := ["java/lang/Exception"]
abbrev gXa : List Cond := gx_at RX6 198 gNS 13 prog_17_method_4_code gN1 gNm
/-- words of an exception's making that a call does not carry by itself -/
def gOt : List Cond := [.castable gNS gNS, .declares ⟨"java/lang/RuntimeException", "<init>", "(Ljava/lang/String;)V"⟩, .declares ⟨"java/lang/Exception", "<init>", "(Ljava/lang/String;)V"⟩, .declares ⟨"java/lang/Throwable", "<init>", "(Ljava/lang/String;)V"⟩]
theorem gOt_warm {s U : State} (hW : s.WarmedH U.vm) {w : Cond} (hw : w ∈ gOt) (h : va_Nw w s) : va_Nw w U := by
  simp only [gOt, List.mem_cons, List.not_mem_nil, or_false] at hw
  rcases hw with rfl | rfl | rfl | rfl
  · exact va_Nw.warmC hW h
  · exact va_tabs rfl (rfl : (s.setVm U.vm).vm = U.vm) (by rw [Cond.declares_setVm hW.alike]; exact h)
  · exact va_tabs rfl (rfl : (s.setVm U.vm).vm = U.vm) (by rw [Cond.declares_setVm hW.alike]; exact h)
  · exact va_tabs rfl (rfl : (s.setVm U.vm).vm = U.vm) (by rw [Cond.declares_setVm hW.alike]; exact h)
theorem gOt_tab : ∀ w ∈ gOt, w.onTables = true := by decide +kernel
def gStr : List (Nat × String × Nat) := [(203, "no such position", 22), (196, "no such table", 23), (201, "no such turn", 24)]
def gAt3 : List FieldType := [.object RX0, .object RX5, .array .long]
def gAO (U : State) : Prop := ∀ t ∈ gAt3, (Cond.arrayOver t).before #[] U = true
theorem gAO.moved {u U : State} (hvm : u.vm.Alike U.vm) (h : gAO u) : gAO U := fun t ht => by
  have h1 := h t ht
  rw [← Cond.arrayOver_setVmC hvm t] at h1
  exact h1
theorem gAO.use {U : State} {A : Array Value} {t : FieldType} (h : gAO U) (ht : t ∈ gAt3) : (Cond.arrayOver t).before A U = true := h t ht
def gK (D : va_G) (cy : Nat → ClassId) (U : State) : Prop := va_K D vwCl (gtys cy) U ∧ (∀ q ∈ gNest, va_Nw (.methodLinkNest q.1 q.2.1 q.2.2.1 q.2.2.2) U) ∧ (∀ q ∈ gStr, vk_R RX6 q.1 q.2.1 (cy q.2.2) U) ∧ (∀ w ∈ gOt, va_Nw w U) ∧ gAO U
theorem gK.warm {D : va_G} {cy : Nat → ClassId} {s U : State} (hW : s.WarmedH U.vm) (h : gK D cy s) : gK D cy U := ⟨va_K.moved hW.alike h.1, fun q hq => va_Nw.warmM hW (h.2.1 q hq), fun q hq => vk_R.warm hW (h.2.2.1 q hq), fun w hw => gOt_warm hW hw (h.2.2.2.1 w hw), gAO.moved hW.alike h.2.2.2.2⟩
theorem gK.same {D : va_G} {cy : Nat → ClassId} {s U : State} (hW : s.vm = U.vm) (h : gK D cy s) : gK D cy U := ⟨va_K.moved (hW ▸ Vm.Alike.refl s.vm) h.1, fun q hq => va_Nw.same rfl hW (h.2.1 q hq), fun q hq => vk_R.same hW.symm (h.2.2.1 q hq), fun w hw => va_Nw.same (gOt_tab w hw) hW (h.2.2.2.1 w hw), gAO.moved (hW ▸ Vm.Alike.refl s.vm) h.2.2.2.2⟩
/-- the words of the tables that a call carries on -/
def gT : List Cond := lw_tbl.filter goodWord
theorem gT_in {w : Cond} (h : w ∈ lw_tbl) (g : goodWord w = true) : w ∈ gT := List.mem_filter.mpr ⟨h, g⟩
theorem gT_good : ∀ w ∈ gT, goodWord w = true := fun _ h => (List.mem_filter.mp h).2
/-- what lies outside: the letters, and two statics of Throwable -/
def gle (t j : Nat) : Int := match t, j with
  | 0, 0 => 81
  | 0, 1 => 82
  | 0, _ => 80
  | _, 0 => 119
  | _, _ => 98
def gZ (cy : Nat → ClassId) (A : Nat → Prop) (U : State) (H : Heap) : Prop := va_Z RX6 "MAN_LETTERS" "[C" (.ref (cy 20)) A U H ∧ va_T .char (cy 20) 3 (fun j => .int (gI (gle 0 j))) A U H ∧ va_Z RX6 "TURN_LETTERS" "[C" (.ref (cy 21)) A U H ∧ va_T .char (cy 21) 2 (fun j => .int (gI (gle 1 j))) A U H ∧ vx_Zq Bundle.tN "UNASSIGNED_STACK" Bundle.steD A U H ∧ vx_Zq Bundle.tN "SUPPRESSED_SENTINEL" Bundle.listD A U H
theorem gZ.go {cy : Nat → ClassId} {A B : Nat → Prop} {u U : State} {H H1 : Heap} (h : gZ cy A u H) (hvm : u.vm.Alike U.vm) (hq : ∀ a : Nat, a < H.size → ¬ A a → H1[a]? = H[a]?) (hAB : ∀ q, B q → A q) : gZ cy B U H1 := by
  obtain ⟨h1, h2, h3, h4, h5, h6⟩ := h
  exact ⟨((h1.moved hvm).kept hq).narrow hAB, ((h2.moved hvm).kept hq).narrow hAB, ((h3.moved hvm).kept hq).narrow hAB, ((h4.moved hvm).kept hq).narrow hAB, ((h5.moved hvm).kept hq).narrow hAB, ((h6.moved hvm).kept hq).narrow hAB⟩
def gC (p : Program) (s : State) (m : MethodId) (args : Array Value) (c : Code) (cc : ByteArray) (nL : Nat) (own : String) (D : va_G) (cy : Nat → ClassId) (A : Nat → Prop) (H0 : Heap) : Prop :=
  p.tables.exec = Jvm.exec ∧ c.code = cc ∧ c.maxLocals = nL ∧ s.vm.findClass own = some m.cls ∧ (∀ w ∈ gT, w.before args s = true) ∧ gK D cy s ∧ H0 = s.heap ∧ gZ cy A s H0
def gW (p : Program) (l : Launch) (e : Env) (R : Room) (s : State) (m : MethodId) (args : Array Value) (below : List Frame) (meth : Method) (c : Code) (D : va_G) (cy : Nat → ClassId) (A : Nat → Prop) (H0 : Heap) (Q : State → Prop) (nL : Nat)
    (kd : gKd) (ln : gLn) (rh : gRh) (cells slots : Nat) (M : gM) (pc : Nat) (lv : List (Nat × Value)) (st : List Value) : Prop :=
  ∀ (H : Heap) (locs : List Loc) (ls : Array Slot), gS D cy A H0 kd ln rh M H locs → lv_has ls nL lv → W p l e R s m args below meth c H locs cells slots Q (F0 m pc ls st)
theorem gu_s {M : gM} {o : Int} {k : Nat} {i x : Int} : gu M o k i x o k i = x := if_pos ⟨rfl, rfl, rfl⟩
theorem gu_n {M : gM} {o o' : Int} {k k' : Nat} {i i' x : Int} (h : ¬ (o' = o ∧ k' = k ∧ i' = i)) : gu M o k i x o' k' i' = M o' k' i' := if_neg h
theorem gI_add (a b : Int) : gI (a + b) = gI a + gI b := Int32.ofInt_add a b
theorem gI_sub (a b : Int) : gI (a - b) = gI a - gI b := Int32.ofInt_sub a b
theorem gI_mul (a b : Int) : gI (a * b) = gI a * gI b := Int32.ofInt_mul a b
theorem gI_neg (a : Int) : gI (-a) = - gI a := Int32.ofInt_neg a
theorem gI_toInt {a : Int} (h : rng a) : (gI a).toInt = a := Int32.toInt_ofInt_of_le h.1 h.2
theorem gI_of (x : Int32) : gI x.toInt = x := Int32.ofInt_toInt x
theorem rng_of (x : Int32) : rng x.toInt := ⟨Int32.le_toInt x, Int32.toInt_lt x⟩
theorem gI_lt {a b : Int} (ha : rng a) (hb : rng b) : gI a < gI b ↔ a < b := by rw [Int32.lt_iff_toInt_lt, gI_toInt ha, gI_toInt hb]
theorem gI_le {a b : Int} (ha : rng a) (hb : rng b) : gI a ≤ gI b ↔ a ≤ b := by rw [Int32.le_iff_toInt_le, gI_toInt ha, gI_toInt hb]
theorem gI_eq {a b : Int} (ha : rng a) (hb : rng b) : gI a = gI b ↔ a = b := by rw [← Int32.toInt_inj, gI_toInt ha, gI_toInt hb]
theorem gI_cl {a : Int} (h0 : 0 ≤ a) (h : a < 2147483648) : (gI a).toNatClampNeg = a.toNat := by
  have h1 : (gI a).toInt = a := gI_toInt ⟨by omega, h⟩
  rw [← Int32.toNat_toInt, h1]
theorem gI_in {a : Int} {n : Nat} (h0 : 0 ≤ a) (h : a < n) (hn : (n : Int) ≤ 2147483648) : ¬ (gI a < 0 ∨ n ≤ (gI a).toNatClampNeg) := by
  rw [gI_cl h0 (by omega)]
  have h1 : ¬ gI a < 0 := by
    rw [show (0 : Int32) = gI 0 from rfl, gI_lt ⟨by omega, by omega⟩ ⟨by decide, by decide⟩]
    omega
  intro q
  rcases q with q | q
  · exact h1 q
  · omega
theorem gad_inj {o o' : Int} (h : 0 < o) (h' : 0 < o') (e : gad o = gad o') : o = o' := by unfold gad at e; omega
