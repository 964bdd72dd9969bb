/-! THE CLAIM OUT OF ONE WALK OF THE LAW'S BODY. Your part is whole_start (and what it stands on); all else here is the same for every law, but numbers. -/
def R_law : String := "EndgameHouseLaw"
def lw_P (b : Addr) (xs : List Int32) (args : Array Value) (s : State) : Prop := args = #[.ref b] ∧ s.IntsAt b xs ∧ xs.length ≤ 3072 ∧ (Jvm.Cond.and given_1 narrow_1).before args s = true
def lw_Q (_ : Array Value) (s : State) (o : Outcome) (t : State) : Prop := o = .returned (some (.int 1)) ∧ Framed s o t [] 601024 7293033
def lw_Z (below : List Frame) (a : Array Value) (s : State) : State → Prop := fun t => ∃ o, t.status = .running ∧ Ended t below o ∧ lw_Q a s o t
/-- the law's own end, with 1 on the stack, nothing written that was there before, its room as the claim has it -/
theorem lw_ret {p : Program} {l : Launch} {e : Env} {s : State} {m : MethodId} {below : List Frame} {meth : Method} {c : Code} {b : Nat} (hx : p.tables.exec = Jvm.exec) (hb : c.code = code) (hr : meth.sig.returnType = ret) (hlocks : meth.locks = false) {pc : Nat} {H : Heap} {ls : Array Slot} (hdg : decode code pc = .ok (.ireturn, 1)) : W p l e room_1 s m #[Value.ref b] below meth c H [] 601024 7293033 (lw_Z below #[Value.ref b] s) (F0 m pc ls [.int 1]) := by
  intro T hT X
  obtain ⟨fs, hret, hrun, hended, hW, hframe⟩ := X.leave (v := some (.int 1)) (hlocks := hlocks) (fun h => by rw [hr] at h; cases h)
  have hmeth' : T.vm.method? m = some meth := X.method'
  refine ⟨T.setFrames fs, ?_, .returned (some (.int 1)), hrun, hended, rfl, ⟨_, rfl⟩, hW, hframe⟩
  jvm_step X.here [X.here.top, hx, hb, hdg, hmeth', hr, ret, narrow_b1]
  (try refine ⟨rfl, ?_⟩); (try refine ⟨rfl, ?_⟩)
  first | (intro acts; rw [hret _ acts rfl rfl rfl]) | rw [hret _ _ rfl rfl rfl]
  exact Steps.refl _
/-- what holds at the law's entry: the machine, the code, the tables' words (any of lw_tbl by 'hts w (by decide +kernel)'), the script of L ints xs at the cell b, what the Statement gives of the start (any of its parts by flat_of_before) -/
def lw_At (p : Program) (s : State) (m : MethodId) (meth : Method) (c : Code) (b L : Nat) (xs : Nat → Int32) : Prop :=
  p.tables.exec = Jvm.exec ∧ c.code = code ∧ meth.sig.returnType = ret ∧ c.maxLocals = 7 ∧ s.vm.findClass R_law = some m.cls ∧ (∀ w ∈ lw_tbl, w.before #[Value.ref b] s = true) ∧ va_X b L xs s s.heap ∧ b < s.heap.size ∧ meth.locks = false ∧ (Jvm.Cond.and given_1 narrow_1).before #[Value.ref b] s = true

def gkd0 : gKd := fun o => if o = -1 then 200 else 99
def gln0 : gLn := fun _ _ => -1
def gM0 : gM := fun _ _ _ => 0
/-- what is left: the law's predicate, for every script -/
def gGoal : Prop := ∀ (L : Nat) (xs : Nat → Int32), L ≤ 3072 → wL_law 601024 7293033 gkd0 gln0 (L : Int) (gsx xs) gM0
theorem gkd0_no (o : Int) : ¬ gkd0 o < 8 := by unfold gkd0; split <;> omega
theorem gS0 {D : va_G} {cy : Nat → ClassId} {H : Heap} : gS D cy (fun q => H.size ≤ q) H gkd0 gln0 (fun _ _ => 0) gM0 H [] := by
  refine ⟨⟨fun o h => absurd h (gkd0_no o), fun o k h => ?_, fun o o' k k' h => ?_, fun o o' k' h => absurd h (gkd0_no o), fun o k i => gRg_0 _ _, fun o k j h => absurd h (gkd0_no o)⟩, fun o h => absurd h (gkd0_no o), fun o k h => ?_, fun q h => h, va_S.rf⟩
  · unfold gln0 at h; omega
  · unfold gln0 at h; omega
  · unfold gln0 at h; omega
def gcD (c0 c1 c2 c3 c4 c5 c6 c7 : ClassId) : Nat → ClassId := fun k => match k with
  | 0 => c0
  | 1 => c1
  | 2 => c2
  | 3 => c3
  | 4 => c4
  | 5 => c5
  | 6 => c6
  | _ => c7
def gcI (c0 c1 c2 c3 c4 c5 c6 c7 : Nat → Nat) : Nat → Nat → Nat := fun k => match k with
  | 0 => c0
  | 1 => c1
  | 2 => c2
  | 3 => c3
  | 4 => c4
  | 5 => c5
  | 6 => c6
  | _ => c7
def gcY (a8 a9 a10 a11 a12 a13 a14 a20 a21 a22 a23 a24 : Nat) : Nat → ClassId := fun k => match k with
  | 8 => a8
  | 9 => a9
  | 10 => a10
  | 11 => a11
  | 12 => a12
  | 13 => a13
  | 14 => a14
  | 20 => a20
  | 21 => a21
  | 22 => a22
  | 23 => a23
  | 24 => a24
  | _ => 0
theorem gao0 : Cond.arrayOver (.object RX0) ∈ lw_tbl := by decide +kernel
theorem gao5 : Cond.arrayOver (.object RX5) ∈ lw_tbl := by decide +kernel
theorem gaoL : Cond.arrayOver (.array .long) ∈ lw_tbl := by decide +kernel
theorem g_classes {s : State} {args : Array Value} (hT : ∀ w ∈ gT, w.before args s = true) : ∃ D : va_G, ∀ (k : Nat) (q : vw_C), vwCl[k]? = some q → u_Kn s q.1 q.2.1 q.2.2 (D.1 k) (D.2 k) := by
  obtain ⟨c0, i0, k0⟩ := u_known (C := RX0) (T := TX0) (N := gnf 0) (n := 11) hT gX0 (hT (.instantiable RX0 11) (gT_in (by decide +kernel) rfl))
  obtain ⟨c1, i1, k1⟩ := u_known (C := RX1) (T := TX1) (N := gnf 1) (n := 2) hT gX1 (hT (.instantiable RX1 2) (gT_in (by decide +kernel) rfl))
  obtain ⟨c2, i2, k2⟩ := u_known (C := RX2) (T := TX2) (N := gnf 2) (n := 8) hT gX2 (hT (.instantiable RX2 8) (gT_in (by decide +kernel) rfl))
  obtain ⟨c3, i3, k3⟩ := u_known (C := RX3) (T := TX3) (N := gnf 3) (n := 11) hT gX3 (hT (.instantiable RX3 11) (gT_in (by decide +kernel) rfl))
  obtain ⟨c4, i4, k4⟩ := u_known (C := RX4) (T := TX4) (N := gnf 4) (n := 5) hT gX4 (hT (.instantiable RX4 5) (gT_in (by decide +kernel) rfl))
  obtain ⟨c5, i5, k5⟩ := u_known (C := RX5) (T := TX5) (N := gnf 5) (n := 11) hT gX5 (hT (.instantiable RX5 11) (gT_in (by decide +kernel) rfl))
  obtain ⟨c6, i6, k6⟩ := u_known (C := RX6) (T := TX6) (N := gnf 6) (n := 13) hT gX6 (hT (.instantiable RX6 13) (gT_in (by decide +kernel) rfl))
  obtain ⟨c7, i7, k7⟩ := u_known (C := RX7) (T := TX7) (N := gnf 7) (n := 28) hT gX7 (hT (.instantiable RX7 28) (gT_in (by decide +kernel) rfl))
  refine ⟨(gcD c0 c1 c2 c3 c4 c5 c6 c7, gcI i0 i1 i2 i3 i4 i5 i6 i7), ?_⟩
  intro k q hq
  match k, hq with
  | 0, hq => cases hq; exact k0
  | 1, hq => cases hq; exact k1
  | 2, hq => cases hq; exact k2
  | 3, hq => cases hq; exact k3
  | 4, hq => cases hq; exact k4
  | 5, hq => cases hq; exact k5
  | 6, hq => cases hq; exact k6
  | 7, hq => cases hq; exact k7
  | k + 8, hq => simp [vwCl] at hq
theorem g_arr {s : State} {args : Array Value} {ty : FieldType} (h : (Cond.arrayClass ty).before args s = true) : ∃ a : ClassId, ArrOfT s a ty ∧ s.vm.findClass ("[" ++ ty.toString) = some a := by
  obtain ⟨c, k, comp, h1, h2, h3⟩ := Cond.arrayClass_spec h
  exact ⟨c, fun n z => ⟨fun q hq => (by cases hq), k, h2, comp, h3⟩, h1⟩
theorem g_arrO {s : State} {args : Array Value} {n : String} (h : (Cond.arrayOver (.object n)).before args s = true) : ∃ a : ClassId, ArrOfT s a (.object n) ∧ va_RA s a (.object n) := by
  obtain ⟨comp, c, k, h1, -, h2, h3, h4⟩ := Cond.arrayOver_spec h
  exact ⟨c, fun n z => ⟨fun q hq => (by cases hq), k, h2, comp, h3⟩, k, comp, h2, h3, h1, h4⟩
theorem g_arrA {s : State} {args : Array Value} {t : FieldType} (h : (Cond.arrayOver (.array t)).before args s = true) : ∃ a : ClassId, ArrOfT s a (.array t) ∧ va_RA s a (.array t) := by
  obtain ⟨comp, c, k, h1, -, h2, h3, h4⟩ := arrayOverA_spec h
  exact ⟨c, fun n z => ⟨fun q hq => (by cases hq), k, h2, comp, h3⟩, h4⟩
theorem g_str {s : State} {args : Array Value} {k : Nat} {tx : String} (h1 : (Cond.stringRef RX6 k tx).before args s = true) (h2 : (Cond.exactly (.string "EndgameHouse" k) "java/lang/String").before args s = true) : ∃ a : Nat, vk_R RX6 k tx a s := by
  obtain ⟨a, c, cell, kk, e1, -⟩ := Cond.exactly_spec h2
  exact ⟨a, vk_R.of h1 e1⟩
set_option maxHeartbeats 4000000 in
theorem g_start {p : Program} {s : State} {m : MethodId} {meth : Method} {c : Code} {b L : Nat} {xs : Nat → Int32} (C0 : lw_At p s m meth c b L xs) : ∃ (D : va_G) (cy : Nat → ClassId), gC p s m #[Value.ref b] c cL_law 7 RL D cy (fun q => s.heap.size ≤ q) s.heap := by
  obtain ⟨hx, hb, hr, hml, hown, hts, hX, hbl, hlocks, hgv⟩ := C0
  have hn := flat_of_before _ hgv
  have hT : ∀ w ∈ gT, w.before #[Value.ref b] s = true := fun w hw => hts w (List.mem_filter.mp hw).1
  have hA : ∀ a : Nat, a < s.heap.size → ¬ (fun q : Nat => s.heap.size ≤ q) a := fun a ha h => by omega
  obtain ⟨D, hKc⟩ := g_classes hT
  obtain ⟨a8, r8, f8⟩ := g_arr (hT _ ac8)
  obtain ⟨a9, r9, f9⟩ := g_arr (hT _ ac9)
  obtain ⟨a10, r10, f10⟩ := g_arr (hT _ ac10)
  obtain ⟨a11, r11, f11⟩ := g_arr (hT _ ac11)
  obtain ⟨a12, r12, f12⟩ := g_arrO (hts _ gao0)
  obtain ⟨a13, r13, f13⟩ := g_arrO (hts _ gao5)
  obtain ⟨a14, r14, f14⟩ := g_arrA (hts _ gaoL)
  obtain ⟨a20, e20, t20⟩ := va_Tof (s := s) (args := #[Value.ref b]) (tm := .static "EndgameHouse" "MAN_LETTERS" "[C") (ty := .char) (N := 3) (f := fun j => .int (gI (gle 0 j))) (A := fun q => s.heap.size ≤ q) (by decide) (hn _ (by decide +kernel)) (va_eqt (hn (.eq (.length (.static "EndgameHouse" "MAN_LETTERS" "[C")) (.int 3)) (by decide +kernel))) (fun j hj => (by
    rcases (show j = 0 ∨ j = 1 ∨ j = 2 by omega) with rfl | rfl | rfl
    · exact va_eqt (hn (.eq (.elem (.static "EndgameHouse" "MAN_LETTERS" "[C") (.int 0)) (.int 81)) (by decide +kernel))
    · exact va_eqt (hn (.eq (.elem (.static "EndgameHouse" "MAN_LETTERS" "[C") (.int 1)) (.int 82)) (by decide +kernel))
    · exact va_eqt (hn (.eq (.elem (.static "EndgameHouse" "MAN_LETTERS" "[C") (.int 2)) (.int 80)) (by decide +kernel)))) hA
  obtain ⟨a21, e21, t21⟩ := va_Tof (s := s) (args := #[Value.ref b]) (tm := .static "EndgameHouse" "TURN_LETTERS" "[C") (ty := .char) (N := 2) (f := fun j => .int (gI (gle 1 j))) (A := fun q => s.heap.size ≤ q) (by decide) (hn _ (by decide +kernel)) (va_eqt (hn (.eq (.length (.static "EndgameHouse" "TURN_LETTERS" "[C")) (.int 2)) (by decide +kernel))) (fun j hj => (by
    rcases (show j = 0 ∨ j = 1 by omega) with rfl | rfl
    · exact va_eqt (hn (.eq (.elem (.static "EndgameHouse" "TURN_LETTERS" "[C") (.int 0)) (.int 119)) (by decide +kernel))
    · exact va_eqt (hn (.eq (.elem (.static "EndgameHouse" "TURN_LETTERS" "[C") (.int 1)) (.int 98)) (by decide +kernel)))) hA
  have z20 := va_Zof (A := fun q => s.heap.size ≤ q) (hts (.laysStatic "EndgameHouse" "MAN_LETTERS" "[C") (by decide +kernel)) (hts (.initialized "EndgameHouse") (by decide +kernel)) e20 hA
  have z21 := va_Zof (A := fun q => s.heap.size ≤ q) (hts (.laysStatic "EndgameHouse" "TURN_LETTERS" "[C") (by decide +kernel)) (hts (.initialized "EndgameHouse") (by decide +kernel)) e21 hA
  have z1 := vx_Zqof (A := fun q => s.heap.size ≤ q) (hts (.laysStatic Bundle.tN "UNASSIGNED_STACK" Bundle.steD) (by decide +kernel)) (hts (.initialized Bundle.tN) (by decide +kernel)) (hn (.isRef (.static Bundle.tN "UNASSIGNED_STACK" Bundle.steD)) (by decide +kernel)) hA
  have z2 := vx_Zqof (A := fun q => s.heap.size ≤ q) (hts (.laysStatic Bundle.tN "SUPPRESSED_SENTINEL" Bundle.listD) (by decide +kernel)) (hts (.initialized Bundle.tN) (by decide +kernel)) (hn (.isRef (.static Bundle.tN "SUPPRESSED_SENTINEL" Bundle.listD)) (by decide +kernel)) hA
  obtain ⟨a22, q22⟩ := g_str (k := 203) (tx := "no such position") (hts _ (by decide +kernel)) (hn _ (by decide +kernel))
  obtain ⟨a23, q23⟩ := g_str (k := 196) (tx := "no such table") (hts _ (by decide +kernel)) (hn _ (by decide +kernel))
  obtain ⟨a24, q24⟩ := g_str (k := 201) (tx := "no such turn") (hts _ (by decide +kernel)) (hn _ (by decide +kernel))
  refine ⟨D, gcY a8 a9 a10 a11 a12 a13 a14 a20 a21 a22 a23 a24, hx, hb, hml, hown, hT, ⟨⟨hKc, ?_⟩, ?_, ?_, ?_, ?_⟩, rfl, z20, t20, z21, t21, z1, z2⟩
  · intro k q hq
    match k, hq with
    | 0, hq => cases hq; exact ⟨r8, f8⟩
    | 1, hq => cases hq; exact ⟨r9, f9⟩
    | 2, hq => cases hq; exact ⟨r10, f10⟩
    | 3, hq => cases hq; exact ⟨r11, f11⟩
    | 4, hq => cases hq; exact ⟨r12, f12⟩
    | 5, hq => cases hq; exact ⟨r13, f13⟩
    | 6, hq => cases hq; exact ⟨r14, f14⟩
    | k + 7, hq => simp [gtys] at hq
  · intro q hq
    simp only [gNest, List.mem_cons, List.not_mem_nil, or_false] at hq
    rcases hq with rfl | rfl | rfl | rfl | rfl | rfl <;> exact va_Nw.of rfl (hts _ (by decide +kernel))
  · intro q hq
    simp only [gStr, List.mem_cons, List.not_mem_nil, or_false] at hq
    rcases hq with rfl | rfl | rfl
    · exact q22
    · exact q23
    · exact q24
  · intro w hw
    have h1 := gOt_tab w hw
    simp only [gOt, List.mem_cons, List.not_mem_nil, or_false] at hw
    rcases hw with rfl | rfl | rfl | rfl <;> exact va_Nw.of h1 (hts _ (by decide +kernel))
  · intro t ht
    simp only [gAt3, List.mem_cons, List.not_mem_nil, or_false] at ht
    rcases ht with rfl | rfl | rfl
    · exact hts _ gao0
    · exact hts _ gao5
    · exact hts _ gaoL

set_option maxHeartbeats 4000000 in
theorem whole_start (hw : gGoal) {p : Program} {e : Env} {s : State} {m : MethodId} {below : List Frame} {meth : Method} {c : Code} (l : Launch) (hst : l.stackTraces = false) {b L : Nat} {xs : Nat → Int32} (hL : L ≤ 3072) (C0 : lw_At p s m meth c b L xs) : W p l e room_1 s m #[Value.ref b] below meth c s.heap [] 0 0 (lw_Z below #[Value.ref b] s) (entryFrame m ([Value.ref b] : List Value).toArray 7) := by
  obtain ⟨D, cy, C⟩ := g_start C0
  obtain ⟨hx, hb, hr, hml, hown, hts, hX, hbl, hlocks, hgv⟩ := id C0
  have hl := lv_entry ([.ref b]) (n := 7) (Nat.le_of_ble_eq_true rfl)
  rw [lg_entry_eq]
  generalize (lg_sl ([.ref b]) ++ List.replicate (7 - (lg_sl ([.ref b])).length) Slot.unset).toArray = ls at hl ⊢
  have hl : lv_has ls 7 [(0, .ref b)] := hl
  have hscr : gScr b (L : Int) (gsx xs) s s.heap (fun q => s.heap.size ≤ q) := ⟨L, xs, rfl, rfl, hL, hX, hbl, Nat.not_le.mpr hbl⟩
  refine mL_law (Q := lw_Z below #[Value.ref b] s) l D cy 601024 7293033 gkd0 gln0 (fun _ _ => 0) (L : Int) (gsx xs) b gM0 hst C hscr ?_ (hw L xs hL) s.heap [] ls gS0 hl
  intro kd9 ln9 rh9 M9 pc9 lv9 ce sl h1 h2 hd H locs ls hS hl
  refine va_forget (fun q hq => hS.2.2.2.2.2.2 q hq) ?_
  refine W.widen (k := 601024) (n := 7293033) h1 h2 ?_
  exact lw_ret hx hb hr hlocks hd
set_option maxHeartbeats 4000000 in
theorem lw_walk (hw : gGoal) (l : Launch) (hst : l.stackTraces = false) (b : Addr) (xs : List Int32) : MetFree l x (headSpec (Jvm.Cond.code x code maxLocals ret :: tables_1) room_1) (lw_P b xs) (fun _ _ _ _ _ => True) lw_Q := by
  refine MetFree.of_bodyS (code := code) (maxLocals := maxLocals) (ret := ret) (by decide) ?_ ?_
  · intro args s m h hn
    obtain ⟨meth, c, h1, h2, h3, h4, h5, h6, -, -⟩ := Cond.code_spec hn (atoms_spec (ws := Jvm.Cond.code x code maxLocals ret :: tables_1) h _ List.mem_cons_self)
    exact ⟨meth, c, h1, h2, h3, h4, h5, h6⟩
  · intro p e s m args below meth c s₁ B hml0 hP _
    obtain ⟨rfl, hx, hbd, hgv⟩ := hP
    obtain ⟨scr, harrAt, hlist, hof, hsmall⟩ := hx
    obtain ⟨hcb, hkn, -, -⟩ := State.arrayAt?_spec harrAt
    have hown : s.vm.findClass R_law = some m.cls := findClass_of_methodNamed B.named
    have hts0 : ∀ c ∈ (Jvm.Cond.code x code maxLocals ret :: tables_1), c.before #[Value.ref b] s = true := atoms_spec (ws := Jvm.Cond.code x code maxLocals ret :: tables_1) B.pre
    have hts : ∀ w ∈ lw_tbl, w.before #[Value.ref b] s = true := k2_hts_sels lw_privs (fun w hw => hts0 w (List.mem_cons_of_mem _ hw)) lw_privs_ok
    have hml : c.maxLocals = 7 := B.maxLocals_eq (hts0 _ List.mem_cons_self)
    have X₀ : Stand p l e room_1 s m #[Value.ref b] below meth c s₁ [] 0 0 := Stand.of_body B
    have hh0 : s₁.heap = s.heap := by rw [B.state]; rfl
    have hsz : scr.slots.size = xs.length := by rw [← Array.length_toList, hlist, List.length_map]
    have hval : ∀ j : Nat, j < xs.length → scr.slots[j]? = some (.int (xs.getD j 0)) := fun j hj => by
      rw [← Array.getElem?_toList, hlist]
      simp [hj]
    have hbl : b < s.heap.size := (Array.getElem?_eq_some_iff.mp hcb).1
    have hX : va_X b xs.length (fun j => xs.getD j 0) s s.heap := ⟨scr, hcb, hof, hkn, hsz, hval⟩
    have K : W p l e room_1 s m #[Value.ref b] below meth c s₁.heap [] 0 0 (lw_Z below #[Value.ref b] s) (entryFrame m ([Value.ref b] : List Value).toArray 7) := by
      rw [hh0]
      exact whole_start hw l hst hbd ⟨B.exec, B.bytes, B.returns, hml, hown, hts, hX, hbl, B.notSynchronized, hgv⟩
    obtain ⟨t, a1, o, b1, b2, b3⟩ := K s₁ rfl X₀
    exact ⟨t, o, a1, b1, b2, b3⟩
theorem lw_pre_spec {args : Array Value} {s : State} (h : (Jvm.Cond.and given_1 narrow_1).before args s = true) (hr : rest_1_c.before args s = true) : ∃ (b : Addr) (xs : List Int32), lw_P b xs args s := by
  have hs := flat_of_before _ h
  have hq := flat_of_before _ hr
  have hc : (Cond.count 1).before args s = true := hs _ (by decide +kernel)
  have harr : (Cond.arrayOf (.arg 0) .int).before args s = true := hs _ (by decide +kernel)
  have hle : (Cond.le (.length (.arg 0)) (.int 3072)).before args s = true := hs _ (by decide +kernel)
  have hlen : (Cond.isInt (.length (.arg 0))).before args s = true := hq _ (by decide +kernel)
  have hall : (Cond.all (.arg 0) (.isInt (.elem (.arg 0) (.index 0)))).before args s = true := hq _ (by decide +kernel)
  obtain ⟨b, xs, hb, hx⟩ := State.ints_of_pre rfl harr hlen hall
  have hsm : xs.length < 2 ^ 31 := hx.choose_spec.2.2.2
  have hev : (Term.length (.arg 0)).eval args s none [] s = some (.int xs.length.toInt32) := hx.length_eval hb
  have hv := Cond.le_ints hev (show (Term.int 3072).eval args s none [] s = some (.int 3072) from rfl)
  have hd : xs.length.toInt32 ≤ 3072 := by
    simpa [Cond.before, Cond.holds, hv] using hle
  have hN : xs.length ≤ 3072 := (Int32.ofNat_le_ofNat hsm (by decide)).mp (show Int32.ofNat xs.length ≤ Int32.ofNat 3072 from hd)
  exact ⟨b, xs, Cond.one_arg hc (show args[0]? = some (.ref b) from hb), hx, hN, h⟩
theorem lw_comes (hw : gGoal) (l : Launch) (hst : l.stackTraces = false) : Comes l x (Jvm.Cond.code x code maxLocals ret :: tables_1) room_1 (fun tb e args s => Calls_1 tb e args s ∧ rest_1 tb e args s ∧ Pre_1 tb e args s)
    (fun _ _ args s o t => lw_Q args s o t) := by
  intro p e ha hc hk s m args below hf hfit hheap happ hpre
  obtain ⟨b, xs, hP⟩ := lw_pre_spec hpre.2.2 hpre.2.1
  obtain ⟨k, o, h1, h2, h3, hQ⟩ := lw_walk hw l hst b xs p e ha hc hk s m args below hf ((Spec.applies_iff_loose hf).mp happ).1 hP trivial
  exact ⟨k, o, h1, h2, h3, hQ⟩
theorem lw_frame {s t : State} {o : Outcome} {args : Array Value} (h : Framed s o t [] 601024 7293033) :
    Framed s o t (fieldLocs frame_1_writes args s ++ arrayLocs frame_1_arrays args s ++ staticLocs frame_1_statics s) 601024 7293033 := h
theorem lw_limb (hw : gGoal) (L : Cond) (hL : ∀ (args : Array Value) (s t : State), L.after args s (.returned (some (.int 1))) t = true) :
    ArmFor flags0 classFile x code maxLocals ret World_1 tables_1 room_1 Calls_1 rest_1 Pre_1
      (fun tb e a s o t => postC L tb e a s o t ∧ Framed s o t (fieldLocs frame_1_writes a s ++ arrayLocs frame_1_arrays a s ++ staticLocs frame_1_statics s) 601024 7293033) := by
  intro l hf0 _ _ p e ha hc hk s m args below hf hfit hheap happ hpre
  obtain ⟨k, o, h1, h2, h3, rfl, hF⟩ := lw_comes hw l (by unfold Launch.stackTraces; rw [hf0]; decide) p e ha hc hk s m args below hf hfit hheap happ hpre
  exact ⟨k, _, h1, h2, h3, hL args s _, lw_frame hF⟩
theorem i_vc_of (hw : gGoal) : Claimed_1_1 ∧ Claimed_1_2 := ⟨lw_limb hw limb_1_1 (fun args s t => by simp [limb_1_1, Cond.after, Cond.holds, Cond.value]), lw_limb hw limb_1_2 (fun args s t => Cond.after_iff.mpr (by
  first | (rw [show limb_1_2 = Cond.eq .result (.int 1) from rfl, Cond.eq_ints (x := 1) (y := 1) rfl rfl]; simp; done) | (simp [limb_1_2, Cond.value, Term.eval]; done)))⟩

