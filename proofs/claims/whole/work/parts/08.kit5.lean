section GN
variable {p : Program} {l : Launch} {e : Env} {R : Room} {s : State} {m : MethodId} {args : Array Value} {below : List Frame} {meth : Method} {c : Code} {cells slots : Nat} {Q : State → Prop} {cc : ByteArray} {nL : Nat} {own : String} {D : va_G} {cy : Nat → ClassId} {A : Nat → Prop} {H0 : Heap} {kd : gKd} {ln : gLn} {rh : gRh} {M : gM} {pc : Nat} {lv : List (Nat × Value)} {st : List Value}
theorem q_topi {a : Int} (k : ∀ v : Int, v = a → gW p l e R s m args below meth c D cy A H0 Q nL kd ln rh cells slots M pc lv (.int (gI v) :: st)) : gW p l e R s m args below meth c D cy A H0 Q nL kd ln rh cells slots M pc lv (.int (gI a) :: st) := k a rfl
theorem q_topl {a : BitVec 64} (k : ∀ v : BitVec 64, v = a → gW p l e R s m args below meth c D cy A H0 Q nL kd ln rh cells slots M pc lv (.long (gL v) :: st)) : gW p l e R s m args below meth c D cy A H0 Q nL kd ln rh cells slots M pc lv (.long (gL a) :: st) := k a rfl
end GN
theorem gak_row (n : Nat) : gak 0 (100 + n) = 11 := by
  unfold gak
  split <;> first | omega | rfl | simp_all
theorem gft_row (n : Nat) : gft 0 (100 + n) = 2 := by
  unfold gft
  split <;> first | omega | rfl | simp_all
theorem gRg_row {n : Nat} {x : Int} (h : gRg 0 (100 + n) x) : 0 ≤ x ∧ x < 18446744073709551616 := by
  unfold gRg at h
  rw [gft_row, gak_row] at h
  exact h
theorem gRg_row_of {n : Nat} {x : Int} (h : 0 ≤ x ∧ x < 18446744073709551616) : gRg 0 (100 + n) x := by
  unfold gRg
  rw [gft_row, gak_row]
  exact h
theorem rng8 {x : Int} (h : -128 ≤ x ∧ x < 128) : rng x := ⟨by omega, by omega⟩
theorem rng1 {x : Int} (h : x = 0 ∨ x = 1) : rng x := ⟨by omega, by omega⟩
theorem rngL (b : BitVec 64) : 0 ≤ (b.toNat : Int) ∧ (b.toNat : Int) < 18446744073709551616 := ⟨by omega, by have := b.isLt; omega⟩
theorem mt0 {w : Cond} (h : w ∈ k2_sels lw_privs) : w ∈ lw_tbl := List.mem_append_left _ h
theorem mt1 {w : Cond} (h : w ∈ tables_1_1) : w ∈ lw_tbl := List.mem_append_right _ (show w ∈ tables_1 from List.mem_append_left _ h)
theorem mt2 {w : Cond} (h : w ∈ tables_1_2) : w ∈ lw_tbl := List.mem_append_right _ (show w ∈ tables_1 from List.mem_append_right _ (List.mem_append_left _ h))
theorem mt3 {w : Cond} (h : w ∈ tables_1_3) : w ∈ lw_tbl := List.mem_append_right _ (show w ∈ tables_1 from List.mem_append_right _ (List.mem_append_right _ (List.mem_append_left _ h)))
theorem mt4 {w : Cond} (h : w ∈ tables_1_4) : w ∈ lw_tbl := List.mem_append_right _ (show w ∈ tables_1 from List.mem_append_right _ (List.mem_append_right _ (List.mem_append_right _ (List.mem_append_left _ h))))
theorem mt5 {w : Cond} (h : w ∈ tables_1_5) : w ∈ lw_tbl := List.mem_append_right _ (show w ∈ tables_1 from List.mem_append_right _ (List.mem_append_right _ (List.mem_append_right _ (List.mem_append_right _ (h)))))
theorem gX0 : ∀ w ∈ u_ws RX0 TX0 (gnf 0), w ∈ gT := by decide +kernel
theorem gX1 : ∀ w ∈ u_ws RX1 TX1 (gnf 1), w ∈ gT := by decide +kernel
theorem gX2 : ∀ w ∈ u_ws RX2 TX2 (gnf 2), w ∈ gT := by decide +kernel
theorem gX3 : ∀ w ∈ u_ws RX3 TX3 (gnf 3), w ∈ gT := by decide +kernel
theorem gX4 : ∀ w ∈ u_ws RX4 TX4 (gnf 4), w ∈ gT := by decide +kernel
theorem gX5 : ∀ w ∈ u_ws RX5 TX5 (gnf 5), w ∈ gT := by decide +kernel
theorem gX6 : ∀ w ∈ u_ws RX6 TX6 (gnf 6), w ∈ gT := by decide +kernel
theorem gX7 : ∀ w ∈ u_ws RX7 TX7 (gnf 7), w ∈ gT := by decide +kernel
