section GN
variable {p : Program} {l : Launch} {e : Env} {R : Room} {s : State} {m : MethodId} {args : Array Value} {below : List Frame} {meth : Method} {c : Code} {cells slots : Nat} {Q : State → Prop} {cc : ByteArray} {nL : Nat} {own : String} {D : va_G} {cy : Nat → ClassId} {A : Nat → Prop} {H0 : Heap} {kd : gKd} {ln : gLn} {rh : gRh} {M : gM} {pc : Nat} {lv : List (Nat × Value)} {st : List Value}
theorem q_topi {a : Int} (k : ∀ v : Int, v = a → gW p l e R s m args below meth c D cy A H0 Q nL kd ln rh cells slots M pc lv (.int (gI v) :: st)) : gW p l e R s m args below meth c D cy A H0 Q nL kd ln rh cells slots M pc lv (.int (gI a) :: st) := k a rfl
theorem q_topl {a : BitVec 64} (k : ∀ v : BitVec 64, v = a → gW p l e R s m args below meth c D cy A H0 Q nL kd ln rh cells slots M pc lv (.long (gL v) :: st)) : gW p l e R s m args below meth c D cy A H0 Q nL kd ln rh cells slots M pc lv (.long (gL a) :: st) := k a rfl
end GN
theorem gX0 : ∀ w ∈ u_ws RX0 TX0 (gnf 0), w ∈ gT := by decide +kernel
theorem gX1 : ∀ w ∈ u_ws RX1 TX1 (gnf 1), w ∈ gT := by decide +kernel
theorem gX2 : ∀ w ∈ u_ws RX2 TX2 (gnf 2), w ∈ gT := by decide +kernel
theorem gX3 : ∀ w ∈ u_ws RX3 TX3 (gnf 3), w ∈ gT := by decide +kernel
theorem gX4 : ∀ w ∈ u_ws RX4 TX4 (gnf 4), w ∈ gT := by decide +kernel
theorem gX5 : ∀ w ∈ u_ws RX5 TX5 (gnf 5), w ∈ gT := by decide +kernel
theorem gX6 : ∀ w ∈ u_ws RX6 TX6 (gnf 6), w ∈ gT := by decide +kernel
theorem gX7 : ∀ w ∈ u_ws RX7 TX7 (gnf 7), w ∈ gT := by decide +kernel
