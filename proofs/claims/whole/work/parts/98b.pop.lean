theorem sh_n (v : BitVec 64) (s : Int) (hs : 0 ≤ s ∧ s < 64) : (glushr v s).toNat = v.toNat / 2 ^ s.toNat := by
  rw [glushr_n hs, BitVec.toNat_ushiftRight, Nat.shiftRight_eq_div_pow]
theorem pop_3 {a v1 v2 v3 : BitVec 64} (e1 : v1 = a - ((glushr a 1) &&& (6148914691236517205 : BitVec 64))) (e2 : v2 = (v1 &&& (3689348814741910323 : BitVec 64)) + ((glushr v1 2) &&& (3689348814741910323 : BitVec 64))) (e3 : v3 = (v2 + (glushr v2 4)) &&& (1085102592571150095 : BitVec 64)) : v3.toNat = p3 1085102592571150095 (p2 3689348814741910323 (p1 6148914691236517205 a.toNat)) := by
  obtain ⟨x, ex⟩ : ∃ x, x = a.toNat := ⟨_, rfl⟩
  have hx : x < 18446744073709551616 := by rw [ex]; exact a.isLt
  have n1 : v1.toNat = p1 6148914691236517205 x := by
    have le1 : (x / 2) &&& 6148914691236517205 ≤ x := Nat.le_trans Nat.and_le_left (by omega)
    have h := sh_n a 1 (by omega)
    rw [e1, BitVec.toNat_sub, BitVec.toNat_and, h, ← ex]
    show (18446744073709551616 - (x / 2 &&& 6148914691236517205) + x) % 18446744073709551616 = x - ((x / 2) &&& 6148914691236517205)
    omega
  have n2 : v2.toNat = p2 3689348814741910323 (p1 6148914691236517205 x) ∧ p2 3689348814741910323 (p1 6148914691236517205 x) ≤ 7378697629483820646 := by
    have h := sh_n v1 2 (by omega)
    obtain ⟨y, ey⟩ : ∃ y, y = p1 6148914691236517205 x := ⟨_, rfl⟩
    rw [← ey] at n1 ⊢
    have l1 : y &&& 3689348814741910323 ≤ 3689348814741910323 := Nat.and_le_right
    have l2 : y / 4 &&& 3689348814741910323 ≤ 3689348814741910323 := Nat.and_le_right
    unfold p2
    rw [e2, BitVec.toNat_add, BitVec.toNat_and, BitVec.toNat_and, h, n1]
    refine ⟨?_, by omega⟩
    show ((y &&& 3689348814741910323) + (y / 4 &&& 3689348814741910323)) % 18446744073709551616 = _
    omega
  obtain ⟨y, ey⟩ : ∃ y, y = p2 3689348814741910323 (p1 6148914691236517205 x) := ⟨_, rfl⟩
  rw [← ex]
  rw [← ey] at n2 ⊢
  have h := sh_n v2 4 (by omega)
  rw [e3, BitVec.toNat_and, BitVec.toNat_add, h, n2.1]
  show ((y + y / 16) % 18446744073709551616) &&& 1085102592571150095 = _
  unfold p3
  rw [Nat.mod_eq_of_lt (by omega)]
theorem low7 (v : BitVec 64) : giand (gl2i v) 127 = ((v.toNat % 128 : Nat) : Int) := by
  have h : (gI (gl2i v) &&& gI 127).toBitVec.toNat = v.toNat % 128 := by
    unfold gl2i
    rw [gI_of]
    show ((gL v).toInt32.toBitVec &&& (gI 127).toBitVec).toNat = _
    rw [BitVec.toNat_and, show (gI 127).toBitVec.toNat = 127 from by decide +kernel]
    have e : (gL v).toInt32.toBitVec.toNat = v.toNat % 2 ^ 32 := by
      show (v.signExtend 32).toNat = _
      rw [BitVec.signExtend_eq_setWidth_of_le _ (by decide), BitVec.toNat_setWidth]
    rw [e, show (127 : Nat) = 2 ^ 7 - 1 from rfl, Nat.and_two_pow_sub_one_eq_mod]
    rw [show (2 : Nat) ^ 32 = 2 ^ 7 * 2 ^ 25 by decide, Nat.mod_mul_right_mod]
  unfold giand
  show (gI (gl2i v) &&& gI 127).toBitVec.toInt = _
  rw [BitVec.toInt_eq_toNat_of_lt (by rw [h]; omega), h]
/-- the bits of a long are counted -/
theorem bcnt_eq (a : BitVec 64) : bcnt a = (cN (fun i => a.getLsbD i) 64 : Nat) := by
  have hx : a.toNat < 256 ^ 8 := by
    have := a.isLt
    rw [show (256 : Nat) ^ 8 = 2 ^ 64 by decide]
    exact this
  obtain ⟨-, c, c1, c0, c2, c3⟩ := p_all 8 a.toNat hx
  obtain ⟨k5, k3, kf⟩ := mk_v
  rw [k5, k3, kf] at c3
  have sum : cN (fun i => a.getLsbD i) 64 = c 0 + c 1 + c 2 + c 3 + c 4 + c 5 + c 6 + c 7 := by
    have sp : ∀ j : Nat, j < 8 → cN (fun i => a.getLsbD i) (8 * j + 8) = cN (fun i => a.getLsbD i) (8 * j) + c j := fun j hj => by
      rw [cN_shift, c2 j hj]
      congr 1
      refine cN_congr (fun s hs => ?_)
      show a.toNat.testBit (8 * j + s) = _
      rw [show (256 : Nat) ^ j = 2 ^ (8 * j) by rw [Nat.pow_mul], Nat.testBit_div_two_pow]
      congr 1
      omega
    have z : cN (fun i => a.getLsbD i) 0 = 0 := rfl
    have s0 := sp 0 (by decide)
    have s1 := sp 1 (by decide)
    have s2 := sp 2 (by decide)
    have s3 := sp 3 (by decide)
    have s4 := sp 4 (by decide)
    have s5 := sp 5 (by decide)
    have s6 := sp 6 (by decide)
    have s7 := sp 7 (by decide)
    clear sp c1 c0 c2 c3 hx
    simp only [Nat.reduceMul, Nat.reduceAdd, Nat.zero_add] at s0 s1 s2 s3 s4 s5 s6 s7
    rw [s7, s6, s5, s4, s3, s2, s1, s0, z]
    omega
  obtain ⟨v1, ev1⟩ : ∃ v1 : BitVec 64, v1 = a - ((glushr a 1) &&& (6148914691236517205 : BitVec 64)) := ⟨_, rfl⟩
  obtain ⟨v2, ev2⟩ : ∃ v2 : BitVec 64, v2 = (v1 &&& (3689348814741910323 : BitVec 64)) + ((glushr v1 2) &&& (3689348814741910323 : BitVec 64)) := ⟨_, rfl⟩
  obtain ⟨v3, ev3⟩ : ∃ v3 : BitVec 64, v3 = (v2 + (glushr v2 4)) &&& (1085102592571150095 : BitVec 64) := ⟨_, rfl⟩
  have n3 := pop_3 ev1 ev2 ev3
  rw [c3] at n3
  obtain ⟨v4, ev4⟩ : ∃ v4 : BitVec 64, v4 = v3 + (glushr v3 8) := ⟨_, rfl⟩
  obtain ⟨v5, ev5⟩ : ∃ v5 : BitVec 64, v5 = v4 + (glushr v4 16) := ⟨_, rfl⟩
  obtain ⟨v6, ev6⟩ : ∃ v6 : BitVec 64, v6 = v5 + (glushr v5 32) := ⟨_, rfl⟩
  have n4 : v4.toNat = (v3.toNat + v3.toNat / 256) % 18446744073709551616 := by
    rw [ev4, BitVec.toNat_add, sh_n v3 8 (by omega)]
    rfl
  have n5 : v5.toNat = (v4.toNat + v4.toNat / 65536) % 18446744073709551616 := by
    rw [ev5, BitVec.toNat_add, sh_n v4 16 (by omega)]
    rfl
  have n6 : v6.toNat = (v5.toNat + v5.toNat / 4294967296) % 18446744073709551616 := by
    rw [ev6, BitVec.toNat_add, sh_n v5 32 (by omega)]
    rfl
  have low := pop_sum c1 c0 n3 n4 n5 n6
  have e : bcnt a = giand (gl2i v6) 127 := by
    rw [ev6, ev5, ev4, ev3, ev2, ev1]
    rfl
  rw [e, low7, low, sum]
theorem bcnt_sq {n : Int} {a : BitVec 64} {p : Int → Prop} (h : sq n a p) : bcnt a = (cS n p : Nat) := by
  rw [bcnt_eq]
  congr 1
  unfold cS
  refine cN_congr (fun i hi => ?_)
  cases g : cSb n p i
  · cases g2 : a.getLsbD i
    · rfl
    · exact absurd ((h i hi).mp g2) (cSb_f.mp g)
  · exact (h i hi).mpr (cSb_t.mp g)
