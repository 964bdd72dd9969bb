/-! BITS OF INTS -/
theorem sh5 {j : Int} (h : 0 ≤ j ∧ j < 32) : ((gI j &&& 31).toBitVec.smod 32).toNat = j.toNat := by
  have key : ∀ i : Fin 32, (((gI ((i : Nat) : Int)) &&& 31).toBitVec.smod 32).toNat = i := by decide +kernel
  obtain ⟨i, rfl⟩ := Int.eq_ofNat_of_zero_le h.1
  exact key ⟨i, by omega⟩
theorem gishr_bv {a j : Int} (h : 0 ≤ j ∧ j < 32) : (gI (gishr a j)).toBitVec = (gI a).toBitVec.sshiftRight j.toNat := by
  unfold gishr
  rw [gI_of]
  show BitVec.sshiftRight' _ _ = _
  unfold BitVec.sshiftRight'
  rw [sh5 h]
theorem gishl_bv {a j : Int} (h : 0 ≤ j ∧ j < 32) : (gI (gishl a j)).toBitVec = (gI a).toBitVec <<< j.toNat := by
  unfold gishl
  rw [gI_of]
  show _ <<< ((gI j &&& 31).toBitVec.smod 32) = _
  rw [BitVec.shiftLeft_eq', sh5 h]
theorem gishr_div {a j : Int} (ha : rng a) (h : 0 ≤ j ∧ j < 32) : gishr a j = a / 2 ^ j.toNat := by
  have h1 : (gI (gishr a j)).toInt = gishr a j := by unfold gishr; rw [gI_of]
  rw [← h1]
  show (gI (gishr a j)).toBitVec.toInt = _
  rw [gishr_bv h, BitVec.toInt_sshiftRight, Int.shiftRight_eq_div_pow]
  have h2 : (gI a).toBitVec.toInt = a := gI_toInt ha
  rw [h2]
  norm_cast
theorem gI_bv {a : Int} (h : 0 ≤ a ∧ a < 2147483648) : (gI a).toBitVec.toNat = a.toNat := by
  show (BitVec.ofInt 32 a).toNat = _
  rw [BitVec.toNat_ofInt]
  omega
theorem giand_n {a b : Int} (ha : 0 ≤ a ∧ a < 2147483648) (hb : 0 ≤ b ∧ b < 2147483648) : giand a b = ((a.toNat &&& b.toNat : Nat) : Int) := by
  unfold giand
  have h : (gI a &&& gI b).toBitVec.toNat = a.toNat &&& b.toNat := by
    show ((gI a).toBitVec &&& (gI b).toBitVec).toNat = _
    rw [BitVec.toNat_and, gI_bv ha, gI_bv hb]
  have h2 : a.toNat &&& b.toNat ≤ a.toNat := Nat.and_le_left
  show (gI a &&& gI b).toBitVec.toInt = _
  rw [BitVec.toInt_eq_toNat_of_lt (by rw [h]; omega), h]
theorem giand_31 {a : Int} (ha : 0 ≤ a ∧ a < 2147483648) : giand a 31 = a % 32 := by
  rw [giand_n ha (by omega)]
  have := Nat.and_two_pow_sub_one_eq_mod a.toNat 5
  rw [show (31 : Int).toNat = 2 ^ 5 - 1 from rfl, this]
  omega
theorem giand_1 {a : Int} (ha : 0 ≤ a ∧ a < 2147483648) : giand a 1 = a % 2 := by
  rw [giand_n ha (by omega)]
  have := Nat.and_two_pow_sub_one_eq_mod a.toNat 1
  rw [show (1 : Int).toNat = 2 ^ 1 - 1 from rfl, this]
  omega
theorem giand_m32 {a : Int} (ha : 0 ≤ a ∧ a < 2147483648) : giand a (-32) = 32 * (a / 32) := by
  unfold giand
  have h : (gI a &&& gI (-32)).toBitVec.toNat = 32 * (a.toNat / 32) := by
    show ((gI a).toBitVec &&& (gI (-32)).toBitVec).toNat = _
    rw [BitVec.toNat_and, gI_bv ha]
    rw [show ((gI (-32)).toBitVec.toNat) = 4294967264 from by decide +kernel]
    apply Nat.eq_of_testBit_eq
    intro i
    rw [Nat.testBit_and, show (32 : Nat) = 2 ^ 5 from rfl, Nat.testBit_two_pow_mul, Nat.testBit_div_two_pow]
    rcases Nat.lt_or_ge i 32 with q | q
    · have key : ∀ i : Fin 32, (4294967264 : Nat).testBit i = decide ((i : Nat) ≥ 5) := by decide +kernel
      rw [key ⟨i, q⟩]
      rcases Nat.lt_or_ge i 5 with q2 | q2
      · simp [show ¬ 5 ≤ i by omega]
      · simp [q2, show i - 5 + 5 = i by omega]
    · have h1 : a.toNat.testBit i = false := Nat.testBit_lt_two_pow (Nat.lt_of_lt_of_le (show a.toNat < 2 ^ 31 by omega) (Nat.pow_le_pow_right (by decide) (by omega)))
      rw [h1]
      simp [show i - 5 + 5 = i by omega, h1]
  show (gI a &&& gI (-32)).toBitVec.toInt = _
  rw [BitVec.toInt_eq_toNat_of_lt (by rw [h]; omega), h]
  omega
/-- bit j of a word -/
def wb (x : Int) (j : Nat) : Bool := (gI x).toBitVec.getLsbD j
theorem wb_test {x j : Int} (h : 0 ≤ j ∧ j < 32) : (giand (gishr x j) 1 = 0 ↔ wb x j.toNat = false) ∧ rng (giand (gishr x j) 1) := by
  refine ⟨?_, rng_of _⟩
  have e : (gI (giand (gishr x j) 1)).toBitVec = (gI x).toBitVec.sshiftRight j.toNat &&& 1#32 := by
    unfold giand
    rw [gI_of]
    show (gI (gishr x j)).toBitVec &&& (gI 1).toBitVec = _
    rw [gishr_bv h]
    rfl
  have r1 : giand (gishr x j) 1 = 0 ↔ (gI (giand (gishr x j) 1)).toBitVec = 0#32 := by
    constructor
    · intro q; rw [q]; rfl
    · intro q
      have h2 : (gI (giand (gishr x j) 1)) = 0 := Int32.toBitVec.inj q
      have h3 : (gI (giand (gishr x j) 1)).toInt = giand (gishr x j) 1 := by unfold giand; rw [gI_of]
      rw [← h3, h2]; rfl
  rw [r1, e]
  unfold wb
  have b0 : ((gI x).toBitVec.sshiftRight j.toNat).getLsbD 0 = (gI x).toBitVec.getLsbD j.toNat := by
    rw [BitVec.getLsbD_sshiftRight]
    simp
    omega
  rw [← b0]
  constructor
  · intro q
    have := congrArg (fun v => v.getLsbD 0) q
    simpa using this
  · intro q
    apply BitVec.eq_of_getLsbD_eq
    intro i hi
    rw [BitVec.getLsbD_and]
    rcases Nat.eq_zero_or_pos i with rfl | q2
    · rw [q]; rfl
    · have : (1#32).getLsbD i = false := by
        rw [BitVec.getLsbD_one]
        simp
        omega
      rw [this]
      simp
theorem wb_set {x i : Int} {j : Nat} (h : 0 ≤ i ∧ i < 32) (hj : j < 32) : wb (gior x (gishl 1 i)) j = (wb x j || decide (j = i.toNat)) ∧ rng (gior x (gishl 1 i)) := by
  refine ⟨?_, rng_of _⟩
  unfold wb gior
  rw [gI_of]
  show ((gI x).toBitVec ||| (gI (gishl 1 i)).toBitVec).getLsbD j = _
  rw [BitVec.getLsbD_or, gishl_bv h]
  congr 1
  rw [show (gI 1).toBitVec = 1#32 from rfl, BitVec.getLsbD_shiftLeft, BitVec.getLsbD_one]
  rcases Nat.lt_trichotomy j i.toNat with q | q | q
  · simp [hj, q, show ¬ j = i.toNat by omega]
  · simp [hj, q, h.2]
  · simp [hj, show ¬ j < i.toNat by omega, show ¬ j = i.toNat by omega, show ¬ j - i.toNat = 0 by omega]
theorem wb_0 (j : Nat) : wb 0 j = false := by
  unfold wb
  rw [show (gI 0).toBitVec = 0#32 from rfl]
  simp
