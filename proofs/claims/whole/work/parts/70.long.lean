/-! LONGS AS SETS OF SQUARES -/
theorem gcmp_0 {a : BitVec 64} : gcmp a (0 : BitVec 64) = 0 ↔ a = 0 := by
  unfold gcmp lg_cmp
  constructor
  · intro h
    apply Classical.byContradiction
    intro q
    have hne : gL a ≠ gL 0 := fun e => q (by
      have := congrArg Int64.toBitVec e
      exact this)
    split at h
    · exact absurd h (by decide)
    · exact absurd h (by decide)
  · intro h
    rw [h]
    decide
theorem shU {b : Int} (h : 0 ≤ b ∧ b < 64) : (((gI b).toInt64.toUInt64 &&& Int64.toUInt64 63).toBitVec % 64#64).toNat = b.toNat := by
  have key : ∀ i : Fin 64, (((gI ((i : Nat) : Int)).toInt64.toUInt64 &&& Int64.toUInt64 63).toBitVec % 64#64).toNat = i := by decide +kernel
  obtain ⟨i, rfl⟩ := Int.eq_ofNat_of_zero_le h.1
  exact key ⟨i, by omega⟩
theorem glushr_n {a : BitVec 64} {b : Int} (h : 0 ≤ b ∧ b < 64) : glushr a b = a >>> b.toNat := by
  unfold glushr
  show a >>> (((gI b).toInt64.toUInt64 &&& Int64.toUInt64 63).toBitVec % 64#64) = _
  rw [BitVec.ushiftRight_eq', shU h]
theorem shL {b : Int} (h : 0 ≤ b ∧ b < 64) : (((gI b).toInt64 &&& 63).toBitVec.smod 64).toNat = b.toNat := by
  have key : ∀ i : Fin 64, (((gI ((i : Nat) : Int)).toInt64 &&& 63).toBitVec.smod 64).toNat = i := by decide +kernel
  obtain ⟨i, rfl⟩ := Int.eq_ofNat_of_zero_le h.1
  exact key ⟨i, by omega⟩
theorem glshl_1 {b : Int} (h : 0 ≤ b ∧ b < 64) : glshl (1 : BitVec 64) b = BitVec.twoPow 64 b.toNat := by
  unfold glshl
  show (1 : BitVec 64) <<< (((gI b).toInt64 &&& 63).toBitVec.smod 64) = _
  rw [BitVec.shiftLeft_eq', shL h]
  rfl
/-- the squares of a set held as a natural number -/
def lb (v : Int) (x : Nat) : Bool := (BitVec.ofInt 64 v).getLsbD x
theorem ofInt_nat (b : BitVec 64) : BitVec.ofInt 64 ((b.toNat : Nat) : Int) = b := by
  apply BitVec.eq_of_toNat_eq
  rw [BitVec.toNat_ofInt]
  have := b.isLt
  omega
theorem lb_nat (b : BitVec 64) (x : Nat) : lb ((b.toNat : Nat) : Int) x = b.getLsbD x := by
  unfold lb
  rw [ofInt_nat]
/-- below the lowest square -/
theorem sub1_bits {x : BitVec 64} {i : Nat} (hi : i < 64) (h1 : x.getLsbD i = true) (h0 : ∀ j, j < i → x.getLsbD j = false) (j : Nat) : (x - 1).getLsbD j = if j < i then true else if j = i then false else x.getLsbD j := by
  obtain ⟨r, hr⟩ : ∃ r, r = x.toNat / 2 ^ i := ⟨_, rfl⟩
  have hm : x.toNat % 2 ^ i = 0 := by
    apply Nat.eq_of_testBit_eq
    intro k
    rw [Nat.testBit_mod_two_pow, Nat.zero_testBit]
    by_cases g : k < i
    · have := h0 k g
      unfold BitVec.getLsbD at this
      simp [g, this]
    · simp [g]
  have hx : x.toNat = 2 ^ i * r := by
    rw [hr]
    have := Nat.div_add_mod x.toNat (2 ^ i)
    omega
  have hodd : r % 2 = 1 := by
    have : x.toNat.testBit i = true := h1
    rw [hx, Nat.testBit_two_pow_mul] at this
    simp at this
    exact this
  obtain ⟨q, hq⟩ : ∃ q, r = 2 * q + 1 := ⟨r / 2, by omega⟩
  have hp : 0 < 2 ^ i := Nat.two_pow_pos i
  have e1 : (x - 1).toNat = 2 ^ i * (2 * q) + (2 ^ i - 1) := by
    have hlt := x.isLt
    have : (x - 1).toNat = x.toNat - 1 := by
      rw [BitVec.toNat_sub]
      have h11 : (1 : BitVec 64).toNat = 1 := rfl
      rw [h11]
      have hx1 : 1 ≤ x.toNat := by
        rw [hx, hq]
        exact Nat.mul_pos hp (by omega)
      omega
    rw [this, hx, hq, Nat.mul_add, Nat.mul_one]
    omega
  have e2 : (x - 1).getLsbD j = (2 ^ i * (2 * q) + (2 ^ i - 1)).testBit j := by
    unfold BitVec.getLsbD
    rw [e1]
  rw [e2, Nat.testBit_two_pow_mul_add _ (by omega)]
  by_cases g : j < i
  · rw [if_pos g, if_pos g, Nat.testBit_two_pow_sub_one]
    simp [g]
  · rw [if_neg g, if_neg g]
    by_cases g2 : j = i
    · subst g2
      rw [if_pos rfl, Nat.sub_self]
      simp
    · rw [if_neg g2]
      have : x.getLsbD j = (2 ^ i * (2 * q + 1)).testBit j := by
        unfold BitVec.getLsbD
        rw [hx, hq]
      rw [this, Nat.testBit_two_pow_mul]
      obtain ⟨p, hp2⟩ : ∃ p, j - i = p + 1 := ⟨j - i - 1, by omega⟩
      rw [hp2, Nat.testBit_succ, Nat.testBit_succ]
      simp [show j ≥ i by omega, show (2 * q + 1) / 2 = q by omega]
theorem neg_not_sub (x : BitVec 64) : -x = ~~~(x - 1) := by
  rw [BitVec.neg_eq_not_add]
  exact BitVec.not_sub_one_eq_not_add_one.symm
theorem low_pow {x : BitVec 64} {i : Nat} (hi : i < 64) (h1 : x.getLsbD i = true) (h0 : ∀ j, j < i → x.getLsbD j = false) : x &&& (-x) = BitVec.twoPow 64 i := by
  apply BitVec.eq_of_getLsbD_eq
  intro j hj
  rw [BitVec.getLsbD_and, neg_not_sub, BitVec.getLsbD_not, sub1_bits hi h1 h0, BitVec.getLsbD_twoPow]
  by_cases g : j < i
  · simp [h0 j g, show ¬ i = j by omega]
  · by_cases g2 : j = i
    · subst g2; simp [h1, hj]
    · cases hb : x.getLsbD j <;> simp [g, g2, hb, show ¬ i = j by omega]
theorem low_clr {x : BitVec 64} {i : Nat} (hi : i < 64) (h1 : x.getLsbD i = true) (h0 : ∀ j, j < i → x.getLsbD j = false) (j : Nat) : (x &&& (x - 1)).getLsbD j = (x.getLsbD j && decide (j ≠ i)) := by
  rw [BitVec.getLsbD_and, sub1_bits hi h1 h0]
  by_cases g : j < i
  · simp [h0 j g]
  · by_cases g2 : j = i
    · subst g2; simp
    · simp [g, g2]
/-- how many bits, as the library counts them -/
def bcnt (a : BitVec 64) : Int := giand (gl2i (let v1 := a - ((glushr a 1) &&& (6148914691236517205 : BitVec 64)); let v2 := (v1 &&& (3689348814741910323 : BitVec 64)) + ((glushr v1 2) &&& (3689348814741910323 : BitVec 64)); let v3 := (v2 + (glushr v2 4)) &&& (1085102592571150095 : BitVec 64); let v4 := v3 + (glushr v3 8); let v5 := v4 + (glushr v4 16); v5 + (glushr v5 32))) 127
section LO
variable {kd : gKd} {ln : gLn} {M : gM}
theorem sJ13 {post : Int → gM → Prop} {a : BitVec 64} (h : post (bcnt a) M) : wJ13_bitCount_95d88 kd ln post a M := by
  unfold wJ13_bitCount_95d88
  rintro v1 rfl v2 rfl v3 rfl v4 rfl v5 rfl v6 rfl
  exact ⟨rng_of _, h⟩
theorem bcnt_low (i : Nat) (hi : i < 64) : bcnt (BitVec.twoPow 64 i - 1) = i := by
  have key : ∀ i : Fin 64, bcnt (BitVec.twoPow 64 (i : Nat) - 1) = ((i : Nat) : Int) := by decide +kernel
  exact key ⟨i, hi⟩
/-- the lowest square of a set -/
theorem ex_low {x : BitVec 64} (h : x ≠ 0) : ∃ i, i < 64 ∧ x.getLsbD i = true ∧ ∀ j, j < i → x.getLsbD j = false := by
  have hex : ∃ i, i < 64 ∧ x.getLsbD i = true := by
    apply Classical.byContradiction
    intro q
    apply h
    apply BitVec.eq_of_getLsbD_eq
    intro i hi
    cases g : x.getLsbD i
    · simp
    · exact absurd ⟨i, hi, g⟩ q
  obtain ⟨i, hi, h1⟩ := hex
  induction i using Nat.strongRecOn with
  | _ i ih =>
    by_cases q : ∃ j, j < i ∧ x.getLsbD j = true
    · obtain ⟨j, hj, h2⟩ := q
      exact ih j hj (by omega) h2
    · refine ⟨i, hi, h1, fun j hj => ?_⟩
      cases g : x.getLsbD j
      · rfl
      · exact absurd ⟨j, hj, g⟩ q
theorem sX6_lowest {post : Int → gM → Prop} {a : BitVec 64} {i : Nat} (hi : i < 64) (h1 : a.getLsbD i = true) (h0 : ∀ j, j < i → a.getLsbD j = false) (h : post i M) : wX6_lowest kd ln post a M := by
  unfold wX6_lowest
  rw [low_pow hi h1 h0]
  refine sJ13 fun _ => ?_
  rw [bcnt_low i hi]
  exact h
theorem sX6_has {post : Int → gM → Prop} {a : BitVec 64} {x : Int} (hx : 0 ≤ x ∧ x < 64) (ht : a.getLsbD x.toNat = true → post 1 M) (hf : a.getLsbD x.toNat = false → post 0 M) : wX6_has kd ln post a x M := by
  unfold wX6_has
  rw [gcmp_0, glushr_n hx]
  have e : a >>> x.toNat &&& (1 : BitVec 64) = 0 ↔ a.getLsbD x.toNat = false := by
    constructor
    · intro q
      have := congrArg (fun v => v.getLsbD 0) q
      simpa using this
    · intro q
      apply BitVec.eq_of_getLsbD_eq
      intro j hj
      rw [BitVec.getLsbD_and]
      rcases Nat.eq_zero_or_pos j with rfl | q2
      · simp [q]
      · have : (1 : BitVec 64).getLsbD j = false := by
          show (1#64).getLsbD j = false
          rw [BitVec.getLsbD_one]
          simp
          omega
        rw [this]
        simp
  refine ⟨fun q => hf (e.mp q), fun q => ht ?_⟩
  cases g : a.getLsbD x.toNat
  · exact absurd (e.mpr g) q
  · rfl
theorem sX6_bit {post : BitVec 64 → gM → Prop} {x : Int} (hx : 0 ≤ x ∧ x < 64) (h : post (BitVec.twoPow 64 x.toNat) M) : wX6_bit kd ln post x M := by
  unfold wX6_bit
  rw [glshl_1 hx]
  exact h
/-- a set of squares of the board -/
def sq (n : Int) (a : BitVec 64) (p : Int → Prop) : Prop := ∀ i : Nat, i < 64 → (a.getLsbD i = true ↔ (mOn n i ∧ p i))
theorem sq_cong {n : Int} {a : BitVec 64} {p q : Int → Prop} (h : sq n a p) (e : ∀ x, mOn n x → (p x ↔ q x)) : sq n a q := fun i hi => by
  rw [h i hi]
  constructor
  · rintro ⟨a, b⟩; exact ⟨a, (e _ a).mp b⟩
  · rintro ⟨a, b⟩; exact ⟨a, (e _ a).mpr b⟩
theorem sq_and {n : Int} {a b : BitVec 64} {p q : Int → Prop} (h : sq n a p) (h' : sq n b q) : sq n (a &&& b) (fun x => p x ∧ q x) := fun i hi => by
  rw [BitVec.getLsbD_and, Bool.and_eq_true, h i hi, h' i hi]
  constructor
  · rintro ⟨⟨a, b⟩, ⟨_, c⟩⟩; exact ⟨a, b, c⟩
  · rintro ⟨a, b, c⟩; exact ⟨⟨a, b⟩, ⟨a, c⟩⟩
theorem sq_or {n : Int} {a b : BitVec 64} {p q : Int → Prop} (h : sq n a p) (h' : sq n b q) : sq n (a ||| b) (fun x => p x ∨ q x) := fun i hi => by
  rw [BitVec.getLsbD_or, Bool.or_eq_true, h i hi, h' i hi]
  constructor
  · rintro (⟨a, b⟩ | ⟨a, b⟩)
    · exact ⟨a, Or.inl b⟩
    · exact ⟨a, Or.inr b⟩
  · rintro ⟨a, b | b⟩
    · exact Or.inl ⟨a, b⟩
    · exact Or.inr ⟨a, b⟩
theorem sq_diff {n : Int} {a b : BitVec 64} {p q : Int → Prop} (h : sq n a p) (h' : sq n b q) : sq n (a &&& (b ^^^ (18446744073709551615 : BitVec 64))) (fun x => p x ∧ ¬ q x) := fun i hi => by
  have e : (18446744073709551615 : BitVec 64).getLsbD i = true := by
    show (BitVec.allOnes 64).getLsbD i = true
    rw [BitVec.getLsbD_allOnes]
    simp [hi]
  rw [BitVec.getLsbD_and, BitVec.getLsbD_xor, e, Bool.and_eq_true, h i hi]
  constructor
  · rintro ⟨⟨a1, a2⟩, a3⟩
    refine ⟨a1, a2, fun a4 => ?_⟩
    rw [(h' i hi).mpr ⟨a1, a4⟩] at a3
    exact absurd a3 (by decide)
  · rintro ⟨a1, a2, a3⟩
    refine ⟨⟨a1, a2⟩, ?_⟩
    cases g : b.getLsbD i
    · rfl
    · exact absurd ((h' i hi).mp g).2 a3
theorem sq_bit {n x : Int} (hN : mN n) (hx : mOn n x) : sq n (BitVec.twoPow 64 x.toNat) (fun y => y = x) := fun i hi => by
  have := mSq hN hx
  rw [BitVec.getLsbD_twoPow]
  simp only [Bool.and_eq_true, decide_eq_true_eq]
  constructor
  · rintro ⟨_, e⟩
    have : (i : Int) = x := by omega
    rw [this]; exact ⟨hx, rfl⟩
  · rintro ⟨_, e⟩
    exact ⟨by omega, by omega⟩
theorem sq_0 {n : Int} {p : Int → Prop} (h : ∀ x, mOn n x → ¬ p x) : sq n (0 : BitVec 64) p := fun i hi => by
  constructor
  · intro q; simp at q
  · rintro ⟨a, b⟩; exact absurd b (h _ a)
/-- the lowest square, and what is left -/
theorem sq_low {n : Int} {a : BitVec 64} {p : Int → Prop} (h : sq n a p) (ha : a ≠ 0) : ∃ i : Nat, i < 64 ∧ a.getLsbD i = true ∧ (∀ j, j < i → a.getLsbD j = false) ∧ mOn n i ∧ p i ∧ (∀ y : Int, mOn n y → p y → (i : Int) ≤ y) ∧ sq n (a &&& (a - 1)) (fun x => p x ∧ x ≠ i) := by
  obtain ⟨i, hi, h1, h0⟩ := ex_low ha
  have hp := (h i hi).mp h1
  refine ⟨i, hi, h1, h0, hp.1, hp.2, fun y hy hpy => ?_, fun j hj => ?_⟩
  · apply Classical.byContradiction
    intro g
    have hyi : y.toNat < i := by have := hy.1; omega
    have := (h y.toNat (by omega)).mpr (by rw [show ((y.toNat : Nat) : Int) = y by have := hy.1; omega]; exact ⟨hy, hpy⟩)
    rw [h0 _ hyi] at this
    exact absurd this (by decide)
  · rw [low_clr hi h1 h0, Bool.and_eq_true, h j hj]
    simp only [decide_eq_true_eq]
    constructor
    · rintro ⟨⟨a1, a2⟩, a3⟩; exact ⟨a1, a2, by omega⟩
    · rintro ⟨a1, a2, a3⟩; exact ⟨⟨a1, a2⟩, by omega⟩
end LO
