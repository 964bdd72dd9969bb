section TA
variable {kd : gKd} {ln : gLn} {M : gM} {h n m w b k t : Int}
/-- byte j of an int, as the class reads it -/
theorem sh5u {j : Int} (hj : 0 ≤ j ∧ j < 32) : (((gI j).toUInt32 &&& Int32.toUInt32 31).toBitVec % 32#32).toNat = j.toNat := by
  have key : ∀ i : Fin 32, (((gI ((i : Nat) : Int)).toUInt32 &&& Int32.toUInt32 31).toBitVec % 32#32).toNat = i := by decide +kernel
  obtain ⟨i, rfl⟩ := Int.eq_ofNat_of_zero_le hj.1
  exact key ⟨i, by omega⟩
theorem ush_and {v j : Int} (hv : rng v) (hj : 0 ≤ j ∧ j < 25) : giand (giushr v j) 255 = v / 2 ^ j.toNat % 256 := by
  have e : (gI (giushr v j) &&& gI 255).toBitVec.toNat = (v / 2 ^ j.toNat % 256).toNat := by
    unfold giushr
    rw [gI_of]
    show ((gI v).toBitVec >>> (((gI j).toUInt32 &&& Int32.toUInt32 31).toBitVec % 32#32) &&& (gI 255).toBitVec).toNat = _
    rw [BitVec.toNat_and, BitVec.ushiftRight_eq', sh5u (by omega), BitVec.toNat_ushiftRight, Nat.shiftRight_eq_div_pow, show (gI 255).toBitVec.toNat = 2 ^ 8 - 1 from by decide +kernel, Nat.and_two_pow_sub_one_eq_mod]
    have e2 : (gI v).toBitVec.toNat = (v % 4294967296).toNat := by
      show (BitVec.ofInt 32 v).toNat = _
      rw [BitVec.toNat_ofInt]
      rfl
    rw [e2]
    obtain ⟨s, es⟩ : ∃ s : Nat, s = j.toNat := ⟨_, rfl⟩
    rw [← es]
    have hs : s ≤ 24 := by omega
    obtain ⟨d, ed⟩ : ∃ d : Nat, 32 = s + (8 + d) := ⟨24 - s, by omega⟩
    have p32 : (4294967296 : Int) = 2 ^ s * (256 * 2 ^ d) := by
      rw [show (4294967296 : Int) = 2 ^ 32 by decide, ed, Int.pow_add, Int.pow_add]
      rfl
    have h1 : v % 4294967296 / 2 ^ s % 256 = v / 2 ^ s % 256 := by
      have hp : (0 : Int) < 2 ^ s := Int.pow_pos (by decide)
      have hv2 : v = v % 4294967296 + 2 ^ s * (256 * 2 ^ d * (v / 4294967296)) := by
        have h0 : v = v % 4294967296 + 4294967296 * (v / 4294967296) := by omega
        have h5 : 2 ^ s * (256 * 2 ^ d * (v / 4294967296)) = 4294967296 * (v / 4294967296) := by
          rw [← Int.mul_assoc, ← p32]
        rw [h5]
        exact h0
      have h2 : v / 2 ^ s = v % 4294967296 / 2 ^ s + 256 * 2 ^ d * (v / 4294967296) := by
        conv => lhs; rw [hv2]
        rw [Int.add_mul_ediv_left _ _ (by omega)]
      rw [h2, Int.mul_assoc, Int.add_mul_emod_self_left]
    have h3 : (((v % 4294967296).toNat / 2 ^ s % 2 ^ 8 : Nat) : Int) = v % 4294967296 / 2 ^ s % 256 := by
      obtain ⟨a, ea⟩ : ∃ a : Nat, v % 4294967296 = a := ⟨(v % 4294967296).toNat, by omega⟩
      have e5 : (((2 ^ s : Nat)) : Int) = 2 ^ s := by norm_cast
      rw [ea, Int.toNat_natCast, ← e5]
      rfl
    rw [h1] at h3
    omega
  have r : 0 ≤ v / 2 ^ j.toNat % 256 ∧ v / 2 ^ j.toNat % 256 < 256 := ⟨Int.emod_nonneg _ (by decide), Int.emod_lt_of_pos _ (by decide)⟩
  unfold giand
  show (gI (giushr v j) &&& gI 255).toBitVec.toInt = _
  rw [BitVec.toInt_eq_toNat_of_lt (by rw [e]; omega), e]
  omega
abbrev tB (v j : Int) : Int := v / 2 ^ (24 - 8 * j).toNat % 256
theorem sX6_addToTape {post : gM → Prop} {v z : Int} (hl : ln h 9 = 40) (hv : rng v) (h10 : M h 10 (-1) = z) (hz : 0 ≤ z ∧ z + 4 ≤ 40) (hp : ∀ M', (∀ i, M' h 9 i = if z ≤ i ∧ i < z + 4 then tB v (i - z) else M h 9 i) → M' h 10 (-1) = z + 4 → Ch h [9, 10] M M' → post M') : wX6_addToTape kd ln post h v M := by
  have loop : ∀ (j i : Nat) (M' : gM), i ≤ 4 → (∀ x, M' h 9 x = if z ≤ x ∧ x < z + i then tB v (x - z) else M h 9 x) → M' h 10 (-1) = z + i → Ch h [9, 10] M M' → 4 - i < j → wX6_addToTape_3 kd ln post h v j (24 - 8 * (i : Int)) M' := by
    intro j
    induction j with
    | zero => intro i M' h1 h2 h3 h4 h5; omega
    | succ j ih =>
      intro i M' h1 h2 h3 h4 h5
      unfold wX6_addToTape_3
      refine ⟨by omega, fun q => hp M' ?_ ?_ h4, fun q => ?_⟩
      · have : i = 4 := by omega
        subst this
        exact h2
      · have : i = 4 := by omega
        subst this
        exact h3
      · have br := ush_and (j := 24 - 8 * (i : Int)) hv (by omega)
        have e9 : (gu M' h 9 (z + i) (giand (giushr v (24 - 8 * (i : Int))) 255)) h 10 (-1) = z + i := by rw [gu_k (by decide)]; exact h3
        rw [hl, h3, e9]
        refine ⟨by omega, fun _ => ⟨by omega, ?_, fun _ => ⟨by omega, ?_⟩⟩⟩
        · rw [br]
          have := Int.emod_nonneg (v / 2 ^ (24 - 8 * (i : Int)).toNat) (show (256 : Int) ≠ 0 by decide)
          have := Int.emod_lt_of_pos (v / 2 ^ (24 - 8 * (i : Int)).toNat) (show (0 : Int) < 256 by decide)
          omega
        · rw [show 24 - 8 * (i : Int) + (-8) = 24 - 8 * ((i + 1 : Nat) : Int) by omega]
          refine ih (i + 1) _ (by omega) (fun x => ?_) (by rw [gu_s]; omega) (Ch.up (Ch.up h4 (by decide) _ _) (by decide) _ _) (by omega)
          rw [gu_k (by decide), gu_v, h2 x, br]
          by_cases g : x = z + i
          · rw [if_pos g, if_pos (by omega), g]
            unfold tB
            rw [show z + (i : Int) - z = i by omega]
          · rw [if_neg g]
            by_cases g2 : z ≤ x ∧ x < z + i
            · rw [if_pos g2, if_pos (by omega)]
            · rw [if_neg g2, if_neg (by omega)]
  unfold wX6_addToTape
  refine ⟨5, loop 5 0 M (by omega) (fun x => ?_) (by omega) Ch.rf (by omega)⟩
  rw [if_neg (by omega)]
theorem sX6_feed {post : Int → gM → Prop} {a1 a2 a3 a4 a5 z : Int} (hl : ln h 9 = 40) (r1 : rng a1) (r2 : rng a2) (r3 : rng a3) (r4 : rng a4) (r5 : rng a5) (h10 : M h 10 (-1) = z) (hz : 0 ≤ z ∧ z ≤ 40) (hok : z + 20 ≤ 40 → ∀ M', (∀ i, M' h 9 i = if z ≤ i ∧ i < z + 20 then tB (rw5 a1 a2 a3 a4 a5 ((i - z) / 4).toNat) ((i - z) % 4) else M h 9 i) → M' h 10 (-1) = z + 20 → Ch h [9, 10] M M' → post (z + 20) M') (hno : ¬ z + 20 ≤ 40 → post (-1) M) : wX6_feed kd ln post h a1 a2 a3 a4 a5 M := by
  unfold wX6_feed
  rw [h10]
  refine fun _ => ⟨by omega, fun g => ?_, hno⟩
  refine sX6_addToTape hl r1 h10 (by omega) (fun M1 b1 c1 d1 => ?_)
  refine sX6_addToTape hl r2 c1 (by omega) (fun M2 b2 c2 d2 => ?_)
  refine sX6_addToTape hl r3 c2 (by omega) (fun M3 b3 c3 d3 => ?_)
  refine sX6_addToTape hl r4 c3 (by omega) (fun M4 b4 c4 d4 => ?_)
  refine sX6_addToTape hl r5 c4 (by omega) (fun M5 b5 c5 d5 => ?_)
  have e20 : z + 4 + 4 + 4 + 4 + 4 = z + 20 := by omega
  rw [c5, e20]
  refine fun _ => hok g M5 (fun i => ?_) (by rw [c5, e20]) ((((d1.tr d2).tr d3).tr d4).tr d5)
  rw [b5, b4, b3, b2, b1]
  by_cases g0 : z ≤ i ∧ i < z + 20
  · rw [if_pos g0]
    rcases (show (i - z) / 4 = 0 ∨ (i - z) / 4 = 1 ∨ (i - z) / 4 = 2 ∨ (i - z) / 4 = 3 ∨ (i - z) / 4 = 4 by omega) with e | e | e | e | e
    · rw [e, if_neg (by omega), if_neg (by omega), if_neg (by omega), if_neg (by omega), if_pos (by omega), show (i - z) % 4 = i - z by omega]; rfl
    · rw [e, if_neg (by omega), if_neg (by omega), if_neg (by omega), if_pos (by omega), show (i - z) % 4 = i - (z + 4) by omega]; rfl
    · rw [e, if_neg (by omega), if_neg (by omega), if_pos (by omega), show (i - z) % 4 = i - (z + 4 + 4) by omega]; rfl
    · rw [e, if_neg (by omega), if_pos (by omega), show (i - z) % 4 = i - (z + 4 + 4 + 4) by omega]; rfl
    · rw [e, if_pos (by omega), show (i - z) % 4 = i - (z + 4 + 4 + 4 + 4) by omega]; rfl
  · rw [if_neg g0, if_neg (by omega), if_neg (by omega), if_neg (by omega), if_neg (by omega), if_neg (by omega)]
theorem sX6_letterAt {post : Int → gM → Prop} {a : Nat} {v : Int} (ha : a = 0 ∨ a = 1) (hv : rng v) (hp : post (if a = 0 then (if v = 81 then 0 else if v = 82 then 1 else if v = 80 then 2 else -1) else (if v = 119 then 0 else if v = 98 then 1 else -1)) M) : wX6_letterAt kd ln post a v M := by
  unfold wX6_letterAt
  rcases ha with ha | ha
  · subst ha
    rw [if_pos rfl] at hp
    refine ⟨4, ?_⟩
    have g0 : gle 0 (0 : Int).toNat = 81 := by decide
    have g1 : gle 0 (0 + 1 : Int).toNat = 82 := by decide
    have g2 : gle 0 (0 + 1 + 1 : Int).toNat = 80 := by decide
    have l0 : gll 0 = 3 := by decide
    simp only [wX6_letterAt_2, g0, g1, g2, l0]
    refine ⟨by omega, by omega, fun q => by omega, fun _ => ⟨by omega, fun _ => ⟨hv, fun c1 => ?_, fun c1 => ?_⟩⟩⟩
    · refine ⟨by omega, by omega, fun q => by omega, fun _ => ⟨by omega, fun _ => ⟨hv, fun c2 => ?_, fun c2 => ?_⟩⟩⟩
      · refine ⟨by omega, by omega, fun q => by omega, fun _ => ⟨by omega, fun _ => ⟨hv, fun c3 => ?_, fun c3 => ?_⟩⟩⟩
        · rw [if_neg (fun e => c1 e.symm), if_neg (fun e => c2 e.symm), if_neg (fun e => c3 e.symm)] at hp
          exact ⟨by omega, by omega, fun _ => hp, fun q => by omega⟩
        · rw [if_neg (fun e => c1 e.symm), if_neg (fun e => c2 e.symm), if_pos c3.symm] at hp
          exact hp
      · rw [if_neg (fun e => c1 e.symm), if_pos c2.symm] at hp
        exact hp
    · rw [if_pos c1.symm] at hp
      exact hp
  · subst ha
    rw [if_neg (by decide)] at hp
    refine ⟨3, ?_⟩
    have g0 : gle 1 (0 : Int).toNat = 119 := by decide
    have g1 : gle 1 (0 + 1 : Int).toNat = 98 := by decide
    have l0 : gll 1 = 2 := by decide
    simp only [wX6_letterAt_2, g0, g1, l0]
    refine ⟨by omega, by omega, fun q => by omega, fun _ => ⟨by omega, fun _ => ⟨hv, fun c1 => ?_, fun c1 => ?_⟩⟩⟩
    · refine ⟨by omega, by omega, fun q => by omega, fun _ => ⟨by omega, fun _ => ⟨hv, fun c2 => ?_, fun c2 => ?_⟩⟩⟩
      · rw [if_neg (fun e => c1 e.symm), if_neg (fun e => c2 e.symm)] at hp
        exact ⟨by omega, by omega, fun _ => hp, fun q => by omega⟩
      · rw [if_neg (fun e => c1 e.symm), if_pos c2.symm] at hp
        exact hp
    · rw [if_pos c1.symm] at hp
      exact hp
end TA
