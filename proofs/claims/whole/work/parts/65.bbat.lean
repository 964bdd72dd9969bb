section BW
variable {n : Int} {nn : Nat}
theorem pow_t (a s : Nat) : (2 ^ a).testBit s = decide (a = s) := Nat.testBit_two_pow
theorem LB_sem (lo hi : Nat) (en : (nn : Int) = n) (hN : mN n) (hhi : hi ≤ nn - 1) : bSem n (bLB nn lo hi) (fun w b k => vP n w b ∧ (k ≠ w ∧ k ≠ b ∧ (lo : Int) ≤ k / n ∧ k / n ≤ hi)) := by
  have bit : ∀ W B s : Nat, s < 91 → ((Nat.land (bSet (bOn nn lo hi)) (bDf (2 ^ 91 - 1) (Nat.lor (2 ^ W) (2 ^ B)))).testBit s = true ↔ bOn nn lo hi s = true ∧ s ≠ W ∧ s ≠ B) := fun W B s hs => by
    show (bSet (bOn nn lo hi) &&& bDf (2 ^ 91 - 1) (Nat.lor (2 ^ W) (2 ^ B))).testBit s = true ↔ _
    rw [Nat.testBit_and, bSet_t, bDf_t, Nat.testBit_two_pow_sub_one]
    rw [show (Nat.lor (2 ^ W) (2 ^ B)).testBit s = (decide (W = s) || decide (B = s)) from by
      show (2 ^ W ||| 2 ^ B).testBit s = _
      rw [Nat.testBit_or, pow_t, pow_t]]
    simp only [Bool.and_eq_true, decide_eq_true_eq, hs, show s < 128 by omega, true_and, Bool.not_eq_true', Bool.or_eq_false_iff, decide_eq_false_iff_not]
    constructor
    · rintro ⟨a, b, c⟩; exact ⟨a, fun e => b e.symm, fun e => c e.symm⟩
    · rintro ⟨a, b, c⟩; exact ⟨a, fun e => b e.symm, fun e => c e.symm⟩
  unfold bLB
  refine rows_sem en hN (fun w b k hw hb hk => ?_) (fun w b hw hb s hs q => ?_)
  · rw [bit _ _ _ (by have := pd_r hN hk; omega), on_pd en hN hk]
    constructor
    · rintro ⟨a1, a2, a3⟩; exact ⟨fun e => a2 (by rw [e]), fun e => a3 (by rw [e]), a1⟩
    · rintro ⟨a2, a3, a1⟩; exact ⟨a1, fun e => a2 (pd_inj hN hk hw e), fun e => a3 (pd_inj hN hk hb e)⟩
  · have q := ((bit _ _ s hs).mp q).1
    refine on_sq en hN ?_
    unfold bOn at q ⊢
    simp only [Bool.and_eq_true, Nat.ble_eq] at q ⊢
    omega
theorem Dg_sem (en : (nn : Int) = n) (hN : mN n) : bSem n (bDg nn) (fun w b k => vP n w b ∧ k = b) := by
  unfold bDg
  refine rows_sem en hN (fun w b k hw hb hk => ?_) (fun w b hw hb s hs q => ?_)
  · rw [pow_t, decide_eq_true_eq]
    exact ⟨fun e => (pd_inj hN hb hk e).symm, fun e => by rw [e]⟩
  · rw [pow_t, decide_eq_true_eq] at q
    exact ⟨b, hb, q⟩
theorem Cp_os (en : (nn : Int) = n) (hN : mN n) : bOs n (bCp nn) (fun w b k => vP n w b ∧ ((b = k ∨ mNx n b k) ∧ ¬ (w = k ∨ mNx n w k))) := by
  unfold bCp
  refine rows_os en hN (fun w b k hw hb hk => ?_)
  have r3 := pd_r hN hk
  rw [bDf_t, bSet_t, bSet_t, ← nr_pd hN hb hk, ← nr_pd hN hw hk]
  simp only [show pd n k < 128 by omega, decide_true, Bool.true_and, Bool.and_eq_true, Bool.not_eq_true', Bool.not_eq_true]
end BW
