section BV
variable {n : Int} {nn : Nat}
theorem on_pd {x : Int} {lo hi : Nat} (en : (nn : Int) = n) (hN : mN n) (hx : mOn n x) : bOn nn lo hi (pd n x) = true ↔ (lo : Int) ≤ x / n ∧ x / n ≤ hi := by
  obtain ⟨c1, c2, -⟩ := pd_c hN hx
  have e := mSq hN hx
  unfold bOn
  rw [c1, c2]
  simp only [Bool.and_eq_true, Nat.ble_eq]
  omega
theorem on_sq {s : Nat} (en : (nn : Int) = n) (hN : mN n) (h : bOn nn 0 (nn - 1) s = true) : ∃ x, mOn n x ∧ pd n x = s := by
  unfold bOn at h
  simp only [Bool.and_eq_true, Nat.ble_eq] at h
  have hn4 : 4 ≤ n := hN.1
  have q := mSq_of hN (f := ((s % 9 : Nat) : Int) - 1) (r := ((s / 9 : Nat) : Int) - 1) (by omega) (by omega)
  refine ⟨_, q.1, ?_⟩
  unfold pd
  rw [q.2.1, q.2.2]
  omega
theorem nr_pd {x y : Int} (hN : mN n) (hx : mOn n x) (hy : mOn n y) : bNr (pd n x) (pd n y) = true ↔ (x = y ∨ mNx n x y) := by
  obtain ⟨c1, c2, -⟩ := pd_c hN hx
  obtain ⟨c3, c4, -⟩ := pd_c hN hy
  have e1 := mSq hN hx
  have e2 := mSq hN hy
  have e3 := mSq_iff hN hx hy
  unfold bNr
  rw [c1, c2, c3, c4]
  simp only [Bool.and_eq_true, Nat.ble_eq]
  unfold mNx
  omega
abbrev vP (n w b : Int) : Prop := w ≠ b ∧ ¬ mNx n w b
theorem rows_os {row : Nat → Nat → Nat} {R : Int → Int → Int → Prop} (en : (nn : Int) = n) (hN : mN n) (h : ∀ w b k, mOn n w → mOn n b → mOn n k → ((row (pd n w) (pd n b)).testBit (pd n k) = true ↔ R w b k)) : bOs n (bRows nn row) (fun w b k => vP n w b ∧ R w b k) := by
  intro w b k hw hb hk
  have r1 := pd_r hN hw
  have r2 := pd_r hN hb
  have r3 := pd_r hN hk
  have e1 := mSq hN hw
  have e2 := mSq hN hb
  unfold ix
  rw [bRows_t nn row (by omega) (by omega) (by omega)]
  have o1 := (on_pd (lo := 0) (hi := nn - 1) en hN hw).mpr (by omega)
  have o2 := (on_pd (lo := 0) (hi := nn - 1) en hN hb).mpr (by omega)
  have o3 := nr_pd hN hw hb
  rw [o1, o2]
  cases g : bNr (pd n w) (pd n b)
  · have : vP n w b := ⟨fun q => by rw [o3.mpr (Or.inl q)] at g; exact absurd g (by decide), fun q => by rw [o3.mpr (Or.inr q)] at g; exact absurd g (by decide)⟩
    simp only [Bool.not_false, Bool.and_self, Bool.true_and, h w b k hw hb hk]
    exact ⟨fun q => ⟨this, q⟩, fun q => q.2⟩
  · simp only [Bool.not_true, Bool.and_false, Bool.false_and]
    refine ⟨fun q => absurd q (by decide), fun q => ?_⟩
    rcases o3.mp g with g2 | g2
    · exact absurd g2 q.1.1
    · exact absurd g2 q.1.2
theorem rows_sem {row : Nat → Nat → Nat} {R : Int → Int → Int → Prop} (en : (nn : Int) = n) (hN : mN n) (h : ∀ w b k, mOn n w → mOn n b → mOn n k → ((row (pd n w) (pd n b)).testBit (pd n k) = true ↔ R w b k)) (hs : ∀ w b, mOn n w → mOn n b → ∀ s, s < 91 → (row (pd n w) (pd n b)).testBit s = true → ∃ k, mOn n k ∧ pd n k = s) : bSem n (bRows nn row) (fun w b k => vP n w b ∧ R w b k) := by
  intro i
  constructor
  · intro q
    obtain ⟨W, B, K, a1, a2, a3, rfl⟩ := bRows_s nn row q
    rw [bRows_t nn row a1 a2 a3] at q
    simp only [Bool.and_eq_true] at q
    obtain ⟨w, w1, w2⟩ := on_sq en hN q.1.1
    obtain ⟨b, b1, b2⟩ := on_sq en hN q.1.2.1
    subst w2 b2
    obtain ⟨k, k1, k2⟩ := hs w b w1 b1 K a3 q.2
    subst k2
    have := (rows_os en hN h w b k w1 b1 k1).mp (by
      unfold ix
      rw [bRows_t nn row a1 a2 a3]
      simp only [Bool.and_eq_true]
      exact q)
    exact ⟨w, b, k, w1, b1, k1, this, rfl⟩
  · rintro ⟨w, b, k, w1, b1, k1, h1, rfl⟩
    exact (rows_os en hN h w b k w1 b1 k1).mpr h1
end BV
