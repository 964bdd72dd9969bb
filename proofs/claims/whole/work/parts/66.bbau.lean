section BW
variable {n : Int} {nn : Nat}
/-- positions with Black to move -/
theorem B_sem {m : Nat} (en : (nn : Int) = n) (hN : mN n) (hm : m ≤ 2) : bSem n (bB nn m) (fun w b k => mLg n m w b k 1) := by
  have h4 : 4 ≤ n := hN.1
  unfold bB
  rcases (show m = 0 ∨ m = 1 ∨ m = 2 by omega) with rfl | rfl | rfl
  · rw [show Nat.beq 0 2 = false from rfl, cond_false]
    refine (LB_sem 0 (nn - 1) en hN (by omega)).iff (fun w b k hw hb hk => ?_)
    have e := mSq hN hk
    constructor
    · rintro ⟨a1, a2, a3, _⟩; exact ⟨a1.1, fun e => a2 e.symm, fun e => a3 e.symm, a1.2, fun e => absurd e (by decide), Or.inl rfl⟩
    · rintro ⟨a1, a2, a3, a4, _⟩; exact ⟨⟨a1, a4⟩, fun e => a2 e.symm, fun e => a3 e.symm, by omega⟩
  · rw [show Nat.beq 1 2 = false from rfl, cond_false]
    refine (LB_sem 0 (nn - 1) en hN (by omega)).iff (fun w b k hw hb hk => ?_)
    have e := mSq hN hk
    constructor
    · rintro ⟨a1, a2, a3, _⟩; exact ⟨a1.1, fun e => a2 e.symm, fun e => a3 e.symm, a1.2, fun e => absurd e (by decide), Or.inl rfl⟩
    · rintro ⟨a1, a2, a3, a4, _⟩; exact ⟨⟨a1, a4⟩, fun e => a2 e.symm, fun e => a3 e.symm, by omega⟩
  · rw [show Nat.beq 2 2 = true from rfl, cond_true]
    refine (LB_sem 1 (nn - 2) en hN (by omega)).iff (fun w b k hw hb hk => ?_)
    constructor
    · rintro ⟨a1, a2, a3, a4⟩; exact ⟨a1.1, fun e => a2 e.symm, fun e => a3 e.symm, a1.2, fun _ => by omega, Or.inl rfl⟩
    · rintro ⟨a1, a2, a3, a4, a5, _⟩; exact ⟨⟨a1, a4⟩, fun e => a2 e.symm, fun e => a3 e.symm, by have := a5 rfl; omega⟩
theorem LB0_q {w b k : Int} (en : (nn : Int) = n) (hN : mN n) (hv : vP n w b) (y : Int) (hy : mOn n y) : (vP n w b ∧ (y ≠ w ∧ y ≠ b ∧ ((0 : Nat) : Int) ≤ y / n ∧ y / n ≤ ((nn - 1 : Nat) : Int))) ↔ (y ≠ w ∧ y ≠ b) := by
  have e := mSq hN hy
  have h4 : 4 ≤ n := hN.1
  constructor
  · rintro ⟨_, a, b, _⟩; exact ⟨a, b⟩
  · rintro ⟨a, b⟩; exact ⟨hv, a, b, by omega⟩
theorem At_os {m : Nat} (en : (nn : Int) = n) (hN : mN n) (hm : m ≤ 2) : bOs n (bAt nn m) (fun w b k => vP n w b ∧ mSt n m w k b) := by
  have h4 : 4 ≤ n := hN.1
  have D := Dg_sem (nn := nn) en hN
  unfold bAt
  have sl : ∀ m : Nat, (m = 0 ∨ m = 1) → bOs n (bSd m (bLB nn 0 (nn - 1)) (bDg nn)) (fun w b k => vP n w b ∧ mSt n m w k b) := fun m hm => by
    refine (bSd_sem hN hm (LB_sem 0 (nn - 1) en hN (by omega)) D (fun w b x q y hy => LB0_q (k := 0) en hN q.1 y hy)).iff (fun w b k hw hb hk => ?_)
    constructor
    · rintro ⟨x, a1, a2, a3, a4, a5, rfl⟩
      exact ⟨a5, Or.inr ⟨by omega, a2, a3⟩⟩
    · rintro ⟨a1, a2 | a2⟩
      · omega
      · exact ⟨b, hb, a2.2.1, a2.2.2, mBt_self, a1, rfl⟩
  rcases (show m = 0 ∨ m = 1 ∨ m = 2 by omega) with rfl | rfl | rfl
  · rw [show Nat.beq 0 2 = false from rfl, cond_false]
    exact sl 0 (Or.inl rfl)
  · rw [show Nat.beq 1 2 = false from rfl, cond_false]
    exact sl 1 (Or.inr rfl)
  · rw [show Nat.beq 2 2 = true from rfl, cond_true]
    have s8 := (sh_k (sf := -1) (sr := 1) (d := 8) hN D (by omega) (by decide) (by decide)).1
    have s10 := (sh_k (sf := 1) (sr := 1) (d := 10) hN D (by omega) (by decide) (by decide)).1
    refine (s8.lor s10).iff (fun w b k hw hb hk => ?_)
    constructor
    · rintro (⟨k', a1, a2, a3, rfl⟩ | ⟨k', a1, a2, a3, rfl⟩)
      · exact ⟨a3, Or.inl ⟨rfl, by unfold stp at a2; unfold mPw; omega⟩⟩
      · exact ⟨a3, Or.inl ⟨rfl, by unfold stp at a2; unfold mPw; omega⟩⟩
    · rintro ⟨a1, a2 | a2⟩
      · have a3 := a2.2
        unfold mPw at a3
        rcases a3.2 with g | g
        · exact Or.inr ⟨b, hb, by unfold stp; omega, a1, rfl⟩
        · exact Or.inl ⟨b, hb, by unfold stp; omega, a1, rfl⟩
      · exact absurd rfl a2.1
theorem W_sem {m : Nat} (en : (nn : Int) = n) (hN : mN n) (hm : m ≤ 2) : bSem n (bW nn m) (fun w b k => mLg n m w b k 0) := by
  unfold bW
  refine ((B_sem en hN hm).df (At_os en hN hm)).iff (fun w b k hw hb hk => ?_)
  constructor
  · rintro ⟨⟨a1, a2, a3, a4, a5, _⟩, q⟩
    exact ⟨a1, a2, a3, a4, a5, Or.inr (fun g => q ⟨⟨a1, a4⟩, g⟩)⟩
  · rintro ⟨a1, a2, a3, a4, a5, a6⟩
    exact ⟨⟨a1, a2, a3, a4, a5, Or.inl rfl⟩, fun q => (a6.resolve_left (by decide)) q.2⟩
/-- Black's moves: takes, and others -/
theorem bk_split {m w b k x : Int} (hw : mOn n w) (hL : mLg n m w b k 1) : mBk n m w b k x ↔ (x = k ∧ mNx n b k ∧ ¬ mNx n w k) ∨ (x ≠ k ∧ mNx n b x ∧ mLg n m w x k 0) := by
  constructor
  · intro h
    by_cases g : x = k
    · subst g; exact Or.inl ⟨rfl, h.1, h.2.1⟩
    · exact Or.inr ⟨g, h.1, fun e => hL.2.2.2.1 (mNx_sym.mp (e ▸ h.1)), hL.2.1, g, h.2.1, hL.2.2.2.2.1, Or.inr h.2.2⟩
  · rintro (⟨rfl, h1, h2⟩ | ⟨h1, h2, h3⟩)
    · refine ⟨h1, h2, fun q => ?_⟩
      rcases q with q | q
      · have := q.2.1; omega
      · exact q.2.1.1 ⟨rfl, rfl⟩
    · exact ⟨h2, h3.2.2.2.1, h3.2.2.2.2.2.resolve_left (by decide)⟩
end BW
