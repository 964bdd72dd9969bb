/-! A MOVE: from, to, what it becomes, in one number. -/
def mCd (f x q : Int) : Int := 512 * f + 8 * x + (q + 1)
def cF (c : Int) : Int := c / 512
def cT (c : Int) : Int := c / 8 % 64
def cB (c : Int) : Int := c % 8 - 1
theorem mCd_d {f x q : Int} (hf : 0 ≤ f ∧ f < 64) (hx : 0 ≤ x ∧ x < 64) (hq : -1 ≤ q ∧ q ≤ 3) : cF (mCd f x q) = f ∧ cT (mCd f x q) = x ∧ cB (mCd f x q) = q := by
  unfold mCd cF cT cB
  omega
/-- row i of the reference's moves: seven numbers -/
def mRw (r : Int) (M : gM) (i : Int) (v : Nat → Int) : Prop := ∀ s : Nat, s < 7 → M r (13 + s) i = v s
abbrev mSl : List Nat := [12, 13, 14, 15, 16, 17, 18, 19]
section AD
variable {kd : gKd} {ln : gLn} {M : gM} {r n : Int}
def mLn7 (ln : gLn) (r : Int) : Prop := ln r 13 = 48 ∧ ln r 14 = 48 ∧ ln r 15 = 48 ∧ ln r 16 = 48 ∧ ln r 17 = 48 ∧ ln r 18 = 48 ∧ ln r 19 = 48
theorem s7 {s : Nat} (h : s < 7) : s = 0 ∨ s = 1 ∨ s = 2 ∨ s = 3 ∨ s = 4 ∨ s = 5 ∨ s = 6 := by omega
theorem sX7_add_50 {post : gM → Prop} {a1 a2 a3 a4 a5 a6 a7 x : Int} {k6 : Int → gM → Prop} (hl : mLn7 ln r) (hx : 1 ≤ x ∧ x < 48) (h : ∀ M', (∀ (s : Nat) (i : Int), s < 7 → M' r (13 + s) i = if i = x then M r (13 + s) (x - 1) else M r (13 + s) i) → M' r 12 = M r 12 → Ch r mSl M M' → k6 (x + (-1)) M') : wX7_add_50 kd ln post r a1 a2 a3 a4 a5 a6 a7 k6 x M := by
  obtain ⟨l0, l1, l2, l3, l4, l5, l6⟩ := hl
  unfold wX7_add_50
  rw [l0, l1, l2, l3, l4, l5, l6]
  refine ⟨by omega, by omega, fun _ => ⟨by omega, by omega, by omega, fun _ => ⟨by omega, by omega, by omega, fun _ => ⟨by omega, by omega, by omega, fun _ => ⟨by omega, by omega, by omega, fun _ => ⟨by omega, by omega, by omega, fun _ => ⟨by omega, by omega, by omega, fun _ => ⟨by omega, ?_⟩⟩⟩⟩⟩⟩⟩⟩
  apply h
  · intro s i hs
    have hne : x - 1 ≠ x := by omega
    rcases s7 hs with rfl | rfl | rfl | rfl | rfl | rfl | rfl <;> simp [gu, hne]
  · funext i
    simp [gu]
  · refine Ch.up (Ch.up (Ch.up (Ch.up (Ch.up (Ch.up (Ch.up Ch.rf ?_ _ _) ?_ _ _) ?_ _ _) ?_ _ _) ?_ _ _) ?_ _ _) ?_ _ _ <;> decide
theorem sX7_add_168 {post : gM → Prop} {x : Int} {v : Nat → Int} (hl : mLn7 ln r) (hv : ∀ s, s < 7 → rng (v s)) (hx : 0 ≤ x ∧ x < 48) (hc : rng (M r 12 (-1) + 1)) (h : ∀ M', (∀ (s : Nat) (i : Int), s < 7 → M' r (13 + s) i = if i = x then v s else M r (13 + s) i) → M' r 12 (-1) = M r 12 (-1) + 1 → Ch r mSl M M' → post M') : wX7_add_168 kd ln post r (v 0) (v 1) (v 2) (v 3) (v 4) (v 5) (v 6) x M := by
  obtain ⟨l0, l1, l2, l3, l4, l5, l6⟩ := hl
  unfold wX7_add_168
  rw [l0, l1, l2, l3, l4, l5, l6]
  have e12 : (gu (gu (gu (gu (gu (gu (gu M r 13 x (v 0)) r 14 x (v 1)) r 15 x (v 2)) r 16 x (v 3)) r 17 x (v 4)) r 18 x (v 5)) r 19 x (v 6)) r 12 (-1) = M r 12 (-1) := by simp [gu]
  rw [e12]
  refine ⟨by omega, by omega, hv 0 (by omega), by omega, by omega, hv 1 (by omega), by omega, by omega, hv 2 (by omega), by omega, by omega, hv 3 (by omega), by omega, by omega, hv 4 (by omega), by omega, by omega, hv 5 (by omega), by omega, by omega, hv 6 (by omega), fun _ => ⟨hc, ?_⟩⟩
  apply h
  · intro s i hs
    rcases s7 hs with rfl | rfl | rfl | rfl | rfl | rfl | rfl <;> simp [gu]
  · simp [gu]
  · refine Ch.up (Ch.up (Ch.up (Ch.up (Ch.up (Ch.up (Ch.up (Ch.up Ch.rf ?_ _ _) ?_ _ _) ?_ _ _) ?_ _ _) ?_ _ _) ?_ _ _) ?_ _ _) ?_ _ _ <;> decide
end AD
