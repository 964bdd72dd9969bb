/-! THE GREATEST DISTANCE, by sets of positions held in one number: a square as 9 * (rank + 1) + file + 1 (so that no step leads round an edge), three of them as 8281 * w + 91 * b + k. -/
def bBld (f : Nat → Nat) (c : Nat) (e : Nat) : Nat → Nat := Nat.rec (fun o => f o) (fun e ih o => Nat.lor (ih o) (Nat.shiftLeft (ih (Nat.add o (Nat.pow 2 e))) (Nat.mul c (Nat.pow 2 e)))) e
theorem bBld_0 (f : Nat → Nat) (c o : Nat) : bBld f c 0 o = f o := rfl
theorem bBld_s (f : Nat → Nat) (c e o : Nat) : bBld f c (e + 1) o = bBld f c e o ||| (bBld f c e (o + 2 ^ e)) <<< (c * 2 ^ e) := rfl
theorem bBld_t {f : Nat → Nat} {c : Nat} (hf : ∀ i, f i < 2 ^ c) (e : Nat) : ∀ (o j i : Nat), i < c → (bBld f c e o).testBit (c * j + i) = (decide (j < 2 ^ e) && (f (o + j)).testBit i) := by
  induction e with
  | zero =>
    intro o j i hi
    rw [bBld_0]
    cases j with
    | zero => simp
    | succ j =>
      have h1 : f o < 2 ^ (c * (j + 1) + i) := Nat.lt_of_lt_of_le (hf o) (Nat.pow_le_pow_right (by decide) (by rw [Nat.mul_succ]; omega))
      rw [Nat.testBit_lt_two_pow h1]
      simp
  | succ e ih =>
    intro o j i hi
    rw [bBld_s, Nat.testBit_or, Nat.testBit_shiftLeft, ih o j i hi]
    rcases Nat.lt_or_ge j (2 ^ e) with h | h
    · have h1 : ¬ c * j + i ≥ c * 2 ^ e := by
        have : c * (j + 1) ≤ c * 2 ^ e := Nat.mul_le_mul_left c h
        rw [Nat.mul_succ] at this
        omega
      have h2 : j < 2 ^ (e + 1) := by rw [Nat.pow_succ]; omega
      simp [h, h1, h2]
    · obtain ⟨q, rfl⟩ : ∃ q, j = 2 ^ e + q := ⟨j - 2 ^ e, by omega⟩
      have h1 : c * (2 ^ e + q) + i - c * 2 ^ e = c * q + i := by rw [Nat.mul_add]; omega
      have h2 : c * (2 ^ e + q) + i ≥ c * 2 ^ e := by rw [Nat.mul_add]; omega
      rw [h1, ih (o + 2 ^ e) q i hi]
      have h3 : (2 ^ e + q < 2 ^ (e + 1)) = (q < 2 ^ e) := by rw [Nat.pow_succ]; apply propext; omega
      have h4 : ¬ (2 ^ e + q < 2 ^ e) := by omega
      simp [h2, h3, h4, Nat.add_assoc]
/-- a square of the wide board that lies on the board -/
def bOn (n lo hi s : Nat) : Bool := Nat.ble (lo + 1) (s / 9) && (Nat.ble (s / 9) (hi + 1) && (Nat.ble 1 (s % 9) && Nat.ble (s % 9) n))
def bNr (s t : Nat) : Bool := Nat.ble (s / 9) (t / 9 + 1) && (Nat.ble (t / 9) (s / 9 + 1) && (Nat.ble (s % 9) (t % 9 + 1) && Nat.ble (t % 9) (s % 9 + 1)))
def bSet (p : Nat → Bool) : Nat := bBld (fun s => cond (p s) 1 0) 1 7 0
theorem bSet_t (p : Nat → Bool) (s : Nat) : (bSet p).testBit s = (decide (s < 128) && p s) := by
  have h := bBld_t (f := fun s => cond (p s) 1 0) (c := 1) (fun i => by cases p i <;> decide) 7 0 s 0 (by decide)
  unfold bSet
  rw [show 1 * s + 0 = s by omega] at h
  rw [h]
  cases hp : p s <;> simp [hp]
/-- all triples whose kings may stand so, with a row of men's squares for each -/
def bRows (n : Nat) (row : Nat → Nat → Nat) : Nat := bBld (fun w => cond (bOn n 0 (n - 1) w) (bBld (fun b => cond (bOn n 0 (n - 1) b && !(bNr w b)) (row w b % 2 ^ 91) 0) 91 7 0 % 2 ^ 8281) 0) 8281 7 0
theorem bRows_t (n : Nat) (row : Nat → Nat → Nat) {w b k : Nat} (hw : w < 128) (hb : b < 91) (hk : k < 91) : (bRows n row).testBit (8281 * w + 91 * b + k) = (bOn n 0 (n - 1) w && (bOn n 0 (n - 1) b && !(bNr w b)) && (row w b).testBit k) := by
  unfold bRows
  rw [show 8281 * w + 91 * b + k = 8281 * w + (91 * b + k) by omega]
  rw [bBld_t (fun i => ?_) 7 0 w (91 * b + k) (by omega)]
  · rw [show (0 : Nat) + w = w by omega]
    have h7 : w < 2 ^ 7 := by omega
    have h7b : b < 2 ^ 7 := by omega
    cases h1 : bOn n 0 (n - 1) w
    · simp [h7]
    · simp only [cond_true, Bool.true_and, h7, decide_true]
      rw [Nat.testBit_mod_two_pow, bBld_t (fun i => ?_) 7 0 b k hk]
      · rw [show (0 : Nat) + b = b by omega]
        have h8 : 91 * b + k < 8281 := by omega
        cases h2 : (bOn n 0 (n - 1) b && !(bNr w b))
        · simp
        · simp only [cond_true, h8, h7b, decide_true, Bool.true_and]
          rw [Nat.testBit_mod_two_pow]
          simp only [hk, decide_true, Bool.true_and]
      · cases (bOn n 0 (n - 1) i && !(bNr w i))
        · exact Nat.two_pow_pos _
        · exact Nat.mod_lt _ (Nat.two_pow_pos _)
  · cases bOn n 0 (n - 1) i
    · exact Nat.two_pow_pos _
    · exact Nat.mod_lt _ (Nat.two_pow_pos _)
/-- nothing lies elsewhere -/
theorem bRows_s (n : Nat) (row : Nat → Nat → Nat) {i : Nat} (h : (bRows n row).testBit i = true) : ∃ w b k, w < 128 ∧ b < 91 ∧ k < 91 ∧ i = 8281 * w + 91 * b + k := by
  have h1 := h
  unfold bRows at h1
  have e1 : i = 8281 * (i / 8281) + i % 8281 := by omega
  rw [e1, bBld_t (fun i => ?_) 7 0 (i / 8281) (i % 8281) (by omega)] at h1
  · refine ⟨i / 8281, i % 8281 / 91, i % 91, ?_, by omega, by omega, by omega⟩
    rw [Bool.and_eq_true] at h1
    simpa using h1.1
  · cases bOn n 0 (n - 1) i
    · exact Nat.two_pow_pos _
    · exact Nat.mod_lt _ (Nat.two_pow_pos _)
/-! the sets -/
def bDf (a b : Nat) : Nat := Nat.xor a (Nat.land a b)
theorem bDf_t (a b i : Nat) : (bDf a b).testBit i = (a.testBit i && !b.testBit i) := by
  unfold bDf
  show (a ^^^ (a &&& b)).testBit i = _
  rw [Nat.testBit_xor, Nat.testBit_and]
  cases a.testBit i <;> cases b.testBit i <;> rfl
/-- one step in any of eight directions, of the number with stride c -/
def bU (c X : Nat) : Nat := Nat.lor (Nat.lor (Nat.lor (Nat.shiftRight X c) (Nat.shiftLeft X c)) (Nat.lor (Nat.shiftRight X (8 * c)) (Nat.shiftLeft X (8 * c)))) (Nat.lor (Nat.lor (Nat.shiftRight X (9 * c)) (Nat.shiftLeft X (9 * c))) (Nat.lor (Nat.shiftRight X (10 * c)) (Nat.shiftLeft X (10 * c))))
/-- along a direction, as far as L is free -/
def bRp (L d : Nat) (j : Nat) : Nat → Nat := Nat.rec (fun _ => 0) (fun _ ih X => Nat.lor (Nat.shiftRight X d) (ih (Nat.land (Nat.shiftRight X d) L))) j
def bRm (L d : Nat) (j : Nat) : Nat → Nat := Nat.rec (fun _ => 0) (fun _ ih X => Nat.lor (Nat.shiftLeft X d) (ih (Nat.land (Nat.shiftLeft X d) L))) j
def bSd (m L X : Nat) : Nat := Nat.lor (Nat.lor (Nat.lor (bRp L 1 7 X) (bRm L 1 7 X)) (Nat.lor (bRp L 9 7 X) (bRm L 9 7 X))) (cond (Nat.beq m 0) (Nat.lor (Nat.lor (bRp L 8 7 X) (bRm L 8 7 X)) (Nat.lor (bRp L 10 7 X) (bRm L 10 7 X))) 0)
def bLB (n lo hi : Nat) : Nat := bRows n (fun w b => Nat.land (bSet (bOn n lo hi)) (bDf (2 ^ 91 - 1) (Nat.lor (2 ^ w) (2 ^ b))))
def bDg (n : Nat) : Nat := bRows n (fun _ b => 2 ^ b)
def bCp (n : Nat) : Nat := bRows n (fun w b => bDf (bSet (bNr b)) (bSet (bNr w)))
def bAt (n m : Nat) : Nat := cond (Nat.beq m 2) (Nat.lor (Nat.shiftRight (bDg n) 8) (Nat.shiftRight (bDg n) 10)) (bSd m (bLB n 0 (n - 1)) (bDg n))
/-- positions with Black to move, with White to move, by material -/
def bB (n m : Nat) : Nat := cond (Nat.beq m 2) (bLB n 1 (n - 2)) (bLB n 0 (n - 1))
def bW (n m : Nat) : Nat := bDf (bB n m) (bAt n m)
def bMt (n m : Nat) : Nat := bDf (bDf (Nat.land (bB n m) (bAt n m)) (bCp n)) (bU 91 (bW n m))
/-- men's moves, backwards: the positions from which White comes into X -/
def bMv (n m X : Nat) : Nat := cond (Nat.beq m 2) (Nat.lor (Nat.shiftRight X 9) (Nat.land (bLB n 1 1) (Nat.shiftRight (Nat.land (Nat.shiftRight X 9) (bLB n 0 (n - 1))) 9))) (bSd m (bLB n 0 (n - 1)) X)
def bWs (n m : Nat) (P B W : Nat) : Nat := Nat.lor W (Nat.land (bW n m) (Nat.lor (Nat.lor (bU 8281 B) (bMv n m B)) (Nat.land (bLB n (n - 2) (n - 2)) (Nat.shiftRight P 9))))
def bBs (n m : Nat) (B W : Nat) : Nat := Nat.lor B (bDf (bDf (Nat.land (bB n m) (bU 91 (bW n m))) (bCp n)) (bU 91 (bDf (bW n m) W)))
def bIt (n m : Nat) (P : Nat → Nat) (d : Nat) : Nat × Nat := Nat.rec (0, bMt n m) (fun d s => (bWs n m (P d) s.2 s.1, bBs n m s.2 s.1)) d
def b01 (n m d : Nat) : Nat × Nat := bIt n m (fun _ => 0) d
def b2 (n d : Nat) : Nat × Nat := bIt n 2 (fun d => Nat.lor (b01 n 0 d).2 (b01 n 1 d).2) d
def bEq (a b : Nat × Nat) : Bool := Nat.beq a.1 b.1 && Nat.beq a.2 b.2
