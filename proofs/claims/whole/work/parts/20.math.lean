/-! THE GAME. Squares are numbers n * rank + file. -/
abbrev mOn (n a : Int) : Prop := 0 ≤ a ∧ a < n * n
abbrev mN (n : Int) : Prop := 4 ≤ n ∧ n ≤ 8
def mNx (n a b : Int) : Prop := ¬ (a % n = b % n ∧ a / n = b / n) ∧ (-1 ≤ a % n - b % n ∧ a % n - b % n ≤ 1) ∧ (-1 ≤ a / n - b / n ∧ a / n - b / n ≤ 1)
def mSg (v : Int) : Int := max (-1) (min 1 v)
def mAb (v : Int) : Int := max v (-v)
/-- a queen's (or, 1, a rook's) way from k to x, whatever stands on it -/
def mAl (n m k x : Int) : Prop := ¬ (x % n = k % n ∧ x / n = k / n) ∧ (x % n - k % n = 0 ∨ x / n - k / n = 0 ∨ (m ≠ 1 ∧ (x % n - k % n = x / n - k / n ∨ x % n - k % n = -(x / n - k / n))))
/-- y stands between k and x -/
def mBt (n k y x : Int) : Prop := mAl n 0 k y ∧ mSg (y % n - k % n) = mSg (x % n - k % n) ∧ mSg (y / n - k / n) = mSg (x / n - k / n) ∧ (mAb (y % n - k % n) < mAb (x % n - k % n) ∨ mAb (y / n - k / n) < mAb (x / n - k / n))
def mPw (n k x : Int) : Prop := x / n - k / n = 1 ∧ (x % n - k % n = 1 ∨ x % n - k % n = -1)
/-- what the man sees when White's king alone is in its way -/
def mSt (n m w k x : Int) : Prop := (m = 2 ∧ mPw n k x) ∨ (m ≠ 2 ∧ mAl n m k x ∧ ¬ mBt n k w x)
def mAt (n m w b k x : Int) : Prop := (m = 2 ∧ mPw n k x) ∨ (m ≠ 2 ∧ mAl n m k x ∧ ¬ mBt n k w x ∧ ¬ mBt n k b x)
def mLg (n m w b k t : Int) : Prop := w ≠ b ∧ w ≠ k ∧ b ≠ k ∧ ¬ mNx n w b ∧ (m = 2 → 1 ≤ k / n ∧ k / n ≤ n - 2) ∧ (t = 1 ∨ ¬ mSt n m w k b)
def mWk (n w b k x : Int) : Prop := mNx n w x ∧ ¬ mNx n b x ∧ x ≠ b ∧ x ≠ k
/-- the man's moves but a pawn's to the last rank -/
def mMn (n m w b k x : Int) : Prop := (m ≠ 2 ∧ mAl n m k x ∧ ¬ mBt n k w x ∧ ¬ mBt n k b x ∧ x ≠ w ∧ x ≠ b) ∨ (m = 2 ∧ k + n ≠ w ∧ k + n ≠ b ∧ x ≠ w ∧ x ≠ b ∧ x / n < n - 1 ∧ (x = k + n ∨ (x = k + n + n ∧ k / n = 1)))
def mPr (n m w b k : Int) : Prop := m = 2 ∧ k / n = n - 2 ∧ k + n ≠ w ∧ k + n ≠ b
def mBk (n m w b k x : Int) : Prop := mNx n b x ∧ ¬ mNx n w x ∧ ¬ mSt n m w k x
/-- decided within d plies; pr: so in the tables of queen and rook, Black to move -/
def mDc (n m : Int) (pr : Nat → Int → Int → Int → Prop) : Nat → Int → Int → Int → Int → Prop
  | 0, w, b, k, t => t = 1 ∧ mLg n m w b k 1 ∧ mSt n m w k b ∧ ∀ x, mOn n x → ¬ mBk n m w b k x
  | d + 1, w, b, k, t => mDc n m pr d w b k t ∨
      (t = 0 ∧ mLg n m w b k 0 ∧ ((∃ x, mOn n x ∧ mWk n w b k x ∧ mDc n m pr d x b k 1) ∨ (∃ x, mOn n x ∧ mMn n m w b k x ∧ mDc n m pr d w b x 1) ∨ (mPr n m w b k ∧ pr d w b (k + n)))) ∨
      (t = 1 ∧ mLg n m w b k 1 ∧ (∃ x, mOn n x ∧ mBk n m w b k x) ∧ ∀ x, mOn n x → mBk n m w b k x → x ≠ k ∧ mDc n m pr d w x k 0)
def mD01 (n m : Int) (d : Nat) (w b k t : Int) : Prop := mDc n m (fun _ _ _ _ => False) d w b k t
def mPq (n : Int) (d : Nat) (w b k : Int) : Prop := mD01 n 0 d w b k 1 ∨ mD01 n 1 d w b k 1
/-- decided within d plies -/
def mD (n m : Int) (d : Nat) (w b k t : Int) : Prop := mDc n m (mPq n) d w b k t
theorem mD_01 {n m : Int} (hm : m ≠ 2) (d : Nat) : ∀ w b k t, mD n m d w b k t ↔ mD01 n m d w b k t := by
  unfold mD mD01
  induction d with
  | zero => intro w b k t; rfl
  | succ d ih =>
    intro w b k t
    simp only [mDc, ih, mPr, hm, false_and]
theorem mPq_D {n : Int} {d : Nat} {w b k : Int} : mPq n d w b k ↔ mD n 0 d w b k 1 ∨ mD n 1 d w b k 1 := by
  rw [mD_01 (by decide), mD_01 (by decide)]
  rfl
theorem mD_mono1 {n m : Int} {d : Nat} {w b k t : Int} (h : mD n m d w b k t) : mD n m (d + 1) w b k t := Or.inl h
theorem mD_mono {n m : Int} {d e : Nat} {w b k t : Int} (h : mD n m d w b k t) (hde : d ≤ e) : mD n m e w b k t := by
  induction hde with
  | refl => exact h
  | step _ ih => exact mD_mono1 ih
theorem mD_zero {n m : Int} {w b k t : Int} : mD n m 0 w b k t ↔ t = 1 ∧ mLg n m w b k 1 ∧ mSt n m w k b ∧ ∀ x, mOn n x → ¬ mBk n m w b k x := Iff.rfl
/-- how a position comes to be decided at d + 1 -/
theorem mD_white {n m : Int} {d : Nat} {w b k : Int} : mD n m (d + 1) w b k 0 ↔ mD n m d w b k 0 ∨ (mLg n m w b k 0 ∧ ((∃ x, mOn n x ∧ mWk n w b k x ∧ mD n m d x b k 1) ∨ (∃ x, mOn n x ∧ mMn n m w b k x ∧ mD n m d w b x 1) ∨ (mPr n m w b k ∧ mPq n d w b (k + n)))) := by
  unfold mD
  simp [mDc]
theorem mD_black {n m : Int} {d : Nat} {w b k : Int} : mD n m (d + 1) w b k 1 ↔ mD n m d w b k 1 ∨ (mLg n m w b k 1 ∧ (∃ x, mOn n x ∧ mBk n m w b k x) ∧ ∀ x, mOn n x → mBk n m w b k x → x ≠ k ∧ mD n m d w x k 0) := by
  unfold mD
  simp [mDc]
theorem mD_turn {n m : Int} {d : Nat} {w b k t : Int} (h : mD n m d w b k t) : t = 0 ∨ t = 1 := by
  induction d with
  | zero => exact Or.inr (mD_zero.mp h).1
  | succ d ih =>
    unfold mD at h
    simp only [mDc] at h
    rcases h with h | h | h
    · exact ih h
    · exact Or.inl h.1
    · exact Or.inr h.1
theorem mD_legal {n m : Int} {d : Nat} {w b k t : Int} (h : mD n m d w b k t) : mLg n m w b k t := by
  induction d with
  | zero => have h := mD_zero.mp h; rw [h.1]; exact h.2.1
  | succ d ih =>
    unfold mD at h
    simp only [mDc] at h
    rcases h with h | h | h
    · exact ih h
    · rw [h.1]; exact h.2.1
    · rw [h.1]; exact h.2.1
/-- at d exactly -/
def mAtD (n m : Int) (d : Nat) (w b k t : Int) : Prop := mD n m d w b k t ∧ ∀ e, e < d → ¬ mD n m e w b k t
theorem mAtD_succ {n m : Int} {d : Nat} {w b k t : Int} : mAtD n m (d + 1) w b k t ↔ mD n m (d + 1) w b k t ∧ ¬ mD n m d w b k t := by
  constructor
  · exact fun h => ⟨h.1, h.2 d (Nat.lt_succ_self d)⟩
  · exact fun h => ⟨h.1, fun e he hd => h.2 (mD_mono hd (Nat.lt_succ_iff.mp he))⟩
theorem mAtD_of {n m : Int} {d : Nat} {w b k t : Int} (h : mD n m d w b k t) : ∃ e, e ≤ d ∧ mAtD n m e w b k t := by
  induction d with
  | zero => exact ⟨0, Nat.le_refl 0, h, fun e he => absurd he (Nat.not_lt_zero e)⟩
  | succ d ih =>
    rcases Classical.em (mD n m d w b k t) with h1 | h1
    · obtain ⟨e, he, h2⟩ := ih h1
      exact ⟨e, Nat.le_succ_of_le he, h2⟩
    · exact ⟨d + 1, Nat.le_refl _, mAtD_succ.mpr ⟨h, h1⟩⟩
theorem mAtD_uniq {n m : Int} {d e : Nat} {w b k t : Int} (h : mAtD n m d w b k t) (h' : mAtD n m e w b k t) : d = e := by
  rcases Nat.lt_trichotomy d e with h1 | h1 | h1
  · exact absurd h.1 (h'.2 d h1)
  · exact h1
  · exact absurd h'.1 (h.2 e h1)
/-- White to move at odd numbers, Black at even ones -/
theorem mAtD_par {n m : Int} : ∀ {d : Nat} {w b k t : Int}, mAtD n m d w b k t → (t = 1 ∧ d % 2 = 0) ∨ (t = 0 ∧ d % 2 = 1) := by
  have key : ∀ (m : Int), (∀ (d : Nat) (w b k : Int), mPr n m w b k → mPq n d w b (k + n) → (∀ e, e < d → ¬ mPq n e w b (k + n)) → d % 2 = 0) → ∀ (d : Nat) (w b k t : Int), mAtD n m d w b k t → (t = 1 ∧ d % 2 = 0) ∨ (t = 0 ∧ d % 2 = 1) := by
    intro m hp d
    induction d with
    | zero => intro w b k t h; exact Or.inl ⟨(mD_zero.mp h.1).1, rfl⟩
    | succ d ih =>
      intro w b k t h
      have h := mAtD_succ.mp h
      rcases mD_turn h.1 with ht | ht
      · subst ht
        right
        refine ⟨rfl, ?_⟩
        rcases mD_white.mp h.1 with h1 | ⟨hl, h1⟩
        · exact absurd h1 h.2
        · have hnew : ∀ e, e < d → ¬ mD n m (e + 1) w b k 0 := fun e he h3 => h.2 (mD_mono h3 he)
          rcases h1 with ⟨x, hx, hk, h2⟩ | ⟨x, hx, hk, h2⟩ | ⟨hk, h2⟩
          · have := ih x b k 1 ⟨h2, fun e he h3 => hnew e he (mD_white.mpr (Or.inr ⟨hl, Or.inl ⟨x, hx, hk, h3⟩⟩))⟩
            omega
          · have := ih w b x 1 ⟨h2, fun e he h3 => hnew e he (mD_white.mpr (Or.inr ⟨hl, Or.inr (Or.inl ⟨x, hx, hk, h3⟩)⟩))⟩
            omega
          · have := hp d w b k hk h2 (fun e he h3 => hnew e he (mD_white.mpr (Or.inr ⟨hl, Or.inr (Or.inr ⟨hk, h3⟩)⟩)))
            omega
      · subst ht
        left
        refine ⟨rfl, ?_⟩
        rcases mD_black.mp h.1 with h1 | ⟨hl, hex, hall⟩
        · exact absurd h1 h.2
        · rcases Classical.em (∃ x, mOn n x ∧ mBk n m w b k x ∧ mAtD n m d w x k 0) with ⟨x, hx, hk, h2⟩ | hno
          · have := ih w x k 0 h2
            omega
          · exfalso
            cases d with
            | zero =>
              obtain ⟨x, hx, hk⟩ := hex
              have h3 := (hall x hx hk).2
              exact absurd (mD_zero.mp h3).1 (by decide)
            | succ d =>
              refine h.2 (mD_black.mpr (Or.inr ⟨hl, hex, fun x hx hk => ⟨(hall x hx hk).1, ?_⟩⟩))
              rcases Classical.em (mD n m d w x k 0) with h4 | h4
              · exact h4
              · exact absurd ⟨x, hx, hk, mAtD_succ.mpr ⟨(hall x hx hk).2, h4⟩⟩ hno
  have h01 : ∀ m : Int, m ≠ 2 → ∀ (d : Nat) (w b k t : Int), mAtD n m d w b k t → (t = 1 ∧ d % 2 = 0) ∨ (t = 0 ∧ d % 2 = 1) := fun m hm => key m (fun d w b k hk => absurd hk.1 hm)
  intro d w b k t
  refine key m (fun d w b k hk h2 h3 => ?_) d w b k t
  rcases mPq_D.mp h2 with h4 | h4
  · have := h01 0 (by decide) d w b (k + n) 1 ⟨h4, fun e he h5 => h3 e he (mPq_D.mpr (Or.inl h5))⟩
    omega
  · have := h01 1 (by decide) d w b (k + n) 1 ⟨h4, fun e he h5 => h3 e he (mPq_D.mpr (Or.inr h5))⟩
    omega
