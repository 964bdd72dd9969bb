/-! squares -/
theorem mN_cases {n : Int} (h : mN n) : n = 4 ∨ n = 5 ∨ n = 6 ∨ n = 7 ∨ n = 8 := by omega
theorem mSq {n a : Int} (h : mN n) (ha : mOn n a) : (0 ≤ a % n ∧ a % n < n) ∧ (0 ≤ a / n ∧ a / n < n) ∧ n * (a / n) + a % n = a ∧ (0 ≤ a ∧ a < 64) := by
  rcases mN_cases h with rfl | rfl | rfl | rfl | rfl <;> omega
theorem mSq_of {n f r : Int} (h : mN n) (hf : 0 ≤ f ∧ f < n) (hr : 0 ≤ r ∧ r < n) : mOn n (n * r + f) ∧ (n * r + f) % n = f ∧ (n * r + f) / n = r := by
  rcases mN_cases h with rfl | rfl | rfl | rfl | rfl <;> omega
theorem mSq_eq {n a b : Int} (h : mN n) (ha : mOn n a) (hb : mOn n b) (e1 : a % n = b % n) (e2 : a / n = b / n) : a = b := by
  rcases mN_cases h with rfl | rfl | rfl | rfl | rfl <;> omega
theorem mSq_iff {n a b : Int} (h : mN n) (ha : mOn n a) (hb : mOn n b) : a = b ↔ (a % n = b % n ∧ a / n = b / n) := ⟨fun e => by rw [e]; exact ⟨rfl, rfl⟩, fun e => mSq_eq h ha hb e.1 e.2⟩
theorem mSS {n : Int} (h : mN n) : 16 ≤ n * n ∧ n * n ≤ 64 := by
  rcases mN_cases h with rfl | rfl | rfl | rfl | rfl <;> omega
theorem mNx_sym {n a b : Int} : mNx n a b ↔ mNx n b a := by
  unfold mNx
  omega
def mLn (n k x : Int) : Int := max (max (x % n - k % n) (k % n - x % n)) (max (x / n - k / n) (k / n - x / n))
theorem mSg_c (v : Int) : mSg v = -1 ∨ mSg v = 0 ∨ mSg v = 1 := by
  unfold mSg
  omega
theorem mAl_sym {n m a b : Int} : mAl n m a b ↔ mAl n m b a := by
  unfold mAl
  omega
/-- what stands between, from either end -/
theorem mBt_sym {n k y x : Int} (h : mAl n 0 k x) : mBt n k y x ↔ mBt n x y k := by
  unfold mBt mAl mSg mAb at *
  generalize k % n = a at *
  generalize k / n = b at *
  generalize x % n = c at *
  generalize x / n = d at *
  generalize y % n = e at *
  generalize y / n = f at *
  omega
theorem mBt_self {n k x : Int} : ¬ mBt n k x x := by
  unfold mBt mAb
  omega
theorem mSt_At {n m w k b : Int} : mAt n m w b k b ↔ mSt n m w k b := by
  unfold mAt mSt
  have := @mBt_self n k b
  constructor
  · rintro (h | h)
    · exact Or.inl h
    · exact Or.inr ⟨h.1, h.2.1, h.2.2.1⟩
  · rintro (h | h)
    · exact Or.inl h
    · exact Or.inr ⟨h.1, h.2.1, h.2.2, this⟩
