/-! squares -/
theorem mN_cases {n : Int} (h : mN n) : n = 4 ∨ n = 5 ∨ n = 6 ∨ n = 7 ∨ n = 8 := by omega
theorem mSq {n a : Int} (h : mN n) (ha : mOn n a) : (0 ≤ a % n ∧ a % n < n) ∧ (0 ≤ a / n ∧ a / n < n) ∧ n * (a / n) + a % n = a ∧ (0 ≤ a ∧ a < 64) := by
  rcases mN_cases h with rfl | rfl | rfl | rfl | rfl <;> omega
theorem mSq_of {n f r : Int} (h : mN n) (hf : 0 ≤ f ∧ f < n) (hr : 0 ≤ r ∧ r < n) : mOn n (n * r + f) ∧ (n * r + f) % n = f ∧ (n * r + f) / n = r := by
  rcases mN_cases h with rfl | rfl | rfl | rfl | rfl <;> omega
theorem mSq_eq {n a b : Int} (h : mN n) (ha : mOn n a) (hb : mOn n b) (e1 : a % n = b % n) (e2 : a / n = b / n) : a = b := by
  rcases mN_cases h with rfl | rfl | rfl | rfl | rfl <;> omega
theorem mSq_iff {n a b : Int} (h : mN n) (ha : mOn n a) (hb : mOn n b) : a = b ↔ (a % n = b % n ∧ a / n = b / n) := ⟨fun e => by rw [e]; exact ⟨rfl, rfl⟩, fun e => mSq_eq h ha hb e.1 e.2⟩
theorem mSS {n : Int} (h : mN n) : 16 ≤ n * n ∧ n * n ≤ 64 := by
  rcases mN_cases h with rfl | rfl | rfl | rfl | rfl <;> omega
theorem mNx_sym {n a b : Int} : mNx n a b ↔ mNx n b a := by
  unfold mNx
  omega
def vL (A B : Int) : Int := max (max A (-A)) (max B (-B))
def mLn (n k x : Int) : Int := vL (x % n - k % n) (x / n - k / n)
theorem mSg_c (v : Int) : mSg v = -1 ∨ mSg v = 0 ∨ mSg v = 1 := by
  unfold mSg
  omega
theorem mSg_t (v : Int) : (mSg v = -1 ∧ v < 0) ∨ (mSg v = 0 ∧ v = 0) ∨ (mSg v = 1 ∧ 0 < v) := by
  unfold mSg
  omega
theorem mSg_neg (v : Int) : mSg (-v) = -mSg v := by
  unfold mSg
  omega
abbrev vAl (A B : Int) : Prop := ¬ (A = 0 ∧ B = 0) ∧ (A = 0 ∨ B = 0 ∨ A = B ∨ A = -B)
theorem v_al {A B : Int} (h : vAl A B) : A = vL A B * mSg A ∧ B = vL A B * mSg B ∧ 1 ≤ vL A B := by
  have h1 := mSg_t A
  have h2 := mSg_t B
  rcases h1 with ⟨e1, h1⟩ | ⟨e1, h1⟩ | ⟨e1, h1⟩ <;> rcases h2 with ⟨e2, h2⟩ | ⟨e2, h2⟩ | ⟨e2, h2⟩ <;> rw [e1, e2] <;> unfold vL <;> omega
theorem v_of {s t i : Int} (hs : s = -1 ∨ s = 0 ∨ s = 1) (ht : t = -1 ∨ t = 0 ∨ t = 1) (h0 : ¬ (s = 0 ∧ t = 0)) (hi : 1 ≤ i) : vAl (i * s) (i * t) ∧ mSg (i * s) = s ∧ mSg (i * t) = t ∧ vL (i * s) (i * t) = i := by
  rcases hs with rfl | rfl | rfl <;> rcases ht with rfl | rfl | rfl <;> unfold vL mSg <;> omega
theorem mAl_0 {n k x : Int} : mAl n 0 k x ↔ vAl (x % n - k % n) (x / n - k / n) := by
  unfold mAl
  omega
theorem mAl_01 {n m k x : Int} (h : mAl n m k x) : mAl n 0 k x := by
  unfold mAl at *
  omega
theorem mAl_sym {n m a b : Int} : mAl n m a b ↔ mAl n m b a := by
  unfold mAl
  omega
theorem v_bt {A B C D : Int} (h : vAl A B) (h' : vAl C D) (e1 : mSg A = mSg C) (e2 : mSg B = mSg D) : (mAb A < mAb C ∨ mAb B < mAb D) ↔ vL A B < vL C D := by
  have h1 := mSg_t A
  have h2 := mSg_t B
  have h3 := mSg_t C
  have h4 := mSg_t D
  unfold mAb vL
  omega
theorem mBt_iff {n k y x : Int} (h : mAl n 0 k x) : mBt n k y x ↔ mAl n 0 k y ∧ mSg (y % n - k % n) = mSg (x % n - k % n) ∧ mSg (y / n - k / n) = mSg (x / n - k / n) ∧ mLn n k y < mLn n k x := by
  unfold mBt mLn
  constructor
  · rintro ⟨h1, h2, h3, h4⟩
    exact ⟨h1, h2, h3, (v_bt (mAl_0.mp h1) (mAl_0.mp h) h2 h3).mp h4⟩
  · rintro ⟨h1, h2, h3, h4⟩
    exact ⟨h1, h2, h3, (v_bt (mAl_0.mp h1) (mAl_0.mp h) h2 h3).mpr h4⟩
/-- a square on a way: so many steps -/
theorem mLn_st {n k y : Int} (h : mAl n 0 k y) : y % n = k % n + mLn n k y * mSg (y % n - k % n) ∧ y / n = k / n + mLn n k y * mSg (y / n - k / n) ∧ 1 ≤ mLn n k y := by
  have := v_al (mAl_0.mp h)
  unfold mLn
  omega
theorem mLn_of {n k y s t i : Int} (hs : s = -1 ∨ s = 0 ∨ s = 1) (ht : t = -1 ∨ t = 0 ∨ t = 1) (h0 : ¬ (s = 0 ∧ t = 0)) (hi : 1 ≤ i) (e1 : y % n = k % n + i * s) (e2 : y / n = k / n + i * t) : mAl n 0 k y ∧ mSg (y % n - k % n) = s ∧ mSg (y / n - k / n) = t ∧ mLn n k y = i := by
  have h := v_of hs ht h0 hi
  rw [mAl_0]
  unfold mLn
  rw [show y % n - k % n = i * s by omega, show y / n - k / n = i * t by omega]
  exact h
theorem mSg_nz {n k x : Int} (h : mAl n 0 k x) : ¬ (mSg (x % n - k % n) = 0 ∧ mSg (x / n - k / n) = 0) := by
  have h1 := mAl_0.mp h
  have h2 := mSg_t (x % n - k % n)
  have h3 := mSg_t (x / n - k / n)
  omega
/-- what stands between, from either end -/
theorem mBt_to {n k y x : Int} (h : mAl n 0 k x) (hb : mBt n k y x) : mBt n x y k := by
  have h' := mAl_sym.mp h
  obtain ⟨h1, h2, h3, h4⟩ := (mBt_iff h).mp hb
  obtain ⟨a1, a2, a3⟩ := mLn_st h
  obtain ⟨b1, b2, b3⟩ := mLn_st h1
  rw [h2] at b1
  rw [h3] at b2
  have c1 := mSg_c (x % n - k % n)
  have c2 := mSg_c (x / n - k / n)
  have c0 := mSg_nz h
  have n1 : mSg (k % n - x % n) = - mSg (x % n - k % n) := by rw [← mSg_neg]; congr 1; omega
  have n2 : mSg (k / n - x / n) = - mSg (x / n - k / n) := by rw [← mSg_neg]; congr 1; omega
  obtain ⟨L, eL⟩ : ∃ L, L = mLn n k x := ⟨_, rfl⟩
  obtain ⟨i, ei⟩ : ∃ i, i = mLn n k y := ⟨_, rfl⟩
  rw [← eL] at a1 a2 a3 h4
  rw [← ei] at b1 b2 b3 h4
  have d := mLn_of (n := n) (k := x) (y := y) (s := -mSg (x % n - k % n)) (t := -mSg (x / n - k / n)) (i := L - i) (by omega) (by omega) (by omega) (by omega) (by rw [Int.sub_mul, Int.mul_neg, Int.mul_neg]; omega) (by rw [Int.sub_mul, Int.mul_neg, Int.mul_neg]; omega)
  have d2 := mLn_of (n := n) (k := x) (y := k) (s := -mSg (x % n - k % n)) (t := -mSg (x / n - k / n)) (i := L) (by omega) (by omega) (by omega) (by omega) (by rw [Int.mul_neg]; omega) (by rw [Int.mul_neg]; omega)
  refine (mBt_iff h').mpr ⟨d.1, ?_, ?_, ?_⟩
  · rw [d.2.1, n1]
  · rw [d.2.2.1, n2]
  · rw [d.2.2.2, d2.2.2.2]; omega
theorem mBt_sym {n k y x : Int} (h : mAl n 0 k x) : mBt n k y x ↔ mBt n x y k := ⟨mBt_to h, mBt_to (mAl_sym.mp h)⟩
theorem mBt_self {n k x : Int} : ¬ mBt n k x x := by
  unfold mBt
  omega
theorem mSt_At {n m w k b : Int} : mAt n m w b k b ↔ mSt n m w k b := by
  unfold mAt mSt
  have := @mBt_self n k b
  constructor
  · rintro (h | h)
    · exact Or.inl h
    · exact Or.inr ⟨h.1, h.2.1, h.2.2.1⟩
  · rintro (h | h)
    · exact Or.inl h
    · exact Or.inr ⟨h.1, h.2.1, h.2.2, this⟩
