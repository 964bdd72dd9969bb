/-! A BOARD OF THE CLASS -/
abbrev L64 (v : Int) : BitVec 64 := BitVec.ofInt 64 v
def bdL (n : Int) (l : Nat → Int) : Prop := l 2 = n * n ∧ l 3 = n * n ∧ l 4 = 8 * (n * n) ∧ l 5 = 3 ∧ l 6 = n * n ∧ l 7 = 3 ∧ l 8 = n * n * (n * n) ∧ l 100 = n * n ∧ l 101 = n * n ∧ l 102 = n * n
/-- what a man reaches where no king stands in its way -/
abbrev rch (n m a x : Int) : Prop := (m = 2 ∧ mPw n a x) ∨ (m ≠ 2 ∧ mAl n m a x)
def bdG (n : Int) (B : Nat → Int → Int) : Prop := (B 0 (-1) = n ∧ B 1 (-1) = n * n) ∧ (∀ a, mOn n a → B 2 a = a / n ∧ B 3 a = a % n) ∧ (∀ g a, (0 ≤ g ∧ g < 8) → mOn n a → B 4 (g * (n * n) + a) = mIm n g a) ∧ (∀ a, mOn n a → sq n (L64 (B 6 a)) (mNx n a)) ∧ (∀ m a, (0 ≤ m ∧ m ≤ 2) → mOn n a → sq n (L64 (B (100 + m.toNat) a)) (rch n m a)) ∧ ∀ a y, mOn n a → mOn n y → sq n (L64 (B 8 (a * (n * n) + y))) (fun x => mAl n 0 a x ∧ mBt n a y x)
section BD
variable {kd : gKd} {ln : gLn} {M : gM} {o n m w b k t : Int}
theorem mIx {a y : Int} (hN : mN n) (ha : mOn n a) (hy : mOn n y) : 0 ≤ a * (n * n) + y ∧ a * (n * n) + y < n * n * (n * n) := by
  rcases mN_cases hN with rfl | rfl | rfl | rfl | rfl <;> omega
theorem sX0_holds {post : Int → gM → Prop} {a : Int} (hN : mN n) (h1 : M o 1 (-1) = n * n) (ha : rng a) (ht : mOn n a → post 1 M) (hf : ¬ mOn n a → post 0 M) : wX0_holds kd ln post o a M := by
  unfold wX0_holds
  rw [h1]
  exact ⟨ha, fun q => hf (fun g => by have := g.1; omega), fun q => fun _ => ⟨fun q2 => hf (fun g => by have := g.2; omega), fun q2 => ht ⟨by omega, by omega⟩⟩⟩
theorem sX0_areNext {post : Int → gM → Prop} {a x : Int} (hN : mN n) (hl : bdL n (ln o)) (hB : bdG n (M o)) (ha : mOn n a) (hx : mOn n x) (ht : mNx n a x → post 1 M) (hf : ¬ mNx n a x → post 0 M) : wX0_areNext kd ln post o a x M := by
  have e1 := mSq hN ha
  have e2 := mSq hN hx
  obtain ⟨l2, l3, l4, l5, l6, -⟩ := hl
  have s := hB.2.2.2.1 a ha x.toNat (by omega)
  rw [show ((x.toNat : Nat) : Int) = x by omega] at s
  unfold wX0_areNext
  rw [l6]
  refine ⟨by omega, ⟨ha.1, ha.2⟩, fun _ => ?_⟩
  refine sX6_has (by omega) (fun q => fun _ => ⟨by omega, ht (s.mp q).2⟩) (fun q => fun _ => ⟨by omega, hf (fun g => ?_)⟩)
  rw [s.mpr ⟨hx, g⟩] at q
  exact absurd q (by decide)
theorem sX0_isLastRank {post : Int → gM → Prop} {a : Int} (hN : mN n) (h0 : M o 0 (-1) = n) (h1 : M o 1 (-1) = n * n) (ha : rng a) (ht : n * n - n ≤ a → post 1 M) (hf : a < n * n - n → post 0 M) : wX0_isLastRank kd ln post o a M := by
  have hS := mSS hN
  have h4 : 4 ≤ n ∧ n ≤ 8 := hN
  unfold wX0_isLastRank
  rw [h0, h1]
  exact fun _ => fun _ => ⟨ha, by omega, fun q => hf q, fun q => ht (by omega)⟩
theorem sX0_sight {post : BitVec 64 → gM → Prop} (hN : mN n) (hl : bdL n (ln o)) (hB : bdG n (M o)) (hm : 0 ≤ m ∧ m ≤ 2) (hw : mOn n w) (hk : mOn n k) (h : ∀ c, sq n c (mSt n m w k) → post c M) : wX0_sight kd ln post o m w k M := by
  have e1 := mSq hN hw
  have e2 := mSq hN hk
  obtain ⟨l2, l3, l4, l5, l6, l7, l8, l100, l101, l102⟩ := hl
  have ix := mIx hN hk hw
  have ll : ln o (100 + m.toNat) = n * n := by
    rcases (show m = 0 ∨ m = 1 ∨ m = 2 by omega) with e | e | e
    · rw [e]; exact l100
    · rw [e]; exact l101
    · rw [e]; exact l102
  unfold wX0_sight
  rw [l7, l8, ll, hB.1.2]
  refine ⟨by omega, by omega, ⟨hk.1, hk.2⟩, fun _ => ⟨by omega, fun _ => ⟨ix, fun _ => h _ ?_⟩⟩⟩
  refine sq_cong (sq_diff (hB.2.2.2.2.1 m k hm hk) (hB.2.2.2.2.2 k w hk hw)) (fun x hx => ?_)
  unfold mSt
  constructor
  · rintro ⟨a1 | a1, a2⟩
    · exact Or.inl a1
    · exact Or.inr ⟨a1.1, a1.2, fun g => a2 ⟨mAl_01 a1.2, g⟩⟩
  · rintro (a1 | a1)
    · refine ⟨Or.inl a1, fun g => ?_⟩
      have := ((mBt_iff g.1).mp g.2)
      have z := (mLn_st this.1).2.2
      have p := a1.2
      unfold mPw at p
      have : mLn n k x = 1 := by unfold mLn vL; omega
      omega
    · exact ⟨Or.inr ⟨a1.1, a1.2.1⟩, fun g => a1.2.2 g.2⟩
theorem sX0_attacks {post : Int → gM → Prop} (hN : mN n) (hl : bdL n (ln o)) (hB : bdG n (M o)) (hm : 0 ≤ m ∧ m ≤ 2) (hw : mOn n w) (hb : mOn n b) (hk : mOn n k) (ht : mSt n m w k b → post 1 M) (hf : ¬ mSt n m w k b → post 0 M) : wX0_attacks kd ln post o m w b k M := by
  have e1 := mSq hN hb
  unfold wX0_attacks
  refine sX0_sight hN hl hB hm hw hk fun c hc => ?_
  have s := hc b.toNat (by omega)
  rw [show ((b.toNat : Nat) : Int) = b by omega] at s
  refine sX6_has (by omega) (fun q => fun _ => ⟨by omega, ht (s.mp q).2⟩) (fun q => fun _ => ⟨by omega, hf (fun g => ?_)⟩)
  rw [s.mpr ⟨hb, g⟩] at q
  exact absurd q (by decide)
theorem mLast {a : Int} (hN : mN n) (ha : mOn n a) : (n * n - n ≤ a ↔ a / n = n - 1) ∧ (a < n ↔ a / n = 0) ∧ (a < 2 * n ↔ a / n ≤ 1) := by
  rcases mN_cases hN with rfl | rfl | rfl | rfl | rfl <;> omega
theorem sX0_allows {post : Int → gM → Prop} (hN : mN n) (hl : bdL n (ln o)) (hB : bdG n (M o)) (hm : rng m) (hw : rng w) (hb : rng b) (hk : rng k) (ht' : rng t) (ht : mNu n m w b k t → mLg n m w b k t → post 1 M) (hf : ¬ (mNu n m w b k t ∧ mLg n m w b k t) → post 0 M) : wX0_allows kd ln post o m w b k t M := by
  have h4 : 4 ≤ n ∧ n ≤ 8 := hN
  unfold wX0_allows
  refine ⟨hm, fun q => hf (fun g => by have := g.1.1; omega), fun q => ⟨fun q1 => hf (fun g => by have := g.1.1; omega), fun q1 => ⟨ht', fun q2 => hf (fun g => by have := g.1.2.2.2.2; omega), fun q2 => ⟨fun q3 => ?_, fun q3 => hf (fun g => by have := g.1.2.2.2.2; omega)⟩⟩⟩⟩
  refine sX0_holds hN hB.1.2 hw (fun ow => fun _ => ⟨fun g => absurd g (by decide), fun _ => ?_⟩) (fun ow => fun _ => ⟨fun _ => hf (fun g => ow g.1.2.1), fun g => absurd rfl g⟩)
  refine sX0_holds hN hB.1.2 hb (fun ob => fun _ => ⟨fun g => absurd g (by decide), fun _ => ?_⟩) (fun ob => fun _ => ⟨fun _ => hf (fun g => ob g.1.2.2.1), fun g => absurd rfl g⟩)
  refine sX0_holds hN hB.1.2 hk (fun ok => fun _ => ⟨fun _ => ?_, fun g => absurd g (by decide)⟩) (fun ok => fun _ => ⟨fun g => absurd rfl g, fun _ => hf (fun g => ok g.1.2.2.2.1)⟩)
  have nu : mNu n m w b k t := ⟨by omega, ow, ob, ok, by omega⟩
  have last : w ≠ b → w ≠ k → b ≠ k → ¬ mNx n w b → (m = 2 → 1 ≤ k / n ∧ k / n ≤ n - 2) → wX0_allows_102 kd ln post o m w b k t M := fun h1 h2 h3 h4 h5 => by
    unfold wX0_allows_102 wX0_allows_120
    refine ⟨ht', fun c => ht nu ⟨h1, h2, h3, h4, h5, Or.inl c⟩, fun c => ?_⟩
    refine sX0_attacks hN hl hB nu.1 ow ob ok (fun g => fun _ => ⟨fun _ => hf (fun g2 => ?_), fun g2 => absurd g2 (by decide)⟩) (fun g => fun _ => ⟨fun g2 => absurd rfl g2, fun _ => ht nu ⟨h1, h2, h3, h4, h5, Or.inr g⟩⟩)
    rcases g2.2.2.2.2.2.2 with g3 | g3
    · exact c g3
    · exact g3 g
  refine ⟨hw, hb, fun c1 => hf (fun g => g.2.1 c1), fun c1 => ⟨hk, fun c2 => hf (fun g => g.2.2.1 c2), fun c2 => ⟨fun c3 => hf (fun g => g.2.2.2.1 c3), fun c3 => ?_⟩⟩⟩
  refine sX0_areNext hN hl hB ow ob (fun g => fun _ => ⟨fun g2 => absurd g2 (by decide), fun _ => hf (fun g2 => g2.2.2.2.2.1 g)⟩) (fun g => fun _ => ⟨fun _ => ⟨fun c4 => last c1 c2 c3 g (fun c5 => absurd c5 c4), fun c4 => ?_⟩, fun g2 => absurd rfl g2⟩)
  obtain ⟨r1, r2, r3⟩ := mLast hN ok
  have e := mSq hN ok
  rw [hB.1.1]
  intro _
  refine ⟨fun c5 => hf (fun g2 => ?_), fun c5 => ?_⟩
  · have := g2.2.2.2.2.2.1 c4
    omega
  · refine sX0_isLastRank hN hB.1.1 hB.1.2 hk (fun c6 => fun _ => ⟨fun g2 => absurd g2 (by decide), fun _ => hf (fun g2 => ?_)⟩) (fun c6 => fun _ => ⟨fun _ => last c1 c2 c3 g (fun _ => by omega), fun g2 => absurd rfl g2⟩)
    have := g2.2.2.2.2.2.1 c4
    omega
theorem sX0_whiteTargets {post : BitVec 64 → gM → Prop} (hN : mN n) (hl : bdL n (ln o)) (hB : bdG n (M o)) (hw : mOn n w) (hb : mOn n b) (hk : mOn n k) (h : ∀ c, sq n c (mWk n w b k) → post c M) : wX0_whiteTargets kd ln post o w b k M := by
  have e1 := mSq hN hw
  have e2 := mSq hN hb
  have e3 := mSq hN hk
  obtain ⟨l2, l3, l4, l5, l6, -⟩ := hl
  unfold wX0_whiteTargets
  rw [l6]
  refine ⟨by omega, ⟨hw.1, hw.2⟩, fun _ => ⟨⟨hb.1, hb.2⟩, fun _ => ?_⟩⟩
  refine sX6_bit (by omega) (sX6_bit (by omega) (h _ ?_))
  refine sq_cong (sq_diff (sq_diff (sq_diff (hB.2.2.2.1 w hw) (hB.2.2.2.1 b hb)) (sq_bit hN hb)) (sq_bit hN hk)) (fun x _ => ?_)
  unfold mWk
  constructor
  · rintro ⟨⟨⟨a, b⟩, c⟩, d⟩; exact ⟨a, b, c, d⟩
  · rintro ⟨a, b, c, d⟩; exact ⟨⟨⟨a, b⟩, c⟩, d⟩
theorem sX0_blackTargets {post : BitVec 64 → gM → Prop} (hN : mN n) (hl : bdL n (ln o)) (hB : bdG n (M o)) (hm : 0 ≤ m ∧ m ≤ 2) (hw : mOn n w) (hb : mOn n b) (hk : mOn n k) (h : ∀ c, sq n c (mBk n m w b k) → post c M) : wX0_blackTargets kd ln post o m w b k M := by
  have e1 := mSq hN hw
  have e2 := mSq hN hb
  have hl2 := hl
  obtain ⟨l2, l3, l4, l5, l6, -⟩ := hl2
  unfold wX0_blackTargets
  rw [l6]
  refine ⟨by omega, ⟨hb.1, hb.2⟩, fun _ => ⟨⟨hw.1, hw.2⟩, fun _ => ?_⟩⟩
  refine sX0_sight hN hl hB hm hw hk fun c hc => h _ ?_
  refine sq_cong (sq_diff (sq_diff (hB.2.2.2.1 b hb) (hB.2.2.2.1 w hw)) hc) (fun x _ => ?_)
  unfold mBk
  constructor
  · rintro ⟨⟨a, b⟩, c⟩; exact ⟨a, b, c⟩
  · rintro ⟨a, b, c⟩; exact ⟨⟨a, b⟩, c⟩
theorem sX0_blackSources {post : BitVec 64 → gM → Prop} (hN : mN n) (hl : bdL n (ln o)) (hB : bdG n (M o)) (hw : mOn n w) (hb : mOn n b) (hk : mOn n k) (h : ∀ c, sq n c (fun x => mNx n b x ∧ ¬ mNx n w x ∧ x ≠ w ∧ x ≠ k) → post c M) : wX0_blackSources kd ln post o w b k M := by
  have e1 := mSq hN hw
  have e2 := mSq hN hb
  have e3 := mSq hN hk
  obtain ⟨l2, l3, l4, l5, l6, -⟩ := hl
  unfold wX0_blackSources
  rw [l6]
  refine ⟨by omega, ⟨hb.1, hb.2⟩, fun _ => ⟨⟨hw.1, hw.2⟩, fun _ => ?_⟩⟩
  refine sX6_bit (by omega) (sX6_bit (by omega) (h _ ?_))
  refine sq_cong (sq_diff (sq_diff (sq_diff (hB.2.2.2.1 b hb) (hB.2.2.2.1 w hw)) (sq_bit hN hw)) (sq_bit hN hk)) (fun x _ => ?_)
  constructor
  · rintro ⟨⟨⟨a, b⟩, c⟩, d⟩; exact ⟨a, b, c, d⟩
  · rintro ⟨a, b, c, d⟩; exact ⟨⟨⟨a, b⟩, c⟩, d⟩
theorem sX0_glides {post : BitVec 64 → gM → Prop} (hN : mN n) (hl : bdL n (ln o)) (hB : bdG n (M o)) (hm : 0 ≤ m ∧ m ≤ 1) (hw : mOn n w) (hb : mOn n b) (hk : mOn n k) (h : ∀ c, sq n c (mMn n m w b k) → post c M) : wX0_glides kd ln post o m w b k M := by
  have e1 := mSq hN hw
  have e2 := mSq hN hb
  have hl2 := hl
  obtain ⟨l2, l3, l4, l5, l6, l7, l8, -⟩ := hl2
  have ix := mIx hN hk hb
  unfold wX0_glides
  refine sX0_sight hN hl hB (by omega) hw hk fun c hc => ?_
  rw [l8, hB.1.2]
  refine ⟨by omega, fun _ => ⟨ix, fun _ => ?_⟩⟩
  refine sX6_bit (by omega) (sX6_bit (by omega) (h _ ?_))
  refine sq_cong (sq_diff (sq_diff (sq_diff hc (hB.2.2.2.2.2 k b hk hb)) (sq_bit hN hw)) (sq_bit hN hb)) (fun x _ => ?_)
  unfold mMn mSt
  constructor
  · rintro ⟨⟨⟨a | a, b⟩, c⟩, d⟩
    · omega
    · exact Or.inl ⟨a.1, a.2.1, a.2.2, fun g => b ⟨mAl_01 a.2.1, g⟩, c, d⟩
  · rintro (⟨a, b, c, d, e, f⟩ | a)
    · exact ⟨⟨⟨Or.inr ⟨a, b, c⟩, fun g => d g.2⟩, e⟩, f⟩
    · omega
end BD
