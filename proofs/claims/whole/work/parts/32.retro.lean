/-! BACKWARDS -/
def mBl (n m : Int) (d : Nat) (w b k t : Int) : Prop := ∃ e, e < d ∧ mAtD n m e w b k t
theorem mBl_D {n m : Int} {d : Nat} {w b k t : Int} : mBl n m (d + 1) w b k t ↔ mD n m d w b k t := by
  constructor
  · rintro ⟨e, h1, h2⟩
    exact mD_mono h2.1 (Nat.lt_succ_iff.mp h1)
  · intro h
    obtain ⟨e, h1, h2⟩ := mAtD_of h
    exact ⟨e, Nat.lt_succ_iff.mpr h1, h2⟩
theorem mBl_mono {n m : Int} {d e : Nat} {w b k t : Int} (h : mBl n m d w b k t) (hd : d ≤ e) : mBl n m e w b k t := by
  obtain ⟨i, h1, h2⟩ := h
  exact ⟨i, by omega, h2⟩
theorem mAtD_no {n m : Int} {d : Nat} {w b k t : Int} (h : mAtD n m d w b k t) : ¬ mBl n m d w b k t := by
  rintro ⟨e, h1, h2⟩
  exact absurd (mAtD_uniq h h2) (by omega)
theorem mAtD_S {n m : Int} {d : Nat} {w b k t : Int} : mAtD n m (d + 1) w b k t ↔ mD n m (d + 1) w b k t ∧ ¬ mBl n m (d + 1) w b k t := by
  rw [mBl_D]
  exact mAtD_succ
/-- White comes to a position that is decided at d -/
theorem mAtD_w {n m : Int} {d : Nat} {w b k : Int} (hl : mLg n m w b k 0) (hb : ¬ mBl n m (d + 1) w b k 0) (h : (∃ x, mOn n x ∧ mWk n w b k x ∧ mAtD n m d x b k 1) ∨ (∃ x, mOn n x ∧ mMn n m w b k x ∧ mAtD n m d w b x 1) ∨ (mPr n m w b k ∧ (mAtD n 0 d w b (k + n) 1 ∨ mAtD n 1 d w b (k + n) 1))) : mAtD n m (d + 1) w b k 0 := by
  refine mAtD_S.mpr ⟨mD_white.mpr (Or.inr ⟨hl, ?_⟩), hb⟩
  rcases h with ⟨x, h1, h2, h3⟩ | ⟨x, h1, h2, h3⟩ | ⟨h1, h2⟩
  · exact Or.inl ⟨x, h1, h2, h3.1⟩
  · exact Or.inr (Or.inl ⟨x, h1, h2, h3.1⟩)
  · exact Or.inr (Or.inr ⟨h1, mPq_D.mpr (h2.imp (fun q => q.1) (fun q => q.1))⟩)
theorem mAtD_w' {n m : Int} {d : Nat} {w b k : Int} (h : mAtD n m (d + 1) w b k 0) : mLg n m w b k 0 ∧ ((∃ x, mOn n x ∧ mWk n w b k x ∧ mAtD n m d x b k 1) ∨ (∃ x, mOn n x ∧ mMn n m w b k x ∧ mAtD n m d w b x 1) ∨ (mPr n m w b k ∧ (mAtD n 0 d w b (k + n) 1 ∨ mAtD n 1 d w b (k + n) 1))) := by
  refine ⟨mD_legal h.1, ?_⟩
  have hno : ∀ e, e < d → ¬ mD n m (e + 1) w b k 0 := fun e he q => h.2 (e + 1) (by omega) q
  rcases mD_white.mp h.1 with q | ⟨hl, ⟨x, h1, h2, h3⟩ | ⟨x, h1, h2, h3⟩ | ⟨h1, h2⟩⟩
  · exact absurd q (h.2 d (Nat.lt_succ_self d))
  · exact Or.inl ⟨x, h1, h2, h3, fun e he q => hno e he (mD_white.mpr (Or.inr ⟨hl, Or.inl ⟨x, h1, h2, q⟩⟩))⟩
  · exact Or.inr (Or.inl ⟨x, h1, h2, h3, fun e he q => hno e he (mD_white.mpr (Or.inr ⟨hl, Or.inr (Or.inl ⟨x, h1, h2, q⟩)⟩))⟩)
  · refine Or.inr (Or.inr ⟨h1, ?_⟩)
    have hq : ∀ e, e < d → ¬ mPq n e w b (k + n) := fun e he q => hno e he (mD_white.mpr (Or.inr ⟨hl, Or.inr (Or.inr ⟨h1, q⟩)⟩))
    rcases mPq_D.mp h2 with q | q
    · exact Or.inl ⟨q, fun e he q2 => hq e he (mPq_D.mpr (Or.inl q2))⟩
    · exact Or.inr ⟨q, fun e he q2 => hq e he (mPq_D.mpr (Or.inr q2))⟩
/-- Black has to come to one -/
theorem mAtD_b {n m : Int} {d : Nat} {w b k : Int} (hl : mLg n m w b k 1) (hb : ¬ mBl n m (d + 1) w b k 1) (hex : ∃ x, mOn n x ∧ mBk n m w b k x) (hall : ∀ x, mOn n x → mBk n m w b k x → x ≠ k ∧ mBl n m (d + 1) w x k 0) : mAtD n m (d + 1) w b k 1 :=
  mAtD_S.mpr ⟨mD_black.mpr (Or.inr ⟨hl, hex, fun x h1 h2 => ⟨(hall x h1 h2).1, mBl_D.mp (hall x h1 h2).2⟩⟩), hb⟩
theorem mAtD_b' {n m : Int} {d : Nat} {w b k : Int} (h : mAtD n m (d + 1) w b k 1) : mLg n m w b k 1 ∧ (∃ x, mOn n x ∧ mBk n m w b k x ∧ mAtD n m d w x k 0) ∧ ∀ x, mOn n x → mBk n m w b k x → x ≠ k ∧ mBl n m (d + 1) w x k 0 := by
  refine ⟨mD_legal h.1, ?_⟩
  rcases mD_black.mp h.1 with q | ⟨hl, hex, hall⟩
  · exact absurd q (h.2 d (Nat.lt_succ_self d))
  · refine ⟨?_, fun x h1 h2 => ⟨(hall x h1 h2).1, mBl_D.mpr (hall x h1 h2).2⟩⟩
    apply Classical.byContradiction
    intro hno
    cases d with
    | zero =>
      obtain ⟨x, hx, hk⟩ := hex
      exact absurd (mD_zero.mp (hall x hx hk).2).1 (by decide)
    | succ d =>
      refine h.2 (d + 1) (by omega) (mD_black.mpr (Or.inr ⟨hl, hex, fun x hx hk => ⟨(hall x hx hk).1, ?_⟩⟩))
      rcases Classical.em (mD n m d w x k 0) with h4 | h4
      · exact h4
      · exact absurd ⟨x, hx, hk, mAtD_succ.mpr ⟨(hall x hx hk).2, h4⟩⟩ hno
theorem mAtD_0 {n m : Int} {w b k t : Int} : mAtD n m 0 w b k t ↔ t = 1 ∧ mLg n m w b k 1 ∧ mSt n m w k b ∧ ∀ x, mOn n x → ¬ mBk n m w b k x := ⟨fun h => mD_zero.mp h.1, fun h => ⟨mD_zero.mpr h, fun e he => absurd he (Nat.not_lt_zero e)⟩⟩
theorem mAtD_lg {n m : Int} {d : Nat} {w b k t : Int} (h : mAtD n m d w b k t) : mLg n m w b k t := mD_legal h.1
/-- moves that lead to a position, from where they come -/
theorem mWk_back {n m w b k a : Int} (hl : mLg n m w b k 1) (h : mNx n w a) : mWk n a b k w := ⟨mNx_sym.mp h, fun q => hl.2.2.2.1 (mNx_sym.mp q), hl.1, hl.2.1⟩
theorem mMn_sym {n m w b k x : Int} (hm : m ≠ 2) (h : mMn n m w b k x) (hk : k ≠ w ∧ k ≠ b) : mMn n m w b x k := by
  rcases h with h | h
  · have h0 := mAl_01 h.2.1
    exact Or.inl ⟨hm, mAl_sym.mp h.2.1, fun q => h.2.2.1 ((mBt_sym h0).mpr q), fun q => h.2.2.2.1 ((mBt_sym h0).mpr q), hk.1, hk.2⟩
  · exact absurd h.1 hm
