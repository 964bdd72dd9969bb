/-! SYMMETRY OF THE GAME -/
abbrev g8r (g : Int) : Prop := 0 ≤ g ∧ g < 8
/-- the difference of two squares, turned -/
def tF (g A B : Int) : Int := if g % 2 = 1 then -(if g / 4 % 2 = 1 then B else A) else (if g / 4 % 2 = 1 then B else A)
def tR (g A B : Int) : Int := if g / 2 % 2 = 1 then -(if g / 4 % 2 = 1 then A else B) else (if g / 4 % 2 = 1 then A else B)
section SY
variable {n g m w b k t a x y : Int}
theorem g_c (h : g8r g) : g = 0 ∨ g = 1 ∨ g = 2 ∨ g = 3 ∨ g = 4 ∨ g = 5 ∨ g = 6 ∨ g = 7 := by omega
theorem im_d (hN : mN n) (ha : mOn n a) (hx : mOn n x) : mIm n g x % n - mIm n g a % n = tF g (x % n - a % n) (x / n - a / n) ∧ mIm n g x / n - mIm n g a / n = tR g (x % n - a % n) (x / n - a / n) := by
  obtain ⟨-, a1, a2⟩ := mIm_sq (g := g) hN ha
  obtain ⟨-, x1, x2⟩ := mIm_sq (g := g) hN hx
  rw [a1, a2, x1, x2]
  unfold mIf mIr tF tR
  constructor
  · split <;> split <;> omega
  · split <;> split <;> omega
theorem t_c (g A B : Int) : ((tF g A B = A ∨ tF g A B = -A) ∧ (tR g A B = B ∨ tR g A B = -B)) ∨ ((tF g A B = B ∨ tF g A B = -B) ∧ (tR g A B = A ∨ tR g A B = -A)) := by
  unfold tF tR
  by_cases q : g / 4 % 2 = 1
  · simp only [q, if_true]
    right
    constructor
    · split
      · exact Or.inr rfl
      · exact Or.inl rfl
    · split
      · exact Or.inr rfl
      · exact Or.inl rfl
  · simp only [q, if_false]
    left
    constructor
    · split
      · exact Or.inr rfl
      · exact Or.inl rfl
    · split
      · exact Or.inr rfl
      · exact Or.inl rfl
theorem im_on (hN : mN n) (ha : mOn n a) : mOn n (mIm n g a) := (mIm_sq hN ha).1
theorem im_eq (hN : mN n) (ha : mOn n a) (hx : mOn n x) : mIm n g x = mIm n g a ↔ x = a := by
  have e1 := mSq_iff hN hx ha
  have e2 := mSq_iff hN (im_on (g := g) hN hx) (im_on (g := g) hN ha)
  obtain ⟨d1, d2⟩ := im_d (g := g) hN ha hx
  have c := t_c g (x % n - a % n) (x / n - a / n)
  rw [e1, e2]
  omega
theorem im_nx (hN : mN n) (ha : mOn n a) (hx : mOn n x) : mNx n (mIm n g x) (mIm n g a) ↔ mNx n x a := by
  obtain ⟨d1, d2⟩ := im_d (g := g) hN ha hx
  have c := t_c g (x % n - a % n) (x / n - a / n)
  unfold mNx
  rw [d1, d2]
  have q : (mIm n g x % n = mIm n g a % n ∧ mIm n g x / n = mIm n g a / n) ↔ (tF g (x % n - a % n) (x / n - a / n) = 0 ∧ tR g (x % n - a % n) (x / n - a / n) = 0) := by omega
  rw [q]
  clear d1 d2 q
  generalize tF g (x % n - a % n) (x / n - a / n) = F at *
  generalize tR g (x % n - a % n) (x / n - a / n) = R at *
  generalize x % n = p at *
  generalize x / n = p' at *
  generalize a % n = q at *
  generalize a / n = q' at *
  omega
theorem im_al (hN : mN n) (ha : mOn n a) (hx : mOn n x) : mAl n m (mIm n g a) (mIm n g x) ↔ mAl n m a x := by
  obtain ⟨d1, d2⟩ := im_d (g := g) hN ha hx
  have c := t_c g (x % n - a % n) (x / n - a / n)
  unfold mAl
  rw [d1, d2]
  have q : (mIm n g x % n = mIm n g a % n ∧ mIm n g x / n = mIm n g a / n) ↔ (tF g (x % n - a % n) (x / n - a / n) = 0 ∧ tR g (x % n - a % n) (x / n - a / n) = 0) := by omega
  rw [q]
  clear d1 d2 q
  generalize tF g (x % n - a % n) (x / n - a / n) = F at *
  generalize tR g (x % n - a % n) (x / n - a / n) = R at *
  generalize x % n = p at *
  generalize x / n = p' at *
  generalize a % n = q at *
  generalize a / n = q' at *
  omega
theorem mAb_neg (v : Int) : mAb (-v) = mAb v := by unfold mAb; omega
/-- signs and lengths turn together -/
theorem t_bt (g A B C D : Int) : (mSg (tF g A B) = mSg (tF g C D) ∧ mSg (tR g A B) = mSg (tR g C D) ∧ (mAb (tF g A B) < mAb (tF g C D) ∨ mAb (tR g A B) < mAb (tR g C D))) ↔ (mSg A = mSg C ∧ mSg B = mSg D ∧ (mAb A < mAb C ∨ mAb B < mAb D)) := by
  unfold tF tR
  by_cases q4 : g / 4 % 2 = 1 <;> by_cases q1 : g % 2 = 1 <;> by_cases q2 : g / 2 % 2 = 1 <;> simp only [q4, q1, q2, if_true, if_false, mSg_neg, mAb_neg] <;> omega
theorem im_bt (hN : mN n) (hk : mOn n k) (hy : mOn n y) (hx : mOn n x) : mBt n (mIm n g k) (mIm n g y) (mIm n g x) ↔ mBt n k y x := by
  obtain ⟨d1, d2⟩ := im_d (g := g) hN hk hx
  obtain ⟨d3, d4⟩ := im_d (g := g) hN hk hy
  unfold mBt
  rw [im_al hN hk hy, d1, d2, d3, d4]
  have := t_bt g (y % n - k % n) (y / n - k / n) (x % n - k % n) (x / n - k / n)
  rw [this]
abbrev gA (m g : Int) : Prop := g8r g ∧ (m = 2 → g < 2)
theorem im_rk (hN : mN n) (ha : mOn n a) (hg : 0 ≤ g ∧ g < 2) : mIm n g a / n = a / n := by
  obtain ⟨-, a1, a2⟩ := mIm_sq (g := g) hN ha
  rw [a2]
  unfold mIr
  rw [if_neg (by omega), if_neg (by omega)]
theorem im_pw (hN : mN n) (hg : 0 ≤ g ∧ g < 2) (hk : mOn n k) (hx : mOn n x) : mPw n (mIm n g k) (mIm n g x) ↔ mPw n k x := by
  obtain ⟨d1, d2⟩ := im_d (g := g) hN hk hx
  unfold mPw
  rw [d1, d2]
  unfold tF tR
  rw [if_neg (show ¬ g / 4 % 2 = 1 by omega), if_neg (show ¬ g / 2 % 2 = 1 by omega), if_neg (show ¬ g / 4 % 2 = 1 by omega)]
  split <;> omega
theorem im_st (hN : mN n) (hg : gA m g) (hw : mOn n w) (hk : mOn n k) (hx : mOn n x) : mSt n m (mIm n g w) (mIm n g k) (mIm n g x) ↔ mSt n m w k x := by
  unfold mSt
  rw [im_al hN hk hx, im_bt hN hk hw hx]
  by_cases q : m = 2
  · rw [im_pw hN ⟨hg.1.1, hg.2 q⟩ hk hx]
  · simp [q]
theorem im_lg (hN : mN n) (hg : gA m g) (hw : mOn n w) (hb : mOn n b) (hk : mOn n k) : mLg n m (mIm n g w) (mIm n g b) (mIm n g k) t ↔ mLg n m w b k t := by
  unfold mLg
  rw [im_st hN hg hw hk hb, im_nx hN hb hw]
  have e1 : mIm n g w ≠ mIm n g b ↔ w ≠ b := not_congr (im_eq hN hb hw)
  have e2 : mIm n g w ≠ mIm n g k ↔ w ≠ k := not_congr (im_eq hN hk hw)
  have e3 : mIm n g b ≠ mIm n g k ↔ b ≠ k := not_congr (im_eq hN hk hb)
  rw [e1, e2, e3]
  by_cases q : m = 2
  · rw [im_rk hN hk ⟨hg.1.1, hg.2 q⟩]
  · simp [q]
theorem im_up (hN : mN n) (hk : mOn n k) (hg : 0 ≤ g ∧ g < 2) (h : k / n + 1 < n) : mIm n g (k + n) = mIm n g k + n := by
  have u := mUp hN hk h
  have i1 := im_on (g := g) hN u.1
  have i2 := im_on (g := g) hN hk
  have r1 := im_rk hN u.1 hg
  have r2 := im_rk hN hk hg
  have u2 := mUp hN i2 (by omega)
  refine mSq_eq hN i1 u2.1 ?_ (by omega)
  rw [u2.2.2]
  obtain ⟨-, a1, -⟩ := mIm_sq (g := g) hN u.1
  obtain ⟨-, b1, -⟩ := mIm_sq (g := g) hN hk
  rw [a1, b1]
  unfold mIf
  rw [u.2.2]
  rw [if_neg (show ¬ g / 4 % 2 = 1 by omega), if_neg (show ¬ g / 4 % 2 = 1 by omega)]
theorem im_wk (hN : mN n) (hw : mOn n w) (hb : mOn n b) (hk : mOn n k) (hx : mOn n x) : mWk n (mIm n g w) (mIm n g b) (mIm n g k) (mIm n g x) ↔ mWk n w b k x := by
  unfold mWk
  have e1 : mIm n g x ≠ mIm n g b ↔ x ≠ b := not_congr (im_eq hN hb hx)
  have e2 : mIm n g x ≠ mIm n g k ↔ x ≠ k := not_congr (im_eq hN hk hx)
  rw [im_nx hN hx hw, im_nx hN hx hb, e1, e2]
theorem im_bk (hN : mN n) (hg : gA m g) (hw : mOn n w) (hb : mOn n b) (hk : mOn n k) (hx : mOn n x) : mBk n m (mIm n g w) (mIm n g b) (mIm n g k) (mIm n g x) ↔ mBk n m w b k x := by
  unfold mBk
  rw [im_nx hN hx hb, im_nx hN hx hw, im_st hN hg hw hk hx]
/-- the way back -/
def gi (g : Int) : Int := if g = 5 then 6 else if g = 6 then 5 else g
theorem gi_r (hg : gA m g) : gA m (gi g) := by
  unfold gi
  refine ⟨by split <;> (try split) <;> omega, fun e => ?_⟩
  have := hg.2 e
  rw [if_neg (by omega), if_neg (by omega)]
  exact this
theorem im_gi (hN : mN n) (hg : g8r g) (ha : mOn n a) : mIm n g (mIm n (gi g) a) = a := by
  have i1 := im_on (g := gi g) hN ha
  have e := mSq hN ha
  refine mSq_eq hN (im_on hN i1) ha ?_ ?_
  · rw [(mIm_sq (g := g) hN i1).2.1, (mIm_sq (g := gi g) hN ha).2.1, (mIm_sq (g := gi g) hN ha).2.2]
    rcases g_c hg with rfl | rfl | rfl | rfl | rfl | rfl | rfl | rfl <;> simp [gi, mIf, mIr] <;> omega
  · rw [(mIm_sq (g := g) hN i1).2.2, (mIm_sq (g := gi g) hN ha).2.1, (mIm_sq (g := gi g) hN ha).2.2]
    rcases g_c hg with rfl | rfl | rfl | rfl | rfl | rfl | rfl | rfl <;> simp [gi, mIf, mIr] <;> omega
theorem im_mn (hN : mN n) (hg : gA m g) (hL : m = 2 → 1 ≤ k / n ∧ k / n ≤ n - 2) (hw : mOn n w) (hb : mOn n b) (hk : mOn n k) (hx : mOn n x) (h : mMn n m w b k x) : mMn n m (mIm n g w) (mIm n g b) (mIm n g k) (mIm n g x) := by
  have e1 : mIm n g x = mIm n g w ↔ x = w := im_eq hN hw hx
  have e2 : mIm n g x = mIm n g b ↔ x = b := im_eq hN hb hx
  rcases h with ⟨a1, a2, a3, a4, a5, a6⟩ | ⟨a1, a2, a3, a4, a5, a6, a7⟩
  · exact Or.inl ⟨a1, (im_al hN hk hx).mpr a2, fun q => a3 ((im_bt hN hk hw hx).mp q), fun q => a4 ((im_bt hN hk hb hx).mp q), fun q => a5 (e1.mp q), fun q => a6 (e2.mp q)⟩
  · have hg2 : 0 ≤ g ∧ g < 2 := ⟨hg.1.1, hg.2 a1⟩
    have hr := hL a1
    have u := mUp hN hk (by omega)
    have iu := im_up hN hk hg2 (by omega)
    have e3 : mIm n g (k + n) = mIm n g w ↔ k + n = w := im_eq hN hw u.1
    have e4 : mIm n g (k + n) = mIm n g b ↔ k + n = b := im_eq hN hb u.1
    rw [iu] at e3 e4
    refine Or.inr ⟨a1, fun q => a2 (e3.mp q), fun q => a3 (e4.mp q), fun q => a4 (e1.mp q), fun q => a5 (e2.mp q), by rw [im_rk hN hx hg2]; exact a6, ?_⟩
    rcases a7 with a7 | ⟨a7, a8⟩
    · left; rw [a7]; exact iu
    · right
      refine ⟨?_, by rw [im_rk hN hk hg2]; exact a8⟩
      have e5 := mSq hN hx
      have h2 : (k + n) / n + 1 < n := by
        subst a7
        rcases mN_cases hN with rfl | rfl | rfl | rfl | rfl <;> omega
      rw [a7, im_up hN u.1 hg2 h2, iu]
theorem im_pr (hN : mN n) (hg : gA m g) (hw : mOn n w) (hb : mOn n b) (hk : mOn n k) (h : mPr n m w b k) : mPr n m (mIm n g w) (mIm n g b) (mIm n g k) ∧ mIm n g (k + n) = mIm n g k + n := by
  obtain ⟨a1, a2, a3, a4⟩ := h
  have hg2 : 0 ≤ g ∧ g < 2 := ⟨hg.1.1, hg.2 a1⟩
  have u := mUp hN hk (by omega)
  have iu := im_up hN hk hg2 (by omega)
  have e3 : mIm n g (k + n) = mIm n g w ↔ k + n = w := im_eq hN hw u.1
  have e4 : mIm n g (k + n) = mIm n g b ↔ k + n = b := im_eq hN hb u.1
  rw [iu] at e3 e4
  exact ⟨⟨a1, by rw [im_rk hN hk hg2]; exact a2, fun q => a3 (e3.mp q), fun q => a4 (e4.mp q)⟩, iu⟩
/-- what is decided is decided in every image -/
theorem im_D (hN : mN n) : ∀ (m g : Int), gA m g → ∀ (d : Nat) (w b k t : Int), mOn n w → mOn n b → mOn n k → mD n m d w b k t → mD n m d (mIm n g w) (mIm n g b) (mIm n g k) t := by
  have key : ∀ (m g : Int), gA m g → (∀ (d : Nat) (w b k : Int), mOn n w → mOn n b → mOn n k → m = 2 → mPq n d w b k → mPq n d (mIm n g w) (mIm n g b) (mIm n g k)) → ∀ (d : Nat) (w b k t : Int), mOn n w → mOn n b → mOn n k → mD n m d w b k t → mD n m d (mIm n g w) (mIm n g b) (mIm n g k) t := by
    intro m g hg hp d
    have back : ∀ y, mOn n y → ∃ x, mOn n x ∧ mIm n g x = y := fun y hy => ⟨mIm n (gi g) y, im_on hN hy, im_gi hN hg.1 hy⟩
    induction d with
    | zero =>
      intro w b k t hw hb hk h
      obtain ⟨a1, a2, a3, a4⟩ := mD_zero.mp h
      refine mD_zero.mpr ⟨a1, (im_lg hN hg hw hb hk).mpr a2, (im_st hN hg hw hk hb).mpr a3, fun y hy q => ?_⟩
      obtain ⟨x, hx, rfl⟩ := back y hy
      exact a4 x hx ((im_bk hN hg hw hb hk hx).mp q)
    | succ d ih =>
      intro w b k t hw hb hk h
      rcases mD_turn h with rfl | rfl
      · rcases mD_white.mp h with h | ⟨hl, ⟨x, a1, a2, a3⟩ | ⟨x, a1, a2, a3⟩ | ⟨a1, a2⟩⟩
        · exact mD_mono1 (ih w b k 0 hw hb hk h)
        · exact mD_white.mpr (Or.inr ⟨(im_lg hN hg hw hb hk).mpr hl, Or.inl ⟨mIm n g x, im_on hN a1, (im_wk hN hw hb hk a1).mpr a2, ih x b k 1 a1 hb hk a3⟩⟩)
        · exact mD_white.mpr (Or.inr ⟨(im_lg hN hg hw hb hk).mpr hl, Or.inr (Or.inl ⟨mIm n g x, im_on hN a1, im_mn hN hg hl.2.2.2.2.1 hw hb hk a1 a2, ih w b x 1 hw hb a1 a3⟩)⟩)
        · obtain ⟨p1, p2⟩ := im_pr hN hg hw hb hk a1
          have hr := hl.2.2.2.2.1 a1.1
          have u := mUp hN hk (by omega)
          refine mD_white.mpr (Or.inr ⟨(im_lg hN hg hw hb hk).mpr hl, Or.inr (Or.inr ⟨p1, ?_⟩)⟩)
          rw [← p2]
          exact hp d w b (k + n) hw hb u.1 a1.1 a2
      · rcases mD_black.mp h with h | ⟨hl, ⟨x, x1, x2⟩, hall⟩
        · exact mD_mono1 (ih w b k 1 hw hb hk h)
        · refine mD_black.mpr (Or.inr ⟨(im_lg hN hg hw hb hk).mpr hl, ⟨mIm n g x, im_on hN x1, (im_bk hN hg hw hb hk x1).mpr x2⟩, fun y hy q => ?_⟩)
          obtain ⟨z, hz, rfl⟩ := back y hy
          have := hall z hz ((im_bk hN hg hw hb hk hz).mp q)
          exact ⟨fun e => this.1 ((im_eq hN hk hz).mp e), ih w z k 0 hw hz hk this.2⟩
  have h01 : ∀ (m g : Int), g8r g → m ≠ 2 → ∀ (d : Nat) (w b k t : Int), mOn n w → mOn n b → mOn n k → mD n m d w b k t → mD n m d (mIm n g w) (mIm n g b) (mIm n g k) t := fun m g hg hm => key m g ⟨hg, fun e => absurd e hm⟩ (fun _ _ _ _ _ _ _ e => absurd e hm)
  intro m g hg
  refine key m g hg (fun d w b k hw hb hk _ h => ?_)
  rcases mPq_D.mp h with q | q
  · exact mPq_D.mpr (Or.inl (h01 0 g hg.1 (by decide) d w b k 1 hw hb hk q))
  · exact mPq_D.mpr (Or.inr (h01 1 g hg.1 (by decide) d w b k 1 hw hb hk q))
end SY
