/-! SYMMETRY -/
def mIf (n g f r : Int) : Int := if g % 2 = 1 then n - 1 - (if g / 4 % 2 = 1 then r else f) else (if g / 4 % 2 = 1 then r else f)
def mIr (n g f r : Int) : Int := if g / 2 % 2 = 1 then n - 1 - (if g / 4 % 2 = 1 then f else r) else (if g / 4 % 2 = 1 then f else r)
def mIm (n g a : Int) : Int := n * mIr n g (a % n) (a / n) + mIf n g (a % n) (a / n)
theorem mIm_sq {n g a : Int} (hN : mN n) (ha : mOn n a) : mOn n (mIm n g a) ∧ mIm n g a % n = mIf n g (a % n) (a / n) ∧ mIm n g a / n = mIr n g (a % n) (a / n) := by
  have e := mSq hN ha
  unfold mIm
  refine mSq_of hN ?_ ?_
  · unfold mIf; split <;> split <;> omega
  · unfold mIr; split <;> split <;> omega
theorem mIm_0 {n a : Int} (hN : mN n) (ha : mOn n a) : mIm n 0 a = a := by
  have e := mSq hN ha
  unfold mIm mIf mIr
  simp
  omega
/-- the least key of the images 0 to i -/
def mLe (n w b k t : Int) : Nat → Int
  | 0 => mKey n w b k t
  | i + 1 => min (mLe n w b k t i) (mKey n (mIm n ((i + 1 : Nat) : Int) w) (mIm n ((i + 1 : Nat) : Int) b) (mIm n ((i + 1 : Nat) : Int) k) t)
def mNs (m : Int) : Nat := if m = 2 then 1 else 7
def mLst (n m w b k t : Int) : Int := mLe n w b k t (mNs m)
theorem mLe_r {n w b k t : Int} (hN : mN n) (hw : mOn n w) (hb : mOn n b) (hk : mOn n k) (ht : 0 ≤ t ∧ t ≤ 1) (i : Nat) : 0 ≤ mLe n w b k t i ∧ mLe n w b k t i < 2 * (n * n) * (n * n) * (n * n) := by
  induction i with
  | zero => exact ⟨(mKey_r hN hw hb hk ht).1, mKey_all hN hw hb hk ht⟩
  | succ i ih =>
    have w1 := (mIm_sq (g := ((i + 1 : Nat) : Int)) hN hw).1
    have b1 := (mIm_sq (g := ((i + 1 : Nat) : Int)) hN hb).1
    have k1 := (mIm_sq (g := ((i + 1 : Nat) : Int)) hN hk).1
    have e1 := mKey_r hN w1 b1 k1 ht
    have e2 := mKey_all hN w1 b1 k1 ht
    unfold mLe
    omega
section CA
variable {kd : gKd} {ln : gLn} {M M0 : gM} {r n m w b k t : Int}
theorem g8 {g : Int} (h : 0 ≤ g ∧ g < 8) : (giand g 4 = 0 ↔ ¬ g / 4 % 2 = 1) ∧ (giand g 1 = 0 ↔ ¬ g % 2 = 1) ∧ (giand g 2 = 0 ↔ ¬ g / 2 % 2 = 1) ∧ rng (giand g 4) ∧ rng (giand g 1) ∧ rng (giand g 2) := by
  refine ⟨?_, ?_, ?_, rng_of _, rng_of _, rng_of _⟩
  all_goals
    have : g = 0 ∨ g = 1 ∨ g = 2 ∨ g = 3 ∨ g = 4 ∨ g = 5 ∨ g = 6 ∨ g = 7 := by omega
    rcases this with rfl | rfl | rfl | rfl | rfl | rfl | rfl | rfl <;> decide +kernel
theorem sX7_image {post : Int → gM → Prop} {a g : Int} (hN : mN n) (hn : M r 1 (-1) = n) (ha : mOn n a) (hg : 0 ≤ g ∧ g < 8) (h : post (mIm n g a) M) : wX7_image kd ln post r a g M := by
  have e := mSq hN ha
  obtain ⟨g4, g1, g2, r4, r1, r2⟩ := g8 hg
  obtain ⟨i1, i2, i3⟩ := mIm_sq (g := g) hN ha
  have hS := mSS hN
  have last : ∀ f r' : Int, mIf n g (a % n) (a / n) = f → mIr n g (a % n) (a / n) = r' → wX7_image_70 kd ln post r a g f r' M := fun f r' q1 q2 => by
    have e3 : mIm n g a = n * r' + f := by unfold mIm; rw [q1, q2]
    unfold wX7_image_70
    rw [hn, ← e3]
    exact fun _ => ⟨by have := i1.1; have := i1.2; omega, h⟩
  unfold wX7_image
  rw [hn]
  intro _
  refine ⟨by omega, ?_⟩
  rintro v3 rfl v5 rfl
  refine ⟨r4, fun c4 => ?_, fun c4 => ?_⟩
  · have c4' := g4.mp c4
    unfold wX7_image_31
    rw [hn]
    refine ⟨r1, fun c1 => ?_, fun c1 => fun _ => ?_⟩
    · have c1' := g1.mp c1
      unfold wX7_image_49
      rw [hn]
      refine ⟨r2, fun c2 => last _ _ ?_ ?_, fun c2 => fun _ => last _ _ ?_ ?_⟩
      · unfold mIf; rw [if_neg c1', if_neg c4']
      · unfold mIr; rw [if_neg (g2.mp c2), if_neg c4']
      · unfold mIf; rw [if_neg c1', if_neg c4']
      · unfold mIr; rw [if_pos (Classical.byContradiction fun q => c2 (g2.mpr q)), if_neg c4']
    · have c1' : g % 2 = 1 := Classical.byContradiction fun q => c1 (g1.mpr q)
      unfold wX7_image_49
      rw [hn]
      refine ⟨r2, fun c2 => last _ _ ?_ ?_, fun c2 => fun _ => last _ _ ?_ ?_⟩
      · unfold mIf; rw [if_pos c1', if_neg c4']
      · unfold mIr; rw [if_neg (g2.mp c2), if_neg c4']
      · unfold mIf; rw [if_pos c1', if_neg c4']
      · unfold mIr; rw [if_pos (Classical.byContradiction fun q => c2 (g2.mpr q)), if_neg c4']
  · have c4' : g / 4 % 2 = 1 := Classical.byContradiction fun q => c4 (g4.mpr q)
    unfold wX7_image_31
    rw [hn]
    refine ⟨r1, fun c1 => ?_, fun c1 => fun _ => ?_⟩
    · have c1' := g1.mp c1
      unfold wX7_image_49
      rw [hn]
      refine ⟨r2, fun c2 => last _ _ ?_ ?_, fun c2 => fun _ => last _ _ ?_ ?_⟩
      · unfold mIf; rw [if_neg c1', if_pos c4']
      · unfold mIr; rw [if_neg (g2.mp c2), if_pos c4']
      · unfold mIf; rw [if_neg c1', if_pos c4']
      · unfold mIr; rw [if_pos (Classical.byContradiction fun q => c2 (g2.mpr q)), if_pos c4']
    · have c1' : g % 2 = 1 := Classical.byContradiction fun q => c1 (g1.mpr q)
      unfold wX7_image_49
      rw [hn]
      refine ⟨r2, fun c2 => last _ _ ?_ ?_, fun c2 => fun _ => last _ _ ?_ ?_⟩
      · unfold mIf; rw [if_pos c1', if_pos c4']
      · unfold mIr; rw [if_neg (g2.mp c2), if_pos c4']
      · unfold mIf; rw [if_pos c1', if_pos c4']
      · unfold mIr; rw [if_pos (Classical.byContradiction fun q => c2 (g2.mpr q)), if_pos c4']
theorem sX7_least {post : Int → gM → Prop} (hN : mN n) (hn : rN n r M) (hm : 0 ≤ m ∧ m ≤ 2) (hw : mOn n w) (hb : mOn n b) (hk : mOn n k) (ht : 0 ≤ t ∧ t ≤ 1) (h : post (mLst n m w b k t) M) : wX7_least kd ln post r m w b k t M := by
  have hA := mAll hN
  have loop : ∀ (j i : Nat), i ≤ mNs m → mNs m - i < j → wX7_least_15 kd ln post r m w b k t j (mLe n w b k t i) ((i + 1 : Nat) : Int) M := by
    intro j
    induction j with
    | zero => intro i h1 h2; omega
    | succ j ih =>
      intro i h1 h2
      have e1 := mLe_r hN hw hb hk ht i
      have step : ∀ y : Int, y = ((mNs m + 1 : Nat) : Int) → wX7_least_28 kd ln post r m w b k t (wX7_least_15 kd ln post r m w b k t j) (mLe n w b k t i) ((i + 1 : Nat) : Int) y ((i + 1 : Nat) : Int) M := fun y ey => by
        have m7 : mNs m ≤ 7 := by unfold mNs; split <;> omega
        unfold wX7_least_28
        refine ⟨by omega, by omega, fun q => ⟨by omega, ?_⟩, fun q => ?_⟩
        · have : i = mNs m := by omega
          rw [this]; exact h
        · have g8 : 0 ≤ ((i + 1 : Nat) : Int) ∧ ((i + 1 : Nat) : Int) < 8 := by omega
          have w1 := (mIm_sq (g := ((i + 1 : Nat) : Int)) hN hw).1
          have b1 := (mIm_sq (g := ((i + 1 : Nat) : Int)) hN hb).1
          have k1 := (mIm_sq (g := ((i + 1 : Nat) : Int)) hN hk).1
          refine sX7_image hN hn.1 hw g8 fun _ => sX7_image hN hn.1 hb g8 fun _ => sX7_image hN hn.1 hk g8 fun _ => sX7_key hN hn.2 w1 b1 k1 ht fun _ => ⟨by omega, fun q1 => ?_, fun q1 => ?_⟩
          · have := ih (i + 1) (by omega) (by omega)
            unfold wX7_least_75
            rw [show mLe n w b k t (i + 1) = mLe n w b k t i from by rw [mLe]; omega] at this
            exact this
          · have := ih (i + 1) (by omega) (by omega)
            unfold wX7_least_75
            rw [show mLe n w b k t (i + 1) = mKey n (mIm n ((i + 1 : Nat) : Int) w) (mIm n ((i + 1 : Nat) : Int) b) (mIm n ((i + 1 : Nat) : Int) k) t from by rw [mLe]; omega] at this
            exact this
      unfold wX7_least_15
      refine ⟨by omega, fun q => step 8 ?_, fun q => step 2 ?_⟩
      · unfold mNs; rw [if_neg q]; rfl
      · unfold mNs; rw [if_pos q]; rfl
  unfold wX7_least
  exact sX7_key hN hn.2 hw hb hk ht fun _ => ⟨mNs m + 1, loop _ 0 (by omega) (by omega)⟩
end CA
