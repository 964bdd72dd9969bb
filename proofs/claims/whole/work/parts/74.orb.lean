section OR
variable {n g h m w b k t a x y : Int}
theorem gi_gi (hg : g8r g) : gi (gi g) = g := by
  rcases g_c hg with rfl | rfl | rfl | rfl | rfl | rfl | rfl | rfl <;> rfl
theorem im_ig (hN : mN n) (hg : g8r g) (ha : mOn n a) : mIm n (gi g) (mIm n g a) = a := by
  have := im_gi hN (g := gi g) (gi_r (m := 0) ⟨hg, fun e => absurd e (by decide)⟩).1 ha
  rw [gi_gi hg] at this
  exact this
theorem im_D_iff (hN : mN n) (hg : gA m g) {d : Nat} (hw : mOn n w) (hb : mOn n b) (hk : mOn n k) : mD n m d (mIm n g w) (mIm n g b) (mIm n g k) t ↔ mD n m d w b k t := by
  constructor
  · intro q
    have := im_D hN m (gi g) (gi_r hg) d _ _ _ t (im_on hN hw) (im_on hN hb) (im_on hN hk) q
    rw [im_ig hN hg.1 hw, im_ig hN hg.1 hb, im_ig hN hg.1 hk] at this
    exact this
  · exact im_D hN m g hg d w b k t hw hb hk
theorem im_AtD (hN : mN n) (hg : gA m g) {d : Nat} (hw : mOn n w) (hb : mOn n b) (hk : mOn n k) : mAtD n m d (mIm n g w) (mIm n g b) (mIm n g k) t ↔ mAtD n m d w b k t := by
  unfold mAtD
  rw [im_D_iff hN hg hw hb hk]
  constructor
  · rintro ⟨h1, h2⟩; exact ⟨h1, fun e he q => h2 e he ((im_D_iff hN hg hw hb hk).mpr q)⟩
  · rintro ⟨h1, h2⟩; exact ⟨h1, fun e he q => h2 e he ((im_D_iff hN hg hw hb hk).mp q)⟩
theorem im_Ds (hN : mN n) (hg : gA m g) (hw : mOn n w) (hb : mOn n b) (hk : mOn n k) : mDs n m (mIm n g w) (mIm n g b) (mIm n g k) t = mDs n m w b k t := by
  rcases mDs_c n m w b k t with ⟨e, q1, q2⟩ | ⟨q1, q2⟩
  · rw [q2, mDs_at ((im_AtD hN hg hw hb hk).mpr q1)]
  · rw [q2, mDs_no (fun e q => q1 e ((im_AtD hN hg hw hb hk).mp q))]
/-- one symmetry after another -/
def gc (g h : Int) : Int := 4 * ((g / 4 + h / 4) % 2) + 2 * ((g / 2 % 2 + (if g / 4 % 2 = 1 then h % 2 else h / 2 % 2)) % 2) + (g % 2 + (if g / 4 % 2 = 1 then h / 2 % 2 else h % 2)) % 2
theorem gc_r (hg : gA m g) (hh : gA m h) : gA m (gc g h) := by
  unfold gc
  refine ⟨?_, fun e => ?_⟩
  · constructor
    · split <;> omega
    · split <;> omega
  · have := hg.2 e
    have := hh.2 e
    rw [if_neg (by omega)]
    omega
theorem im_gc (hN : mN n) (hg : g8r g) (hh : g8r h) (ha : mOn n a) : mIm n g (mIm n h a) = mIm n (gc g h) a := by
  have i1 := im_on (g := h) hN ha
  have e := mSq hN ha
  have r1 := mIm_sq (g := h) hN ha
  have r2 := mIm_sq (g := g) hN i1
  have r3 := mIm_sq (g := gc g h) hN ha
  refine mSq_eq hN r2.1 r3.1 ?_ ?_
  · rw [r2.2.1, r3.2.1, r1.2.1, r1.2.2]
    rcases g_c hg with rfl | rfl | rfl | rfl | rfl | rfl | rfl | rfl <;> rcases g_c hh with rfl | rfl | rfl | rfl | rfl | rfl | rfl | rfl <;> simp [gc, mIf, mIr] <;> omega
  · rw [r2.2.2, r3.2.2, r1.2.1, r1.2.2]
    rcases g_c hg with rfl | rfl | rfl | rfl | rfl | rfl | rfl | rfl <;> rcases g_c hh with rfl | rfl | rfl | rfl | rfl | rfl | rfl | rfl <;> simp [gc, mIf, mIr] <;> omega
theorem gA_ns {i : Nat} : gA m i ↔ i ≤ mNs m := by
  unfold mNs
  constructor
  · rintro ⟨h1, h2⟩
    split
    · next e => have := h2 e; omega
    · omega
  · intro q
    split at q
    · exact ⟨by omega, fun _ => by omega⟩
    · next e => exact ⟨by omega, fun e2 => absurd e2 e⟩
theorem le_lst (hN : mN n) (hw : mOn n w) (hb : mOn n b) (hk : mOn n k) (j : Nat) : (∀ i : Nat, i ≤ j → mLe n w b k t j ≤ mKey n (mIm n i w) (mIm n i b) (mIm n i k) t) ∧ ∃ i : Nat, i ≤ j ∧ mLe n w b k t j = mKey n (mIm n i w) (mIm n i b) (mIm n i k) t := by
  have e0 : mKey n (mIm n ((0 : Nat) : Int) w) (mIm n ((0 : Nat) : Int) b) (mIm n ((0 : Nat) : Int) k) t = mKey n w b k t := by
    rw [show ((0 : Nat) : Int) = 0 from rfl, mIm_0 hN hw, mIm_0 hN hb, mIm_0 hN hk]
  induction j with
  | zero =>
    refine ⟨fun i hi => ?_, 0, Nat.le_refl 0, by rw [e0]; rfl⟩
    rw [show i = 0 by omega, e0]
    exact Int.le_refl _
  | succ j ih =>
    have e1 : mLe n w b k t (j + 1) = min (mLe n w b k t j) (mKey n (mIm n ((j + 1 : Nat) : Int) w) (mIm n ((j + 1 : Nat) : Int) b) (mIm n ((j + 1 : Nat) : Int) k) t) := rfl
    obtain ⟨h1, i0, i1, i2⟩ := ih
    refine ⟨fun i hi => ?_, ?_⟩
    · rcases Nat.lt_or_eq_of_le hi with q | q
      · have := h1 i (by omega); rw [e1]; omega
      · subst q; rw [e1]; omega
    · rcases (show mLe n w b k t (j + 1) = mLe n w b k t j ∨ mLe n w b k t (j + 1) = mKey n (mIm n ((j + 1 : Nat) : Int) w) (mIm n ((j + 1 : Nat) : Int) b) (mIm n ((j + 1 : Nat) : Int) k) t by rw [e1]; omega) with q | q
      · exact ⟨i0, by omega, q.trans i2⟩
      · exact ⟨j + 1, Nat.le_refl _, q⟩
theorem lst_le (hN : mN n) (hw : mOn n w) (hb : mOn n b) (hk : mOn n k) (hg : gA m g) : mLst n m w b k t ≤ mKey n (mIm n g w) (mIm n g b) (mIm n g k) t := by
  obtain ⟨i, rfl⟩ := Int.eq_ofNat_of_zero_le hg.1.1
  exact (le_lst hN hw hb hk (mNs m)).1 i (gA_ns.mp hg)
theorem lst_ex (hN : mN n) (hw : mOn n w) (hb : mOn n b) (hk : mOn n k) : ∃ g, gA m g ∧ mLst n m w b k t = mKey n (mIm n g w) (mIm n g b) (mIm n g k) t := by
  obtain ⟨i, h1, h2⟩ := (le_lst (t := t) hN hw hb hk (mNs m)).2
  exact ⟨i, gA_ns.mpr h1, h2⟩
/-- all images have one least key -/
theorem lst_im (hN : mN n) (hw : mOn n w) (hb : mOn n b) (hk : mOn n k) (hg : gA m g) : mLst n m (mIm n g w) (mIm n g b) (mIm n g k) t = mLst n m w b k t := by
  have one : ∀ (w b k g : Int), mOn n w → mOn n b → mOn n k → gA m g → mLst n m w b k t ≤ mLst n m (mIm n g w) (mIm n g b) (mIm n g k) t := fun w b k g hw hb hk hg => by
    obtain ⟨h, h1, h2⟩ := lst_ex (m := m) (t := t) hN (im_on (g := g) hN hw) (im_on (g := g) hN hb) (im_on (g := g) hN hk)
    rw [h2, im_gc hN h1.1 hg.1 hw, im_gc hN h1.1 hg.1 hb, im_gc hN h1.1 hg.1 hk]
    exact lst_le hN hw hb hk (gc_r h1 hg)
  have h1 := one w b k g hw hb hk hg
  have h2 := one _ _ _ (gi g) (im_on (g := g) hN hw) (im_on (g := g) hN hb) (im_on (g := g) hN hk) (gi_r hg)
  rw [im_ig hN hg.1 hw, im_ig hN hg.1 hb, im_ig hN hg.1 hk] at h2
  omega
/-- the least image of a legal position -/
theorem lst_cP (hN : mN n) (hw : mOn n w) (hb : mOn n b) (hk : mOn n k) (ht : 0 ≤ t ∧ t ≤ 1) (hL : mLg n m w b k t) : ∃ K : Nat, mLst n m w b k t = K ∧ (K : Int) < mAl3 n ∧ cP n m K ∧ kT K = t ∧ mDk n m K = mDs n m w b k t ∧ ∃ g, gA m g ∧ kW n K = mIm n g w ∧ kB n K = mIm n g b ∧ kK n K = mIm n g k := by
  obtain ⟨g, hg, e⟩ := lst_ex (m := m) (t := t) hN hw hb hk
  have iw := im_on (g := g) hN hw
  have ib := im_on (g := g) hN hb
  have ik := im_on (g := g) hN hk
  have r1 := mKey_r hN iw ib ik ht
  have r2 := mKey_all hN iw ib ik ht
  obtain ⟨d1, d2, d3, d4⟩ := k_enc hN iw ib ik ht
  obtain ⟨K, eK⟩ := Int.eq_ofNat_of_zero_le r1.1
  have eK : mKey n (mIm n g w) (mIm n g b) (mIm n g k) t = (K : Int) := eK
  rw [eK] at d1 d2 d3 d4 e r2
  refine ⟨K, e, r2, ⟨?_, ?_⟩, d4, ?_, g, hg, d1, d2, d3⟩
  · rw [d1, d2, d3, d4]; exact (im_lg hN hg hw hb hk).mpr hL
  · rw [d1, d2, d3, d4, lst_im hN hw hb hk hg, e]
  · unfold mDk
    rw [d1, d2, d3, d4]
    exact im_Ds hN hg hw hb hk
end OR
