def pc (n w b : Int) : Int := w * (n * n) + b
def pLe (n w b : Int) : Nat → Int
  | 0 => pc n w b
  | i + 1 => min (pLe n w b i) (pc n (mIm n ((i + 1 : Nat) : Int) w) (mIm n ((i + 1 : Nat) : Int) b))
/-- the least code of a pair's images -/
def pL (n m w b : Int) : Int := pLe n w b (mNs m)
section KP
variable {n g h m w b k t a x y : Int}
theorem pc_r (hN : mN n) (hw : mOn n w) (hb : mOn n b) : 0 ≤ pc n w b ∧ pc n w b < n * n * (n * n) := mIx hN hw hb
theorem pc_inj (hN : mN n) {w' b' : Int} (hw : mOn n w) (hb : mOn n b) (hw' : mOn n w') (hb' : mOn n b') (e : pc n w b = pc n w' b') : w = w' ∧ b = b' := by
  unfold pc at e
  rcases mN_cases hN with rfl | rfl | rfl | rfl | rfl <;> omega
theorem pc_dec (hN : mN n) {c : Int} (h : 0 ≤ c ∧ c < n * n * (n * n)) : mOn n (c / (n * n)) ∧ mOn n (c % (n * n)) ∧ pc n (c / (n * n)) (c % (n * n)) = c := by
  unfold pc
  rcases mN_cases hN with rfl | rfl | rfl | rfl | rfl <;> omega
theorem pc_enc (hN : mN n) (hw : mOn n w) (hb : mOn n b) : pc n w b / (n * n) = w ∧ pc n w b % (n * n) = b := by
  unfold pc
  rcases mN_cases hN with rfl | rfl | rfl | rfl | rfl <;> omega
theorem pLe_lst (hN : mN n) (hw : mOn n w) (hb : mOn n b) (j : Nat) : (∀ i : Nat, i ≤ j → pLe n w b j ≤ pc n (mIm n i w) (mIm n i b)) ∧ ∃ i : Nat, i ≤ j ∧ pLe n w b j = pc n (mIm n i w) (mIm n i b) := by
  have e0 : pc n (mIm n ((0 : Nat) : Int) w) (mIm n ((0 : Nat) : Int) b) = pc n w b := by
    rw [show ((0 : Nat) : Int) = 0 from rfl, mIm_0 hN hw, mIm_0 hN hb]
  induction j with
  | zero =>
    refine ⟨fun i hi => ?_, 0, Nat.le_refl 0, by rw [e0]; rfl⟩
    rw [show i = 0 by omega, e0]
    exact Int.le_refl _
  | succ j ih =>
    have e1 : pLe n w b (j + 1) = min (pLe n w b j) (pc n (mIm n ((j + 1 : Nat) : Int) w) (mIm n ((j + 1 : Nat) : Int) b)) := rfl
    obtain ⟨h1, i0, i1, i2⟩ := ih
    refine ⟨fun i hi => ?_, ?_⟩
    · rcases Nat.lt_or_eq_of_le hi with q | q
      · have := h1 i (by omega); rw [e1]; omega
      · subst q; rw [e1]; omega
    · rcases (show pLe n w b (j + 1) = pLe n w b j ∨ pLe n w b (j + 1) = pc n (mIm n ((j + 1 : Nat) : Int) w) (mIm n ((j + 1 : Nat) : Int) b) by rw [e1]; omega) with q | q
      · exact ⟨i0, by omega, q.trans i2⟩
      · exact ⟨j + 1, Nat.le_refl _, q⟩
theorem pL_le (hN : mN n) (hw : mOn n w) (hb : mOn n b) (hg : gA m g) : pL n m w b ≤ pc n (mIm n g w) (mIm n g b) := by
  obtain ⟨i, rfl⟩ := Int.eq_ofNat_of_zero_le hg.1.1
  exact (pLe_lst hN hw hb (mNs m)).1 i (gA_ns.mp hg)
theorem pL_ex (hN : mN n) (hw : mOn n w) (hb : mOn n b) : ∃ g, gA m g ∧ pL n m w b = pc n (mIm n g w) (mIm n g b) := by
  obtain ⟨i, h1, h2⟩ := (pLe_lst hN hw hb (mNs m)).2
  exact ⟨i, gA_ns.mpr h1, h2⟩
theorem pL_r (hN : mN n) (hw : mOn n w) (hb : mOn n b) : 0 ≤ pL n m w b ∧ pL n m w b < n * n * (n * n) := by
  obtain ⟨g, h1, h2⟩ := pL_ex (m := m) hN hw hb
  rw [h2]
  exact pc_r hN (im_on hN hw) (im_on hN hb)
theorem pL_im (hN : mN n) (hw : mOn n w) (hb : mOn n b) (hg : gA m g) : pL n m (mIm n g w) (mIm n g b) = pL n m w b := by
  have one : ∀ (w b g : Int), mOn n w → mOn n b → gA m g → pL n m w b ≤ pL n m (mIm n g w) (mIm n g b) := fun w b g hw hb hg => by
    obtain ⟨h, h1, h2⟩ := pL_ex (m := m) hN (im_on (g := g) hN hw) (im_on (g := g) hN hb)
    rw [h2, im_gc hN h1.1 hg.1 hw, im_gc hN h1.1 hg.1 hb]
    exact pL_le hN hw hb (gc_r h1 hg)
  have h1 := one w b g hw hb hg
  have h2 := one _ _ (gi g) (im_on (g := g) hN hw) (im_on (g := g) hN hb) (gi_r hg)
  rw [im_ig hN hg.1 hw, im_ig hN hg.1 hb] at h2
  omega
theorem mKey_pc : mKey n w b k t = 2 * (pc n w b * (n * n) + k) + t := rfl
/-- the least key begins with the least pair -/
theorem key_pair (hN : mN n) {c k t : Int} (hk : mOn n k) (ht : 0 ≤ t ∧ t ≤ 1) : (2 * (c * (n * n) + k) + t) / 2 / (n * n) = c ∧ (2 * (c * (n * n) + k) + t) / 2 % (n * n) = k := by
  rcases mN_cases hN with rfl | rfl | rfl | rfl | rfl <;> omega
theorem key_lt (hN : mN n) {c c' k k' t : Int} (hk : mOn n k) (hk' : mOn n k') (ht : 0 ≤ t ∧ t ≤ 1) (h : 2 * (c * (n * n) + k) + t ≤ 2 * (c' * (n * n) + k') + t) : c ≤ c' ∧ (c = c' → k ≤ k') := by
  rcases mN_cases hN with rfl | rfl | rfl | rfl | rfl <;> omega
theorem lst_pair (hN : mN n) (hw : mOn n w) (hb : mOn n b) (hk : mOn n k) (ht : 0 ≤ t ∧ t ≤ 1) : ∃ g, gA m g ∧ pc n (mIm n g w) (mIm n g b) = pL n m w b ∧ mLst n m w b k t = 2 * (pL n m w b * (n * n) + mIm n g k) + t ∧ ∀ h, gA m h → pc n (mIm n h w) (mIm n h b) = pL n m w b → mIm n g k ≤ mIm n h k := by
  obtain ⟨g, hg, e⟩ := lst_ex (m := m) (t := t) hN hw hb hk
  obtain ⟨h0, hh, e2⟩ := pL_ex (m := m) hN hw hb
  have ik := im_on (g := g) hN hk
  have l1 := lst_le (t := t) hN hw hb hk hh
  rw [e, mKey_pc, mKey_pc] at l1
  have q1 := key_lt hN ik (im_on (g := h0) hN hk) ht l1
  have l2 := pL_le hN hw hb hg
  have eq : pc n (mIm n g w) (mIm n g b) = pL n m w b := by omega
  refine ⟨g, hg, eq, by rw [e, mKey_pc, eq], fun h h1 h2 => ?_⟩
  have l3 := lst_le (t := t) hN hw hb hk h1
  rw [e, mKey_pc, mKey_pc] at l3
  exact (key_lt hN ik (im_on (g := h) hN hk) ht l3).2 (by omega)
/-- a pair that is the least of its images -/
def cq (n m : Int) (c : Nat) : Prop := vP n ((c : Int) / (n * n)) ((c : Int) % (n * n)) ∧ pL n m ((c : Int) / (n * n)) ((c : Int) % (n * n)) = c
noncomputable def cqb (n m : Int) (c : Nat) : Bool := @decide (cq n m c) (Classical.propDecidable _)
theorem cqb_t {c : Nat} : cqb n m c = true ↔ cq n m c := by unfold cqb; simp
theorem cqb_f {c : Nat} : cqb n m c = false ↔ ¬ cq n m c := by unfold cqb; simp
theorem vP_im (hN : mN n) (hw : mOn n w) (hb : mOn n b) : vP n (mIm n g w) (mIm n g b) ↔ vP n w b := by
  unfold vP
  rw [im_nx hN hb hw]
  have : mIm n g w ≠ mIm n g b ↔ w ≠ b := not_congr (im_eq hN hb hw)
  rw [this]
theorem pL_cq (hN : mN n) (hw : mOn n w) (hb : mOn n b) (hv : vP n w b) : cq n m (pL n m w b).toNat := by
  obtain ⟨g, hg, e⟩ := pL_ex (m := m) hN hw hb
  have r := pL_r (m := m) hN hw hb
  have iw := im_on (g := g) hN hw
  have ib := im_on (g := g) hN hb
  obtain ⟨d1, d2⟩ := pc_enc hN iw ib
  unfold cq
  rw [show (((pL n m w b).toNat : Nat) : Int) = pL n m w b by omega]
  have e1 : pL n m w b / (n * n) = mIm n g w := by rw [e]; exact d1
  have e2 : pL n m w b % (n * n) = mIm n g b := by rw [e]; exact d2
  rw [e1, e2]
  exact ⟨(vP_im hN hw hb).mpr hv, pL_im hN hw hb hg⟩
/-- the number of a pair -/
noncomputable def pn (n m : Int) (c : Int) : Int := (cN (cqb n m) c.toNat : Nat)
/-- the cell of a key -/
noncomputable def cK (n m K : Int) : Int := (pn n m (K / 2 / (n * n)) * 64 + K / 2 % (n * n)) * 2 + K % 2
def kpL (n : Int) (l : Nat → Int) : Prop := l 1 = n * n * (n * n) ∧ l 2 = n * n * (n * n) ∧ l 5 = n * n * (n * n) ∧ l 6 = n * n * (n * n) ∧ l 7 = n * n * (n * n)
/-- what KingPairs holds of one pair -/
def kpW (n m : Int) (Q : Nat → Int → Int) (w b : Int) : Prop := ∃ g1 g2, gA m g1 ∧ gA m g2 ∧ Q 6 (pc n w b) = g1 * (n * n) ∧ Q 7 (pc n w b) = g2 * (n * n) ∧ pc n (mIm n g1 w) (mIm n g1 b) = pL n m w b ∧ pc n (mIm n g2 w) (mIm n g2 b) = pL n m w b ∧ ∀ g, gA m g → pc n (mIm n g w) (mIm n g b) = pL n m w b → g = g1 ∨ g = g2
def kpG (n m : Int) (Q : Nat → Int → Int) : Prop := Q 3 (-1) = n * n ∧ Q 0 (-1) = pn n m (n * n * (n * n)) ∧ (∀ w b, mOn n w → mOn n b → ¬ vP n w b → Q 5 (pc n w b) = -1) ∧ (∀ w b, mOn n w → mOn n b → vP n w b → Q 5 (pc n w b) = pn n m (pL n m w b) ∧ kpW n m Q w b) ∧ ∀ c : Nat, (c : Int) < n * n * (n * n) → cq n m c → Q 1 (pn n m c) = (c : Int) / (n * n) ∧ Q 2 (pn n m c) = (c : Int) % (n * n)
theorem pn_r (hN : mN n) {c : Int} (hc : 0 ≤ c ∧ c ≤ n * n * (n * n)) : 0 ≤ pn n m c ∧ pn n m c ≤ c ∧ pn n m c ≤ 4096 := by
  have := cN_le (cqb n m) c.toNat
  have hS : n * n * (n * n) ≤ 4096 := by rcases mN_cases hN with rfl | rfl | rfl | rfl | rfl <;> omega
  unfold pn
  omega
end KP
section KQ
variable {kd : gKd} {ln : gLn} {M : gM} {o q n m w b k t : Int}
theorem sX2_cellOf {post : Int → gM → Prop} (hN : mN n) (hl : bdL n (ln o)) (hB : bdG n (M o)) (ho : kd o = 0) (ho0 : o ≠ 0) (h4 : M q 4 (-1) = o) (kl : kpL n (ln q)) (hK : kpG n m (M q)) (hw : mOn n w) (hb : mOn n b) (hk : mOn n k) (ht : 0 ≤ t ∧ t ≤ 1) (hok : vP n w b → post (cK n m (mLst n m w b k t)) M) (hno : ¬ vP n w b → post (-1) M) : wX2_cellOf kd ln post q w b k t M := by
  obtain ⟨k1, k2, k5, k6, k7⟩ := kl
  obtain ⟨l2, l3, l4, -⟩ := hl
  have r := pc_r hN hw hb
  have e3 := mSq hN hk
  have hS := mSS hN
  unfold wX2_cellOf
  rw [hK.1, k5, k6, k7, h4, l4]
  intro _ v2 ev
  have ev : v2 = pc n w b := ev
  subst ev
  refine ⟨by omega, r, fun _ => ⟨fun c1 => ?_, fun c1 => ?_⟩⟩
  · have hv : vP n w b := Classical.byContradiction fun g => c1 (hK.2.2.1 w b hw hb g)
    obtain ⟨n5, g1, g2, a1, a2, a3, a4, a5, a6, a7⟩ := hK.2.2.2.1 w b hw hb hv
    have i1 := im_on (g := g1) hN hk
    have i2 := im_on (g := g2) hN hk
    have f1 := mSq hN i1
    have f2 := mSq hN i2
    have pr := pn_r (m := m) hN (c := pL n m w b) (by have := pL_r (m := m) hN hw hb; omega)
    have ix : ∀ g : Int, g8r g → 0 ≤ g * (n * n) + k ∧ g * (n * n) + k < 8 * (n * n) := fun g hg => by
      rcases g_c hg with rfl | rfl | rfl | rfl | rfl | rfl | rfl | rfl <;> have := hk.1 <;> have := hk.2 <;> omega
    rw [a3, a4, n5, hB.2.2.1 g1 k a1.1 hk, hB.2.2.1 g2 k a2.1 hk]
    obtain ⟨g, b1, b2, b3, b4⟩ := lst_pair (m := m) (t := t) hN hw hb hk ht
    have cell : ∀ z : Int, z = mIm n g k → wX2_cellOf_76 kd ln post q w b k t z (pn n m (pL n m w b)) M := fun z ez => by
      subst ez
      have ig := mSq hN (im_on (g := g) hN hk)
      have e := hok hv
      obtain ⟨d1, d2⟩ := key_pair hN (c := pL n m w b) (im_on (g := g) hN hk) ht
      unfold cK at e
      rw [b3, d1, d2] at e
      unfold wX2_cellOf_76 wX5_cellAt
      have ee : (pn n m (pL n m w b) * 64 + mIm n g k) * 2 + (2 * (pL n m w b * (n * n) + mIm n g k) + t) % 2 = pn n m (pL n m w b) * 8 * 8 + mIm n g k + (pn n m (pL n m w b) * 8 * 8 + mIm n g k) + t := by omega
      have e2 : (pn n m (pL n m w b) * 8 * 8 + mIm n g k) * 2 + t = (pn n m (pL n m w b) * 64 + mIm n g k) * 2 + (2 * (pL n m w b * (n * n) + mIm n g k) + t) % 2 := by omega
      rw [e2]
      exact ⟨by omega, fun _ => e⟩
    refine ⟨ho0, ho, by omega, by omega, r, fun _ => ⟨ix g1 a1.1, fun _ => ?_⟩⟩
    intro v18 e18
    refine ⟨by omega, r, fun _ => ⟨ix g2 a2.1, fun _ => ?_⟩⟩
    intro v26 e26
    have m1 := b4 g1 a1 a5
    have m2 := b4 g2 a2 a6
    have mm : mIm n g k = mIm n g1 k ∨ mIm n g k = mIm n g2 k := by
      rcases a7 g b1 b2 with e | e
      · left; rw [e]
      · right; rw [e]
    rw [e18, e26]
    refine ⟨fun c2 => cell _ (by omega), fun c2 => cell _ (by omega)⟩
  · refine hno (fun hv => ?_)
    have n5 := (hK.2.2.2.1 w b hw hb hv).1
    have pr := pn_r (m := m) hN (c := pL n m w b) (by have := pL_r (m := m) hN hw hb; omega)
    omega
end KQ
