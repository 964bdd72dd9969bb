/-- KingPairs as far as code c -/
def kpI (n m : Int) (Q : Nat → Int → Int) (c : Nat) : Prop := Q 3 (-1) = n * n ∧ Q 0 (-1) = pn n m c ∧ (∀ w b, mOn n w → mOn n b → pc n w b < c → (¬ vP n w b → Q 5 (pc n w b) = -1) ∧ (vP n w b → Q 5 (pc n w b) = pn n m (pL n m w b) ∧ kpW n m Q w b)) ∧ (∀ i : Int, (c : Int) ≤ i → i < n * n * (n * n) → Q 5 i = -1 ∧ Q 6 i = 0 ∧ Q 7 i = 0) ∧ ∀ c' : Nat, c' < c → cq n m c' → Q 1 (pn n m c') = (c' : Int) / (n * n) ∧ Q 2 (pn n m c') = (c' : Int) % (n * n)
abbrev kpS : List Nat := [0, 1, 2, 5, 6, 7]
theorem kpI_skip {n m : Int} {Q : Nat → Int → Int} {c : Nat} {w b : Int} (hN : mN n) (hw : mOn n w) (hb : mOn n b) (ec : pc n w b = c) (h : kpI n m Q c) (hv : ¬ vP n w b) : kpI n m Q (c + 1) := by
  obtain ⟨h1, h2, h3, h4, h5⟩ := h
  obtain ⟨d1, d2⟩ := pc_enc hN hw hb
  have ncq : ¬ cq n m c := fun q => by
    have := q.1
    rw [← ec, d1, d2] at this
    exact hv this
  have r := pc_r hN hw hb
  refine ⟨h1, ?_, fun w' b' hw' hb' hlt => ?_, fun i i1 i2 => h4 i (by omega) i2, fun c' hc' q => ?_⟩
  · rw [h2]
    unfold pn
    rw [show (((c + 1 : Nat) : Int)).toNat = c + 1 by omega, show ((c : Nat) : Int).toNat = c by omega, cN_f (cqb_f.mpr ncq)]
  · rcases Int.lt_or_eq_of_le (show pc n w' b' ≤ c by omega) with q | q
    · exact h3 w' b' hw' hb' q
    · obtain ⟨e1, e2⟩ := pc_inj hN hw' hb' hw hb (q.trans ec.symm)
      subst e1 e2
      refine ⟨fun _ => ?_, fun g => absurd g hv⟩
      rw [q]
      exact (h4 c (by omega) (by omega)).1
  · rcases Nat.lt_or_eq_of_le (Nat.lt_succ_iff.mp hc') with g | g
    · exact h5 c' g q
    · rw [g] at q; exact absurd q ncq
section KI
variable {kd : gKd} {ln : gLn} {M : gM} {o q n m w b : Int}
theorem sX2_enter {post : gM → Prop} {c : Nat} (hN : mN n) (hl : bdL n (ln o)) (hB : bdG n (M o)) (ho : kd o = 0) (ho0 : o ≠ 0) (hoq : o ≠ q) (h4 : M q 4 (-1) = o) (kl : kpL n (ln q)) (hw : mOn n w) (hb : mOn n b) (hv : vP n w b) (ec : pc n w b = c) (hI : kpI n m (M q) c) (h : ∀ M', kpI n m (M' q) (c + 1) → Ch q kpS M M' → post M') : wX2_enter kd ln post q w b ((mNs m + 1 : Nat) : Int) M := by
  obtain ⟨k1, k2, k5, k6, k7⟩ := kl
  obtain ⟨l2, l3, l4, -⟩ := hl
  have hS := mSS hN
  have hSS : n * n * (n * n) ≤ 4096 := by rcases mN_cases hN with rfl | rfl | rfl | rfl | rfl <;> omega
  have r := pc_r hN hw hb
  have m7 : mNs m ≤ 7 := by unfold mNs; split <;> omega
  obtain ⟨i1, i2, i3, i4, i5⟩ := id hI
  have gAi : ∀ i : Nat, i ≤ mNs m → gA m i := fun i hi => gA_ns.mpr hi
  have e0 : pc n (mIm n ((0 : Nat) : Int) w) (mIm n ((0 : Nat) : Int) b) = pc n w b := by
    rw [show ((0 : Nat) : Int) = 0 from rfl, mIm_0 hN hw, mIm_0 hN hb]
  -- the end: least is known
  have fin : ∀ (M' : gM) (g1 g2 : Nat), Ch q [6, 7] M M' → (∀ i, i ≠ pc n w b → M' q 6 i = M q 6 i ∧ M' q 7 i = M q 7 i) → M' q 6 (pc n w b) = g1 * (n * n) → M' q 7 (pc n w b) = g2 * (n * n) → g1 ≤ mNs m → g2 ≤ mNs m → pc n (mIm n g1 w) (mIm n g1 b) = pL n m w b → pc n (mIm n g2 w) (mIm n g2 b) = pL n m w b → (∀ g : Nat, g < g1 → pc n (mIm n g w) (mIm n g b) ≠ pL n m w b) → (∀ g : Nat, g2 < g → g ≤ mNs m → pc n (mIm n g w) (mIm n g b) ≠ pL n m w b) → kpW n m (M' q) w b := fun M' g1 g2 cM oth e6 e7 r1 r2 t1 t2 f1 f2 => by
    refine ⟨g1, g2, gAi g1 r1, gAi g2 r2, e6, e7, t1, t2, fun g hg eg => ?_⟩
    obtain ⟨gn, rfl⟩ := Int.eq_ofNat_of_zero_le hg.1.1
    have gle := gA_ns.mp hg
    have a1 : g1 ≤ gn := by
      rcases Nat.lt_or_ge gn g1 with z | z
      · exact absurd eg (f1 gn z)
      · exact z
    have a2 : gn ≤ g2 := by
      rcases Nat.lt_or_ge g2 gn with z | z
      · exact absurd eg (f2 gn z gle)
      · exact z
    by_cases z1 : gn = g1
    · left; omega
    · by_cases z2 : gn = g2
      · right; omega
      · exfalso
        have p12 := pc_inj hN (im_on (g := (g1 : Int)) hN hw) (im_on (g := (g1 : Int)) hN hb) (im_on (g := (g2 : Int)) hN hw) (im_on (g := (g2 : Int)) hN hb) (t1.trans t2.symm)
        have p13 := pc_inj hN (im_on (g := (g1 : Int)) hN hw) (im_on (g := (g1 : Int)) hN hb) (im_on (g := (gn : Int)) hN hw) (im_on (g := (gn : Int)) hN hb) (t1.trans eg.symm)
        have := im_two hN hw hb hv.1 (by omega) (by omega) (by omega) p12 p13 (by omega) (by omega)
        omega
  have loop : ∀ (j i : Nat) (g1 g2 : Nat) (M' : gM), i ≤ mNs m + 1 → Ch q [6, 7] M M' → (∀ x, x ≠ pc n w b → M' q 6 x = M q 6 x ∧ M' q 7 x = M q 7 x) → M' q 6 (pc n w b) = g1 * (n * n) → M' q 7 (pc n w b) = g2 * (n * n) → (g1 < i ∨ (i = 0 ∧ g1 = 0)) → (g2 < i ∨ (i = 0 ∧ g2 = 0)) → pc n (mIm n g1 w) (mIm n g1 b) = pLe n w b (i - 1) → pc n (mIm n g2 w) (mIm n g2 b) = pLe n w b (i - 1) → (∀ g : Nat, g < g1 → pc n (mIm n g w) (mIm n g b) ≠ pLe n w b (i - 1)) → (∀ g : Nat, g2 < g → g < i → pc n (mIm n g w) (mIm n g b) ≠ pLe n w b (i - 1)) → mNs m + 1 - i < j → wX2_enter_17 kd ln post q w b ((mNs m + 1 : Nat) : Int) j (pc n w b) (pLe n w b (i - 1)) ((i : Int) * (n * n)) M' := by
    intro j
    induction j with
    | zero => intro i g1 g2 M' a1 a2 a3 a4 a5 a6 a7 a8 a9 a10 a11 a12; omega
    | succ j ih =>
      intro i g1 g2 M' a1 a2 a3 a4 a5 a6 a7 a8 a9 a10 a11 a12
      have i7 : ((i : Int) * (n * n) < (((mNs m + 1 : Nat) : Int)) * (n * n)) ↔ i < mNs m + 1 := by
        constructor
        · intro z
          have := Int.lt_of_mul_lt_mul_right z (by omega)
          omega
        · intro z
          exact Int.mul_lt_mul_of_pos_right (by omega) (by omega)
      have ib1 : (i : Int) * (n * n) ≤ 8 * 64 := Int.mul_le_mul (by omega) hS.2 (by omega) (by omega)
      have ib0 : 0 ≤ (i : Int) * (n * n) := Int.mul_nonneg (by omega) (by omega)
      have ib2 : (((mNs m + 1 : Nat) : Int)) * (n * n) ≤ 8 * 64 := Int.mul_le_mul (by omega) hS.2 (by omega) (by omega)
      have ib3 : 0 ≤ (((mNs m + 1 : Nat) : Int)) * (n * n) := Int.mul_nonneg (by omega) (by omega)
      have q3 : M' q 3 (-1) = n * n := by rw [a2.at (show 3 ∉ [6, 7] by decide)]; exact i1
      have q4 : M' q 4 (-1) = o := by rw [a2.at (show 4 ∉ [6, 7] by decide)]; exact h4
      have qo : M' o = M o := a2.ot hoq
      have plr : 0 ≤ pLe n w b (i - 1) ∧ pLe n w b (i - 1) < n * n * (n * n) := by
        rw [← a8]; exact pc_r hN (im_on hN hw) (im_on hN hb)
      unfold wX2_enter_17
      rw [q3, q4, k1, k2, k5, k6, l4, qo]
      refine fun _ => ⟨by omega, by omega, fun z => ?_, fun z => ?_⟩
      · -- behind the last way
        have hi : i = mNs m + 1 := by omega
        subst hi
        have pl : pLe n w b (mNs m + 1 - 1) = pL n m w b := rfl
        rw [pl] at a8 a9 a10 a11 plr ⊢
        have W := fin M' g1 g2 a2 a3 a4 a5 (by omega) (by omega) a8 a9 a10 (fun g z1 z2 => a11 g z1 (by omega))
        have five : M' q 5 = M q 5 := a2.at (show 5 ∉ [6, 7] by decide)
        have zero : M' q 0 = M q 0 := a2.at (show 0 ∉ [6, 7] by decide)
        have ple : pL n m w b ≤ pc n w b := by
          have := pL_le (m := m) hN hw hb (gAi 0 (by omega))
          rw [e0] at this; exact this
        -- KingPairs with one more
        have close : ∀ M'' : gM, Ch q kpS M' M'' → M'' q 6 = M' q 6 → M'' q 7 = M' q 7 → M'' q 0 (-1) = pn n m ((c + 1 : Nat) : Int) → (∀ x, x ≠ pc n w b → M'' q 5 x = M q 5 x) → M'' q 5 (pc n w b) = pn n m (pL n m w b) → (∀ c' : Nat, c' < c + 1 → cq n m c' → M'' q 1 (pn n m c') = (c' : Int) / (n * n) ∧ M'' q 2 (pn n m c') = (c' : Int) % (n * n)) → post M'' := fun M'' b1 b2 b3 b4 b5 b6 b7 => by
          have W2 : kpW n m (M'' q) w b := by
            unfold kpW at W ⊢
            rw [b2, b3]; exact W
          refine h M'' ⟨?_, b4, fun w' b' hw' hb' hlt => ?_, fun x x1 x2 => ?_, b7⟩ ((a2.mo (by decide)).tr b1)
          · rw [b1.at (show 3 ∉ kpS by decide)]; exact q3
          · rcases Int.lt_or_eq_of_le (show pc n w' b' ≤ c by omega) with g | g
            · have ne : pc n w' b' ≠ pc n w b := by omega
              rw [b5 _ ne]
              have old := i3 w' b' hw' hb' g
              refine ⟨old.1, fun z2 => ⟨(old.2 z2).1, ?_⟩⟩
              have ow := (old.2 z2).2
              unfold kpW at ow ⊢
              rw [b2, b3, (a3 _ ne).1, (a3 _ ne).2]
              exact ow
            · obtain ⟨e1, e2⟩ := pc_inj hN hw' hb' hw hb (g.trans ec.symm)
              subst e1 e2
              exact ⟨fun z2 => absurd hv z2, fun _ => ⟨b6, W2⟩⟩
          · have ne : x ≠ pc n w b := by omega
            rw [b5 _ ne, b2, b3, (a3 _ ne).1, (a3 _ ne).2]
            exact i4 x (by omega) x2
        refine ⟨by omega, by omega, fun z2 => ?_, fun z2 => ?_⟩
        · -- an image of an earlier pair
          have plt : pL n m w b < pc n w b := by omega
          obtain ⟨g, hg, eg⟩ := pL_ex (m := m) hN hw hb
          have gw := im_on (g := g) hN hw
          have gb := im_on (g := g) hN hb
          have old := (i3 _ _ gw gb (by omega)).2 ((vP_im hN hw hb).mpr hv)
          rw [pL_im hN hw hb hg, ← eg] at old
          have ncq : ¬ cq n m c := fun z3 => by
            obtain ⟨d1, d2⟩ := pc_enc hN hw hb
            have := z3.2
            rw [← ec, d1, d2] at this
            omega
          rw [five, old.1]
          refine ⟨by omega, plr, fun _ => ⟨r, close _ (Ch.up Ch.rf (by decide) _ _) (gu_k (by decide)) (gu_k (by decide)) ?_ (fun x hx => ?_) gu_s (fun c' hc' z3 => ?_)⟩⟩
          · rw [gu_k (by decide), zero, i2]
            unfold pn
            rw [show (((c + 1 : Nat) : Int)).toNat = c + 1 by omega, show ((c : Nat) : Int).toNat = c by omega, cN_f (cqb_f.mpr ncq)]
          · rw [gu_i hx, five]
          · rw [gu_k (by decide), gu_k (by decide), a2.at (show 1 ∉ [6, 7] by decide), a2.at (show 2 ∉ [6, 7] by decide)]
            rcases Nat.lt_or_eq_of_le (Nat.lt_succ_iff.mp hc') with g2 | g2
            · exact i5 c' g2 z3
            · rw [g2] at z3; exact absurd z3 ncq
        · -- a new one
          have hcq : cq n m c := by
            have := pL_cq (m := m) hN hw hb hv
            rw [z2, ec] at this
            rwa [show ((c : Int)).toNat = c by omega] at this
          have pr := pn_r (m := m) hN (c := (c : Int)) (by omega)
          have pS : pn n m ((c + 1 : Nat) : Int) = pn n m c + 1 := by
            unfold pn
            rw [show (((c + 1 : Nat) : Int)).toNat = c + 1 by omega, show ((c : Nat) : Int).toNat = c by omega, cN_t (cqb_t.mpr hcq)]
            omega
          have z0 : M' q 0 (-1) = pn n m c := by rw [zero]; exact i2
          obtain ⟨d1, d2⟩ := pc_enc hN hw hb
          have hw6 := mSq hN hw
          have hb6 := mSq hN hb
          simp only [gu_rd, z0, Nat.reduceEqDiff, false_and, and_false, if_false, true_and]
          refine ⟨by omega, fun _ => ⟨by omega, by omega, by omega, fun _ => ⟨by omega, by omega, by omega, fun _ => ⟨r, fun _ => ⟨by omega, ?_⟩⟩⟩⟩⟩
          refine close _ (Ch.up (Ch.up (Ch.up (Ch.up Ch.rf (by decide) _ _) (by decide) _ _) (by decide) _ _) (by decide) _ _) ?_ ?_ ?_ (fun x hx => ?_) ?_ (fun c' hc' z3 => ?_)
          · rw [gu_k (by decide), gu_k (by decide), gu_k (by decide), gu_k (by decide)]
          · rw [gu_k (by decide), gu_k (by decide), gu_k (by decide), gu_k (by decide)]
          · rw [gu_s, pS]
          · rw [gu_k (by decide), gu_i hx, gu_k (by decide), gu_k (by decide), five]
          · rw [gu_k (by decide), gu_s, z2, ec]
          · rw [gu_k (by decide), gu_k (by decide), gu_k (by decide), gu_v, gu_k (by decide), gu_k (by decide), gu_v, gu_k (by decide)]
            rw [a2.at (show 1 ∉ [6, 7] by decide), a2.at (show 2 ∉ [6, 7] by decide)]
            rcases Nat.lt_or_eq_of_le (Nat.lt_succ_iff.mp hc') with g2 | g2
            · have lt : pn n m c' < pn n m c := by
                have := cN_t (cqb_t.mpr z3)
                have := cN_mono (p := cqb n m) (show c' + 1 ≤ c by omega)
                unfold pn
                rw [show ((c' : Nat) : Int).toNat = c' by omega, show ((c : Nat) : Int).toNat = c by omega]
                omega
              rw [if_neg (by omega), if_neg (by omega)]
              exact i5 c' g2 z3
            · rw [g2, if_pos rfl, if_pos rfl, ← ec, d1, d2]
              exact ⟨rfl, rfl⟩
      · -- one way more
        have hi : i ≤ mNs m := by omega
        have hg := gAi i hi
        have iw := im_on (g := (i : Int)) hN hw
        have ib := im_on (g := (i : Int)) hN hb
        have vr := pc_r hN iw ib
        have ixw : 0 ≤ (i : Int) * (n * n) + w ∧ (i : Int) * (n * n) + w < 8 * (n * n) := by
          have : (i : Int) * (n * n) ≤ 7 * (n * n) := Int.mul_le_mul_of_nonneg_right (by omega) (by omega)
          have := hw.1; have := hw.2; omega
        have ixb : 0 ≤ (i : Int) * (n * n) + b ∧ (i : Int) * (n * n) + b < 8 * (n * n) := by
          have : (i : Int) * (n * n) ≤ 7 * (n * n) := Int.mul_le_mul_of_nonneg_right (by omega) (by omega)
          have := hb.1; have := hb.2; omega
        rw [hB.2.2.1 i w hg.1 hw, hB.2.2.1 i b hg.1 hb]
        refine ⟨ho0, ho, by omega, ixw, fun _ => ⟨ixb, fun _ => ?_⟩⟩
        intro v42 ev
        have ev : v42 = pc n (mIm n i w) (mIm n i b) := ev
        have step : pLe n w b i = min (pLe n w b (i - 1)) (pc n (mIm n i w) (mIm n i b)) := by
          cases i with
          | zero => rw [e0]; show pc n w b = min (pc n w b) (pc n w b); omega
          | succ i => rfl
        have next : (((i : Int) * (n * n)) + n * n) = ((i + 1 : Nat) : Int) * (n * n) := by
          have : ((i + 1 : Nat) : Int) = (i : Int) + 1 := by omega
          rw [this, Int.add_mul]; omega
        have pim : i - 1 + 1 = i ∨ i = 0 := by omega
        have low : ∀ g : Nat, g < i → pLe n w b (i - 1) ≤ pc n (mIm n g w) (mIm n g b) := fun g hgi => (pLe_lst hN hw hb (i - 1)).1 g (by omega)
        have at0 : i = 0 → pc n (mIm n i w) (mIm n i b) = pLe n w b (i - 1) := fun e => by subst e; rw [e0]; rfl
        have t90 : ∀ (l : Int) (M'' : gM) (g1' g2' : Nat), l = pLe n w b i → Ch q [6, 7] M M'' → (∀ x, x ≠ pc n w b → M'' q 6 x = M q 6 x ∧ M'' q 7 x = M q 7 x) → M'' q 6 (pc n w b) = g1' * (n * n) → M'' q 7 (pc n w b) = g2' * (n * n) → g1' < i + 1 → g2' < i + 1 → pc n (mIm n g1' w) (mIm n g1' b) = pLe n w b i → pc n (mIm n g2' w) (mIm n g2' b) = pLe n w b i → (∀ g : Nat, g < g1' → pc n (mIm n g w) (mIm n g b) ≠ pLe n w b i) → (∀ g : Nat, g2' < g → g < i + 1 → pc n (mIm n g w) (mIm n g b) ≠ pLe n w b i) → wX2_enter_90 kd ln post q w b ((mNs m + 1 : Nat) : Int) (wX2_enter_17 kd ln post q w b ((mNs m + 1 : Nat) : Int) j) (pc n w b) l ((i : Int) * (n * n)) M'' := fun l M'' g1' g2' el b2 b3 b4 b5 b6 b7 b8 b9 b10 b11 => by
          unfold wX2_enter_90
          have q3' : M'' q 3 (-1) = n * n := by rw [b2.at (show 3 ∉ [6, 7] by decide)]; exact i1
          rw [q3']
          intro _ v57 e57
          rw [e57, next, el]
          exact ih (i + 1) g1' g2' M'' (by omega) b2 b3 b4 b5 (Or.inl b6) (Or.inl b7) b8 b9 b10 b11 (by omega)
        rw [ev]
        refine ⟨by omega, by omega, fun c1 => ?_, fun c1 => ⟨by omega, r, ?_⟩⟩
        · unfold wX2_enter_70
          refine ⟨by omega, by omega, fun c2 => ?_, fun c2 => ?_⟩
          · have i0 : i ≠ 0 := fun e => by have := at0 e; omega
            have pe : pLe n w b i = pLe n w b (i - 1) := by omega
            refine t90 _ M' g1 g2 pe.symm a2 a3 a4 a5 (by omega) (by omega) (a8.trans pe.symm) (a9.trans pe.symm) (fun g g3 => by rw [pe]; exact a10 g g3) (fun g g3 g4 => ?_)
            rw [pe]
            rcases Nat.lt_or_eq_of_le (Nat.lt_succ_iff.mp g4) with g5 | g5
            · exact a11 g g3 g5
            · rw [g5]; omega
          · rw [k7]
            have pe : pLe n w b i = pLe n w b (i - 1) := by omega
            refine ⟨by omega, r, by omega, t90 _ _ g1 i (by omega) (Ch.up a2 (by decide) _ _) (fun x hx => ?_) ?_ gu_s (by omega) (by omega) (a8.trans pe.symm) (by omega) (fun g g3 => by rw [pe]; exact a10 g g3) (fun g g3 g4 => by omega)⟩
            · rw [gu_k (by decide), gu_i hx]; exact a3 x hx
            · rw [gu_k (by decide)]; exact a4
        · unfold wX2_enter_70
          rw [k7]
          have i0 : i ≠ 0 := fun e => by have := at0 e; omega
          refine ⟨by omega, by omega, fun c2 => by omega, fun c2 => ⟨by omega, r, by omega, t90 _ _ i i (by omega) (Ch.up (Ch.up a2 (by decide) _ _) (by decide) _ _) (fun x hx => ?_) ?_ gu_s (by omega) (by omega) (by omega) (by omega) (fun g g3 => ?_) (fun g g3 g4 => by omega)⟩⟩
          · rw [gu_k (by decide), gu_i hx, gu_i hx, gu_k (by decide)]; exact a3 x hx
          · rw [gu_k (by decide), gu_s]
          · have := low g g3; omega
  unfold wX2_enter
  rw [i1]
  intro _ v2 ev
  have ev : v2 = pc n w b := ev
  rw [ev]
  obtain ⟨z5, z6, z7⟩ := i4 (pc n w b) (by omega) (by omega)
  refine ⟨mNs m + 2, ?_⟩
  have := loop (mNs m + 2) 0 0 0 M (by omega) Ch.rf (fun x _ => ⟨rfl, rfl⟩) (by rw [z6]; simp) (by rw [z7]; simp) (Or.inr ⟨rfl, rfl⟩) (Or.inr ⟨rfl, rfl⟩) e0 e0 (fun g hg => absurd hg (Nat.not_lt_zero g)) (fun g _ hg => absurd hg (Nat.not_lt_zero g)) (by omega)
  rw [show (((0 : Nat) : Int)) * (n * n) = 0 by simp] at this
  exact this
end KI
