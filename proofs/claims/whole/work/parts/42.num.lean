/-! NUMBERS OF POSITIONS -/
def kW (n K : Int) : Int := K / 2 / (n * n) / (n * n)
def kB (n K : Int) : Int := K / 2 / (n * n) % (n * n)
def kK (n K : Int) : Int := K / 2 % (n * n)
def kT (K : Int) : Int := K % 2
def mAl3 (n : Int) : Int := 2 * (n * n) * (n * n) * (n * n)
theorem k_dec {n K : Int} (hN : mN n) (h : 0 ≤ K ∧ K < mAl3 n) : mOn n (kW n K) ∧ mOn n (kB n K) ∧ mOn n (kK n K) ∧ (0 ≤ kT K ∧ kT K ≤ 1) ∧ mKey n (kW n K) (kB n K) (kK n K) (kT K) = K := by
  unfold mAl3 at h
  unfold kW kB kK kT mKey
  rcases mN_cases hN with rfl | rfl | rfl | rfl | rfl <;> omega
theorem k_enc {n w b k t : Int} (hN : mN n) (hw : mOn n w) (hb : mOn n b) (hk : mOn n k) (ht : 0 ≤ t ∧ t ≤ 1) : kW n (mKey n w b k t) = w ∧ kB n (mKey n w b k t) = b ∧ kK n (mKey n w b k t) = k ∧ kT (mKey n w b k t) = t := by
  have e1 := mKey_r hN hw hb hk ht
  have e2 := mKey_all hN hw hb hk ht
  obtain ⟨a1, a2, a3, a4, a5⟩ := k_dec hN (K := mKey n w b k t) ⟨e1.1, e2⟩
  exact mKey_inj hN a1 a2 a3 a4 hw hb hk ht a5
theorem mAl3_r {n : Int} (hN : mN n) : 8192 ≤ mAl3 n ∧ mAl3 n ≤ 524288 := by
  unfold mAl3
  rcases mN_cases hN with rfl | rfl | rfl | rfl | rfl <;> omega
/-- legal, and the least of its images -/
def cP (n m : Int) (K : Nat) : Prop := mLg n m (kW n K) (kB n K) (kK n K) (kT K) ∧ mLst n m (kW n K) (kB n K) (kK n K) (kT K) = K
noncomputable def cPb (n m : Int) (K : Nat) : Bool := @decide (cP n m K) (Classical.propDecidable _)
theorem cPb_t {n m : Int} {K : Nat} : cPb n m K = true ↔ cP n m K := by
  unfold cPb
  simp
theorem cPb_f {n m : Int} {K : Nat} : cPb n m K = false ↔ ¬ cP n m K := by
  unfold cPb
  simp
theorem cN_le (p : Nat → Bool) (i : Nat) : cN p i ≤ i := by
  induction i with
  | zero => exact Nat.le_refl _
  | succ i ih => unfold cN; cases p i <;> simp <;> omega
theorem cN_t {p : Nat → Bool} {i : Nat} (h : p i = true) : cN p (i + 1) = cN p i + 1 := by rw [show cN p (i + 1) = cN p i + cond (p i) 1 0 from rfl, h]; rfl
theorem cN_f {p : Nat → Bool} {i : Nat} (h : p i = false) : cN p (i + 1) = cN p i := by rw [show cN p (i + 1) = cN p i + cond (p i) 1 0 from rfl, h]; rfl
/-- bits and sums of the positions below K -/
def nmK (n m r : Int) (M : gM) (K : Nat) : Prop := (∀ j : Nat, (j : Int) < 524288 → wb (M r 5 (16384 * m + (j : Int) / 32)) (j % 32) = (decide (j < K) && cPb n m j)) ∧ (∀ j : Nat, 32 * j < K → M r 6 (16384 * m + j) = cN (cPb n m) (32 * j))
def nFr (r m : Int) (M0 M : gM) : Prop := Ch r [5, 6, 7] M0 M ∧ (∀ i, (i < 16384 * m ∨ 16384 * m + 16384 ≤ i) → M r 5 i = M0 r 5 i ∧ M r 6 i = M0 r 6 i) ∧ ∀ i, i ≠ m → M r 7 i = M0 r 7 i
theorem nFr.rf {r m : Int} {M : gM} : nFr r m M M := ⟨Ch.rf, fun _ _ => ⟨rfl, rfl⟩, fun _ _ => rfl⟩
theorem nFr.tr {r m : Int} {M M' M'' : gM} (h : nFr r m M M') (h' : nFr r m M' M'') : nFr r m M M'' := ⟨h.1.tr h'.1, fun i q => ⟨((h'.2.1 i q).1).trans (h.2.1 i q).1, ((h'.2.1 i q).2).trans (h.2.1 i q).2⟩, fun i q => (h'.2.2 i q).trans (h.2.2 i q)⟩
theorem nFr.u5 {r m i x : Int} {M : gM} (h : 16384 * m ≤ i ∧ i < 16384 * m + 16384) : nFr r m M (gu M r 5 i x) := ⟨Ch.up Ch.rf (by decide) _ _, fun j q => ⟨gu_i (by omega), by rw [gu_k (by decide)]⟩, fun j _ => by rw [gu_k (by decide)]⟩
theorem nFr.u6 {r m i x : Int} {M : gM} (h : 16384 * m ≤ i ∧ i < 16384 * m + 16384) : nFr r m M (gu M r 6 i x) := ⟨Ch.up Ch.rf (by decide) _ _, fun j q => ⟨by rw [gu_k (by decide)], gu_i (by omega)⟩, fun j _ => by rw [gu_k (by decide)]⟩
theorem nFr.u7 {r m x : Int} {M : gM} : nFr r m M (gu M r 7 m x) := ⟨Ch.up Ch.rf (by decide) _ _, fun j q => ⟨by rw [gu_k (by decide)], by rw [gu_k (by decide)]⟩, fun j q => gu_i q⟩
/-- all of it -/
def nmS (n m r : Int) (M : gM) : Prop := nmK n m r M (mAl3 n).toNat ∧ M r 7 m = cN (cPb n m) (mAl3 n).toNat
def rLn (ln : gLn) (r : Int) : Prop := ln r 3 = 3 ∧ ln r 4 = 1572864 ∧ ln r 5 = 49152 ∧ ln r 6 = 49152 ∧ ln r 7 = 3 ∧ ln r 8 = 40 ∧ ln r 10 = 20 ∧ mLn7 ln r ∧ (ln r 22 = 48 ∧ ln r 23 = 48 ∧ ln r 24 = 48 ∧ ln r 25 = 48) ∧ ln r 27 = 640
section NU
variable {kd : gKd} {ln : gLn} {M M0 : gM} {r n m w b k t : Int}
theorem sX7_numbers {post : gM → Prop} (hN : mN n) (hl : rLn ln r) (hm : 0 ≤ m ∧ m ≤ 2) (hn : rN n r M) (h : ∀ M', rN n r M' → nmS n m r M' → nFr r m M M' → post M') : wX7_numbers kd ln post r m M := by
  obtain ⟨l3, l4, l5, l6, l7, -⟩ := hl
  have hA := mAl3_r hN
  have go : ∀ (j K : Nat) (M' : gM), (K : Int) ≤ mAl3 n → nmK n m r M' K → nFr r m M M' → mAl3 n - K < j → wX7_numbers_50 kd ln post r m j (cN (cPb n m) K : Nat) (mAl3 n) K M' := by
    intro j
    induction j with
    | zero => intro K M' h1 h2 h3 h4; omega
    | succ j ih =>
      intro K M' h1 h2 h3 h4
      have hn' := hn.ch h3.1 (by decide) (by decide)
      have cle := cN_le (cPb n m) K
      have e5 : 0 ≤ (K : Int) ∧ (K : Int) < 2147483648 := by omega
      have s5 : gishr (K : Int) 5 = (K : Int) / 32 := gishr_div (by omega) (by omega)
      unfold wX7_numbers_50
      refine ⟨by omega, by omega, fun q => ?_, fun q => ?_⟩
      · have hK : K = (mAl3 n).toNat := by omega
        rw [l7]
        refine ⟨by omega, by omega, by omega, ?_⟩
        refine h _ (hn'.ch (Ch.up Ch.rf (show 7 ∈ [7] by decide) _ _) (by decide) (by decide)) ⟨⟨fun i hi => ?_, fun i hi => ?_⟩, ?_⟩ (h3.tr nFr.u7)
        · rw [gu_k (by decide), ← hK]
          exact h2.1 i hi
        · rw [gu_k (by decide)]
          exact h2.2 i (by omega)
        · rw [gu_s, hK]
      · have hKa : 0 ≤ (K : Int) ∧ (K : Int) < mAl3 n := by omega
        obtain ⟨d1, d2, d3, d4, d5⟩ := k_dec hN hKa
        rw [giand_31 e5, s5, l6]
        -- the position K itself
        have t80 : ∀ M'', nmK n m r M'' K → (K % 32 = 0 → M'' r 6 (16384 * m + (K / 32 : Nat)) = cN (cPb n m) K) → nFr r m M M'' → wX7_numbers_80 kd ln post r m (wX7_numbers_50 kd ln post r m j) (cN (cPb n m) K : Nat) (mAl3 n) K M'' := fun M'' a1 a2 a3 => by
          have hn2 := hn.ch a3.1 (by decide) (by decide)
          have hS := mSS hN
          have b6 : ∀ i : Nat, 32 * i < K + 1 → M'' r 6 (16384 * m + i) = cN (cPb n m) (32 * i) := fun i hi => by
            rcases Nat.lt_or_eq_of_le (Nat.lt_succ_iff.mp hi) with g | g
            · exact a1.2 i g
            · have := a2 (by omega)
              rw [show K / 32 = i by omega] at this
              rw [this, g]
          have no : ¬ cP n m K → wX7_numbers_191 kd ln post r m (wX7_numbers_50 kd ln post r m j) (cN (cPb n m) K : Nat) (mAl3 n) K M'' := fun g => by
            unfold wX7_numbers_191
            have := ih (K + 1) M'' (by omega) ⟨fun i hi => ?_, b6⟩ a3 (by omega)
            · rw [cN_f (cPb_f.mpr g)] at this
              exact this
            · rw [a1.1 i hi]
              rcases Nat.lt_trichotomy i K with g2 | g2 | g2
              · simp [g2, show i < K + 1 by omega]
              · subst g2
                simp [cPb_f.mpr g]
              · simp [show ¬ i < K by omega, show ¬ i < K + 1 by omega]
          unfold wX7_numbers_80
          intro v23 ev
          rw [giand_1 e5] at ev
          refine ⟨by omega, ?_⟩
          rw [hn2.2]
          refine fun _ => ⟨by omega, ?_⟩
          intro v27 ev27
          have dv : 0 ≤ (K : Int) / 2 / (n * n) := Int.ediv_nonneg (by omega) (by omega)
          have dl : (K : Int) / 2 / (n * n) ≤ (K : Int) / 2 := Int.ediv_le_self _ (by omega)
          refine ⟨by omega, ?_⟩
          intro v31 ev31 v34 ev34
          rw [ev34, ev31, ev27, ev]
          refine sX7_legal hN hn2.1 hm d1 d2 d3 d4 (fun g1 => ?_) (fun g1 => fun _ => ⟨fun _ => no (fun g2 => g1 g2.1), fun g2 => absurd rfl g2⟩)
          refine fun _ => ⟨fun g2 => absurd g2 (by decide), fun _ => ?_⟩
          refine sX7_least hN hn2 hm d1 d2 d3 d4 fun _ => ⟨by omega, fun g2 => no (fun g3 => g2 g3.2), fun g2 => ?_⟩
          have hP : cP n m K := ⟨g1, g2⟩
          rw [l5, s5, giand_31 e5]
          obtain ⟨wr1, wr2⟩ := wb_set (x := M'' r 5 (16384 * m + (K : Int) / 32)) (i := (K : Int) % 32) (j := 0) (by omega) (by omega)
          refine ⟨by omega, by omega, fun _ => ⟨wr2, ?_⟩⟩
          unfold wX7_numbers_191
          have := ih (K + 1) (gu M'' r 5 (16384 * m + (K : Int) / 32) (gior (M'' r 5 (16384 * m + (K : Int) / 32)) (gishl 1 ((K : Int) % 32)))) (by omega) ⟨fun i hi => ?_, fun i hi => ?_⟩ (a3.tr (nFr.u5 (by omega))) (by omega)
          · rw [cN_t (cPb_t.mpr hP)] at this
            exact this
          · rw [gu_v]
            by_cases g3 : 16384 * m + (i : Int) / 32 = 16384 * m + (K : Int) / 32
            · rw [if_pos g3]
              have w1 := (wb_set (x := M'' r 5 (16384 * m + (K : Int) / 32)) (i := (K : Int) % 32) (j := i % 32) (by omega) (by omega)).1
              rw [w1, ← g3, a1.1 i hi]
              rcases Nat.lt_trichotomy i K with g2 | g2 | g2
              · simp [g2, show i < K + 1 by omega, show ¬ i % 32 = ((K : Int) % 32).toNat by omega]
              · subst g2
                simp [cPb_t.mpr hP]
                omega
              · simp [show ¬ i < K by omega, show ¬ i < K + 1 by omega, show ¬ i % 32 = ((K : Int) % 32).toNat by omega]
            · rw [if_neg g3, a1.1 i hi]
              rcases Nat.lt_trichotomy i K with g2 | g2 | g2
              · simp [g2, show i < K + 1 by omega]
              · subst g2; exact absurd rfl g3
              · simp [show ¬ i < K by omega, show ¬ i < K + 1 by omega]
          · rw [gu_k (by decide)]
            exact b6 i hi
        refine ⟨by omega, fun q1 => t80 M' h2 (fun q2 => by omega) h3, fun q1 => ⟨by omega, by omega, by omega, ?_⟩⟩
        have e32 : (K : Int) / 32 = ((K / 32 : Nat) : Int) := by omega
        rw [e32]
        refine t80 _ ⟨fun i hi => ?_, fun i hi => ?_⟩ (fun _ => gu_s) (h3.tr (nFr.u6 (by omega)))
        · rw [gu_k (by decide)]
          exact h2.1 i hi
        · rw [gu_i (by omega)]
          exact h2.2 i hi
  have clr : ∀ (j x : Nat) (M' : gM), x ≤ 16384 → (∀ i : Nat, i < x → M' r 5 (16384 * m + i) = 0) → nFr r m M M' → 16384 - x < j → wX7_numbers_2 kd ln post r m j x M' := by
    intro j
    induction j with
    | zero => intro x M' h1 h2 h3 h4; omega
    | succ j ih =>
      intro x M' h1 h2 h3 h4
      have hn' := hn.ch h3.1 (by decide) (by decide)
      unfold wX7_numbers_2
      rw [hn'.2, l5]
      refine ⟨by omega, fun q => ?_, fun q => ⟨by omega, by omega, ?_⟩⟩
      · intro _ v6 ev
        have ev : v6 = mAl3 n := ev
        rw [ev]
        refine ⟨(mAl3 n).toNat + 1, go _ 0 M' (by omega) ⟨fun i hi => ?_, fun i hi => by omega⟩ h3 (by omega)⟩
        have := h2 (i / 32) (by omega)
        rw [show (i : Int) / 32 = ((i / 32 : Nat) : Int) by omega, this, wb_0]
        simp
      · refine ih (x + 1) _ (by omega) (fun i hi => ?_) (h3.tr (nFr.u5 (by omega))) (by omega)
        rw [gu_v]
        split
        · rfl
        · exact h2 i (by omega)
  unfold wX7_numbers
  exact ⟨16385, clr _ 0 M (by omega) (fun i hi => absurd hi (Nat.not_lt_zero i)) nFr.rf (by omega)⟩
theorem sX7_isCanon {post : Int → gM → Prop} {K : Nat} (hN : mN n) (hl : rLn ln r) (hm : 0 ≤ m ∧ m ≤ 2) (hs : nmS n m r M) (hK : (K : Int) < mAl3 n) (ht : cPb n m K = true → post 1 M) (hf : cPb n m K = false → post 0 M) : wX7_isCanon kd ln post r m K M := by
  obtain ⟨l3, l4, l5, l6, l7, -⟩ := hl
  have hA := mAl3_r hN
  have e5 : 0 ≤ (K : Int) ∧ (K : Int) < 2147483648 := by omega
  have s5 : gishr (K : Int) 5 = (K : Int) / 32 := gishr_div (by omega) (by omega)
  unfold wX7_isCanon
  rw [s5, giand_31 e5, l5]
  obtain ⟨w1, w2⟩ := wb_test (x := M r 5 (16384 * m + (K : Int) / 32)) (j := (K : Int) % 32) (by omega)
  have w3 := hs.1.1 K (by omega)
  rw [show ((K : Int) % 32).toNat = K % 32 by omega] at w1
  rw [w3] at w1
  simp only [show K < (mAl3 n).toNat by omega, decide_true, Bool.true_and] at w1
  refine ⟨by omega, by omega, fun _ => ⟨w2, fun q => hf (w1.mp q), fun q => ht ?_⟩⟩
  cases hc : cPb n m K
  · exact absurd (w1.mpr hc) q
  · rfl
theorem sX7_numberOf {post : Int → gM → Prop} {K : Nat} (hN : mN n) (hl : rLn ln r) (hm : 0 ≤ m ∧ m ≤ 2) (hs : nmS n m r M) (hK : (K : Int) < mAl3 n) (h : post (cN (cPb n m) K : Nat) M) : wX7_numberOf kd ln post r m K M := by
  have hl2 := hl
  obtain ⟨l3, l4, l5, l6, l7, -⟩ := hl2
  have hA := mAl3_r hN
  have e5 : 0 ≤ (K : Int) ∧ (K : Int) < 2147483648 := by omega
  have s5 : gishr (K : Int) 5 = (K : Int) / 32 := gishr_div (by omega) (by omega)
  have loop : ∀ (j i : Nat), i ≤ K → K - i < j → wX7_numberOf_21 kd ln post r m K j (cN (cPb n m) i : Nat) i M := by
    intro j
    induction j with
    | zero => intro i h1 h2; omega
    | succ j ih =>
      intro i h1 h2
      have cle := cN_le (cPb n m) i
      unfold wX7_numberOf_21 wX7_numberOf_43
      refine ⟨by omega, by omega, fun q => ⟨by omega, ?_⟩, fun q => ?_⟩
      · rw [show i = K by omega]; exact h
      · refine sX7_isCanon hN hl hm hs (by omega) (fun g => fun _ => ⟨fun g2 => absurd g2 (by decide), fun _ => ?_⟩) (fun g => fun _ => ⟨fun _ => ?_, fun g2 => absurd rfl g2⟩)
        · intro v15 ev
          rw [ev]
          have := ih (i + 1) (by omega) (by omega)
          rw [cN_t g] at this
          exact this
        · intro v15 ev
          rw [ev]
          have := ih (i + 1) (by omega) (by omega)
          rw [cN_f g] at this
          rw [Int.add_zero]
          exact this
  unfold wX7_numberOf
  rw [s5, l6]
  refine ⟨by omega, by omega, fun _ => ?_⟩
  intro v5 ev5 v6 ev6
  have b6 := hs.1.2 (K / 32) (by omega)
  rw [show (K : Int) / 32 = ((K / 32 : Nat) : Int) by omega, b6] at ev5
  rw [giand_m32 e5] at ev6
  rw [ev5, ev6, show 32 * ((K : Int) / 32) = ((32 * (K / 32) : Nat) : Int) by omega]
  exact ⟨K + 1, loop _ _ (by omega) (by omega)⟩
end NU
