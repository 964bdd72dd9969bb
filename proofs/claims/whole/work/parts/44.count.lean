/-- the distance, as a number: -1 where there is none -/
noncomputable def mDs (n m w b k t : Int) : Int := @dite _ (∃ e, mAtD n m e w b k t) (Classical.propDecidable _) (fun h => (Classical.choose h : Nat)) (fun _ => -1)
theorem mDs_at {n m w b k t : Int} {e : Nat} (h : mAtD n m e w b k t) : mDs n m w b k t = e := by
  unfold mDs
  have hx : ∃ e, mAtD n m e w b k t := ⟨e, h⟩
  rw [dif_pos hx, mAtD_uniq (Classical.choose_spec hx) h]
theorem mDs_no {n m w b k t : Int} (h : ∀ e, ¬ mAtD n m e w b k t) : mDs n m w b k t = -1 := by
  unfold mDs
  rw [dif_neg (fun ⟨e, q⟩ => h e q)]
theorem mDs_c (n m w b k t : Int) : (∃ e : Nat, mAtD n m e w b k t ∧ mDs n m w b k t = e) ∨ ((∀ e, ¬ mAtD n m e w b k t) ∧ mDs n m w b k t = -1) := by
  rcases Classical.em (∃ e, mAtD n m e w b k t) with ⟨e, h⟩ | h
  · exact Or.inl ⟨e, h, mDs_at h⟩
  · exact Or.inr ⟨fun e q => h ⟨e, q⟩, mDs_no (fun e q => h ⟨e, q⟩)⟩
theorem mFu_ds {n m r : Int} {M : gM} (h : mFu n m r M) {w b k t : Int} (hw : mOn n w) (hb : mOn n b) (hk : mOn n k) (ht : t = 0 ∨ t = 1) : mT n m r M w b k t = mDs n m w b k t + 1 := by
  obtain ⟨a1, a2⟩ := h w b k t hw hb hk ht
  rcases mDs_c n m w b k t with ⟨e, q1, q2⟩ | ⟨q1, q2⟩
  · rw [a1 e q1, q2]
  · rw [a2 q1, q2]; rfl
noncomputable def mDk (n m K : Int) : Int := mDs n m (kW n K) (kB n K) (kK n K) (kT K)
theorem mFu_dk {n m r : Int} {M : gM} (hN : mN n) (h : mFu n m r M) {K : Int} (hK : 0 ≤ K ∧ K < mAl3 n) : M r 4 (524288 * m + K) = mDk n m K + 1 := by
  obtain ⟨d1, d2, d3, d4, d5⟩ := k_dec hN hK
  have := mFu_ds h d1 d2 d3 (show kT K = 0 ∨ kT K = 1 by omega)
  unfold mT at this
  rw [d5] at this
  exact this
theorem mDs_ge (n m w b k t : Int) : -1 ≤ mDs n m w b k t := by
  rcases mDs_c n m w b k t with ⟨e, q1, q2⟩ | ⟨q1, q2⟩ <;> omega
theorem mDs_le {n m w b k t : Int} (hB : mBd n m) (hw : mOn n w) (hb : mOn n b) (hk : mOn n k) : mDs n m w b k t ≤ 97 := by
  rcases mDs_c n m w b k t with ⟨e, q1, q2⟩ | ⟨q1, q2⟩
  · have := hB e w b k t hw hb hk q1; omega
  · omega
/-- White would rather wait -/
def mSz (n m K : Int) : Prop := mLg n m (kW n K) (kB n K) (kK n K) (1 - kT K) ∧ mDs n m (kW n K) (kB n K) (kK n K) 0 = -1 ∧ mDs n m (kW n K) (kB n K) (kK n K) 1 ≠ -1
def ctP (n m t d : Int) (K : Nat) : Prop := cP n m K ∧ kT K = t ∧ (d = -2 ∨ (d = -3 ∧ mSz n m K) ∨ (-1 ≤ d ∧ mDk n m K = d))
noncomputable def ctB (n m t d : Int) (K : Nat) : Bool := @decide (ctP n m t d K) (Classical.propDecidable _)
theorem ctB_t {n m t d : Int} {K : Nat} : ctB n m t d K = true ↔ ctP n m t d K := by unfold ctB; simp
theorem ctB_f {n m t d : Int} {K : Nat} : ctB n m t d K = false ↔ ¬ ctP n m t d K := by unfold ctB; simp
def lgP (n m t best first : Int) : Prop := (∀ K : Nat, (K : Int) < mAl3 n → cP n m K → kT K = t → mDk n m K ≤ best) ∧ ((best = -1 ∧ first = -1) ∨ ∃ K : Nat, first = K ∧ (K : Int) < mAl3 n ∧ cP n m K ∧ kT K = t ∧ mDk n m K = best ∧ 0 ≤ best ∧ ∀ K' : Nat, K' < K → cP n m K' → kT K' = t → mDk n m K' < best)
section CO
variable {kd : gKd} {ln : gLn} {M M0 : gM} {r n m w b k t : Int}
theorem gixor_1 {a : Int} (ha : 0 ≤ a ∧ a < 2147483648) : gixor a 1 = if a % 2 = 0 then a + 1 else a - 1 := by
  unfold gixor
  have h : (gI a ^^^ gI 1).toBitVec.toNat = a.toNat ^^^ 1 := by
    show ((gI a).toBitVec ^^^ (gI 1).toBitVec).toNat = _
    rw [BitVec.toNat_xor, gI_bv ha, show ((gI 1).toBitVec.toNat) = 1 from rfl]
  have h2 : a.toNat ^^^ 1 = if a % 2 = 0 then a.toNat + 1 else a.toNat - 1 := by
    obtain ⟨b, rfl⟩ := Int.eq_ofNat_of_zero_le ha.1
    rw [show ((b : Int)).toNat = b by omega]
    rcases Nat.mod_two_eq_zero_or_one b with q | q
    · rw [if_pos (by omega)]
      obtain ⟨c, rfl⟩ : ∃ c, b = 2 * c := ⟨b / 2, by omega⟩
      have := Nat.testBit_two_pow_mul_add c (show (1 : Nat) < 2 ^ 1 by decide)
      apply Nat.eq_of_testBit_eq
      intro i
      rw [show 2 * c + 1 = 2 ^ 1 * c + 1 by omega, this, Nat.testBit_xor, show 2 * c = 2 ^ 1 * c by omega, Nat.testBit_two_pow_mul]
      cases i with
      | zero => simp
      | succ i =>
        have : (1 : Nat).testBit (i + 1) = false := by simp [Nat.testBit_succ]
        simp [this]
    · rw [if_neg (by omega)]
      obtain ⟨c, rfl⟩ : ∃ c, b = 2 * c + 1 := ⟨b / 2, by omega⟩
      have := Nat.testBit_two_pow_mul_add c (show (1 : Nat) < 2 ^ 1 by decide)
      apply Nat.eq_of_testBit_eq
      intro i
      rw [show 2 * c + 1 - 1 = 2 ^ 1 * c by omega, Nat.testBit_xor, show 2 * c + 1 = 2 ^ 1 * c + 1 by omega, this, Nat.testBit_two_pow_mul]
      cases i with
      | zero => simp
      | succ i =>
        have : (1 : Nat).testBit (i + 1) = false := by simp [Nat.testBit_succ]
        simp [this]
  have h3 : a.toNat ^^^ 1 < 2 ^ 31 := by rw [h2]; split <;> omega
  show (gI a ^^^ gI 1).toBitVec.toInt = _
  rw [BitVec.toInt_eq_toNat_of_lt (by rw [h]; omega), h, h2]
  split <;> omega
theorem sX7_isSqueezed {post : Int → gM → Prop} {K : Nat} (hN : mN n) (hl : rLn ln r) (hm : 0 ≤ m ∧ m ≤ 2) (hn : rN n r M) (hF : mFu n m r M) (hB : mBd n m) (hK : (K : Int) < mAl3 n) (ht : mSz n m K → post 1 M) (hf : ¬ mSz n m K → post 0 M) : wX7_isSqueezed kd ln post r m K M := by
  have hl2 := hl
  obtain ⟨l3, l4, l5, l6, l7, -⟩ := hl2
  have hA := mAl3_r hN
  have hS := mSS hN
  have e5 : 0 ≤ (K : Int) ∧ (K : Int) < 2147483648 := by omega
  obtain ⟨d1, d2, d3, d4, d5⟩ := k_dec hN (K := (K : Int)) ⟨by omega, hK⟩
  have d0 : 0 ≤ (K : Int) / 2 / (n * n) := Int.ediv_nonneg (by omega) (by omega)
  have dl : (K : Int) / 2 / (n * n) ≤ (K : Int) / 2 := Int.ediv_le_self _ (by omega)
  have T0 := mFu_ds hF d1 d2 d3 (Or.inl rfl)
  have T1 := mFu_ds hF d1 d2 d3 (Or.inr rfl)
  unfold mT at T0 T1
  have k01 : mKey n (kW n K) (kB n K) (kK n K) 1 = mKey n (kW n K) (kB n K) (kK n K) 0 + 1 := by unfold mKey; omega
  have g0 := mDs_ge n m (kW n K) (kB n K) (kK n K) 0
  have g1 := mDs_ge n m (kW n K) (kB n K) (kK n K) 1
  have r1 := mKey_r hN d1 d2 d3 (show (0:Int) ≤ 1 ∧ (1:Int) ≤ 1 by omega)
  have r0 := mKey_r hN d1 d2 d3 (show (0:Int) ≤ 0 ∧ (0:Int) ≤ 1 by omega)
  have kt : kT K = (K : Int) % 2 := rfl
  unfold wX7_isSqueezed
  intro v1 ev1
  rw [giand_1 e5, ← kt] at ev1
  refine ⟨by omega, ?_⟩
  rw [hn.2]
  refine fun _ => ⟨by omega, by omega, ?_⟩
  intro v7 ev7 v10 ev10 v12 ev12
  rw [ev7, ev10, ev12, ev1]
  refine sX7_legal hN hn.1 hm d1 d2 d3 (by omega) (fun q => ?_) (fun q => fun _ => ⟨fun g => absurd rfl g, fun _ => hf (fun g => q g.1)⟩)
  refine fun _ => ⟨fun _ => ?_, fun g => absurd g (by decide)⟩
  rw [l4]
  refine ⟨by omega, by omega, fun _ => ?_⟩
  have x1 := gixor_1 e5
  -- both numbers of the table
  have fin : ∀ (h1 h2 : Int), (h1 = 0 ∨ h1 = 1) → (h2 = 0 ∨ h2 = 1) → (h1 = 0 ↔ mDs n m (kW n K) (kB n K) (kK n K) (kT K) = -1) → (h2 = 0 ↔ mDs n m (kW n K) (kB n K) (kK n K) (1 - kT K) = -1) → wX7_isSqueezed_105 kd ln post r m K (kT K) h1 h2 M := fun h1 h2 p1 p2 p3 p4 => by
    unfold wX7_isSqueezed_105 wX7_isSqueezed_125
    rcases (show kT K = 0 ∨ kT K = 1 by omega) with q1 | q1
    · rw [q1] at p3 p4 ⊢
      refine ⟨by omega, fun q2 => absurd rfl q2, fun _ => ⟨by omega, fun q2 => hf (fun g => q2 (p3.mpr g.2.1)), fun q2 => ⟨by omega, fun q3 => hf (fun g => g.2.2 (p4.mp q3)), fun q3 => ht ⟨q, p3.mp q2, fun g => q3 (p4.mpr g)⟩⟩⟩⟩
    · rw [q1] at p3 p4 ⊢
      refine ⟨by omega, fun _ => ⟨by omega, fun q2 => hf (fun g => g.2.2 (p3.mp q2)), fun q2 => ⟨by omega, fun q3 => hf (fun g => q3 (p4.mpr g.2.1)), fun q3 => ht ⟨q, p4.mp q3, fun g => q2 (p3.mpr g)⟩⟩⟩, fun q2 => absurd q2 (by decide)⟩
  have f82 : ∀ h1 : Int, (h1 = 0 ∨ h1 = 1) → (h1 = 0 ↔ mDs n m (kW n K) (kB n K) (kK n K) (kT K) = -1) → wX7_isSqueezed_82 kd ln post r m K (kT K) h1 M := fun h1 p1 p3 => by
    unfold wX7_isSqueezed_82
    rw [l4, x1]
    rcases (show kT K = 0 ∨ kT K = 1 by omega) with q1 | q1
    · rw [if_pos (by omega)]
      rw [q1] at d5
      have e1 : (K : Int) + 1 = mKey n (kW n K) (kB n K) (kK n K) 1 := by omega
      rw [e1, T1]
      refine ⟨by omega, by omega, fun _ => ⟨fun q2 => fin h1 0 p1 (Or.inl rfl) p3 ?_, fun q2 => fin h1 1 p1 (Or.inr rfl) p3 ?_⟩⟩
      · rw [q1]; show _ ↔ mDs n m (kW n K) (kB n K) (kK n K) 1 = -1; omega
      · rw [q1]; show _ ↔ mDs n m (kW n K) (kB n K) (kK n K) 1 = -1; omega
    · rw [if_neg (by omega)]
      rw [q1] at d5
      have e1 : (K : Int) - 1 = mKey n (kW n K) (kB n K) (kK n K) 0 := by omega
      rw [e1, T0]
      refine ⟨by omega, by omega, fun _ => ⟨fun q2 => fin h1 0 p1 (Or.inl rfl) p3 ?_, fun q2 => fin h1 1 p1 (Or.inr rfl) p3 ?_⟩⟩
      · rw [q1]; show _ ↔ mDs n m (kW n K) (kB n K) (kK n K) 0 = -1; omega
      · rw [q1]; show _ ↔ mDs n m (kW n K) (kB n K) (kK n K) 0 = -1; omega
  have TK := mFu_dk hN hF (K := (K : Int)) ⟨by omega, hK⟩
  unfold mDk at TK
  have gk := mDs_ge n m (kW n K) (kB n K) (kK n K) (kT K)
  rw [TK]
  exact ⟨fun q2 => f82 0 (Or.inl rfl) (by omega), fun q2 => f82 1 (Or.inr rfl) (by omega)⟩
theorem sX7_count_55 {post : Int → gM → Prop} {d : Int} (hN : mN n) (hl : rLn ln r) (hm : 0 ≤ m ∧ m ≤ 2) (hn : rN n r M) (hF : mFu n m r M) (hs : nmS n m r M) (hB : mBd n m) (ht : 0 ≤ t ∧ t ≤ 1) (hd : rng d) (h : post (cN (ctB n m t d) (mAl3 n).toNat : Nat) M) :
    ∀ (j K : Nat), kT K = t → (K : Int) ≤ mAl3 n + 1 → mAl3 n + 2 - K < j → wX7_count_55 kd ln post r m t d j (mAl3 n) (cN (ctB n m t d) K : Nat) K M := by
  have hl2 := hl
  obtain ⟨l3, l4, l5, l6, l7, -⟩ := hl2
  have hA := mAl3_r hN
  have ev : mAl3 n % 2 = 0 := by
    unfold mAl3
    rcases mN_cases hN with rfl | rfl | rfl | rfl | rfl <;> rfl
  intro j
  induction j with
  | zero => intro K h1 h2 h3; omega
  | succ j ih =>
    intro K h1 h2 h3
    have cle := cN_le (ctB n m t d) K
    have nx : ctB n m t d (K + 1) = false := ctB_f.mpr (fun q => by
      have := q.2.1
      unfold kT at h1 this
      omega)
    have h12 : kT ((K + 2 : Nat) : Int) = t := by unfold kT at *; omega
    unfold wX7_count_55
    refine ⟨by omega, by omega, fun q => ⟨by omega, ?_⟩, fun q => ?_⟩
    · rcases (show K = (mAl3 n).toNat ∨ K = (mAl3 n).toNat + 1 by omega) with g | g
      · rw [g]; exact h
      · have : ctB n m t d (mAl3 n).toNat = false := ctB_f.mpr (fun q => by
          have := q.2.1
          unfold kT at h1 this
          omega)
        rw [g, cN_f this]; exact h
    · have hK : (K : Int) < mAl3 n := by omega
      have no : ctB n m t d K = false → wX7_count_139 kd ln post r m t d (wX7_count_55 kd ln post r m t d j) (mAl3 n) (cN (ctB n m t d) K : Nat) K M := fun q1 => by
        unfold wX7_count_139
        have := ih (K + 2) h12 (by omega) (by omega)
        rw [cN_f (p := ctB n m t d) (i := K + 1) nx, cN_f q1] at this
        exact this
      have yes : ctB n m t d K = true → wX7_count_117 kd ln post r m t d (wX7_count_55 kd ln post r m t d j) (mAl3 n) (cN (ctB n m t d) K : Nat) K M := fun q1 => by
        unfold wX7_count_117 wX7_count_122 wX7_count_136 wX7_count_139
        refine ⟨by omega, fun q2 => absurd q2 (by decide), fun _ => ?_⟩
        intro v e
        rw [e]
        have := ih (K + 2) h12 (by omega) (by omega)
        rw [cN_f (p := ctB n m t d) (i := K + 1) nx, cN_t q1] at this
        exact this
      have no0 : ctB n m t d K = false → wX7_count_121 kd ln post r m t d (wX7_count_55 kd ln post r m t d j) (mAl3 n) (cN (ctB n m t d) K : Nat) K M := fun q1 => by
        unfold wX7_count_121 wX7_count_122 wX7_count_136
        refine ⟨by omega, fun _ => ?_, fun q2 => absurd rfl q2⟩
        intro v e
        rw [e, Int.add_zero]
        exact no q1
      refine sX7_isCanon hN hl hm hs hK (fun g => fun _ => ⟨fun g2 => absurd g2 (by decide), fun _ => ⟨hd, fun g2 => yes (ctB_t.mpr ⟨cPb_t.mp g, h1, Or.inl g2⟩), fun g2 => ?_⟩⟩) (fun g => fun _ => ⟨fun _ => no (ctB_f.mpr (fun q1 => cPb_f.mp g q1.1)), fun g2 => absurd rfl g2⟩)
      have hc := cPb_t.mp g
      have TK := mFu_dk hN hF (K := (K : Int)) ⟨by omega, hK⟩
      have gk := mDs_ge n m (kW n K) (kB n K) (kK n K) (kT K)
      obtain ⟨d1, d2, d3, d4, d5⟩ := k_dec hN (K := (K : Int)) ⟨by omega, hK⟩
      have gl := mDs_le (t := kT K) hB d1 d2 d3
      have t94 : (d = -3 → ¬ mSz n m K) → wX7_count_94 kd ln post r m t d (wX7_count_55 kd ln post r m t d j) (mAl3 n) (cN (ctB n m t d) K : Nat) K M := fun q1 => by
        unfold wX7_count_94
        rw [l4, TK]
        unfold mDk
        refine ⟨hd, fun q2 => no0 (ctB_f.mpr (fun q3 => ?_)), fun q2 => ⟨by omega, by omega, fun _ => ⟨by omega, fun q3 => no0 (ctB_f.mpr (fun q4 => ?_)), fun q3 => yes (ctB_t.mpr ⟨hc, h1, Or.inr (Or.inr ⟨by omega, by unfold mDk; omega⟩)⟩)⟩⟩⟩
        · rcases q3.2.2 with g3 | g3 | g3
          · exact g2 g3
          · exact q1 g3.1 g3.2
          · omega
        · rcases q4.2.2 with g3 | g3 | g3
          · exact g2 g3
          · exact q1 g3.1 g3.2
          · have := g3.2
            unfold mDk at this
            omega
      refine ⟨fun q1 => t94 (fun q2 => absurd q2 q1), fun q1 => ?_⟩
      exact sX7_isSqueezed hN hl hm hn hF hB hK (fun q2 => fun _ => ⟨fun _ => yes (ctB_t.mpr ⟨hc, h1, Or.inr (Or.inl ⟨q1, q2⟩)⟩), fun q3 => absurd q3 (by decide)⟩) (fun q2 => fun _ => ⟨fun q3 => absurd rfl q3, fun _ => t94 (fun _ => q2)⟩)
theorem sX7_longest_58 {post : Int → gM → Prop} {what : Int} (hN : mN n) (hl : rLn ln r) (hm : 0 ≤ m ∧ m ≤ 2) (hF : mFu n m r M) (hs : nmS n m r M) (hB : mBd n m) (ht : 0 ≤ t ∧ t ≤ 1) (hw : rng what) (h : ∀ best first : Int, lgP n m t best first → post (if what = 0 then best else if what = 1 then (if first = -1 then -1 else (cN (cPb n m) first.toNat : Nat)) else -1) M) :
    ∀ (j K : Nat) (best first : Int), kT K = t → (K : Int) ≤ mAl3 n + 1 → (-1 ≤ best ∧ best ≤ 97) → (∀ K' : Nat, K' < K → cP n m K' → kT K' = t → mDk n m K' ≤ best) → ((best = -1 ∧ first = -1) ∨ ∃ K0 : Nat, first = K0 ∧ K0 < K ∧ (K0 : Int) < mAl3 n ∧ cP n m K0 ∧ kT K0 = t ∧ mDk n m K0 = best ∧ 0 ≤ best ∧ ∀ K' : Nat, K' < K0 → cP n m K' → kT K' = t → mDk n m K' < best) → mAl3 n + 2 - K < j → wX7_longest_58 kd ln post r m t what j (mAl3 n) best first K M := by
  have hl2 := hl
  obtain ⟨l3, l4, l5, l6, l7, -⟩ := hl2
  have hA := mAl3_r hN
  intro j
  induction j with
  | zero => intro K best first h1 h2 h3 h4 h5 h6; omega
  | succ j ih =>
    intro K best first h1 h2 h3 h4 h5 h6
    have h12 : kT ((K + 2 : Nat) : Int) = t := by unfold kT at *; omega
    have odd : ∀ K' : Nat, K' < K + 2 → kT K' = t → K' < K ∨ K' = K := fun K' q1 q2 => by unfold kT at *; omega
    unfold wX7_longest_58 wX7_longest_114
    refine ⟨by omega, by omega, fun q => ?_, fun q => ?_⟩
    · have hp := h best first ⟨fun K' q1 q2 q3 => h4 K' (by omega) q2 q3, h5.imp id (fun ⟨K0, a1, a2, a3, a4, a5, a6, a7, a8⟩ => ⟨K0, a1, a3, a4, a5, a6, a7, a8⟩)⟩
      refine ⟨hw, fun q1 => ⟨fun q2 => ?_, fun q2 => ?_⟩, fun q1 => ⟨by omega, ?_⟩⟩
      · rw [if_neg q1, if_neg q2] at hp; exact hp
      · rw [if_neg q1, if_pos q2] at hp
        rcases h5 with ⟨a1, a2⟩ | ⟨K0, a1, a2, a3, a4, a5, a6, a7, a8⟩
        · rw [if_pos a2] at hp
          exact ⟨by omega, fun _ => hp, fun q3 => absurd a2 q3⟩
        · rw [if_neg (by omega), a1, show ((K0 : Int)).toNat = K0 by omega] at hp
          rw [a1]
          exact ⟨by omega, fun q3 => by omega, fun _ => sX7_numberOf hN hl hm hs a3 fun _ => hp⟩
      · rw [if_pos q1] at hp; exact hp
    · have hK : (K : Int) < mAl3 n := by omega
      have TK := mFu_dk hN hF (K := (K : Int)) ⟨by omega, hK⟩
      have gk := mDs_ge n m (kW n K) (kB n K) (kK n K) (kT K)
      obtain ⟨d1, d2, d3, d4, d5⟩ := k_dec hN (K := (K : Int)) ⟨by omega, hK⟩
      have gl := mDs_le (t := kT K) hB d1 d2 d3
      have keep : (cP n m K → mDk n m K ≤ best) → wX7_longest_58 kd ln post r m t what j (mAl3 n) best first ((K : Int) + 2) M := fun q1 => by
        refine ih (K + 2) best first h12 (by omega) h3 (fun K' a1 a2 a3 => ?_) ?_ (by omega)
        · rcases odd K' a1 a3 with g | g
          · exact h4 K' g a2 a3
          · subst g; exact q1 a2
        · exact h5.imp id (fun ⟨K0, a1, a2, a3⟩ => ⟨K0, a1, by omega, a3⟩)
      refine sX7_isCanon hN hl hm hs hK (fun g => fun _ => ⟨fun g2 => absurd g2 (by decide), fun _ => ?_⟩) (fun g => fun _ => ⟨fun _ => keep (fun q1 => absurd q1 (cPb_f.mp g)), fun g2 => absurd rfl g2⟩)
      rw [l4, TK]
      have hc := cPb_t.mp g
      have em : mDk n m K = mDs n m (kW n K) (kB n K) (kK n K) (kT K) := rfl
      refine ⟨by omega, by omega, fun _ => ⟨by omega, by omega, fun q1 => keep (fun _ => by omega), fun q1 => ?_⟩⟩
      intro v e
      rw [e, show mDk n m K + 1 - 1 = mDk n m K by omega]
      refine ih (K + 2) (mDk n m K) K h12 (by omega) (by omega) (fun K' a1 a2 a3 => ?_) (Or.inr ⟨K, rfl, by omega, hK, hc, h1, rfl, by omega, fun K' a1 a2 a3 => ?_⟩) (by omega)
      · rcases odd K' a1 a3 with g2 | g2
        · have := h4 K' g2 a2 a3; omega
        · subst g2; exact Int.le_refl _
      · have := h4 K' a1 a2 a3; omega
end CO
