theorem mUp {n k : Int} (hN : mN n) (hk : mOn n k) (h : k / n + 1 < n) : mOn n (k + n) ∧ (k + n) / n = k / n + 1 ∧ (k + n) % n = k % n := by
  rcases mN_cases hN with rfl | rfl | rfl | rfl | rfl <;> omega
section FK
variable {kd : gKd} {ln : gLn} {M : gM} {r n m w b k t : Int}
abbrev mKg (n m w b k c : Int) : Prop := ∃ x, mOn n x ∧ mK n m w b k 0 x ∧ c = mCd (mKs w b 0) x (-1)
theorem mKg_from (hN : mN n) (hw : mOn n w) {c : Int} (h : mKg n m w b k c) : cF c = w := by
  obtain ⟨x, h1, h2, h3⟩ := h
  have e1 := mSq hN hw
  have e2 := mSq hN h1
  rw [h3]
  exact (mCd_d (f := w) (x := x) (q := -1) (by omega) (by omega) (by omega)).1
theorem mV_man {x q : Int} (hk : 0 ≤ k ∧ k < 64) (hx : 0 ≤ x ∧ x < 64) (hq : -1 ≤ q ∧ q ≤ 3) (hwk : w ≠ k) : mV m w b k 0 (mCd k x q) 0 = k ∧ mV m w b k 0 (mCd k x q) 1 = x ∧ mV m w b k 0 (mCd k x q) 2 = q ∧ mV m w b k 0 (mCd k x q) 3 = (if q = -1 then m else if q < 2 then q else -1) ∧ mV m w b k 0 (mCd k x q) 4 = w ∧ mV m w b k 0 (mCd k x q) 5 = b ∧ mV m w b k 0 (mCd k x q) 6 = x := by
  obtain ⟨d1, d2, d3⟩ := mCd_d hk hx hq
  have hkw : ¬ k = w := fun e => hwk e.symm
  simp [mV, d1, d2, d3, hkw]
theorem sX7_add_man {post : gM → Prop} {x q a4 : Int} {cnt : Nat} {p p' : Int → Prop} (hN : mN n) (hl : mLn7 ln r) (hm : 0 ≤ m ∧ m ≤ 2) (hw : mOn n w) (hb : mOn n b) (hk : mOn n k) (hx : mOn n x) (hq : -1 ≤ q ∧ q ≤ 3) (hwk : w ≠ k) (h4 : a4 = if q = -1 then m else if q < 2 then q else -1) (hd : mHd r (mV m w b k 0) M cnt p) (hcnt : cnt < 48) (hnew : ∀ y, p y → mKg n m w b k y ∨ ∃ x' q', mOn n x' ∧ (-1 ≤ q' ∧ q' ≤ 3) ∧ y = mCd k x' q' ∧ (x' < x ∨ (x' = x ∧ q' < q))) (hp : ∀ c, (p c ∨ c = mCd k x q) ↔ p' c) (h : ∀ M', mHd r (mV m w b k 0) M' (cnt + 1) p' → Ch r mSl M M' → post M') : wX7_add kd ln post r k x q a4 w b x M := by
  have e1 := mSq hN hw
  have e2 := mSq hN hb
  have e3 := mSq hN hk
  have e4 := mSq hN hx
  obtain ⟨v0, v1, v2, v3, v4, v5, v6⟩ := mV_man (m := m) (w := w) (b := b) (k := k) (x := x) (q := q) (by omega) (by omega) hq hwk
  obtain ⟨d1, d2, d3⟩ := mCd_d (f := k) (x := x) (q := q) (by omega) (by omega) hq
  refine sX7_add' (V := mV m w b k 0) (c := mCd k x q) hl (fun _ => rfl) (fun _ => rfl) v0.symm v1.symm v2.symm (h4.trans v3.symm) v4.symm v5.symm v6.symm ?_ hd hcnt ?_ hp h
  · intro s hs
    rcases s7 hs with rfl | rfl | rfl | rfl | rfl | rfl | rfl
    · rw [v0]; omega
    · rw [v1]; omega
    · rw [v2]; omega
    · rw [v3]; split <;> (try split) <;> omega
    · rw [v4]; omega
    · rw [v5]; omega
    · rw [v6]; omega
  · intro y hy h5 h6
    rcases hnew y hy with g | ⟨x', q', g1, g2, g3, g4⟩
    · exact absurd ((mKg_from hN hw g).symm.trans (h5.trans d1)) hwk
    · have e5 := mSq hN g1
      obtain ⟨d4, d5, d6⟩ := mCd_d (f := k) (x := x') (q := q') (by omega) (by omega) g2
      rw [g3, d5, d2] at h6
      rw [g3]
      unfold mCd
      omega
/-- the moves of queen and rook -/
theorem sX7_find_224 {post : gM → Prop} {M0 : gM} (hN : mN n) (hl : mLn7 ln r) (hn : rN n r M0) (hm : 0 ≤ m ∧ m ≤ 1) (hw : mOn n w) (hb : mOn n b) (hk : mOn n k) (hwk : w ≠ k) (h : ∀ M' (cnt' : Nat), mHd r (mV m w b k 0) M' cnt' (mvP n m w b k 0) → cnt' ≤ 36 → Ch r mSl M0 M' → post M') :
    ∀ (j x : Nat) (M : gM) (cnt : Nat), (x : Int) ≤ n * n → mHd r (mV m w b k 0) M cnt (fun c => mKg n m w b k c ∨ ∃ z, mOn n z ∧ z < x ∧ mMn n m w b k z ∧ c = mCd k z (-1)) → cnt ≤ 9 + cN (alB n.toNat k.toNat) x → Ch r mSl M0 M → n * n - x < j → wX7_find_224 kd ln post r m w b k 0 j x M := by
  have e1 := mSq hN hw
  have e2 := mSq hN hb
  have e3 := mSq hN hk
  have hS := mSS hN
  have hal := al_le hN hk
  have hm2 : m ≠ 2 := by omega
  intro j
  induction j with
  | zero => intro x M cnt h1 hd hc hC hj; omega
  | succ j ih =>
    intro x M cnt h1 hd hc hC hj
    have hn' := hn.ch hC (by decide) (by decide)
    have hx0 : cN (alB n.toNat k.toNat) x ≤ 27 := Nat.le_trans (cN_mono (by omega)) hal
    have cs : cN (alB n.toNat k.toNat) (x + 1) = cN (alB n.toNat k.toNat) x + cond (alB n.toNat k.toNat x) 1 0 := rfl
    unfold wX7_find_224
    rw [hn'.2]
    refine fun _ => ⟨by omega, fun q => ?_, fun q => ?_⟩
    · unfold wX7_find_279
      refine ⟨by omega, fun q1 => absurd rfl q1, fun _ => ⟨by omega, fun _ => ?_, fun q1 => absurd q1 hm2⟩⟩
      refine h M cnt (mHd_iff hd (fun c => ?_)) (by omega) hC
      unfold mvP
      constructor
      · rintro (g | ⟨z, g1, g2, g3, g4⟩)
        · exact Or.inl g
        · exact Or.inr ⟨rfl, Or.inl ⟨z, g1, g3, g4⟩⟩
      · rintro (g | ⟨_, ⟨z, g1, g3, g4⟩ | ⟨g1, _⟩⟩)
        · exact Or.inl g
        · exact Or.inr ⟨z, g1, by have := g1.2; omega, g3, g4⟩
        · exact absurd g1.1 hm2
    · have hx : mOn n (x : Int) := ⟨by omega, by omega⟩
      have skip : ¬ mMn n m w b k x → wX7_find_224 kd ln post r m w b k 0 j ((x : Int) + 1) M := fun q1 => by
        refine ih (x + 1) M cnt (by omega) (mHd_iff hd (fun c => ?_)) (by omega) hC (by omega)
        constructor
        · rintro (g | ⟨z, g1, g2, g3, g4⟩)
          · exact Or.inl g
          · exact Or.inr ⟨z, g1, by omega, g3, g4⟩
        · rintro (g | ⟨z, g1, g2, g3, g4⟩)
          · exact Or.inl g
          · rcases Int.lt_or_eq_of_le (show z ≤ x by omega) with g5 | g5
            · exact Or.inr ⟨z, g1, g5, g3, g4⟩
            · rw [g5] at g3; exact absurd g3 q1
      unfold wX7_find_273
      refine ⟨by omega, fun q1 => skip (fun q2 => ?_), fun q1 => ⟨by omega, fun q2 => skip (fun q3 => ?_), fun q2 => ?_⟩⟩
      · rcases q2 with q2 | q2
        · exact q2.2.2.2.2.1 q1
        · exact hm2 q2.1
      · rcases q3 with q3 | q3
        · exact q3.2.2.2.2.2 q2
        · exact hm2 q3.1
      · refine sX7_attacks hN hn'.1 (by omega) hw hb hk hx (fun g1 => ?_) (fun g1 => ?_)
        · refine fun _ => ⟨fun q => by omega, fun _ => ?_⟩
          have g1 := g1.resolve_left (fun g => hm2 g.1)
          have hM : mMn n m w b k x := Or.inl ⟨hm2, g1.2.1, g1.2.2.1, g1.2.2.2, q1, q2⟩
          have hB : alB n.toNat k.toNat x = true := alB_of hN hk hx (mAl_01 g1.2.1)
          refine sX7_add_man (q := -1) (p' := fun c => mKg n m w b k c ∨ ∃ z, mOn n z ∧ z < ((x + 1 : Nat) : Int) ∧ mMn n m w b k z ∧ c = mCd k z (-1)) hN hl (by omega) hw hb hk hx (by omega) hwk (by simp) hd (by omega) ?_ ?_ (fun M' a1 a2 => ih (x + 1) M' (cnt + 1) (by omega) a1 (by rw [cs, hB]; simp; omega) (hC.tr a2) (by omega))
          · rintro y (g | ⟨z, g2, g3, g4, g5⟩)
            · exact Or.inl g
            · exact Or.inr ⟨z, -1, g2, by omega, g5, Or.inl g3⟩
          · intro c
            constructor
            · rintro ((g | ⟨z, g2, g3, g4, g5⟩) | g)
              · exact Or.inl g
              · exact Or.inr ⟨z, g2, by omega, g4, g5⟩
              · exact Or.inr ⟨x, hx, by omega, hM, g⟩
            · rintro (g | ⟨z, g2, g3, g4, g5⟩)
              · exact Or.inl (Or.inl g)
              · rcases Int.lt_or_eq_of_le (show z ≤ x by omega) with g6 | g6
                · exact Or.inl (Or.inr ⟨z, g2, g6, g4, g5⟩)
                · rw [g6] at g5; exact Or.inr g5
        · exact fun _ => ⟨fun _ => skip (fun q3 => g1 (by
            rcases q3 with q3 | q3
            · exact Or.inr ⟨hm2, q3.2.1, q3.2.2.1, q3.2.2.2.1⟩
            · exact absurd q3.1 hm2)), fun q => by omega⟩
end FK
