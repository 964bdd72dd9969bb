section FL
variable {kd : gKd} {ln : gLn} {M : gM} {r n w b k t m : Int}
/-- a pawn's moves -/
theorem sX7_pawnMoves {post : gM → Prop} {cnt : Nat} (hN : mN n) (hl : mLn7 ln r) (hn : rN n r M) (hw : mOn n w) (hb : mOn n b) (hk : mOn n k) (hL : mLg n 2 w b k 0) (hd : mHd r (mV 2 w b k 0) M cnt (mKg n 2 w b k)) (hc : cnt ≤ 9) (h : ∀ M' (cnt' : Nat), mHd r (mV 2 w b k 0) M' cnt' (mvP n 2 w b k 0) → cnt' ≤ 36 → Ch r mSl M M' → post M') : wX7_pawnMoves kd ln post r w b k M := by
  have e1 := mSq hN hw
  have e2 := mSq hN hb
  have e3 := mSq hN hk
  have hS := mSS hN
  have hwk : w ≠ k := hL.2.1
  have hr := hL.2.2.2.2.1 rfl
  obtain ⟨u1, u2, u3⟩ := mUp hN hk (by omega)
  have e4 := mSq hN u1
  have none : (k + n = w ∨ k + n = b) → ∀ c, mKg n 2 w b k c ↔ mvP n 2 w b k 0 c := fun q c => by
    unfold mvP
    constructor
    · exact fun g => Or.inl g
    · rintro (g | ⟨_, ⟨z, g1, g2, g3⟩ | ⟨g1, _⟩⟩)
      · exact g
      · rcases g2 with g2 | g2
        · exact absurd rfl g2.1
        · exact absurd q (fun q => q.elim g2.2.1 g2.2.2.1)
      · exact absurd q (fun q => q.elim g1.2.2.1 g1.2.2.2)
  unfold wX7_pawnMoves
  rw [hn.1]
  intro _ v2 ev
  subst ev
  refine ⟨by omega, by omega, fun q => h M cnt (mHd_iff hd (none (Or.inl q))) (by omega) Ch.rf, fun q => ⟨by omega, fun q1 => ⟨by omega, by omega, by omega, fun q2 => ?_, fun q2 => ?_⟩, fun q1 => h M cnt (mHd_iff hd (none (Or.inr q1))) (by omega) Ch.rf⟩⟩
  · have hM1 : mMn n 2 w b k (k + n) := Or.inr ⟨rfl, q, q1, q, q1, by omega, Or.inl rfl⟩
    refine sX7_add_man (q := -1) (p' := fun c => mKg n 2 w b k c ∨ c = mCd k (k + n) (-1)) hN hl (by omega) hw hb hk u1 (by omega) hwk (by simp) hd (by omega) (fun y g => Or.inl g) (fun c => Iff.rfl) (fun M' a1 a2 => ?_)
    have hn' := hn.ch a2 (by decide) (by decide)
    have one : (∀ z, mOn n z → mMn n 2 w b k z → z = k + n) → post M' := fun g => by
      refine h M' (cnt + 1) (mHd_iff a1 (fun c => ?_)) (by omega) a2
      unfold mvP
      constructor
      · rintro (g | g)
        · exact Or.inl g
        · exact Or.inr ⟨rfl, Or.inl ⟨k + n, u1, hM1, g⟩⟩
      · rintro (g | ⟨_, ⟨z, g1, g2, g3⟩ | ⟨g1, _⟩⟩)
        · exact Or.inl g
        · right
          rw [g3, g z g1 g2]
        · have := g1.2.1
          omega
    have two : ∀ z, mMn n 2 w b k z → z ≠ k + n → z = k + n + n ∧ k / n = 1 ∧ z / n < n - 1 ∧ z ≠ w ∧ z ≠ b := fun z g1 g2 => by
      rcases g1 with g1 | g1
      · exact absurd rfl g1.1
      · obtain ⟨-, -, -, g3, g4, g5, g6⟩ := g1
        rcases g6 with g6 | g6
        · exact absurd g6 g2
        · exact ⟨g6.1, g6.2, g5, g3, g4⟩
    rw [hn'.1]
    intro _ v18 ev
    subst ev
    refine ⟨by omega, by omega, fun c1 => one (fun z g1 g2 => Classical.byContradiction fun g3 => c1 (two z g2 g3).2.1), fun c1 => ?_⟩
    have u4 : 0 ≤ k + n + n ∧ k + n + n < 64 := by
      rcases mN_cases hN with rfl | rfl | rfl | rfl | rfl <;> omega
    have u5 : (k + n + n) / n = k / n + 2 := by
      rcases mN_cases hN with rfl | rfl | rfl | rfl | rfl <;> omega
    refine ⟨by omega, by rw [u5]; omega, by omega, fun c2 => one (fun z g1 g2 => Classical.byContradiction fun g3 => ?_), fun c2 => ⟨by omega, fun c3 => one (fun z g1 g2 => Classical.byContradiction fun g3 => ?_), fun c3 => ⟨fun c4 => one (fun z g1 g2 => Classical.byContradiction fun g3 => ?_), fun c4 => ?_⟩⟩⟩
    · obtain ⟨g4, g5, g6, g7, g8⟩ := two z g2 g3
      rw [g4] at g6
      omega
    · obtain ⟨g4, g5, g6, g7, g8⟩ := two z g2 g3
      exact g7 (g4.trans c3)
    · obtain ⟨g4, g5, g6, g7, g8⟩ := two z g2 g3
      exact g8 (g4.trans c4)
    · have u6 : mOn n (k + n + n) := by
        have := mUp hN u1 (by omega)
        exact this.1
      have hM2 : mMn n 2 w b k (k + n + n) := Or.inr ⟨rfl, q, q1, c3, c4, by omega, Or.inr ⟨rfl, c1⟩⟩
      refine sX7_add_man (q := -1) (p' := mvP n 2 w b k 0) hN hl (by omega) hw hb hk u6 (by omega) hwk (by simp) a1 (by omega) ?_ (fun c => ?_) (fun M'' a3 a4 => h M'' (cnt + 1 + 1) a3 (by omega) (a2.tr a4))
      · rintro y (g | g)
        · exact Or.inl g
        · exact Or.inr ⟨k + n, -1, u1, by omega, g, Or.inl (by omega)⟩
      · unfold mvP
        constructor
        · rintro ((g | g) | g)
          · exact Or.inl g
          · exact Or.inr ⟨rfl, Or.inl ⟨k + n, u1, hM1, g⟩⟩
          · exact Or.inr ⟨rfl, Or.inl ⟨k + n + n, u6, hM2, g⟩⟩
        · rintro (g | ⟨_, ⟨z, g1, g2, g3⟩ | ⟨g1, _⟩⟩)
          · exact Or.inl (Or.inl g)
          · rcases Classical.em (z = k + n) with g4 | g4
            · rw [g4] at g3; exact Or.inl (Or.inr g3)
            · rw [(two z g2 g4).1] at g3; exact Or.inr g3
          · have := g1.2.1
            omega
  · have hP : mPr n 2 w b k := ⟨rfl, by omega, q, q1⟩
    have loop : ∀ (j x : Nat) (M' : gM), x ≤ 4 → mHd r (mV 2 w b k 0) M' (cnt + x) (fun c => mKg n 2 w b k c ∨ ∃ q : Int, (0 ≤ q ∧ q < x) ∧ c = mCd k (k + n) q) → Ch r mSl M M' → 4 - x < j → wX7_pawnMoves_40 kd ln post r w b k j (k + n) x M' := by
      intro j
      induction j with
      | zero => intro x M' h1 h2 h3 h4; omega
      | succ j ih =>
        intro x M' h1 h2 h3 h4
        unfold wX7_pawnMoves_40
        refine ⟨by omega, fun c1 => ?_, fun c1 => ?_⟩
        · have : x = 4 := by omega
          subst this
          refine h M' (cnt + 4) (mHd_iff h2 (fun c => ?_)) (by omega) h3
          unfold mvP
          constructor
          · rintro (g | ⟨z, g1, g2⟩)
            · exact Or.inl g
            · exact Or.inr ⟨rfl, Or.inr ⟨hP, z, by omega, g2⟩⟩
          · rintro (g | ⟨_, ⟨z, g1, g2, g3⟩ | ⟨_, z, g1, g2⟩⟩)
            · exact Or.inl g
            · exfalso
              rcases g2 with g2 | g2
              · exact g2.1 rfl
              · obtain ⟨-, -, -, g3, g4, g5, g6⟩ := g2
                rcases g6 with g6 | g6
                · rw [g6] at g5; omega
                · have := g6.2; have := hP.2.1; have := mN_cases hN; omega
            · exact Or.inr ⟨z, by omega, g2⟩
        · have step : ∀ a4 : Int, a4 = (if (x : Int) = -1 then (2 : Int) else if (x : Int) < 2 then (x : Int) else -1) → wX7_pawnMoves_64 kd ln post r w b k (wX7_pawnMoves_40 kd ln post r w b k j) (k + n) x a4 x (k + n) k M' := fun a4 ea => by
            unfold wX7_pawnMoves_64
            refine sX7_add_man (q := x) (p' := fun c => mKg n 2 w b k c ∨ ∃ q : Int, (0 ≤ q ∧ q < ((x + 1 : Nat) : Int)) ∧ c = mCd k (k + n) q) hN hl (by omega) hw hb hk u1 (by omega) hwk ea h2 (by omega) ?_ (fun c => ?_) (fun M'' a3 a4 => ih (x + 1) M'' (by omega) a3 (h3.tr a4) (by omega))
            · rintro y (g | ⟨z, g1, g2⟩)
              · exact Or.inl g
              · exact Or.inr ⟨k + n, z, u1, by omega, g2, Or.inr ⟨rfl, g1.2⟩⟩
            · constructor
              · rintro ((g | ⟨z, g1, g2⟩) | g)
                · exact Or.inl g
                · exact Or.inr ⟨z, by omega, g2⟩
                · exact Or.inr ⟨x, by omega, g⟩
              · rintro (g | ⟨z, g1, g2⟩)
                · exact Or.inl (Or.inl g)
                · rcases Int.lt_or_eq_of_le (show z ≤ x by omega) with g6 | g6
                  · exact Or.inl (Or.inr ⟨z, by omega, g2⟩)
                  · rw [g6] at g2; exact Or.inr g2
          refine ⟨fun c2 => step (-1) (by rw [if_neg (by omega), if_neg (by omega)]), fun c2 => step x (by rw [if_neg (by omega), if_pos (by omega)])⟩
    refine ⟨5, loop 5 0 M (by omega) (mHd_iff hd (fun c => ?_)) Ch.rf (by omega)⟩
    constructor
    · exact fun g => Or.inl g
    · rintro (g | ⟨z, g1, g2⟩)
      · exact g
      · exfalso; omega
theorem sX7_find {post : gM → Prop} (hN : mN n) (hl : mLn7 ln r) (hn : rN n r M) (hm : 0 ≤ m ∧ m ≤ 2) (hw : mOn n w) (hb : mOn n b) (hk : mOn n k) (ht : t = 0 ∨ t = 1) (hL : mLg n m w b k t) (h : ∀ M' (cnt' : Nat), mHd r (mV m w b k t) M' cnt' (mvP n m w b k t) → cnt' ≤ 36 → Ch r mSl M M' → post M') : wX7_find kd ln post r m w b k t M := by
  have c0 : Ch r mSl M (gu M r 12 (-1) 0) := Ch.up Ch.rf (by decide) _ _
  have hn0 := hn.ch c0 (by decide) (by decide)
  have hd0 : mHd r (mV m w b k t) (gu M r 12 (-1) 0) 0 (mKp n m w b k t (-1) (-1)) := by
    refine ⟨gu_s, fun _ => 0, sIn_0 ?_, fun i hi => absurd hi (Nat.not_lt_zero i)⟩
    rintro c ⟨x, h1, h2, h3, h4⟩
    have := mK_nx h2
    unfold mNx at this
    omega
  have go : wX7_find_15 kd ln post r m w b k t (mKs w b t) (gu M r 12 (-1) 0) := by
    unfold wX7_find_15
    refine ⟨4, sX7_find_20 hN hl hn0 hm hw hb hk ht hL (fun M' cnt' a1 a2 a3 a4 => ?_) (fun M' cnt' a1 a2 a3 a4 a5 => ?_) 4 (-1) _ 0 (by omega) (by omega) hd0 (by omega) Ch.rf (by omega)⟩
    · have a3' := c0.tr a3
      unfold wX7_find_279
      refine ⟨by omega, fun q => h M' cnt' (mHd_iff a1 (fun c => ?_)) (by omega) a3', fun q => ⟨by omega, fun q1 => by omega, fun q1 => ?_⟩⟩
      · unfold mvP
        exact ⟨fun g => Or.inl g, fun g => g.resolve_right (fun g2 => q g2.1)⟩
      · subst q q1
        refine sX7_pawnMoves hN hl (hn.ch a3' (by decide) (by decide)) hw hb hk hL a1 a2 (fun M'' cnt'' b1 b2 b3 => h M'' cnt'' b1 b2 (a3'.tr b3))
    · subst a4
      have a3' := c0.tr a3
      refine ⟨(n * n).toNat + 1, ?_⟩
      have hS := mSS hN
      refine sX7_find_224 hN hl (hn.ch a3' (by decide) (by decide)) (by omega) hw hb hk hL.2.1 (fun M'' cnt'' b1 b2 b3 => h M'' cnt'' b1 b2 (a3'.tr b3)) _ 0 M' cnt' (by omega) (mHd_iff a1 (fun c => ?_)) (by omega) Ch.rf (by omega)
      constructor
      · exact fun g => Or.inl g
      · rintro (g | ⟨z, g1, g2, _⟩)
        · exact g
        · exfalso
          have := g1.1
          omega
  unfold wX7_find
  rcases ht with rfl | rfl
  · exact ⟨by omega, fun q => absurd rfl q, fun _ => go⟩
  · exact ⟨by omega, fun _ => go, fun q => absurd q (by decide)⟩
end FL
