section PW
variable {kd : gKd} {ln : gLn} {M : gM} {o n m w b k t : Int}
theorem mDbl {k : Int} (hN : mN n) (hk : mOn n k) : (k + n + n < n * n - n ↔ k / n + 2 < n - 1) ∧ (k / n + 2 < n → mOn n (k + n + n) ∧ (k + n + n) / n = k / n + 2) ∧ (k / n + 1 < n → mOn n (k + n) ∧ (k + n) / n = k / n + 1) := by
  rcases mN_cases hN with rfl | rfl | rfl | rfl | rfl <;> omega
theorem sX0_pawnTargets {post : BitVec 64 → gM → Prop} (hN : mN n) (hB : bdG n (M o)) (hw : mOn n w) (hb : mOn n b) (hk : mOn n k) (hL : mLg n 2 w b k 0) (h : ∀ c, sq n c (fun x => mMn n 2 w b k x ∨ (mPr n 2 w b k ∧ x = k + n)) → post c M) : wX0_pawnTargets kd ln post o w b k M := by
  have e1 := mSq hN hw
  have e2 := mSq hN hb
  have e3 := mSq hN hk
  have h4 : 4 ≤ n ∧ n ≤ 8 := hN
  have hr := hL.2.2.2.2.1 rfl
  obtain ⟨d1, d2, d3⟩ := mDbl hN hk
  obtain ⟨u1, u2⟩ := d3 (by omega)
  have e4 := mSq hN u1
  obtain ⟨r1, r2, r3⟩ := mLast hN hk
  have none : (k + n = w ∨ k + n = b) → post (0 : BitVec 64) M := fun q => h _ (sq_0 (fun x hx g => by
    rcases g with (g | g) | g
    · exact absurd rfl g.1
    · rcases q with q | q
      · exact g.2.1 q
      · exact g.2.2.1 q
    · rcases q with q | q
      · exact g.1.2.2.1 q
      · exact g.1.2.2.2 q))
  have one : k + n ≠ w → k + n ≠ b → ¬ (k / n = 1 ∧ k / n + 2 < n - 1 ∧ k + n + n ≠ w ∧ k + n + n ≠ b) → wX0_pawnTargets_66 kd ln post o w b k (k + n) (k + n + n) M := fun q1 q2 q3 => by
    unfold wX0_pawnTargets_66 wX0_pawnTargets_67
    refine ⟨by omega, fun _ => sX6_bit (by omega) (h _ (sq_cong (sq_bit hN u1) (fun x hx => ?_))), fun g => absurd rfl g⟩
    constructor
    · rintro rfl
      by_cases g : k / n = n - 2
      · exact Or.inr ⟨⟨rfl, g, q1, q2⟩, rfl⟩
      · exact Or.inl (Or.inr ⟨rfl, q1, q2, q1, q2, by omega, Or.inl rfl⟩)
    · rintro ((g | ⟨_, a1, a2, a3, a4, a5, a6⟩) | g)
      · exact absurd rfl g.1
      · rcases a6 with a6 | ⟨a6, a7⟩
        · exact a6
        · exfalso
          apply q3
          subst a6
          obtain ⟨v1, v2⟩ := d2 (by
            have := mSq hN hx
            rcases mN_cases hN with rfl | rfl | rfl | rfl | rfl <;> omega)
          exact ⟨a7, by omega, a3, a4⟩
      · exact g.2
  unfold wX0_pawnTargets
  rw [hB.1.1]
  intro _ v2 ev
  subst ev
  refine ⟨by omega, by omega, fun q => none (Or.inl q), fun q => ⟨by omega, fun q1 => ?_, fun q1 => none (Or.inr q1)⟩⟩
  intro v9 ev
  subst ev
  refine ⟨by omega, by omega, fun q2 => one q q1 (by omega), fun q2 => ?_⟩
  refine sX0_isLastRank hN hB.1.1 hB.1.2 (by omega) (fun g => fun _ => ⟨fun _ => one q q1 (by omega), fun g2 => absurd g2 (by decide)⟩) (fun g => fun _ => ⟨fun g2 => absurd rfl g2, fun _ => ⟨by omega, fun q3 => one q q1 (fun g => g.2.2.1 q3), fun q3 => ⟨fun q4 => one q q1 (fun g => g.2.2.2 q4), fun q4 => ?_⟩⟩⟩)
  obtain ⟨v1, v2⟩ := d2 (by omega)
  have e5 := mSq hN v1
  unfold wX0_pawnTargets_67
  refine ⟨by omega, fun g => absurd g (by decide), fun _ => sX6_bit (by omega) (sX6_bit (by omega) (h _ (sq_cong (sq_or (sq_bit hN u1) (sq_bit hN v1)) (fun x hx => ?_))))⟩
  constructor
  · rintro (rfl | rfl)
    · exact Or.inl (Or.inr ⟨rfl, q, q1, q, q1, by omega, Or.inl rfl⟩)
    · exact Or.inl (Or.inr ⟨rfl, q, q1, q3, q4, by omega, Or.inr ⟨rfl, by omega⟩⟩)
  · rintro ((g | ⟨_, a1, a2, a3, a4, a5, a6⟩) | g)
    · exact absurd rfl g.1
    · rcases a6 with a6 | ⟨a6, a7⟩
      · exact Or.inl a6
      · exact Or.inr a6
    · exact Or.inl g.2
theorem sX0_manTargets {post : BitVec 64 → gM → Prop} (hN : mN n) (hl : bdL n (ln o)) (hB : bdG n (M o)) (hm : 0 ≤ m ∧ m ≤ 2) (hw : mOn n w) (hb : mOn n b) (hk : mOn n k) (hL : mLg n m w b k 0) (h : ∀ c, sq n c (fun x => mMn n m w b k x ∨ (mPr n m w b k ∧ x = k + n)) → post c M) : wX0_manTargets kd ln post o m w b k M := by
  unfold wX0_manTargets
  refine ⟨by omega, fun q => sX0_glides hN hl hB (by omega) hw hb hk fun c hc => h c (sq_cong hc (fun x _ => ⟨fun g => Or.inl g, fun g => g.resolve_right (fun g2 => q g2.1.1)⟩)), fun q => ?_⟩
  subst q
  exact sX0_pawnTargets hN hB hw hb hk hL h
/-- where a pawn can have come from -/
theorem sX0_pawnSources {post : BitVec 64 → gM → Prop} (hN : mN n) (hB : bdG n (M o)) (hw : mOn n w) (hb : mOn n b) (hk : mOn n k) (hL : mLg n 2 w b k 1) (h : ∀ c, sq n c (fun x => mMn n 2 w b x k ∧ x ≠ w ∧ x ≠ b ∧ 1 ≤ x / n) → post c M) : wX0_pawnSources kd ln post o w b k M := by
  have e1 := mSq hN hw
  have e2 := mSq hN hb
  have e3 := mSq hN hk
  have h4 : 4 ≤ n ∧ n ≤ 8 := hN
  have hr := hL.2.2.2.2.1 rfl
  have hD := mDn hN hk
  have kw : k ≠ w := fun e => hL.2.1 e.symm
  have kb : k ≠ b := fun e => hL.2.2.1 e.symm
  have g1 : (k - n < n ↔ k / n ≤ 1) ∧ (k - n - n < n ↔ k / n ≤ 2) ∧ (2 * n ≤ k - n - n ↔ 4 ≤ k / n) := by
    rcases mN_cases hN with rfl | rfl | rfl | rfl | rfl <;> omega
  have xs : ∀ x, mOn n x → 1 ≤ x / n → mMn n 2 w b x k → (x = k - n ∧ (k - n) / n = k / n - 1 ∧ 2 ≤ k / n) ∨ (x = k - n - n ∧ k / n = 3 ∧ k - n ≠ w ∧ k - n ≠ b) := fun x hx x1 x2 => by
    rcases x2 with x2 | ⟨_, a1, a2, a3, a4, a5, a6⟩
    · exact absurd rfl x2.1
    · rcases a6 with a6 | ⟨a6, a7⟩
      · left
        have : k / n = x / n + 1 := by
          subst a6
          rcases mN_cases hN with rfl | rfl | rfl | rfl | rfl <;> omega
        refine ⟨by omega, ?_, by omega⟩
        rw [show k - n = x by omega]; omega
      · right
        exact ⟨by omega, mDn2 hN hx a6 a7, by omega, by omega⟩
  have none : (k - n < n ∨ k - n = w ∨ k - n = b) → post (0 : BitVec 64) M := fun q => h _ (sq_0 (fun x hx g => by
    rcases xs x hx g.2.2.2 g.1 with ⟨y1, y2, y3⟩ | ⟨y1, y2, y3, y4⟩
    · rcases q with q | q | q
      · omega
      · exact g.2.1 (y1.trans q)
      · exact g.2.2.1 (y1.trans q)
    · omega))
  have one : 2 ≤ k / n → k - n ≠ w → k - n ≠ b → ¬ (k / n = 3 ∧ k - n - n ≠ w ∧ k - n - n ≠ b) → wX0_pawnSources_76 kd ln post o w b k (k - n) (k - n - n) M := fun q0 q1 q2 q3 => by
    obtain ⟨v1, v2⟩ := hD.2.1 (by omega)
    have e4 := mSq hN v1
    unfold wX0_pawnSources_76 wX0_pawnSources_77
    refine ⟨by omega, fun _ => sX6_bit (by omega) (h _ (sq_cong (sq_bit hN v1) (fun x hx => ?_))), fun g => absurd rfl g⟩
    constructor
    · rintro rfl
      exact ⟨Or.inr ⟨rfl, by omega, by omega, kw, kb, by omega, Or.inl (by omega)⟩, q1, q2, by omega⟩
    · rintro ⟨a1, a2, a3, a4⟩
      rcases xs x hx a4 a1 with ⟨y1, _⟩ | ⟨y1, y2, y3, y4⟩
      · exact y1
      · exact absurd ⟨y2, y1 ▸ a2, y1 ▸ a3⟩ q3
  unfold wX0_pawnSources
  rw [hB.1.1]
  intro _ v2 ev
  subst ev
  refine ⟨by omega, fun q => none (Or.inl q), fun q => ⟨by omega, fun q1 => none (Or.inr (Or.inl q1)), fun q1 => ⟨by omega, fun q2 => ?_, fun q2 => none (Or.inr (Or.inr q2))⟩⟩⟩
  intro v11 ev
  subst ev
  refine ⟨by omega, fun q3 => one (by omega) q1 q2 (by omega), fun q3 => ⟨by omega, fun q4 => one (by omega) q1 q2 (by omega), fun q4 => ⟨fun q5 => one (by omega) q1 q2 (fun g => g.2.1 q5), fun q5 => ⟨fun q6 => one (by omega) q1 q2 (fun g => g.2.2 q6), fun q6 => ?_⟩⟩⟩⟩
  have k3 : k / n = 3 := by omega
  obtain ⟨v1, v2⟩ := hD.2.1 (by omega)
  obtain ⟨v3, v4⟩ := hD.2.2 k3
  have e4 := mSq hN v1
  have e5 := mSq hN v3
  unfold wX0_pawnSources_77
  refine ⟨by omega, fun g => absurd g (by decide), fun _ => sX6_bit (by omega) (sX6_bit (by omega) (h _ (sq_cong (sq_or (sq_bit hN v1) (sq_bit hN v3)) (fun x hx => ?_))))⟩
  constructor
  · rintro (rfl | rfl)
    · exact ⟨Or.inr ⟨rfl, by omega, by omega, kw, kb, by omega, Or.inl (by omega)⟩, q1, q2, by omega⟩
    · exact ⟨Or.inr ⟨rfl, by omega, by omega, kw, kb, by omega, Or.inr ⟨by omega, v4⟩⟩, q5, q6, by omega⟩
  · rintro ⟨a1, a2, a3, a4⟩
    rcases xs x hx a4 a1 with ⟨y1, _⟩ | ⟨y1, y2, y3, y4⟩
    · exact Or.inl y1
    · exact Or.inr y1
end PW
