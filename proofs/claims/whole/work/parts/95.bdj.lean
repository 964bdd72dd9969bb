section BJ
variable {kd : gKd} {ln : gLn} {M : gM} {o n a f g : Int}
abbrev bf (n a g f x : Int) : Prop := mSg (x / n - a / n) < g ∨ (mSg (x / n - a / n) = g ∧ mSg (x % n - a % n) < f)
/-- how far a square has looked around: before the direction (g, f) -/
def laI (n o a g f : Int) (M M' : gM) : Prop := Ch o [6, 8, 100, 101, 102] M M' ∧ (∀ k, k ≠ 8 → ∀ i, i ≠ a → M' o k i = M o k i) ∧ (∀ i, (∀ y, mOn n y → i ≠ a * (n * n) + y) → M' o 8 i = M o 8 i) ∧ sq n (L64 (M' o 6 a)) (fun x => mNx n a x ∧ bf n a g f x) ∧ sq n (L64 (M' o 100 a)) (fun x => mAl n 0 a x ∧ bf n a g f x) ∧ sq n (L64 (M' o 101 a)) (fun x => mAl n 1 a x ∧ bf n a g f x) ∧ sq n (L64 (M' o 102 a)) (fun x => mPw n a x ∧ bf n a g f x) ∧ ∀ y, mOn n y → sq n (L64 (M' o 8 (a * (n * n) + y))) (fun x => (mAl n 0 a x ∧ mBt n a y x) ∧ bf n a g f y)
theorem bf_s {x : Int} : bf n a g (f + 1) x ↔ bf n a g f x ∨ (mSg (x / n - a / n) = g ∧ mSg (x % n - a % n) = f) := by
  unfold bf
  omega
theorem laI_row {M' : gM} (h : laI n o a g 2 M M') : laI n o a (g + 1) (-1) M M' := by
  have e : ∀ x, bf n a g 2 x ↔ bf n a (g + 1) (-1) x := fun x => by
    have := mSg_c (x % n - a % n)
    unfold bf
    omega
  obtain ⟨h1, h2, h3, h4, h5, h6, h7, h8⟩ := h
  refine ⟨h1, h2, h3, sq_cong h4 (fun x _ => ?_), sq_cong h5 (fun x _ => ?_), sq_cong h6 (fun x _ => ?_), sq_cong h7 (fun x _ => ?_), fun y hy => sq_cong (h8 y hy) (fun x _ => ?_)⟩
  · rw [e]
  · rw [e]
  · rw [e]
  · rw [e]
  · rw [e]
theorem al_sg (h : mSg f = 0) : f = 0 := by
  have := mSg_t f
  omega
/-- nothing in this direction -/
theorem la_skip {M' : gM} (hI : laI n o a g f M M') (h : ∀ x, mOn n x → mSg (x / n - a / n) = g → mSg (x % n - a % n) = f → ¬ mNx n a x ∧ ¬ mAl n 0 a x ∧ ¬ mPw n a x) : laI n o a g (f + 1) M M' := by
  obtain ⟨h1, h2, h3, h4, h5, h6, h7, h8⟩ := hI
  refine ⟨h1, h2, h3, sq_cong h4 (fun x hx => ?_), sq_cong h5 (fun x hx => ?_), sq_cong h6 (fun x hx => ?_), sq_cong h7 (fun x hx => ?_), fun y hy => sq_cong (h8 y hy) (fun x hx => ?_)⟩
  · rw [bf_s]
    exact ⟨fun q => ⟨q.1, Or.inl q.2⟩, fun q => ⟨q.1, q.2.resolve_right (fun q2 => (h x hx q2.1 q2.2).1 q.1)⟩⟩
  · rw [bf_s]
    exact ⟨fun q => ⟨q.1, Or.inl q.2⟩, fun q => ⟨q.1, q.2.resolve_right (fun q2 => (h x hx q2.1 q2.2).2.1 q.1)⟩⟩
  · rw [bf_s]
    exact ⟨fun q => ⟨q.1, Or.inl q.2⟩, fun q => ⟨q.1, q.2.resolve_right (fun q2 => (h x hx q2.1 q2.2).2.1 (mAl_01 q.1))⟩⟩
  · rw [bf_s]
    exact ⟨fun q => ⟨q.1, Or.inl q.2⟩, fun q => ⟨q.1, q.2.resolve_right (fun q2 => (h x hx q2.1 q2.2).2.2 q.1)⟩⟩
  · rw [bf_s]
    exact ⟨fun q => ⟨q.1, Or.inl q.2⟩, fun q => ⟨q.1, q.2.resolve_right (fun q2 => (h y hy q2.1 q2.2).2.1 q.1.2.1)⟩⟩
theorem la_step {M' M4 : gM} {nb : Int} {c : BitVec 64} (hN : mN n) (ha : mOn n a) (hf : f = -1 ∨ f = 0 ∨ f = 1) (hg : g = -1 ∨ g = 0 ∨ g = 1) (hfg : ¬ (f = 0 ∧ g = 0)) (hnb : mOn n nb) (nf : nb % n = a % n + f) (nr : nb / n = a / n + g) (hc : sq n c (ds n a f g)) (hI : laI n o a g f M M') (c4 : Ch o [6, 8, 100, 101, 102] M' M4) (k4 : ∀ k, k ≠ 8 → ∀ i, i ≠ a → M4 o k i = M' o k i) (u8 : ∀ i, (∀ y, mOn n y → ds n a f g y → i ≠ a * (n * n) + y) → M4 o 8 i = M' o 8 i) (v8 : ∀ y, mOn n y → ds n a f g y → sq n (L64 (M4 o 8 (a * (n * n) + y))) (fun x => mAl n 0 a x ∧ mBt n a y x)) (u6 : M4 o 6 a = ((L64 (M' o 6 a) ||| BitVec.twoPow 64 nb.toNat).toNat : Nat)) (u100 : M4 o 100 a = ((L64 (M' o 100 a) ||| c).toNat : Nat)) (u101 : ((f = 0 ∨ g = 0) → M4 o 101 a = ((L64 (M' o 101 a) ||| c).toNat : Nat)) ∧ (¬ (f = 0 ∨ g = 0) → M4 o 101 a = M' o 101 a)) (u102 : ((g = 1 ∧ f ≠ 0) → M4 o 102 a = ((L64 (M' o 102 a) ||| BitVec.twoPow 64 nb.toNat).toNat : Nat)) ∧ (¬ (g = 1 ∧ f ≠ 0) → M4 o 102 a = M' o 102 a)) : laI n o a g (f + 1) M M4 := by
  obtain ⟨h1, h2, h3, h4, h5, h6, h7, h8⟩ := hI
  have st := (ds_step hN ha hf hg hfg (i := 1) (by omega) hnb).mp ⟨by omega, by omega⟩
  have dir : ∀ x, ds n a f g x → mSg (x / n - a / n) = g ∧ mSg (x % n - a % n) = f := fun x q => ⟨q.2.2, q.2.1⟩
  have nx : ∀ x, mOn n x → ((mNx n a x ∧ mSg (x / n - a / n) = g ∧ mSg (x % n - a % n) = f) ↔ x = nb) := fun x hx => by
    constructor
    · rintro ⟨q1, q2, q3⟩
      have t1 := mSg_t (x / n - a / n)
      have t2 := mSg_t (x % n - a % n)
      unfold mNx at q1
      exact mSq_eq hN hx hnb (by omega) (by omega)
    · intro e
      subst e
      refine ⟨?_, (dir _ st.1).1, (dir _ st.1).2⟩
      unfold mNx
      omega
  refine ⟨h1.tr c4, fun k hk i hi => (k4 k hk i hi).trans (h2 k hk i hi), fun i hi => (u8 i (fun y hy _ => hi y hy)).trans (h3 i hi), ?_, ?_, ?_, ?_, fun y hy => ?_⟩
  · rw [u6, L64_nat]
    refine sq_cong (sq_or h4 (sq_bit hN hnb)) (fun x hx => ?_)
    rw [bf_s, ← nx x hx]
    constructor
    · rintro (q | q)
      · exact ⟨q.1, Or.inl q.2⟩
      · exact ⟨q.1, Or.inr q.2⟩
    · rintro ⟨q, q2 | q2⟩
      · exact Or.inl ⟨q, q2⟩
      · exact Or.inr ⟨q, q2⟩
  · rw [u100, L64_nat]
    refine sq_cong (sq_or h5 hc) (fun x hx => ?_)
    rw [bf_s]
    constructor
    · rintro (q | q)
      · exact ⟨q.1, Or.inl q.2⟩
      · exact ⟨q.1, Or.inr (dir x q)⟩
    · rintro ⟨q, q2 | q2⟩
      · exact Or.inl ⟨q, q2⟩
      · exact Or.inr ⟨q, q2.2, q2.1⟩
  · by_cases e : f = 0 ∨ g = 0
    · rw [u101.1 e, L64_nat]
      refine sq_cong (sq_or h6 hc) (fun x hx => ?_)
      rw [bf_s]
      constructor
      · rintro (q | q)
        · exact ⟨q.1, Or.inl q.2⟩
        · refine ⟨?_, Or.inr (dir x q)⟩
          have q1 := q.1
          have q2 := q.2
          have t1 := mSg_t (x / n - a / n)
          have t2 := mSg_t (x % n - a % n)
          unfold mAl at q1 ⊢
          omega
      · rintro ⟨q, q2 | q2⟩
        · exact Or.inl ⟨q, q2⟩
        · exact Or.inr ⟨mAl_01 q, q2.2, q2.1⟩
    · rw [u101.2 e]
      refine sq_cong h6 (fun x hx => ?_)
      rw [bf_s]
      refine ⟨fun q => ⟨q.1, Or.inl q.2⟩, fun q => ⟨q.1, q.2.resolve_right (fun q2 => ?_)⟩⟩
      have q1 := q.1
      have t1 := mSg_t (x / n - a / n)
      have t2 := mSg_t (x % n - a % n)
      unfold mAl at q1
      omega
  · by_cases e : g = 1 ∧ f ≠ 0
    · rw [u102.1 e, L64_nat]
      refine sq_cong (sq_or h7 (sq_bit hN hnb)) (fun x hx => ?_)
      rw [bf_s]
      constructor
      · rintro (q | q)
        · exact ⟨q.1, Or.inl q.2⟩
        · subst q
          refine ⟨?_, Or.inr (dir _ st.1)⟩
          unfold mPw
          omega
      · rintro ⟨q, q2 | q2⟩
        · exact Or.inl ⟨q, q2⟩
        · right
          have t1 := mSg_t (x / n - a / n)
          have t2 := mSg_t (x % n - a % n)
          unfold mPw at q
          exact mSq_eq hN hx hnb (by omega) (by omega)
    · rw [u102.2 e]
      refine sq_cong h7 (fun x hx => ?_)
      rw [bf_s]
      refine ⟨fun q => ⟨q.1, Or.inl q.2⟩, fun q => ⟨q.1, q.2.resolve_right (fun q2 => ?_)⟩⟩
      have q1 := q.1
      have t1 := mSg_t (x / n - a / n)
      have t2 := mSg_t (x % n - a % n)
      unfold mPw at q1
      omega
  · by_cases e : ds n a f g y
    · refine sq_cong (v8 y hy e) (fun x hx => ?_)
      exact ⟨fun q => ⟨q, bf_s.mpr (Or.inr (dir y e))⟩, fun q => q.1⟩
    · rw [u8 _ (fun y' hy' q e2 => e (by
        have : y = y' := by omega
        rw [this]; exact q))]
      refine sq_cong (h8 y hy) (fun x hx => ?_)
      rw [bf_s]
      exact ⟨fun q => ⟨q.1, Or.inl q.2⟩, fun q => ⟨q.1, q.2.resolve_right (fun q2 => e ⟨q.1.2.1, q2.2, q2.1⟩)⟩⟩
theorem sX0_lookAround {post : gM → Prop} (hN : mN n) (hl : bdL n (ln o)) (h0 : M o 0 (-1) = n ∧ M o 1 (-1) = n * n) (ha : mOn n a) (hra : M o 2 a = a / n ∧ M o 3 a = a % n) (hz : M o 6 a = 0 ∧ M o 100 a = 0 ∧ M o 101 a = 0 ∧ M o 102 a = 0 ∧ ∀ y, mOn n y → M o 8 (a * (n * n) + y) = 0) (h : ∀ M', laI n o a 2 (-1) M M' → post M') : wX0_lookAround kd ln post o a M := by
  have h4 : 4 ≤ n ∧ n ≤ 8 := hN
  have ea := mSq hN ha
  have hl2 := hl
  obtain ⟨l2, l3, l4, l5, l6, l7, l8, l100, l101, l102⟩ := hl2
  have inner : ∀ (k2 : Int → gM → Prop) (g : Int), (g = -1 ∨ g = 0 ∨ g = 1) → (∀ M', laI n o a g 2 M M' → k2 (g + 1) M') → ∀ (j : Nat) (f : Int) (M' : gM), -1 ≤ f → f ≤ 2 → laI n o a g f M M' → 2 - f < j → wX0_lookAround_9 kd ln post o a k2 j g f M' := by
    intro k2 g hg hk2 j
    induction j with
    | zero => intro f M' h1 h2 h3 h4; omega
    | succ j ih =>
      intro f M' h1 h2 h3 h4
      have c3 := h3.1
      have a0 : M' o 0 (-1) = n := by rw [c3.at (by decide)]; exact h0.1
      have a1 : M' o 1 (-1) = n * n := by rw [c3.at (by decide)]; exact h0.2
      have a2 : M' o 2 a = a / n := by rw [c3.at (by decide)]; exact hra.1
      have a3 : M' o 3 a = a % n := by rw [c3.at (by decide)]; exact hra.2
      unfold wX0_lookAround_9 wX0_lookAround_95 wX0_lookAround_108 wX0_lookAround_133
      rw [l2, l3, l6, l7, l100, l101, l102, a2, a3]
      refine ⟨by omega, fun q => ?_, fun q => ⟨by omega, ⟨ha.1, ha.2⟩, fun _ => ⟨by omega, ⟨ha.1, ha.2⟩, fun _ => ?_⟩⟩⟩
      · have : f = 2 := by omega
        subst this
        exact hk2 M' h3
      · have hf : f = -1 ∨ f = 0 ∨ f = 1 := by omega
        have nxt : ∀ M'', laI n o a g (f + 1) M M'' → wX0_lookAround_9 kd ln post o a k2 j g (f + 1) M'' := fun M'' q2 => ih (f + 1) M'' (by omega) (by omega) q2 (by omega)
        refine sX0_squareAt hN a0 (by omega) (by omega) (fun q1 q2 _ => ?_) (fun q1 _ => ⟨fun _ => nxt M' (la_skip h3 (fun x hx s1 s2 => ?_)), fun q2 => absurd rfl q2⟩)
        · obtain ⟨s1, s2, s3⟩ := mSq_of hN (f := a % n + f) (r := a / n + g) q2 q1
          obtain ⟨nb, enb⟩ : ∃ nb, nb = n * (a / n + g) + (a % n + f) := ⟨_, rfl⟩
          rw [← enb] at s1 s2 s3 ⊢
          have en := mSq hN s1
          refine ⟨fun q3 => by omega, fun _ => ⟨by omega, fun q3 => ⟨by omega, ⟨ha.1, ha.2⟩, fun _ => ?_⟩, fun q3 => nxt M' (la_skip h3 (fun x hx t1 t2 => ?_))⟩⟩
          · have hfg : ¬ (f = 0 ∧ g = 0) := fun e => q3 (mSq_eq hN s1 ha (by omega) (by omega))
            refine sX6_bit (by omega) ?_
            refine sX0_lookAlong (M := gu M' o 6 a ((BitVec.ofInt 64 (M' o 6 a) ||| BitVec.twoPow 64 nb.toNat).toNat : Nat)) hN hl ⟨by rw [gu_k (by decide)]; exact a0, by rw [gu_k (by decide)]; exact a1⟩ ha ⟨by rw [gu_k (by decide)]; exact a2, by rw [gu_k (by decide)]; exact a3⟩ hf hg hfg (fun c M2 d1 d2 d3 d4 => ?_)
            have e100 : M2 o 100 a = M' o 100 a := by rw [d2.at (by decide), gu_k (by decide)]
            have e101 : M2 o 101 a = M' o 101 a := by rw [d2.at (by decide), gu_k (by decide)]
            have e102 : M2 o 102 a = M' o 102 a := by rw [d2.at (by decide), gu_k (by decide)]
            have c2 : Ch o [6, 8, 100, 101, 102] M' M2 := (Ch.up Ch.rf (show 6 ∈ [6, 8, 100, 101, 102] by decide) _ _).tr (d2.mo (by decide))
            have k2' : ∀ k, k ≠ 8 → ∀ i, i ≠ a → M2 o k i = M' o k i := fun k hk i hi => by
              rw [d2.at (by simpa using hk), gu_n (fun e => hi e.2.2)]
            -- all cases come to this
            have fin : ∀ M4 : gM, Ch o [6, 8, 100, 101, 102] M2 M4 → (∀ k, k ≠ 8 → ∀ i, i ≠ a → M4 o k i = M2 o k i) → M4 o 8 = M2 o 8 → M4 o 6 = M2 o 6 → M4 o 100 a = ((BitVec.ofInt 64 (M2 o 100 a) ||| c).toNat : Nat) → ((f = 0 ∨ g = 0) → M4 o 101 a = ((BitVec.ofInt 64 (M2 o 101 a) ||| c).toNat : Nat)) → (¬ (f = 0 ∨ g = 0) → M4 o 101 a = M2 o 101 a) → ((g = 1 ∧ f ≠ 0) → M4 o 102 a = ((BitVec.ofInt 64 (M2 o 102 a) ||| BitVec.twoPow 64 nb.toNat).toNat : Nat)) → (¬ (g = 1 ∧ f ≠ 0) → M4 o 102 a = M2 o 102 a) → wX0_lookAround_9 kd ln post o a k2 j g (f + 1) M4 := fun M4 w1 w2 w3 w4 w5 w6 w7 w8 w9 => by
              rw [e100] at w5
              rw [e101] at w6 w7
              rw [e102] at w8 w9
              refine nxt M4 (la_step hN ha hf hg hfg s1 s2 s3 d1 h3 (c2.tr w1) (fun k hk i hi => (w2 k hk i hi).trans (k2' k hk i hi)) (fun i hi => ?_) (fun y hy q4 => ?_) ?_ w5 ⟨w6, w7⟩ ⟨w8, w9⟩)
              · rw [w3, d3 i hi, gu_k (by decide)]
              · rw [w3]; exact d4 y hy q4
              · rw [w4, d2.at (by decide), gu_s]
            have t108 : ∀ M3 : gM, Ch o [6, 8, 100, 101, 102] M2 M3 → (∀ k, k ≠ 8 → ∀ i, i ≠ a → M3 o k i = M2 o k i) → M3 o 8 = M2 o 8 → M3 o 6 = M2 o 6 → M3 o 102 = M2 o 102 → M3 o 100 a = ((BitVec.ofInt 64 (M2 o 100 a) ||| c).toNat : Nat) → ((f = 0 ∨ g = 0) → M3 o 101 a = ((BitVec.ofInt 64 (M2 o 101 a) ||| c).toNat : Nat)) → (¬ (f = 0 ∨ g = 0) → M3 o 101 a = M2 o 101 a) → wX0_lookAround_108 kd ln post o a k2 (wX0_lookAround_9 kd ln post o a k2 j) g f nb M3 := fun M3 w1 w2 w3 w4 w5 w6 w7 w8 => by
              unfold wX0_lookAround_108 wX0_lookAround_133
              rw [l7, l102]
              refine ⟨by omega, fun q4 => fin M3 w1 w2 w3 w4 w6 w7 w8 (fun q5 => absurd q5.1 q4) (fun _ => by rw [w5]), fun q4 => ⟨by omega, fun q5 => fin M3 w1 w2 w3 w4 w6 w7 w8 (fun q6 => absurd q5 q6.2) (fun _ => by rw [w5]), fun q5 => ⟨by omega, by omega, ⟨ha.1, ha.2⟩, fun _ => sX6_bit (by omega) ?_⟩⟩⟩
              refine fin _ (Ch.up w1 (by decide) _ _) (fun k hk i hi => ?_) ?_ ?_ ?_ (fun q6 => ?_) (fun q6 => ?_) (fun _ => ?_) (fun q6 => absurd ⟨q4, q5⟩ q6)
              · rw [gu_n (fun e => hi e.2.2)]; exact w2 k hk i hi
              · rw [gu_k (by decide)]; exact w3
              · rw [gu_k (by decide)]; exact w4
              · rw [gu_k (by decide)]; exact w6
              · rw [gu_k (by decide)]; exact w7 q6
              · rw [gu_k (by decide)]; exact w8 q6
              · rw [gu_s, w5]
            have t95 : (f = 0 ∨ g = 0) → wX0_lookAround_95 kd ln post o a k2 (wX0_lookAround_9 kd ln post o a k2 j) g f nb c (gu M2 o 100 a ((BitVec.ofInt 64 (M2 o 100 a) ||| c).toNat : Nat)) := fun q4 => by
              unfold wX0_lookAround_95
              rw [l7, l101]
              refine ⟨by omega, by omega, ⟨ha.1, ha.2⟩, fun _ => t108 _ (Ch.up (Ch.up Ch.rf (by decide) _ _) (by decide) _ _) (fun k hk i hi => ?_) ?_ ?_ ?_ ?_ (fun _ => ?_) (fun q5 => absurd q4 q5)⟩
              · rw [gu_n (fun e => hi e.2.2), gu_n (fun e => hi e.2.2)]
              · rw [gu_k (by decide), gu_k (by decide)]
              · rw [gu_k (by decide), gu_k (by decide)]
              · rw [gu_k (by decide), gu_k (by decide)]
              · rw [gu_k (by decide), gu_s]
              · rw [gu_s, gu_k (by decide)]
            refine ⟨by omega, by omega, ⟨ha.1, ha.2⟩, fun _ => ⟨by omega, fun q4 => ?_, fun q4 => ⟨fun q5 => ?_, fun q5 => ?_⟩⟩⟩
            · have := t95 (Or.inr q4)
              unfold wX0_lookAround_95 wX0_lookAround_108 wX0_lookAround_133 at this
              rw [l7, l101, l102] at this
              exact this
            · have := t108 (gu M2 o 100 a ((BitVec.ofInt 64 (M2 o 100 a) ||| c).toNat : Nat)) (Ch.up Ch.rf (by decide) _ _) (fun k hk i hi => gu_n (fun e => hi e.2.2)) (gu_k (by decide)) (gu_k (by decide)) (gu_k (by decide)) gu_s (fun q6 => by omega) (fun _ => by rw [gu_k (by decide)])
              unfold wX0_lookAround_108 wX0_lookAround_133 at this
              rw [l7, l102] at this
              exact this
            · have := t95 (Or.inl q5)
              unfold wX0_lookAround_95 wX0_lookAround_108 wX0_lookAround_133 at this
              rw [l7, l101, l102] at this
              exact this
          · have e1 : a % n + f = a % n ∧ a / n + g = a / n := by rw [← s2, ← s3, q3]; exact ⟨rfl, rfl⟩
            have r1 := al_sg (show mSg (x / n - a / n) = 0 by omega)
            have r2 := al_sg (show mSg (x % n - a % n) = 0 by omega)
            refine ⟨fun q4 => ?_, fun q4 => ?_, fun q4 => ?_⟩
            · unfold mNx at q4; omega
            · unfold mAl at q4; omega
            · unfold mPw at q4; omega
        · have ex := mSq hN hx
          have t1 := mSg_t (x / n - a / n)
          have t2 := mSg_t (x % n - a % n)
          refine ⟨fun q4 => ?_, fun q4 => ?_, fun q4 => ?_⟩
          · unfold mNx at q4; omega
          · unfold mAl at q4; omega
          · unfold mPw at q4; omega
  have outer : ∀ (j : Nat) (g : Int) (M' : gM), -1 ≤ g → g ≤ 2 → laI n o a g (-1) M M' → 2 - g < j → wX0_lookAround_2 kd ln post o a j g M' := by
    intro j
    induction j with
    | zero => intro g M' h1 h2 h3 h4; omega
    | succ j ih =>
      intro g M' h1 h2 h3 h4
      unfold wX0_lookAround_2
      refine ⟨by omega, fun q => ?_, fun q => ⟨4, inner _ g (by omega) (fun M'' q2 => ih (g + 1) M'' (by omega) (by omega) (laI_row q2) (by omega)) 4 (-1) M' (by omega) (by omega) h3 (by omega)⟩⟩
      have : g = 2 := by omega
      subst this
      exact h M' h3
  have nb0 : ∀ x, ¬ bf n a (-1) (-1) x := fun x q => by
    have t1 := mSg_c (x / n - a / n)
    have t2 := mSg_c (x % n - a % n)
    unfold bf at q
    omega
  have z64 : L64 0 = 0 := by decide
  obtain ⟨z1, z2, z3, z4, z5⟩ := hz
  unfold wX0_lookAround
  refine ⟨4, outer 4 (-1) M (by omega) (by omega) ⟨Ch.rf, fun _ _ _ _ => rfl, fun _ _ => rfl, ?_, ?_, ?_, ?_, fun y hy => ?_⟩ (by omega)⟩
  · rw [z1, z64]; exact sq_0 (fun x _ q => nb0 x q.2)
  · rw [z2, z64]; exact sq_0 (fun x _ q => nb0 x q.2)
  · rw [z3, z64]; exact sq_0 (fun x _ q => nb0 x q.2)
  · rw [z4, z64]; exact sq_0 (fun x _ q => nb0 x q.2)
  · rw [z5 y hy, z64]; exact sq_0 (fun x _ q => nb0 y q.2)
end BJ
