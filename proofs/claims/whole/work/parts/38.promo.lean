/-- the whole table of a material stands -/
def mFu (n m r : Int) (M : gM) : Prop := ∀ w b k t, mOn n w → mOn n b → mOn n k → (t = 0 ∨ t = 1) → (∀ e, mAtD n m e w b k t → mT n m r M w b k t = e + 1) ∧ ((∀ e, ¬ mAtD n m e w b k t) → mT n m r M w b k t = 0)
theorem mFu.fr {n m m' r : Int} {M M' : gM} (hN : mN n) (h : mFu n m r M) (f : lFr r m' M M') (hm : m ≠ m') : mFu n m r M' := by
  intro w b k t a1 a2 a3 a4
  have e := mKey_r hN a1 a2 a3 (show 0 ≤ t ∧ t ≤ 1 by omega)
  unfold mT
  rw [f.2 _ (by omega)]
  exact h w b k t a1 a2 a3 a4
theorem mFu.eq {n m r : Int} {M : gM} (h : mFu n m r M) {d : Nat} {w b k t : Int} (hw : mOn n w) (hb : mOn n b) (hk : mOn n k) (ht : t = 0 ∨ t = 1) : mT n m r M w b k t - 1 = d ↔ mAtD n m d w b k t := by
  obtain ⟨a1, a2⟩ := h w b k t hw hb hk ht
  constructor
  · intro q
    rcases Classical.em (∃ e, mAtD n m e w b k t) with ⟨e, g⟩ | g
    · have := a1 e g
      have : e = d := by omega
      rw [← this]; exact g
    · have := a2 (fun e q => g ⟨e, q⟩)
      omega
  · intro q
    have := a1 d q
    omega
theorem mFu.rg {n m r : Int} {M : gM} (h : mFu n m r M) {w b k t : Int} (hw : mOn n w) (hb : mOn n b) (hk : mOn n k) (ht : t = 0 ∨ t = 1) : 0 ≤ mT n m r M w b k t := by
  obtain ⟨a1, a2⟩ := h w b k t hw hb hk ht
  rcases Classical.em (∃ e, mAtD n m e w b k t) with ⟨e, g⟩ | g
  · have := a1 e g
    omega
  · have := a2 (fun e q => g ⟨e, q⟩)
    omega
def mPm (n : Int) (d : Nat) : mX := fun w b k t => mOn n w ∧ mOn n b ∧ mOn n k ∧ t = 0 ∧ mPr n 2 w b k ∧ (mAtD n 0 d w b (k + n) 1 ∨ mAtD n 1 d w b (k + n) 1)
theorem mRow {n k : Int} (hN : mN n) (hk : mOn n k) : k / n = n - 2 ↔ n * n - 2 * n ≤ k ∧ k < n * n - n := by
  rcases mN_cases hN with rfl | rfl | rfl | rfl | rfl <;> omega
section LF
variable {kd : gKd} {ln : gLn} {M M0 : gM} {r n w b k t : Int}
theorem sX7_promotions {post : gM → Prop} {d : Nat} {X P : mX} (hN : mN n) (hl : ln r 4 = 1572864) (hd : d + 1 ≤ 126) (hF0 : mFu n 0 r M0) (hF1 : mFu n 1 r M0) (hG : lG n 2 r (d + 1) X M0 P M) (h : ∀ M', lG n 2 r (d + 1) X M0 (fun w b k t => P w b k t ∨ mPm n d w b k t) M' → post M') : wX7_promotions kd ln post r ((d + 1 : Nat) : Int) M := by
  have hS := mSS hN
  have hn1 : 4 ≤ n ∧ n ≤ 8 := hN
  have hnn : n * n - n ≥ 12 ∧ n * n - 2 * n ≥ 8 := by
    rcases mN_cases hN with rfl | rfl | rfl | rfl | rfl <;> omega
  have l33 : ∀ (k2 : Int → gM → Prop) (k12 : Int → Int → gM → Prop) (w b : Int), mOn n w → mOn n b → (∀ M', lG n 2 r (d + 1) X M0 (fun w1 b1 k1 t1 => P w1 b1 k1 t1 ∨ (mPm n d w1 b1 k1 t1 ∧ sc w b (n * n) w1 b1 k1)) M' → k12 w (b + 1) M') → ∀ (j : Nat) (k : Int) (M : gM), n * n - 2 * n ≤ k → k ≤ n * n - n → lG n 2 r (d + 1) X M0 (fun w1 b1 k1 t1 => P w1 b1 k1 t1 ∨ (mPm n d w1 b1 k1 t1 ∧ sc w b k w1 b1 k1)) M → n * n - n - k < j → wX7_promotions_33 kd ln post r ((d + 1 : Nat) : Int) k2 k12 j w b k M := by
    intro k2 k12 w b hw hb hk12 j
    induction j with
    | zero => intro k M h1 h2 h3 h4; omega
    | succ j ih =>
      intro k M h1 h2 h3 h4
      have e1 := mSq hN hw
      have e2 := mSq hN hb
      unfold wX7_promotions_33 wX7_promotions_127 wX7_promotions_116
      rw [h3.rN.1, h3.rN.2]
      refine fun _ => fun _ => ⟨by omega, by omega, fun q => hk12 M (h3.sub ?_), fun q => ?_⟩
      · rintro w1 b1 k1 t1 (a | ⟨a1, a2⟩) _
        · exact Or.inl a
        · refine Or.inr ⟨a1, ?_⟩
          have := (mRow hN a1.2.2.1).mp a1.2.2.2.2.1.2.1
          omega
      · have hk : mOn n k := ⟨by omega, by omega⟩
        have hkn : mOn n (k + n) := ⟨by omega, by omega⟩
        have hrow : k / n = n - 2 := (mRow hN hk).mpr ⟨h1, by omega⟩
        obtain ⟨X', x1, x2, x3, x4⟩ := id h3
        have F0 := hF0.fr hN x4 (by decide)
        have F1 := hF1.fr hN x4 (by decide)
        have skip : ∀ M', lG n 2 r (d + 1) X M0 (fun w1 b1 k1 t1 => P w1 b1 k1 t1 ∨ (mPm n d w1 b1 k1 t1 ∧ sc w b k w1 b1 k1)) M' → (mPm n d w b k 0 → mAtD n 2 (d + 1) w b k 0 → False) → wX7_promotions_33 kd ln post r ((d + 1 : Nat) : Int) k2 k12 j w b (k + 1) M' := fun M' g q1 => by
          refine ih (k + 1) M' (by omega) (by omega) (g.sub ?_) (by omega)
          rintro w1 b1 k1 t1 (a | ⟨a1, a2⟩) a3
          · exact Or.inl a
          · refine Or.inr ⟨a1, ?_⟩
            by_cases q2 : w1 = w ∧ b1 = b ∧ k1 = k
            · obtain ⟨rfl, rfl, rfl⟩ := q2
              have := a1.2.2.2.1
              subst this
              exact (q1 a1 a3).elim
            · omega
        have took : ∀ M', lG n 2 r (d + 1) X M0 (fun w1 b1 k1 t1 => (P w1 b1 k1 t1 ∨ (mPm n d w1 b1 k1 t1 ∧ sc w b k w1 b1 k1)) ∨ (w1 = w ∧ b1 = b ∧ k1 = k ∧ t1 = 0)) M' → wX7_promotions_33 kd ln post r ((d + 1 : Nat) : Int) k2 k12 j w b (k + 1) M' := fun M' g => by
          refine ih (k + 1) M' (by omega) (by omega) (g.sub ?_) (by omega)
          rintro w1 b1 k1 t1 (a | ⟨a1, a2⟩) a3
          · exact Or.inl (Or.inl a)
          · by_cases q2 : w1 = w ∧ b1 = b ∧ k1 = k
            · exact Or.inr ⟨q2.1, q2.2.1, q2.2.2, a1.2.2.2.1⟩
            · exact Or.inl (Or.inr ⟨a1, by omega⟩)
        intro v16 ev
        subst ev
        refine ⟨by omega, by omega, fun q1 => skip M h3 (fun q2 _ => q2.2.2.2.2.1.2.2.1 q1), fun q1 => ⟨by omega, fun q2 => skip M h3 (fun q3 _ => q3.2.2.2.2.1.2.2.2 q2), fun q2 => ?_⟩⟩
        have hP : mPr n 2 w b k := ⟨rfl, hrow, q1, q2⟩
        have hd1 : (((d + 1 : Nat) : Int)) - 1 = (d : Int) := by omega
        rw [hd1]
        refine sX7_isOpen hN hl x3.1.1 x3.1.2 (by omega) hw hb hk (by omega) (fun q3 => ?_) (fun q3 => ?_)
        · have q4 := (x3.pos hw hb hk (Or.inl rfl)).mp q3.2
          have dec : (mAtD n 0 d w b (k + n) 1 ∨ mAtD n 1 d w b (k + n) 1) → wX7_decide kd ln (fun M35 => wX7_promotions_33 kd ln post r ((d + 1 : Nat) : Int) k2 k12 j w b (k + 1) M35) r 2 w b k 0 ((d + 1 : Nat) : Int) M := fun q5 => by
            have hA : mAtD n 2 (d + 1) w b k 0 := mAtD_w q3.1 q4.1 (Or.inr (Or.inr ⟨hP, q5⟩))
            refine sX7_decide hN hl (by omega) x3 hd hw hb hk (Or.inl rfl) hA (fun M' X'' a1 a2 a3 a4 => took M' ⟨X'', fun w b k t q => a1 _ _ _ _ (x1 _ _ _ _ q), ?_, a3, x4.tr a4⟩)
            rintro w' b' k' t' (q | ⟨rfl, rfl, rfl, rfl⟩) q2
            · exact a1 _ _ _ _ (x2 _ _ _ _ q q2)
            · exact a2
          refine fun _ => ⟨fun _ => ?_, fun q5 => absurd q5 (by decide)⟩
          have g0 := F0.rg hw hb hkn (Or.inr rfl)
          have g1 := F1.rg hw hb hkn (Or.inr rfl)
          unfold mT at g0 g1
          have f0 := F0.eq (d := d) hw hb hkn (Or.inr rfl)
          have f1 := F1.eq (d := d) hw hb hkn (Or.inr rfl)
          unfold mT at f0 f1
          refine sX7_distanceOf hN hl x3.1.2 (by omega) hw hb hkn (by omega) (by omega) fun _ => ⟨by omega, fun q5 => dec (Or.inl (f0.mp q5)), fun q5 => ?_⟩
          refine sX7_distanceOf hN hl x3.1.2 (by omega) hw hb hkn (by omega) (by omega) fun _ => ⟨fun q6 => skip M h3 (fun q7 _ => ?_), fun q6 => dec (Or.inr (f1.mp q6))⟩
          rcases q7.2.2.2.2.2 with q8 | q8
          · exact q5 (f0.mpr q8)
          · exact q6 (f1.mpr q8)
        · refine fun _ => ⟨fun q4 => absurd rfl q4, fun _ => ?_⟩
          refine took M ⟨X', x1, ?_, x3, x4⟩
          rintro w' b' k' t' (q | ⟨rfl, rfl, rfl, rfl⟩) q5
          · exact x2 _ _ _ _ q q5
          · apply Classical.byContradiction
            intro q6
            exact q3 ⟨mAtD_lg q5, (x3.pos hw hb hk (Or.inl rfl)).mpr ⟨mAtD_no q5, q6⟩⟩
  have l12 : ∀ (k2 : Int → gM → Prop) (w : Int), mOn n w → (∀ M', lG n 2 r (d + 1) X M0 (fun w1 b1 k1 t1 => P w1 b1 k1 t1 ∨ (mPm n d w1 b1 k1 t1 ∧ sc w (n * n) 0 w1 b1 k1)) M' → k2 (w + 1) M') → ∀ (j : Nat) (b : Int) (M : gM), 0 ≤ b → b ≤ n * n → lG n 2 r (d + 1) X M0 (fun w1 b1 k1 t1 => P w1 b1 k1 t1 ∨ (mPm n d w1 b1 k1 t1 ∧ sc w b 0 w1 b1 k1)) M → n * n - b < j → wX7_promotions_12 kd ln post r ((d + 1 : Nat) : Int) k2 j w b M := by
    intro k2 w hw hk2 j
    induction j with
    | zero => intro b M h1 h2 h3 h4; omega
    | succ j ih =>
      intro b M h1 h2 h3 h4
      unfold wX7_promotions_12
      rw [h3.rN.1, h3.rN.2]
      refine fun _ => ⟨by omega, fun q => ?_, fun q => ?_⟩
      · have : b = n * n := by omega
        subst this
        exact hk2 M h3
      · intro _ v9 ev
        subst ev
        refine ⟨(n * n).toNat + 1, l33 k2 _ w b hw ⟨h1, by omega⟩ (fun M' g => ih (b + 1) M' (by omega) (by omega) (g.sub ?_) (by omega)) _ _ M (by omega) (by omega) (h3.sub ?_) (by omega)⟩
        · rintro w1 b1 k1 t1 (a | ⟨a1, a2⟩) _
          · exact Or.inl a
          · exact Or.inr ⟨a1, by have := a1.2.2.1.1; have := a1.2.2.1.2; omega⟩
        · rintro w1 b1 k1 t1 (a | ⟨a1, a2⟩) _
          · exact Or.inl a
          · have := (mRow hN a1.2.2.1).mp a1.2.2.2.2.1.2.1
            exact Or.inr ⟨a1, by omega⟩
  have l2 : ∀ (j : Nat) (w : Int) (M : gM), 0 ≤ w → w ≤ n * n → lG n 2 r (d + 1) X M0 (fun w1 b1 k1 t1 => P w1 b1 k1 t1 ∨ (mPm n d w1 b1 k1 t1 ∧ sc w 0 0 w1 b1 k1)) M → n * n - w < j → wX7_promotions_2 kd ln post r ((d + 1 : Nat) : Int) j w M := by
    intro j
    induction j with
    | zero => intro b M h1 h2 h3 h4; omega
    | succ j ih =>
      intro w M h1 h2 h3 h4
      unfold wX7_promotions_2
      rw [h3.rN.2]
      refine fun _ => ⟨by omega, fun q => h M (h3.sub ?_), fun q => ⟨(n * n).toNat + 1, l12 _ w ⟨h1, by omega⟩ (fun M' g => ih (w + 1) M' (by omega) (by omega) (g.sub ?_) (by omega)) _ 0 M (by omega) (by omega) h3 (by omega)⟩⟩
      · rintro w1 b1 k1 t1 (a | a1) _
        · exact Or.inl a
        · exact Or.inr ⟨a1, by have := a1.1.2; omega⟩
      · rintro w1 b1 k1 t1 (a | ⟨a1, a2⟩) _
        · exact Or.inl a
        · exact Or.inr ⟨a1, by have := a1.2.1.1; have := a1.2.1.2; have := a1.2.2.1.1; omega⟩
  unfold wX7_promotions
  refine ⟨(n * n).toNat + 1, l2 _ 0 M (by omega) (by omega) (hG.sub ?_) (by omega)⟩
  rintro w1 b1 k1 t1 (a | ⟨a1, a2⟩) _
  · exact a
  · have := a1.1.1
    have := a1.2.1.1
    have := a1.2.2.1.1
    omega
end LF
