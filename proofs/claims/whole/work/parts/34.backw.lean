/-- how far a layer has come: all of P that belong to it are entered -/
def lG (n m r : Int) (d : Nat) (X : mX) (M0 : gM) (P : mX) (M : gM) : Prop := ∃ X' : mX, (∀ w b k t, X w b k t → X' w b k t) ∧ (∀ w b k t, P w b k t → mAtD n m d w b k t → X' w b k t) ∧ lSt n m r d X' M ∧ lFr r m M0 M
theorem lG.sub {n m r : Int} {d : Nat} {X : mX} {M0 M : gM} {P P' : mX} (h : lG n m r d X M0 P M) (hs : ∀ w b k t, P' w b k t → mAtD n m d w b k t → P w b k t) : lG n m r d X M0 P' M := by
  obtain ⟨X', h1, h2, h3, h4⟩ := h
  exact ⟨X', h1, fun w b k t q1 q2 => h2 w b k t (hs w b k t q1 q2) q2, h3, h4⟩
theorem lG.rN {n m r : Int} {d : Nat} {X : mX} {M0 M : gM} {P : mX} (h : lG n m r d X M0 P M) : rN n r M := by
  obtain ⟨X', h1, h2, h3, h4⟩ := h
  exact h3.1
theorem lG.at {n m r : Int} {d : Nat} {X : mX} {M0 M : gM} {P : mX} (h : lG n m r d X M0 P M) {w b k t : Int} (hp : P w b k t) : lG n m r d (fun w' b' k' t' => X w' b' k' t' ∨ (P w' b' k' t' ∧ mAtD n m d w' b' k' t')) M0 P M := by
  obtain ⟨X', h1, h2, h3, h4⟩ := h
  exact ⟨X', fun w b k t q => q.elim (h1 w b k t) (fun q => h2 w b k t q.1 q.2), h2, h3, h4⟩
section LB
variable {kd : gKd} {ln : gLn} {M M0 : gM} {r n m w b k t : Int}
theorem sX7_tryG {K : gM → Prop} {d : Nat} {X P : mX} (hN : mN n) (hl : ln r 4 = 1572864) (hm : 0 ≤ m ∧ m ≤ 2) (hd : d ≤ 126) (hw : mOn n w) (hb : mOn n b) (hk : mOn n k) (ht : t = 0 ∨ t = 1) (g : lG n m r d X M0 P M) (hA : mLg n m w b k t → ¬ mBl n m d w b k t → mAtD n m d w b k t) (h : ∀ M', lG n m r d X M0 (fun w' b' k' t' => P w' b' k' t' ∨ (w' = w ∧ b' = b ∧ k' = k ∧ t' = t)) M' → K M') : wX7_isOpen kd ln (fun c M1 => (rng c → ((c = 0 → K M1) ∧ (¬ (c = 0) → (wX7_decide kd ln (fun M2 => K M2) r m w b k t d M1))))) r m w b k t M := by
  obtain ⟨X', h1, h2, h3, h4⟩ := g
  refine sX7_try hN hl hm h3 hd hw hb hk ht hA (fun M' X'' a1 a2 a3 a4 => h M' ⟨X'', fun w b k t q => a1 _ _ _ _ (h1 _ _ _ _ q), ?_, a3, h4.tr a4⟩)
  rintro w' b' k' t' (q | ⟨rfl, rfl, rfl, rfl⟩) q2
  · exact a1 _ _ _ _ (h2 _ _ _ _ q q2)
  · exact a2 q2
abbrev bef (f g x y : Int) : Prop := x < f ∨ (x = f ∧ y < g)
/-- what has been gone back to, before the step (f, g) -/
def mBW (n m w b k f g : Int) : mX := fun w' b' k' t' => t' = 0 ∧ b' = b ∧ ((k' = k ∧ mOn n w' ∧ mNx n w w' ∧ bef f g (w' % n - w % n) (w' / n - w / n)) ∨ (w' = w ∧ m ≠ 2 ∧ mOn n k' ∧ mMn n m w b k' k ∧ bef f g (mSg (k' % n - k % n)) (mSg (k' / n - k / n))))
/-- back along a way -/
theorem sX7_bw_117 {post : gM → Prop} {k3 : Int → gM → Prop} {k12 : Int → Int → gM → Prop} {d : Nat} {X P : mX} {f g : Int} (hN : mN n) (hl : ln r 4 = 1572864) (hm : 0 ≤ m ∧ m ≤ 1) (hd : d + 1 ≤ 126) (hw : mOn n w) (hb : mOn n b) (hk : mOn n k) (hq : mAtD n m d w b k 1) (hf : f = -1 ∨ f = 0 ∨ f = 1) (hg : g = -1 ∨ g = 0 ∨ g = 1) (h0 : ¬ (f = 0 ∧ g = 0)) (hm1 : m = 1 → f = 0 ∨ g = 0) (h : ∀ M', lG n m r (d + 1) X M0 (fun w' b' k' t' => P w' b' k' t' ∨ (t' = 0 ∧ b' = b ∧ w' = w ∧ mOn n k' ∧ mMn n m w b k' k ∧ mSg (k' % n - k % n) = f ∧ mSg (k' / n - k / n) = g)) M' → k12 f (g + 1) M') :
    ∀ (j : Nat) (i a : Int) (M : gM), 1 ≤ i → i ≤ n → (a = -1 ∧ ¬ ((0 ≤ k % n + i * f ∧ k % n + i * f < n) ∧ (0 ≤ k / n + i * g ∧ k / n + i * g < n)) ∨ (mOn n a ∧ a % n = k % n + i * f ∧ a / n = k / n + i * g)) → (∀ y, y = w ∨ y = b → mAl n 0 k y → mSg (y % n - k % n) = f → mSg (y / n - k / n) = g → i ≤ mLn n k y) → lG n m r (d + 1) X M0 (fun w' b' k' t' => P w' b' k' t' ∨ (t' = 0 ∧ b' = b ∧ w' = w ∧ mOn n k' ∧ mMn n m w b k' k ∧ mSg (k' % n - k % n) = f ∧ mSg (k' / n - k / n) = g ∧ mLn n k k' < i)) M → n - i < j → wX7_backWhite_117 kd ln post r m w b k ((d + 1 : Nat) : Int) k3 k12 j f g a M := by
  have e1 := mSq hN hw
  have e2 := mSq hN hb
  have e3 := mSq hN hk
  have hL := mAtD_lg hq
  have hm2 : m ≠ 2 := by omega
  have al : ∀ x, mMn n m w b x k → mAl n 0 k x ∧ ¬ mBt n k w x ∧ ¬ mBt n k b x := fun x q => by
    rcases q with q | q
    · have q0 := mAl_01 q.2.1
      exact ⟨mAl_sym.mp q0, fun q3 => q.2.2.1 ((mBt_sym q0).mpr q3), fun q3 => q.2.2.2.1 ((mBt_sym q0).mpr q3)⟩
    · exact absurd q.1 hm2
  intro j
  induction j with
  | zero => intro i a M h1 h2 h3 h4 h5 h6; omega
  | succ j ih =>
    intro i a M h1 h2 h3 h4 h5 h6
    -- all is done where the way ends
    have stop : (∀ x, mOn n x → mLg n m w b x 0 → mMn n m w b x k → mSg (x % n - k % n) = f → mSg (x / n - k / n) = g → mLn n k x < i) → k12 f (g + 1) M := fun q => by
      refine h M (h5.sub ?_)
      rintro w' b' k' t' (q1 | ⟨q1, q2, q3, q4, q5, q6, q7⟩) q8
      · exact Or.inl q1
      · subst q1 q2 q3
        exact Or.inr ⟨rfl, rfl, rfl, q4, q5, q6, q7, q k' q4 (mAtD_lg q8) q5 q6 q7⟩
    unfold wX7_backWhite_117 wX7_backWhite_175
    rcases h3 with ⟨rfl, h3⟩ | ⟨ha, a1, a2⟩
    · refine ⟨by omega, fun _ => stop (fun x x1 x2 x3 x4 x5 => ?_), fun q => absurd rfl q⟩
      obtain ⟨y1, y2, y3⟩ := mLn_st (al x x3).1
      rw [x4] at y1
      rw [x5] at y2
      have e4 := mSq hN x1
      apply Classical.byContradiction
      intro q
      apply h3
      have l1 : (f = -1 ∧ x % n ≤ k % n + i * f) ∨ (f = 0 ∧ i * f = 0) ∨ (f = 1 ∧ k % n + i * f ≤ x % n) := by
        rcases hf with rfl | rfl | rfl <;> omega
      have l2 : (g = -1 ∧ x / n ≤ k / n + i * g) ∨ (g = 0 ∧ i * g = 0) ∨ (g = 1 ∧ k / n + i * g ≤ x / n) := by
        rcases hg with rfl | rfl | rfl <;> omega
      have l3 : (f = -1 ∧ k % n + i * f ≤ k % n) ∨ (f = 0) ∨ (f = 1 ∧ k % n ≤ k % n + i * f) := by
        rcases hf with rfl | rfl | rfl <;> omega
      have l4 : (g = -1 ∧ k / n + i * g ≤ k / n) ∨ (g = 0) ∨ (g = 1 ∧ k / n ≤ k / n + i * g) := by
        rcases hg with rfl | rfl | rfl <;> omega
      omega
    · have e4 := mSq hN ha
      have aw := mSq_iff hN ha hw
      have ab := mSq_iff hN ha hb
      obtain ⟨r1, r2, r3, r4⟩ := mLn_of hf hg h0 h1 a1 a2
      -- a blocks the way
      have block : ∀ y, (y = w ∨ y = b) → a = y → k12 f (g + 1) M := fun y hy ey => by
        subst ey
        refine stop (fun x x1 x2 x3 x4 x5 => ?_)
        obtain ⟨z1, z2, z3⟩ := al x x3
        apply Classical.byContradiction
        intro q
        rcases Int.lt_or_eq_of_le (show i ≤ mLn n k x by omega) with q1 | q1
        · have : mBt n k a x := (mBt_iff z1).mpr ⟨r1, by rw [r2, x4], by rw [r3, x5], by omega⟩
          rcases hy with hy | hy
          · rw [hy] at this; exact z2 this
          · rw [hy] at this; exact z3 this
        · obtain ⟨y1, y2, y3⟩ := mLn_st z1
          rw [x4, ← q1] at y1
          rw [x5, ← q1] at y2
          have : a = x := mSq_eq hN ha x1 (by omega) (by omega)
          rcases hy with hy | hy
          · exact x2.2.1 (hy.symm.trans this)
          · exact x2.2.2.1 (hy.symm.trans this)
      refine ⟨by omega, fun q => by omega, fun _ => ⟨by omega, fun q => block w (Or.inl rfl) q, fun q => ⟨by omega, fun q1 => block b (Or.inr rfl) q1, fun q1 => ?_⟩⟩⟩
      have hlt : i < n := by
        rcases hf with rfl | rfl | rfl <;> rcases hg with rfl | rfl | rfl <;> omega
      have hM : mMn n m w b a k := by
        refine mMn_sym hm2 (Or.inl ⟨hm2, ?_, fun q3 => ?_, fun q3 => ?_, q, q1⟩) ⟨fun q3 => hL.2.1 q3.symm, fun q3 => hL.2.2.1 q3.symm⟩
        · have hz : f = 0 ∨ g = 0 ∨ m ≠ 1 := by
            rcases Classical.em (m = 1) with q | q
            · have := hm1 q; omega
            · omega
          have := mAl_0.mp r1
          unfold mAl
          have t1 := mSg_t (a % n - k % n)
          have t2 := mSg_t (a / n - k / n)
          omega
        · obtain ⟨q4, q5, q6, q7⟩ := (mBt_iff r1).mp q3
          have := h4 w (Or.inl rfl) q4 (q5.trans r2) (q6.trans r3)
          omega
        · obtain ⟨q4, q5, q6, q7⟩ := (mBt_iff r1).mp q3
          have := h4 b (Or.inr rfl) q4 (q5.trans r2) (q6.trans r3)
          omega
      refine sX7_tryG (K := fun M2 => wX7_backWhite_160 kd ln post r m w b k ((d + 1 : Nat) : Int) k3 k12 (wX7_backWhite_117 kd ln post r m w b k ((d + 1 : Nat) : Int) k3 k12 j) f g a M2) hN hl (by omega) hd hw hb ha (Or.inl rfl) h5 (fun q2 q3 => mAtD_w q2 q3 (Or.inr (Or.inl ⟨k, hk, hM, hq⟩))) (fun M' g' => ?_)
      unfold wX7_backWhite_160
      have h5' : lG n m r (d + 1) X M0 (fun w' b' k' t' => P w' b' k' t' ∨ (t' = 0 ∧ b' = b ∧ w' = w ∧ mOn n k' ∧ mMn n m w b k' k ∧ mSg (k' % n - k % n) = f ∧ mSg (k' / n - k / n) = g ∧ mLn n k k' < i + 1)) M' := by
        refine g'.sub ?_
        rintro w' b' k' t' (q2 | ⟨q2, q3, q4, q5, q6, q7, q8, q9⟩) _
        · exact Or.inl (Or.inl q2)
        · rcases Int.lt_or_eq_of_le (show mLn n k k' ≤ i by omega) with q10 | q10
          · exact Or.inl (Or.inr ⟨q2, q3, q4, q5, q6, q7, q8, q10⟩)
          · obtain ⟨y1, y2, y3⟩ := mLn_st (al k' q6).1
            rw [q7, q10] at y1
            rw [q8, q10] at y2
            exact Or.inr ⟨q4, q3, mSq_eq hN q5 ha (by omega) (by omega), q2⟩
      have h4' : ∀ y, y = w ∨ y = b → mAl n 0 k y → mSg (y % n - k % n) = f → mSg (y / n - k / n) = g → i + 1 ≤ mLn n k y := by
        intro y y1 y2 y3 y4
        have y5 := h4 y y1 y2 y3 y4
        rcases Int.lt_or_eq_of_le y5 with q2 | q2
        · omega
        · exfalso
          obtain ⟨z1, z2, z3⟩ := mLn_st y2
          rw [y3, ← q2] at z1
          rw [y4, ← q2] at z2
          have yo : mOn n y := by rcases y1 with rfl | rfl <;> assumption
          have : a = y := mSq_eq hN ha yo (by omega) (by omega)
          rcases y1 with y1 | y1
          · exact q (this.trans y1)
          · exact q1 (this.trans y1)
      have ef : (i + 1) * f = i * f + f := by rw [Int.add_mul]; omega
      have eg : (i + 1) * g = i * g + g := by rw [Int.add_mul]; omega
      refine sX7_off hN g'.rN.1 ha (by omega) (by omega) (fun q2 => fun _ => ?_) (fun q2 => fun _ => ?_)
      · have e6 := mSq_of hN (f := a % n + f) (r := a / n + g) q2.1 q2.2
        exact ih (i + 1) _ M' (by omega) (by omega) (Or.inr ⟨e6.1, by rw [e6.2.1]; omega, by rw [e6.2.2]; omega⟩) h4' h5' (by omega)
      · exact ih (i + 1) _ M' (by omega) (by omega) (Or.inl ⟨rfl, fun q3 => q2 (by omega)⟩) h4' h5' (by omega)
end LB
