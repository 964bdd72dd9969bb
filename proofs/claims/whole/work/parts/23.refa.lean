section RA
variable {kd : gKd} {ln : gLn} {M : gM} {r n : Int}
theorem sX7_in {post : Int → gM → Prop} {a b c : Int} (h0 : rng a) (h1 : rng b) (h2 : rng c) (ht : b ≤ a ∧ a ≤ c → post 1 M) (hf : ¬ (b ≤ a ∧ a ≤ c) → post 0 M) : wX7_in kd ln post a b c M := by
  unfold wX7_in
  exact ⟨h0, h1, fun q => hf (by omega), fun q => ⟨h2, fun q' => hf (by omega), fun q' => ht (by omega)⟩⟩
theorem sX7_sign {post : Int → gM → Prop} {a : Int} (h0 : rng a) (h : post (mSg a) M) : wX7_sign kd ln post a M := by
  unfold wX7_sign
  refine ⟨h0, fun c1 => ⟨fun c2 => ?_, fun c2 => ?_⟩, fun c1 => ?_⟩
  · rwa [show mSg a = 0 by unfold mSg; omega] at h
  · rwa [show mSg a = -1 by unfold mSg; omega] at h
  · rwa [show mSg a = 1 by unfold mSg; omega] at h
theorem sX7_isNext {post : Int → gM → Prop} {a b : Int} (hN : mN n) (hn : M r 1 (-1) = n) (ha : mOn n a) (hb : mOn n b) (ht : mNx n a b → post 1 M) (hf : ¬ mNx n a b → post 0 M) : wX7_isNext kd ln post r a b M := by
  have e1 := mSq hN ha
  have e2 := mSq hN hb
  have e3 := mSq_iff hN ha hb
  unfold wX7_isNext
  rw [hn]
  unfold mNx at ht hf
  intro _
  refine ⟨by omega, by omega, ?_⟩
  rintro v5 rfl v8 rfl
  refine ⟨by omega, by omega, fun c => hf (by omega), fun c => ?_⟩
  refine sX7_in (by omega) (by omega) (by omega) (fun c1 => ?_) (fun c1 => ?_)
  · intro _
    refine ⟨fun q => by omega, fun _ => ?_⟩
    refine sX7_in (by omega) (by omega) (by omega) (fun c2 => ?_) (fun c2 => ?_)
    · exact fun _ => ⟨fun q => by omega, fun _ => ht (by omega)⟩
    · exact fun _ => ⟨fun q => hf (by omega), fun q => by omega⟩
  · exact fun _ => ⟨fun q => hf (by omega), fun q => by omega⟩
theorem sX7_off {post : Int → gM → Prop} {a f g : Int} (hN : mN n) (hn : M r 1 (-1) = n) (ha : mOn n a) (hf : -1 ≤ f ∧ f ≤ 1) (hg : -1 ≤ g ∧ g ≤ 1) (ht : (0 ≤ a % n + f ∧ a % n + f < n) ∧ (0 ≤ a / n + g ∧ a / n + g < n) → post (n * (a / n + g) + (a % n + f)) M) (hF : ¬ ((0 ≤ a % n + f ∧ a % n + f < n) ∧ (0 ≤ a / n + g ∧ a / n + g < n)) → post (-1) M) : wX7_off kd ln post r a f g M := by
  have e1 := mSq hN ha
  unfold wX7_off
  rw [hn]
  intro _
  refine ⟨by omega, ?_⟩
  rintro v3 rfl v5 rfl
  refine sX7_in (by omega) (by omega) (by omega) (fun c1 => ?_) (fun c1 => ?_)
  · intro _
    refine ⟨fun q => by omega, fun _ => ?_⟩
    rw [hn]
    intro _
    refine sX7_in (by omega) (by omega) (by omega) (fun c2 => ?_) (fun c2 => ?_)
    · intro _
      refine ⟨fun q => by omega, fun _ => ?_⟩
      rw [hn]
      intro _
      have e3 := (mSq_of hN (f := a % n + f) (r := a / n + g) (by omega) (by omega)).1
      have e4 := mSS hN
      exact ⟨by omega, ht (by omega)⟩
    · exact fun _ => ⟨fun q => hF (by omega), fun q => by omega⟩
  · exact fun _ => ⟨fun q => hF (by omega), fun q => by omega⟩
theorem sX7_att_loop {post : Int → gM → Prop} {m w b k x : Int} (hN : mN n) (hn : M r 1 (-1) = n) (hw : mOn n w) (hb : mOn n b) (hk : mOn n k) (hx : mOn n x) (hal : mAl n 0 k x) (ht : ¬ mBt n k w x → ¬ mBt n k b x → post 1 M) (hf : mBt n k w x ∨ mBt n k b x → post 0 M) :
    ∀ (j : Nat) (i a : Int), 1 ≤ i → i ≤ mLn n k x → mOn n a → a % n = k % n + i * mSg (x % n - k % n) → a / n = k / n + i * mSg (x / n - k / n) → (mBt n k w x → i ≤ mLn n k w) → (mBt n k b x → i ≤ mLn n k b) → mLn n k x - i < j → wX7_attacks_120 kd ln post r m w b k x j (x % n - k % n) (x / n - k / n) a M := by
  have e1 := mSq hN hw
  have e2 := mSq hN hb
  have e3 := mSq hN hk
  have e4 := mSq hN hx
  have s1 := mSg_c (x % n - k % n)
  have s2 := mSg_c (x / n - k / n)
  intro j
  induction j with
  | zero => intro i a h1 h2 ha h3 h4 h5 h6 h7; omega
  | succ j ih =>
    intro i a h1 h2 ha h3 h4 h5 h6 h7
    have e5 := mSq hN ha
    have xa := mSq_iff hN ha hx
    have wa := mSq_iff hN ha hw
    have ba := mSq_iff hN ha hb
    obtain ⟨sf, ef⟩ : ∃ sf, sf = mSg (x % n - k % n) := ⟨_, rfl⟩
    obtain ⟨sr, er⟩ : ∃ sr, sr = mSg (x / n - k / n) := ⟨_, rfl⟩
    have c0 := mSg_nz hal
    obtain ⟨l1, l2, l3⟩ := mLn_st hal
    rw [← ef, ← er] at c0
    rw [← ef] at h3 s1 l1
    rw [← er] at h4 s2 l2
    have hA := mLn_of s1 s2 c0 h1 h3 h4
    have btw : ∀ y : Int, mBt n k y x → i ≤ mLn n k y → ¬ (a % n = y % n ∧ a / n = y / n) → i + 1 ≤ mLn n k y := by
      intro y q1 q2 q3
      obtain ⟨q4, q5, q6, q7⟩ := (mBt_iff hal).mp q1
      obtain ⟨y1, y2, y3⟩ := mLn_st q4
      rw [q5, ← ef] at y1
      rw [q6, ← er] at y2
      rcases Int.lt_or_eq_of_le q2 with q | q
      · omega
      · exfalso
        rw [← q] at y1 y2
        exact q3 (by omega)
    have isb : i < mLn n k x → ∀ y : Int, (a % n = y % n ∧ a / n = y / n) → mBt n k y x := by
      intro q0 y q3
      have q4 := mLn_of (n := n) (k := k) (y := y) s1 s2 c0 h1 (by omega) (by omega)
      exact (mBt_iff hal).mpr ⟨q4.1, by rw [q4.2.1, ef], by rw [q4.2.2.1, er], by rw [q4.2.2.2]; exact q0⟩
    have lt : ¬ (a % n = x % n ∧ a / n = x / n) → i < mLn n k x := by
      intro q3
      rcases Int.lt_or_eq_of_le h2 with q | q
      · exact q
      · exfalso
        rw [← q] at l1 l2
        exact q3 (by omega)
    unfold wX7_attacks_120
    refine ⟨by omega, by omega, fun c => ?_, fun c => ⟨by omega, fun c1 => ?_, fun c1 => ⟨by omega, fun c2 => ?_, fun c2 => ?_⟩⟩⟩
    · subst c
      refine ht (fun q => ?_) (fun q => ?_)
      · have q5 := h5 q
        have q6 := ((mBt_iff hal).mp q).2.2.2
        omega
      · have q5 := h6 q
        have q6 := ((mBt_iff hal).mp q).2.2.2
        omega
    · exact hf (Or.inl (isb (lt (fun q => c (xa.mpr q))) w (wa.mp c1)))
    · have hlt := lt (fun q => c (xa.mpr q))
      refine sX7_sign (by omega) fun _ => ?_
      refine sX7_sign (by omega) fun _ => ?_
      rw [← ef, ← er]
      refine sX7_off hN hn ha (by omega) (by omega) (fun q => ?_) (fun q => ?_)
      · intro _
        have e6 := mSq_of hN (f := a % n + sf) (r := a / n + sr) q.1 q.2
        refine ih (i + 1) _ (by omega) (by omega) e6.1 ?_ ?_ ?_ ?_ (by omega)
        · rw [e6.2.1, h3, Int.add_mul, ← ef]; omega
        · rw [e6.2.2, h4, Int.add_mul, ← er]; omega
        · exact fun q1 => btw w q1 (h5 q1) (fun q2 => c1 (wa.mpr q2))
        · exact fun q1 => btw b q1 (h6 q1) (fun q2 => c2 (ba.mpr q2))
      · exfalso
        apply q
        have hr : (sf = 1 ∧ a % n + 1 ≤ x % n) ∨ (sf = 0) ∨ (sf = -1 ∧ x % n ≤ a % n - 1) := by
          rcases s1 with q | q | q <;> rw [q] at l1 h3 ⊢ <;> omega
        have hr2 : (sr = 1 ∧ a / n + 1 ≤ x / n) ∨ (sr = 0) ∨ (sr = -1 ∧ x / n ≤ a / n - 1) := by
          rcases s2 with q | q | q <;> rw [q] at l2 h4 ⊢ <;> omega
        omega
    · exact hf (Or.inr (isb (lt (fun q => c (xa.mpr q))) b (ba.mp c2)))
end RA
