section RB
variable {kd : gKd} {ln : gLn} {M : gM} {r n : Int}
theorem sX7_att_go {post : Int → gM → Prop} {m w b k x : Int} (hN : mN n) (hn : M r 1 (-1) = n) (hw : mOn n w) (hb : mOn n b) (hk : mOn n k) (hx : mOn n x) (hal : mAl n 0 k x) (ht : ¬ mBt n k w x → ¬ mBt n k b x → post 1 M) (hf : mBt n k w x ∨ mBt n k b x → post 0 M) : wX7_attacks_102 kd ln post r m w b k x (x % n - k % n) (x / n - k / n) M := by
  have e3 := mSq hN hk
  have e4 := mSq hN hx
  have s1 := mSg_c (x % n - k % n)
  have s2 := mSg_c (x / n - k / n)
  have l3 := (mLn_st hal).2.2
  unfold wX7_attacks_102
  refine sX7_sign (by omega) fun _ => ?_
  refine sX7_sign (by omega) fun _ => ?_
  refine sX7_off hN hn hk (by omega) (by omega) (fun q => ?_) (fun q => ?_)
  · intro _
    have e6 := mSq_of hN (f := k % n + mSg (x % n - k % n)) (r := k / n + mSg (x / n - k / n)) q.1 q.2
    refine ⟨(mLn n k x).toNat + 1, sX7_att_loop hN hn hw hb hk hx hal ht hf _ 1 _ (by omega) ?_ e6.1 ?_ ?_ ?_ ?_ ?_⟩
    · exact l3
    · rw [e6.2.1]; omega
    · rw [e6.2.2]; omega
    · exact fun q1 => (mLn_st q1.1).2.2
    · exact fun q1 => (mLn_st q1.1).2.2
    · omega
  · exfalso
    apply q
    unfold mSg
    omega
theorem sX7_attacks {post : Int → gM → Prop} {m w b k x : Int} (hN : mN n) (hn : M r 1 (-1) = n) (hm : 0 ≤ m ∧ m ≤ 2) (hw : mOn n w) (hb : mOn n b) (hk : mOn n k) (hx : mOn n x) (ht : mAt n m w b k x → post 1 M) (hf : ¬ mAt n m w b k x → post 0 M) : wX7_attacks kd ln post r m w b k x M := by
  have e3 := mSq hN hk
  have e4 := mSq hN hx
  have xk := mSq_iff hN hx hk
  have go : m ≠ 2 → mAl n m k x → wX7_attacks_102 kd ln post r m w b k x (x % n - k % n) (x / n - k / n) M := fun h2 hal => by
    refine sX7_att_go hN hn hw hb hk hx (mAl_01 hal) (fun q1 q2 => ht (Or.inr ⟨h2, hal, q1, q2⟩)) (fun q => hf ?_)
    rintro (h | h)
    · exact h2 h.1
    · rcases q with q | q
      · exact h.2.2.1 q
      · exact h.2.2.2 q
  have nal : m ≠ 2 → ¬ mAl n m k x → post 0 M := fun h2 hal => hf (by
    rintro (h | h)
    · exact h2 h.1
    · exact hal h.2.1)
  have npw : m = 2 → ¬ mPw n k x → post 0 M := fun h2 hal => hf (by
    rintro (h | h)
    · exact hal h.2
    · exact h.1 h2)
  unfold wX7_attacks
  rw [hn]
  intro _
  refine ⟨by omega, by omega, ?_⟩
  rintro v5 rfl v8 rfl
  refine ⟨by omega, fun c => ⟨by omega, by omega, fun c1 => nal c (by unfold mAl; omega), fun c1 => ⟨by omega, fun c2 => go c (by unfold mAl; omega), fun c2 => ⟨by omega, fun c3 => go c (by unfold mAl; omega), fun c3 => ⟨fun c4 => nal c (by unfold mAl; omega), fun c4 => ⟨fun c5 => go c (by unfold mAl; omega), fun c5 => ⟨by omega, fun c6 => go c (by unfold mAl; omega), fun c6 => nal c (by unfold mAl; omega)⟩⟩⟩⟩⟩⟩, fun c => ⟨by omega, fun c1 => npw c (by unfold mPw; omega), fun c1 => ⟨by omega, fun c2 => ht (Or.inl ⟨c, by unfold mPw; omega⟩), fun c2 => ⟨fun c3 => npw c (by unfold mPw; omega), fun c3 => ht (Or.inl ⟨c, by unfold mPw; omega⟩)⟩⟩⟩⟩
theorem sX7_legal {post : Int → gM → Prop} {m w b k t : Int} (hN : mN n) (hn : M r 1 (-1) = n) (hm : 0 ≤ m ∧ m ≤ 2) (hw : mOn n w) (hb : mOn n b) (hk : mOn n k) (ht' : 0 ≤ t ∧ t ≤ 1) (ht : mLg n m w b k t → post 1 M) (hf : ¬ mLg n m w b k t → post 0 M) : wX7_legal kd ln post r m w b k t M := by
  have e1 := mSq hN hw
  have e2 := mSq hN hb
  have e3 := mSq hN hk
  have last : w ≠ b → w ≠ k → b ≠ k → ¬ mNx n w b → (m = 2 → 1 ≤ k / n ∧ k / n ≤ n - 2) → wX7_legal_55 kd ln post r m w b k t M := fun h1 h2 h3 h4 h5 => by
    unfold wX7_legal_55 wX7_legal_74
    refine ⟨by omega, fun c => ht ⟨h1, h2, h3, h4, h5, Or.inl c⟩, fun c => ?_⟩
    refine sX7_attacks hN hn hm hw hb hk hb (fun q => ?_) (fun q => ?_)
    · refine fun _ => ⟨fun _ => hf (fun q2 => ?_), fun c => by omega⟩
      rcases q2.2.2.2.2.2 with q3 | q3
      · exact c q3
      · exact q3 (mSt_At.mp q)
    · exact fun _ => ⟨fun c => by omega, fun _ => ht ⟨h1, h2, h3, h4, h5, Or.inr (fun q2 => q (mSt_At.mpr q2))⟩⟩
  unfold wX7_legal
  refine ⟨by omega, by omega, fun c => hf (fun q => q.1 c), fun c => ⟨by omega, fun c1 => hf (fun q => q.2.1 c1), fun c1 => ⟨fun c2 => hf (fun q => q.2.2.1 c2), fun c2 => ?_⟩⟩⟩
  refine sX7_isNext hN hn hw hb (fun q => ?_) (fun q => ?_)
  · exact fun _ => ⟨fun c => by omega, fun _ => hf (fun q2 => q2.2.2.2.1 q)⟩
  · refine fun _ => ⟨fun _ => ⟨by omega, fun c3 => last c c1 c2 q (fun c4 => absurd c4 c3), fun c3 => ?_⟩, fun c => by omega⟩
    rw [hn]
    refine fun _ => ⟨by omega, ?_⟩
    refine sX7_in (by omega) (by omega) (by omega) (fun c4 => ?_) (fun c4 => ?_)
    · exact fun _ => ⟨fun _ => last c c1 c2 q (fun _ => c4), fun c => by omega⟩
    · exact fun _ => ⟨fun c => by omega, fun _ => hf (fun q2 => c4 (q2.2.2.2.2.1 c3))⟩
/-- the number of a position -/
def mKey (n w b k t : Int) : Int := 2 * ((w * (n * n) + b) * (n * n) + k) + t
theorem mKey_r {n w b k t : Int} (hN : mN n) (hw : mOn n w) (hb : mOn n b) (hk : mOn n k) (ht : 0 ≤ t ∧ t ≤ 1) : 0 ≤ mKey n w b k t ∧ mKey n w b k t < 524288 := by
  unfold mKey
  rcases mN_cases hN with rfl | rfl | rfl | rfl | rfl <;> omega
theorem mKey_inj {n w b k t w' b' k' t' : Int} (hN : mN n) (hw : mOn n w) (hb : mOn n b) (hk : mOn n k) (ht : 0 ≤ t ∧ t ≤ 1) (hw' : mOn n w') (hb' : mOn n b') (hk' : mOn n k') (ht' : 0 ≤ t' ∧ t' ≤ 1) (e : mKey n w b k t = mKey n w' b' k' t') : w = w' ∧ b = b' ∧ k = k' ∧ t = t' := by
  unfold mKey at e
  rcases mN_cases hN with rfl | rfl | rfl | rfl | rfl <;> omega
theorem sX7_key {post : Int → gM → Prop} {w b k t : Int} (hN : mN n) (hs : M r 2 (-1) = n * n) (hw : mOn n w) (hb : mOn n b) (hk : mOn n k) (ht : 0 ≤ t ∧ t ≤ 1) (h : post (mKey n w b k t) M) : wX7_key kd ln post r w b k t M := by
  have e := mKey_r hN hw hb hk ht
  unfold wX7_key
  rw [hs]
  unfold mKey at *
  exact fun _ => ⟨by omega, h⟩
theorem sX7_areNumbers {post : Int → gM → Prop} {m w b k t : Int} (hN : mN n) (hs : M r 2 (-1) = n * n) (hm : rng m) (hw : rng w) (hb : rng b) (hk : rng k) (ht' : rng t) (ht : (0 ≤ m ∧ m ≤ 2) ∧ mOn n w ∧ mOn n b ∧ mOn n k ∧ (0 ≤ t ∧ t ≤ 1) → post 1 M) (hf : ¬ ((0 ≤ m ∧ m ≤ 2) ∧ mOn n w ∧ mOn n b ∧ mOn n k ∧ (0 ≤ t ∧ t ≤ 1)) → post 0 M) : wX7_areNumbers kd ln post r m w b k t M := by
  have e4 := mSS hN
  unfold mOn at ht hf
  unfold wX7_areNumbers
  refine sX7_in (by omega) (by omega) (by omega) (fun c1 => ?_) (fun c1 => fun _ => ⟨fun _ => hf (by omega), fun q => by omega⟩)
  refine fun _ => ⟨fun q => by omega, fun _ => ?_⟩
  rw [hs]
  refine fun _ => ?_
  refine sX7_in (by omega) (by omega) (by omega) (fun c2 => ?_) (fun c2 => fun _ => ⟨fun _ => hf (by omega), fun q => by omega⟩)
  refine fun _ => ⟨fun q => by omega, fun _ => ?_⟩
  rw [hs]
  refine fun _ => ?_
  refine sX7_in (by omega) (by omega) (by omega) (fun c3 => ?_) (fun c3 => fun _ => ⟨fun _ => hf (by omega), fun q => by omega⟩)
  refine fun _ => ⟨fun q => by omega, fun _ => ?_⟩
  rw [hs]
  refine fun _ => ?_
  refine sX7_in (by omega) (by omega) (by omega) (fun c4 => ?_) (fun c4 => fun _ => ⟨fun _ => hf (by omega), fun q => by omega⟩)
  refine fun _ => ⟨fun q => by omega, fun _ => ?_⟩
  refine sX7_in (by omega) (by omega) (by omega) (fun c5 => ?_) (fun c5 => fun _ => ⟨fun _ => hf (by omega), fun q => by omega⟩)
  exact fun _ => ⟨fun q => by omega, fun _ => ht (by omega)⟩
theorem sX7_distanceOf {post : Int → gM → Prop} {m w b k t : Int} (hN : mN n) (hl : ln r 4 = 1572864) (hs : M r 2 (-1) = n * n) (hm : 0 ≤ m ∧ m ≤ 2) (hw : mOn n w) (hb : mOn n b) (hk : mOn n k) (ht' : 0 ≤ t ∧ t ≤ 1) (hv : -2147483648 < M r 4 (524288 * m + mKey n w b k t)) (h : post (M r 4 (524288 * m + mKey n w b k t) - 1) M) : wX7_distanceOf kd ln post r m w b k t M := by
  have e := mKey_r hN hw hb hk ht'
  unfold wX7_distanceOf
  refine ⟨by omega, fun _ => ⟨by omega, ?_⟩, fun c => by omega⟩
  refine sX7_key hN hs hw hb hk ht' fun _ => ⟨by omega, fun c => ⟨by omega, h⟩⟩
theorem sX7_isOpen {post : Int → gM → Prop} {m w b k t : Int} (hN : mN n) (hl : ln r 4 = 1572864) (hn : M r 1 (-1) = n) (hs : M r 2 (-1) = n * n) (hm : 0 ≤ m ∧ m ≤ 2) (hw : mOn n w) (hb : mOn n b) (hk : mOn n k) (ht' : 0 ≤ t ∧ t ≤ 1) (ht : mLg n m w b k t ∧ M r 4 (524288 * m + mKey n w b k t) = 0 → post 1 M) (hf : ¬ (mLg n m w b k t ∧ M r 4 (524288 * m + mKey n w b k t) = 0) → post 0 M) : wX7_isOpen kd ln post r m w b k t M := by
  have e := mKey_r hN hw hb hk ht'
  unfold wX7_isOpen
  refine sX7_legal hN hn hm hw hb hk ht' (fun q => ?_) (fun q => fun _ => ⟨fun _ => hf (fun q2 => q q2.1), fun q => by omega⟩)
  refine fun _ => ⟨fun q => by omega, fun _ => ⟨by omega, ?_⟩⟩
  exact sX7_key hN hs hw hb hk ht' fun _ => ⟨by omega, fun _ => ⟨fun c => hf (fun q2 => c q2.2), fun c => ht ⟨q, c⟩⟩⟩
end RB
