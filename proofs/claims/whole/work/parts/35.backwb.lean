theorem mDn {n k : Int} (hN : mN n) (hk : mOn n k) : (0 ≤ k - n ↔ 1 ≤ k / n) ∧ (0 ≤ k - n → mOn n (k - n) ∧ (k - n) / n = k / n - 1) ∧ (k / n = 3 → mOn n (k - n - n) ∧ (k - n - n) / n = 1) := by
  rcases mN_cases hN with rfl | rfl | rfl | rfl | rfl <;> omega
theorem mDn2 {n k x : Int} (hN : mN n) (hx : mOn n x) (h : k = x + n + n) (h1 : x / n = 1) : k / n = 3 := by
  subst h
  rcases mN_cases hN with rfl | rfl | rfl | rfl | rfl <;> omega
section LC
variable {kd : gKd} {ln : gLn} {M M0 : gM} {r n m w b k t : Int}
theorem mBW_step {f g y : Int} (hN : mN n) (hm : m ≠ 2 → (m = 1 → f = 0 ∨ g = 0) ∧ ¬ (f = 0 ∧ g = 0) → True) (hy : ∀ a, mOn n a → mNx n w a → a % n - w % n = f → a / n - w / n = g → a = y) {w' b' k' t' : Int} (h : mBW n m w b k f (g + 1) w' b' k' t') : (mBW n m w b k f g w' b' k' t' ∨ (mOn n w' ∧ w' = y ∧ b' = b ∧ k' = k ∧ t' = 0)) ∨ (t' = 0 ∧ b' = b ∧ w' = w ∧ m ≠ 2 ∧ mOn n k' ∧ mMn n m w b k' k ∧ mSg (k' % n - k % n) = f ∧ mSg (k' / n - k / n) = g) := by
  obtain ⟨h1, h2, ⟨h3, h4, h5, h6⟩ | ⟨h3, h4, h5, h6, h7⟩⟩ := h
  · by_cases q : w' % n - w % n = f ∧ w' / n - w / n = g
    · exact Or.inl (Or.inr ⟨h4, hy w' h4 h5 q.1 q.2, h2, h3, h1⟩)
    · exact Or.inl (Or.inl ⟨h1, h2, Or.inl ⟨h3, h4, h5, by omega⟩⟩)
  · by_cases q : mSg (k' % n - k % n) = f ∧ mSg (k' / n - k / n) = g
    · exact Or.inr ⟨h1, h2, h3, h4, h5, h6, q.1, q.2⟩
    · exact Or.inl (Or.inl ⟨h1, h2, Or.inr ⟨h3, h4, h5, h6, by omega⟩⟩)
theorem mMn_al {x : Int} (hm : m ≠ 2) (q : mMn n m w b x k) : mAl n m k x := by
  rcases q with q | q
  · exact mAl_sym.mp q.2.1
  · exact absurd q.1 hm
theorem sX7_tryQ {K : gM → Prop} {Q : Int → gM → Prop} {d : Nat} {X P : mX} (hN : mN n) (hl : ln r 4 = 1572864) (hm : 0 ≤ m ∧ m ≤ 2) (hd : d ≤ 126) (hw : mOn n w) (hb : mOn n b) (hk : mOn n k) (ht : t = 0 ∨ t = 1) (g : lG n m r d X M0 P M) (hA : mLg n m w b k t → ¬ mBl n m d w b k t → mAtD n m d w b k t) (h : ∀ M', lG n m r d X M0 (fun w' b' k' t' => P w' b' k' t' ∨ (w' = w ∧ b' = b ∧ k' = k ∧ t' = t)) M' → K M') (hs : K M → Q 0 M) (hc : wX7_decide kd ln K r m w b k t d M → Q 1 M) : wX7_isOpen kd ln Q r m w b k t M := by
  obtain ⟨X', h1, h2, h3, h4⟩ := g
  refine sX7_isOpen hN hl h3.1.1 h3.1.2 hm hw hb hk (by omega) (fun q => ?_) (fun q => ?_)
  · have q2 := (h3.pos hw hb hk ht).mp q.2
    refine hc (sX7_decide hN hl hm h3 hd hw hb hk ht (hA q.1 q2.1) (fun M' X'' a1 a2 a3 a4 => h M' ⟨X'', fun w b k t q => a1 _ _ _ _ (h1 _ _ _ _ q), ?_, a3, h4.tr a4⟩))
    rintro w' b' k' t' (q | ⟨rfl, rfl, rfl, rfl⟩) q2
    · exact a1 _ _ _ _ (h2 _ _ _ _ q q2)
    · exact a2
  · refine hs (h M ⟨X', h1, ?_, h3, h4⟩)
    rintro w' b' k' t' (q1 | ⟨rfl, rfl, rfl, rfl⟩) q2
    · exact h2 _ _ _ _ q1 q2
    · apply Classical.byContradiction
      intro q3
      exact q ⟨mAtD_lg q2, (h3.pos hw hb hk ht).mpr ⟨mAtD_no q2, q3⟩⟩
/-- one step: White's king, then the man -/
theorem sX7_bw_41 {post : gM → Prop} {k3 : Int → gM → Prop} {k12 : Int → Int → gM → Prop} {d : Nat} {X : mX} {f g y : Int} (hN : mN n) (hl : ln r 4 = 1572864) (hm : 0 ≤ m ∧ m ≤ 2) (hd : d + 1 ≤ 126) (hw : mOn n w) (hb : mOn n b) (hk : mOn n k) (hq : mAtD n m d w b k 1) (hf : f = -1 ∨ f = 0 ∨ f = 1) (hg : g = -1 ∨ g = 0 ∨ g = 1) (hy : (y = -1 ∧ ∀ a, mOn n a → mNx n w a → a % n - w % n = f → a / n - w / n = g → False) ∨ (mOn n y ∧ y % n - w % n = f ∧ y / n - w / n = g ∧ ¬ (f = 0 ∧ g = 0))) (hG : lG n m r (d + 1) X M0 (mBW n m w b k f g) M) (h : ∀ M', lG n m r (d + 1) X M0 (mBW n m w b k f (g + 1)) M' → k12 f (g + 1) M') : wX7_backWhite_41 kd ln post r m w b k ((d + 1 : Nat) : Int) k3 k12 f g y M := by
  have e1 := mSq hN hw
  have e3 := mSq hN hk
  have hL := mAtD_lg hq
  have hyu : ∀ a, mOn n a → mNx n w a → a % n - w % n = f → a / n - w / n = g → a = y := fun a a1 a2 a3 a4 => by
    rcases hy with ⟨_, hy⟩ | ⟨hy, y1, y2, _⟩
    · exact (hy a a1 a2 a3 a4).elim
    · exact mSq_eq hN a1 hy (by omega) (by omega)
  -- behind the king
  have t76 : ∀ M', lG n m r (d + 1) X M0 (fun w' b' k' t' => mBW n m w b k f g w' b' k' t' ∨ (mOn n w' ∧ w' = y ∧ b' = b ∧ k' = k ∧ t' = 0)) M' → wX7_backWhite_76 kd ln post r m w b k ((d + 1 : Nat) : Int) k3 k12 f g M' := fun M' hG' => by
    have none : (m ≠ 2 → ∀ x, mMn n m w b x k → mSg (x % n - k % n) = f → mSg (x / n - k / n) = g → False) → k12 f (g + 1) M' := fun q => by
      refine h M' (hG'.sub (fun w' b' k' t' q1 q2 => ?_))
      rcases mBW_step hN (fun _ _ => trivial) hyu q1 with q3 | ⟨q3, q4, q5, q6, q7, q8, q9, q10⟩
      · exact q3
      · exact (q q6 k' q8 q9 q10).elim
    have go : m ≠ 2 → ¬ (f = 0 ∧ g = 0) → (m = 1 → f = 0 ∨ g = 0) → wX7_backWhite_105 kd ln post r m w b k ((d + 1 : Nat) : Int) k3 k12 f g M' := fun q0 q1 q2 => by
      unfold wX7_backWhite_105
      have fin : ∀ M'', lG n m r (d + 1) X M0 (fun w' b' k' t' => (mBW n m w b k f g w' b' k' t' ∨ (mOn n w' ∧ w' = y ∧ b' = b ∧ k' = k ∧ t' = 0)) ∨ (t' = 0 ∧ b' = b ∧ w' = w ∧ mOn n k' ∧ mMn n m w b k' k ∧ mSg (k' % n - k % n) = f ∧ mSg (k' / n - k / n) = g)) M'' → k12 f (g + 1) M'' := fun M'' q => by
        refine h M'' (q.sub (fun w' b' k' t' q1 q2 => ?_))
        rcases mBW_step hN (fun _ _ => trivial) hyu q1 with q3 | ⟨q3, q4, q5, q6, q7, q8, q9, q10⟩
        · exact Or.inl q3
        · exact Or.inr ⟨q3, q4, q5, q7, q8, q9, q10⟩
      have hG2 : lG n m r (d + 1) X M0 (fun w' b' k' t' => (mBW n m w b k f g w' b' k' t' ∨ (mOn n w' ∧ w' = y ∧ b' = b ∧ k' = k ∧ t' = 0)) ∨ (t' = 0 ∧ b' = b ∧ w' = w ∧ mOn n k' ∧ mMn n m w b k' k ∧ mSg (k' % n - k % n) = f ∧ mSg (k' / n - k / n) = g ∧ mLn n k k' < 1)) M' := by
        refine hG'.sub ?_
        rintro w' b' k' t' (q3 | ⟨_, _, _, _, q8, _, _, q9⟩) _
        · exact q3
        · exfalso
          have := (mLn_st (mAl_01 (mMn_al q0 q8))).2.2
          omega
      have h4 : ∀ y, y = w ∨ y = b → mAl n 0 k y → mSg (y % n - k % n) = f → mSg (y / n - k / n) = g → 1 ≤ mLn n k y := fun y _ q3 _ _ => (mLn_st q3).2.2
      refine sX7_off hN hG'.rN.1 hk (by omega) (by omega) (fun q3 => fun _ => ?_) (fun q3 => fun _ => ?_)
      · have e6 := mSq_of hN (f := k % n + f) (r := k / n + g) q3.1 q3.2
        exact ⟨n.toNat, sX7_bw_117 hN hl (by omega) hd hw hb hk hq hf hg q1 q2 fin _ 1 _ M' (by omega) (by omega) (Or.inr ⟨e6.1, by rw [e6.2.1]; omega, by rw [e6.2.2]; omega⟩) h4 hG2 (by omega)⟩
      · exact ⟨n.toNat, sX7_bw_117 hN hl (by omega) hd hw hb hk hq hf hg q1 q2 fin _ 1 _ M' (by omega) (by omega) (Or.inl ⟨rfl, fun q4 => q3 (by omega)⟩) h4 hG2 (by omega)⟩
    have t91 : m ≠ 2 → ¬ (f = 0 ∧ g = 0) → wX7_backWhite_91 kd ln post r m w b k ((d + 1 : Nat) : Int) k3 k12 f g M' := fun q0 q1 => by
      unfold wX7_backWhite_91 wX7_backWhite_175
      refine ⟨by omega, fun q2 => go q0 q1 (by omega), fun q2 => ⟨by omega, fun q3 => go q0 q1 (by omega), fun q3 => ⟨by omega, fun q4 => none (fun _ x x1 x2 x3 => ?_), fun q4 => go q0 q1 (by omega)⟩⟩⟩
      have q5 := mMn_al q0 x1
      unfold mAl at q5
      have t1 := mSg_t (x % n - k % n)
      have t2 := mSg_t (x / n - k / n)
      omega
    unfold wX7_backWhite_76 wX7_backWhite_175
    refine ⟨by omega, fun q => none (fun q1 => absurd (show m = 2 by omega) q1), fun q => ⟨by omega, fun q1 => t91 (by omega) (by omega), fun q1 => ⟨by omega, fun q2 => none (fun q0 x x1 x2 x3 => ?_), fun q2 => t91 (by omega) (by omega)⟩⟩⟩
    exact mSg_nz (mAl_01 (mMn_al q0 x1)) ⟨x2.trans q1, x3.trans q2⟩
  unfold wX7_backWhite_41
  rcases hy with ⟨rfl, hy⟩ | ⟨hy, y1, y2, y3⟩
  · refine ⟨by omega, fun _ => t76 M (hG.sub ?_), fun q => absurd rfl q⟩
    rintro w' b' k' t' (q | ⟨q0, q, _, _, _⟩) q2
    · exact q
    · have := q0.1
      omega
  · have e4 := mSq hN hy
    have hnx : mNx n w y := by unfold mNx; omega
    refine ⟨by omega, fun q => by omega, fun _ => ?_⟩
    exact sX7_tryG (K := fun M2 => wX7_backWhite_76 kd ln post r m w b k ((d + 1 : Nat) : Int) k3 k12 f g M2) hN hl hm hd hy hb hk (Or.inl rfl) hG (fun q2 q3 => mAtD_w q2 q3 (Or.inl ⟨w, hw, mWk_back hL hnx, hq⟩)) (fun M' g' => t76 M' (g'.sub (fun w' b' k' t' q1 _ => q1.imp id (fun q => q.2))))
theorem mBW_all {f : Int} {w' b' k' t' : Int} (h : mBW n m w b k (f + 1) (-1) w' b' k' t') : mBW n m w b k f 2 w' b' k' t' := by
  obtain ⟨h1, h2, ⟨h3, h4, h5, h6⟩ | ⟨h3, h4, h5, h6, h7⟩⟩ := h
  · refine ⟨h1, h2, Or.inl ⟨h3, h4, h5, ?_⟩⟩
    unfold mNx at h5
    omega
  · refine ⟨h1, h2, Or.inr ⟨h3, h4, h5, h6, ?_⟩⟩
    have t1 := mSg_c (k' % n - k % n)
    have t2 := mSg_c (k' / n - k / n)
    omega
theorem sX7_bw_12 {post : gM → Prop} {k3 : Int → gM → Prop} {d : Nat} {X : mX} {f : Int} (hN : mN n) (hl : ln r 4 = 1572864) (hm : 0 ≤ m ∧ m ≤ 2) (hd : d + 1 ≤ 126) (hw : mOn n w) (hb : mOn n b) (hk : mOn n k) (hq : mAtD n m d w b k 1) (hf : f = -1 ∨ f = 0 ∨ f = 1) (h : ∀ M', lG n m r (d + 1) X M0 (mBW n m w b k f 2) M' → k3 (f + 1) M') :
    ∀ (j : Nat) (g : Int) (M : gM), -1 ≤ g → g ≤ 2 → lG n m r (d + 1) X M0 (mBW n m w b k f g) M → 2 - g < j → wX7_backWhite_12 kd ln post r m w b k ((d + 1 : Nat) : Int) k3 j f g M := by
  have e1 := mSq hN hw
  intro j
  induction j with
  | zero => intro g M h1 h2 h3 h4; omega
  | succ j ih =>
    intro g M h1 h2 h3 h4
    have nxt : g ≤ 1 → ∀ M', lG n m r (d + 1) X M0 (mBW n m w b k f (g + 1)) M' → wX7_backWhite_12 kd ln post r m w b k ((d + 1 : Nat) : Int) k3 j f (g + 1) M' := fun q M' q1 => ih (g + 1) M' (by omega) (by omega) q1 (by omega)
    have go : g ≤ 1 → ¬ (f = 0 ∧ g = 0) → wX7_backWhite_32 kd ln post r m w b k ((d + 1 : Nat) : Int) k3 (wX7_backWhite_12 kd ln post r m w b k ((d + 1 : Nat) : Int) k3 j) f g M := fun q q0 => by
      unfold wX7_backWhite_32
      refine sX7_off hN h3.rN.1 hw (by omega) (by omega) (fun q1 => fun _ => ?_) (fun q1 => fun _ => ?_)
      · have e2 := mSq_of hN (f := w % n + f) (r := w / n + g) q1.1 q1.2
        exact sX7_bw_41 hN hl hm hd hw hb hk hq hf (by omega) (Or.inr ⟨e2.1, by omega, by omega, q0⟩) h3 (nxt q)
      · refine sX7_bw_41 hN hl hm hd hw hb hk hq hf (by omega) (Or.inl ⟨rfl, fun x hx _ q2 q3 => q1 ?_⟩) h3 (nxt q)
        have e3 := mSq hN hx
        omega
    unfold wX7_backWhite_12
    refine ⟨by omega, fun q => ?_, fun q => ⟨by omega, fun q1 => go (by omega) (by omega), fun q1 => ⟨fun q2 => go (by omega) (by omega), fun q2 => ?_⟩⟩⟩
    · have : g = 2 := by omega
      subst this
      exact h M h3
    · refine sX7_bw_41 hN hl hm hd hw hb hk hq hf (by omega) (Or.inl ⟨rfl, fun x hx q3 q4 q5 => ?_⟩) h3 (nxt (by omega))
      unfold mNx at q3
      omega
/-- what a position decided at d, Black to move, is come to from -/
def mBWa (n m w b k : Int) : mX := fun w' b' k' t' => t' = 0 ∧ b' = b ∧ ((k' = k ∧ mOn n w' ∧ mNx n w w') ∨ (w' = w ∧ mOn n k' ∧ mMn n m w b k' k))
theorem sX7_backWhite {post : gM → Prop} {d : Nat} {X : mX} (hN : mN n) (hl : ln r 4 = 1572864) (hm : 0 ≤ m ∧ m ≤ 2) (hd : d + 1 ≤ 126) (hw : mOn n w) (hb : mOn n b) (hk : mOn n k) (hq : mAtD n m d w b k 1) (hG : lG n m r (d + 1) X M0 (fun _ _ _ _ => False) M) (h : ∀ M', lG n m r (d + 1) X M0 (mBWa n m w b k) M' → post M') : wX7_backWhite kd ln post r m w b k ((d + 1 : Nat) : Int) M := by
  have e1 := mSq hN hw
  have e2 := mSq hN hb
  have e3 := mSq hN hk
  have hL := mAtD_lg hq
  have loop : ∀ (j : Nat) (f : Int) (M : gM), -1 ≤ f → f ≤ 2 → lG n m r (d + 1) X M0 (mBW n m w b k f (-1)) M → 2 - f < j → wX7_backWhite_3 kd ln post r m w b k ((d + 1 : Nat) : Int) j f M := by
    intro j
    induction j with
    | zero => intro f M h1 h2 h3 h4; omega
    | succ j ih =>
      intro f M h1 h2 h3 h4
      unfold wX7_backWhite_3
      refine ⟨by omega, fun q => ⟨by omega, fun q1 => ?_, fun q1 => ?_⟩, fun q => ⟨4, sX7_bw_12 hN hl hm hd hw hb hk hq (by omega) (fun M' q1 => ih (f + 1) M' (by omega) (by omega) (q1.sub (fun _ _ _ _ q2 _ => mBW_all q2)) (by omega)) 4 (-1) M (by omega) (by omega) h3 (by omega)⟩⟩
      · refine h M (h3.sub ?_)
        rintro w' b' k' t' ⟨a1, a2, ⟨a3, a4, a5⟩ | ⟨a3, a4, a5⟩⟩ _
        · refine ⟨a1, a2, Or.inl ⟨a3, a4, a5, ?_⟩⟩
          unfold mNx at a5
          omega
        · refine ⟨a1, a2, Or.inr ⟨a3, q1, a4, a5, ?_⟩⟩
          have t1 := mSg_c (k' % n - k % n)
          omega
      · subst q1
        obtain ⟨u1, u2, u3⟩ := mDn hN hk
        have hr := hL.2.2.2.2.1 rfl
        have g0 : lG n 2 r (d + 1) X M0 (fun w' b' k' t' => t' = 0 ∧ b' = b ∧ k' = k ∧ mOn n w' ∧ mNx n w w') M := h3.sub (by
          rintro w' b' k' t' ⟨a1, a2, a3, a4, a5⟩ _
          refine ⟨a1, a2, Or.inl ⟨a3, a4, a5, ?_⟩⟩
          unfold mNx at a5
          omega)
        have src : ∀ x, mOn n x → mMn n 2 w b x k → x ≠ w → x ≠ b → 0 ≤ k - n ∧ k - n ≠ w ∧ k - n ≠ b ∧ (x = k - n ∨ (x = k - n - n ∧ k / n = 3)) := fun x x1 x2 x3 x4 => by
          rcases x2 with x2 | x2
          · exact absurd rfl x2.1
          · obtain ⟨-, a1, a2, a3, a4, a5, a6⟩ := x2
            have e5 := mSq hN x1
            rcases a6 with a6 | ⟨a6, a7⟩
            · exact ⟨by omega, by omega, by omega, Or.inl (by omega)⟩
            · exact ⟨by omega, by omega, by omega, Or.inr ⟨by omega, mDn2 hN x1 a6 a7⟩⟩
        have fin : ∀ M', lG n 2 r (d + 1) X M0 (fun w' b' k' t' => (t' = 0 ∧ b' = b ∧ k' = k ∧ mOn n w' ∧ mNx n w w') ∨ (t' = 0 ∧ b' = b ∧ w' = w ∧ 0 ≤ k - n ∧ k - n ≠ w ∧ k - n ≠ b ∧ (k' = k - n ∨ (k' = k - n - n ∧ k / n = 3)))) M' → post M' := fun M' g' => by
          refine h M' (g'.sub ?_)
          rintro w' b' k' t' ⟨a1, a2, ⟨a3, a4, a5⟩ | ⟨a3, a4, a5⟩⟩ a6
          · exact Or.inl ⟨a1, a2, a3, a4, a5⟩
          · have a7 := mAtD_lg a6
            subst a3 a2
            exact Or.inr ⟨a1, rfl, rfl, src k' a4 a5 (fun e => a7.2.1 e.symm) (fun e => a7.2.2.1 e.symm)⟩
        have no : (k - n < 0 ∨ k - n = w ∨ k - n = b) → wX7_backWhite_222 kd ln post r 2 w b k ((d + 1 : Nat) : Int) (k - n) M := fun q2 => by
          unfold wX7_backWhite_222 wX7_backWhite_223
          refine ⟨by omega, fun _ => ?_, fun q3 => absurd rfl q3⟩
          unfold wX7_backWhite_255
          refine ⟨by omega, fun _ => fin M (g0.sub ?_), fun q3 => absurd rfl q3⟩
          rintro w' b' k' t' (a1 | ⟨_, _, _, a1, a2, a3, _⟩) _
          · exact a1
          · exfalso; omega
        rw [h3.rN.1]
        intro _ v6 ev
        subst ev
        refine ⟨by omega, fun q2 => no (Or.inl q2), fun q2 => ⟨by omega, fun q3 => no (Or.inr (Or.inl q3)), fun q3 => ⟨by omega, fun q4 => no (Or.inr (Or.inr q4)), fun q4 => ?_⟩⟩⟩
        obtain ⟨v1, v2⟩ := u2 (by omega)
        unfold wX7_backWhite_223
        refine ⟨by omega, fun q5 => absurd q5 (by decide), fun _ => ?_⟩
        have hM1 : mMn n 2 w b (k - n) k := Or.inr ⟨rfl, fun e => hL.2.1 (by omega), fun e => hL.2.2.1 (by omega), fun e => hL.2.1 e.symm, fun e => hL.2.2.1 e.symm, by omega, Or.inl (by omega)⟩
        refine sX7_tryG (K := fun M2 => wX7_backWhite_255 kd ln post r 2 w b k ((d + 1 : Nat) : Int) (k - n) 1 M2) hN hl (by omega) hd hw hb v1 (Or.inl rfl) g0 (fun q5 q6 => mAtD_w q5 q6 (Or.inr (Or.inl ⟨k, hk, hM1, hq⟩))) (fun M' g' => ?_)
        unfold wX7_backWhite_255
        rw [g'.rN.1]
        refine ⟨by omega, fun q5 => absurd q5 (by decide), fun _ => fun _ => ⟨by omega, by omega, fun q5 => fin M' (g'.sub ?_), fun q5 => ?_⟩⟩
        · rintro w' b' k' t' (a1 | ⟨a1, a2, a3, _, _, _, a4⟩) _
          · exact Or.inl a1
          · exact Or.inr ⟨a3, a2, a4.resolve_right (fun q6 => q5 q6.2), a1⟩
        · obtain ⟨v3, v4⟩ := u3 q5
          have hM2 : mMn n 2 w b (k - n - n) k := Or.inr ⟨rfl, by omega, by omega, fun e => hL.2.1 e.symm, fun e => hL.2.2.1 e.symm, by omega, Or.inr ⟨by omega, v4⟩⟩
          refine sX7_tryQ (K := post) hN hl (by omega) hd hw hb v3 (Or.inl rfl) g' (fun q5 q6 => mAtD_w q5 q6 (Or.inr (Or.inl ⟨k, hk, hM2, hq⟩))) (fun M' g'' => fin M' (g''.sub ?_)) (fun q6 => fun _ => ⟨fun _ => q6, fun q7 => absurd rfl q7⟩) (fun q6 => fun _ => ⟨fun q7 => absurd q7 (by decide), fun _ => fun _ => ?_⟩)
          · rintro w' b' k' t' (a1 | ⟨a1, a2, a3, _, _, _, a4⟩) _
            · exact Or.inl (Or.inl a1)
            · rcases a4 with a4 | a4
              · exact Or.inl (Or.inr ⟨a3, a2, a4, a1⟩)
              · exact Or.inr ⟨a3, a2, a4.1, a1⟩
          · rw [g'.rN.1]
            exact q6
  unfold wX7_backWhite
  refine ⟨4, loop 4 (-1) M (by omega) (by omega) (hG.sub ?_) (by omega)⟩
  rintro w' b' k' t' ⟨h1, h2, ⟨h3, h4, h5, h6⟩ | ⟨h3, h4, h5, h6, h7⟩⟩ _
  · unfold mNx at h5
    omega
  · have t1 := mSg_c (k' % n - k % n)
    have t2 := mSg_c (k' / n - k / n)
    omega
end LC
