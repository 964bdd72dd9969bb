section LD
variable {kd : gKd} {ln : gLn} {M M0 : gM} {r n m w b k t : Int}
theorem sX7_after {post : Int → gM → Prop} {i m' w' b' k' : Int} (hN : mN n) (hl : mLn7 ln r) (hl4 : ln r 4 = 1572864) (hs : M r 2 (-1) = n * n) (hi : 0 ≤ i ∧ i < 48) (e3 : M r 16 i = m') (e4 : M r 17 i = w') (e5 : M r 18 i = b') (e6 : M r 19 i = k') (ht : t = 0 ∨ t = 1) (h1 : m' = -1 → post (-1) M) (h2 : m' ≠ -1 → ((0 ≤ m' ∧ m' ≤ 2) ∧ mOn n w' ∧ mOn n b' ∧ mOn n k' ∧ -2147483648 < mT n m' r M w' b' k' (1 - t)) ∧ post (mT n m' r M w' b' k' (1 - t) - 1) M) : wX7_after kd ln post r i t M := by
  obtain ⟨l0, l1, l2, l3, l4, l5, l6⟩ := hl
  unfold wX7_after
  rw [l3, l4, l5, l6, e3, e4, e5, e6]
  refine ⟨by omega, by omega, fun _ => ⟨by omega, by omega, fun _ => ⟨by omega, by omega, fun _ => ⟨by omega, by omega, fun _ => ?_⟩⟩⟩⟩
  by_cases q : m' = -1
  · unfold wX7_distanceOf
    exact ⟨by omega, fun q1 => absurd q q1, fun _ => fun _ => h1 q⟩
  · obtain ⟨⟨a1, a2, a3, a4, a5⟩, a6⟩ := h2 q
    exact sX7_distanceOf hN hl4 hs a1 a2 a3 a4 (by omega) a5 (fun _ => a6)
theorem mV_black {x : Int} (hb : 0 ≤ b ∧ b < 64) (hx : 0 ≤ x ∧ x < 64) : mV m w b k 1 (mCd b x (-1)) 3 = (if x = k then -1 else m) ∧ mV m w b k 1 (mCd b x (-1)) 4 = w ∧ mV m w b k 1 (mCd b x (-1)) 5 = x ∧ mV m w b k 1 (mCd b x (-1)) 6 = (if x = k then -1 else k) := by
  obtain ⟨d1, d2, d3⟩ := mCd_d (q := -1) hb hx (by omega)
  simp [mV, d2]
theorem mvP_black {c : Int} : mvP n m w b k 1 c ↔ ∃ x, mOn n x ∧ mBk n m w b k x ∧ c = mCd b x (-1) := by
  unfold mvP mK mKs
  constructor
  · rintro (⟨x, h1, h2 | h2, h3⟩ | ⟨h, _⟩)
    · exact absurd h2.1 (by decide)
    · exact ⟨x, h1, h2.2, h3⟩
    · exact absurd h (by decide)
  · rintro ⟨x, h1, h2, h3⟩
    exact Or.inl ⟨x, h1, Or.inr ⟨rfl, h2⟩, h3⟩
theorem sX7_allDecided {post : Int → gM → Prop} {d : Nat} {X : mX} (hN : mN n) (hl : mLn7 ln r) (hl4 : ln r 4 = 1572864) (hm : 0 ≤ m ∧ m ≤ 2) (hs : lSt n m r d X M) (hX : ∀ w b k, ¬ X w b k 0) (hw : mOn n w) (hb : mOn n b) (hk : mOn n k) (hL : mLg n m w b k 1) (ht : ∀ M', Ch r mSl M M' → (∃ x, mOn n x ∧ mBk n m w b k x) → (∀ x, mOn n x → mBk n m w b k x → x ≠ k ∧ mBl n m d w x k 0) → post 1 M') (hf : ∀ M', Ch r mSl M M' → ¬ ((∃ x, mOn n x ∧ mBk n m w b k x) ∧ ∀ x, mOn n x → mBk n m w b k x → x ≠ k ∧ mBl n m d w x k 0) → post 0 M') : wX7_allDecided kd ln post r m w b k M := by
  have e2 := mSq hN hb
  have e3 := mSq hN hk
  unfold wX7_allDecided
  refine sX7_find hN hl hs.1 hm hw hb hk (Or.inr rfl) hL (fun M' cnt h1 h2 h3 => ?_)
  obtain ⟨hc, f, hin, hrow⟩ := h1
  have hs' := hs.ml h3
  have loop : ∀ (j i : Nat), i ≤ cnt → (∀ i', i' < i → ∀ x, mOn n x → f i' = mCd b x (-1) → x ≠ k ∧ mBl n m d w x k 0) → cnt - i < j → wX7_allDecided_13 kd ln post r m w b k j i M' := by
    intro j
    induction j with
    | zero => intro i h4 h5 h6; omega
    | succ j ih =>
      intro i h4 h5 h6
      unfold wX7_allDecided_13
      rw [hc]
      refine fun _ => ⟨by omega, fun q => ⟨fun q1 => hf M' h3 (fun q2 => ?_), fun q1 => ht M' h3 ?_ ?_⟩, fun q => ?_⟩
      · obtain ⟨⟨x, x1, x2⟩, _⟩ := q2
        obtain ⟨i', hi', _⟩ := (hin.2 _).mp (mvP_black.mpr ⟨x, x1, x2, rfl⟩)
        omega
      · obtain ⟨x, x1, x2, _⟩ := mvP_black.mp ((hin.2 (f 0)).mpr ⟨0, by omega, rfl⟩)
        exact ⟨x, x1, x2⟩
      · intro x x1 x2
        obtain ⟨i', hi', ei⟩ := (hin.2 _).mp (mvP_black.mpr ⟨x, x1, x2, rfl⟩)
        exact h5 i' (by omega) x x1 ei
      · have hi : i < cnt := by omega
        obtain ⟨x, x1, x2, x3⟩ := mvP_black.mp ((hin.2 (f i)).mpr ⟨i, hi, rfl⟩)
        have e4 := mSq hN x1
        obtain ⟨v3, v4, v5, v6⟩ := mV_black (m := m) (w := w) (k := k) (b := b) (x := x) (by omega) (by omega)
        have R := hrow i hi
        have r3 := R 3 (by omega)
        have r4 := R 4 (by omega)
        have r5 := R 5 (by omega)
        have r6 := R 6 (by omega)
        rw [x3] at r3 r4 r5 r6
        have uq : ∀ z, mOn n z → f i = mCd b z (-1) → z = x := fun z z1 z2 => by
          rw [x3] at z2
          unfold mCd at z2
          omega
        refine sX7_after hN hl hl4 hs'.1.2 (by omega) (r3.trans v3) (r4.trans v4) (r5.trans v5) (r6.trans v6) (Or.inr rfl) (fun q1 => fun _ => ⟨fun q2 => absurd rfl q2, fun _ => hf M' h3 (fun q2 => ?_)⟩) (fun q1 => ?_)
        · have := (q2.2 x x1 x2).1
          rw [if_neg this] at q1
          omega
        · have hxk : x ≠ k := fun e => q1 (if_pos e)
          rw [if_neg hxk, if_neg hxk]
          have rg := hs'.rg hw x1 hk (Or.inl rfl)
          rw [show (1 : Int) - 1 = 0 from rfl]
          refine ⟨⟨hm, hw, x1, hk, by omega⟩, fun _ => ⟨fun q2 => ?_, fun q2 => ?_⟩⟩
          · refine ih (i + 1) (by omega) (fun i' hi' z z1 z2 => ?_) (by omega)
            rcases Nat.lt_or_eq_of_le (Nat.lt_succ_iff.mp hi') with g | g
            · exact h5 i' g z z1 z2
            · rw [g] at z2
              rw [uq z z1 z2]
              refine ⟨hxk, Classical.byContradiction fun g2 => q2 ?_⟩
              have := (hs'.pos hw x1 hk (Or.inl rfl)).mpr ⟨g2, hX _ _ _⟩
              omega
          · refine hf M' h3 (fun q3 => ?_)
            have g := (q3.2 x x1 x2).2
            exact ((hs'.pos hw x1 hk (Or.inl rfl)).mp (by omega)).1 g
  exact ⟨cnt + 1, loop (cnt + 1) 0 (by omega) (fun i' h => absurd h (Nat.not_lt_zero i')) (by omega)⟩
/-- what a position decided at d, White to move, is come to from -/
def mBB (n w b k f g : Int) : mX := fun w' b' k' t' => t' = 1 ∧ w' = w ∧ k' = k ∧ mOn n b' ∧ mNx n b b' ∧ bef f g (b' % n - b % n) (b' / n - b / n)
theorem sX7_bb_41 {post : gM → Prop} {k3 : Int → gM → Prop} {k12 : Int → Int → gM → Prop} {d : Nat} {X : mX} {f g y : Int} (hN : mN n) (hl7 : mLn7 ln r) (hl : ln r 4 = 1572864) (hm : 0 ≤ m ∧ m ≤ 2) (hd : d + 1 ≤ 126) (hpar : (d + 1) % 2 = 0) (hw : mOn n w) (hb : mOn n b) (hk : mOn n k) (hq : mAtD n m d w b k 0) (hy : (y = -1 ∧ ∀ a, mOn n a → mNx n b a → a % n - b % n = f → a / n - b / n = g → False) ∨ (mOn n y ∧ y % n - b % n = f ∧ y / n - b / n = g ∧ mNx n b y)) (hG : lG n m r (d + 1) X M0 (mBB n w b k f g) M) (h : ∀ M', lG n m r (d + 1) X M0 (mBB n w b k f (g + 1)) M' → k12 f (g + 1) M') : wX7_backBlack_41 kd ln post r m w b k ((d + 1 : Nat) : Int) k3 k12 f g y M := by
  unfold wX7_backBlack_41 wX7_backBlack_89
  rcases hy with ⟨rfl, hy⟩ | ⟨hy, y1, y2, hnx⟩
  · refine ⟨by omega, fun _ => h M (hG.sub ?_), fun q => absurd rfl q⟩
    rintro w' b' k' t' ⟨a1, a2, a3, a4, a5, a6⟩ _
    refine ⟨a1, a2, a3, a4, a5, ?_⟩
    by_cases q : b' % n - b % n = f ∧ b' / n - b / n = g
    · exact (hy b' a4 a5 q.1 q.2).elim
    · omega
  · have e4 := mSq hN hy
    obtain ⟨X', g1, g2, g3, g4⟩ := hG
    have hX0 : ∀ w b k, ¬ X' w b k 0 := fun w b k q => by
      have := mAtD_par (g3.2.2.1 _ _ _ _ q)
      omega
    have fin : ∀ (M' : gM) (X'' : mX), (∀ w b k t, X' w b k t → X'' w b k t) → (mAtD n m (d + 1) w y k 1 → X'' w y k 1) → lSt n m r (d + 1) X'' M' → lFr r m M M' → k12 f (g + 1) M' := fun M' X'' a1 a2 a3 a4 => by
      refine h M' ⟨X'', fun w b k t q => a1 _ _ _ _ (g1 _ _ _ _ q), ?_, a3, g4.tr a4⟩
      rintro w' b' k' t' ⟨b1, b2, b3, b4, b5, b6⟩ b7
      by_cases q : b' % n - b % n = f ∧ b' / n - b / n = g
      · have : b' = y := mSq_eq hN b4 hy (by omega) (by omega)
        subst b1 b2 b3 this
        exact a2 b7
      · exact a1 _ _ _ _ (g2 _ _ _ _ ⟨b1, b2, b3, b4, b5, by omega⟩ b7)
    refine ⟨by omega, fun q => by omega, fun _ => ?_⟩
    refine sX7_isOpen hN hl g3.1.1 g3.1.2 hm hw hy hk (by omega) (fun q => ?_) (fun q => ?_)
    · refine fun _ => ⟨fun q1 => absurd q1 (by decide), fun _ => ?_⟩
      have q2 := (g3.pos hw hy hk (Or.inr rfl)).mp q.2
      refine sX7_allDecided hN hl7 hl hm g3 hX0 hw hy hk q.1 (fun M' c1 c2 c3 => ?_) (fun M' c1 c2 => ?_)
      · refine fun _ => ⟨fun q1 => absurd q1 (by decide), fun _ => ?_⟩
        have hA : mAtD n m (d + 1) w y k 1 := mAtD_b q.1 q2.1 c2 c3
        exact sX7_decide hN hl hm (g3.ml c1) hd hw hy hk (Or.inr rfl) hA (fun M'' X'' a1 a2 a3 a4 => fin M'' X'' a1 (fun _ => a2) a3 ((lFr.ml c1).tr a4))
      · refine fun _ => ⟨fun _ => fin M' X' (fun _ _ _ _ q => q) (fun q3 => ?_) (g3.ml c1) (lFr.ml c1), fun q1 => absurd rfl q1⟩
        obtain ⟨_, ⟨x, x1, x2, _⟩, a2⟩ := mAtD_b' q3
        exact absurd ⟨⟨x, x1, x2⟩, a2⟩ c2
    · refine fun _ => ⟨fun _ => fin M X' (fun _ _ _ _ q => q) (fun q1 => ?_) g3 lFr.rf, fun q1 => absurd rfl q1⟩
      apply Classical.byContradiction
      intro q2
      exact q ⟨mAtD_lg q1, (g3.pos hw hy hk (Or.inr rfl)).mpr ⟨mAtD_no q1, q2⟩⟩
theorem sX7_bb_12 {post : gM → Prop} {k3 : Int → gM → Prop} {d : Nat} {X : mX} {f : Int} (hN : mN n) (hl7 : mLn7 ln r) (hl : ln r 4 = 1572864) (hm : 0 ≤ m ∧ m ≤ 2) (hd : d + 1 ≤ 126) (hpar : (d + 1) % 2 = 0) (hw : mOn n w) (hb : mOn n b) (hk : mOn n k) (hq : mAtD n m d w b k 0) (hf : f = -1 ∨ f = 0 ∨ f = 1) (h : ∀ M', lG n m r (d + 1) X M0 (mBB n w b k f 2) M' → k3 (f + 1) M') :
    ∀ (j : Nat) (g : Int) (M : gM), -1 ≤ g → g ≤ 2 → lG n m r (d + 1) X M0 (mBB n w b k f g) M → 2 - g < j → wX7_backBlack_12 kd ln post r m w b k ((d + 1 : Nat) : Int) k3 j f g M := by
  have e1 := mSq hN hb
  intro j
  induction j with
  | zero => intro g M h1 h2 h3 h4; omega
  | succ j ih =>
    intro g M h1 h2 h3 h4
    have nxt : g ≤ 1 → ∀ M', lG n m r (d + 1) X M0 (mBB n w b k f (g + 1)) M' → wX7_backBlack_12 kd ln post r m w b k ((d + 1 : Nat) : Int) k3 j f (g + 1) M' := fun q M' q1 => ih (g + 1) M' (by omega) (by omega) q1 (by omega)
    have go : g ≤ 1 → ¬ (f = 0 ∧ g = 0) → wX7_backBlack_32 kd ln post r m w b k ((d + 1 : Nat) : Int) k3 (wX7_backBlack_12 kd ln post r m w b k ((d + 1 : Nat) : Int) k3 j) f g M := fun q q0 => by
      unfold wX7_backBlack_32
      refine sX7_off hN h3.rN.1 hb (by omega) (by omega) (fun q1 => fun _ => ?_) (fun q1 => fun _ => ?_)
      · have e2 := mSq_of hN (f := b % n + f) (r := b / n + g) q1.1 q1.2
        exact sX7_bb_41 hN hl7 hl hm hd hpar hw hb hk hq (Or.inr ⟨e2.1, by omega, by omega, by unfold mNx; omega⟩) h3 (nxt q)
      · refine sX7_bb_41 hN hl7 hl hm hd hpar hw hb hk hq (Or.inl ⟨rfl, fun x hx _ q2 q3 => q1 ?_⟩) h3 (nxt q)
        have e3 := mSq hN hx
        omega
    unfold wX7_backBlack_12
    refine ⟨by omega, fun q => ?_, fun q => ⟨by omega, fun q1 => go (by omega) (by omega), fun q1 => ⟨fun q2 => go (by omega) (by omega), fun q2 => ?_⟩⟩⟩
    · have : g = 2 := by omega
      subst this
      exact h M h3
    · refine sX7_bb_41 hN hl7 hl hm hd hpar hw hb hk hq (Or.inl ⟨rfl, fun x hx q3 q4 q5 => ?_⟩) h3 (nxt (by omega))
      unfold mNx at q3
      omega
def mBBa (n w b k : Int) : mX := fun w' b' k' t' => t' = 1 ∧ w' = w ∧ k' = k ∧ mOn n b' ∧ mNx n b b'
theorem sX7_backBlack {post : gM → Prop} {d : Nat} {X : mX} (hN : mN n) (hl7 : mLn7 ln r) (hl : ln r 4 = 1572864) (hm : 0 ≤ m ∧ m ≤ 2) (hd : d + 1 ≤ 126) (hpar : (d + 1) % 2 = 0) (hw : mOn n w) (hb : mOn n b) (hk : mOn n k) (hq : mAtD n m d w b k 0) (hG : lG n m r (d + 1) X M0 (fun _ _ _ _ => False) M) (h : ∀ M', lG n m r (d + 1) X M0 (mBBa n w b k) M' → post M') : wX7_backBlack kd ln post r m w b k ((d + 1 : Nat) : Int) M := by
  have loop : ∀ (j : Nat) (f : Int) (M : gM), -1 ≤ f → f ≤ 2 → lG n m r (d + 1) X M0 (mBB n w b k f (-1)) M → 2 - f < j → wX7_backBlack_3 kd ln post r m w b k ((d + 1 : Nat) : Int) j f M := by
    intro j
    induction j with
    | zero => intro f M h1 h2 h3 h4; omega
    | succ j ih =>
      intro f M h1 h2 h3 h4
      unfold wX7_backBlack_3
      refine ⟨by omega, fun q => h M (h3.sub ?_), fun q => ⟨4, sX7_bb_12 hN hl7 hl hm hd hpar hw hb hk hq (by omega) (fun M' q1 => ih (f + 1) M' (by omega) (by omega) (q1.sub ?_) (by omega)) 4 (-1) M (by omega) (by omega) h3 (by omega)⟩⟩
      · rintro w' b' k' t' ⟨a1, a2, a3, a4, a5⟩ _
        refine ⟨a1, a2, a3, a4, a5, ?_⟩
        unfold mNx at a5
        omega
      · rintro w' b' k' t' ⟨a1, a2, a3, a4, a5, a6⟩ _
        refine ⟨a1, a2, a3, a4, a5, ?_⟩
        unfold mNx at a5
        omega
  unfold wX7_backBlack
  refine ⟨4, loop 4 (-1) M (by omega) (by omega) (hG.sub ?_) (by omega)⟩
  rintro w' b' k' t' ⟨a1, a2, a3, a4, a5, a6⟩ _
  unfold mNx at a5
  omega
end LD
