theorem gu_rd {M : gM} {o o' : Int} {k k' : Nat} {i i' x : Int} : gu M o k i x o' k' i' = if o' = o ∧ k' = k ∧ i' = i then x else M o' k' i' := rfl
/-- numbers of a position, and a legal one -/
abbrev mNu (n m w b k t : Int) : Prop := (0 ≤ m ∧ m ≤ 2) ∧ mOn n w ∧ mOn n b ∧ mOn n k ∧ (0 ≤ t ∧ t ≤ 1)
/-- the reference's tables -/
def rTb (n r : Int) (M : gM) : Prop := rN n r M ∧ (∀ m, (0 ≤ m ∧ m ≤ 2) → M r 3 m ≠ 0 → mFu n m r M ∧ nmS n m r M) ∧ (M r 3 2 ≠ 0 → M r 3 0 ≠ 0 ∧ M r 3 1 ≠ 0)
theorem rTb.ch {n r : Int} {M M' : gM} {l : List Nat} (h : rTb n r M) (c : Ch r l M M') (hl : ∀ k ∈ [1, 2, 3, 4, 5, 6, 7], k ∉ l) : rTb n r M' := by
  unfold rTb rN mFu nmS nmK mT
  rw [c.at (hl 1 (by decide)), c.at (hl 2 (by decide)), c.at (hl 3 (by decide)), c.at (hl 4 (by decide)), c.at (hl 5 (by decide)), c.at (hl 6 (by decide)), c.at (hl 7 (by decide))]
  exact h
/-- the distance behind a move -/
noncomputable def mAf (n m w b k t c : Int) : Int := if mV m w b k t c 3 = -1 then -1 else mDs n (mV m w b k t c 3) (mV m w b k t c 4) (mV m w b k t c 5) (mV m w b k t c 6) (1 - t)
/-- where a move leads -/
theorem mv_row {n m w b k t c : Int} (hN : mN n) (hm : 0 ≤ m ∧ m ≤ 2) (hw : mOn n w) (hb : mOn n b) (hk : mOn n k) (ht : t = 0 ∨ t = 1) (hL : mLg n m w b k t) (h : mvP n m w b k t c) : mV m w b k t c 3 = -1 ∨ (((0 ≤ mV m w b k t c 3 ∧ mV m w b k t c 3 ≤ 2) ∧ mOn n (mV m w b k t c 4) ∧ mOn n (mV m w b k t c 5) ∧ mOn n (mV m w b k t c 6)) ∧ (mV m w b k t c 3 = m ∨ (m = 2 ∧ mV m w b k t c 3 ≤ 1)) ∧ mLg n (mV m w b k t c 3) (mV m w b k t c 4) (mV m w b k t c 5) (mV m w b k t c 6) (1 - t)) := by
  have e1 := mSq hN hw
  have e2 := mSq hN hb
  have e3 := mSq hN hk
  rcases h with ⟨x, h1, h2, h3⟩ | ⟨rfl, ⟨x, h1, h2, h3⟩ | ⟨h1, q, h2, h3⟩⟩
  · have e4 := mSq hN h1
    rcases h2 with ⟨rfl, h2⟩ | ⟨rfl, h2⟩
    · have h3 : c = mCd w x (-1) := h3
      obtain ⟨d1, d2, d3⟩ := mCd_d (f := w) (x := x) (q := -1) (by omega) (by omega) (by omega)
      right
      rw [h3]
      simp only [mV, d1, d2, if_true, and_self, show ¬ ((0 : Int) = 1) by decide, if_false]
      exact ⟨⟨hm, h1, hb, hk⟩, Or.inl trivial, h2.2.2.1, h2.2.2.2, hL.2.2.1, fun g => h2.2.1 (mNx_sym.mp g), hL.2.2.2.2.1, Or.inl rfl⟩
    · have h3 : c = mCd b x (-1) := h3
      obtain ⟨v3, v4, v5, v6⟩ := mV_black (m := m) (w := w) (k := k) (b := b) (x := x) (by omega) (by omega)
      rw [h3, v3, v4, v5, v6]
      by_cases g : x = k
      · left; rw [if_pos g]
      · right
        rw [if_neg g, if_neg g]
        have hxw : w ≠ x := fun e => hL.2.2.2.1 (mNx_sym.mp (e ▸ h2.1))
        exact ⟨⟨hm, hw, h1, hk⟩, Or.inl rfl, hxw, hL.2.1, g, h2.2.1, hL.2.2.2.2.1, Or.inr h2.2.2⟩
  · have e4 := mSq hN h1
    obtain ⟨v0, v1, v2, v3, v4, v5, v6⟩ := mV_man (m := m) (w := w) (b := b) (k := k) (x := x) (q := -1) (by omega) (by omega) (by omega) hL.2.1
    right
    rw [h3, v3, v4, v5, v6, if_pos rfl]
    refine ⟨⟨hm, hw, hb, h1⟩, Or.inl rfl, hL.1, ?_, ?_, hL.2.2.2.1, fun g => ?_, Or.inl rfl⟩
    · rcases h2 with h2 | h2
      · exact fun e => h2.2.2.2.2.1 e.symm
      · exact fun e => h2.2.2.2.1 e.symm
    · rcases h2 with h2 | h2
      · exact fun e => h2.2.2.2.2.2 e.symm
      · exact fun e => h2.2.2.2.2.1 e.symm
    · rcases h2 with h2 | ⟨_, a1, a2, a3, a4, a5, a6⟩
      · exact absurd g h2.1
      · refine ⟨?_, by omega⟩
        have hr := hL.2.2.2.2.1 g
        have : (k + n) / n = k / n + 1 := (mUp hN hk (by omega)).2.1
        rcases a6 with a6 | a6
        · rw [a6]; omega
        · rw [a6.1]
          have : (k + n + n) / n = k / n + 2 := by rcases mN_cases hN with rfl | rfl | rfl | rfl | rfl <;> omega
          omega
  · have hr := hL.2.2.2.2.1 h1.1
    have u := mUp hN hk (by omega)
    have e4 := mSq hN u.1
    obtain ⟨v0, v1, v2, v3, v4, v5, v6⟩ := mV_man (m := m) (w := w) (b := b) (k := k) (x := k + n) (q := q) (by omega) (by omega) (by omega) hL.2.1
    rw [h3, v3, v4, v5, v6, if_neg (by omega)]
    by_cases g : q < 2
    · right
      rw [if_pos g]
      exact ⟨⟨by omega, hw, hb, u.1⟩, Or.inr ⟨h1.1, by omega⟩, hL.1, fun e => h1.2.2.1 e.symm, fun e => h1.2.2.2 e.symm, hL.2.2.2.1, fun g2 => by omega, Or.inl rfl⟩
    · left; rw [if_neg g]
/-- all tables that a material's moves lead to -/
def mFa (n m r : Int) (M : gM) : Prop := mFu n m r M ∧ (m = 2 → mFu n 0 r M ∧ mFu n 1 r M)
theorem rTb.fa {n r m : Int} {M : gM} (h : rTb n r M) (hm : 0 ≤ m ∧ m ≤ 2) (hd : M r 3 m ≠ 0) : mFa n m r M := ⟨(h.2.1 m hm hd).1, fun e => by
  subst e
  have := h.2.2 hd
  exact ⟨(h.2.1 0 (by omega) this.1).1, (h.2.1 1 (by omega) this.2).1⟩⟩
theorem mFa.ch {n m r : Int} {M M' : gM} {l : List Nat} (h : mFa n m r M) (c : Ch r l M M') (hl : 4 ∉ l) : mFa n m r M' := by
  unfold mFa mFu mT
  rw [c.at hl]
  exact h
theorem mFa.of {n m r : Int} {M : gM} (h : mFa n m r M) {m' : Int} (hm' : 0 ≤ m') (e : m' = m ∨ (m = 2 ∧ m' ≤ 1)) : mFu n m' r M := by
  rcases e with e | e
  · rw [e]; exact h.1
  · rcases (show m' = 0 ∨ m' = 1 by omega) with e2 | e2
    · rw [e2]; exact (h.2 e.1).1
    · rw [e2]; exact (h.2 e.1).2
section AP
variable {kd : gKd} {ln : gLn} {M M0 : gM} {r n m w b k t : Int}
theorem sX7_mayAsk {post : Int → gM → Prop} (hN : mN n) (hl : rLn ln r) (hn : rN n r M) (hmr : rng m) (hw : rng w) (hb : rng b) (hk : rng k) (ht : rng t) (hok : mNu n m w b k t → M r 3 m ≠ 0 → mLg n m w b k t → post 1 (gu M r 0 (-1) 0)) (hno : ¬ (mNu n m w b k t ∧ M r 3 m ≠ 0 ∧ mLg n m w b k t) → post 0 (gu M r 0 (-1) 1)) : wX7_mayAsk kd ln post r m w b k t M := by
  have no : ¬ (mNu n m w b k t ∧ M r 3 m ≠ 0 ∧ mLg n m w b k t) → wX7_mayAsk_41 kd ln post r m w b k t M := fun q => by
    unfold wX7_mayAsk_41
    exact sX7_may (Or.inl rfl) fun _ => ⟨by omega, hno q⟩
  unfold wX7_mayAsk
  refine sX7_isMade hl hmr (fun q => fun _ => ⟨fun g => absurd g (by decide), fun _ => ?_⟩) (fun q => fun _ => ⟨fun _ => no (fun g => q ⟨g.1.1, g.2.1⟩), fun g => absurd rfl g⟩)
  refine sX7_areNumbers hN hn.2 hmr hw hb hk ht (fun q2 => fun _ => ⟨fun g => absurd g (by decide), fun _ => ?_⟩) (fun q2 => fun _ => ⟨fun _ => no (fun g => q2 g.1), fun g => absurd rfl g⟩)
  refine sX7_legal hN hn.1 q2.1 q2.2.1 q2.2.2.1 q2.2.2.2.1 q2.2.2.2.2 (fun q3 => fun _ => ⟨fun g => absurd g (by decide), fun _ => ?_⟩) (fun q3 => fun _ => ⟨fun _ => no (fun g => q3 g.2.2), fun g => absurd rfl g⟩)
  exact sX7_may (Or.inr rfl) fun _ => ⟨by omega, hok q2 q.2 q3⟩
theorem sX7_isLegal {post : Int → gM → Prop} (hN : mN n) (hn : rN n r M) (hmr : rng m) (hw : rng w) (hb : rng b) (hk : rng k) (ht : rng t) (hok : mNu n m w b k t → mLg n m w b k t → post 1 (gu M r 0 (-1) 0)) (hno : ¬ (mNu n m w b k t ∧ mLg n m w b k t) → post 0 (gu M r 0 (-1) 0)) : wX7_isLegal kd ln post r m w b k t M := by
  have hn' := hn.ch (Ch.up Ch.rf (show 0 ∈ [0] by decide) (-1) 0) (by decide) (by decide)
  unfold wX7_isLegal
  refine sX7_areNumbers hN hn'.2 hmr hw hb hk ht (fun q2 => fun _ => ⟨fun g => absurd g (by decide), fun _ => ?_⟩) (fun q2 => fun _ => ⟨fun _ => hno (fun g => q2 g.1), fun g => absurd rfl g⟩)
  exact sX7_legal hN hn'.1 q2.1 q2.2.1 q2.2.2.1 q2.2.2.2.1 q2.2.2.2.2 (fun q3 => fun _ => ⟨fun g => absurd g (by decide), fun _ => hok q2 q3⟩) (fun q3 => fun _ => ⟨fun _ => hno (fun g => q3 g.2), fun g => absurd rfl g⟩)
theorem sX7_moves {post : Int → gM → Prop} (hN : mN n) (hl : rLn ln r) (hn : rN n r M) (hmr : rng m) (hw : rng w) (hb : rng b) (hk : rng k) (ht : rng t) (hok : mNu n m w b k t → mLg n m w b k t → ∀ M' (cnt : Nat) (f : Nat → Int), sIn cnt f (mvP n m w b k t) → cnt ≤ 36 → Ch r (0 :: mSl) M M' → post cnt M') (hno : ¬ (mNu n m w b k t ∧ mLg n m w b k t) → post (-1) (gu M r 0 (-1) 0)) : wX7_moves kd ln post r m w b k t M := by
  have c0 : Ch r [0] M (gu M r 0 (-1) 0) := Ch.up Ch.rf (by decide) (-1) 0
  have hn' := hn.ch c0 (by decide) (by decide)
  unfold wX7_moves
  refine sX7_areNumbers hN hn'.2 hmr hw hb hk ht (fun q2 => fun _ => ⟨fun g => absurd g (by decide), fun _ => ?_⟩) (fun q2 => fun _ => ⟨fun _ => hno (fun g => q2 g.1), fun g => absurd rfl g⟩)
  refine sX7_legal hN hn'.1 q2.1 q2.2.1 q2.2.2.1 q2.2.2.2.1 q2.2.2.2.2 (fun q3 => fun _ => ⟨fun _ => ?_, fun g => absurd g (by decide)⟩) (fun q3 => fun _ => ⟨fun g => absurd rfl g, fun _ => hno (fun g => q3 g.2)⟩)
  refine sX7_find hN hl.2.2.2.2.2.2.2.1 hn' q2.1 q2.2.1 q2.2.2.1 q2.2.2.2.1 (by omega) q3 (fun M' cnt h1 h2 h3 => ?_)
  obtain ⟨c1, f, c2, _⟩ := h1
  rw [c1]
  exact fun _ => hok q2 q3 M' cnt f c2 h2 ((c0.mo (by decide)).tr (h3.mo (by decide)))
theorem sX7_isBest {post : Int → gM → Prop} {cnt i : Nat} {f : Nat → Int} {d : Int} (hN : mN n) (hl : rLn ln r) (hn : rN n r M) (hm : 0 ≤ m ∧ m ≤ 2) (hw : mOn n w) (hb : mOn n b) (hk : mOn n k) (ht : t = 0 ∨ t = 1) (hL : mLg n m w b k t) (hF : mFa n m r M) (hi : i < cnt) (hc : cnt ≤ 36) (hs : sIn cnt f (mvP n m w b k t)) (hrow : mRw r M i (mV m w b k t (f i))) (hd : -1 ≤ d ∧ d ≤ 97) (h1 : mAf n m w b k t (f i) = (if d = -1 then -1 else d - 1) → post 1 M) (h0 : mAf n m w b k t (f i) ≠ (if d = -1 then -1 else d - 1) → post 0 M) : wX7_isBest kd ln post r i t d M := by
  have hp : mvP n m w b k t (f i) := (hs.2 _).mpr ⟨i, hi, rfl⟩
  have row := mv_row hN hm hw hb hk ht hL hp
  have e3 := hrow 3 (by omega)
  have e4 := hrow 4 (by omega)
  have e5 := hrow 5 (by omega)
  have e6 := hrow 6 (by omega)
  have fin : ∀ v : Int, v = mAf n m w b k t (f i) → rng v → (rng v → (rng d ∧ ((d ≠ (-1) → (rng (d - 1) ∧ ((v ≠ (d - 1) → post 0 M) ∧ (v = (d - 1) → post 1 M)))) ∧ (d = (-1) → ((v ≠ (-1) → post 0 M) ∧ (v = (-1) → post 1 M)))))) := fun v ev _ _ => by
    refine ⟨by omega, fun q => ⟨by omega, fun q2 => h0 (by rw [if_neg q, ← ev]; exact q2), fun q2 => h1 (by rw [if_neg q, ← ev]; exact q2)⟩, fun q => ⟨fun q2 => h0 (by rw [if_pos q, ← ev]; exact q2), fun q2 => h1 (by rw [if_pos q, ← ev]; exact q2)⟩⟩
  unfold wX7_isBest
  refine sX7_after hN hl.2.2.2.2.2.2.2.1 hl.2.1 hn.2 (by omega) e3 e4 e5 e6 ht (fun q => fin (-1) (by unfold mAf; rw [if_pos q]) (by omega)) (fun q => ?_)
  rcases row with row | ⟨⟨a1, a2, a3, a4⟩, a5, a6⟩
  · exact absurd row q
  · have F := hF.of a1.1 a5
    have ds := mFu_ds F a2 a3 a4 (show 1 - t = 0 ∨ 1 - t = 1 by omega)
    have ge := mDs_ge n (mV m w b k t (f i) 3) (mV m w b k t (f i) 4) (mV m w b k t (f i) 5) (mV m w b k t (f i) 6) (1 - t)
    refine ⟨⟨a1, a2, a3, a4, by omega⟩, ?_⟩
    intro hr
    exact fin _ (by rw [ds]; unfold mAf; rw [if_neg q]; omega) hr hr
end AP
