/-! A LAYER OF THE REFERENCE'S TABLE -/
theorem gi2b_id {x : Int} (h : -128 ≤ x ∧ x < 128) : gi2b x = x := by
  unfold gi2b
  have h1 : (gI x).toInt = x := gI_toInt ⟨by omega, by omega⟩
  rw [Int8.toInt_toInt32, Int32.toInt_toInt8, h1]
  rw [Int.bmod_eq_of_le (by omega) (by omega)]
def mT (n m r : Int) (M : gM) (w b k t : Int) : Int := M r 4 (524288 * m + mKey n w b k t)
abbrev lSl : List Nat := [4, 12, 13, 14, 15, 16, 17, 18, 19, 20]
def lFr (r m : Int) (M0 M : gM) : Prop := Ch r lSl M0 M ∧ ∀ i, (i < 524288 * m ∨ 524288 * m + 524288 ≤ i) → M r 4 i = M0 r 4 i
theorem lFr.rf {r m : Int} {M : gM} : lFr r m M M := ⟨Ch.rf, fun _ _ => rfl⟩
theorem lFr.tr {r m : Int} {M M' M'' : gM} (h : lFr r m M M') (h' : lFr r m M' M'') : lFr r m M M'' := ⟨h.1.tr h'.1, fun i q => (h'.2 i q).trans (h.2 i q)⟩
theorem lFr.ml {r m : Int} {M M' : gM} (h : Ch r mSl M M') : lFr r m M M' := ⟨h.mo (by decide), fun i _ => by rw [h.at (show 4 ∉ mSl by decide)]⟩
abbrev mX : Type := Int → Int → Int → Int → Prop
def lTb (n m r : Int) (d : Nat) (X : mX) (M : gM) : Prop := ∀ w b k t, mOn n w → mOn n b → mOn n k → (t = 0 ∨ t = 1) → (∀ e, e < d → mAtD n m e w b k t → mT n m r M w b k t = e + 1) ∧ (X w b k t → mT n m r M w b k t = d + 1) ∧ (¬ mBl n m d w b k t → ¬ X w b k t → mT n m r M w b k t = 0)
def lSt (n m r : Int) (d : Nat) (X : mX) (M : gM) : Prop := rN n r M ∧ lTb n m r d X M ∧ (∀ w b k t, X w b k t → mAtD n m d w b k t) ∧ (d = 0 ∨ (M r 20 (-1) = 0 ∧ ∀ w b k t, ¬ X w b k t) ∨ (M r 20 (-1) = 1 ∧ ∃ w b k t, mOn n w ∧ mOn n b ∧ mOn n k ∧ X w b k t))
theorem lSt.ml {n m r : Int} {d : Nat} {X : mX} {M M' : gM} (h : lSt n m r d X M) (c : Ch r mSl M M') : lSt n m r d X M' := by
  obtain ⟨h1, h2, h3, h4⟩ := h
  refine ⟨h1.ch c (by decide) (by decide), fun w b k t a1 a2 a3 a4 => ?_, h3, ?_⟩
  · unfold mT
    rw [c.at (show 4 ∉ mSl by decide)]
    exact h2 w b k t a1 a2 a3 a4
  · rw [c.at (show 20 ∉ mSl by decide)]
    exact h4
/-- a number of the table that is not 0 -/
theorem lSt.pos {n m r : Int} {d : Nat} {X : mX} {M : gM} (h : lSt n m r d X M) {w b k t : Int} (hw : mOn n w) (hb : mOn n b) (hk : mOn n k) (ht : t = 0 ∨ t = 1) : mT n m r M w b k t = 0 ↔ ¬ mBl n m d w b k t ∧ ¬ X w b k t := by
  obtain ⟨a1, a2, a3⟩ := h.2.1 w b k t hw hb hk ht
  constructor
  · intro q
    constructor
    · rintro ⟨e, g1, g2⟩
      have := a1 e g1 g2
      omega
    · intro g
      have := a2 g
      omega
  · exact fun q => a3 q.1 q.2
theorem lSt.eq {n m r : Int} {d : Nat} {X : mX} {M : gM} (h : lSt n m r (d + 1) X M) {w b k t : Int} (hw : mOn n w) (hb : mOn n b) (hk : mOn n k) (ht : t = 0 ∨ t = 1) : mT n m r M w b k t = d + 1 ↔ mAtD n m d w b k t := by
  obtain ⟨a1, a2, a3⟩ := h.2.1 w b k t hw hb hk ht
  constructor
  · intro q
    rcases Classical.em (mBl n m (d + 1) w b k t) with ⟨e, g1, g2⟩ | g
    · have := a1 e g1 g2
      have : e = d := by omega
      rw [← this]; exact g2
    · rcases Classical.em (X w b k t) with g2 | g2
      · have := a2 g2
        omega
      · have := a3 g g2
        omega
  · exact fun q => by
      have := a1 d (Nat.lt_succ_self d) q
      omega
theorem lSt.rg {n m r : Int} {d : Nat} {X : mX} {M : gM} (h : lSt n m r d X M) {w b k t : Int} (hw : mOn n w) (hb : mOn n b) (hk : mOn n k) (ht : t = 0 ∨ t = 1) : 0 ≤ mT n m r M w b k t ∧ mT n m r M w b k t ≤ d + 1 := by
  obtain ⟨a1, a2, a3⟩ := h.2.1 w b k t hw hb hk ht
  rcases Classical.em (mBl n m d w b k t) with ⟨e, g1, g2⟩ | g
  · have := a1 e g1 g2
    omega
  · rcases Classical.em (X w b k t) with g2 | g2
    · have := a2 g2
      omega
    · have := a3 g g2
      omega
section LA
variable {kd : gKd} {ln : gLn} {M : gM} {r n m w b k t : Int}
theorem sX7_decide {K : gM → Prop} {d : Nat} {X : mX} (hN : mN n) (hl : ln r 4 = 1572864) (hm : 0 ≤ m ∧ m ≤ 2) (hs : lSt n m r d X M) (hd : d ≤ 126) (hw : mOn n w) (hb : mOn n b) (hk : mOn n k) (ht : t = 0 ∨ t = 1) (hA : mAtD n m d w b k t) (h : ∀ M' X', (∀ w b k t, X w b k t → X' w b k t) → X' w b k t → lSt n m r d X' M' → lFr r m M M' → K M') : wX7_decide kd ln K r m w b k t d M := by
  have ht' : 0 ≤ t ∧ t ≤ 1 := by omega
  have e := mKey_r hN hw hb hk ht'
  unfold wX7_decide
  refine ⟨by omega, sX7_key hN hs.1.2 hw hb hk ht' fun _ => ⟨by omega, ?_⟩⟩
  rw [gi2b_id (by omega)]
  refine ⟨by omega, ?_⟩
  have hC : Ch r lSl M (gu (gu M r 4 (524288 * m + mKey n w b k t) (d + 1)) r 20 (-1) 1) := Ch.up (Ch.up Ch.rf (by decide) _ _) (by decide) _ _
  have hT : ∀ w' b' k' t', mOn n w' → mOn n b' → mOn n k' → (t' = 0 ∨ t' = 1) → mT n m r (gu (gu M r 4 (524288 * m + mKey n w b k t) (d + 1)) r 20 (-1) 1) w' b' k' t' = if w' = w ∧ b' = b ∧ k' = k ∧ t' = t then (d : Int) + 1 else mT n m r M w' b' k' t' := by
    intro w' b' k' t' a1 a2 a3 a4
    unfold mT
    rw [gu_k (by decide), gu_v]
    by_cases q : w' = w ∧ b' = b ∧ k' = k ∧ t' = t
    · rw [if_pos q, if_pos (by rw [q.1, q.2.1, q.2.2.1, q.2.2.2])]
    · rw [if_neg q, if_neg (fun q2 => q (mKey_inj hN a1 a2 a3 (by omega) hw hb hk ht' (by omega)))]
  refine h _ (fun w' b' k' t' => X w' b' k' t' ∨ (w' = w ∧ b' = b ∧ k' = k ∧ t' = t)) (fun _ _ _ _ q => Or.inl q) (Or.inr ⟨rfl, rfl, rfl, rfl⟩) ⟨hs.1.ch hC (by decide) (by decide), fun w' b' k' t' a1 a2 a3 a4 => ?_, ?_, ?_⟩ ⟨hC, fun i q => ?_⟩
  · rw [hT w' b' k' t' a1 a2 a3 a4]
    obtain ⟨g1, g2, g3⟩ := hs.2.1 w' b' k' t' a1 a2 a3 a4
    by_cases q : w' = w ∧ b' = b ∧ k' = k ∧ t' = t
    · rw [if_pos q]
      obtain ⟨rfl, rfl, rfl, rfl⟩ := q
      exact ⟨fun e' h1 h2 => absurd (mAtD_uniq hA h2) (by omega), fun _ => rfl, fun _ h2 => absurd (Or.inr ⟨rfl, rfl, rfl, rfl⟩) h2⟩
    · rw [if_neg q]
      exact ⟨g1, fun h1 => g2 (h1.resolve_right q), fun h1 h2 => g3 h1 (fun h3 => h2 (Or.inl h3))⟩
  · rintro w' b' k' t' (q | ⟨rfl, rfl, rfl, rfl⟩)
    · exact hs.2.2.1 _ _ _ _ q
    · exact hA
  · exact Or.inr (Or.inr ⟨gu_s, w, b, k, t, hw, hb, hk, Or.inr ⟨rfl, rfl, rfl, rfl⟩⟩)
  · rw [gu_k (by decide), gu_i (by omega)]
/-- what is open is decided, where it has to be -/
theorem sX7_try {K : gM → Prop} {d : Nat} {X : mX} (hN : mN n) (hl : ln r 4 = 1572864) (hm : 0 ≤ m ∧ m ≤ 2) (hs : lSt n m r d X M) (hd : d ≤ 126) (hw : mOn n w) (hb : mOn n b) (hk : mOn n k) (ht : t = 0 ∨ t = 1) (hA : mLg n m w b k t → ¬ mBl n m d w b k t → mAtD n m d w b k t) (h : ∀ M' X', (∀ w b k t, X w b k t → X' w b k t) → (mAtD n m d w b k t → X' w b k t) → lSt n m r d X' M' → lFr r m M M' → K M') : wX7_isOpen kd ln (fun c M1 => (rng c → ((c = 0 → K M1) ∧ (¬ (c = 0) → (wX7_decide kd ln (fun M2 => K M2) r m w b k t d M1))))) r m w b k t M := by
  refine sX7_isOpen hN hl hs.1.1 hs.1.2 hm hw hb hk (by omega) (fun q => ?_) (fun q => ?_)
  · refine fun _ => ⟨fun q1 => absurd q1 (by decide), fun _ => ?_⟩
    have q2 := (hs.pos hw hb hk ht).mp q.2
    exact sX7_decide hN hl hm hs hd hw hb hk ht (hA q.1 q2.1) (fun M' X' a1 a2 a3 a4 => h M' X' a1 (fun _ => a2) a3 a4)
  · refine fun _ => ⟨fun _ => h M X (fun _ _ _ _ q => q) (fun q1 => ?_) hs lFr.rf, fun q1 => absurd rfl q1⟩
    apply Classical.byContradiction
    intro q2
    exact q ⟨mAtD_lg q1, (hs.pos hw hb hk ht).mpr ⟨mAtD_no q1, q2⟩⟩
end LA
