theorem lG.base {n m r : Int} {d : Nat} {X : mX} {M0 M : gM} {P : mX} (h : lG n m r d X M0 P M) : lG n m r d (fun w b k t => X w b k t ∨ (P w b k t ∧ mAtD n m d w b k t)) M0 (fun _ _ _ _ => False) M := by
  obtain ⟨X', h1, h2, h3, h4⟩ := h
  exact ⟨X', fun w b k t q => q.elim (h1 w b k t) (fun q => h2 w b k t q.1 q.2), fun _ _ _ _ q => q.elim, h3, h4⟩
theorem lG.unbase {n m r : Int} {d : Nat} {X : mX} {M0 M : gM} {P Q : mX} (h : lG n m r d (fun w b k t => X w b k t ∨ (P w b k t ∧ mAtD n m d w b k t)) M0 Q M) : lG n m r d X M0 (fun w b k t => P w b k t ∨ Q w b k t) M := by
  obtain ⟨X', h1, h2, h3, h4⟩ := h
  exact ⟨X', fun w b k t q => h1 w b k t (Or.inl q), fun w b k t q q2 => q.elim (fun q => h1 w b k t (Or.inr ⟨q, q2⟩)) (fun q => h2 w b k t q q2), h3, h4⟩
theorem lG.st {n m r : Int} {d : Nat} {X : mX} {M0 M : gM} {P : mX} (h : lG n m r d X M0 P M) : ∃ X', lSt n m r d X' M := by
  obtain ⟨X', h1, h2, h3, h4⟩ := h
  exact ⟨X', h3⟩
abbrev sc (w b k w' b' k' : Int) : Prop := w' < w ∨ (w' = w ∧ (b' < b ∨ (b' = b ∧ k' < k)))
/-- gone back to from what lies before (w, b, k) -/
def mSc (n m : Int) (d : Nat) (t w b k : Int) : mX := fun w1 b1 k1 t1 => ∃ w' b' k', mOn n w' ∧ mOn n b' ∧ mOn n k' ∧ sc w b k w' b' k' ∧ mAtD n m d w' b' k' t ∧ ((t = 1 ∧ mBWa n m w' b' k' w1 b1 k1 t1) ∨ (t = 0 ∧ mBBa n w' b' k' w1 b1 k1 t1))
/-- what a layer holds but for promotions -/
def mLy (n m : Int) (d : Nat) : mX := fun w b k t => mOn n w ∧ mOn n b ∧ mOn n k ∧ ((t = 0 ∧ ((∃ x, mOn n x ∧ mWk n w b k x ∧ mAtD n m d x b k 1) ∨ (∃ x, mOn n x ∧ mMn n m w b k x ∧ mAtD n m d w b x 1))) ∨ (t = 1 ∧ ∃ x, mOn n x ∧ mBk n m w b k x ∧ mAtD n m d w x k 0))
section LE
variable {kd : gKd} {ln : gLn} {M M0 : gM} {r n m w b k t : Int}
theorem sX7_layer {post : gM → Prop} {d : Nat} {X : mX} (hN : mN n) (hl7 : mLn7 ln r) (hl : ln r 4 = 1572864) (hm : 0 ≤ m ∧ m ≤ 2) (hd : d + 1 ≤ 126) (hG : lG n m r (d + 1) X M0 (fun _ _ _ _ => False) M) (h : ∀ M', lG n m r (d + 1) X M0 (mLy n m d) M' → post M') : wX7_layer kd ln post r m ((d + 1 : Nat) : Int) M := by
  have hS := mSS hN
  obtain ⟨t, et⟩ : ∃ t : Int, t = ((d + 1 : Nat) : Int) % 2 := ⟨_, rfl⟩
  have ht : (t = 1 ∧ (d + 1) % 2 = 1) ∨ (t = 0 ∧ (d + 1) % 2 = 0) := by omega
  -- one row of men's squares
  have l31 : ∀ (k7 : Int → Int → gM → Prop) (k19 : Int → Int → Int → gM → Prop) (w b : Int), mOn n w → mOn n b → (∀ M', lG n m r (d + 1) X M0 (mSc n m d t w b (n * n)) M' → k19 t w (b + 1) M') → ∀ (j : Nat) (k : Int) (M : gM), 0 ≤ k → k ≤ n * n → lG n m r (d + 1) X M0 (mSc n m d t w b k) M → n * n - k < j → wX7_layer_31 kd ln post r m ((d + 1 : Nat) : Int) k7 k19 j t w b k M := by
    intro k7 k19 w b hw hb hk9 j
    induction j with
    | zero => intro k M h1 h2 h3 h4; omega
    | succ j ih =>
      intro k M h1 h2 h3 h4
      have e1 := mSq hN hw
      have e2 := mSq hN hb
      unfold wX7_layer_31 wX7_layer_97
      rw [h3.rN.2]
      refine fun _ => ⟨by omega, fun q => ?_, fun q => ⟨by omega, ?_⟩⟩
      · have : k = n * n := by omega
        subst this
        exact hk9 M h3
      · have hk : mOn n k := ⟨h1, by omega⟩
        have er := mKey_r hN hw hb hk (show 0 ≤ t ∧ t ≤ 1 by omega)
        obtain ⟨X', hst⟩ := h3.st
        have heq := hst.eq hw hb hk (show t = 0 ∨ t = 1 by omega)
        have skip : ¬ mAtD n m d w b k t → wX7_layer_31 kd ln post r m ((d + 1 : Nat) : Int) k7 k19 j t w b (k + 1) M := fun q1 => by
          refine ih (k + 1) M (by omega) (by omega) (h3.sub ?_) (by omega)
          rintro w1 b1 k1 t1 ⟨w', b', k', a1, a2, a3, a4, a5, a6⟩ _
          refine ⟨w', b', k', a1, a2, a3, ?_, a5, a6⟩
          by_cases q2 : w' = w ∧ b' = b ∧ k' = k
          · obtain ⟨rfl, rfl, rfl⟩ := q2
            exact absurd a5 q1
          · omega
        have nxt : ∀ M' (Q : mX), (∀ w1 b1 k1 t1, ((t = 1 ∧ mBWa n m w b k w1 b1 k1 t1) ∨ (t = 0 ∧ mBBa n w b k w1 b1 k1 t1)) → Q w1 b1 k1 t1) → lG n m r (d + 1) X M0 (fun w1 b1 k1 t1 => mSc n m d t w b k w1 b1 k1 t1 ∨ Q w1 b1 k1 t1) M' → wX7_layer_31 kd ln post r m ((d + 1 : Nat) : Int) k7 k19 j t w b (k + 1) M' := fun M' Q hQ g => by
          refine ih (k + 1) M' (by omega) (by omega) (g.sub ?_) (by omega)
          rintro w1 b1 k1 t1 ⟨w', b', k', a1, a2, a3, a4, a5, a6⟩ _
          by_cases q2 : w' = w ∧ b' = b ∧ k' = k
          · obtain ⟨rfl, rfl, rfl⟩ := q2
            exact Or.inr (hQ _ _ _ _ a6)
          · exact Or.inl ⟨w', b', k', a1, a2, a3, by omega, a5, a6⟩
        refine sX7_key hN h3.rN.2 hw hb hk (by omega) fun _ => ⟨by omega, fun _ => ⟨by omega, fun q1 => skip (fun q2 => q1 ?_), fun q1 => ?_⟩⟩
        · have := heq.mpr q2
          unfold mT at this
          omega
        · have hA : mAtD n m d w b k t := heq.mp (by unfold mT; omega)
          refine ⟨by omega, fun q2 => ?_, fun q2 => ?_⟩
          · have ht0 : t = 0 := by omega
            rw [ht0] at hA
            exact sX7_backBlack hN hl7 hl hm hd (by omega) hw hb hk hA h3.base (fun M' g => nxt M' _ (fun w1 b1 k1 t1 q3 => by
              rcases q3 with q3 | q3
              · exact absurd q3.1 q2
              · exact q3.2) g.unbase)
          · rw [q2] at hA
            exact sX7_backWhite hN hl hm hd hw hb hk hA h3.base (fun M' g => nxt M' _ (fun w1 b1 k1 t1 q3 => by
              rcases q3 with q3 | q3
              · exact q3.2
              · have := q3.1; omega) g.unbase)
  have l19 : ∀ (k7 : Int → Int → gM → Prop) (w : Int), mOn n w → (∀ M', lG n m r (d + 1) X M0 (mSc n m d t w (n * n) 0) M' → k7 t (w + 1) M') → ∀ (j : Nat) (b : Int) (M : gM), 0 ≤ b → b ≤ n * n → lG n m r (d + 1) X M0 (mSc n m d t w b 0) M → n * n - b < j → wX7_layer_19 kd ln post r m ((d + 1 : Nat) : Int) k7 j t w b M := by
    intro k7 w hw hk7 j
    induction j with
    | zero => intro b M h1 h2 h3 h4; omega
    | succ j ih =>
      intro b M h1 h2 h3 h4
      unfold wX7_layer_19
      rw [h3.rN.2]
      refine fun _ => ⟨by omega, fun q => ?_, fun q => ?_⟩
      · have : b = n * n := by omega
        subst this
        exact hk7 M h3
      · refine ⟨(n * n).toNat + 1, l31 k7 _ w b hw ⟨h1, by omega⟩ (fun M' g => ih (b + 1) M' (by omega) (by omega) (g.sub ?_) (by omega)) _ 0 M (by omega) (by omega) h3 (by omega)⟩
        rintro w1 b1 k1 t1 ⟨w', b', k', a1, a2, a3, a4, a5, a6⟩ _
        exact ⟨w', b', k', a1, a2, a3, by have := a3.2; have := a3.1; omega, a5, a6⟩
  have l7 : ∀ (j : Nat) (w : Int) (M : gM), 0 ≤ w → w ≤ n * n → lG n m r (d + 1) X M0 (mSc n m d t w 0 0) M → n * n - w < j → wX7_layer_7 kd ln post r m ((d + 1 : Nat) : Int) j t w M := by
    intro j
    induction j with
    | zero => intro b M h1 h2 h3 h4; omega
    | succ j ih =>
      intro w M h1 h2 h3 h4
      unfold wX7_layer_7
      rw [h3.rN.2]
      refine fun _ => ⟨by omega, fun q => ?_, fun q => ?_⟩
      · refine h M (h3.sub ?_)
        rintro w1 b1 k1 t1 ⟨a1, a2, a3, a4⟩ a5
        have par := mAtD_par a5
        rcases a4 with ⟨rfl, ⟨x, x1, x2, x3⟩ | ⟨x, x1, x2, x3⟩⟩ | ⟨rfl, x, x1, x2, x3⟩
        · have t1 : t = 1 := by omega
          exact ⟨x, b1, k1, x1, a2, a3, by have := x1.2; omega, t1 ▸ x3, Or.inl ⟨t1, rfl, rfl, Or.inl ⟨rfl, a1, mNx_sym.mp x2.1⟩⟩⟩
        · have t1 : t = 1 := by omega
          exact ⟨w1, b1, x, a1, a2, x1, by have := a1.2; omega, t1 ▸ x3, Or.inl ⟨t1, rfl, rfl, Or.inr ⟨rfl, a3, x2⟩⟩⟩
        · have t0 : t = 0 := by omega
          exact ⟨w1, x, k1, a1, x1, a3, by have := a1.2; omega, t0 ▸ x3, Or.inr ⟨t0, rfl, rfl, rfl, a2, mNx_sym.mp x2.1⟩⟩
      · refine ⟨(n * n).toNat + 1, l19 _ w ⟨h1, by omega⟩ (fun M' g => ih (w + 1) M' (by omega) (by omega) (g.sub ?_) (by omega)) _ 0 M (by omega) (by omega) h3 (by omega)⟩
        rintro w1 b1 k1 t1 ⟨w', b', k', a1, a2, a3, a4, a5, a6⟩ _
        exact ⟨w', b', k', a1, a2, a3, by have := a2.2; have := a2.1; have := a3.1; omega, a5, a6⟩
  unfold wX7_layer
  refine ⟨by omega, ?_⟩
  intro v2 ev
  rw [ev, ← et]
  refine ⟨(n * n).toNat + 1, l7 _ 0 M (by omega) (by omega) (hG.sub ?_) (by omega)⟩
  rintro w1 b1 k1 t1 ⟨w', b', k', a1, a2, a3, a4, a5, a6⟩ _
  have := a1.1
  have := a2.1
  have := a3.1
  omega
end LE
