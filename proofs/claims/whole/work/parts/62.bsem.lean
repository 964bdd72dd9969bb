/-! WHAT THE SETS MEAN -/
def pd (n x : Int) : Nat := (9 * (x / n + 1) + x % n + 1).toNat
def ix (n w b k : Int) : Nat := 8281 * pd n w + 91 * pd n b + pd n k
section BS
variable {n : Int}
theorem pd_c {x : Int} (hN : mN n) (hx : mOn n x) : pd n x / 9 = (x / n + 1).toNat ∧ pd n x % 9 = (x % n + 1).toNat ∧ 10 ≤ pd n x ∧ pd n x ≤ 80 ∧ (pd n x : Int) = 9 * (x / n + 1) + x % n + 1 := by
  have e := mSq hN hx
  unfold pd
  omega
theorem pd_inj {x y : Int} (hN : mN n) (hx : mOn n x) (hy : mOn n y) (e : pd n x = pd n y) : x = y := by
  have c1 := pd_c hN hx
  have c2 := pd_c hN hy
  have e1 := mSq hN hx
  have e2 := mSq hN hy
  exact mSq_eq hN hx hy (by omega) (by omega)
theorem ix_inj {w b k w' b' k' : Int} (hN : mN n) (hw : mOn n w) (hb : mOn n b) (hk : mOn n k) (hw' : mOn n w') (hb' : mOn n b') (hk' : mOn n k') (e : ix n w b k = ix n w' b' k') : w = w' ∧ b = b' ∧ k = k' := by
  have c1 := pd_c hN hw
  have c2 := pd_c hN hb
  have c3 := pd_c hN hk
  have c4 := pd_c hN hw'
  have c5 := pd_c hN hb'
  have c6 := pd_c hN hk'
  unfold ix at e
  exact ⟨pd_inj hN hw hw' (by omega), pd_inj hN hb hb' (by omega), pd_inj hN hk hk' (by omega)⟩
/-- a set of positions, nothing else in it -/
def bSem (n : Int) (A : Nat) (P : Int → Int → Int → Prop) : Prop := ∀ i, A.testBit i = true ↔ ∃ w b k, mOn n w ∧ mOn n b ∧ mOn n k ∧ P w b k ∧ i = ix n w b k
/-- a set, as far as it is of positions -/
def bOs (n : Int) (A : Nat) (P : Int → Int → Int → Prop) : Prop := ∀ w b k, mOn n w → mOn n b → mOn n k → (A.testBit (ix n w b k) = true ↔ P w b k)
theorem bSem.os {A : Nat} {P : Int → Int → Int → Prop} (hN : mN n) (h : bSem n A P) : bOs n A P := fun w b k hw hb hk => by
  rw [h]
  constructor
  · rintro ⟨w', b', k', a1, a2, a3, a4, a5⟩
    obtain ⟨rfl, rfl, rfl⟩ := ix_inj hN hw hb hk a1 a2 a3 a5
    exact a4
  · exact fun q => ⟨w, b, k, hw, hb, hk, q, rfl⟩
theorem bSem.iff {A : Nat} {P Q : Int → Int → Int → Prop} (h : bSem n A P) (e : ∀ w b k, mOn n w → mOn n b → mOn n k → (P w b k ↔ Q w b k)) : bSem n A Q := fun i => by
  rw [h]
  constructor
  · rintro ⟨w, b, k, a1, a2, a3, a4, a5⟩; exact ⟨w, b, k, a1, a2, a3, (e w b k a1 a2 a3).mp a4, a5⟩
  · rintro ⟨w, b, k, a1, a2, a3, a4, a5⟩; exact ⟨w, b, k, a1, a2, a3, (e w b k a1 a2 a3).mpr a4, a5⟩
theorem bSem.lor {A B : Nat} {P Q : Int → Int → Int → Prop} (h : bSem n A P) (h' : bSem n B Q) : bSem n (Nat.lor A B) (fun w b k => P w b k ∨ Q w b k) := fun i => by
  show (A ||| B).testBit i = true ↔ _
  rw [Nat.testBit_or, Bool.or_eq_true, h, h']
  constructor
  · rintro (⟨w, b, k, a1, a2, a3, a4, a5⟩ | ⟨w, b, k, a1, a2, a3, a4, a5⟩)
    · exact ⟨w, b, k, a1, a2, a3, Or.inl a4, a5⟩
    · exact ⟨w, b, k, a1, a2, a3, Or.inr a4, a5⟩
  · rintro ⟨w, b, k, a1, a2, a3, a4 | a4, a5⟩
    · exact Or.inl ⟨w, b, k, a1, a2, a3, a4, a5⟩
    · exact Or.inr ⟨w, b, k, a1, a2, a3, a4, a5⟩
theorem bOs.lor {A B : Nat} {P Q : Int → Int → Int → Prop} (h : bOs n A P) (h' : bOs n B Q) : bOs n (Nat.lor A B) (fun w b k => P w b k ∨ Q w b k) := fun w b k hw hb hk => by
  show (A ||| B).testBit _ = true ↔ _
  rw [Nat.testBit_or, Bool.or_eq_true, h w b k hw hb hk, h' w b k hw hb hk]
theorem bSem.land {A B : Nat} {P Q : Int → Int → Int → Prop} (h : bSem n A P) (h' : bOs n B Q) : bSem n (Nat.land A B) (fun w b k => P w b k ∧ Q w b k) := fun i => by
  show (A &&& B).testBit i = true ↔ _
  rw [Nat.testBit_and, Bool.and_eq_true, h]
  constructor
  · rintro ⟨⟨w, b, k, a1, a2, a3, a4, a5⟩, q⟩
    subst a5
    exact ⟨w, b, k, a1, a2, a3, ⟨a4, (h' w b k a1 a2 a3).mp q⟩, rfl⟩
  · rintro ⟨w, b, k, a1, a2, a3, a4, a5⟩
    subst a5
    exact ⟨⟨w, b, k, a1, a2, a3, a4.1, rfl⟩, (h' w b k a1 a2 a3).mpr a4.2⟩
theorem bSem.land' {A B : Nat} {P Q : Int → Int → Int → Prop} (h : bOs n A P) (h' : bSem n B Q) : bSem n (Nat.land A B) (fun w b k => P w b k ∧ Q w b k) := fun i => by
  have e : Nat.land A B = Nat.land B A := Nat.and_comm A B
  rw [e]
  exact ((h'.land h).iff (fun _ _ _ _ _ _ => And.comm)) i
theorem bSem.df {A B : Nat} {P Q : Int → Int → Int → Prop} (h : bSem n A P) (h' : bOs n B Q) : bSem n (bDf A B) (fun w b k => P w b k ∧ ¬ Q w b k) := fun i => by
  rw [bDf_t, Bool.and_eq_true, h]
  constructor
  · rintro ⟨⟨w, b, k, a1, a2, a3, a4, a5⟩, q⟩
    subst a5
    refine ⟨w, b, k, a1, a2, a3, ⟨a4, fun g => ?_⟩, rfl⟩
    rw [(h' w b k a1 a2 a3).mpr g] at q
    exact absurd q (by decide)
  · rintro ⟨w, b, k, a1, a2, a3, a4, a5⟩
    subst a5
    refine ⟨⟨w, b, k, a1, a2, a3, a4.1, rfl⟩, ?_⟩
    cases g : B.testBit (ix n w b k)
    · rfl
    · exact absurd ((h' w b k a1 a2 a3).mp g) a4.2
theorem bOs.no {P : Int → Int → Int → Prop} (h : ∀ w b k, mOn n w → mOn n b → mOn n k → ¬ P w b k) : bOs n 0 P := fun w b k hw hb hk => by
  rw [Nat.zero_testBit]
  exact ⟨fun q => absurd q (by decide), fun q => absurd q (h w b k hw hb hk)⟩
theorem bOs.iff {A : Nat} {P Q : Int → Int → Int → Prop} (h : bOs n A P) (e : ∀ w b k, mOn n w → mOn n b → mOn n k → (P w b k ↔ Q w b k)) : bOs n A Q := fun w b k hw hb hk => (h w b k hw hb hk).trans (e w b k hw hb hk)
theorem tri {W B K W' B' K' : Nat} (hB : B < 91) (hK : K < 91) (hB' : B' < 91) (hK' : K' < 91) (e : 8281 * W + 91 * B + K = 8281 * W' + 91 * B' + K') : W = W' ∧ B = B' ∧ K = K' := by omega
/-- one step -/
abbrev stp (n k sf sr k' : Int) : Prop := k' % n = k % n + sf ∧ k' / n = k / n + sr
theorem stp_iff {k k' sf sr : Int} (hN : mN n) (hk : mOn n k) (hk' : mOn n k') (hs : (sf = -1 ∨ sf = 0 ∨ sf = 1) ∧ (sr = -1 ∨ sr = 0 ∨ sr = 1)) : stp n k sf sr k' ↔ (pd n k' : Int) = pd n k + (9 * sr + sf) := by
  have c1 := (pd_c hN hk).2.2.2.2
  have c2 := (pd_c hN hk').2.2.2.2
  have e1 := (mSq hN hk).1
  have e2 := (mSq hN hk').1
  rw [c1, c2]
  have h8 : n ≤ 8 := hN.2
  clear c1 c2
  unfold stp
  generalize k % n = a at *
  generalize k / n = c at *
  generalize k' % n = a' at *
  generalize k' / n = c' at *
  omega
theorem pd_r {x : Int} (hN : mN n) (hx : mOn n x) : 10 ≤ pd n x ∧ pd n x ≤ 80 := ⟨(pd_c hN hx).2.2.1, (pd_c hN hx).2.2.2.1⟩
theorem sh_k {X : Nat} {P : Int → Int → Int → Prop} {sf sr : Int} {d : Nat} (hN : mN n) (h : bSem n X P) (hs : (sf = -1 ∨ sf = 0 ∨ sf = 1) ∧ (sr = -1 ∨ sr = 0 ∨ sr = 1)) (hd : 9 * sr + sf = d) (hd0 : 1 ≤ d) : bOs n (Nat.shiftRight X d) (fun w b k => ∃ k', mOn n k' ∧ stp n k sf sr k' ∧ P w b k') ∧ bOs n (Nat.shiftLeft X d) (fun w b k => ∃ k', mOn n k' ∧ stp n k (-sf) (-sr) k' ∧ P w b k') := by
  have hd10 : d ≤ 10 := by omega
  constructor
  · intro w b k hw hb hk
    show (X >>> d).testBit _ = true ↔ _
    rw [Nat.testBit_shiftRight, h]
    have c3 := pd_r hN hk
    have c2 := pd_r hN hb
    constructor
    · rintro ⟨w', b', k', a1, a2, a3, a4, a5⟩
      have c5 := pd_r hN a2
      have c6 := pd_r hN a3
      unfold ix at a5
      obtain ⟨t1, t2, t3⟩ := tri (W := pd n w) (B := pd n b) (K := pd n k + d) (W' := pd n w') (B' := pd n b') (K' := pd n k') (by omega) (by omega) (by omega) (by omega) (by omega)
      have ew : w = w' := pd_inj hN hw a1 t1
      have eb : b = b' := pd_inj hN hb a2 t2
      subst ew eb
      exact ⟨k', a3, (stp_iff hN hk a3 hs).mpr (by omega), a4⟩
    · rintro ⟨k', a3, a5, a4⟩
      have := (stp_iff hN hk a3 hs).mp a5
      refine ⟨w, b, k', hw, hb, a3, a4, ?_⟩
      unfold ix
      omega
  · intro w b k hw hb hk
    show (X <<< d).testBit _ = true ↔ _
    rw [Nat.testBit_shiftLeft, Bool.and_eq_true, h]
    have c3 := pd_r hN hk
    have c2 := pd_r hN hb
    constructor
    · rintro ⟨a0, w', b', k', a1, a2, a3, a4, a5⟩
      have a0 := of_decide_eq_true a0
      have c5 := pd_r hN a2
      have c6 := pd_r hN a3
      unfold ix at a5 a0
      obtain ⟨t1, t2, t3⟩ := tri (W := pd n w) (B := pd n b) (K := pd n k - d) (W' := pd n w') (B' := pd n b') (K' := pd n k') (by omega) (by omega) (by omega) (by omega) (by omega)
      have ew : w = w' := pd_inj hN hw a1 t1
      have eb : b = b' := pd_inj hN hb a2 t2
      subst ew eb
      exact ⟨k', a3, (stp_iff hN hk a3 (by omega)).mpr (by omega), a4⟩
    · rintro ⟨k', a3, a5, a4⟩
      have := (stp_iff hN hk a3 (by omega)).mp a5
      refine ⟨decide_eq_true ?_, w, b, k', hw, hb, a3, a4, ?_⟩
      · unfold ix
        omega
      · unfold ix
        omega
/-- the same of Black's king, and of White's -/
theorem sh_b {X : Nat} {P : Int → Int → Int → Prop} {sf sr : Int} {d : Nat} (hN : mN n) (h : bSem n X P) (hs : (sf = -1 ∨ sf = 0 ∨ sf = 1) ∧ (sr = -1 ∨ sr = 0 ∨ sr = 1)) (hd : 9 * sr + sf = d) (hd0 : 1 ≤ d) : bOs n (Nat.shiftRight X (d * 91)) (fun w b k => ∃ b', mOn n b' ∧ stp n b sf sr b' ∧ P w b' k) ∧ bOs n (Nat.shiftLeft X (d * 91)) (fun w b k => ∃ b', mOn n b' ∧ stp n b (-sf) (-sr) b' ∧ P w b' k) := by
  have hd10 : d ≤ 10 := by omega
  constructor
  · intro w b k hw hb hk
    show (X >>> (d * 91)).testBit _ = true ↔ _
    rw [Nat.testBit_shiftRight, h]
    have c3 := pd_r hN hk
    have c2 := pd_r hN hb
    constructor
    · rintro ⟨w', b', k', a1, a2, a3, a4, a5⟩
      have c5 := pd_r hN a2
      have c6 := pd_r hN a3
      unfold ix at a5
      obtain ⟨t1, t2, t3⟩ := tri (W := pd n w) (B := pd n b + d) (K := pd n k) (W' := pd n w') (B' := pd n b') (K' := pd n k') (by omega) (by omega) (by omega) (by omega) (by omega)
      have ew : w = w' := pd_inj hN hw a1 t1
      have eb : k = k' := pd_inj hN hk a3 t3
      subst ew eb
      exact ⟨b', a2, (stp_iff hN hb a2 hs).mpr (by omega), a4⟩
    · rintro ⟨b', a3, a5, a4⟩
      have := (stp_iff hN hb a3 hs).mp a5
      refine ⟨w, b', k, hw, a3, hk, a4, ?_⟩
      unfold ix
      omega
  · intro w b k hw hb hk
    show (X <<< (d * 91)).testBit _ = true ↔ _
    rw [Nat.testBit_shiftLeft, Bool.and_eq_true, h]
    have c3 := pd_r hN hk
    have c2 := pd_r hN hb
    constructor
    · rintro ⟨a0, w', b', k', a1, a2, a3, a4, a5⟩
      have a0 := of_decide_eq_true a0
      have c5 := pd_r hN a2
      have c6 := pd_r hN a3
      unfold ix at a5 a0
      obtain ⟨t1, t2, t3⟩ := tri (W := pd n w) (B := pd n b - d) (K := pd n k) (W' := pd n w') (B' := pd n b') (K' := pd n k') (by omega) (by omega) (by omega) (by omega) (by omega)
      have ew : w = w' := pd_inj hN hw a1 t1
      have eb : k = k' := pd_inj hN hk a3 t3
      subst ew eb
      exact ⟨b', a2, (stp_iff hN hb a2 (by omega)).mpr (by omega), a4⟩
    · rintro ⟨b', a3, a5, a4⟩
      have := (stp_iff hN hb a3 (by omega)).mp a5
      refine ⟨decide_eq_true ?_, w, b', k, hw, a3, hk, a4, ?_⟩
      · unfold ix
        omega
      · unfold ix
        omega
theorem sh_w {X : Nat} {P : Int → Int → Int → Prop} {sf sr : Int} {d : Nat} (hN : mN n) (h : bSem n X P) (hs : (sf = -1 ∨ sf = 0 ∨ sf = 1) ∧ (sr = -1 ∨ sr = 0 ∨ sr = 1)) (hd : 9 * sr + sf = d) (hd0 : 1 ≤ d) : bOs n (Nat.shiftRight X (d * 8281)) (fun w b k => ∃ w', mOn n w' ∧ stp n w sf sr w' ∧ P w' b k) ∧ bOs n (Nat.shiftLeft X (d * 8281)) (fun w b k => ∃ w', mOn n w' ∧ stp n w (-sf) (-sr) w' ∧ P w' b k) := by
  have hd10 : d ≤ 10 := by omega
  constructor
  · intro w b k hw hb hk
    show (X >>> (d * 8281)).testBit _ = true ↔ _
    rw [Nat.testBit_shiftRight, h]
    have c3 := pd_r hN hk
    have c2 := pd_r hN hb
    constructor
    · rintro ⟨w', b', k', a1, a2, a3, a4, a5⟩
      have c5 := pd_r hN a2
      have c6 := pd_r hN a3
      unfold ix at a5
      obtain ⟨t1, t2, t3⟩ := tri (W := pd n w + d) (B := pd n b) (K := pd n k) (W' := pd n w') (B' := pd n b') (K' := pd n k') (by omega) (by omega) (by omega) (by omega) (by omega)
      have ew : b = b' := pd_inj hN hb a2 t2
      have eb : k = k' := pd_inj hN hk a3 t3
      subst ew eb
      exact ⟨w', a1, (stp_iff hN hw a1 hs).mpr (by omega), a4⟩
    · rintro ⟨w', a3, a5, a4⟩
      have := (stp_iff hN hw a3 hs).mp a5
      refine ⟨w', b, k, a3, hb, hk, a4, ?_⟩
      unfold ix
      omega
  · intro w b k hw hb hk
    show (X <<< (d * 8281)).testBit _ = true ↔ _
    rw [Nat.testBit_shiftLeft, Bool.and_eq_true, h]
    have c3 := pd_r hN hk
    have c2 := pd_r hN hb
    have c1 := pd_r hN hw
    constructor
    · rintro ⟨a0, w', b', k', a1, a2, a3, a4, a5⟩
      have a0 := of_decide_eq_true a0
      have c5 := pd_r hN a2
      have c6 := pd_r hN a3
      unfold ix at a5 a0
      obtain ⟨t1, t2, t3⟩ := tri (W := pd n w - d) (B := pd n b) (K := pd n k) (W' := pd n w') (B' := pd n b') (K' := pd n k') (by omega) (by omega) (by omega) (by omega) (by omega)
      have ew : b = b' := pd_inj hN hb a2 t2
      have eb : k = k' := pd_inj hN hk a3 t3
      subst ew eb
      exact ⟨w', a1, (stp_iff hN hw a1 (by omega)).mpr (by omega), a4⟩
    · rintro ⟨w', a3, a5, a4⟩
      have := (stp_iff hN hw a3 (by omega)).mp a5
      refine ⟨decide_eq_true ?_, w', b, k, a3, hb, hk, a4, ?_⟩
      · unfold ix
        omega
      · unfold ix
        omega
theorem nx_stp {a x : Int} (hN : mN n) : mNx n a x ↔ (stp n a 1 0 x ∨ stp n a (-1) 0 x) ∨ (stp n a (-1) 1 x ∨ stp n a 1 (-1) x) ∨ (stp n a 0 1 x ∨ stp n a 0 (-1) x) ∨ (stp n a 1 1 x ∨ stp n a (-1) (-1) x) := by
  unfold mNx stp
  generalize a % n = p
  generalize a / n = q
  generalize x % n = u
  generalize x / n = v
  omega
theorem bU_w {X : Nat} {P : Int → Int → Int → Prop} (hN : mN n) (h : bSem n X P) : bOs n (bU 8281 X) (fun w b k => ∃ x, mOn n x ∧ mNx n w x ∧ P x b k) := by
  have s1 := sh_w (sf := 1) (sr := 0) (d := 1) hN h (by omega) (by decide) (by decide)
  have s8 := sh_w (sf := -1) (sr := 1) (d := 8) hN h (by omega) (by decide) (by decide)
  have s9 := sh_w (sf := 0) (sr := 1) (d := 9) hN h (by omega) (by decide) (by decide)
  have s10 := sh_w (sf := 1) (sr := 1) (d := 10) hN h (by omega) (by decide) (by decide)
  refine (((s1.1.lor s1.2).lor (s8.1.lor s8.2)).lor ((s9.1.lor s9.2).lor (s10.1.lor s10.2))).iff (fun w b k hw hb hk => ?_)
  constructor
  · rintro (((⟨x, a1, a2, a3⟩ | ⟨x, a1, a2, a3⟩) | (⟨x, a1, a2, a3⟩ | ⟨x, a1, a2, a3⟩)) | ((⟨x, a1, a2, a3⟩ | ⟨x, a1, a2, a3⟩) | (⟨x, a1, a2, a3⟩ | ⟨x, a1, a2, a3⟩))) <;> exact ⟨x, a1, (by unfold stp at a2; unfold mNx; omega), a3⟩
  · rintro ⟨x, a1, a2, a3⟩
    rcases (nx_stp hN).mp a2 with (a | a) | (a | a) | (a | a) | (a | a)
    · exact Or.inl (Or.inl (Or.inl ⟨x, a1, a, a3⟩))
    · exact Or.inl (Or.inl (Or.inr ⟨x, a1, a, a3⟩))
    · exact Or.inl (Or.inr (Or.inl ⟨x, a1, a, a3⟩))
    · exact Or.inl (Or.inr (Or.inr ⟨x, a1, a, a3⟩))
    · exact Or.inr (Or.inl (Or.inl ⟨x, a1, a, a3⟩))
    · exact Or.inr (Or.inl (Or.inr ⟨x, a1, a, a3⟩))
    · exact Or.inr (Or.inr (Or.inl ⟨x, a1, a, a3⟩))
    · exact Or.inr (Or.inr (Or.inr ⟨x, a1, a, a3⟩))
theorem bU_b {X : Nat} {P : Int → Int → Int → Prop} (hN : mN n) (h : bSem n X P) : bOs n (bU 91 X) (fun w b k => ∃ x, mOn n x ∧ mNx n b x ∧ P w x k) := by
  have s1 := sh_b (sf := 1) (sr := 0) (d := 1) hN h (by omega) (by decide) (by decide)
  have s8 := sh_b (sf := -1) (sr := 1) (d := 8) hN h (by omega) (by decide) (by decide)
  have s9 := sh_b (sf := 0) (sr := 1) (d := 9) hN h (by omega) (by decide) (by decide)
  have s10 := sh_b (sf := 1) (sr := 1) (d := 10) hN h (by omega) (by decide) (by decide)
  refine (((s1.1.lor s1.2).lor (s8.1.lor s8.2)).lor ((s9.1.lor s9.2).lor (s10.1.lor s10.2))).iff (fun w b k hw hb hk => ?_)
  constructor
  · rintro (((⟨x, a1, a2, a3⟩ | ⟨x, a1, a2, a3⟩) | (⟨x, a1, a2, a3⟩ | ⟨x, a1, a2, a3⟩)) | ((⟨x, a1, a2, a3⟩ | ⟨x, a1, a2, a3⟩) | (⟨x, a1, a2, a3⟩ | ⟨x, a1, a2, a3⟩))) <;> exact ⟨x, a1, (by unfold stp at a2; unfold mNx; omega), a3⟩
  · rintro ⟨x, a1, a2, a3⟩
    rcases (nx_stp hN).mp a2 with (a | a) | (a | a) | (a | a) | (a | a)
    · exact Or.inl (Or.inl (Or.inl ⟨x, a1, a, a3⟩))
    · exact Or.inl (Or.inl (Or.inr ⟨x, a1, a, a3⟩))
    · exact Or.inl (Or.inr (Or.inl ⟨x, a1, a, a3⟩))
    · exact Or.inl (Or.inr (Or.inr ⟨x, a1, a, a3⟩))
    · exact Or.inr (Or.inl (Or.inl ⟨x, a1, a, a3⟩))
    · exact Or.inr (Or.inl (Or.inr ⟨x, a1, a, a3⟩))
    · exact Or.inr (Or.inr (Or.inl ⟨x, a1, a, a3⟩))
    · exact Or.inr (Or.inr (Or.inr ⟨x, a1, a, a3⟩))
end BS
