theorem bIt_0 (n m : Nat) (P : Nat → Nat) : bIt n m P 0 = (0, bMt n m) := rfl
theorem bIt_s (n m : Nat) (P : Nat → Nat) (d : Nat) : bIt n m P (d + 1) = (bWs n m (P d) (bIt n m P d).2 (bIt n m P d).1, bBs n m (bIt n m P d).2 (bIt n m P d).1) := rfl
section BX
variable {n : Int} {nn m : Nat}
theorem Mt_sem (en : (nn : Int) = n) (hN : mN n) (hm : m ≤ 2) : bSem n (bMt nn m) (fun w b k => mD n m 0 w b k 1) := by
  unfold bMt
  refine ((((B_sem en hN hm).land (At_os en hN hm)).df (Cp_os en hN)).df (bU_b hN (W_sem en hN hm))).iff (fun w b k hw hb hk => ?_)
  rw [mD_zero]
  constructor
  · rintro ⟨⟨⟨a1, a2⟩, a3⟩, a4⟩
    refine ⟨rfl, a1, a2.2, fun x hx q => ?_⟩
    rcases (bk_split hw a1).mp q with ⟨q1, q2, q3⟩ | ⟨q1, q2, q3⟩
    · exact a3 ⟨a2.1, Or.inr q2, fun g => g.elim (fun e => a1.2.1 e) q3⟩
    · exact a4 ⟨x, hx, q2, q3⟩
  · rintro ⟨_, a1, a2, a3⟩
    refine ⟨⟨⟨a1, ⟨a1.1, a1.2.2.2.1⟩, a2⟩, fun q => ?_⟩, ?_⟩
    · have q2 := q.2.1.resolve_left a1.2.2.1
      exact a3 k hk ((bk_split hw a1).mpr (Or.inl ⟨rfl, q2, fun g => q.2.2 (Or.inr g)⟩))
    · rintro ⟨x, hx, q2, q3⟩
      exact a3 x hx ((bk_split hw a1).mpr (Or.inr ⟨q3.2.2.1, q2, q3⟩))
/-- men's moves -/
theorem Mv_os {X : Nat} {P : Int → Int → Int → Prop} (en : (nn : Int) = n) (hN : mN n) (hm : m ≤ 2) (hX : bSem n X P) (hP : ∀ w b k, P w b k → mLg n m w b k 1) : bOs n (bMv nn m X) (fun w b k => ∃ x, mOn n x ∧ mMn n m w b k x ∧ P w b x ∧ (m = 2 → x = k + n ∨ (k ≠ w ∧ k ≠ b))) := by
  have h4 : 4 ≤ n := hN.1
  unfold bMv
  have sl : ∀ m' : Nat, m = m' → (m' = 0 ∨ m' = 1) → bOs n (bSd m' (bLB nn 0 (nn - 1)) X) (fun w b k => ∃ x, mOn n x ∧ mMn n m w b k x ∧ P w b x ∧ (m = 2 → x = k + n ∨ (k ≠ w ∧ k ≠ b))) := fun m' e hm' => by
    subst e
    refine (bSd_sem hN hm' (LB_sem 0 (nn - 1) en hN (by omega)) hX (fun w b x q y hy => LB0_q (k := 0) en hN ⟨(hP _ _ _ q).1, (hP _ _ _ q).2.2.2.1⟩ y hy)).iff (fun w b k hw hb hk => ?_)
    constructor
    · rintro ⟨x, a1, a2, a3, a4, a5⟩
      exact ⟨x, a1, Or.inl ⟨by omega, a2, a3, a4, fun e => (hP _ _ _ a5).2.1 e.symm, fun e => (hP _ _ _ a5).2.2.1 e.symm⟩, a5, fun e => by omega⟩
    · rintro ⟨x, a1, a2 | a2, a5, _⟩
      · exact ⟨x, a1, a2.2.1, a2.2.2.1, a2.2.2.2.1, a5⟩
      · omega
  rcases (show m = 0 ∨ m = 1 ∨ m = 2 by omega) with e | e | e
  · have := sl 0 e (Or.inl rfl)
    rw [e] at this ⊢
    rw [show Nat.beq 0 2 = false from rfl, cond_false]
    exact this
  · have := sl 1 e (Or.inr rfl)
    rw [e] at this ⊢
    rw [show Nat.beq 1 2 = false from rfl, cond_false]
    exact this
  · subst e
    rw [show Nat.beq 2 2 = true from rfl, cond_true]
    have s1 := (sh_k (sf := 0) (sr := 1) (d := 9) hN hX (by omega) (by decide) (by decide)).1
    have L0 := LB_sem (nn := nn) 0 (nn - 1) en hN (by omega)
    have s2 := (sh_k (sf := 0) (sr := 1) (d := 9) hN (bSem.land' s1 L0) (by omega) (by decide) (by decide)).1
    have L1 := LB_sem (nn := nn) 1 1 en hN (by omega)
    refine (s1.lor ((L1.land s2).os hN)).iff (fun w b k hw hb hk => ?_)
    have up : ∀ k x, mOn n k → mOn n x → (stp n k 0 1 x ↔ x = k + n) := fun k x hk hx => by
      have e1 := mSq hN hk
      have e2 := mSq hN hx
      unfold stp
      constructor
      · rintro ⟨q1, q2⟩
        have u := mUp hN hk (by omega)
        exact mSq_eq hN hx u.1 (by omega) (by omega)
      · intro q
        subst q
        have u := mUp hN hk (by
          rcases mN_cases hN with rfl | rfl | rfl | rfl | rfl <;> omega)
        omega
    constructor
    · rintro (⟨x, a1, a2, a3⟩ | ⟨⟨a1, a2⟩, x, a3, a4, ⟨x', a5, a6, a7⟩, a8⟩)
      · have e := (up k x hk a1).mp a2
        have l := hP _ _ _ a3
        subst e
        exact ⟨k + n, a1, Or.inr ⟨rfl, fun e => l.2.1 e.symm, fun e => l.2.2.1 e.symm, fun e => l.2.1 e.symm, fun e => l.2.2.1 e.symm, by have := l.2.2.2.2.1 rfl; omega, Or.inl rfl⟩, a3, fun _ => Or.inl rfl⟩
      · have e := (up k x hk a3).mp a4
        have e' := (up x x' a3 a5).mp a6
        have l := hP _ _ _ a7
        subst e e'
        exact ⟨k + n + n, a5, Or.inr ⟨rfl, a8.2.1, a8.2.2.1, fun e => l.2.1 e.symm, fun e => l.2.2.1 e.symm, by have := l.2.2.2.2.1 rfl; omega, Or.inr ⟨rfl, by omega⟩⟩, a7, fun _ => Or.inr ⟨a2.1, a2.2.1⟩⟩
    · rintro ⟨x, a1, a2 | ⟨_, b1, b2, b3, b4, b5, b6⟩, a3, a9⟩
      · exact absurd rfl a2.1
      · have l := hP _ _ _ a3
        rcases b6 with b6 | ⟨b6, b7⟩
        · exact Or.inl ⟨x, a1, (up k x hk a1).mpr b6, a3⟩
        · have hn0 : x ≠ k + n := by omega
          obtain ⟨c1, c2⟩ := (a9 rfl).resolve_left hn0
          have u := mUp hN hk (by omega)
          have u2 : mOn n (k + n) := u.1
          refine Or.inr ⟨⟨⟨l.1, l.2.2.2.1⟩, c1, c2, by omega, by omega⟩, k + n, u2, (up k (k + n) hk u2).mpr rfl, ⟨x, a1, (up (k + n) x u2 a1).mpr b6, a3⟩, ⟨l.1, l.2.2.2.1⟩, b1, b2, ?_⟩
          have := mSq hN u2
          omega
/-- one step of both sets -/
theorem It_step {B W P : Nat} {d : Nat} (en : (nn : Int) = n) (hN : mN n) (hm : m ≤ 2) (hW : bSem n W (fun w b k => mD n m d w b k 0)) (hB : bSem n B (fun w b k => mD n m d w b k 1)) (hP : bSem n P (fun w b k => m = 2 ∧ mPq n d w b k)) : bSem n (bWs nn m P B W) (fun w b k => mD n m (d + 1) w b k 0) ∧ bSem n (bBs nn m B W) (fun w b k => mD n m (d + 1) w b k 1) := by
  have h4 : 4 ≤ n := hN.1
  constructor
  · unfold bWs
    have s9 := (sh_k (sf := 0) (sr := 1) (d := 9) hN hP (by omega) (by decide) (by decide)).1
    have Lp := LB_sem (nn := nn) (nn - 2) (nn - 2) en hN (by omega)
    refine (hW.lor ((W_sem en hN hm).land (((bU_w hN hB).lor (Mv_os en hN hm hB (fun w b k q => mD_legal q))).lor ((Lp.land s9).os hN)))).iff (fun w b k hw hb hk => ?_)
    rw [mD_white]
    constructor
    · rintro (a | ⟨a, (⟨x, a1, a2, a3⟩ | ⟨x, a1, a2, a3, _⟩) | ⟨⟨a1, a2⟩, x, a3, a4, a5, a6⟩⟩)
      · exact Or.inl a
      · have l := mD_legal a3
        exact Or.inr ⟨a, Or.inl ⟨x, a1, ⟨a2, fun q => l.2.2.2.1 (mNx_sym.mp q), l.1, l.2.1⟩, a3⟩⟩
      · exact Or.inr ⟨a, Or.inr (Or.inl ⟨x, a1, a2, a3⟩)⟩
      · have u := mUp hN hk (by omega)
        have ex : x = k + n := mSq_eq hN a3 u.1 (by unfold stp at a4; omega) (by unfold stp at a4; omega)
        subst ex
        have l : w ≠ k + n ∧ b ≠ k + n := by
          rcases mPq_D.mp a6 with q | q
          · exact ⟨(mD_legal q).2.1, (mD_legal q).2.2.1⟩
          · exact ⟨(mD_legal q).2.1, (mD_legal q).2.2.1⟩
        exact Or.inr ⟨a, Or.inr (Or.inr ⟨⟨by omega, by omega, fun e => l.1 e.symm, fun e => l.2 e.symm⟩, a6⟩)⟩
    · rintro (a | ⟨a, ⟨x, a1, a2, a3⟩ | ⟨x, a1, a2, a3⟩ | ⟨a1, a2⟩⟩)
      · exact Or.inl a
      · exact Or.inr ⟨a, Or.inl (Or.inl ⟨x, a1, a2.1, a3⟩)⟩
      · exact Or.inr ⟨a, Or.inl (Or.inr ⟨x, a1, a2, a3, fun _ => Or.inr ⟨fun e => a.2.1 e.symm, fun e => a.2.2.1 e.symm⟩⟩)⟩
      · have u := mUp hN hk (by have := a1.2.1; omega)
        refine Or.inr ⟨a, Or.inr ⟨⟨⟨a.1, a.2.2.2.1⟩, fun e => a.2.1 e.symm, fun e => a.2.2.1 e.symm, by have := a1.2.1; omega⟩, k + n, u.1, by unfold stp; omega, by have := a1.1; omega, a2⟩⟩
  · unfold bBs
    refine (hB.lor ((((B_sem en hN hm).land (bU_b hN (W_sem en hN hm))).df (Cp_os en hN)).df (bU_b hN ((W_sem en hN hm).df (hW.os hN))))).iff (fun w b k hw hb hk => ?_)
    rw [mD_black]
    constructor
    · rintro (a | ⟨⟨⟨a1, ⟨x, x1, x2, x3⟩⟩, a3⟩, a4⟩)
      · exact Or.inl a
      · refine Or.inr ⟨a1, ⟨x, x1, (bk_split hw a1).mpr (Or.inr ⟨x3.2.2.1, x2, x3⟩)⟩, fun y y1 y2 => ?_⟩
        rcases (bk_split hw a1).mp y2 with ⟨q1, q2, q3⟩ | ⟨q1, q2, q3⟩
        · exact absurd ⟨⟨a1.1, a1.2.2.2.1⟩, Or.inr q2, fun g => g.elim (fun e => a1.2.1 e) q3⟩ a3
        · exact ⟨q1, Classical.byContradiction fun g => a4 ⟨y, y1, q2, q3, g⟩⟩
    · rintro (a | ⟨a1, ⟨x, x1, x2⟩, a3⟩)
      · exact Or.inl a
      · have nocap : ¬ (vP n w b ∧ ((b = k ∨ mNx n b k) ∧ ¬ (w = k ∨ mNx n w k))) := fun q => by
          have q2 := q.2.1.resolve_left a1.2.2.1
          have := a3 k hk ((bk_split hw a1).mpr (Or.inl ⟨rfl, q2, fun g => q.2.2 (Or.inr g)⟩))
          exact this.1 rfl
        have xx := a3 x x1 x2
        rcases (bk_split hw a1).mp x2 with ⟨q1, _, _⟩ | ⟨q1, q2, q3⟩
        · exact absurd q1 xx.1
        · refine Or.inr ⟨⟨⟨a1, ⟨x, x1, q2, q3⟩⟩, nocap⟩, ?_⟩
          rintro ⟨y, y1, y2, y3, y4⟩
          exact y4 (a3 y y1 ((bk_split hw a1).mpr (Or.inr ⟨y3.2.2.1, y2, y3⟩))).2
theorem It_all {P : Nat → Nat} (en : (nn : Int) = n) (hN : mN n) (hm : m ≤ 2) (hP : ∀ d, bSem n (P d) (fun w b k => m = 2 ∧ mPq n d w b k)) (d : Nat) : bSem n (bIt nn m P d).1 (fun w b k => mD n m d w b k 0) ∧ bSem n (bIt nn m P d).2 (fun w b k => mD n m d w b k 1) := by
  induction d with
  | zero =>
    rw [bIt_0]
    refine ⟨fun i => ?_, Mt_sem en hN hm⟩
    rw [Nat.zero_testBit]
    refine ⟨fun q => absurd q (by decide), ?_⟩
    rintro ⟨w, b, k, _, _, _, q, _⟩
    exact absurd (mD_zero.mp q).1 (by decide)
  | succ d ih =>
    rw [bIt_s]
    exact It_step en hN hm ih.1 ih.2 (hP d)
theorem bSem_0 {Q : Int → Int → Int → Prop} (h : ∀ w b k, ¬ Q w b k) : bSem n 0 Q := fun i => by
  rw [Nat.zero_testBit]
  refine ⟨fun q => absurd q (by decide), ?_⟩
  rintro ⟨w, b, k, _, _, _, q, _⟩
  exact absurd q (h w b k)
/-- what is the same at two layers stays -/
theorem st_bd {d0 : Nat} {P : Nat → Nat} (en : (nn : Int) = n) (hN : mN n) (hm : m ≤ 2) (hP : ∀ d, bSem n (P d) (fun w b k => m = 2 ∧ mPq n d w b k)) (hst : ∀ d, d0 ≤ d → m = 2 → ∀ w b k, mOn n w → mOn n b → mOn n k → mPq n d w b k → mPq n d0 w b k) (h : bEq (bIt nn m P d0) (bIt nn m P (d0 + 1)) = true) : ∀ d, ∀ w b k t, mOn n w → mOn n b → mOn n k → mD n m d w b k t → mD n m d0 w b k t := by
  unfold bEq at h
  rw [Bool.and_eq_true, Nat.beq_eq, Nat.beq_eq] at h
  obtain ⟨I1, I2⟩ := It_all en hN hm hP d0
  obtain ⟨J1, J2⟩ := It_all en hN hm hP (d0 + 1)
  rw [← h.1] at J1
  rw [← h.2] at J2
  have e0 : ∀ w b k, mOn n w → mOn n b → mOn n k → mD n m (d0 + 1) w b k 0 → mD n m d0 w b k 0 := fun w b k hw hb hk q => (I1.os hN w b k hw hb hk).mp ((J1.os hN w b k hw hb hk).mpr q)
  have e1 : ∀ w b k, mOn n w → mOn n b → mOn n k → mD n m (d0 + 1) w b k 1 → mD n m d0 w b k 1 := fun w b k hw hb hk q => (I2.os hN w b k hw hb hk).mp ((J2.os hN w b k hw hb hk).mpr q)
  have up : ∀ d, d0 ≤ d → ∀ w b k t, mOn n w → mOn n b → mOn n k → mD n m d w b k t → mD n m d0 w b k t := by
    intro d hd
    induction hd with
    | refl => intro w b k t _ _ _ q; exact q
    | @step d hd ih =>
      intro w b k t hw hb hk q
      rcases mD_turn q with rfl | rfl
      · refine e0 w b k hw hb hk (mD_white.mpr ?_)
        rcases mD_white.mp q with q | ⟨q0, ⟨x, a1, a2, a3⟩ | ⟨x, a1, a2, a3⟩ | ⟨a1, a2⟩⟩
        · exact Or.inl (ih w b k 0 hw hb hk q)
        · exact Or.inr ⟨q0, Or.inl ⟨x, a1, a2, ih x b k 1 a1 hb hk a3⟩⟩
        · exact Or.inr ⟨q0, Or.inr (Or.inl ⟨x, a1, a2, ih w b x 1 hw hb a1 a3⟩)⟩
        · have hr := q0.2.2.2.2.1 a1.1
          have u := mUp hN hk (by omega)
          exact Or.inr ⟨q0, Or.inr (Or.inr ⟨a1, hst d hd (by have := a1.1; omega) w b (k + n) hw hb u.1 a2⟩)⟩
      · refine e1 w b k hw hb hk (mD_black.mpr ?_)
        rcases mD_black.mp q with q | ⟨q0, q1, q2⟩
        · exact Or.inl (ih w b k 1 hw hb hk q)
        · exact Or.inr ⟨q0, q1, fun x a1 a2 => ⟨(q2 x a1 a2).1, ih w x k 0 hw a1 hk (q2 x a1 a2).2⟩⟩
  intro d w b k t hw hb hk q
  rcases Nat.lt_or_ge d d0 with g | g
  · exact mD_mono q (by omega)
  · exact up d g w b k t hw hb hk q
end BX
