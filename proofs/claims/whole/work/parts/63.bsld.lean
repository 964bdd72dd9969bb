section BT
variable {n : Int}
/-- a way from k: t steps, all before the last in Q -/
def way (n sf sr : Int) (Q : Int → Prop) (k t x : Int) : Prop := (x % n = k % n + t * sf ∧ x / n = k / n + t * sr) ∧ ∀ s y, 1 ≤ s → s < t → mOn n y → y % n = k % n + s * sf → y / n = k / n + s * sr → Q y
theorem bR_sem {L : Nat} {QL : Int → Int → Int → Prop} {sf sr : Int} {sh : Nat → Nat} {R : Nat → Nat → Nat} (hN : mN n) (hs : (sf = -1 ∨ sf = 0 ∨ sf = 1) ∧ (sr = -1 ∨ sr = 0 ∨ sr = 1)) (hL : bSem n L QL) (hsh : ∀ X P, bSem n X P → bOs n (sh X) (fun w b k => ∃ k', mOn n k' ∧ stp n k sf sr k' ∧ P w b k')) (hR0 : ∀ X, R 0 X = 0) (hR : ∀ j X, R (j + 1) X = Nat.lor (sh X) (R j (Nat.land (sh X) L))) :
    ∀ (j : Nat) (X : Nat) (P : Int → Int → Int → Prop), bSem n X P → bOs n (R j X) (fun w b k => ∃ t x : Int, 1 ≤ t ∧ t ≤ (j : Int) ∧ mOn n x ∧ way n sf sr (QL w b) k t x ∧ P w b x) := by
  intro j
  induction j with
  | zero =>
    intro X P _
    rw [hR0]
    refine bOs.no ?_
    rintro w b k _ _ _ ⟨t, x, a1, a2, _⟩
    omega
  | succ j ih =>
    intro X P hX
    rw [hR]
    have h1 := hsh X P hX
    have h2 := ih _ _ (bSem.land' h1 hL)
    refine (h1.lor h2).iff (fun w b k hw hb hk => ?_)
    constructor
    · rintro (⟨x, a1, a2, a3⟩ | ⟨t, x, a1, a2, a3, a4, ⟨x', a5, a6, a7⟩, a8⟩)
      · exact ⟨1, x, by omega, by omega, a1, ⟨by unfold stp at a2; omega, fun s y s1 s2 => by omega⟩, a3⟩
      · refine ⟨t + 1, x', by omega, by omega, a5, ⟨?_, fun s y s1 s2 s3 s4 s5 => ?_⟩, a7⟩
        · unfold stp at a6
          rw [Int.add_mul, Int.add_mul]
          have := a4.1
          omega
        · rcases Int.lt_or_eq_of_le (show s ≤ t by omega) with g | g
          · exact a4.2 s y s1 g s3 s4 s5
          · subst g
            have : y = x := mSq_eq hN s3 a3 (by have := a4.1; omega) (by have := a4.1; omega)
            rw [this]; exact a8
    · rintro ⟨t, x, a1, a2, a3, a4, a5⟩
      rcases Int.lt_or_eq_of_le a1 with g | g
      · right
        have e1 := mSq hN hk
        have e2 := mSq hN a3
        -- the square before the last
        have hx0 : ∃ x0, mOn n x0 ∧ x0 % n = k % n + (t - 1) * sf ∧ x0 / n = k / n + (t - 1) * sr := by
          have q1 : 0 ≤ k % n + (t - 1) * sf ∧ k % n + (t - 1) * sf < n := by
            have := a4.1.1
            rcases hs.1 with rfl | rfl | rfl <;> omega
          have q2 : 0 ≤ k / n + (t - 1) * sr ∧ k / n + (t - 1) * sr < n := by
            have := a4.1.2
            rcases hs.2 with rfl | rfl | rfl <;> omega
          have := mSq_of hN q1 q2
          exact ⟨_, this.1, this.2.1, this.2.2⟩
        obtain ⟨x0, z1, z2, z3⟩ := hx0
        refine ⟨t - 1, x0, by omega, by omega, z1, ⟨⟨z2, z3⟩, fun s y s1 s2 s3 s4 s5 => a4.2 s y s1 (by omega) s3 s4 s5⟩, ⟨x, a3, ?_, a5⟩, a4.2 (t - 1) x0 (by omega) (by omega) z1 z2 z3⟩
        unfold stp
        have := a4.1
        rw [Int.sub_mul] at z2 z3
        omega
      · left
        subst g
        refine ⟨x, a3, ?_, a5⟩
        unfold stp
        have := a4.1
        omega
theorem bRp_sem {L X d : Nat} {QL P : Int → Int → Int → Prop} {sf sr : Int} (hN : mN n) (hL : bSem n L QL) (hX : bSem n X P) (hs : (sf = -1 ∨ sf = 0 ∨ sf = 1) ∧ (sr = -1 ∨ sr = 0 ∨ sr = 1)) (hd : 9 * sr + sf = d) (hd0 : 1 ≤ d) : bOs n (bRp L d 7 X) (fun w b k => ∃ t x : Int, 1 ≤ t ∧ t ≤ 7 ∧ mOn n x ∧ way n sf sr (QL w b) k t x ∧ P w b x) ∧ bOs n (bRm L d 7 X) (fun w b k => ∃ t x : Int, 1 ≤ t ∧ t ≤ 7 ∧ mOn n x ∧ way n (-sf) (-sr) (QL w b) k t x ∧ P w b x) := by
  constructor
  · exact bR_sem (R := fun j X => bRp L d j X) (sh := fun X => Nat.shiftRight X d) hN hs hL (fun X P h => (sh_k hN h hs hd hd0).1) (fun X => rfl) (fun j X => rfl) 7 X P hX
  · exact bR_sem (R := fun j X => bRm L d j X) (sh := fun X => Nat.shiftLeft X d) hN (by omega) hL (fun X P h => (sh_k hN h hs hd hd0).2) (fun X => rfl) (fun j X => rfl) 7 X P hX
/-- a way is a queen's way -/
theorem way_al {sf sr w b k t x : Int} (hs : (sf = -1 ∨ sf = 0 ∨ sf = 1) ∧ (sr = -1 ∨ sr = 0 ∨ sr = 1)) (h0 : ¬ (sf = 0 ∧ sr = 0)) (ht : 1 ≤ t) (hw : mOn n w) (hb : mOn n b) (h : way n sf sr (fun y => y ≠ w ∧ y ≠ b) k t x) : mAl n 0 k x ∧ mSg (x % n - k % n) = sf ∧ mSg (x / n - k / n) = sr ∧ ¬ mBt n k w x ∧ ¬ mBt n k b x := by
  obtain ⟨r1, r2, r3, r4⟩ := mLn_of hs.1 hs.2 h0 ht h.1.1 h.1.2
  have nb : ∀ y, mOn n y → (y = w ∨ y = b) → ¬ mBt n k y x := fun y hy hy2 q => by
    obtain ⟨q1, q2, q3, q4⟩ := (mBt_iff r1).mp q
    obtain ⟨z1, z2, z3⟩ := mLn_st q1
    rw [q2, r2] at z1
    rw [q3, r3] at z2
    have := h.2 (mLn n k y) y z3 (by omega) hy z1 z2
    rcases hy2 with e | e
    · exact this.1 e
    · exact this.2 e
  exact ⟨r1, r2, r3, nb w hw (Or.inl rfl), nb b hb (Or.inr rfl)⟩
theorem al_way {w b k x : Int} (hN : mN n) (hk : mOn n k) (hx : mOn n x) (h : mAl n 0 k x) (h1 : ¬ mBt n k w x) (h2 : ¬ mBt n k b x) : ∃ t, 1 ≤ t ∧ t ≤ 7 ∧ way n (mSg (x % n - k % n)) (mSg (x / n - k / n)) (fun y => y ≠ w ∧ y ≠ b) k t x := by
  obtain ⟨z1, z2, z3⟩ := mLn_st h
  have e1 := mSq hN hk
  have e2 := mSq hN hx
  have l7 : mLn n k x ≤ 7 := by
    have hn8 : n ≤ 8 := hN.2
    unfold mLn vL
    omega
  refine ⟨mLn n k x, z3, l7, ⟨z1, z2⟩, fun s y s1 s2 s3 s4 s5 => ?_⟩
  have r := mLn_of (mSg_c _) (mSg_c _) (mSg_nz h) s1 s4 s5
  have bt : mBt n k y x := (mBt_iff h).mpr ⟨r.1, r.2.1, r.2.2.1, by omega⟩
  exact ⟨fun e => h1 (e ▸ bt), fun e => h2 (e ▸ bt)⟩
/-- all ways of queen or rook -/
theorem bSd_sem {L X m : Nat} {QL P : Int → Int → Int → Prop} (hN : mN n) (hm : m = 0 ∨ m = 1) (hL : bSem n L QL) (hX : bSem n X P) (hQ : ∀ w b x, P w b x → ∀ y, mOn n y → (QL w b y ↔ (y ≠ w ∧ y ≠ b))) : bOs n (bSd m L X) (fun w b k => ∃ x, mOn n x ∧ mAl n m k x ∧ ¬ mBt n k w x ∧ ¬ mBt n k b x ∧ P w b x) := by
  have s1 := bRp_sem (sf := 1) (sr := 0) (d := 1) hN hL hX (by omega) (by decide) (by decide)
  have s9 := bRp_sem (sf := 0) (sr := 1) (d := 9) hN hL hX (by omega) (by decide) (by decide)
  have s8 := bRp_sem (sf := -1) (sr := 1) (d := 8) hN hL hX (by omega) (by decide) (by decide)
  have s10 := bRp_sem (sf := 1) (sr := 1) (d := 10) hN hL hX (by omega) (by decide) (by decide)
  -- one direction
  have one : ∀ (sf sr : Int), ((sf = -1 ∨ sf = 0 ∨ sf = 1) ∧ (sr = -1 ∨ sr = 0 ∨ sr = 1)) → ¬ (sf = 0 ∧ sr = 0) → (m = 1 → sf = 0 ∨ sr = 0) → ∀ w b k, mOn n w → mOn n b → mOn n k → (∃ t x : Int, 1 ≤ t ∧ t ≤ 7 ∧ mOn n x ∧ way n sf sr (QL w b) k t x ∧ P w b x) → ∃ x, mOn n x ∧ mAl n m k x ∧ ¬ mBt n k w x ∧ ¬ mBt n k b x ∧ P w b x := by
    rintro sf sr hs h0 hm1 w b k hw hb hk ⟨t, x, a1, a2, a3, a4, a5⟩
    have a4' : way n sf sr (fun y => y ≠ w ∧ y ≠ b) k t x := ⟨a4.1, fun s y s1 s2 s3 s4 s5 => (hQ w b x a5 y s3).mp (a4.2 s y s1 s2 s3 s4 s5)⟩
    obtain ⟨r1, r2, r3, r4, r5⟩ := way_al hs h0 a1 hw hb a4'
    refine ⟨x, a3, ?_, r4, r5, a5⟩
    have g := mAl_0.mp r1
    have t1 := mSg_t (x % n - k % n)
    have t2 := mSg_t (x / n - k / n)
    unfold mAl
    rcases hm with e | e
    · subst e; omega
    · subst e
      have := hm1 rfl
      omega
  have back : ∀ w b k x, mOn n w → mOn n b → mOn n k → mOn n x → mAl n 0 k x → ¬ mBt n k w x → ¬ mBt n k b x → P w b x → ∃ t x : Int, 1 ≤ t ∧ t ≤ 7 ∧ mOn n x ∧ way n (mSg (x % n - k % n)) (mSg (x / n - k / n)) (QL w b) k t x ∧ P w b x := by
    intro w b k x hw hb hk hx a1 a2 a3 a4
    obtain ⟨t, t1, t2, t3⟩ := al_way hN hk hx a1 a2 a3
    exact ⟨t, x, t1, t2, hx, ⟨t3.1, fun s y s1 s2 s3 s4 s5 => (hQ w b x a4 y s3).mpr (t3.2 s y s1 s2 s3 s4 s5)⟩, a4⟩
  have dir : ∀ w b k x, mOn n w → mOn n b → mOn n k → mOn n x → mAl n 0 k x → ¬ mBt n k w x → ¬ mBt n k b x → P w b x → ∀ sf sr : Int, mSg (x % n - k % n) = sf → mSg (x / n - k / n) = sr → ∃ t x : Int, 1 ≤ t ∧ t ≤ 7 ∧ mOn n x ∧ way n sf sr (QL w b) k t x ∧ P w b x := by
    intro w b k x hw hb hk hx a1 a2 a3 a4 sf sr e1 e2
    obtain ⟨t, t1, t2, t3⟩ := al_way hN hk hx a1 a2 a3
    rw [e1, e2] at t3
    exact ⟨t, x, t1, t2, hx, ⟨t3.1, fun s y s1 s2 s3 s4 s5 => (hQ w b x a4 y s3).mpr (t3.2 s y s1 s2 s3 s4 s5)⟩, a4⟩
  rcases hm with e | e
  · subst e
    refine (((s1.1.lor s1.2).lor (s9.1.lor s9.2)).lor ((s8.1.lor s8.2).lor (s10.1.lor s10.2))).iff (fun w b k hw hb hk => ?_)
    constructor
    · rintro (((a | a) | (a | a)) | ((a | a) | (a | a)))
      · exact one 1 0 (by omega) (by omega) (by omega) w b k hw hb hk a
      · exact one (-1) (-0) (by omega) (by omega) (by omega) w b k hw hb hk a
      · exact one 0 1 (by omega) (by omega) (by omega) w b k hw hb hk a
      · exact one (-0) (-1) (by omega) (by omega) (by omega) w b k hw hb hk a
      · exact one (-1) 1 (by omega) (by omega) (by omega) w b k hw hb hk a
      · exact one (-(-1)) (-1) (by omega) (by omega) (by omega) w b k hw hb hk a
      · exact one 1 1 (by omega) (by omega) (by omega) w b k hw hb hk a
      · exact one (-1) (-1) (by omega) (by omega) (by omega) w b k hw hb hk a
    · rintro ⟨x, a1, a2, a3, a4, a5⟩
      have d := dir w b k x hw hb hk a1 a2 a3 a4 a5
      have nz := mSg_nz a2
      rcases mSg_c (x % n - k % n) with g1 | g1 | g1 <;> rcases mSg_c (x / n - k / n) with g2 | g2 | g2
      · exact Or.inr (Or.inr (Or.inr (d (-1) (-1) g1 g2)))
      · exact Or.inl (Or.inl (Or.inr (d (-1) (-0) g1 g2)))
      · exact Or.inr (Or.inl (Or.inl (d (-1) 1 g1 g2)))
      · exact Or.inl (Or.inr (Or.inr (d (-0) (-1) g1 g2)))
      · exact absurd ⟨g1, g2⟩ nz
      · exact Or.inl (Or.inr (Or.inl (d 0 1 g1 g2)))
      · exact Or.inr (Or.inl (Or.inr (d (-(-1)) (-1) g1 g2)))
      · exact Or.inl (Or.inl (Or.inl (d 1 0 g1 g2)))
      · exact Or.inr (Or.inr (Or.inl (d 1 1 g1 g2)))
  · subst e
    have z : bOs n 0 (fun _ _ _ => False) := bOs.no (fun _ _ _ _ _ _ q => q)
    refine (((s1.1.lor s1.2).lor (s9.1.lor s9.2)).lor z).iff (fun w b k hw hb hk => ?_)
    constructor
    · rintro (((a | a) | (a | a)) | a)
      · exact one 1 0 (by omega) (by omega) (by omega) w b k hw hb hk a
      · exact one (-1) (-0) (by omega) (by omega) (by omega) w b k hw hb hk a
      · exact one 0 1 (by omega) (by omega) (by omega) w b k hw hb hk a
      · exact one (-0) (-1) (by omega) (by omega) (by omega) w b k hw hb hk a
      · exact a.elim
    · rintro ⟨x, a1, a2, a3, a4, a5⟩
      have a2' := mAl_01 a2
      have d := dir w b k x hw hb hk a1 a2' a3 a4 a5
      have t1 := mSg_t (x % n - k % n)
      have t2 := mSg_t (x / n - k / n)
      unfold mAl at a2
      rcases mSg_c (x % n - k % n) with g1 | g1 | g1 <;> rcases mSg_c (x / n - k / n) with g2 | g2 | g2
      · omega
      · exact Or.inl (Or.inl (Or.inr (d (-1) (-0) g1 g2)))
      · omega
      · exact Or.inl (Or.inr (Or.inr (d (-0) (-1) g1 g2)))
      · omega
      · exact Or.inl (Or.inr (Or.inl (d 0 1 g1 g2)))
      · omega
      · exact Or.inl (Or.inl (Or.inl (d 1 0 g1 g2)))
      · omega
end BT
