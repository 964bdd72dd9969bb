/-- all moves of a position -/
def mvP (n m w b k t c : Int) : Prop := (∃ x, mOn n x ∧ mK n m w b k t x ∧ c = mCd (mKs w b t) x (-1)) ∨ (t = 0 ∧ ((∃ x, mOn n x ∧ mMn n m w b k x ∧ c = mCd k x (-1)) ∨ (mPr n m w b k ∧ ∃ q, (0 ≤ q ∧ q ≤ 3) ∧ c = mCd k (k + n) q)))
/-- how many below -/
def cN (p : Nat → Bool) : Nat → Nat
  | 0 => 0
  | i + 1 => cN p i + cond (p i) 1 0
theorem cN_mono {p : Nat → Bool} {i j : Nat} (h : i ≤ j) : cN p i ≤ cN p j := by
  induction h with
  | refl => exact Nat.le_refl _
  | step _ ih => exact Nat.le_trans ih (Nat.le_add_right _ _)
def alB (n k x : Nat) : Bool := !(Nat.beq (x % n) (k % n) && Nat.beq (x / n) (k / n)) && (Nat.beq (x % n) (k % n) || (Nat.beq (x / n) (k / n) || (Nat.beq (x % n + k / n) (x / n + k % n) || Nat.beq (x % n + x / n) (k % n + k / n))))
def alOK (n : Nat) : Bool := Nat.rec true (fun k ih => ih && Nat.ble (cN (alB n k) (n * n)) 27) (n * n)
theorem alOK_all : alOK 4 = true ∧ alOK 5 = true ∧ alOK 6 = true ∧ alOK 7 = true ∧ alOK 8 = true := by decide +kernel
theorem alOK_le {n : Nat} (h : alOK n = true) {k : Nat} (hk : k < n * n) : cN (alB n k) (n * n) ≤ 27 := by
  have key : ∀ j : Nat, (Nat.rec true (fun k ih => ih && Nat.ble (cN (alB n k) (n * n)) 27) j : Bool) = true → k < j → cN (alB n k) (n * n) ≤ 27 := by
    intro j
    induction j with
    | zero => intro _ q; exact absurd q (Nat.not_lt_zero k)
    | succ j ih =>
      intro q hj
      have q : ((Nat.rec true (fun k ih => ih && Nat.ble (cN (alB n k) (n * n)) 27) j : Bool) && Nat.ble (cN (alB n j) (n * n)) 27) = true := q
      rw [Bool.and_eq_true] at q
      rcases Nat.lt_or_eq_of_le (Nat.lt_succ_iff.mp hj) with g | g
      · exact ih q.1 g
      · rw [g]; exact Nat.le_of_ble_eq_true q.2
  exact key (n * n) h hk
theorem nbf {a b : Nat} : Nat.beq a b = false ↔ a ≠ b := by rw [← Bool.not_eq_true, Nat.beq_eq]
theorem alB_of {n k x : Int} (hN : mN n) (hk : mOn n k) (hx : mOn n x) (h : mAl n 0 k x) : alB n.toNat k.toNat x.toNat = true := by
  unfold alB
  have c : ∀ a b : Int, 0 ≤ a → 0 ≤ b → (a.toNat % b.toNat = (a % b).toNat ∧ a.toNat / b.toNat = (a / b).toNat) := fun a b h1 h2 => ⟨(Int.toNat_emod h1 h2).symm, by
    obtain ⟨a, rfl⟩ := Int.eq_ofNat_of_zero_le h1
    obtain ⟨b, rfl⟩ := Int.eq_ofNat_of_zero_le h2
    rfl⟩
  have e1 := mSq hN hk
  have e2 := mSq hN hx
  obtain ⟨c1, c2⟩ := c x n (by omega) (by omega)
  obtain ⟨c3, c4⟩ := c k n (by omega) (by omega)
  rw [c1, c2, c3, c4]
  unfold mAl at h
  simp only [Bool.and_eq_true, Bool.or_eq_true, Bool.not_eq_true', Bool.and_eq_false_iff, Nat.beq_eq, nbf] 
  omega
theorem al_le {n k : Int} (hN : mN n) (hk : mOn n k) : cN (alB n.toNat k.toNat) (n * n).toNat ≤ 27 := by
  have hall := alOK_all
  have e1 := mSq hN hk
  have key : ∀ j : Nat, (n = j) → alOK j = true → cN (alB n.toNat k.toNat) (n * n).toNat ≤ 27 := by
    rintro j rfl h
    have := alOK_le h (k := k.toNat) (by have := hk.2; omega)
    exact this
  rcases mN_cases hN with e | e | e | e | e
  · exact key 4 e hall.1
  · exact key 5 e hall.2.1
  · exact key 6 e hall.2.2.1
  · exact key 7 e hall.2.2.2.1
  · exact key 8 e hall.2.2.2.2
section FJ
variable {kd : gKd} {ln : gLn} {M : gM} {r n m w b k t : Int}
theorem sX7_find_59 {post : gM → Prop} {k20 : Int → Int → gM → Prop} {k29 : Int → Int → Int → gM → Prop} {f g y : Int} {cnt : Nat} (hN : mN n) (hl : mLn7 ln r) (hn : rN n r M) (hm : 0 ≤ m ∧ m ≤ 2) (hw : mOn n w) (hb : mOn n b) (hk : mOn n k) (ht : t = 0 ∨ t = 1) (hL : mLg n m w b k t) (hf : -1 ≤ f ∧ f ≤ 1) (hg : -1 ≤ g ∧ g ≤ 1) (hy : (y = -1 ∧ ∀ x, mOn n x → mK n m w b k t x → x % n - mKs w b t % n = f → x / n - mKs w b t / n = g → False) ∨ (mOn n y ∧ y % n - mKs w b t % n = f ∧ y / n - mKs w b t / n = g ∧ ¬ (f = 0 ∧ g = 0))) (hd : mHd r (mV m w b k t) M cnt (mKp n m w b k t f g)) (hc : cnt < 48) (hk9 : ∀ M' (cnt' : Nat), cnt' ≤ cnt + 1 → mHd r (mV m w b k t) M' cnt' (mKp n m w b k t f (g + 1)) → Ch r mSl M M' → k29 (mKs w b t) f (g + 1) M') : wX7_find_59 kd ln post r m w b k t k20 k29 (mKs w b t) f g y M := by
  rcases ht with rfl | rfl
  · exact sX7_find_59w hN hl hn hm hw hb hk hL hf hg hy hd hc hk9
  · exact sX7_find_59b hN hl hn hm hw hb hk hL hf hg hy hd hc hk9
theorem sX7_find_29 {post : gM → Prop} {k20 : Int → Int → gM → Prop} {M0 : gM} {f : Int} (hN : mN n) (hl : mLn7 ln r) (hn : rN n r M0) (hm : 0 ≤ m ∧ m ≤ 2) (hw : mOn n w) (hb : mOn n b) (hk : mOn n k) (ht : t = 0 ∨ t = 1) (hL : mLg n m w b k t) (hf : -1 ≤ f ∧ f ≤ 1) (h20 : ∀ M' (cnt' : Nat), mHd r (mV m w b k t) M' cnt' (mKp n m w b k t f 2) → (cnt' : Int) ≤ 3 * (f + 1) + 3 → Ch r mSl M0 M' → k20 (mKs w b t) (f + 1) M') :
    ∀ (j : Nat) (g : Int) (M : gM) (cnt : Nat), -1 ≤ g → g ≤ 2 → mHd r (mV m w b k t) M cnt (mKp n m w b k t f g) → (cnt : Int) ≤ 3 * (f + 1) + (g + 1) → Ch r mSl M0 M → 2 - g < j → wX7_find_29 kd ln post r m w b k t k20 j (mKs w b t) f g M := by
  have hs : mOn n (mKs w b t) := by rcases ht with rfl | rfl <;> assumption
  have e1 := mSq hN hs
  intro j
  induction j with
  | zero => intro g M cnt h1 h2 hd hc hC hj; omega
  | succ j ih =>
    intro g M cnt h1 h2 hd hc hC hj
    have hn' := hn.ch hC (by decide) (by decide)
    have nxt : g ≤ 1 → ∀ M' (cnt' : Nat), cnt' ≤ cnt + 1 → mHd r (mV m w b k t) M' cnt' (mKp n m w b k t f (g + 1)) → Ch r mSl M M' → wX7_find_29 kd ln post r m w b k t k20 j (mKs w b t) f (g + 1) M' := fun q M' cnt' q1 q2 q3 => ih (g + 1) M' cnt' (by omega) (by omega) q2 (by omega) (hC.tr q3) (by omega)
    have go : g ≤ 1 → ¬ (f = 0 ∧ g = 0) → wX7_find_49 kd ln post r m w b k t k20 (wX7_find_29 kd ln post r m w b k t k20 j) (mKs w b t) f g M := fun q q0 => by
      unfold wX7_find_49
      refine sX7_off hN hn'.1 hs (by omega) (by omega) (fun q1 => fun _ => ?_) (fun q1 => fun _ => ?_)
      · have e2 := mSq_of hN (f := mKs w b t % n + f) (r := mKs w b t / n + g) q1.1 q1.2
        exact sX7_find_59 hN hl hn' hm hw hb hk ht hL hf (by omega) (Or.inr ⟨e2.1, by omega, by omega, q0⟩) hd (by omega) (nxt q)
      · refine sX7_find_59 hN hl hn' hm hw hb hk ht hL hf (by omega) (Or.inl ⟨rfl, fun x hx _ q2 q3 => q1 ?_⟩) hd (by omega) (nxt q)
        have e3 := mSq hN hx
        omega
    unfold wX7_find_29
    refine ⟨by omega, fun q => ?_, fun q => ⟨by omega, fun q1 => go (by omega) (by omega), fun q1 => ⟨fun q2 => go (by omega) (by omega), fun q2 => ?_⟩⟩⟩
    · have : g = 2 := by omega
      subst this
      exact h20 M cnt hd (by omega) hC
    · refine sX7_find_59 hN hl hn' hm hw hb hk ht hL hf (by omega) (Or.inl ⟨rfl, fun x hx q3 q4 q5 => ?_⟩) hd (by omega) (nxt (by omega))
      have := (mK_nx q3).1
      omega
theorem sX7_find_20 {post : gM → Prop} {M0 : gM} (hN : mN n) (hl : mLn7 ln r) (hn : rN n r M0) (hm : 0 ≤ m ∧ m ≤ 2) (hw : mOn n w) (hb : mOn n b) (hk : mOn n k) (ht : t = 0 ∨ t = 1) (hL : mLg n m w b k t) (h279 : ∀ M' (cnt' : Nat), mHd r (mV m w b k t) M' cnt' (fun c => ∃ x, mOn n x ∧ mK n m w b k t x ∧ c = mCd (mKs w b t) x (-1)) → cnt' ≤ 9 → Ch r mSl M0 M' → t ≠ 0 ∨ m = 2 → wX7_find_279 kd ln post r m w b k t M') (h224 : ∀ M' (cnt' : Nat), mHd r (mV m w b k t) M' cnt' (fun c => ∃ x, mOn n x ∧ mK n m w b k t x ∧ c = mCd (mKs w b t) x (-1)) → cnt' ≤ 9 → Ch r mSl M0 M' → t = 0 → m ≠ 2 → ∃ j, wX7_find_224 kd ln post r m w b k t j 0 M') :
    ∀ (j : Nat) (f : Int) (M : gM) (cnt : Nat), -1 ≤ f → f ≤ 2 → mHd r (mV m w b k t) M cnt (mKp n m w b k t f (-1)) → (cnt : Int) ≤ 3 * (f + 1) → Ch r mSl M0 M → 2 - f < j → wX7_find_20 kd ln post r m w b k t j (mKs w b t) f M := by
  intro j
  induction j with
  | zero => intro f M cnt h1 h2 hd hc hC hj; omega
  | succ j ih =>
    intro f M cnt h1 h2 hd hc hC hj
    have nxs : ∀ x, mK n m w b k t x → -1 ≤ x % n - mKs w b t % n ∧ x % n - mKs w b t % n ≤ 1 ∧ -1 ≤ x / n - mKs w b t / n ∧ x / n - mKs w b t / n ≤ 1 := fun x q => by
      have := mK_nx q
      unfold mNx at this
      omega
    unfold wX7_find_20
    refine ⟨by omega, fun q => ?_, fun q => ?_⟩
    · have hd' : mHd r (mV m w b k t) M cnt (fun c => ∃ x, mOn n x ∧ mK n m w b k t x ∧ c = mCd (mKs w b t) x (-1)) := mHd_iff hd (fun c => by
        constructor
        · rintro ⟨x, a1, a2, a3, a4⟩; exact ⟨x, a1, a2, a4⟩
        · rintro ⟨x, a1, a2, a4⟩; exact ⟨x, a1, a2, by have := nxs x a2; omega, a4⟩)
      refine ⟨by omega, fun q1 => h279 M cnt hd' (by omega) hC (Or.inl q1), fun q1 => ⟨by omega, fun q2 => h279 M cnt hd' (by omega) hC (Or.inr (by omega)), fun q2 => h224 M cnt hd' (by omega) hC q1 (by omega)⟩⟩
    · refine ⟨4, sX7_find_29 hN hl hn hm hw hb hk ht hL (by omega) (fun M' cnt' a1 a2 a3 => ?_) 4 (-1) M cnt (by omega) (by omega) hd (by omega) hC (by omega)⟩
      refine ih (f + 1) M' cnt' (by omega) (by omega) (mHd_iff a1 (fun c => ?_)) (by omega) a3 (by omega)
      constructor
      · rintro ⟨x, b1, b2, b3, b4⟩; exact ⟨x, b1, b2, by have := nxs x b2; omega, b4⟩
      · rintro ⟨x, b1, b2, b3, b4⟩; exact ⟨x, b1, b2, by have := nxs x b2; omega, b4⟩
end FJ
