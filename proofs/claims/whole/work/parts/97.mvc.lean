/-! HOW MANY MOVES -/
theorem sIn_sub {a b : Nat} {f g : Nat → Int} {p q : Int → Prop} (hf : sIn a f p) (hg : sIn b g q) (h : ∀ c, p c → q c) : a ≤ b := by
  have key : ∀ i, i < a → ∃ j, i ≤ j ∧ j < b ∧ g j = f i := by
    intro i
    induction i with
    | zero =>
      intro hi
      obtain ⟨j, hj, e⟩ := (hg.2 (f 0)).mp (h _ ((hf.2 (f 0)).mpr ⟨0, hi, rfl⟩))
      exact ⟨j, Nat.zero_le _, hj, e⟩
    | succ i ih =>
      intro hi
      obtain ⟨j0, h1, h2, h3⟩ := ih (by omega)
      obtain ⟨j, hj, e⟩ := (hg.2 (f (i + 1))).mp (h _ ((hf.2 (f (i + 1))).mpr ⟨i + 1, hi, rfl⟩))
      have lt := hf.1 i (i + 1) (Nat.lt_succ_self i) hi
      refine ⟨j, ?_, hj, e⟩
      rcases Nat.lt_or_ge j0 j with g1 | g1
      · omega
      · exfalso
        rcases Nat.lt_or_eq_of_le g1 with g2 | g2
        · have := hg.1 j j0 g2 h2; omega
        · rw [g2] at e; omega
  rcases Nat.eq_zero_or_pos a with g | g
  · omega
  · obtain ⟨j, h1, h2, -⟩ := key (a - 1) (by omega)
    omega
theorem sIn_app {cnt : Nat} {f : Nat → Int} {p : Int → Prop} {c : Int} (h : sIn cnt f p) (hc : ∀ y, p y → y < c) : sIn (cnt + 1) (fun i => if i < cnt then f i else if i = cnt then c else f (i - 1)) (fun y => p y ∨ y = c) :=
  sIn_ins h (Nat.le_refl _) (fun i hi => hc _ ((h.2 _).mpr ⟨i, hi, rfl⟩)) (fun i h1 h2 => by omega)
theorem sIn_two {a b : Nat} {f g : Nat → Int} {p q : Int → Prop} (hf : sIn a f p) (hg : sIn b g q) (h : ∀ x y, p x → q y → x < y) : sIn (a + b) (fun i => if i < a then f i else g (i - a)) (fun c => p c ∨ q c) := by
  refine ⟨fun i j hij hj => ?_, fun c => ⟨fun hc => ?_, fun ⟨i, hi, e⟩ => ?_⟩⟩
  · dsimp only
    by_cases g1 : i < a
    · rw [if_pos g1]
      by_cases g2 : j < a
      · rw [if_pos g2]; exact hf.1 i j hij g2
      · rw [if_neg g2]
        exact h _ _ ((hf.2 _).mpr ⟨i, g1, rfl⟩) ((hg.2 _).mpr ⟨j - a, by omega, rfl⟩)
    · rw [if_neg g1, if_neg (by omega)]
      exact hg.1 _ _ (by omega) (by omega)
  · rcases hc with hc | hc
    · obtain ⟨i, hi, e⟩ := (hf.2 c).mp hc
      exact ⟨i, by omega, by dsimp only; rw [if_pos hi]; exact e⟩
    · obtain ⟨i, hi, e⟩ := (hg.2 c).mp hc
      exact ⟨a + i, by omega, by dsimp only; rw [if_neg (by omega), show a + i - a = i by omega]; exact e⟩
  · dsimp only at e
    by_cases g1 : i < a
    · rw [if_pos g1] at e
      exact Or.inl ((hf.2 c).mpr ⟨i, g1, e⟩)
    · rw [if_neg g1] at e
      exact Or.inr ((hg.2 c).mpr ⟨i - a, by omega, e⟩)
/-- how many squares -/
noncomputable def cSb (n : Int) (S : Int → Prop) (i : Nat) : Bool := @decide (mOn n i ∧ S i) (Classical.propDecidable _)
theorem cSb_t {n : Int} {S : Int → Prop} {i : Nat} : cSb n S i = true ↔ mOn n i ∧ S i := by unfold cSb; simp
theorem cSb_f {n : Int} {S : Int → Prop} {i : Nat} : cSb n S i = false ↔ ¬ (mOn n i ∧ S i) := by unfold cSb; simp
noncomputable def cS (n : Int) (S : Int → Prop) : Nat := cN (cSb n S) 64
theorem cS_cong {n : Int} {S T : Int → Prop} (h : ∀ x, mOn n x → (S x ↔ T x)) : cS n S = cS n T := by
  unfold cS
  refine cN_congr (fun i _ => ?_)
  cases g : cSb n T i
  · exact cSb_f.mpr (fun q => cSb_f.mp g ⟨q.1, (h _ q.1).mp q.2⟩)
  · have := cSb_t.mp g
    exact cSb_t.mpr ⟨this.1, (h _ this.1).mpr this.2⟩
theorem cod_in {n a : Int} (S : Int → Prop) (hN : mN n) : ∃ f, sIn (cS n S) f (fun c => ∃ x, mOn n x ∧ S x ∧ c = mCd a x (-1)) := by
  have key : ∀ N : Nat, ∃ f, sIn (cN (cSb n S) N) f (fun c => ∃ x, mOn n x ∧ S x ∧ c = mCd a x (-1) ∧ x < N) := by
    intro N
    induction N with
    | zero => exact ⟨fun _ => 0, sIn_0 (fun c ⟨x, h1, _, _, h2⟩ => by have := h1.1; omega)⟩
    | succ N ih =>
      obtain ⟨f, hf⟩ := ih
      cases g : cSb n S N
      · rw [cN_f g]
        refine ⟨f, sIn_iff hf (fun c => ⟨fun ⟨x, h1, h2, h3, h4⟩ => ⟨x, h1, h2, h3, by omega⟩, fun ⟨x, h1, h2, h3, h4⟩ => ⟨x, h1, h2, h3, ?_⟩⟩)⟩
        have : x ≠ N := fun e => cSb_f.mp g (e ▸ ⟨h1, h2⟩)
        omega
      · rw [cN_t g]
        obtain ⟨g1, g2⟩ := cSb_t.mp g
        refine ⟨_, sIn_iff (sIn_app (c := mCd a N (-1)) hf (fun y ⟨x, h1, h2, h3, h4⟩ => ?_)) (fun c => ⟨?_, fun ⟨x, h1, h2, h3, h4⟩ => ?_⟩)⟩
        · rw [h3]; unfold mCd; omega
        · rintro (⟨x, h1, h2, h3, h4⟩ | h)
          · exact ⟨x, h1, h2, h3, by omega⟩
          · exact ⟨N, g1, g2, h, by omega⟩
        · by_cases e : x = N
          · right; rw [h3, e]
          · exact Or.inl ⟨x, h1, h2, h3, by omega⟩
  obtain ⟨f, hf⟩ := key 64
  refine ⟨f, sIn_iff hf (fun c => ⟨fun ⟨x, h1, h2, h3, _⟩ => ⟨x, h1, h2, h3⟩, fun ⟨x, h1, h2, h3⟩ => ⟨x, h1, h2, h3, ?_⟩⟩)⟩
  have := mSq hN h1
  omega
section MC
variable {n m w b k t : Int}
/-- the neighbours of a square are few -/
theorem nx_8 (hN : mN n) {a : Int} (ha : mOn n a) : cS n (mNx n a) ≤ 8 := by
  have key : ∀ n a : Nat, 4 ≤ n → n ≤ 8 → a < n * n → cN (fun i => decide (i < n * n) && (!(decide (a % n = i % n ∧ a / n = i / n)) && (decide (a % n ≤ i % n + 1) && decide (i % n ≤ a % n + 1)) && (decide (a / n ≤ i / n + 1) && decide (i / n ≤ a / n + 1)))) 64 ≤ 8 := by
    have big : ∀ n : Fin 5, ∀ a : Fin 64, (a : Nat) < (n + 4) * (n + 4) → cN (fun i => decide (i < ((n : Nat) + 4) * (n + 4)) && (!(decide ((a : Nat) % ((n : Nat) + 4) = i % (n + 4) ∧ (a : Nat) / ((n : Nat) + 4) = i / (n + 4))) && (decide ((a : Nat) % ((n : Nat) + 4) ≤ i % (n + 4) + 1) && decide (i % ((n : Nat) + 4) ≤ a % (n + 4) + 1)) && (decide ((a : Nat) / ((n : Nat) + 4) ≤ i / (n + 4) + 1) && decide (i / ((n : Nat) + 4) ≤ a / (n + 4) + 1)))) 64 ≤ 8 := by decide +kernel
    intro n a h1 h2 h3
    have h64 : a < 64 := by
      have : n * n ≤ 8 * 8 := Nat.mul_le_mul h2 h2
      omega
    have := big ⟨n - 4, by omega⟩ ⟨a, h64⟩
    simp only [show n - 4 + 4 = n by omega] at this
    exact this h3
  have h4 : 4 ≤ n ∧ n ≤ 8 := hN
  have hS := mSS hN
  obtain ⟨n', rfl⟩ := Int.eq_ofNat_of_zero_le (show 0 ≤ n by omega)
  obtain ⟨a', rfl⟩ := Int.eq_ofNat_of_zero_le ha.1
  have h2 := ha.2
  have h2' : a' < n' * n' := by
    have : ((a' : Nat) : Int) < ((n' * n' : Nat) : Int) := by push_cast; exact h2
    omega
  refine Nat.le_trans (Nat.le_of_eq ?_) (key n' a' (by omega) (by omega) h2')
  unfold cS
  refine cN_congr (fun i hi => ?_)
  have e1 : ((a' : Nat) : Int) % (n' : Nat) = ((a' % n' : Nat) : Int) := rfl
  have e2 : ((a' : Nat) : Int) / (n' : Nat) = ((a' / n' : Nat) : Int) := rfl
  have e3 : ((i : Nat) : Int) % (n' : Nat) = ((i % n' : Nat) : Int) := rfl
  have e4 : ((i : Nat) : Int) / (n' : Nat) = ((i / n' : Nat) : Int) := rfl
  have iff : (mOn n' i ∧ mNx n' a' i) ↔ (i < n' * n' ∧ (¬ (a' % n' = i % n' ∧ a' / n' = i / n')) ∧ (a' % n' ≤ i % n' + 1 ∧ i % n' ≤ a' % n' + 1) ∧ (a' / n' ≤ i / n' + 1 ∧ i / n' ≤ a' / n' + 1)) := by
    have e5 : ((i : Nat) : Int) < (n' : Int) * n' ↔ i < n' * n' := by
      rw [show (n' : Int) * n' = ((n' * n' : Nat) : Int) by push_cast; rfl]; omega
    unfold mNx
    rw [e1, e2, e3, e4]
    constructor
    · rintro ⟨q1, q2⟩
      refine ⟨e5.mp q1.2, by omega, by omega, by omega⟩
    · rintro ⟨q1, q2, q3, q4⟩
      exact ⟨⟨by omega, e5.mpr q1⟩, by omega, by omega, by omega⟩
  cases g : cSb n' (mNx n' a') i
  · have := cSb_f.mp g
    rw [iff] at this
    symm
    simp only [Bool.and_eq_false_iff, Bool.not_eq_false', decide_eq_false_iff_not, decide_eq_true_eq]
    omega
  · have := cSb_t.mp g
    rw [iff] at this
    symm
    simp only [Bool.and_eq_true, Bool.not_eq_true', decide_eq_false_iff_not, decide_eq_true_eq]
    omega
theorem cS_mono {S T : Int → Prop} (h : ∀ x, mOn n x → S x → T x) : cS n S ≤ cS n T := by
  unfold cS
  have : ∀ N, cN (cSb n S) N ≤ cN (cSb n T) N := by
    intro N
    induction N with
    | zero => exact Nat.le_refl _
    | succ N ih =>
      show cN _ N + cond (cSb n S N) 1 0 ≤ cN _ N + cond (cSb n T N) 1 0
      have : cond (cSb n S N) 1 0 ≤ cond (cSb n T N) 1 0 := by
        cases g : cSb n S N
        · exact Nat.zero_le _
        · have := cSb_t.mp g
          rw [cSb_t.mpr ⟨this.1, h _ this.1 this.2⟩]
          exact Nat.le_refl _
      omega
  exact this _
theorem al_27 (hN : mN n) (hk : mOn n k) : cS n (mAl n 0 k) ≤ 27 := by
  have hS := mSS hN
  refine Nat.le_trans ?_ (al_le hN hk)
  unfold cS
  have : ∀ N, N ≤ 64 → cN (cSb n (mAl n 0 k)) N ≤ cN (alB n.toNat k.toNat) (min N (n * n).toNat) := by
    intro N
    induction N with
    | zero => intro _; exact Nat.zero_le _
    | succ N ih =>
      intro hN2
      have ih := ih (by omega)
      show cN _ N + cond (cSb n (mAl n 0 k) N) 1 0 ≤ _
      cases g : cSb n (mAl n 0 k) N
      · refine Nat.le_trans (Nat.le_trans (Nat.le_of_eq (Nat.add_zero _)) ih) (cN_mono (by omega))
      · obtain ⟨g1, g2⟩ := cSb_t.mp g
        have hlt : N < (n * n).toNat := by have := g1.2; omega
        rw [show min (N + 1) (n * n).toNat = N + 1 by omega]
        rw [show min N (n * n).toNat = N by omega] at ih
        have := alB_of hN hk g1 g2
        rw [Int.toNat_natCast] at this
        rw [cN_t this]
        show cN _ N + 1 ≤ _
        omega
  have := this 64 (Nat.le_refl _)
  rw [show min 64 (n * n).toNat = (n * n).toNat by omega] at this
  exact this
/-- the man's moves, a promotion counted once -/
def mMt (n m w b k x : Int) : Prop := mMn n m w b k x ∨ (mPr n m w b k ∧ x = k + n)
theorem pr_cod {hw : Int} : sIn 4 (fun i => mCd k (k + n) i) (fun c => ∃ q, (0 ≤ q ∧ q ≤ 3) ∧ c = mCd k (k + n) q) := by
  refine ⟨fun i j h1 h2 => ?_, fun c => ⟨fun ⟨q, h1, h2⟩ => ⟨q.toNat, by omega, ?_⟩, fun ⟨i, h1, h2⟩ => ⟨i, by omega, h2.symm⟩⟩⟩
  · dsimp only
    unfold mCd; omega
  · dsimp only
    rw [h2, Int.toNat_of_nonneg h1.1]
/-- the codes of the man's moves, in order -/
theorem man_cod (hN : mN n) (hw : mOn n w) (hb : mOn n b) (hk : mOn n k) (hL : mLg n m w b k 0) : ∃ f, sIn ((if m = 2 ∧ k / n = n - 2 then 4 else 1) * cS n (mMt n m w b k)) f (fun c => (∃ x, mOn n x ∧ mMn n m w b k x ∧ c = mCd k x (-1)) ∨ (mPr n m w b k ∧ ∃ q, (0 ≤ q ∧ q ≤ 3) ∧ c = mCd k (k + n) q)) := by
  by_cases g : m = 2 ∧ k / n = n - 2
  · rw [if_pos g]
    have h4 : 4 ≤ n ∧ n ≤ 8 := hN
    have u := mUp hN hk (by omega)
    have noM : ∀ x, mOn n x → ¬ mMn n m w b k x := fun x hx q => by
      rcases q with q | ⟨_, a1, a2, a3, a4, a5, a6⟩
      · exact q.1 g.1
      · rcases a6 with a6 | a6
        · rw [a6] at a5; omega
        · omega
    by_cases hp : mPr n m w b k
    · have c1 : cS n (mMt n m w b k) = 1 := by
        have e := mSq hN u.1
        unfold cS
        have : ∀ N, N ≤ 64 → cN (cSb n (mMt n m w b k)) N = if (k + n) < N then 1 else 0 := by
          intro N
          induction N with
          | zero => intro _; rw [if_neg (by omega)]; rfl
          | succ N ih =>
            intro h
            show cN _ N + cond (cSb n (mMt n m w b k) N) 1 0 = _
            rw [ih (by omega)]
            by_cases q : (N : Int) = k + n
            · rw [cSb_t.mpr ⟨q ▸ u.1, Or.inr ⟨hp, q⟩⟩, if_neg (by omega), if_pos (by omega)]; rfl
            · rw [cSb_f.mpr (fun q2 => q2.2.elim (noM _ q2.1) (fun q3 => q q3.2))]
              by_cases q3 : k + n < N
              · rw [if_pos q3, if_pos (by omega)]; rfl
              · rw [if_neg q3, if_neg (by omega)]; rfl
        rw [this 64 (Nat.le_refl _), if_pos (by omega)]
      rw [c1]
      exact ⟨_, sIn_iff (pr_cod (hw := 0)) (fun c => ⟨fun q => Or.inr ⟨hp, q⟩, fun q => q.elim (fun ⟨x, h1, h2, _⟩ => absurd h2 (noM x h1)) (fun q => q.2)⟩)⟩
    · have c0 : cS n (mMt n m w b k) = 0 := by
        unfold cS
        exact cN_none (fun i _ => cSb_f.mpr (fun q => q.2.elim (noM _ q.1) (fun q => hp q.1)))
      rw [c0]
      exact ⟨fun _ => 0, sIn_0 (fun c q => q.elim (fun ⟨x, h1, h2, _⟩ => noM x h1 h2) (fun q => hp q.1))⟩
  · rw [if_neg g, Nat.one_mul]
    have noP : ¬ mPr n m w b k := fun q => g ⟨q.1, q.2.1⟩
    obtain ⟨f, hf⟩ := cod_in (a := k) (mMt n m w b k) hN
    refine ⟨f, sIn_iff hf (fun c => ⟨fun ⟨x, h1, h2, h3⟩ => Or.inl ⟨x, h1, h2.resolve_right (fun q => noP q.1), h3⟩, fun q => ?_⟩)⟩
    rcases q with ⟨x, h1, h2, h3⟩ | q
    · exact ⟨x, h1, Or.inl h2, h3⟩
    · exact absurd q.1 noP
theorem mt_27 (hN : mN n) (hw : mOn n w) (hb : mOn n b) (hk : mOn n k) : (if m = 2 ∧ k / n = n - 2 then 4 else 1) * cS n (mMt n m w b k) ≤ 27 := by
  have h4 : 4 ≤ n ∧ n ≤ 8 := hN
  by_cases hm : m = 2
  · have le2 : cS n (mMt n m w b k) ≤ 2 := by
      have : ∀ N, N ≤ 64 → cN (cSb n (mMt n m w b k)) N ≤ (if k + n < N then 1 else 0) + (if k + n + n < N then 1 else 0) := by
        intro N
        induction N with
        | zero => intro _; exact Nat.zero_le _
        | succ N ih =>
          intro h
          have ih := ih (by omega)
          show cN _ N + cond (cSb n (mMt n m w b k) N) 1 0 ≤ _
          cases q : cSb n (mMt n m w b k) N
          · refine Nat.le_trans (Nat.le_trans (Nat.le_of_eq (Nat.add_zero _)) ih) ?_
            push_cast
            split <;> split <;> split <;> split <;> omega
          · obtain ⟨q1, q2⟩ := cSb_t.mp q
            have e : (N : Int) = k + n ∨ (N : Int) = k + n + n := by
              rcases q2 with (q2 | ⟨_, a1, a2, a3, a4, a5, a6⟩) | q2
              · exact absurd hm q2.1
              · rcases a6 with a6 | a6
                · exact Or.inl a6
                · exact Or.inr a6.1
              · exact Or.inl q2.2
            show cN _ N + 1 ≤ _
            push_cast
            revert ih
            rcases e with e | e
            · rw [if_neg (show ¬ k + n < N by omega), if_neg (show ¬ k + n + n < N by omega), if_pos (show k + n < (N : Int) + 1 by omega)]
              intro ih
              split <;> omega
            · rw [if_neg (show ¬ k + n + n < N by omega), if_pos (show k + n + n < (N : Int) + 1 by omega)]
              intro ih
              split at ih <;> split <;> omega
      have := this 64 (Nat.le_refl _)
      unfold cS
      split at this <;> split at this <;> omega
    split <;> omega
  · rw [if_neg (fun q => hm q.1), Nat.one_mul]
    refine Nat.le_trans (cS_mono (fun x hx q => ?_)) (al_27 hN hk)
    rcases q with (q | q) | q
    · exact mAl_01 q.2.1
    · exact absurd q.1 hm
    · exact absurd q.1.1 hm
/-- all moves, in order, and how many there are -/
theorem mv_cnt (hN : mN n) (hw : mOn n w) (hb : mOn n b) (hk : mOn n k) (ht : t = 0 ∨ t = 1) (hL : mLg n m w b k t) : ∃ (cnt : Nat) (f : Nat → Int), sIn cnt f (mvP n m w b k t) ∧ cnt ≤ 36 ∧ cnt = (if t = 1 then cS n (mBk n m w b k) else cS n (mWk n w b k) + (if m = 2 ∧ k / n = n - 2 then 4 else 1) * cS n (mMt n m w b k)) := by
  have ew := mSq hN hw
  have eb := mSq hN hb
  have ek := mSq hN hk
  rcases ht with ht | ht
  · subst ht
    obtain ⟨f, hf⟩ := cod_in (a := w) (mWk n w b k) hN
    obtain ⟨g, hg⟩ := man_cod hN hw hb hk hL
    have c1 : cS n (mWk n w b k) ≤ 8 := Nat.le_trans (cS_mono (fun x _ q => q.1)) (nx_8 hN hw)
    have c2 := mt_27 (m := m) hN hw hb hk
    have kc : ∀ c, (∃ x, mOn n x ∧ mWk n w b k x ∧ c = mCd w x (-1)) → 512 * w ≤ c ∧ c < 512 * w + 512 := fun c ⟨x, h1, h2, h3⟩ => by
      have := mSq hN h1
      rw [h3]; unfold mCd; omega
    have mc : ∀ c, ((∃ x, mOn n x ∧ mMn n m w b k x ∧ c = mCd k x (-1)) ∨ (mPr n m w b k ∧ ∃ q, (0 ≤ q ∧ q ≤ 3) ∧ c = mCd k (k + n) q)) → 512 * k ≤ c ∧ c < 512 * k + 512 := fun c q => by
      rcases q with ⟨x, h1, h2, h3⟩ | ⟨h1, q, h2, h3⟩
      · have := mSq hN h1
        rw [h3]; unfold mCd; omega
      · have h4 : 4 ≤ n ∧ n ≤ 8 := hN
        have u := mUp hN hk (by have := h1.2.1; omega)
        have := mSq hN u.1
        rw [h3]; unfold mCd; omega
    have eqv : ∀ c, mvP n m w b k 0 c ↔ ((∃ x, mOn n x ∧ mWk n w b k x ∧ c = mCd w x (-1)) ∨ ((∃ x, mOn n x ∧ mMn n m w b k x ∧ c = mCd k x (-1)) ∨ (mPr n m w b k ∧ ∃ q, (0 ≤ q ∧ q ≤ 3) ∧ c = mCd k (k + n) q))) := fun c => by
      unfold mvP mK mKs
      rw [if_pos rfl]
      constructor
      · rintro (⟨x, h1, h2 | h2, h3⟩ | ⟨_, h⟩)
        · exact Or.inl ⟨x, h1, h2.2, h3⟩
        · exact absurd h2.1 (by decide)
        · exact Or.inr h
      · rintro (⟨x, h1, h2, h3⟩ | h)
        · exact Or.inl ⟨x, h1, Or.inl ⟨rfl, h2⟩, h3⟩
        · exact Or.inr ⟨rfl, h⟩
    rw [if_neg (by decide)]
    rcases Int.lt_trichotomy w k with q | q | q
    · exact ⟨_, _, sIn_iff (sIn_two hf hg (fun x y q1 q2 => by have := kc x q1; have := mc y q2; omega)) (fun c => (eqv c).symm), by omega, rfl⟩
    · exact absurd q hL.2.1
    · refine ⟨_, _, sIn_iff (sIn_two hg hf (fun x y q1 q2 => by have := kc y q2; have := mc x q1; omega)) (fun c => ?_), by omega, Nat.add_comm _ _⟩
      rw [eqv]
      exact or_comm
  · subst ht
    obtain ⟨f, hf⟩ := cod_in (a := b) (mBk n m w b k) hN
    have c1 : cS n (mBk n m w b k) ≤ 8 := Nat.le_trans (cS_mono (fun x _ q => q.1)) (nx_8 hN hb)
    refine ⟨_, f, sIn_iff hf (fun c => ?_), by omega, by rw [if_pos rfl]⟩
    unfold mvP mK mKs
    rw [if_neg (by decide)]
    constructor
    · rintro ⟨x, h1, h2, h3⟩
      exact Or.inl ⟨x, h1, Or.inr ⟨rfl, h2⟩, h3⟩
    · rintro (⟨x, h1, h2 | h2, h3⟩ | h)
      · exact absurd h2.1 (by decide)
      · exact ⟨x, h1, h2.2, h3⟩
      · exact absurd h.1 (by decide)
end MC
