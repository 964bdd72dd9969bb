/-! COUNTS OVER CELLS -/
section CX
variable {n m : Int}
/-- how many positions with p have a cell before x -/
noncomputable def cX (n m : Int) (p : Nat → Bool) (x : Int) : Nat := cN (fun K => p K && (cPb n m K && decide (cK n m K < x))) (mAl3 n).toNat
theorem cN_one {p p' : Nat → Bool} {a : Nat} (h : ∀ i, i ≠ a → p' i = p i) (h0 : p a = false) (h1 : p' a = true) : ∀ N, a < N → cN p' N = cN p N + 1 := by
  intro N
  induction N with
  | zero => intro g; exact absurd g (Nat.not_lt_zero _)
  | succ N ih =>
    intro g
    show cN p' N + cond (p' N) 1 0 = cN p N + cond (p N) 1 0 + 1
    rcases Nat.lt_or_eq_of_le (Nat.lt_succ_iff.mp g) with g2 | g2
    · rw [ih g2, h N (by omega)]; omega
    · subst g2
      rw [h0, h1, cN_congr (p := p') (p' := p) (fun i hi => h i (by omega))]
      rfl
theorem cN_cut {p : Nat → Bool} {a N : Nat} (h : a ≤ N) : cN (fun i => p i && decide (i < a)) N = cN p a := by
  induction h with
  | refl => exact cN_congr (fun i hi => by simp [hi])
  | @step N h1 ih =>
    have : (fun i => p i && decide (i < a)) N = false := by
      show (p N && decide (N < a)) = false
      have : ¬ N < a := by have : a ≤ N := h1; omega
      simp [this]
    rw [cN_f (p := fun i => p i && decide (i < a)) this]
    exact ih
theorem cX_le (p : Nat → Bool) (x : Int) : cX n m p x ≤ (mAl3 n).toNat := cN_le _ _
theorem cX_void {p : Nat → Bool} {x : Int} (h : ∀ K : Nat, (K : Int) < mAl3 n → cP n m K → cK n m K ≠ x) : cX n m p (x + 1) = cX n m p x := by
  unfold cX
  refine cN_congr (fun K hK => ?_)
  cases g : cPb n m K
  · simp
  · have := h K (by omega) (cPb_t.mp g)
    have e : (cK n m K < x + 1) ↔ (cK n m K < x) := by omega
    simp [e]
theorem cX_key (hN : mN n) {p : Nat → Bool} {K : Nat} (hK : (K : Int) < mAl3 n) (hP : cP n m K) : cX n m p (cK n m K + 1) = cX n m p (cK n m K) + cond (p K) 1 0 := by
  have inj : ∀ i : Nat, (i : Int) < mAl3 n → i ≠ K → cP n m i → cK n m i ≠ cK n m K := fun i hi hne hp e => hne (cK_inj hN hK hP hi hp e)
  unfold cX
  have rest : ∀ i, i < (mAl3 n).toNat → i ≠ K → (p i && (cPb n m i && decide (cK n m i < cK n m K + 1))) = (p i && (cPb n m i && decide (cK n m i < cK n m K))) := fun i hi hne => by
    cases g : cPb n m i
    · simp
    · have := inj i (by omega) hne (cPb_t.mp g)
      have e : (cK n m i < cK n m K + 1) ↔ (cK n m i < cK n m K) := by omega
      simp [e]
  cases g : p K
  · show _ = _ + 0
    rw [Nat.add_zero]
    refine cN_congr (fun i hi => ?_)
    by_cases e : i = K
    · subst e; simp [g]
    · exact rest i hi e
  · show _ = _ + 1
    have key : ∀ N, N ≤ (mAl3 n).toNat → K < N → cN (fun i => p i && (cPb n m i && decide (cK n m i < cK n m K + 1))) N = cN (fun i => p i && (cPb n m i && decide (cK n m i < cK n m K))) N + 1 := by
      intro N hN2 hKN
      have := cN_one (p := fun i => if i < N then (p i && (cPb n m i && decide (cK n m i < cK n m K))) else false) (p' := fun i => if i < N then (p i && (cPb n m i && decide (cK n m i < cK n m K + 1))) else false) (a := K) (fun i hi => by
        by_cases g2 : i < N
        · rw [if_pos g2, if_pos g2]
          exact rest i (by omega) hi
        · rw [if_neg g2, if_neg g2]) (by
        rw [if_pos hKN]
        simp) (by
        rw [if_pos hKN]
        have : cK n m K < cK n m K + 1 := by omega
        simp [g, cPb_t.mpr hP, this]) N hKN
      rw [cN_congr (p := fun i => p i && (cPb n m i && decide (cK n m i < cK n m K + 1))) (p' := fun i => if i < N then (p i && (cPb n m i && decide (cK n m i < cK n m K + 1))) else false) (fun i hi => by
        rw [if_pos hi]), this]
      congr 1
      exact cN_congr (fun i hi => by
        rw [if_pos hi])
    exact key _ (Nat.le_refl _) (by omega)
theorem cX_0 (hN : mN n) {p : Nat → Bool} : cX n m p 0 = 0 := by
  unfold cX
  refine cN_none (fun K hK => ?_)
  cases g : cPb n m K
  · simp
  · have := (cell_dec (m := m) hN (K := K) (by omega) (cPb_t.mp g)).2.2.2.2.2.2.2.1
    have : ¬ cK n m K < 0 := by omega
    simp [this]
theorem pn_mono {c c' : Nat} (h : c ≤ c') : pn n m c ≤ pn n m c' := by
  have := cN_mono (p := cqb n m) h
  unfold pn
  rw [show ((c : Nat) : Int).toNat = c by omega, show ((c' : Nat) : Int).toNat = c' by omega]
  omega
theorem pn_step {c : Nat} (h : cq n m c) : pn n m ((c + 1 : Nat) : Int) = pn n m c + 1 := by
  unfold pn
  rw [show (((c + 1 : Nat) : Int)).toNat = c + 1 by omega, show ((c : Nat) : Int).toNat = c by omega, cN_t (cqb_t.mpr h)]
  omega
/-- cells come in the order of their keys -/
theorem cK_pair (hN : mN n) {K c : Nat} (hK : (K : Int) < mAl3 n) (hP : cP n m K) : cK n m K < pn n m c * 128 ↔ K < 2 * S2 n * c := by
  have hS := mSS hN
  have es := S2_e hN
  obtain ⟨d1, d2, d3, d4, d5, d6, d7, d8, d9⟩ := cell_dec hN hK hP
  have p0 : 0 < S2 n := by omega
  have e : K < 2 * S2 n * c ↔ K / 2 / S2 n < c := by
    rw [Nat.div_lt_iff_lt_mul p0, Nat.mul_assoc, Nat.mul_comm c]
    omega
  rw [e]
  constructor
  · intro g
    apply Classical.byContradiction
    intro g2
    have := pn_mono (n := n) (m := m) (c := c) (c' := K / 2 / S2 n) (by omega)
    omega
  · intro g
    have a := pn_step d3
    have b := pn_mono (n := n) (m := m) (c := K / 2 / S2 n + 1) (c' := c) (by omega)
    omega
theorem cK_lt (hN : mN n) {K K' : Nat} (hK : (K : Int) < mAl3 n) (hP : cP n m K) (hK' : (K' : Int) < mAl3 n) (hP' : cP n m K') : cK n m K' < cK n m K ↔ K' < K := by
  have hS := mSS hN
  have es := S2_e hN
  have q1 := cell_dec hN hK hP
  have q2 := cell_dec hN hK' hP'
  have p0 : 0 < S2 n := by omega
  have lt : ∀ {A B : Nat}, cq n m (A / 2 / S2 n) → A / 2 / S2 n < B / 2 / S2 n → pn n m ((A / 2 / S2 n : Nat) : Int) < pn n m ((B / 2 / S2 n : Nat) : Int) := fun h1 h2 => by
    have a := pn_step h1
    have b := pn_mono (n := n) (m := m) (Nat.succ_le_of_lt h2)
    have b : pn n m ((_ + 1 : Nat) : Int) ≤ _ := b
    omega
  have kk : ∀ A : Nat, kK n A = ((A / 2 % S2 n : Nat) : Int) := fun A => by unfold kK; rw [← es]; rfl
  have kt : ∀ A : Nat, kT A = ((A % 2 : Nat) : Int) := fun A => by unfold kT; rfl
  rw [kk, kt] at q1 q2
  have m1 := Nat.div_add_mod (K / 2) (S2 n)
  have m2 := Nat.div_add_mod (K' / 2) (S2 n)
  have r1 := Nat.mod_lt (K / 2) p0
  have r2 := Nat.mod_lt (K' / 2) p0
  rcases Nat.lt_trichotomy (K' / 2 / S2 n) (K / 2 / S2 n) with g | g | g
  · have a := lt q2.2.2.1 g
    have : S2 n * (K' / 2 / S2 n) + S2 n ≤ S2 n * (K / 2 / S2 n) := by
      rw [← Nat.mul_succ]; exact Nat.mul_le_mul_left _ g
    omega
  · rw [g] at m2 q2
    omega
  · have a := lt q1.2.2.1 g
    have : S2 n * (K / 2 / S2 n) + S2 n ≤ S2 n * (K' / 2 / S2 n) := by
      rw [← Nat.mul_succ]; exact Nat.mul_le_mul_left _ g
    omega
theorem cX_num (hN : mN n) {K : Nat} (hK : (K : Int) < mAl3 n) (hP : cP n m K) : cX n m (fun _ => true) (cK n m K) = cN (cPb n m) K := by
  unfold cX
  rw [← cN_cut (p := cPb n m) (a := K) (N := (mAl3 n).toNat) (by omega)]
  refine cN_congr (fun i hi => ?_)
  cases g : cPb n m i
  · simp
  · have := cK_lt hN hK hP (K' := i) (by omega) (cPb_t.mp g)
    simp [this]
theorem cX_pair (hN : mN n) {c : Nat} (hc : (c : Int) ≤ n * n * (n * n)) : cX n m (fun _ => true) (pn n m c * 128) = bfr n m c := by
  have es := S2_e hN
  have hS := mSS hN
  have hall : 2 * S2 n * c ≤ (mAl3 n).toNat := by
    have hc2 : c ≤ S2 n * S2 n := by
      have : ((S2 n * S2 n : Nat) : Int) = n * n * (n * n) := by push_cast; rw [es]
      omega
    have h1 : 2 * S2 n * c ≤ 2 * S2 n * (S2 n * S2 n) := Nat.mul_le_mul_left _ hc2
    have e3 : ((2 * S2 n * (S2 n * S2 n) : Nat) : Int) = mAl3 n := by
      unfold mAl3
      push_cast
      rw [es]
      rw [← Int.mul_assoc]
    omega
  unfold cX bfr
  rw [← cN_cut (p := cPb n m) hall]
  refine cN_congr (fun i hi => ?_)
  cases g : cPb n m i
  · simp
  · have := cK_pair hN (c := c) (K := i) (by omega) (cPb_t.mp g)
    simp [this]
theorem cX_end (hN : mN n) {p : Nat → Bool} {T : Nat → Int → Int} {val : Nat → Int} (hT : tbV n m T val) : cX n m p (pn n m (n * n * (n * n)) * 128) = cN (fun K => p K && cPb n m K) (mAl3 n).toNat := by
  unfold cX
  refine cN_congr (fun i hi => ?_)
  cases g : cPb n m i
  · simp
  · have := (tb_key hN hT (K := i) (by omega) (cPb_t.mp g)).1.2.1
    simp [this]
theorem cX_mono {p : Nat → Bool} {x y : Int} (h : x ≤ y) : cX n m p x ≤ cX n m p y := by
  unfold cX
  have : ∀ N, cN (fun K => p K && (cPb n m K && decide (cK n m K < x))) N ≤ cN (fun K => p K && (cPb n m K && decide (cK n m K < y))) N := by
    intro N
    induction N with
    | zero => exact Nat.le_refl _
    | succ N ih =>
      show cN _ N + cond (p N && (cPb n m N && decide (cK n m N < x))) 1 0 ≤ cN _ N + cond (p N && (cPb n m N && decide (cK n m N < y))) 1 0
      have : cond (p N && (cPb n m N && decide (cK n m N < x))) 1 0 ≤ cond (p N && (cPb n m N && decide (cK n m N < y))) 1 0 := by
        by_cases g : cK n m N < x
        · have : cK n m N < y := by omega
          simp [g, this]
        · simp [g]
      omega
  exact this _
end CX
