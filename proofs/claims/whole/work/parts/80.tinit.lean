theorem gzf_rd {M : gM} {o z : Int} {k j : Nat} {f : Int → Int} {i : Int} : gzf M o k f z j i = if z = o ∧ j = k ∧ 0 ≤ i then f i else M z j i := rfl
theorem gzf_o {M : gM} {o z : Int} {k : Nat} {f : Int → Int} (h : z ≠ o) : gzf M o k f z = M z := by
  funext j i
  rw [gzf_rd, if_neg (fun q => h q.1)]
theorem cN_nth {p : Nat → Bool} {k : Nat} : ∀ {N : Nat}, k < cN p N → ∃ i, i < N ∧ p i = true ∧ cN p i = k := by
  intro N
  induction N with
  | zero => intro h; exact absurd h (Nat.not_lt_zero _)
  | succ N ih =>
    intro h
    cases g : p N
    · rw [cN_f g] at h
      obtain ⟨i, a, b⟩ := ih h
      exact ⟨i, by omega, b⟩
    · rw [cN_t g] at h
      rcases Nat.lt_or_eq_of_le (Nat.lt_succ_iff.mp h) with q | q
      · obtain ⟨i, a, b⟩ := ih q
        exact ⟨i, by omega, b⟩
      · exact ⟨N, by omega, g, q.symm⟩
theorem cN_shift {p : Nat → Bool} (a : Nat) : ∀ b, cN p (a + b) = cN p a + cN (fun i => p (a + i)) b := by
  intro b
  induction b with
  | zero => rfl
  | succ b ih =>
    show cN p (a + b) + cond (p (a + b)) 1 0 = cN p a + (cN (fun i => p (a + i)) b + cond (p (a + b)) 1 0)
    rw [ih]; omega
theorem cN_congr {p p' : Nat → Bool} : ∀ {N : Nat}, (∀ i, i < N → p i = p' i) → cN p N = cN p' N := by
  intro N
  induction N with
  | zero => intro _; rfl
  | succ N ih =>
    intro h
    show cN p N + cond (p N) 1 0 = cN p' N + cond (p' N) 1 0
    rw [ih (fun i hi => h i (by omega)), h N (by omega)]
theorem cN_none {p : Nat → Bool} : ∀ {N : Nat}, (∀ i, i < N → p i = false) → cN p N = 0 := by
  intro N
  induction N with
  | zero => intro _; rfl
  | succ N ih => intro h; rw [cN_f (h N (by omega))]; exact ih (fun i hi => h i (by omega))
section TI
variable {n m : Int}
/-- squares of the board, as a natural number -/
abbrev S2 (n : Int) : Nat := (n * n).toNat
theorem S2_e (hN : mN n) : ((S2 n : Nat) : Int) = n * n := by
  have := mSS hN
  show (((n * n).toNat : Nat) : Int) = n * n
  omega
/-- a position that is the least has a least pair -/
theorem cP_cq (hN : mN n) {K : Nat} (hK : (K : Int) < mAl3 n) (h : cP n m K) : cq n m (K / 2 / S2 n) := by
  obtain ⟨d1, d2, d3, d4, d5⟩ := k_dec hN (K := (K : Int)) ⟨by omega, hK⟩
  obtain ⟨g, g1, g2, g3, g4⟩ := lst_pair (m := m) (t := kT K) hN d1 d2 d3 d4
  have e := h.2
  rw [g3] at e
  have ig := im_on (g := g) hN d3
  obtain ⟨p1, p2⟩ := key_pair hN (c := pL n m (kW n K) (kB n K)) ig d4
  have e2 : ((K / 2 / S2 n : Nat) : Int) = (K : Int) / 2 / (n * n) := by rw [← S2_e hN]; rfl
  have e3 : (K : Int) / 2 / (n * n) = pL n m (kW n K) (kB n K) := by rw [e] at p1; exact p1
  have e4 : kW n K = (K : Int) / 2 / (n * n) / (n * n) := rfl
  have e5 : kB n K = (K : Int) / 2 / (n * n) % (n * n) := rfl
  unfold cq
  rw [e2, ← e4, ← e5]
  refine ⟨⟨h.1.1, h.1.2.2.2.1⟩, e3.symm⟩
/-- positions below a pair -/
noncomputable def bfr (n m : Int) (c : Nat) : Nat := cN (cPb n m) (2 * S2 n * c)
theorem bfr_s (hN : mN n) {c : Nat} (hc : c < S2 n * S2 n) : bfr n m (c + 1) = bfr n m c + (if cqb n m c = true then cN (bkB n m c) 128 else 0) := by
  have hS := mSS hN
  have es := S2_e hN
  have hall : 2 * S2 n * (c + 1) ≤ (mAl3 n).toNat := by
    have : 2 * S2 n * (c + 1) ≤ 2 * S2 n * (S2 n * S2 n) := Nat.mul_le_mul_left _ hc
    have e3 : ((2 * S2 n * (S2 n * S2 n) : Nat) : Int) = mAl3 n := by
      unfold mAl3
      push_cast
      rw [es]
      rw [← Int.mul_assoc]
    omega
  unfold bfr
  rw [Nat.mul_succ, cN_shift]
  congr 1
  have kk : ∀ x, x < 2 * S2 n → (2 * S2 n * c + x) / 2 / S2 n = c := fun x hx => by
    have : 2 * S2 n * c + x = 2 * (S2 n * c) + x := by rw [Nat.mul_assoc]
    rw [this, show (2 * (S2 n * c) + x) / 2 = S2 n * c + x / 2 by omega]
    rw [Nat.mul_add_div (by omega)]
    rw [Nat.div_eq_of_lt (by omega)]
    omega
  by_cases g : cqb n m c = true
  · rw [if_pos g]
    have hi : ∀ y, 2 * S2 n ≤ y → cN (bkB n m c) y = cN (bkB n m c) (2 * S2 n) := by
      intro y hy
      induction hy with
      | refl => rfl
      | @step y hy ih =>
        have hy' : 2 * S2 n ≤ y := hy
        rw [cN_f (bkB_f.mpr (bk_hi hN (by omega)))]; exact ih
    rw [hi 128 (by omega)]
    refine cN_congr (fun x hx => ?_)
    have ek : 2 * S2 n * c + x = 2 * (c * S2 n + x / 2) + x % 2 := by
      rw [Nat.mul_assoc, Nat.mul_comm (S2 n) c]; omega
    cases g2 : bkB n m c x
    · refine cPb_f.mpr (fun g3 => bkB_f.mp g2 ⟨by omega, ?_⟩)
      rw [← ek]; exact g3
    · have := (bkB_t.mp g2).2
      rw [← ek] at this
      exact cPb_t.mpr this
  · rw [if_neg g]
    refine cN_none (fun x hx => cPb_f.mpr (fun g3 => g ?_))
    have hall' : 2 * S2 n * c + 2 * S2 n ≤ (mAl3 n).toNat := by rw [← Nat.mul_succ]; exact hall
    have hA3 := mAl3_r hN
    have := cP_cq hN (by omega) g3
    rw [kk x hx] at this
    exact cqb_t.mpr this
theorem bfr_eq (hN : mN n) {c c' : Nat} (hcc : c ≤ c') (hc : c' ≤ S2 n * S2 n) (h : cN (cqb n m) c = cN (cqb n m) c') : bfr n m c = bfr n m c' := by
  induction hcc with
  | refl => rfl
  | @step c' h1 ih =>
    have m1 := cN_mono (p := cqb n m) h1
    have m2 : cN (cqb n m) c' ≤ cN (cqb n m) (c' + 1) := cN_mono (Nat.le_succ c')
    have f : cqb n m c' = false := by
      cases g : cqb n m c'
      · rfl
      · rw [cN_t g] at h m2; omega
    rw [bfr_s hN (by omega), f]
    simp only [Bool.false_eq_true, if_false, Nat.add_zero]
    exact ih (by omega) (by rw [h, cN_f f])
/-- cells of a table hold val where a position is, -2 elsewhere -/
def tbV (n m : Int) (T : Nat → Int → Int) (val : Nat → Int) : Prop := ∀ c : Nat, (c : Int) < n * n * (n * n) → cq n m c → ∀ x : Nat, x < 128 → (bkP n m c x → T 1 (pn n m c * 128 + x) = val (2 * (c * S2 n + x / 2) + x % 2)) ∧ (¬ bkP n m c x → T 1 (pn n m c * 128 + x) = -2)
def tbB (n m : Int) (T : Nat → Int → Int) : Prop := ∀ c : Nat, (c : Int) ≤ n * n * (n * n) → T 9 (pn n m c) = bfr n m c
def tbL (n m : Int) (l : Nat → Int) : Prop := l 1 = pn n m (n * n * (n * n)) * 128 ∧ l 3 = 2 ∧ l 4 = 2 ∧ l 5 = 2 ∧ l 6 = 2 ∧ l 9 = pn n m (n * n * (n * n)) + 1 ∧ l 10 = 254
def tbZ (T : Nat → Int → Int) : Prop := T 7 (-1) = 0 ∧ (∀ i, (0 ≤ i ∧ i < 2) → T 3 i = 0 ∧ T 4 i = 0 ∧ T 5 i = -1 ∧ T 6 i = -1) ∧ ∀ i, (0 ≤ i ∧ i < 254) → T 10 i = 0
end TI
section TJ
variable {kd : gKd} {ln : gLn} {M : gM} {o q z n m : Int}
theorem sX5_init_110 {post : gKd → gLn → gM → Prop} {mc ms ce sl : Nat} {M0 : gM} (hN : mN n) (hm : 0 ≤ m ∧ m ≤ 2) (hC : tbC n m kd ln M0 o q z) (h9 : ln z 9 = pn n m (n * n * (n * n)) + 1) (hcc : ce ≤ mc ∧ sl ≤ ms) (h : ∀ M', Ch z [1, 9] M0 M' → tbV n m (M' z) (fun _ => -1) → tbB n m (M' z) → post kd ln M') :
    ∀ (j p : Nat) (M : gM), (p : Int) ≤ pn n m (n * n * (n * n)) → Ch z [1, 9] M0 M → (∀ c : Nat, (c : Int) ≤ n * n * (n * n) → pn n m c ≤ p → M z 9 (pn n m c) = bfr n m c) → (∀ c : Nat, (c : Int) < n * n * (n * n) → cq n m c → ∀ x : Nat, x < 128 → (pn n m c < p → (bkP n m c x → M z 1 (pn n m c * 128 + x) = -1) ∧ (¬ bkP n m c x → M z 1 (pn n m c * 128 + x) = -2)) ∧ ((p : Int) ≤ pn n m c → M z 1 (pn n m c * 128 + x) = -2)) → pn n m (n * n * (n * n)) - p < j → wX5_init_110 mc ms post z o m q j kd ln ce sl p M := by
  have hS := mSS hN
  have es := S2_e hN
  have hSS : n * n * (n * n) ≤ 4096 ∧ 0 ≤ n * n * (n * n) := by rcases mN_cases hN with rfl | rfl | rfl | rfl | rfl <;> omega
  have hs4 : ((S2 n * S2 n : Nat) : Int) = n * n * (n * n) := by push_cast; rw [es]
  have pmx := pn_r (m := m) hN (c := n * n * (n * n)) (by omega)
  intro j
  induction j with
  | zero => intro p M h1 h2 h3 h4 h5; omega
  | succ j ih =>
    intro p M h1 h2 h3 h4 h5
    have hC' := hC.ch h2 (by decide)
    have k0 : M q 0 (-1) = pn n m (n * n * (n * n)) := hC'.2.1.2.2.1.2.1
    unfold wX5_init_110
    rw [k0, h9]
    refine ⟨hcc, fun _ => ⟨by omega, fun g => ?_, fun g => ?_⟩⟩
    · refine h M h2 (fun c hc hq x hx => ?_) (fun c hc => h3 c hc ?_)
      · have := (h4 c hc hq x hx).1
        have lt : pn n m c < pn n m (n * n * (n * n)) := by
          have := cN_t (cqb_t.mpr hq)
          have := cN_mono (p := cqb n m) (show c + 1 ≤ (n * n * (n * n)).toNat by omega)
          unfold pn
          rw [show ((c : Nat) : Int).toNat = c by omega]
          omega
        exact this (by omega)
      · have := cN_mono (p := cqb n m) (show ((c : Nat) : Int).toNat ≤ (n * n * (n * n)).toNat by omega)
        unfold pn at g ⊢
        omega
    · obtain ⟨c, c1, c2, c3⟩ := cN_nth (p := cqb n m) (k := p) (N := (n * n * (n * n)).toNat) (by unfold pn at g; omega)
      have hq := cqb_t.mp c2
      have hc : (c : Int) < n * n * (n * n) := by omega
      have ep : pn n m c = p := by unfold pn; rw [show ((c : Nat) : Int).toNat = c by omega, c3]
      have ep1 : pn n m ((c + 1 : Nat) : Int) = p + 1 := by
        unfold pn
        rw [show (((c + 1 : Nat) : Int)).toNat = c + 1 by omega, cN_t c2, c3]; omega
      have b9 := h3 c (by omega) (by omega)
      rw [ep] at b9
      have bs := bfr_s (m := m) hN (c := c) (by omega)
      rw [if_pos c2] at bs
      have ble : bfr n m (c + 1) ≤ 2 * S2 n * (c + 1) := cN_le _ _
      have bl2 : 2 * S2 n * (c + 1) ≤ 2 * 64 * 4096 := Nat.mul_le_mul (by omega) (by omega)
      rw [b9]
      refine ⟨by omega, by omega, fun _ => ?_⟩
      have lay := sX5_lay (kd := kd) (ln := ln) (M := M) (o := o) (q := q) (z := z) (post := fun c72 M71 => rng c72 → ((0 ≤ (p : Int) + 1 ∧ (p : Int) + 1 < pn n m (n * n * (n * n)) + 1) ∧ (rng ((bfr n m c : Nat) + c72) ∧ (wX5_init_110 mc ms post z o m q j) kd ln ce sl ((p : Int) + 1) (gu M71 z 9 ((p : Int) + 1) ((bfr n m c : Nat) + c72))))) hN hm hC' hc hq (fun M' f1 f2 => ?_)
      · rw [ep] at lay
        exact lay
      · rw [ep] at f1
        intro _
        have e9 : ((bfr n m c : Nat) : Int) + ((cN (bkB n m c) 128 : Nat) : Int) = ((bfr n m (c + 1) : Nat) : Int) := by omega
        rw [e9]
        have nine : M' z 9 = M z 9 := f2.at (show 9 ∉ [1] by decide)
        refine ⟨by omega, by omega, ih (p + 1) _ (by omega) ((h2.tr (f2.mo (by decide))).tr (Ch.up Ch.rf (by decide) _ _)) (fun c' hc' hp => ?_) (fun c' hc' hq' x hx => ?_) (by omega)⟩
        · rw [gu_v, nine]
          by_cases g2 : pn n m c' = (p : Int) + 1
          · rw [if_pos g2]
            congr 1
            rcases Nat.lt_or_ge c' (c + 1) with g3 | g3
            · exfalso
              have := cN_mono (p := cqb n m) (show c' ≤ c by omega)
              unfold pn at g2
              rw [show ((c' : Nat) : Int).toNat = c' by omega] at g2
              omega
            · refine bfr_eq hN g3 (by omega) ?_
              unfold pn at g2 ep1
              rw [show ((c' : Nat) : Int).toNat = c' by omega] at g2
              rw [show (((c + 1 : Nat) : Int)).toNat = c + 1 by omega] at ep1
              omega
          · rw [if_neg g2]
            exact h3 c' hc' (by omega)
        · have inj : pn n m c' = p → c' = c := fun g2 => by
            have a := cN_t (cqb_t.mpr hq')
            have b := cN_t c2
            unfold pn at g2
            rw [show ((c' : Nat) : Int).toNat = c' by omega] at g2
            rcases Nat.lt_trichotomy c c' with g3 | g3 | g3
            · have := cN_mono (p := cqb n m) (show c + 1 ≤ c' by omega); omega
            · exact g3.symm
            · have := cN_mono (p := cqb n m) (show c' + 1 ≤ c by omega); omega
          rw [gu_k (by decide), f1]
          obtain ⟨o1, o2⟩ := h4 c' hc' hq' x hx
          by_cases g2 : pn n m c' = p
          · have e := inj g2
            subst e
            have o2 := o2 (by omega)
            rw [g2] at o2 ⊢
            rw [show ((p : Int) * 128 + x - p * 128).toNat = x by omega]
            refine ⟨fun _ => ⟨fun g3 => by rw [if_pos ⟨by omega, g3⟩], fun g3 => by rw [if_neg (fun g4 => g3 g4.2)]; exact o2⟩, fun g3 => by omega⟩
          · rw [if_neg (fun g3 => by omega)]
            exact ⟨fun g3 => o1 (by omega), fun g3 => o2 (by omega)⟩
end TJ
