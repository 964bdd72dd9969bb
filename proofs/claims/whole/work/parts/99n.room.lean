/-! THE ROOM -/
section RO
variable {n m : Int}
theorem bfr_128 (hN : mN n) : ∀ c : Nat, c ≤ S2 n * S2 n → ((bfr n m c : Nat) : Int) ≤ 128 * pn n m c := by
  intro c
  induction c with
  | zero =>
    intro _
    have : bfr n m 0 = 0 := rfl
    rw [this]
    have : 0 ≤ pn n m ((0 : Nat) : Int) := by unfold pn; omega
    omega
  | succ c ih =>
    intro hc
    have ih := ih (by omega)
    rw [bfr_s hN (by omega)]
    by_cases g : cqb n m c = true
    · rw [if_pos g]
      have := cN_le (bkB n m c) 128
      have := pn_step (cqb_t.mp g)
      omega
    · rw [if_neg g]
      have := pn_mono (n := n) (m := m) (c := c) (c' := c + 1) (by omega)
      omega
theorem siz_128 (hN : mN n) : ((cN (cPb n m) (mAl3 n).toNat : Nat) : Int) ≤ 128 * pn n m (n * n * (n * n)) := by
  have es := S2_e hN
  have hSS : 0 ≤ n * n * (n * n) := by rcases mN_cases hN with rfl | rfl | rfl | rfl | rfl <;> omega
  have h := bfr_128 (m := m) hN (n * n * (n * n)).toNat (by
    have : ((S2 n * S2 n : Nat) : Int) = n * n * (n * n) := by push_cast; rw [es]
    omega)
  rw [bfr_all hN, Int.toNat_of_nonneg hSS] at h
  exact h
theorem cst_le (hN : mN n) {P : Nat} (hP : pn n m (n * n * (n * n)) ≤ P) : cst n m ≤ 412 + (257 + if m = 2 then 16 else 0) * P := by
  have h4 : 4 ≤ n ∧ n ≤ 8 := hN
  have sz := siz_128 (m := m) hN
  have hSS : n * n * (n * n) ≤ 4096 ∧ 0 ≤ n * n * (n * n) := by rcases mN_cases hN with rfl | rfl | rfl | rfl | rfl <;> omega
  have pmx := pn_r (m := m) hN (c := n * n * (n * n)) (by omega)
  unfold cst
  generalize pn n m (n * n * (n * n)) = p at *
  by_cases e : m = 2
  · rw [if_pos e, if_pos e]
    have : p * n ≤ 8 * p := by
      rw [Int.mul_comm 8 p]
      exact Int.mul_le_mul_of_nonneg_left h4.2 (by omega)
    have : 0 ≤ p * n := Int.mul_nonneg (by omega) (by omega)
    omega
  · rw [if_neg e, if_neg e]
    omega
/-- White's king of a least pair stands in a corner of the board -/
theorem cq_8 {c : Nat} (hc : c < 4096) (h : cq 8 0 c) : c / 64 / 8 ≤ c / 64 % 8 ∧ c / 64 % 8 ≤ 3 := by
  have hN : mN 8 := by decide
  obtain ⟨d1, d2, d3⟩ := pc_dec hN (c := (c : Int)) ⟨by omega, by omega⟩
  have e := h.2
  obtain ⟨w, ew⟩ : ∃ w, w = (c : Int) / (8 * 8) := ⟨_, rfl⟩
  obtain ⟨b, eb⟩ : ∃ b, b = (c : Int) % (8 * 8) := ⟨_, rfl⟩
  rw [← ew] at d1 e
  rw [← eb] at d2 e
  have step : ∀ g, gA 0 g → w ≤ mIm 8 g w := fun g hg => by
    have le := pL_le (m := 0) hN d1 d2 hg
    have iw := im_on (g := g) hN d1
    have ib := im_on (g := g) hN d2
    rw [e] at le
    unfold pc at le
    have := ib.1
    have := ib.2
    omega
  have s1 := step 1 ⟨by decide, fun q => absurd q (by decide)⟩
  have s4 := step 4 ⟨by decide, fun q => absurd q (by decide)⟩
  have i1 : mIm 8 1 w = 8 * (w / 8) + (8 - 1 - w % 8) := by
    unfold mIm mIr mIf
    simp
  have i4 : mIm 8 4 w = 8 * (w % 8) + w / 8 := by
    unfold mIm mIr mIf
    simp
  rw [i1] at s1
  rw [i4] at s4
  omega
theorem p_8 : pn 8 0 (8 * 8 * (8 * 8)) ≤ 640 := by
  have k : cN (fun c => decide (c / 64 / 8 ≤ c / 64 % 8) && decide (c / 64 % 8 ≤ 3)) 4096 = 640 := by decide +kernel
  have le : ∀ N, N ≤ 4096 → cN (cqb 8 0) N ≤ cN (fun c => decide (c / 64 / 8 ≤ c / 64 % 8) && decide (c / 64 % 8 ≤ 3)) N := by
    intro N
    induction N with
    | zero => intro _; exact Nat.le_refl _
    | succ N ih =>
      intro hN
      have ih := ih (by omega)
      show cN _ N + cond (cqb 8 0 N) 1 0 ≤ cN _ N + cond (decide (N / 64 / 8 ≤ N / 64 % 8) && decide (N / 64 % 8 ≤ 3)) 1 0
      cases g : cqb 8 0 N
      · exact Nat.le_trans ih (Nat.le_add_right _ _)
      · have := cq_8 (c := N) (by omega) (cqb_t.mp g)
        simp only [this.1, this.2, decide_true, Bool.and_self, cond_true]
        omega
  have := le 4096 (Nat.le_refl _)
  unfold pn
  show ((cN (cqb 8 0) 4096 : Nat) : Int) ≤ 640
  omega
theorem PT_0 {h : Int} : PT (fun _ _ _ => 0) h ≤ 5300000 := by
  have c : ∀ (n m : Int) (P : Nat), mN n → n * n * (n * n) ≤ P → cst n m ≤ 412 + (257 + if m = 2 then 16 else 0) * P := fun n m P hN hP => cst_le hN (by
    have hSS : 0 ≤ n * n * (n * n) := by rcases mN_cases hN with rfl | rfl | rfl | rfl | rfl <;> omega
    have := pn_r (m := m) hN (c := n * n * (n * n)) (by omega)
    omega)
  have a40 := c 4 0 256 (by decide) (by decide)
  have a41 := c 4 1 256 (by decide) (by decide)
  have a42 := c 4 2 256 (by decide) (by decide)
  have a50 := c 5 0 625 (by decide) (by decide)
  have a51 := c 5 1 625 (by decide) (by decide)
  have a52 := c 5 2 625 (by decide) (by decide)
  have a60 := c 6 0 1296 (by decide) (by decide)
  have a61 := c 6 1 1296 (by decide) (by decide)
  have a62 := c 6 2 1296 (by decide) (by decide)
  have a70 := c 7 0 2401 (by decide) (by decide)
  have a71 := c 7 1 2401 (by decide) (by decide)
  have a72 := c 7 2 2401 (by decide) (by decide)
  have a80 := cst_le (n := 8) (m := 0) (P := 640) (by decide) p_8
  have a81 := cst_le (n := 8) (m := 1) (P := 640) (by decide) p_8
  have a82 := c 8 2 4096 (by decide) (by decide)
  rw [if_neg (by decide)] at a40 a41 a50 a51 a60 a61 a70 a71 a80 a81
  rw [if_pos rfl] at a42 a52 a62 a72 a82
  unfold PT pt
  rw [if_pos rfl, if_pos rfl, if_pos rfl, if_pos rfl, if_pos rfl]
  omega
end RO
