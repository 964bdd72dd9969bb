theorem gza_rd {M : gM} {o z : Int} {k j : Nat} {i : Int} : gza M o k z j i = if z = o ∧ j = k ∧ 0 ≤ i then 0 else M z j i := rfl
theorem gla_rd {ln : gLn} {o z : Int} {k j : Nat} {n : Int} : gla ln o k n z j = if z = o ∧ j = k then n else ln z j := rfl
theorem gza_o {M : gM} {o z : Int} {k : Nat} (h : z ≠ o) : gza M o k z = M z := by
  funext j i
  rw [gza_rd, if_neg (fun q => h q.1)]
theorem gza_k {M : gM} {o : Int} {k j : Nat} (h : j ≠ k) : gza M o k o j = M o j := by
  funext i
  rw [gza_rd, if_neg (fun q => h q.2.1)]
theorem gla_o {ln : gLn} {o z : Int} {k : Nat} {n : Int} (h : z ≠ o) : gla ln o k n z = ln z := by
  funext j
  rw [gla_rd, if_neg (fun q => h q.1)]
section FI2
variable {kd : gKd} {ln : gLn} {M : gM} {o q n m w b : Int}
theorem sJ7_fill {post : gM → Prop} {k : Nat} {v N : Int} (hl : ln q k = N) (hN : 0 ≤ N ∧ N < 2147483648) (hv : rng v) (h : ∀ M', (∀ i, (0 ≤ i ∧ i < N) → M' q k i = v) → (∀ i, ¬ (0 ≤ i ∧ i < N) → M' q k i = M q k i) → Ch q [k] M M' → post M') : wJ7_fill_53178 kd ln post q k v M := by
  have loop : ∀ (j : Nat) (x : Int) (M' : gM), 0 ≤ x → x ≤ N → (∀ i, (0 ≤ i ∧ i < x) → M' q k i = v) → (∀ i, ¬ (0 ≤ i ∧ i < x) → M' q k i = M q k i) → Ch q [k] M M' → N - x < j → wJ7_fill_53178_5 kd ln post q k v j x N M' := by
    intro j
    induction j with
    | zero => intro x M' h1 h2 h3 h4 h5 h6; omega
    | succ j ih =>
      intro x M' h1 h2 h3 h4 h5 h6
      unfold wJ7_fill_53178_5
      rw [hl]
      refine ⟨by omega, by omega, fun z => h M' (fun i hi => h3 i (by omega)) (fun i hi => h4 i (by omega)) h5, fun z => ⟨by omega, hv, ih (x + 1) _ (by omega) (by omega) (fun i hi => ?_) (fun i hi => ?_) (Ch.up h5 (List.mem_cons_self) _ _) (by omega)⟩⟩
      · rw [gu_v]
        split
        · rfl
        · exact h3 i (by omega)
      · rw [gu_i (by omega)]; exact h4 i (by omega)
  unfold wJ7_fill_53178
  rw [hl]
  refine ⟨hN.1, fun _ => ?_⟩
  intro v4 e4
  rw [e4]
  exact ⟨N.toNat + 1, loop _ 0 M (by omega) hN.1 (fun i hi => by omega) (fun i _ => rfl) Ch.rf (by omega)⟩
theorem sJ7_fillB {post : gM → Prop} {k : Nat} {v N : Int} (hl : ln q k = N) (hN : 0 ≤ N ∧ N < 2147483648) (hv : -128 ≤ v ∧ v < 128) (h : ∀ M', (∀ i, (0 ≤ i ∧ i < N) → M' q k i = v) → (∀ i, ¬ (0 ≤ i ∧ i < N) → M' q k i = M q k i) → Ch q [k] M M' → post M') : wJ7_fill_031fb kd ln post q k v M := by
  have loop : ∀ (j : Nat) (x : Int) (M' : gM), 0 ≤ x → x ≤ N → (∀ i, (0 ≤ i ∧ i < x) → M' q k i = v) → (∀ i, ¬ (0 ≤ i ∧ i < x) → M' q k i = M q k i) → Ch q [k] M M' → N - x < j → wJ7_fill_031fb_5 kd ln post q k v j x N M' := by
    intro j
    induction j with
    | zero => intro x M' h1 h2 h3 h4 h5 h6; omega
    | succ j ih =>
      intro x M' h1 h2 h3 h4 h5 h6
      unfold wJ7_fill_031fb_5
      rw [hl]
      refine ⟨by omega, by omega, fun z => h M' (fun i hi => h3 i (by omega)) (fun i hi => h4 i (by omega)) h5, fun z => ⟨by omega, hv, ih (x + 1) _ (by omega) (by omega) (fun i hi => ?_) (fun i hi => ?_) (Ch.up h5 (List.mem_cons_self) _ _) (by omega)⟩⟩
      · rw [gu_v]
        split
        · rfl
        · exact h3 i (by omega)
      · rw [gu_i (by omega)]; exact h4 i (by omega)
  unfold wJ7_fill_031fb
  rw [hl]
  refine ⟨hN.1, fun _ => ?_⟩
  intro v4 e4
  rw [e4]
  exact ⟨N.toNat + 1, loop _ 0 M (by omega) hN.1 (fun i hi => by omega) (fun i _ => rfl) Ch.rf (by omega)⟩
theorem sX2_init {post : gKd → gLn → gM → Prop} {mc ms : Nat} (hN : mN n) (hl : bdL n (ln o)) (hB : bdG n (M o)) (ho : kd o = 0) (ho0 : 0 < o) (hoq : o ≠ q) (hq : ∀ k, ln q k < 0) (hz : ∀ k i, M q k i = 0) (hmc : 5 ≤ mc) (hms : 20480 ≤ ms) (h : ∀ ln' M', (∀ z, z ≠ q → ln' z = ln z) → kpL n (ln' q) → (∀ z, z ≠ q → M' z = M z) → M' q 4 (-1) = o → kpG n m (M' q) → post kd ln' M') : wX2_init mc ms kd ln post q o ((mNs m + 1 : Nat) : Int) M := by
  have hS := mSS hN
  have hSS : n * n * (n * n) ≤ 4096 ∧ 0 ≤ n * n * (n * n) := by rcases mN_cases hN with rfl | rfl | rfl | rfl | rfl <;> omega
  have b1 := hB.1.2
  have l4 := hl.2.2.1
  unfold wX2_init
  simp only [gza_rd, gu_rd, b1, Nat.reduceEqDiff, false_and, and_false, if_false, true_and, and_self, if_true]
  refine fun _ => ⟨by omega, ho0, fun _ => ⟨hq 5, by omega, by omega, ?_⟩⟩
  intro ln1 e1
  refine fun _ => ⟨?_, by omega, by omega, ?_⟩
  · rw [e1, gla_rd, if_neg (by simp)]; exact hq 6
  intro ln2 e2
  refine fun _ => ⟨?_, by omega, by omega, ?_⟩
  · rw [e2, gla_rd, if_neg (by simp), e1, gla_rd, if_neg (by simp)]; exact hq 7
  intro ln3 e3
  refine fun _ => ⟨?_, by omega, by omega, ?_⟩
  · rw [e3, gla_rd, if_neg (by simp), e2, gla_rd, if_neg (by simp), e1, gla_rd, if_neg (by simp)]; exact hq 1
  intro ln4 e4
  refine fun _ => ⟨?_, by omega, by omega, ?_⟩
  · rw [e4, gla_rd, if_neg (by simp), e3, gla_rd, if_neg (by simp), e2, gla_rd, if_neg (by simp), e1, gla_rd, if_neg (by simp)]; exact hq 2
  intro ln5 e5
  have kl : kpL n (ln5 q) := by
    unfold kpL
    rw [e5, e4, e3, e2, e1]
    simp only [gla_rd, Nat.reduceEqDiff, and_false, and_self, if_false, if_true]
  have lo : ∀ z, z ≠ q → ln5 z = ln z := fun z hz => by
    rw [e5, gla_o hz, e4, gla_o hz, e3, gla_o hz, e2, gla_o hz, e1, gla_o hz]
  have hl' : bdL n (ln5 o) := by rw [lo o hoq]; exact hl
  obtain ⟨M1, eM⟩ : ∃ M1, M1 = gza (gza (gza (gza (gza (gu (gu M q 3 (-1) (n * n)) q 4 (-1) o) q 5) q 6) q 7) q 1) q 2 := ⟨_, rfl⟩
  rw [← eM]
  have oth : ∀ z, z ≠ q → M1 z = M z := fun z hz => by
    rw [eM, gza_o hz, gza_o hz, gza_o hz, gza_o hz, gza_o hz, gu_o hz, gu_o hz]
  refine ⟨by rw [kl.2.2.1]; omega, sJ7_fill kl.2.2.1 (by omega) (by omega) fun M2 f1 f2 f3 => ?_⟩
  have oth2 : ∀ z, z ≠ q → M2 z = M z := fun z hz => (f3.ot hz).trans (oth z hz)
  have s34 : M2 q 3 (-1) = n * n ∧ M2 q 4 (-1) = o := by
    rw [f3.at (show 3 ∉ [5] by decide), f3.at (show 4 ∉ [5] by decide), eM]
    simp only [gza_rd, gu_rd, Nat.reduceEqDiff, false_and, and_false, if_false, true_and, and_self, if_true]
  have s67 : ∀ i : Int, M2 q 6 i = 0 ∧ M2 q 7 i = 0 := fun i => by
    rw [f3.at (show 6 ∉ [5] by decide), f3.at (show 7 ∉ [5] by decide), eM]
    simp only [gza_rd, gu_rd, Nat.reduceEqDiff, false_and, and_false, if_false, true_and, hz]
    constructor <;> split <;> rfl
  have s0 : M2 q 0 (-1) = 0 := by
    rw [f3.at (show 0 ∉ [5] by decide), eM]
    rw [gza_k (by decide), gza_k (by decide), gza_k (by decide), gza_k (by decide), gza_k (by decide), gu_k (by decide), gu_k (by decide)]
    exact hz 0 (-1)
  have I0 : kpI n m (M2 q) 0 := by
    refine ⟨s34.1, s0, fun w b hw hb hlt => ?_, fun i i1 i2 => ⟨f1 i (by omega), s67 i⟩, fun c' hc' => absurd hc' (Nat.not_lt_zero c')⟩
    have := pc_r hN hw hb
    omega
  have cc : (0 : Nat) + 1 + 1 + 1 + 1 + 1 ≤ mc ∧ 0 + (n * n * (n * n)).toNat + (n * n * (n * n)).toNat + (n * n * (n * n)).toNat + (n * n * (n * n)).toNat + (n * n * (n * n)).toNat ≤ ms := by omega
  generalize (0 : Nat) + 1 + 1 + 1 + 1 + 1 = ce at cc ⊢
  generalize 0 + (n * n * (n * n)).toNat + (n * n * (n * n)).toNat + (n * n * (n * n)).toNat + (n * n * (n * n)).toNat + (n * n * (n * n)).toNat = sl at cc ⊢
  have go : ∀ {M' : gM}, Ch q kpS M2 M' → bdG n (M' o) ∧ M' q 4 (-1) = o ∧ ∀ z, z ≠ q → M' z = M z := fun {M'} c => ⟨by rw [c.ot hoq, oth2 o hoq]; exact hB, by rw [c.at (show 4 ∉ kpS by decide)]; exact s34.2, fun z hz => (c.ot hz).trans (oth2 z hz)⟩
  have in1 : ∀ (k105 : gKd → gLn → Nat → Nat → Int → gM → Prop) (w : Int), mOn n w → (∀ M', kpI n m (M' q) ((w + 1) * (n * n)).toNat → Ch q kpS M2 M' → k105 kd ln5 ce sl (w + 1) M') → ∀ (j : Nat) (b : Int) (M' : gM), 0 ≤ b → b ≤ n * n → kpI n m (M' q) (w * (n * n) + b).toNat → Ch q kpS M2 M' → n * n - b < j → wX2_init_116 mc ms post q o ((mNs m + 1 : Nat) : Int) k105 j kd ln5 ce sl w b M' := by
    intro k105 w hw hk j
    induction j with
    | zero => intro b M' h1 h2 h3 h4 h5; omega
    | succ j ih =>
      intro b M' h1 h2 h3 h4 h5
      obtain ⟨g1, g2, g3⟩ := go h4
      have e1 := mSq hN hw
      have w0 : 0 ≤ w * (n * n) := Int.mul_nonneg (by omega) (by omega)
      unfold wX2_init_116 wX2_init_149
      rw [h3.1]
      refine ⟨cc, fun _ => ⟨by omega, fun z => ?_, fun z => ?_⟩⟩
      · have : b = n * n := by omega
        subst this
        refine hk M' ?_ h4
        rw [show (w + 1) * (n * n) = w * (n * n) + n * n by rw [Int.add_mul]; omega]
        exact h3
      · have hb : mOn n b := ⟨h1, by omega⟩
        have pcn : pc n w b = ((w * (n * n) + b).toNat : Nat) := by unfold pc; omega
        have nx : (w * (n * n) + (b + 1)).toNat = (w * (n * n) + b).toNat + 1 := by omega
        have skip : ¬ vP n w b → wX2_init_116 mc ms post q o ((mNs m + 1 : Nat) : Int) k105 j kd ln5 ce sl w (b + 1) M' := fun g => by
          refine ih (b + 1) M' (by omega) (by omega) ?_ h4 (by omega)
          rw [nx]
          exact kpI_skip hN hw hb pcn h3 g
        refine ⟨by omega, fun z2 => ⟨cc, skip (fun g => g.1 z2)⟩, fun z2 => ?_⟩
        refine sX0_areNext hN hl' g1 hw hb (fun g => fun _ => ⟨fun _ => ⟨cc, skip (fun g2 => g2.2 g)⟩, fun g2 => absurd g2 (by decide)⟩) (fun g => fun _ => ⟨fun g2 => absurd rfl g2, fun _ => ?_⟩)
        refine sX2_enter hN hl' g1 ho (by omega) hoq g2 kl hw hb ⟨z2, g⟩ pcn h3 (fun M'' a1 a2 => ⟨cc, ih (b + 1) M'' (by omega) (by omega) ?_ (h4.tr a2) (by omega)⟩)
        rw [nx]
        exact a1
  have in0 : ∀ (j : Nat) (w : Int) (M' : gM), 0 ≤ w → w ≤ n * n → kpI n m (M' q) (w * (n * n)).toNat → Ch q kpS M2 M' → n * n - w < j → wX2_init_105 mc ms post q o ((mNs m + 1 : Nat) : Int) j kd ln5 ce sl w M' := by
    intro j
    induction j with
    | zero => intro w M' h1 h2 h3 h4 h5; omega
    | succ j ih =>
      intro w M' h1 h2 h3 h4 h5
      obtain ⟨g1, g2, g3⟩ := go h4
      unfold wX2_init_105
      rw [h3.1]
      refine ⟨cc, fun _ => ⟨by omega, fun z => ?_, fun z => ?_⟩⟩
      · have : w = n * n := by omega
        subst this
        obtain ⟨a1, a2, a3, a4, a5⟩ := h3
        refine h ln5 M' lo kl g3 g2 ⟨a1, ?_, fun w b hw hb hv => (a3 w b hw hb ?_).1 hv, fun w b hw hb hv => (a3 w b hw hb ?_).2 hv, fun c hc hq => a5 c (by omega) hq⟩
        · rw [a2]
          congr 1
          omega
        · have := pc_r hN hw hb; omega
        · have := pc_r hN hw hb; omega
      · refine ⟨(n * n).toNat + 1, in1 _ w ⟨h1, by omega⟩ (fun M'' a1 a2 => ih (w + 1) M'' (by omega) (by omega) a1 a2 (by omega)) _ 0 M' (by omega) (by omega) ?_ h4 (by omega)⟩
        rw [Int.add_zero]; exact h3
  refine ⟨(n * n).toNat + 1, in0 _ 0 M2 (by omega) (by omega) ?_ Ch.rf (by omega)⟩
  rw [Int.zero_mul]
  exact I0
end FI2
