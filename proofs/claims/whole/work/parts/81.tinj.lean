section TK
variable {kd : gKd} {ln : gLn} {M : gM} {o q z n m : Int}
theorem sX5_init {post : gKd → gLn → gM → Prop} {mc ms : Nat} (hN : mN n) (hm : 0 ≤ m ∧ m ≤ 2) (hb : bdL n (ln o) ∧ bdG n (M o) ∧ kd o = 0 ∧ 0 < o) (hk : M q 4 (-1) = o ∧ kpL n (ln q) ∧ kpG n m (M q) ∧ kd q = 2) (hq0 : 0 < q) (hne : z ≠ o ∧ z ≠ q ∧ o ≠ q) (hz : ∀ k, ln z k < 0) (hz0 : ∀ k i, M z k i = 0) (hmc : 7 ≤ mc) (hms : 263 + 129 * (pn n m (n * n * (n * n))).toNat ≤ ms) (h : ∀ ln' M', (∀ x, x ≠ z → ln' x = ln x) → tbL n m (ln' z) → (∀ x, x ≠ z → M' x = M x) → tbC n m kd ln' M' o q z → tbV n m (M' z) (fun _ => -1) → tbB n m (M' z) → tbZ (M' z) → post kd ln' M') : wX5_init mc ms kd ln post z o m q M := by
  have hS := mSS hN
  have hSS : n * n * (n * n) ≤ 4096 ∧ 0 ≤ n * n * (n * n) := by rcases mN_cases hN with rfl | rfl | rfl | rfl | rfl <;> omega
  have pmx := pn_r (m := m) hN (c := n * n * (n * n)) (by omega)
  have k0 : M q 0 (-1) = pn n m (n * n * (n * n)) := hk.2.2.1.2.1
  have qz : ¬ q = z := fun e => hne.2.1 e.symm
  obtain ⟨sz, esz⟩ : ∃ sz, sz = pn n m (n * n * (n * n)) := ⟨_, rfl⟩
  rw [← esz] at pmx k0 hms
  unfold wX5_init
  simp only [gza_rd, gzf_rd, gu_rd, qz, false_and, if_false, k0]
  refine ⟨hz 3, by omega, ?_⟩
  intro ln1 e1
  refine ⟨by rw [e1, gla_rd, if_neg (by simp)]; exact hz 4, by omega, ?_⟩
  intro ln2 e2
  refine ⟨by rw [e2, gla_rd, if_neg (by simp), e1, gla_rd, if_neg (by simp)]; exact hz 5, by omega, ?_⟩
  intro ln3 e3
  refine ⟨by rw [e3, gla_rd, if_neg (by simp), e2, gla_rd, if_neg (by simp), e1, gla_rd, if_neg (by simp)]; exact hz 6, by omega, ?_⟩
  intro ln4 e4
  refine ⟨by rw [e4, gla_rd, if_neg (by simp), e3, gla_rd, if_neg (by simp), e2, gla_rd, if_neg (by simp), e1, gla_rd, if_neg (by simp)]; exact hz 10, by omega, ?_⟩
  intro ln5 e5
  refine ⟨hb.2.2.2, by omega, hq0, fun _ => ⟨by rw [e5, gla_rd, if_neg (by simp), e4, gla_rd, if_neg (by simp), e3, gla_rd, if_neg (by simp), e2, gla_rd, if_neg (by simp), e1, gla_rd, if_neg (by simp)]; exact hz 1, by omega, by omega, ?_⟩⟩
  intro ln6 e6
  obtain ⟨M1, eM⟩ : ∃ M1, M1 = gza (gu (gu (gu (gza (gzf (gzf (gza (gza M z 3) z 4) z 5 (fun i => if i = 0 then (-1) else if i = 1 then (-1) else 0)) z 6 (fun i => if i = 0 then (-1) else if i = 1 then (-1) else 0)) z 10) z 8 (-1) o) z 0 (-1) m) z 2 (-1) q) z 1 := ⟨_, rfl⟩
  rw [← eM]
  have l1 : ln6 z 1 = sz * 128 := by rw [e6, gla_rd, if_pos ⟨rfl, rfl⟩]
  refine ⟨by rw [l1]; omega, sJ7_fillB l1 (by omega) (by omega) fun M2 f1 f2 f3 => ?_⟩
  have oth : ∀ x, x ≠ z → M1 x = M x := fun x hx => by
    rw [eM, gza_o hx, gu_o hx, gu_o hx, gu_o hx, gza_o hx, gzf_o hx, gzf_o hx, gza_o hx, gza_o hx]
  have oth2 : ∀ x, x ≠ z → M2 x = M x := fun x hx => (f3.ot hx).trans (oth x hx)
  have k02 : M2 q 0 (-1) = sz := by rw [oth2 q qz]; exact k0
  rw [k02]
  refine fun _ => ⟨by rw [e6, gla_rd, if_neg (by simp), e5, gla_rd, if_neg (by simp), e4, gla_rd, if_neg (by simp), e3, gla_rd, if_neg (by simp), e2, gla_rd, if_neg (by simp), e1, gla_rd, if_neg (by simp)]; exact hz 9, by omega, by omega, ?_⟩
  intro ln7 e7
  have L : tbL n m (ln7 z) := by
    unfold tbL
    rw [← esz, e7, e6, e5, e4, e3, e2, e1]
    simp only [gla_rd, Nat.reduceEqDiff, and_false, and_self, if_false, if_true]
  have lo : ∀ x, x ≠ z → ln7 x = ln x := fun x hx => by
    rw [e7, gla_o hx, e6, gla_o hx, e5, gla_o hx, e4, gla_o hx, e3, gla_o hx, e2, gla_o hx, e1, gla_o hx]
  obtain ⟨M3, e3M⟩ : ∃ M3, M3 = gza M2 z 9 := ⟨_, rfl⟩
  rw [← e3M]
  have oth3 : ∀ x, x ≠ z → M3 x = M x := fun x hx => by rw [e3M, gza_o hx]; exact oth2 x hx
  have rd : ∀ (j : Nat) (i : Int), j ≠ 1 → j ≠ 9 → M3 z j i = M1 z j i := fun j i h1 h9 => by
    rw [e3M, gza_k h9, f3.at (by simpa using h1)]
  have C3 : tbC n m kd ln7 M3 o q z := by
    refine ⟨⟨by rw [lo o (fun e => hne.1 e.symm)]; exact hb.1, by rw [oth3 o (fun e => hne.1 e.symm)]; exact hb.2.1, hb.2.2.1, hb.2.2.2⟩, ⟨by rw [oth3 q qz]; exact hk.1, by rw [lo q qz]; exact hk.2.1, by rw [oth3 q qz]; exact hk.2.2.1, hk.2.2.2⟩, ⟨?_, ?_, ?_, L.1⟩, hne⟩
    · rw [rd 0 (-1) (by decide) (by decide), eM]
      simp only [gza_rd, gu_rd, Nat.reduceEqDiff, false_and, and_false, if_false, true_and, and_self, if_true]
    · rw [rd 2 (-1) (by decide) (by decide), eM]
      simp only [gza_rd, gu_rd, Nat.reduceEqDiff, false_and, and_false, if_false, true_and, and_self, if_true]
    · rw [rd 8 (-1) (by decide) (by decide), eM]
      simp only [gza_rd, gu_rd, Nat.reduceEqDiff, false_and, and_false, if_false, true_and, and_self, if_true]
  have Z3 : tbZ (M3 z) := by
    refine ⟨?_, fun i hi => ⟨?_, ?_, ?_, ?_⟩, fun i hi => ?_⟩
    · rw [rd 7 (-1) (by decide) (by decide), eM]
      simp only [gza_rd, gzf_rd, gu_rd, Nat.reduceEqDiff, false_and, and_false, if_false, hz0]
    · rw [rd 3 i (by decide) (by decide), eM]
      simp [gza_rd, gzf_rd, gu_rd, hz0]
    · rw [rd 4 i (by decide) (by decide), eM]
      simp [gza_rd, gzf_rd, gu_rd, hz0]
    · rw [rd 5 i (by decide) (by decide), eM]
      rcases (show i = 0 ∨ i = 1 by omega) with e | e <;> subst e <;> simp [gza_rd, gzf_rd, gu_rd]
    · rw [rd 6 i (by decide) (by decide), eM]
      rcases (show i = 0 ∨ i = 1 by omega) with e | e <;> subst e <;> simp [gza_rd, gzf_rd, gu_rd]
    · rw [rd 10 i (by decide) (by decide), eM]
      simp [gza_rd, gzf_rd, gu_rd, hz0]
  refine ⟨sz.toNat + 1, ?_⟩
  refine sX5_init_110 hN hm C3 L.2.2.2.2.2.1 (by omega) (fun M' a1 a2 a3 => h ln7 M' lo L (fun x hx => (a1.ot hx).trans (oth3 x hx)) (C3.ch a1 (by decide)) a2 a3 ?_) _ 0 M3 (by omega) Ch.rf (fun c hc hp => ?_) (fun c hc hq x hx => ⟨fun g => ?_, fun _ => ?_⟩) (by omega)
  · obtain ⟨z1, z2, z3⟩ := Z3
    refine ⟨?_, fun i hi => ?_, fun i hi => ?_⟩
    · rw [a1.at (show 7 ∉ [1, 9] by decide)]; exact z1
    · rw [a1.at (show 3 ∉ [1, 9] by decide), a1.at (show 4 ∉ [1, 9] by decide), a1.at (show 5 ∉ [1, 9] by decide), a1.at (show 6 ∉ [1, 9] by decide)]; exact z2 i hi
    · rw [a1.at (show 10 ∉ [1, 9] by decide)]; exact z3 i hi
  · have e0 : pn n m c = 0 := by
      have := (pn_r (m := m) hN (c := (c : Int)) (by omega)).1
      omega
    rw [e0, e3M]
    have : bfr n m c = 0 := by
      have es := S2_e hN
      have hs4 : ((S2 n * S2 n : Nat) : Int) = n * n * (n * n) := by push_cast; rw [es]
      have := bfr_eq (m := m) hN (c := 0) (c' := c) (by omega) (by omega) (by
        unfold pn at e0
        rw [show ((c : Nat) : Int).toNat = c by omega] at e0
        show 0 = cN (cqb n m) c
        omega)
      rw [← this]; rfl
    rw [this, gza_rd, if_pos ⟨rfl, rfl, by omega⟩]
    rfl
  · have := (pn_r (m := m) hN (c := (c : Int)) (by omega)).1
    omega
  · have pr := pn_r (m := m) hN (c := (c : Int)) (by omega)
    have plt : pn n m c < sz := by
      rw [esz]
      have := cN_t (cqb_t.mpr hq)
      have := cN_mono (p := cqb n m) (show c + 1 ≤ (n * n * (n * n)).toNat by omega)
      unfold pn
      rw [show ((c : Nat) : Int).toNat = c by omega]
      omega
    rw [e3M, gza_k (by decide)]
    exact f1 _ (by omega)
end TK
