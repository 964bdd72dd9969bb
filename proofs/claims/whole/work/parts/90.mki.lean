section MI
variable {kd : gKd} {ln : gLn} {M : gM} {o q z y n m : Int}
theorem bfr_al (hN : mN n) : bfr n m (n * n * (n * n)).toNat = cN (cPb n m) (mAl3 n).toNat := by
  have es := S2_e hN
  have hSS : 0 ≤ n * n * (n * n) := by rcases mN_cases hN with rfl | rfl | rfl | rfl | rfl <;> omega
  unfold bfr
  congr 1
  have : ((2 * S2 n * (n * n * (n * n)).toNat : Nat) : Int) = mAl3 n := by
    push_cast
    rw [es, Int.toNat_of_nonneg hSS]
    unfold mAl3
    rw [← Int.mul_assoc]
  omega
theorem sX3_init {post : gKd → gLn → gM → Prop} {mc ms : Nat} {cap : Int} (hN : mN n) (hm : 0 ≤ m ∧ m ≤ 2) (hT : tbC n m kd ln M o q z) (hL : tbL n m (ln z)) (hV : tbV n m (M z) (fun _ => -1)) (hB : tbB n m (M z)) (hz : kd z = 5 ∧ 0 < z) (hq0 : 0 < q) (hne : y ≠ o ∧ y ≠ q ∧ y ≠ z) (hy : ∀ k, ln y k < 0) (hy0 : ∀ k i, M y k i = 0) (hcap : cap = if m = 2 then pn n m (n * n * (n * n)) * n else 0) (hmc : 4 ≤ mc) (hms : 127 + cN (cPb n m) (mAl3 n).toNat + 2 * cap.toNat ≤ ms) (h : ∀ ln' M', (∀ x, x ≠ y → ln' x = ln x) → (∀ x, x ≠ y → M' x = M x) → mkC n m kd ln' M' o q z y → mkS n m M' y z [] → chL ln' y cap → chS n m M' y 0 (fun _ => 0) (fun _ => 0) → post kd ln' M') : wX3_init mc ms kd ln post y o z M := by
  have h4 : 4 ≤ n ∧ n ≤ 8 := hN
  have hA := mAl3_r hN
  have hSS : n * n * (n * n) ≤ 4096 ∧ 0 ≤ n * n * (n * n) := by rcases mN_cases hN with rfl | rfl | rfl | rfl | rfl <;> omega
  have pmx := pn_r (m := m) hN (c := n * n * (n * n)) (by omega)
  have hT0 := hT
  obtain ⟨⟨a1, a2, a3, a4⟩, ⟨b1, b2, b3, b4⟩, ⟨c1, c2, c3, c4⟩, d1, d2, d3⟩ := hT0
  have oy : ¬ o = y := fun e => hne.1 e.symm
  have qy : ¬ q = y := fun e => hne.2.1 e.symm
  have zy : ¬ z = y := fun e => hne.2.2 e.symm
  have e9 := hB (n * n * (n * n)).toNat (by omega)
  rw [Int.toNat_of_nonneg hSS.2, bfr_al hN] at e9
  have csz := cN_le (cPb n m) (mAl3 n).toNat
  have capr : 0 ≤ cap ∧ cap ≤ 65536 := by
    rw [hcap]
    split
    · rcases mN_cases hN with rfl | rfl | rfl | rfl | rfl <;> omega
    · omega
  unfold wX3_init wX5_size
  simp only [gza_rd, gu_rd, oy, qy, zy, Nat.reduceEqDiff, false_and, and_false, if_false, true_and, and_self, if_true, c1, c2, b3.2.1, e9]
  refine ⟨hy 7, by omega, ?_⟩
  intro ln1 e1
  have l1z : ln1 z = ln z := by rw [e1, gla_o zy]
  refine ⟨a4, hz.2, b4, hq0, by rw [l1z, hL.1]; omega, fun _ => ⟨by rw [l1z, hL.2.2.2.2.2.1]; omega, b4, fun _ => ⟨by rw [l1z, hL.2.2.2.2.2.1]; omega, fun _ _ => ?_⟩⟩⟩
  refine ⟨by rw [e1, gla_rd, if_neg (by simp)]; exact hy 5, by omega, by omega, ?_⟩
  intro ln2 e2
  obtain ⟨M1, eM⟩ : ∃ M1, M1 = gza (gu (gu (gu (gu (gu (gza M y 7) y 0 (-1) o) y 1 (-1) z) y 2 (-1) q) y 3 (-1) z) y 4 (-1) m) y 5 := ⟨_, rfl⟩
  have fin : wX3_init_80 mc ms post y o z kd ln2 (0 + 1 + 1) (0 + Int.toNat 127 + Int.toNat (cN (cPb n m) (mAl3 n).toNat : Nat)) cap M1 := by
    unfold wX3_init_80
    refine ⟨by omega, by rw [e2, gla_rd, if_neg (by simp), e1, gla_rd, if_neg (by simp)]; exact hy 8, by omega, by omega, ?_⟩
    intro ln3 e3
    refine ⟨by rw [e3, gla_rd, if_neg (by simp), e2, gla_rd, if_neg (by simp), e1, gla_rd, if_neg (by simp)]; exact hy 9, by omega, ?_⟩
    intro ln4 e4
    have l7 : ln4 y 7 = 127 := by
      rw [e4, e3, e2, e1]
      simp only [gla_rd, Nat.reduceEqDiff, and_false, and_self, if_false, if_true]
    have l5 : ln4 y 5 = ((cN (cPb n m) (mAl3 n).toNat : Nat) : Int) := by
      rw [e4, e3, e2, e1]
      simp only [gla_rd, Nat.reduceEqDiff, and_false, and_self, if_false, if_true]
    have l89 : ln4 y 8 = cap ∧ ln4 y 9 = cap := by
      rw [e4, e3, e2, e1]
      simp only [gla_rd, Nat.reduceEqDiff, and_false, and_self, if_false, if_true]
    have lo : ∀ x, x ≠ y → ln4 x = ln x := fun x hx => by
      rw [e4, gla_o hx, e3, gla_o hx, e2, gla_o hx, e1, gla_o hx]
    refine ⟨by omega, sJ7_fill l7 (by omega) (by omega) fun M2 f1 f2 f3 => ?_⟩
    have oth : ∀ x, x ≠ y → M2 x = M x := fun x hx => by
      rw [f3.ot hx, gza_o hx, gza_o hx, eM, gza_o hx, gu_o hx, gu_o hx, gu_o hx, gu_o hx, gu_o hx, gza_o hx]
    have rd : ∀ (k : Nat) (i : Int), k ≠ 7 → k ≠ 8 → k ≠ 9 → M2 y k i = M1 y k i := fun k i k7 k8 k9 => by
      rw [f3.at (by simpa using k7), gza_k k9, gza_k k8]
    refine h ln4 M2 lo oth ⟨⟨⟨by rw [lo o oy]; exact a1, by rw [oth o oy]; exact a2, a3, a4⟩, ⟨by rw [oth q qy]; exact b1, by rw [lo q qy]; exact b2, by rw [oth q qy]; exact b3, b4⟩, ⟨by rw [oth z zy]; exact c1, by rw [oth z zy]; exact c2, by rw [oth z zy]; exact c3, by rw [lo z zy]; exact c4⟩, d1, d2, d3⟩, ⟨hz.1, by omega⟩, ⟨?_, ?_, ?_, ?_, l5⟩, hne.1, hne.2.1, hne.2.2⟩ ⟨fun K hK => absurd hK (List.not_mem_nil), List.nodup_nil, ?_, ?_, fun i hi => absurd hi (Nat.not_lt_zero i)⟩ ⟨l7, l89.1, l89.2⟩ ⟨?_, fun i hi => absurd hi (Nat.not_lt_zero i), fun v hv => ?_⟩
    · rw [rd 0 _ (by decide) (by decide) (by decide), eM]
      simp only [gza_rd, gu_rd, Nat.reduceEqDiff, false_and, and_false, if_false, true_and, and_self, if_true]
    · rw [rd 2 _ (by decide) (by decide) (by decide), eM]
      simp only [gza_rd, gu_rd, Nat.reduceEqDiff, false_and, and_false, if_false, true_and, and_self, if_true]
    · rw [rd 3 _ (by decide) (by decide) (by decide), eM]
      simp only [gza_rd, gu_rd, Nat.reduceEqDiff, false_and, and_false, if_false, true_and, and_self, if_true]
    · rw [rd 4 _ (by decide) (by decide) (by decide), eM]
      simp only [gza_rd, gu_rd, Nat.reduceEqDiff, false_and, and_false, if_false, true_and, and_self, if_true]
    · rw [oth z zy]
      refine tbV_cong hN hV (fun K _ _ => ?_)
      rw [if_neg (List.not_mem_nil)]
    · rw [rd 6 _ (by decide) (by decide) (by decide), eM]
      simp only [gza_rd, gu_rd, Nat.reduceEqDiff, false_and, and_false, if_false, true_and, hy0]
      rfl
    · rw [rd 10 _ (by decide) (by decide) (by decide), eM]
      simp only [gza_rd, gu_rd, Nat.reduceEqDiff, false_and, and_false, if_false, true_and, hy0]
      rfl
    · rw [f1 v (by omega)]
      rfl
  intro _
  rw [← eM]
  refine ⟨fun g => ?_, fun g => ⟨b4, fun _ _ => ?_⟩⟩
  · rw [hcap, if_neg g] at fin
    exact fin
  · rw [hcap, if_pos g] at fin
    rw [a2.1.1]
    exact fin
end MI
