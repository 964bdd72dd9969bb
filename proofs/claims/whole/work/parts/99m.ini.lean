section IN
variable {kd : gKd} {ln : gLn} {M : gM} {h : Int}
theorem sX6_init {post : gKd → gLn → gM → Prop} {mc ms : Nat} (kh : kd h = 6) (hh0 : 0 < h) (hq : ∀ k, ln h k < 0) (hz : ∀ k i, M h k i = 0) (hmc : 100 ≤ mc) (hms : 6013 ≤ ms) (hp : ∀ kd' ln' M', (∀ x, (kd x < 8 ∨ x < 0) → x ≠ h → kd' x = kd x ∧ ln' x = ln x ∧ M' x = M x) → hou 8 kd' ln' M' h → ((∀ i, M' h 2 i = 0) ∧ M' h 8 (-1) = 0 ∧ M' h 10 (-1) = 0 ∧ M' h 12 (-1) = 0 ∧ (∀ i, M' h 9 i = 0) ∧ M' (M' h 3 (-1)) 0 (-1) = 0) → PT M' h ≤ PT (fun _ _ _ => 0) h → kd' h = 6 → post kd' ln' M') : wX6_init mc ms kd ln post h M := by
  have kh8 : kd h < 8 := by rw [kh]; decide
  unfold wX6_init
  refine ⟨hq 0, by omega, ?_⟩
  intro l1 e1
  refine ⟨by rw [e1, gla_rd, if_neg (by simp)]; exact hq 2, by omega, ?_⟩
  intro l2 e2
  refine ⟨by omega, ?_⟩
  intro x1 k1 M1 x10 x18 x1f ek1 eM1
  have n1 : ∀ x, (kd x < 8 ∨ x < 0) → x ≠ x1 := fun x hx e => by rw [e] at hx; omega
  have hx1 : h ≠ x1 := n1 h (Or.inl kh8)
  have K1 : ∀ x, x ≠ x1 → k1 x = kd x := fun x hx => by rw [ek1]; exact gkn_n hx
  have K1x : k1 x1 = 1 := by rw [ek1]; exact gkn_s
  have z1 : ∀ k i, M1 h k i = 0 := fun k i => by rw [eM1, gzr_o hx1]; exact gza_00 (gza_00 (hz k i))
  have o1 : ∀ x, x ≠ x1 → x ≠ h → M1 x = M x := fun x a b => by rw [eM1, gzr_o a, gza_o b, gza_o b]
  refine ⟨1, 144, by omega, ?_⟩
  unfold wX1_init
  refine ⟨x1f 1, by omega, ?_⟩
  intro l3 e3
  obtain ⟨M2, e2M⟩ : ∃ M2, M2 = gza M1 x1 1 := ⟨_, rfl⟩
  rw [← e2M]
  have z2 : ∀ k i, M2 h k i = 0 := fun k i => by rw [e2M, gza_o hx1]; exact z1 k i
  have o2 : ∀ x, x ≠ x1 → x ≠ h → M2 x = M x := fun x a b => by rw [e2M, gza_o a]; exact o1 x a b
  have s2 : M2 x1 0 (-1) = 0 := by rw [e2M, eM1]; exact gza_00 gzr_z
  refine ⟨by omega, ?_⟩
  intro p1 k2 M3 p10 p18 p1f ek2 eM3
  have n2 : ∀ x, (k1 x < 8 ∨ x < 0) → x ≠ p1 := fun x hx e => by rw [e] at hx; omega
  have hp1 : h ≠ p1 := n2 h (Or.inl (by rw [K1 h hx1]; exact kh8))
  have x1p1 : x1 ≠ p1 := n2 x1 (Or.inl (by rw [K1x]; decide))
  have K2 : ∀ x, x ≠ p1 → k2 x = k1 x := fun x hx => by rw [ek2]; exact gkn_n hx
  have K2p : k2 p1 = 4 := by rw [ek2]; exact gkn_s
  have z3 : M3 h 3 (-1) = x1 ∧ ∀ k i, k ≠ 3 → M3 h k i = 0 := by
    rw [eM3, gzr_o hp1]
    exact ⟨gu_s, fun k i hk => by rw [gu_k hk]; exact z2 k i⟩
  have o3 : ∀ x, x ≠ p1 → x ≠ h → M3 x = M2 x := fun x a b => by rw [eM3, gzr_o a, gu_o b]
  refine ⟨0, 0, by omega, ?_⟩
  unfold wX4_init
  refine ⟨by omega, ?_⟩
  intro x2 k3 M4 x20 x28 x2f ek3 eM4
  have n3 : ∀ x, (k2 x < 8 ∨ x < 0) → x ≠ x2 := fun x hx e => by rw [e] at hx; omega
  have hx2 : h ≠ x2 := n3 h (Or.inl (by rw [K2 h hp1, K1 h hx1]; exact kh8))
  have x1x2 : x1 ≠ x2 := n3 x1 (Or.inl (by rw [K2 x1 x1p1, K1x]; decide))
  have p1x2 : p1 ≠ x2 := n3 p1 (Or.inl (by rw [K2p]; decide))
  have K3 : ∀ x, x ≠ x2 → k3 x = k2 x := fun x hx => by rw [ek3]; exact gkn_n hx
  have K3x : k3 x2 = 1 := by rw [ek3]; exact gkn_s
  have z4 : M4 h 3 (-1) = x1 ∧ M4 h 4 (-1) = p1 ∧ ∀ k i, k ≠ 3 → k ≠ 4 → M4 h k i = 0 := by
    rw [eM4, gzr_o hx2]
    exact ⟨by rw [gu_k (by decide)]; exact z3.1, gu_s, fun k i a b => by rw [gu_k b]; exact z3.2 k i a⟩
  have o4 : ∀ x, x ≠ x2 → x ≠ h → M4 x = M3 x := fun x a b => by rw [eM4, gzr_o a, gu_o b]
  refine ⟨1, 144, by omega, ?_⟩
  refine ⟨x2f 1, by omega, ?_⟩
  intro l4 e4
  obtain ⟨M5, e5M⟩ : ∃ M5, M5 = gza M4 x2 1 := ⟨_, rfl⟩
  rw [← e5M]
  have M5h : M5 h = M4 h := by rw [e5M, gza_o hx2]
  have o5 : ∀ x, x ≠ x2 → M5 x = M4 x := fun x a => by rw [e5M, gza_o a]
  refine ⟨by omega, ?_⟩
  intro p2 k4 M6 p20 p28 p2f ek4 eM6
  have n4 : ∀ x, (k3 x < 8 ∨ x < 0) → x ≠ p2 := fun x hx e => by rw [e] at hx; omega
  have hp2 : h ≠ p2 := n4 h (Or.inl (by rw [K3 h hx2, K2 h hp1, K1 h hx1]; exact kh8))
  have x1p2 : x1 ≠ p2 := n4 x1 (Or.inl (by rw [K3 x1 x1x2, K2 x1 x1p1, K1x]; decide))
  have p1p2 : p1 ≠ p2 := n4 p1 (Or.inl (by rw [K3 p1 p1x2, K2p]; decide))
  have x2p2 : x2 ≠ p2 := n4 x2 (Or.inl (by rw [K3x]; decide))
  have K4 : ∀ x, x ≠ p2 → k4 x = k3 x := fun x hx => by rw [ek4]; exact gkn_n hx
  have K4p : k4 p2 = 4 := by rw [ek4]; exact gkn_s
  have z6 : M6 h 3 (-1) = x1 ∧ M6 h 4 (-1) = p1 ∧ M6 h 5 (-1) = x2 ∧ ∀ k i, k ≠ 3 → k ≠ 4 → k ≠ 5 → M6 h k i = 0 := by
    rw [eM6, gzr_o hp2]
    exact ⟨by rw [gu_k (by decide), M5h]; exact z4.1, by rw [gu_k (by decide), M5h]; exact z4.2.1, gu_s, fun k i a b c => by rw [gu_k c, M5h]; exact z4.2.2 k i a b⟩
  have o6 : ∀ x, x ≠ p2 → x ≠ h → M6 x = M5 x := fun x a b => by rw [eM6, gzr_o a, gu_o b]
  refine ⟨0, 0, by omega, ?_⟩
  have lh4 : ∀ k, k ≠ 0 → k ≠ 2 → l4 h k = ln h k := fun k a b => by
    rw [e4, gla_o hx2, e3, gla_o hx1, e2, gla_rd, if_neg (fun e => b e.2), e1, gla_rd, if_neg (fun e => a e.2)]
  refine ⟨by rw [lh4 7 (by decide) (by decide)]; exact hq 7, by omega, ?_⟩
  intro l5 e5
  refine ⟨by rw [e5, gla_rd, if_neg (by simp), lh4 9 (by decide) (by decide)]; exact hq 9, by omega, ?_⟩
  intro l6 e6
  refine ⟨by rw [e6, gla_rd, if_neg (by simp), e5, gla_rd, if_neg (by simp), lh4 11 (by decide) (by decide)]; exact hq 11, by omega, ?_⟩
  intro l7 e7
  refine ⟨by omega, ?_⟩
  intro o k5 M7 o0 o8 of ek5 eM7
  have n5 : ∀ x, (k4 x < 8 ∨ x < 0) → x ≠ o := fun x hx e => by rw [e] at hx; omega
  have k4h : k4 h = 6 := by rw [K4 h hp2, K3 h hx2, K2 h hp1, K1 h hx1]; exact kh
  have k4x1 : k4 x1 = 1 := by rw [K4 x1 x1p2, K3 x1 x1x2, K2 x1 x1p1]; exact K1x
  have k4p1 : k4 p1 = 4 := by rw [K4 p1 p1p2, K3 p1 p1x2]; exact K2p
  have k4x2 : k4 x2 = 1 := by rw [K4 x2 x2p2]; exact K3x
  have ho : h ≠ o := n5 h (Or.inl (by rw [k4h]; decide))
  have x1o : x1 ≠ o := n5 x1 (Or.inl (by rw [k4x1]; decide))
  have p1o : p1 ≠ o := n5 p1 (Or.inl (by rw [k4p1]; decide))
  have x2o : x2 ≠ o := n5 x2 (Or.inl (by rw [k4x2]; decide))
  have p2o : p2 ≠ o := n5 p2 (Or.inl (by rw [K4p]; decide))
  have K5 : ∀ x, x ≠ o → k5 x = k4 x := fun x hx => by rw [ek5]; exact gkn_n hx
  have K5o : k5 o = 0 := by rw [ek5]; exact gkn_s
  have z7 : M7 h 3 (-1) = x1 ∧ M7 h 4 (-1) = p1 ∧ M7 h 5 (-1) = x2 ∧ M7 h 6 (-1) = p2 ∧ ∀ k i, k ≠ 3 → k ≠ 4 → k ≠ 5 → k ≠ 6 → M7 h k i = 0 := by
    rw [eM7, gzr_o ho]
    refine ⟨?_, ?_, ?_, ?_, fun k i a b c d => gza_00 (gza_00 (gza_00 ?_))⟩
    · rw [gza_k (by decide), gza_k (by decide), gza_k (by decide), gu_k (by decide)]; exact z6.1
    · rw [gza_k (by decide), gza_k (by decide), gza_k (by decide), gu_k (by decide)]; exact z6.2.1
    · rw [gza_k (by decide), gza_k (by decide), gza_k (by decide), gu_k (by decide)]; exact z6.2.2.1
    · rw [gza_k (by decide), gza_k (by decide), gza_k (by decide), gu_s]
    · rw [gu_k d]; exact z6.2.2.2 k i a b c
  have o7 : ∀ x, x ≠ o → x ≠ h → M7 x = M6 x := fun x a b => by rw [eM7, gzr_o a, gza_o b, gza_o b, gza_o b, gu_o b]
  refine ⟨10, 5000, by omega, sX0_init (kd := k5) (n := 8) (by decide) of (fun k i => by rw [eM7]; exact gzr_z) (by omega) (by omega) (fun l8 M8 f1 f2 f3 f4 f5 => ?_)⟩
  have M8h : M8 h = M7 h := f3 h ho
  have l8h : l8 h = l7 h := f1 h ho
  have L : l8 h 0 = 9 ∧ l8 h 2 = 3 ∧ l8 h 7 = 635 ∧ l8 h 9 = 40 ∧ l8 h 11 = 13 := by
    rw [l8h, e7, e6, e5, e4, e3, e2, e1]
    simp only [gla_rd, hx1, hx2, false_and, Nat.reduceEqDiff, and_false, and_self, if_false, if_true]
  have eq1 : (gu M8 h 1 (-1) o) h 1 (-1) = o := gu_s
  rw [eq1, L.1]
  refine ⟨by omega, K5o, o0, by omega, ?_⟩
  obtain ⟨M9, e9M⟩ : ∃ M9, M9 = gu (gu M8 h 1 (-1) o) h 0 8 o := ⟨_, rfl⟩
  rw [← e9M]
  have M9o : ∀ x, x ≠ h → M9 x = M8 x := fun x hx => by rw [e9M, gu_o hx, gu_o hx]
  have M9k : ∀ k, k ≠ 0 → k ≠ 1 → M9 h k = M7 h k := fun k a b => by rw [e9M, gu_k a, gu_k b, M8h]
  have M91 : M9 h 1 (-1) = o := by rw [e9M, gu_k (by decide)]; exact gu_s
  have M98 : M9 h 0 8 = o := by rw [e9M]; exact gu_s
  have M90 : ∀ i, i ≠ 8 → M9 h 0 i = 0 := fun i hi => by rw [e9M, gu_i hi, gu_k (by decide), M8h]; exact z7.2.2.2.2 0 i (by decide) (by decide) (by decide) (by decide)
  have M93 : M9 h 3 (-1) = x1 := by rw [M9k 3 (by decide) (by decide)]; exact z7.1
  have M94 : M9 h 4 (-1) = p1 := by rw [M9k 4 (by decide) (by decide)]; exact z7.2.1
  have M95 : M9 h 5 (-1) = x2 := by rw [M9k 5 (by decide) (by decide)]; exact z7.2.2.1
  have M96 : M9 h 6 (-1) = p2 := by rw [M9k 6 (by decide) (by decide)]; exact z7.2.2.2.1
  have M9z : ∀ k i, k ≠ 0 → k ≠ 1 → k ≠ 3 → k ≠ 4 → k ≠ 5 → k ≠ 6 → M9 h k i = 0 := fun k i a b c d e f => by rw [M9k k a b]; exact z7.2.2.2.2 k i c d e f
  have oh : o ≠ h := fun e => ho e.symm
  have bo : brd 8 k5 l8 M9 o := ⟨⟨f2, by rw [M9o o oh]; exact f4, K5o, o0⟩, Or.inl (by rw [M9o o oh]; exact f5.2.1), Or.inl (by rw [M9o o oh]; exact f5.2.2), fun m _ => Or.inl (by rw [M9o o oh]; exact f5.1 m)⟩
  have lx1 : l8 x1 1 = 144 := by
    rw [f1 x1 x1o, e7, gla_o (fun e => hx1 e.symm), e6, gla_o (fun e => hx1 e.symm), e5, gla_o (fun e => hx1 e.symm), e4, gla_o x1x2, e3, gla_s]
  have lx2 : l8 x2 1 = 144 := by
    rw [f1 x2 x2o, e7, gla_o (fun e => hx2 e.symm), e6, gla_o (fun e => hx2 e.symm), e5, gla_o (fun e => hx2 e.symm), e4, gla_s]
  have x1h : x1 ≠ h := fun e => hx1 e.symm
  refine hp k5 l8 M9 (fun x hx hxh => ?_) ⟨⟨by rw [K5 h ho]; exact k4h, hh0⟩, L, ⟨by rw [M91, M98], by rw [M98]; omega⟩, fun i hi => ?_, ⟨fun m _ q => absurd (M9z 2 m (by decide) (by decide) (by decide) (by decide) (by decide) (by decide)) q, fun q => absurd (M9z 2 2 (by decide) (by decide) (by decide) (by decide) (by decide) (by decide)) q⟩, ?_, ?_⟩ ⟨fun i => M9z 2 i (by decide) (by decide) (by decide) (by decide) (by decide) (by decide), M9z 8 _ (by decide) (by decide) (by decide) (by decide) (by decide) (by decide), M9z 10 _ (by decide) (by decide) (by decide) (by decide) (by decide) (by decide), M9z 12 _ (by decide) (by decide) (by decide) (by decide) (by decide) (by decide), fun i => M9z 9 i (by decide) (by decide) (by decide) (by decide) (by decide) (by decide), ?_⟩ ?_ (by rw [K5 h ho]; exact k4h)
  · have a1 := n1 x hx
    have h1 : k1 x < 8 ∨ x < 0 := by rw [K1 x a1]; exact hx
    have a2 := n2 x h1
    have h2 : k2 x < 8 ∨ x < 0 := by rw [K2 x a2]; exact h1
    have a3 := n3 x h2
    have h3 : k3 x < 8 ∨ x < 0 := by rw [K3 x a3]; exact h2
    have a4 := n4 x h3
    have h4 : k4 x < 8 ∨ x < 0 := by rw [K4 x a4]; exact h3
    have a5 := n5 x h4
    refine ⟨by rw [K5 x a5, K4 x a4, K3 x a3, K2 x a2, K1 x a1], ?_, ?_⟩
    · rw [f1 x a5, e7, gla_o hxh, e6, gla_o hxh, e5, gla_o hxh, e4, gla_o a3, e3, gla_o a1, e2, gla_o hxh, e1, gla_o hxh]
    · rw [M9o x hxh, f3 x a5, o7 x a5 hxh, o6 x a4 hxh, o5 x a3, o4 x a3 hxh, o3 x a2 hxh, o2 x a1 hxh]
  · by_cases e : i = 8
    · right; rw [e, M98]; exact bo
    · exact Or.inl (M90 i e)
  · rw [M93, M94, M95, M96, K5 x1 x1o, K5 p1 p1o, K5 x2 x2o, K5 p2 p2o]
    exact ⟨⟨k4x1, lx1⟩, k4p1, ⟨k4x2, lx2⟩, K4p⟩
  · rw [M93, M95]; exact x1x2
  · rw [M93, M9o x1 x1h, f3 x1 x1o, o7 x1 x1o x1h, o6 x1 x1p2 x1h, o5 x1 x1x2, o4 x1 x1x2 x1h, o3 x1 x1p1 x1h]
    exact s2
  · have p8 : pt M9 h 8 ≤ pt (fun _ _ _ => 0) h 8 := by
      unfold pt
      rw [if_neg (by rw [M98]; omega), if_pos rfl, M98]
      unfold pot pos
      rw [M9o o oh, if_neg (fun q => q.1 (f5.1 0)), f5.1, f5.1, f5.1, f5.2.1, f5.2.2, pk_0, pk_0, pk_0, pk_0]
      omega
    have oth : ∀ i, i ≠ 8 → pt M9 h i = pt (fun _ _ _ => 0) h i := fun i hi => by
      unfold pt
      rw [if_pos (M90 i hi), if_pos rfl]
    unfold PT
    rw [oth 4 (by decide), oth 5 (by decide), oth 6 (by decide), oth 7 (by decide)]
    omega
end IN
