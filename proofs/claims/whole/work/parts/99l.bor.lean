section BO
variable {kd kd' : gKd} {ln ln' : gLn} {M M' : gM} {h o n m a : Int}
theorem sX6_board36 {post : Int → gKd → gLn → gM → Prop} {mc ms c s : Nat} (hl0 : ln h 0 = 9) (hl2 : ln h 2 = 3) (ha : 4 ≤ a ∧ a ≤ 8) (hk : kd (M h 0 a) = 0) (h0 : 0 < M h 0 a) (hc : c ≤ mc ∧ s ≤ ms) (hp : ∀ M', M' h 1 (-1) = M h 0 a → (∀ i, (0 ≤ i ∧ i ≤ 2) → M' h 2 i = 0) → M' h 8 (-1) = 0 → Ch h [1, 2, 8] M M' → post 1 kd ln M') : wX6_board_36 mc ms post h a kd ln c s M := by
  have loop : ∀ (j : Nat) (x : Int) (M' : gM), 0 ≤ x → x ≤ 3 → M' h 1 (-1) = M h 0 a → (∀ i, (0 ≤ i ∧ i < x) → M' h 2 i = 0) → Ch h [1, 2] M M' → 3 - x < j → wX6_board_48 mc ms post h a j kd ln c s x M' := by
    intro j
    induction j with
    | zero => intro x M' h1 h2 h3 h4 h5 h6; omega
    | succ j ih =>
      intro x M' h1 h2 h3 h4 h5 h6
      unfold wX6_board_48
      rw [hl2]
      refine ⟨hc, by omega, fun g => hp _ ?_ (fun i hi => ?_) gu_s (Ch.up (h5.mo (by decide)) (by decide) _ _), fun g => ⟨by omega, by omega, ih (x + 1) _ (by omega) (by omega) ?_ (fun i hi => ?_) (Ch.up h5 (by decide) _ _) (by omega)⟩⟩
      · rw [gu_k (by decide)]; exact h3
      · rw [gu_k (by decide)]; exact h4 i (by omega)
      · rw [gu_k (by decide)]; exact h3
      · rw [gu_v]
        split
        · rfl
        · exact h4 i (by omega)
  unfold wX6_board_36
  rw [hl0]
  refine ⟨hc, by omega, by omega, hk, h0, 4, loop 4 0 _ (by omega) (by omega) gu_s (fun i hi => by omega) (Ch.up Ch.rf (by decide) _ _) (by omega)⟩
/-- a house whose own fields alone have changed -/
theorem hou.nb {l : List Nat} (hH : hou n kd ln M h) (c : Ch h [1, 2, 8] M M') (ha : mN a) (h1 : M' h 1 (-1) = M h 0 a) (h0 : M h 0 a ≠ 0) (h2 : ∀ i, (0 ≤ i ∧ i ≤ 2) → M' h 2 i = 0) : hou a kd ln M' h := by
  obtain ⟨⟨kh, hh0⟩, hL, -, hB, -, hX, hne⟩ := hH
  have e : ∀ k, k ∉ [1, 2, 8] → M' h k = M h k := fun k hk => c.at hk
  refine ⟨⟨kh, hh0⟩, hL, ⟨by rw [e 0 (by decide)]; exact h1, by rw [e 0 (by decide)]; exact h0⟩, fun i hi => ?_, ⟨fun m hm q => absurd (h2 m hm) q, fun q => absurd (h2 2 (by omega)) q⟩, ?_, ?_⟩
  · rw [e 0 (by decide)]
    exact (hB i hi).imp id (fun q => q.old (fun x hx => ⟨rfl, rfl, c.ot (fun e2 => by rw [e2, kh] at hx; omega)⟩))
  · rw [e 3 (by decide), e 4 (by decide), e 5 (by decide), e 6 (by decide)]
    exact hX
  · rw [e 3 (by decide), e 5 (by decide)]
    exact hne
theorem PT_h (kh : kd h = 6) (hB : ∀ i, mN i → M h 0 i = 0 ∨ kd (M h 0 i) = 0) (e0 : M' h 0 = M h 0) (e : ∀ x, x ≠ h → M' x = M x) : PT M' h = PT M h := by
  have one : ∀ i, mN i → pt M' h i = pt M h i := fun i hi => by
    unfold pt
    rw [e0]
    by_cases g : M h 0 i = 0
    · rw [if_pos g, if_pos g]
    · rw [if_neg g, if_neg g]
      have k0 := (hB i hi).resolve_left g
      unfold pot pos
      rw [e _ (fun e2 => by rw [e2, kh] at k0; exact absurd k0 (by decide))]
  unfold PT
  rw [one 4 (by decide), one 5 (by decide), one 6 (by decide), one 7 (by decide), one 8 (by decide)]
theorem PT_new (ha : mN a) (z : M h 0 a = 0) (nz : M' h 0 a ≠ 0) (f5 : ∀ i, M' (M' h 0 a) 5 i = 0) (f9 : M' (M' h 0 a) 9 (-1) = 0) (f10 : M' (M' h 0 a) 10 (-1) = 0) (oth : ∀ i, mN i → i ≠ a → pt M' h i = pt M h i) : PT M' h + 5011 ≤ PT M h := by
  have cur : pt M' h a + 5011 ≤ pt M h a := by
    unfold pt
    rw [if_pos z, if_neg nz]
    unfold pot pos
    rw [if_neg (fun q => q.1 (f5 0)), f5, f5, f5, f9, f10, pk_0, pk_0, pk_0, pk_0]
    omega
  unfold PT
  rcases mN_cases ha with rfl | rfl | rfl | rfl | rfl
  · have := oth 5 (by decide) (by decide); have := oth 6 (by decide) (by decide); have := oth 7 (by decide) (by decide); have := oth 8 (by decide) (by decide); omega
  · have := oth 4 (by decide) (by decide); have := oth 6 (by decide) (by decide); have := oth 7 (by decide) (by decide); have := oth 8 (by decide) (by decide); omega
  · have := oth 4 (by decide) (by decide); have := oth 5 (by decide) (by decide); have := oth 7 (by decide) (by decide); have := oth 8 (by decide) (by decide); omega
  · have := oth 4 (by decide) (by decide); have := oth 5 (by decide) (by decide); have := oth 6 (by decide) (by decide); have := oth 8 (by decide) (by decide); omega
  · have := oth 4 (by decide) (by decide); have := oth 5 (by decide) (by decide); have := oth 6 (by decide) (by decide); have := oth 7 (by decide) (by decide); omega
theorem sX6_board {post : Int → gKd → gLn → gM → Prop} {mc ms : Nat} (hN : mN n) (hH : hou n kd ln M h) (har : rng a) (hmc : 100 ≤ mc) (hms : pk (M h 0 a) 5011 ≤ ms) (hok : (4 ≤ a ∧ a ≤ 8) → ∀ kd' ln' M', gro h [0, 1, 2, 8] kd ln M kd' ln' M' → hou a kd' ln' M' h → (∀ i, (0 ≤ i ∧ i ≤ 2) → M' h 2 i = 0) → M' h 8 (-1) = 0 → PT M' h + pk (M h 0 a) 5011 ≤ PT M h → post 1 kd' ln' M') (hno : ¬ (4 ≤ a ∧ a ≤ 8) → post 0 kd ln M) : wX6_board mc ms kd ln post h a M := by
  have hH0 := hH
  obtain ⟨⟨kh, hh0⟩, ⟨l0, l2, l7, l9, l11⟩, hcur, hB, -, ⟨⟨x1, x2⟩, p4, ⟨x3, x4⟩, p6⟩, hne⟩ := hH0
  have kh8 : kd h < 8 := by rw [kh]; decide
  have hBk : ∀ i, mN i → M h 0 i = 0 ∨ kd (M h 0 i) = 0 := fun i hi => (hB i hi).imp id (fun q => q.1.2.2.1)
  unfold wX6_board
  rw [l0]
  refine ⟨har, fun g => hno (by omega), fun g => ⟨fun g2 => ⟨by omega, by omega, fun g3 => ?_, fun g3 => ?_⟩, fun g2 => hno (by omega)⟩⟩
  · have ha : mN a := ⟨by omega, g2⟩
    have b := (hB a ha).resolve_left g3
    refine sX6_board36 l0 l2 (by omega) b.1.2.2.1 b.1.2.2.2 (by omega) (fun M1 f1 f2 f3 f4 => hok (by omega) kd ln M1 ⟨fun x _ => ⟨rfl, rfl, fun e => f4.ot e⟩, fun k hk => f4.at (fun q => hk (by revert q; simp; omega))⟩ (hH.nb (l := []) f4 ha f1 g3 f2) f2 f3 ?_)
    rw [PT_h kh hBk (f4.at (by decide)) (fun x hx => f4.ot hx), pk_n g3]
    exact Nat.le_refl _
  · have ha : mN a := ⟨by omega, g2⟩
    rw [g3, pk_0] at hms hok
    refine ⟨by omega, ?_⟩
    intro o kd1 M1 o0 o8 of ek eM
    have oh : h ≠ o := fun e => by rw [← e] at o8; omega
    have k1 : ∀ x, x ≠ o → kd1 x = kd x := fun x hx => by rw [ek]; exact gkn_n hx
    have M1o : ∀ x, x ≠ o → M1 x = M x := fun x hx => by rw [eM]; exact gzr_o hx
    have ko : kd1 o = 0 := by rw [ek]; exact gkn_s
    refine ⟨10, 5000, by omega, sX0_init (kd := kd1) ha of (fun k i => by rw [eM]; exact gzr_z) (by omega) (by omega) (fun ln2 M2 f1 f2 f3 f4 f5 => ?_)⟩
    have old : ∀ x, (kd x < 8 ∨ x < 0) → x ≠ o := fun x hx e => by rw [e] at hx; omega
    have lh : ln2 h = ln h := f1 h oh
    have M2h : M2 h = M h := (f3 h oh).trans (M1o h oh)
    obtain ⟨M3, e3⟩ : ∃ M3, M3 = gu M2 h 0 a o := ⟨_, rfl⟩
    have M3o : ∀ x, x ≠ h → M3 x = M2 x := fun x hx => by rw [e3]; exact gu_o hx
    have M3h : ∀ k, k ≠ 0 → M3 h k = M h k := fun k hk => by rw [e3, gu_k hk, M2h]
    have M3a : M3 h 0 a = o := by rw [e3]; exact gu_s
    have M3i : ∀ i, i ≠ a → M3 h 0 i = M h 0 i := fun i hi => by rw [e3, gu_i hi, M2h]
    have ba : brd a kd1 ln2 M3 o := ⟨⟨f2, by rw [M3o o (fun e => oh e.symm)]; exact f4, ko, o0⟩, Or.inl (by rw [M3o o (fun e => oh e.symm)]; exact f5.2.1), Or.inl (by rw [M3o o (fun e => oh e.symm)]; exact f5.2.2), fun m _ => Or.inl (by rw [M3o o (fun e => oh e.symm)]; exact f5.1 m)⟩
    have keep : ∀ x, (kd x < 8 ∨ x < 0) → x ≠ h → kd1 x = kd x ∧ ln2 x = ln x ∧ M3 x = M x := fun x hx hxh => by
      have xo := old x hx
      exact ⟨k1 x xo, f1 x xo, by rw [M3o x hxh, f3 x xo, M1o x xo]⟩
    have bo : ∀ i, mN i → i ≠ a → M h 0 i = 0 ∨ brd i kd1 ln2 M3 (M h 0 i) := fun i hi hia => (hB i hi).imp id (fun q => q.old (fun x hx => keep x (Or.inl (by omega)) (fun e => by rw [e, kh] at hx; omega)))
    have kk : ∀ {x : Int} {cc : Nat}, kd x = cc → cc < 8 → kd1 x = cc ∧ ln2 x = ln x := fun {x cc} q q8 => ⟨(k1 x (old x (Or.inl (by omega)))).trans q, f1 x (old x (Or.inl (by omega)))⟩
    have H3 : hou n kd1 ln2 M3 h := by
      refine ⟨⟨(kk kh (by decide)).1, hh0⟩, by rw [lh]; exact ⟨l0, l2, l7, l9, l11⟩, ?_, fun i hi => ?_, ?_, ?_, by rw [M3h 3 (by decide), M3h 5 (by decide)]; exact hne⟩
      · have na : n ≠ a := fun e => hcur.2 (by rw [e]; exact g3)
        rw [M3i n na, M3h 1 (by decide)]
        exact hcur
      · by_cases e : i = a
        · right; rw [e, M3a]; exact ba
        · rw [M3i i e]; exact bo i hi e
      · have na : n ≠ a := fun e => hcur.2 (by rw [e]; exact g3)
        rw [M3i n na, M3h 2 (by decide)]
        have bn := (hB n hN).resolve_left hcur.2
        rw [(keep (M h 0 n) (Or.inl (by rw [bn.1.2.2.1]; decide)) (fun e => by
          have := bn.1.2.2.1
          rw [e, kh] at this
          exact absurd this (by decide))).2.2]
        exact hH.2.2.2.2.1
      · rw [M3h 3 (by decide), M3h 4 (by decide), M3h 5 (by decide), M3h 6 (by decide), (kk x1 (by decide)).1, (kk x1 (by decide)).2, (kk p4 (by decide)).1, (kk x3 (by decide)).1, (kk x3 (by decide)).2, (kk p6 (by decide)).1]
        exact ⟨⟨rfl, x2⟩, rfl, ⟨rfl, x4⟩, rfl⟩
    rw [lh, l0, ← e3]
    refine ⟨by omega, sX6_board36 (by rw [lh]; exact l0) (by rw [lh]; exact l2) (by omega) (by rw [M3a]; exact ko) (by rw [M3a]; exact o0) (by omega) (fun M4 g1 g4 g5 g6 => ?_)⟩
    have hBk3 : ∀ i, mN i → M3 h 0 i = 0 ∨ kd1 (M3 h 0 i) = 0 := fun i hi => (H3.2.2.2.1 i hi).imp id (fun q => q.1.2.2.1)
    refine hok (by omega) kd1 ln2 M4 ⟨fun x hx => ?_, fun k hk => ?_⟩ (H3.nb (l := []) g6 ha g1 (by rw [M3a]; omega) g4) g4 g5 ?_
    · have xo := old x hx
      exact ⟨k1 x xo, f1 x xo, fun e => by rw [g6.ot e]; exact (keep x hx e).2.2⟩
    · have k0 : k ≠ 0 := fun e => hk (by rw [e]; decide)
      rw [g6.at (fun q => hk (by revert q; simp; omega)), M3h k k0]
    · rw [PT_h (kd := kd1) (kk kh (by decide)).1 hBk3 (g6.at (by decide)) (fun x hx => g6.ot hx)]
      refine PT_new ha g3 (by rw [M3a]; omega) (fun i => by rw [M3a, M3o o (fun e => oh e.symm)]; exact f5.1 i) (by rw [M3a, M3o o (fun e => oh e.symm)]; exact f5.2.1) (by rw [M3a, M3o o (fun e => oh e.symm)]; exact f5.2.2) (fun i hi hia => ?_)
      unfold pt
      rw [M3i i hia]
      by_cases e : M h 0 i = 0
      · rw [if_pos e, if_pos e]
      · rw [if_neg e, if_neg e]
        have k0 := (hBk i hi).resolve_left e
        unfold pot pos
        rw [(keep _ (Or.inl (by rw [k0]; decide)) (fun e2 => by rw [e2, kh] at k0; exact absurd k0 (by decide))).2.2]
end BO
