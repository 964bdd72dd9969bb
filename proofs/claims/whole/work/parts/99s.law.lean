section LW
variable {kd : gKd} {ln : gLn} {M : gM} {h r n m a : Int}
theorem cs_board {K : gKd → gLn → Nat → Nat → gM → Prop} {mc ms c s : Nat} (hI : Inv n kd ln M h r) (ha : rng a) (hc : c + 100 ≤ mc) (hs : s + PT M h ≤ ms) (hK : ∀ n' kd' ln' M' c' s', Inv n' kd' ln' M' h r → c' ≤ c + 100 → s' + PT M' h ≤ s + PT M h → K kd' ln' c' s' M') : ∃ mc64 ms65 : Nat, (c + mc64 ≤ mc ∧ s + ms65 ≤ ms) ∧ (wX6_board mc64 ms65 kd ln (fun c72 kd66 ln67 M69 => (rng c72 → (wX7_board kd66 ln67 (fun c76 M75 => (rng c76 → ((c72 = c76 → K kd66 ln67 (c + mc64) (s + ms65) M75) ∧ (¬ (c72 = c76) → False)))) r a M69))) h a M) := by
  have hI0 := hI
  obtain ⟨hN, hH, ⟨kr, lr, tr⟩, ⟨ra, rb, rc, rd, re⟩, k1, l1⟩ := hI0
  have nn := hI.hr
  have kh := hH.1.1
  by_cases g : 4 ≤ a ∧ a ≤ 8
  · have hp : pk (M h 0 a) 5011 ≤ PT M h := by
      by_cases e : M h 0 a = 0
      · rw [e, pk_0]
        have : 5011 ≤ pt M h a := by unfold pt; rw [if_pos e]; omega
        unfold PT
        rcases mN_cases (n := a) g with rfl | rfl | rfl | rfl | rfl <;> omega
      · rw [pk_n e]; exact Nat.zero_le _
    refine ⟨100, pk (M h 0 a) 5011, by omega, sX6_board hN hH ha (by omega) (Nat.le_refl _) (fun _ kd1 ln1 M1 g1 H1 md l8 p1 _ => ?_) (fun g2 => absurd g g2)⟩
    have xr := g1.1 r (Or.inl (by rw [kr]; decide))
    have er : M1 r = M r := xr.2.2 (fun e => nn.1 e.symm)
    have xo := g1.1 (-1) (Or.inr (by decide))
    have lr1 : rLn ln1 r := by unfold rLn mLn7; rw [xr.2.1]; exact lr
    refine sX7_board lr1 ha (fun _ M2 c1 c2 c3 c4 c5 _ => ⟨fun _ => ?_, fun g2 => absurd rfl g2⟩) (fun g2 => absurd g g2)
    have kr1 : kd1 r = 7 := xr.1.trans kr
    have o2 : ∀ x, x ≠ r → M2 x = M1 x := fun x hx => c5.ot hx
    have eh2 : M2 h = M1 h := o2 h nn.1
    have eB : ∀ x, (kd1 x = 0 ∨ kd1 x = 2 ∨ kd1 x = 5) → M2 x = M1 x := fun x hx => o2 x (fun e => by rw [e, kr1] at hx; omega)
    have H2 : hou a kd1 ln1 M2 h := H1.fr g eB (fun k _ => by rw [eh2])
    have ehk : ∀ k, k ∉ [0, 1, 2, 8] → M2 h k = M h k := fun k hk => by rw [eh2]; exact g1.2 k hk
    have er2 : ∀ k, k ∉ [0, 1, 2, 3, 26] → M2 r k = M r k := fun k hk => by rw [c5.at hk, er]
    have eX : M2 (M h 3 (-1)) = M (M h 3 (-1)) := (o2 _ nn.2.2.2.1).trans ((g1.1 _ (Or.inl (by rw [hH.2.2.2.2.2.1.1.1]; decide))).2.2 nn.2.2.2.2.1)
    have J : Inv a kd1 ln1 M2 h r := ⟨g, H2, ⟨kr1, lr1, ⟨c1, fun m hm q => absurd (c2 m hm) q, fun q => absurd (c2 2 (by omega)) q⟩⟩, ⟨fun m hm => by rw [eh2, md m hm, c2 m hm], rb.eq (ehk 3 (by decide)) eX (fun k hk => er2 k (by revert hk; simp; omega)), ⟨-1, by omega, c3, by rw [eh2, l8]; rfl, fun i i1 i2 => by omega⟩, rd.eq (ehk 9 (by decide)) (ehk 10 (by decide)) (er2 8 (by decide)) (er2 9 (by decide)), re.eq (ehk 11 (by decide)) (ehk 12 (by decide)) (er2 10 (by decide)) (er2 11 (by decide))⟩, xo.1.trans k1, by rw [xo.2.1]; exact l1⟩
    have pe : PT M2 h = PT M1 h := PT_e H1 (by rw [eh2]) (fun x hx => eB x (Or.inl hx))
    exact hK a kd1 ln1 M2 _ _ J (by omega) (by omega)
  · have v := hI.f0 (v := 0)
    have fin : wX7_board kd ln (fun c76 M75 => (rng c76 → (((0 : Int) = c76 → K kd ln (c + 0) (s + 0) M75) ∧ (¬ ((0 : Int) = c76) → False)))) r a M := sX7_board lr ha (fun g2 => absurd g2 g) (fun _ _ => ⟨fun _ => hK n kd ln _ _ _ v.1 (by omega) (by rw [v.2]; omega), fun g2 => absurd rfl g2⟩)
    refine ⟨0, 0, by omega, ?_⟩
    unfold wX6_board
    exact ⟨ha, fun _ _ => fin, fun g2 => ⟨fun g3 => absurd ⟨by omega, g3⟩ g, fun _ _ => fin⟩⟩
theorem pot_PT (hN : mN n) (hH : hou n kd ln M h) : pot n M (M h 1 (-1)) ≤ PT M h := by
  have e : pot n M (M h 1 (-1)) = pt M h n := by unfold pt; rw [if_neg hH.2.2.1.2, hH.2.2.1.1]
  rw [e]
  unfold PT
  rcases mN_cases hN with rfl | rfl | rfl | rfl | rfl <;> omega
theorem cs_make {K : gKd → gLn → Nat → Nat → gM → Prop} {mc ms c s : Nat} (hI : Inv n kd ln M h r) (hm : rng m) (hc : c + 100 ≤ mc) (hs : s + PT M h ≤ ms) (hK : ∀ n' kd' ln' M' c' s', Inv n' kd' ln' M' h r → c' ≤ c + 100 → s' + PT M' h ≤ s + PT M h → K kd' ln' c' s' M') : ∃ mc80 ms81 : Nat, (c + mc80 ≤ mc ∧ s + ms81 ≤ ms) ∧ (wX6_make mc80 ms81 kd ln (fun c88 kd82 ln83 M85 => (rng c88 → (wX7_make kd82 ln83 (fun c92 M91 => (rng c92 → ((c88 = c92 → K kd82 ln83 (c + mc80) (s + ms81) M91) ∧ (¬ (c88 = c92) → False)))) r m M85))) h m M) := by
  have hI0 := hI
  obtain ⟨hN, hH, ⟨kr, lr, tr⟩, ⟨ra, rb, rc, rd, re⟩, k1, l1⟩ := hI0
  have nn := hI.hr
  have kh := hH.1.1
  have ko := (hH.bd hN).1.2.2.1
  have hB : ∀ m, (0 ≤ m ∧ m ≤ 2) → mBd n m := fun m hm => mBd_all hN m hm
  by_cases g : 0 ≤ m ∧ m ≤ 2
  · have hp : mkC8 n m M (M h 1 (-1)) ≤ PT M h := by
      refine Nat.le_trans ?_ (pot_PT hN hH)
      unfold mkC8
      split
      · exact Nat.le_refl _
      · exact spd_pot g
    refine ⟨100, mkC8 n m M (M h 1 (-1)), by omega, sX6_make hN hH hm (by omega) (Nat.le_refl _) (fun _ kd1 ln1 M1 g1 H1 md p1 _ => ?_) (fun g2 => absurd g g2)⟩
    have ro : r ≠ M h 1 (-1) := fun e => by rw [← e, kr] at ko; exact absurd ko (by decide)
    have xo' : M h 3 (-1) ≠ M h 1 (-1) := fun e => by
      have := hH.2.2.2.2.2.1.1.1
      rw [e, ko] at this
      exact absurd this (by decide)
    have xr := g1.1 r (Or.inl (by rw [kr]; decide))
    have er : M1 r = M r := xr.2.2 (fun e => nn.1 e.symm) ro
    have xo := g1.1 (-1) (Or.inr (by decide))
    have lr1 : rLn ln1 r := by unfold rLn mLn7; rw [xr.2.1]; exact lr
    have kr1 : kd1 r = 7 := xr.1.trans kr
    refine sX7_make hN lr1 (tr.er er) hB hm (fun _ M2 c1 c2 c3 c4 _ => ⟨fun _ => ?_, fun g2 => absurd rfl g2⟩) (fun g2 => absurd g g2)
    have o2 : ∀ x, x ≠ r → M2 x = M1 x := fun x hx => c3.ot hx
    have eh2 : M2 h = M1 h := o2 h nn.1
    have eB : ∀ x, (kd1 x = 0 ∨ kd1 x = 2 ∨ kd1 x = 5) → M2 x = M1 x := fun x hx => o2 x (fun e => by rw [e, kr1] at hx; omega)
    have H2 : hou n kd1 ln1 M2 h := H1.fr hN eB (fun k _ => by rw [eh2])
    have ehk : ∀ k, k ∉ [2] → M2 h k = M h k := fun k hk => by rw [eh2]; exact g1.2 k hk
    have er2 : ∀ k ∈ [8, 9, 10, 11, 21, 22, 23, 24, 25, 26, 27], M2 r k = M r k := fun k hk => by rw [c3.at (by revert hk; simp; omega), er]
    have eX : M2 (M h 3 (-1)) = M (M h 3 (-1)) := (o2 _ nn.2.2.2.1).trans ((g1.1 _ (Or.inl (by rw [hH.2.2.2.2.2.1.1.1]; decide))).2.2 nn.2.2.2.2.1 xo')
    have J : Inv n kd1 ln1 M2 h r := ⟨hN, H2, ⟨kr1, lr1, c1⟩, ⟨fun i hi => by rw [eh2, md i hi, c2 i hi, er, ra i hi], rb.eq (ehk 3 (by decide)) eX (fun k hk => er2 k (by revert hk; simp; omega)), rc.eq (ehk 7 (by decide)) (ehk 8 (by decide)) (er2 26 (by decide)) (er2 27 (by decide)), rd.eq (ehk 9 (by decide)) (ehk 10 (by decide)) (er2 8 (by decide)) (er2 9 (by decide)), re.eq (ehk 11 (by decide)) (ehk 12 (by decide)) (er2 10 (by decide)) (er2 11 (by decide))⟩, xo.1.trans k1, by rw [xo.2.1]; exact l1⟩
    have pe : PT M2 h = PT M1 h := PT_e H1 (by rw [eh2]) (fun x hx => eB x (Or.inl hx))
    exact hK n kd1 ln1 M2 _ _ J (by omega) (by omega)
  · have v := hI.f0 (v := 0)
    have fin : wX7_make kd ln (fun c92 M91 => (rng c92 → (((-1 : Int) = c92 → K kd ln (c + 0) (s + 0) M91) ∧ (¬ ((-1 : Int) = c92) → False)))) r m M := sX7_make hN lr tr hB hm (fun g2 => absurd g2 g) (fun _ _ => ⟨fun _ => hK n kd ln _ _ _ v.1 (by omega) (by rw [v.2]; omega), fun g2 => absurd rfl g2⟩)
    refine ⟨0, 0, by omega, ?_⟩
    unfold wX6_make
    exact ⟨hm, fun _ _ => fin, fun g2 => ⟨fun g3 => absurd ⟨by omega, g3⟩ g, fun _ _ => fin⟩⟩
end LW
