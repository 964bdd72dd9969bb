section GO
variable {kd kd' : gKd} {ln ln' : gLn} {M M' : gM} {h r n : Int}
theorem hou.ol (hN : mN n) (hH : hou n kd ln M h) (e : ∀ x, kd x < 8 → kd' x = kd x ∧ ln' x = ln x ∧ M' x = M x) : hou n kd' ln' M' h := by
  have k0 := (hH.bd hN).1.2.2.1
  rw [hH.2.2.1.1] at k0
  obtain ⟨⟨kh, h0⟩, hL, hc, hB, hmd, ⟨⟨x1, x2⟩, p4, ⟨x3, x4⟩, p6⟩, hne⟩ := hH
  have eh := e h (by rw [kh]; decide)
  have e3 := e (M h 3 (-1)) (by rw [x1]; decide)
  have e4 := e (M h 4 (-1)) (by rw [p4]; decide)
  have e5 := e (M h 5 (-1)) (by rw [x3]; decide)
  have e6 := e (M h 6 (-1)) (by rw [p6]; decide)
  have eo := e (M h 0 n) (by rw [k0]; decide)
  unfold hou
  rw [eh.2.2, eh.1, eh.2.1, eo.2.2, e3.1, e3.2.1, e4.1, e5.1, e5.2.1, e6.1]
  exact ⟨⟨kh, h0⟩, hL, hc, fun i hi => (hB i hi).imp id (fun q => q.old (fun x hx => e x (by omega))), hmd, ⟨⟨x1, x2⟩, p4, ⟨x3, x4⟩, p6⟩, hne⟩
theorem goal_all : gGoal := by
  intro L xs hL
  have hsx : ∀ i, rng (gsx xs i) := fun i => rng_of _
  unfold wL_law
  refine ⟨by omega, ?_⟩
  intro h kd1 M1 h0 h8 hf ek eM
  have k1 : kd1 h = 6 := by rw [ek]; exact gkn_s
  refine ⟨100, 6013, by omega, sX6_init k1 h0 hf (fun k i => by rw [eM]; exact gzr_z) (by omega) (by omega) (fun kd2 ln2 M2 f1 H2 z2 p2 _ => ⟨by omega, ?_⟩)⟩
  intro r kd3 M3 r0 r8 rf ek3 eM3
  have hm : (-1 : Int) ≠ h := by omega
  have mr : (-1 : Int) ≠ r := by omega
  have f1m := f1 (-1) (Or.inr (by decide)) hm
  have kd1m : kd1 (-1) = 200 := by rw [ek, gkn_n hm]; rfl
  have ne : ∀ x, kd2 x < 8 → x ≠ r := fun x hx e => by rw [e] at hx; omega
  have k3 : ∀ x, x ≠ r → kd3 x = kd2 x := fun x hx => by rw [ek3]; exact gkn_n hx
  have k3r : kd3 r = 7 := by rw [ek3]; exact gkn_s
  refine ⟨19, 1672402, by omega, sX7_init rf (fun k i => by rw [eM3]; exact gzr_z) (by omega) (by omega) (fun ln3 M4 g1 g2 g3 g4 g5 g6 => ?_)⟩
  have lm : ∀ k, ln3 (-1) k < 0 := fun k => by
    rw [g1 (-1) mr, f1m.2.1]
    show (-1 : Int) < 0
    decide
  refine ⟨(k3 (-1) mr).trans (f1m.1.trans kd1m), lm, by omega, ?_⟩
  intro ln4 e4
  obtain ⟨M5, e5⟩ : ∃ M5, M5 = gza M4 (-1) 0 := ⟨_, rfl⟩
  rw [← e5]
  have M5o : ∀ x, x ≠ -1 → M5 x = M4 x := fun x hx => by rw [e5]; exact gza_o hx
  have ln4o : ∀ x, x ≠ -1 → ln4 x = ln3 x := fun x hx => by rw [e4]; exact gla_o hx
  have old : ∀ x, kd2 x < 8 → kd3 x = kd2 x ∧ ln4 x = ln2 x ∧ M5 x = M2 x := fun x hx => by
    have xr := ne x hx
    have xm : x ≠ -1 := fun e => by rw [e, f1m.1, kd1m] at hx; omega
    exact ⟨k3 x xr, by rw [ln4o x xm, g1 x xr], by rw [M5o x xm, g3 x xr, eM3, gzr_o xr]⟩
  have kh := H2.1.1
  have kx := H2.2.2.2.2.2.1.1.1
  have oh := old h (by rw [kh]; decide)
  have ox := old (M2 h 3 (-1)) (by rw [kx]; decide)
  have rm : r ≠ -1 := fun e => mr e.symm
  have M5r : M5 r = M4 r := M5o r rm
  have H5 : hou 8 kd3 ln4 M5 h := H2.ol (by decide) old
  have lr : rLn ln4 r := by unfold rLn mLn7; rw [ln4o r rm]; exact g2
  have z3 : ∀ i, M5 r 3 i = 0 := fun i => by rw [M5r]; exact g6 3 i (by decide) (by decide) (by decide)
  have rt : rTb 8 r M5 := ⟨by unfold rN; rw [M5r]; exact g4, fun m _ q => absurd (z3 m) q, fun q => absurd (z3 2) q⟩
  have J : Inv 8 kd3 ln4 M5 h r := by
    refine ⟨by decide, H5, ⟨k3r, lr, rt⟩, ⟨fun m _ => ?_, ⟨0, fun _ => 0, 0, by omega, ⟨?_, fun i hi => absurd hi (Nat.not_lt_zero i)⟩, ⟨?_, fun i hi => absurd hi (Nat.not_lt_zero i)⟩⟩, ⟨-1, by omega, ?_, ?_, fun i i1 i2 => by omega⟩, ⟨?_, ?_, fun i hi => ?_⟩, ⟨0, by omega, ?_, ?_, fun j hj => absurd hj (Nat.not_lt_zero j)⟩⟩, (k3 (-1) mr).trans (f1m.1.trans kd1m), by rw [e4]; exact gla_s⟩
    · rw [oh.2.2, z2.1 m, z3 m]
    · rw [M5r, g6 21 _ (by decide) (by decide) (by decide)]; rfl
    · rw [oh.2.2, ox.2.2, z2.2.2.2.2.2]; rfl
    · rw [M5r]; exact g5
    · rw [oh.2.2, z2.2.1]; rfl
    · rw [M5r, g6 9 _ (by decide) (by decide) (by decide)]; omega
    · rw [oh.2.2, z2.2.2.1, M5r, g6 9 _ (by decide) (by decide) (by decide)]
    · rw [oh.2.2, z2.2.2.2.2.1 i, M5r, g6 8 _ (by decide) (by decide) (by decide)]; omega
    · rw [M5r, g6 11 _ (by decide) (by decide) (by decide)]; rfl
    · rw [oh.2.2, z2.2.2.2.1]; rfl
  have pt5 : PT M5 h ≤ 5300000 := by
    have : PT M5 h = PT M2 h := PT_e H2 (by rw [oh.2.2]) (fun x hx => (old x (by rw [hx]; decide)).2.2)
    rw [this]
    exact Nat.le_trans p2 PT_0
  refine ⟨513, ?_⟩
  have := law_loop (sL := (L : Int)) (sx := gsx xs) (by omega) (by omega) hsx 513 0 8 kd3 ln4 M5 (0 + 1 + 100 + 1 + 19 + 1) (0 + 13 + 6013 + 28 + 1672402 + 1) J (by omega) (by omega) (by omega) (by omega)
  exact this
end GO
