section MB
variable {kd kd' : gKd} {ln ln' : gLn} {M M' : gM} {h o n m : Int}
noncomputable def mkC8 (n m : Int) (M : gM) (o : Int) : Nat := if m = 2 then pot n M o else spd n m M o
theorem sX6_make48 {post : Int → gKd → gLn → gM → Prop} {mc ms c s : Nat} (hN : mN n) (hm : 0 ≤ m ∧ m ≤ 2) (hb : brd n kd ln M o) (h1 : M h 1 (-1) = o) (kh : kd h = 6) (l2 : ln h 2 = 3) (htab : m = 2 → M o 5 0 ≠ 0 ∧ M o 5 1 ≠ 0) (hc : c + 30 ≤ mc) (hs : s + spd n m M o ≤ ms) (hp : ∀ kd' ln' M', grw h o [2] kd ln M kd' ln' M' → brd n kd' ln' M' o → M' o 5 m ≠ 0 → (∀ m', m' ≠ m → M' o 5 m' = M o 5 m') → (∀ i, M' h 2 i = if i = m then 1 else M h 2 i) → pot n M' o + spd n m M o ≤ pot n M o → post (cN (cPb n m) (mAl3 n).toNat : Nat) kd' ln' M') : wX6_make_48 mc ms post h m kd ln c s M := by
  have ko := hb.1.2.2.1
  have oh : o ≠ h := fun e => by rw [e, kh] at ko; exact absurd ko (by decide)
  obtain ⟨M1, e1⟩ : ∃ M1, M1 = gu M h 2 m 1 := ⟨_, rfl⟩
  have M1o : ∀ x, x ≠ h → M1 x = M x := fun x hx => by rw [e1]; exact gu_o hx
  have b1 : brd n kd ln M1 o := hb.old (fun x hx => ⟨rfl, rfl, M1o x (fun e => by rw [e, kh] at hx; omega)⟩)
  have sp : spd n m M1 o = spd n m M o := by unfold spd; rw [M1o o oh]
  have pp : pot n M1 o = pot n M o := by unfold pot pos; rw [M1o o oh]
  unfold wX6_make_48
  rw [l2, ← e1, show M1 h 1 (-1) = o by rw [e1, gu_k (by decide)]; exact h1]
  refine ⟨by omega, by omega, by omega, ko, 30, spd n m M o, by omega, sX0_prepare hN hm b1 (fun e => by rw [M1o o oh]; exact htab e) (by omega) (by rw [sp]; omega) (fun z kd2 ln2 M2 g2 br2 z1 z2 ⟨q, tq⟩ z4 z5 z6 z7 => ?_)⟩
  refine ⟨tq.2.2.2.2.2.1, sX5_size hN tq.1 tq.2.1 tq.2.2.2.1 fun _ => hp kd2 ln2 M2 ⟨fun x hx => ?_, fun k hk => ?_⟩ br2 (by rw [z1]; exact z2) (fun m' hm' => by rw [z4 m' hm', M1o o oh]) (fun i => ?_) ?_⟩
  · obtain ⟨a1, a2, a3⟩ := g2.1 x hx
    exact ⟨a1, a2, fun e1 e2 => (a3 e2).trans (M1o x e1)⟩
  · rw [(g2.ne (x := h) (by rw [kh]; decide) (fun e => oh e.symm)).2.2, e1, gu_k (fun e => hk (by rw [e]; decide))]
  · rw [(g2.ne (x := h) (by rw [kh]; decide) (fun e => oh e.symm)).2.2, e1, gu_v]
  · have := pot_dec (n := n) (M := M1) (M' := M2) hm z1 z2 z4 z5 z6 z7
    rw [sp, pp] at this
    exact this
theorem sX6_make {post : Int → gKd → gLn → gM → Prop} {mc ms : Nat} (hN : mN n) (hH : hou n kd ln M h) (hmr : rng m) (hmc : 100 ≤ mc) (hms : mkC8 n m M (M h 1 (-1)) ≤ ms) (hok : (0 ≤ m ∧ m ≤ 2) → ∀ kd' ln' M', grw h (M h 1 (-1)) [2] kd ln M kd' ln' M' → hou n kd' ln' M' h → (∀ i, (0 ≤ i ∧ i ≤ 2) → (M' h 2 i ≠ 0 ↔ M h 2 i ≠ 0 ∨ i = m ∨ m = 2)) → PT M' h + mkC8 n m M (M h 1 (-1)) ≤ PT M h → post (cN (cPb n m) (mAl3 n).toNat : Nat) kd' ln' M') (hno : ¬ (0 ≤ m ∧ m ≤ 2) → post (-1) kd ln M) : wX6_make mc ms kd ln post h m M := by
  have bd := hH.bd hN
  obtain ⟨kh, h0⟩ := hH.1
  have l2 := hH.2.1.2.1
  have hmd := hH.2.2.2.2.1
  rw [← hH.2.2.1.1] at hmd
  obtain ⟨o, eo⟩ : ∃ o, o = M h 1 (-1) := ⟨_, rfl⟩
  rw [← eo] at bd hmd hms hok
  have ko := bd.1.2.2.1
  have oh : o ≠ h := fun e => by rw [e, kh] at ko; exact absurd ko (by decide)
  unfold wX6_make
  refine ⟨hmr, fun g => hno (by omega), fun g => ⟨fun g2 => ⟨fun g3 => ?_, fun g3 => ?_⟩, fun g2 => hno (by omega)⟩⟩
  · have hm : 0 ≤ m ∧ m ≤ 2 := by omega
    have e8 : mkC8 n m M o = spd n m M o := if_neg g3
    rw [e8] at hms
    refine sX6_make48 hN hm bd eo.symm kh l2 (fun e => absurd e g3) (by omega) (by omega) (fun kd1 ln1 M1 f1 f2 f3 f4 f5 f6 => hok hm kd1 ln1 M1 f1 (hH.gw hN (by rw [← eo]; exact f1) (by decide) (by rw [← eo]; exact f2) ⟨fun m' hm' q => ?_, fun q => ?_⟩) (fun i hi => ?_) ?_)
    · rw [← eo]
      by_cases e : m' = m
      · rw [e]; exact f3
      · rw [f5, if_neg e] at q
        rw [f4 m' e]
        exact hmd.1 m' hm' q
    · rw [f5, if_neg (fun e => g3 e.symm)] at q
      have := hmd.2 q
      rw [f5, f5]
      refine ⟨?_, ?_⟩
      · split; decide; exact this.1
      · split; decide; exact this.2
    · rw [f5]
      by_cases e : i = m
      · rw [if_pos e]; exact ⟨fun _ => Or.inr (Or.inl e), fun _ => by decide⟩
      · rw [if_neg e]
        exact ⟨Or.inl, fun q => q.elim id (fun q => q.elim (fun q => absurd q e) (fun q => absurd q g3))⟩
    · rw [e8]
      exact PT_gw hN hH (by rw [← eo]; exact f1) (by decide) (by rw [← eo]; exact f6)
  · subst g3
    have e8 : mkC8 n 2 M o = pot n M o := if_pos rfl
    rw [e8] at hms hok
    rw [← eo]
    have s0 : spd n 0 M o ≤ pot n M o := spd_pot (by omega)
    refine ⟨ko, 30, spd n 0 M o, by omega, sX0_prepare hN (by omega) bd (fun e => absurd e (by decide)) (by omega) (by omega) (fun z0 kd1 ln1 M1 g1 br1 z01 z02 _ z04 z05 z06 z07 => ?_)⟩
    have p1 := pot_dec (n := n) (M := M) (M' := M1) (m := 0) (by omega) z01 z02 z04 z05 z06 z07
    have h1 := g1.ne (x := h) (by rw [kh]; decide) (fun e => oh e.symm)
    have k1 : M1 h 1 (-1) = o := by rw [h1.2.2]; exact eo.symm
    rw [k1]
    have s1 : spd n 1 M1 o ≤ pot n M1 o := spd_pot (by omega)
    refine ⟨br1.1.2.2.1, 30, spd n 1 M1 o, by omega, sX0_prepare hN (by omega) br1 (fun e => absurd e (by decide)) (by omega) (by omega) (fun z1 kd2 ln2 M2 g2 br2 z11 z12 _ z14 z15 z16 z17 => ?_)⟩
    have p2 := pot_dec (n := n) (M := M1) (M' := M2) (m := 1) (by omega) z11 z12 z14 z15 z16 z17
    have h2 := g2.ne (x := h) (by rw [h1.1, kh]; decide) (fun e => oh e.symm)
    have M2h : M2 h = M h := h2.2.2.trans h1.2.2
    have kh2 : kd2 h = 6 := h2.1.trans (h1.1.trans kh)
    have l22 : ln2 h 2 = 3 := by rw [h2.2.1, h1.2.1]; exact l2
    obtain ⟨M3, e3⟩ : ∃ M3, M3 = gu (gu M2 h 2 0 1) h 2 1 1 := ⟨_, rfl⟩
    have M3o : ∀ x, x ≠ h → M3 x = M2 x := fun x hx => by rw [e3, gu_o hx, gu_o hx]
    have br3 : brd n kd2 ln2 M3 o := br2.old (fun x hx => ⟨rfl, rfl, M3o x (fun e => by rw [e, kh2] at hx; omega)⟩)
    have s2 : spd n 2 M3 o ≤ pot n M3 o := spd_pot (by omega)
    have p3 : pot n M3 o = pot n M2 o := by unfold pot pos; rw [M3o o oh]
    rw [l22, ← e3]
    refine ⟨by omega, by omega, by omega, sX6_make48 hN (by omega) br3 (by rw [e3, gu_k (by decide), gu_k (by decide), M2h]; exact eo.symm) kh2 l22 (fun _ => ?_) (by omega) (by omega) (fun kd4 ln4 M4 f1 f2 f3 f4 f5 f6 => ?_)⟩
    · rw [M3o o oh]
      refine ⟨?_, by rw [z11]; exact z12⟩
      rw [z14 0 (by decide), z01]; exact z02
    · have G : grw h o [2] kd ln M kd4 ln4 M4 := by
        have G1 : grw h o [2] kd ln M kd2 ln2 M3 := by
          refine ⟨fun x hx => ?_, fun k hk => ?_⟩
          · obtain ⟨a1, a2, a3⟩ := g1.1 x hx
            obtain ⟨b1, b2, b3⟩ := g2.1 x (by rw [a1]; exact hx)
            exact ⟨b1.trans a1, b2.trans a2, fun x1 x2 => (M3o x x1).trans ((b3 x2).trans (a3 x2))⟩
          · have k2 : k ≠ 2 := fun e => hk (by rw [e]; decide)
            rw [e3, gu_k k2, gu_k k2, M2h]
        exact G1.tr f1
      have m4 : ∀ i, (0 ≤ i ∧ i ≤ 2) → M4 h 2 i = 1 := fun i hi => by
        rw [f5]
        by_cases e : i = 2
        · rw [if_pos e]
        · rw [if_neg e, e3, gu_v]
          by_cases e1 : i = 1
          · rw [if_pos e1]
          · rw [if_neg e1, gu_v, if_pos (by omega)]
      have t4 : ∀ i, (0 ≤ i ∧ i ≤ 2) → M4 o 5 i ≠ 0 := fun i hi => by
        by_cases e : i = 2
        · rw [e]; exact f3
        · rw [f4 i e, M3o o oh]
          by_cases e1 : i = 1
          · rw [e1, z11]; exact z12
          · have : i = 0 := by omega
            rw [this, z14 0 (by decide), z01]; exact z02
      refine hok (by omega) kd4 ln4 M4 G (hH.gw hN (by rw [← eo]; exact G) (by decide) (by rw [← eo]; exact f2) ⟨fun m' hm' _ => by rw [← eo]; exact t4 m' hm', fun _ => ⟨by rw [m4 0 (by omega)]; decide, by rw [m4 1 (by omega)]; decide⟩⟩) (fun i hi => ⟨fun _ => Or.inr (Or.inr rfl), fun _ => by rw [m4 i hi]; decide⟩) ?_
      refine PT_gw hN hH (by rw [← eo]; exact G) (by decide) ?_
      rw [← eo]
      have pz : pot n M4 o = 0 := if_pos ⟨t4 0 (by omega), t4 1 (by omega), t4 2 (by omega)⟩
      omega
end MB
