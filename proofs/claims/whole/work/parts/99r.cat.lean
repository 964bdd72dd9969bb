section CB2
variable {kd : gKd} {ln : gLn} {M : gM} {h r n m w b k t : Int}
theorem cs_best {K : gM → Prop} (hI : Inv n kd ln M h r) (hm : rng m) (hw : rng w) (hb : rng b) (hk : rng k) (ht : rng t) (hK : ∀ M', Inv n kd ln M' h r → PT M' h = PT M h → K M') : wL_best kd ln (fun c0 M1 => (rng c0 → (wX7_best kd ln (fun c1 M2 => (rng c1 → tl kd ln K c0 c1 r M2)) r m w b k t M1))) h m w b k t (-1) 0 M := by
  have hI0 := hI
  obtain ⟨hN, hH, ⟨kr, lr, tr⟩, ⟨ra, rb, rc, rd, re⟩, k1, l1⟩ := hI0
  have nn := hI.hr
  have hB : ∀ m, (0 ≤ m ∧ m ≤ 2) → mBd n m := fun m hm => mBd_all hN m hm
  have kh := hH.1.1
  have kx := hH.2.2.2.2.2.1.1.1
  have kp := hH.2.2.2.2.2.1.2.1
  unfold wL_best
  rw [l1]
  refine sX6_best hN hH hm hw hb hk ht (fun q1 q2 q3 M1 q g s1 s2 s3 s4 _ => ⟨by omega, fun _ => ?_⟩) (fun q _ => ?_)
  · obtain ⟨M2, e2⟩ : ∃ M2, M2 = gu M1 (-1) 0 0 ((BitVec.ofInt 64 (q : Int)).toNat : Nat) := ⟨_, rfl⟩
    rw [← e2]
    have o2 : ∀ x, x ≠ M h 3 (-1) → x ≠ M h 4 (-1) → x ≠ -1 → M2 x = M x := fun x a c d => by rw [e2, gu_o d]; exact s4 x a c
    have eh : M2 h = M h := o2 h (fun e => nn.2.2.2.2.1 e.symm) (fun e => by rw [← e, kh] at kp; exact absurd kp (by decide)) (fun e => nn.2.1 e.symm)
    have er : M2 r = M r := o2 r (fun e => nn.2.2.2.1 e.symm) (fun e => by rw [← e, kr] at kp; exact absurd kp (by decide)) (fun e => nn.2.2.1 e.symm)
    have eB : ∀ x, (kd x = 0 ∨ kd x = 2 ∨ kd x = 5) → M2 x = M x := fun x hx => o2 x (fun e => by rw [e, kx] at hx; omega) (fun e => by rw [e, kp] at hx; omega) (fun e => by rw [e, k1] at hx; omega)
    have ex : M2 (M h 3 (-1)) = M1 (M h 3 (-1)) := by rw [e2]; exact gu_o nn.2.2.2.2.2
    have t2 := tr.er er
    refine sX7_best hN lr t2 hB hm hw hb hk ht (fun _ _ _ M3 q' g' u1 u2 u3 u4 u5 _ => ?_) (fun g2 => ?_)
    · obtain ⟨eq, eg⟩ := sIn_uniq s1 u1
      subst eq
      have o3 : ∀ x, x ≠ r → M3 x = M2 x := fun x hx => u4.ot hx
      have eh3 : M3 h = M h := (o3 h nn.1).trans eh
      have er3 : ∀ k ∈ [1, 2, 3, 4, 5, 6, 7, 8, 9, 10, 11, 26, 27], M3 r k = M r k := fun k hk => by rw [u4.at (by revert hk; simp; omega), er]
      have eB3 : ∀ x, (kd x = 0 ∨ kd x = 2 ∨ kd x = 5) → M3 x = M x := fun x hx => (o3 x (fun e => by rw [e, kr] at hx; omega)).trans (eB x hx)
      have hand : rB M3 h r := by
        refine ⟨q, g', _, u3, u2, ?_⟩
        rw [eh3]
        have ex3 : M3 (M h 3 (-1)) = M1 (M h 3 (-1)) := (o3 _ nn.2.2.2.1).trans ex
        unfold cho at s2 ⊢
        rw [ex3]
        refine ⟨s2.1, fun i hi => ?_⟩
        rw [← eg i hi]
        exact s2.2 i hi
      have J : Inv n kd ln M3 h r := ⟨hN, hH.fr hN eB3 (fun k _ => by rw [eh3]), ⟨kr, lr, t2.ch u4 (by decide)⟩, ⟨ra.eq (by rw [eh3]) (er3 3 (by decide)), hand, rc.eq (by rw [eh3]) (by rw [eh3]) (er3 26 (by decide)) (er3 27 (by decide)), rd.eq (by rw [eh3]) (by rw [eh3]) (er3 8 (by decide)) (er3 9 (by decide)), re.eq (by rw [eh3]) (by rw [eh3]) (er3 10 (by decide)) (er3 11 (by decide))⟩, k1, l1⟩
      exact tl_ok l1 u5 (by rw [o3 _ nn.2.2.1, e2]; exact gu_s) (hK M3 J (PT_e hH (by rw [eh3]) (fun x hx => eB3 x (Or.inl hx))))
    · rw [er] at g2
      exact absurd ⟨q1, (ra m q1.1).mp q2, q3⟩ g2
  · have f := hI.f0 (v := 1)
    exact sX7_best hN lr tr hB hm hw hb hk ht (fun g1 g2 g3 => absurd ⟨g1, (ra m g1.1).mpr g2, g3⟩ q) (fun _ _ => tl_no gu_s (hK _ f.1 f.2))
theorem cs_move {K : gM → Prop} {kk what : Int} (hI : Inv n kd ln M h r) (hk : rng kk) (hw : rng what) (hK : ∀ M', Inv n kd ln M' h r → PT M' h = PT M h → K M') : wX6_move kd ln (fun c162 M161 => (rng c162 → (wX7_move kd ln (fun c165 M164 => (rng c165 → ((c162 = c165 → K M164) ∧ (¬ (c162 = c165) → False)))) r kk what M161))) h kk what M := by
  have hI0 := hI
  obtain ⟨hN, hH, ⟨kr, lr, tr⟩, ⟨-, ⟨cnt, f, g, c36, b1, b2⟩, -⟩, -⟩ := hI0
  have v := hI.f0 (v := 0)
  refine sX6_move hH hk hw b2 c36 (fun _ => ?_)
  exact sX7_move lr hk hw b1 c36 (fun _ => ⟨fun _ => hK _ v.1 v.2, fun g => absurd rfl g⟩)
/-- both lines are one -/
theorem line_eq {M : gM} {p : Nat} {a : Nat → Int} (h1 : ∀ j, j < 5 → hRow h M 0 j = a j) (h2 : ∀ j, j < 5 → lRow r M 0 j = a j) (s1 : ∀ i, i < p → lnS n (hRow h M i) (hRow h M (i + 1))) (s2 : ∀ i, i < p → lnS n (lRow r M i) (lRow r M (i + 1))) : ∀ i, i ≤ p → ∀ j, j < 5 → hRow h M i j = lRow r M i j := by
  intro i
  induction i with
  | zero => intro _ j hj; rw [h1 j hj, h2 j hj]
  | succ i ih =>
    intro hi j hj
    have e := ih (by omega)
    have s2' := lnS_cong (s2 i (by omega)) e (fun _ _ => rfl)
    exact lnS_det (s1 i (by omega)) s2' j hj
theorem cs_line {K : gM → Prop} (hI : Inv n kd ln M h r) (hm : rng m) (hw : rng w) (hb : rng b) (hk : rng k) (ht : rng t) (hK : ∀ M', Inv n kd ln M' h r → PT M' h = PT M h → K M') : wL_line kd ln (fun c0 M1 => (rng c0 → (wX7_line kd ln (fun c1 M2 => (rng c1 → tl kd ln K c0 c1 r M2)) r m w b k t M1))) h m w b k t (-1) 0 M := by
  have hI0 := hI
  obtain ⟨hN, hH, ⟨kr, lr, tr⟩, ⟨ra, rb, rc, rd, re⟩, k1, l1⟩ := hI0
  have nn := hI.hr
  have hB : ∀ m, (0 ≤ m ∧ m ≤ 2) → mBd n m := fun m hm => mBd_all hN m hm
  have kh := hH.1.1
  have kx := hH.2.2.2.2.2.1.1.1
  have kx5 := hH.2.2.2.2.2.1.2.2.1.1
  have kp := hH.2.2.2.2.2.1.2.2.2
  have x35 := hH.2.2.2.2.2.2
  unfold wL_line
  rw [l1]
  refine sX6_line hN hH hm hw hb hk ht (fun q1 q2 q3 M1 pl d1 s1 s2 s3 s4 _ => ⟨by omega, fun _ => ?_⟩) (fun q _ => ?_)
  · obtain ⟨M2, e2⟩ : ∃ M2, M2 = gu M1 (-1) 0 0 ((BitVec.ofInt 64 (pl : Int)).toNat : Nat) := ⟨_, rfl⟩
    rw [← e2]
    have eh : M2 h = M1 h := by rw [e2]; exact gu_o (fun e => nn.2.1 e.symm)
    have o2 : ∀ x, x ≠ h → x ≠ M h 5 (-1) → x ≠ M h 6 (-1) → x ≠ -1 → M2 x = M x := fun x a c d e => by rw [e2, gu_o e]; exact s3.1 x a c d
    have er : M2 r = M r := o2 r (fun e => nn.1 e.symm) (fun e => by rw [← e, kr] at kx5; exact absurd kx5 (by decide)) (fun e => by rw [← e, kr] at kp; exact absurd kp (by decide)) (fun e => nn.2.2.1 e.symm)
    have eB : ∀ x, (kd x = 0 ∨ kd x = 2 ∨ kd x = 5) → M2 x = M x := fun x hx => o2 x (fun e => by rw [e, kh] at hx; omega) (fun e => by rw [e, kx5] at hx; omega) (fun e => by rw [e, kp] at hx; omega) (fun e => by rw [e, k1] at hx; omega)
    have ex : M2 (M h 3 (-1)) = M (M h 3 (-1)) := o2 _ nn.2.2.2.2.1 x35 (fun e => by rw [e, kp] at kx; exact absurd kx (by decide)) nn.2.2.2.2.2
    have t2 := tr.er er
    refine sX7_line hN lr t2 hB hm hw hb hk ht (fun _ _ _ M3 pl' d2 u1 u2 u3 u4 u5 _ => ?_) (fun g2 => ?_)
    · have ep : pl' = pl := by omega
      subst ep
      have rg := mDs_rg (t := t) hN q1.1 q1.2.1 q1.2.2.1 q1.2.2.2.1
      have o3 : ∀ x, x ≠ r → M3 x = M2 x := fun x hx => u3.ot hx
      have eh3 : M3 h = M1 h := (o3 h nn.1).trans eh
      have eh3k : ∀ k, k ≠ 7 → k ≠ 8 → M3 h k = M h k := fun k a c => by rw [eh3]; exact s3.2 k a c
      have er3 : ∀ k ∈ [1, 2, 3, 4, 5, 6, 7, 8, 9, 10, 11, 21, 22, 23, 24, 25], M3 r k = M r k := fun k hk => by rw [u3.at (by revert hk; simp; omega), er]
      have eB3 : ∀ x, (kd x = 0 ∨ kd x = 2 ∨ kd x = 5) → M3 x = M x := fun x hx => (o3 x (fun e => by rw [e, kr] at hx; omega)).trans (eB x hx)
      have hr3 : ∀ i j, hRow h M3 i j = hRow h M1 i j := fun i j => by unfold hRow; rw [eh3]
      have LE := line_eq (h := h) (r := r) (n := n) (M := M3) (p := pl') (a := rw5 m w b k t) (fun j hj => by rw [hr3]; exact s2 j hj) u2 (fun i hi => lnS_cong (s1 i hi) (fun j _ => hr3 i j) (fun j _ => hr3 (i + 1) j)) u1
      have line : rC M3 h r := by
        refine ⟨pl', by omega, u5, by rw [eh3]; exact s4, fun i i1 i2 => ?_⟩
        obtain ⟨x, ex'⟩ : ∃ x : Nat, i = x := ⟨i.toNat, by omega⟩
        have := LE (x / 5) (by omega) (x % 5) (by omega)
        unfold hRow lRow at this
        rw [show 5 * ((x / 5 : Nat) : Int) + ((x % 5 : Nat) : Int) = i by omega] at this
        exact this
      have J : Inv n kd ln M3 h r := ⟨hN, hH.fr hN eB3 (fun k hk => eh3k k (by revert hk; simp; omega) (by revert hk; simp; omega)), ⟨kr, lr, t2.ch u3 (by decide)⟩, ⟨ra.eq (eh3k 2 (by decide) (by decide)) (er3 3 (by decide)), rb.eq (eh3k 3 (by decide) (by decide)) ((o3 _ nn.2.2.2.1).trans ex) (fun k hk => er3 k (by revert hk; simp; omega)), line, rd.eq (eh3k 9 (by decide) (by decide)) (eh3k 10 (by decide) (by decide)) (er3 8 (by decide)) (er3 9 (by decide)), re.eq (eh3k 11 (by decide) (by decide)) (eh3k 12 (by decide) (by decide)) (er3 10 (by decide)) (er3 11 (by decide))⟩, k1, l1⟩
      exact tl_ok l1 u4 (by rw [o3 _ nn.2.2.1, e2]; exact gu_s) (hK M3 J (PT_e hH (eh3k 0 (by decide) (by decide)) (fun x hx => eB3 x (Or.inl hx))))
    · rw [er] at g2
      exact absurd ⟨q1, (ra m q1.1).mp q2, q3⟩ g2
  · have f := hI.f0 (v := 1)
    exact sX7_line hN lr tr hB hm hw hb hk ht (fun g1 g2 g3 => absurd ⟨g1, (ra m g1.1).mpr g2, g3⟩ q) (fun _ _ => tl_no gu_s (hK _ f.1 f.2))
theorem cs_ply {K : gM → Prop} {kk what : Int} (hI : Inv n kd ln M h r) (hk : rng kk) (hw : rng what) (hK : ∀ M', Inv n kd ln M' h r → PT M' h = PT M h → K M') : wX6_ply kd ln (fun c191 M190 => (rng c191 → (wX7_ply kd ln (fun c194 M193 => (rng c194 → ((c191 = c194 → K M193) ∧ (¬ (c191 = c194) → False)))) r kk what M190))) h kk what M := by
  have hI0 := hI
  obtain ⟨hN, hH, ⟨kr, lr, tr⟩, ⟨-, -, ⟨pl, p1, p2, p3, p4⟩, -⟩, -⟩ := hI0
  have v := hI.f0 (v := 0)
  refine sX6_ply hH.2.1.2.2.1 hk hw (by omega) (fun _ => ?_)
  refine sX7_ply lr hk hw (by omega) (fun _ => ⟨fun _ => hK _ v.1 v.2, fun g => absurd ?_ g⟩)
  rw [p2, p3]
  by_cases c : (0 ≤ kk ∧ kk ≤ pl) ∧ 0 ≤ what ∧ what ≤ 4
  · rw [if_pos (by omega), if_pos c]
    exact p4 _ (by omega) (by omega)
  · rw [if_neg (by omega), if_neg c]
theorem cs_feed {K : gM → Prop} {a1 a2 a3 a4 a5 : Int} (hI : Inv n kd ln M h r) (r1 : rng a1) (r2 : rng a2) (r3 : rng a3) (r4 : rng a4) (r5 : rng a5) (hK : ∀ M', Inv n kd ln M' h r → PT M' h = PT M h → K M') : wX6_feed kd ln (fun c277 M276 => (rng c277 → (wX7_feed kd ln (fun c280 M279 => (rng c280 → ((c277 = c280 → K M279) ∧ (¬ (c277 = c280) → False)))) r a1 a2 a3 a4 a5 M276))) h a1 a2 a3 a4 a5 M := by
  have hI0 := hI
  obtain ⟨hN, hH, ⟨kr, lr, tr⟩, ⟨ra, rb, rc, ⟨z1, z2, z3⟩, re⟩, hk⟩ := hI0
  have nn := hI.hr
  have kh := hH.1.1
  refine sX6_feed hH.2.1.2.2.2.1 r1 r2 r3 r4 r5 z2 z1 (fun g M1 b1 b2 b3 _ => ?_) (fun g _ => ?_)
  · have er : M1 r = M r := b3.ot (fun e => nn.1 e.symm)
    refine sX7_feed lr (by rw [er]; exact z1) (fun _ M2 c1 c2 c3 c4 _ => ?_) (fun g2 => absurd g (by rw [er] at g2; exact g2))
    rw [er] at c1 c2 ⊢
    have o2 : ∀ x, x ≠ r → M2 x = M1 x := fun x hx => c4.ot hx
    have eh2 : M2 h = M1 h := o2 h nn.1
    have ehk : ∀ k, k ≠ 9 → k ≠ 10 → M2 h k = M h k := fun k a c => by rw [eh2]; exact b3.at (by simp [a, c])
    have er2 : ∀ k, k ≠ 0 → k ≠ 8 → k ≠ 9 → M2 r k = M r k := fun k a c d => by rw [c4.at (by simp [a, c, d]), er]
    have oth : ∀ x, x ≠ r → x ≠ h → M2 x = M x := fun x a c => (o2 x a).trans (b3.ot c)
    have eB : ∀ x, (kd x = 0 ∨ kd x = 2 ∨ kd x = 5) → M2 x = M x := fun x hx => oth x (fun e => by rw [e, kr] at hx; omega) (fun e => by rw [e, kh] at hx; omega)
    have tape : rD M2 h r := by
      refine ⟨by rw [c2]; omega, by rw [eh2, b2, c2], fun i hi => ?_⟩
      rw [eh2, b1 i, c1 i]
      by_cases c : M r 9 (-1) ≤ i ∧ i < M r 9 (-1) + 20
      · rw [if_pos c, if_pos c]
        refine ⟨fB_r _ _, ?_⟩
        rw [fB_m ?_ (by omega)]
        rcases (show (i - M r 9 (-1)) / 4 = 0 ∨ (i - M r 9 (-1)) / 4 = 1 ∨ (i - M r 9 (-1)) / 4 = 2 ∨ (i - M r 9 (-1)) / 4 = 3 ∨ (i - M r 9 (-1)) / 4 = 4 by omega) with e | e | e | e | e <;> rw [e] <;> assumption
      · rw [if_neg c, if_neg c]
        exact z3 i hi
    have J : Inv n kd ln M2 h r := ⟨hN, hH.fr hN eB (fun k hk => ehk k (by revert hk; simp; omega) (by revert hk; simp; omega)), ⟨kr, lr, (tr.er er).ch c4 (by decide)⟩, ⟨ra.eq (ehk 2 (by decide) (by decide)) (er2 3 (by decide) (by decide) (by decide)), rb.eq (ehk 3 (by decide) (by decide)) (oth _ nn.2.2.2.1 nn.2.2.2.2.1) (fun k hk => er2 k (by revert hk; simp; omega) (by revert hk; simp; omega) (by revert hk; simp; omega)), rc.eq (ehk 7 (by decide) (by decide)) (ehk 8 (by decide) (by decide)) (er2 26 (by decide) (by decide) (by decide)) (er2 27 (by decide) (by decide) (by decide)), tape, re.eq (ehk 11 (by decide) (by decide)) (ehk 12 (by decide) (by decide)) (er2 10 (by decide) (by decide) (by decide)) (er2 11 (by decide) (by decide) (by decide))⟩, hk⟩
    exact ⟨fun _ => hK M2 J (PT_e hH (ehk 0 (by decide) (by decide)) (fun x hx => eB x (Or.inl hx))), fun g2 => absurd rfl g2⟩
  · have v := hI.f0 (v := 0)
    exact sX7_feed lr z1 (fun g2 => absurd g2 g) (fun _ _ => ⟨fun _ => hK _ v.1 v.2, fun g2 => absurd rfl g2⟩)
theorem cs_read {K : gM → Prop} {a : Int} (hI : Inv n kd ln M h r) (ha : rng a) (hK : ∀ M', Inv n kd ln M' h r → PT M' h = PT M h → K M') : wX6_read kd ln (fun c285 M284 => (rng c285 → (wX7_read kd ln (fun c288 M287 => (rng c288 → ((c285 = c288 → K M287) ∧ (¬ (c285 = c288) → False)))) r a M284))) h a M := by
  have hI0 := hI
  obtain ⟨hN, hH, ⟨kr, lr, tr⟩, ⟨ra, rb, rc, ⟨z1, z2, z3⟩, re⟩, hk⟩ := hI0
  have nn := hI.hr
  have kh := hH.1.1
  have hu : ∀ i, (0 ≤ i ∧ i < 40) → M h 9 i = M r 8 i % 256 ∧ 0 ≤ M r 8 i % 256 ∧ M r 8 i % 256 < 256 := fun i hi => by
    have := (z3 i hi).2
    omega
  refine sX6_read (u := fun i => M r 8 i % 256) hN hH ha z2 z1 hu (fun g _ => ?_) (fun g _ => ?_)
  · have v := hI.f0 (v := 0)
    exact sX7_read (u := fun i => M r 8 i % 256) hN lr tr.1 ha z1 (fun i hi => ⟨(z3 i hi).1, rfl⟩) (fun _ _ => ⟨fun _ => hK _ v.1 v.2, fun g2 => absurd rfl g2⟩) (fun g2 => absurd g2 g)
  · obtain ⟨M1, e1⟩ : ∃ M1, M1 = gu M h 10 (-1) 0 := ⟨_, rfl⟩
    rw [← e1]
    have er : M1 r = M r := by rw [e1]; exact gu_o (fun e => nn.1 e.symm)
    refine sX7_read (u := fun i => M r 8 i % 256) hN lr (tr.er er).1 ha (by rw [er]; exact z1) (fun i hi => by rw [er]; exact ⟨(z3 i hi).1, rfl⟩) (fun g2 => absurd g (by rw [er] at g2; exact g2)) (fun _ _ => ?_)
    obtain ⟨M2, e2⟩ : ∃ M2, M2 = gu (gu M1 r 0 (-1) 0) r 9 (-1) 0 := ⟨_, rfl⟩
    rw [← e2]
    have c2 : Ch r [0, 9] M1 M2 := by rw [e2]; exact Ch.up (Ch.up Ch.rf (by decide) _ _) (by decide) _ _
    have eh2 : M2 h = M1 h := c2.ot nn.1
    have ehk : ∀ k, k ≠ 10 → M2 h k = M h k := fun k a => by rw [eh2, e1, gu_k a]
    have er2 : ∀ k, k ≠ 0 → k ≠ 9 → M2 r k = M r k := fun k a c => by rw [c2.at (by simp [a, c]), er]
    have oth : ∀ x, x ≠ r → x ≠ h → M2 x = M x := fun x a c => (c2.ot a).trans (by rw [e1]; exact gu_o c)
    have eB : ∀ x, (kd x = 0 ∨ kd x = 2 ∨ kd x = 5) → M2 x = M x := fun x hx => oth x (fun e => by rw [e, kr] at hx; omega) (fun e => by rw [e, kh] at hx; omega)
    have m9 : M2 r 9 (-1) = 0 := by rw [e2]; exact gu_s
    have tape : rD M2 h r := by
      refine ⟨by rw [m9]; omega, by rw [eh2, m9, e1]; exact gu_s, fun i hi => ?_⟩
      rw [ehk 9 (by decide), er2 8 (by decide) (by decide)]
      exact z3 i hi
    have J : Inv n kd ln M2 h r := ⟨hN, hH.fr hN eB (fun k hk => ehk k (by revert hk; simp; omega)), ⟨kr, lr, (tr.er er).ch c2 (by decide)⟩, ⟨ra.eq (ehk 2 (by decide)) (er2 3 (by decide) (by decide)), rb.eq (ehk 3 (by decide)) (oth _ nn.2.2.2.1 nn.2.2.2.2.1) (fun k hk => er2 k (by revert hk; simp; omega) (by revert hk; simp; omega)), rc.eq (ehk 7 (by decide)) (ehk 8 (by decide)) (er2 26 (by decide) (by decide)) (er2 27 (by decide) (by decide)), tape, re.eq (ehk 11 (by decide)) (ehk 12 (by decide)) (er2 10 (by decide) (by decide)) (er2 11 (by decide) (by decide))⟩, hk⟩
    exact ⟨fun _ => hK M2 J (PT_e hH (ehk 0 (by decide)) (fun x hx => eB x (Or.inl hx))), fun g2 => absurd rfl g2⟩
theorem cs_show {K : gM → Prop} (hI : Inv n kd ln M h r) (hm : rng m) (hw : rng w) (hb : rng b) (hk' : rng k) (ht : rng t) (hK : ∀ M', Inv n kd ln M' h r → PT M' h = PT M h → K M') : wX6_show kd ln (fun c297 M296 => (rng c297 → (wX7_show kd ln (fun c300 M299 => (rng c300 → ((c297 = c300 → K M299) ∧ (¬ (c297 = c300) → False)))) r m w b k t M296))) h m w b k t M := by
  have hI0 := hI
  obtain ⟨hN, hH, ⟨kr, lr, tr⟩, ⟨ra, rb, rc, rd, re⟩, hk⟩ := hI0
  have nn := hI.hr
  have kh := hH.1.1
  have h4 : 4 ≤ n ∧ n ≤ 8 := hN
  refine sX6_show hN hH hm hw hb hk' ht (fun q1 q2 M1 b1 b2 b3 _ => ?_) (fun q _ => ?_)
  · have er : M1 r = M r := b3.ot (fun e => nn.1 e.symm)
    refine sX7_show hN lr (tr.er er).1 hm hw hb hk' ht (fun _ _ M2 c1 c2 c3 c4 _ => ?_) (fun g => absurd ⟨q1, q2⟩ g)
    have o2 : ∀ x, x ≠ r → M2 x = M1 x := fun x hx => c4.ot hx
    have eh2 : M2 h = M1 h := o2 h nn.1
    have ehk : ∀ k, k ≠ 11 → k ≠ 12 → M2 h k = M h k := fun k a c => by rw [eh2]; exact b3.at (by simp [a, c])
    have er2 : ∀ k, k ≠ 0 → k ≠ 10 → k ≠ 11 → M2 r k = M r k := fun k a c d => by rw [c4.at (by simp [a, c, d]), er]
    have oth : ∀ x, x ≠ r → x ≠ h → M2 x = M x := fun x a c => (o2 x a).trans (b3.ot c)
    have eB : ∀ x, (kd x = 0 ∨ kd x = 2 ∨ kd x = 5) → M2 x = M x := fun x hx => oth x (fun e => by rw [e, kr] at hx; omega) (fun e => by rw [e, kh] at hx; omega)
    have outs : rE M2 h r := by
      refine ⟨13, Nat.le_refl _, c1, by rw [eh2]; exact b1, fun j hj => ?_⟩
      rw [eh2, b2 j hj, c2 j hj]
      have ew := mSq hN q1.2.1
      have eb := mSq hN q1.2.2.1
      have ek := mSq hN q1.2.2.2.1
      refine ⟨rfl, ?_⟩
      rcases (show j = 0 ∨ j = 1 ∨ j = 2 ∨ j = 3 ∨ j = 4 ∨ j = 5 ∨ j = 6 ∨ j = 7 ∨ j = 8 ∨ j = 9 ∨ j = 10 ∨ j = 11 ∨ j = 12 by omega) with e | e | e | e | e | e | e | e | e | e | e | e | e <;> subst e <;> simp only [shB] <;> (try split) <;> (try split) <;> omega
    have J : Inv n kd ln M2 h r := ⟨hN, hH.fr hN eB (fun k hk => ehk k (by revert hk; simp; omega) (by revert hk; simp; omega)), ⟨kr, lr, (tr.er er).ch c4 (by decide)⟩, ⟨ra.eq (ehk 2 (by decide) (by decide)) (er2 3 (by decide) (by decide) (by decide)), rb.eq (ehk 3 (by decide) (by decide)) (oth _ nn.2.2.2.1 nn.2.2.2.2.1) (fun k hk => er2 k (by revert hk; simp; omega) (by revert hk; simp; omega) (by revert hk; simp; omega)), rc.eq (ehk 7 (by decide) (by decide)) (ehk 8 (by decide) (by decide)) (er2 26 (by decide) (by decide) (by decide)) (er2 27 (by decide) (by decide) (by decide)), rd.eq (ehk 9 (by decide) (by decide)) (ehk 10 (by decide) (by decide)) (er2 8 (by decide) (by decide) (by decide)) (er2 9 (by decide) (by decide) (by decide)), outs⟩, hk⟩
    exact ⟨fun _ => hK M2 J (PT_e hH (ehk 0 (by decide) (by decide)) (fun x hx => eB x (Or.inl hx))), fun g2 => absurd rfl g2⟩
  · have v := hI.f0 (v := 0)
    exact sX7_show hN lr tr.1 hm hw hb hk' ht (fun g1 g2 => absurd ⟨g1, g2⟩ q) (fun _ _ => ⟨fun _ => hK _ v.1 v.2, fun g2 => absurd rfl g2⟩)
theorem cs_out {K : gM → Prop} {i : Int} (hI : Inv n kd ln M h r) (hi : rng i) (hK : ∀ M', Inv n kd ln M' h r → PT M' h = PT M h → K M') : wX6_out kd ln (fun c305 M304 => (rng c305 → (wX7_out kd ln (fun c308 M307 => (rng c308 → ((c305 = c308 → K M307) ∧ (¬ (c305 = c308) → False)))) r i M304))) h i M := by
  have hI0 := hI
  obtain ⟨hN, hH, ⟨kr, lr, tr⟩, ⟨-, -, -, -, ⟨z, z1, z2, z3, z4⟩⟩, -⟩ := hI0
  have v := hI.f0 (v := 0)
  refine sX6_out hH.2.1.2.2.2.2 hi z3 z1 (fun _ => ?_)
  refine sX7_out (s := fun j => M r 10 j) lr hi z2 (by omega) (fun j hj => ⟨rfl, (z4 j hj).2⟩) (fun _ => ⟨fun _ => hK _ v.1 v.2, fun g => absurd ?_ g⟩)
  by_cases c : 0 ≤ i ∧ i < z
  · rw [if_pos c, if_pos c]
    have := (z4 i.toNat (by omega)).1
    rw [show ((i.toNat : Nat) : Int) = i by omega] at this
    rw [this, show ((i.toNat : Nat) : Int) = i by omega]
  · rw [if_neg c, if_neg c]
end CB2
