section CA2
variable {kd : gKd} {ln : gLn} {M : gM} {h r n m w b k t : Int}
theorem cs_isLegal {K : gM → Prop} (hI : Inv n kd ln M h r) (hm : rng m) (hw : rng w) (hb : rng b) (hk : rng k) (ht : rng t) (hK : ∀ M', Inv n kd ln M' h r → PT M' h = PT M h → K M') : wX6_isLegal kd ln (fun c101 M100 => (rng c101 → (wX7_isLegal kd ln (fun c104 M103 => (rng c104 → ((c101 = c104 → K M103) ∧ (¬ (c101 = c104) → False)))) r m w b k t M100))) h m w b k t M := by
  have hI0 := hI
  obtain ⟨hN, hH, ⟨kr, lr, tr⟩, -, -⟩ := hI0
  have f := hI.f0 (v := 0)
  refine sX6_isLegal hN hH hm hw hb hk ht (fun q1 q2 _ => ?_) (fun q _ => ?_)
  · exact sX7_isLegal hN tr.1 hm hw hb hk ht (fun _ _ _ => ⟨fun _ => hK _ f.1 f.2, fun g => absurd rfl g⟩) (fun g => absurd ⟨q1, q2⟩ g)
  · exact sX7_isLegal hN tr.1 hm hw hb hk ht (fun g1 g2 => absurd ⟨g1, g2⟩ q) (fun _ _ => ⟨fun _ => hK _ f.1 f.2, fun g => absurd rfl g⟩)
theorem cs_moves {K : gM → Prop} (hI : Inv n kd ln M h r) (hm : rng m) (hw : rng w) (hb : rng b) (hk : rng k) (ht : rng t) (hK : ∀ M', Inv n kd ln M' h r → PT M' h = PT M h → K M') : wX6_moves kd ln (fun c113 M112 => (rng c113 → (wX7_moves kd ln (fun c116 M115 => (rng c116 → ((c113 = c116 → K M115) ∧ (¬ (c113 = c116) → False)))) r m w b k t M112))) h m w b k t M := by
  have hI0 := hI
  obtain ⟨hN, hH, ⟨kr, lr, tr⟩, -, -⟩ := hI0
  refine sX6_moves hN hH hm hw hb hk ht (fun q1 q2 cnt f s _ => ?_) (fun q _ => ?_)
  · refine sX7_moves hN lr tr.1 hm hw hb hk ht (fun _ _ M' cnt' f' s' _ c _ => ?_) (fun g => absurd ⟨q1, q2⟩ g)
    have e := (sIn_uniq s s').1
    have v := hI.q c (by decide)
    exact ⟨fun _ => hK _ v.1 v.2, fun g => absurd (by rw [e]) g⟩
  · have f := hI.f0 (v := 0)
    exact sX7_moves hN lr tr.1 hm hw hb hk ht (fun g1 g2 => absurd ⟨g1, g2⟩ q) (fun _ _ => ⟨fun _ => hK _ f.1 f.2, fun g => absurd rfl g⟩)
/-- what the reference answers a question: v where the position may be asked for -/
theorem cs_distance {K : gM → Prop} (hI : Inv n kd ln M h r) (hm : rng m) (hw : rng w) (hb : rng b) (hk : rng k) (ht : rng t) (hK : ∀ M', Inv n kd ln M' h r → PT M' h = PT M h → K M') : wL_distance kd ln (fun c0 M1 => (rng c0 → (wX7_distance kd ln (fun c1 M2 => (rng c1 → tl kd ln K c0 c1 r M2)) r m w b k t M1))) h m w b k t (-1) 0 M := by
  have hI0 := hI
  obtain ⟨hN, hH, ⟨kr, lr, tr⟩, ⟨ra, -⟩, -, l1⟩ := hI0
  have nn := hI.hr
  unfold wL_distance
  rw [l1]
  refine sX6_distance hN hH hm hw hb hk ht (fun q1 q2 q3 _ => ⟨by omega, fun _ => ?_⟩) (fun q _ => ?_)
  · obtain ⟨hI1, p1⟩ := hI.out (v := ((BitVec.ofInt 64 (mDs n m w b k t)).toNat : Nat))
    have er : (gu M (-1) 0 0 ((BitVec.ofInt 64 (mDs n m w b k t)).toNat : Nat)) r = M r := gu_o (fun e => nn.2.2.1 e.symm)
    have f := hI1.f0 (v := 0)
    refine sX7_distance hN lr hI1.2.2.1.2.2 hm hw hb hk ht (fun _ _ _ _ => tl_ok l1 gu_s (by rw [gu_o nn.2.2.1]; exact gu_s) (hK _ f.1 (f.2.trans p1))) (fun g => ?_)
    rw [er] at g
    exact absurd ⟨q1, (ra m q1.1).mp q2, q3⟩ g
  · have f := hI.f0 (v := 1)
    exact sX7_distance hN lr tr hm hw hb hk ht (fun g1 g2 g3 => absurd ⟨g1, (ra m g1.1).mpr g2, g3⟩ q) (fun _ _ => tl_no gu_s (hK _ f.1 f.2))
theorem cs_number {K : gM → Prop} (hI : Inv n kd ln M h r) (hm : rng m) (hw : rng w) (hb : rng b) (hk : rng k) (ht : rng t) (hK : ∀ M', Inv n kd ln M' h r → PT M' h = PT M h → K M') : wL_number kd ln (fun c0 M1 => (rng c0 → (wX7_number kd ln (fun c1 M2 => (rng c1 → tl kd ln K c0 c1 r M2)) r m w b k t M1))) h m w b k t (-1) 0 M := by
  have hI0 := hI
  obtain ⟨hN, hH, ⟨kr, lr, tr⟩, ⟨ra, -⟩, -, l1⟩ := hI0
  have nn := hI.hr
  unfold wL_number
  rw [l1]
  refine sX6_number hN hH hm hw hb hk ht (fun q1 q2 q3 _ => ⟨by omega, fun _ => ?_⟩) (fun q _ => ?_)
  · obtain ⟨hI1, p1⟩ := hI.out (v := ((BitVec.ofInt 64 ((cN (cPb n m) (mLst n m w b k t).toNat : Nat) : Int)).toNat : Nat))
    have er : (gu M (-1) 0 0 ((BitVec.ofInt 64 ((cN (cPb n m) (mLst n m w b k t).toNat : Nat) : Int)).toNat : Nat)) r = M r := gu_o (fun e => nn.2.2.1 e.symm)
    have f := hI1.f0 (v := 0)
    refine sX7_number hN lr hI1.2.2.1.2.2 hm hw hb hk ht (fun _ _ _ _ => tl_ok l1 gu_s (by rw [gu_o nn.2.2.1]; exact gu_s) (hK _ f.1 (f.2.trans p1))) (fun g => ?_)
    rw [er] at g
    exact absurd ⟨q1, (ra m q1.1).mp q2, q3⟩ g
  · have f := hI.f0 (v := 1)
    exact sX7_number hN lr tr hm hw hb hk ht (fun g1 g2 g3 => absurd ⟨g1, (ra m g1.1).mpr g2, g3⟩ q) (fun _ _ => tl_no gu_s (hK _ f.1 f.2))
theorem cs_count {K : gM → Prop} {d : Int} (hI : Inv n kd ln M h r) (hm : rng m) (ht : rng t) (hd : rng d) (hK : ∀ M', Inv n kd ln M' h r → PT M' h = PT M h → K M') : wL_count kd ln (fun c0 M1 => (rng c0 → (wX7_count kd ln (fun c1 M2 => (rng c1 → tl kd ln K c0 c1 r M2)) r m t d M1))) h m t d (-1) 0 M := by
  have hI0 := hI
  obtain ⟨hN, hH, ⟨kr, lr, tr⟩, ⟨ra, -⟩, -, l1⟩ := hI0
  have nn := hI.hr
  have hB : ∀ m, (0 ≤ m ∧ m ≤ 2) → mBd n m := fun m hm => mBd_all hN m hm
  unfold wL_count
  rw [l1]
  refine sX6_count hN hH hm ht hd (fun q1 q2 q3 _ => ⟨by omega, fun _ => ?_⟩) (fun q _ => ?_)
  · obtain ⟨hI1, p1⟩ := hI.out (v := ((BitVec.ofInt 64 ((cN (ctB n m t d) (mAl3 n).toNat : Nat) : Int)).toNat : Nat))
    have er : (gu M (-1) 0 0 ((BitVec.ofInt 64 ((cN (ctB n m t d) (mAl3 n).toNat : Nat) : Int)).toNat : Nat)) r = M r := gu_o (fun e => nn.2.2.1 e.symm)
    have f := hI1.f0 (v := 0)
    refine sX7_count hN lr hI1.2.2.1.2.2 hB hm ht hd (fun _ _ _ _ => tl_ok l1 gu_s (by rw [gu_o nn.2.2.1]; exact gu_s) (hK _ f.1 (f.2.trans p1))) (fun g => ?_)
    rw [er] at g
    exact absurd ⟨q1, (ra m q1).mp q2, q3⟩ g
  · have f := hI.f0 (v := 1)
    exact sX7_count hN lr tr hB hm ht hd (fun g1 g2 g3 => absurd ⟨g1, (ra m g1).mpr g2, g3⟩ q) (fun _ _ => tl_no gu_s (hK _ f.1 f.2))
theorem cs_longest {K : gM → Prop} {what : Int} (hI : Inv n kd ln M h r) (hm : rng m) (ht : rng t) (hw : rng what) (hK : ∀ M', Inv n kd ln M' h r → PT M' h = PT M h → K M') : wL_longest kd ln (fun c0 M1 => (rng c0 → (wX7_longest kd ln (fun c1 M2 => (rng c1 → tl kd ln K c0 c1 r M2)) r m t what M1))) h m t what (-1) 0 M := by
  have hI0 := hI
  obtain ⟨hN, hH, ⟨kr, lr, tr⟩, ⟨ra, -⟩, -, l1⟩ := hI0
  have nn := hI.hr
  have hB : ∀ m, (0 ≤ m ∧ m ≤ 2) → mBd n m := fun m hm => mBd_all hN m hm
  unfold wL_longest
  rw [l1]
  refine sX6_longest hN hH hm ht hw (fun q1 q2 q3 best first lg _ => ⟨by omega, fun _ => ?_⟩) (fun q _ => ?_)
  · obtain ⟨v, ev⟩ : ∃ v : Int, v = (if what = 0 then best else if what = 1 then (if first = -1 then -1 else ((cN (cPb n m) first.toNat : Nat) : Int)) else -1) := ⟨_, rfl⟩
    rw [← ev]
    obtain ⟨hI1, p1⟩ := hI.out (v := ((BitVec.ofInt 64 v).toNat : Nat))
    have er : (gu M (-1) 0 0 ((BitVec.ofInt 64 v).toNat : Nat)) r = M r := gu_o (fun e => nn.2.2.1 e.symm)
    have f := hI1.f0 (v := 0)
    refine sX7_longest hN lr hI1.2.2.1.2.2 hB hm ht hw (fun _ _ _ best' first' lg' _ => ?_) (fun g => ?_)
    · obtain ⟨e1, e2⟩ := lgP_uniq lg' lg
      rw [e1, e2, ← ev]
      exact tl_ok l1 gu_s (by rw [gu_o nn.2.2.1]; exact gu_s) (hK _ f.1 (f.2.trans p1))
    · rw [er] at g
      exact absurd ⟨q1, (ra m q1).mp q2, q3⟩ g
  · have f := hI.f0 (v := 1)
    exact sX7_longest hN lr tr hB hm ht hw (fun g1 g2 g3 => absurd ⟨g1, (ra m g1).mpr g2, g3⟩ q) (fun _ _ => tl_no gu_s (hK _ f.1 f.2))
theorem cs_position {K : gM → Prop} {kk what : Int} (hI : Inv n kd ln M h r) (hm : rng m) (hk : rng kk) (hw : rng what) (hK : ∀ M', Inv n kd ln M' h r → PT M' h = PT M h → K M') : wL_position kd ln (fun c0 M1 => (rng c0 → (wX7_position kd ln (fun c1 M2 => (rng c1 → tl kd ln K c0 c1 r M2)) r m kk what M1))) h m kk what (-1) 0 M := by
  have hI0 := hI
  obtain ⟨hN, hH, ⟨kr, lr, tr⟩, ⟨ra, -⟩, -, l1⟩ := hI0
  have nn := hI.hr
  have tb : ∀ {M' : gM}, rTb n r M' → (0 ≤ m ∧ m ≤ 2) → M' r 3 m ≠ 0 → nmS n m r M' ∧ ∀ K : Int, 0 ≤ K → K < mAl3 n → 0 ≤ M' r 4 (524288 * m + K) := fun {M'} t' q1 q2 => by
    obtain ⟨a1, a2⟩ := t'.2.1 m q1 q2
    refine ⟨a2, fun K k1 k2 => ?_⟩
    rw [mFu_dk hN a1 ⟨k1, k2⟩]
    have := mDs_ge n m (kW n K) (kB n K) (kK n K) (kT K)
    unfold mDk
    omega
  -- a number answered
  have ok : ∀ v : Int, (0 ≤ m ∧ m ≤ 2) → M h 2 m ≠ 0 → (∀ M1, rTb n r M1 → M1 r = M r → (¬ (0 ≤ kk ∧ kk < (cN (cPb n m) (mAl3 n).toNat : Nat)) → v = -1) ∧ ∀ K : Nat, (K : Int) < mAl3 n → cPb n m K = true → (cN (cPb n m) K : Nat) = kk → kAns n m r M1 K what = v) → wX7_position kd ln (fun c1 M2 => (rng c1 → tl kd ln K 0 c1 r M2)) r m kk what (gu M (-1) 0 0 ((BitVec.ofInt 64 v).toNat : Nat)) := fun v q1 q2 hv => by
    obtain ⟨hI1, p1⟩ := hI.out (v := ((BitVec.ofInt 64 v).toNat : Nat))
    have er : (gu M (-1) 0 0 ((BitVec.ofInt 64 v).toNat : Nat)) r = M r := gu_o (fun e => nn.2.2.1 e.symm)
    have f := hI1.f0 (v := 0)
    obtain ⟨h1, h2⟩ := hv _ hI1.2.2.1.2.2 er
    have fin : tl kd ln K 0 v r (gu (gu M (-1) 0 0 ((BitVec.ofInt 64 v).toNat : Nat)) r 0 (-1) 0) := tl_ok l1 gu_s (by rw [gu_o nn.2.2.1]; exact gu_s) (hK _ f.1 (f.2.trans p1))
    refine sX7_position hN lr hI1.2.2.1.2.2.1 hm hk hw (tb hI1.2.2.1.2.2) (fun g => ?_) (fun _ _ g _ => ?_) (fun _ _ K' k1 k2 k3 _ => ?_)
    · rw [er] at g
      exact absurd ⟨q1, (ra m q1).mp q2⟩ g
    · rw [h1 g] at fin ⊢
      exact fin
    · rw [h2 K' k1 k2 k3]
      exact fin
  unfold wL_position
  rw [l1]
  refine sX6_position hN hH hm hk hw (fun q _ => ?_) (fun q1 q2 q3 _ => ⟨by omega, fun _ => ?_⟩) (fun q1 q2 K' k1 k2 k3 _ => ⟨by omega, fun _ => ?_⟩)
  · have f := hI.f0 (v := 1)
    exact sX7_position hN lr tr.1 hm hk hw (tb tr) (fun _ _ => tl_no gu_s (hK _ f.1 f.2)) (fun g1 g2 => absurd ⟨g1, (ra m g1).mpr g2⟩ q) (fun g1 g2 => absurd ⟨g1, (ra m g1).mpr g2⟩ q)
  · refine ok (-1) q1 q2 (fun M1 _ _ => ⟨fun _ => rfl, fun K' k1 k2 k3 => absurd ?_ q3⟩)
    have a := cN_t k2
    have c := cN_mono (p := cPb n m) (show K' + 1 ≤ (mAl3 n).toNat by omega)
    omega
  · refine ok (tAns n m K' what) q1 q2 (fun M1 t1 er1 => ⟨fun g => absurd ?_ g, fun K2 j1 j2 j3 => ?_⟩)
    · have a := cN_t (cPb_t.mpr k2)
      have c := cN_mono (p := cPb n m) (show K' + 1 ≤ (mAl3 n).toNat by omega)
      omega
    · have e : K2 = K' := by
        have a := cN_t j2
        have c := cN_t (cPb_t.mpr k2)
        rcases Nat.lt_trichotomy K2 K' with g | g | g
        · have := cN_mono (p := cPb n m) (show K2 + 1 ≤ K' by omega); omega
        · exact g
        · have := cN_mono (p := cPb n m) (show K' + 1 ≤ K2 by omega); omega
      subst e
      have q2' : M1 r 3 m ≠ 0 := by
        rw [er1]
        exact (ra m q1).mp q2
      have dk := mFu_dk hN (t1.2.1 m q1 q2').1 (K := (K2 : Int)) ⟨by omega, j1⟩
      unfold kAns tAns
      rw [dk]
      by_cases c4 : what = 4
      · rw [c4]
        simp
      · rw [if_neg c4, if_neg c4]
end CA2
