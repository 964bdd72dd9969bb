section WK
variable {kd : gKd} {ln : gLn} {M : gM} {o q z y n m w b k t : Int}
theorem cK_inj (hN : mN n) {K K' : Nat} (hK : (K : Int) < mAl3 n) (hP : cP n m K) (hK' : (K' : Int) < mAl3 n) (hP' : cP n m K') (e : cK n m K' = cK n m K) : K' = K := by
  have q1 := cell_dec hN hK' hP'
  have q2 := cell_dec hN hK hP
  have q3 := key_pos hN hK' hP'
  have q4 := key_pos hN hK hP
  have ec : K' / 2 / S2 n = K / 2 / S2 n := pn_inj q1.2.2.1 q2.2.2.1 (by rw [← q1.1, ← q2.1, e])
  have e1 : kW n K' = kW n K := by rw [q1.2.2.2.2.2.1, q2.2.2.2.2.2.1, ec]
  have e2 : kB n K' = kB n K := by rw [q1.2.2.2.2.2.2.1, q2.2.2.2.2.2.2.1, ec]
  have e3 : kK n K' = kK n K := by rw [← q1.2.2.2.1, ← q2.2.2.2.1, e]
  have e4 : kT K' = kT K := by rw [← q1.2.2.2.2.1, ← q2.2.2.2.2.1, e]
  have a := q3.2.2.2.2.2
  rw [e1, e2, e3, e4, q4.2.2.2.2.2] at a
  omega
theorem tbC.eq {M' : gM} (h : tbC n m kd ln M o q z) (eo : M' o = M o) (eq : M' q = M q) (ez : M' z = M z) : tbC n m kd ln M' o q z := by
  obtain ⟨⟨a1, a2, a3, a4⟩, ⟨b1, b2, b3, b4⟩, ⟨c1, c2, c3, c4⟩, d⟩ := h
  refine ⟨⟨a1, by rw [eo]; exact a2, a3, a4⟩, ⟨by rw [eq]; exact b1, b2, by rw [eq]; exact b3, b4⟩, ⟨by rw [ez]; exact c1, by rw [ez]; exact c2, by rw [ez]; exact c3, c4⟩, d⟩
theorem prV_r (hN : mN n) {K : Nat} (hK : (K : Int) < mAl3 n) (hk : mOn n (kK n K + n)) : -1 ≤ prV n K ∧ prV n K ≤ 97 := by
  obtain ⟨d1, d2, d3, d4, d5⟩ := k_dec hN (K := (K : Int)) ⟨by omega, hK⟩
  have g0 := mDs_ge n 0 (kW n K) (kB n K) (kK n K + n) 1
  have g1 := mDs_ge n 1 (kW n K) (kB n K) (kK n K + n) 1
  have l0 := mDs_le (t := 1) (mBd_all hN 0 (by omega)) d1 d2 hk
  have l1 := mDs_le (t := 1) (mBd_all hN 1 (by omega)) d1 d2 hk
  unfold prV lsD
  split <;> omega
theorem pr_sq (hN : mN n) {a : Int} (h : n * n - n ≤ a ∧ a < n * n) : mOn n (a - n) ∧ (a - n) / n = n - 2 ∧ mOn n a := by
  rcases mN_cases hN with rfl | rfl | rfl | rfl | rfl <;> omega
theorem pr_up (hN : mN n) {k : Int} (hk : mOn n k) (h : k / n = n - 2) : n * n - n ≤ k + n ∧ k + n < n * n := by
  rcases mN_cases hN with rfl | rfl | rfl | rfl | rfl <;> omega
theorem sX3_findPromotions {post : gM → Prop} {L : List Nat} {q0 z0 q1 z1 : Int} {pk0 : Nat → Nat} {pf0 : Nat → Int} (hN : mN n) (hm : m = 2) (hC : mkC n m kd ln M o q z y) (hS : mkS n m M y z L) (hL0 : ∀ K ∈ L, mDk n m K = 0) (hl : chL ln y (pn n m (n * n * (n * n)) * n)) (hc : chS n m M y 0 pk0 pf0) (hQ : tbC n 0 kd ln M o q0 z0 ∧ tbV n 0 (M z0) (fun K => mDk n 0 K)) (hR : tbC n 1 kd ln M o q1 z1 ∧ tbV n 1 (M z1) (fun K => mDk n 1 K)) (hne : q0 ≠ y ∧ z0 ≠ y ∧ q1 ≠ y ∧ z1 ≠ y) (h : ∀ M' np pk pf, Ch y [7, 8, 9, 10] M M' → chS n m M' y np pk pf → (np : Int) ≤ pn n m (n * n * (n * n)) * n → (∀ K, prK n m K → ∃ i, i < np ∧ pk i = K) → post M') : wX3_findPromotions kd ln post y z0 z1 M := by
  have h4 : 4 ≤ n ∧ n ≤ 8 := hN
  have hSn := mSS hN
  have hSS : n * n * (n * n) ≤ 4096 ∧ 0 ≤ n * n * (n * n) := by rcases mN_cases hN with rfl | rfl | rfl | rfl | rfl <;> omega
  obtain ⟨P, eP⟩ : ∃ P, P = pn n m (n * n * (n * n)) := ⟨_, rfl⟩
  have pmx := pn_r (m := m) hN (c := n * n * (n * n)) (by omega)
  rw [← eP] at pmx
  have hcap : P * n ≤ 65536 ∧ 0 ≤ P * n := by
    rcases mN_cases hN with rfl | rfl | rfl | rfl | rfl <;> omega
  have zy : y ≠ z := hC.2.2.2.2.2
  have yo : o ≠ y := fun e => hC.2.2.2.1 e.symm
  -- how far it is
  obtain ⟨I, eI⟩ : ∃ I : Int → Int → gM → Prop, I = fun p a M' => ∃ np pk pf, Ch y [7, 8, 9, 10] M M' ∧ chS n m M' y np pk pf ∧ (np : Int) ≤ p * n + (a - (n * n - n)) ∧ ∀ K, prK n m K → (cK n m K / 128 < p ∨ (cK n m K / 128 = p ∧ kK n K + n < a)) → ∃ i, i < np ∧ pk i = K := ⟨_, rfl⟩
  have inner : ∀ (k2 : Int → gM → Prop) (c : Nat), (c : Int) < n * n * (n * n) → cq n m c → (∀ M', I (pn n m c) (n * n) M' → k2 (pn n m c + 1) M') → ∀ (j : Nat) (a : Int) (M' : gM), n * n - n ≤ a → a ≤ n * n → I (pn n m c) a M' → n * n - a < j → wX3_findPromotions_52 kd ln post y z0 z1 k2 j (pn n m c) ((c : Int) / (n * n)) ((c : Int) % (n * n)) a M' := by
    intro k2 c hc1 hcq hk2 j
    have pl := pn_lt hN hc1 hcq
    rw [← eP] at pl
    obtain ⟨d1, d2, d3⟩ := pc_dec hN (c := (c : Int)) ⟨by omega, hc1⟩
    have ew := mSq hN d1
    have eb := mSq hN d2
    obtain ⟨p, ep⟩ : ∃ p : Nat, pn n m c = p := ⟨(pn n m c).toNat, by omega⟩
    induction j with
    | zero => intro a M' h1 h2 h3 h4; omega
    | succ j ih =>
      intro a M' h1 h2 h3 h4
      obtain ⟨np, pk, pf, i1, i2, i3, i4⟩ := by rw [eI] at h3; exact h3
      have hC' := hC.cy i1
      have hS' := hS.cy zy i1
      have hC0 := hC'
      obtain ⟨⟨⟨a1, a2, a3, a4⟩, -, ⟨c1, c2, c3, c4⟩, -⟩, ⟨e1, e2⟩, ⟨f1, f2, f3, f4, f5⟩, -⟩ := hC0
      unfold wX3_findPromotions_52
      rw [f1, a2.1.1, a2.1.2]
      refine ⟨a3, fun _ => ⟨by omega, fun g => ?_, fun g _ => ?_⟩⟩
      · have : a = n * n := by omega
        subst this
        exact hk2 M' h3
      obtain ⟨s1, s2, s3⟩ := pr_sq hN (a := a) (by omega)
      have es1 := mSq hN s1
      have es3 := mSq hN s3
      unfold wX5_cellAt
      dsimp only
      rw [f3, c4, ← eP, ep]
      refine ⟨by omega, fun _ => ⟨e2, e1, by omega, by omega, fun _ => ?_⟩⟩
      have nxt : ∀ (M'' : gM) (np' : Nat) (pk' : Nat → Nat) (pf' : Nat → Int), Ch y [7, 8, 9, 10] M' M'' → chS n m M'' y np' pk' pf' → np' ≤ np + 1 → (∀ i, i < np → i < np' ∧ pk' i = pk i ∧ pf' i = pf i) → (∀ K, prK n m K → cK n m K = (p * 8 * 8 + (a - n)) * 2 + 0 → ∃ i, i < np' ∧ pk' i = K) → wX3_findPromotions_145 kd ln post y z0 z1 k2 (wX3_findPromotions_52 kd ln post y z0 z1 k2 j) p ((c : Int) / (n * n)) ((c : Int) % (n * n)) a M'' := fun M'' np' pk' pf' g1 g2 g3 g4 g5 => by
        unfold wX3_findPromotions_145
        rw [← ep]
        refine ih (a + 1) M'' (by omega) (by omega) ?_ (by omega)
        rw [eI]
        refine ⟨np', pk', pf', i1.tr g1, g2, by omega, fun K hK g6 => ?_⟩
        by_cases g7 : cK n m K = (p * 8 * 8 + (a - n)) * 2 + 0
        · exact g5 K hK g7
        · have cd := cell_dec hN hK.2.1 hK.2.2.1
          have kt := hK.2.2.2.1
          obtain ⟨i, j1, j2⟩ := i4 K hK (by
            rcases g6 with g6 | ⟨g6, g8⟩
            · exact Or.inl g6
            · refine Or.inr ⟨g6, ?_⟩
              have := cd.2.2.2.1
              have := cd.2.2.2.2.1
              omega)
          exact ⟨i, (g4 i j1).1, by rw [(g4 i j1).2.1]; exact j2⟩
      have stay : (∀ K, prK n m K → cK n m K ≠ (p * 8 * 8 + (a - n)) * 2 + 0) → wX3_findPromotions_145 kd ln post y z0 z1 k2 (wX3_findPromotions_52 kd ln post y z0 z1 k2 j) p ((c : Int) / (n * n)) ((c : Int) % (n * n)) a M' := fun g2 => nxt M' np pk pf Ch.rf i2 (by omega) (fun i hi => ⟨hi, rfl, rfl⟩) (fun K hK g3 => absurd g3 (g2 K hK))
      have ex : (((p * 8 * 8 + (a - n).toNat) * 2 : Nat) : Int) = (p * 8 * 8 + (a - n)) * 2 + 0 := by omega
      rcases tb_cell hN hS'.2.2.1 (x := (p * 8 * 8 + (a - n).toNat) * 2) (by omega) with ⟨t1, t2⟩ | ⟨K, t1, t2, t3, t4⟩
      · rw [ex] at t1 t2
        rw [t1]
        exact ⟨fun _ => stay (fun K hK => t2 K hK.2.1 hK.2.2.1), fun g2 => absurd g2 (by decide)⟩
      · rw [ex] at t3 t4
        have cd := cell_dec hN t1 t2
        have kt : kT K = 0 := by have := cd.2.2.2.2.1; omega
        have nL : K ∉ L := fun g2 => by
          have := mDk_par (d := 0) (hL0 K g2)
          omega
        rw [if_neg nL] at t4
        rw [t4]
        have ec : K / 2 / S2 n = c := pn_inj cd.2.2.1 hcq (by rw [← cd.1, t3, ep]; omega)
        have kw : kW n K = (c : Int) / (n * n) := by rw [cd.2.2.2.2.2.1, ec]
        have kb : kB n K = (c : Int) % (n * n) := by rw [cd.2.2.2.2.2.2.1, ec]
        have kk : kK n K = a - n := by rw [← cd.2.2.2.1, t3]; omega
        refine ⟨fun g2 => absurd rfl g2, fun _ => ⟨by omega, fun g2 => stay (fun K' hK' e => ?_), fun g2 => ⟨by omega, fun g3 => stay (fun K' hK' e => ?_), fun g3 => ?_⟩⟩⟩
        · have := cK_inj hN t1 t2 hK'.2.1 hK'.2.2.1 (e.trans t3.symm)
          subst this
          have := hK'.2.2.2.2.1.2.2.1
          rw [kw, kk] at this
          omega
        · have := cK_inj hN t1 t2 hK'.2.1 hK'.2.2.1 (e.trans t3.symm)
          subst this
          have := hK'.2.2.2.2.1.2.2.2
          rw [kb, kk] at this
          omega
        · have oo : ∀ x, x ≠ y → M' x = M x := fun x hx => i1.ot hx
          have C0 : tbC n 0 kd ln M' o q0 z0 := hQ.1.eq (oo o yo) (oo q0 hne.1) (oo z0 hne.2.1)
          have V0 : tbV n 0 (M' z0) (fun K => mDk n 0 K) := by rw [oo z0 hne.2.1]; exact hQ.2
          have C1 : tbC n 1 kd ln M' o q1 z1 := hR.1.eq (oo o yo) (oo q1 hne.2.2.1) (oo z1 hne.2.2.2)
          have V1 : tbV n 1 (M' z1) (fun K => mDk n 1 K) := by rw [oo z1 hne.2.2.2]; exact hR.2
          have pv : lsD (mDs n 0 ((c : Int) / (n * n)) ((c : Int) % (n * n)) a 1) (mDs n 1 ((c : Int) / (n * n)) ((c : Int) % (n * n)) a 1) = prV n K := by
            unfold prV
            rw [kw, kb, kk, show a - n + n = a by omega]
          have pr := prV_r hN t1 (by rw [kk, show a - n + n = a by omega]; exact s3)
          refine sX5_look hN C0 V0 d1 d2 s3 (by omega) fun _ => sX5_look hN C1 V1 d1 d2 s3 (by omega) fun _ => ?_
          have g0 := mDs_ge n 0 ((c : Int) / (n * n)) ((c : Int) % (n * n)) a 1
          have g1 := mDs_ge n 1 ((c : Int) / (n * n)) ((c : Int) % (n * n)) a 1
          have l0 := mDs_le (t := 1) (mBd_all hN 0 (by omega)) d1 d2 s3
          have l1 := mDs_le (t := 1) (mBd_all hN 1 (by omega)) d1 d2 s3
          refine sX3_lesserDistance (by omega) (by omega) fun _ => ?_
          rw [← t3, pv]
          have cc : (np : Int) < P * n := by
            rw [ep] at i3
            have : (p : Int) * n + n ≤ P * n := by
              have h5 : ((p : Int) + 1) * n ≤ P * n := Int.mul_le_mul_of_nonneg_right (by omega) (by omega)
              rw [Int.add_mul] at h5
              omega
            omega
          rw [← eP] at hl
          refine sX3_chainPromotion (cap := P * n) hl i2 ⟨cc, hcap.1⟩ ⟨rfl, pr⟩ (fun g5 => ⟨hm, t1, t2, kt, ⟨hm, by rw [kk]; exact s2, by rw [kk, kw]; omega, by rw [kk, kb]; omega⟩, g5⟩) (by omega) (fun M'' np' pk' pf' j1 j2 j3 j4 j5 => nxt M'' np' pk' pf' j1 j2 j3 j4 (fun K' hK' e => ?_))
          have := cK_inj hN t1 t2 hK'.2.1 hK'.2.2.1 (e.trans t3.symm)
          subst this
          exact j5 hK'.2.2.2.2.2
  have outer : ∀ (j p : Nat) (M' : gM), (p : Int) ≤ P → I p (n * n - n) M' → P - p < j → wX3_findPromotions_2 kd ln post y z0 z1 j p M' := by
    intro j
    induction j with
    | zero => intro p M' h1 h2 h3; omega
    | succ j ih =>
      intro p M' h1 h2 h3
      obtain ⟨np, pk, pf, i1, i2, i3, i4⟩ := by rw [eI] at h2; exact h2
      have hC' := hC.cy i1
      have hC0 := hC'
      obtain ⟨⟨⟨a1, a2, a3, a4⟩, ⟨b1, b2, b3, b4⟩, ⟨c1, c2, c3, c4⟩, -⟩, ⟨e1, e2⟩, ⟨f1, f2, f3, f4, f5⟩, -⟩ := hC0
      have k0 : M' q 0 (-1) = P := by rw [eP]; exact b3.2.1
      unfold wX3_findPromotions_2
      rw [f1, f2, k0, b2.1, b2.2.1]
      refine ⟨b4, fun _ => ⟨by omega, fun g => ?_, fun g => ?_⟩⟩
      · have hp : (p : Int) = P := by omega
        refine h M' np pk pf i1 i2 (by rw [← eP, ← hp]; omega) (fun K hK => i4 K hK (Or.inl ?_))
        have := (tb_key hN hS.2.2.1 hK.2.1 hK.2.2.1).1
        rw [← eP] at this
        omega
      · obtain ⟨c, x1, x2, x3⟩ := cN_nth (p := cqb n m) (k := p) (N := (n * n * (n * n)).toNat) (by unfold pn at eP; omega)
        have hcq := cqb_t.mp x2
        have hc1 : (c : Int) < n * n * (n * n) := by omega
        have ep : pn n m c = p := by unfold pn; rw [show ((c : Nat) : Int).toNat = c by omega, x3]
        obtain ⟨w1, w2⟩ := b3.2.2.2.2 c hc1 hcq
        rw [ep] at w1 w2
        have inn := inner (wX3_findPromotions_2 kd ln post y z0 z1 j) c hc1 hcq (fun M'' g2 => ?_) (n.toNat + 1) (n * n - n) M' (by omega) (by omega) (by rw [ep]; exact h2) (by omega)
        · rw [w1, w2, a2.1.1, a2.1.2]
          refine ⟨by omega, by omega, fun _ v11 e11 => ⟨by omega, by omega, fun _ v17 e17 => ⟨a3, fun _ _ v23 e23 => ?_⟩⟩⟩
          rw [ep] at inn
          rw [e11, e17, e23]
          exact ⟨_, inn⟩
        · rw [ep] at g2 ⊢
          refine ih (p + 1) M'' (by omega) ?_ (by omega)
          rw [eI] at g2 ⊢
          obtain ⟨np', pk', pf', u1, u2, u3, u4⟩ := g2
          refine ⟨np', pk', pf', u1, u2, ?_, fun K hK g5 => u4 K hK ?_⟩
          · have : ((p + 1 : Nat) : Int) * n = p * n + n := by push_cast; rw [Int.add_mul]; omega
            rw [this]; omega
          · have kk := pr_up hN (key_pos hN hK.2.1 hK.2.2.1).2.2.1 hK.2.2.2.2.1.2.1
            omega
  unfold wX3_findPromotions
  refine ⟨P.toNat + 1, outer (P.toNat + 1) 0 M (by omega) ?_ (by omega)⟩
  rw [eI]
  refine ⟨0, pk0, pf0, Ch.rf, hc, by omega, fun K hK g => ?_⟩
  have kk := pr_up hN (key_pos hN hK.2.1 hK.2.2.1).2.2.1 hK.2.2.2.2.1.2.1
  have := (cell_dec hN hK.2.1 hK.2.2.1).2.2.2.2.2.2.2.1
  omega
end WK
