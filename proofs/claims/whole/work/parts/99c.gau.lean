section GB
variable {kd : gKd} {ln : gLn} {M : gM} {h o x p n m w b k t : Int}
theorem sX6_gatherPromotions {post : gM → Prop} {Q : Int → Prop} {cnt0 tot : Nat} {f0 F : Nat → Int} (hN : mN n) (hC : gaC n 2 kd ln M h o x p w b k 0) (hw : mOn n w) (hb : mOn n b) (hk : mOn n k) (hL : mLg n 2 w b k 0) (hpr : mPr n 2 w b k) (hT : sIn tot F (mvP n 2 w b k 0)) (h36 : tot ≤ 36) (hs : sIn cnt0 f0 Q) (hc : cho x M cnt0 f0 (mAf n 2 w b k 0)) (hQ : ∀ c, Q c → mvP n 2 w b k 0 c ∧ c < 512 * k + 8 * (k + n)) (hpost : ∀ M' cnt f, sIn cnt f (fun c => Q c ∨ ∃ q, (0 ≤ q ∧ q ≤ 3) ∧ c = mCd k (k + n) q) → cho x M' cnt f (mAf n 2 w b k 0) → Ch x [0, 1] M M' → post M') : wX6_gatherPromotions kd ln post h x p (k + n) M := by
  have h4 : 4 ≤ n ∧ n ≤ 8 := hN
  have ek := mSq hN hk
  have u := mUp hN hk (by have := hpr.2.1; omega)
  have eu := mSq hN u.1
  have loop : ∀ (j : Nat) (q : Int) (cnt : Nat) (f : Nat → Int) (M' : gM), 0 ≤ q → q ≤ 4 → sIn cnt f (fun c => Q c ∨ ∃ q', (0 ≤ q' ∧ q' < q) ∧ c = mCd k (k + n) q') → cho x M' cnt f (mAf n 2 w b k 0) → Ch x [0, 1] M M' → 4 - q < j → wX6_gatherPromotions_3 kd ln post h x p (k + n) j q M' := by
    intro j
    induction j with
    | zero => intro q cnt f M' h1 h2 h3 h4 h5 h6; omega
    | succ j ih =>
      intro q cnt f M' h1 h2 h3 h4 h5 h6
      have hC' := hC.ch h5
      have hC0 := hC'
      obtain ⟨a1, ⟨b1, b2, b3, b4⟩, c1, ⟨d0, d1, d2, d3, d4⟩, ⟨e1, e2⟩, f1, f2⟩ := hC0
      unfold wX6_gatherPromotions_3
      refine ⟨by omega, fun g => ?_, fun g => ?_⟩
      · have : q = 4 := by omega
        subst this
        exact hpost M' cnt f (sIn_iff h3 (fun c => or_congr Iff.rfl ⟨fun ⟨q', q1, q2⟩ => ⟨q', by omega, q2⟩, fun ⟨q', q1, q2⟩ => ⟨q', by omega, q2⟩⟩)) h4 h5
      · obtain ⟨q1, q2, q3⟩ := mCd_d (f := k) (x := k + n) (q := q) (by omega) (by omega) (by omega)
        obtain ⟨v0, v1, v2, v3, v4, v5, v6⟩ := mV_man (m := 2) (w := w) (b := b) (k := k) (x := k + n) (q := q) (by omega) (by omega) (by omega) hL.2.1
        have af : mAf n 2 w b k 0 (mCd k (k + n) q) = if q < 2 then mDs n q w b (k + n) 1 else -1 := by
          unfold mAf
          rw [v3, v4, v5, v6, if_neg (show ¬ q = -1 by omega)]
          by_cases g2 : q < 2
          · rw [if_pos g2, if_neg (show ¬ q = -1 by omega), if_pos g2]; rfl
          · rw [if_neg g2, if_pos rfl, if_neg g2]
        have add : ∀ z : Int, z = mAf n 2 w b k 0 (mCd k (k + n) q) → rng z → wX6_gatherPromotions_55 kd ln post h x p (k + n) (wX6_gatherPromotions_3 kd ln post h x p (k + n) j) q z q (k + n) k x M' := fun z ez rz => by
          unfold wX6_gatherPromotions_55
          refine ⟨e2, sX1_addc (c := mCd k (k + n) q) (v := mAf n 2 w b k 0) e1 hT h36 h3 (fun y g2 => ?_) (Or.inr ⟨rfl, Or.inr ⟨hpr, q, by omega, rfl⟩⟩) (fun y g2 => ?_) h4 q1.symm q2.symm q3.symm ez (by omega) (by omega) (by omega) rz (fun M'' f' s1 s2 s3 _ => ih (q + 1) (cnt + 1) f' M'' (by omega) (by omega) (sIn_iff s1 (fun c => ⟨?_, ?_⟩)) s2 (h5.tr s3) (by omega))⟩
          · rcases g2 with g2 | ⟨q', g2, g3⟩
            · exact (hQ y g2).1
            · exact Or.inr ⟨rfl, Or.inr ⟨hpr, q', by omega, g3⟩⟩
          · rcases g2 with g2 | ⟨q', g2, g3⟩
            · have := (hQ y g2).2
              unfold mCd; omega
            · rw [g3]; unfold mCd; omega
          · rintro ((g2 | ⟨q', g2, g3⟩) | g2)
            · exact Or.inl g2
            · exact Or.inr ⟨q', by omega, g3⟩
            · exact Or.inr ⟨q, by omega, g2⟩
          · rintro (g2 | ⟨q', g2, g3⟩)
            · exact Or.inl (Or.inl g2)
            · by_cases e : q' = q
              · right; rw [g3, e]
              · exact Or.inl (Or.inr ⟨q', by omega, g3⟩)
        unfold wX6_gatherPromotions_20
        rw [d1, d2, d3]
        refine ⟨fun g2 _ => ⟨by omega, fun _ => add _ (by rw [af, if_neg (by omega)]) (by omega), fun g3 => absurd rfl g3⟩, fun g2 _ => ⟨by omega, fun g3 => absurd g3 (by decide), fun _ _ _ => ?_⟩⟩
        have rg := mDs_rg (m := q) (t := 1) hN (by omega) hw hb u.1
        exact hC'.lk hN (by omega) (Or.inr ⟨rfl, by omega⟩) hw hb u.1 (by omega) fun _ => add _ (by rw [af, if_pos (by omega)]) (by omega)
  unfold wX6_gatherPromotions
  exact ⟨5, loop 5 0 cnt0 f0 M (by omega) (by omega) (sIn_iff hs (fun c => ⟨Or.inl, fun q => q.elim id (fun ⟨q', q1, _⟩ => by omega)⟩)) hc Ch.rf (by omega)⟩
abbrev mCR (n m w b k : Int) (y c : Int) : Prop := (mMn n m w b k y ∧ c = mCd k y (-1)) ∨ (mPr n m w b k ∧ y = k + n ∧ ∃ q, (0 ≤ q ∧ q ≤ 3) ∧ c = mCd k (k + n) q)
theorem sX6_gatherMan {post : gM → Prop} {P0 : Int → Prop} {cnt0 tot : Nat} {f0 F : Nat → Int} (hN : mN n) (hm : 0 ≤ m ∧ m ≤ 2) (hC : gaC n m kd ln M h o x p w b k 0) (hw : mOn n w) (hb : mOn n b) (hk : mOn n k) (hL : mLg n m w b k 0) (hT : sIn tot F (mvP n m w b k 0)) (h36 : tot ≤ 36) (hs : sIn cnt0 f0 P0) (hc : cho x M cnt0 f0 (mAf n m w b k 0)) (hP : ∀ c, P0 c → mvP n m w b k 0 c ∧ c < 512 * k) (hpost : ∀ M' cnt f, sIn cnt f (fun c => P0 c ∨ ∃ y, mOn n y ∧ mMt n m w b k y ∧ mCR n m w b k y c) → cho x M' cnt f (mAf n m w b k 0) → Ch x [0, 1] M M' → post M') : wX6_gatherMan kd ln post h x p M := by
  have h4 : 4 ≤ n ∧ n ≤ 8 := hN
  have hC0 := hC
  obtain ⟨a1, ⟨b1, b2, b3, b4⟩, c1, ⟨d0, d1, d2, d3, d4⟩, ⟨e1, e2⟩, f1, f2⟩ := hC0
  have ek := mSq hN hk
  have mem : ∀ y c, mOn n y → mMt n m w b k y → mCR n m w b k y c → mvP n m w b k 0 c := fun y c y1 y2 y3 => by
    rcases y3 with ⟨y3, y4⟩ | ⟨y3, y4, y5⟩
    · exact Or.inr ⟨rfl, Or.inl ⟨y, y1, y3, y4⟩⟩
    · exact Or.inr ⟨rfl, Or.inr ⟨y3, y5⟩⟩
  have rgc : ∀ y c, mCR n m w b k y c → 512 * k + 8 * y ≤ c ∧ c < 512 * k + 8 * y + 8 := fun y c q => by
    rcases q with ⟨_, q⟩ | ⟨_, q1, q, q2, q3⟩
    · rw [q]; unfold mCd; omega
    · rw [q3, q1]; unfold mCd; omega
  unfold wX6_gatherMan
  rw [a1, d0, d1, d2, d3]
  refine ⟨b3, fun _ _ _ _ => sX0_manTargets hN b1 b2 hm hw hb hk hL fun c hcs => ⟨65, sq_loop (I := fun pp M' => gaI n x k P0 (mMt n m w b k) (mCR n m w b k) (mAf n m w b k 0) M M' pp) hN ?_ ?_ c _ M hcs ⟨cnt0, f0, sIn_iff hs (fun c => ⟨Or.inl, fun q => q.elim id (fun ⟨y, _, y2, y3, _⟩ => absurd y2 y3)⟩), hc, Ch.rf, fun _ _ q => q, fun y z _ _ q1 q2 => absurd q1 q2⟩⟩⟩
  · rintro j M' pp hp ⟨cnt, f, r1, r2, r3, r4, r5⟩
    unfold wX6_gatherMan_27
    exact ⟨fun _ => hpost M' cnt f (sIn_iff r1 (fun c => or_congr Iff.rfl ⟨fun ⟨y, y1, y2, _, y4⟩ => ⟨y, y1, y2, y4⟩, fun ⟨y, y1, y2, y4⟩ => ⟨y, y1, y2, hp y y1, y4⟩⟩)) r2 r3, fun g => absurd gcmp_z g⟩
  · rintro j a M' pp i ha i1 i2 i3 hi pi imin ⟨cnt, f, r1, r2, r3, r4, r5⟩ nxt
    have mt := r4 i hi pi
    have ei := mSq hN hi
    have hC' := hC.ch r3
    have hC0 := hC'
    obtain ⟨a1, ⟨b1, b2, b3, b4⟩, c1, ⟨d0, d1, d2, d3, d4⟩, ⟨e1, e2⟩, f1, f2⟩ := hC0
    have rg := mDs_rg (t := 1) hN hm hw hb hi
    have inQ : ∀ c, (P0 c ∨ ∃ y, mOn n y ∧ mMt n m w b k y ∧ ¬ pp y ∧ mCR n m w b k y c) → mvP n m w b k 0 c ∧ c < 512 * k + 8 * i := fun c q => by
      rcases q with q | ⟨y, y1, y2, y3, y4⟩
      · have := hP c q
        exact ⟨this.1, by have := hi.1; omega⟩
      · have := r5 y i y1 hi y2 y3 pi
        have := rgc y c y4
        exact ⟨mem y c y1 y2 y4, by omega⟩
    -- a move that is no promotion
    have plain : ¬ (m = 2 ∧ n * n - n ≤ i) → wX6_gatherMan_72 kd ln post h x p (wX6_gatherMan_27 kd ln post h x p j) a i M' := fun np => by
      have mn : mMn n m w b k i := mt.resolve_right (fun q => np ⟨q.1.1, by
        have := pr_up hN hk q.1.2.1
        have := q.2
        omega⟩)
      have noP : ∀ c, mCR n m w b k i c ↔ c = mCd k i (-1) := fun c => ⟨fun q => q.elim (fun q => q.2) (fun q => by
        exfalso
        have := pr_up hN hk q.1.2.1
        exact np ⟨q.1.1, by have := q.2.1; omega⟩), fun q => Or.inl ⟨mn, q⟩⟩
      obtain ⟨q1, q2, q3⟩ := mCd_d (f := k) (x := i) (q := -1) (by omega) (by omega) (by omega)
      obtain ⟨v0, v1, v2, v3, v4, v5, v6⟩ := mV_man (m := m) (w := w) (b := b) (k := k) (x := i) (q := -1) (by omega) (by omega) (by omega) hL.2.1
      have af : mAf n m w b k 0 (mCd k i (-1)) = mDs n m w b i 1 := by
        unfold mAf
        rw [v3, v4, v5, v6, if_pos rfl, if_neg (by omega)]
        rfl
      unfold wX6_gatherMan_72
      rw [d0, d1, d2, d3]
      refine fun _ _ _ _ => hC'.lk hN hm (Or.inl rfl) hw hb hi (by omega) fun _ => ?_
      refine sX1_addc (c := mCd k i (-1)) (v := mAf n m w b k 0) e1 hT h36 r1 (fun y q => (inQ y q).1) (Or.inr ⟨rfl, Or.inl ⟨i, hi, mn, rfl⟩⟩) (fun y q => by have := (inQ y q).2; unfold mCd; omega) r2 q1.symm q2.symm q3.symm af.symm (by omega) (by omega) (by omega) (by omega) (fun M'' f' s1 s2 s3 _ => ?_)
      unfold wX6_gatherMan_102
      intro v25 e25
      rw [e25]
      exact nxt M'' (gaI.nx (a := k) hi pi imin r4 r5 (sIn_iff s1 (fun c => or_congr Iff.rfl (noP c).symm)) s2 (r3.tr s3))
    unfold wX6_gatherMan_27
    refine ⟨fun g => absurd (gcmp_0.mp g) ha, fun _ => sX6_lowest i1 i2 i3 fun _ => ?_⟩
    rw [d0, a1]
    refine fun _ => ⟨fun g => plain (fun q => g q.1), fun g => ⟨b3, sX0_isLastRank hN b2.1.1 b2.1.2 (by omega) (fun g2 _ => ⟨fun g3 => absurd g3 (by decide), fun _ => ?_⟩) (fun g2 _ => ⟨fun _ => plain (fun q => by omega), fun g3 => absurd rfl g3⟩)⟩⟩
    subst g
    have last := (mLast hN hi).1.mp g2
    have pr : mPr n 2 w b k ∧ (i : Int) = k + n := by
      rcases mt with (q | ⟨_, a1, a2, a3, a4, a5, a6⟩) | q
      · exact absurd rfl q.1
      · omega
      · exact q
    have noP : ∀ c, mCR n 2 w b k i c ↔ ∃ q, (0 ≤ q ∧ q ≤ 3) ∧ c = mCd k (k + n) q := fun c => ⟨fun q => q.elim (fun q => by
      exfalso
      rcases q.1 with q | ⟨_, a1, a2, a3, a4, a5, a6⟩
      · exact absurd rfl q.1
      · omega) (fun q => q.2.2), fun q => Or.inr ⟨pr.1, pr.2, q⟩⟩
    rw [pr.2]
    refine sX6_gatherPromotions hN hC' hw hb hk hL pr.1 hT h36 r1 r2 (fun c q => by rw [← pr.2]; exact inQ c q) (fun M'' cnt' f' s1 s2 s3 => ?_)
    unfold wX6_gatherMan_102
    intro v25 e25
    rw [e25]
    exact nxt M'' (gaI.nx (a := k) hi pi imin r4 r5 (sIn_iff s1 (fun c => or_congr Iff.rfl (noP c).symm)) s2 (r3.tr s3))
theorem sX6_gather {post : gM → Prop} (hN : mN n) (hm : 0 ≤ m ∧ m ≤ 2) (hC : gaC n m kd ln M h o x p w b k t) (hw : mOn n w) (hb : mOn n b) (hk : mOn n k) (ht : t = 0 ∨ t = 1) (hL : mLg n m w b k t) (hpost : ∀ M' cnt f, sIn cnt f (mvP n m w b k t) → cnt ≤ 36 → cho x M' cnt f (mAf n m w b k t) → Ch x [0, 1] M M' → post M') : wX6_gather kd ln post h x p M := by
  have ew := mSq hN hw
  have ek := mSq hN hk
  obtain ⟨tot, F, hT, h36, -⟩ := mv_cnt hN hw hb hk ht hL
  have c0 : Ch x [0, 1] M (gu M x 0 (-1) 0) := Ch.up Ch.rf (by decide) _ _
  have hC1 := hC.ch c0
  have hC0 := hC1
  obtain ⟨-, -, -, ⟨d0, d1, d2, d3, d4⟩, -, -⟩ := hC0
  have z0 : (gu M x 0 (-1) 0) x 0 (-1) = 0 := gu_s
  have s0 : sIn 0 (fun _ => (0 : Int)) (fun _ => False) := sIn_0 (fun c q => q)
  have ch0 : cho x (gu M x 0 (-1) 0) 0 (fun _ => 0) (mAf n m w b k t) := ⟨by rw [z0]; rfl, fun i hi => absurd hi (Nat.not_lt_zero i)⟩
  -- all the moves are there
  have done : ∀ M' cnt f, (∀ c, (∃ q : Int → Prop, sIn cnt f q ∧ (q c ↔ mvP n m w b k t c))) → cho x M' cnt f (mAf n m w b k t) → Ch x [0, 1] (gu M x 0 (-1) 0) M' → sIn cnt f (mvP n m w b k t) → post M' := fun M' cnt f _ q2 q3 q4 => hpost M' cnt f q4 (Nat.le_trans (sIn_sub q4 hT (fun _ q => q)) h36) q2 (c0.tr q3)
  unfold wX6_gather
  rw [d1, d3, d4]
  refine fun _ => ⟨fun g _ _ => ?_, fun g => ?_⟩
  · have t0 : t = 0 := by omega
    subst t0
    have eqv : ∀ c, ((∃ y, mOn n y ∧ mWk n w b k y ∧ c = mCd w y (-1)) ∨ (∃ y, mOn n y ∧ mMt n m w b k y ∧ mCR n m w b k y c)) ↔ mvP n m w b k 0 c := fun c => by
      have h4 : 4 ≤ n ∧ n ≤ 8 := hN
      unfold mvP mK mKs
      rw [if_pos rfl]
      constructor
      · rintro (⟨y, y1, y2, y3⟩ | ⟨y, y1, y2, y3 | y3⟩)
        · exact Or.inl ⟨y, y1, Or.inl ⟨rfl, y2⟩, y3⟩
        · exact Or.inr ⟨rfl, Or.inl ⟨y, y1, y3⟩⟩
        · exact Or.inr ⟨rfl, Or.inr ⟨y3.1, y3.2.2⟩⟩
      · rintro (⟨y, y1, y2 | y2, y3⟩ | ⟨_, ⟨y, y1, y2, y3⟩ | ⟨y1, y2⟩⟩)
        · exact Or.inl ⟨y, y1, y2.2, y3⟩
        · exact absurd y2.1 (by decide)
        · exact Or.inr ⟨y, y1, Or.inl y2, Or.inl ⟨y2, y3⟩⟩
        · have u := mUp hN hk (by have := y1.2.1; omega)
          exact Or.inr ⟨k + n, u.1, Or.inr ⟨y1, rfl⟩, Or.inr ⟨y1, rfl, y2⟩⟩
    refine ⟨fun g2 => ?_, fun g2 => ?_⟩
    · have kw : k < w := by have := hL.2.1; omega
      refine sX6_gatherMan hN hm hC1 hw hb hk hL hT h36 s0 ch0 (fun c q => q.elim) (fun M1 cnt f s1 s2 s3 => ?_)
      refine sX6_gatherKing hN hm (hC1.ch s3) hw hb hk hL hT h36 s1 s2 (fun c q => ?_) (fun M2 cnt2 f2 u1 u2 u3 => hpost M2 cnt2 f2 (sIn_iff u1 (fun c => ?_)) ?_ u2 ((c0.tr s3).tr u3))
      · rcases q with q | ⟨y, y1, y2, y3⟩
        · exact q.elim
        · refine ⟨(eqv c).mp (Or.inr ⟨y, y1, y2, y3⟩), ?_⟩
          have ey := mSq hN y1
          rcases y3 with ⟨_, q⟩ | ⟨_, q1, q, q2, q3⟩
          · rw [q]; unfold mCd; omega
          · rw [q3, ← q1]; unfold mCd; omega
      · rw [← eqv c]
        exact ⟨fun q => q.elim (fun q => q.elim False.elim Or.inr) Or.inl, fun q => q.elim Or.inr (fun q => Or.inl (Or.inr q))⟩
      · refine Nat.le_trans (sIn_sub u1 hT (fun c q => (eqv c).mp ?_)) h36
        exact q.elim (fun q => q.elim False.elim Or.inr) Or.inl
    · have kw : w < k := by omega
      refine sX6_gatherKing hN hm hC1 hw hb hk hL hT h36 s0 ch0 (fun c q => q.elim) (fun M1 cnt f s1 s2 s3 => ?_)
      refine sX6_gatherMan hN hm (hC1.ch s3) hw hb hk hL hT h36 s1 s2 (fun c q => ?_) (fun M2 cnt2 f2 u1 u2 u3 => hpost M2 cnt2 f2 (sIn_iff u1 (fun c => ?_)) ?_ u2 ((c0.tr s3).tr u3))
      · rcases q with q | ⟨y, y1, y2, y3⟩
        · exact q.elim
        · refine ⟨(eqv c).mp (Or.inl ⟨y, y1, y2, y3⟩), ?_⟩
          have ey := mSq hN y1
          rw [y3]; unfold mCd; omega
      · rw [← eqv c]
        exact ⟨fun q => q.elim (fun q => q.elim False.elim Or.inl) Or.inr, fun q => q.elim (fun q => Or.inl (Or.inr q)) Or.inr⟩
      · refine Nat.le_trans (sIn_sub u1 hT (fun c q => (eqv c).mp ?_)) h36
        exact q.elim (fun q => q.elim False.elim Or.inl) Or.inr
  · subst g
    refine sX6_gatherBlack hN hm hC1 hw hb hk hL hT h36 z0 (fun M1 cnt f s1 s2 s3 => ?_)
    have s1' : sIn cnt f (mvP n m w b k 1) := sIn_iff s1 (fun c => by
      unfold mvP mK mKs
      rw [if_neg (by decide)]
      constructor
      · rintro ⟨y, y1, y2, y3⟩
        exact Or.inl ⟨y, y1, Or.inr ⟨rfl, y2⟩, y3⟩
      · rintro (⟨y, y1, y2 | y2, y3⟩ | q)
        · exact absurd y2.1 (by decide)
        · exact ⟨y, y1, y2.2, y3⟩
        · exact absurd q.1 (by decide))
    exact hpost M1 cnt f s1' (Nat.le_trans (sIn_sub s1' hT (fun _ q => q)) h36) s2 (c0.tr s3)
end GB
