section GA
variable {kd : gKd} {ln : gLn} {M : gM} {h o x p n m w b k t : Int}
/-- the tables that a material's moves lead to -/
def tbs (n m : Int) (kd : gKd) (ln : gLn) (M : gM) (o : Int) : Prop := ∀ m', (0 ≤ m' ∧ m' ≤ 2) → (m' = m ∨ (m = 2 ∧ m' ≤ 1)) → M o 5 m' ≠ 0 ∧ ∃ q, tbD n m' kd ln M o q (M o 5 m')
theorem tbD.fr {M' : gM} {q z : Int} (h : tbD n m kd ln M o q z) (e : ∀ y, (kd y = 0 ∨ kd y = 2 ∨ kd y = 5) → M' y = M y) : tbD n m kd ln M' o q z := by
  obtain ⟨hC, hL, hV, hB, hS, hz⟩ := h
  have eo := e o (Or.inl hC.1.2.2.1)
  have eq := e q (Or.inr (Or.inl hC.2.1.2.2.2))
  have ez := e z (Or.inr (Or.inr hz.1))
  exact ⟨hC.eq eo eq ez, hL, by rw [ez]; exact hV, by rw [ez]; exact hB, by rw [ez]; exact hS, hz⟩
theorem tbs.fr {M' : gM} (ht : tbs n m kd ln M o) (ho : kd o = 0) (e : ∀ y, (kd y = 0 ∨ kd y = 2 ∨ kd y = 5) → M' y = M y) : tbs n m kd ln M' o := fun m' h1 h2 => by
  obtain ⟨a1, q, a2⟩ := ht m' h1 h2
  rw [e o (Or.inl ho)]
  exact ⟨a1, q, a2.fr e⟩
theorem sX6_lookUp {post : Int → gM → Prop} {m' : Int} (hN : mN n) (h1 : M h 1 (-1) = o) (ho : kd o = 0) (l5 : ln o 5 = 3) (hm' : 0 ≤ m' ∧ m' ≤ 2) (hT : M o 5 m' ≠ 0 ∧ ∃ q, tbD n m' kd ln M o q (M o 5 m')) (hw : mOn n w) (hb : mOn n b) (hk : mOn n k) (ht : 0 ≤ t ∧ t ≤ 1) (hp : post (mDs n m' w b k t) M) : wX6_lookUp kd ln post h m' w b k t M := by
  obtain ⟨t1, q, t2⟩ := hT
  unfold wX6_lookUp
  rw [h1, l5]
  exact ⟨ho, by omega, by omega, fun _ => ⟨t2.2.2.2.2.2.1, sX5_look hN t2.1 t2.2.2.1 hw hb hk ht fun _ => hp⟩, fun g => absurd g t1⟩
/-- where moves are gathered -/
def gaC (n m : Int) (kd : gKd) (ln : gLn) (M : gM) (h o x p w b k t : Int) : Prop := M h 1 (-1) = o ∧ (bdL n (ln o) ∧ bdG n (M o) ∧ kd o = 0 ∧ 0 < o) ∧ tbs n m kd ln M o ∧ (M p 0 (-1) = m ∧ M p 1 (-1) = w ∧ M p 2 (-1) = b ∧ M p 3 (-1) = k ∧ M p 4 (-1) = t) ∧ (ln x 1 = 144 ∧ kd x = 1) ∧ (x ≠ h ∧ x ≠ p)
theorem gaC.ch {M' : gM} {l : List Nat} (hC : gaC n m kd ln M h o x p w b k t) (c : Ch x l M M') : gaC n m kd ln M' h o x p w b k t := by
  obtain ⟨a1, ⟨b1, b2, b3, b4⟩, c1, d1, ⟨e1, e2⟩, f1, f2⟩ := hC
  have eh : M' h = M h := c.ot (fun e => f1 e.symm)
  have ep : M' p = M p := c.ot (fun e => f2 e.symm)
  have eo : M' o = M o := c.ot (fun e => by rw [e, e2] at b3; exact absurd b3 (by decide))
  refine ⟨by rw [eh]; exact a1, ⟨b1, by rw [eo]; exact b2, b3, b4⟩, c1.fr b3 (fun y hy => c.ot (fun e => ?_)), by rw [ep]; exact d1, ⟨e1, e2⟩, f1, f2⟩
  rw [e, e2] at hy
  omega
theorem gaC.lk {post : Int → gM → Prop} {m' w' b' k' t' : Int} (hC : gaC n m kd ln M h o x p w b k t) (hN : mN n) (hm' : 0 ≤ m' ∧ m' ≤ 2) (hmm : m' = m ∨ (m = 2 ∧ m' ≤ 1)) (hw : mOn n w') (hb : mOn n b') (hk : mOn n k') (ht : 0 ≤ t' ∧ t' ≤ 1) (hp : post (mDs n m' w' b' k' t') M) : wX6_lookUp kd ln post h m' w' b' k' t' M := sX6_lookUp hN hC.1 hC.2.1.2.2.1 hC.2.1.1.2.2.2.1 hm' (hC.2.2.1 m' hm' hmm) hw hb hk ht hp
theorem mDs_rg (hN : mN n) (hm : 0 ≤ m ∧ m ≤ 2) (hw : mOn n w) (hb : mOn n b) (hk : mOn n k) : -1 ≤ mDs n m w b k t ∧ mDs n m w b k t ≤ 97 := ⟨mDs_ge n m w b k t, mDs_le (mBd_all hN m hm) hw hb hk⟩
/-- what is gathered, p still to come -/
def gaI (n : Int) (x a : Int) (P0 : Int → Prop) (S : Int → Prop) (CR : Int → Int → Prop) (v : Int → Int) (M M' : gM) (p : Int → Prop) : Prop := ∃ cnt f, sIn cnt f (fun c => P0 c ∨ ∃ y, mOn n y ∧ S y ∧ ¬ p y ∧ CR y c) ∧ cho x M' cnt f v ∧ Ch x [0, 1] M M' ∧ (∀ y, mOn n y → p y → S y) ∧ ∀ y z, mOn n y → mOn n z → S y → ¬ p y → p z → y < z
theorem gaI.nx {a : Int} {P0 S : Int → Prop} {CR : Int → Int → Prop} {v : Int → Int} {M'' : gM} {p : Int → Prop} {i : Int} {cnt' : Nat} {f' : Nat → Int} (hi : mOn n i) (pi : p i) (imin : ∀ y, mOn n y → p y → i ≤ y) (r4 : ∀ y, mOn n y → p y → S y) (r5 : ∀ y z, mOn n y → mOn n z → S y → ¬ p y → p z → y < z) (hs : sIn cnt' f' (fun c => (P0 c ∨ ∃ y, mOn n y ∧ S y ∧ ¬ p y ∧ CR y c) ∨ CR i c)) (hc : cho x M'' cnt' f' v) (c2 : Ch x [0, 1] M M'') : gaI n x a P0 S CR v M M'' (fun y => p y ∧ y ≠ i) := by
  refine ⟨cnt', f', sIn_iff hs (fun c => ⟨?_, ?_⟩), hc, c2, fun y hy q => r4 y hy q.1, fun y z hy hz q1 q2 q3 => ?_⟩
  · rintro ((q | ⟨y, y1, y2, y3, y4⟩) | q)
    · exact Or.inl q
    · exact Or.inr ⟨y, y1, y2, fun q => y3 q.1, y4⟩
    · exact Or.inr ⟨i, hi, r4 i hi pi, fun q2 => q2.2 rfl, q⟩
  · rintro (q | ⟨y, y1, y2, y3, y4⟩)
    · exact Or.inl (Or.inl q)
    · by_cases e : y = i
      · subst e; exact Or.inr y4
      · exact Or.inl (Or.inr ⟨y, y1, y2, fun q => y3 ⟨q, e⟩, y4⟩)
  · by_cases e : y = i
    · subst e
      have := imin z hz q3.1
      have := q3.2
      omega
    · exact r5 y z hy hz q1 (fun q => q2 ⟨q, e⟩) q3.1
theorem sX6_gatherKing {post : gM → Prop} {P0 : Int → Prop} {cnt0 tot : Nat} {f0 F : Nat → Int} (hN : mN n) (hm : 0 ≤ m ∧ m ≤ 2) (hC : gaC n m kd ln M h o x p w b k 0) (hw : mOn n w) (hb : mOn n b) (hk : mOn n k) (hL : mLg n m w b k 0) (hT : sIn tot F (mvP n m w b k 0)) (h36 : tot ≤ 36) (hs : sIn cnt0 f0 P0) (hc : cho x M cnt0 f0 (mAf n m w b k 0)) (hP : ∀ c, P0 c → mvP n m w b k 0 c ∧ c < 512 * w) (hpost : ∀ M' cnt f, sIn cnt f (fun c => P0 c ∨ ∃ y, mOn n y ∧ mWk n w b k y ∧ c = mCd w y (-1)) → cho x M' cnt f (mAf n m w b k 0) → Ch x [0, 1] M M' → post M') : wX6_gatherKing kd ln post h x p M := by
  have hC0 := hC
  obtain ⟨a1, ⟨b1, b2, b3, b4⟩, c1, ⟨d0, d1, d2, d3, d4⟩, ⟨e1, e2⟩, f1, f2⟩ := hC0
  have ew := mSq hN hw
  unfold wX6_gatherKing
  rw [a1, d1, d2, d3]
  refine ⟨b3, fun _ _ _ => sX0_whiteTargets hN b1 b2 hw hb hk fun c hcs => ⟨65, sq_loop (I := fun pp M' => gaI n x w P0 (mWk n w b k) (fun y c => c = mCd w y (-1)) (mAf n m w b k 0) M M' pp) hN ?_ ?_ c _ M hcs ⟨cnt0, f0, sIn_iff hs (fun c => ⟨Or.inl, fun q => q.elim id (fun ⟨y, _, y2, y3, _⟩ => absurd y2 y3)⟩), hc, Ch.rf, fun _ _ q => q, fun y z _ _ q1 q2 => absurd q1 q2⟩⟩⟩
  · rintro j M' pp hp ⟨cnt, f, r1, r2, r3, r4, r5⟩
    unfold wX6_gatherKing_23
    exact ⟨fun _ => hpost M' cnt f (sIn_iff r1 (fun c => or_congr Iff.rfl ⟨fun ⟨y, y1, y2, _, y4⟩ => ⟨y, y1, y2, y4⟩, fun ⟨y, y1, y2, y4⟩ => ⟨y, y1, y2, hp y y1, y4⟩⟩)) r2 r3, fun g => absurd gcmp_z g⟩
  · rintro j a M' pp i ha i1 i2 i3 hi pi imin ⟨cnt, f, r1, r2, r3, r4, r5⟩ nxt
    have wk := r4 i hi pi
    have ei := mSq hN hi
    have hC' := hC.ch r3
    have hC0 := hC'
    obtain ⟨a1, ⟨b1, b2, b3, b4⟩, c1, ⟨d0, d1, d2, d3, d4⟩, ⟨e1, e2⟩, f1, f2⟩ := hC0
    have rg := mDs_rg (t := 1) hN hm hi hb hk
    obtain ⟨q1, q2, q3⟩ := mCd_d (f := w) (x := i) (q := -1) (by omega) (by omega) (by omega)
    have af : mAf n m w b k 0 (mCd w i (-1)) = mDs n m i b k 1 := by
      unfold mAf
      simp only [mV, q1, q2, if_true, and_self, show ¬ ((0 : Int) = 1) by decide, if_false]
      rw [if_neg (by omega)]
      rfl
    unfold wX6_gatherKing_23
    refine ⟨fun g => absurd (gcmp_0.mp g) ha, fun _ => sX6_lowest i1 i2 i3 fun _ => ?_⟩
    rw [d0, d1, d2, d3]
    refine fun _ _ _ _ => hC'.lk hN hm (Or.inl rfl) hi hb hk (by omega) fun _ => ?_
    refine sX1_addc (c := mCd w i (-1)) (v := mAf n m w b k 0) e1 hT h36 r1 (fun y q => ?_) (Or.inl ⟨i, hi, Or.inl ⟨rfl, wk⟩, rfl⟩) (fun y q => ?_) r2 q1.symm q2.symm q3.symm af.symm (by omega) (by omega) (by omega) (by omega) (fun M'' f' s1 s2 s3 _ v23 e23 => ?_)
    · rcases q with q | ⟨y', y1, y2, y3, y4⟩
      · exact (hP y q).1
      · exact Or.inl ⟨y', y1, Or.inl ⟨rfl, y2⟩, y4⟩
    · rcases q with q | ⟨y', y1, y2, y3, y4⟩
      · have := (hP y q).2
        unfold mCd; omega
      · have := r5 y' i y1 hi y2 y3 pi
        rw [y4]; unfold mCd; omega
    · rw [e23]
      exact nxt M'' (gaI.nx (a := w) hi pi imin r4 r5 s1 s2 (r3.tr s3))
theorem sX6_gatherBlack {post : gM → Prop} {tot : Nat} {F : Nat → Int} (hN : mN n) (hm : 0 ≤ m ∧ m ≤ 2) (hC : gaC n m kd ln M h o x p w b k 1) (hw : mOn n w) (hb : mOn n b) (hk : mOn n k) (hL : mLg n m w b k 1) (hT : sIn tot F (mvP n m w b k 1)) (h36 : tot ≤ 36) (h0 : M x 0 (-1) = 0) (hpost : ∀ M' cnt f, sIn cnt f (fun c => ∃ y, mOn n y ∧ mBk n m w b k y ∧ c = mCd b y (-1)) → cho x M' cnt f (mAf n m w b k 1) → Ch x [0, 1] M M' → post M') : wX6_gatherBlack kd ln post h x p M := by
  have hC0 := hC
  obtain ⟨a1, ⟨b1, b2, b3, b4⟩, c1, ⟨d0, d1, d2, d3, d4⟩, ⟨e1, e2⟩, f1, f2⟩ := hC0
  have eb := mSq hN hb
  unfold wX6_gatherBlack
  rw [a1, d0, d1, d2, d3]
  refine ⟨b3, fun _ _ _ _ => sX0_blackTargets hN b1 b2 hm hw hb hk fun c hcs => ⟨65, sq_loop (I := fun pp M' => gaI n x b (fun _ => False) (mBk n m w b k) (fun y c => c = mCd b y (-1)) (mAf n m w b k 1) M M' pp) hN ?_ ?_ c _ M hcs ⟨0, fun _ => 0, sIn_0 (fun c q => q.elim id (fun ⟨y, _, y2, y3, _⟩ => absurd y2 y3)), ⟨by rw [h0]; rfl, fun i hi => absurd hi (Nat.not_lt_zero i)⟩, Ch.rf, fun _ _ q => q, fun y z _ _ q1 q2 => absurd q1 q2⟩⟩⟩
  · rintro j M' pp hp ⟨cnt, f, r1, r2, r3, r4, r5⟩
    unfold wX6_gatherBlack_27
    exact ⟨fun _ => hpost M' cnt f (sIn_iff r1 (fun c => ⟨fun q => q.elim False.elim (fun ⟨y, y1, y2, _, y4⟩ => ⟨y, y1, y2, y4⟩), fun ⟨y, y1, y2, y4⟩ => Or.inr ⟨y, y1, y2, hp y y1, y4⟩⟩)) r2 r3, fun g => absurd gcmp_z g⟩
  · rintro j a M' pp i ha i1 i2 i3 hi pi imin ⟨cnt, f, r1, r2, r3, r4, r5⟩ nxt
    have bk := r4 i hi pi
    have ei := mSq hN hi
    have hC' := hC.ch r3
    have hC0 := hC'
    obtain ⟨a1, ⟨b1, b2, b3, b4⟩, c1, ⟨d0, d1, d2, d3, d4⟩, ⟨e1, e2⟩, f1, f2⟩ := hC0
    have rg := mDs_rg (t := 0) hN hm hw hi hk
    obtain ⟨q1, q2, q3⟩ := mCd_d (f := b) (x := i) (q := -1) (by omega) (by omega) (by omega)
    obtain ⟨v3, v4, v5, v6⟩ := mV_black (m := m) (w := w) (k := k) (b := b) (x := i) (by omega) (by omega)
    have af : mAf n m w b k 1 (mCd b i (-1)) = if (i : Int) = k then -1 else mDs n m w i k 0 := by
      unfold mAf
      rw [v3, v4, v5, v6]
      by_cases g : (i : Int) = k
      · rw [if_pos g, if_pos rfl, if_pos g]
      · rw [if_neg g, if_neg (by omega), if_neg g, if_neg g]
        rfl
    have add : ∀ z : Int, z = mAf n m w b k 1 (mCd b i (-1)) → rng z → wX6_gatherBlack_73 kd ln post h x p (wX6_gatherBlack_27 kd ln post h x p j) a i z M' := fun z ez rz => by
      unfold wX6_gatherBlack_73
      rw [d2]
      refine fun _ => sX1_addc (c := mCd b i (-1)) (v := mAf n m w b k 1) e1 hT h36 r1 (fun y q => ?_) (Or.inl ⟨i, hi, Or.inr ⟨rfl, bk⟩, rfl⟩) (fun y q => ?_) r2 q1.symm q2.symm q3.symm ez (by omega) (by omega) (by omega) rz (fun M'' f' s1 s2 s3 _ v23 e23 => ?_)
      · rcases q with q | ⟨y', y1, y2, y3, y4⟩
        · exact q.elim
        · exact Or.inl ⟨y', y1, Or.inr ⟨rfl, y2⟩, y4⟩
      · rcases q with q | ⟨y', y1, y2, y3, y4⟩
        · exact q.elim
        · have := r5 y' i y1 hi y2 y3 pi
          rw [y4]; unfold mCd; omega
      · rw [e23]
        exact nxt M'' (gaI.nx (a := b) hi pi imin r4 r5 s1 s2 (r3.tr s3))
    unfold wX6_gatherBlack_27
    refine ⟨fun g => absurd (gcmp_0.mp g) ha, fun _ => sX6_lowest i1 i2 i3 fun _ => ?_⟩
    rw [d0, d1, d3]
    refine fun _ => ⟨fun g _ _ => hC'.lk hN hm (Or.inl rfl) hw hi hk (by omega) fun _ => add _ (by rw [af, if_neg g]) (by omega), fun g => add _ (by rw [af, if_pos g]) (by omega)⟩
end GA
