section BL
variable {kd : gKd} {ln : gLn} {M : gM} {o q z y n m w b k t : Int}
/-- where Black's king goes to, White is to move -/
theorem bk_lg {x v : Int} (hl : mLg n m w x k 1) (h : mBk n m w x k v) (hv : v ≠ k) : mLg n m w v k 0 :=
  ⟨fun e => hl.2.2.2.1 (by rw [e]; exact mNx_sym.mp h.1), hl.2.1, hv, h.2.1, hl.2.2.2.2.1, Or.inr h.2.2⟩
theorem sX3_isLost {post : Int → gM → Prop} {L : List Nat} {x : Int} (hN : mN n) (hm : 0 ≤ m ∧ m ≤ 2) (hC : mkC n m kd ln M o q z y) (hS : mkS n m M y z L) (hw : mOn n w) (hx : mOn n x) (hk : mOn n k) (hl : mLg n m w x k 1) (ht : (∀ v, mOn n v → mBk n m w x k v → v ≠ k ∧ inL n m L w v k 0) → post 1 M) (hf : ¬ (∀ v, mOn n v → mBk n m w x k v → v ≠ k ∧ inL n m L w v k 0) → post 0 M) : wX3_isLost kd ln post y w x k M := by
  have hC0 := hC
  obtain ⟨⟨⟨a1, a2, a3, a4⟩, ⟨b1, b2, b3, b4⟩, ⟨c1, c2, c3, c4⟩, -⟩, ⟨e1, e2⟩, ⟨f1, f2, f3, f4, f5⟩, -⟩ := hC0
  have ek := mSq hN hk
  unfold wX3_isLost
  rw [f1, f4]
  refine ⟨a3, fun _ => sX0_blackTargets hN a1 a2 hm hw hx hk fun c hc => ?_⟩
  have s := hc k.toNat (by omega)
  rw [show ((k.toNat : Nat) : Int) = k by omega] at s
  refine sX6_has (by omega) (fun g _ => ⟨fun g2 => absurd g2 (by decide), fun _ => hf (fun g3 => (g3 k hk (s.mp g).2).1 rfl)⟩) (fun g _ => ⟨fun _ => ⟨65, sq_loop (I := fun p M' => M' = M ∧ (∀ v, mOn n v → p v → mBk n m w x k v) ∧ ∀ v, mOn n v → mBk n m w x k v → p v ∨ inL n m L w v k 0) hN ?_ ?_ c _ M hc ⟨rfl, fun _ _ g => g, fun _ _ g => Or.inl g⟩⟩, fun g2 => absurd rfl g2⟩)
  · rintro j M' p hp ⟨rfl, r1, r2⟩
    unfold wX3_isLost_31
    refine ⟨fun _ => ht (fun v hv g1 => ⟨fun e => ?_, (r2 v hv g1).resolve_left (hp v hv)⟩), fun g => absurd gcmp_z g⟩
    subst e
    rw [s.mpr ⟨hk, g1⟩] at g
    exact absurd g (by decide)
  · rintro j a M' p i ha i1 i2 i3 hi pi imin ⟨rfl, r1, r2⟩ nxt
    unfold wX3_isLost_31
    rw [f2]
    have bk := r1 i hi pi
    have ik : (i : Int) ≠ k := fun e => by
      rw [← e] at s
      rw [e] at s
      rw [s.mpr ⟨hk, e ▸ bk⟩] at g
      exact absurd g (by decide)
    have lg := bk_lg hl bk ik
    refine ⟨fun g => absurd (gcmp_0.mp g) ha, fun _ => ⟨b4, sX6_lowest i1 i2 i3 fun _ => sX2_cellOf hN a1 a2 a3 (by omega) b1 b2 b3 hw hi hk (by omega) (fun hv _ => ?_) (fun hv => absurd (lg_v lg) hv)⟩⟩
    obtain ⟨⟨s1, s2, s3⟩, t1, t2⟩ := tb_rd hN hS.2.2.1 hw hi hk (show (0:Int) ≤ 0 ∧ (0:Int) ≤ 1 by omega) hv
    rw [f3, c4, t1 lg]
    refine ⟨fun g => by omega, fun _ => ⟨e2, e1, by omega, ⟨s1, s2⟩, fun _ => ⟨fun g v ev => ?_, fun g => hf (fun g2 => ?_)⟩⟩⟩
    · rw [ev]
      refine nxt M' ⟨rfl, fun v hv g => r1 v hv g.1, fun v hv g1 => ?_⟩
      rcases r2 v hv g1 with g3 | g3
      · by_cases g4 : v = i
        · subst g4
          right
          apply Classical.byContradiction
          intro g5
          rw [if_neg g5] at g
          omega
        · exact Or.inl ⟨g3, g4⟩
      · exact Or.inr g3
    · have := (g2 i hi bk).2
      rw [if_pos this] at g
      exact g (hS.1 _ this).2.2
theorem sX3_takeBlackBack {post : gM → Prop} {L : List Nat} {d : Nat} (hN : mN n) (hm : 0 ≤ m ∧ m ≤ 2) (hC : mkC n m kd ln M o q z y) (hS : mkS n m M y z L) (hF : mkF n m L d) (hd : d ≤ 125) (hw : mOn n w) (hb : mOn n b) (hk : mOn n k) (hA : mAtD n m d w b k 0) (h : ∀ M' R, mkS n m M' y z (L ++ R) → mkX y z M M' → (∀ K ∈ R, mDk n m K = (d : Int) + 1) → (∀ x, mOn n x → mBk n m w x k b → mAtD n m (d + 1) w x k 1 → inL n m (L ++ R) w x k 1) → post M') : wX3_takeBlackBack kd ln post y w b k ((d : Int) + 1) M := by
  have hl := mAtD_lg hA
  have par := mAtD_par hA
  have hC0 := hC
  obtain ⟨⟨⟨a1, a2, a3, a4⟩, -, -, -⟩, -, ⟨f1, f2, f3, f4, f5⟩, -⟩ := hC0
  -- what is settled with White to move is nearer
  have near : ∀ R : List Nat, mkS n m M y z L → (∀ K ∈ R, mDk n m K = (d : Int) + 1) → ∀ (M' : gM), mkS n m M' y z (L ++ R) → ∀ v, mOn n v → mLg n m w v k 0 → inL n m (L ++ R) w v k 0 → mBl n m (d + 1) w v k 0 := fun R _ hR M' hS' v hv lg g => by
    obtain ⟨e, e1, e2⟩ := inL_at hN hS'.1 (hF.ap hR) hw hv hk (by omega) lg g
    have := mAtD_par e2
    exact ⟨e, by omega, e2⟩
  unfold wX3_takeBlackBack
  rw [f1]
  refine ⟨a3, sX0_blackSources hN a1 a2 hw hb hk fun c hc => ⟨65, sq_loop (I := fun p M' => ∃ R, mkS n m M' y z (L ++ R) ∧ mkX y z M M' ∧ (∀ K ∈ R, mDk n m K = (d : Int) + 1) ∧ (∀ x, mOn n x → p x → mNx n b x ∧ ¬ mNx n w x ∧ x ≠ w ∧ x ≠ k) ∧ ∀ x, mOn n x → (mNx n b x ∧ ¬ mNx n w x ∧ x ≠ w ∧ x ≠ k) → mAtD n m (d + 1) w x k 1 → p x ∨ inL n m (L ++ R) w x k 1) hN ?_ ?_ c _ M hc ⟨[], by rw [List.append_nil]; exact hS, mkX.rf, fun K hK => absurd hK (List.not_mem_nil), fun _ _ g => g, fun x _ g _ => Or.inl g⟩⟩⟩
  · rintro j M' p hp ⟨R, r1, r2, r3, r4, r5⟩
    unfold wX3_takeBlackBack_12
    refine ⟨fun _ => h M' R r1 r2 r3 (fun x hx g1 g2 => ?_), fun g => absurd gcmp_z g⟩
    have lx := mAtD_lg g2
    exact (r5 x hx ⟨mNx_sym.mp g1.1, lx.2.2.2.1, fun e => lx.1 e.symm, lx.2.2.1⟩ g2).resolve_left (hp x hx)
  · rintro j a M' p i ha i1 i2 i3 hi pi imin ⟨R, r1, r2, r3, r4, r5⟩ nxt
    have src := r4 i hi pi
    have hC' := hC.ch r2
    have hC0 := hC'
    obtain ⟨⟨⟨a1, a2, a3, a4⟩, ⟨b1, b2, b3, b4⟩, ⟨c1, c2, c3, c4⟩, -⟩, ⟨e1, e2⟩, ⟨f1, f2, f3, f4, f5⟩, -⟩ := hC0
    -- go on, this square done with
    have go : ∀ (M'' : gM) (R' : List Nat), mkS n m M'' y z (L ++ R ++ R') → mkX y z M' M'' → (∀ K ∈ R', mDk n m K = (d : Int) + 1) → (mAtD n m (d + 1) w i k 1 → inL n m (L ++ R ++ R') w i k 1) → wX3_takeBlackBack_76 kd ln post y w b k ((d : Int) + 1) (wX3_takeBlackBack_12 kd ln post y w b k ((d : Int) + 1) j) a M'' := fun M'' R' s1 s2 s3 s4 => by
      unfold wX3_takeBlackBack_76
      intro v ev
      rw [ev]
      rw [List.append_assoc] at s1 s4
      refine nxt M'' ⟨R ++ R', s1, r2.tr s2, kb_R r3 s3, fun x hx g => r4 x hx g.1, fun x hx g1 g2 => ?_⟩
      rcases r5 x hx g1 g2 with g3 | g3
      · by_cases g4 : x = i
        · subst g4; exact Or.inr (s4 g2)
        · exact Or.inl ⟨g3, g4⟩
      · exact Or.inr (kb_old g3)
    have stay : (mAtD n m (d + 1) w i k 1 → inL n m (L ++ R) w i k 1) → wX3_takeBlackBack_76 kd ln post y w b k ((d : Int) + 1) (wX3_takeBlackBack_12 kd ln post y w b k ((d : Int) + 1) j) a M' := fun g => go M' [] (by rw [List.append_nil]; exact r1) mkX.rf (fun K hK => absurd hK (List.not_mem_nil)) (by rw [List.append_nil]; exact g)
    unfold wX3_takeBlackBack_12
    refine ⟨fun g => absurd (gcmp_0.mp g) ha, fun _ => sX6_lowest i1 i2 i3 fun _ => ?_⟩
    rw [f2]
    refine ⟨b4, sX2_cellOf hN a1 a2 a3 (by omega) b1 b2 b3 hw hi hk (by omega) (fun hv _ => ?_) (fun hv _ => ⟨fun _ => stay (fun g => absurd (lg_v (mAtD_lg g)) hv), fun g => absurd rfl g⟩)⟩
    obtain ⟨⟨s1, s2, s3⟩, t1, t2⟩ := tb_rd hN r1.2.2.1 hw hi hk (show (0:Int) ≤ 1 ∧ (1:Int) ≤ 1 by omega) hv
    rw [f3, c4]
    refine ⟨fun g => by omega, fun _ => ⟨e2, e1, by omega, ⟨s1, s2⟩, fun _ => ⟨fun g => stay (fun g2 => ?_), fun g => ?_⟩⟩⟩
    · apply Classical.byContradiction
      intro g3
      rw [t1 (mAtD_lg g2), if_neg g3] at g
      exact g rfl
    · have lg : mLg n m w i k 1 := Classical.byContradiction fun g2 => by
        rw [t2 g2] at g
        exact absurd g (by decide)
      refine sX3_isLost hN hm hC' r1 hw hi hk lg (fun g2 _ => ⟨fun g3 => absurd g3 (by decide), fun _ => ?_⟩) (fun g2 _ => ⟨fun _ => stay (fun g3 => ?_), fun g3 => absurd rfl g3⟩)
      · refine sX3_settle hN hC' r1 hw hi hk (by omega) hv (by omega) (fun _ g3 => ?_) (fun M'' R' u1 u2 u3 u4 => go M'' R' u1 u2 u3 (fun g3 => u4 (mAtD_lg g3)))
        have noB := noBl hN (hF.ap r3) hw hi hk (by omega) g3
        refine mDs_at (e := d + 1) (mAtD_b lg noB ⟨b, hb, mNx_sym.mp src.1, hl.2.2.2.1, ?_⟩ (fun v hv g4 => ⟨(g2 v hv g4).1, near R hS r3 M' r1 v hv (bk_lg lg g4 (g2 v hv g4).1) (g2 v hv g4).2⟩))
        rcases hl.2.2.2.2.2 with g4 | g4
        · exact absurd g4 (by decide)
        · exact g4
      · exfalso
        apply g2
        intro v hv g4
        obtain ⟨h1, h2⟩ := (mAtD_b' g3).2.2 v hv g4
        obtain ⟨e, u1, u2⟩ := h2
        exact ⟨h1, inL_of hN (hF.ap r3) hw hv hk (by omega) (Nat.lt_succ_iff.mp u1) u2⟩
/-- one move -/
def mv (n m w b k t w' b' k' t' : Int) : Prop := (t = 0 ∧ t' = 1 ∧ b' = b ∧ ((k' = k ∧ mWk n w b k w') ∨ (w' = w ∧ mMn n m w b k k'))) ∨ (t = 1 ∧ t' = 0 ∧ w' = w ∧ k' = k ∧ mBk n m w b k b')
theorem im_mv {g w' b' k' t' : Int} (hN : mN n) (hg : gA m g) (hL : mLg n m w b k t) (hw : mOn n w) (hb : mOn n b) (hk : mOn n k) (hw' : mOn n w') (hb' : mOn n b') (hk' : mOn n k') (h : mv n m w b k t w' b' k' t') : mv n m (mIm n g w) (mIm n g b) (mIm n g k) t (mIm n g w') (mIm n g b') (mIm n g k') t' := by
  rcases h with ⟨h1, h2, h3, h4⟩ | ⟨h1, h2, h3, h4, h5⟩
  · refine Or.inl ⟨h1, h2, by rw [h3], ?_⟩
    rcases h4 with ⟨h4, h5⟩ | ⟨h4, h5⟩
    · exact Or.inl ⟨by rw [h4], (im_wk hN hw hb hk hw').mpr h5⟩
    · exact Or.inr ⟨by rw [h4], im_mn hN hg hL.2.2.2.2.1 hw hb hk hk' h5⟩
  · exact Or.inr ⟨h1, h2, by rw [h3], by rw [h4], (im_bk hN hg hw hb hk hb').mpr h5⟩
theorem giand_tn {a : Int} (h : 0 ≤ a ∧ a < 2147483648) : giand a 1 = a % 2 := giand_1 h
theorem sX3_goBackFrom {post : gM → Prop} {L : List Nat} {d K : Nat} (hN : mN n) (hm : 0 ≤ m ∧ m ≤ 2) (hC : mkC n m kd ln M o q z y) (hS : mkS n m M y z L) (hF : mkF n m L d) (hd : d ≤ 125) (hK : (K : Int) < mAl3 n) (hP : cP n m K) (hD : mDk n m K = d) (h : ∀ M' R, mkS n m M' y z (L ++ R) → mkX y z M M' → (∀ K ∈ R, mDk n m K = (d : Int) + 1) → (∀ w b k t, mOn n w → mOn n b → mOn n k → mAtD n m (d + 1) w b k t → mv n m w b k t (kW n K) (kB n K) (kK n K) (kT K) → inL n m (L ++ R) w b k t) → post M') : wX3_goBackFrom kd ln post y (cK n m K) ((d : Int) + 1) M := by
  have hC0 := hC
  obtain ⟨⟨⟨a1, a2, a3, a4⟩, ⟨b1, b2, b3, b4⟩, -, -⟩, -, ⟨f1, f2, f3, f4, f5⟩, -⟩ := hC0
  obtain ⟨d1, d2, d3, d4, d5, d6, d7, d8, d9⟩ := cell_dec hN hK hP
  obtain ⟨p1, p2, p3, p4, p5, p6⟩ := key_pos hN hK hP
  have pl := pn_lt hN d2 d3
  obtain ⟨k1, k2, -⟩ := b2
  obtain ⟨w1, w2⟩ := b3.2.2.2.2 _ d2 d3
  have hSS : n * n * (n * n) ≤ 4096 ∧ 0 ≤ n * n * (n * n) := by rcases mN_cases hN with rfl | rfl | rfl | rfl | rfl <;> omega
  have pmx := pn_r (m := m) hN (c := n * n * (n * n)) (by omega)
  have hA : mAtD n m d (kW n K) (kB n K) (kK n K) (kT K) := by
    rcases mDs_c n m (kW n K) (kB n K) (kK n K) (kT K) with ⟨e, q1, q2⟩ | ⟨q1, q2⟩
    · have : e = d := by unfold mDk at hD; omega
      rw [← this]; exact q1
    · unfold mDk at hD; omega
  unfold wX3_goBackFrom wX5_pairOf wX5_manOf wX5_turnOf
  dsimp only
  rw [f2, k1, k2, d1, d4, giand_tn (by omega), d5, w1, w2, ← d6, ← d7]
  have e3 := mSq hN p3
  refine ⟨b4, by omega, by omega, by omega, fun _ => ⟨by omega, fun _ v10 e10 => ⟨b4, by omega, by omega, by omega, fun _ => ⟨by omega, fun _ v20 e20 => ⟨by omega, by omega, by omega, fun _ => ⟨by omega, fun _ => ⟨fun g => ?_, fun g => ?_⟩⟩⟩⟩⟩⟩⟩
  · have t0 : kT K = 0 := by omega
    rw [t0] at hA
    rw [e10, e20]
    refine sX3_takeBlackBack hN hm hC hS hF hd p1 p2 p3 hA (fun M' R h1 h2 h3 h4 => h M' R h1 h2 h3 (fun w b k t hw hb hk g1 g2 => ?_))
    rcases g2 with g2 | ⟨u1, u2, u3, u4, u5⟩
    · omega
    · subst u1
      rw [u3, u4] at h4
      exact h4 b hb u5 g1
  · rw [g] at hA
    rw [e10, e20]
    refine sX3_takeKingBack hN hC hS hF hd p1 p2 p3 hA (fun M' R h1 h2 h3 h4 => ?_)
    refine sX3_takeManBack hN hm (hC.ch h2) h1 (hF.ap h3) hd p1 p2 p3 hA (fun M'' R' s1 s2 s3 s4 => ?_)
    rw [List.append_assoc] at s1 s4
    refine h M'' (R ++ R') s1 (h2.tr s2) (kb_R h3 s3) (fun w b k t hw hb hk g1 g2 => ?_)
    have lg := mAtD_lg g1
    rcases g2 with ⟨u1, u2, u3, ⟨u4, u5⟩ | ⟨u4, u5⟩⟩ | g2
    · subst u1
      rw [u3, u4] at h4
      exact kb_old (h4 w hw u5 lg)
    · subst u1
      rw [u3, u4] at s4
      exact s4 k hk u5 lg
    · omega
end BL
