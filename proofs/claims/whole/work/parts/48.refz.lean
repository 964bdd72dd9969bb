section RZ
variable {kd : gKd} {ln : gLn} {M M0 : gM} {r n m w b k t : Int}
theorem sX7_distance {post : Int → gM → Prop} (hN : mN n) (hl : rLn ln r) (hT : rTb n r M) (hmr : rng m) (hw : rng w) (hb : rng b) (hk : rng k) (ht : rng t) (hok : mNu n m w b k t → M r 3 m ≠ 0 → mLg n m w b k t → post (mDs n m w b k t) (gu M r 0 (-1) 0)) (hno : ¬ (mNu n m w b k t ∧ M r 3 m ≠ 0 ∧ mLg n m w b k t) → post 0 (gu M r 0 (-1) 1)) : wX7_distance kd ln post r m w b k t M := by
  unfold wX7_distance
  refine sX7_mayAsk hN hl hT.1 hmr hw hb hk ht (fun q2 q3 q4 => fun _ => ⟨fun g => absurd g (by decide), fun _ => ?_⟩) (fun q2 => fun _ => ⟨fun _ => hno q2, fun g => absurd rfl g⟩)
  have c0 : Ch r [0] M (gu M r 0 (-1) 0) := Ch.up Ch.rf (by decide) (-1) 0
  have hT' := hT.ch c0 (by decide)
  obtain ⟨n1, n2, n3, n4, n5⟩ := id q2
  have h3 : (gu M r 0 (-1) 0) r 3 m ≠ 0 := by rw [gu_k (by decide)]; exact q3
  have ds := mFu_ds (hT'.2.1 m n1 h3).1 n2 n3 n4 (show t = 0 ∨ t = 1 by omega)
  have ge := mDs_ge n m w b k t
  unfold mT at ds
  refine sX7_distanceOf hN hl.2.1 hT'.1.2 n1 n2 n3 n4 n5 (by omega) ?_
  rw [ds, show mDs n m w b k t + 1 - 1 = mDs n m w b k t by omega]
  exact fun _ => hok q2 q3 q4
theorem sX7_number {post : Int → gM → Prop} (hN : mN n) (hl : rLn ln r) (hT : rTb n r M) (hmr : rng m) (hw : rng w) (hb : rng b) (hk : rng k) (ht : rng t) (hok : mNu n m w b k t → M r 3 m ≠ 0 → mLg n m w b k t → post (cN (cPb n m) (mLst n m w b k t).toNat : Nat) (gu M r 0 (-1) 0)) (hno : ¬ (mNu n m w b k t ∧ M r 3 m ≠ 0 ∧ mLg n m w b k t) → post 0 (gu M r 0 (-1) 1)) : wX7_number kd ln post r m w b k t M := by
  unfold wX7_number
  refine sX7_mayAsk hN hl hT.1 hmr hw hb hk ht (fun q2 q3 q4 => fun _ => ⟨fun _ => ?_, fun g => absurd g (by decide)⟩) (fun q2 => fun _ => ⟨fun g => absurd rfl g, fun _ => hno q2⟩)
  have c0 : Ch r [0] M (gu M r 0 (-1) 0) := Ch.up Ch.rf (by decide) (-1) 0
  have hT' := hT.ch c0 (by decide)
  obtain ⟨n1, n2, n3, n4, n5⟩ := id q2
  have h3 : (gu M r 0 (-1) 0) r 3 m ≠ 0 := by rw [gu_k (by decide)]; exact q3
  refine sX7_least hN hT'.1 n1 n2 n3 n4 n5 fun _ => ?_
  have lr := mLe_r hN n2 n3 n4 n5 (mNs m)
  have lr2 : 0 ≤ mLst n m w b k t ∧ mLst n m w b k t < mAl3 n := lr
  obtain ⟨K, eK⟩ := Int.eq_ofNat_of_zero_le lr2.1
  have := hok q2 q3 q4
  rw [eK] at this ⊢
  exact sX7_numberOf hN hl n1 (hT'.2.1 m n1 h3).2 (by omega) fun _ => this
theorem sX7_count {post : Int → gM → Prop} {d : Int} (hN : mN n) (hl : rLn ln r) (hT : rTb n r M) (hB : ∀ m, (0 ≤ m ∧ m ≤ 2) → mBd n m) (hmr : rng m) (ht : rng t) (hd : rng d) (hok : (0 ≤ m ∧ m ≤ 2) → M r 3 m ≠ 0 → (0 ≤ t ∧ t ≤ 1) → post (cN (ctB n m t d) (mAl3 n).toNat : Nat) (gu M r 0 (-1) 0)) (hno : ¬ ((0 ≤ m ∧ m ≤ 2) ∧ M r 3 m ≠ 0 ∧ (0 ≤ t ∧ t ≤ 1)) → post 0 (gu M r 0 (-1) 1)) : wX7_count kd ln post r m t d M := by
  have no : ¬ ((0 ≤ m ∧ m ≤ 2) ∧ M r 3 m ≠ 0 ∧ (0 ≤ t ∧ t ≤ 1)) → wX7_count_22 kd ln post r m t d M := fun q => by
    unfold wX7_count_22 wX7_count_23
    exact sX7_may (Or.inl rfl) fun _ => ⟨fun g => absurd rfl g, fun _ => hno q⟩
  unfold wX7_count
  refine sX7_isMade hl hmr (fun q => fun _ => ⟨fun g => absurd g (by decide), fun _ => ?_⟩) (fun q => fun _ => ⟨fun _ => no (fun g => q ⟨g.1, g.2.1⟩), fun g => absurd rfl g⟩)
  refine sX7_in ht (by omega) (by omega) (fun q2 => fun _ => ⟨fun g => absurd g (by decide), fun _ => ?_⟩) (fun q2 => fun _ => ⟨fun _ => no (fun g => q2 g.2.2), fun g => absurd rfl g⟩)
  unfold wX7_count_23
  refine sX7_may (Or.inr rfl) fun _ => ⟨fun _ => ?_, fun g => absurd g (by decide)⟩
  have c0 : Ch r [0] M (gu M r 0 (-1) (1 - 1)) := Ch.up Ch.rf (by decide) (-1) 0
  have hT' := hT.ch c0 (by decide)
  have h3 : (gu M r 0 (-1) (1 - 1)) r 3 m ≠ 0 := by rw [gu_k (by decide)]; exact q.2
  have hA := mAl3_r hN
  rw [hT'.1.2]
  intro _ v16 ev
  have ev : v16 = mAl3 n := ev
  rw [ev]
  obtain ⟨tn, rfl⟩ := Int.eq_ofNat_of_zero_le q2.1
  have kt : kT ((tn : Nat) : Int) = tn := by unfold kT; omega
  refine ⟨(mAl3 n).toNat + 3, ?_⟩
  have h0 : cN (ctB n m tn d) tn = 0 := by
    rcases (show tn = 0 ∨ tn = 1 by omega) with e | e
    · rw [e]; rfl
    · rw [e]
      have : ctB n m ((1 : Nat) : Int) d 0 = false := ctB_f.mpr (fun q3 => by
        have := q3.2.1
        unfold kT at this
        omega)
      rw [cN_f this]; rfl
  have := sX7_count_55 (kd := kd) (post := post) (M := gu M r 0 (-1) (1 - 1)) (d := d) hN hl q.1 hT'.1 (hT'.2.1 m q.1 h3).1 (hT'.2.1 m q.1 h3).2 (hB m q.1) q2 hd (hok q.1 q.2 q2) ((mAl3 n).toNat + 3) tn kt (by omega) (by omega)
  rw [h0] at this
  exact this
theorem sX7_longest {post : Int → gM → Prop} {what : Int} (hN : mN n) (hl : rLn ln r) (hT : rTb n r M) (hB : ∀ m, (0 ≤ m ∧ m ≤ 2) → mBd n m) (hmr : rng m) (ht : rng t) (hw : rng what) (hok : (0 ≤ m ∧ m ≤ 2) → M r 3 m ≠ 0 → (0 ≤ t ∧ t ≤ 1) → ∀ best first : Int, lgP n m t best first → post (if what = 0 then best else if what = 1 then (if first = -1 then -1 else (cN (cPb n m) first.toNat : Nat)) else -1) (gu M r 0 (-1) 0)) (hno : ¬ ((0 ≤ m ∧ m ≤ 2) ∧ M r 3 m ≠ 0 ∧ (0 ≤ t ∧ t ≤ 1)) → post 0 (gu M r 0 (-1) 1)) : wX7_longest kd ln post r m t what M := by
  have no : ¬ ((0 ≤ m ∧ m ≤ 2) ∧ M r 3 m ≠ 0 ∧ (0 ≤ t ∧ t ≤ 1)) → wX7_longest_22 kd ln post r m t what M := fun q => by
    unfold wX7_longest_22 wX7_longest_23
    exact sX7_may (Or.inl rfl) fun _ => ⟨fun g => absurd rfl g, fun _ => hno q⟩
  unfold wX7_longest
  refine sX7_isMade hl hmr (fun q => fun _ => ⟨fun g => absurd g (by decide), fun _ => ?_⟩) (fun q => fun _ => ⟨fun _ => no (fun g => q ⟨g.1, g.2.1⟩), fun g => absurd rfl g⟩)
  refine sX7_in ht (by omega) (by omega) (fun q2 => fun _ => ⟨fun g => absurd g (by decide), fun _ => ?_⟩) (fun q2 => fun _ => ⟨fun _ => no (fun g => q2 g.2.2), fun g => absurd rfl g⟩)
  unfold wX7_longest_23
  refine sX7_may (Or.inr rfl) fun _ => ⟨fun _ => ?_, fun g => absurd g (by decide)⟩
  have c0 : Ch r [0] M (gu M r 0 (-1) (1 - 1)) := Ch.up Ch.rf (by decide) (-1) 0
  have hT' := hT.ch c0 (by decide)
  have h3 : (gu M r 0 (-1) (1 - 1)) r 3 m ≠ 0 := by rw [gu_k (by decide)]; exact q.2
  have hA := mAl3_r hN
  rw [hT'.1.2]
  intro _ v16 ev
  have ev : v16 = mAl3 n := ev
  rw [ev]
  obtain ⟨tn, rfl⟩ := Int.eq_ofNat_of_zero_le q2.1
  have kt : kT ((tn : Nat) : Int) = tn := by unfold kT; omega
  refine ⟨(mAl3 n).toNat + 3, sX7_longest_58 (M := gu M r 0 (-1) (1 - 1)) hN hl q.1 (hT'.2.1 m q.1 h3).1 (hT'.2.1 m q.1 h3).2 (hB m q.1) q2 hw (fun best first hp => hok q.1 q.2 q2 best first hp) _ tn (-1) (-1) kt (by omega) (by omega) (fun K' k1 k2 k3 => ?_) (Or.inl ⟨rfl, rfl⟩) (by omega)⟩
  unfold kT at k3
  omega
theorem sX7_move {post : Int → gM → Prop} {kk what : Int} {cnt : Nat} {f : Nat → Int} {g : Int} (hl : rLn ln r) (hkr : rng kk) (hw : rng what) (hh : hHd r M cnt f g) (hc : cnt ≤ 36) (h : post (if 0 ≤ kk ∧ kk < cnt then (if what = 0 then cF (f kk.toNat) else if what = 1 then cT (f kk.toNat) else if what = 2 then cB (f kk.toNat) else if what = 3 then g else -1) else -1) (gu M r 0 (-1) 0)) : wX7_move kd ln post r kk what M := by
  obtain ⟨l3, l4, l5, l6, l7, l8, l10, l7s, ⟨l22, l23, l24, l25⟩, l27⟩ := hl
  unfold wX7_move
  rw [gu_k (show 21 ≠ 0 by decide), hh.1]
  intro _
  refine sX7_in hkr (by omega) (by omega) (fun q => fun _ => ⟨fun _ => ?_, fun g => absurd g (by decide)⟩) (fun q => fun _ => ⟨fun g => absurd rfl g, fun _ => ?_⟩)
  · obtain ⟨kn, rfl⟩ := Int.eq_ofNat_of_zero_le q.1
    rw [if_pos (by omega), show ((kn : Int)).toNat = kn by omega] at h
    obtain ⟨a1, a2, a3, a4⟩ := hh.2 kn (by omega)
    rw [l22, l23, l24, l25, gu_k (show 22 ≠ 0 by decide), gu_k (show 23 ≠ 0 by decide), gu_k (show 24 ≠ 0 by decide), gu_k (show 25 ≠ 0 by decide), a1, a2, a3, a4]
    refine ⟨hw, fun q1 => ⟨fun q2 => ⟨fun q3 => ⟨fun q4 => ?_, fun q4 => ?_⟩, fun q3 => ?_⟩, fun q2 => ?_⟩, fun q1 => ?_⟩
    · rw [if_neg q1, if_neg q2, if_neg q3, if_neg q4] at h; exact h
    · rw [if_neg q1, if_neg q2, if_neg q3, if_pos q4] at h; exact ⟨by omega, by omega, fun _ => h⟩
    · rw [if_neg q1, if_neg q2, if_pos q3] at h; exact ⟨by omega, by omega, fun _ => h⟩
    · rw [if_neg q1, if_pos q2] at h; exact ⟨by omega, by omega, fun _ => h⟩
    · rw [if_pos q1] at h; exact ⟨by omega, by omega, fun _ => h⟩
  · rw [if_neg (by omega)] at h; exact h
theorem sX7_ply {post : Int → gM → Prop} {kk what : Int} (hl : rLn ln r) (hkr : rng kk) (hw : rng what) (hr : M r 26 (-1) ≤ 127 ∧ -1 ≤ M r 26 (-1)) (h : post (if (0 ≤ kk ∧ kk ≤ M r 26 (-1)) ∧ 0 ≤ what ∧ what ≤ 4 then M r 27 (5 * kk + what) else -1) (gu M r 0 (-1) 0)) : wX7_ply kd ln post r kk what M := by
  obtain ⟨l3, l4, l5, l6, l7, l8, l10, l7s, ⟨l22, l23, l24, l25⟩, l27⟩ := hl
  unfold wX7_ply
  rw [gu_k (show 26 ≠ 0 by decide)]
  intro _
  refine sX7_in hkr (by omega) (by omega) (fun q => fun _ => ⟨fun g => absurd g (by decide), fun _ => ?_⟩) (fun q => fun _ => ⟨fun _ => ?_, fun g => absurd rfl g⟩)
  · refine sX7_in hw (by omega) (by omega) (fun q1 => fun _ => ⟨fun g => absurd g (by decide), fun _ => ?_⟩) (fun q1 => fun _ => ⟨fun _ => ?_, fun g => absurd rfl g⟩)
    · rw [l27, gu_k (show 27 ≠ 0 by decide)]
      rw [if_pos ⟨q, q1⟩] at h
      exact ⟨by omega, by omega, fun _ => h⟩
    · rw [if_neg (fun g => q1 g.2)] at h; exact h
  · rw [if_neg (fun g => q g.1)] at h; exact h
theorem sX7_line {post : Int → gM → Prop} (hN : mN n) (hl : rLn ln r) (hT : rTb n r M) (hB : ∀ m, (0 ≤ m ∧ m ≤ 2) → mBd n m) (hmr : rng m) (hw : rng w) (hb : rng b) (hk : rng k) (ht : rng t) (hok : mNu n m w b k t → M r 3 m ≠ 0 → mLg n m w b k t → ∀ M' (pl : Nat), ((pl : Int) = mDs n m w b k t ∨ (mDs n m w b k t = -1 ∧ pl = 0)) → (∀ i, i < pl → lnS n (lRow r M' i) (lRow r M' (i + 1))) → (∀ j, j < 5 → lRow r M' 0 j = rw5 m w b k t j) → Ch r lnSl M M' → M' r 0 (-1) = 0 → M' r 26 (-1) = pl → post pl M') (hno : ¬ (mNu n m w b k t ∧ M r 3 m ≠ 0 ∧ mLg n m w b k t) → post 0 (gu M r 0 (-1) 1)) : wX7_line kd ln post r m w b k t M := by
  unfold wX7_line
  refine sX7_mayAsk hN hl hT.1 hmr hw hb hk ht (fun q2 q3 q4 => fun _ => ⟨fun _ => ?_, fun g => absurd g (by decide)⟩) (fun q2 => fun _ => ⟨fun g => absurd rfl g, fun _ => hno q2⟩)
  have c0 : Ch r [0] M (gu M r 0 (-1) 0) := Ch.up Ch.rf (by decide) (-1) 0
  have hT' := hT.ch c0 (by decide)
  obtain ⟨n1, n2, n3, n4, n5⟩ := id q2
  have h3 : (gu M r 0 (-1) 0) r 3 m ≠ 0 := by rw [gu_k (by decide)]; exact q3
  have ds := mFu_ds (hT'.2.1 m n1 h3).1 n2 n3 n4 (show t = 0 ∨ t = 1 by omega)
  have ge := mDs_ge n m w b k t
  have le := mDs_le (t := t) (hB m n1) n2 n3 n4
  unfold mT at ds
  refine sX7_distanceOf hN hl.2.1 hT'.1.2 n1 n2 n3 n4 n5 (by omega) ?_
  rw [ds, show mDs n m w b k t + 1 - 1 = mDs n m w b k t by omega]
  intro _
  refine sX7_keep (v := rw5 m w b k t) hl.2.2.2.2.2.2.2.2.2 (by omega) (fun j hj => ?_) (fun M' a1 a2 => ?_)
  · rcases (show j = 0 ∨ j = 1 ∨ j = 2 ∨ j = 3 ∨ j = 4 by omega) with rfl | rfl | rfl | rfl | rfl <;> simp only [rw5] <;> omega
  · have hT2 := hT'.ch a2 (by decide)
    have h32 : M' r 3 m ≠ 0 := by rw [a2.at (show 3 ∉ [27] by decide)]; exact h3
    have r0 : ∀ j, j < 5 → lRow r M' 0 j = rw5 m w b k t j := fun j hj => by
      unfold lRow
      rw [a1, if_pos (by omega)]
      congr 1
      omega
    have e0 := r0 0 (by omega)
    have e1 := r0 1 (by omega)
    have e2 := r0 2 (by omega)
    have e3 := r0 3 (by omega)
    have e4 := r0 4 (by omega)
    simp only [rw5] at e0 e1 e2 e3 e4
    have go : ∀ pl : Nat, ((pl : Int) = mDs n m w b k t ∨ (mDs n m w b k t = -1 ∧ pl = 0)) → wX7_line_53 kd ln post r m w b k t (mDs n m w b k t) pl M' := fun pl hpl => by
      unfold wX7_line_53
      refine ⟨pl + 1, sX7_line_58 (M0 := M') (m := m) hN hl hT2 n1 h32 le (by omega) (fun M'' b1 b2 b3 b4 b5 => hok q2 q3 q4 M'' pl hpl b1 (fun j hj => (b2 j hj).trans (r0 j hj)) (((c0.mo (by decide)).tr (a2.mo (by decide))).tr b3) ?_ b5) _ 0 M' (by omega) (fun i' hi' => absurd hi' (Nat.not_lt_zero i')) (fun _ _ => rfl) Ch.rf rfl ?_ (fun hp => ?_) (by omega)⟩
      · rw [b4, a2.at (show 0 ∉ [27] by decide), gu_s]
      · rw [e0, e1, e2, e3, e4]
        exact ⟨n1, n2, n3, n4, by omega, Or.inl rfl⟩
      · rw [e0, e1, e2, e3, e4]
        rcases mDs_c n m w b k t with ⟨e, z1, z2⟩ | ⟨z1, z2⟩
        · rw [z2, show ((e : Int) - ((0 : Nat) : Int)).toNat = e by omega]
          exact z1
        · omega
    refine ⟨fun q5 => ?_, fun q5 => ?_⟩
    · have := go (mDs n m w b k t).toNat (Or.inl (by omega))
      rw [show (((mDs n m w b k t).toNat : Nat) : Int) = mDs n m w b k t by omega] at this
      exact this
    · exact go 0 (Or.inr ⟨q5, rfl⟩)
theorem sX7_board {post : Int → gM → Prop} {a : Int} (hl : rLn ln r) (ha : rng a) (hok : (4 ≤ a ∧ a ≤ 8) → ∀ M', rN a r M' → (∀ i, (0 ≤ i ∧ i ≤ 2) → M' r 3 i = 0) → M' r 26 (-1) = -1 → M' r 0 (-1) = 0 → Ch r [0, 1, 2, 3, 26] M M' → post 1 M') (hno : ¬ (4 ≤ a ∧ a ≤ 8) → post 0 (gu M r 0 (-1) 0)) : wX7_board kd ln post r a M := by
  unfold wX7_board
  refine sX7_in ha (by omega) (by omega) (fun q => fun _ => ⟨fun _ => ?_, fun g => absurd g (by decide)⟩) (fun q => fun _ => ⟨fun g => absurd rfl g, fun _ => hno q⟩)
  have hS := mSS (n := a) q
  have loop : ∀ (j i : Nat) (M' : gM), i ≤ 3 → rN a r M' → (∀ i' : Int, (0 ≤ i' ∧ i' < i) → M' r 3 i' = 0) → M' r 0 (-1) = 0 → Ch r [0, 1, 2, 3, 26] M M' → 3 - i < j → wX7_board_31 kd ln post r a j i M' := by
    intro j
    induction j with
    | zero => intro i M' h1 h2 h3 h4 h5 h6; omega
    | succ j ih =>
      intro i M' h1 h2 h3 h4 h5 h6
      unfold wX7_board_31
      rw [hl.1]
      refine ⟨by omega, fun q1 => hok q _ ?_ (fun i' hi' => ?_) gu_s ?_ (Ch.up h5 (by decide) _ _), fun q1 => ⟨by omega, by omega, ?_⟩⟩
      · exact h2.ch (Ch.up Ch.rf (show 26 ∈ [26] by decide) _ _) (by decide) (by decide)
      · rw [gu_k (by decide)]; exact h3 i' (by omega)
      · rw [gu_k (by decide)]; exact h4
      · refine ih (i + 1) _ (by omega) (h2.ch (Ch.up Ch.rf (show 3 ∈ [3] by decide) _ _) (by decide) (by decide)) (fun i' hi' => ?_) ?_ (Ch.up h5 (by decide) _ _) (by omega)
        · rw [gu_v]
          split
          · rfl
          · exact h3 i' (by omega)
        · rw [gu_k (by decide)]; exact h4
  refine ⟨by omega, by omega, 4, loop 4 0 _ (by omega) ⟨?_, gu_s⟩ (fun i' hi' => by omega) ?_ (Ch.up (Ch.up (Ch.up Ch.rf (by decide) _ _) (by decide) _ _) (by decide) _ _) (by omega)⟩
  · rw [gu_k (by decide), gu_s]
  · rw [gu_k (by decide), gu_k (by decide), gu_s]
end RZ
