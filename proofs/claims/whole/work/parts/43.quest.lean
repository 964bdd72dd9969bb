/-- what position tells of a key -/
def kAns (n m r : Int) (M : gM) (K what : Int) : Int := if what = 0 then kW n K else if what = 1 then kB n K else if what = 2 then kK n K else if what = 3 then kT K else if what = 4 then M r 4 (524288 * m + K) - 1 else -1
section QU
variable {kd : gKd} {ln : gLn} {M M0 : gM} {r n m w b k t : Int}
theorem sX7_pos_57 {post : Int → gM → Prop} {what : Int} {kk : Nat} (hN : mN n) (hl : rLn ln r) (hm : 0 ≤ m ∧ m ≤ 2) (hn : rN n r M) (hs : nmS n m r M) (hT : ∀ K : Int, 0 ≤ K → K < mAl3 n → 0 ≤ M r 4 (524288 * m + K)) (hw : rng what) (hk : kk < cN (cPb n m) (mAl3 n).toNat) (h : ∀ K : Nat, (K : Int) < mAl3 n → cPb n m K = true → cN (cPb n m) K = kk → post (kAns n m r M K what) M) :
    ∀ (j lo hi : Nat), lo ≤ hi → 32 * hi < (mAl3 n).toNat → cN (cPb n m) (32 * lo) ≤ kk → hi - lo < j → wX7_position_57 kd ln post r m kk what j lo hi M := by
  have hl2 := hl
  obtain ⟨l3, l4, l5, l6, l7, -⟩ := hl2
  have hA := mAl3_r hN
  have hS := mSS hN
  have ckk := cN_le (cPb n m) (mAl3 n).toNat
  have scan : ∀ (j a : Nat), (a : Int) ≤ mAl3 n → cN (cPb n m) a ≤ kk → mAl3 n - a < j → wX7_position_132 kd ln post r m kk what j ((kk : Int) - (cN (cPb n m) a : Nat)) a M := by
    intro j
    induction j with
    | zero => intro a h1 h2 h3; omega
    | succ j ih =>
      intro a h1 h2 h3
      have ha : (a : Int) < mAl3 n := by
        rcases Int.lt_or_eq_of_le h1 with q | q
        · exact q
        · exfalso
          rw [show a = (mAl3 n).toNat by omega] at h2
          omega
      have cle := cN_le (cPb n m) a
      have t47 : (cPb n m a = true → cN (cPb n m) a < kk) → wX7_position_147 kd ln post r m kk what (wX7_position_132 kd ln post r m kk what j) ((kk : Int) - (cN (cPb n m) a : Nat)) a M := fun q0 => by
        unfold wX7_position_147 wX7_position_164
        refine sX7_isCanon hN hl hm hs ha (fun g => fun _ => ⟨fun g2 => absurd g2 (by decide), fun _ => ?_⟩) (fun g => fun _ => ⟨fun _ => ?_, fun g2 => absurd rfl g2⟩)
        · intro v ev
          rw [ev]
          have := ih (a + 1) (by omega) (by rw [cN_t g]; exact q0 g) (by omega)
          rw [cN_t g] at this
          rw [show (kk : Int) - (cN (cPb n m) a : Nat) - 1 = (kk : Int) - ((cN (cPb n m) a + 1 : Nat) : Int) by omega]
          exact this
        · intro v ev
          rw [ev]
          have := ih (a + 1) (by omega) (by rw [cN_f g]; exact h2) (by omega)
          rw [cN_f g] at this
          rw [Int.sub_zero]
          exact this
      unfold wX7_position_132
      refine ⟨by omega, fun q => t47 (fun _ => by omega), fun q => ?_⟩
      refine sX7_isCanon hN hl hm hs ha (fun g => fun _ => ⟨fun _ => ?_, fun g2 => absurd g2 (by decide)⟩) (fun g => fun _ => ⟨fun g2 => absurd rfl g2, fun _ => t47 (fun g3 => by rw [g] at g3; exact absurd g3 (by decide))⟩)
      have hp := h a ha g (by omega)
      obtain ⟨d1, d2, d3, d4, d5⟩ := k_dec hN (K := (a : Int)) ⟨by omega, ha⟩
      unfold kAns at hp
      rw [hn.2, l4]
      have d0 : 0 ≤ (a : Int) / 2 / (n * n) := Int.ediv_nonneg (by omega) (by omega)
      have dl : (a : Int) / 2 / (n * n) ≤ (a : Int) / 2 := Int.ediv_le_self _ (by omega)
      have tt := hT a (by omega) ha
      refine ⟨hw, fun q1 => ?_, fun q1 => ?_, fun q1 => ?_, fun q1 => ?_, fun q1 => ?_, fun q1 => ?_⟩
      · rw [if_neg (by omega), if_neg (by omega), if_neg (by omega), if_neg (by omega), if_neg (by omega)] at hp
        exact hp
      · rw [if_pos q1] at hp
        unfold kW at hp d1
        exact ⟨by omega, fun _ => ⟨by omega, by omega, by have := d1.1; have := d1.2; omega, hp⟩⟩
      · rw [if_neg (by omega), if_pos q1] at hp
        unfold kB at hp d2
        exact ⟨by omega, fun _ => ⟨by omega, by omega, by have := d2.1; have := d2.2; omega, hp⟩⟩
      · rw [if_neg (by omega), if_neg (by omega), if_pos q1] at hp
        unfold kK at hp d3
        exact ⟨by omega, fun _ => ⟨by omega, by have := d3.1; have := d3.2; omega, hp⟩⟩
      · rw [if_neg (by omega), if_neg (by omega), if_neg (by omega), if_pos q1] at hp
        rw [giand_1 (by omega)]
        unfold kT at hp
        exact ⟨by omega, hp⟩
      · rw [if_neg (by omega), if_neg (by omega), if_neg (by omega), if_neg (by omega), if_pos q1] at hp
        exact ⟨by omega, by omega, fun _ => ⟨by omega, hp⟩⟩
  intro j
  induction j with
  | zero => intro lo hi h1 h2 h3 h4; omega
  | succ j ih =>
    intro lo hi h1 h2 h3 h4
    unfold wX7_position_57 wX7_position_105
    rw [l6]
    have b0 := hs.1.2 lo (by omega)
    refine ⟨by omega, by omega, fun q => ⟨by omega, by omega, fun _ => ?_⟩, fun q => ⟨by omega, ?_⟩⟩
    · intro v27 e27 v28 e28
      rw [b0] at e27
      rw [e27, e28, show 32 * (lo : Int) = ((32 * lo : Nat) : Int) by omega]
      exact ⟨(mAl3 n).toNat + 1, scan _ _ (by omega) h3 (by omega)⟩
    · intro v30 e30
      obtain ⟨md, em⟩ : ∃ md : Nat, md = (lo + hi + 1) / 2 := ⟨_, rfl⟩
      have e30' : v30 = (md : Int) := by omega
      rw [e30']
      have bm := hs.1.2 md (by omega)
      rw [bm]
      refine ⟨by omega, by omega, fun _ => ⟨by omega, fun q1 => ?_, fun q1 => ih md hi (by omega) h2 (by omega) (by omega)⟩⟩
      intro v37 e37
      rw [e37, show (md : Int) - 1 = ((md - 1 : Nat) : Int) by omega]
      exact ih lo (md - 1) (by omega) (by omega) h3 (by omega)
theorem sX7_isMade {post : Int → gM → Prop} (hl : rLn ln r) (hm : rng m) (ht : (0 ≤ m ∧ m ≤ 2) ∧ M r 3 m ≠ 0 → post 1 M) (hf : ¬ ((0 ≤ m ∧ m ≤ 2) ∧ M r 3 m ≠ 0) → post 0 M) : wX7_isMade kd ln post r m M := by
  unfold wX7_isMade
  refine sX7_in hm (by omega) (by omega) (fun q => fun _ => ⟨fun g => absurd g (by decide), fun _ => ?_⟩) (fun q => fun _ => ⟨fun _ => hf (fun g => q g.1), fun g => absurd rfl g⟩)
  rw [hl.1]
  exact ⟨by omega, by omega, fun _ => ⟨fun g => hf (fun g2 => g2.2 g), fun g => ht ⟨q, g⟩⟩⟩
theorem sX7_may {post : Int → gM → Prop} {a : Int} (ha : a = 0 ∨ a = 1) (h : post a (gu M r 0 (-1) (1 - a))) : wX7_may kd ln post r a M := by
  unfold wX7_may wX7_may_10
  rcases ha with rfl | rfl
  · exact ⟨by omega, fun _ => ⟨by omega, by omega, h⟩, fun q => absurd rfl q⟩
  · exact ⟨by omega, fun q => absurd q (by decide), fun _ => ⟨by omega, by omega, h⟩⟩
/-- position: answer and mark -/
theorem sX7_position {post : Int → gM → Prop} {kk what : Int} (hN : mN n) (hl : rLn ln r) (hn : rN n r M) (hmr : rng m) (hkr : rng kk) (hw : rng what) (hs : (0 ≤ m ∧ m ≤ 2) → M r 3 m ≠ 0 → nmS n m r M ∧ ∀ K : Int, 0 ≤ K → K < mAl3 n → 0 ≤ M r 4 (524288 * m + K)) (hno : ¬ ((0 ≤ m ∧ m ≤ 2) ∧ M r 3 m ≠ 0) → post 0 (gu M r 0 (-1) 1)) (hbad : (0 ≤ m ∧ m ≤ 2) → M r 3 m ≠ 0 → ¬ (0 ≤ kk ∧ kk < (cN (cPb n m) (mAl3 n).toNat : Nat)) → post (-1) (gu M r 0 (-1) 0)) (h : (0 ≤ m ∧ m ≤ 2) → M r 3 m ≠ 0 → ∀ K : Nat, (K : Int) < mAl3 n → cPb n m K = true → (cN (cPb n m) K : Nat) = kk → post (kAns n m r M K what) (gu M r 0 (-1) 0)) : wX7_position kd ln post r m kk what M := by
  have hl2 := hl
  obtain ⟨l3, l4, l5, l6, l7, -⟩ := hl2
  have hA := mAl3_r hN
  have hS := mSS hN
  unfold wX7_position
  refine sX7_isMade hl hmr (fun q => fun _ => sX7_may (Or.inr rfl) fun _ => ⟨fun _ => ?_, fun g => absurd g (by decide)⟩) (fun q => fun _ => sX7_may (Or.inl rfl) fun _ => ⟨fun g => absurd rfl g, fun _ => hno q⟩)
  obtain ⟨hs1, hs2⟩ := hs q.1 q.2
  have c0 : Ch r [0] M (gu M r 0 (-1) (1 - 1)) := Ch.up Ch.rf (by decide) _ _
  have hs1' : nmS n m r (gu M r 0 (-1) (1 - 1)) := by
    unfold nmS nmK
    rw [c0.at (show 5 ∉ [0] by decide), c0.at (show 6 ∉ [0] by decide), c0.at (show 7 ∉ [0] by decide)]
    exact hs1
  have hs2' : ∀ K : Int, 0 ≤ K → K < mAl3 n → 0 ≤ (gu M r 0 (-1) (1 - 1)) r 4 (524288 * m + K) := by
    rw [c0.at (show 4 ∉ [0] by decide)]
    exact hs2
  have hn' := hn.ch c0 (by decide) (by decide)
  have ckk := cN_le (cPb n m) (mAl3 n).toNat
  rw [hs1'.2, l7]
  refine ⟨by omega, by omega, fun _ => ?_⟩
  refine sX7_in hkr (by omega) (by omega) (fun g => fun _ => ⟨fun _ => ?_, fun g2 => absurd g2 (by decide)⟩) (fun g => fun _ => ⟨fun g2 => absurd rfl g2, fun _ => hbad q.1 q.2 (by omega)⟩)
  rw [hn'.2]
  intro _ v19 e19
  have e19 : v19 = gishr (mAl3 n - 1) 5 := e19
  rw [gishr_div (by omega) (by omega)] at e19
  have e19 : v19 = (mAl3 n - 1) / 32 := e19
  obtain ⟨kn, rfl⟩ := Int.eq_ofNat_of_zero_le g.1
  rw [e19, show (mAl3 n - 1) / 32 = (((mAl3 n).toNat - 1) / 32 : Nat) by omega]
  refine ⟨((mAl3 n).toNat - 1) / 32 + 1, sX7_pos_57 hN hl q.1 hn' hs1' hs2' hw (by omega) (fun K k1 k2 k3 => ?_) _ 0 _ (by omega) (by omega) (by show cN _ 0 ≤ _; exact Nat.zero_le _) (by omega)⟩
  have := h q.1 q.2 K k1 k2 (by rw [k3])
  unfold kAns at this ⊢
  rw [c0.at (show 4 ∉ [0] by decide)]
  exact this
end QU
