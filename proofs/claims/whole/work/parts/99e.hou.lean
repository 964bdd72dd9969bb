/-! THE HOUSE -/
section HO
variable {kd : gKd} {ln : gLn} {M : gM} {h n m w b k t : Int}
def hou (n : Int) (kd : gKd) (ln : gLn) (M : gM) (h : Int) : Prop := (kd h = 6 ∧ 0 < h) ∧ (ln h 0 = 9 ∧ ln h 2 = 3 ∧ ln h 7 = 635 ∧ ln h 9 = 40 ∧ ln h 11 = 13) ∧ (M h 1 (-1) = M h 0 n ∧ M h 0 n ≠ 0) ∧ (∀ i, mN i → M h 0 i = 0 ∨ brd i kd ln M (M h 0 i)) ∧ ((∀ m, (0 ≤ m ∧ m ≤ 2) → M h 2 m ≠ 0 → M (M h 0 n) 5 m ≠ 0) ∧ (M h 2 2 ≠ 0 → M h 2 0 ≠ 0 ∧ M h 2 1 ≠ 0)) ∧ ((kd (M h 3 (-1)) = 1 ∧ ln (M h 3 (-1)) 1 = 144) ∧ kd (M h 4 (-1)) = 4 ∧ (kd (M h 5 (-1)) = 1 ∧ ln (M h 5 (-1)) 1 = 144) ∧ kd (M h 6 (-1)) = 4) ∧ M h 3 (-1) ≠ M h 5 (-1)
theorem hou.bd (hN : mN n) (hH : hou n kd ln M h) : brd n kd ln M (M h 1 (-1)) := by
  rw [hH.2.2.1.1]
  exact (hH.2.2.2.1 n hN).resolve_left hH.2.2.1.2
theorem hou.tb (hN : mN n) (hm : 0 ≤ m ∧ m ≤ 2) (hH : hou n kd ln M h) (h2 : M h 2 m ≠ 0) : M (M h 1 (-1)) 5 m ≠ 0 ∧ ∃ q, tbD n m kd ln M (M h 1 (-1)) q (M (M h 1 (-1)) 5 m) := by
  have nz : M (M h 1 (-1)) 5 m ≠ 0 := by
    rw [hH.2.2.1.1]
    exact hH.2.2.2.2.1.1 m hm h2
  exact ⟨nz, ((hH.bd hN).2.2.2 m hm).resolve_left nz⟩
theorem hou.ts (hN : mN n) (hm : 0 ≤ m ∧ m ≤ 2) (hH : hou n kd ln M h) (h2 : M h 2 m ≠ 0) : tbs n m kd ln M (M h 1 (-1)) := fun m' h1 h3 => by
  refine hH.tb hN h1 ?_
  rcases h3 with h3 | ⟨h3, h4⟩
  · rw [h3]; exact h2
  · rw [h3] at h2
    have := hH.2.2.2.2.1.2 h2
    rcases (show m' = 0 ∨ m' = 1 by omega) with e | e
    · rw [e]; exact this.1
    · rw [e]; exact this.2
theorem sX6_isLegal {post : Int → gM → Prop} (hN : mN n) (hH : hou n kd ln M h) (hmr : rng m) (hw : rng w) (hb : rng b) (hk : rng k) (ht : rng t) (hok : mNu n m w b k t → mLg n m w b k t → post 1 M) (hno : ¬ (mNu n m w b k t ∧ mLg n m w b k t) → post 0 M) : wX6_isLegal kd ln post h m w b k t M := by
  obtain ⟨⟨a1, a2, a3, a4⟩, -⟩ := hH.bd hN
  unfold wX6_isLegal
  exact ⟨a3, sX0_allows hN a1 a2 hmr hw hb hk ht (fun q1 q2 _ => ⟨Or.inr rfl, hok q1 q2⟩) (fun q _ => ⟨Or.inl rfl, hno q⟩)⟩
theorem sX6_demandMade {post : Int → gM → Prop} {px : gM → Prop} (hN : mN n) (hH : hou n kd ln M h) (hmr : rng m) (hok : (0 ≤ m ∧ m ≤ 2) → M h 2 m ≠ 0 → ∀ q, tbD n m kd ln M (M h 1 (-1)) q (M (M h 1 (-1)) 5 m) → post (M (M h 1 (-1)) 5 m) M) (hno : ¬ ((0 ≤ m ∧ m ≤ 2) ∧ M h 2 m ≠ 0) → px M) : wX6_demandMade kd ln post px h m M := by
  obtain ⟨⟨a1, a2, a3, a4⟩, -⟩ := hH.bd hN
  have nul : px M → wX6_demandMade_18 kd ln post px h m M := fun q => by
    unfold wX6_demandMade_18 wX6_demandMade_31
    exact ⟨fun g => absurd rfl g, fun _ => q⟩
  unfold wX6_demandMade
  rw [hH.2.1.2.1, a1.2.2.2.1]
  refine ⟨hmr, fun g => nul (hno (by omega)), fun g => ⟨fun g2 => nul (hno (by omega)), fun g2 => ⟨by omega, by omega, fun _ => ⟨fun g3 => ⟨a3, by omega, by omega, ?_⟩, fun g3 => nul (hno (fun q => q.2 g3))⟩⟩⟩⟩
  obtain ⟨t1, q, t2⟩ := hH.tb hN (by omega) g3
  unfold wX6_demandMade_31
  exact ⟨fun _ => ⟨t2.2.2.2.2.2.1, hok (by omega) g3 q t2⟩, fun g => absurd g t1⟩
theorem sX6_demandTable {post : Int → gM → Prop} {px : gM → Prop} (hN : mN n) (hH : hou n kd ln M h) (hmr : rng m) (hw : rng w) (hb : rng b) (hk : rng k) (ht : rng t) (hok : mNu n m w b k t → M h 2 m ≠ 0 → mLg n m w b k t → ∀ q, tbD n m kd ln M (M h 1 (-1)) q (M (M h 1 (-1)) 5 m) → post (M (M h 1 (-1)) 5 m) M) (hno : ¬ (mNu n m w b k t ∧ M h 2 m ≠ 0 ∧ mLg n m w b k t) → px M) : wX6_demandTable kd ln post px h m w b k t M := by
  obtain ⟨⟨a1, a2, a3, a4⟩, -⟩ := hH.bd hN
  unfold wX6_demandTable
  refine ⟨a3, sX0_allows hN a1 a2 hmr hw hb hk ht (fun q1 q2 _ => ⟨fun _ => sX6_demandMade hN hH hmr (fun _ g2 q tq => hok q1 g2 q2 q tq) (fun g => hno (fun q => g ⟨q.1.1, q.2.1⟩)), fun g => absurd g (by decide)⟩) (fun q _ => ⟨fun g => absurd rfl g, fun _ => hno (fun g => q ⟨g.1, g.2.2⟩)⟩)⟩
theorem sX6_demandTurn {post : Int → gM → Prop} {px : gM → Prop} (hN : mN n) (hH : hou n kd ln M h) (hmr : rng m) (ht : rng t) (hok : (0 ≤ m ∧ m ≤ 2) → M h 2 m ≠ 0 → (0 ≤ t ∧ t ≤ 1) → ∀ q, tbD n m kd ln M (M h 1 (-1)) q (M (M h 1 (-1)) 5 m) → post (M (M h 1 (-1)) 5 m) M) (hno : ¬ ((0 ≤ m ∧ m ≤ 2) ∧ M h 2 m ≠ 0 ∧ (0 ≤ t ∧ t ≤ 1)) → px M) : wX6_demandTurn kd ln post px h m t M := by
  have go : (0 ≤ t ∧ t ≤ 1) → wX6_demandTurn_19 kd ln post px h m t M := fun ht' => by
    unfold wX6_demandTurn_19
    exact sX6_demandMade hN hH hmr (fun g1 g2 q tq => hok g1 g2 ht' q tq) (fun g => hno (fun q => g ⟨q.1, q.2.1⟩))
  unfold wX6_demandTurn
  exact ⟨ht, fun g => go (by omega), fun g => ⟨fun g2 => go (by omega), fun g2 => hno (by omega)⟩⟩
theorem sX6_distance {post : Int → gM → Prop} {px : gM → Prop} (hN : mN n) (hH : hou n kd ln M h) (hmr : rng m) (hw : rng w) (hb : rng b) (hk : rng k) (ht : rng t) (hok : mNu n m w b k t → M h 2 m ≠ 0 → mLg n m w b k t → post (mDs n m w b k t) M) (hno : ¬ (mNu n m w b k t ∧ M h 2 m ≠ 0 ∧ mLg n m w b k t) → px M) : wX6_distance kd ln post px h m w b k t M := by
  unfold wX6_distance
  exact sX6_demandTable hN hH hmr hw hb hk ht (fun q1 q2 q3 q tq => ⟨tq.2.2.2.2.2.1, sX5_look hN tq.1 tq.2.2.1 q1.2.1 q1.2.2.1 q1.2.2.2.1 q1.2.2.2.2 fun _ => hok q1 q2 q3⟩) hno
theorem sX6_number {post : Int → gM → Prop} {px : gM → Prop} (hN : mN n) (hH : hou n kd ln M h) (hmr : rng m) (hw : rng w) (hb : rng b) (hk : rng k) (ht : rng t) (hok : mNu n m w b k t → M h 2 m ≠ 0 → mLg n m w b k t → post (cN (cPb n m) (mLst n m w b k t).toNat : Nat) M) (hno : ¬ (mNu n m w b k t ∧ M h 2 m ≠ 0 ∧ mLg n m w b k t) → px M) : wX6_number kd ln post px h m w b k t M := by
  unfold wX6_number
  exact sX6_demandTable hN hH hmr hw hb hk ht (fun q1 q2 q3 q tq => ⟨tq.2.2.2.2.2.1, sX5_numberOf hN tq q1.2.1 q1.2.2.1 q1.2.2.2.1 q1.2.2.2.2 q3 fun _ => hok q1 q2 q3⟩) hno
theorem sX6_position {post : Int → gM → Prop} {px : gM → Prop} {kk what : Int} (hN : mN n) (hH : hou n kd ln M h) (hmr : rng m) (hkr : rng kk) (hw : rng what) (hno : ¬ ((0 ≤ m ∧ m ≤ 2) ∧ M h 2 m ≠ 0) → px M) (hbad : (0 ≤ m ∧ m ≤ 2) → M h 2 m ≠ 0 → ¬ (0 ≤ kk ∧ kk < (cN (cPb n m) (mAl3 n).toNat : Nat)) → post (-1) M) (hok : (0 ≤ m ∧ m ≤ 2) → M h 2 m ≠ 0 → ∀ K : Nat, (K : Int) < mAl3 n → cP n m K → (cN (cPb n m) K : Nat) = kk → post (tAns n m K what) M) : wX6_position kd ln post px h m kk what M := by
  unfold wX6_position
  refine sX6_demandMade hN hH hmr (fun q1 q2 q tq => ⟨tq.2.2.2.2.2.1, sX5_cellNumbered hN tq hkr (fun g _ => ⟨fun g2 => absurd rfl g2, fun _ => hbad q1 q2 g⟩) (fun K k1 k2 k3 _ => ⟨fun _ => sX5_tell hN tq k1 k2 hw fun _ => hok q1 q2 K k1 k2 k3, fun g => ?_⟩)⟩) hno
  have := (cell_dec hN k1 k2).2.2.2.2.2.2.2.1
  omega
theorem sX6_count {post : Int → gM → Prop} {px : gM → Prop} {d : Int} (hN : mN n) (hH : hou n kd ln M h) (hmr : rng m) (ht : rng t) (hd : rng d) (hok : (0 ≤ m ∧ m ≤ 2) → M h 2 m ≠ 0 → (0 ≤ t ∧ t ≤ 1) → post (cN (ctB n m t d) (mAl3 n).toNat : Nat) M) (hno : ¬ ((0 ≤ m ∧ m ≤ 2) ∧ M h 2 m ≠ 0 ∧ (0 ≤ t ∧ t ≤ 1)) → px M) : wX6_count kd ln post px h m t d M := by
  unfold wX6_count
  refine sX6_demandTurn hN hH hmr ht (fun q1 q2 q3 q tq => ?_) hno
  obtain ⟨c1, c2, c3, c4⟩ := tb_cnt hN tq (show t = 0 ∨ t = 1 by omega)
  have p := hok q1 q2 q3
  have kz := tq.2.2.2.2.2.1
  have hL := tq.2.1
  rw [hL.2.2.1, hL.2.1]
  refine ⟨hd, fun g => ⟨kz, sX5_howManyAt hN q1 tq (by omega) hd (by omega) fun _ => p⟩, fun g => ⟨kz, fun _ => ?_⟩, fun g => ⟨kz, by omega, by omega, fun _ => ?_⟩, fun g => ⟨kz, by omega, by omega, fun _ => ?_⟩⟩
  · rw [c4]; rw [g] at p; exact p
  · rw [c1]; rw [g] at p; exact p
  · rw [c2]; rw [g] at p; exact p
theorem sX6_longest {post : Int → gM → Prop} {px : gM → Prop} {what : Int} (hN : mN n) (hH : hou n kd ln M h) (hmr : rng m) (ht : rng t) (hw : rng what) (hok : (0 ≤ m ∧ m ≤ 2) → M h 2 m ≠ 0 → (0 ≤ t ∧ t ≤ 1) → ∀ best first : Int, lgP n m t best first → post (if what = 0 then best else if what = 1 then (if first = -1 then -1 else (cN (cPb n m) first.toNat : Nat)) else -1) M) (hno : ¬ ((0 ≤ m ∧ m ≤ 2) ∧ M h 2 m ≠ 0 ∧ (0 ≤ t ∧ t ≤ 1)) → px M) : wX6_longest kd ln post px h m t what M := by
  unfold wX6_longest
  refine sX6_demandTurn hN hH hmr ht (fun q1 q2 q3 q tq => ?_) hno
  obtain ⟨first, l1, l2⟩ := tb_far hN tq (show t = 0 ∨ t = 1 by omega)
  have p := hok q1 q2 q3 _ first l1
  have kz := tq.2.2.2.2.2.1
  have hL := tq.2.1
  rw [hL.2.2.2.1, hL.2.2.2.2.1]
  refine ⟨hw, fun g => ⟨fun g2 => ?_, fun g2 => ⟨kz, by omega, by omega, fun _ => ?_⟩⟩, fun g => ⟨kz, by omega, by omega, fun _ => ?_⟩⟩
  · rw [if_neg g, if_neg g2] at p; exact p
  · rw [if_neg g, if_pos g2, ← l2] at p; exact p
  · rw [if_pos g] at p; exact p
theorem sX6_moves {post : Int → gM → Prop} (hN : mN n) (hH : hou n kd ln M h) (hmr : rng m) (hw : rng w) (hb : rng b) (hk : rng k) (ht : rng t) (hok : mNu n m w b k t → mLg n m w b k t → ∀ (cnt : Nat) (f : Nat → Int), sIn cnt f (mvP n m w b k t) → post cnt M) (hno : ¬ (mNu n m w b k t ∧ mLg n m w b k t) → post (-1) M) : wX6_moves kd ln post h m w b k t M := by
  obtain ⟨⟨a1, a2, a3, a4⟩, -⟩ := hH.bd hN
  unfold wX6_moves
  refine ⟨a3, sX0_allows hN a1 a2 hmr hw hb hk ht (fun q1 q2 _ => ⟨fun _ => ⟨ht, fun g => ⟨a3, ?_⟩, fun g => ⟨a3, ?_⟩⟩, fun g => absurd g (by decide)⟩) (fun q _ => ⟨fun g => absurd rfl g, fun _ => hno q⟩)⟩
  · obtain ⟨m1, w1, b1, k1, t1⟩ := id q1
    have t0 : t = 0 := by omega
    subst t0
    obtain ⟨cnt, f, s1, s2, s3⟩ := mv_cnt hN w1 b1 k1 (Or.inl rfl) q2
    have p := hok q1 q2 cnt f s1
    rw [if_neg (by decide)] at s3
    have ek := mSq hN k1
    have h4 : 4 ≤ n ∧ n ≤ 8 := hN
    have hS := mSS hN
    have fin : ∀ e : Int, e = (if m = 2 ∧ k / n = n - 2 then 4 else 1 : Nat) → wX6_moves_88 kd ln post h m w b k 0 (cS n (mMt n m w b k) : Nat) e M := fun e ee => by
      unfold wX6_moves_88
      refine ⟨a3, sX0_whiteTargets hN a1 a2 w1 b1 k1 fun c hc => sJ13 fun _ => ?_⟩
      rw [bcnt_sq hc, ee]
      have : ((cS n (mWk n w b k) : Nat) : Int) + ((if m = 2 ∧ k / n = n - 2 then 4 else 1 : Nat) : Int) * ((cS n (mMt n m w b k) : Nat) : Int) = (cnt : Int) := by
        rw [s3]; push_cast; rfl
      rw [this]
      exact ⟨by omega, p⟩
    refine sX0_manTargets hN a1 a2 m1 w1 b1 k1 q2 fun c hc => sJ13 fun _ => ⟨by omega, fun g2 => ?_, fun g2 => ⟨a3, fun _ => ?_⟩⟩
    · rw [bcnt_sq (p := mMt n m w b k) hc]
      unfold wX6_moves_87
      exact fin 1 (by rw [if_neg (fun q => g2 q.1)]; rfl)
    · rw [bcnt_sq (p := mMt n m w b k) hc, a2.1.1]
      have la : k + n < n * n - n ↔ k / n + 2 < n := by
        rcases mN_cases hN with rfl | rfl | rfl | rfl | rfl <;> omega
      have hr := q2.2.2.2.2.1 g2
      refine sX0_isLastRank hN a2.1.1 a2.1.2 (by omega) (fun g3 _ => ⟨fun g4 => absurd g4 (by decide), fun _ => fin 4 (by rw [if_pos ⟨g2, by omega⟩]; rfl)⟩) (fun g3 _ => ⟨fun _ => ?_, fun g4 => absurd rfl g4⟩)
      unfold wX6_moves_87
      exact fin 1 (by rw [if_neg (fun q => by have := q.2; omega)]; rfl)
  · obtain ⟨m1, w1, b1, k1, t1⟩ := id q1
    subst g
    obtain ⟨cnt, f, s1, s2, s3⟩ := mv_cnt hN w1 b1 k1 (Or.inr rfl) q2
    have p := hok q1 q2 cnt f s1
    rw [if_pos rfl] at s3
    refine sX0_blackTargets hN a1 a2 m1 w1 b1 k1 fun c hc => sJ13 fun _ => ?_
    rw [bcnt_sq hc, ← s3]
    exact p
end HO
