section TX
variable {kd : gKd} {ln : gLn} {M : gM} {h n m w b k t : Int}
theorem sX6_squareOfText {post : Int → gM → Prop} {i : Int} {u : Int → Int} (hN : mN n) (hH : brd n kd ln M (M h 1 (-1))) (hl : ln h 9 = 40) (hi : 0 ≤ i ∧ i + 1 < 40) (hu : ∀ i, (0 ≤ i ∧ i < 40) → M h 9 i = u i ∧ 0 ≤ u i ∧ u i < 256) (hp : post (pS n u i) M) : wX6_squareOfText kd ln post h i M := by
  obtain ⟨⟨a1, a2, a3, a4⟩, -⟩ := hH
  have h4 : 4 ≤ n ∧ n ≤ 8 := hN
  obtain ⟨u1, u2⟩ := hu i (by omega)
  obtain ⟨v1, v2⟩ := hu (i + 1) (by omega)
  unfold pS at hp
  have bad : ¬ ((0 ≤ u i - 97 ∧ u i - 97 < n) ∧ (0 ≤ u (i + 1) - 49 ∧ u (i + 1) - 49 < n)) → wX6_squareOfText_56 kd ln post h i (u i - 97) (u (i + 1) - 49) M := fun g => by
    rw [if_neg g] at hp
    unfold wX6_squareOfText_56 wX6_squareOfText_57
    exact ⟨by omega, fun _ => hp, fun g2 => absurd rfl g2⟩
  unfold wX6_squareOfText
  rw [hl, u1, v1, a2.1.1]
  refine ⟨by omega, by omega, fun _ v5 e5 => ⟨by omega, fun _ v9 e9 => ?_⟩⟩
  rw [e5, e9]
  refine ⟨by omega, fun g => bad (by omega), fun g => ⟨a3, fun _ => ⟨fun g2 => bad (by omega), fun g2 => ⟨by omega, fun g3 => bad (by omega), fun g3 => ⟨fun g4 => bad (by omega), fun g4 => ?_⟩⟩⟩⟩⟩
  rw [if_pos (by omega)] at hp
  unfold wX6_squareOfText_57
  rw [a2.1.1]
  have e := (mSq_of hN (f := u i - 97) (r := u (i + 1) - 49) (by omega) (by omega)).1
  have := mSq hN e
  exact ⟨by omega, fun g5 => absurd g5 (by decide), fun _ => ⟨a3, fun _ => ⟨by omega, hp⟩⟩⟩
theorem sX6_keyOfText {post : Int → gM → Prop} {u : Int → Int} (hN : mN n) (hH : brd n kd ln M (M h 1 (-1))) (hl : ln h 9 = 40) (hu : ∀ i, (0 ≤ i ∧ i < 40) → M h 9 i = u i ∧ 0 ≤ u i ∧ u i < 256) (hp : post (pV n u) M) : wX6_keyOfText kd ln post h M := by
  have hB := hH
  obtain ⟨⟨a1, a2, a3, a4⟩, -⟩ := hB
  have hS := mSS hN
  have rs : ∀ i, rng (pS n u i) := fun i => by
    unfold pS
    split
    · next g =>
      have e := (mSq_of hN (f := u i - 97) (r := u (i + 1) - 49) g.1 g.2).1
      have := e.1
      have := e.2
      omega
    · omega
  have rm : rng (pM u) := by unfold pM; split <;> (try split) <;> (try split) <;> omega
  have rt : rng (pT u) := by unfold pT; split <;> (try split) <;> omega
  have bad : ¬ pF u → wX6_keyOfText_110 kd ln post h (pM u) (pT u) (pS n u 1) (pS n u 5) (pS n u 9) M := fun g => by
    rw [pV_f (fun g2 => g g2.1)] at hp
    unfold wX6_keyOfText_110 wX6_keyOfText_111
    exact ⟨by omega, fun _ => hp, fun g2 => absurd rfl g2⟩
  unfold wX6_keyOfText
  rw [hl, (hu 4 (by omega)).1]
  have u4 := (hu 4 (by omega)).2
  have u12 := (hu 12 (by omega)).2
  refine ⟨by omega, by omega, fun _ => sX6_letterAt (Or.inl rfl) (by omega) ?_⟩
  rw [if_pos rfl, show (if u 4 = 81 then (0 : Int) else if u 4 = 82 then 1 else if u 4 = 80 then 2 else -1) = pM u from rfl]
  intro _
  rw [(hu 12 (by omega)).1]
  refine ⟨by omega, fun _ => sX6_letterAt (Or.inr rfl) (by omega) ?_⟩
  rw [if_neg (by decide), show (if u 12 = 119 then (0 : Int) else if u 12 = 98 then 1 else -1) = pT u from rfl]
  refine fun _ => sX6_squareOfText hN hH hl (by omega) hu fun _ => sX6_squareOfText hN hH hl (by omega) hu fun _ => sX6_squareOfText hN hH hl (by omega) hu fun _ => ?_
  rw [(hu 0 (by omega)).1, (hu 3 (by omega)).1, (hu 7 (by omega)).1, (hu 8 (by omega)).1, (hu 11 (by omega)).1]
  refine ⟨by omega, fun _ => ⟨fun g => bad (fun g2 => g g2.1), fun g0 => ⟨by omega, fun _ => ⟨fun g => bad (fun g2 => g g2.2.1), fun g3 => ⟨by omega, fun _ => ⟨fun g => bad (fun g2 => g g2.2.2.1), fun g7 => ⟨by omega, fun _ => ⟨fun g => bad (fun g2 => g g2.2.2.2.1), fun g8 => ⟨by omega, fun _ => ⟨fun g => bad (fun g2 => g g2.2.2.2.2), fun g11 => ?_⟩⟩⟩⟩⟩⟩⟩⟩⟩⟩
  have hF : pF u := ⟨g0, g3, g7, g8, g11⟩
  unfold wX6_keyOfText_111
  refine ⟨by omega, fun g => absurd g (by decide), fun _ => ⟨a3, ?_⟩⟩
  refine sX0_allows hN a1 a2 rm (rs 1) (rs 9) (rs 5) rt (fun q1 q2 _ => ⟨fun _ => ⟨a3, fun _ v54 e54 => ?_⟩, fun g => absurd g (by decide)⟩) (fun q _ => ⟨fun g => absurd rfl g, fun _ => ?_⟩)
  · rw [pV_t ⟨hF, q1, q2⟩] at hp
    rw [e54, a2.1.2]
    have kr := mKey_r hN q1.2.1 q1.2.2.1 q1.2.2.2.1 q1.2.2.2.2
    have hA := mAl3_r hN
    have e : 2 * (((pM u * (n * n) + pS n u 1) * (n * n) + pS n u 9) * (n * n) + pS n u 5) + pT u = mKey n (pS n u 1) (pS n u 9) (pS n u 5) (pT u) + mAl3 n * pM u := by
      unfold mKey mAl3
      generalize pM u = pm
      generalize pS n u 1 = p1
      generalize pS n u 9 = p9
      generalize pS n u 5 = p5
      generalize pT u = pt
      rcases mN_cases hN with rfl | rfl | rfl | rfl | rfl <;> omega
    rw [e]
    have : mAl3 n * pM u ≤ mAl3 n * 2 := Int.mul_le_mul_of_nonneg_left q1.1.2 (by omega)
    have : 0 ≤ mAl3 n * pM u := Int.mul_nonneg (by omega) q1.1.1
    exact ⟨by omega, hp⟩
  · rw [pV_f (fun g2 => q g2.2)] at hp
    exact hp
theorem sX6_read {post : Int → gM → Prop} {a z : Int} {u : Int → Int} (hN : mN n) (hH : hou n kd ln M h) (ha : rng a) (h10 : M h 10 (-1) = z) (hz : 0 ≤ z ∧ z ≤ 40) (hu : ∀ i, (0 ≤ i ∧ i < 40) → M h 9 i = u i ∧ 0 ≤ u i ∧ u i < 256) (hno : ¬ (0 ≤ a ∧ a ≤ z) → post (-2) M) (hok : (0 ≤ a ∧ a ≤ z) → post (if a = 13 then pV n u else -1) (gu M h 10 (-1) 0)) : wX6_read kd ln post h a M := by
  have kh := hH.1.1
  have bd := hH.bd hN
  unfold wX6_read
  rw [h10]
  refine ⟨ha, fun g => hno (by omega), fun g _ => ⟨fun g2 => ?_, fun g2 => hno (by omega)⟩⟩
  have p := hok (by omega)
  refine ⟨fun g3 => ?_, fun g3 => ?_⟩
  · rw [if_neg g3] at p; exact p
  · rw [if_pos g3] at p
    have e1 : (gu M h 10 (-1) 0) h 1 (-1) = M h 1 (-1) := by rw [gu_k (by decide)]
    refine sX6_keyOfText (u := u) hN (by rw [e1]; exact bd.old (fun x hx => ⟨rfl, rfl, gu_o (fun e => by rw [e, kh] at hx; omega)⟩)) hH.2.1.2.2.2.1 (fun i hi => by rw [gu_k (by decide)]; exact hu i hi) fun _ => p
theorem sX6_showSquare {post : gM → Prop} {s l a : Int} (hN : mN n) (hb : bdL n (ln (M h 1 (-1))) ∧ bdG n (M (M h 1 (-1))) ∧ kd (M h 1 (-1)) = 0 ∧ 0 < M h 1 (-1)) (hne : M h 1 (-1) ≠ h) (hl : ln h 11 = 13) (hs : 0 ≤ s ∧ s + 3 < 13) (rl : rng l) (ha : mOn n a) (hp : ∀ M', (∀ i, M' h 11 i = if i = s then l else if i = s + 1 then 97 + a % n else if i = s + 2 then 49 + a / n else if i = s + 3 then 32 else M h 11 i) → Ch h [11] M M' → post M') : wX6_showSquare kd ln post h s l a M := by
  obtain ⟨a1, a2, a3, a4⟩ := hb
  have ea := mSq hN ha
  have h4 : 4 ≤ n ∧ n ≤ 8 := hN
  obtain ⟨r1, r2⟩ := a2.2.1 a ha
  have nh : ¬ M h 1 (-1) = h := hne
  unfold wX6_showSquare
  simp only [gu_rd, nh, false_and, if_false, Nat.reduceEqDiff, and_false, hl, r1, r2, a1.1, a1.2.1]
  refine ⟨by omega, by omega, rl, a3, by omega, ⟨ha.1, ha.2⟩, fun _ => ⟨by omega, by omega, a3, by omega, ⟨ha.1, ha.2⟩, fun _ => ⟨by omega, by omega, by omega, hp _ (fun i => ?_) ?_⟩⟩⟩
  · rw [gu_v, gu_v, gu_v, gu_v]
    (repeat' split) <;> first | rfl | omega
  · exact Ch.up (Ch.up (Ch.up (Ch.up Ch.rf (by decide) _ _) (by decide) _ _) (by decide) _ _) (by decide) _ _
theorem sX6_show {post : Int → gM → Prop} (hN : mN n) (hH : hou n kd ln M h) (hmr : rng m) (hw : rng w) (hb : rng b) (hk : rng k) (ht : rng t) (hok : mNu n m w b k t → mLg n m w b k t → ∀ M', M' h 12 (-1) = 13 → (∀ i : Nat, i < 13 → M' h 11 i = shB n m w b k t i) → Ch h [11, 12] M M' → post 13 M') (hno : ¬ (mNu n m w b k t ∧ mLg n m w b k t) → post (-1) M) : wX6_show kd ln post h m w b k t M := by
  have kh := hH.1.1
  have hbd := hH.bd hN
  have l11 := hH.2.1.2.2.2.2
  obtain ⟨⟨a1, a2, a3, a4⟩, -⟩ := hbd
  have hne : M h 1 (-1) ≠ h := fun e => by rw [e, kh] at a3; exact absurd a3 (by decide)
  -- the board behind a change of the house
  have st : ∀ {M' : gM}, Ch h [11] M M' → (bdL n (ln (M' h 1 (-1))) ∧ bdG n (M' (M' h 1 (-1))) ∧ kd (M' h 1 (-1)) = 0 ∧ 0 < M' h 1 (-1)) ∧ M' h 1 (-1) ≠ h := fun {M'} c => by
    have e : M' h 1 = M h 1 := c.at (by decide)
    rw [e, c.ot hne]
    exact ⟨⟨a1, a2, a3, a4⟩, hne⟩
  unfold wX6_show
  refine ⟨a3, sX0_allows hN a1 a2 hmr hw hb hk ht (fun q1 q2 _ => ⟨fun _ => ?_, fun g => absurd g (by decide)⟩) (fun q _ => ⟨fun g => absurd rfl g, fun _ => hno q⟩)⟩
  obtain ⟨m1, w1, b1, k1, t1⟩ := id q1
  have l3 : gll 0 = 3 := by decide
  have l2 : gll 1 = 2 := by decide
  have gm : gle 0 m.toNat = if m = 0 then 81 else if m = 1 then 82 else 80 := by
    rcases (show m = 0 ∨ m = 1 ∨ m = 2 by omega) with e | e | e <;> rw [e] <;> decide
  have gt : gle 1 t.toNat = if t = 0 then 119 else 98 := by
    rcases (show t = 0 ∨ t = 1 by omega) with e | e <;> rw [e] <;> decide
  refine sX6_showSquare hN ⟨a1, a2, a3, a4⟩ hne l11 (by omega) (by omega) w1 (fun M1 c1 d1 => ?_)
  rw [l3, gm]
  refine ⟨by omega, fun rg => ?_⟩
  obtain ⟨s1, n1⟩ := st d1
  refine sX6_showSquare hN s1 n1 l11 (by omega) rg k1 (fun M2 c2 d2 => ?_)
  obtain ⟨s2, n2⟩ := st (d1.tr d2)
  refine sX6_showSquare hN s2 n2 l11 (by omega) (by omega) b1 (fun M3 c3 d3 => ?_)
  rw [l11, l2, gt]
  have e12 : (gu (gu M3 h 11 12 (if t = 0 then 119 else 98)) h 12 (-1) 13) h 12 (-1) = 13 := gu_s
  rw [e12]
  refine ⟨by omega, by omega, fun _ => ⟨by omega, fun _ => hok q1 q2 _ e12 (fun i hi => ?_) (Ch.up (Ch.up (((d1.tr d2).tr d3).mo (by decide)) (by decide) _ _) (by decide) _ _)⟩⟩
  rw [gu_k (by decide), gu_v]
  by_cases g : (i : Int) = 12
  · have : i = 12 := by omega
    subst this
    rw [if_pos g]; rfl
  · rw [if_neg g, c3, c2, c1]
    rcases (show i = 0 ∨ i = 1 ∨ i = 2 ∨ i = 3 ∨ i = 4 ∨ i = 5 ∨ i = 6 ∨ i = 7 ∨ i = 8 ∨ i = 9 ∨ i = 10 ∨ i = 11 by omega) with e | e | e | e | e | e | e | e | e | e | e | e <;> subst e <;> simp [shB]
theorem sX6_out {post : Int → gM → Prop} {i : Int} {z : Nat} (hl : ln h 11 = 13) (hi : rng i) (hz : M h 12 (-1) = z) (hz2 : z ≤ 13) (hp : post (if 0 ≤ i ∧ i < z then M h 11 i else -1) M) : wX6_out kd ln post h i M := by
  unfold wX6_out wX6_out_12
  rw [hl, hz]
  refine ⟨hi, fun g => ?_, fun g _ => ⟨fun g2 => ⟨by omega, by omega, fun _ => ?_⟩, fun g2 => ?_⟩⟩
  · rw [if_neg (by omega)] at hp; exact hp
  · rw [if_pos (by omega)] at hp; exact hp
  · rw [if_neg (by omega)] at hp; exact hp
end TX
