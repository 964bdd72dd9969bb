section BE
variable {kd : gKd} {ln : gLn} {M : gM} {h n m w b k t : Int}
theorem sX4_set {post : gM → Prop} {p : Int} (hm : rng m) (hw : rng w) (hb : rng b) (hk : rng k) (ht : rng t) (hp : ∀ M', (M' p 0 (-1) = m ∧ M' p 1 (-1) = w ∧ M' p 2 (-1) = b ∧ M' p 3 (-1) = k ∧ M' p 4 (-1) = t) → (∀ y, y ≠ p → M' y = M y) → post M') : wX4_set kd ln post p m w b k t M := by
  unfold wX4_set
  refine ⟨hm, hw, hb, hk, ht, hp _ ⟨?_, ?_, ?_, ?_, ?_⟩ (fun y hy => ?_)⟩
  · rw [gu_k (by decide), gu_k (by decide), gu_k (by decide), gu_k (by decide), gu_s]
  · rw [gu_k (by decide), gu_k (by decide), gu_k (by decide), gu_s]
  · rw [gu_k (by decide), gu_k (by decide), gu_s]
  · rw [gu_k (by decide), gu_s]
  · rw [gu_s]
  · rw [gu_o hy, gu_o hy, gu_o hy, gu_o hy, gu_o hy]
theorem sX6_goalAfter {post : Int → gM → Prop} {d : Int} (hd : rng d ∧ -1 ≤ d) (hp : post (mGo d) M) : wX6_goalAfter kd ln post d M := by
  unfold wX6_goalAfter
  unfold mGo at hp
  refine ⟨hd.1, fun g => ?_, fun g => ?_⟩
  · rw [if_neg g] at hp
    exact ⟨by omega, hp⟩
  · rw [if_pos g] at hp
    exact hp
theorem mv_rg (hN : mN n) (hw : mOn n w) (hb : mOn n b) (hk : mOn n k) {c : Int} (hc : mvP n m w b k t c) : 0 ≤ c ∧ c < 32768 := by
  have h4 : 4 ≤ n ∧ n ≤ 8 := hN
  have ew := mSq hN hw
  have eb := mSq hN hb
  have ek := mSq hN hk
  rcases hc with ⟨x, x1, x2, x3⟩ | ⟨_, ⟨x, x1, x2, x3⟩ | ⟨x1, q, q1, q2⟩⟩
  · have ex := mSq hN x1
    have : mKs w b t = w ∨ mKs w b t = b := by unfold mKs; split; exact Or.inl rfl; exact Or.inr rfl
    rw [x3]; unfold mCd
    rcases this with e | e <;> rw [e] <;> omega
  · have ex := mSq hN x1
    rw [x3]; unfold mCd; omega
  · have u := mUp hN hk (by have := x1.2.1; omega)
    have eu := mSq hN u.1
    rw [q2]; unfold mCd; omega
/-- a place for gathering -/
theorem hou.ga {M' : gM} {x p : Int} (hN : mN n) (hm : 0 ≤ m ∧ m ≤ 2) (hH : hou n kd ln M h) (ht : tbs n m kd ln M (M h 1 (-1))) (hx : kd x = 1 ∧ ln x 1 = 144) (hp : kd p = 4) (e : ∀ y, (kd y = 0 ∨ kd y = 2 ∨ kd y = 5) → M' y = M y) (e1 : M' h 1 (-1) = M h 1 (-1)) (f : M' p 0 (-1) = m ∧ M' p 1 (-1) = w ∧ M' p 2 (-1) = b ∧ M' p 3 (-1) = k ∧ M' p 4 (-1) = t) : gaC n m kd ln M' h (M h 1 (-1)) x p w b k t := by
  obtain ⟨⟨a1, a2, a3, a4⟩, -⟩ := hH.bd hN
  refine ⟨e1, ⟨a1, by rw [e _ (Or.inl a3)]; exact a2, a3, a4⟩, ht.fr a3 e, f, ⟨hx.2, hx.1⟩, fun q => ?_, fun q => ?_⟩
  · rw [q, hH.1.1] at hx
    exact absurd hx.1 (by decide)
  · rw [q, hp] at hx
    exact absurd hx.1 (by decide)
theorem sX6_best {post : Int → gM → Prop} {px : gM → Prop} (hN : mN n) (hH : hou n kd ln M h) (hmr : rng m) (hw : rng w) (hb : rng b) (hk : rng k) (ht : rng t) (hok : mNu n m w b k t → M h 2 m ≠ 0 → mLg n m w b k t → ∀ M' (q : Nat) (g : Nat → Int), sIn q g (fun c => mvP n m w b k t c ∧ mAf n m w b k t c = mGo (mDs n m w b k t)) → cho (M h 3 (-1)) M' q g (fun _ => mGo (mDs n m w b k t)) → q ≤ 36 → (∀ y, y ≠ M h 3 (-1) → y ≠ M h 4 (-1) → M' y = M y) → post q M') (hno : ¬ (mNu n m w b k t ∧ M h 2 m ≠ 0 ∧ mLg n m w b k t) → px M) : wX6_best kd ln post px h m w b k t M := by
  have hH0 := hH
  obtain ⟨⟨kh, h0⟩, -, -, -, -, ⟨⟨x1, x2⟩, p4, -, -⟩, -⟩ := hH0
  have hp : h ≠ M h 4 (-1) := fun e => by rw [← e, kh] at p4; exact absurd p4 (by decide)
  have hx : h ≠ M h 3 (-1) := fun e => by rw [← e, kh] at x1; exact absurd x1 (by decide)
  unfold wX6_best
  refine sX6_demandTable hN hH hmr hw hb hk ht (fun q1 q2 q3 q tq => ⟨tq.2.2.2.2.2.1, ?_⟩) hno
  obtain ⟨m1, w1, b1, k1, t1⟩ := id q1
  have rg := mDs_rg (t := t) hN m1 w1 b1 k1
  refine sX5_look hN tq.1 tq.2.2.1 w1 b1 k1 t1 fun _ => ⟨p4, sX4_set hmr hw hb hk ht (fun M1 f1 f2 => ?_)⟩
  have eh : M1 h = M h := f2 h hp
  rw [eh]
  have ga : gaC n m kd ln M1 h (M h 1 (-1)) (M h 3 (-1)) (M h 4 (-1)) w b k t := hH.ga hN m1 (hH.ts hN m1 q2) ⟨x1, x2⟩ p4 (fun y hy => f2 y (fun e => by rw [e, p4] at hy; omega)) (by rw [eh]) f1
  refine ⟨x1, p4, sX6_gather hN m1 ga w1 b1 k1 (by omega) q3 (fun M2 cnt f s1 s2 s3 s4 => ?_)⟩
  have eh2 : M2 h = M h := (s4.ot hx).trans eh
  rw [eh2]
  refine ⟨x1, sX6_goalAfter ⟨by omega, by omega⟩ fun rgo => ?_⟩
  refine sX1_keep x2 s2 s1 s3 (fun c hc => mv_rg hN w1 b1 k1 hc) rgo (fun M3 qq g u1 u2 u3 u4 => ?_)
  have eh3 : M3 h = M h := (u4.ot hx).trans eh2
  rw [eh3, u2.1]
  exact ⟨x1, fun _ => hok q1 q2 q3 M3 qq g u1 u2 u3 (fun y y1 y2 => (u4.ot y1).trans ((s4.ot y1).trans (f2 y y2)))⟩
theorem sX6_move {post : Int → gM → Prop} {kk what : Int} {cnt : Nat} {f : Nat → Int} {g : Int} (hH : hou n kd ln M h) (hkr : rng kk) (hw : rng what) (hh : cho (M h 3 (-1)) M cnt f (fun _ => g)) (hc : cnt ≤ 36) (hp : post (if 0 ≤ kk ∧ kk < cnt then (if what = 0 then cF (f kk.toNat) else if what = 1 then cT (f kk.toNat) else if what = 2 then cB (f kk.toNat) else if what = 3 then g else -1) else -1) M) : wX6_move kd ln post h kk what M := by
  unfold wX6_move
  obtain ⟨⟨x1, x2⟩, -⟩ := hH.2.2.2.2.2.1
  exact ⟨x1, sX1_tell x2 hc hh hkr hw fun _ => hp⟩
def hRow (h : Int) (M : gM) (i : Nat) : Nat → Int := fun j => M h 7 (5 * (i : Int) + j)
theorem lnS_cong {p q p' q' : Nat → Int} (h : lnS n p q) (e1 : ∀ j, j < 5 → p' j = p j) (e2 : ∀ j, j < 5 → q' j = q j) : lnS n p' q' := by
  unfold lnS
  rw [e1 0 (by decide), e1 1 (by decide), e1 2 (by decide), e1 3 (by decide), e1 4 (by decide), e2 0 (by decide), e2 1 (by decide), e2 2 (by decide), e2 3 (by decide), e2 4 (by decide)]
  exact h
theorem lnS_det {p q q' : Nat → Int} (h : lnS n p q) (h' : lnS n p q') : ∀ j, j < 5 → q j = q' j := by
  obtain ⟨c, a1, a2, a3, b0, b1, b2, b3, b4⟩ := h
  obtain ⟨c', a1', a2', a3', b0', b1', b2', b3', b4'⟩ := h'
  have e : c = c' := by
    have := a3 c' a1' a2'
    have := a3' c a1 a2
    omega
  subst e
  intro j hj
  rcases (show j = 0 ∨ j = 1 ∨ j = 2 ∨ j = 3 ∨ j = 4 by omega) with e | e | e | e | e
  · rw [e, b0, b0']
  · rw [e, b1, b1']
  · rw [e, b2, b2']
  · rw [e, b3, b3']
  · rw [e, b4, b4']
theorem sX6_addToLine {post : gM → Prop} {p : Int} {c : Nat} (hl : ln h 7 = 635) (h8 : M h 8 (-1) = c) (hc : c < 127) (hne : p ≠ h) (f : M p 0 (-1) = m ∧ M p 1 (-1) = w ∧ M p 2 (-1) = b ∧ M p 3 (-1) = k ∧ M p 4 (-1) = t) (hp : ∀ M', (∀ j, j < 5 → hRow h M' c j = rw5 m w b k t j) → (∀ i : Nat, i < c → ∀ j, j < 5 → hRow h M' i j = hRow h M i j) → M' h 8 (-1) = ((c + 1 : Nat) : Int) → Ch h [7, 8] M M' → post M') : wX6_addToLine kd ln post h p M := by
  obtain ⟨f0, f1, f2, f3, f4⟩ := f
  unfold wX6_addToLine
  rw [h8]
  intro _ v2 e2
  have ph : ¬ p = h := hne
  simp only [gu_rd, ph, false_and, if_false, Nat.reduceEqDiff, and_false, hl, f0, f1, f2, f3, f4, h8]
  refine ⟨by omega, fun _ => ⟨by omega, fun _ _ => ⟨by omega, fun _ => ⟨by omega, fun _ => ⟨by omega, fun _ => ⟨by omega, fun _ => ⟨by omega, fun _ => ⟨by omega, hp _ (fun j hj => ?_) (fun i hi j hj => ?_) ?_ ?_⟩⟩⟩⟩⟩⟩, fun g => by omega⟩⟩
  · unfold hRow
    rw [gu_k (by decide), gu_v, gu_v, gu_v, gu_v, gu_v, e2]
    rcases (show j = 0 ∨ j = 1 ∨ j = 2 ∨ j = 3 ∨ j = 4 by omega) with e | e | e | e | e
    · subst e; rw [if_neg (by omega), if_neg (by omega), if_neg (by omega), if_neg (by omega), if_pos (by omega)]; rfl
    · subst e; rw [if_neg (by omega), if_neg (by omega), if_neg (by omega), if_pos (by omega)]; rfl
    · subst e; rw [if_neg (by omega), if_neg (by omega), if_pos (by omega)]; rfl
    · subst e; rw [if_neg (by omega), if_pos (by omega)]; rfl
    · subst e; rw [if_pos (by omega)]; rfl
  · unfold hRow
    rw [gu_k (by decide), gu_i (by omega), gu_i (by omega), gu_i (by omega), gu_i (by omega), gu_i (by omega)]
  · rw [gu_s]; push_cast; rfl
  · exact Ch.up (Ch.up (Ch.up (Ch.up (Ch.up (Ch.up Ch.rf (by decide) _ _) (by decide) _ _) (by decide) _ _) (by decide) _ _) (by decide) _ _) (by decide) _ _
/-- the first of the choices is played -/
theorem sX4_play {post : gM → Prop} {x p c e : Int} {q : Nat} {f : Nat → Int} (hl : ln x 1 = 144) (hxp : x ≠ p) (h36 : q ≤ 36) (hq : 0 < q) (hch : cho x M q f (fun _ => e)) (ec : f 0 = c) (hcr : 0 ≤ c ∧ c < 32768) (fp : M p 0 (-1) = m ∧ M p 1 (-1) = w ∧ M p 2 (-1) = b ∧ M p 3 (-1) = k ∧ M p 4 (-1) = t) (hm : 0 ≤ m ∧ m ≤ 2) (ht : t = 0 ∨ t = 1) (hv : mV m w b k t c 3 ≠ -1) (hpost : ∀ M', (M' p 0 (-1) = mV m w b k t c 3 ∧ M' p 1 (-1) = mV m w b k t c 4 ∧ M' p 2 (-1) = mV m w b k t c 5 ∧ M' p 3 (-1) = mV m w b k t c 6 ∧ M' p 4 (-1) = 1 - t) → (∀ y, y ≠ p → M' y = M y) → post M') : wX4_play kd ln post p x M := by
  obtain ⟨f0, f1, f2, f3, f4⟩ := fp
  obtain ⟨r1, r2, r3⟩ := cF_r hcr
  have t1 : (if (0 : Int) ≤ 0 ∧ (0 : Int) < q then (if (1 : Int) = 0 then cF (f (0 : Int).toNat) else if (1 : Int) = 1 then cT (f (0 : Int).toNat) else if (1 : Int) = 2 then cB (f (0 : Int).toNat) else if (1 : Int) = 3 then e else -1) else -1) = cT c := by
    rw [if_pos (by omega), if_neg (by decide), if_pos rfl, ← ec]; rfl
  have t2 : (if (0 : Int) ≤ 0 ∧ (0 : Int) < q then (if (2 : Int) = 0 then cF (f (0 : Int).toNat) else if (2 : Int) = 1 then cT (f (0 : Int).toNat) else if (2 : Int) = 2 then cB (f (0 : Int).toNat) else if (2 : Int) = 3 then e else -1) else -1) = cB c := by
    rw [if_pos (by omega), if_neg (by decide), if_neg (by decide), if_pos rfl, ← ec]; rfl
  have t0 : (if (0 : Int) ≤ 0 ∧ (0 : Int) < q then (if (0 : Int) = 0 then cF (f (0 : Int).toNat) else if (0 : Int) = 1 then cT (f (0 : Int).toNat) else if (0 : Int) = 2 then cB (f (0 : Int).toNat) else if (0 : Int) = 3 then e else -1) else -1) = cF c := by
    rw [if_pos (by omega), if_pos rfl, ← ec]; rfl
  unfold wX4_play
  refine sX1_tell hl h36 hch (by omega) (by omega) ?_
  rw [t1]
  refine fun _ => sX1_tell hl h36 hch (by omega) (by omega) ?_
  rw [t2]
  intro _
  rw [f4]
  refine fun _ => ⟨fun g => ?_, fun g => ?_⟩
  · have e0 : t = 0 := by omega
    subst e0
    refine sX1_tell hl h36 hch (by omega) (by omega) ?_
    rw [t0]
    intro _
    rw [f1]
    refine fun _ => ⟨fun g2 => ?_, fun g2 => ?_⟩
    · have v4 : mV m w b k 0 c 4 = w := by simp only [mV]; rw [if_neg (fun q => g2 q.2)]
      have v5 : mV m w b k 0 c 5 = b := by simp only [mV]; rw [if_neg (by decide)]
      have v6 : mV m w b k 0 c 6 = cT c := by simp only [mV]; rw [if_neg (by decide), if_neg g2]
      have v3 : mV m w b k 0 c 3 = if cB c = -1 then m else if cB c < 2 then cB c else -1 := by simp only [mV]; rw [if_neg (by decide), if_neg g2]
      have fin : ∀ v : Int, v = mV m w b k 0 c 3 → wX4_play_70 kd ln post p x v (gu M p 3 (-1) (cT c)) := fun v ev => by
        have rv : rng v := by rw [ev, v3]; split; omega; split <;> omega
        unfold wX4_play_70 wX4_play_73
        simp only [gu_rd, Nat.reduceEqDiff, false_and, and_false, if_false, f4]
        refine ⟨rv, fun _ => ⟨by omega, hpost _ ⟨?_, ?_, ?_, ?_, ?_⟩ (fun y hy => ?_)⟩⟩
        · rw [gu_k (by decide), gu_s, ev]
        · rw [gu_k (by decide), gu_k (by decide), gu_k (by decide), f1, v4]
        · rw [gu_k (by decide), gu_k (by decide), gu_k (by decide), f2, v5]
        · rw [gu_k (by decide), gu_k (by decide), gu_s, v6]
        · rw [gu_s]
        · rw [gu_o hy, gu_o hy, gu_o hy]
      refine ⟨fun g3 => fin _ ?_, fun g3 => ?_⟩
      · rw [v3, if_neg g3]
        rw [v3, if_neg g3] at hv
        by_cases g4 : cB c < 2
        · rw [if_pos g4]
        · rw [if_neg g4] at hv; exact absurd rfl hv
      · simp only [gu_rd, Nat.reduceEqDiff, false_and, and_false, if_false, f0]
        exact fun _ => fin _ (by rw [v3, if_pos g3])
    · have v4 : mV m w b k 0 c 4 = cT c := by simp [mV, g2]
      have v5 : mV m w b k 0 c 5 = b := by simp only [mV]; rw [if_neg (by decide)]
      have v6 : mV m w b k 0 c 6 = k := by simp only [mV]; rw [if_neg (by decide), if_pos g2]
      have v3 : mV m w b k 0 c 3 = m := by simp only [mV]; rw [if_neg (by decide), if_pos g2]
      unfold wX4_play_73
      simp only [gu_rd, Nat.reduceEqDiff, false_and, and_false, if_false, f4]
      refine fun _ => ⟨by omega, hpost _ ⟨?_, ?_, ?_, ?_, ?_⟩ (fun y hy => ?_)⟩
      · rw [gu_k (by decide), gu_k (by decide), f0, v3]
      · rw [gu_k (by decide), gu_s, v4]
      · rw [gu_k (by decide), gu_k (by decide), f2, v5]
      · rw [gu_k (by decide), gu_k (by decide), f3, v6]
      · rw [gu_s]
      · rw [gu_o hy, gu_o hy]
  · subst g
    have nk : ¬ cT c = k := fun q => by
      apply hv
      simp [mV, q]
    have v3 : mV m w b k 1 c 3 = m := by simp [mV, nk]
    have v4 : mV m w b k 1 c 4 = w := by simp only [mV]; rw [if_neg (fun q => absurd q.1 (by decide))]
    have v5 : mV m w b k 1 c 5 = cT c := by simp [mV]
    have v6 : mV m w b k 1 c 6 = k := by simp [mV, nk]
    unfold wX4_play_73
    simp only [gu_rd, Nat.reduceEqDiff, false_and, and_false, if_false, f4]
    refine fun _ => ⟨by omega, hpost _ ⟨?_, ?_, ?_, ?_, ?_⟩ (fun y hy => ?_)⟩
    · rw [gu_k (by decide), gu_k (by decide), f0, v3]
    · rw [gu_k (by decide), gu_k (by decide), f1, v4]
    · rw [gu_k (by decide), gu_s, v5]
    · rw [gu_k (by decide), gu_k (by decide), f3, v6]
    · rw [gu_s]
    · rw [gu_o hy, gu_o hy]
end BE
