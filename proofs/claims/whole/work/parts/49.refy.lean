theorem nmS.fr {n m m' r : Int} {M M' : gM} (hN : mN n) (hm : 0 ≤ m ∧ m ≤ 2) (h : nmS n m r M) (f : nFr r m' M M') (ne : m ≠ m') : nmS n m r M' := by
  have hA := mAl3_r hN
  refine ⟨⟨fun j hj => ?_, fun j hj => ?_⟩, ?_⟩
  · rw [(f.2.1 _ (by omega)).1]; exact h.1.1 j hj
  · rw [(f.2.1 _ (by omega)).2]; exact h.1.2 j hj
  · rw [f.2.2 m ne]; exact h.2
theorem nmS.ch {n m r : Int} {M M' : gM} {l : List Nat} (h : nmS n m r M) (c : Ch r l M M') (h5 : 5 ∉ l) (h6 : 6 ∉ l) (h7 : 7 ∉ l) : nmS n m r M' := by
  unfold nmS nmK
  rw [c.at h5, c.at h6, c.at h7]
  exact h
theorem mFu.ch {n m r : Int} {M M' : gM} {l : List Nat} (h : mFu n m r M) (c : Ch r l M M') (h4 : 4 ∉ l) : mFu n m r M' := by
  unfold mFu mT
  rw [c.at h4]
  exact h
abbrev mkSl : List Nat := [0, 3, 4, 5, 6, 7, 12, 13, 14, 15, 16, 17, 18, 19, 20]
section RY
variable {kd : gKd} {ln : gLn} {M M0 : gM} {r n m w b k t : Int}
theorem sX7_make {post : Int → gM → Prop} (hN : mN n) (hl : rLn ln r) (hT : rTb n r M) (hB : ∀ m, (0 ≤ m ∧ m ≤ 2) → mBd n m) (hmr : rng m) (hok : (0 ≤ m ∧ m ≤ 2) → ∀ M', rTb n r M' → (∀ i, (0 ≤ i ∧ i ≤ 2) → (M' r 3 i ≠ 0 ↔ M r 3 i ≠ 0 ∨ i = m ∨ m = 2)) → Ch r mkSl M M' → M' r 0 (-1) = 0 → post (cN (cPb n m) (mAl3 n).toNat : Nat) M') (hno : ¬ (0 ≤ m ∧ m ≤ 2) → post (-1) (gu M r 0 (-1) 0)) : wX7_make kd ln post r m M := by
  have hl2 := hl
  obtain ⟨l3, l4, l5, l6, l7, l8, l10, l7s, ⟨l22, l23, l24, l25⟩, l27⟩ := hl2
  unfold wX7_make
  refine sX7_in hmr (by omega) (by omega) (fun q => fun _ => ⟨fun _ => ?_, fun g => absurd g (by decide)⟩) (fun q => fun _ => ⟨fun g => absurd rfl g, fun _ => hno q⟩)
  have hA := mAl3_r hN
  have c0 : Ch r [0] M (gu M r 0 (-1) 0) := Ch.up Ch.rf (by decide) (-1) 0
  have loop : ∀ (st : Int), ((st = m ∧ m ≠ 2) ∨ (m = 2 ∧ st = 0)) → ∀ (j : Nat) (x : Int) (M' : gM), st ≤ x → x ≤ m + 1 → rTb n r M' → (∀ i, (0 ≤ i ∧ i ≤ 2) → (M' r 3 i ≠ 0 ↔ M r 3 i ≠ 0 ∨ (st ≤ i ∧ i < x))) → Ch r mkSl M M' → M' r 0 (-1) = 0 → m + 1 - x < j → wX7_make_27 kd ln post r m j x M' := by
    intro st hst j
    induction j with
    | zero => intro x M' h1 h2 h3 h4 h5 h6 h7; omega
    | succ j ih =>
      intro x M' h1 h2 h3 h4 h5 h6 h7
      unfold wX7_make_27 wX7_make_58
      rw [l7, l3]
      refine ⟨by omega, by omega, fun q1 => ?_, fun q1 => ?_⟩
      · have mm : M' r 3 m ≠ 0 := (h4 m q).mpr (Or.inr (by omega))
        have s := (h3.2.1 m q mm).2
        have cl := cN_le (cPb n m) (mAl3 n).toNat
        rw [s.2]
        refine ⟨by omega, by omega, fun _ => hok q M' h3 (fun i hi => ?_) h5 h6⟩
        rw [h4 i hi]
        constructor
        · rintro (g | g)
          · exact Or.inl g
          · omega
        · rintro (g | g)
          · exact Or.inl g
          · rcases hst with hst | hst
            · rcases g with g | g
              · right; omega
              · omega
            · right; omega
      · have hx : 0 ≤ x ∧ x ≤ 2 := by omega
        refine ⟨by omega, by omega, fun _ => ⟨fun q2 => ?_, fun q2 => ?_⟩⟩
        · refine ih (x + 1) M' (by omega) (by omega) h3 (fun i hi => ?_) h5 h6 (by omega)
          rw [h4 i hi]
          constructor
          · rintro (g | g)
            · exact Or.inl g
            · right; omega
          · rintro (g | g)
            · exact Or.inl g
            · rcases Classical.em (i = x) with g2 | g2
              · rw [g2]; exact (h4 x hx).mp q2
              · right; omega
        · have hF2 : x = 2 → mFu n 0 r M' ∧ mFu n 1 r M' := fun e => by
            rcases hst with hst | hst
            · omega
            · exact ⟨(h3.2.1 0 (by omega) ((h4 0 (by omega)).mpr (Or.inr (by omega)))).1, (h3.2.1 1 (by omega) ((h4 1 (by omega)).mpr (Or.inr (by omega)))).1⟩
          refine sX7_layers hN l7s l4 hx (hB x hx) h3.1 hF2 (fun M1 a1 a2 a3 => ?_)
          refine sX7_numbers hN hl hx a1 (fun M2 b1 b2 b3 => ?_)
          have c3 : Ch r [3] M2 (gu M2 r 3 x 1) := Ch.up Ch.rf (by decide) _ _
          have f3 : ∀ i, (gu M2 r 3 x 1) r 3 i = if i = x then 1 else M' r 3 i := fun i => by
            rw [gu_v, b3.1.at (show 3 ∉ [5, 6, 7] by decide), a3.1.at (show 3 ∉ lSl by decide)]
          refine ih (x + 1) _ (by omega) (by omega) ⟨b1.ch c3 (by decide) (by decide), fun i hi hmd => ?_, fun hmd => ?_⟩ (fun i hi => ?_) (((h5.tr (a3.1.mo (by decide))).tr (b3.1.mo (by decide))).tr (c3.mo (by decide))) ?_ (by omega)
          · rw [f3] at hmd
            rcases Classical.em (i = x) with g | g
            · subst g
              exact ⟨(a2.ch b3.1 (by decide)).ch c3 (by decide), b2.ch c3 (by decide) (by decide) (by decide)⟩
            · rw [if_neg g] at hmd
              obtain ⟨s1, s2⟩ := h3.2.1 i hi hmd
              exact ⟨((s1.fr hN a3 g).ch b3.1 (by decide)).ch c3 (by decide), ((s2.ch a3.1 (by decide) (by decide) (by decide)).fr hN hi b3 g).ch c3 (by decide) (by decide) (by decide)⟩
          · rw [f3] at hmd
            rw [f3, f3]
            rcases Classical.em (2 = x) with g | g
            · rcases hst with hst | hst
              · omega
              · have h0 := (h4 0 (by omega)).mpr (Or.inr (by omega))
                have h1 := (h4 1 (by omega)).mpr (Or.inr (by omega))
                constructor
                · split
                  · decide
                  · exact h0
                · split
                  · decide
                  · exact h1
            · rw [if_neg g] at hmd
              have := h3.2.2 hmd
              constructor
              · split
                · decide
                · exact this.1
              · split
                · decide
                · exact this.2
          · rw [f3]
            rcases Classical.em (i = x) with g | g
            · rw [if_pos g]
              exact ⟨fun _ => Or.inr (by omega), fun _ => by decide⟩
            · rw [if_neg g, h4 i hi]
              constructor
              · rintro (g2 | g2)
                · exact Or.inl g2
                · right; omega
              · rintro (g2 | g2)
                · exact Or.inl g2
                · right; omega
          · rw [gu_k (by decide), b3.1.at (show 0 ∉ [5, 6, 7] by decide), a3.1.at (show 0 ∉ lSl by decide)]
            exact h6
  have start : ∀ st : Int, ((st = m ∧ m ≠ 2) ∨ (m = 2 ∧ st = 0)) → wX7_make_26 kd ln post r m st (gu M r 0 (-1) 0) := fun st hst => by
    unfold wX7_make_26
    refine ⟨4, loop st hst 4 st _ (by omega) (by omega) (hT.ch c0 (by decide)) (fun i hi => ?_) (c0.mo (by decide)) gu_s (by omega)⟩
    rw [gu_k (by decide)]
    constructor
    · exact fun g => Or.inl g
    · rintro (g | g)
      · exact g
      · omega
  exact ⟨by omega, fun q1 => start m (Or.inl ⟨rfl, q1⟩), fun q1 => start 0 (Or.inr ⟨q1, rfl⟩)⟩
/-- byte j of an int, from its top -/
def fB (v j : Int) : Int := gi2b (gishr v (24 - 8 * j))
theorem fB_r (v j : Int) : -128 ≤ fB v j ∧ fB v j < 128 := by
  unfold fB gi2b
  rw [Int8.toInt_toInt32]
  have h1 := Int8.le_toInt (gI (gishr v (24 - 8 * j))).toInt8
  have h2 := Int8.toInt_lt (gI (gishr v (24 - 8 * j))).toInt8
  constructor
  · simpa using h1
  · simpa using h2
theorem fB_m {v j : Int} (hv : rng v) (hj : 0 ≤ j ∧ j < 4) : fB v j % 256 = v / 2 ^ (24 - 8 * j).toNat % 256 := by
  unfold fB gi2b
  rw [Int8.toInt_toInt32, Int32.toInt_toInt8]
  have h1 : (gI (gishr v (24 - 8 * j))).toInt = gishr v (24 - 8 * j) := by unfold gishr; rw [gI_of]
  rw [h1, gishr_div hv (by omega)]
  exact Int.bmod_emod (x := v / 2 ^ (24 - 8 * j).toNat) (m := 2 ^ 8)
theorem sX7_four {post : gM → Prop} {v : Int} (hl : ln r 8 = 40) (hz : 0 ≤ M r 9 (-1) ∧ M r 9 (-1) + 4 ≤ 40) (h : ∀ M', (∀ i, M' r 8 i = if M r 9 (-1) ≤ i ∧ i < M r 9 (-1) + 4 then fB v (i - M r 9 (-1)) else M r 8 i) → M' r 9 (-1) = M r 9 (-1) + 4 → Ch r [8, 9] M M' → post M') : wX7_four kd ln post r v M := by
  obtain ⟨z, ez⟩ : ∃ z, z = M r 9 (-1) := ⟨_, rfl⟩
  rw [← ez] at hz h
  have loop : ∀ (j i : Nat) (M' : gM), i ≤ 4 → (∀ x, M' r 8 x = if z ≤ x ∧ x < z + i then fB v (x - z) else M r 8 x) → M' r 9 (-1) = z + i → Ch r [8, 9] M M' → 4 - i < j → wX7_four_3 kd ln post r v j (24 - 8 * (i : Int)) M' := by
    intro j
    induction j with
    | zero => intro i M' h1 h2 h3 h4 h5; omega
    | succ j ih =>
      intro i M' h1 h2 h3 h4 h5
      unfold wX7_four_3
      have br := fB_r v i
      have e1 : gi2b (gishr v (24 - 8 * (i : Int))) = fB v i := rfl
      have e9 : (gu M' r 8 (z + i) (fB v i)) r 9 (-1) = z + i := by rw [gu_k (by decide)]; exact h3
      rw [hl, h3, e1, e9]
      refine ⟨by omega, fun q => h M' ?_ ?_ h4, fun q => ⟨by omega, fun _ => ⟨by omega, br, fun _ => ⟨by omega, ?_⟩⟩⟩⟩
      · have : i = 4 := by omega
        subst this
        exact h2
      · have : i = 4 := by omega
        subst this
        exact h3
      · rw [show 24 - 8 * (i : Int) + (-8) = 24 - 8 * ((i + 1 : Nat) : Int) by omega]
        refine ih (i + 1) _ (by omega) (fun x => ?_) (by rw [gu_s]; omega) (Ch.up (Ch.up h4 (by decide) _ _) (by decide) _ _) (by omega)
        rw [gu_k (by decide), gu_v, h2 x]
        by_cases g : x = z + i
        · rw [if_pos g, if_pos (by omega), g]
          congr 1
          omega
        · rw [if_neg g]
          by_cases g2 : z ≤ x ∧ x < z + i
          · rw [if_pos g2, if_pos (by omega)]
          · rw [if_neg g2, if_neg (by omega)]
  unfold wX7_four
  refine ⟨5, loop 5 0 M (by omega) (fun x => ?_) (by omega) Ch.rf (by omega)⟩
  rw [if_neg (by omega)]
theorem sX7_feed {post : Int → gM → Prop} {a1 a2 a3 a4 a5 : Int} (hl : rLn ln r) (hz : 0 ≤ M r 9 (-1) ∧ M r 9 (-1) ≤ 40) (hok : M r 9 (-1) + 20 ≤ 40 → ∀ M', (∀ i, M' r 8 i = if M r 9 (-1) ≤ i ∧ i < M r 9 (-1) + 20 then fB (rw5 a1 a2 a3 a4 a5 ((i - M r 9 (-1)) / 4).toNat) ((i - M r 9 (-1)) % 4) else M r 8 i) → M' r 9 (-1) = M r 9 (-1) + 20 → M' r 0 (-1) = 0 → Ch r [0, 8, 9] M M' → post (M r 9 (-1) + 20) M') (hno : ¬ M r 9 (-1) + 20 ≤ 40 → post (-1) (gu M r 0 (-1) 0)) : wX7_feed kd ln post r a1 a2 a3 a4 a5 M := by
  have l8 := hl.2.2.2.2.2.1
  obtain ⟨z, ez⟩ : ∃ z, z = M r 9 (-1) := ⟨_, rfl⟩
  rw [← ez] at hz hok hno
  have c0 : Ch r [0, 8, 9] M (gu M r 0 (-1) 0) := Ch.up Ch.rf (by decide) (-1) 0
  have z0 : (gu M r 0 (-1) 0) r 9 (-1) = z := by rw [gu_k (by decide)]; exact ez.symm
  unfold wX7_feed
  rw [z0]
  refine fun _ => ⟨by omega, fun q => ?_, fun q => hno q⟩
  refine sX7_four l8 (by omega) fun M1 b1 z1 c1 => ?_
  rw [z0] at b1 z1
  refine sX7_four l8 (by omega) fun M2 b2 z2 c2 => ?_
  rw [z1] at b2 z2
  refine sX7_four l8 (by omega) fun M3 b3 z3 c3 => ?_
  rw [z2] at b3 z3
  refine sX7_four l8 (by omega) fun M4 b4 z4 c4 => ?_
  rw [z3] at b4 z4
  refine sX7_four l8 (by omega) fun M5 b5 z5 c5 => ?_
  rw [z4] at b5 z5
  rw [z5]
  intro _
  rw [show z + 4 + 4 + 4 + 4 + 4 = z + 20 by omega] at z5 ⊢
  refine hok q M5 (fun i => ?_) z5 ?_ (((((c0.tr (c1.mo (by decide))).tr (c2.mo (by decide))).tr (c3.mo (by decide))).tr (c4.mo (by decide))).tr (c5.mo (by decide)))
  · rw [b5, b4, b3, b2, b1, gu_k (by decide)]
    by_cases g : z ≤ i ∧ i < z + 20
    · rw [if_pos g]
      rcases (show (i - z) / 4 = 0 ∨ (i - z) / 4 = 1 ∨ (i - z) / 4 = 2 ∨ (i - z) / 4 = 3 ∨ (i - z) / 4 = 4 by omega) with e | e | e | e | e
      · rw [if_neg (by omega), if_neg (by omega), if_neg (by omega), if_neg (by omega), if_pos (by omega), e]
        show fB a1 _ = fB a1 _
        congr 1; omega
      · rw [if_neg (by omega), if_neg (by omega), if_neg (by omega), if_pos (by omega), e]
        show fB a2 _ = fB a2 _
        congr 1; omega
      · rw [if_neg (by omega), if_neg (by omega), if_pos (by omega), e]
        show fB a3 _ = fB a3 _
        congr 1; omega
      · rw [if_neg (by omega), if_pos (by omega), e]
        show fB a4 _ = fB a4 _
        congr 1; omega
      · rw [if_pos (by omega), e]
        show fB a5 _ = fB a5 _
        congr 1; omega
    · rw [if_neg g, if_neg (by omega), if_neg (by omega), if_neg (by omega), if_neg (by omega), if_neg (by omega)]
  · rw [c5.at (show 0 ∉ [8, 9] by decide), c4.at (show 0 ∉ [8, 9] by decide), c3.at (show 0 ∉ [8, 9] by decide), c2.at (show 0 ∉ [8, 9] by decide), c1.at (show 0 ∉ [8, 9] by decide), gu_s]
end RY
