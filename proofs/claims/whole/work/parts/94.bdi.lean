/-! A BOARD IS MADE -/
section BI
variable {kd : gKd} {ln : gLn} {M : gM} {o n a f g : Int}
theorem sX0_squareAt {post : Int → gM → Prop} {r f : Int} (hN : mN n) (h0 : M o 0 (-1) = n) (hr : rng r) (hf : rng f) (ok : (0 ≤ r ∧ r < n) → (0 ≤ f ∧ f < n) → post (n * r + f) M) (no : ¬ ((0 ≤ r ∧ r < n) ∧ (0 ≤ f ∧ f < n)) → post (-1) M) : wX0_squareAt kd ln post o r f M := by
  have h4 : 4 ≤ n ∧ n ≤ 8 := hN
  unfold wX0_squareAt wX0_squareAt_24
  rw [h0]
  refine ⟨hr, fun q => no (by omega), fun q _ => ⟨fun q1 => no (by omega), fun q1 => ⟨hf, fun q2 => no (by omega), fun q2 => ⟨fun q3 => ⟨?_, ok (by omega) (by omega)⟩, fun q3 => no (by omega)⟩⟩⟩⟩
  have := (mSq_of hN (f := f) (r := r) (by omega) (by omega)).1
  have := mSq hN this
  omega
theorem sX0_imageOf {post : Int → gM → Prop} (hN : mN n) (h0 : M o 0 (-1) = n) (hg : 0 ≤ g ∧ g < 8) (ha : mOn n a) (h : post (mIm n g a) M) : wX0_imageOf kd ln post o g (a / n) (a % n) M := by
  have h4 : 4 ≤ n ∧ n ≤ 8 := hN
  have e := mSq hN ha
  obtain ⟨g4, g1, g2, r4, r1, r2⟩ := g8 hg
  have fin : ∀ r' f' : Int, (0 ≤ r' ∧ r' < n) → (0 ≤ f' ∧ f' < n) → mIr n g (a % n) (a / n) = r' → mIf n g (a % n) (a / n) = f' → wX0_squareAt kd ln (fun c M1 => rng c → post c M1) o r' f' M := fun r' f' q1 q2 q3 q4 => by
    refine sX0_squareAt hN h0 (by omega) (by omega) (fun _ _ _ => ?_) (fun q5 => absurd ⟨q1, q2⟩ q5)
    unfold mIm at h
    rw [q3, q4] at h
    exact h
  unfold wX0_imageOf wX0_imageOf_11 wX0_imageOf_23 wX0_imageOf_35 wX0_imageOf_58
  rw [h0]
  refine ⟨r4, fun c4 => ⟨by omega, fun _ => ⟨by omega, fun _ => ⟨r2, fun c2 => ⟨r1, fun c1 => fin _ _ e.2.1 e.1 ?_ ?_, fun c1 _ => fin _ _ e.2.1 (by omega) ?_ ?_⟩, fun c2 _ => ⟨r1, fun c1 => fin _ _ (by omega) e.1 ?_ ?_, fun c1 _ => fin _ _ (by omega) (by omega) ?_ ?_⟩⟩, fun q => absurd rfl q⟩, fun q => absurd rfl q⟩, fun c4 => ⟨by omega, fun q => absurd q (by decide), fun _ => ⟨by omega, fun q => absurd q (by decide), fun _ => ⟨r2, fun c2 => ⟨r1, fun c1 => fin _ _ e.1 e.2.1 ?_ ?_, fun c1 _ => fin _ _ e.1 (by omega) ?_ ?_⟩, fun c2 _ => ⟨r1, fun c1 => fin _ _ (by omega) e.2.1 ?_ ?_, fun c1 _ => fin _ _ (by omega) (by omega) ?_ ?_⟩⟩⟩⟩⟩
  all_goals
    have p4 : g / 4 % 2 = 1 ↔ ¬ giand g 4 = 0 := by rw [g4]; simp
    have p2 : g / 2 % 2 = 1 ↔ ¬ giand g 2 = 0 := by rw [g2]; simp
    have p1 : g % 2 = 1 ↔ ¬ giand g 1 = 0 := by rw [g1]; simp
    simp only [mIr, mIf, p4, p2, p1, c4, c2, c1, not_true, not_false_iff, if_true, if_false]
/-- the squares from a in one direction -/
def ds (n a f g x : Int) : Prop := mAl n 0 a x ∧ mSg (x % n - a % n) = f ∧ mSg (x / n - a / n) = g
theorem ds_step {i x : Int} (hN : mN n) (ha : mOn n a) (hf : f = -1 ∨ f = 0 ∨ f = 1) (hg : g = -1 ∨ g = 0 ∨ g = 1) (h0 : ¬ (f = 0 ∧ g = 0)) (hi : 1 ≤ i) (hx : mOn n x) : (x % n = a % n + i * f ∧ x / n = a / n + i * g) ↔ (ds n a f g x ∧ mLn n a x = i) := by
  constructor
  · rintro ⟨e1, e2⟩
    obtain ⟨h1, h2, h3, h4⟩ := mLn_of hf hg h0 hi e1 e2
    exact ⟨⟨h1, h2, h3⟩, h4⟩
  · rintro ⟨⟨h1, h2, h3⟩, h4⟩
    obtain ⟨e1, e2, e3⟩ := mLn_st h1
    rw [h2, h4] at e1
    rw [h3, h4] at e2
    exact ⟨e1, e2⟩
theorem ds_ln {x : Int} (hN : mN n) (ha : mOn n a) (hx : mOn n x) (h : ds n a f g x) : 1 ≤ mLn n a x ∧ mLn n a x ≤ n - 1 := by
  have e1 := mSq hN ha
  have e2 := mSq hN hx
  refine ⟨(mLn_st h.1).2.2, ?_⟩
  unfold mLn vL
  omega
theorem ds_bt {x y : Int} (hx : ds n a f g x) : mBt n a y x ↔ ds n a f g y ∧ mLn n a y < mLn n a x := by
  rw [mBt_iff hx.1]
  obtain ⟨h1, h2, h3⟩ := hx
  rw [h2, h3]
  unfold ds
  constructor
  · rintro ⟨q1, q2, q3, q4⟩; exact ⟨⟨q1, q2, q3⟩, q4⟩
  · rintro ⟨⟨q1, q2, q3⟩, q4⟩; exact ⟨q1, q2, q3, q4⟩
theorem L64_nat (b : BitVec 64) : L64 ((b.toNat : Nat) : Int) = b := ofInt_nat b
theorem i_f {f i : Int} (hf : f = -1 ∨ f = 0 ∨ f = 1) (hi : 0 ≤ i ∧ i ≤ 8) : -8 ≤ i * f ∧ i * f ≤ 8 := by
  rcases hf with rfl | rfl | rfl <;> omega
theorem sX0_lookAlong {post : BitVec 64 → gM → Prop} (hN : mN n) (hl : bdL n (ln o)) (h0 : M o 0 (-1) = n ∧ M o 1 (-1) = n * n) (ha : mOn n a) (hra : M o 2 a = a / n ∧ M o 3 a = a % n) (hf : f = -1 ∨ f = 0 ∨ f = 1) (hg : g = -1 ∨ g = 0 ∨ g = 1) (hfg : ¬ (f = 0 ∧ g = 0)) (h : ∀ c M', sq n c (ds n a f g) → Ch o [8] M M' → (∀ i, (∀ y, mOn n y → ds n a f g y → i ≠ a * (n * n) + y) → M' o 8 i = M o 8 i) → (∀ y, mOn n y → ds n a f g y → sq n (L64 (M' o 8 (a * (n * n) + y))) (fun x => mAl n 0 a x ∧ mBt n a y x)) → post c M') : wX0_lookAlong kd ln post o a g f M := by
  have h4 : 4 ≤ n ∧ n ≤ 8 := hN
  have ea := mSq hN ha
  obtain ⟨l2, l3, l4, l5, l6, l7, l8, -⟩ := hl
  have loop : ∀ (j : Nat) (i : Int) (c : BitVec 64) (M' : gM), 0 ≤ i → i ≤ n - 1 → sq n c (fun x => ds n a f g x ∧ i < mLn n a x) → Ch o [8] M M' → (∀ i', (∀ y, mOn n y → ds n a f g y → i' ≠ a * (n * n) + y) → M' o 8 i' = M o 8 i') → (∀ y, mOn n y → ds n a f g y → i < mLn n a y → sq n (L64 (M' o 8 (a * (n * n) + y))) (fun x => mAl n 0 a x ∧ mBt n a y x)) → i < j → wX0_lookAlong_11 kd ln post o a g f j c i M' := by
    intro j
    induction j with
    | zero => intro i c M' h1 h2 h3 h4 h5 h6 h7; omega
    | succ j ih =>
      intro i c M' h1 h2 h3 h4 h5 h6 h7
      have a0 : M' o 0 (-1) = n := by rw [h4.at (by decide)]; exact h0.1
      have a1 : M' o 1 (-1) = n * n := by rw [h4.at (by decide)]; exact h0.2
      have a2 : M' o 2 a = a / n := by rw [h4.at (by decide)]; exact hra.1
      have a3 : M' o 3 a = a % n := by rw [h4.at (by decide)]; exact hra.2
      have if1 := i_f hf (i := i) (by omega)
      have ig1 := i_f hg (i := i) (by omega)
      unfold wX0_lookAlong_11 wX0_lookAlong_76
      rw [l2, l3, l8, a2, a3]
      refine ⟨by omega, fun q => h c M' (sq_cong h3 (fun x hx => ⟨fun q2 => q2.1, fun q2 => ⟨q2, ?_⟩⟩)) h4 h5 (fun y hy q2 => h6 y hy q2 ?_), fun q => ⟨by omega, ⟨ha.1, ha.2⟩, fun _ => ⟨by omega, ⟨ha.1, ha.2⟩, fun _ => ?_⟩⟩⟩
      · have := (ds_ln hN ha hx q2).1; omega
      · have := (ds_ln hN ha hy q2).1; omega
      · refine sX0_squareAt hN a0 (by omega) (by omega) (fun q1 q2 _ => ?_) (fun q1 _ => ⟨fun _ => ?_, fun q2 => absurd rfl q2⟩)
        · obtain ⟨s1, s2, s3⟩ := mSq_of hN (f := a % n + i * f) (r := a / n + i * g) q2 q1
          obtain ⟨x, ex⟩ : ∃ x, x = n * (a / n + i * g) + (a % n + i * f) := ⟨_, rfl⟩
          rw [← ex] at s1 s2 s3 ⊢
          have ex6 := mSq hN s1
          have ix := mIx hN ha s1
          have st := (ds_step hN ha hf hg hfg (by omega) s1).mp ⟨s2, s3⟩
          have un : ∀ y, mOn n y → ds n a f g y → mLn n a y = i → y = x := fun y hy q3 q4 => by
            have := (ds_step hN ha hf hg hfg (i := i) (by omega) hy).mpr ⟨q3, q4⟩
            exact mSq_eq hN hy s1 (by omega) (by omega)
          rw [a1]
          refine ⟨fun q3 => by omega, fun _ => ⟨by omega, fun _ => ⟨ix, sX6_bit (by omega) fun v25 e25 => ?_⟩⟩⟩
          rw [e25]
          refine ih (i + (-1)) _ _ (by omega) (by omega) (sq_cong (sq_or h3 (sq_bit hN s1)) (fun y hy => ?_)) (Ch.up h4 (by decide) _ _) (fun i' q3 => ?_) (fun y hy q3 q4 => ?_) (by omega)
          · constructor
            · rintro (q3 | q3)
              · exact ⟨q3.1, by omega⟩
              · subst q3; exact ⟨st.1, by omega⟩
            · rintro ⟨q3, q4⟩
              by_cases q5 : mLn n a y = i
              · exact Or.inr (un y hy q3 q5)
              · exact Or.inl ⟨q3, by omega⟩
          · rw [gu_i (q3 x s1 st.1)]
            exact h5 i' q3
          · by_cases q5 : y = x
            · subst q5
              rw [gu_s, L64_nat]
              refine sq_cong h3 (fun x' hx' => ?_)
              constructor
              · rintro ⟨q6, q7⟩
                exact ⟨q6.1, (ds_bt q6).mpr ⟨q3, by omega⟩⟩
              · rintro ⟨q6, q7⟩
                obtain ⟨u1, u2, u3, u4⟩ := (mBt_iff q6).mp q7
                obtain ⟨v1, v2, v3⟩ := q3
                exact ⟨⟨q6, by omega, by omega⟩, by omega⟩
            · have : a * (n * n) + y ≠ a * (n * n) + x := by omega
              rw [gu_i this]
              refine h6 y hy q3 ?_
              have : mLn n a y ≠ i := fun e => q5 (un y hy q3 e)
              omega
        · refine ih (i + (-1)) c M' (by omega) (by omega) (sq_cong h3 (fun y hy => ⟨fun q3 => ⟨q3.1, by omega⟩, fun q3 => ⟨q3.1, ?_⟩⟩)) h4 h5 (fun y hy q3 q4 => h6 y hy q3 ?_) (by omega)
          · have : mLn n a y ≠ i := fun e => by
              have := (ds_step hN ha hf hg hfg (i := i) (by omega) hy).mpr ⟨q3.1, e⟩
              have := mSq hN hy
              omega
            omega
          · have : mLn n a y ≠ i := fun e => by
              have := (ds_step hN ha hf hg hfg (i := i) (by omega) hy).mpr ⟨q3, e⟩
              have := mSq hN hy
              omega
            omega
  unfold wX0_lookAlong
  rw [h0.1]
  intro v1 e1 _ v3 e3
  rw [e1, e3]
  refine ⟨n.toNat, loop n.toNat (n - 1) 0 M (by omega) (by omega) (sq_0 (fun x hx q => ?_)) Ch.rf (fun _ _ => rfl) (fun y hy q1 q2 => ?_) (by omega)⟩
  · have := (ds_ln hN ha hx q.1).2; omega
  · have := (ds_ln hN ha hy q1).2; omega
end BI
