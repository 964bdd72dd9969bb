/-- moves in hand -/
def hHd (r : Int) (M : gM) (cnt : Nat) (f : Nat → Int) (g : Int) : Prop := M r 21 (-1) = cnt ∧ ∀ i : Nat, i < cnt → M r 22 i = cF (f i) ∧ M r 23 i = cT (f i) ∧ M r 24 i = cB (f i) ∧ M r 25 i = g
/-- what a best move goes to -/
def mGo (d : Int) : Int := if d = -1 then -1 else d - 1
abbrev bS1 : List Nat := [12, 13, 14, 15, 16, 17, 18, 19, 21, 22, 23, 24, 25]
abbrev bSl : List Nat := [0, 12, 13, 14, 15, 16, 17, 18, 19, 21, 22, 23, 24, 25]
section BE
variable {kd : gKd} {ln : gLn} {M M0 : gM} {r n m w b k t : Int}
theorem sX7_best_48 {post : Int → gM → Prop} {cnt : Nat} {f : Nat → Int} {d : Int} (hN : mN n) (hl : rLn ln r) (hm : 0 ≤ m ∧ m ≤ 2) (hw : mOn n w) (hb : mOn n b) (hk : mOn n k) (ht : t = 0 ∨ t = 1) (hL : mLg n m w b k t) (hn : rN n r M0) (hF : mFa n m r M0) (hc : cnt ≤ 36) (hs : sIn cnt f (mvP n m w b k t)) (hd : -1 ≤ d ∧ d ≤ 97) (h : ∀ M' (q : Nat) (g : Nat → Int), sIn q g (fun c => mvP n m w b k t c ∧ mAf n m w b k t c = mGo d) → hHd r M' q g (mGo d) → q ≤ 36 → Ch r bS1 M0 M' → post q M') :
    ∀ (j i : Nat) (M : gM) (q : Nat) (g : Nat → Int), i ≤ cnt → M r 12 (-1) = cnt → (∀ i : Nat, i < cnt → mRw r M i (mV m w b k t (f i))) → q ≤ i → sIn q g (fun c => (∃ i', i' < i ∧ f i' = c) ∧ mAf n m w b k t c = mGo d) → hHd r M q g (mGo d) → Ch r bS1 M0 M → cnt - i < j → wX7_best_48 kd ln post r m w b k t j d i M := by
  have hl2 := hl
  obtain ⟨l3, l4, l5, l6, l7, l8, l10, ⟨q0, q1, q2, q3, q4, q5, q6⟩, ⟨l22, l23, l24, l25⟩, l27⟩ := hl2
  intro j
  induction j with
  | zero => intro i M q g h1 h2 h3 h4 h5 h6 h7 h8; omega
  | succ j ih =>
    intro i M q g h1 h2 h3 h4 h5 h6 h7 h8
    have hn' := hn.ch h7 (by decide) (by decide)
    have hF' := hF.ch h7 (by decide)
    unfold wX7_best_48 wX7_best_145
    rw [h2]
    refine fun _ => ⟨by omega, fun c => ?_, fun c => ?_⟩
    · rw [h6.1]
      refine fun _ => h M q g (sIn_iff h5 (fun x => ?_)) h6 (by omega) h7
      constructor
      · rintro ⟨⟨i', a1, a2⟩, a3⟩
        exact ⟨(hs.2 x).mpr ⟨i', by omega, a2⟩, a3⟩
      · rintro ⟨a1, a3⟩
        obtain ⟨i', b1, b2⟩ := (hs.2 x).mp a1
        exact ⟨⟨i', by omega, b2⟩, a3⟩
    · have hi : i < cnt := by omega
      have skip : mAf n m w b k t (f i) ≠ mGo d → wX7_best_48 kd ln post r m w b k t j d ((i : Int) + 1) M := fun q1 => by
        refine ih (i + 1) M q g (by omega) h2 h3 (by omega) (sIn_iff h5 (fun x => ?_)) h6 h7 (by omega)
        constructor
        · rintro ⟨⟨i', a1, a2⟩, a3⟩
          exact ⟨⟨i', by omega, a2⟩, a3⟩
        · rintro ⟨⟨i', a1, a2⟩, a3⟩
          rcases Nat.lt_or_eq_of_le (Nat.lt_succ_iff.mp a1) with a4 | a4
          · exact ⟨⟨i', a4, a2⟩, a3⟩
          · rw [a4] at a2
            rw [← a2] at a3
            exact absurd a3 q1
      refine sX7_isBest hN hl hn' hm hw hb hk ht hL hF' hi hc hs (h3 i hi) hd (fun a => fun _ => ⟨fun a2 => absurd a2 (by decide), fun _ => ?_⟩) (fun a => fun _ => ⟨fun _ => skip a, fun a2 => absurd rfl a2⟩)
      have ha : mAf n m w b k t (f i) = mGo d := a
      have R := h3 i hi
      have R0 : M r 13 i = cF (f i) := R 0 (by omega)
      have R1 : M r 14 i = cT (f i) := R 1 (by omega)
      have R2 : M r 15 i = cB (f i) := R 2 (by omega)
      have R3 := R 3 (by omega)
      have R4 := R 4 (by omega)
      have R5 := R 5 (by omega)
      have R6 := R 6 (by omega)
      have hp : mvP n m w b k t (f i) := (hs.2 _).mpr ⟨i, hi, rfl⟩
      have row := mv_row hN hm hw hb hk ht hL hp
      simp only [gu_rd, l22, l23, l24, l25, q0, q1, q2, h6.1, R0, R1, R2, Nat.reduceEqDiff, false_and, and_false, if_false]
      obtain ⟨M3, e3⟩ : ∃ M3, M3 = gu (gu (gu M r 22 q (cF (f i))) r 23 q (cT (f i))) r 24 q (cB (f i)) := ⟨_, rfl⟩
      have c3 : Ch r [22, 23, 24] M M3 := by rw [e3]; exact Ch.up (Ch.up (Ch.up Ch.rf (by decide) _ _) (by decide) _ _) (by decide) _ _
      have fin : ∀ v : Int, v = mGo d → wX7_best_48 kd ln post r m w b k t j d ((i : Int) + 1) (gu (gu M3 r 25 q v) r 21 (-1) ((q : Int) + 1)) := fun v ev => by
        subst ev
        have c5 : Ch r bS1 M (gu (gu M3 r 25 q (mGo d)) r 21 (-1) ((q : Int) + 1)) := Ch.up (Ch.up (c3.mo (by decide)) (by decide) _ _) (by decide) _ _
        have hlo : ∀ j', j' < q → g j' < f i := fun j' hj' => by
          obtain ⟨⟨i', a1, a2⟩, _⟩ := (h5.2 (g j')).mpr ⟨j', hj', rfl⟩
          rw [← a2]
          exact hs.1 i' i a1 hi
        refine ih (i + 1) _ (q + 1) (fun x => if x < q then g x else if x = q then f i else g (x - 1)) (by omega) ?_ (fun i' hi' s hs7 => ?_) (by omega) (sIn_iff (sIn_ins h5 (Nat.le_refl q) hlo (fun x a1 a2 => by omega)) (fun x => ?_)) ⟨?_, fun x hx => ?_⟩ (h7.tr c5) (by omega)
        · rw [gu_rd, if_neg (by simp), gu_rd, if_neg (by simp), c3.at (show 12 ∉ [22, 23, 24] by decide)]
          exact h2
        · rw [gu_k (by omega), gu_k (by omega), c3.at (show (13 + s) ∉ [22, 23, 24] by simp; omega)]
          exact h3 i' hi' s hs7
        · constructor
          · rintro (⟨⟨i', a1, a2⟩, a3⟩ | a1)
            · exact ⟨⟨i', by omega, a2⟩, a3⟩
            · exact ⟨⟨i, by omega, a1.symm⟩, by rw [a1]; exact ha⟩
          · rintro ⟨⟨i', a1, a2⟩, a3⟩
            rcases Nat.lt_or_eq_of_le (Nat.lt_succ_iff.mp a1) with a4 | a4
            · exact Or.inl ⟨⟨i', a4, a2⟩, a3⟩
            · rw [a4] at a2
              exact Or.inr a2.symm
        · rw [gu_s]; omega
        · rw [gu_k (by decide), gu_k (by decide), gu_k (by decide), gu_k (by decide), gu_k (by decide), gu_k (by decide), gu_k (by decide), gu_v, e3]
          simp only [gu_rd, Nat.reduceEqDiff, false_and, and_false, if_false, true_and]
          rcases Nat.lt_or_eq_of_le (Nat.lt_succ_iff.mp hx) with a4 | a4
          · have t6 := h6.2 x a4
            have ne : ¬ ((x : Int) = q) := by omega
            simp only [ne, if_false, a4, if_true]
            exact t6
          · subst a4
            simp
      have fin2 : ∀ v : Int, v = mGo d → (rng v → ((0 ≤ (q : Int) ∧ (q : Int) < 48) ∧ (rng (M3 r 21 (-1)) → (rng (M3 r 21 (-1) + 1) ∧ wX7_best_48 kd ln post r m w b k t j d ((i : Int) + 1) (gu (gu M3 r 25 q v) r 21 (-1) (M3 r 21 (-1) + 1)))))) := fun v ev _ => by
        have e21 : M3 r 21 (-1) = q := by rw [c3.at (show 21 ∉ [22, 23, 24] by decide)]; exact h6.1
        rw [e21]
        exact ⟨by omega, fun _ => ⟨by omega, fin v ev⟩⟩
      rw [← e3]
      refine ⟨by omega, fun _ => ⟨by omega, by omega, fun _ => ⟨by omega, by omega, fun _ => ⟨by omega, by omega, fun _ => ⟨by omega, by omega, fun _ => ⟨by omega, by omega, fun _ => ⟨by omega, by omega, fun _ => ?_⟩⟩⟩⟩⟩⟩⟩
      refine sX7_after hN ⟨q0, q1, q2, q3, q4, q5, q6⟩ l4 (hn'.ch c3 (by decide) (by decide)).2 (by omega) ((congrFun (c3.at (show 16 ∉ [22, 23, 24] by decide)) _).trans R3) ((congrFun (c3.at (show 17 ∉ [22, 23, 24] by decide)) _).trans R4) ((congrFun (c3.at (show 18 ∉ [22, 23, 24] by decide)) _).trans R5) ((congrFun (c3.at (show 19 ∉ [22, 23, 24] by decide)) _).trans R6) ht (fun a => ?_) (fun a => ?_)
      · have : mAf n m w b k t (f i) = -1 := by unfold mAf; rw [if_pos a]
        have := fin2 (-1) (by omega)
        exact this
      · rcases row with row | ⟨⟨a1, a2, a3, a4⟩, a5, a6⟩
        · exact absurd row a
        · have F := (hF'.ch c3 (by decide)).of a1.1 a5
          have ds := mFu_ds F a2 a3 a4 (show 1 - t = 0 ∨ 1 - t = 1 by omega)
          have ge := mDs_ge n (mV m w b k t (f i) 3) (mV m w b k t (f i) 4) (mV m w b k t (f i) 5) (mV m w b k t (f i) 6) (1 - t)
          refine ⟨⟨a1, a2, a3, a4, by omega⟩, ?_⟩
          have e9 : mT n (mV m w b k t (f i) 3) r M3 (mV m w b k t (f i) 4) (mV m w b k t (f i) 5) (mV m w b k t (f i) 6) (1 - t) - 1 = mGo d := by
            rw [ds, ← ha]; unfold mAf; rw [if_neg a]; omega
          have := fin2 _ e9
          exact this
theorem sX7_best {post : Int → gM → Prop} (hN : mN n) (hl : rLn ln r) (hT : rTb n r M) (hB : ∀ m, (0 ≤ m ∧ m ≤ 2) → mBd n m) (hmr : rng m) (hw : rng w) (hb : rng b) (hk : rng k) (ht : rng t) (hok : mNu n m w b k t → M r 3 m ≠ 0 → mLg n m w b k t → ∀ M' (q : Nat) (g : Nat → Int), sIn q g (fun c => mvP n m w b k t c ∧ mAf n m w b k t c = mGo (mDs n m w b k t)) → hHd r M' q g (mGo (mDs n m w b k t)) → q ≤ 36 → Ch r bSl M M' → M' r 0 (-1) = 0 → post q M') (hno : ¬ (mNu n m w b k t ∧ M r 3 m ≠ 0 ∧ mLg n m w b k t) → post 0 (gu M r 0 (-1) 1)) : wX7_best kd ln post r m w b k t M := by
  unfold wX7_best
  refine sX7_mayAsk hN hl hT.1 hmr hw hb hk ht (fun q2 q3 q4 => fun _ => ⟨fun _ => ?_, fun g => absurd g (by decide)⟩) (fun q2 => fun _ => ⟨fun g => absurd rfl g, fun _ => hno q2⟩)
  have c0 : Ch r [0] M (gu M r 0 (-1) 0) := Ch.up Ch.rf (by decide) (-1) 0
  have hT' := hT.ch c0 (by decide)
  obtain ⟨n1, n2, n3, n4, n5⟩ := q2
  have h3 : (gu M r 0 (-1) 0) r 3 m ≠ 0 := by rw [gu_k (by decide)]; exact q3
  have F := (hT'.2.1 m n1 h3).1
  have ds := mFu_ds F n2 n3 n4 (show t = 0 ∨ t = 1 by omega)
  have ge := mDs_ge n m w b k t
  have le := mDs_le (t := t) (hB m n1) n2 n3 n4
  unfold mT at ds
  refine sX7_distanceOf hN hl.2.1 hT'.1.2 n1 n2 n3 n4 n5 (by omega) ?_
  rw [ds, show mDs n m w b k t + 1 - 1 = mDs n m w b k t by omega]
  intro _
  refine sX7_find hN hl.2.2.2.2.2.2.2.1 hT'.1 n1 n2 n3 n4 (by omega) q4 (fun M' cnt h1 h2 h3 => ?_)
  obtain ⟨c1, f, c2, c3⟩ := h1
  have c4 : Ch r bSl M (gu M' r 21 (-1) 0) := Ch.up ((c0.mo (by decide)).tr (h3.mo (by decide))) (by decide) _ _
  refine ⟨cnt + 1, sX7_best_48 (M0 := gu M' r 21 (-1) 0) hN hl n1 n2 n3 n4 (by omega) q4 (hT.1.ch c4 (by decide) (by decide)) ((hT.fa n1 q3).ch c4 (by decide)) h2 c2 ⟨ge, le⟩ (fun M'' q g a1 a2 a3 a4 => hok ⟨n1, n2, n3, n4, n5⟩ q3 q4 M'' q g a1 a2 a3 (c4.tr (a4.mo (by decide))) ?_) _ 0 _ 0 (fun _ => 0) (by omega) ?_ ?_ (by omega) (sIn_0 ?_) ⟨gu_s, fun i hi => absurd hi (Nat.not_lt_zero i)⟩ Ch.rf (by omega)⟩
  · rw [a4.at (show 0 ∉ bS1 by decide), gu_k (by decide), h3.at (show 0 ∉ mSl by decide), gu_s]
  · rw [gu_k (by decide)]; exact c1
  · intro i hi s hs
    rw [gu_k (by omega)]
    exact c3 i hi s hs
  · rintro c ⟨⟨i', a1, _⟩, _⟩
    exact absurd a1 (Nat.not_lt_zero i')
end BE
