section PM
variable {kd : gKd} {ln : gLn} {M : gM} {o q z y n m w b k t : Int}
theorem mDs_il (h : ¬ mLg n m w b k t) : mDs n m w b k t = -1 := mDs_no (fun _ g => h (mAtD_lg g))
/-- a table that is made tells distances -/
theorem sX5_look {post : Int → gM → Prop} (hN : mN n) (hC : tbC n m kd ln M o q z) (hV : tbV n m (M z) (fun K => mDk n m K)) (hw : mOn n w) (hb : mOn n b) (hk : mOn n k) (ht : 0 ≤ t ∧ t ≤ 1) (h : post (mDs n m w b k t) M) : wX5_look kd ln post z w b k t M := by
  obtain ⟨⟨a1, a2, a3, a4⟩, ⟨b1, b2, b3, b4⟩, ⟨c1, c2, c3, c4⟩, d1, d2, d3⟩ := hC
  have ge := mDs_ge n m w b k t
  unfold wX5_look wX5_look_30
  rw [c2, c4]
  refine ⟨b4, sX2_cellOf hN a1 a2 a3 (by omega) b1 b2 b3 hw hb hk ht (fun hv _ => ?_) (fun hv _ => ⟨fun _ => ?_, fun g => absurd rfl g⟩)⟩
  · obtain ⟨⟨r1, r2, r3⟩, t1, t2⟩ := tb_rd hN hV hw hb hk ht hv
    refine ⟨fun g => by omega, fun _ => ⟨by omega, ⟨r1, r2⟩, fun _ => ?_⟩⟩
    by_cases hL : mLg n m w b k t
    · obtain ⟨K, k1, k2, k3, k4, k5, -⟩ := lst_cP hN hw hb hk ht hL
      have e : M z 1 (cK n m (mLst n m w b k t)) = mDs n m w b k t := by
        rw [t1 hL, k1, Int.toNat_natCast, k5]
      rw [e]
      refine ⟨fun _ => h, fun g => ?_⟩
      rw [show mDs n m w b k t = -1 by omega] at h
      exact h
    · rw [t2 hL]
      rw [mDs_il hL] at h
      exact ⟨fun g => absurd g (by decide), fun _ => h⟩
  · rw [mDs_il (fun g => hv (lg_v g))] at h
    exact h
/-- the last of the first i with v -/
def lastP (pf : Nat → Int) : Nat → Int → Int
  | 0, _ => -1
  | i + 1, v => if pf i = v then i else lastP pf i v
theorem lastP_c {pf : Nat → Int} {v : Int} (i : Nat) : (lastP pf i v = -1 ∧ ∀ j, j < i → pf j ≠ v) ∨ ∃ a : Nat, a < i ∧ lastP pf i v = a ∧ pf a = v ∧ ∀ j, a < j → j < i → pf j ≠ v := by
  induction i with
  | zero => exact Or.inl ⟨rfl, fun j hj => absurd hj (Nat.not_lt_zero j)⟩
  | succ i ih =>
    unfold lastP
    by_cases g : pf i = v
    · rw [if_pos g]
      exact Or.inr ⟨i, by omega, rfl, g, fun j h1 h2 => by omega⟩
    · rw [if_neg g]
      rcases ih with ⟨h1, h2⟩ | ⟨a, h1, h2, h3, h4⟩
      · refine Or.inl ⟨h1, fun j hj => ?_⟩
        rcases Nat.lt_or_eq_of_le (Nat.lt_succ_iff.mp hj) with q1 | q1
        · exact h2 j q1
        · rw [q1]; exact g
      · refine Or.inr ⟨a, by omega, h2, h3, fun j j1 j2 => ?_⟩
        rcases Nat.lt_or_eq_of_le (Nat.lt_succ_iff.mp j2) with q1 | q1
        · exact h4 j j1 q1
        · rw [q1]; exact g
theorem lastP_up {pf pf' : Nat → Int} (i : Nat) (h : ∀ j, j < i → pf j = pf' j) (v : Int) : lastP pf i v = lastP pf' i v := by
  induction i with
  | zero => rfl
  | succ i ih =>
    unfold lastP
    rw [h i (by omega), ih (fun j hj => h j (by omega))]
def lsD (a b : Int) : Int := if a = -1 ∨ b = -1 then max a b else min a b
theorem sX3_lesserDistance {post : Int → gM → Prop} {a c : Int} (ha : rng a) (hc : rng c) (h : post (lsD a c) M) : wX3_lesserDistance kd ln post a c M := by
  unfold wX3_lesserDistance wX3_lesserDistance_10
  unfold lsD at h
  refine ⟨ha, fun g => ?_, fun g => ⟨hc, fun g2 => ?_, fun g2 => ?_⟩⟩
  · rw [if_pos (Or.inl g)] at h
    rw [show max a c = if a < c then c else a by omega] at h
    exact ⟨ha, hc, by split <;> omega, h⟩
  · rw [if_neg (by omega)] at h
    rw [show min a c = if c < a then c else a by omega] at h
    exact ⟨by split <;> omega, h⟩
  · rw [if_pos (Or.inr g2)] at h
    rw [show max a c = if a < c then c else a by omega] at h
    exact ⟨ha, hc, by split <;> omega, h⟩
/-- how far mate is behind a promotion -/
noncomputable def prV (n K : Int) : Int := lsD (mDs n 0 (kW n K) (kB n K) (kK n K + n) 1) (mDs n 1 (kW n K) (kB n K) (kK n K + n) 1)
/-- a promotion of a table -/
def prK (n m : Int) (K : Nat) : Prop := m = 2 ∧ (K : Int) < mAl3 n ∧ cP n m K ∧ kT K = 0 ∧ mPr n m (kW n K) (kB n K) (kK n K) ∧ 0 ≤ prV n K
/-- promotions in chains -/
def chS (n m : Int) (M : gM) (y : Int) (np : Nat) (pk : Nat → Nat) (pf : Nat → Int) : Prop := M y 10 (-1) = np ∧ (∀ i, i < np → M y 9 i = cK n m (pk i) ∧ M y 8 i = lastP pf i (pf i) ∧ prK n m (pk i) ∧ pf i = prV n (pk i) + 1) ∧ ∀ v, (0 ≤ v ∧ v < 127) → M y 7 v = lastP pf np v
def chL (ln : gLn) (y : Int) (cap : Int) : Prop := ln y 7 = 127 ∧ ln y 8 = cap ∧ ln y 9 = cap
theorem chS.ch {M' : gM} {np : Nat} {pk : Nat → Nat} {pf : Nat → Int} (h : chS n m M y np pk pf) (zy : y ≠ z) (c : mkX y z M M') : chS n m M' y np pk pf := by
  have e : ∀ j, j ≠ 5 → j ≠ 6 → M' y j = M y j := fun j h5 h6 => c y j (fun g => zy g.1) (fun g => g.2.elim h5 h6)
  unfold chS
  rw [e 10 (by decide) (by decide), e 9 (by decide) (by decide), e 8 (by decide) (by decide), e 7 (by decide) (by decide)]
  exact h
theorem mkC.cy {M' : gM} (h : mkC n m kd ln M o q z y) (c : Ch y [7, 8, 9, 10] M M') : mkC n m kd ln M' o q z y := by
  obtain ⟨⟨⟨a1, a2, a3, a4⟩, ⟨b1, b2, b3, b4⟩, ⟨c1, c2, c3, c4⟩, d1, d2, d3⟩, ⟨e1, e2⟩, ⟨f1, f2, f3, f4, f5⟩, g1, g2, g3⟩ := h
  have eo : M' o = M o := c.ot (fun e => g1 e.symm)
  have eq : M' q = M q := c.ot (fun e => g2 e.symm)
  have ez : M' z = M z := c.ot (fun e => g3 e.symm)
  refine ⟨⟨⟨a1, by rw [eo]; exact a2, a3, a4⟩, ⟨by rw [eq]; exact b1, b2, by rw [eq]; exact b3, b4⟩, ⟨by rw [ez]; exact c1, by rw [ez]; exact c2, by rw [ez]; exact c3, c4⟩, d1, d2, d3⟩, ⟨e1, e2⟩, ⟨?_, ?_, ?_, ?_, f5⟩, g1, g2, g3⟩
  · rw [c.at (by decide)]; exact f1
  · rw [c.at (by decide)]; exact f2
  · rw [c.at (by decide)]; exact f3
  · rw [c.at (by decide)]; exact f4
theorem mkS.cy {M' : gM} {L : List Nat} (h : mkS n m M y z L) (zy : y ≠ z) (c : Ch y [7, 8, 9, 10] M M') : mkS n m M' y z L := by
  have ez : M' z = M z := c.ot (fun e => zy e.symm)
  unfold mkS
  rw [ez, c.at (show 5 ∉ [7, 8, 9, 10] by decide), c.at (show 6 ∉ [7, 8, 9, 10] by decide)]
  exact h
/-- one more in its chain, or not -/
theorem sX3_chainPromotion {post : gM → Prop} {np : Nat} {pk : Nat → Nat} {pf : Nat → Int} {K : Nat} {cap v : Int} (hl : chL ln y cap) (hc : chS n m M y np pk pf) (hcap : (np : Int) < cap ∧ cap ≤ 65536) (hv : v = prV n K ∧ -1 ≤ v ∧ v ≤ 97) (hK : 0 ≤ v → prK n m K) (hcK : rng (cK n m K)) (h : ∀ M' np' pk' pf', Ch y [7, 8, 9, 10] M M' → chS n m M' y np' pk' pf' → np' ≤ np + 1 → (∀ i, i < np → i < np' ∧ pk' i = pk i ∧ pf' i = pf i) → (0 ≤ v → ∃ i, i < np' ∧ pk' i = K) → post M') : wX3_chainPromotion kd ln post y (cK n m K) v M := by
  obtain ⟨l7, l8, l9⟩ := hl
  obtain ⟨s1, s2, s3⟩ := id hc
  have same : v = -1 → post M := fun g => h M np pk pf Ch.rf hc (by omega) (fun i hi => ⟨hi, rfl, rfl⟩) (fun g2 => by omega)
  unfold wX3_chainPromotion
  simp only [gu_rd, l7, l8, l9, s1, Nat.reduceEqDiff, false_and, and_false, if_false]
  refine ⟨by omega, same, fun g => ⟨fun g2 => by omega, fun _ _ => ⟨by omega, fun _ => ⟨fun _ => ?_, fun g2 => absurd hcap.1 g2⟩⟩⟩⟩
  refine ⟨by omega, hcK, by omega, fun _ => ⟨by omega, by omega, fun _ => ⟨by omega, fun _ _ => ⟨by omega, ?_⟩⟩⟩⟩
  have e7 := s3 (v + 1) (by omega)
  obtain ⟨pf', epf⟩ : ∃ pf' : Nat → Int, pf' = fun i => if i = np then v + 1 else pf i := ⟨_, rfl⟩
  obtain ⟨pk', epk⟩ : ∃ pk' : Nat → Nat, pk' = fun i => if i = np then K else pk i := ⟨_, rfl⟩
  have old : ∀ j, j < np → pf' j = pf j ∧ pk' j = pk j := fun j hj => by
    rw [epf, epk]
    dsimp only
    rw [if_neg (by omega), if_neg (by omega)]
    exact ⟨rfl, rfl⟩
  have new : pf' np = v + 1 ∧ pk' np = K := by
    rw [epf, epk]
    dsimp only
    rw [if_pos rfl, if_pos rfl]
    exact ⟨rfl, rfl⟩
  refine h _ (np + 1) pk' pf' (Ch.up (Ch.up (Ch.up (Ch.up Ch.rf (by decide) _ _) (by decide) _ _) (by decide) _ _) (by decide) _ _) ⟨?_, fun i hi => ?_, fun u hu => ?_⟩ (by omega) (fun i hi => ⟨by omega, (old i hi).2, (old i hi).1⟩) (fun _ => ⟨np, by omega, new.2⟩)
  · rw [gu_s]; push_cast; rfl
  · rcases Nat.lt_or_eq_of_le (Nat.lt_succ_iff.mp hi) with g3 | g3
    · obtain ⟨t1, t2, t3, t4⟩ := s2 i g3
      rw [(old i g3).1, (old i g3).2, ← lastP_up i (fun j hj => (old j (by omega)).1.symm)]
      refine ⟨?_, ?_, t3, t4⟩
      · rw [gu_k (by decide), gu_k (by decide), gu_k (by decide), gu_i (by omega)]; exact t1
      · rw [gu_k (by decide), gu_k (by decide), gu_i (by omega), gu_k (by decide)]; exact t2
    · subst g3
      rw [new.1, new.2, ← lastP_up i (fun j hj => (old j hj).1.symm)]
      refine ⟨?_, ?_, hK (by omega), by omega⟩
      · rw [gu_k (by decide), gu_k (by decide), gu_k (by decide), gu_s]
      · rw [gu_k (by decide), gu_k (by decide), gu_s, e7]
  · rw [gu_k (by decide), gu_v]
    unfold lastP
    rw [new.1, ← lastP_up np (fun j hj => (old j hj).1.symm)]
    by_cases g3 : u = v + 1
    · rw [if_pos g3, if_pos g3.symm]
    · rw [if_neg g3, if_neg (fun e => g3 e.symm), gu_k (by decide), gu_k (by decide)]
      exact s3 u hu
/-- the promotions with one distance -/
theorem sX3_settlePromotions {post : gM → Prop} {L : List Nat} {np far : Nat} {pk : Nat → Nat} {pf : Nat → Int} {cap : Int} (hN : mN n) (hC : mkC n m kd ln M o q z y) (hS : mkS n m M y z L) (hl : chL ln y cap) (hcap : (np : Int) ≤ cap ∧ cap ≤ 65536) (hc : chS n m M y np pk pf) (hfar : far ≤ 126) (hF : far = 0 ∨ ∃ d, far = d + 1 ∧ mkF n m L d) (h : ∀ M' R, mkS n m M' y z (L ++ R) → mkX y z M M' → (∀ K ∈ R, mDk n m K = far) → (∀ i, i < np → pf i = far → pk i ∈ L ++ R) → post M') : wX3_settlePromotions kd ln post y far M := by
  have zy : y ≠ z := hC.2.2.2.2.2
  obtain ⟨l7, l8, l9⟩ := hl
  have loop : ∀ (j a : Nat) (left : Int) (M' : gM) (R : List Nat), a ≤ np → (a : Int) ≤ left → left ≤ np → mkS n m M' y z (L ++ R) → mkX y z M M' → (∀ K ∈ R, mDk n m K = far) → (∀ i, a ≤ i → i < np → pf i = far → pk i ∈ L ++ R) → a < j → wX3_settlePromotions_12 kd ln post y far j (lastP pf a far) left M' := by
    intro j
    induction j with
    | zero => intro a left M' R h1 h2 h3 h4 h5 h6 h7 h8; omega
    | succ j ih =>
      intro a left M' R h1 h2 h3 h4 h5 h6 h7 h8
      have hc' := hc.ch zy h5
      unfold wX3_settlePromotions_12
      rcases lastP_c (pf := pf) (v := (far : Int)) a with ⟨e1, e2⟩ | ⟨i, i1, i2, i3, i4⟩
      · have fin : post M' := h M' R h4 h5 h6 (fun i hi e => by
          rcases Nat.lt_or_ge i a with g | g
          · exact absurd e (e2 i g)
          · exact h7 i g hi e)
        rw [e1]
        exact ⟨by omega, fun _ => fin, fun _ => ⟨by omega, fun _ => fin, fun g => absurd rfl g⟩⟩
      · rw [i2, l8, l9]
        refine ⟨by omega, fun g => by omega, fun _ => ⟨by omega, fun g => by omega, fun _ => ⟨by omega, by omega, fun _ => ?_⟩⟩⟩
        obtain ⟨t1, t2, t3, t4⟩ := hc'.2.1 i (by omega)
        obtain ⟨u1, u2, u3, u4, u5, u6⟩ := t3
        obtain ⟨p1, p2, p3, p4, p5, p6⟩ := key_pos hN u2 u3
        have st := sX3_settle (post := fun M16 => 0 ≤ cap ∧ ((0 ≤ (i : Int) ∧ (i : Int) < cap) ∧ (rng (M16 y 8 i) → (∀ v23 : Int, v23 = M16 y 8 i → wX3_settlePromotions_12 kd ln post y far j v23 (left + (-1)) M16)))) (far := (far : Int)) hN (hC.ch h5) h4 p1 p2 p3 p4 (lg_v p5) (by omega) (fun _ g2 => ?_) (fun M'' R' s1 s2 s3 s4 => ?_)
        · rw [p6] at st
          rw [t1]
          exact st
        · rcases hF with hF | ⟨d, ed, hF⟩
          · omega
          · subst ed
            have pv : prV n (pk i) = d := by omega
            have noB := noBl hN (hF.ap (R := R) (fun K hK => by have := h6 K hK; omega)) p1 p2 p3 p4 g2
            have at0 : ∀ m', mDs n m' (kW n (pk i)) (kB n (pk i)) (kK n (pk i) + n) 1 = d → mAtD n m' d (kW n (pk i)) (kB n (pk i)) (kK n (pk i) + n) 1 := fun m' g => by
              rcases mDs_c n m' (kW n (pk i)) (kB n (pk i)) (kK n (pk i) + n) 1 with ⟨e, q1, q2⟩ | ⟨q1, q2⟩
              · have : e = d := by omega
                rw [← this]; exact q1
              · omega
            have two : mAtD n 0 d (kW n (pk i)) (kB n (pk i)) (kK n (pk i) + n) 1 ∨ mAtD n 1 d (kW n (pk i)) (kB n (pk i)) (kK n (pk i) + n) 1 := by
              unfold prV lsD at pv
              split at pv
              · rcases (show mDs n 0 (kW n (pk i)) (kB n (pk i)) (kK n (pk i) + n) 1 = d ∨ mDs n 1 (kW n (pk i)) (kB n (pk i)) (kK n (pk i) + n) 1 = d by omega) with g | g
                · exact Or.inl (at0 0 g)
                · exact Or.inr (at0 1 g)
              · rcases (show mDs n 0 (kW n (pk i)) (kB n (pk i)) (kK n (pk i) + n) 1 = d ∨ mDs n 1 (kW n (pk i)) (kB n (pk i)) (kK n (pk i) + n) 1 = d by omega) with g | g
                · exact Or.inl (at0 0 g)
                · exact Or.inr (at0 1 g)
            rw [u4] at noB p5 ⊢
            exact mDs_at (e := d + 1) (mAtD_w p5 noB (Or.inr (Or.inr ⟨u5, two⟩)))
        · have hc'' := hc'.ch zy s2
          obtain ⟨v1, v2, v3, v4⟩ := hc''.2.1 i (by omega)
          have s4 := s4 p5
          unfold inL at s4
          rw [p6, Int.toNat_natCast] at s4
          rw [List.append_assoc] at s1 s4
          refine ⟨by omega, by omega, fun _ v23 e23 => ?_⟩
          rw [e23, v2, i3]
          refine ih i (left + (-1)) M'' (R ++ R') (by omega) (by omega) (by omega) s1 (h5.tr s2) (kb_R h6 s3) (fun i' g1 g2 g3 => ?_) (by omega)
          rcases Nat.lt_or_ge i' a with g4 | g4
          · rcases Nat.lt_or_eq_of_le g1 with g5 | g5
            · exact absurd g3 (i4 i' g5 g4)
            · rw [← g5]; exact s4
          · have := h7 i' g4 g2 g3
            rw [← List.append_assoc]
            exact List.mem_append.mpr (Or.inl this)
  unfold wX3_settlePromotions
  rw [l7, hc.1, hc.2.2 far (by omega)]
  refine ⟨by omega, by omega, fun _ v5 e5 _ v7 e7 => ?_⟩
  rw [e5, e7]
  exact ⟨np + 1, loop (np + 1) np np M [] (by omega) (by omega) (by omega) (by rw [List.append_nil]; exact hS) mkX.rf (fun K hK => absurd hK (List.not_mem_nil)) (fun i h1 h2 => by omega) (by omega)⟩
end PM
