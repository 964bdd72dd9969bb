section SU
variable {n m w b k : Int}
theorem key_t1 : mKey n w b k 1 = mKey n w b k 0 + 1 := by unfold mKey; omega
theorem lst_t1 : mLst n m w b k 1 = mLst n m w b k 0 + 1 := by
  have : ∀ i : Nat, mLe n w b k 1 i = mLe n w b k 0 i + 1 := by
    intro i
    induction i with
    | zero => exact key_t1
    | succ i ih =>
      show min (mLe n w b k 1 i) _ = min (mLe n w b k 0 i) _ + 1
      rw [ih, key_t1]
      omega
  exact this _
theorem k_t1 {K : Nat} (h : kT K = 0) : kW n ((K + 1 : Nat) : Int) = kW n K ∧ kB n ((K + 1 : Nat) : Int) = kB n K ∧ kK n ((K + 1 : Nat) : Int) = kK n K ∧ kT ((K + 1 : Nat) : Int) = 1 := by
  unfold kT at h
  have e : ((K + 1 : Nat) : Int) / 2 = (K : Int) / 2 := by omega
  unfold kW kB kK kT
  rw [e]
  exact ⟨rfl, rfl, rfl, by omega⟩
theorem al3_ev (hN : mN n) : mAl3 n % 2 = 0 := by
  unfold mAl3
  rcases mN_cases hN with rfl | rfl | rfl | rfl | rfl <;> rfl
/-- the same men, Black to move -/
theorem twin (hN : mN n) {K : Nat} (hK : (K : Int) < mAl3 n) (hP : cP n m K) (h : kT K = 0) : ((K + 1 : Nat) : Int) < mAl3 n ∧ cP n m (K + 1) ∧ cK n m ((K + 1 : Nat) : Int) = cK n m K + 1 := by
  obtain ⟨a1, a2, a3, a4⟩ := k_t1 (n := n) h
  have ev := al3_ev hN
  obtain ⟨h1, h2⟩ := hP
  rw [h] at h1 h2
  have h0 : (K : Int) % 2 = 0 := h
  have e : ((K + 1 : Nat) : Int) / 2 = (K : Int) / 2 := by omega
  refine ⟨by omega, ⟨?_, ?_⟩, ?_⟩
  · rw [a1, a2, a3, a4]
    exact ⟨h1.1, h1.2.1, h1.2.2.1, h1.2.2.2.1, h1.2.2.2.2.1, Or.inl rfl⟩
  · rw [a1, a2, a3, a4, lst_t1, h2]
    push_cast
    rfl
  · unfold cK
    rw [e]
    omega
theorem twin_of (hN : mN n) {K : Nat} (h : kT K = 0) (hP : cP n m (K + 1)) (hL : mLg n m (kW n K) (kB n K) (kK n K) 0) : cP n m K := by
  obtain ⟨a1, a2, a3, a4⟩ := k_t1 (n := n) h
  obtain ⟨h1, h2⟩ := hP
  rw [a1, a2, a3, a4, lst_t1] at h2
  refine ⟨by rw [h]; exact hL, ?_⟩
  rw [h]
  omega
/-- better to wait, whoever is to move -/
theorem sz_two (hN : mN n) : cN (ctB n m 1 (-3)) (mAl3 n).toNat = cN (ctB n m 0 (-3)) (mAl3 n).toNat := by
  have ev := al3_ev hN
  have hA := mAl3_r hN
  have pair : ∀ i : Nat, ctB n m 0 (-3) (2 * i) = ctB n m 1 (-3) (2 * i + 1) := fun i => by
    have k0 : kT ((2 * i : Nat) : Int) = 0 := by unfold kT; omega
    obtain ⟨a1, a2, a3, a4⟩ := k_t1 (n := n) k0
    have iff : ctP n m 0 (-3) (2 * i) ↔ ctP n m 1 (-3) (2 * i + 1) := by
      constructor
      · rintro ⟨h1, h2, h3⟩
        rcases h3 with h3 | ⟨-, h3⟩ | ⟨h3, -⟩
        · omega
        · obtain ⟨s1, s2, s3⟩ := h3
          rw [k0] at s1
          have hp := h1
          obtain ⟨q1, q2⟩ := h1
          rw [k0] at q1 q2
          refine ⟨⟨?_, ?_⟩, a4, Or.inr (Or.inl ⟨rfl, ?_, ?_, ?_⟩)⟩
          · rw [a1, a2, a3, a4]; exact s1
          · rw [a1, a2, a3, a4, lst_t1, q2]; push_cast; rfl
          · rw [a1, a2, a3, a4]; exact q1
          · rw [a1, a2, a3]; exact s2
          · rw [a1, a2, a3]; exact s3
        · omega
      · rintro ⟨h1, h2, h3⟩
        rcases h3 with h3 | ⟨-, h3⟩ | ⟨h3, -⟩
        · omega
        · obtain ⟨s1, s2, s3⟩ := h3
          rw [a1, a2, a3, a4] at s1
          rw [a1, a2, a3] at s2 s3
          refine ⟨twin_of hN k0 h1 s1, k0, Or.inr (Or.inl ⟨rfl, ?_, s2, s3⟩)⟩
          have := h1.1
          rw [a1, a2, a3, a4] at this
          rw [k0]
          exact this
        · omega
    cases g : ctB n m 1 (-3) (2 * i + 1)
    · exact ctB_f.mpr (fun g2 => ctB_f.mp g (iff.mp g2))
    · exact ctB_t.mpr (iff.mpr (ctB_t.mp g))
  have z0 : ∀ i : Nat, ctB n m 0 (-3) (2 * i + 1) = false := fun i => ctB_f.mpr (fun g => by have := g.2.1; unfold kT at this; omega)
  have z1 : ∀ i : Nat, ctB n m 1 (-3) (2 * i) = false := fun i => ctB_f.mpr (fun g => by have := g.2.1; unfold kT at this; omega)
  have all : ∀ i : Nat, cN (ctB n m 1 (-3)) (2 * i) = cN (ctB n m 0 (-3)) (2 * i) := by
    intro i
    induction i with
    | zero => rfl
    | succ i ih =>
      rw [show 2 * (i + 1) = 2 * i + 1 + 1 by omega]
      show cN _ (2 * i) + cond (ctB n m 1 (-3) (2 * i)) 1 0 + cond (ctB n m 1 (-3) (2 * i + 1)) 1 0 = cN _ (2 * i) + cond (ctB n m 0 (-3) (2 * i)) 1 0 + cond (ctB n m 0 (-3) (2 * i + 1)) 1 0
      rw [ih, z0, z1, pair]
      simp
  have := all ((mAl3 n).toNat / 2)
  rw [show 2 * ((mAl3 n).toNat / 2) = (mAl3 n).toNat by omega] at this
  exact this
def lgX (n m t x best first : Int) : Prop := (∀ K : Nat, (K : Int) < mAl3 n → cP n m K → kT K = t → cK n m K < x → mDk n m K ≤ best) ∧ ((best = -1 ∧ first = -1) ∨ ∃ K : Nat, first = (cN (cPb n m) K : Nat) ∧ (K : Int) < mAl3 n ∧ cP n m K ∧ kT K = t ∧ cK n m K < x ∧ mDk n m K = best ∧ 0 ≤ best ∧ ∀ K' : Nat, K' < K → cP n m K' → kT K' = t → mDk n m K' < best)
/-- what is summed up of the cells before x -/
def smI (n m : Int) (T : Nat → Int → Int) (x : Int) : Prop := (∀ t, (t = 0 ∨ t = 1) → T 4 t = (cX n m (ctB n m t (-2)) x : Nat) ∧ T 3 t = (cX n m (ctB n m t (-1)) x : Nat) ∧ (∀ d, 0 ≤ d → d ≤ 126 → T 10 (2 * d + t) = (cX n m (ctB n m t d) x : Nat)) ∧ lgX n m t x (T 5 t) (T 6 t)) ∧ T 7 (-1) = (cX n m (ctB n m 0 (-3)) x : Nat)
theorem smI_void {T : Nat → Int → Int} {x : Int} (h : smI n m T x) (hv : ∀ K : Nat, (K : Int) < mAl3 n → cP n m K → cK n m K ≠ x) : smI n m T (x + 1) := by
  refine ⟨fun t ht => ?_, by rw [cX_void hv]; exact h.2⟩
  obtain ⟨h1, h2, h3, h4, h5⟩ := h.1 t ht
  refine ⟨by rw [cX_void hv]; exact h1, by rw [cX_void hv]; exact h2, fun d d1 d2 => by rw [cX_void hv]; exact h3 d d1 d2, fun K k1 k2 k3 k4 => h4 K k1 k2 k3 ?_, h5.imp id (fun ⟨K, a1, a2, a3, a4, a5, a6⟩ => ⟨K, a1, a2, a3, a4, by omega, a6⟩)⟩
  have := hv K k1 k2
  omega
theorem ct_cond {t d : Int} {K : Nat} (hP : cP n m K) : ((cond (ctB n m t d K) 1 0 : Nat) : Int) = @ite _ (kT K = t ∧ (d = -2 ∨ (d = -3 ∧ mSz n m K) ∨ (-1 ≤ d ∧ mDk n m K = d))) (Classical.propDecidable _) 1 0 := by
  by_cases g : kT K = t ∧ (d = -2 ∨ (d = -3 ∧ mSz n m K) ∨ (-1 ≤ d ∧ mDk n m K = d))
  · rw [if_pos g, ctB_t.mpr ⟨hP, g⟩]; rfl
  · rw [if_neg g, ctB_f.mpr (fun g2 => g g2.2)]; rfl
theorem smI_key (hN : mN n) {T T' : Nat → Int → Int} {K : Nat} (hK : (K : Int) < mAl3 n) (hP : cP n m K) (h : smI n m T (cK n m K)) (h4 : ∀ t, T' 4 t = T 4 t + if t = kT K then 1 else 0) (h3 : ∀ t, T' 3 t = T 3 t + if t = kT K ∧ mDk n m K = -1 then 1 else 0) (h10 : ∀ i, T' 10 i = T 10 i + if i = 2 * mDk n m K + kT K ∧ mDk n m K ≠ -1 then 1 else 0) (h7 : T' 7 (-1) = T 7 (-1) + @ite _ (kT K = 0 ∧ mSz n m K) (Classical.propDecidable _) 1 0) (h5 : ∀ t, (t ≠ kT K ∨ mDk n m K ≤ T 5 t) → T' 5 t = T 5 t ∧ T' 6 t = T 6 t) (h6 : T 5 (kT K) < mDk n m K → T' 5 (kT K) = mDk n m K ∧ T' 6 (kT K) = (cN (cPb n m) K : Nat)) : smI n m T' (cK n m K + 1) := by
  have ge : -1 ≤ mDk n m K := mDs_ge n m _ _ _ _
  obtain ⟨p1, p2, p3, p4, p5, p6⟩ := key_pos hN hK hP
  refine ⟨fun t ht => ?_, ?_⟩
  · obtain ⟨a1, a2, a3, a4⟩ := h.1 t ht
    have c1 := ct_cond (t := t) (d := -2) hP
    have c2 := ct_cond (t := t) (d := -1) hP
    refine ⟨?_, ?_, fun d d1 d2 => ?_, ?_⟩
    · rw [cX_key hN hK hP, h4, a1]
      push_cast
      rw [c1]
      congr 1
      by_cases g : t = kT K
      · rw [if_pos g, if_pos ⟨g.symm, Or.inl rfl⟩]
      · rw [if_neg g, if_neg (fun g2 => g g2.1.symm)]
    · rw [cX_key hN hK hP, h3, a2]
      push_cast
      rw [c2]
      congr 1
      by_cases g : t = kT K ∧ mDk n m K = -1
      · rw [if_pos g, if_pos ⟨g.1.symm, Or.inr (Or.inr ⟨by omega, g.2⟩)⟩]
      · rw [if_neg g, if_neg (fun g2 => g ⟨g2.1.symm, by rcases g2.2 with g3 | g3 | g3 <;> omega⟩)]
    · have c3 := ct_cond (t := t) (d := d) hP
      rw [cX_key hN hK hP, h10, a3 d d1 d2]
      push_cast
      rw [c3]
      congr 1
      by_cases g : t = kT K ∧ mDk n m K = d
      · rw [if_pos (by omega), if_pos ⟨g.1.symm, Or.inr (Or.inr ⟨by omega, g.2⟩)⟩]
      · rw [if_neg (by omega), if_neg (fun g2 => g ⟨g2.1.symm, by rcases g2.2 with g3 | g3 | g3 <;> omega⟩)]
    · have cut : ∀ K' : Nat, (K' : Int) < mAl3 n → cP n m K' → cK n m K' < cK n m K + 1 → cK n m K' < cK n m K ∨ K' = K := fun K' k1 k2 k3 => by
        rcases Int.lt_or_eq_of_le (Int.lt_add_one_iff.mp k3) with g | g
        · exact Or.inl g
        · exact Or.inr (cK_inj hN hK hP k1 k2 g)
      by_cases g : t ≠ kT K ∨ mDk n m K ≤ T 5 t
      · obtain ⟨e5, e6⟩ := h5 t g
        rw [e5, e6]
        refine ⟨fun K' k1 k2 k3 k4 => ?_, a4.2.imp id (fun ⟨K, a1, a2, a3, a4, a5, a6⟩ => ⟨K, a1, a2, a3, a4, by omega, a6⟩)⟩
        rcases cut K' k1 k2 k4 with g2 | g2
        · exact a4.1 K' k1 k2 k3 g2
        · subst g2
          rcases g with g | g
          · exact absurd k3.symm g
          · exact g
      · have gt : t = kT K := Classical.byContradiction fun g2 => g (Or.inl g2)
        have gl : T 5 (kT K) < mDk n m K := by
          rw [← gt]
          apply Classical.byContradiction
          intro g2
          exact g (Or.inr (by omega))
        obtain ⟨e5, e6⟩ := h6 gl
        rw [gt, e5, e6]
        rw [gt] at a4
        have b1 : -1 ≤ T 5 (kT K) := by
          rcases a4.2 with g2 | ⟨_, _, _, _, _, _, _, g2, _⟩ <;> omega
        refine ⟨fun K' k1 k2 k3 k4 => ?_, Or.inr ⟨K, rfl, hK, hP, rfl, by omega, rfl, by omega, fun K' k1 k2 k3 => ?_⟩⟩
        · rcases cut K' k1 k2 k4 with g2 | g2
          · have := a4.1 K' k1 k2 k3 g2; omega
          · subst g2; exact Int.le_refl _
        · have kl : (K' : Int) < mAl3 n := by omega
          have := a4.1 K' kl k2 k3 ((cK_lt hN hK hP kl k2).mpr k1)
          omega
  · have c4 := ct_cond (t := 0) (d := -3) hP
    rw [cX_key hN hK hP, h7, h.2]
    push_cast
    rw [c4]
    congr 1
    by_cases g : kT K = 0 ∧ mSz n m K
    · rw [if_pos g, if_pos ⟨g.1, Or.inr (Or.inl ⟨rfl, g.2⟩)⟩]
    · rw [if_neg g, if_neg (fun g2 => g ⟨g2.1, by
        rcases g2.2 with g3 | g3 | g3
        · omega
        · exact g3.2
        · omega⟩)]
end SU
section SV
variable {kd : gKd} {ln : gLn} {M : gM} {o q z n m : Int}
theorem sX5_sumUpCell {post : gM → Prop} {K : Nat} (hN : mN n) (hm : 0 ≤ m ∧ m ≤ 2) (hL : tbL n m (ln z)) (hV : tbV n m (M z) (fun K => mDk n m K)) (hI : smI n m (M z) (cK n m K)) (hK : (K : Int) < mAl3 n) (hP : cP n m K) (h : ∀ M', Ch z [3, 4, 5, 6, 7, 10] M M' → smI n m (M' z) (cK n m K + 1) → post M') : wX5_sumUpCell kd ln post z (cK n m K) (cN (cPb n m) K : Nat) M := by
  obtain ⟨l1, l3, l4, l5, l6, l9, l10⟩ := hL
  obtain ⟨⟨r1, r2, r3⟩, V⟩ := tb_key hN hV hK hP
  obtain ⟨p1, p2, p3, p4, p5, p6⟩ := key_pos hN hK hP
  have d5 := (cell_dec hN hK hP).2.2.2.2.1
  have hA := mAl3_r hN
  have le : mDk n m K ≤ 97 := mDs_le (mBd_all hN m hm) p1 p2 p3
  have ge : -1 ≤ mDk n m K := mDs_ge n m _ _ _ _
  have tt : kT K = 0 ∨ kT K = 1 := by omega
  obtain ⟨i1, i2, i3, i4⟩ := hI.1 (kT K) tt
  have x1 := cX_le (n := n) (m := m) (ctB n m (kT K) (-2)) (cK n m K)
  have x2 := cX_le (n := n) (m := m) (ctB n m (kT K) (-1)) (cK n m K)
  have x3 := cX_le (n := n) (m := m) (ctB n m (kT K) (mDk n m K)) (cK n m K)
  have x4 := cX_le (n := n) (m := m) (ctB n m 0 (-3)) (cK n m K)
  have x7 := hI.2
  have cnum := cN_le (cPb n m) K
  unfold wX5_sumUpCell wX5_turnOf wX5_sumUpCell_63 wX5_sumUpCell_64
  dsimp only
  rw [giand_tn (by omega), d5, l1, l3, l4, l5, l6, l10, V]
  refine ⟨by omega, fun _ => ⟨by omega, ⟨r1, r2⟩, fun _ v8 e8 => ?_⟩⟩
  subst e8
  simp only [gu_rd, true_and, Nat.reduceEqDiff, false_and, and_false, if_false, and_true, and_self, if_true]
  refine ⟨by omega, by omega, fun _ => ⟨by omega, fun g => ?_, fun g => ?_⟩⟩
  · have i3' := i3 (mDk n m K) (by omega) (by omega)
    have nsz : ¬ (kT K = 0 ∧ mSz n m K) := fun ⟨g1, g2⟩ => by
      have := g2.2.1
      unfold mDk at g
      rw [g1] at g
      exact g this
    refine ⟨by omega, by omega, fun _ => ⟨by omega, by omega, by omega, fun _ => ⟨fun g2 => h _ (Ch.up (Ch.up Ch.rf (by decide) _ _) (by decide) _ _) (smI_key hN hK hP hI (fun t => ?_) (fun t => ?_) (fun i => ?_) ?_ (fun t _ => ?_) (fun g3 => ?_)), fun g2 => ⟨by omega, by omega, by omega, h _ (Ch.up (Ch.up (Ch.up (Ch.up Ch.rf (by decide) _ _) (by decide) _ _) (by decide) _ _) (by decide) _ _) (smI_key hN hK hP hI (fun t => ?_) (fun t => ?_) (fun i => ?_) ?_ (fun t g3 => ?_) (fun g3 => ?_))⟩⟩⟩⟩
    · rw [gu_k (by decide), gu_v]
      by_cases e : t = kT K
      · rw [if_pos e, if_pos e, e]
      · rw [if_neg e, if_neg e, Int.add_zero]
    · rw [gu_k (by decide), gu_k (by decide), if_neg (fun e => g e.2), Int.add_zero]
    · rw [gu_v, gu_k (by decide)]
      by_cases e : i = 2 * mDk n m K + kT K
      · rw [if_pos e, if_pos ⟨e, g⟩, e]
      · rw [if_neg e, if_neg (fun e2 => e e2.1), Int.add_zero]
    · rw [gu_k (by decide), gu_k (by decide), if_neg nsz, Int.add_zero]
    · rw [gu_k (by decide), gu_k (by decide), gu_k (by decide), gu_k (by decide)]
      exact ⟨rfl, rfl⟩
    · omega
    · rw [gu_k (by decide), gu_k (by decide), gu_k (by decide), gu_v]
      by_cases e : t = kT K
      · rw [if_pos e, if_pos e, e]
      · rw [if_neg e, if_neg e, Int.add_zero]
    · rw [gu_k (by decide), gu_k (by decide), gu_k (by decide), gu_k (by decide), if_neg (fun e => g e.2), Int.add_zero]
    · rw [gu_k (by decide), gu_k (by decide), gu_v, gu_k (by decide)]
      by_cases e : i = 2 * mDk n m K + kT K
      · rw [if_pos e, if_pos ⟨e, g⟩, e]
      · rw [if_neg e, if_neg (fun e2 => e e2.1), Int.add_zero]
    · rw [gu_k (by decide), gu_k (by decide), gu_k (by decide), gu_k (by decide), if_neg nsz, Int.add_zero]
    · have e : t ≠ kT K := fun e => by
        rcases g3 with g3 | g3
        · exact g3 e
        · rw [e] at g3; omega
      rw [gu_k (by decide), gu_i e, gu_k (by decide), gu_k (by decide), gu_i e, gu_k (by decide), gu_k (by decide), gu_k (by decide)]
      exact ⟨rfl, rfl⟩
    · rw [gu_k (by decide), gu_s, gu_s]
      exact ⟨rfl, rfl⟩
  · have fin : ∀ v : Int, v = @ite _ (kT K = 0 ∧ mSz n m K) (Classical.propDecidable _) 1 0 → smI n m ((gu (gu (gu M z 4 (kT K) (M z 4 (kT K) + 1)) z 3 (kT K) (M z 3 (kT K) + 1)) z 7 (-1) (M z 7 (-1) + v)) z) (cK n m K + 1) := fun v ev => by
      refine smI_key hN hK hP hI (fun t => ?_) (fun t => ?_) (fun i => ?_) ?_ (fun t _ => ?_) (fun g3 => ?_)
      · rw [gu_k (by decide), gu_k (by decide), gu_v]
        by_cases e : t = kT K
        · rw [if_pos e, if_pos e, e]
        · rw [if_neg e, if_neg e, Int.add_zero]
      · rw [gu_k (by decide), gu_v, gu_k (by decide)]
        by_cases e : t = kT K
        · rw [if_pos e, if_pos ⟨e, g⟩, e]
        · rw [if_neg e, if_neg (fun e2 => e e2.1), Int.add_zero]
      · rw [gu_k (by decide), gu_k (by decide), gu_k (by decide), if_neg (fun e => e.2 g), Int.add_zero]
      · rw [gu_s, ev]
      · rw [gu_k (by decide), gu_k (by decide), gu_k (by decide), gu_k (by decide), gu_k (by decide), gu_k (by decide)]
        exact ⟨rfl, rfl⟩
      · exfalso
        rcases i4.2 with g4 | ⟨_, _, _, _, _, _, _, g4, _⟩ <;> omega
    have ch : ∀ v : Int, Ch z [3, 4, 5, 6, 7, 10] M (gu (gu (gu M z 4 (kT K) (M z 4 (kT K) + 1)) z 3 (kT K) (M z 3 (kT K) + 1)) z 7 (-1) (M z 7 (-1) + v)) := fun v => Ch.up (Ch.up (Ch.up Ch.rf (by decide) _ _) (by decide) _ _) (by decide) _ _
    refine ⟨by omega, by omega, fun _ => ⟨by omega, fun _ => ⟨fun g2 => ⟨by omega, h _ (ch 0) (fin 0 (by rw [if_neg (fun g3 => g2 g3.1)]))⟩, fun g2 => ?_⟩⟩⟩
    obtain ⟨t1, t2, t3⟩ := twin hN hK hP g2
    obtain ⟨⟨u1, u2, u3⟩, V2⟩ := tb_key hN hV t1 t2
    rw [t3] at u1 u2 V2
    obtain ⟨a1, a2, a3, a4⟩ := k_t1 (n := n) g2
    have dk : mDk n m ((K + 1 : Nat) : Int) = mDs n m (kW n K) (kB n K) (kK n K) 1 := by
      unfold mDk
      rw [a1, a2, a3, a4]
    rw [V2, dk]
    have ge1 := mDs_ge n m (kW n K) (kB n K) (kK n K) 1
    have lg1 : mLg n m (kW n K) (kB n K) (kK n K) (1 - kT K) := by
      rw [g2]
      have := t2.1
      rw [a1, a2, a3, a4] at this
      exact this
    have z0 : mDs n m (kW n K) (kB n K) (kK n K) 0 = -1 := by
      unfold mDk at g
      rw [g2] at g
      exact g
    refine ⟨by omega, fun _ => ⟨fun g3 => ⟨by omega, h _ (ch 0) (fin 0 (by rw [if_neg (fun g4 => g4.2.2.2 (by omega))]))⟩, fun g3 => ⟨by omega, h _ (ch 1) (fin 1 (by rw [if_pos ⟨g2, lg1, z0, by omega⟩]))⟩⟩⟩
/-- what a table tells of all its positions -/
def tbS (n m : Int) (T : Nat → Int → Int) : Prop := smI n m T (pn n m (n * n * (n * n)) * 128)
theorem sX5_sumUp {post : gM → Prop} (hN : mN n) (hm : 0 ≤ m ∧ m ≤ 2) (hL : tbL n m (ln z)) (hV : tbV n m (M z) (fun K => mDk n m K)) (hZ : tbZ (M z)) (h : ∀ M', Ch z [3, 4, 5, 6, 7, 10] M M' → tbS n m (M' z) → post M') : wX5_sumUp kd ln post z M := by
  have hA := mAl3_r hN
  have hSS : n * n * (n * n) ≤ 4096 ∧ 0 ≤ n * n * (n * n) := by rcases mN_cases hN with rfl | rfl | rfl | rfl | rfl <;> omega
  have pmx := pn_r (m := m) hN (c := n * n * (n * n)) (by omega)
  have loop : ∀ (j x : Nat) (M' : gM), (x : Int) ≤ pn n m (n * n * (n * n)) * 128 → Ch z [3, 4, 5, 6, 7, 10] M M' → smI n m (M' z) x → pn n m (n * n * (n * n)) * 128 - x < j → wX5_sumUp_4 kd ln post z j (cX n m (fun _ => true) x : Nat) x M' := by
    intro j
    induction j with
    | zero => intro x M' h1 h2 h3 h4; omega
    | succ j ih =>
      intro x M' h1 h2 h3 h4
      have e1 : M' z 1 = M z 1 := h2.at (by decide)
      have hV' : tbV n m (M' z) (fun K => mDk n m K) := by unfold tbV; rw [e1]; exact hV
      unfold wX5_sumUp_4 wX5_sumUp_33
      rw [hL.1]
      refine ⟨by omega, fun _ => ⟨by omega, fun g => ?_, fun g => ⟨by omega, fun _ => ?_⟩⟩⟩
      · have : (x : Int) = pn n m (n * n * (n * n)) * 128 := by omega
        rw [this] at h3
        exact h M' h2 h3
      · rcases tb_cell hN hV' (x := x) (by omega) with ⟨t1, t2⟩ | ⟨K, t1, t2, t3, t4⟩
        · refine ⟨fun _ => ?_, fun g2 => absurd t1 g2⟩
          have := ih (x + 1) M' (by omega) h2 (by push_cast; exact smI_void h3 t2) (by omega)
          push_cast at this
          rw [cX_void t2] at this
          exact this
        · have ge : -1 ≤ mDk n m K := mDs_ge n m _ _ _ _
          refine ⟨fun g2 => by omega, fun _ => ?_⟩
          rw [← t3] at h3
          have num := cX_num hN t1 t2
          have sc := sX5_sumUpCell (kd := kd) (ln := ln) (post := fun M11 => wX5_sumUp_4 kd ln post z j ((cX n m (fun _ => true) x : Nat) + 1) ((x : Int) + 1) M11) hN hm hL hV' h3 t1 t2 (fun M'' c1 c2 => ?_)
          · rw [← num, t3] at sc
            exact sc
          · have := ih (x + 1) M'' (by omega) (h2.tr c1) (by push_cast; rw [← t3]; exact c2) (by omega)
            push_cast at this
            rw [← t3, cX_key hN t1 t2, t3] at this
            exact this
  unfold wX5_sumUp
  refine ⟨(pn n m (n * n * (n * n)) * 128).toNat + 1, ?_⟩
  have := loop ((pn n m (n * n * (n * n)) * 128).toNat + 1) 0 M (by omega) Ch.rf ⟨fun t ht => ?_, ?_⟩ (by omega)
  · rw [show ((0 : Nat) : Int) = 0 from rfl, cX_0 hN] at this
    exact this
  · obtain ⟨z1, z2, z3⟩ := hZ
    obtain ⟨y1, y2, y3, y4⟩ := z2 t (by omega)
    rw [show ((0 : Nat) : Int) = 0 from rfl, cX_0 hN, cX_0 hN, y1, y2, y3, y4]
    refine ⟨rfl, rfl, fun d d1 d2 => ?_, fun K k1 k2 k3 k4 => ?_, Or.inl ⟨rfl, rfl⟩⟩
    · rw [cX_0 hN, z3 _ (by omega)]; rfl
    · have := (cell_dec hN k1 k2).2.2.2.2.2.2.2.1
      omega
  · rw [show ((0 : Nat) : Int) = 0 from rfl, cX_0 hN]
    exact hZ.1
end SV
