section TN
variable {kd : gKd} {ln : gLn} {M : gM} {o q z n m w b k t : Int}
/-- a table that is made -/
def tbD (n m : Int) (kd : gKd) (ln : gLn) (M : gM) (o q z : Int) : Prop := tbC n m kd ln M o q z ∧ tbL n m (ln z) ∧ tbV n m (M z) (fun K => mDk n m K) ∧ tbB n m (M z) ∧ tbS n m (M z) ∧ (kd z = 5 ∧ 0 < z)
theorem bfr_all (hN : mN n) : bfr n m (n * n * (n * n)).toNat = cN (cPb n m) (mAl3 n).toNat := by
  have es := S2_e hN
  have hSS : 0 ≤ n * n * (n * n) := by rcases mN_cases hN with rfl | rfl | rfl | rfl | rfl <;> omega
  unfold bfr
  congr 1
  have : ((2 * S2 n * (n * n * (n * n)).toNat : Nat) : Int) = mAl3 n := by
    push_cast
    rw [es, Int.toNat_of_nonneg hSS]
    unfold mAl3
    rw [← Int.mul_assoc]
  omega
theorem tb_bef (hN : mN n) {T : Nat → Int → Int} (hB : tbB n m T) {p : Nat} (hp : (p : Int) ≤ pn n m (n * n * (n * n))) : T 9 p = (cX n m (fun _ => true) ((p : Int) * 128) : Nat) := by
  have hSS : n * n * (n * n) ≤ 4096 ∧ 0 ≤ n * n * (n * n) := by rcases mN_cases hN with rfl | rfl | rfl | rfl | rfl <;> omega
  obtain ⟨c, c1, c2⟩ : ∃ c : Nat, (c : Int) ≤ n * n * (n * n) ∧ pn n m c = p := by
    rcases Int.lt_or_eq_of_le hp with g | g
    · obtain ⟨c, x1, x2, x3⟩ := cN_nth (p := cqb n m) (k := p) (N := (n * n * (n * n)).toNat) (by unfold pn at g; omega)
      exact ⟨c, by omega, by unfold pn; rw [show ((c : Nat) : Int).toNat = c by omega, x3]⟩
    · refine ⟨(n * n * (n * n)).toNat, by omega, ?_⟩
      rw [Int.toNat_of_nonneg hSS.2, g]
  have := hB c c1
  rw [c2] at this
  rw [this, ← cX_pair hN c1, c2]
theorem sX5_size {post : Int → gM → Prop} (hN : mN n) (hC : tbC n m kd ln M o q z) (hL : tbL n m (ln z)) (hB : tbB n m (M z)) (h : post (cN (cPb n m) (mAl3 n).toNat : Nat) M) : wX5_size kd ln post z M := by
  have hSS : n * n * (n * n) ≤ 4096 ∧ 0 ≤ n * n * (n * n) := by rcases mN_cases hN with rfl | rfl | rfl | rfl | rfl <;> omega
  have pmx := pn_r (m := m) hN (c := n * n * (n * n)) (by omega)
  obtain ⟨-, ⟨b1, b2, b3, b4⟩, ⟨c1, c2, c3, c4⟩, -⟩ := hC
  have e := hB (n * n * (n * n)).toNat (by omega)
  rw [Int.toNat_of_nonneg hSS.2, bfr_all hN] at e
  unfold wX5_size
  rw [c2, b3.2.1, hL.2.2.2.2.2.1, e]
  exact ⟨by omega, b4, fun _ => ⟨by omega, fun _ => h⟩⟩
theorem sX5_numberOf {post : Int → gM → Prop} (hN : mN n) (hD : tbD n m kd ln M o q z) (hw : mOn n w) (hb : mOn n b) (hk : mOn n k) (ht : 0 ≤ t ∧ t ≤ 1) (hLg : mLg n m w b k t) (h : post (cN (cPb n m) (mLst n m w b k t).toNat : Nat) M) : wX5_numberOf kd ln post z w b k t M := by
  obtain ⟨hC, hL, hV, hB, -, -⟩ := hD
  have hA := mAl3_r hN
  obtain ⟨⟨a1, a2, a3, a4⟩, ⟨b1, b2, b3, b4⟩, ⟨c1, c2, c3, c4⟩, -⟩ := hC
  obtain ⟨K, k1, k2, k3, k4, k5, -⟩ := lst_cP hN hw hb hk ht hLg
  rw [k1, Int.toNat_natCast] at h
  obtain ⟨⟨r1, r2, r3⟩, V⟩ := tb_key hN hV k2 k3
  obtain ⟨X, eX⟩ : ∃ X : Nat, cK n m K = X := ⟨(cK n m K).toNat, by omega⟩
  have loop : ∀ (j x : Nat), x ≤ X → X - x < j → wX5_numberOf_45 kd ln post z w b k t j X (cX n m (fun _ => true) x : Nat) x M := by
    intro j
    induction j with
    | zero => intro x h1 h2; omega
    | succ j ih =>
      intro x h1 h2
      have le := cX_le (n := n) (m := m) (fun _ => true) x
      unfold wX5_numberOf_45 wX5_numberOf_71
      rw [hL.1]
      refine ⟨by omega, by omega, fun g => ⟨by omega, ?_⟩, fun g => ⟨by omega, by omega, fun _ => ?_⟩⟩
      · have : x = X := by omega
        rw [this, ← eX, cX_num hN k2 k3]
        exact h
      · rcases tb_cell hN hV (x := x) (by omega) with ⟨t1, t2⟩ | ⟨K', t1, t2, t3, t4⟩
        · refine ⟨fun _ v28 e28 => ?_, fun g2 => absurd t1 g2⟩
          have := ih (x + 1) (by omega) (by omega)
          push_cast at this
          rw [cX_void t2] at this
          rw [e28, Int.add_zero]
          exact this
        · have ge : -1 ≤ mDk n m K' := mDs_ge n m _ _ _ _
          refine ⟨fun g2 => by omega, fun _ v28 e28 => ?_⟩
          have := ih (x + 1) (by omega) (by omega)
          push_cast at this
          rw [← t3, cX_key hN t1 t2, t3] at this
          rw [e28]
          exact this
  unfold wX5_numberOf
  rw [c2]
  refine ⟨b4, sX2_cellOf hN a1 a2 a3 (by omega) b1 b2 b3 hw hb hk ht (fun hv _ => ⟨fun _ => ?_, fun g => ?_⟩) (fun hv => absurd (lg_v hLg) hv)⟩
  · rw [k1, eX]
    unfold wX5_pairOf
    dsimp only
    have e9 := tb_bef hN hB (p := X / 128) (by omega)
    rw [hL.2.2.2.2.2.1, show (X : Int) / 128 = ((X / 128 : Nat) : Int) by omega, e9]
    refine ⟨by omega, by omega, by omega, fun _ => ⟨by omega, fun _ v14 e14 => ⟨by omega, by omega, fun _ v18 e18 => ?_⟩⟩⟩
    rw [e14, e18, show ((X / 128 : Nat) : Int) * 128 = ((X / 128 * 128 : Nat) : Int) by omega]
    exact ⟨X + 1, loop (X + 1) (X / 128 * 128) (by omega) (by omega)⟩
  · rw [k1] at g
    omega
theorem sX5_cellNumbered {post : Int → gM → Prop} {kk : Int} (hN : mN n) (hD : tbD n m kd ln M o q z) (hkr : rng kk) (hbad : ¬ (0 ≤ kk ∧ kk < (cN (cPb n m) (mAl3 n).toNat : Nat)) → post (-1) M) (h : ∀ K : Nat, (K : Int) < mAl3 n → cP n m K → (cN (cPb n m) K : Nat) = kk → post (cK n m K) M) : wX5_cellNumbered kd ln post z kk M := by
  obtain ⟨hC, hL, hV, hB, -, -⟩ := hD
  have hA := mAl3_r hN
  have hC0 := hC
  obtain ⟨⟨a1, a2, a3, a4⟩, ⟨b1, b2, b3, b4⟩, ⟨c1, c2, c3, c4⟩, -⟩ := hC0
  have hSS : n * n * (n * n) ≤ 4096 ∧ 0 ≤ n * n * (n * n) := by rcases mN_cases hN with rfl | rfl | rfl | rfl | rfl <;> omega
  have pmx := pn_r (m := m) hN (c := n * n * (n * n)) (by omega)
  obtain ⟨P, eP⟩ : ∃ P : Nat, pn n m (n * n * (n * n)) = P := ⟨(pn n m (n * n * (n * n))).toNat, by omega⟩
  have size : cX n m (fun _ => true) ((P : Int) * 128) = cN (cPb n m) (mAl3 n).toNat := by
    have := cX_pair (m := m) hN (c := (n * n * (n * n)).toNat) (by omega)
    rw [Int.toNat_of_nonneg hSS.2, eP, bfr_all hN] at this
    exact this
  have csz := cN_le (cPb n m) (mAl3 n).toNat
  unfold wX5_cellNumbered
  refine ⟨hkr, fun g => hbad (by omega), fun g => sX5_size hN hC hL hB fun _ => ⟨fun g2 => ?_, fun g2 => hbad (by omega)⟩⟩
  obtain ⟨u, eu⟩ : ∃ u : Nat, kk = u := ⟨kk.toNat, by omega⟩
  subst eu
  have P1 : 1 ≤ P := by
    rcases Nat.eq_zero_or_pos P with g3 | g3
    · exfalso
      rw [g3] at size
      rw [show ((0 : Nat) : Int) * 128 = 0 by omega, cX_0 hN] at size
      omega
    · exact g3
  have scan : ∀ (p : Nat), p < P → u < cX n m (fun _ => true) ((p + 1 : Nat) * 128 : Int) → ∀ (j x : Nat), x ≤ (p + 1) * 128 → cX n m (fun _ => true) x ≤ u → (p + 1) * 128 - x < j → wX5_cellNumbered_36 kd ln post z u j p ((u : Int) - (cX n m (fun _ => true) x : Nat)) x M := by
    intro p hp hu j
    induction j with
    | zero => intro x h1 h2 h3; omega
    | succ j ih =>
      intro x h1 h2 h3
      unfold wX5_cellNumbered_36 wX5_cellNumbered_66
      rw [hL.1, eP]
      refine ⟨by omega, by omega, fun g3 => ?_, fun g3 => ⟨by omega, by omega, fun _ => ?_⟩⟩
      · exfalso
        have : (x : Int) = ((p + 1 : Nat) * 128 : Int) := by push_cast; omega
        rw [this] at h2
        omega
      · rcases tb_cell hN hV (x := x) (by omega) with ⟨t1, t2⟩ | ⟨K', t1, t2, t3, t4⟩
        · refine ⟨fun _ v24 e24 => ⟨by omega, fun g4 => ?_, fun g4 => by omega⟩, fun g4 => absurd t1 g4⟩
          have := ih (x + 1) (by omega) (by push_cast; rw [cX_void t2]; exact h2) (by omega)
          push_cast at this
          rw [cX_void t2] at this
          rw [e24, Int.sub_zero]
          exact this
        · have ge : -1 ≤ mDk n m K' := mDs_ge n m _ _ _ _
          have ck := cX_key hN (p := fun _ => true) t1 t2
          rw [t3] at ck
          have ck : cX n m (fun _ => true) ((x : Int) + 1) = cX n m (fun _ => true) x + 1 := ck
          refine ⟨fun g4 => by omega, fun _ v24 e24 => ⟨by omega, fun g4 => ?_, fun g4 => ⟨by omega, ?_⟩⟩⟩
          · have := ih (x + 1) (by omega) (by push_cast; rw [ck]; omega) (by omega)
            push_cast at this
            rw [ck] at this
            rw [e24, show (u : Int) - (cX n m (fun _ => true) x : Nat) - 1 = (u : Int) - ((cX n m (fun _ => true) x + 1 : Nat) : Int) by push_cast; omega]
            exact this
          · rw [← t3]
            refine h K' t1 t2 ?_
            have := cX_num hN t1 t2
            rw [t3] at this
            omega
  have fin : ∀ (q : Nat) (p : Int), p = (q : Int) → q < P → cX n m (fun _ => true) ((q : Int) * 128) ≤ u → u < cX n m (fun _ => true) ((q + 1 : Nat) * 128 : Int) → (rng p → (0 ≤ (P : Int) + 1 ∧ ((0 ≤ p ∧ p < (P : Int) + 1) ∧ (rng (M z 9 p) → (∀ v14 : Int, v14 = (u : Int) - (M z 9 p) → (∀ v15 : Int, v15 = p * 128 → ∃ j36, wX5_cellNumbered_36 kd ln post z u j36 p v14 v15 M)))))) := by
    intro q p ep h2 h3 h4
    subst ep
    have b9 := tb_bef hN hB (p := q) (by omega)
    refine fun _ => ⟨by omega, by omega, fun _ v14 e14 v15 e15 => ?_⟩
    rw [e14, e15, b9, show (q : Int) * 128 = ((q * 128 : Nat) : Int) by push_cast; rfl]
    refine ⟨129, scan q h2 h4 129 (q * 128) (by omega) ?_ (by omega)⟩
    rw [show ((q * 128 : Nat) : Int) = (q : Int) * 128 by push_cast; rfl]
    exact h3
  have search : ∀ (j hi : Nat), hi < P → u < cX n m (fun _ => true) ((hi + 1 : Nat) * 128 : Int) → hi < j → wX5_pairWith_10 kd ln (fun c8 M7 => rng c8 → (0 ≤ (P : Int) + 1 ∧ ((0 ≤ c8 ∧ c8 < (P : Int) + 1) ∧ (rng (M7 z 9 c8) → (∀ v14 : Int, v14 = (u : Int) - (M7 z 9 c8) → (∀ v15 : Int, v15 = c8 * 128 → ∃ j36, wX5_cellNumbered_36 kd ln post z u j36 c8 v14 v15 M7)))))) z u j hi M := by
    intro j
    induction j with
    | zero => intro hi h2 h4 h5; omega
    | succ j ih =>
      intro hi h2 h4 h5
      have b9 := tb_bef hN hB (p := hi) (by omega)
      unfold wX5_pairWith_10
      rw [hL.2.2.2.2.2.1, eP]
      refine ⟨by omega, fun g3 => ?_, fun g3 => ⟨by omega, by omega, fun _ => ⟨by omega, fun g4 => ?_, fun g4 => ?_⟩⟩⟩
      · have : hi = 0 := by omega
        subst this
        refine fin 0 0 rfl (by omega) ?_ h4
        rw [show ((0 : Nat) : Int) * 128 = 0 by omega, cX_0 hN]; omega
      · rw [show (hi : Int) + (-1) = ((hi - 1 : Nat) : Int) by omega]
        refine ih (hi - 1) (by omega) ?_ (by omega)
        rw [show ((hi - 1 + 1 : Nat) : Int) = (hi : Int) by omega]
        omega
      · exact fin hi hi rfl h2 (by omega) h4
  unfold wX5_pairWith
  rw [c2, b3.2.1, hL.2.2.2.2.2.1, eP]
  refine ⟨b4, fun _ v4 e4 => ?_⟩
  rw [e4, show (P : Int) - 1 = ((P - 1 : Nat) : Int) by omega]
  refine ⟨P, search P (P - 1) (by omega) ?_ (by omega)⟩
  rw [show ((P - 1 + 1 : Nat) : Int) = (P : Int) by omega, size]; omega
/-- what position tells of a key -/
noncomputable def tAns (n m K what : Int) : Int := if what = 0 then kW n K else if what = 1 then kB n K else if what = 2 then kK n K else if what = 3 then kT K else if what = 4 then mDk n m K else -1
theorem sX5_tell {post : Int → gM → Prop} {K : Nat} {what : Int} (hN : mN n) (hD : tbD n m kd ln M o q z) (hK : (K : Int) < mAl3 n) (hP : cP n m K) (hw : rng what) (h : post (tAns n m K what) M) : wX5_tell kd ln post z (cK n m K) what M := by
  obtain ⟨hC, hL, hV, hB, -, -⟩ := hD
  obtain ⟨⟨a1, a2, a3, a4⟩, ⟨b1, b2, b3, b4⟩, ⟨c1, c2, c3, c4⟩, -⟩ := hC
  obtain ⟨d1, d2, d3, d4, d5, d6, d7, d8, d9⟩ := cell_dec hN hK hP
  obtain ⟨p1, p2, p3, p4, p5, p6⟩ := key_pos hN hK hP
  obtain ⟨⟨r1, r2, r3⟩, V⟩ := tb_key hN hV hK hP
  have pl := pn_lt hN d2 d3
  obtain ⟨k1, k2, -⟩ := b2
  obtain ⟨w1, w2⟩ := b3.2.2.2.2 _ d2 d3
  have hSS : n * n * (n * n) ≤ 4096 ∧ 0 ≤ n * n * (n * n) := by rcases mN_cases hN with rfl | rfl | rfl | rfl | rfl <;> omega
  have pmx := pn_r (m := m) hN (c := n * n * (n * n)) (by omega)
  have e3 := mSq hN p3
  unfold tAns at h
  unfold wX5_tell wX5_pairOf wX5_manOf wX5_turnOf
  dsimp only
  rw [c2, k1, k2, d1, d4, giand_tn (by omega), d5, w1, w2, ← d6, ← d7, hL.1, V]
  refine ⟨hw, fun g => ?_, fun g => ?_, fun g => ?_, fun g => ?_, fun g => ?_, fun g => ?_⟩
  · rw [if_neg (by omega), if_neg (by omega), if_neg (by omega), if_neg (by omega), if_neg (by omega)] at h
    exact h
  · rw [if_pos g] at h
    exact ⟨b4, by omega, by omega, by omega, fun _ => ⟨by omega, fun _ => h⟩⟩
  · rw [if_neg (by omega), if_pos g] at h
    exact ⟨b4, by omega, by omega, by omega, fun _ => ⟨by omega, fun _ => h⟩⟩
  · rw [if_neg (by omega), if_neg (by omega), if_pos g] at h
    exact ⟨by omega, by omega, by omega, fun _ => h⟩
  · rw [if_neg (by omega), if_neg (by omega), if_neg (by omega), if_pos g] at h
    exact ⟨by omega, fun _ => h⟩
  · rw [if_neg (by omega), if_neg (by omega), if_neg (by omega), if_neg (by omega), if_pos g] at h
    exact ⟨by omega, ⟨r1, r2⟩, fun _ => h⟩
theorem cX_ct (hN : mN n) {t d : Int} {T : Nat → Int → Int} {val : Nat → Int} (hT : tbV n m T val) : cX n m (ctB n m t d) (pn n m (n * n * (n * n)) * 128) = cN (ctB n m t d) (mAl3 n).toNat := by
  rw [cX_end hN hT]
  refine cN_congr (fun K hK => ?_)
  cases g : ctB n m t d K
  · rfl
  · rw [cPb_t.mpr (ctB_t.mp g).1]; rfl
/-- the counts of a table -/
theorem tb_cnt (hN : mN n) (hD : tbD n m kd ln M o q z) (ht : t = 0 ∨ t = 1) : M z 4 t = (cN (ctB n m t (-2)) (mAl3 n).toNat : Nat) ∧ M z 3 t = (cN (ctB n m t (-1)) (mAl3 n).toNat : Nat) ∧ (∀ d, 0 ≤ d → d ≤ 126 → M z 10 (2 * d + t) = (cN (ctB n m t d) (mAl3 n).toNat : Nat)) ∧ M z 7 (-1) = (cN (ctB n m t (-3)) (mAl3 n).toNat : Nat) := by
  obtain ⟨hC, hL, hV, hB, hS, -⟩ := hD
  obtain ⟨h1, h2, h3, h4⟩ := hS.1 t ht
  refine ⟨by rw [h1, cX_ct hN hV], by rw [h2, cX_ct hN hV], fun d d1 d2 => by rw [h3 d d1 d2, cX_ct hN hV], ?_⟩
  rw [hS.2, cX_ct hN hV]
  rcases ht with rfl | rfl
  · rfl
  · rw [sz_two hN]
theorem ct_none (hN : mN n) (hm : 0 ≤ m ∧ m ≤ 2) {d : Int} (hd : d < -3 ∨ 126 < d) : cN (ctB n m t d) (mAl3 n).toNat = 0 := by
  refine cN_none (fun K hK => ctB_f.mpr (fun g => ?_))
  obtain ⟨p1, p2, p3, p4, p5, p6⟩ := key_pos hN (K := K) (by omega) g.1
  have le : mDk n m K ≤ 97 := mDs_le (mBd_all hN m hm) p1 p2 p3
  rcases g.2.2 with g | g | g <;> omega
theorem sX5_howManyAt {post : Int → gM → Prop} {d : Int} (hN : mN n) (hm : 0 ≤ m ∧ m ≤ 2) (hD : tbD n m kd ln M o q z) (ht : t = 0 ∨ t = 1) (hd : rng d) (hd' : d < -3 ∨ 0 ≤ d) (h : post (cN (ctB n m t d) (mAl3 n).toNat : Nat) M) : wX5_howManyAt kd ln post z t d M := by
  have c := (tb_cnt hN hD ht).2.2.1
  unfold wX5_howManyAt wX5_howManyAt_10
  rw [hD.2.1.2.2.2.2.2.2]
  refine ⟨hd, fun g => ?_, fun g => ⟨fun g2 => ?_, fun g2 => ?_⟩⟩
  · rw [ct_none hN hm (by omega)] at h
    exact h
  · rw [c d (by omega) g2]
    exact ⟨by omega, by omega, fun _ => h⟩
  · rw [ct_none hN hm (by omega)] at h
    exact h
/-- the farthest -/
theorem tb_far (hN : mN n) (hD : tbD n m kd ln M o q z) (ht : t = 0 ∨ t = 1) : ∃ first : Int, lgP n m t (M z 5 t) first ∧ M z 6 t = if first = -1 then (-1 : Int) else ((cN (cPb n m) first.toNat : Nat) : Int) := by
  obtain ⟨hC, hL, hV, hB, hS, -⟩ := hD
  obtain ⟨h1, h2, h3, h4, h5⟩ := hS.1 t ht
  have all : ∀ K : Nat, (K : Int) < mAl3 n → cP n m K → kT K = t → mDk n m K ≤ M z 5 t := fun K k1 k2 k3 => h4 K k1 k2 k3 (tb_key hN hV k1 k2).1.2.1
  rcases h5 with ⟨e1, e2⟩ | ⟨K, e1, e2, e3, e4, e5, e6, e7, e8⟩
  · exact ⟨-1, ⟨all, Or.inl ⟨e1, rfl⟩⟩, by rw [if_pos rfl]; exact e2⟩
  · refine ⟨K, ⟨all, Or.inr ⟨K, rfl, e2, e3, e4, e6, e7, e8⟩⟩, ?_⟩
    rw [if_neg (by omega), Int.toNat_natCast]
    exact e1
theorem lgP_uniq {b1 f1 b2 f2 : Int} (h1 : lgP n m t b1 f1) (h2 : lgP n m t b2 f2) : b1 = b2 ∧ f1 = f2 := by
  obtain ⟨a1, a2⟩ := h1
  obtain ⟨c1, c2⟩ := h2
  rcases a2 with ⟨x1, x2⟩ | ⟨K, x1, x2, x3, x4, x5, x6, x7⟩
  · rcases c2 with ⟨y1, y2⟩ | ⟨K', y1, y2, y3, y4, y5, y6, y7⟩
    · omega
    · have := a1 K' y2 y3 y4; omega
  · rcases c2 with ⟨y1, y2⟩ | ⟨K', y1, y2, y3, y4, y5, y6, y7⟩
    · have := c1 K x2 x3 x4; omega
    · have u1 := a1 K' y2 y3 y4
      have u2 := c1 K x2 x3 x4
      have e : b1 = b2 := by omega
      refine ⟨e, ?_⟩
      rcases Nat.lt_trichotomy K K' with g | g | g
      · have := y7 K g x3 x4; omega
      · rw [x1, y1, g]
      · have := x7 K' g y3 y4; omega
end TN
