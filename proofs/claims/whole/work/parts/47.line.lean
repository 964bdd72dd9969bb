/-- from a position of a line to the next: by the first of the best moves -/
def lnS (n : Int) (p q : Nat → Int) : Prop := ∃ c, mvP n (p 0) (p 1) (p 2) (p 3) (p 4) c ∧ mAf n (p 0) (p 1) (p 2) (p 3) (p 4) c = mGo (mDs n (p 0) (p 1) (p 2) (p 3) (p 4)) ∧ (∀ c', mvP n (p 0) (p 1) (p 2) (p 3) (p 4) c' → mAf n (p 0) (p 1) (p 2) (p 3) (p 4) c' = mGo (mDs n (p 0) (p 1) (p 2) (p 3) (p 4)) → c ≤ c') ∧ q 0 = mV (p 0) (p 1) (p 2) (p 3) (p 4) c 3 ∧ q 1 = mV (p 0) (p 1) (p 2) (p 3) (p 4) c 4 ∧ q 2 = mV (p 0) (p 1) (p 2) (p 3) (p 4) c 5 ∧ q 3 = mV (p 0) (p 1) (p 2) (p 3) (p 4) c 6 ∧ q 4 = 1 - p 4
def lRow (r : Int) (M : gM) (i : Nat) : Nat → Int := fun j => M r 27 (5 * (i : Int) + j)
def rw5 (a b c d e : Int) : Nat → Int
  | 0 => a
  | 1 => b
  | 2 => c
  | 3 => d
  | _ => e
abbrev lnSl : List Nat := [0, 12, 13, 14, 15, 16, 17, 18, 19, 26, 27]
/-- a decided position has a best move -/
theorem mv_ex {n m w b k t : Int} {e : Nat} (hN : mN n) (hm : 0 ≤ m ∧ m ≤ 2) (hw : mOn n w) (hb : mOn n b) (hk : mOn n k) (h : mAtD n m (e + 1) w b k t) : ∃ c, mvP n m w b k t c ∧ mAf n m w b k t c = e := by
  have e1 := mSq hN hw
  have e2 := mSq hN hb
  have e3 := mSq hN hk
  have hL := mAtD_lg h
  rcases mD_turn h.1 with rfl | rfl
  · rcases (mAtD_w' h).2 with ⟨x, y1, y2, y3⟩ | ⟨x, y1, y2, y3⟩ | ⟨y1, y2⟩
    · have e4 := mSq hN y1
      obtain ⟨d1, d2, d3⟩ := mCd_d (f := w) (x := x) (q := -1) (by omega) (by omega) (by omega)
      refine ⟨mCd w x (-1), Or.inl ⟨x, y1, Or.inl ⟨rfl, y2⟩, rfl⟩, ?_⟩
      unfold mAf
      simp only [mV, d1, d2, if_true, and_self, show ¬ ((0 : Int) = 1) by decide, if_false]
      rw [if_neg (by omega)]
      exact mDs_at y3
    · have e4 := mSq hN y1
      obtain ⟨v0, v1, v2, v3, v4, v5, v6⟩ := mV_man (m := m) (w := w) (b := b) (k := k) (x := x) (q := -1) (by omega) (by omega) (by omega) hL.2.1
      refine ⟨mCd k x (-1), Or.inr ⟨rfl, Or.inl ⟨x, y1, y2, rfl⟩⟩, ?_⟩
      unfold mAf
      rw [v3, v4, v5, v6, if_pos rfl, if_neg (by omega)]
      exact mDs_at y3
    · have hr := hL.2.2.2.2.1 y1.1
      have u := mUp hN hk (by omega)
      have e4 := mSq hN u.1
      have one : ∀ q : Int, (q = 0 ∨ q = 1) → mAtD n q e w b (k + n) 1 → ∃ c, mvP n m w b k 0 c ∧ mAf n m w b k 0 c = e := fun q hq h1 => by
        obtain ⟨v0, v1, v2, v3, v4, v5, v6⟩ := mV_man (m := m) (w := w) (b := b) (k := k) (x := k + n) (q := q) (by omega) (by omega) (by omega) hL.2.1
        refine ⟨mCd k (k + n) q, Or.inr ⟨rfl, Or.inr ⟨y1, q, by omega, rfl⟩⟩, ?_⟩
        unfold mAf
        rw [v3, v4, v5, v6, if_neg (show ¬ q = -1 by omega), if_pos (show q < 2 by omega), if_neg (by omega)]
        exact mDs_at h1
      rcases y2 with y2 | y2
      · exact one 0 (Or.inl rfl) y2
      · exact one 1 (Or.inr rfl) y2
  · obtain ⟨x, y1, y2, y3⟩ := (mAtD_b' h).2.1
    have hx := ((mAtD_b' h).2.2 x y1 y2).1
    have e4 := mSq hN y1
    obtain ⟨v3, v4, v5, v6⟩ := mV_black (m := m) (w := w) (k := k) (b := b) (x := x) (by omega) (by omega)
    refine ⟨mCd b x (-1), mvP_black.mpr ⟨x, y1, y2, rfl⟩, ?_⟩
    unfold mAf
    rw [v3, v4, v5, v6, if_neg hx, if_neg hx, if_neg (by omega)]
    exact mDs_at y3
section LN
variable {kd : gKd} {ln : gLn} {M M0 : gM} {r n m w b k t : Int}
theorem sX7_keep {post : gM → Prop} {i : Int} {v : Nat → Int} (hl : ln r 27 = 640) (hi : 0 ≤ i ∧ i < 128) (hv : ∀ j, j < 5 → rng (v j)) (h : ∀ M', (∀ x : Int, M' r 27 x = if 5 * i ≤ x ∧ x < 5 * i + 5 then v (x - 5 * i).toNat else M r 27 x) → Ch r [27] M M' → post M') : wX7_keep kd ln post r i (v 0) (v 1) (v 2) (v 3) (v 4) M := by
  unfold wX7_keep
  rw [hl]
  refine ⟨by omega, by omega, hv 0 (by omega), by omega, hv 1 (by omega), by omega, hv 2 (by omega), by omega, hv 3 (by omega), by omega, hv 4 (by omega), ?_⟩
  apply h
  · intro x
    simp only [gu_rd, true_and]
    by_cases g : 5 * i ≤ x ∧ x < 5 * i + 5
    · rw [if_pos g]
      rcases (show x = 5 * i ∨ x = 5 * i + 1 ∨ x = 5 * i + 2 ∨ x = 5 * i + 3 ∨ x = 5 * i + 4 by omega) with e | e | e | e | e
      · rw [if_neg (by omega), if_neg (by omega), if_neg (by omega), if_neg (by omega), if_pos e, e, show (5 * i - 5 * i).toNat = 0 by omega]
      · rw [if_neg (by omega), if_neg (by omega), if_neg (by omega), if_pos e, e, show (5 * i + 1 - 5 * i).toNat = 1 by omega]
      · rw [if_neg (by omega), if_neg (by omega), if_pos e, e, show (5 * i + 2 - 5 * i).toNat = 2 by omega]
      · rw [if_neg (by omega), if_pos e, e, show (5 * i + 3 - 5 * i).toNat = 3 by omega]
      · rw [if_pos e, e, show (5 * i + 4 - 5 * i).toNat = 4 by omega]
    · rw [if_neg g, if_neg (by omega), if_neg (by omega), if_neg (by omega), if_neg (by omega), if_neg (by omega)]
  · refine Ch.up (Ch.up (Ch.up (Ch.up (Ch.up Ch.rf ?_ _ _) ?_ _ _) ?_ _ _) ?_ _ _) ?_ _ _ <;> decide
/-- the first of the best moves is found and kept -/
theorem sX7_line_129 {post : Int → gM → Prop} {k58 : Int → Int → Int → gM → Prop} {cnt x8 : Nat} {f : Nat → Int} {d x7 : Int} {e : Nat} (hN : mN n) (hl : rLn ln r) (hm : 0 ≤ m ∧ m ≤ 2) (hw : mOn n w) (hb : mOn n b) (hk : mOn n k) (ht : t = 0 ∨ t = 1) (hL : mLg n m w b k t) (hn : rN n r M) (hF : mFa n m r M) (hc : cnt ≤ 36) (hs : sIn cnt f (mvP n m w b k t)) (hrow : ∀ i : Nat, i < cnt → mRw r M i (mV m w b k t (f i))) (hA : mAtD n m (e + 1) w b k t) (hd : d - x8 = ((e + 1 : Nat) : Int)) (hd97 : d ≤ 97) {a1 a2 a3 a4 a5 : Int} (h : ∀ M' c, mvP n m w b k t c → mAf n m w b k t c = e → (∀ c', mvP n m w b k t c' → mAf n m w b k t c' = e → c ≤ c') → (∀ x : Int, M' r 27 x = if 5 * ((x8 : Int) + 1) ≤ x ∧ x < 5 * ((x8 : Int) + 1) + 5 then rw5 (mV m w b k t c 3) (mV m w b k t c 4) (mV m w b k t c 5) (mV m w b k t c 6) (1 - t) (x - 5 * ((x8 : Int) + 1)).toNat else M r 27 x) → Ch r [27] M M' → k58 d x7 ((x8 : Int) + 1) M') :
    ∀ (j i : Nat), i ≤ cnt → (∀ i', i' < i → mAf n m w b k t (f i') ≠ e) → cnt - i < j → wX7_line_129 kd ln post r a1 a2 a3 a4 a5 k58 j d x7 x8 t i M := by
  have hl2 := hl
  obtain ⟨l3, l4, l5, l6, l7, l8, l10, ⟨q0, q1, q2, q3, q4, q5, q6⟩, ⟨l22, l23, l24, l25⟩, l27⟩ := hl2
  intro j
  induction j with
  | zero => intro i h1 h2 h3; omega
  | succ j ih =>
    intro i h1 h2 h3
    have hi : i < cnt := by
      obtain ⟨c, c1, c2⟩ := mv_ex hN hm hw hb hk hA
      obtain ⟨i0, i1, i2⟩ := (hs.2 c).mp c1
      rcases Nat.lt_or_ge i cnt with g | g
      · exact g
      · exfalso
        have := h2 i0 (by omega)
        rw [i2] at this
        exact this c2
    unfold wX7_line_129
    rw [hd]
    have gd : (if ((e + 1 : Nat) : Int) = -1 then (-1 : Int) else ((e + 1 : Nat) : Int) - 1) = e := by rw [if_neg (by omega)]; omega
    refine sX7_isBest hN hl hn hm hw hb hk ht hL hF hi hc hs (hrow i hi) (by omega) (fun a => fun _ => ⟨fun _ => ?_, fun g => absurd g (by decide)⟩) (fun a => fun _ => ⟨fun g => absurd rfl g, fun _ => ih (i + 1) (by omega) (fun i' hi' => ?_) (by omega)⟩)
    · rw [gd] at a
      have hp : mvP n m w b k t (f i) := (hs.2 _).mpr ⟨i, hi, rfl⟩
      have R := hrow i hi
      have R3 : M r 16 i = _ := R 3 (by omega)
      have R4 : M r 17 i = _ := R 4 (by omega)
      have R5 : M r 18 i = _ := R 5 (by omega)
      have R6 : M r 19 i = _ := R 6 (by omega)
      rw [q3, q4, q5, q6, R3, R4, R5, R6]
      have row := mv_row hN hm hw hb hk ht hL hp
      have rg : ∀ j, j < 5 → rng (rw5 (mV m w b k t (f i) 3) (mV m w b k t (f i) 4) (mV m w b k t (f i) 5) (mV m w b k t (f i) 6) (1 - t) j) := by
        have hS := mSS hN
        rcases row with row | ⟨⟨b1, b2, b3, b4⟩, _, _⟩
        · exfalso
          unfold mAf at a
          rw [if_pos row] at a
          omega
        · have := b2.1
          have := b2.2
          have := b3.1
          have := b3.2
          have := b4.1
          have := b4.2
          intro j hj
          rcases (show j = 0 ∨ j = 1 ∨ j = 2 ∨ j = 3 ∨ j = 4 by omega) with rfl | rfl | rfl | rfl | rfl <;> simp only [rw5] <;> omega
      refine ⟨by omega, by omega, fun _ => ⟨by omega, by omega, fun _ => ⟨by omega, by omega, fun _ => ⟨by omega, by omega, fun _ => ?_⟩⟩⟩⟩
      refine sX7_keep (v := rw5 (mV m w b k t (f i) 3) (mV m w b k t (f i) 4) (mV m w b k t (f i) 5) (mV m w b k t (f i) 6) (1 - t)) l27 (by omega) rg (fun M' b1 b2 => h M' (f i) hp a (fun c' c1 c2 => ?_) b1 b2)
      obtain ⟨i0, i1, i2⟩ := (hs.2 c').mp c1
      rcases Nat.lt_trichotomy i0 i with g | g | g
      · exfalso
        have := h2 i0 g
        rw [i2] at this
        exact this c2
      · rw [← i2, g]; exact Int.le_refl _
      · rw [← i2]; exact Int.le_of_lt (hs.1 i i0 g i1)
    · rcases Nat.lt_or_eq_of_le (Nat.lt_succ_iff.mp hi') with g | g
      · exact h2 i' g
      · rw [g]; rw [gd] at a; exact a
theorem sX7_line_58 {post : Int → gM → Prop} {d : Int} {pl : Nat} {a1 a2 a3 a4 a5 : Int} (hN : mN n) (hl : rLn ln r) (hT : rTb n r M0) (hm0 : 0 ≤ m ∧ m ≤ 2) (h3 : M0 r 3 m ≠ 0) (hd : d ≤ 97) (hpl : (pl : Int) = d ∨ pl = 0) (h : ∀ M', (∀ i, i < pl → lnS n (lRow r M' i) (lRow r M' (i + 1))) → (∀ j, j < 5 → lRow r M' 0 j = lRow r M0 0 j) → Ch r lnSl M0 M' → M' r 0 = M0 r 0 → M' r 26 (-1) = pl → post pl M') :
    ∀ (j i : Nat) (M : gM), i ≤ pl → (∀ i', i' < i → lnS n (lRow r M i') (lRow r M (i' + 1))) → (∀ j, j < 5 → lRow r M 0 j = lRow r M0 0 j) → Ch r lnSl M0 M → M r 0 = M0 r 0 → ((0 ≤ lRow r M i 0 ∧ lRow r M i 0 ≤ 2) ∧ mOn n (lRow r M i 1) ∧ mOn n (lRow r M i 2) ∧ mOn n (lRow r M i 3) ∧ (lRow r M i 4 = 0 ∨ lRow r M i 4 = 1) ∧ (lRow r M i 0 = m ∨ (m = 2 ∧ lRow r M i 0 ≤ 1))) → (i < pl → mAtD n (lRow r M i 0) (d - i).toNat (lRow r M i 1) (lRow r M i 2) (lRow r M i 3) (lRow r M i 4)) → pl - i < j → wX7_line_58 kd ln post r a1 a2 a3 a4 a5 j d pl i M := by
  have hl2 := hl
  obtain ⟨l3, l4, l5, l6, l7, l8, l10, l7s, ⟨l22, l23, l24, l25⟩, l27⟩ := hl2
  intro j
  induction j with
  | zero => intro i M h1 h2 h2' h3 h3' h4 h5 h6; omega
  | succ j ih =>
    intro i M h1 h2 h2' hC hC0 hp hA h6
    unfold wX7_line_58
    refine ⟨by omega, by omega, fun q => ?_, fun q => ?_⟩
    · have : i = pl := by omega
      subst this
      have e27 : ∀ i, lRow r (gu M r 26 (-1) (i : Int)) = lRow r M := fun i => by
        funext x y
        unfold lRow
        rw [gu_k (by decide)]
      refine h _ (fun i' hi' => ?_) (fun j hj => ?_) (Ch.up hC (by decide) _ _) ?_ gu_s
      · rw [e27]; exact h2 i' hi'
      · rw [e27]; exact h2' j hj
      · rw [gu_k (by decide)]; exact hC0
    · have hi : i < pl := by omega
      have hA := hA hi
      obtain ⟨p1, p2, p3, p4, p5, p6⟩ := hp
      have hTT := hT.ch hC (by decide)
      obtain ⟨e, ee⟩ : ∃ e : Nat, (d - i).toNat = e + 1 := ⟨(d - i).toNat - 1, by omega⟩
      rw [ee] at hA
      have hL := mAtD_lg hA
      have r4 : M r 27 (5 * (i : Int) + 4) = lRow r M i 4 := rfl
      have r0 : M r 27 (5 * (i : Int)) = lRow r M i 0 := by unfold lRow; congr 1
      have r1 : M r 27 (5 * (i : Int) + 1) = lRow r M i 1 := rfl
      have r2 : M r 27 (5 * (i : Int) + 2) = lRow r M i 2 := rfl
      have r3 : M r 27 (5 * (i : Int) + 3) = lRow r M i 3 := rfl
      have hFa : mFa n m r M := hTT.fa hm0 (by rw [hC.at (show 3 ∉ lnSl by decide)]; exact h3)
      have hFa' : mFa n (lRow r M i 0) r M := ⟨hFa.of p1.1 p6, fun e2 => by
        rcases p6 with p6 | p6
        · rw [p6] at e2; exact hFa.2 e2
        · omega⟩
      rw [l27, r4, r0, r1, r2, r3]
      refine ⟨by omega, by omega, fun _ => ?_⟩
      intro v19 ev
      rw [ev]
      refine ⟨by omega, fun _ => ⟨by omega, fun _ => ⟨by omega, fun _ => ⟨by omega, fun _ => ?_⟩⟩⟩⟩
      refine sX7_find hN l7s hTT.1 p1 p2 p3 p4 p5 hL (fun M' cnt b1 b2 b3 => ?_)
      obtain ⟨c1, f, c2, c3⟩ := b1
      refine ⟨cnt + 1, sX7_line_129 (e := e) hN hl p1 p2 p3 p4 p5 hL (hTT.1.ch b3 (by decide) (by decide)) (hFa'.ch b3 (by decide)) b2 c2 c3 hA (by omega) hd (fun M'' c x1 x2 x3 x4 x5 => ?_) _ 0 (by omega) (fun i' hi' => absurd hi' (Nat.not_lt_zero i')) (by omega)⟩
      have same : ∀ i' : Nat, i' ≤ i → ∀ j : Nat, j < 5 → lRow r M'' i' j = lRow r M i' j := fun i' hi' j hj => by
        unfold lRow
        rw [x4, if_neg (by omega), b3.at (show 27 ∉ mSl by decide)]
      have new : ∀ j : Nat, j < 5 → lRow r M'' (i + 1) j = rw5 (mV (lRow r M i 0) (lRow r M i 1) (lRow r M i 2) (lRow r M i 3) (lRow r M i 4) c 3) (mV (lRow r M i 0) (lRow r M i 1) (lRow r M i 2) (lRow r M i 3) (lRow r M i 4) c 4) (mV (lRow r M i 0) (lRow r M i 1) (lRow r M i 2) (lRow r M i 3) (lRow r M i 4) c 5) (mV (lRow r M i 0) (lRow r M i 1) (lRow r M i 2) (lRow r M i 3) (lRow r M i 4) c 6) (1 - lRow r M i 4) j := fun j hj => by
        show M'' r 27 (5 * ((i + 1 : Nat) : Int) + j) = _
        rw [x4, if_pos (by omega), show (5 * ((i + 1 : Nat) : Int) + (j : Int) - 5 * ((i : Int) + 1)).toNat = j by omega]
      have n0 := new 0 (by omega)
      have n1 := new 1 (by omega)
      have n2 := new 2 (by omega)
      have n3 := new 3 (by omega)
      have n4 := new 4 (by omega)
      simp only [rw5] at n0 n1 n2 n3 n4
      have dsE := mDs_at hA
      have row := mv_row hN p1 p2 p3 p4 p5 hL x1
      have nn : ¬ mV (lRow r M i 0) (lRow r M i 1) (lRow r M i 2) (lRow r M i 3) (lRow r M i 4) c 3 = -1 := fun g => by
        unfold mAf at x2
        rw [if_pos g] at x2
        omega
      obtain ⟨⟨y1, y2, y3, y4⟩, y5, y6⟩ := row.resolve_left nn
      refine ih (i + 1) M'' (by omega) (fun i' hi' => ?_) (fun j hj => ?_) ((hC.tr (b3.mo (by decide))).tr (x5.mo (by decide))) ?_ ?_ (fun hi2 => ?_) (by omega)
      · rcases Nat.lt_or_eq_of_le (Nat.lt_succ_iff.mp hi') with g | g
        · have := h2 i' g
          unfold lnS at this ⊢
          rw [same i' (by omega) 0 (by omega), same i' (by omega) 1 (by omega), same i' (by omega) 2 (by omega), same i' (by omega) 3 (by omega), same i' (by omega) 4 (by omega), same (i' + 1) (by omega) 0 (by omega), same (i' + 1) (by omega) 1 (by omega), same (i' + 1) (by omega) 2 (by omega), same (i' + 1) (by omega) 3 (by omega), same (i' + 1) (by omega) 4 (by omega)]
          exact this
        · subst g
          unfold lnS
          rw [same i' (by omega) 0 (by omega), same i' (by omega) 1 (by omega), same i' (by omega) 2 (by omega), same i' (by omega) 3 (by omega), same i' (by omega) 4 (by omega), n0, n1, n2, n3, n4, dsE]
          have go : mGo ((e + 1 : Nat) : Int) = e := by unfold mGo; rw [if_neg (by omega)]; omega
          rw [go]
          exact ⟨c, x1, x2, x3, rfl, rfl, rfl, rfl, rfl⟩
      · rw [same 0 (by omega) j hj]; exact h2' j hj
      · rw [x5.at (show 0 ∉ [27] by decide), b3.at (show 0 ∉ mSl by decide)]; exact hC0
      · rw [n0, n1, n2, n3, n4]
        refine ⟨y1, y2, y3, y4, by omega, ?_⟩
        rcases y5 with y5 | y5
        · rw [y5]; exact p6
        · rcases p6 with p6 | p6
          · exact Or.inr ⟨by omega, y5.2⟩
          · omega
      · rw [n0, n1, n2, n3, n4]
        unfold mAf at x2
        rw [if_neg nn] at x2
        rcases mDs_c n (mV (lRow r M i 0) (lRow r M i 1) (lRow r M i 2) (lRow r M i 3) (lRow r M i 4) c 3) (mV (lRow r M i 0) (lRow r M i 1) (lRow r M i 2) (lRow r M i 3) (lRow r M i 4) c 4) (mV (lRow r M i 0) (lRow r M i 1) (lRow r M i 2) (lRow r M i 3) (lRow r M i 4) c 5) (mV (lRow r M i 0) (lRow r M i 1) (lRow r M i 2) (lRow r M i 3) (lRow r M i 4) c 6) (1 - lRow r M i 4) with ⟨e', z1, z2⟩ | ⟨z1, z2⟩
        · have : e' = (d - ((i + 1 : Nat) : Int)).toNat := by omega
          rw [← this]; exact z1
        · omega
end LN
