/-! CELLS OF A TABLE -/
section LY
variable {n g h m w b k t a x y : Int}
/-- of a least pair: the position is the least, whoever is to move -/
theorem canon_iff (hN : mN n) {c : Nat} (hc : (c : Int) < n * n * (n * n)) (hq : cq n m c) (hk : mOn n k) (ht : 0 ≤ t ∧ t ≤ 1) : mOn n ((c : Int) / (n * n)) ∧ mOn n ((c : Int) % (n * n)) ∧ ∃ k', mOn n k' ∧ (∀ t', (0 ≤ t' ∧ t' ≤ 1) → mLst n m ((c : Int) / (n * n)) ((c : Int) % (n * n)) k t' = 2 * ((c : Int) * (n * n) + k') + t' ∧ cK n m (mLst n m ((c : Int) / (n * n)) ((c : Int) % (n * n)) k t') = (pn n m c * 64 + k') * 2 + t') ∧ mKey n ((c : Int) / (n * n)) ((c : Int) % (n * n)) k t = 2 * ((c : Int) * (n * n) + k) + t := by
  obtain ⟨d1, d2, d3⟩ := pc_dec hN (c := (c : Int)) ⟨by omega, hc⟩
  obtain ⟨g, hg, g1, g2, g3⟩ := lst_pair (m := m) (t := t) hN d1 d2 hk ht
  have e := hq.2
  have ig := im_on (g := g) hN hk
  refine ⟨d1, d2, mIm n g k, ig, fun t' ht' => ?_, by rw [mKey_pc, d3]⟩
  obtain ⟨g', hg', g1', g2', g3'⟩ := lst_pair (m := m) (t := t') hN d1 d2 hk ht'
  have a1 := g3 g' hg' g1'
  have a2 := g3' g hg g1
  have ee : mIm n g' k = mIm n g k := by omega
  rw [e, ee] at g2'
  obtain ⟨p1, p2⟩ := key_pair hN (c := (c : Int)) ig ht'
  refine ⟨g2', ?_⟩
  unfold cK
  rw [g2', p1, p2]
  omega
/-- a cell of the block of pair c that is laid -/
def bkP (n m : Int) (c x : Nat) : Prop := ((x / 2 : Nat) : Int) < n * n ∧ cP n m (2 * (c * (n * n).toNat + x / 2) + x % 2)
noncomputable def bkB (n m : Int) (c x : Nat) : Bool := @decide (bkP n m c x) (Classical.propDecidable _)
theorem bkB_t {c x : Nat} : bkB n m c x = true ↔ bkP n m c x := by unfold bkB; simp
theorem bkB_f {c x : Nat} : bkB n m c x = false ↔ ¬ bkP n m c x := by unfold bkB; simp
theorem bk_iff (hN : mN n) {c i : Nat} (hc : (c : Int) < n * n * (n * n)) (hq : cq n m c) (hi : mOn n (i : Int)) (tt : Nat) (htt : tt ≤ 1) : bkP n m c (2 * i + tt) ↔ (mLst n m ((c : Int) / (n * n)) ((c : Int) % (n * n)) i 1 = mKey n ((c : Int) / (n * n)) ((c : Int) % (n * n)) i 1 ∧ mLg n m ((c : Int) / (n * n)) ((c : Int) % (n * n)) i tt) := by
  have hS := mSS hN
  obtain ⟨d1, d2, k', k1, k2, -⟩ := canon_iff (m := m) (t := 1) hN hc hq hi (by omega)
  have key : ∀ t', (0 ≤ t' ∧ t' ≤ 1) → mKey n ((c : Int) / (n * n)) ((c : Int) % (n * n)) i t' = 2 * ((c : Int) * (n * n) + i) + t' := fun t' ht' => by
    rw [mKey_pc, (pc_dec hN (c := (c : Int)) ⟨by omega, hc⟩).2.2]
  have K1 : ((2 * (c * (n * n).toNat + (2 * i + tt) / 2) + (2 * i + tt) % 2 : Nat) : Int) = mKey n ((c : Int) / (n * n)) ((c : Int) % (n * n)) i tt := by
    rw [key tt (by omega), show (2 * i + tt) / 2 = i by omega, show (2 * i + tt) % 2 = tt by omega]
    have : (((n * n).toNat : Nat) : Int) = n * n := by omega
    push_cast
    rw [this]
  obtain ⟨e1, e2, e3, e4⟩ := k_enc hN d1 d2 hi (t := (tt : Int)) (by omega)
  unfold bkP cP
  rw [K1, e1, e2, e3, e4, show (2 * i + tt) / 2 = i by omega]
  rw [(k2 1 (by omega)).1, (k2 tt (by omega)).1, key 1 (by omega), key tt (by omega)]
  constructor
  · rintro ⟨a1, a2, a3⟩; exact ⟨by omega, a2⟩
  · rintro ⟨a1, a2⟩; exact ⟨hi.2, a2, by omega⟩
theorem bk_hi (hN : mN n) {c x : Nat} (h : ¬ ((x / 2 : Nat) : Int) < n * n) : ¬ bkP n m c x := fun q => h q.1
end LY
section LZ
variable {kd : gKd} {ln : gLn} {M : gM} {o q z n m : Int}
/-- where a table stands: its board, its pairs -/
def tbC (n m : Int) (kd : gKd) (ln : gLn) (M : gM) (o q z : Int) : Prop := (bdL n (ln o) ∧ bdG n (M o) ∧ kd o = 0 ∧ 0 < o) ∧ (M q 4 (-1) = o ∧ kpL n (ln q) ∧ kpG n m (M q) ∧ kd q = 2) ∧ (M z 0 (-1) = m ∧ M z 2 (-1) = q ∧ M z 8 (-1) = o ∧ ln z 1 = pn n m (n * n * (n * n)) * 128) ∧ (z ≠ o ∧ z ≠ q ∧ o ≠ q)
theorem tbC.ch {M' : gM} (h : tbC n m kd ln M o q z) {l : List Nat} (c : Ch z l M M') (hl : 0 ∉ l ∧ 2 ∉ l ∧ 8 ∉ l) : tbC n m kd ln M' o q z := by
  obtain ⟨⟨a1, a2, a3, a4⟩, ⟨b1, b2, b3, b4⟩, ⟨c1, c2, c3, c4⟩, d1, d2, d3⟩ := h
  have eo : M' o = M o := c.ot (fun e => d1 e.symm)
  have eq : M' q = M q := c.ot (fun e => d2 e.symm)
  refine ⟨⟨a1, by rw [eo]; exact a2, a3, a4⟩, ⟨by rw [eq]; exact b1, b2, by rw [eq]; exact b3, b4⟩, ⟨?_, ?_, ?_, c4⟩, d1, d2, d3⟩
  · rw [c.at hl.1]; exact c1
  · rw [c.at hl.2.1]; exact c2
  · rw [c.at hl.2.2]; exact c3
theorem sX5_lay {post : Int → gM → Prop} {c : Nat} (hN : mN n) (hm : 0 ≤ m ∧ m ≤ 2) (hC : tbC n m kd ln M o q z) (hc : (c : Int) < n * n * (n * n)) (hq : cq n m c) (h : ∀ M', (∀ x, M' z 1 x = @ite _ ((pn n m c * 128 ≤ x ∧ x < pn n m c * 128 + 128) ∧ bkP n m c (x - pn n m c * 128).toNat) (Classical.propDecidable _) (-1) (M z 1 x)) → Ch z [1] M M' → post (cN (bkB n m c) 128 : Nat) M') : wX5_lay kd ln post z (pn n m c) M := by
  have hC0 := hC
  obtain ⟨⟨a1, a2, a3, a4⟩, ⟨b1, b2, b3, b4⟩, ⟨c1, c2, c3, c4⟩, d1, d2, d3⟩ := hC0
  have hS := mSS hN
  have hSS : n * n * (n * n) ≤ 4096 ∧ 0 ≤ n * n * (n * n) := by rcases mN_cases hN with rfl | rfl | rfl | rfl | rfl <;> omega
  have pr := pn_r (m := m) hN (c := (c : Int)) (by omega)
  have plt : pn n m c < pn n m (n * n * (n * n)) := by
    have := cN_t (cqb_t.mpr hq)
    have := cN_mono (p := cqb n m) (show c + 1 ≤ (n * n * (n * n)).toNat by omega)
    unfold pn
    rw [show ((c : Nat) : Int).toNat = c by omega]
    omega
  have pmx := pn_r (m := m) hN (c := n * n * (n * n)) (by omega)
  obtain ⟨w1, w2⟩ := b3.2.2.2.2 c hc hq
  have cw := canon_iff (m := m) (k := 0) (t := 0) hN hc hq ⟨by omega, by omega⟩ (by omega)
  obtain ⟨hw, hb, -⟩ := cw
  obtain ⟨w, ew⟩ : ∃ w, w = (c : Int) / (n * n) := ⟨_, rfl⟩
  obtain ⟨b, eb⟩ : ∃ b, b = (c : Int) % (n * n) := ⟨_, rfl⟩
  have hv : vP n w b := by rw [ew, eb]; exact hq.1
  rw [← ew] at hw w1
  rw [← eb] at hb w2
  obtain ⟨p, ep⟩ : ∃ p, p = pn n m c := ⟨_, rfl⟩
  rw [← ep] at pr plt w1 w2 h ⊢
  have hiB : ∀ y : Nat, (2 * (n * n).toNat ≤ y) → bkB n m c y = false := fun y hy => bkB_f.mpr (bk_hi hN (by omega))
  have tail : ∀ y : Nat, 2 * (n * n).toNat ≤ y → cN (bkB n m c) y = cN (bkB n m c) (2 * (n * n).toNat) := by
    intro y hy
    induction hy with
    | refl => rfl
    | @step y hy ih => rw [cN_f (hiB y hy)]; exact ih
  have loop : ∀ (j i : Nat) (M' : gM), (i : Int) ≤ n * n → (∀ x, M' z 1 x = @ite _ ((p * 128 ≤ x ∧ x < p * 128 + 2 * i) ∧ bkP n m c (x - p * 128).toNat) (Classical.propDecidable _) (-1) (M z 1 x)) → Ch z [1] M M' → n * n - i < j → wX5_lay_26 kd ln post z p j w b (cN (bkB n m c) (2 * i) : Nat) i M' := by
    intro j
    induction j with
    | zero => intro i M' h1 h2 h3 h4; omega
    | succ j ih =>
      intro i M' h1 h2 h3 h4
      obtain ⟨⟨a1, a2, a3, a4⟩, ⟨b1, b2, b3, b4⟩, ⟨c1, c2, c3, -⟩, -, -, -⟩ := hC.ch h3 (by decide)
      have cle := cN_le (bkB n m c) (2 * i)
      unfold wX5_lay_26
      rw [c3, a2.1.2]
      refine ⟨a3, fun _ => ⟨by omega, fun g => ⟨by omega, ?_⟩, fun g => ?_⟩⟩
      · have hi : i = (n * n).toNat := by omega
        subst hi
        rw [← tail 128 (by omega)]
        refine h M' (fun x => ?_) h3
        rw [h2 x]
        by_cases g2 : (p * 128 ≤ x ∧ x < p * 128 + 128) ∧ bkP n m c (x - p * 128).toNat
        · have := g2.2.1
          rw [if_pos g2, if_pos ⟨by omega, g2.2⟩]
        · rw [if_neg g2, if_neg (fun g3 => g2 ⟨by omega, g3.2⟩)]
      · have hi : mOn n (i : Int) := ⟨by omega, by omega⟩
        have e := mSq hN hi
        have B0 := bk_iff (m := m) hN hc hq hi 0 (by omega)
        have B1 := bk_iff (m := m) hN hc hq hi 1 (by omega)
        rw [← ew, ← eb] at B0 B1
        have ci := canon_iff (m := m) (t := 1) hN hc hq hi (by omega)
        rw [← ew, ← eb, ← ep] at ci
        obtain ⟨-, -, k', k1, k2, k3⟩ := ci
        have k1' := mSq hN k1
        -- the next man
        have nxt : ∀ (M'' : gM) (v : Int), Ch z [1] M' M'' → (∀ x, M'' z 1 x = @ite _ ((x = p * 128 + 2 * i ∨ x = p * 128 + 2 * i + 1) ∧ bkP n m c (x - p * 128).toNat) (Classical.propDecidable _) (-1) (M' z 1 x)) → v = (cN (bkB n m c) (2 * (i + 1)) : Nat) → wX5_lay_143 kd ln post z p (wX5_lay_26 kd ln post z p j) w b v i M'' := fun M'' v f1 f2 f3 => by
          unfold wX5_lay_143
          rw [f3]
          refine ih (i + 1) M'' (by omega) (fun x => ?_) (h3.tr f1) (by omega)
          rw [f2 x, h2 x]
          by_cases g2 : (p * 128 ≤ x ∧ x < p * 128 + 2 * ((i + 1 : Nat) : Int)) ∧ bkP n m c (x - p * 128).toNat
          · rw [if_pos g2]
            by_cases g3 : x = p * 128 + 2 * i ∨ x = p * 128 + 2 * i + 1
            · rw [if_pos ⟨g3, g2.2⟩]
            · rw [if_neg (fun g4 => g3 g4.1), if_pos ⟨by omega, g2.2⟩]
          · rw [if_neg g2, if_neg (fun g3 => g2 ⟨by omega, g3.2⟩), if_neg (fun g3 => g2 ⟨by omega, g3.2⟩)]
        have x0 : (p * 128 + 2 * (i : Int) - p * 128).toNat = 2 * i := by omega
        have x1 : (p * 128 + 2 * (i : Int) + 1 - p * 128).toNat = 2 * i + 1 := by omega
        have cs : cN (bkB n m c) (2 * (i + 1)) = cN (bkB n m c) (2 * i) + cond (bkB n m c (2 * i)) 1 0 + cond (bkB n m c (2 * i + 1)) 1 0 := by
          rw [show 2 * (i + 1) = 2 * i + 1 + 1 by omega]; rfl
        have none : ¬ bkP n m c (2 * i) → ¬ bkP n m c (2 * i + 1) → wX5_lay_143 kd ln post z p (wX5_lay_26 kd ln post z p j) w b (cN (bkB n m c) (2 * i) : Nat) i M' := fun f1 f2 => by
          refine nxt M' _ Ch.rf (fun x => ?_) (by rw [cs, bkB_f.mpr f1, bkB_f.mpr f2]; rfl)
          rw [if_neg ?_]
          rintro ⟨g2 | g2, g3⟩
          · rw [g2, x0] at g3; exact f1 g3
          · rw [g2, x1] at g3; exact f2 g3
        have cellv : p * 8 * 8 + (i : Int) + (p * 8 * 8 + (i : Int)) + 1 = (p * 64 + i) * 2 + 1 := by omega
        unfold wX5_cellAt
        refine ⟨by omega, fun _ => ?_⟩
        rw [c2]
        refine ⟨b4, ?_⟩
        refine sX2_cellOf hN a1 a2 a3 (by omega) b1 b2 b3 hw hb hi (by omega) (fun _ => fun _ => ?_) (fun g2 => absurd hv g2)
        rw [(k2 1 (by omega)).2]
        refine ⟨fun g2 => ?_, fun g2 => ?_⟩
        · unfold wX5_lay_69
          refine ⟨by omega, fun _ => ?_, fun g3 => absurd rfl g3⟩
          have ne : ¬ mLst n m w b i 1 = mKey n w b i 1 := fun g3 => g2 (by
            rw [(k2 1 (by omega)).1, k3] at g3
            omega)
          exact none (fun g3 => ne (B0.mp g3).1) (fun g3 => ne (B1.mp g3).1)
        · have can : mLst n m w b i 1 = mKey n w b i 1 := by
            rw [(k2 1 (by omega)).1, k3]
            omega
          unfold wX5_lay_69
          rw [c3, c1]
          refine ⟨by omega, fun g3 => absurd g3 (by decide), fun _ => ⟨a3, fun _ => ?_⟩⟩
          have ew6 := mSq hN hw
          have eb6 := mSq hN hb
          refine sX0_allows hN a1 a2 (by omega) (by omega) (by omega) (by omega) (by omega) (fun _ L1 => fun _ => ⟨fun _ => ?_, fun g3 => absurd g3 (by decide)⟩) (fun g3 => fun _ => ⟨fun g4 => absurd rfl g4, fun _ => ?_⟩)
          · have b1P : bkP n m c (2 * i + 1) := B1.mpr ⟨can, L1⟩
            rw [c4]
            have e8 : (gu M' z 1 ((p * 8 * 8 + (i : Int)) * 2 + 1) (-1)) z 8 (-1) = o := by rw [gu_k (by decide)]; exact c3
            have e00 : (gu M' z 1 ((p * 8 * 8 + (i : Int)) * 2 + 1) (-1)) z 0 (-1) = m := by rw [gu_k (by decide)]; exact c1
            have go2 : bdG n ((gu M' z 1 ((p * 8 * 8 + (i : Int)) * 2 + 1) (-1)) o) := by rw [gu_o (fun e => d1 e.symm)]; exact a2
            rw [e8, e00]
            refine ⟨by omega, by omega, a3, fun _ => ?_⟩
            refine sX0_attacks hN a1 go2 hm hw hb hi (fun S1 => fun _ => ⟨fun _ => ?_, fun g3 => absurd g3 (by decide)⟩) (fun S1 => fun _ => ⟨fun g3 => absurd rfl g3, fun _ => ?_⟩)
            · have b0P : ¬ bkP n m c (2 * i) := fun g3 => by
                have := (B0.mp g3).2
                rcases this.2.2.2.2.2 with g4 | g4
                · omega
                · exact g4 S1
              refine nxt _ _ (Ch.up Ch.rf (by decide) _ _) (fun x => ?_) (by rw [cs, bkB_f.mpr b0P, bkB_t.mpr b1P]; rfl)
              rw [gu_v]
              by_cases g3 : x = (p * 8 * 8 + (i : Int)) * 2 + 1
              · rw [if_pos g3, if_pos ⟨Or.inr (by omega), by rw [show (x - p * 128).toNat = 2 * i + 1 by omega]; exact b1P⟩]
              · rw [if_neg g3, if_neg ?_]
                rintro ⟨g4 | g4, g5⟩
                · rw [g4, x0] at g5; exact b0P g5
                · omega
            · have b0P : bkP n m c (2 * i) := B0.mpr ⟨can, ⟨L1.1, L1.2.1, L1.2.2.1, L1.2.2.2.1, L1.2.2.2.2.1, Or.inr S1⟩⟩
              unfold wX5_cellAt
              refine ⟨by omega, fun _ => ⟨by omega, nxt _ _ (Ch.up (Ch.up Ch.rf (by decide) _ _) (by decide) _ _) (fun x => ?_) (by rw [cs, bkB_t.mpr b0P, bkB_t.mpr b1P]; rfl)⟩⟩
              rw [gu_v, gu_v]
              by_cases g3 : x = (p * 8 * 8 + (i : Int)) * 2 + 0
              · rw [if_pos g3, if_pos ⟨Or.inl (by omega), by rw [show (x - p * 128).toNat = 2 * i by omega]; exact b0P⟩]
              · rw [if_neg g3]
                by_cases g4 : x = (p * 8 * 8 + (i : Int)) * 2 + 1
                · rw [if_pos g4, if_pos ⟨Or.inr (by omega), by rw [show (x - p * 128).toNat = 2 * i + 1 by omega]; exact b1P⟩]
                · rw [if_neg g4, if_neg (fun g5 => by omega)]
          · have nL : ¬ mLg n m w b i 1 := fun g4 => g3 ⟨⟨hm, hw, hb, hi, by omega⟩, g4⟩
            exact none (fun g4 => nL (by
              have := (B0.mp g4).2
              exact ⟨this.1, this.2.1, this.2.2.1, this.2.2.2.1, this.2.2.2.2.1, Or.inl rfl⟩)) (fun g4 => nL (B1.mp g4).2)
  unfold wX5_lay
  rw [c2, b2.1, b2.2.1, w1, w2]
  refine ⟨b4, by omega, by omega, fun _ => ?_⟩
  intro v7 e7
  refine ⟨by omega, by omega, fun _ => ?_⟩
  intro v13 e13
  rw [e7, e13]
  refine ⟨(n * n).toNat + 1, loop _ 0 M (by omega) (fun x => ?_) Ch.rf (by omega)⟩
  rw [if_neg (fun g => by omega)]
end LZ
