section MA
variable {kd : gKd} {ln : gLn} {M : gM} {o q z y n m w b k t : Int}
/-- the key of a cell -/
theorem cell_key (hN : mN n) {x : Nat} (hx : (x : Int) < pn n m (n * n * (n * n)) * 128) : ∃ c u : Nat, (c : Int) < n * n * (n * n) ∧ cq n m c ∧ u < 128 ∧ (x : Int) = pn n m c * 128 + u ∧ (bkP n m c u → ((2 * (c * S2 n + u / 2) + u % 2 : Nat) : Int) < mAl3 n ∧ cP n m (2 * (c * S2 n + u / 2) + u % 2) ∧ cK n m ((2 * (c * S2 n + u / 2) + u % 2 : Nat) : Int) = x) := by
  have hSS : n * n * (n * n) ≤ 4096 ∧ 0 ≤ n * n * (n * n) := by rcases mN_cases hN with rfl | rfl | rfl | rfl | rfl <;> omega
  have es := S2_e hN
  obtain ⟨c, c1, c2, c3⟩ := cN_nth (p := cqb n m) (k := x / 128) (N := (n * n * (n * n)).toNat) (by unfold pn at hx; omega)
  have hq := cqb_t.mp c2
  have hc : (c : Int) < n * n * (n * n) := by omega
  have ep : pn n m c = ((x / 128 : Nat) : Int) := by unfold pn; rw [show ((c : Nat) : Int).toNat = c by omega, c3]
  refine ⟨c, x % 128, hc, hq, by omega, by omega, fun g => ?_⟩
  have hx2 : x % 128 / 2 < S2 n := by have := g.1; omega
  have hc2 : c < S2 n * S2 n := by
    have : ((S2 n * S2 n : Nat) : Int) = n * n * (n * n) := by push_cast; rw [es]
    omega
  have lt : 2 * (c * S2 n + x % 128 / 2) + x % 128 % 2 < 2 * S2 n * S2 n * S2 n := by
    have h1 : (c + 1) * S2 n ≤ S2 n * S2 n * S2 n := Nat.mul_le_mul_right _ hc2
    rw [Nat.add_mul] at h1
    have e : 2 * S2 n * S2 n * S2 n = 2 * (S2 n * S2 n * S2 n) := by rw [Nat.mul_assoc 2, Nat.mul_assoc 2]
    omega
  have e2 : ((2 * S2 n * S2 n * S2 n : Nat) : Int) = mAl3 n := by unfold mAl3; push_cast; rw [es]
  have hK : ((2 * (c * S2 n + x % 128 / 2) + x % 128 % 2 : Nat) : Int) < mAl3 n := by omega
  refine ⟨hK, g.2, ?_⟩
  obtain ⟨k1, k2⟩ := key_pair hN (c := (c : Int)) (k := ((x % 128 / 2 : Nat) : Int)) (t := ((x % 128 % 2 : Nat) : Int)) ⟨by omega, g.1⟩ (by omega)
  have ek : ((2 * (c * S2 n + x % 128 / 2) + x % 128 % 2 : Nat) : Int) = 2 * ((c : Int) * (n * n) + ((x % 128 / 2 : Nat) : Int)) + ((x % 128 % 2 : Nat) : Int) := by
    push_cast
    rw [es]
  unfold cK
  rw [ek, k1, k2, ep]
  omega
/-- what a cell holds -/
theorem tb_cell (hN : mN n) {T : Nat → Int → Int} {val : Nat → Int} (hT : tbV n m T val) {x : Nat} (hx : (x : Int) < pn n m (n * n * (n * n)) * 128) : (T 1 x = -2 ∧ ∀ K : Nat, (K : Int) < mAl3 n → cP n m K → cK n m K ≠ x) ∨ ∃ K : Nat, (K : Int) < mAl3 n ∧ cP n m K ∧ cK n m K = x ∧ T 1 x = val K := by
  obtain ⟨c, u, h1, h2, h3, h4, h5⟩ := cell_key hN hx
  obtain ⟨t1, t2⟩ := hT c h1 h2 u h3
  rw [← h4] at t1 t2
  by_cases g : bkP n m c u
  · obtain ⟨g1, g2, g3⟩ := h5 g
    exact Or.inr ⟨_, g1, g2, g3, t1 g⟩
  · refine Or.inl ⟨t2 g, fun K hK hP e => g ?_⟩
    obtain ⟨p1, p2, p3, p4, p5, p6⟩ := key_pos hN hK hP
    obtain ⟨c', u', q1, q2, q3, q4, q5, q6, q7⟩ := pos_cell (m := m) hN p1 p2 p3 p4 (lg_v p5)
    rw [p6, e] at q4
    have : pn n m c = pn n m c' ∧ u = u' := by omega
    have ec := pn_inj h2 q2 this.1
    rw [ec, this.2]
    exact q7.mpr p5
theorem tb_key (hN : mN n) {T : Nat → Int → Int} {val : Nat → Int} (hT : tbV n m T val) {K : Nat} (hK : (K : Int) < mAl3 n) (hP : cP n m K) : (0 ≤ cK n m K ∧ cK n m K < pn n m (n * n * (n * n)) * 128 ∧ pn n m (n * n * (n * n)) ≤ 4096) ∧ T 1 (cK n m K) = val K := by
  obtain ⟨p1, p2, p3, p4, p5, p6⟩ := key_pos hN hK hP
  have := tb_rd hN hT p1 p2 p3 p4 (lg_v p5)
  rw [p6] at this
  exact ⟨this.1, by rw [this.2.1 p5]; rfl⟩
theorem mDk_0 {K : Nat} : mDk n m K = 0 ↔ mAtD n m 0 (kW n K) (kB n K) (kK n K) (kT K) := by
  unfold mDk
  rcases mDs_c n m (kW n K) (kB n K) (kK n K) (kT K) with ⟨e, q1, q2⟩ | ⟨q1, q2⟩
  · rw [q2]
    constructor
    · intro g
      have : e = 0 := by omega
      rw [← this]; exact q1
    · intro g
      rw [mAtD_uniq q1 g]; rfl
  · rw [q2]
    exact ⟨fun g => by omega, fun g => absurd g (q1 0)⟩
theorem sX3_isMate {post : Int → gM → Prop} {K : Nat} (hN : mN n) (hm : 0 ≤ m ∧ m ≤ 2) (hC : mkC n m kd ln M o q z y) (hK : (K : Int) < mAl3 n) (hP : cP n m K) (ht1 : kT K = 1) (ht : mDk n m K = 0 → post 1 M) (hf : mDk n m K ≠ 0 → post 0 M) : wX3_isMate kd ln post y (cK n m K) M := by
  have hC0 := hC
  obtain ⟨⟨⟨a1, a2, a3, a4⟩, ⟨b1, b2, b3, b4⟩, -, -⟩, -, ⟨f1, f2, f3, f4, f5⟩, -⟩ := hC0
  obtain ⟨d1, d2, d3, d4, d5, d6, d7, d8, d9⟩ := cell_dec hN hK hP
  obtain ⟨p1, p2, p3, p4, p5, p6⟩ := key_pos hN hK hP
  have pl := pn_lt hN d2 d3
  obtain ⟨k1, k2, -⟩ := b2
  obtain ⟨w1, w2⟩ := b3.2.2.2.2 _ d2 d3
  have hSS : n * n * (n * n) ≤ 4096 ∧ 0 ≤ n * n * (n * n) := by rcases mN_cases hN with rfl | rfl | rfl | rfl | rfl <;> omega
  have pmx := pn_r (m := m) hN (c := n * n * (n * n)) (by omega)
  have e3 := mSq hN p3
  unfold wX3_isMate wX5_pairOf wX5_manOf
  dsimp only
  rw [f2, k1, k2, d1, d4, w1, w2, ← d6, ← d7, f1, f4]
  refine ⟨b4, by omega, by omega, by omega, fun _ => ⟨by omega, fun _ v10 e10 => ⟨b4, by omega, by omega, by omega, fun _ => ⟨by omega, fun _ v20 e20 => ⟨by omega, by omega, by omega, fun _ => ⟨a3, fun _ => ?_⟩⟩⟩⟩⟩⟩
  rw [e10, e20]
  have iff := @mDk_0 n m K
  rw [mAtD_0] at iff
  refine sX0_attacks hN a1 a2 hm p1 p2 p3 (fun g1 _ => ⟨fun g2 => absurd g2 (by decide), fun _ => ⟨by rw [f1]; exact a3, fun _ => ?_⟩⟩) (fun g1 _ => ⟨fun _ => hf (fun g2 => g1 (iff.mp g2).2.2.1), fun g2 => absurd rfl g2⟩)
  rw [f1, f4]
  refine sX0_blackTargets hN a1 a2 hm p1 p2 p3 fun c hc => ⟨fun g => hf (fun g2 => ?_), fun g => ht (iff.mpr ⟨ht1, ?_, g1, fun x hx => sq_e hN hc (gcmp_0.mp g) hx⟩)⟩
  · apply g
    rw [gcmp_0]
    apply Classical.byContradiction
    intro g3
    obtain ⟨i, i1, i2, i3, i4, i5, -⟩ := sq_low hc g3
    exact (iff.mp g2).2.2.2 i i4 i5
  · rw [← ht1]; exact p5
theorem mDk_par {K : Nat} {d : Nat} (h : mDk n m K = d) : (kT K = 1 ∧ d % 2 = 0) ∨ (kT K = 0 ∧ d % 2 = 1) := by
  unfold mDk at h
  rcases mDs_c n m (kW n K) (kB n K) (kK n K) (kT K) with ⟨e, q1, q2⟩ | ⟨q1, q2⟩
  · have := mAtD_par q1
    have : e = d := by omega
    omega
  · omega
theorem sX3_findMates {post : gM → Prop} (hN : mN n) (hm : 0 ≤ m ∧ m ≤ 2) (hC : mkC n m kd ln M o q z y) (hS : mkS n m M y z []) (h : ∀ M' L, mkS n m M' y z L → mkX y z M M' → (∀ K ∈ L, mDk n m K = 0) → (∀ K : Nat, (K : Int) < mAl3 n → cP n m K → mDk n m K = 0 → K ∈ L) → post M') : wX3_findMates kd ln post y M := by
  have hSS : n * n * (n * n) ≤ 4096 ∧ 0 ≤ n * n * (n * n) := by rcases mN_cases hN with rfl | rfl | rfl | rfl | rfl <;> omega
  have pmx := pn_r (m := m) hN (c := n * n * (n * n)) (by omega)
  have loop : ∀ (j i : Nat) (M' : gM) (L : List Nat), (i : Int) ≤ pn n m (n * n * (n * n)) * 64 → mkS n m M' y z L → mkX y z M M' → (∀ K ∈ L, mDk n m K = 0) → (∀ K : Nat, (K : Int) < mAl3 n → cP n m K → mDk n m K = 0 → cK n m K < 2 * i + 1 → K ∈ L) → pn n m (n * n * (n * n)) * 64 - i < j → wX3_findMates_2 kd ln post y j (2 * (i : Int) + 1) M' := by
    intro j
    induction j with
    | zero => intro i M' L h1 h2 h3 h4 h5 h6; omega
    | succ j ih =>
      intro i M' L h1 h2 h3 h4 h5 h6
      have hC' := hC.ch h3
      have hC0 := hC'
      obtain ⟨⟨-, -, ⟨c1, c2, c3, c4⟩, -⟩, ⟨e1, e2⟩, ⟨f1, f2, f3, f4, f5⟩, -⟩ := hC0
      unfold wX3_findMates_2
      rw [f3, c4]
      refine ⟨e2, e1, by omega, fun _ => ⟨by omega, fun g => h M' L h2 h3 h4 (fun K hK hP h0 => h5 K hK hP h0 ?_), fun g => ⟨by omega, fun _ => ?_⟩⟩⟩
      · have := (tb_key hN h2.2.2.1 hK hP).1
        omega
      have nxt : ∀ (M'' : gM) (L' : List Nat), mkS n m M'' y z L' → mkX y z M' M'' → (∀ K ∈ L', mDk n m K = 0) → (∀ K ∈ L, K ∈ L') → (∀ K : Nat, (K : Int) < mAl3 n → cP n m K → mDk n m K = 0 → cK n m K = 2 * i + 1 → K ∈ L') → wX3_findMates_35 kd ln post y (wX3_findMates_2 kd ln post y j) (2 * (i : Int) + 1) M'' := fun M'' L' s1 s2 s3 s4 s5 => by
        unfold wX3_findMates_35
        have := ih (i + 1) M'' L' (by omega) s1 (h3.tr s2) s3 (fun K hK hP h0 hlt => ?_) (by omega)
        · rw [show 2 * (i : Int) + 1 + 2 = 2 * ((i + 1 : Nat) : Int) + 1 by omega]
          exact this
        · rcases (show cK n m K < 2 * i + 1 ∨ cK n m K = 2 * i + 1 ∨ cK n m K = 2 * i + 2 by omega) with g2 | g2 | g2
          · exact s4 K (h5 K hK hP h0 g2)
          · exact s5 K hK hP h0 g2
          · exfalso
            have d5 := (cell_dec hN hK hP).2.2.2.2.1
            have := mDk_par (d := 0) h0
            omega
      rcases tb_cell hN h2.2.2.1 (x := 2 * i + 1) (by omega) with ⟨t1, t2⟩ | ⟨K, t1, t2, t3, t4⟩
      · rw [show ((2 * i + 1 : Nat) : Int) = 2 * (i : Int) + 1 by omega] at t1 t2
        rw [t1]
        exact ⟨fun _ => nxt M' L h2 mkX.rf h4 (fun _ g2 => g2) (fun K hK hP _ e => absurd e (t2 K hK hP)), fun g2 => absurd g2 (by decide)⟩
      · rw [show ((2 * i + 1 : Nat) : Int) = 2 * (i : Int) + 1 by omega] at t3 t4
        have inj : ∀ K' : Nat, (K' : Int) < mAl3 n → cP n m K' → cK n m K' = 2 * i + 1 → K' = K := fun K' hK' hP' e => by
          have q1 := cell_dec hN hK' hP'
          have q2 := cell_dec hN t1 t2
          have q3 := key_pos hN hK' hP'
          have q4 := key_pos hN t1 t2
          have ec : K' / 2 / S2 n = K / 2 / S2 n := pn_inj q1.2.2.1 q2.2.2.1 (by rw [← q1.1, ← q2.1, e, t3])
          have e1 : kW n K' = kW n K := by rw [q1.2.2.2.2.2.1, q2.2.2.2.2.2.1, ec]
          have e2 : kB n K' = kB n K := by rw [q1.2.2.2.2.2.2.1, q2.2.2.2.2.2.2.1, ec]
          have e3 : kK n K' = kK n K := by rw [← q1.2.2.2.1, ← q2.2.2.2.1, e, t3]
          have e4 : kT K' = kT K := by rw [← q1.2.2.2.2.1, ← q2.2.2.2.2.1, e, t3]
          have a := q3.2.2.2.2.2
          rw [e1, e2, e3, e4, q4.2.2.2.2.2] at a
          omega
        rw [t4]
        by_cases gL : K ∈ L
        · rw [if_pos gL]
          have := (h2.1 K gL).2.2
          exact ⟨fun _ => nxt M' L h2 mkX.rf h4 (fun _ g2 => g2) (fun K' hK hP _ e => by rw [inj K' hK hP e]; exact gL), fun g2 => by omega⟩
        · rw [if_neg gL]
          refine ⟨fun g2 => absurd rfl g2, fun _ => ?_⟩
          have kt : kT K = 1 := by
            have := (cell_dec hN t1 t2).2.2.2.2.1
            omega
          rw [← t3]
          refine sX3_isMate hN hm hC' t1 t2 kt (fun g2 _ => ⟨fun g3 => absurd g3 (by decide), fun _ => ?_⟩) (fun g2 _ => ⟨fun _ => ?_, fun g3 => absurd rfl g3⟩)
          · obtain ⟨p1, p2, p3, p4, p5, p6⟩ := key_pos hN t1 t2
            have st := sX3_settle (post := fun M17 => wX3_findMates_35 kd ln post y (wX3_findMates_2 kd ln post y j) (cK n m K) M17) (far := 0) hN hC' h2 p1 p2 p3 p4 (lg_v p5) (by omega) (fun _ _ => g2) (fun M'' R s1 s2 s3 s4 => ?_)
            · rw [p6] at st
              exact st
            · have s4 := s4 p5
              unfold inL at s4
              rw [p6, Int.toNat_natCast] at s4
              rw [t3]
              refine nxt M'' (L ++ R) s1 s2 (kb_R h4 s3) (fun K' g3 => List.mem_append.mpr (Or.inl g3)) (fun K' hK hP _ e => ?_)
              rw [inj K' hK hP e]
              exact s4
          · rw [t3]
            exact nxt M' L h2 mkX.rf h4 (fun _ g3 => g3) (fun K' hK hP h0 e => by
              rw [inj K' hK hP e] at h0
              exact absurd h0 g2)
  unfold wX3_findMates
  refine ⟨(pn n m (n * n * (n * n)) * 64).toNat + 1, ?_⟩
  have := loop ((pn n m (n * n * (n * n)) * 64).toNat + 1) 0 M [] (by omega) hS mkX.rf (fun K hK => absurd hK (List.not_mem_nil)) (fun K hK hP h0 hlt => ?_) (by omega)
  · exact this
  · exfalso
    have d5 := (cell_dec hN hK hP)
    have := mDk_par (d := 0) h0
    have := d5.2.2.2.2.1
    have := d5.2.2.2.2.2.2.2.1
    omega
end MA
