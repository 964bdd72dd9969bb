/-! CELLS AND KEYS -/
section CE
variable {n m w b k t : Int}
theorem pn_lt (hN : mN n) {c : Nat} (hc : (c : Int) < n * n * (n * n)) (hq : cq n m c) : 0 ≤ pn n m c ∧ pn n m c < pn n m (n * n * (n * n)) ∧ pn n m (n * n * (n * n)) ≤ 4096 := by
  have pr := pn_r (m := m) hN (c := (c : Int)) (by omega)
  have pr2 := pn_r (m := m) hN (c := n * n * (n * n)) (by omega)
  have := cN_t (cqb_t.mpr hq)
  have := cN_mono (p := cqb n m) (show c + 1 ≤ (n * n * (n * n)).toNat by omega)
  refine ⟨pr.1, ?_, pr2.2.2⟩
  unfold pn
  rw [show ((c : Nat) : Int).toNat = c by omega]
  omega
theorem pn_inj {c c' : Nat} (hq : cq n m c) (hq' : cq n m c') (e : pn n m c = pn n m c') : c = c' := by
  have a := cN_t (cqb_t.mpr hq)
  have b := cN_t (cqb_t.mpr hq')
  unfold pn at e
  rw [show ((c : Nat) : Int).toNat = c by omega, show ((c' : Nat) : Int).toNat = c' by omega] at e
  rcases Nat.lt_trichotomy c c' with g3 | g3 | g3
  · have := cN_mono (p := cqb n m) (show c + 1 ≤ c' by omega); omega
  · exact g3
  · have := cN_mono (p := cqb n m) (show c' + 1 ≤ c by omega); omega
/-- the cell of a position -/
theorem pos_cell (hN : mN n) (hw : mOn n w) (hb : mOn n b) (hk : mOn n k) (ht : 0 ≤ t ∧ t ≤ 1) (hv : vP n w b) : ∃ (c x : Nat), (c : Int) < n * n * (n * n) ∧ cq n m c ∧ x < 128 ∧ cK n m (mLst n m w b k t) = pn n m c * 128 + x ∧ mLst n m w b k t = ((2 * (c * S2 n + x / 2) + x % 2 : Nat) : Int) ∧ x / 2 < S2 n ∧ (bkP n m c x ↔ mLg n m w b k t) := by
  obtain ⟨g, g1, g2, g3, g4⟩ := lst_pair (m := m) (t := t) hN hw hb hk ht
  have ig := im_on (g := g) hN hk
  have fg := mSq hN ig
  have r := pL_r (m := m) hN hw hb
  have es := S2_e hN
  obtain ⟨p1, p2⟩ := key_pair hN (c := pL n m w b) ig ht
  obtain ⟨i, ei⟩ := Int.eq_ofNat_of_zero_le ig.1
  obtain ⟨u, eu⟩ := Int.eq_ofNat_of_zero_le ht.1
  have ei : mIm n g k = (i : Int) := ei
  have eu : t = (u : Int) := eu
  have hi := ig.2
  have ec : (((pL n m w b).toNat : Nat) : Int) = pL n m w b := by omega
  have x2 : (2 * i + u) / 2 = i := by omega
  have x3 : (2 * i + u) % 2 = u := by omega
  have key : mLst n m w b k t = ((2 * ((pL n m w b).toNat * S2 n + (2 * i + u) / 2) + (2 * i + u) % 2 : Nat) : Int) := by
    rw [g3, x2, x3]
    push_cast
    rw [es, ← ei, ← eu, ec]
  refine ⟨(pL n m w b).toNat, 2 * i + u, by omega, pL_cq hN hw hb hv, by omega, ?_, key, by omega, ?_⟩
  · unfold cK
    rw [g3, p1, p2, ec]
    omega
  · obtain ⟨h, hh, eh⟩ := lst_ex (m := m) (t := t) hN hw hb hk
    have iw := im_on (g := h) hN hw
    have ib := im_on (g := h) hN hb
    have ik := im_on (g := h) hN hk
    obtain ⟨d1, d2, d3, d4⟩ := k_enc hN iw ib ik ht
    rw [← eh] at d1 d2 d3 d4
    unfold bkP cP
    rw [show (n * n).toNat = S2 n from rfl, ← key, d1, d2, d3, d4, lst_im hN hw hb hk hh, im_lg hN hh hw hb hk]
    constructor
    · exact fun q => q.2.1
    · exact fun q => ⟨by omega, q, rfl⟩
theorem lg_v (h : mLg n m w b k t) : vP n w b := ⟨h.1, h.2.2.2.1⟩
theorem tb_rd (hN : mN n) {T : Nat → Int → Int} {val : Nat → Int} (hT : tbV n m T val) (hw : mOn n w) (hb : mOn n b) (hk : mOn n k) (ht : 0 ≤ t ∧ t ≤ 1) (hv : vP n w b) : (0 ≤ cK n m (mLst n m w b k t) ∧ cK n m (mLst n m w b k t) < pn n m (n * n * (n * n)) * 128 ∧ pn n m (n * n * (n * n)) ≤ 4096) ∧ (mLg n m w b k t → T 1 (cK n m (mLst n m w b k t)) = val (mLst n m w b k t).toNat) ∧ (¬ mLg n m w b k t → T 1 (cK n m (mLst n m w b k t)) = -2) := by
  obtain ⟨c, x, h1, h2, h3, h4, h5, h6, h7⟩ := pos_cell (m := m) hN hw hb hk ht hv
  have pl := pn_lt hN h1 h2
  have tv := hT c h1 h2 x h3
  refine ⟨by omega, fun q => ?_, fun q => ?_⟩
  · rw [h4, tv.1 (h7.mpr q), h5]
    congr 1
  · rw [h4, tv.2 (fun g => q (h7.mp g))]
theorem tb_up (hN : mN n) {T T' : Nat → Int → Int} {val : Nat → Int} {v : Int} (hT : tbV n m T val) (hw : mOn n w) (hb : mOn n b) (hk : mOn n k) (ht : 0 ≤ t ∧ t ≤ 1) (hL : mLg n m w b k t) (h : ∀ i, T' 1 i = if i = cK n m (mLst n m w b k t) then v else T 1 i) : tbV n m T' (fun K => if K = (mLst n m w b k t).toNat then v else val K) := by
  obtain ⟨c, x, h1, h2, h3, h4, h5, h6, h7⟩ := pos_cell (m := m) hN hw hb hk ht (lg_v hL)
  have hS := mSS hN
  have es := S2_e hN
  intro c' hc' hq' x' hx'
  rw [h, h4]
  have eqv : pn n m c' * 128 + (x' : Int) = pn n m c * 128 + x ↔ (c' = c ∧ x' = x) := by
    constructor
    · intro e
      have : pn n m c' = pn n m c ∧ x' = x := by omega
      exact ⟨pn_inj hq' h2 this.1, this.2⟩
    · rintro ⟨rfl, rfl⟩; rfl
  obtain ⟨t1, t2⟩ := hT c' hc' hq' x' hx'
  refine ⟨fun q => ?_, fun q => ?_⟩
  · have kk : (2 * (c' * S2 n + x' / 2) + x' % 2 = (mLst n m w b k t).toNat) ↔ (c' = c ∧ x' = x) := by
      have q1 : x' / 2 < S2 n := by have := q.1; omega
      rw [h5, Int.toNat_natCast]
      constructor
      · intro e
        have e2 : c' * S2 n + x' / 2 = c * S2 n + x / 2 := by omega
        have e3 : x' % 2 = x % 2 := by omega
        have e4 : c' = c := by
          have a1 : (c' * S2 n + x' / 2) / S2 n = c' := by
            rw [Nat.mul_comm, Nat.mul_add_div (by omega), Nat.div_eq_of_lt q1]; omega
          have a2 : (c * S2 n + x / 2) / S2 n = c := by
            rw [Nat.mul_comm, Nat.mul_add_div (by omega), Nat.div_eq_of_lt h6]; omega
          rw [← a1, e2, a2]
        subst e4
        exact ⟨rfl, by omega⟩
      · rintro ⟨rfl, rfl⟩; rfl
    dsimp only
    by_cases g : c' = c ∧ x' = x
    · rw [if_pos (eqv.mpr g), if_pos (kk.mpr g)]
    · rw [if_neg (fun e => g (eqv.mp e)), if_neg (fun e => g (kk.mp e))]
      exact t1 q
  · rw [if_neg (fun e => ?_)]
    · exact t2 q
    · obtain ⟨e1, e2⟩ := eqv.mp e
      subst e1 e2
      exact q (h7.mpr hL)
theorem tbV_cong {T : Nat → Int → Int} {val val' : Nat → Int} (hN : mN n) (hT : tbV n m T val) (h : ∀ K : Nat, (K : Int) < mAl3 n → cP n m K → val K = val' K) : tbV n m T val' := by
  intro c hc hq x hx
  have es := S2_e hN
  refine ⟨fun q => ?_, (hT c hc hq x hx).2⟩
  rw [(hT c hc hq x hx).1 q]
  refine h _ ?_ q.2
  have hx2 : x / 2 < S2 n := by have := q.1; omega
  have hc2 : c < S2 n * S2 n := by
    have : ((S2 n * S2 n : Nat) : Int) = n * n * (n * n) := by push_cast; rw [es]
    omega
  have : 2 * (c * S2 n + x / 2) + x % 2 < 2 * S2 n * S2 n * S2 n := by
    have h1 : (c + 1) * S2 n ≤ S2 n * S2 n * S2 n := Nat.mul_le_mul_right _ hc2
    rw [Nat.add_mul] at h1
    have e : 2 * S2 n * S2 n * S2 n = 2 * (S2 n * S2 n * S2 n) := by rw [Nat.mul_assoc 2, Nat.mul_assoc 2]
    omega
  unfold mAl3
  have e2 : ((2 * S2 n * S2 n * S2 n : Nat) : Int) = 2 * (n * n) * (n * n) * (n * n) := by push_cast; rw [es]
  omega
/-- a canonical key is a position -/
theorem key_pos (hN : mN n) {K : Nat} (hK : (K : Int) < mAl3 n) (h : cP n m K) : mOn n (kW n K) ∧ mOn n (kB n K) ∧ mOn n (kK n K) ∧ (0 ≤ kT K ∧ kT K ≤ 1) ∧ mLg n m (kW n K) (kB n K) (kK n K) (kT K) ∧ mLst n m (kW n K) (kB n K) (kK n K) (kT K) = K := by
  obtain ⟨d1, d2, d3, d4, d5⟩ := k_dec hN (K := (K : Int)) ⟨by omega, hK⟩
  exact ⟨d1, d2, d3, d4, h.1, h.2⟩
/-- what a cell says of its position -/
theorem cell_dec (hN : mN n) {K : Nat} (hK : (K : Int) < mAl3 n) (h : cP n m K) : cK n m K / 128 = pn n m ((K / 2 / S2 n : Nat) : Int) ∧ ((K / 2 / S2 n : Nat) : Int) < n * n * (n * n) ∧ cq n m (K / 2 / S2 n) ∧ cK n m K % 128 / 2 = kK n K ∧ cK n m K % 2 = kT K ∧ kW n K = ((K / 2 / S2 n : Nat) : Int) / (n * n) ∧ kB n K = ((K / 2 / S2 n : Nat) : Int) % (n * n) ∧ 0 ≤ cK n m K ∧ cK n m K < 4096 * 128 := by
  have q := cP_cq hN hK h
  obtain ⟨d1, d2, d3, d4, d5⟩ := k_dec hN (K := (K : Int)) ⟨by omega, hK⟩
  have es := S2_e hN
  have e2 : ((K / 2 / S2 n : Nat) : Int) = (K : Int) / 2 / (n * n) := by rw [← es]; rfl
  have f := mSq hN d3
  have hc : (K : Int) / 2 / (n * n) < n * n * (n * n) := by
    unfold mAl3 at hK
    rcases mN_cases hN with rfl | rfl | rfl | rfl | rfl <;> omega
  have pl := pn_lt hN (c := K / 2 / S2 n) (by omega) q
  have e3 : cK n m K = (pn n m ((K / 2 / S2 n : Nat) : Int) * 64 + kK n K) * 2 + kT K := by rw [e2]; rfl
  refine ⟨by omega, by omega, q, by omega, by omega, by rw [e2]; rfl, by rw [e2]; rfl, by omega, by omega⟩
end CE
/-- so many different keys there are at most -/
theorem nodup_len {p : Nat → Bool} : ∀ {N : Nat} {L : List Nat}, L.Nodup → (∀ K ∈ L, K < N ∧ p K = true) → L.length ≤ cN p N := by
  intro N
  induction N with
  | zero =>
    intro L _ h
    cases L with
    | nil => exact Nat.le_refl _
    | cons a l => exact absurd (h a (List.mem_cons_self ..)).1 (Nat.not_lt_zero _)
  | succ N ih =>
    intro L hd h
    by_cases g : N ∈ L
    · have h1 := ih (hd.erase N) (fun K hK => by
        have h2 := (hd.mem_erase_iff).mp hK
        have h3 := h K h2.2
        exact ⟨by have := h2.1; omega, h3.2⟩)
      rw [List.length_erase_of_mem g] at h1
      rw [cN_t (h N g).2]
      omega
    · have h1 := ih hd (fun K hK => by
        have h3 := h K hK
        refine ⟨?_, h3.2⟩
        have : K ≠ N := fun e => g (e ▸ hK)
        omega)
      have h2 : cN p N ≤ cN p (N + 1) := cN_mono (Nat.le_succ N)
      omega
theorem nodup_lt {p : Nat → Bool} {N : Nat} {L : List Nat} (hd : L.Nodup) (h : ∀ K ∈ L, K < N ∧ p K = true) {K : Nat} (hK : K < N ∧ p K = true) (hn : K ∉ L) : L.length < cN p N := by
  have := nodup_len (p := p) (N := N) (L := K :: L) (List.nodup_cons.mpr ⟨hn, hd⟩) (fun x hx => by
    rcases List.mem_cons.mp hx with rfl | q
    · exact hK
    · exact h x q)
  simp only [List.length_cons] at this
  omega
